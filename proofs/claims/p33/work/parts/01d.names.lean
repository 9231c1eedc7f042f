theorem dX4_init_0 : decode cX4_init 0 = .ok (.aload_n 0, 1) := by decide +kernel
theorem dX4_init_1 : decode cX4_init 1 = .ok (.invokespecial 1, 3) := by decide +kernel
theorem dX4_init_4 : decode cX4_init 4 = .ok (.aload_n 0, 1) := by decide +kernel
theorem dX4_init_5 : decode cX4_init 5 = .ok (.new 7, 3) := by decide +kernel
theorem dX4_init_8 : decode cX4_init 8 = .ok (.dup, 1) := by decide +kernel
theorem dX4_init_9 : decode cX4_init 9 = .ok (.invokespecial 9, 3) := by decide +kernel
theorem dX4_init_12 : decode cX4_init 12 = .ok (.putfield 10, 3) := by decide +kernel
theorem dX4_init_15 : decode cX4_init 15 = .ok (.aload_n 0, 1) := by decide +kernel
theorem dX4_init_16 : decode cX4_init 16 = .ok (.new 16, 3) := by decide +kernel
theorem dX4_init_19 : decode cX4_init 19 = .ok (.dup, 1) := by decide +kernel
theorem dX4_init_20 : decode cX4_init 20 = .ok (.invokespecial 18, 3) := by decide +kernel
theorem dX4_init_23 : decode cX4_init 23 = .ok (.putfield 19, 3) := by decide +kernel
theorem dX4_init_26 : decode cX4_init 26 = .ok (.aload_n 0, 1) := by decide +kernel
theorem dX4_init_27 : decode cX4_init 27 = .ok (.new 23, 3) := by decide +kernel
theorem dX4_init_30 : decode cX4_init 30 = .ok (.dup, 1) := by decide +kernel
theorem dX4_init_31 : decode cX4_init 31 = .ok (.invokespecial 25, 3) := by decide +kernel
theorem dX4_init_34 : decode cX4_init 34 = .ok (.putfield 26, 3) := by decide +kernel
theorem dX4_init_37 : decode cX4_init 37 = .ok (.aload_n 0, 1) := by decide +kernel
theorem dX4_init_38 : decode cX4_init 38 = .ok (.new 30, 3) := by decide +kernel
theorem dX4_init_41 : decode cX4_init 41 = .ok (.dup, 1) := by decide +kernel
theorem dX4_init_42 : decode cX4_init 42 = .ok (.invokespecial 32, 3) := by decide +kernel
theorem dX4_init_45 : decode cX4_init 45 = .ok (.putfield 33, 3) := by decide +kernel
theorem dX4_init_48 : decode cX4_init 48 = .ok (.return_, 1) := by decide +kernel
set_option maxRecDepth 20000 in
theorem ggX4_type_X2_append : GoodIn wsX4_type wsX2_append := goodIn_r _ [6, 7, 8, 9, 10, 11, 16, 17] (by decide +kernel) (by decide +kernel)
set_option maxRecDepth 20000 in
theorem gX4_type_X2_append : GoodIn wsX4_type (wsV RX4 37 RX2 yX2_append wsX2_append) := goodIn_app (goodIn_of _ (by decide +kernel)) ggX4_type_X2_append
theorem dX4_type_0 : decode cX4_type 0 = .ok (.aload_n 0, 1) := by decide +kernel
theorem dX4_type_1 : decode cX4_type 1 = .ok (.getfield 33, 3) := by decide +kernel
theorem dX4_type_4 : decode cX4_type 4 = .ok (.iload_n 1, 1) := by decide +kernel
theorem dX4_type_5 : decode cX4_type 5 = .ok (.invokevirtual 37, 3) := by decide +kernel
theorem dX4_type_8 : decode cX4_type 8 = .ok (.ireturn, 1) := by decide +kernel
set_option maxRecDepth 20000 in
theorem ggX4_clearText_X2_empty : GoodIn wsX4_clearText wsX2_empty := goodIn_r _ [6, 7, 12, 13] (by decide +kernel) (by decide +kernel)
set_option maxRecDepth 20000 in
theorem gX4_clearText_X2_empty : GoodIn wsX4_clearText (wsV RX4 41 RX2 yX2_empty wsX2_empty) := goodIn_app (goodIn_of _ (by decide +kernel)) ggX4_clearText_X2_empty
theorem dX4_clearText_0 : decode cX4_clearText 0 = .ok (.aload_n 0, 1) := by decide +kernel
theorem dX4_clearText_1 : decode cX4_clearText 1 = .ok (.getfield 33, 3) := by decide +kernel
theorem dX4_clearText_4 : decode cX4_clearText 4 = .ok (.invokevirtual 41, 3) := by decide +kernel
theorem dX4_clearText_7 : decode cX4_clearText 7 = .ok (.ireturn, 1) := by decide +kernel
set_option maxRecDepth 20000 in
theorem ggX4_read_X2_findFault : GoodIn wsX4_read wsX2_findFault := goodIn_r _ [8, 9, 10, 11, 12, 13, 7, 14, 15, 16, 17, 18, 19, 20, 21, 22, 23, 81, 82] (by decide +kernel) (by decide +kernel)
set_option maxRecDepth 20000 in
theorem gX4_read_X2_findFault : GoodIn wsX4_read (wsV RX4 45 RX2 yX2_findFault wsX2_findFault) := goodIn_app (goodIn_of _ (by decide +kernel)) ggX4_read_X2_findFault
set_option maxRecDepth 20000 in
theorem ggX4_read_X1_record : GoodIn wsX4_read wsX1_record := goodIn_r _ [28, 29, 30, 31, 32, 33, 34, 35, 36, 37, 38, 39, 40, 41, 42, 43, 44, 16, 45, 46, 47, 48, 49, 50, 51, 52, 53, 54, 15, 17, 55, 56, 57, 58, 59, 83, 84, 85, 86, 87, 88, 89, 90, 91, 92] (by decide +kernel) (by decide +kernel)
set_option maxRecDepth 20000 in
theorem gX4_read_X1_record : GoodIn wsX4_read (wsV RX4 48 RX1 yX1_record wsX1_record) := goodIn_app (goodIn_of _ (by decide +kernel)) ggX4_read_X1_record
set_option maxRecDepth 20000 in
theorem ggX4_read_X2_makeTree : GoodIn wsX4_read wsX2_makeTree := goodIn_r _ [63, 9, 10, 64, 65, 66, 41, 67, 43, 15, 16, 17, 18, 19, 68, 69, 70, 71, 72, 73, 74, 75, 50, 59, 44, 45, 20, 21, 22, 7, 23, 81, 82, 88, 89, 90, 91, 92] (by decide +kernel) (by decide +kernel)
set_option maxRecDepth 20000 in
theorem gX4_read_X2_makeTree : GoodIn wsX4_read (wsV RX4 52 RX2 yX2_makeTree wsX2_makeTree) := goodIn_app (goodIn_of _ (by decide +kernel)) ggX4_read_X2_makeTree
set_option maxRecDepth 20000 in
theorem ggX4_read_X3_count : GoodIn wsX4_read wsX3_count := goodIn_r _ [42, 43, 88, 89, 90, 91, 92] (by decide +kernel) (by decide +kernel)
set_option maxRecDepth 20000 in
theorem gX4_read_X3_count : GoodIn wsX4_read (wsV RX4 55 RX3 yX3_count wsX3_count) := goodIn_app (goodIn_of _ (by decide +kernel)) ggX4_read_X3_count
theorem dX4_read_0 : decode cX4_read 0 = .ok (.aload_n 0, 1) := by decide +kernel
theorem dX4_read_1 : decode cX4_read 1 = .ok (.getfield 33, 3) := by decide +kernel
theorem dX4_read_4 : decode cX4_read 4 = .ok (.invokevirtual 45, 3) := by decide +kernel
theorem dX4_read_7 : decode cX4_read 7 = .ok (.istore_n 1, 1) := by decide +kernel
theorem dX4_read_8 : decode cX4_read 8 = .ok (.iload_n 1, 1) := by decide +kernel
theorem dX4_read_9 : decode cX4_read 9 = .ok (.iconst (-1), 1) := by decide +kernel
theorem dX4_read_10 : decode cX4_read 10 = .ok (.if_icmp .eq 8, 3) := by decide +kernel
theorem dX4_read_13 : decode cX4_read 13 = .ok (.bipush (-100), 2) := by decide +kernel
theorem dX4_read_15 : decode cX4_read 15 = .ok (.iload_n 1, 1) := by decide +kernel
theorem dX4_read_16 : decode cX4_read 16 = .ok (.isub, 1) := by decide +kernel
theorem dX4_read_17 : decode cX4_read 17 = .ok (.ireturn, 1) := by decide +kernel
theorem dX4_read_18 : decode cX4_read 18 = .ok (.aload_n 0, 1) := by decide +kernel
theorem dX4_read_19 : decode cX4_read 19 = .ok (.getfield 26, 3) := by decide +kernel
theorem dX4_read_22 : decode cX4_read 22 = .ok (.aload_n 0, 1) := by decide +kernel
theorem dX4_read_23 : decode cX4_read 23 = .ok (.getfield 10, 3) := by decide +kernel
theorem dX4_read_26 : decode cX4_read 26 = .ok (.invokevirtual 48, 3) := by decide +kernel
theorem dX4_read_29 : decode cX4_read 29 = .ok (.aload_n 0, 1) := by decide +kernel
theorem dX4_read_30 : decode cX4_read 30 = .ok (.getfield 33, 3) := by decide +kernel
theorem dX4_read_33 : decode cX4_read 33 = .ok (.aload_n 0, 1) := by decide +kernel
theorem dX4_read_34 : decode cX4_read 34 = .ok (.getfield 10, 3) := by decide +kernel
theorem dX4_read_37 : decode cX4_read 37 = .ok (.invokevirtual 52, 3) := by decide +kernel
theorem dX4_read_40 : decode cX4_read 40 = .ok (.aload_n 0, 1) := by decide +kernel
theorem dX4_read_41 : decode cX4_read 41 = .ok (.getfield 10, 3) := by decide +kernel
theorem dX4_read_44 : decode cX4_read 44 = .ok (.invokevirtual 55, 3) := by decide +kernel
theorem dX4_read_47 : decode cX4_read 47 = .ok (.ireturn, 1) := by decide +kernel
set_option maxRecDepth 20000 in
theorem ggX4_written_X3_writtenLength : GoodIn wsX4_written wsX3_writtenLength := goodIn_r _ [6, 7, 8, 9, 10, 5, 11, 12, 13, 14, 15, 16, 17, 18, 19, 20, 21, 22, 23, 24, 25, 26, 27, 41, 42, 43, 44, 45] (by decide +kernel) (by decide +kernel)
set_option maxRecDepth 20000 in
theorem gX4_written_X3_writtenLength : GoodIn wsX4_written (wsV RX4 58 RX3 yX3_writtenLength wsX3_writtenLength) := goodIn_app (goodIn_of _ (by decide +kernel)) ggX4_written_X3_writtenLength
set_option maxRecDepth 20000 in
theorem ggX4_written_X3_writtenAt : GoodIn wsX4_written wsX3_writtenAt := goodIn_r _ [31, 7, 8, 9, 10, 5, 11, 12, 13, 14, 15, 16, 17, 18, 19, 20, 21, 22, 23, 24, 25, 26, 27, 32, 33, 34, 35, 36, 41, 42, 43, 44, 45] (by decide +kernel) (by decide +kernel)
set_option maxRecDepth 20000 in
theorem gX4_written_X3_writtenAt : GoodIn wsX4_written (wsV RX4 61 RX3 yX3_writtenAt wsX3_writtenAt) := goodIn_app (goodIn_of _ (by decide +kernel)) ggX4_written_X3_writtenAt
theorem dX4_written_0 : decode cX4_written 0 = .ok (.iload_n 1, 1) := by decide +kernel
theorem dX4_written_1 : decode cX4_written 1 = .ok (.iconst (-1), 1) := by decide +kernel
theorem dX4_written_2 : decode cX4_written 2 = .ok (.if_icmp .ge 6, 3) := by decide +kernel
theorem dX4_written_5 : decode cX4_written 5 = .ok (.bipush (-2), 2) := by decide +kernel
theorem dX4_written_7 : decode cX4_written 7 = .ok (.ireturn, 1) := by decide +kernel
theorem dX4_written_8 : decode cX4_written 8 = .ok (.iload_n 1, 1) := by decide +kernel
theorem dX4_written_9 : decode cX4_written 9 = .ok (.iconst (-1), 1) := by decide +kernel
theorem dX4_written_10 : decode cX4_written 10 = .ok (.if_icmp .ne 13, 3) := by decide +kernel
theorem dX4_written_13 : decode cX4_written 13 = .ok (.aload_n 0, 1) := by decide +kernel
theorem dX4_written_14 : decode cX4_written 14 = .ok (.getfield 10, 3) := by decide +kernel
theorem dX4_written_17 : decode cX4_written 17 = .ok (.invokevirtual 58, 3) := by decide +kernel
theorem dX4_written_20 : decode cX4_written 20 = .ok (.goto 11, 3) := by decide +kernel
theorem dX4_written_23 : decode cX4_written 23 = .ok (.aload_n 0, 1) := by decide +kernel
theorem dX4_written_24 : decode cX4_written 24 = .ok (.getfield 10, 3) := by decide +kernel
theorem dX4_written_27 : decode cX4_written 27 = .ok (.iload_n 1, 1) := by decide +kernel
theorem dX4_written_28 : decode cX4_written 28 = .ok (.invokevirtual 61, 3) := by decide +kernel
theorem dX4_written_31 : decode cX4_written 31 = .ok (.ireturn, 1) := by decide +kernel
set_option maxRecDepth 20000 in
theorem ggX4_size_X3_count : GoodIn wsX4_size wsX3_count := goodIn_r _ [6, 7, 12, 13, 14, 15, 16] (by decide +kernel) (by decide +kernel)
set_option maxRecDepth 20000 in
theorem gX4_size_X3_count : GoodIn wsX4_size (wsV RX4 55 RX3 yX3_count wsX3_count) := goodIn_app (goodIn_of _ (by decide +kernel)) ggX4_size_X3_count
theorem dX4_size_0 : decode cX4_size 0 = .ok (.aload_n 0, 1) := by decide +kernel
theorem dX4_size_1 : decode cX4_size 1 = .ok (.getfield 10, 3) := by decide +kernel
theorem dX4_size_4 : decode cX4_size 4 = .ok (.invokevirtual 55, 3) := by decide +kernel
theorem dX4_size_7 : decode cX4_size 7 = .ok (.ireturn, 1) := by decide +kernel
set_option maxRecDepth 20000 in
theorem ggX4_node_X3_has : GoodIn wsX4_node wsX3_has := goodIn_r _ [6, 7, 77, 78, 79, 80, 81] (by decide +kernel) (by decide +kernel)
set_option maxRecDepth 20000 in
theorem gX4_node_X3_has : GoodIn wsX4_node (wsV RX4 65 RX3 yX3_has wsX3_has) := goodIn_app (goodIn_of _ (by decide +kernel)) ggX4_node_X3_has
set_option maxRecDepth 20000 in
theorem ggX4_node_X3_depthOf : GoodIn wsX4_node wsX3_depthOf := goodIn_r _ [11, 12, 13, 3, 4, 5, 6, 7, 14, 15, 16, 77, 78, 79, 80, 81] (by decide +kernel) (by decide +kernel)
set_option maxRecDepth 20000 in
theorem gX4_node_X3_depthOf : GoodIn wsX4_node (wsV RX4 69 RX3 yX3_depthOf wsX3_depthOf) := goodIn_app (goodIn_of _ (by decide +kernel)) ggX4_node_X3_depthOf
set_option maxRecDepth 20000 in
theorem ggX4_node_X3_parentOf : GoodIn wsX4_node wsX3_parentOf := goodIn_r _ [20, 21, 9, 10, 5, 11, 12, 13, 3, 4, 6, 7, 14, 15, 16, 22, 23, 24, 25, 77, 78, 79, 80, 81] (by decide +kernel) (by decide +kernel)
set_option maxRecDepth 20000 in
theorem gX4_node_X3_parentOf : GoodIn wsX4_node (wsV RX4 72 RX3 yX3_parentOf wsX3_parentOf) := goodIn_app (goodIn_of _ (by decide +kernel)) ggX4_node_X3_parentOf
set_option maxRecDepth 20000 in
theorem ggX4_node_X3_childCount : GoodIn wsX4_node wsX3_childCount := goodIn_r _ [29, 30, 31, 32, 5, 33, 7, 21, 9, 10, 11, 12, 13, 3, 4, 6, 14, 15, 16, 77, 78, 79, 80, 81] (by decide +kernel) (by decide +kernel)
set_option maxRecDepth 20000 in
theorem gX4_node_X3_childCount : GoodIn wsX4_node (wsV RX4 75 RX3 yX3_childCount wsX3_childCount) := goodIn_app (goodIn_of _ (by decide +kernel)) ggX4_node_X3_childCount
set_option maxRecDepth 20000 in
theorem ggX4_node_X3_sizeOf : GoodIn wsX4_node wsX3_sizeOf := goodIn_r _ [37, 30, 31, 32, 5, 33, 7, 21, 9, 10, 11, 12, 13, 3, 4, 6, 14, 15, 16, 77, 78, 79, 80, 81] (by decide +kernel) (by decide +kernel)
set_option maxRecDepth 20000 in
theorem gX4_node_X3_sizeOf : GoodIn wsX4_node (wsV RX4 78 RX3 yX3_sizeOf wsX3_sizeOf) := goodIn_app (goodIn_of _ (by decide +kernel)) ggX4_node_X3_sizeOf
set_option maxRecDepth 20000 in
theorem ggX4_node_X3_deepestOf : GoodIn wsX4_node wsX3_deepestOf := goodIn_r _ [41, 30, 31, 32, 5, 33, 7, 21, 9, 10, 11, 12, 13, 3, 4, 6, 14, 15, 16, 77, 78, 79, 80, 81] (by decide +kernel) (by decide +kernel)
set_option maxRecDepth 20000 in
theorem gX4_node_X3_deepestOf : GoodIn wsX4_node (wsV RX4 81 RX3 yX3_deepestOf wsX3_deepestOf) := goodIn_app (goodIn_of _ (by decide +kernel)) ggX4_node_X3_deepestOf
set_option maxRecDepth 20000 in
theorem ggX4_node_X3_placeOf : GoodIn wsX4_node wsX3_placeOf := goodIn_r _ [45, 21, 9, 10, 5, 11, 12, 13, 3, 4, 6, 7, 14, 15, 16, 77, 78, 79, 80, 81] (by decide +kernel) (by decide +kernel)
set_option maxRecDepth 20000 in
theorem gX4_node_X3_placeOf : GoodIn wsX4_node (wsV RX4 84 RX3 yX3_placeOf wsX3_placeOf) := goodIn_app (goodIn_of _ (by decide +kernel)) ggX4_node_X3_placeOf
set_option maxRecDepth 20000 in
theorem ggX4_node_X3_leafCount : GoodIn wsX4_node wsX3_leafCount := goodIn_r _ [49, 30, 31, 32, 5, 33, 7, 21, 9, 10, 11, 12, 13, 3, 4, 6, 14, 15, 16, 50, 51, 52, 53, 77, 78, 79, 80, 81] (by decide +kernel) (by decide +kernel)
set_option maxRecDepth 20000 in
theorem gX4_node_X3_leafCount : GoodIn wsX4_node (wsV RX4 87 RX3 yX3_leafCount wsX3_leafCount) := goodIn_app (goodIn_of _ (by decide +kernel)) ggX4_node_X3_leafCount
set_option maxRecDepth 20000 in
theorem ggX4_node_X3_openingOf : GoodIn wsX4_node wsX3_openingOf := goodIn_r _ [57, 21, 9, 10, 5, 11, 12, 13, 3, 4, 6, 7, 14, 15, 16, 77, 78, 79, 80, 81] (by decide +kernel) (by decide +kernel)
set_option maxRecDepth 20000 in
theorem gX4_node_X3_openingOf : GoodIn wsX4_node (wsV RX4 90 RX3 yX3_openingOf wsX3_openingOf) := goodIn_app (goodIn_of _ (by decide +kernel)) ggX4_node_X3_openingOf
set_option maxRecDepth 20000 in
theorem ggX4_node_X3_closingOf : GoodIn wsX4_node wsX3_closingOf := goodIn_r _ [61, 62, 55, 56, 5, 57, 21, 9, 10, 11, 12, 13, 3, 4, 6, 7, 14, 15, 16, 63, 35, 36, 37, 30, 31, 32, 33, 77, 78, 79, 80, 81] (by decide +kernel) (by decide +kernel)
set_option maxRecDepth 20000 in
theorem gX4_node_X3_closingOf : GoodIn wsX4_node (wsV RX4 93 RX3 yX3_closingOf wsX3_closingOf) := goodIn_app (goodIn_of _ (by decide +kernel)) ggX4_node_X3_closingOf
set_option maxRecDepth 20000 in
theorem ggX4_node_X3_postorderOf : GoodIn wsX4_node wsX3_postorderOf := goodIn_r _ [67, 30, 31, 32, 5, 33, 7, 21, 9, 10, 11, 12, 13, 3, 4, 6, 14, 15, 16, 77, 78, 79, 80, 81] (by decide +kernel) (by decide +kernel)
set_option maxRecDepth 20000 in
theorem gX4_node_X3_postorderOf : GoodIn wsX4_node (wsV RX4 96 RX3 yX3_postorderOf wsX3_postorderOf) := goodIn_app (goodIn_of _ (by decide +kernel)) ggX4_node_X3_postorderOf
set_option maxRecDepth 20000 in
theorem ggX4_node_X3_labelOf : GoodIn wsX4_node wsX3_labelOf := goodIn_r _ [71, 72, 14, 15, 16, 77, 78, 79, 80, 81] (by decide +kernel) (by decide +kernel)
set_option maxRecDepth 20000 in
theorem gX4_node_X3_labelOf : GoodIn wsX4_node (wsV RX4 99 RX3 yX3_labelOf wsX3_labelOf) := goodIn_app (goodIn_of _ (by decide +kernel)) ggX4_node_X3_labelOf
theorem dX4_node_0 : decode cX4_node 0 = .ok (.aload_n 0, 1) := by decide +kernel
theorem dX4_node_1 : decode cX4_node 1 = .ok (.getfield 10, 3) := by decide +kernel
theorem dX4_node_4 : decode cX4_node 4 = .ok (.iload_n 1, 1) := by decide +kernel
theorem dX4_node_5 : decode cX4_node 5 = .ok (.invokevirtual 65, 3) := by decide +kernel
theorem dX4_node_8 : decode cX4_node 8 = .ok (.ifCond .ne 5, 3) := by decide +kernel
theorem dX4_node_11 : decode cX4_node 11 = .ok (.iconst (-1), 1) := by decide +kernel
theorem dX4_node_12 : decode cX4_node 12 = .ok (.ireturn, 1) := by decide +kernel
theorem dX4_node_13 : decode cX4_node 13 = .ok (.iload_n 2, 1) := by decide +kernel
theorem dX4_node_14 : decode cX4_node 14 = .ok (.tableswitch 173 0 10 #[58, 67, 76, 85, 94, 119, 128, 137, 146, 155, 164], 58) := by decide +kernel
theorem dX4_node_72 : decode cX4_node 72 = .ok (.aload_n 0, 1) := by decide +kernel
theorem dX4_node_73 : decode cX4_node 73 = .ok (.getfield 10, 3) := by decide +kernel
theorem dX4_node_76 : decode cX4_node 76 = .ok (.iload_n 1, 1) := by decide +kernel
theorem dX4_node_77 : decode cX4_node 77 = .ok (.invokevirtual 69, 3) := by decide +kernel
theorem dX4_node_80 : decode cX4_node 80 = .ok (.ireturn, 1) := by decide +kernel
theorem dX4_node_81 : decode cX4_node 81 = .ok (.aload_n 0, 1) := by decide +kernel
theorem dX4_node_82 : decode cX4_node 82 = .ok (.getfield 10, 3) := by decide +kernel
theorem dX4_node_85 : decode cX4_node 85 = .ok (.iload_n 1, 1) := by decide +kernel
theorem dX4_node_86 : decode cX4_node 86 = .ok (.invokevirtual 72, 3) := by decide +kernel
theorem dX4_node_89 : decode cX4_node 89 = .ok (.ireturn, 1) := by decide +kernel
theorem dX4_node_90 : decode cX4_node 90 = .ok (.aload_n 0, 1) := by decide +kernel
theorem dX4_node_91 : decode cX4_node 91 = .ok (.getfield 10, 3) := by decide +kernel
theorem dX4_node_94 : decode cX4_node 94 = .ok (.iload_n 1, 1) := by decide +kernel
theorem dX4_node_95 : decode cX4_node 95 = .ok (.invokevirtual 75, 3) := by decide +kernel
theorem dX4_node_98 : decode cX4_node 98 = .ok (.ireturn, 1) := by decide +kernel
theorem dX4_node_99 : decode cX4_node 99 = .ok (.aload_n 0, 1) := by decide +kernel
theorem dX4_node_100 : decode cX4_node 100 = .ok (.getfield 10, 3) := by decide +kernel
theorem dX4_node_103 : decode cX4_node 103 = .ok (.iload_n 1, 1) := by decide +kernel
theorem dX4_node_104 : decode cX4_node 104 = .ok (.invokevirtual 78, 3) := by decide +kernel
theorem dX4_node_107 : decode cX4_node 107 = .ok (.ireturn, 1) := by decide +kernel
theorem dX4_node_108 : decode cX4_node 108 = .ok (.aload_n 0, 1) := by decide +kernel
theorem dX4_node_109 : decode cX4_node 109 = .ok (.getfield 10, 3) := by decide +kernel
theorem dX4_node_112 : decode cX4_node 112 = .ok (.aload_n 0, 1) := by decide +kernel
theorem dX4_node_113 : decode cX4_node 113 = .ok (.getfield 10, 3) := by decide +kernel
theorem dX4_node_116 : decode cX4_node 116 = .ok (.iload_n 1, 1) := by decide +kernel
theorem dX4_node_117 : decode cX4_node 117 = .ok (.invokevirtual 81, 3) := by decide +kernel
theorem dX4_node_120 : decode cX4_node 120 = .ok (.invokevirtual 69, 3) := by decide +kernel
theorem dX4_node_123 : decode cX4_node 123 = .ok (.aload_n 0, 1) := by decide +kernel
theorem dX4_node_124 : decode cX4_node 124 = .ok (.getfield 10, 3) := by decide +kernel
theorem dX4_node_127 : decode cX4_node 127 = .ok (.iload_n 1, 1) := by decide +kernel
theorem dX4_node_128 : decode cX4_node 128 = .ok (.invokevirtual 69, 3) := by decide +kernel
theorem dX4_node_131 : decode cX4_node 131 = .ok (.isub, 1) := by decide +kernel
theorem dX4_node_132 : decode cX4_node 132 = .ok (.ireturn, 1) := by decide +kernel
theorem dX4_node_133 : decode cX4_node 133 = .ok (.aload_n 0, 1) := by decide +kernel
theorem dX4_node_134 : decode cX4_node 134 = .ok (.getfield 10, 3) := by decide +kernel
theorem dX4_node_137 : decode cX4_node 137 = .ok (.iload_n 1, 1) := by decide +kernel
theorem dX4_node_138 : decode cX4_node 138 = .ok (.invokevirtual 84, 3) := by decide +kernel
theorem dX4_node_141 : decode cX4_node 141 = .ok (.ireturn, 1) := by decide +kernel
theorem dX4_node_142 : decode cX4_node 142 = .ok (.aload_n 0, 1) := by decide +kernel
theorem dX4_node_143 : decode cX4_node 143 = .ok (.getfield 10, 3) := by decide +kernel
theorem dX4_node_146 : decode cX4_node 146 = .ok (.iload_n 1, 1) := by decide +kernel
theorem dX4_node_147 : decode cX4_node 147 = .ok (.invokevirtual 87, 3) := by decide +kernel
theorem dX4_node_150 : decode cX4_node 150 = .ok (.ireturn, 1) := by decide +kernel
theorem dX4_node_151 : decode cX4_node 151 = .ok (.aload_n 0, 1) := by decide +kernel
theorem dX4_node_152 : decode cX4_node 152 = .ok (.getfield 10, 3) := by decide +kernel
theorem dX4_node_155 : decode cX4_node 155 = .ok (.iload_n 1, 1) := by decide +kernel
theorem dX4_node_156 : decode cX4_node 156 = .ok (.invokevirtual 90, 3) := by decide +kernel
theorem dX4_node_159 : decode cX4_node 159 = .ok (.ireturn, 1) := by decide +kernel
theorem dX4_node_160 : decode cX4_node 160 = .ok (.aload_n 0, 1) := by decide +kernel
theorem dX4_node_161 : decode cX4_node 161 = .ok (.getfield 10, 3) := by decide +kernel
theorem dX4_node_164 : decode cX4_node 164 = .ok (.iload_n 1, 1) := by decide +kernel
theorem dX4_node_165 : decode cX4_node 165 = .ok (.invokevirtual 93, 3) := by decide +kernel
theorem dX4_node_168 : decode cX4_node 168 = .ok (.ireturn, 1) := by decide +kernel
theorem dX4_node_169 : decode cX4_node 169 = .ok (.aload_n 0, 1) := by decide +kernel
theorem dX4_node_170 : decode cX4_node 170 = .ok (.getfield 10, 3) := by decide +kernel
theorem dX4_node_173 : decode cX4_node 173 = .ok (.iload_n 1, 1) := by decide +kernel
theorem dX4_node_174 : decode cX4_node 174 = .ok (.invokevirtual 96, 3) := by decide +kernel
theorem dX4_node_177 : decode cX4_node 177 = .ok (.ireturn, 1) := by decide +kernel
theorem dX4_node_178 : decode cX4_node 178 = .ok (.aload_n 0, 1) := by decide +kernel
theorem dX4_node_179 : decode cX4_node 179 = .ok (.getfield 10, 3) := by decide +kernel
theorem dX4_node_182 : decode cX4_node 182 = .ok (.iload_n 1, 1) := by decide +kernel
theorem dX4_node_183 : decode cX4_node 183 = .ok (.invokevirtual 99, 3) := by decide +kernel
theorem dX4_node_186 : decode cX4_node 186 = .ok (.ireturn, 1) := by decide +kernel
theorem dX4_node_187 : decode cX4_node 187 = .ok (.bipush (-2), 2) := by decide +kernel
theorem dX4_node_189 : decode cX4_node 189 = .ok (.ireturn, 1) := by decide +kernel
set_option maxRecDepth 20000 in
theorem ggX4_child_X3_has : GoodIn wsX4_child wsX3_has := goodIn_r _ [6, 7, 33, 34, 35, 36, 37] (by decide +kernel) (by decide +kernel)
set_option maxRecDepth 20000 in
theorem gX4_child_X3_has : GoodIn wsX4_child (wsV RX4 65 RX3 yX3_has wsX3_has) := goodIn_app (goodIn_of _ (by decide +kernel)) ggX4_child_X3_has
set_option maxRecDepth 20000 in
theorem ggX4_child_X3_childCount : GoodIn wsX4_child wsX3_childCount := goodIn_r _ [11, 12, 13, 14, 5, 15, 7, 16, 17, 18, 19, 20, 21, 3, 4, 6, 22, 23, 24, 33, 34, 35, 36, 37] (by decide +kernel) (by decide +kernel)
set_option maxRecDepth 20000 in
theorem gX4_child_X3_childCount : GoodIn wsX4_child (wsV RX4 75 RX3 yX3_childCount wsX3_childCount) := goodIn_app (goodIn_of _ (by decide +kernel)) ggX4_child_X3_childCount
set_option maxRecDepth 20000 in
theorem ggX4_child_X3_startOfPlace : GoodIn wsX4_child wsX3_startOfPlace := goodIn_r _ [28, 12, 13, 14, 5, 15, 7, 16, 17, 18, 19, 20, 21, 3, 4, 6, 22, 23, 24, 33, 34, 35, 36, 37] (by decide +kernel) (by decide +kernel)
set_option maxRecDepth 20000 in
theorem gX4_child_X3_startOfPlace : GoodIn wsX4_child (wsV RX4 102 RX3 yX3_startOfPlace wsX3_startOfPlace) := goodIn_app (goodIn_of _ (by decide +kernel)) ggX4_child_X3_startOfPlace
theorem dX4_child_0 : decode cX4_child 0 = .ok (.aload_n 0, 1) := by decide +kernel
theorem dX4_child_1 : decode cX4_child 1 = .ok (.getfield 10, 3) := by decide +kernel
theorem dX4_child_4 : decode cX4_child 4 = .ok (.iload_n 1, 1) := by decide +kernel
theorem dX4_child_5 : decode cX4_child 5 = .ok (.invokevirtual 65, 3) := by decide +kernel
theorem dX4_child_8 : decode cX4_child 8 = .ok (.ifCond .ne 5, 3) := by decide +kernel
theorem dX4_child_11 : decode cX4_child 11 = .ok (.iconst (-1), 1) := by decide +kernel
theorem dX4_child_12 : decode cX4_child 12 = .ok (.ireturn, 1) := by decide +kernel
theorem dX4_child_13 : decode cX4_child 13 = .ok (.iload_n 2, 1) := by decide +kernel
theorem dX4_child_14 : decode cX4_child 14 = .ok (.ifCond .ge 6, 3) := by decide +kernel
theorem dX4_child_17 : decode cX4_child 17 = .ok (.bipush (-2), 2) := by decide +kernel
theorem dX4_child_19 : decode cX4_child 19 = .ok (.ireturn, 1) := by decide +kernel
theorem dX4_child_20 : decode cX4_child 20 = .ok (.iload_n 2, 1) := by decide +kernel
theorem dX4_child_21 : decode cX4_child 21 = .ok (.aload_n 0, 1) := by decide +kernel
theorem dX4_child_22 : decode cX4_child 22 = .ok (.getfield 10, 3) := by decide +kernel
theorem dX4_child_25 : decode cX4_child 25 = .ok (.iload_n 1, 1) := by decide +kernel
theorem dX4_child_26 : decode cX4_child 26 = .ok (.invokevirtual 75, 3) := by decide +kernel
theorem dX4_child_29 : decode cX4_child 29 = .ok (.if_icmp .ge 15, 3) := by decide +kernel
theorem dX4_child_32 : decode cX4_child 32 = .ok (.aload_n 0, 1) := by decide +kernel
theorem dX4_child_33 : decode cX4_child 33 = .ok (.getfield 10, 3) := by decide +kernel
theorem dX4_child_36 : decode cX4_child 36 = .ok (.iload_n 1, 1) := by decide +kernel
theorem dX4_child_37 : decode cX4_child 37 = .ok (.iload_n 2, 1) := by decide +kernel
theorem dX4_child_38 : decode cX4_child 38 = .ok (.invokevirtual 102, 3) := by decide +kernel
theorem dX4_child_41 : decode cX4_child 41 = .ok (.goto 5, 3) := by decide +kernel
theorem dX4_child_44 : decode cX4_child 44 = .ok (.bipush (-5), 2) := by decide +kernel
theorem dX4_child_46 : decode cX4_child 46 = .ok (.ireturn, 1) := by decide +kernel
set_option maxRecDepth 20000 in
theorem ggX4_neighbour_X3_has : GoodIn wsX4_neighbour wsX3_has := goodIn_r _ [6, 7, 66, 67, 68, 69, 70] (by decide +kernel) (by decide +kernel)
set_option maxRecDepth 20000 in
theorem gX4_neighbour_X3_has : GoodIn wsX4_neighbour (wsV RX4 65 RX3 yX3_has wsX3_has) := goodIn_app (goodIn_of _ (by decide +kernel)) ggX4_neighbour_X3_has
set_option maxRecDepth 20000 in
theorem ggX4_neighbour_X3_nextSibling : GoodIn wsX4_neighbour wsX3_nextSibling := goodIn_r _ [11, 12, 13, 14, 5, 15, 7, 16, 17, 18, 19, 20, 21, 3, 4, 6, 22, 23, 24, 66, 67, 68, 69, 70] (by decide +kernel) (by decide +kernel)
set_option maxRecDepth 20000 in
theorem gX4_neighbour_X3_nextSibling : GoodIn wsX4_neighbour (wsV RX4 106 RX3 yX3_nextSibling wsX3_nextSibling) := goodIn_app (goodIn_of _ (by decide +kernel)) ggX4_neighbour_X3_nextSibling
set_option maxRecDepth 20000 in
theorem ggX4_neighbour_X3_previousSibling : GoodIn wsX4_neighbour wsX3_previousSibling := goodIn_r _ [28, 29, 30, 31, 5, 32, 16, 17, 18, 19, 20, 21, 3, 4, 6, 7, 22, 23, 24, 33, 34, 35, 36, 37, 38, 39, 40, 66, 67, 68, 69, 70] (by decide +kernel) (by decide +kernel)
set_option maxRecDepth 20000 in
theorem gX4_neighbour_X3_previousSibling : GoodIn wsX4_neighbour (wsV RX4 109 RX3 yX3_previousSibling wsX3_previousSibling) := goodIn_app (goodIn_of _ (by decide +kernel)) ggX4_neighbour_X3_previousSibling
set_option maxRecDepth 20000 in
theorem ggX4_neighbour_X3_nextAtDepth : GoodIn wsX4_neighbour wsX3_nextAtDepth := goodIn_r _ [44, 7, 16, 17, 18, 5, 19, 20, 21, 3, 4, 6, 22, 23, 24, 66, 67, 68, 69, 70] (by decide +kernel) (by decide +kernel)
set_option maxRecDepth 20000 in
theorem gX4_neighbour_X3_nextAtDepth : GoodIn wsX4_neighbour (wsV RX4 112 RX3 yX3_nextAtDepth wsX3_nextAtDepth) := goodIn_app (goodIn_of _ (by decide +kernel)) ggX4_neighbour_X3_nextAtDepth
set_option maxRecDepth 20000 in
theorem ggX4_neighbour_X3_previousAtDepth : GoodIn wsX4_neighbour wsX3_previousAtDepth := goodIn_r _ [36, 16, 17, 18, 5, 19, 20, 21, 3, 4, 6, 7, 22, 23, 24, 37, 38, 39, 40, 66, 67, 68, 69, 70] (by decide +kernel) (by decide +kernel)
set_option maxRecDepth 20000 in
theorem gX4_neighbour_X3_previousAtDepth : GoodIn wsX4_neighbour (wsV RX4 115 RX3 yX3_previousAtDepth wsX3_previousAtDepth) := goodIn_app (goodIn_of _ (by decide +kernel)) ggX4_neighbour_X3_previousAtDepth
set_option maxRecDepth 20000 in
theorem ggX4_neighbour_X3_nextLeaf : GoodIn wsX4_neighbour wsX3_nextLeaf := goodIn_r _ [49, 7, 50, 51, 52, 5, 53, 16, 17, 18, 19, 20, 21, 3, 4, 6, 22, 23, 24, 66, 67, 68, 69, 70] (by decide +kernel) (by decide +kernel)
set_option maxRecDepth 20000 in
theorem gX4_neighbour_X3_nextLeaf : GoodIn wsX4_neighbour (wsV RX4 118 RX3 yX3_nextLeaf wsX3_nextLeaf) := goodIn_app (goodIn_of _ (by decide +kernel)) ggX4_neighbour_X3_nextLeaf
set_option maxRecDepth 20000 in
theorem ggX4_neighbour_X3_largestChild : GoodIn wsX4_neighbour wsX3_largestChild := goodIn_r _ [57, 12, 13, 14, 5, 15, 7, 16, 17, 18, 19, 20, 21, 3, 4, 6, 22, 23, 24, 58, 59, 60, 61, 66, 67, 68, 69, 70] (by decide +kernel) (by decide +kernel)
set_option maxRecDepth 20000 in
theorem gX4_neighbour_X3_largestChild : GoodIn wsX4_neighbour (wsV RX4 121 RX3 yX3_largestChild wsX3_largestChild) := goodIn_app (goodIn_of _ (by decide +kernel)) ggX4_neighbour_X3_largestChild
theorem dX4_neighbour_0 : decode cX4_neighbour 0 = .ok (.aload_n 0, 1) := by decide +kernel
theorem dX4_neighbour_1 : decode cX4_neighbour 1 = .ok (.getfield 10, 3) := by decide +kernel
theorem dX4_neighbour_4 : decode cX4_neighbour 4 = .ok (.iload_n 1, 1) := by decide +kernel
theorem dX4_neighbour_5 : decode cX4_neighbour 5 = .ok (.invokevirtual 65, 3) := by decide +kernel
theorem dX4_neighbour_8 : decode cX4_neighbour 8 = .ok (.ifCond .ne 5, 3) := by decide +kernel
theorem dX4_neighbour_11 : decode cX4_neighbour 11 = .ok (.iconst (-1), 1) := by decide +kernel
theorem dX4_neighbour_12 : decode cX4_neighbour 12 = .ok (.ireturn, 1) := by decide +kernel
theorem dX4_neighbour_13 : decode cX4_neighbour 13 = .ok (.iload_n 2, 1) := by decide +kernel
theorem dX4_neighbour_14 : decode cX4_neighbour 14 = .ok (.tableswitch 92 0 5 #[38, 47, 56, 65, 74, 83], 38) := by decide +kernel
theorem dX4_neighbour_52 : decode cX4_neighbour 52 = .ok (.aload_n 0, 1) := by decide +kernel
theorem dX4_neighbour_53 : decode cX4_neighbour 53 = .ok (.getfield 10, 3) := by decide +kernel
theorem dX4_neighbour_56 : decode cX4_neighbour 56 = .ok (.iload_n 1, 1) := by decide +kernel
theorem dX4_neighbour_57 : decode cX4_neighbour 57 = .ok (.invokevirtual 106, 3) := by decide +kernel
theorem dX4_neighbour_60 : decode cX4_neighbour 60 = .ok (.ireturn, 1) := by decide +kernel
theorem dX4_neighbour_61 : decode cX4_neighbour 61 = .ok (.aload_n 0, 1) := by decide +kernel
theorem dX4_neighbour_62 : decode cX4_neighbour 62 = .ok (.getfield 10, 3) := by decide +kernel
theorem dX4_neighbour_65 : decode cX4_neighbour 65 = .ok (.iload_n 1, 1) := by decide +kernel
theorem dX4_neighbour_66 : decode cX4_neighbour 66 = .ok (.invokevirtual 109, 3) := by decide +kernel
theorem dX4_neighbour_69 : decode cX4_neighbour 69 = .ok (.ireturn, 1) := by decide +kernel
theorem dX4_neighbour_70 : decode cX4_neighbour 70 = .ok (.aload_n 0, 1) := by decide +kernel
theorem dX4_neighbour_71 : decode cX4_neighbour 71 = .ok (.getfield 10, 3) := by decide +kernel
theorem dX4_neighbour_74 : decode cX4_neighbour 74 = .ok (.iload_n 1, 1) := by decide +kernel
theorem dX4_neighbour_75 : decode cX4_neighbour 75 = .ok (.invokevirtual 112, 3) := by decide +kernel
theorem dX4_neighbour_78 : decode cX4_neighbour 78 = .ok (.ireturn, 1) := by decide +kernel
theorem dX4_neighbour_79 : decode cX4_neighbour 79 = .ok (.aload_n 0, 1) := by decide +kernel
theorem dX4_neighbour_80 : decode cX4_neighbour 80 = .ok (.getfield 10, 3) := by decide +kernel
theorem dX4_neighbour_83 : decode cX4_neighbour 83 = .ok (.iload_n 1, 1) := by decide +kernel
theorem dX4_neighbour_84 : decode cX4_neighbour 84 = .ok (.invokevirtual 115, 3) := by decide +kernel
theorem dX4_neighbour_87 : decode cX4_neighbour 87 = .ok (.ireturn, 1) := by decide +kernel
theorem dX4_neighbour_88 : decode cX4_neighbour 88 = .ok (.aload_n 0, 1) := by decide +kernel
theorem dX4_neighbour_89 : decode cX4_neighbour 89 = .ok (.getfield 10, 3) := by decide +kernel
theorem dX4_neighbour_92 : decode cX4_neighbour 92 = .ok (.iload_n 1, 1) := by decide +kernel
theorem dX4_neighbour_93 : decode cX4_neighbour 93 = .ok (.invokevirtual 118, 3) := by decide +kernel
theorem dX4_neighbour_96 : decode cX4_neighbour 96 = .ok (.ireturn, 1) := by decide +kernel
theorem dX4_neighbour_97 : decode cX4_neighbour 97 = .ok (.aload_n 0, 1) := by decide +kernel
theorem dX4_neighbour_98 : decode cX4_neighbour 98 = .ok (.getfield 10, 3) := by decide +kernel
theorem dX4_neighbour_101 : decode cX4_neighbour 101 = .ok (.iload_n 1, 1) := by decide +kernel
theorem dX4_neighbour_102 : decode cX4_neighbour 102 = .ok (.invokevirtual 121, 3) := by decide +kernel
theorem dX4_neighbour_105 : decode cX4_neighbour 105 = .ok (.ireturn, 1) := by decide +kernel
theorem dX4_neighbour_106 : decode cX4_neighbour 106 = .ok (.bipush (-2), 2) := by decide +kernel
theorem dX4_neighbour_108 : decode cX4_neighbour 108 = .ok (.ireturn, 1) := by decide +kernel
set_option maxRecDepth 20000 in
theorem ggX4_ancestorAt_X3_has : GoodIn wsX4_ancestorAt wsX3_has := goodIn_r _ [6, 7, 26, 27, 28, 29, 30] (by decide +kernel) (by decide +kernel)
set_option maxRecDepth 20000 in
theorem gX4_ancestorAt_X3_has : GoodIn wsX4_ancestorAt (wsV RX4 65 RX3 yX3_has wsX3_has) := goodIn_app (goodIn_of _ (by decide +kernel)) ggX4_ancestorAt_X3_has
set_option maxRecDepth 20000 in
theorem ggX4_ancestorAt_X3_depthOf : GoodIn wsX4_ancestorAt wsX3_depthOf := goodIn_r _ [11, 12, 13, 3, 4, 5, 6, 7, 14, 15, 16, 26, 27, 28, 29, 30] (by decide +kernel) (by decide +kernel)
set_option maxRecDepth 20000 in
theorem gX4_ancestorAt_X3_depthOf : GoodIn wsX4_ancestorAt (wsV RX4 69 RX3 yX3_depthOf wsX3_depthOf) := goodIn_app (goodIn_of _ (by decide +kernel)) ggX4_ancestorAt_X3_depthOf
set_option maxRecDepth 20000 in
theorem ggX4_ancestorAt_X3_climb : GoodIn wsX4_ancestorAt wsX3_climb := goodIn_r _ [20, 21, 9, 10, 5, 11, 12, 13, 3, 4, 6, 7, 14, 15, 16, 26, 27, 28, 29, 30] (by decide +kernel) (by decide +kernel)
set_option maxRecDepth 20000 in
theorem gX4_ancestorAt_X3_climb : GoodIn wsX4_ancestorAt (wsV RX4 124 RX3 yX3_climb wsX3_climb) := goodIn_app (goodIn_of _ (by decide +kernel)) ggX4_ancestorAt_X3_climb
theorem dX4_ancestorAt_0 : decode cX4_ancestorAt 0 = .ok (.aload_n 0, 1) := by decide +kernel
theorem dX4_ancestorAt_1 : decode cX4_ancestorAt 1 = .ok (.getfield 10, 3) := by decide +kernel
theorem dX4_ancestorAt_4 : decode cX4_ancestorAt 4 = .ok (.iload_n 1, 1) := by decide +kernel
theorem dX4_ancestorAt_5 : decode cX4_ancestorAt 5 = .ok (.invokevirtual 65, 3) := by decide +kernel
theorem dX4_ancestorAt_8 : decode cX4_ancestorAt 8 = .ok (.ifCond .ne 5, 3) := by decide +kernel
theorem dX4_ancestorAt_11 : decode cX4_ancestorAt 11 = .ok (.iconst (-1), 1) := by decide +kernel
theorem dX4_ancestorAt_12 : decode cX4_ancestorAt 12 = .ok (.ireturn, 1) := by decide +kernel
theorem dX4_ancestorAt_13 : decode cX4_ancestorAt 13 = .ok (.iload_n 2, 1) := by decide +kernel
theorem dX4_ancestorAt_14 : decode cX4_ancestorAt 14 = .ok (.ifCond .lt 15, 3) := by decide +kernel
theorem dX4_ancestorAt_17 : decode cX4_ancestorAt 17 = .ok (.iload_n 2, 1) := by decide +kernel
theorem dX4_ancestorAt_18 : decode cX4_ancestorAt 18 = .ok (.aload_n 0, 1) := by decide +kernel
theorem dX4_ancestorAt_19 : decode cX4_ancestorAt 19 = .ok (.getfield 10, 3) := by decide +kernel
theorem dX4_ancestorAt_22 : decode cX4_ancestorAt 22 = .ok (.iload_n 1, 1) := by decide +kernel
theorem dX4_ancestorAt_23 : decode cX4_ancestorAt 23 = .ok (.invokevirtual 69, 3) := by decide +kernel
theorem dX4_ancestorAt_26 : decode cX4_ancestorAt 26 = .ok (.if_icmp .le 6, 3) := by decide +kernel
theorem dX4_ancestorAt_29 : decode cX4_ancestorAt 29 = .ok (.bipush (-2), 2) := by decide +kernel
theorem dX4_ancestorAt_31 : decode cX4_ancestorAt 31 = .ok (.ireturn, 1) := by decide +kernel
theorem dX4_ancestorAt_32 : decode cX4_ancestorAt 32 = .ok (.aload_n 0, 1) := by decide +kernel
theorem dX4_ancestorAt_33 : decode cX4_ancestorAt 33 = .ok (.getfield 10, 3) := by decide +kernel
theorem dX4_ancestorAt_36 : decode cX4_ancestorAt 36 = .ok (.iload_n 1, 1) := by decide +kernel
theorem dX4_ancestorAt_37 : decode cX4_ancestorAt 37 = .ok (.iload_n 2, 1) := by decide +kernel
theorem dX4_ancestorAt_38 : decode cX4_ancestorAt 38 = .ok (.invokevirtual 124, 3) := by decide +kernel
theorem dX4_ancestorAt_41 : decode cX4_ancestorAt 41 = .ok (.ireturn, 1) := by decide +kernel
set_option maxRecDepth 20000 in
theorem ggX4_common_X3_has : GoodIn wsX4_common wsX3_has := goodIn_r _ [6, 7, 36, 37, 38, 39, 40] (by decide +kernel) (by decide +kernel)
set_option maxRecDepth 20000 in
theorem gX4_common_X3_has : GoodIn wsX4_common (wsV RX4 65 RX3 yX3_has wsX3_has) := goodIn_app (goodIn_of _ (by decide +kernel)) ggX4_common_X3_has
set_option maxRecDepth 20000 in
theorem ggX4_common_X3_meetingOf : GoodIn wsX4_common wsX3_meetingOf := goodIn_r _ [11, 12, 13, 14, 15, 16, 17, 18, 19, 20, 21, 5, 22, 23, 24, 3, 4, 6, 7, 25, 26, 27, 28, 29, 30, 31, 36, 37, 38, 39, 40] (by decide +kernel) (by decide +kernel)
set_option maxRecDepth 20000 in
theorem gX4_common_X3_meetingOf : GoodIn wsX4_common (wsV RX4 127 RX3 yX3_meetingOf wsX3_meetingOf) := goodIn_app (goodIn_of _ (by decide +kernel)) ggX4_common_X3_meetingOf
theorem dX4_common_0 : decode cX4_common 0 = .ok (.aload_n 0, 1) := by decide +kernel
theorem dX4_common_1 : decode cX4_common 1 = .ok (.getfield 10, 3) := by decide +kernel
theorem dX4_common_4 : decode cX4_common 4 = .ok (.iload_n 1, 1) := by decide +kernel
theorem dX4_common_5 : decode cX4_common 5 = .ok (.invokevirtual 65, 3) := by decide +kernel
theorem dX4_common_8 : decode cX4_common 8 = .ok (.ifCond .eq 14, 3) := by decide +kernel
theorem dX4_common_11 : decode cX4_common 11 = .ok (.aload_n 0, 1) := by decide +kernel
theorem dX4_common_12 : decode cX4_common 12 = .ok (.getfield 10, 3) := by decide +kernel
theorem dX4_common_15 : decode cX4_common 15 = .ok (.iload_n 2, 1) := by decide +kernel
theorem dX4_common_16 : decode cX4_common 16 = .ok (.invokevirtual 65, 3) := by decide +kernel
theorem dX4_common_19 : decode cX4_common 19 = .ok (.ifCond .ne 5, 3) := by decide +kernel
theorem dX4_common_22 : decode cX4_common 22 = .ok (.iconst (-1), 1) := by decide +kernel
theorem dX4_common_23 : decode cX4_common 23 = .ok (.ireturn, 1) := by decide +kernel
theorem dX4_common_24 : decode cX4_common 24 = .ok (.aload_n 0, 1) := by decide +kernel
theorem dX4_common_25 : decode cX4_common 25 = .ok (.getfield 10, 3) := by decide +kernel
theorem dX4_common_28 : decode cX4_common 28 = .ok (.iload_n 1, 1) := by decide +kernel
theorem dX4_common_29 : decode cX4_common 29 = .ok (.iload_n 2, 1) := by decide +kernel
theorem dX4_common_30 : decode cX4_common 30 = .ok (.invokevirtual 127, 3) := by decide +kernel
theorem dX4_common_33 : decode cX4_common 33 = .ok (.ireturn, 1) := by decide +kernel
set_option maxRecDepth 20000 in
theorem ggX4_way_X3_has : GoodIn wsX4_way wsX3_has := goodIn_r _ [6, 7, 38, 39, 40, 41, 42] (by decide +kernel) (by decide +kernel)
set_option maxRecDepth 20000 in
theorem gX4_way_X3_has : GoodIn wsX4_way (wsV RX4 65 RX3 yX3_has wsX3_has) := goodIn_app (goodIn_of _ (by decide +kernel)) ggX4_way_X3_has
set_option maxRecDepth 20000 in
theorem ggX4_way_X3_meetingOf : GoodIn wsX4_way wsX3_meetingOf := goodIn_r _ [11, 12, 13, 14, 15, 16, 17, 18, 19, 20, 21, 5, 22, 23, 24, 3, 4, 6, 7, 25, 26, 27, 28, 29, 30, 31, 38, 39, 40, 41, 42] (by decide +kernel) (by decide +kernel)
set_option maxRecDepth 20000 in
theorem gX4_way_X3_meetingOf : GoodIn wsX4_way (wsV RX4 127 RX3 yX3_meetingOf wsX3_meetingOf) := goodIn_app (goodIn_of _ (by decide +kernel)) ggX4_way_X3_meetingOf
set_option maxRecDepth 20000 in
theorem ggX4_way_X3_depthOf : GoodIn wsX4_way wsX3_depthOf := goodIn_r _ [22, 23, 24, 3, 4, 5, 6, 7, 25, 26, 27, 38, 39, 40, 41, 42] (by decide +kernel) (by decide +kernel)
set_option maxRecDepth 20000 in
theorem gX4_way_X3_depthOf : GoodIn wsX4_way (wsV RX4 69 RX3 yX3_depthOf wsX3_depthOf) := goodIn_app (goodIn_of _ (by decide +kernel)) ggX4_way_X3_depthOf
set_option maxRecDepth 20000 in
theorem ggX4_way_X3_climb : GoodIn wsX4_way wsX3_climb := goodIn_r _ [31, 19, 20, 21, 5, 22, 23, 24, 3, 4, 6, 7, 25, 26, 27, 38, 39, 40, 41, 42] (by decide +kernel) (by decide +kernel)
set_option maxRecDepth 20000 in
theorem gX4_way_X3_climb : GoodIn wsX4_way (wsV RX4 124 RX3 yX3_climb wsX3_climb) := goodIn_app (goodIn_of _ (by decide +kernel)) ggX4_way_X3_climb
theorem dX4_way_0 : decode cX4_way 0 = .ok (.aload_n 0, 1) := by decide +kernel
theorem dX4_way_1 : decode cX4_way 1 = .ok (.getfield 10, 3) := by decide +kernel
theorem dX4_way_4 : decode cX4_way 4 = .ok (.iload_n 1, 1) := by decide +kernel
theorem dX4_way_5 : decode cX4_way 5 = .ok (.invokevirtual 65, 3) := by decide +kernel
theorem dX4_way_8 : decode cX4_way 8 = .ok (.ifCond .eq 14, 3) := by decide +kernel
theorem dX4_way_11 : decode cX4_way 11 = .ok (.aload_n 0, 1) := by decide +kernel
theorem dX4_way_12 : decode cX4_way 12 = .ok (.getfield 10, 3) := by decide +kernel
theorem dX4_way_15 : decode cX4_way 15 = .ok (.iload_n 2, 1) := by decide +kernel
theorem dX4_way_16 : decode cX4_way 16 = .ok (.invokevirtual 65, 3) := by decide +kernel
theorem dX4_way_19 : decode cX4_way 19 = .ok (.ifCond .ne 5, 3) := by decide +kernel
theorem dX4_way_22 : decode cX4_way 22 = .ok (.iconst (-1), 1) := by decide +kernel
theorem dX4_way_23 : decode cX4_way 23 = .ok (.ireturn, 1) := by decide +kernel
theorem dX4_way_24 : decode cX4_way 24 = .ok (.iload_n 3, 1) := by decide +kernel
theorem dX4_way_25 : decode cX4_way 25 = .ok (.iconst (-1), 1) := by decide +kernel
theorem dX4_way_26 : decode cX4_way 26 = .ok (.if_icmp .ge 6, 3) := by decide +kernel
theorem dX4_way_29 : decode cX4_way 29 = .ok (.bipush (-2), 2) := by decide +kernel
theorem dX4_way_31 : decode cX4_way 31 = .ok (.ireturn, 1) := by decide +kernel
theorem dX4_way_32 : decode cX4_way 32 = .ok (.aload_n 0, 1) := by decide +kernel
theorem dX4_way_33 : decode cX4_way 33 = .ok (.getfield 10, 3) := by decide +kernel
theorem dX4_way_36 : decode cX4_way 36 = .ok (.aload_n 0, 1) := by decide +kernel
theorem dX4_way_37 : decode cX4_way 37 = .ok (.getfield 10, 3) := by decide +kernel
theorem dX4_way_40 : decode cX4_way 40 = .ok (.iload_n 1, 1) := by decide +kernel
theorem dX4_way_41 : decode cX4_way 41 = .ok (.iload_n 2, 1) := by decide +kernel
theorem dX4_way_42 : decode cX4_way 42 = .ok (.invokevirtual 127, 3) := by decide +kernel
theorem dX4_way_45 : decode cX4_way 45 = .ok (.invokevirtual 69, 3) := by decide +kernel
theorem dX4_way_48 : decode cX4_way 48 = .ok (.istore 4, 2) := by decide +kernel
theorem dX4_way_50 : decode cX4_way 50 = .ok (.aload_n 0, 1) := by decide +kernel
theorem dX4_way_51 : decode cX4_way 51 = .ok (.getfield 10, 3) := by decide +kernel
theorem dX4_way_54 : decode cX4_way 54 = .ok (.iload_n 1, 1) := by decide +kernel
theorem dX4_way_55 : decode cX4_way 55 = .ok (.invokevirtual 69, 3) := by decide +kernel
theorem dX4_way_58 : decode cX4_way 58 = .ok (.iload 4, 2) := by decide +kernel
theorem dX4_way_60 : decode cX4_way 60 = .ok (.isub, 1) := by decide +kernel
theorem dX4_way_61 : decode cX4_way 61 = .ok (.istore 5, 2) := by decide +kernel
theorem dX4_way_63 : decode cX4_way 63 = .ok (.iload 5, 2) := by decide +kernel
theorem dX4_way_65 : decode cX4_way 65 = .ok (.aload_n 0, 1) := by decide +kernel
theorem dX4_way_66 : decode cX4_way 66 = .ok (.getfield 10, 3) := by decide +kernel
theorem dX4_way_69 : decode cX4_way 69 = .ok (.iload_n 2, 1) := by decide +kernel
theorem dX4_way_70 : decode cX4_way 70 = .ok (.invokevirtual 69, 3) := by decide +kernel
theorem dX4_way_73 : decode cX4_way 73 = .ok (.iadd, 1) := by decide +kernel
theorem dX4_way_74 : decode cX4_way 74 = .ok (.iload 4, 2) := by decide +kernel
theorem dX4_way_76 : decode cX4_way 76 = .ok (.isub, 1) := by decide +kernel
theorem dX4_way_77 : decode cX4_way 77 = .ok (.istore 6, 2) := by decide +kernel
theorem dX4_way_79 : decode cX4_way 79 = .ok (.iload_n 3, 1) := by decide +kernel
theorem dX4_way_80 : decode cX4_way 80 = .ok (.iconst (-1), 1) := by decide +kernel
theorem dX4_way_81 : decode cX4_way 81 = .ok (.if_icmp .ne 6, 3) := by decide +kernel
theorem dX4_way_84 : decode cX4_way 84 = .ok (.iload 6, 2) := by decide +kernel
theorem dX4_way_86 : decode cX4_way 86 = .ok (.ireturn, 1) := by decide +kernel
theorem dX4_way_87 : decode cX4_way 87 = .ok (.iload_n 3, 1) := by decide +kernel
theorem dX4_way_88 : decode cX4_way 88 = .ok (.iload 6, 2) := by decide +kernel
theorem dX4_way_90 : decode cX4_way 90 = .ok (.if_icmp .le 6, 3) := by decide +kernel
theorem dX4_way_93 : decode cX4_way 93 = .ok (.bipush (-5), 2) := by decide +kernel
theorem dX4_way_95 : decode cX4_way 95 = .ok (.ireturn, 1) := by decide +kernel
theorem dX4_way_96 : decode cX4_way 96 = .ok (.iload_n 3, 1) := by decide +kernel
theorem dX4_way_97 : decode cX4_way 97 = .ok (.iload 5, 2) := by decide +kernel
theorem dX4_way_99 : decode cX4_way 99 = .ok (.if_icmp .gt 24, 3) := by decide +kernel
theorem dX4_way_102 : decode cX4_way 102 = .ok (.aload_n 0, 1) := by decide +kernel
theorem dX4_way_103 : decode cX4_way 103 = .ok (.getfield 10, 3) := by decide +kernel
theorem dX4_way_106 : decode cX4_way 106 = .ok (.iload_n 1, 1) := by decide +kernel
theorem dX4_way_107 : decode cX4_way 107 = .ok (.aload_n 0, 1) := by decide +kernel
theorem dX4_way_108 : decode cX4_way 108 = .ok (.getfield 10, 3) := by decide +kernel
theorem dX4_way_111 : decode cX4_way 111 = .ok (.iload_n 1, 1) := by decide +kernel
theorem dX4_way_112 : decode cX4_way 112 = .ok (.invokevirtual 69, 3) := by decide +kernel
theorem dX4_way_115 : decode cX4_way 115 = .ok (.iload_n 3, 1) := by decide +kernel
theorem dX4_way_116 : decode cX4_way 116 = .ok (.isub, 1) := by decide +kernel
theorem dX4_way_117 : decode cX4_way 117 = .ok (.invokevirtual 124, 3) := by decide +kernel
theorem dX4_way_120 : decode cX4_way 120 = .ok (.goto 18, 3) := by decide +kernel
theorem dX4_way_123 : decode cX4_way 123 = .ok (.aload_n 0, 1) := by decide +kernel
theorem dX4_way_124 : decode cX4_way 124 = .ok (.getfield 10, 3) := by decide +kernel
theorem dX4_way_127 : decode cX4_way 127 = .ok (.iload_n 2, 1) := by decide +kernel
theorem dX4_way_128 : decode cX4_way 128 = .ok (.iload 4, 2) := by decide +kernel
theorem dX4_way_130 : decode cX4_way 130 = .ok (.iload_n 3, 1) := by decide +kernel
theorem dX4_way_131 : decode cX4_way 131 = .ok (.iadd, 1) := by decide +kernel
theorem dX4_way_132 : decode cX4_way 132 = .ok (.iload 5, 2) := by decide +kernel
theorem dX4_way_134 : decode cX4_way 134 = .ok (.isub, 1) := by decide +kernel
theorem dX4_way_135 : decode cX4_way 135 = .ok (.invokevirtual 124, 3) := by decide +kernel
theorem dX4_way_138 : decode cX4_way 138 = .ok (.ireturn, 1) := by decide +kernel
set_option maxRecDepth 20000 in
theorem ggX4_level_X3_countAtDepth : GoodIn wsX4_level wsX3_countAtDepth := goodIn_r _ [6, 7, 8, 9, 10, 5, 11, 12, 13, 14, 15, 16, 17, 18, 19, 28, 29, 30, 31, 32] (by decide +kernel) (by decide +kernel)
set_option maxRecDepth 20000 in
theorem gX4_level_X3_countAtDepth : GoodIn wsX4_level (wsV RX4 130 RX3 yX3_countAtDepth wsX3_countAtDepth) := goodIn_app (goodIn_of _ (by decide +kernel)) ggX4_level_X3_countAtDepth
set_option maxRecDepth 20000 in
theorem ggX4_level_X3_findAtDepth : GoodIn wsX4_level wsX3_findAtDepth := goodIn_r _ [23, 7, 8, 9, 10, 5, 11, 12, 13, 14, 15, 16, 17, 18, 19, 28, 29, 30, 31, 32] (by decide +kernel) (by decide +kernel)
set_option maxRecDepth 20000 in
theorem gX4_level_X3_findAtDepth : GoodIn wsX4_level (wsV RX4 133 RX3 yX3_findAtDepth wsX3_findAtDepth) := goodIn_app (goodIn_of _ (by decide +kernel)) ggX4_level_X3_findAtDepth
theorem dX4_level_0 : decode cX4_level 0 = .ok (.iload_n 1, 1) := by decide +kernel
theorem dX4_level_1 : decode cX4_level 1 = .ok (.ifCond .lt 8, 3) := by decide +kernel
theorem dX4_level_4 : decode cX4_level 4 = .ok (.iload_n 2, 1) := by decide +kernel
theorem dX4_level_5 : decode cX4_level 5 = .ok (.iconst (-1), 1) := by decide +kernel
theorem dX4_level_6 : decode cX4_level 6 = .ok (.if_icmp .ge 6, 3) := by decide +kernel
theorem dX4_level_9 : decode cX4_level 9 = .ok (.bipush (-2), 2) := by decide +kernel
theorem dX4_level_11 : decode cX4_level 11 = .ok (.ireturn, 1) := by decide +kernel
theorem dX4_level_12 : decode cX4_level 12 = .ok (.iload_n 2, 1) := by decide +kernel
theorem dX4_level_13 : decode cX4_level 13 = .ok (.iconst (-1), 1) := by decide +kernel
theorem dX4_level_14 : decode cX4_level 14 = .ok (.if_icmp .ne 14, 3) := by decide +kernel
theorem dX4_level_17 : decode cX4_level 17 = .ok (.aload_n 0, 1) := by decide +kernel
theorem dX4_level_18 : decode cX4_level 18 = .ok (.getfield 10, 3) := by decide +kernel
theorem dX4_level_21 : decode cX4_level 21 = .ok (.iload_n 1, 1) := by decide +kernel
theorem dX4_level_22 : decode cX4_level 22 = .ok (.invokevirtual 130, 3) := by decide +kernel
theorem dX4_level_25 : decode cX4_level 25 = .ok (.goto 12, 3) := by decide +kernel
theorem dX4_level_28 : decode cX4_level 28 = .ok (.aload_n 0, 1) := by decide +kernel
theorem dX4_level_29 : decode cX4_level 29 = .ok (.getfield 10, 3) := by decide +kernel
theorem dX4_level_32 : decode cX4_level 32 = .ok (.iload_n 1, 1) := by decide +kernel
theorem dX4_level_33 : decode cX4_level 33 = .ok (.iload_n 2, 1) := by decide +kernel
theorem dX4_level_34 : decode cX4_level 34 = .ok (.invokevirtual 133, 3) := by decide +kernel
theorem dX4_level_37 : decode cX4_level 37 = .ok (.ireturn, 1) := by decide +kernel
set_option maxRecDepth 20000 in
theorem ggX4_byPostorder_X3_count : GoodIn wsX4_byPostorder wsX3_count := goodIn_r _ [6, 7, 36, 37, 38, 39, 40] (by decide +kernel) (by decide +kernel)
set_option maxRecDepth 20000 in
theorem gX4_byPostorder_X3_count : GoodIn wsX4_byPostorder (wsV RX4 55 RX3 yX3_count wsX3_count) := goodIn_app (goodIn_of _ (by decide +kernel)) ggX4_byPostorder_X3_count
set_option maxRecDepth 20000 in
theorem ggX4_byPostorder_X3_findByPostorder : GoodIn wsX4_byPostorder wsX3_findByPostorder := goodIn_r _ [11, 7, 12, 13, 14, 5, 15, 16, 17, 18, 19, 20, 21, 22, 23, 24, 25, 26, 27, 28, 29, 30, 31, 36, 37, 38, 39, 40] (by decide +kernel) (by decide +kernel)
set_option maxRecDepth 20000 in
theorem gX4_byPostorder_X3_findByPostorder : GoodIn wsX4_byPostorder (wsV RX4 136 RX3 yX3_findByPostorder wsX3_findByPostorder) := goodIn_app (goodIn_of _ (by decide +kernel)) ggX4_byPostorder_X3_findByPostorder
theorem dX4_byPostorder_0 : decode cX4_byPostorder 0 = .ok (.iload_n 1, 1) := by decide +kernel
theorem dX4_byPostorder_1 : decode cX4_byPostorder 1 = .ok (.ifCond .lt 14, 3) := by decide +kernel
theorem dX4_byPostorder_4 : decode cX4_byPostorder 4 = .ok (.iload_n 1, 1) := by decide +kernel
theorem dX4_byPostorder_5 : decode cX4_byPostorder 5 = .ok (.aload_n 0, 1) := by decide +kernel
theorem dX4_byPostorder_6 : decode cX4_byPostorder 6 = .ok (.getfield 10, 3) := by decide +kernel
theorem dX4_byPostorder_9 : decode cX4_byPostorder 9 = .ok (.invokevirtual 55, 3) := by decide +kernel
theorem dX4_byPostorder_12 : decode cX4_byPostorder 12 = .ok (.if_icmp .lt 6, 3) := by decide +kernel
theorem dX4_byPostorder_15 : decode cX4_byPostorder 15 = .ok (.bipush (-2), 2) := by decide +kernel
theorem dX4_byPostorder_17 : decode cX4_byPostorder 17 = .ok (.ireturn, 1) := by decide +kernel
theorem dX4_byPostorder_18 : decode cX4_byPostorder 18 = .ok (.aload_n 0, 1) := by decide +kernel
theorem dX4_byPostorder_19 : decode cX4_byPostorder 19 = .ok (.getfield 10, 3) := by decide +kernel
theorem dX4_byPostorder_22 : decode cX4_byPostorder 22 = .ok (.iload_n 1, 1) := by decide +kernel
theorem dX4_byPostorder_23 : decode cX4_byPostorder 23 = .ok (.invokevirtual 136, 3) := by decide +kernel
theorem dX4_byPostorder_26 : decode cX4_byPostorder 26 = .ok (.ireturn, 1) := by decide +kernel
set_option maxRecDepth 20000 in
theorem ggX4_deepest_X3_has : GoodIn wsX4_deepest wsX3_has := goodIn_r _ [6, 7, 29, 30, 31, 32, 33] (by decide +kernel) (by decide +kernel)
set_option maxRecDepth 20000 in
theorem gX4_deepest_X3_has : GoodIn wsX4_deepest (wsV RX4 65 RX3 yX3_has wsX3_has) := goodIn_app (goodIn_of _ (by decide +kernel)) ggX4_deepest_X3_has
set_option maxRecDepth 20000 in
theorem ggX4_deepest_X3_deepestOf : GoodIn wsX4_deepest wsX3_deepestOf := goodIn_r _ [11, 12, 13, 14, 5, 15, 7, 16, 17, 18, 19, 20, 21, 3, 4, 6, 22, 23, 24, 29, 30, 31, 32, 33] (by decide +kernel) (by decide +kernel)
set_option maxRecDepth 20000 in
theorem gX4_deepest_X3_deepestOf : GoodIn wsX4_deepest (wsV RX4 81 RX3 yX3_deepestOf wsX3_deepestOf) := goodIn_app (goodIn_of _ (by decide +kernel)) ggX4_deepest_X3_deepestOf
theorem dX4_deepest_0 : decode cX4_deepest 0 = .ok (.aload_n 0, 1) := by decide +kernel
theorem dX4_deepest_1 : decode cX4_deepest 1 = .ok (.getfield 10, 3) := by decide +kernel
theorem dX4_deepest_4 : decode cX4_deepest 4 = .ok (.iload_n 1, 1) := by decide +kernel
theorem dX4_deepest_5 : decode cX4_deepest 5 = .ok (.invokevirtual 65, 3) := by decide +kernel
theorem dX4_deepest_8 : decode cX4_deepest 8 = .ok (.ifCond .eq 14, 3) := by decide +kernel
theorem dX4_deepest_11 : decode cX4_deepest 11 = .ok (.aload_n 0, 1) := by decide +kernel
theorem dX4_deepest_12 : decode cX4_deepest 12 = .ok (.getfield 10, 3) := by decide +kernel
theorem dX4_deepest_15 : decode cX4_deepest 15 = .ok (.iload_n 1, 1) := by decide +kernel
theorem dX4_deepest_16 : decode cX4_deepest 16 = .ok (.invokevirtual 81, 3) := by decide +kernel
theorem dX4_deepest_19 : decode cX4_deepest 19 = .ok (.goto 4, 3) := by decide +kernel
theorem dX4_deepest_22 : decode cX4_deepest 22 = .ok (.iconst (-1), 1) := by decide +kernel
theorem dX4_deepest_23 : decode cX4_deepest 23 = .ok (.ireturn, 1) := by decide +kernel
set_option maxRecDepth 20000 in
theorem ggX4_bracket_X3_positionCount : GoodIn wsX4_bracket wsX3_positionCount := goodIn_r _ [6, 7, 62, 63, 64, 65, 66] (by decide +kernel) (by decide +kernel)
set_option maxRecDepth 20000 in
theorem gX4_bracket_X3_positionCount : GoodIn wsX4_bracket (wsV RX4 139 RX3 yX3_positionCount wsX3_positionCount) := goodIn_app (goodIn_of _ (by decide +kernel)) ggX4_bracket_X3_positionCount
set_option maxRecDepth 20000 in
theorem ggX4_bracket_X3_nodeOfPosition : GoodIn wsX4_bracket wsX3_nodeOfPosition := goodIn_r _ [11, 12, 13, 14, 5, 15, 7, 16, 17, 18, 19, 20, 21, 22, 23, 24, 25, 26, 27, 28, 29, 30, 31, 32, 33, 34, 35, 36, 37, 38, 39, 62, 63, 64, 65, 66] (by decide +kernel) (by decide +kernel)
set_option maxRecDepth 20000 in
theorem gX4_bracket_X3_nodeOfPosition : GoodIn wsX4_bracket (wsV RX4 142 RX3 yX3_nodeOfPosition wsX3_nodeOfPosition) := goodIn_app (goodIn_of _ (by decide +kernel)) ggX4_bracket_X3_nodeOfPosition
set_option maxRecDepth 20000 in
theorem ggX4_bracket_X3_openingOf : GoodIn wsX4_bracket wsX3_openingOf := goodIn_r _ [19, 20, 21, 22, 5, 23, 24, 25, 26, 27, 28, 7, 29, 30, 31, 62, 63, 64, 65, 66] (by decide +kernel) (by decide +kernel)
set_option maxRecDepth 20000 in
theorem gX4_bracket_X3_openingOf : GoodIn wsX4_bracket (wsV RX4 90 RX3 yX3_openingOf wsX3_openingOf) := goodIn_app (goodIn_of _ (by decide +kernel)) ggX4_bracket_X3_openingOf
set_option maxRecDepth 20000 in
theorem ggX4_bracket_X3_excessBefore : GoodIn wsX4_bracket wsX3_excessBefore := goodIn_r _ [35, 12, 13, 14, 5, 15, 7, 16, 17, 18, 19, 20, 21, 22, 23, 24, 25, 26, 27, 28, 29, 30, 31, 62, 63, 64, 65, 66] (by decide +kernel) (by decide +kernel)
set_option maxRecDepth 20000 in
theorem gX4_bracket_X3_excessBefore : GoodIn wsX4_bracket (wsV RX4 145 RX3 yX3_excessBefore wsX3_excessBefore) := goodIn_app (goodIn_of _ (by decide +kernel)) ggX4_bracket_X3_excessBefore
set_option maxRecDepth 20000 in
theorem ggX4_bracket_X3_closingOf : GoodIn wsX4_bracket wsX3_closingOf := goodIn_r _ [45, 16, 17, 18, 5, 19, 20, 21, 22, 23, 24, 25, 26, 27, 28, 7, 29, 30, 31, 46, 47, 48, 49, 50, 51, 52, 53, 62, 63, 64, 65, 66] (by decide +kernel) (by decide +kernel)
set_option maxRecDepth 20000 in
theorem gX4_bracket_X3_closingOf : GoodIn wsX4_bracket (wsV RX4 93 RX3 yX3_closingOf wsX3_closingOf) := goodIn_app (goodIn_of _ (by decide +kernel)) ggX4_bracket_X3_closingOf
set_option maxRecDepth 20000 in
theorem ggX4_bracket_X3_parentOf : GoodIn wsX4_bracket wsX3_parentOf := goodIn_r _ [57, 20, 21, 22, 5, 23, 24, 25, 26, 27, 28, 7, 29, 30, 31, 36, 37, 38, 39, 62, 63, 64, 65, 66] (by decide +kernel) (by decide +kernel)
set_option maxRecDepth 20000 in
theorem gX4_bracket_X3_parentOf : GoodIn wsX4_bracket (wsV RX4 72 RX3 yX3_parentOf wsX3_parentOf) := goodIn_app (goodIn_of _ (by decide +kernel)) ggX4_bracket_X3_parentOf
theorem dX4_bracket_0 : decode cX4_bracket 0 = .ok (.iload_n 1, 1) := by decide +kernel
theorem dX4_bracket_1 : decode cX4_bracket 1 = .ok (.ifCond .lt 14, 3) := by decide +kernel
theorem dX4_bracket_4 : decode cX4_bracket 4 = .ok (.iload_n 1, 1) := by decide +kernel
theorem dX4_bracket_5 : decode cX4_bracket 5 = .ok (.aload_n 0, 1) := by decide +kernel
theorem dX4_bracket_6 : decode cX4_bracket 6 = .ok (.getfield 10, 3) := by decide +kernel
theorem dX4_bracket_9 : decode cX4_bracket 9 = .ok (.invokevirtual 139, 3) := by decide +kernel
theorem dX4_bracket_12 : decode cX4_bracket 12 = .ok (.if_icmp .lt 5, 3) := by decide +kernel
theorem dX4_bracket_15 : decode cX4_bracket 15 = .ok (.iconst (-1), 1) := by decide +kernel
theorem dX4_bracket_16 : decode cX4_bracket 16 = .ok (.ireturn, 1) := by decide +kernel
theorem dX4_bracket_17 : decode cX4_bracket 17 = .ok (.aload_n 0, 1) := by decide +kernel
theorem dX4_bracket_18 : decode cX4_bracket 18 = .ok (.getfield 10, 3) := by decide +kernel
theorem dX4_bracket_21 : decode cX4_bracket 21 = .ok (.iload_n 1, 1) := by decide +kernel
theorem dX4_bracket_22 : decode cX4_bracket 22 = .ok (.invokevirtual 142, 3) := by decide +kernel
theorem dX4_bracket_25 : decode cX4_bracket 25 = .ok (.istore_n 3, 1) := by decide +kernel
theorem dX4_bracket_26 : decode cX4_bracket 26 = .ok (.aload_n 0, 1) := by decide +kernel
theorem dX4_bracket_27 : decode cX4_bracket 27 = .ok (.getfield 10, 3) := by decide +kernel
theorem dX4_bracket_30 : decode cX4_bracket 30 = .ok (.iload_n 3, 1) := by decide +kernel
theorem dX4_bracket_31 : decode cX4_bracket 31 = .ok (.invokevirtual 90, 3) := by decide +kernel
theorem dX4_bracket_34 : decode cX4_bracket 34 = .ok (.iload_n 1, 1) := by decide +kernel
theorem dX4_bracket_35 : decode cX4_bracket 35 = .ok (.if_icmp .ne 7, 3) := by decide +kernel
theorem dX4_bracket_38 : decode cX4_bracket 38 = .ok (.iconst 1, 1) := by decide +kernel
theorem dX4_bracket_39 : decode cX4_bracket 39 = .ok (.goto 4, 3) := by decide +kernel
theorem dX4_bracket_42 : decode cX4_bracket 42 = .ok (.iconst 0, 1) := by decide +kernel
theorem dX4_bracket_43 : decode cX4_bracket 43 = .ok (.istore 4, 2) := by decide +kernel
theorem dX4_bracket_45 : decode cX4_bracket 45 = .ok (.iload_n 2, 1) := by decide +kernel
theorem dX4_bracket_46 : decode cX4_bracket 46 = .ok (.tableswitch 108 0 4 #[34, 45, 56, 81, 106], 34) := by decide +kernel
theorem dX4_bracket_80 : decode cX4_bracket 80 = .ok (.iload 4, 2) := by decide +kernel
theorem dX4_bracket_82 : decode cX4_bracket 82 = .ok (.ifCond .eq 7, 3) := by decide +kernel
theorem dX4_bracket_85 : decode cX4_bracket 85 = .ok (.iconst 1, 1) := by decide +kernel
theorem dX4_bracket_86 : decode cX4_bracket 86 = .ok (.goto 4, 3) := by decide +kernel
theorem dX4_bracket_89 : decode cX4_bracket 89 = .ok (.iconst 0, 1) := by decide +kernel
theorem dX4_bracket_90 : decode cX4_bracket 90 = .ok (.ireturn, 1) := by decide +kernel
theorem dX4_bracket_91 : decode cX4_bracket 91 = .ok (.aload_n 0, 1) := by decide +kernel
theorem dX4_bracket_92 : decode cX4_bracket 92 = .ok (.getfield 10, 3) := by decide +kernel
theorem dX4_bracket_95 : decode cX4_bracket 95 = .ok (.iload_n 1, 1) := by decide +kernel
theorem dX4_bracket_96 : decode cX4_bracket 96 = .ok (.iconst 1, 1) := by decide +kernel
theorem dX4_bracket_97 : decode cX4_bracket 97 = .ok (.iadd, 1) := by decide +kernel
theorem dX4_bracket_98 : decode cX4_bracket 98 = .ok (.invokevirtual 145, 3) := by decide +kernel
theorem dX4_bracket_101 : decode cX4_bracket 101 = .ok (.ireturn, 1) := by decide +kernel
theorem dX4_bracket_102 : decode cX4_bracket 102 = .ok (.iload 4, 2) := by decide +kernel
theorem dX4_bracket_104 : decode cX4_bracket 104 = .ok (.ifCond .eq 14, 3) := by decide +kernel
theorem dX4_bracket_107 : decode cX4_bracket 107 = .ok (.aload_n 0, 1) := by decide +kernel
theorem dX4_bracket_108 : decode cX4_bracket 108 = .ok (.getfield 10, 3) := by decide +kernel
theorem dX4_bracket_111 : decode cX4_bracket 111 = .ok (.iload_n 3, 1) := by decide +kernel
theorem dX4_bracket_112 : decode cX4_bracket 112 = .ok (.invokevirtual 93, 3) := by decide +kernel
theorem dX4_bracket_115 : decode cX4_bracket 115 = .ok (.goto 11, 3) := by decide +kernel
theorem dX4_bracket_118 : decode cX4_bracket 118 = .ok (.aload_n 0, 1) := by decide +kernel
theorem dX4_bracket_119 : decode cX4_bracket 119 = .ok (.getfield 10, 3) := by decide +kernel
theorem dX4_bracket_122 : decode cX4_bracket 122 = .ok (.iload_n 3, 1) := by decide +kernel
theorem dX4_bracket_123 : decode cX4_bracket 123 = .ok (.invokevirtual 90, 3) := by decide +kernel
theorem dX4_bracket_126 : decode cX4_bracket 126 = .ok (.ireturn, 1) := by decide +kernel
theorem dX4_bracket_127 : decode cX4_bracket 127 = .ok (.iload_n 3, 1) := by decide +kernel
theorem dX4_bracket_128 : decode cX4_bracket 128 = .ok (.ifCond .ne 8, 3) := by decide +kernel
theorem dX4_bracket_131 : decode cX4_bracket 131 = .ok (.bipush (-5), 2) := by decide +kernel
theorem dX4_bracket_133 : decode cX4_bracket 133 = .ok (.goto 18, 3) := by decide +kernel
theorem dX4_bracket_136 : decode cX4_bracket 136 = .ok (.aload_n 0, 1) := by decide +kernel
theorem dX4_bracket_137 : decode cX4_bracket 137 = .ok (.getfield 10, 3) := by decide +kernel
theorem dX4_bracket_140 : decode cX4_bracket 140 = .ok (.aload_n 0, 1) := by decide +kernel
theorem dX4_bracket_141 : decode cX4_bracket 141 = .ok (.getfield 10, 3) := by decide +kernel
theorem dX4_bracket_144 : decode cX4_bracket 144 = .ok (.iload_n 3, 1) := by decide +kernel
theorem dX4_bracket_145 : decode cX4_bracket 145 = .ok (.invokevirtual 72, 3) := by decide +kernel
theorem dX4_bracket_148 : decode cX4_bracket 148 = .ok (.invokevirtual 90, 3) := by decide +kernel
theorem dX4_bracket_151 : decode cX4_bracket 151 = .ok (.ireturn, 1) := by decide +kernel
theorem dX4_bracket_152 : decode cX4_bracket 152 = .ok (.iload_n 3, 1) := by decide +kernel
theorem dX4_bracket_153 : decode cX4_bracket 153 = .ok (.ireturn, 1) := by decide +kernel
theorem dX4_bracket_154 : decode cX4_bracket 154 = .ok (.bipush (-2), 2) := by decide +kernel
theorem dX4_bracket_156 : decode cX4_bracket 156 = .ok (.ireturn, 1) := by decide +kernel
set_option maxRecDepth 20000 in
theorem ggX4_setWidth_X0_changeWidth : GoodIn wsX4_setWidth wsX0_changeWidth := goodIn_r _ [6, 7, 12] (by decide +kernel) (by decide +kernel)
set_option maxRecDepth 20000 in
theorem gX4_setWidth_X0_changeWidth : GoodIn wsX4_setWidth (wsV RX4 148 RX0 yX0_changeWidth wsX0_changeWidth) := goodIn_app (goodIn_of _ (by decide +kernel)) ggX4_setWidth_X0_changeWidth
theorem dX4_setWidth_0 : decode cX4_setWidth 0 = .ok (.iload_n 1, 1) := by decide +kernel
theorem dX4_setWidth_1 : decode cX4_setWidth 1 = .ok (.iconst 4, 1) := by decide +kernel
theorem dX4_setWidth_2 : decode cX4_setWidth 2 = .ok (.if_icmp .lt 9, 3) := by decide +kernel
theorem dX4_setWidth_5 : decode cX4_setWidth 5 = .ok (.iload_n 1, 1) := by decide +kernel
theorem dX4_setWidth_6 : decode cX4_setWidth 6 = .ok (.bipush 32, 2) := by decide +kernel
theorem dX4_setWidth_8 : decode cX4_setWidth 8 = .ok (.if_icmp .le 6, 3) := by decide +kernel
theorem dX4_setWidth_11 : decode cX4_setWidth 11 = .ok (.bipush (-2), 2) := by decide +kernel
theorem dX4_setWidth_13 : decode cX4_setWidth 13 = .ok (.ireturn, 1) := by decide +kernel
theorem dX4_setWidth_14 : decode cX4_setWidth 14 = .ok (.aload_n 0, 1) := by decide +kernel
theorem dX4_setWidth_15 : decode cX4_setWidth 15 = .ok (.getfield 19, 3) := by decide +kernel
theorem dX4_setWidth_18 : decode cX4_setWidth 18 = .ok (.iload_n 1, 1) := by decide +kernel
theorem dX4_setWidth_19 : decode cX4_setWidth 19 = .ok (.invokevirtual 148, 3) := by decide +kernel
theorem dX4_setWidth_22 : decode cX4_setWidth 22 = .ok (.ireturn, 1) := by decide +kernel
set_option maxRecDepth 20000 in
theorem ggX4_block_X0_countFor : GoodIn wsX4_block wsX0_countFor := goodIn_r _ [7, 8, 9, 10, 11, 12, 13, 14, 15, 16, 17, 18, 76, 77, 78, 79, 80, 81] (by decide +kernel) (by decide +kernel)
set_option maxRecDepth 20000 in
theorem gX4_block_X0_countFor : GoodIn wsX4_block (wsV RX4 151 RX0 yX0_countFor wsX0_countFor) := goodIn_app (goodIn_of _ (by decide +kernel)) ggX4_block_X0_countFor
set_option maxRecDepth 20000 in
theorem ggX4_block_X0_startOf : GoodIn wsX4_block wsX0_startOf := goodIn_r _ [22, 8, 76] (by decide +kernel) (by decide +kernel)
set_option maxRecDepth 20000 in
theorem gX4_block_X0_startOf : GoodIn wsX4_block (wsV RX4 155 RX0 yX0_startOf wsX0_startOf) := goodIn_app (goodIn_of _ (by decide +kernel)) ggX4_block_X0_startOf
set_option maxRecDepth 20000 in
theorem ggX4_block_X3_excessBefore : GoodIn wsX4_block wsX3_excessBefore := goodIn_r _ [26, 27, 28, 29, 16, 30, 18, 31, 32, 33, 34, 35, 36, 37, 38, 39, 40, 41, 42, 43, 44, 45, 46, 77, 78, 79, 80, 81] (by decide +kernel) (by decide +kernel)
set_option maxRecDepth 20000 in
theorem gX4_block_X3_excessBefore : GoodIn wsX4_block (wsV RX4 145 RX3 yX3_excessBefore wsX3_excessBefore) := goodIn_app (goodIn_of _ (by decide +kernel)) ggX4_block_X3_excessBefore
set_option maxRecDepth 20000 in
theorem ggX4_block_X0_leastExcess : GoodIn wsX4_block wsX0_leastExcess := goodIn_r _ [50, 51, 52, 11, 53, 54, 55, 56, 6, 57, 8, 58, 20, 21, 22, 13, 14, 15, 16, 17, 18, 59, 28, 29, 30, 31, 32, 33, 34, 35, 36, 37, 38, 39, 40, 41, 42, 43, 44, 45, 46, 60, 61, 62, 63, 76, 77, 78, 79, 80, 81] (by decide +kernel) (by decide +kernel)
set_option maxRecDepth 20000 in
theorem gX4_block_X0_leastExcess : GoodIn wsX4_block (wsV RX4 158 RX0 yX0_leastExcess wsX0_leastExcess) := goodIn_app (goodIn_of _ (by decide +kernel)) ggX4_block_X0_leastExcess
set_option maxRecDepth 20000 in
theorem ggX4_block_X0_greatestExcess : GoodIn wsX4_block wsX0_greatestExcess := goodIn_r _ [67, 9, 10, 11, 12, 54, 55, 56, 6, 57, 8, 51, 52, 53, 58, 20, 21, 22, 13, 14, 15, 16, 17, 18, 59, 28, 29, 30, 31, 32, 33, 34, 35, 36, 37, 38, 39, 40, 41, 42, 43, 44, 45, 46, 60, 61, 62, 63, 76, 77, 78, 79, 80, 81] (by decide +kernel) (by decide +kernel)
set_option maxRecDepth 20000 in
theorem gX4_block_X0_greatestExcess : GoodIn wsX4_block (wsV RX4 162 RX0 yX0_greatestExcess wsX0_greatestExcess) := goodIn_app (goodIn_of _ (by decide +kernel)) ggX4_block_X0_greatestExcess
set_option maxRecDepth 20000 in
theorem ggX4_block_X0_positionsOf : GoodIn wsX4_block wsX0_positionsOf := goodIn_r _ [71, 54, 55, 56, 6, 57, 8, 51, 52, 11, 53, 58, 20, 21, 22, 13, 14, 15, 16, 17, 18, 76, 77, 78, 79, 80, 81] (by decide +kernel) (by decide +kernel)
set_option maxRecDepth 20000 in
theorem gX4_block_X0_positionsOf : GoodIn wsX4_block (wsV RX4 165 RX0 yX0_positionsOf wsX0_positionsOf) := goodIn_app (goodIn_of _ (by decide +kernel)) ggX4_block_X0_positionsOf
theorem dX4_block_0 : decode cX4_block 0 = .ok (.iload_n 1, 1) := by decide +kernel
theorem dX4_block_1 : decode cX4_block 1 = .ok (.ifCond .lt 18, 3) := by decide +kernel
theorem dX4_block_4 : decode cX4_block 4 = .ok (.iload_n 1, 1) := by decide +kernel
theorem dX4_block_5 : decode cX4_block 5 = .ok (.aload_n 0, 1) := by decide +kernel
theorem dX4_block_6 : decode cX4_block 6 = .ok (.getfield 19, 3) := by decide +kernel
theorem dX4_block_9 : decode cX4_block 9 = .ok (.aload_n 0, 1) := by decide +kernel
theorem dX4_block_10 : decode cX4_block 10 = .ok (.getfield 10, 3) := by decide +kernel
theorem dX4_block_13 : decode cX4_block 13 = .ok (.invokevirtual 151, 3) := by decide +kernel
theorem dX4_block_16 : decode cX4_block 16 = .ok (.if_icmp .lt 5, 3) := by decide +kernel
theorem dX4_block_19 : decode cX4_block 19 = .ok (.iconst (-1), 1) := by decide +kernel
theorem dX4_block_20 : decode cX4_block 20 = .ok (.ireturn, 1) := by decide +kernel
theorem dX4_block_21 : decode cX4_block 21 = .ok (.iload_n 2, 1) := by decide +kernel
theorem dX4_block_22 : decode cX4_block 22 = .ok (.tableswitch 85 0 3 #[30, 46, 59, 72], 30) := by decide +kernel
theorem dX4_block_52 : decode cX4_block 52 = .ok (.aload_n 0, 1) := by decide +kernel
theorem dX4_block_53 : decode cX4_block 53 = .ok (.getfield 10, 3) := by decide +kernel
theorem dX4_block_56 : decode cX4_block 56 = .ok (.aload_n 0, 1) := by decide +kernel
theorem dX4_block_57 : decode cX4_block 57 = .ok (.getfield 19, 3) := by decide +kernel
theorem dX4_block_60 : decode cX4_block 60 = .ok (.iload_n 1, 1) := by decide +kernel
theorem dX4_block_61 : decode cX4_block 61 = .ok (.invokevirtual 155, 3) := by decide +kernel
theorem dX4_block_64 : decode cX4_block 64 = .ok (.invokevirtual 145, 3) := by decide +kernel
theorem dX4_block_67 : decode cX4_block 67 = .ok (.ireturn, 1) := by decide +kernel
theorem dX4_block_68 : decode cX4_block 68 = .ok (.aload_n 0, 1) := by decide +kernel
theorem dX4_block_69 : decode cX4_block 69 = .ok (.getfield 19, 3) := by decide +kernel
theorem dX4_block_72 : decode cX4_block 72 = .ok (.aload_n 0, 1) := by decide +kernel
theorem dX4_block_73 : decode cX4_block 73 = .ok (.getfield 10, 3) := by decide +kernel
theorem dX4_block_76 : decode cX4_block 76 = .ok (.iload_n 1, 1) := by decide +kernel
theorem dX4_block_77 : decode cX4_block 77 = .ok (.invokevirtual 158, 3) := by decide +kernel
theorem dX4_block_80 : decode cX4_block 80 = .ok (.ireturn, 1) := by decide +kernel
theorem dX4_block_81 : decode cX4_block 81 = .ok (.aload_n 0, 1) := by decide +kernel
theorem dX4_block_82 : decode cX4_block 82 = .ok (.getfield 19, 3) := by decide +kernel
theorem dX4_block_85 : decode cX4_block 85 = .ok (.aload_n 0, 1) := by decide +kernel
theorem dX4_block_86 : decode cX4_block 86 = .ok (.getfield 10, 3) := by decide +kernel
theorem dX4_block_89 : decode cX4_block 89 = .ok (.iload_n 1, 1) := by decide +kernel
theorem dX4_block_90 : decode cX4_block 90 = .ok (.invokevirtual 162, 3) := by decide +kernel
theorem dX4_block_93 : decode cX4_block 93 = .ok (.ireturn, 1) := by decide +kernel
theorem dX4_block_94 : decode cX4_block 94 = .ok (.aload_n 0, 1) := by decide +kernel
theorem dX4_block_95 : decode cX4_block 95 = .ok (.getfield 19, 3) := by decide +kernel
theorem dX4_block_98 : decode cX4_block 98 = .ok (.aload_n 0, 1) := by decide +kernel
theorem dX4_block_99 : decode cX4_block 99 = .ok (.getfield 10, 3) := by decide +kernel
theorem dX4_block_102 : decode cX4_block 102 = .ok (.iload_n 1, 1) := by decide +kernel
theorem dX4_block_103 : decode cX4_block 103 = .ok (.invokevirtual 165, 3) := by decide +kernel
theorem dX4_block_106 : decode cX4_block 106 = .ok (.ireturn, 1) := by decide +kernel
theorem dX4_block_107 : decode cX4_block 107 = .ok (.bipush (-2), 2) := by decide +kernel
theorem dX4_block_109 : decode cX4_block 109 = .ok (.ireturn, 1) := by decide +kernel
set_option maxRecDepth 20000 in
theorem ggX4_space_X3_count : GoodIn wsX4_space wsX3_count := goodIn_r _ [7, 8, 31, 32, 33, 34, 35] (by decide +kernel) (by decide +kernel)
set_option maxRecDepth 20000 in
theorem gX4_space_X3_count : GoodIn wsX4_space (wsV RX4 55 RX3 yX3_count wsX3_count) := goodIn_app (goodIn_of _ (by decide +kernel)) ggX4_space_X3_count
set_option maxRecDepth 20000 in
theorem ggX4_space_X4_binaryDigits : GoodIn wsX4_space wsX4_binaryDigits := goodIn_r _ [12] (by decide +kernel) (by decide +kernel)
set_option maxRecDepth 20000 in
theorem gX4_space_X4_binaryDigits : GoodIn wsX4_space (va_wsS RX4 168 yX4_binaryDigits wsX4_binaryDigits) := goodIn_app (goodIn_of _ (by decide +kernel)) ggX4_space_X4_binaryDigits
set_option maxRecDepth 20000 in
theorem ggX4_space_X0_countFor : GoodIn wsX4_space wsX0_countFor := goodIn_r _ [17, 18, 19, 20, 21, 22, 23, 24, 25, 6, 26, 8, 36, 31, 32, 33, 34, 35] (by decide +kernel) (by decide +kernel)
set_option maxRecDepth 20000 in
theorem gX4_space_X0_countFor : GoodIn wsX4_space (wsV RX4 151 RX0 yX0_countFor wsX0_countFor) := goodIn_app (goodIn_of _ (by decide +kernel)) ggX4_space_X0_countFor
theorem dX4_space_0 : decode cX4_space 0 = .ok (.iconst 2, 1) := by decide +kernel
theorem dX4_space_1 : decode cX4_space 1 = .ok (.aload_n 0, 1) := by decide +kernel
theorem dX4_space_2 : decode cX4_space 2 = .ok (.getfield 10, 3) := by decide +kernel
theorem dX4_space_5 : decode cX4_space 5 = .ok (.invokevirtual 55, 3) := by decide +kernel
theorem dX4_space_8 : decode cX4_space 8 = .ok (.imul, 1) := by decide +kernel
theorem dX4_space_9 : decode cX4_space 9 = .ok (.istore_n 2, 1) := by decide +kernel
theorem dX4_space_10 : decode cX4_space 10 = .ok (.iconst 5, 1) := by decide +kernel
theorem dX4_space_11 : decode cX4_space 11 = .ok (.aload_n 0, 1) := by decide +kernel
theorem dX4_space_12 : decode cX4_space 12 = .ok (.getfield 10, 3) := by decide +kernel
theorem dX4_space_15 : decode cX4_space 15 = .ok (.invokevirtual 55, 3) := by decide +kernel
theorem dX4_space_18 : decode cX4_space 18 = .ok (.imul, 1) := by decide +kernel
theorem dX4_space_19 : decode cX4_space 19 = .ok (.istore_n 3, 1) := by decide +kernel
theorem dX4_space_20 : decode cX4_space 20 = .ok (.iconst 3, 1) := by decide +kernel
theorem dX4_space_21 : decode cX4_space 21 = .ok (.aload_n 0, 1) := by decide +kernel
theorem dX4_space_22 : decode cX4_space 22 = .ok (.getfield 10, 3) := by decide +kernel
theorem dX4_space_25 : decode cX4_space 25 = .ok (.invokevirtual 55, 3) := by decide +kernel
theorem dX4_space_28 : decode cX4_space 28 = .ok (.invokestatic 168, 3) := by decide +kernel
theorem dX4_space_31 : decode cX4_space 31 = .ok (.imul, 1) := by decide +kernel
theorem dX4_space_32 : decode cX4_space 32 = .ok (.aload_n 0, 1) := by decide +kernel
theorem dX4_space_33 : decode cX4_space 33 = .ok (.getfield 19, 3) := by decide +kernel
theorem dX4_space_36 : decode cX4_space 36 = .ok (.aload_n 0, 1) := by decide +kernel
theorem dX4_space_37 : decode cX4_space 37 = .ok (.getfield 10, 3) := by decide +kernel
theorem dX4_space_40 : decode cX4_space 40 = .ok (.invokevirtual 151, 3) := by decide +kernel
theorem dX4_space_43 : decode cX4_space 43 = .ok (.imul, 1) := by decide +kernel
theorem dX4_space_44 : decode cX4_space 44 = .ok (.istore 4, 2) := by decide +kernel
theorem dX4_space_46 : decode cX4_space 46 = .ok (.iload_n 1, 1) := by decide +kernel
theorem dX4_space_47 : decode cX4_space 47 = .ok (.tableswitch 59 0 4 #[33, 35, 37, 40, 47], 33) := by decide +kernel
theorem dX4_space_80 : decode cX4_space 80 = .ok (.iload_n 2, 1) := by decide +kernel
theorem dX4_space_81 : decode cX4_space 81 = .ok (.ireturn, 1) := by decide +kernel
theorem dX4_space_82 : decode cX4_space 82 = .ok (.iload_n 3, 1) := by decide +kernel
theorem dX4_space_83 : decode cX4_space 83 = .ok (.ireturn, 1) := by decide +kernel
theorem dX4_space_84 : decode cX4_space 84 = .ok (.iload 4, 2) := by decide +kernel
theorem dX4_space_86 : decode cX4_space 86 = .ok (.ireturn, 1) := by decide +kernel
theorem dX4_space_87 : decode cX4_space 87 = .ok (.iload_n 2, 1) := by decide +kernel
theorem dX4_space_88 : decode cX4_space 88 = .ok (.iload_n 3, 1) := by decide +kernel
theorem dX4_space_89 : decode cX4_space 89 = .ok (.iadd, 1) := by decide +kernel
theorem dX4_space_90 : decode cX4_space 90 = .ok (.iload 4, 2) := by decide +kernel
theorem dX4_space_92 : decode cX4_space 92 = .ok (.iadd, 1) := by decide +kernel
theorem dX4_space_93 : decode cX4_space 93 = .ok (.ireturn, 1) := by decide +kernel
theorem dX4_space_94 : decode cX4_space 94 = .ok (.aload_n 0, 1) := by decide +kernel
theorem dX4_space_95 : decode cX4_space 95 = .ok (.getfield 19, 3) := by decide +kernel
theorem dX4_space_98 : decode cX4_space 98 = .ok (.aload_n 0, 1) := by decide +kernel
theorem dX4_space_99 : decode cX4_space 99 = .ok (.getfield 10, 3) := by decide +kernel
theorem dX4_space_102 : decode cX4_space 102 = .ok (.invokevirtual 151, 3) := by decide +kernel
theorem dX4_space_105 : decode cX4_space 105 = .ok (.ireturn, 1) := by decide +kernel
theorem dX4_space_106 : decode cX4_space 106 = .ok (.bipush (-2), 2) := by decide +kernel
theorem dX4_space_108 : decode cX4_space 108 = .ok (.ireturn, 1) := by decide +kernel
set_option maxRecDepth 20000 in
theorem ggX4_setLabel_X3_has : GoodIn wsX4_setLabel wsX3_has := goodIn_r _ [7, 8, 56, 57, 58, 59, 60] (by decide +kernel) (by decide +kernel)
set_option maxRecDepth 20000 in
theorem gX4_setLabel_X3_has : GoodIn wsX4_setLabel (wsV RX4 65 RX3 yX3_has wsX3_has) := goodIn_app (goodIn_of _ (by decide +kernel)) ggX4_setLabel_X3_has
set_option maxRecDepth 20000 in
theorem ggX4_setLabel_X4_isLetter : GoodIn wsX4_setLabel wsX4_isLetter := goodIn_r _ [12] (by decide +kernel) (by decide +kernel)
set_option maxRecDepth 20000 in
theorem gX4_setLabel_X4_isLetter : GoodIn wsX4_setLabel (va_wsS RX4 171 yX4_isLetter wsX4_isLetter) := goodIn_app (goodIn_of _ (by decide +kernel)) ggX4_setLabel_X4_isLetter
set_option maxRecDepth 20000 in
theorem ggX4_setLabel_X3_labelOf : GoodIn wsX4_setLabel wsX3_labelOf := goodIn_r _ [16, 17, 18, 11, 19, 56, 57, 58, 59, 60] (by decide +kernel) (by decide +kernel)
set_option maxRecDepth 20000 in
theorem gX4_setLabel_X3_labelOf : GoodIn wsX4_setLabel (wsV RX4 99 RX3 yX3_labelOf wsX3_labelOf) := goodIn_app (goodIn_of _ (by decide +kernel)) ggX4_setLabel_X3_labelOf
set_option maxRecDepth 20000 in
theorem ggX4_setLabel_X1_record : GoodIn wsX4_setLabel wsX1_record := goodIn_r _ [24, 25, 26, 27, 28, 29, 30, 31, 32, 33, 34, 35, 36, 6, 37, 8, 38, 11, 39, 40, 41, 42, 43, 44, 45, 4, 5, 7, 18, 19, 46, 14, 15, 16, 17, 61, 62, 63, 64, 65, 56, 57, 58, 59, 60] (by decide +kernel) (by decide +kernel)
set_option maxRecDepth 20000 in
theorem gX4_setLabel_X1_record : GoodIn wsX4_setLabel (wsV RX4 48 RX1 yX1_record wsX1_record) := goodIn_app (goodIn_of _ (by decide +kernel)) ggX4_setLabel_X1_record
set_option maxRecDepth 20000 in
theorem ggX4_setLabel_X3_depthOf : GoodIn wsX4_setLabel wsX3_depthOf := goodIn_r _ [43, 44, 45, 4, 5, 6, 7, 8, 18, 11, 19, 56, 57, 58, 59, 60] (by decide +kernel) (by decide +kernel)
set_option maxRecDepth 20000 in
theorem gX4_setLabel_X3_depthOf : GoodIn wsX4_setLabel (wsV RX4 69 RX3 yX3_depthOf wsX3_depthOf) := goodIn_app (goodIn_of _ (by decide +kernel)) ggX4_setLabel_X3_depthOf
set_option maxRecDepth 20000 in
theorem ggX4_setLabel_X3_putNode : GoodIn wsX4_setLabel wsX3_putNode := goodIn_r _ [51, 44, 17, 38, 11, 39, 56, 57, 58, 59, 60] (by decide +kernel) (by decide +kernel)
set_option maxRecDepth 20000 in
theorem gX4_setLabel_X3_putNode : GoodIn wsX4_setLabel (wsV RX4 174 RX3 yX3_putNode wsX3_putNode) := goodIn_app (goodIn_of _ (by decide +kernel)) ggX4_setLabel_X3_putNode
theorem dX4_setLabel_0 : decode cX4_setLabel 0 = .ok (.aload_n 0, 1) := by decide +kernel
theorem dX4_setLabel_1 : decode cX4_setLabel 1 = .ok (.getfield 10, 3) := by decide +kernel
theorem dX4_setLabel_4 : decode cX4_setLabel 4 = .ok (.iload_n 1, 1) := by decide +kernel
theorem dX4_setLabel_5 : decode cX4_setLabel 5 = .ok (.invokevirtual 65, 3) := by decide +kernel
theorem dX4_setLabel_8 : decode cX4_setLabel 8 = .ok (.ifCond .ne 5, 3) := by decide +kernel
theorem dX4_setLabel_11 : decode cX4_setLabel 11 = .ok (.iconst (-1), 1) := by decide +kernel
theorem dX4_setLabel_12 : decode cX4_setLabel 12 = .ok (.ireturn, 1) := by decide +kernel
theorem dX4_setLabel_13 : decode cX4_setLabel 13 = .ok (.iload_n 2, 1) := by decide +kernel
theorem dX4_setLabel_14 : decode cX4_setLabel 14 = .ok (.invokestatic 171, 3) := by decide +kernel
theorem dX4_setLabel_17 : decode cX4_setLabel 17 = .ok (.ifCond .ne 6, 3) := by decide +kernel
theorem dX4_setLabel_20 : decode cX4_setLabel 20 = .ok (.bipush (-2), 2) := by decide +kernel
theorem dX4_setLabel_22 : decode cX4_setLabel 22 = .ok (.ireturn, 1) := by decide +kernel
theorem dX4_setLabel_23 : decode cX4_setLabel 23 = .ok (.aload_n 0, 1) := by decide +kernel
theorem dX4_setLabel_24 : decode cX4_setLabel 24 = .ok (.getfield 10, 3) := by decide +kernel
theorem dX4_setLabel_27 : decode cX4_setLabel 27 = .ok (.iload_n 1, 1) := by decide +kernel
theorem dX4_setLabel_28 : decode cX4_setLabel 28 = .ok (.invokevirtual 99, 3) := by decide +kernel
theorem dX4_setLabel_31 : decode cX4_setLabel 31 = .ok (.istore_n 3, 1) := by decide +kernel
theorem dX4_setLabel_32 : decode cX4_setLabel 32 = .ok (.aload_n 0, 1) := by decide +kernel
theorem dX4_setLabel_33 : decode cX4_setLabel 33 = .ok (.getfield 26, 3) := by decide +kernel
theorem dX4_setLabel_36 : decode cX4_setLabel 36 = .ok (.aload_n 0, 1) := by decide +kernel
theorem dX4_setLabel_37 : decode cX4_setLabel 37 = .ok (.getfield 10, 3) := by decide +kernel
theorem dX4_setLabel_40 : decode cX4_setLabel 40 = .ok (.invokevirtual 48, 3) := by decide +kernel
theorem dX4_setLabel_43 : decode cX4_setLabel 43 = .ok (.aload_n 0, 1) := by decide +kernel
theorem dX4_setLabel_44 : decode cX4_setLabel 44 = .ok (.getfield 10, 3) := by decide +kernel
theorem dX4_setLabel_47 : decode cX4_setLabel 47 = .ok (.iload_n 1, 1) := by decide +kernel
theorem dX4_setLabel_48 : decode cX4_setLabel 48 = .ok (.aload_n 0, 1) := by decide +kernel
theorem dX4_setLabel_49 : decode cX4_setLabel 49 = .ok (.getfield 10, 3) := by decide +kernel
theorem dX4_setLabel_52 : decode cX4_setLabel 52 = .ok (.iload_n 1, 1) := by decide +kernel
theorem dX4_setLabel_53 : decode cX4_setLabel 53 = .ok (.invokevirtual 69, 3) := by decide +kernel
theorem dX4_setLabel_56 : decode cX4_setLabel 56 = .ok (.iload_n 2, 1) := by decide +kernel
theorem dX4_setLabel_57 : decode cX4_setLabel 57 = .ok (.invokevirtual 174, 3) := by decide +kernel
theorem dX4_setLabel_60 : decode cX4_setLabel 60 = .ok (.iload_n 3, 1) := by decide +kernel
theorem dX4_setLabel_61 : decode cX4_setLabel 61 = .ok (.ireturn, 1) := by decide +kernel
set_option maxRecDepth 20000 in
theorem ggX4_labelled_X3_has : GoodIn wsX4_labelled wsX3_has := goodIn_r _ [6, 7, 37, 38, 39, 40, 41] (by decide +kernel) (by decide +kernel)
set_option maxRecDepth 20000 in
theorem gX4_labelled_X3_has : GoodIn wsX4_labelled (wsV RX4 65 RX3 yX3_has wsX3_has) := goodIn_app (goodIn_of _ (by decide +kernel)) ggX4_labelled_X3_has
set_option maxRecDepth 20000 in
theorem ggX4_labelled_X4_isLetter : GoodIn wsX4_labelled wsX4_isLetter := goodIn_r _ [11] (by decide +kernel) (by decide +kernel)
set_option maxRecDepth 20000 in
theorem gX4_labelled_X4_isLetter : GoodIn wsX4_labelled (va_wsS RX4 171 yX4_isLetter wsX4_isLetter) := goodIn_app (goodIn_of _ (by decide +kernel)) ggX4_labelled_X4_isLetter
set_option maxRecDepth 20000 in
theorem ggX4_labelled_X3_countLabel : GoodIn wsX4_labelled wsX3_countLabel := goodIn_r _ [15, 16, 17, 18, 5, 19, 7, 20, 21, 22, 23, 24, 25, 3, 4, 6, 26, 10, 27, 28, 29, 30, 31, 32, 37, 38, 39, 40, 41] (by decide +kernel) (by decide +kernel)
set_option maxRecDepth 20000 in
theorem gX4_labelled_X3_countLabel : GoodIn wsX4_labelled (wsV RX4 178 RX3 yX3_countLabel wsX3_countLabel) := goodIn_app (goodIn_of _ (by decide +kernel)) ggX4_labelled_X3_countLabel
theorem dX4_labelled_0 : decode cX4_labelled 0 = .ok (.aload_n 0, 1) := by decide +kernel
theorem dX4_labelled_1 : decode cX4_labelled 1 = .ok (.getfield 10, 3) := by decide +kernel
theorem dX4_labelled_4 : decode cX4_labelled 4 = .ok (.iload_n 1, 1) := by decide +kernel
theorem dX4_labelled_5 : decode cX4_labelled 5 = .ok (.invokevirtual 65, 3) := by decide +kernel
theorem dX4_labelled_8 : decode cX4_labelled 8 = .ok (.ifCond .ne 5, 3) := by decide +kernel
theorem dX4_labelled_11 : decode cX4_labelled 11 = .ok (.iconst (-1), 1) := by decide +kernel
theorem dX4_labelled_12 : decode cX4_labelled 12 = .ok (.ireturn, 1) := by decide +kernel
theorem dX4_labelled_13 : decode cX4_labelled 13 = .ok (.iload_n 2, 1) := by decide +kernel
theorem dX4_labelled_14 : decode cX4_labelled 14 = .ok (.invokestatic 171, 3) := by decide +kernel
theorem dX4_labelled_17 : decode cX4_labelled 17 = .ok (.ifCond .eq 15, 3) := by decide +kernel
theorem dX4_labelled_20 : decode cX4_labelled 20 = .ok (.aload_n 0, 1) := by decide +kernel
theorem dX4_labelled_21 : decode cX4_labelled 21 = .ok (.getfield 10, 3) := by decide +kernel
theorem dX4_labelled_24 : decode cX4_labelled 24 = .ok (.iload_n 1, 1) := by decide +kernel
theorem dX4_labelled_25 : decode cX4_labelled 25 = .ok (.iload_n 2, 1) := by decide +kernel
theorem dX4_labelled_26 : decode cX4_labelled 26 = .ok (.invokevirtual 178, 3) := by decide +kernel
theorem dX4_labelled_29 : decode cX4_labelled 29 = .ok (.goto 5, 3) := by decide +kernel
theorem dX4_labelled_32 : decode cX4_labelled 32 = .ok (.bipush (-2), 2) := by decide +kernel
theorem dX4_labelled_34 : decode cX4_labelled 34 = .ok (.ireturn, 1) := by decide +kernel
set_option maxRecDepth 20000 in
theorem ggX4_select_X3_has : GoodIn wsX4_select wsX3_has := goodIn_r _ [6, 7, 37, 38, 39, 40, 41] (by decide +kernel) (by decide +kernel)
set_option maxRecDepth 20000 in
theorem gX4_select_X3_has : GoodIn wsX4_select (wsV RX4 65 RX3 yX3_has wsX3_has) := goodIn_app (goodIn_of _ (by decide +kernel)) ggX4_select_X3_has
set_option maxRecDepth 20000 in
theorem ggX4_select_X4_isLetter : GoodIn wsX4_select wsX4_isLetter := goodIn_r _ [11] (by decide +kernel) (by decide +kernel)
set_option maxRecDepth 20000 in
theorem gX4_select_X4_isLetter : GoodIn wsX4_select (va_wsS RX4 171 yX4_isLetter wsX4_isLetter) := goodIn_app (goodIn_of _ (by decide +kernel)) ggX4_select_X4_isLetter
set_option maxRecDepth 20000 in
theorem ggX4_select_X3_findLabel : GoodIn wsX4_select wsX3_findLabel := goodIn_r _ [15, 16, 17, 18, 5, 19, 7, 20, 21, 22, 23, 24, 25, 3, 4, 6, 26, 10, 27, 28, 29, 30, 31, 32, 37, 38, 39, 40, 41] (by decide +kernel) (by decide +kernel)
set_option maxRecDepth 20000 in
theorem gX4_select_X3_findLabel : GoodIn wsX4_select (wsV RX4 181 RX3 yX3_findLabel wsX3_findLabel) := goodIn_app (goodIn_of _ (by decide +kernel)) ggX4_select_X3_findLabel
theorem dX4_select_0 : decode cX4_select 0 = .ok (.aload_n 0, 1) := by decide +kernel
theorem dX4_select_1 : decode cX4_select 1 = .ok (.getfield 10, 3) := by decide +kernel
theorem dX4_select_4 : decode cX4_select 4 = .ok (.iload_n 1, 1) := by decide +kernel
theorem dX4_select_5 : decode cX4_select 5 = .ok (.invokevirtual 65, 3) := by decide +kernel
theorem dX4_select_8 : decode cX4_select 8 = .ok (.ifCond .ne 5, 3) := by decide +kernel
theorem dX4_select_11 : decode cX4_select 11 = .ok (.iconst (-1), 1) := by decide +kernel
theorem dX4_select_12 : decode cX4_select 12 = .ok (.ireturn, 1) := by decide +kernel
theorem dX4_select_13 : decode cX4_select 13 = .ok (.iload_n 2, 1) := by decide +kernel
theorem dX4_select_14 : decode cX4_select 14 = .ok (.invokestatic 171, 3) := by decide +kernel
theorem dX4_select_17 : decode cX4_select 17 = .ok (.ifCond .eq 7, 3) := by decide +kernel
theorem dX4_select_20 : decode cX4_select 20 = .ok (.iload_n 3, 1) := by decide +kernel
theorem dX4_select_21 : decode cX4_select 21 = .ok (.ifCond .ge 6, 3) := by decide +kernel
theorem dX4_select_24 : decode cX4_select 24 = .ok (.bipush (-2), 2) := by decide +kernel
theorem dX4_select_26 : decode cX4_select 26 = .ok (.ireturn, 1) := by decide +kernel
theorem dX4_select_27 : decode cX4_select 27 = .ok (.aload_n 0, 1) := by decide +kernel
theorem dX4_select_28 : decode cX4_select 28 = .ok (.getfield 10, 3) := by decide +kernel
theorem dX4_select_31 : decode cX4_select 31 = .ok (.iload_n 1, 1) := by decide +kernel
theorem dX4_select_32 : decode cX4_select 32 = .ok (.iload_n 2, 1) := by decide +kernel
theorem dX4_select_33 : decode cX4_select 33 = .ok (.iload_n 3, 1) := by decide +kernel
theorem dX4_select_34 : decode cX4_select 34 = .ok (.invokevirtual 181, 3) := by decide +kernel
theorem dX4_select_37 : decode cX4_select 37 = .ok (.ireturn, 1) := by decide +kernel
set_option maxRecDepth 20000 in
theorem ggX4_ancestorWith_X3_has : GoodIn wsX4_ancestorWith wsX3_has := goodIn_r _ [6, 7, 33, 34, 35, 36, 37] (by decide +kernel) (by decide +kernel)
set_option maxRecDepth 20000 in
theorem gX4_ancestorWith_X3_has : GoodIn wsX4_ancestorWith (wsV RX4 65 RX3 yX3_has wsX3_has) := goodIn_app (goodIn_of _ (by decide +kernel)) ggX4_ancestorWith_X3_has
set_option maxRecDepth 20000 in
theorem ggX4_ancestorWith_X4_isLetter : GoodIn wsX4_ancestorWith wsX4_isLetter := goodIn_r _ [11] (by decide +kernel) (by decide +kernel)
set_option maxRecDepth 20000 in
theorem gX4_ancestorWith_X4_isLetter : GoodIn wsX4_ancestorWith (va_wsS RX4 171 yX4_isLetter wsX4_isLetter) := goodIn_app (goodIn_of _ (by decide +kernel)) ggX4_ancestorWith_X4_isLetter
set_option maxRecDepth 20000 in
theorem ggX4_ancestorWith_X3_findAncestor : GoodIn wsX4_ancestorWith wsX3_findAncestor := goodIn_r _ [15, 16, 17, 18, 5, 19, 20, 21, 3, 4, 6, 7, 22, 10, 23, 24, 25, 26, 27, 28, 33, 34, 35, 36, 37] (by decide +kernel) (by decide +kernel)
set_option maxRecDepth 20000 in
theorem gX4_ancestorWith_X3_findAncestor : GoodIn wsX4_ancestorWith (wsV RX4 185 RX3 yX3_findAncestor wsX3_findAncestor) := goodIn_app (goodIn_of _ (by decide +kernel)) ggX4_ancestorWith_X3_findAncestor
theorem dX4_ancestorWith_0 : decode cX4_ancestorWith 0 = .ok (.aload_n 0, 1) := by decide +kernel
theorem dX4_ancestorWith_1 : decode cX4_ancestorWith 1 = .ok (.getfield 10, 3) := by decide +kernel
theorem dX4_ancestorWith_4 : decode cX4_ancestorWith 4 = .ok (.iload_n 1, 1) := by decide +kernel
theorem dX4_ancestorWith_5 : decode cX4_ancestorWith 5 = .ok (.invokevirtual 65, 3) := by decide +kernel
theorem dX4_ancestorWith_8 : decode cX4_ancestorWith 8 = .ok (.ifCond .ne 5, 3) := by decide +kernel
theorem dX4_ancestorWith_11 : decode cX4_ancestorWith 11 = .ok (.iconst (-1), 1) := by decide +kernel
theorem dX4_ancestorWith_12 : decode cX4_ancestorWith 12 = .ok (.ireturn, 1) := by decide +kernel
theorem dX4_ancestorWith_13 : decode cX4_ancestorWith 13 = .ok (.iload_n 2, 1) := by decide +kernel
theorem dX4_ancestorWith_14 : decode cX4_ancestorWith 14 = .ok (.invokestatic 171, 3) := by decide +kernel
theorem dX4_ancestorWith_17 : decode cX4_ancestorWith 17 = .ok (.ifCond .eq 15, 3) := by decide +kernel
theorem dX4_ancestorWith_20 : decode cX4_ancestorWith 20 = .ok (.aload_n 0, 1) := by decide +kernel
theorem dX4_ancestorWith_21 : decode cX4_ancestorWith 21 = .ok (.getfield 10, 3) := by decide +kernel
theorem dX4_ancestorWith_24 : decode cX4_ancestorWith 24 = .ok (.iload_n 1, 1) := by decide +kernel
theorem dX4_ancestorWith_25 : decode cX4_ancestorWith 25 = .ok (.iload_n 2, 1) := by decide +kernel
theorem dX4_ancestorWith_26 : decode cX4_ancestorWith 26 = .ok (.invokevirtual 185, 3) := by decide +kernel
theorem dX4_ancestorWith_29 : decode cX4_ancestorWith 29 = .ok (.goto 5, 3) := by decide +kernel
theorem dX4_ancestorWith_32 : decode cX4_ancestorWith 32 = .ok (.bipush (-2), 2) := by decide +kernel
theorem dX4_ancestorWith_34 : decode cX4_ancestorWith 34 = .ok (.ireturn, 1) := by decide +kernel
set_option maxRecDepth 20000 in
theorem ggX4_areEqual_X3_has : GoodIn wsX4_areEqual wsX3_has := goodIn_r _ [6, 7, 38, 39, 40, 41, 42] (by decide +kernel) (by decide +kernel)
set_option maxRecDepth 20000 in
theorem gX4_areEqual_X3_has : GoodIn wsX4_areEqual (wsV RX4 65 RX3 yX3_has wsX3_has) := goodIn_app (goodIn_of _ (by decide +kernel)) ggX4_areEqual_X3_has
set_option maxRecDepth 20000 in
theorem ggX4_areEqual_X3_sameSubtrees : GoodIn wsX4_areEqual wsX3_sameSubtrees := goodIn_r _ [11, 12, 13, 14, 5, 15, 16, 17, 18, 19, 7, 20, 21, 22, 23, 24, 25, 3, 4, 6, 26, 27, 28, 29, 30, 31, 32, 33, 38, 39, 40, 41, 42] (by decide +kernel) (by decide +kernel)
set_option maxRecDepth 20000 in
theorem gX4_areEqual_X3_sameSubtrees : GoodIn wsX4_areEqual (wsV RX4 188 RX3 yX3_sameSubtrees wsX3_sameSubtrees) := goodIn_app (goodIn_of _ (by decide +kernel)) ggX4_areEqual_X3_sameSubtrees
theorem dX4_areEqual_0 : decode cX4_areEqual 0 = .ok (.aload_n 0, 1) := by decide +kernel
theorem dX4_areEqual_1 : decode cX4_areEqual 1 = .ok (.getfield 10, 3) := by decide +kernel
theorem dX4_areEqual_4 : decode cX4_areEqual 4 = .ok (.iload_n 1, 1) := by decide +kernel
theorem dX4_areEqual_5 : decode cX4_areEqual 5 = .ok (.invokevirtual 65, 3) := by decide +kernel
theorem dX4_areEqual_8 : decode cX4_areEqual 8 = .ok (.ifCond .eq 14, 3) := by decide +kernel
theorem dX4_areEqual_11 : decode cX4_areEqual 11 = .ok (.aload_n 0, 1) := by decide +kernel
theorem dX4_areEqual_12 : decode cX4_areEqual 12 = .ok (.getfield 10, 3) := by decide +kernel
theorem dX4_areEqual_15 : decode cX4_areEqual 15 = .ok (.iload_n 2, 1) := by decide +kernel
theorem dX4_areEqual_16 : decode cX4_areEqual 16 = .ok (.invokevirtual 65, 3) := by decide +kernel
theorem dX4_areEqual_19 : decode cX4_areEqual 19 = .ok (.ifCond .ne 5, 3) := by decide +kernel
theorem dX4_areEqual_22 : decode cX4_areEqual 22 = .ok (.iconst (-1), 1) := by decide +kernel
theorem dX4_areEqual_23 : decode cX4_areEqual 23 = .ok (.ireturn, 1) := by decide +kernel
theorem dX4_areEqual_24 : decode cX4_areEqual 24 = .ok (.aload_n 0, 1) := by decide +kernel
theorem dX4_areEqual_25 : decode cX4_areEqual 25 = .ok (.getfield 10, 3) := by decide +kernel
theorem dX4_areEqual_28 : decode cX4_areEqual 28 = .ok (.iload_n 1, 1) := by decide +kernel
theorem dX4_areEqual_29 : decode cX4_areEqual 29 = .ok (.iload_n 2, 1) := by decide +kernel
theorem dX4_areEqual_30 : decode cX4_areEqual 30 = .ok (.invokevirtual 188, 3) := by decide +kernel
theorem dX4_areEqual_33 : decode cX4_areEqual 33 = .ok (.ifCond .eq 7, 3) := by decide +kernel
theorem dX4_areEqual_36 : decode cX4_areEqual 36 = .ok (.iconst 1, 1) := by decide +kernel
theorem dX4_areEqual_37 : decode cX4_areEqual 37 = .ok (.goto 4, 3) := by decide +kernel
theorem dX4_areEqual_40 : decode cX4_areEqual 40 = .ok (.iconst 0, 1) := by decide +kernel
theorem dX4_areEqual_41 : decode cX4_areEqual 41 = .ok (.ireturn, 1) := by decide +kernel
set_option maxRecDepth 20000 in
theorem ggX4_copies_X3_has : GoodIn wsX4_copies wsX3_has := goodIn_r _ [6, 7, 42, 43, 44, 45, 46] (by decide +kernel) (by decide +kernel)
set_option maxRecDepth 20000 in
theorem gX4_copies_X3_has : GoodIn wsX4_copies (wsV RX4 65 RX3 yX3_has wsX3_has) := goodIn_app (goodIn_of _ (by decide +kernel)) ggX4_copies_X3_has
set_option maxRecDepth 20000 in
theorem ggX4_copies_X3_countEqual : GoodIn wsX4_copies wsX3_countEqual := goodIn_r _ [11, 7, 12, 13, 14, 5, 15, 16, 17, 18, 19, 20, 21, 22, 23, 24, 25, 26, 27, 28, 29, 3, 4, 6, 30, 31, 32, 33, 34, 35, 36, 37, 42, 43, 44, 45, 46] (by decide +kernel) (by decide +kernel)
set_option maxRecDepth 20000 in
theorem gX4_copies_X3_countEqual : GoodIn wsX4_copies (wsV RX4 192 RX3 yX3_countEqual wsX3_countEqual) := goodIn_app (goodIn_of _ (by decide +kernel)) ggX4_copies_X3_countEqual
theorem dX4_copies_0 : decode cX4_copies 0 = .ok (.aload_n 0, 1) := by decide +kernel
theorem dX4_copies_1 : decode cX4_copies 1 = .ok (.getfield 10, 3) := by decide +kernel
theorem dX4_copies_4 : decode cX4_copies 4 = .ok (.iload_n 1, 1) := by decide +kernel
theorem dX4_copies_5 : decode cX4_copies 5 = .ok (.invokevirtual 65, 3) := by decide +kernel
theorem dX4_copies_8 : decode cX4_copies 8 = .ok (.ifCond .eq 14, 3) := by decide +kernel
theorem dX4_copies_11 : decode cX4_copies 11 = .ok (.aload_n 0, 1) := by decide +kernel
theorem dX4_copies_12 : decode cX4_copies 12 = .ok (.getfield 10, 3) := by decide +kernel
theorem dX4_copies_15 : decode cX4_copies 15 = .ok (.iload_n 1, 1) := by decide +kernel
theorem dX4_copies_16 : decode cX4_copies 16 = .ok (.invokevirtual 192, 3) := by decide +kernel
theorem dX4_copies_19 : decode cX4_copies 19 = .ok (.goto 4, 3) := by decide +kernel
theorem dX4_copies_22 : decode cX4_copies 22 = .ok (.iconst (-1), 1) := by decide +kernel
theorem dX4_copies_23 : decode cX4_copies 23 = .ok (.ireturn, 1) := by decide +kernel
set_option maxRecDepth 20000 in
theorem ggX4_insert_X4_wrap : GoodIn wsX4_insert wsX4_wrap := goodIn_r _ [5, 6, 7, 8, 9, 10, 11, 12, 13, 14, 15, 16, 17, 18, 19, 20, 21, 22, 23, 24, 25, 26, 27, 28, 4, 29, 30, 31, 32, 33, 34, 35, 36, 37, 38, 39, 40, 41, 42, 43, 44, 45, 46, 47, 48, 49, 50, 51, 52, 53, 54, 55, 56, 57, 58, 59, 60, 61, 62, 63, 64, 65, 66, 67, 68, 69, 70, 71, 72, 73, 74, 75, 76, 77, 78, 79, 80, 81, 82, 83, 84, 85, 86, 87, 88, 89, 90, 91, 92, 93, 94, 95] (by decide +kernel) (by decide +kernel)
set_option maxRecDepth 20000 in
theorem gX4_insert_X4_wrap : GoodIn wsX4_insert (wsV RX4 195 RX4 yX4_wrap wsX4_wrap) := goodIn_app (goodIn_of _ (by decide +kernel)) ggX4_insert_X4_wrap
theorem dX4_insert_0 : decode cX4_insert 0 = .ok (.aload_n 0, 1) := by decide +kernel
theorem dX4_insert_1 : decode cX4_insert 1 = .ok (.iload_n 1, 1) := by decide +kernel
theorem dX4_insert_2 : decode cX4_insert 2 = .ok (.iload_n 2, 1) := by decide +kernel
theorem dX4_insert_3 : decode cX4_insert 3 = .ok (.iconst 0, 1) := by decide +kernel
theorem dX4_insert_4 : decode cX4_insert 4 = .ok (.iload_n 3, 1) := by decide +kernel
theorem dX4_insert_5 : decode cX4_insert 5 = .ok (.invokevirtual 195, 3) := by decide +kernel
theorem dX4_insert_8 : decode cX4_insert 8 = .ok (.ireturn, 1) := by decide +kernel
set_option maxRecDepth 20000 in
theorem ggX4_wrap_X3_has : GoodIn wsX4_wrap wsX3_has := goodIn_r _ [7, 8, 82, 83, 84, 85, 86] (by decide +kernel) (by decide +kernel)
set_option maxRecDepth 20000 in
theorem gX4_wrap_X3_has : GoodIn wsX4_wrap (wsV RX4 65 RX3 yX3_has wsX3_has) := goodIn_app (goodIn_of _ (by decide +kernel)) ggX4_wrap_X3_has
set_option maxRecDepth 20000 in
theorem ggX4_wrap_X3_childCount : GoodIn wsX4_wrap wsX3_childCount := goodIn_r _ [12, 13, 14, 15, 6, 16, 8, 17, 18, 19, 20, 21, 22, 4, 5, 7, 23, 24, 25, 82, 83, 84, 85, 86] (by decide +kernel) (by decide +kernel)
set_option maxRecDepth 20000 in
theorem gX4_wrap_X3_childCount : GoodIn wsX4_wrap (wsV RX4 75 RX3 yX3_childCount wsX3_childCount) := goodIn_app (goodIn_of _ (by decide +kernel)) ggX4_wrap_X3_childCount
set_option maxRecDepth 20000 in
theorem ggX4_wrap_X4_isLetter : GoodIn wsX4_wrap wsX4_isLetter := goodIn_r _ [28] (by decide +kernel) (by decide +kernel)
set_option maxRecDepth 20000 in
theorem gX4_wrap_X4_isLetter : GoodIn wsX4_wrap (va_wsS RX4 171 yX4_isLetter wsX4_isLetter) := goodIn_app (goodIn_of _ (by decide +kernel)) ggX4_wrap_X4_isLetter
set_option maxRecDepth 20000 in
theorem ggX4_wrap_X3_count : GoodIn wsX4_wrap wsX3_count := goodIn_r _ [32, 8, 82, 83, 84, 85, 86] (by decide +kernel) (by decide +kernel)
set_option maxRecDepth 20000 in
theorem gX4_wrap_X3_count : GoodIn wsX4_wrap (wsV RX4 55 RX3 yX3_count wsX3_count) := goodIn_app (goodIn_of _ (by decide +kernel)) ggX4_wrap_X3_count
set_option maxRecDepth 20000 in
theorem ggX4_wrap_X1_record : GoodIn wsX4_wrap wsX1_record := goodIn_r _ [37, 38, 39, 40, 41, 42, 43, 44, 45, 46, 47, 30, 31, 6, 32, 8, 48, 24, 49, 50, 18, 19, 20, 21, 22, 4, 5, 7, 23, 25, 51, 52, 53, 54, 55, 87, 88, 89, 90, 91, 82, 83, 84, 85, 86] (by decide +kernel) (by decide +kernel)
set_option maxRecDepth 20000 in
theorem gX4_wrap_X1_record : GoodIn wsX4_wrap (wsV RX4 48 RX1 yX1_record wsX1_record) := goodIn_app (goodIn_of _ (by decide +kernel)) ggX4_wrap_X1_record
set_option maxRecDepth 20000 in
theorem ggX4_wrap_X3_wrapChildren : GoodIn wsX4_wrap wsX3_wrapChildren := goodIn_r _ [59, 60, 61, 62, 6, 63, 13, 14, 15, 16, 8, 17, 18, 19, 20, 21, 22, 4, 5, 7, 23, 24, 25, 64, 65, 66, 67, 68, 52, 53, 54, 55, 69, 70, 71, 72, 48, 49, 73, 74, 75, 76, 77, 44, 45, 46, 82, 83, 84, 85, 86] (by decide +kernel) (by decide +kernel)
set_option maxRecDepth 20000 in
theorem gX4_wrap_X3_wrapChildren : GoodIn wsX4_wrap (wsV RX4 199 RX3 yX3_wrapChildren wsX3_wrapChildren) := goodIn_app (goodIn_of _ (by decide +kernel)) ggX4_wrap_X3_wrapChildren
theorem dX4_wrap_0 : decode cX4_wrap 0 = .ok (.aload_n 0, 1) := by decide +kernel
theorem dX4_wrap_1 : decode cX4_wrap 1 = .ok (.getfield 10, 3) := by decide +kernel
theorem dX4_wrap_4 : decode cX4_wrap 4 = .ok (.iload_n 1, 1) := by decide +kernel
theorem dX4_wrap_5 : decode cX4_wrap 5 = .ok (.invokevirtual 65, 3) := by decide +kernel
theorem dX4_wrap_8 : decode cX4_wrap 8 = .ok (.ifCond .ne 5, 3) := by decide +kernel
theorem dX4_wrap_11 : decode cX4_wrap 11 = .ok (.iconst (-1), 1) := by decide +kernel
theorem dX4_wrap_12 : decode cX4_wrap 12 = .ok (.ireturn, 1) := by decide +kernel
theorem dX4_wrap_13 : decode cX4_wrap 13 = .ok (.aload_n 0, 1) := by decide +kernel
theorem dX4_wrap_14 : decode cX4_wrap 14 = .ok (.getfield 10, 3) := by decide +kernel
theorem dX4_wrap_17 : decode cX4_wrap 17 = .ok (.iload_n 1, 1) := by decide +kernel
theorem dX4_wrap_18 : decode cX4_wrap 18 = .ok (.invokevirtual 75, 3) := by decide +kernel
theorem dX4_wrap_21 : decode cX4_wrap 21 = .ok (.istore 5, 2) := by decide +kernel
theorem dX4_wrap_23 : decode cX4_wrap 23 = .ok (.iload_n 2, 1) := by decide +kernel
theorem dX4_wrap_24 : decode cX4_wrap 24 = .ok (.ifCond .lt 29, 3) := by decide +kernel
theorem dX4_wrap_27 : decode cX4_wrap 27 = .ok (.iload_n 2, 1) := by decide +kernel
theorem dX4_wrap_28 : decode cX4_wrap 28 = .ok (.iload 5, 2) := by decide +kernel
theorem dX4_wrap_30 : decode cX4_wrap 30 = .ok (.if_icmp .gt 23, 3) := by decide +kernel
theorem dX4_wrap_33 : decode cX4_wrap 33 = .ok (.iload_n 3, 1) := by decide +kernel
theorem dX4_wrap_34 : decode cX4_wrap 34 = .ok (.ifCond .lt 19, 3) := by decide +kernel
theorem dX4_wrap_37 : decode cX4_wrap 37 = .ok (.iload_n 3, 1) := by decide +kernel
theorem dX4_wrap_38 : decode cX4_wrap 38 = .ok (.iload 5, 2) := by decide +kernel
theorem dX4_wrap_40 : decode cX4_wrap 40 = .ok (.iload_n 2, 1) := by decide +kernel
theorem dX4_wrap_41 : decode cX4_wrap 41 = .ok (.isub, 1) := by decide +kernel
theorem dX4_wrap_42 : decode cX4_wrap 42 = .ok (.if_icmp .gt 11, 3) := by decide +kernel
theorem dX4_wrap_45 : decode cX4_wrap 45 = .ok (.iload 4, 2) := by decide +kernel
theorem dX4_wrap_47 : decode cX4_wrap 47 = .ok (.invokestatic 171, 3) := by decide +kernel
theorem dX4_wrap_50 : decode cX4_wrap 50 = .ok (.ifCond .ne 6, 3) := by decide +kernel
theorem dX4_wrap_53 : decode cX4_wrap 53 = .ok (.bipush (-2), 2) := by decide +kernel
theorem dX4_wrap_55 : decode cX4_wrap 55 = .ok (.ireturn, 1) := by decide +kernel
theorem dX4_wrap_56 : decode cX4_wrap 56 = .ok (.aload_n 0, 1) := by decide +kernel
theorem dX4_wrap_57 : decode cX4_wrap 57 = .ok (.getfield 10, 3) := by decide +kernel
theorem dX4_wrap_60 : decode cX4_wrap 60 = .ok (.invokevirtual 55, 3) := by decide +kernel
theorem dX4_wrap_63 : decode cX4_wrap 63 = .ok (.bipush 100, 2) := by decide +kernel
theorem dX4_wrap_65 : decode cX4_wrap 65 = .ok (.if_icmp .lt 6, 3) := by decide +kernel
theorem dX4_wrap_68 : decode cX4_wrap 68 = .ok (.bipush (-4), 2) := by decide +kernel
theorem dX4_wrap_70 : decode cX4_wrap 70 = .ok (.ireturn, 1) := by decide +kernel
theorem dX4_wrap_71 : decode cX4_wrap 71 = .ok (.aload_n 0, 1) := by decide +kernel
theorem dX4_wrap_72 : decode cX4_wrap 72 = .ok (.getfield 26, 3) := by decide +kernel
theorem dX4_wrap_75 : decode cX4_wrap 75 = .ok (.aload_n 0, 1) := by decide +kernel
theorem dX4_wrap_76 : decode cX4_wrap 76 = .ok (.getfield 10, 3) := by decide +kernel
theorem dX4_wrap_79 : decode cX4_wrap 79 = .ok (.invokevirtual 48, 3) := by decide +kernel
theorem dX4_wrap_82 : decode cX4_wrap 82 = .ok (.aload_n 0, 1) := by decide +kernel
theorem dX4_wrap_83 : decode cX4_wrap 83 = .ok (.getfield 10, 3) := by decide +kernel
theorem dX4_wrap_86 : decode cX4_wrap 86 = .ok (.iload_n 1, 1) := by decide +kernel
theorem dX4_wrap_87 : decode cX4_wrap 87 = .ok (.iload_n 2, 1) := by decide +kernel
theorem dX4_wrap_88 : decode cX4_wrap 88 = .ok (.iload_n 3, 1) := by decide +kernel
theorem dX4_wrap_89 : decode cX4_wrap 89 = .ok (.iload 4, 2) := by decide +kernel
theorem dX4_wrap_91 : decode cX4_wrap 91 = .ok (.invokevirtual 199, 3) := by decide +kernel
theorem dX4_wrap_94 : decode cX4_wrap 94 = .ok (.ireturn, 1) := by decide +kernel
set_option maxRecDepth 20000 in
theorem ggX4_remove_X3_has : GoodIn wsX4_remove wsX3_has := goodIn_r _ [7, 8, 73, 74, 75, 76, 77] (by decide +kernel) (by decide +kernel)
set_option maxRecDepth 20000 in
theorem gX4_remove_X3_has : GoodIn wsX4_remove (wsV RX4 65 RX3 yX3_has wsX3_has) := goodIn_app (goodIn_of _ (by decide +kernel)) ggX4_remove_X3_has
set_option maxRecDepth 20000 in
theorem ggX4_remove_X1_record : GoodIn wsX4_remove wsX1_record := goodIn_r _ [13, 14, 15, 16, 17, 18, 19, 20, 21, 22, 23, 24, 25, 6, 26, 8, 27, 28, 29, 30, 31, 32, 33, 34, 35, 4, 5, 7, 36, 37, 38, 39, 40, 41, 42, 78, 79, 80, 81, 82, 73, 74, 75, 76, 77] (by decide +kernel) (by decide +kernel)
set_option maxRecDepth 20000 in
theorem gX4_remove_X1_record : GoodIn wsX4_remove (wsV RX4 48 RX1 yX1_record wsX1_record) := goodIn_app (goodIn_of _ (by decide +kernel)) ggX4_remove_X1_record
set_option maxRecDepth 20000 in
theorem ggX4_remove_X3_dissolve : GoodIn wsX4_remove wsX3_dissolve := goodIn_r _ [46, 47, 48, 49, 6, 50, 8, 51, 31, 32, 33, 34, 35, 4, 5, 7, 36, 28, 37, 52, 53, 54, 55, 56, 39, 40, 41, 42, 57, 58, 59, 60, 27, 29, 61, 62, 63, 64, 65, 66, 21, 67, 73, 74, 75, 76, 77] (by decide +kernel) (by decide +kernel)
set_option maxRecDepth 20000 in
theorem gX4_remove_X3_dissolve : GoodIn wsX4_remove (wsV RX4 203 RX3 yX3_dissolve wsX3_dissolve) := goodIn_app (goodIn_of _ (by decide +kernel)) ggX4_remove_X3_dissolve
set_option maxRecDepth 20000 in
theorem ggX4_remove_X3_count : GoodIn wsX4_remove wsX3_count := goodIn_r _ [26, 8, 73, 74, 75, 76, 77] (by decide +kernel) (by decide +kernel)
set_option maxRecDepth 20000 in
theorem gX4_remove_X3_count : GoodIn wsX4_remove (wsV RX4 55 RX3 yX3_count wsX3_count) := goodIn_app (goodIn_of _ (by decide +kernel)) ggX4_remove_X3_count
theorem dX4_remove_0 : decode cX4_remove 0 = .ok (.aload_n 0, 1) := by decide +kernel
theorem dX4_remove_1 : decode cX4_remove 1 = .ok (.getfield 10, 3) := by decide +kernel
theorem dX4_remove_4 : decode cX4_remove 4 = .ok (.iload_n 1, 1) := by decide +kernel
theorem dX4_remove_5 : decode cX4_remove 5 = .ok (.invokevirtual 65, 3) := by decide +kernel
theorem dX4_remove_8 : decode cX4_remove 8 = .ok (.ifCond .ne 5, 3) := by decide +kernel
theorem dX4_remove_11 : decode cX4_remove 11 = .ok (.iconst (-1), 1) := by decide +kernel
theorem dX4_remove_12 : decode cX4_remove 12 = .ok (.ireturn, 1) := by decide +kernel
theorem dX4_remove_13 : decode cX4_remove 13 = .ok (.iload_n 1, 1) := by decide +kernel
theorem dX4_remove_14 : decode cX4_remove 14 = .ok (.ifCond .ne 6, 3) := by decide +kernel
theorem dX4_remove_17 : decode cX4_remove 17 = .ok (.bipush (-3), 2) := by decide +kernel
theorem dX4_remove_19 : decode cX4_remove 19 = .ok (.ireturn, 1) := by decide +kernel
theorem dX4_remove_20 : decode cX4_remove 20 = .ok (.aload_n 0, 1) := by decide +kernel
theorem dX4_remove_21 : decode cX4_remove 21 = .ok (.getfield 26, 3) := by decide +kernel
theorem dX4_remove_24 : decode cX4_remove 24 = .ok (.aload_n 0, 1) := by decide +kernel
theorem dX4_remove_25 : decode cX4_remove 25 = .ok (.getfield 10, 3) := by decide +kernel
theorem dX4_remove_28 : decode cX4_remove 28 = .ok (.invokevirtual 48, 3) := by decide +kernel
theorem dX4_remove_31 : decode cX4_remove 31 = .ok (.aload_n 0, 1) := by decide +kernel
theorem dX4_remove_32 : decode cX4_remove 32 = .ok (.getfield 10, 3) := by decide +kernel
theorem dX4_remove_35 : decode cX4_remove 35 = .ok (.iload_n 1, 1) := by decide +kernel
theorem dX4_remove_36 : decode cX4_remove 36 = .ok (.invokevirtual 203, 3) := by decide +kernel
theorem dX4_remove_39 : decode cX4_remove 39 = .ok (.aload_n 0, 1) := by decide +kernel
theorem dX4_remove_40 : decode cX4_remove 40 = .ok (.getfield 10, 3) := by decide +kernel
theorem dX4_remove_43 : decode cX4_remove 43 = .ok (.invokevirtual 55, 3) := by decide +kernel
theorem dX4_remove_46 : decode cX4_remove 46 = .ok (.ireturn, 1) := by decide +kernel
set_option maxRecDepth 20000 in
theorem ggX4_cut_X3_has : GoodIn wsX4_cut wsX3_has := goodIn_r _ [7, 8, 69, 70, 71, 72, 73] (by decide +kernel) (by decide +kernel)
set_option maxRecDepth 20000 in
theorem gX4_cut_X3_has : GoodIn wsX4_cut (wsV RX4 65 RX3 yX3_has wsX3_has) := goodIn_app (goodIn_of _ (by decide +kernel)) ggX4_cut_X3_has
set_option maxRecDepth 20000 in
theorem ggX4_cut_X1_record : GoodIn wsX4_cut wsX1_record := goodIn_r _ [13, 14, 15, 16, 17, 18, 19, 20, 21, 22, 23, 24, 25, 6, 26, 8, 27, 28, 29, 30, 31, 32, 33, 34, 35, 4, 5, 7, 36, 37, 38, 39, 40, 41, 42, 74, 75, 76, 77, 78, 69, 70, 71, 72, 73] (by decide +kernel) (by decide +kernel)
set_option maxRecDepth 20000 in
theorem gX4_cut_X1_record : GoodIn wsX4_cut (wsV RX4 48 RX1 yX1_record wsX1_record) := goodIn_app (goodIn_of _ (by decide +kernel)) ggX4_cut_X1_record
set_option maxRecDepth 20000 in
theorem ggX4_cut_X3_sizeOf : GoodIn wsX4_cut wsX3_sizeOf := goodIn_r _ [46, 47, 48, 49, 6, 50, 8, 51, 31, 32, 33, 34, 35, 4, 5, 7, 36, 28, 37, 69, 70, 71, 72, 73] (by decide +kernel) (by decide +kernel)
set_option maxRecDepth 20000 in
theorem gX4_cut_X3_sizeOf : GoodIn wsX4_cut (wsV RX4 78 RX3 yX3_sizeOf wsX3_sizeOf) := goodIn_app (goodIn_of _ (by decide +kernel)) ggX4_cut_X3_sizeOf
set_option maxRecDepth 20000 in
theorem ggX4_cut_X3_closeGap : GoodIn wsX4_cut wsX3_closeGap := goodIn_r _ [55, 8, 56, 57, 21, 58, 51, 31, 32, 6, 33, 34, 35, 4, 5, 7, 36, 28, 37, 59, 39, 40, 41, 42, 60, 61, 62, 63, 27, 29, 69, 70, 71, 72, 73] (by decide +kernel) (by decide +kernel)
set_option maxRecDepth 20000 in
theorem gX4_cut_X3_closeGap : GoodIn wsX4_cut (wsV RX4 207 RX3 yX3_closeGap wsX3_closeGap) := goodIn_app (goodIn_of _ (by decide +kernel)) ggX4_cut_X3_closeGap
set_option maxRecDepth 20000 in
theorem ggX4_cut_X3_count : GoodIn wsX4_cut wsX3_count := goodIn_r _ [26, 8, 69, 70, 71, 72, 73] (by decide +kernel) (by decide +kernel)
set_option maxRecDepth 20000 in
theorem gX4_cut_X3_count : GoodIn wsX4_cut (wsV RX4 55 RX3 yX3_count wsX3_count) := goodIn_app (goodIn_of _ (by decide +kernel)) ggX4_cut_X3_count
theorem dX4_cut_0 : decode cX4_cut 0 = .ok (.aload_n 0, 1) := by decide +kernel
theorem dX4_cut_1 : decode cX4_cut 1 = .ok (.getfield 10, 3) := by decide +kernel
theorem dX4_cut_4 : decode cX4_cut 4 = .ok (.iload_n 1, 1) := by decide +kernel
theorem dX4_cut_5 : decode cX4_cut 5 = .ok (.invokevirtual 65, 3) := by decide +kernel
theorem dX4_cut_8 : decode cX4_cut 8 = .ok (.ifCond .ne 5, 3) := by decide +kernel
theorem dX4_cut_11 : decode cX4_cut 11 = .ok (.iconst (-1), 1) := by decide +kernel
theorem dX4_cut_12 : decode cX4_cut 12 = .ok (.ireturn, 1) := by decide +kernel
theorem dX4_cut_13 : decode cX4_cut 13 = .ok (.iload_n 1, 1) := by decide +kernel
theorem dX4_cut_14 : decode cX4_cut 14 = .ok (.ifCond .ne 6, 3) := by decide +kernel
theorem dX4_cut_17 : decode cX4_cut 17 = .ok (.bipush (-3), 2) := by decide +kernel
theorem dX4_cut_19 : decode cX4_cut 19 = .ok (.ireturn, 1) := by decide +kernel
theorem dX4_cut_20 : decode cX4_cut 20 = .ok (.aload_n 0, 1) := by decide +kernel
theorem dX4_cut_21 : decode cX4_cut 21 = .ok (.getfield 26, 3) := by decide +kernel
theorem dX4_cut_24 : decode cX4_cut 24 = .ok (.aload_n 0, 1) := by decide +kernel
theorem dX4_cut_25 : decode cX4_cut 25 = .ok (.getfield 10, 3) := by decide +kernel
theorem dX4_cut_28 : decode cX4_cut 28 = .ok (.invokevirtual 48, 3) := by decide +kernel
theorem dX4_cut_31 : decode cX4_cut 31 = .ok (.aload_n 0, 1) := by decide +kernel
theorem dX4_cut_32 : decode cX4_cut 32 = .ok (.getfield 10, 3) := by decide +kernel
theorem dX4_cut_35 : decode cX4_cut 35 = .ok (.iload_n 1, 1) := by decide +kernel
theorem dX4_cut_36 : decode cX4_cut 36 = .ok (.aload_n 0, 1) := by decide +kernel
theorem dX4_cut_37 : decode cX4_cut 37 = .ok (.getfield 10, 3) := by decide +kernel
theorem dX4_cut_40 : decode cX4_cut 40 = .ok (.iload_n 1, 1) := by decide +kernel
theorem dX4_cut_41 : decode cX4_cut 41 = .ok (.invokevirtual 78, 3) := by decide +kernel
theorem dX4_cut_44 : decode cX4_cut 44 = .ok (.invokevirtual 207, 3) := by decide +kernel
theorem dX4_cut_47 : decode cX4_cut 47 = .ok (.aload_n 0, 1) := by decide +kernel
theorem dX4_cut_48 : decode cX4_cut 48 = .ok (.getfield 10, 3) := by decide +kernel
theorem dX4_cut_51 : decode cX4_cut 51 = .ok (.invokevirtual 55, 3) := by decide +kernel
theorem dX4_cut_54 : decode cX4_cut 54 = .ok (.ireturn, 1) := by decide +kernel
set_option maxRecDepth 20000 in
theorem ggX4_move_X3_has : GoodIn wsX4_move wsX3_has := goodIn_r _ [7, 8, 104, 105, 106, 107, 108] (by decide +kernel) (by decide +kernel)
set_option maxRecDepth 20000 in
theorem gX4_move_X3_has : GoodIn wsX4_move (wsV RX4 65 RX3 yX3_has wsX3_has) := goodIn_app (goodIn_of _ (by decide +kernel)) ggX4_move_X3_has
set_option maxRecDepth 20000 in
theorem ggX4_move_X3_endOf : GoodIn wsX4_move wsX3_endOf := goodIn_r _ [12, 8, 13, 14, 15, 6, 16, 17, 18, 4, 5, 7, 19, 20, 21, 104, 105, 106, 107, 108] (by decide +kernel) (by decide +kernel)
set_option maxRecDepth 20000 in
theorem gX4_move_X3_endOf : GoodIn wsX4_move (wsV RX4 211 RX3 yX3_endOf wsX3_endOf) := goodIn_app (goodIn_of _ (by decide +kernel)) ggX4_move_X3_endOf
set_option maxRecDepth 20000 in
theorem ggX4_move_X3_childCount : GoodIn wsX4_move wsX3_childCount := goodIn_r _ [25, 26, 10, 11, 6, 12, 8, 13, 14, 15, 16, 17, 18, 4, 5, 7, 19, 20, 21, 104, 105, 106, 107, 108] (by decide +kernel) (by decide +kernel)
set_option maxRecDepth 20000 in
theorem gX4_move_X3_childCount : GoodIn wsX4_move (wsV RX4 75 RX3 yX3_childCount wsX3_childCount) := goodIn_app (goodIn_of _ (by decide +kernel)) ggX4_move_X3_childCount
set_option maxRecDepth 20000 in
theorem ggX4_move_X3_parentOf : GoodIn wsX4_move wsX3_parentOf := goodIn_r _ [30, 13, 14, 15, 6, 16, 17, 18, 4, 5, 7, 8, 19, 20, 21, 31, 32, 33, 34, 104, 105, 106, 107, 108] (by decide +kernel) (by decide +kernel)
set_option maxRecDepth 20000 in
theorem gX4_move_X3_parentOf : GoodIn wsX4_move (wsV RX4 72 RX3 yX3_parentOf wsX3_parentOf) := goodIn_app (goodIn_of _ (by decide +kernel)) ggX4_move_X3_parentOf
set_option maxRecDepth 20000 in
theorem ggX4_move_X1_record : GoodIn wsX4_move wsX1_record := goodIn_r _ [39, 40, 41, 42, 43, 44, 45, 46, 47, 48, 49, 50, 51, 6, 52, 8, 53, 20, 54, 55, 14, 15, 16, 17, 18, 4, 5, 7, 19, 21, 56, 57, 58, 59, 60, 109, 110, 111, 112, 113, 104, 105, 106, 107, 108] (by decide +kernel) (by decide +kernel)
set_option maxRecDepth 20000 in
theorem gX4_move_X1_record : GoodIn wsX4_move (wsV RX4 48 RX1 yX1_record wsX1_record) := goodIn_app (goodIn_of _ (by decide +kernel)) ggX4_move_X1_record
set_option maxRecDepth 20000 in
theorem ggX4_move_X3_transplant : GoodIn wsX4_move wsX3_transplant := goodIn_r _ [64, 65, 66, 67, 6, 68, 26, 10, 11, 12, 8, 13, 14, 15, 16, 17, 18, 4, 5, 7, 19, 20, 21, 69, 70, 71, 72, 73, 74, 53, 54, 75, 57, 58, 59, 60, 76, 77, 78, 79, 80, 81, 47, 82, 83, 84, 85, 86, 87, 88, 89, 90, 91, 92, 93, 94, 95, 46, 48, 96, 97, 98, 99, 104, 105, 106, 107, 108] (by decide +kernel) (by decide +kernel)
set_option maxRecDepth 20000 in
theorem gX4_move_X3_transplant : GoodIn wsX4_move (wsV RX4 214 RX3 yX3_transplant wsX3_transplant) := goodIn_app (goodIn_of _ (by decide +kernel)) ggX4_move_X3_transplant
theorem dX4_move_0 : decode cX4_move 0 = .ok (.aload_n 0, 1) := by decide +kernel
theorem dX4_move_1 : decode cX4_move 1 = .ok (.getfield 10, 3) := by decide +kernel
theorem dX4_move_4 : decode cX4_move 4 = .ok (.iload_n 1, 1) := by decide +kernel
theorem dX4_move_5 : decode cX4_move 5 = .ok (.invokevirtual 65, 3) := by decide +kernel
theorem dX4_move_8 : decode cX4_move 8 = .ok (.ifCond .eq 14, 3) := by decide +kernel
theorem dX4_move_11 : decode cX4_move 11 = .ok (.aload_n 0, 1) := by decide +kernel
theorem dX4_move_12 : decode cX4_move 12 = .ok (.getfield 10, 3) := by decide +kernel
theorem dX4_move_15 : decode cX4_move 15 = .ok (.iload_n 2, 1) := by decide +kernel
theorem dX4_move_16 : decode cX4_move 16 = .ok (.invokevirtual 65, 3) := by decide +kernel
theorem dX4_move_19 : decode cX4_move 19 = .ok (.ifCond .ne 5, 3) := by decide +kernel
theorem dX4_move_22 : decode cX4_move 22 = .ok (.iconst (-1), 1) := by decide +kernel
theorem dX4_move_23 : decode cX4_move 23 = .ok (.ireturn, 1) := by decide +kernel
theorem dX4_move_24 : decode cX4_move 24 = .ok (.iload_n 2, 1) := by decide +kernel
theorem dX4_move_25 : decode cX4_move 25 = .ok (.iload_n 1, 1) := by decide +kernel
theorem dX4_move_26 : decode cX4_move 26 = .ok (.if_icmp .lt 18, 3) := by decide +kernel
theorem dX4_move_29 : decode cX4_move 29 = .ok (.iload_n 2, 1) := by decide +kernel
theorem dX4_move_30 : decode cX4_move 30 = .ok (.aload_n 0, 1) := by decide +kernel
theorem dX4_move_31 : decode cX4_move 31 = .ok (.getfield 10, 3) := by decide +kernel
theorem dX4_move_34 : decode cX4_move 34 = .ok (.iload_n 1, 1) := by decide +kernel
theorem dX4_move_35 : decode cX4_move 35 = .ok (.invokevirtual 211, 3) := by decide +kernel
theorem dX4_move_38 : decode cX4_move 38 = .ok (.if_icmp .ge 6, 3) := by decide +kernel
theorem dX4_move_41 : decode cX4_move 41 = .ok (.bipush (-3), 2) := by decide +kernel
theorem dX4_move_43 : decode cX4_move 43 = .ok (.ireturn, 1) := by decide +kernel
theorem dX4_move_44 : decode cX4_move 44 = .ok (.aload_n 0, 1) := by decide +kernel
theorem dX4_move_45 : decode cX4_move 45 = .ok (.getfield 10, 3) := by decide +kernel
theorem dX4_move_48 : decode cX4_move 48 = .ok (.iload_n 2, 1) := by decide +kernel
theorem dX4_move_49 : decode cX4_move 49 = .ok (.invokevirtual 75, 3) := by decide +kernel
theorem dX4_move_52 : decode cX4_move 52 = .ok (.aload_n 0, 1) := by decide +kernel
theorem dX4_move_53 : decode cX4_move 53 = .ok (.getfield 10, 3) := by decide +kernel
theorem dX4_move_56 : decode cX4_move 56 = .ok (.iload_n 1, 1) := by decide +kernel
theorem dX4_move_57 : decode cX4_move 57 = .ok (.invokevirtual 72, 3) := by decide +kernel
theorem dX4_move_60 : decode cX4_move 60 = .ok (.iload_n 2, 1) := by decide +kernel
theorem dX4_move_61 : decode cX4_move 61 = .ok (.if_icmp .ne 7, 3) := by decide +kernel
theorem dX4_move_64 : decode cX4_move 64 = .ok (.iconst 1, 1) := by decide +kernel
theorem dX4_move_65 : decode cX4_move 65 = .ok (.goto 4, 3) := by decide +kernel
theorem dX4_move_68 : decode cX4_move 68 = .ok (.iconst 0, 1) := by decide +kernel
theorem dX4_move_69 : decode cX4_move 69 = .ok (.isub, 1) := by decide +kernel
theorem dX4_move_70 : decode cX4_move 70 = .ok (.istore 4, 2) := by decide +kernel
theorem dX4_move_72 : decode cX4_move 72 = .ok (.iload_n 3, 1) := by decide +kernel
theorem dX4_move_73 : decode cX4_move 73 = .ok (.ifCond .lt 9, 3) := by decide +kernel
theorem dX4_move_76 : decode cX4_move 76 = .ok (.iload_n 3, 1) := by decide +kernel
theorem dX4_move_77 : decode cX4_move 77 = .ok (.iload 4, 2) := by decide +kernel
theorem dX4_move_79 : decode cX4_move 79 = .ok (.if_icmp .le 6, 3) := by decide +kernel
theorem dX4_move_82 : decode cX4_move 82 = .ok (.bipush (-2), 2) := by decide +kernel
theorem dX4_move_84 : decode cX4_move 84 = .ok (.ireturn, 1) := by decide +kernel
theorem dX4_move_85 : decode cX4_move 85 = .ok (.aload_n 0, 1) := by decide +kernel
theorem dX4_move_86 : decode cX4_move 86 = .ok (.getfield 26, 3) := by decide +kernel
theorem dX4_move_89 : decode cX4_move 89 = .ok (.aload_n 0, 1) := by decide +kernel
theorem dX4_move_90 : decode cX4_move 90 = .ok (.getfield 10, 3) := by decide +kernel
theorem dX4_move_93 : decode cX4_move 93 = .ok (.invokevirtual 48, 3) := by decide +kernel
theorem dX4_move_96 : decode cX4_move 96 = .ok (.aload_n 0, 1) := by decide +kernel
theorem dX4_move_97 : decode cX4_move 97 = .ok (.getfield 10, 3) := by decide +kernel
theorem dX4_move_100 : decode cX4_move 100 = .ok (.iload_n 1, 1) := by decide +kernel
theorem dX4_move_101 : decode cX4_move 101 = .ok (.iload_n 2, 1) := by decide +kernel
theorem dX4_move_102 : decode cX4_move 102 = .ok (.iload_n 3, 1) := by decide +kernel
theorem dX4_move_103 : decode cX4_move 103 = .ok (.invokevirtual 214, 3) := by decide +kernel
theorem dX4_move_106 : decode cX4_move 106 = .ok (.ireturn, 1) := by decide +kernel
set_option maxRecDepth 20000 in
theorem ggX4_undo_X1_isBlank : GoodIn wsX4_undo wsX1_isBlank := goodIn_r _ [7, 8, 46, 47, 48, 49, 50] (by decide +kernel) (by decide +kernel)
set_option maxRecDepth 20000 in
theorem gX4_undo_X1_isBlank : GoodIn wsX4_undo (wsV RX4 217 RX1 yX1_isBlank wsX1_isBlank) := goodIn_app (goodIn_of _ (by decide +kernel)) ggX4_undo_X1_isBlank
set_option maxRecDepth 20000 in
theorem ggX4_undo_X1_recall : GoodIn wsX4_undo wsX1_recall := goodIn_r _ [12, 13, 8, 14, 15, 16, 17, 18, 19, 20, 21, 22, 23, 24, 25, 26, 27, 28, 29, 30, 31, 32, 33, 34, 35, 36, 37, 38, 39, 40, 41, 46, 47, 48, 49, 50, 51, 52, 53, 54, 55] (by decide +kernel) (by decide +kernel)
set_option maxRecDepth 20000 in
theorem gX4_undo_X1_recall : GoodIn wsX4_undo (wsV RX4 221 RX1 yX1_recall wsX1_recall) := goodIn_app (goodIn_of _ (by decide +kernel)) ggX4_undo_X1_recall
theorem dX4_undo_0 : decode cX4_undo 0 = .ok (.aload_n 0, 1) := by decide +kernel
theorem dX4_undo_1 : decode cX4_undo 1 = .ok (.getfield 26, 3) := by decide +kernel
theorem dX4_undo_4 : decode cX4_undo 4 = .ok (.invokevirtual 217, 3) := by decide +kernel
theorem dX4_undo_7 : decode cX4_undo 7 = .ok (.ifCond .eq 8, 3) := by decide +kernel
theorem dX4_undo_10 : decode cX4_undo 10 = .ok (.bipush (-5), 2) := by decide +kernel
theorem dX4_undo_12 : decode cX4_undo 12 = .ok (.goto 14, 3) := by decide +kernel
theorem dX4_undo_15 : decode cX4_undo 15 = .ok (.aload_n 0, 1) := by decide +kernel
theorem dX4_undo_16 : decode cX4_undo 16 = .ok (.getfield 26, 3) := by decide +kernel
theorem dX4_undo_19 : decode cX4_undo 19 = .ok (.aload_n 0, 1) := by decide +kernel
theorem dX4_undo_20 : decode cX4_undo 20 = .ok (.getfield 10, 3) := by decide +kernel
theorem dX4_undo_23 : decode cX4_undo 23 = .ok (.invokevirtual 221, 3) := by decide +kernel
theorem dX4_undo_26 : decode cX4_undo 26 = .ok (.ireturn, 1) := by decide +kernel
theorem dX4_isLetter_0 : decode cX4_isLetter 0 = .ok (.iload_n 0, 1) := by decide +kernel
theorem dX4_isLetter_1 : decode cX4_isLetter 1 = .ok (.bipush 97, 2) := by decide +kernel
theorem dX4_isLetter_3 : decode cX4_isLetter 3 = .ok (.if_icmp .lt 13, 3) := by decide +kernel
theorem dX4_isLetter_6 : decode cX4_isLetter 6 = .ok (.iload_n 0, 1) := by decide +kernel
theorem dX4_isLetter_7 : decode cX4_isLetter 7 = .ok (.bipush 122, 2) := by decide +kernel
theorem dX4_isLetter_9 : decode cX4_isLetter 9 = .ok (.if_icmp .gt 7, 3) := by decide +kernel
theorem dX4_isLetter_12 : decode cX4_isLetter 12 = .ok (.iconst 1, 1) := by decide +kernel
theorem dX4_isLetter_13 : decode cX4_isLetter 13 = .ok (.goto 4, 3) := by decide +kernel
theorem dX4_isLetter_16 : decode cX4_isLetter 16 = .ok (.iconst 0, 1) := by decide +kernel
theorem dX4_isLetter_17 : decode cX4_isLetter 17 = .ok (.ireturn, 1) := by decide +kernel
theorem dX4_binaryDigits_0 : decode cX4_binaryDigits 0 = .ok (.iconst 1, 1) := by decide +kernel
theorem dX4_binaryDigits_1 : decode cX4_binaryDigits 1 = .ok (.istore_n 1, 1) := by decide +kernel
theorem dX4_binaryDigits_2 : decode cX4_binaryDigits 2 = .ok (.iload_n 1, 1) := by decide +kernel
theorem dX4_binaryDigits_3 : decode cX4_binaryDigits 3 = .ok (.bipush 31, 2) := by decide +kernel
theorem dX4_binaryDigits_5 : decode cX4_binaryDigits 5 = .ok (.if_icmp .ge 16, 3) := by decide +kernel
theorem dX4_binaryDigits_8 : decode cX4_binaryDigits 8 = .ok (.iload_n 0, 1) := by decide +kernel
theorem dX4_binaryDigits_9 : decode cX4_binaryDigits 9 = .ok (.iconst 1, 1) := by decide +kernel
theorem dX4_binaryDigits_10 : decode cX4_binaryDigits 10 = .ok (.iload_n 1, 1) := by decide +kernel
theorem dX4_binaryDigits_11 : decode cX4_binaryDigits 11 = .ok (.ishl, 1) := by decide +kernel
theorem dX4_binaryDigits_12 : decode cX4_binaryDigits 12 = .ok (.if_icmp .lt 9, 3) := by decide +kernel
theorem dX4_binaryDigits_15 : decode cX4_binaryDigits 15 = .ok (.iinc 1 1, 3) := by decide +kernel
theorem dX4_binaryDigits_18 : decode cX4_binaryDigits 18 = .ok (.goto (-16), 3) := by decide +kernel
theorem dX4_binaryDigits_21 : decode cX4_binaryDigits 21 = .ok (.iload_n 1, 1) := by decide +kernel
theorem dX4_binaryDigits_22 : decode cX4_binaryDigits 22 = .ok (.ireturn, 1) := by decide +kernel
theorem dX4_get_0 : decode cX4_get 0 = .ok (.iload_n 1, 1) := by decide +kernel
theorem dX4_get_1 : decode cX4_get 1 = .ok (.ifCond .lt 15, 3) := by decide +kernel
theorem dX4_get_4 : decode cX4_get 4 = .ok (.iload_n 1, 1) := by decide +kernel
theorem dX4_get_5 : decode cX4_get 5 = .ok (.aload_n 0, 1) := by decide +kernel
theorem dX4_get_6 : decode cX4_get 6 = .ok (.arraylength, 1) := by decide +kernel
theorem dX4_get_7 : decode cX4_get 7 = .ok (.if_icmp .ge 9, 3) := by decide +kernel
theorem dX4_get_10 : decode cX4_get 10 = .ok (.aload_n 0, 1) := by decide +kernel
theorem dX4_get_11 : decode cX4_get 11 = .ok (.iload_n 1, 1) := by decide +kernel
theorem dX4_get_12 : decode cX4_get 12 = .ok (.iaload, 1) := by decide +kernel
theorem dX4_get_13 : decode cX4_get 13 = .ok (.goto 4, 3) := by decide +kernel
theorem dX4_get_16 : decode cX4_get 16 = .ok (.iconst 0, 1) := by decide +kernel
theorem dX4_get_17 : decode cX4_get 17 = .ok (.ireturn, 1) := by decide +kernel
theorem dX4_put_0 : decode cX4_put 0 = .ok (.iload_n 1, 1) := by decide +kernel
theorem dX4_put_1 : decode cX4_put 1 = .ok (.ifCond .lt 13, 3) := by decide +kernel
theorem dX4_put_4 : decode cX4_put 4 = .ok (.iload_n 1, 1) := by decide +kernel
theorem dX4_put_5 : decode cX4_put 5 = .ok (.aload_n 0, 1) := by decide +kernel
theorem dX4_put_6 : decode cX4_put 6 = .ok (.arraylength, 1) := by decide +kernel
theorem dX4_put_7 : decode cX4_put 7 = .ok (.if_icmp .ge 7, 3) := by decide +kernel
theorem dX4_put_10 : decode cX4_put 10 = .ok (.aload_n 0, 1) := by decide +kernel
theorem dX4_put_11 : decode cX4_put 11 = .ok (.iload_n 1, 1) := by decide +kernel
theorem dX4_put_12 : decode cX4_put 12 = .ok (.iload_n 2, 1) := by decide +kernel
theorem dX4_put_13 : decode cX4_put 13 = .ok (.iastore, 1) := by decide +kernel
theorem dX4_put_14 : decode cX4_put 14 = .ok (.return_, 1) := by decide +kernel
theorem dJ9_max_7cf53_0 : decode cJ9_max_7cf53 0 = .ok (.iload_n 0, 1) := by decide +kernel
theorem dJ9_max_7cf53_1 : decode cJ9_max_7cf53 1 = .ok (.iload_n 1, 1) := by decide +kernel
theorem dJ9_max_7cf53_2 : decode cJ9_max_7cf53 2 = .ok (.if_icmp .lt 7, 3) := by decide +kernel
theorem dJ9_max_7cf53_5 : decode cJ9_max_7cf53 5 = .ok (.iload_n 0, 1) := by decide +kernel
theorem dJ9_max_7cf53_6 : decode cJ9_max_7cf53 6 = .ok (.goto 4, 3) := by decide +kernel
theorem dJ9_max_7cf53_9 : decode cJ9_max_7cf53 9 = .ok (.iload_n 1, 1) := by decide +kernel
theorem dJ9_max_7cf53_10 : decode cJ9_max_7cf53 10 = .ok (.ireturn, 1) := by decide +kernel
theorem dJ9_min_7cf53_0 : decode cJ9_min_7cf53 0 = .ok (.iload_n 0, 1) := by decide +kernel
theorem dJ9_min_7cf53_1 : decode cJ9_min_7cf53 1 = .ok (.iload_n 1, 1) := by decide +kernel
theorem dJ9_min_7cf53_2 : decode cJ9_min_7cf53 2 = .ok (.if_icmp .gt 7, 3) := by decide +kernel
theorem dJ9_min_7cf53_5 : decode cJ9_min_7cf53 5 = .ok (.iload_n 0, 1) := by decide +kernel
theorem dJ9_min_7cf53_6 : decode cJ9_min_7cf53 6 = .ok (.goto 4, 3) := by decide +kernel
theorem dJ9_min_7cf53_9 : decode cJ9_min_7cf53 9 = .ok (.iload_n 1, 1) := by decide +kernel
theorem dJ9_min_7cf53_10 : decode cJ9_min_7cf53 10 = .ok (.ireturn, 1) := by decide +kernel
