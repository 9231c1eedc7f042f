theorem dX3_init_0 : decode cX3_init 0 = .ok (.aload_n 0, 1) := by decide +kernel
theorem dX3_init_1 : decode cX3_init 1 = .ok (.invokespecial 3, 3) := by decide +kernel
theorem dX3_init_4 : decode cX3_init 4 = .ok (.aload_n 0, 1) := by decide +kernel
theorem dX3_init_5 : decode cX3_init 5 = .ok (.bipush 100, 2) := by decide +kernel
theorem dX3_init_7 : decode cX3_init 7 = .ok (.newarray .int, 2) := by decide +kernel
theorem dX3_init_9 : decode cX3_init 9 = .ok (.putfield 9, 3) := by decide +kernel
theorem dX3_init_12 : decode cX3_init 12 = .ok (.aload_n 0, 1) := by decide +kernel
theorem dX3_init_13 : decode cX3_init 13 = .ok (.bipush 100, 2) := by decide +kernel
theorem dX3_init_15 : decode cX3_init 15 = .ok (.newarray .int, 2) := by decide +kernel
theorem dX3_init_17 : decode cX3_init 17 = .ok (.putfield 15, 3) := by decide +kernel
theorem dX3_init_20 : decode cX3_init 20 = .ok (.aload_n 0, 1) := by decide +kernel
theorem dX3_init_21 : decode cX3_init 21 = .ok (.bipush 100, 2) := by decide +kernel
theorem dX3_init_23 : decode cX3_init 23 = .ok (.newarray .int, 2) := by decide +kernel
theorem dX3_init_25 : decode cX3_init 25 = .ok (.putfield 18, 3) := by decide +kernel
theorem dX3_init_28 : decode cX3_init 28 = .ok (.aload_n 0, 1) := by decide +kernel
theorem dX3_init_29 : decode cX3_init 29 = .ok (.bipush 100, 2) := by decide +kernel
theorem dX3_init_31 : decode cX3_init 31 = .ok (.newarray .int, 2) := by decide +kernel
theorem dX3_init_33 : decode cX3_init 33 = .ok (.putfield 21, 3) := by decide +kernel
theorem dX3_init_36 : decode cX3_init 36 = .ok (.aload_n 0, 1) := by decide +kernel
theorem dX3_init_37 : decode cX3_init 37 = .ok (.getfield 15, 3) := by decide +kernel
theorem dX3_init_40 : decode cX3_init 40 = .ok (.iconst 0, 1) := by decide +kernel
theorem dX3_init_41 : decode cX3_init 41 = .ok (.bipush 97, 2) := by decide +kernel
theorem dX3_init_43 : decode cX3_init 43 = .ok (.invokestatic 24, 3) := by decide +kernel
theorem dX3_init_46 : decode cX3_init 46 = .ok (.aload_n 0, 1) := by decide +kernel
theorem dX3_init_47 : decode cX3_init 47 = .ok (.iconst 1, 1) := by decide +kernel
theorem dX3_init_48 : decode cX3_init 48 = .ok (.putfield 28, 3) := by decide +kernel
theorem dX3_init_51 : decode cX3_init 51 = .ok (.return_, 1) := by decide +kernel
theorem dX3_count_0 : decode cX3_count 0 = .ok (.aload_n 0, 1) := by decide +kernel
theorem dX3_count_1 : decode cX3_count 1 = .ok (.getfield 28, 3) := by decide +kernel
theorem dX3_count_4 : decode cX3_count 4 = .ok (.ireturn, 1) := by decide +kernel
theorem dX3_has_0 : decode cX3_has 0 = .ok (.iload_n 1, 1) := by decide +kernel
theorem dX3_has_1 : decode cX3_has 1 = .ok (.ifCond .lt 15, 3) := by decide +kernel
theorem dX3_has_4 : decode cX3_has 4 = .ok (.iload_n 1, 1) := by decide +kernel
theorem dX3_has_5 : decode cX3_has 5 = .ok (.aload_n 0, 1) := by decide +kernel
theorem dX3_has_6 : decode cX3_has 6 = .ok (.getfield 28, 3) := by decide +kernel
theorem dX3_has_9 : decode cX3_has 9 = .ok (.if_icmp .ge 7, 3) := by decide +kernel
theorem dX3_has_12 : decode cX3_has 12 = .ok (.iconst 1, 1) := by decide +kernel
theorem dX3_has_13 : decode cX3_has 13 = .ok (.goto 4, 3) := by decide +kernel
theorem dX3_has_16 : decode cX3_has 16 = .ok (.iconst 0, 1) := by decide +kernel
theorem dX3_has_17 : decode cX3_has 17 = .ok (.ireturn, 1) := by decide +kernel
set_option maxRecDepth 20000 in
theorem ggX3_depthOf_X3_has : GoodIn wsX3_depthOf wsX3_has := goodIn_r _ [6, 7, 11, 12, 13, 14, 15] (by decide +kernel) (by decide +kernel)
set_option maxRecDepth 20000 in
theorem gX3_depthOf_X3_has : GoodIn wsX3_depthOf (wsV RX3 32 RX3 yX3_has wsX3_has) := goodIn_app (goodIn_of _ (by decide +kernel)) ggX3_depthOf_X3_has
set_option maxRecDepth 20000 in
theorem ggX3_depthOf_X4_get : GoodIn wsX3_depthOf wsX4_get := goodIn_r _ [10] (by decide +kernel) (by decide +kernel)
set_option maxRecDepth 20000 in
theorem gX3_depthOf_X4_get_n36 : GoodIn wsX3_depthOf (wsX4_get) := ggX3_depthOf_X4_get
theorem dX3_depthOf_0 : decode cX3_depthOf 0 = .ok (.aload_n 0, 1) := by decide +kernel
theorem dX3_depthOf_1 : decode cX3_depthOf 1 = .ok (.iload_n 1, 1) := by decide +kernel
theorem dX3_depthOf_2 : decode cX3_depthOf 2 = .ok (.invokevirtual 32, 3) := by decide +kernel
theorem dX3_depthOf_5 : decode cX3_depthOf 5 = .ok (.ifCond .eq 14, 3) := by decide +kernel
theorem dX3_depthOf_8 : decode cX3_depthOf 8 = .ok (.aload_n 0, 1) := by decide +kernel
theorem dX3_depthOf_9 : decode cX3_depthOf 9 = .ok (.getfield 9, 3) := by decide +kernel
theorem dX3_depthOf_12 : decode cX3_depthOf 12 = .ok (.iload_n 1, 1) := by decide +kernel
theorem dX3_depthOf_13 : decode cX3_depthOf 13 = .ok (.invokestatic 36, 3) := by decide +kernel
theorem dX3_depthOf_16 : decode cX3_depthOf 16 = .ok (.goto 4, 3) := by decide +kernel
theorem dX3_depthOf_19 : decode cX3_depthOf 19 = .ok (.iconst 0, 1) := by decide +kernel
theorem dX3_depthOf_20 : decode cX3_depthOf 20 = .ok (.ireturn, 1) := by decide +kernel
set_option maxRecDepth 20000 in
theorem ggX3_labelOf_X4_get : GoodIn wsX3_labelOf wsX4_get := goodIn_r _ [4] (by decide +kernel) (by decide +kernel)
set_option maxRecDepth 20000 in
theorem gX3_labelOf_X4_get_n36 : GoodIn wsX3_labelOf (wsX4_get) := ggX3_labelOf_X4_get
theorem dX3_labelOf_0 : decode cX3_labelOf 0 = .ok (.aload_n 0, 1) := by decide +kernel
theorem dX3_labelOf_1 : decode cX3_labelOf 1 = .ok (.getfield 15, 3) := by decide +kernel
theorem dX3_labelOf_4 : decode cX3_labelOf 4 = .ok (.iload_n 1, 1) := by decide +kernel
theorem dX3_labelOf_5 : decode cX3_labelOf 5 = .ok (.invokestatic 36, 3) := by decide +kernel
theorem dX3_labelOf_8 : decode cX3_labelOf 8 = .ok (.ireturn, 1) := by decide +kernel
set_option maxRecDepth 20000 in
theorem ggX3_endOf_X3_depthOf : GoodIn wsX3_endOf wsX3_depthOf := goodIn_r _ [6, 7, 8, 9, 10, 5, 11, 1, 12, 13, 14, 15, 16, 17, 18, 19] (by decide +kernel) (by decide +kernel)
set_option maxRecDepth 20000 in
theorem gX3_endOf_X3_depthOf : GoodIn wsX3_endOf (wsV RX3 40 RX3 yX3_depthOf wsX3_depthOf) := goodIn_app (goodIn_of _ (by decide +kernel)) ggX3_endOf_X3_depthOf
theorem dX3_endOf_0 : decode cX3_endOf 0 = .ok (.aload_n 0, 1) := by decide +kernel
theorem dX3_endOf_1 : decode cX3_endOf 1 = .ok (.iload_n 1, 1) := by decide +kernel
theorem dX3_endOf_2 : decode cX3_endOf 2 = .ok (.invokevirtual 40, 3) := by decide +kernel
theorem dX3_endOf_5 : decode cX3_endOf 5 = .ok (.istore_n 2, 1) := by decide +kernel
theorem dX3_endOf_6 : decode cX3_endOf 6 = .ok (.iload_n 1, 1) := by decide +kernel
theorem dX3_endOf_7 : decode cX3_endOf 7 = .ok (.iconst 1, 1) := by decide +kernel
theorem dX3_endOf_8 : decode cX3_endOf 8 = .ok (.iadd, 1) := by decide +kernel
theorem dX3_endOf_9 : decode cX3_endOf 9 = .ok (.istore_n 3, 1) := by decide +kernel
theorem dX3_endOf_10 : decode cX3_endOf 10 = .ok (.iload_n 3, 1) := by decide +kernel
theorem dX3_endOf_11 : decode cX3_endOf 11 = .ok (.aload_n 0, 1) := by decide +kernel
theorem dX3_endOf_12 : decode cX3_endOf 12 = .ok (.getfield 28, 3) := by decide +kernel
theorem dX3_endOf_15 : decode cX3_endOf 15 = .ok (.if_icmp .ge 20, 3) := by decide +kernel
theorem dX3_endOf_18 : decode cX3_endOf 18 = .ok (.aload_n 0, 1) := by decide +kernel
theorem dX3_endOf_19 : decode cX3_endOf 19 = .ok (.iload_n 3, 1) := by decide +kernel
theorem dX3_endOf_20 : decode cX3_endOf 20 = .ok (.invokevirtual 40, 3) := by decide +kernel
theorem dX3_endOf_23 : decode cX3_endOf 23 = .ok (.iload_n 2, 1) := by decide +kernel
theorem dX3_endOf_24 : decode cX3_endOf 24 = .ok (.if_icmp .gt 5, 3) := by decide +kernel
theorem dX3_endOf_27 : decode cX3_endOf 27 = .ok (.iload_n 3, 1) := by decide +kernel
theorem dX3_endOf_28 : decode cX3_endOf 28 = .ok (.ireturn, 1) := by decide +kernel
theorem dX3_endOf_29 : decode cX3_endOf 29 = .ok (.iinc 3 1, 3) := by decide +kernel
theorem dX3_endOf_32 : decode cX3_endOf 32 = .ok (.goto (-22), 3) := by decide +kernel
theorem dX3_endOf_35 : decode cX3_endOf 35 = .ok (.aload_n 0, 1) := by decide +kernel
theorem dX3_endOf_36 : decode cX3_endOf 36 = .ok (.getfield 28, 3) := by decide +kernel
theorem dX3_endOf_39 : decode cX3_endOf 39 = .ok (.ireturn, 1) := by decide +kernel
set_option maxRecDepth 20000 in
theorem ggX3_sizeOf_X3_endOf : GoodIn wsX3_sizeOf wsX3_endOf := goodIn_r _ [5, 6, 7, 8, 9, 4, 10, 11, 12, 13, 14, 15, 16, 17, 18, 19, 20, 21, 22, 23] (by decide +kernel) (by decide +kernel)
set_option maxRecDepth 20000 in
theorem gX3_sizeOf_X3_endOf : GoodIn wsX3_sizeOf (wsV RX3 44 RX3 yX3_endOf wsX3_endOf) := goodIn_app (goodIn_of _ (by decide +kernel)) ggX3_sizeOf_X3_endOf
theorem dX3_sizeOf_0 : decode cX3_sizeOf 0 = .ok (.aload_n 0, 1) := by decide +kernel
theorem dX3_sizeOf_1 : decode cX3_sizeOf 1 = .ok (.iload_n 1, 1) := by decide +kernel
theorem dX3_sizeOf_2 : decode cX3_sizeOf 2 = .ok (.invokevirtual 44, 3) := by decide +kernel
theorem dX3_sizeOf_5 : decode cX3_sizeOf 5 = .ok (.iload_n 1, 1) := by decide +kernel
theorem dX3_sizeOf_6 : decode cX3_sizeOf 6 = .ok (.isub, 1) := by decide +kernel
theorem dX3_sizeOf_7 : decode cX3_sizeOf 7 = .ok (.ireturn, 1) := by decide +kernel
set_option maxRecDepth 20000 in
theorem ggX3_parentOf_X3_depthOf : GoodIn wsX3_parentOf wsX3_depthOf := goodIn_r _ [5, 6, 7, 8, 9, 4, 10, 11, 12, 13, 14, 19, 20, 21, 22, 23] (by decide +kernel) (by decide +kernel)
set_option maxRecDepth 20000 in
theorem gX3_parentOf_X3_depthOf : GoodIn wsX3_parentOf (wsV RX3 40 RX3 yX3_depthOf wsX3_depthOf) := goodIn_app (goodIn_of _ (by decide +kernel)) ggX3_parentOf_X3_depthOf
set_option maxRecDepth 20000 in
theorem ggX3_parentOf_X3_climb : GoodIn wsX3_parentOf wsX3_climb := goodIn_r _ [18, 1, 2, 3, 4, 5, 6, 7, 8, 9, 10, 11, 12, 13, 14, 19, 20, 21, 22, 23] (by decide +kernel) (by decide +kernel)
set_option maxRecDepth 20000 in
theorem gX3_parentOf_X3_climb : GoodIn wsX3_parentOf (wsV RX3 47 RX3 yX3_climb wsX3_climb) := goodIn_app (goodIn_of _ (by decide +kernel)) ggX3_parentOf_X3_climb
theorem dX3_parentOf_0 : decode cX3_parentOf 0 = .ok (.iload_n 1, 1) := by decide +kernel
theorem dX3_parentOf_1 : decode cX3_parentOf 1 = .ok (.ifCond .ne 8, 3) := by decide +kernel
theorem dX3_parentOf_4 : decode cX3_parentOf 4 = .ok (.bipush (-5), 2) := by decide +kernel
theorem dX3_parentOf_6 : decode cX3_parentOf 6 = .ok (.goto 15, 3) := by decide +kernel
theorem dX3_parentOf_9 : decode cX3_parentOf 9 = .ok (.aload_n 0, 1) := by decide +kernel
theorem dX3_parentOf_10 : decode cX3_parentOf 10 = .ok (.iload_n 1, 1) := by decide +kernel
theorem dX3_parentOf_11 : decode cX3_parentOf 11 = .ok (.aload_n 0, 1) := by decide +kernel
theorem dX3_parentOf_12 : decode cX3_parentOf 12 = .ok (.iload_n 1, 1) := by decide +kernel
theorem dX3_parentOf_13 : decode cX3_parentOf 13 = .ok (.invokevirtual 40, 3) := by decide +kernel
theorem dX3_parentOf_16 : decode cX3_parentOf 16 = .ok (.iconst 1, 1) := by decide +kernel
theorem dX3_parentOf_17 : decode cX3_parentOf 17 = .ok (.isub, 1) := by decide +kernel
theorem dX3_parentOf_18 : decode cX3_parentOf 18 = .ok (.invokevirtual 47, 3) := by decide +kernel
theorem dX3_parentOf_21 : decode cX3_parentOf 21 = .ok (.ireturn, 1) := by decide +kernel
set_option maxRecDepth 20000 in
theorem ggX3_climb_X3_depthOf : GoodIn wsX3_climb wsX3_depthOf := goodIn_r _ [5, 6, 7, 8, 9, 4, 10, 11, 12, 13, 14, 15, 16, 17, 18, 19] (by decide +kernel) (by decide +kernel)
set_option maxRecDepth 20000 in
theorem gX3_climb_X3_depthOf : GoodIn wsX3_climb (wsV RX3 40 RX3 yX3_depthOf wsX3_depthOf) := goodIn_app (goodIn_of _ (by decide +kernel)) ggX3_climb_X3_depthOf
theorem dX3_climb_0 : decode cX3_climb 0 = .ok (.iload_n 1, 1) := by decide +kernel
theorem dX3_climb_1 : decode cX3_climb 1 = .ok (.istore_n 3, 1) := by decide +kernel
theorem dX3_climb_2 : decode cX3_climb 2 = .ok (.iload_n 3, 1) := by decide +kernel
theorem dX3_climb_3 : decode cX3_climb 3 = .ok (.ifCond .lt 20, 3) := by decide +kernel
theorem dX3_climb_6 : decode cX3_climb 6 = .ok (.aload_n 0, 1) := by decide +kernel
theorem dX3_climb_7 : decode cX3_climb 7 = .ok (.iload_n 3, 1) := by decide +kernel
theorem dX3_climb_8 : decode cX3_climb 8 = .ok (.invokevirtual 40, 3) := by decide +kernel
theorem dX3_climb_11 : decode cX3_climb 11 = .ok (.iload_n 2, 1) := by decide +kernel
theorem dX3_climb_12 : decode cX3_climb 12 = .ok (.if_icmp .ne 5, 3) := by decide +kernel
theorem dX3_climb_15 : decode cX3_climb 15 = .ok (.iload_n 3, 1) := by decide +kernel
theorem dX3_climb_16 : decode cX3_climb 16 = .ok (.ireturn, 1) := by decide +kernel
theorem dX3_climb_17 : decode cX3_climb 17 = .ok (.iinc 3 (-1), 3) := by decide +kernel
theorem dX3_climb_20 : decode cX3_climb 20 = .ok (.goto (-18), 3) := by decide +kernel
theorem dX3_climb_23 : decode cX3_climb 23 = .ok (.bipush (-5), 2) := by decide +kernel
theorem dX3_climb_25 : decode cX3_climb 25 = .ok (.ireturn, 1) := by decide +kernel
set_option maxRecDepth 20000 in
theorem ggX3_childCount_X3_endOf : GoodIn wsX3_childCount wsX3_endOf := goodIn_r _ [5, 6, 7, 8, 9, 4, 10, 11, 12, 13, 14, 15, 16, 17, 18, 19, 20, 21, 22, 23] (by decide +kernel) (by decide +kernel)
set_option maxRecDepth 20000 in
theorem gX3_childCount_X3_endOf : GoodIn wsX3_childCount (wsV RX3 44 RX3 yX3_endOf wsX3_endOf) := goodIn_app (goodIn_of _ (by decide +kernel)) ggX3_childCount_X3_endOf
set_option maxRecDepth 20000 in
theorem ggX3_childCount_X3_depthOf : GoodIn wsX3_childCount wsX3_depthOf := goodIn_r _ [10, 11, 12, 13, 14, 4, 15, 6, 16, 17, 18, 19, 20, 21, 22, 23] (by decide +kernel) (by decide +kernel)
set_option maxRecDepth 20000 in
theorem gX3_childCount_X3_depthOf : GoodIn wsX3_childCount (wsV RX3 40 RX3 yX3_depthOf wsX3_depthOf) := goodIn_app (goodIn_of _ (by decide +kernel)) ggX3_childCount_X3_depthOf
theorem dX3_childCount_0 : decode cX3_childCount 0 = .ok (.aload_n 0, 1) := by decide +kernel
theorem dX3_childCount_1 : decode cX3_childCount 1 = .ok (.iload_n 1, 1) := by decide +kernel
theorem dX3_childCount_2 : decode cX3_childCount 2 = .ok (.invokevirtual 44, 3) := by decide +kernel
theorem dX3_childCount_5 : decode cX3_childCount 5 = .ok (.istore_n 2, 1) := by decide +kernel
theorem dX3_childCount_6 : decode cX3_childCount 6 = .ok (.iconst 0, 1) := by decide +kernel
theorem dX3_childCount_7 : decode cX3_childCount 7 = .ok (.istore_n 3, 1) := by decide +kernel
theorem dX3_childCount_8 : decode cX3_childCount 8 = .ok (.iload_n 1, 1) := by decide +kernel
theorem dX3_childCount_9 : decode cX3_childCount 9 = .ok (.iconst 1, 1) := by decide +kernel
theorem dX3_childCount_10 : decode cX3_childCount 10 = .ok (.iadd, 1) := by decide +kernel
theorem dX3_childCount_11 : decode cX3_childCount 11 = .ok (.istore 4, 2) := by decide +kernel
theorem dX3_childCount_13 : decode cX3_childCount 13 = .ok (.iload 4, 2) := by decide +kernel
theorem dX3_childCount_15 : decode cX3_childCount 15 = .ok (.iload_n 2, 1) := by decide +kernel
theorem dX3_childCount_16 : decode cX3_childCount 16 = .ok (.if_icmp .ge 28, 3) := by decide +kernel
theorem dX3_childCount_19 : decode cX3_childCount 19 = .ok (.aload_n 0, 1) := by decide +kernel
theorem dX3_childCount_20 : decode cX3_childCount 20 = .ok (.iload 4, 2) := by decide +kernel
theorem dX3_childCount_22 : decode cX3_childCount 22 = .ok (.invokevirtual 40, 3) := by decide +kernel
theorem dX3_childCount_25 : decode cX3_childCount 25 = .ok (.aload_n 0, 1) := by decide +kernel
theorem dX3_childCount_26 : decode cX3_childCount 26 = .ok (.iload_n 1, 1) := by decide +kernel
theorem dX3_childCount_27 : decode cX3_childCount 27 = .ok (.invokevirtual 40, 3) := by decide +kernel
theorem dX3_childCount_30 : decode cX3_childCount 30 = .ok (.iconst 1, 1) := by decide +kernel
theorem dX3_childCount_31 : decode cX3_childCount 31 = .ok (.iadd, 1) := by decide +kernel
theorem dX3_childCount_32 : decode cX3_childCount 32 = .ok (.if_icmp .ne 6, 3) := by decide +kernel
theorem dX3_childCount_35 : decode cX3_childCount 35 = .ok (.iinc 3 1, 3) := by decide +kernel
theorem dX3_childCount_38 : decode cX3_childCount 38 = .ok (.iinc 4 1, 3) := by decide +kernel
theorem dX3_childCount_41 : decode cX3_childCount 41 = .ok (.goto (-28), 3) := by decide +kernel
theorem dX3_childCount_44 : decode cX3_childCount 44 = .ok (.iload_n 3, 1) := by decide +kernel
theorem dX3_childCount_45 : decode cX3_childCount 45 = .ok (.ireturn, 1) := by decide +kernel
set_option maxRecDepth 20000 in
theorem ggX3_startOfPlace_X3_endOf : GoodIn wsX3_startOfPlace wsX3_endOf := goodIn_r _ [5, 6, 7, 8, 9, 4, 10, 11, 12, 13, 14, 15, 16, 17, 18, 19, 20, 21, 22, 23] (by decide +kernel) (by decide +kernel)
set_option maxRecDepth 20000 in
theorem gX3_startOfPlace_X3_endOf : GoodIn wsX3_startOfPlace (wsV RX3 44 RX3 yX3_endOf wsX3_endOf) := goodIn_app (goodIn_of _ (by decide +kernel)) ggX3_startOfPlace_X3_endOf
set_option maxRecDepth 20000 in
theorem ggX3_startOfPlace_X3_depthOf : GoodIn wsX3_startOfPlace wsX3_depthOf := goodIn_r _ [10, 11, 12, 13, 14, 4, 15, 6, 16, 17, 18, 19, 20, 21, 22, 23] (by decide +kernel) (by decide +kernel)
set_option maxRecDepth 20000 in
theorem gX3_startOfPlace_X3_depthOf : GoodIn wsX3_startOfPlace (wsV RX3 40 RX3 yX3_depthOf wsX3_depthOf) := goodIn_app (goodIn_of _ (by decide +kernel)) ggX3_startOfPlace_X3_depthOf
theorem dX3_startOfPlace_0 : decode cX3_startOfPlace 0 = .ok (.aload_n 0, 1) := by decide +kernel
theorem dX3_startOfPlace_1 : decode cX3_startOfPlace 1 = .ok (.iload_n 1, 1) := by decide +kernel
theorem dX3_startOfPlace_2 : decode cX3_startOfPlace 2 = .ok (.invokevirtual 44, 3) := by decide +kernel
theorem dX3_startOfPlace_5 : decode cX3_startOfPlace 5 = .ok (.istore_n 3, 1) := by decide +kernel
theorem dX3_startOfPlace_6 : decode cX3_startOfPlace 6 = .ok (.iconst 0, 1) := by decide +kernel
theorem dX3_startOfPlace_7 : decode cX3_startOfPlace 7 = .ok (.istore 4, 2) := by decide +kernel
theorem dX3_startOfPlace_9 : decode cX3_startOfPlace 9 = .ok (.iload_n 1, 1) := by decide +kernel
theorem dX3_startOfPlace_10 : decode cX3_startOfPlace 10 = .ok (.iconst 1, 1) := by decide +kernel
theorem dX3_startOfPlace_11 : decode cX3_startOfPlace 11 = .ok (.iadd, 1) := by decide +kernel
theorem dX3_startOfPlace_12 : decode cX3_startOfPlace 12 = .ok (.istore 5, 2) := by decide +kernel
theorem dX3_startOfPlace_14 : decode cX3_startOfPlace 14 = .ok (.iload 5, 2) := by decide +kernel
theorem dX3_startOfPlace_16 : decode cX3_startOfPlace 16 = .ok (.iload_n 3, 1) := by decide +kernel
theorem dX3_startOfPlace_17 : decode cX3_startOfPlace 17 = .ok (.if_icmp .ge 37, 3) := by decide +kernel
theorem dX3_startOfPlace_20 : decode cX3_startOfPlace 20 = .ok (.aload_n 0, 1) := by decide +kernel
theorem dX3_startOfPlace_21 : decode cX3_startOfPlace 21 = .ok (.iload 5, 2) := by decide +kernel
theorem dX3_startOfPlace_23 : decode cX3_startOfPlace 23 = .ok (.invokevirtual 40, 3) := by decide +kernel
theorem dX3_startOfPlace_26 : decode cX3_startOfPlace 26 = .ok (.aload_n 0, 1) := by decide +kernel
theorem dX3_startOfPlace_27 : decode cX3_startOfPlace 27 = .ok (.iload_n 1, 1) := by decide +kernel
theorem dX3_startOfPlace_28 : decode cX3_startOfPlace 28 = .ok (.invokevirtual 40, 3) := by decide +kernel
theorem dX3_startOfPlace_31 : decode cX3_startOfPlace 31 = .ok (.iconst 1, 1) := by decide +kernel
theorem dX3_startOfPlace_32 : decode cX3_startOfPlace 32 = .ok (.iadd, 1) := by decide +kernel
theorem dX3_startOfPlace_33 : decode cX3_startOfPlace 33 = .ok (.if_icmp .ne 15, 3) := by decide +kernel
theorem dX3_startOfPlace_36 : decode cX3_startOfPlace 36 = .ok (.iload 4, 2) := by decide +kernel
theorem dX3_startOfPlace_38 : decode cX3_startOfPlace 38 = .ok (.iload_n 2, 1) := by decide +kernel
theorem dX3_startOfPlace_39 : decode cX3_startOfPlace 39 = .ok (.if_icmp .ne 6, 3) := by decide +kernel
theorem dX3_startOfPlace_42 : decode cX3_startOfPlace 42 = .ok (.iload 5, 2) := by decide +kernel
theorem dX3_startOfPlace_44 : decode cX3_startOfPlace 44 = .ok (.ireturn, 1) := by decide +kernel
theorem dX3_startOfPlace_45 : decode cX3_startOfPlace 45 = .ok (.iinc 4 1, 3) := by decide +kernel
theorem dX3_startOfPlace_48 : decode cX3_startOfPlace 48 = .ok (.iinc 5 1, 3) := by decide +kernel
theorem dX3_startOfPlace_51 : decode cX3_startOfPlace 51 = .ok (.goto (-37), 3) := by decide +kernel
theorem dX3_startOfPlace_54 : decode cX3_startOfPlace 54 = .ok (.iload_n 3, 1) := by decide +kernel
theorem dX3_startOfPlace_55 : decode cX3_startOfPlace 55 = .ok (.ireturn, 1) := by decide +kernel
set_option maxRecDepth 20000 in
theorem ggX3_placeOf_X3_depthOf : GoodIn wsX3_placeOf wsX3_depthOf := goodIn_r _ [5, 6, 7, 8, 9, 4, 10, 11, 12, 13, 14, 15, 16, 17, 18, 19] (by decide +kernel) (by decide +kernel)
set_option maxRecDepth 20000 in
theorem gX3_placeOf_X3_depthOf : GoodIn wsX3_placeOf (wsV RX3 40 RX3 yX3_depthOf wsX3_depthOf) := goodIn_app (goodIn_of _ (by decide +kernel)) ggX3_placeOf_X3_depthOf
theorem dX3_placeOf_0 : decode cX3_placeOf 0 = .ok (.aload_n 0, 1) := by decide +kernel
theorem dX3_placeOf_1 : decode cX3_placeOf 1 = .ok (.iload_n 1, 1) := by decide +kernel
theorem dX3_placeOf_2 : decode cX3_placeOf 2 = .ok (.invokevirtual 40, 3) := by decide +kernel
theorem dX3_placeOf_5 : decode cX3_placeOf 5 = .ok (.istore_n 2, 1) := by decide +kernel
theorem dX3_placeOf_6 : decode cX3_placeOf 6 = .ok (.iconst 0, 1) := by decide +kernel
theorem dX3_placeOf_7 : decode cX3_placeOf 7 = .ok (.istore_n 3, 1) := by decide +kernel
theorem dX3_placeOf_8 : decode cX3_placeOf 8 = .ok (.iload_n 1, 1) := by decide +kernel
theorem dX3_placeOf_9 : decode cX3_placeOf 9 = .ok (.iconst 1, 1) := by decide +kernel
theorem dX3_placeOf_10 : decode cX3_placeOf 10 = .ok (.isub, 1) := by decide +kernel
theorem dX3_placeOf_11 : decode cX3_placeOf 11 = .ok (.istore 4, 2) := by decide +kernel
theorem dX3_placeOf_13 : decode cX3_placeOf 13 = .ok (.iload 4, 2) := by decide +kernel
theorem dX3_placeOf_15 : decode cX3_placeOf 15 = .ok (.ifCond .lt 32, 3) := by decide +kernel
theorem dX3_placeOf_18 : decode cX3_placeOf 18 = .ok (.aload_n 0, 1) := by decide +kernel
theorem dX3_placeOf_19 : decode cX3_placeOf 19 = .ok (.iload 4, 2) := by decide +kernel
theorem dX3_placeOf_21 : decode cX3_placeOf 21 = .ok (.invokevirtual 40, 3) := by decide +kernel
theorem dX3_placeOf_24 : decode cX3_placeOf 24 = .ok (.iload_n 2, 1) := by decide +kernel
theorem dX3_placeOf_25 : decode cX3_placeOf 25 = .ok (.if_icmp .lt 22, 3) := by decide +kernel
theorem dX3_placeOf_28 : decode cX3_placeOf 28 = .ok (.aload_n 0, 1) := by decide +kernel
theorem dX3_placeOf_29 : decode cX3_placeOf 29 = .ok (.iload 4, 2) := by decide +kernel
theorem dX3_placeOf_31 : decode cX3_placeOf 31 = .ok (.invokevirtual 40, 3) := by decide +kernel
theorem dX3_placeOf_34 : decode cX3_placeOf 34 = .ok (.iload_n 2, 1) := by decide +kernel
theorem dX3_placeOf_35 : decode cX3_placeOf 35 = .ok (.if_icmp .ne 6, 3) := by decide +kernel
theorem dX3_placeOf_38 : decode cX3_placeOf 38 = .ok (.iinc 3 1, 3) := by decide +kernel
theorem dX3_placeOf_41 : decode cX3_placeOf 41 = .ok (.iinc 4 (-1), 3) := by decide +kernel
theorem dX3_placeOf_44 : decode cX3_placeOf 44 = .ok (.goto (-31), 3) := by decide +kernel
theorem dX3_placeOf_47 : decode cX3_placeOf 47 = .ok (.iload_n 3, 1) := by decide +kernel
theorem dX3_placeOf_48 : decode cX3_placeOf 48 = .ok (.ireturn, 1) := by decide +kernel
set_option maxRecDepth 20000 in
theorem ggX3_isLeaf_X3_depthOf : GoodIn wsX3_isLeaf wsX3_depthOf := goodIn_r _ [5, 6, 7, 8, 9, 4, 10, 11, 12, 13, 14, 15, 16, 17, 18, 19] (by decide +kernel) (by decide +kernel)
set_option maxRecDepth 20000 in
theorem gX3_isLeaf_X3_depthOf : GoodIn wsX3_isLeaf (wsV RX3 40 RX3 yX3_depthOf wsX3_depthOf) := goodIn_app (goodIn_of _ (by decide +kernel)) ggX3_isLeaf_X3_depthOf
theorem dX3_isLeaf_0 : decode cX3_isLeaf 0 = .ok (.aload_n 0, 1) := by decide +kernel
theorem dX3_isLeaf_1 : decode cX3_isLeaf 1 = .ok (.iload_n 1, 1) := by decide +kernel
theorem dX3_isLeaf_2 : decode cX3_isLeaf 2 = .ok (.iconst 1, 1) := by decide +kernel
theorem dX3_isLeaf_3 : decode cX3_isLeaf 3 = .ok (.iadd, 1) := by decide +kernel
theorem dX3_isLeaf_4 : decode cX3_isLeaf 4 = .ok (.invokevirtual 40, 3) := by decide +kernel
theorem dX3_isLeaf_7 : decode cX3_isLeaf 7 = .ok (.aload_n 0, 1) := by decide +kernel
theorem dX3_isLeaf_8 : decode cX3_isLeaf 8 = .ok (.iload_n 1, 1) := by decide +kernel
theorem dX3_isLeaf_9 : decode cX3_isLeaf 9 = .ok (.invokevirtual 40, 3) := by decide +kernel
theorem dX3_isLeaf_12 : decode cX3_isLeaf 12 = .ok (.if_icmp .gt 7, 3) := by decide +kernel
theorem dX3_isLeaf_15 : decode cX3_isLeaf 15 = .ok (.iconst 1, 1) := by decide +kernel
theorem dX3_isLeaf_16 : decode cX3_isLeaf 16 = .ok (.goto 4, 3) := by decide +kernel
theorem dX3_isLeaf_19 : decode cX3_isLeaf 19 = .ok (.iconst 0, 1) := by decide +kernel
theorem dX3_isLeaf_20 : decode cX3_isLeaf 20 = .ok (.ireturn, 1) := by decide +kernel
set_option maxRecDepth 20000 in
theorem ggX3_leafCount_X3_endOf : GoodIn wsX3_leafCount wsX3_endOf := goodIn_r _ [5, 6, 7, 8, 9, 4, 10, 11, 12, 13, 14, 15, 16, 17, 18, 23, 24, 25, 26, 27] (by decide +kernel) (by decide +kernel)
set_option maxRecDepth 20000 in
theorem gX3_leafCount_X3_endOf : GoodIn wsX3_leafCount (wsV RX3 44 RX3 yX3_endOf wsX3_endOf) := goodIn_app (goodIn_of _ (by decide +kernel)) ggX3_leafCount_X3_endOf
set_option maxRecDepth 20000 in
theorem ggX3_leafCount_X3_isLeaf : GoodIn wsX3_leafCount wsX3_isLeaf := goodIn_r _ [22, 7, 8, 9, 4, 10, 11, 12, 13, 14, 15, 6, 16, 17, 18, 23, 24, 25, 26, 27] (by decide +kernel) (by decide +kernel)
set_option maxRecDepth 20000 in
theorem gX3_leafCount_X3_isLeaf : GoodIn wsX3_leafCount (wsV RX3 51 RX3 yX3_isLeaf wsX3_isLeaf) := goodIn_app (goodIn_of _ (by decide +kernel)) ggX3_leafCount_X3_isLeaf
theorem dX3_leafCount_0 : decode cX3_leafCount 0 = .ok (.aload_n 0, 1) := by decide +kernel
theorem dX3_leafCount_1 : decode cX3_leafCount 1 = .ok (.iload_n 1, 1) := by decide +kernel
theorem dX3_leafCount_2 : decode cX3_leafCount 2 = .ok (.invokevirtual 44, 3) := by decide +kernel
theorem dX3_leafCount_5 : decode cX3_leafCount 5 = .ok (.istore_n 2, 1) := by decide +kernel
theorem dX3_leafCount_6 : decode cX3_leafCount 6 = .ok (.iconst 0, 1) := by decide +kernel
theorem dX3_leafCount_7 : decode cX3_leafCount 7 = .ok (.istore_n 3, 1) := by decide +kernel
theorem dX3_leafCount_8 : decode cX3_leafCount 8 = .ok (.iload_n 1, 1) := by decide +kernel
theorem dX3_leafCount_9 : decode cX3_leafCount 9 = .ok (.istore 4, 2) := by decide +kernel
theorem dX3_leafCount_11 : decode cX3_leafCount 11 = .ok (.iload 4, 2) := by decide +kernel
theorem dX3_leafCount_13 : decode cX3_leafCount 13 = .ok (.iload_n 2, 1) := by decide +kernel
theorem dX3_leafCount_14 : decode cX3_leafCount 14 = .ok (.if_icmp .ge 21, 3) := by decide +kernel
theorem dX3_leafCount_17 : decode cX3_leafCount 17 = .ok (.aload_n 0, 1) := by decide +kernel
theorem dX3_leafCount_18 : decode cX3_leafCount 18 = .ok (.iload 4, 2) := by decide +kernel
theorem dX3_leafCount_20 : decode cX3_leafCount 20 = .ok (.invokevirtual 51, 3) := by decide +kernel
theorem dX3_leafCount_23 : decode cX3_leafCount 23 = .ok (.ifCond .eq 6, 3) := by decide +kernel
theorem dX3_leafCount_26 : decode cX3_leafCount 26 = .ok (.iinc 3 1, 3) := by decide +kernel
theorem dX3_leafCount_29 : decode cX3_leafCount 29 = .ok (.iinc 4 1, 3) := by decide +kernel
theorem dX3_leafCount_32 : decode cX3_leafCount 32 = .ok (.goto (-21), 3) := by decide +kernel
theorem dX3_leafCount_35 : decode cX3_leafCount 35 = .ok (.iload_n 3, 1) := by decide +kernel
theorem dX3_leafCount_36 : decode cX3_leafCount 36 = .ok (.ireturn, 1) := by decide +kernel
set_option maxRecDepth 20000 in
theorem ggX3_deepestOf_X3_endOf : GoodIn wsX3_deepestOf wsX3_endOf := goodIn_r _ [5, 6, 7, 8, 9, 4, 10, 11, 12, 13, 14, 15, 16, 17, 18, 19, 20, 21, 22, 23] (by decide +kernel) (by decide +kernel)
set_option maxRecDepth 20000 in
theorem gX3_deepestOf_X3_endOf : GoodIn wsX3_deepestOf (wsV RX3 44 RX3 yX3_endOf wsX3_endOf) := goodIn_app (goodIn_of _ (by decide +kernel)) ggX3_deepestOf_X3_endOf
set_option maxRecDepth 20000 in
theorem ggX3_deepestOf_X3_depthOf : GoodIn wsX3_deepestOf wsX3_depthOf := goodIn_r _ [10, 11, 12, 13, 14, 4, 15, 6, 16, 17, 18, 19, 20, 21, 22, 23] (by decide +kernel) (by decide +kernel)
set_option maxRecDepth 20000 in
theorem gX3_deepestOf_X3_depthOf : GoodIn wsX3_deepestOf (wsV RX3 40 RX3 yX3_depthOf wsX3_depthOf) := goodIn_app (goodIn_of _ (by decide +kernel)) ggX3_deepestOf_X3_depthOf
theorem dX3_deepestOf_0 : decode cX3_deepestOf 0 = .ok (.aload_n 0, 1) := by decide +kernel
theorem dX3_deepestOf_1 : decode cX3_deepestOf 1 = .ok (.iload_n 1, 1) := by decide +kernel
theorem dX3_deepestOf_2 : decode cX3_deepestOf 2 = .ok (.invokevirtual 44, 3) := by decide +kernel
theorem dX3_deepestOf_5 : decode cX3_deepestOf 5 = .ok (.istore_n 2, 1) := by decide +kernel
theorem dX3_deepestOf_6 : decode cX3_deepestOf 6 = .ok (.iload_n 1, 1) := by decide +kernel
theorem dX3_deepestOf_7 : decode cX3_deepestOf 7 = .ok (.istore_n 3, 1) := by decide +kernel
theorem dX3_deepestOf_8 : decode cX3_deepestOf 8 = .ok (.iload_n 1, 1) := by decide +kernel
theorem dX3_deepestOf_9 : decode cX3_deepestOf 9 = .ok (.iconst 1, 1) := by decide +kernel
theorem dX3_deepestOf_10 : decode cX3_deepestOf 10 = .ok (.iadd, 1) := by decide +kernel
theorem dX3_deepestOf_11 : decode cX3_deepestOf 11 = .ok (.istore 4, 2) := by decide +kernel
theorem dX3_deepestOf_13 : decode cX3_deepestOf 13 = .ok (.iload 4, 2) := by decide +kernel
theorem dX3_deepestOf_15 : decode cX3_deepestOf 15 = .ok (.iload_n 2, 1) := by decide +kernel
theorem dX3_deepestOf_16 : decode cX3_deepestOf 16 = .ok (.if_icmp .ge 26, 3) := by decide +kernel
theorem dX3_deepestOf_19 : decode cX3_deepestOf 19 = .ok (.aload_n 0, 1) := by decide +kernel
theorem dX3_deepestOf_20 : decode cX3_deepestOf 20 = .ok (.iload 4, 2) := by decide +kernel
theorem dX3_deepestOf_22 : decode cX3_deepestOf 22 = .ok (.invokevirtual 40, 3) := by decide +kernel
theorem dX3_deepestOf_25 : decode cX3_deepestOf 25 = .ok (.aload_n 0, 1) := by decide +kernel
theorem dX3_deepestOf_26 : decode cX3_deepestOf 26 = .ok (.iload_n 3, 1) := by decide +kernel
theorem dX3_deepestOf_27 : decode cX3_deepestOf 27 = .ok (.invokevirtual 40, 3) := by decide +kernel
theorem dX3_deepestOf_30 : decode cX3_deepestOf 30 = .ok (.if_icmp .le 6, 3) := by decide +kernel
theorem dX3_deepestOf_33 : decode cX3_deepestOf 33 = .ok (.iload 4, 2) := by decide +kernel
theorem dX3_deepestOf_35 : decode cX3_deepestOf 35 = .ok (.istore_n 3, 1) := by decide +kernel
theorem dX3_deepestOf_36 : decode cX3_deepestOf 36 = .ok (.iinc 4 1, 3) := by decide +kernel
theorem dX3_deepestOf_39 : decode cX3_deepestOf 39 = .ok (.goto (-26), 3) := by decide +kernel
theorem dX3_deepestOf_42 : decode cX3_deepestOf 42 = .ok (.iload_n 3, 1) := by decide +kernel
theorem dX3_deepestOf_43 : decode cX3_deepestOf 43 = .ok (.ireturn, 1) := by decide +kernel
set_option maxRecDepth 20000 in
theorem ggX3_postorderOf_X3_endOf : GoodIn wsX3_postorderOf wsX3_endOf := goodIn_r _ [5, 6, 7, 8, 9, 4, 10, 11, 12, 13, 14, 15, 16, 17, 18, 19, 20, 21, 22, 23] (by decide +kernel) (by decide +kernel)
set_option maxRecDepth 20000 in
theorem gX3_postorderOf_X3_endOf : GoodIn wsX3_postorderOf (wsV RX3 44 RX3 yX3_endOf wsX3_endOf) := goodIn_app (goodIn_of _ (by decide +kernel)) ggX3_postorderOf_X3_endOf
set_option maxRecDepth 20000 in
theorem ggX3_postorderOf_X3_depthOf : GoodIn wsX3_postorderOf wsX3_depthOf := goodIn_r _ [10, 11, 12, 13, 14, 4, 15, 6, 16, 17, 18, 19, 20, 21, 22, 23] (by decide +kernel) (by decide +kernel)
set_option maxRecDepth 20000 in
theorem gX3_postorderOf_X3_depthOf : GoodIn wsX3_postorderOf (wsV RX3 40 RX3 yX3_depthOf wsX3_depthOf) := goodIn_app (goodIn_of _ (by decide +kernel)) ggX3_postorderOf_X3_depthOf
theorem dX3_postorderOf_0 : decode cX3_postorderOf 0 = .ok (.aload_n 0, 1) := by decide +kernel
theorem dX3_postorderOf_1 : decode cX3_postorderOf 1 = .ok (.iload_n 1, 1) := by decide +kernel
theorem dX3_postorderOf_2 : decode cX3_postorderOf 2 = .ok (.invokevirtual 44, 3) := by decide +kernel
theorem dX3_postorderOf_5 : decode cX3_postorderOf 5 = .ok (.iconst 1, 1) := by decide +kernel
theorem dX3_postorderOf_6 : decode cX3_postorderOf 6 = .ok (.isub, 1) := by decide +kernel
theorem dX3_postorderOf_7 : decode cX3_postorderOf 7 = .ok (.aload_n 0, 1) := by decide +kernel
theorem dX3_postorderOf_8 : decode cX3_postorderOf 8 = .ok (.iload_n 1, 1) := by decide +kernel
theorem dX3_postorderOf_9 : decode cX3_postorderOf 9 = .ok (.invokevirtual 40, 3) := by decide +kernel
theorem dX3_postorderOf_12 : decode cX3_postorderOf 12 = .ok (.isub, 1) := by decide +kernel
theorem dX3_postorderOf_13 : decode cX3_postorderOf 13 = .ok (.ireturn, 1) := by decide +kernel
set_option maxRecDepth 20000 in
theorem ggX3_findByPostorder_X3_postorderOf : GoodIn wsX3_findByPostorder wsX3_postorderOf := goodIn_r _ [6, 7, 8, 9, 5, 10, 1, 11, 12, 13, 14, 15, 16, 17, 18, 19, 20, 21, 22, 23, 24, 25, 26, 27] (by decide +kernel) (by decide +kernel)
set_option maxRecDepth 20000 in
theorem gX3_findByPostorder_X3_postorderOf : GoodIn wsX3_findByPostorder (wsV RX3 54 RX3 yX3_postorderOf wsX3_postorderOf) := goodIn_app (goodIn_of _ (by decide +kernel)) ggX3_findByPostorder_X3_postorderOf
theorem dX3_findByPostorder_0 : decode cX3_findByPostorder 0 = .ok (.iconst 0, 1) := by decide +kernel
theorem dX3_findByPostorder_1 : decode cX3_findByPostorder 1 = .ok (.istore_n 2, 1) := by decide +kernel
theorem dX3_findByPostorder_2 : decode cX3_findByPostorder 2 = .ok (.iload_n 2, 1) := by decide +kernel
theorem dX3_findByPostorder_3 : decode cX3_findByPostorder 3 = .ok (.aload_n 0, 1) := by decide +kernel
theorem dX3_findByPostorder_4 : decode cX3_findByPostorder 4 = .ok (.getfield 28, 3) := by decide +kernel
theorem dX3_findByPostorder_7 : decode cX3_findByPostorder 7 = .ok (.if_icmp .ge 20, 3) := by decide +kernel
theorem dX3_findByPostorder_10 : decode cX3_findByPostorder 10 = .ok (.aload_n 0, 1) := by decide +kernel
theorem dX3_findByPostorder_11 : decode cX3_findByPostorder 11 = .ok (.iload_n 2, 1) := by decide +kernel
theorem dX3_findByPostorder_12 : decode cX3_findByPostorder 12 = .ok (.invokevirtual 54, 3) := by decide +kernel
theorem dX3_findByPostorder_15 : decode cX3_findByPostorder 15 = .ok (.iload_n 1, 1) := by decide +kernel
theorem dX3_findByPostorder_16 : decode cX3_findByPostorder 16 = .ok (.if_icmp .ne 5, 3) := by decide +kernel
theorem dX3_findByPostorder_19 : decode cX3_findByPostorder 19 = .ok (.iload_n 2, 1) := by decide +kernel
theorem dX3_findByPostorder_20 : decode cX3_findByPostorder 20 = .ok (.ireturn, 1) := by decide +kernel
theorem dX3_findByPostorder_21 : decode cX3_findByPostorder 21 = .ok (.iinc 2 1, 3) := by decide +kernel
theorem dX3_findByPostorder_24 : decode cX3_findByPostorder 24 = .ok (.goto (-22), 3) := by decide +kernel
theorem dX3_findByPostorder_27 : decode cX3_findByPostorder 27 = .ok (.bipush (-5), 2) := by decide +kernel
theorem dX3_findByPostorder_29 : decode cX3_findByPostorder 29 = .ok (.ireturn, 1) := by decide +kernel
set_option maxRecDepth 20000 in
theorem ggX3_meetingOf_X3_depthOf : GoodIn wsX3_meetingOf wsX3_depthOf := goodIn_r _ [12, 13, 14, 15, 16, 11, 17, 18, 19, 20, 21, 26, 27, 28, 29, 30] (by decide +kernel) (by decide +kernel)
set_option maxRecDepth 20000 in
theorem gX3_meetingOf_X3_depthOf : GoodIn wsX3_meetingOf (wsV RX3 40 RX3 yX3_depthOf wsX3_depthOf) := goodIn_app (goodIn_of _ (by decide +kernel)) ggX3_meetingOf_X3_depthOf
set_option maxRecDepth 20000 in
theorem ggX3_meetingOf_X3_climb : GoodIn wsX3_meetingOf wsX3_climb := goodIn_r _ [25, 8, 9, 10, 11, 12, 13, 14, 15, 16, 17, 18, 19, 20, 21, 26, 27, 28, 29, 30] (by decide +kernel) (by decide +kernel)
set_option maxRecDepth 20000 in
theorem gX3_meetingOf_X3_climb : GoodIn wsX3_meetingOf (wsV RX3 47 RX3 yX3_climb wsX3_climb) := goodIn_app (goodIn_of _ (by decide +kernel)) ggX3_meetingOf_X3_climb
theorem dX3_meetingOf_0 : decode cX3_meetingOf 0 = .ok (.iload_n 1, 1) := by decide +kernel
theorem dX3_meetingOf_1 : decode cX3_meetingOf 1 = .ok (.iload_n 2, 1) := by decide +kernel
theorem dX3_meetingOf_2 : decode cX3_meetingOf 2 = .ok (.invokestatic 57, 3) := by decide +kernel
theorem dX3_meetingOf_5 : decode cX3_meetingOf 5 = .ok (.istore_n 3, 1) := by decide +kernel
theorem dX3_meetingOf_6 : decode cX3_meetingOf 6 = .ok (.iload_n 1, 1) := by decide +kernel
theorem dX3_meetingOf_7 : decode cX3_meetingOf 7 = .ok (.iload_n 2, 1) := by decide +kernel
theorem dX3_meetingOf_8 : decode cX3_meetingOf 8 = .ok (.invokestatic 62, 3) := by decide +kernel
theorem dX3_meetingOf_11 : decode cX3_meetingOf 11 = .ok (.istore 4, 2) := by decide +kernel
theorem dX3_meetingOf_13 : decode cX3_meetingOf 13 = .ok (.aload_n 0, 1) := by decide +kernel
theorem dX3_meetingOf_14 : decode cX3_meetingOf 14 = .ok (.iload_n 3, 1) := by decide +kernel
theorem dX3_meetingOf_15 : decode cX3_meetingOf 15 = .ok (.invokevirtual 40, 3) := by decide +kernel
theorem dX3_meetingOf_18 : decode cX3_meetingOf 18 = .ok (.istore 5, 2) := by decide +kernel
theorem dX3_meetingOf_20 : decode cX3_meetingOf 20 = .ok (.iload_n 3, 1) := by decide +kernel
theorem dX3_meetingOf_21 : decode cX3_meetingOf 21 = .ok (.iconst 1, 1) := by decide +kernel
theorem dX3_meetingOf_22 : decode cX3_meetingOf 22 = .ok (.iadd, 1) := by decide +kernel
theorem dX3_meetingOf_23 : decode cX3_meetingOf 23 = .ok (.istore 6, 2) := by decide +kernel
theorem dX3_meetingOf_25 : decode cX3_meetingOf 25 = .ok (.iload 6, 2) := by decide +kernel
theorem dX3_meetingOf_27 : decode cX3_meetingOf 27 = .ok (.iload 4, 2) := by decide +kernel
theorem dX3_meetingOf_29 : decode cX3_meetingOf 29 = .ok (.if_icmp .gt 24, 3) := by decide +kernel
theorem dX3_meetingOf_32 : decode cX3_meetingOf 32 = .ok (.iload 5, 2) := by decide +kernel
theorem dX3_meetingOf_34 : decode cX3_meetingOf 34 = .ok (.aload_n 0, 1) := by decide +kernel
theorem dX3_meetingOf_35 : decode cX3_meetingOf 35 = .ok (.iload 6, 2) := by decide +kernel
theorem dX3_meetingOf_37 : decode cX3_meetingOf 37 = .ok (.invokevirtual 40, 3) := by decide +kernel
theorem dX3_meetingOf_40 : decode cX3_meetingOf 40 = .ok (.iconst 1, 1) := by decide +kernel
theorem dX3_meetingOf_41 : decode cX3_meetingOf 41 = .ok (.isub, 1) := by decide +kernel
theorem dX3_meetingOf_42 : decode cX3_meetingOf 42 = .ok (.invokestatic 57, 3) := by decide +kernel
theorem dX3_meetingOf_45 : decode cX3_meetingOf 45 = .ok (.istore 5, 2) := by decide +kernel
theorem dX3_meetingOf_47 : decode cX3_meetingOf 47 = .ok (.iinc 6 1, 3) := by decide +kernel
theorem dX3_meetingOf_50 : decode cX3_meetingOf 50 = .ok (.goto (-25), 3) := by decide +kernel
theorem dX3_meetingOf_53 : decode cX3_meetingOf 53 = .ok (.aload_n 0, 1) := by decide +kernel
theorem dX3_meetingOf_54 : decode cX3_meetingOf 54 = .ok (.iload_n 3, 1) := by decide +kernel
theorem dX3_meetingOf_55 : decode cX3_meetingOf 55 = .ok (.iload 5, 2) := by decide +kernel
theorem dX3_meetingOf_57 : decode cX3_meetingOf 57 = .ok (.invokevirtual 47, 3) := by decide +kernel
theorem dX3_meetingOf_60 : decode cX3_meetingOf 60 = .ok (.ireturn, 1) := by decide +kernel
set_option maxRecDepth 20000 in
theorem ggX3_nextSibling_X3_endOf : GoodIn wsX3_nextSibling wsX3_endOf := goodIn_r _ [5, 6, 7, 8, 9, 4, 10, 11, 12, 13, 14, 15, 16, 17, 18, 19, 20, 21, 22, 23] (by decide +kernel) (by decide +kernel)
set_option maxRecDepth 20000 in
theorem gX3_nextSibling_X3_endOf : GoodIn wsX3_nextSibling (wsV RX3 44 RX3 yX3_endOf wsX3_endOf) := goodIn_app (goodIn_of _ (by decide +kernel)) ggX3_nextSibling_X3_endOf
set_option maxRecDepth 20000 in
theorem ggX3_nextSibling_X3_has : GoodIn wsX3_nextSibling wsX3_has := goodIn_r _ [15, 6, 19, 20, 21, 22, 23] (by decide +kernel) (by decide +kernel)
set_option maxRecDepth 20000 in
theorem gX3_nextSibling_X3_has : GoodIn wsX3_nextSibling (wsV RX3 32 RX3 yX3_has wsX3_has) := goodIn_app (goodIn_of _ (by decide +kernel)) ggX3_nextSibling_X3_has
set_option maxRecDepth 20000 in
theorem ggX3_nextSibling_X3_depthOf : GoodIn wsX3_nextSibling wsX3_depthOf := goodIn_r _ [10, 11, 12, 13, 14, 4, 15, 6, 16, 17, 18, 19, 20, 21, 22, 23] (by decide +kernel) (by decide +kernel)
set_option maxRecDepth 20000 in
theorem gX3_nextSibling_X3_depthOf : GoodIn wsX3_nextSibling (wsV RX3 40 RX3 yX3_depthOf wsX3_depthOf) := goodIn_app (goodIn_of _ (by decide +kernel)) ggX3_nextSibling_X3_depthOf
theorem dX3_nextSibling_0 : decode cX3_nextSibling 0 = .ok (.aload_n 0, 1) := by decide +kernel
theorem dX3_nextSibling_1 : decode cX3_nextSibling 1 = .ok (.iload_n 1, 1) := by decide +kernel
theorem dX3_nextSibling_2 : decode cX3_nextSibling 2 = .ok (.invokevirtual 44, 3) := by decide +kernel
theorem dX3_nextSibling_5 : decode cX3_nextSibling 5 = .ok (.istore_n 2, 1) := by decide +kernel
theorem dX3_nextSibling_6 : decode cX3_nextSibling 6 = .ok (.aload_n 0, 1) := by decide +kernel
theorem dX3_nextSibling_7 : decode cX3_nextSibling 7 = .ok (.iload_n 2, 1) := by decide +kernel
theorem dX3_nextSibling_8 : decode cX3_nextSibling 8 = .ok (.invokevirtual 32, 3) := by decide +kernel
theorem dX3_nextSibling_11 : decode cX3_nextSibling 11 = .ok (.ifCond .eq 20, 3) := by decide +kernel
theorem dX3_nextSibling_14 : decode cX3_nextSibling 14 = .ok (.aload_n 0, 1) := by decide +kernel
theorem dX3_nextSibling_15 : decode cX3_nextSibling 15 = .ok (.iload_n 2, 1) := by decide +kernel
theorem dX3_nextSibling_16 : decode cX3_nextSibling 16 = .ok (.invokevirtual 40, 3) := by decide +kernel
theorem dX3_nextSibling_19 : decode cX3_nextSibling 19 = .ok (.aload_n 0, 1) := by decide +kernel
theorem dX3_nextSibling_20 : decode cX3_nextSibling 20 = .ok (.iload_n 1, 1) := by decide +kernel
theorem dX3_nextSibling_21 : decode cX3_nextSibling 21 = .ok (.invokevirtual 40, 3) := by decide +kernel
theorem dX3_nextSibling_24 : decode cX3_nextSibling 24 = .ok (.if_icmp .ne 7, 3) := by decide +kernel
theorem dX3_nextSibling_27 : decode cX3_nextSibling 27 = .ok (.iload_n 2, 1) := by decide +kernel
theorem dX3_nextSibling_28 : decode cX3_nextSibling 28 = .ok (.goto 5, 3) := by decide +kernel
theorem dX3_nextSibling_31 : decode cX3_nextSibling 31 = .ok (.bipush (-5), 2) := by decide +kernel
theorem dX3_nextSibling_33 : decode cX3_nextSibling 33 = .ok (.ireturn, 1) := by decide +kernel
set_option maxRecDepth 20000 in
theorem ggX3_previousSibling_X3_placeOf : GoodIn wsX3_previousSibling wsX3_placeOf := goodIn_r _ [5, 6, 7, 8, 4, 9, 10, 11, 12, 13, 14, 15, 16, 17, 18, 27, 28, 29, 30, 31] (by decide +kernel) (by decide +kernel)
set_option maxRecDepth 20000 in
theorem gX3_previousSibling_X3_placeOf : GoodIn wsX3_previousSibling (wsV RX3 65 RX3 yX3_placeOf wsX3_placeOf) := goodIn_app (goodIn_of _ (by decide +kernel)) ggX3_previousSibling_X3_placeOf
set_option maxRecDepth 20000 in
theorem ggX3_previousSibling_X3_previousAtDepth : GoodIn wsX3_previousSibling wsX3_previousAtDepth := goodIn_r _ [22, 6, 7, 8, 4, 9, 10, 11, 12, 13, 14, 15, 16, 17, 18, 23, 24, 25, 26, 27, 28, 29, 30, 31] (by decide +kernel) (by decide +kernel)
set_option maxRecDepth 20000 in
theorem gX3_previousSibling_X3_previousAtDepth : GoodIn wsX3_previousSibling (wsV RX3 68 RX3 yX3_previousAtDepth wsX3_previousAtDepth) := goodIn_app (goodIn_of _ (by decide +kernel)) ggX3_previousSibling_X3_previousAtDepth
theorem dX3_previousSibling_0 : decode cX3_previousSibling 0 = .ok (.aload_n 0, 1) := by decide +kernel
theorem dX3_previousSibling_1 : decode cX3_previousSibling 1 = .ok (.iload_n 1, 1) := by decide +kernel
theorem dX3_previousSibling_2 : decode cX3_previousSibling 2 = .ok (.invokevirtual 65, 3) := by decide +kernel
theorem dX3_previousSibling_5 : decode cX3_previousSibling 5 = .ok (.ifCond .ne 8, 3) := by decide +kernel
theorem dX3_previousSibling_8 : decode cX3_previousSibling 8 = .ok (.bipush (-5), 2) := by decide +kernel
theorem dX3_previousSibling_10 : decode cX3_previousSibling 10 = .ok (.goto 8, 3) := by decide +kernel
theorem dX3_previousSibling_13 : decode cX3_previousSibling 13 = .ok (.aload_n 0, 1) := by decide +kernel
theorem dX3_previousSibling_14 : decode cX3_previousSibling 14 = .ok (.iload_n 1, 1) := by decide +kernel
theorem dX3_previousSibling_15 : decode cX3_previousSibling 15 = .ok (.invokevirtual 68, 3) := by decide +kernel
theorem dX3_previousSibling_18 : decode cX3_previousSibling 18 = .ok (.ireturn, 1) := by decide +kernel
set_option maxRecDepth 20000 in
theorem ggX3_nextAtDepth_X3_depthOf : GoodIn wsX3_nextAtDepth wsX3_depthOf := goodIn_r _ [6, 7, 8, 9, 10, 5, 11, 1, 12, 13, 14, 15, 16, 17, 18, 19] (by decide +kernel) (by decide +kernel)
set_option maxRecDepth 20000 in
theorem gX3_nextAtDepth_X3_depthOf : GoodIn wsX3_nextAtDepth (wsV RX3 40 RX3 yX3_depthOf wsX3_depthOf) := goodIn_app (goodIn_of _ (by decide +kernel)) ggX3_nextAtDepth_X3_depthOf
theorem dX3_nextAtDepth_0 : decode cX3_nextAtDepth 0 = .ok (.iload_n 1, 1) := by decide +kernel
theorem dX3_nextAtDepth_1 : decode cX3_nextAtDepth 1 = .ok (.iconst 1, 1) := by decide +kernel
theorem dX3_nextAtDepth_2 : decode cX3_nextAtDepth 2 = .ok (.iadd, 1) := by decide +kernel
theorem dX3_nextAtDepth_3 : decode cX3_nextAtDepth 3 = .ok (.istore_n 2, 1) := by decide +kernel
theorem dX3_nextAtDepth_4 : decode cX3_nextAtDepth 4 = .ok (.iload_n 2, 1) := by decide +kernel
theorem dX3_nextAtDepth_5 : decode cX3_nextAtDepth 5 = .ok (.aload_n 0, 1) := by decide +kernel
theorem dX3_nextAtDepth_6 : decode cX3_nextAtDepth 6 = .ok (.getfield 28, 3) := by decide +kernel
theorem dX3_nextAtDepth_9 : decode cX3_nextAtDepth 9 = .ok (.if_icmp .ge 24, 3) := by decide +kernel
theorem dX3_nextAtDepth_12 : decode cX3_nextAtDepth 12 = .ok (.aload_n 0, 1) := by decide +kernel
theorem dX3_nextAtDepth_13 : decode cX3_nextAtDepth 13 = .ok (.iload_n 2, 1) := by decide +kernel
theorem dX3_nextAtDepth_14 : decode cX3_nextAtDepth 14 = .ok (.invokevirtual 40, 3) := by decide +kernel
theorem dX3_nextAtDepth_17 : decode cX3_nextAtDepth 17 = .ok (.aload_n 0, 1) := by decide +kernel
theorem dX3_nextAtDepth_18 : decode cX3_nextAtDepth 18 = .ok (.iload_n 1, 1) := by decide +kernel
theorem dX3_nextAtDepth_19 : decode cX3_nextAtDepth 19 = .ok (.invokevirtual 40, 3) := by decide +kernel
theorem dX3_nextAtDepth_22 : decode cX3_nextAtDepth 22 = .ok (.if_icmp .ne 5, 3) := by decide +kernel
theorem dX3_nextAtDepth_25 : decode cX3_nextAtDepth 25 = .ok (.iload_n 2, 1) := by decide +kernel
theorem dX3_nextAtDepth_26 : decode cX3_nextAtDepth 26 = .ok (.ireturn, 1) := by decide +kernel
theorem dX3_nextAtDepth_27 : decode cX3_nextAtDepth 27 = .ok (.iinc 2 1, 3) := by decide +kernel
theorem dX3_nextAtDepth_30 : decode cX3_nextAtDepth 30 = .ok (.goto (-26), 3) := by decide +kernel
theorem dX3_nextAtDepth_33 : decode cX3_nextAtDepth 33 = .ok (.bipush (-5), 2) := by decide +kernel
theorem dX3_nextAtDepth_35 : decode cX3_nextAtDepth 35 = .ok (.ireturn, 1) := by decide +kernel
set_option maxRecDepth 20000 in
theorem ggX3_previousAtDepth_X3_depthOf : GoodIn wsX3_previousAtDepth wsX3_depthOf := goodIn_r _ [5, 6, 7, 8, 9, 4, 10, 11, 12, 13, 14, 19, 20, 21, 22, 23] (by decide +kernel) (by decide +kernel)
set_option maxRecDepth 20000 in
theorem gX3_previousAtDepth_X3_depthOf : GoodIn wsX3_previousAtDepth (wsV RX3 40 RX3 yX3_depthOf wsX3_depthOf) := goodIn_app (goodIn_of _ (by decide +kernel)) ggX3_previousAtDepth_X3_depthOf
set_option maxRecDepth 20000 in
theorem ggX3_previousAtDepth_X3_climb : GoodIn wsX3_previousAtDepth wsX3_climb := goodIn_r _ [18, 1, 2, 3, 4, 5, 6, 7, 8, 9, 10, 11, 12, 13, 14, 19, 20, 21, 22, 23] (by decide +kernel) (by decide +kernel)
set_option maxRecDepth 20000 in
theorem gX3_previousAtDepth_X3_climb : GoodIn wsX3_previousAtDepth (wsV RX3 47 RX3 yX3_climb wsX3_climb) := goodIn_app (goodIn_of _ (by decide +kernel)) ggX3_previousAtDepth_X3_climb
theorem dX3_previousAtDepth_0 : decode cX3_previousAtDepth 0 = .ok (.aload_n 0, 1) := by decide +kernel
theorem dX3_previousAtDepth_1 : decode cX3_previousAtDepth 1 = .ok (.iload_n 1, 1) := by decide +kernel
theorem dX3_previousAtDepth_2 : decode cX3_previousAtDepth 2 = .ok (.iconst 1, 1) := by decide +kernel
theorem dX3_previousAtDepth_3 : decode cX3_previousAtDepth 3 = .ok (.isub, 1) := by decide +kernel
theorem dX3_previousAtDepth_4 : decode cX3_previousAtDepth 4 = .ok (.aload_n 0, 1) := by decide +kernel
theorem dX3_previousAtDepth_5 : decode cX3_previousAtDepth 5 = .ok (.iload_n 1, 1) := by decide +kernel
theorem dX3_previousAtDepth_6 : decode cX3_previousAtDepth 6 = .ok (.invokevirtual 40, 3) := by decide +kernel
theorem dX3_previousAtDepth_9 : decode cX3_previousAtDepth 9 = .ok (.invokevirtual 47, 3) := by decide +kernel
theorem dX3_previousAtDepth_12 : decode cX3_previousAtDepth 12 = .ok (.ireturn, 1) := by decide +kernel
set_option maxRecDepth 20000 in
theorem ggX3_nextLeaf_X3_isLeaf : GoodIn wsX3_nextLeaf wsX3_isLeaf := goodIn_r _ [6, 7, 8, 9, 5, 10, 11, 12, 13, 14, 15, 1, 16, 17, 18, 19, 20, 21, 22, 23] (by decide +kernel) (by decide +kernel)
set_option maxRecDepth 20000 in
theorem gX3_nextLeaf_X3_isLeaf : GoodIn wsX3_nextLeaf (wsV RX3 51 RX3 yX3_isLeaf wsX3_isLeaf) := goodIn_app (goodIn_of _ (by decide +kernel)) ggX3_nextLeaf_X3_isLeaf
theorem dX3_nextLeaf_0 : decode cX3_nextLeaf 0 = .ok (.iload_n 1, 1) := by decide +kernel
theorem dX3_nextLeaf_1 : decode cX3_nextLeaf 1 = .ok (.iconst 1, 1) := by decide +kernel
theorem dX3_nextLeaf_2 : decode cX3_nextLeaf 2 = .ok (.iadd, 1) := by decide +kernel
theorem dX3_nextLeaf_3 : decode cX3_nextLeaf 3 = .ok (.istore_n 2, 1) := by decide +kernel
theorem dX3_nextLeaf_4 : decode cX3_nextLeaf 4 = .ok (.iload_n 2, 1) := by decide +kernel
theorem dX3_nextLeaf_5 : decode cX3_nextLeaf 5 = .ok (.aload_n 0, 1) := by decide +kernel
theorem dX3_nextLeaf_6 : decode cX3_nextLeaf 6 = .ok (.getfield 28, 3) := by decide +kernel
theorem dX3_nextLeaf_9 : decode cX3_nextLeaf 9 = .ok (.if_icmp .ge 19, 3) := by decide +kernel
theorem dX3_nextLeaf_12 : decode cX3_nextLeaf 12 = .ok (.aload_n 0, 1) := by decide +kernel
theorem dX3_nextLeaf_13 : decode cX3_nextLeaf 13 = .ok (.iload_n 2, 1) := by decide +kernel
theorem dX3_nextLeaf_14 : decode cX3_nextLeaf 14 = .ok (.invokevirtual 51, 3) := by decide +kernel
theorem dX3_nextLeaf_17 : decode cX3_nextLeaf 17 = .ok (.ifCond .eq 5, 3) := by decide +kernel
theorem dX3_nextLeaf_20 : decode cX3_nextLeaf 20 = .ok (.iload_n 2, 1) := by decide +kernel
theorem dX3_nextLeaf_21 : decode cX3_nextLeaf 21 = .ok (.ireturn, 1) := by decide +kernel
theorem dX3_nextLeaf_22 : decode cX3_nextLeaf 22 = .ok (.iinc 2 1, 3) := by decide +kernel
theorem dX3_nextLeaf_25 : decode cX3_nextLeaf 25 = .ok (.goto (-21), 3) := by decide +kernel
theorem dX3_nextLeaf_28 : decode cX3_nextLeaf 28 = .ok (.bipush (-5), 2) := by decide +kernel
theorem dX3_nextLeaf_30 : decode cX3_nextLeaf 30 = .ok (.ireturn, 1) := by decide +kernel
set_option maxRecDepth 20000 in
theorem ggX3_largestChild_X3_endOf : GoodIn wsX3_largestChild wsX3_endOf := goodIn_r _ [5, 6, 7, 8, 9, 4, 10, 11, 12, 13, 14, 15, 16, 17, 18, 23, 24, 25, 26, 27] (by decide +kernel) (by decide +kernel)
set_option maxRecDepth 20000 in
theorem gX3_largestChild_X3_endOf : GoodIn wsX3_largestChild (wsV RX3 44 RX3 yX3_endOf wsX3_endOf) := goodIn_app (goodIn_of _ (by decide +kernel)) ggX3_largestChild_X3_endOf
set_option maxRecDepth 20000 in
theorem ggX3_largestChild_X3_depthOf : GoodIn wsX3_largestChild wsX3_depthOf := goodIn_r _ [10, 11, 12, 13, 14, 4, 15, 6, 16, 17, 18, 23, 24, 25, 26, 27] (by decide +kernel) (by decide +kernel)
set_option maxRecDepth 20000 in
theorem gX3_largestChild_X3_depthOf : GoodIn wsX3_largestChild (wsV RX3 40 RX3 yX3_depthOf wsX3_depthOf) := goodIn_app (goodIn_of _ (by decide +kernel)) ggX3_largestChild_X3_depthOf
set_option maxRecDepth 20000 in
theorem ggX3_largestChild_X3_sizeOf : GoodIn wsX3_largestChild wsX3_sizeOf := goodIn_r _ [22, 1, 2, 3, 4, 5, 6, 7, 8, 9, 10, 11, 12, 13, 14, 15, 16, 17, 18, 23, 24, 25, 26, 27] (by decide +kernel) (by decide +kernel)
set_option maxRecDepth 20000 in
theorem gX3_largestChild_X3_sizeOf : GoodIn wsX3_largestChild (wsV RX3 71 RX3 yX3_sizeOf wsX3_sizeOf) := goodIn_app (goodIn_of _ (by decide +kernel)) ggX3_largestChild_X3_sizeOf
theorem dX3_largestChild_0 : decode cX3_largestChild 0 = .ok (.aload_n 0, 1) := by decide +kernel
theorem dX3_largestChild_1 : decode cX3_largestChild 1 = .ok (.iload_n 1, 1) := by decide +kernel
theorem dX3_largestChild_2 : decode cX3_largestChild 2 = .ok (.invokevirtual 44, 3) := by decide +kernel
theorem dX3_largestChild_5 : decode cX3_largestChild 5 = .ok (.istore_n 2, 1) := by decide +kernel
theorem dX3_largestChild_6 : decode cX3_largestChild 6 = .ok (.bipush (-5), 2) := by decide +kernel
theorem dX3_largestChild_8 : decode cX3_largestChild 8 = .ok (.istore_n 3, 1) := by decide +kernel
theorem dX3_largestChild_9 : decode cX3_largestChild 9 = .ok (.iconst 0, 1) := by decide +kernel
theorem dX3_largestChild_10 : decode cX3_largestChild 10 = .ok (.istore 4, 2) := by decide +kernel
theorem dX3_largestChild_12 : decode cX3_largestChild 12 = .ok (.iload_n 1, 1) := by decide +kernel
theorem dX3_largestChild_13 : decode cX3_largestChild 13 = .ok (.iconst 1, 1) := by decide +kernel
theorem dX3_largestChild_14 : decode cX3_largestChild 14 = .ok (.iadd, 1) := by decide +kernel
theorem dX3_largestChild_15 : decode cX3_largestChild 15 = .ok (.istore 5, 2) := by decide +kernel
theorem dX3_largestChild_17 : decode cX3_largestChild 17 = .ok (.iload 5, 2) := by decide +kernel
theorem dX3_largestChild_19 : decode cX3_largestChild 19 = .ok (.iload_n 2, 1) := by decide +kernel
theorem dX3_largestChild_20 : decode cX3_largestChild 20 = .ok (.if_icmp .ge 47, 3) := by decide +kernel
theorem dX3_largestChild_23 : decode cX3_largestChild 23 = .ok (.aload_n 0, 1) := by decide +kernel
theorem dX3_largestChild_24 : decode cX3_largestChild 24 = .ok (.iload 5, 2) := by decide +kernel
theorem dX3_largestChild_26 : decode cX3_largestChild 26 = .ok (.invokevirtual 40, 3) := by decide +kernel
theorem dX3_largestChild_29 : decode cX3_largestChild 29 = .ok (.aload_n 0, 1) := by decide +kernel
theorem dX3_largestChild_30 : decode cX3_largestChild 30 = .ok (.iload_n 1, 1) := by decide +kernel
theorem dX3_largestChild_31 : decode cX3_largestChild 31 = .ok (.invokevirtual 40, 3) := by decide +kernel
theorem dX3_largestChild_34 : decode cX3_largestChild 34 = .ok (.iconst 1, 1) := by decide +kernel
theorem dX3_largestChild_35 : decode cX3_largestChild 35 = .ok (.iadd, 1) := by decide +kernel
theorem dX3_largestChild_36 : decode cX3_largestChild 36 = .ok (.if_icmp .ne 25, 3) := by decide +kernel
theorem dX3_largestChild_39 : decode cX3_largestChild 39 = .ok (.aload_n 0, 1) := by decide +kernel
theorem dX3_largestChild_40 : decode cX3_largestChild 40 = .ok (.iload 5, 2) := by decide +kernel
theorem dX3_largestChild_42 : decode cX3_largestChild 42 = .ok (.invokevirtual 71, 3) := by decide +kernel
theorem dX3_largestChild_45 : decode cX3_largestChild 45 = .ok (.iload 4, 2) := by decide +kernel
theorem dX3_largestChild_47 : decode cX3_largestChild 47 = .ok (.if_icmp .le 14, 3) := by decide +kernel
theorem dX3_largestChild_50 : decode cX3_largestChild 50 = .ok (.iload 5, 2) := by decide +kernel
theorem dX3_largestChild_52 : decode cX3_largestChild 52 = .ok (.istore_n 3, 1) := by decide +kernel
theorem dX3_largestChild_53 : decode cX3_largestChild 53 = .ok (.aload_n 0, 1) := by decide +kernel
theorem dX3_largestChild_54 : decode cX3_largestChild 54 = .ok (.iload 5, 2) := by decide +kernel
theorem dX3_largestChild_56 : decode cX3_largestChild 56 = .ok (.invokevirtual 71, 3) := by decide +kernel
theorem dX3_largestChild_59 : decode cX3_largestChild 59 = .ok (.istore 4, 2) := by decide +kernel
theorem dX3_largestChild_61 : decode cX3_largestChild 61 = .ok (.iinc 5 1, 3) := by decide +kernel
theorem dX3_largestChild_64 : decode cX3_largestChild 64 = .ok (.goto (-47), 3) := by decide +kernel
theorem dX3_largestChild_67 : decode cX3_largestChild 67 = .ok (.iload_n 3, 1) := by decide +kernel
theorem dX3_largestChild_68 : decode cX3_largestChild 68 = .ok (.ireturn, 1) := by decide +kernel
set_option maxRecDepth 20000 in
theorem ggX3_countAtDepth_X3_depthOf : GoodIn wsX3_countAtDepth wsX3_depthOf := goodIn_r _ [6, 7, 8, 9, 10, 5, 11, 1, 12, 13, 14, 15, 16, 17, 18, 19] (by decide +kernel) (by decide +kernel)
set_option maxRecDepth 20000 in
theorem gX3_countAtDepth_X3_depthOf : GoodIn wsX3_countAtDepth (wsV RX3 40 RX3 yX3_depthOf wsX3_depthOf) := goodIn_app (goodIn_of _ (by decide +kernel)) ggX3_countAtDepth_X3_depthOf
theorem dX3_countAtDepth_0 : decode cX3_countAtDepth 0 = .ok (.iconst 0, 1) := by decide +kernel
theorem dX3_countAtDepth_1 : decode cX3_countAtDepth 1 = .ok (.istore_n 2, 1) := by decide +kernel
theorem dX3_countAtDepth_2 : decode cX3_countAtDepth 2 = .ok (.iconst 0, 1) := by decide +kernel
theorem dX3_countAtDepth_3 : decode cX3_countAtDepth 3 = .ok (.istore_n 3, 1) := by decide +kernel
theorem dX3_countAtDepth_4 : decode cX3_countAtDepth 4 = .ok (.iload_n 3, 1) := by decide +kernel
theorem dX3_countAtDepth_5 : decode cX3_countAtDepth 5 = .ok (.aload_n 0, 1) := by decide +kernel
theorem dX3_countAtDepth_6 : decode cX3_countAtDepth 6 = .ok (.getfield 28, 3) := by decide +kernel
theorem dX3_countAtDepth_9 : decode cX3_countAtDepth 9 = .ok (.if_icmp .ge 21, 3) := by decide +kernel
theorem dX3_countAtDepth_12 : decode cX3_countAtDepth 12 = .ok (.aload_n 0, 1) := by decide +kernel
theorem dX3_countAtDepth_13 : decode cX3_countAtDepth 13 = .ok (.iload_n 3, 1) := by decide +kernel
theorem dX3_countAtDepth_14 : decode cX3_countAtDepth 14 = .ok (.invokevirtual 40, 3) := by decide +kernel
theorem dX3_countAtDepth_17 : decode cX3_countAtDepth 17 = .ok (.iload_n 1, 1) := by decide +kernel
theorem dX3_countAtDepth_18 : decode cX3_countAtDepth 18 = .ok (.if_icmp .ne 6, 3) := by decide +kernel
theorem dX3_countAtDepth_21 : decode cX3_countAtDepth 21 = .ok (.iinc 2 1, 3) := by decide +kernel
theorem dX3_countAtDepth_24 : decode cX3_countAtDepth 24 = .ok (.iinc 3 1, 3) := by decide +kernel
theorem dX3_countAtDepth_27 : decode cX3_countAtDepth 27 = .ok (.goto (-23), 3) := by decide +kernel
theorem dX3_countAtDepth_30 : decode cX3_countAtDepth 30 = .ok (.iload_n 2, 1) := by decide +kernel
theorem dX3_countAtDepth_31 : decode cX3_countAtDepth 31 = .ok (.ireturn, 1) := by decide +kernel
set_option maxRecDepth 20000 in
theorem ggX3_findAtDepth_X3_depthOf : GoodIn wsX3_findAtDepth wsX3_depthOf := goodIn_r _ [6, 7, 8, 9, 10, 5, 11, 1, 12, 13, 14, 15, 16, 17, 18, 19] (by decide +kernel) (by decide +kernel)
set_option maxRecDepth 20000 in
theorem gX3_findAtDepth_X3_depthOf : GoodIn wsX3_findAtDepth (wsV RX3 40 RX3 yX3_depthOf wsX3_depthOf) := goodIn_app (goodIn_of _ (by decide +kernel)) ggX3_findAtDepth_X3_depthOf
theorem dX3_findAtDepth_0 : decode cX3_findAtDepth 0 = .ok (.iconst 0, 1) := by decide +kernel
theorem dX3_findAtDepth_1 : decode cX3_findAtDepth 1 = .ok (.istore_n 3, 1) := by decide +kernel
theorem dX3_findAtDepth_2 : decode cX3_findAtDepth 2 = .ok (.iconst 0, 1) := by decide +kernel
theorem dX3_findAtDepth_3 : decode cX3_findAtDepth 3 = .ok (.istore 4, 2) := by decide +kernel
theorem dX3_findAtDepth_5 : decode cX3_findAtDepth 5 = .ok (.iload 4, 2) := by decide +kernel
theorem dX3_findAtDepth_7 : decode cX3_findAtDepth 7 = .ok (.aload_n 0, 1) := by decide +kernel
theorem dX3_findAtDepth_8 : decode cX3_findAtDepth 8 = .ok (.getfield 28, 3) := by decide +kernel
theorem dX3_findAtDepth_11 : decode cX3_findAtDepth 11 = .ok (.if_icmp .ge 30, 3) := by decide +kernel
theorem dX3_findAtDepth_14 : decode cX3_findAtDepth 14 = .ok (.aload_n 0, 1) := by decide +kernel
theorem dX3_findAtDepth_15 : decode cX3_findAtDepth 15 = .ok (.iload 4, 2) := by decide +kernel
theorem dX3_findAtDepth_17 : decode cX3_findAtDepth 17 = .ok (.invokevirtual 40, 3) := by decide +kernel
theorem dX3_findAtDepth_20 : decode cX3_findAtDepth 20 = .ok (.iload_n 1, 1) := by decide +kernel
theorem dX3_findAtDepth_21 : decode cX3_findAtDepth 21 = .ok (.if_icmp .ne 14, 3) := by decide +kernel
theorem dX3_findAtDepth_24 : decode cX3_findAtDepth 24 = .ok (.iload_n 3, 1) := by decide +kernel
theorem dX3_findAtDepth_25 : decode cX3_findAtDepth 25 = .ok (.iload_n 2, 1) := by decide +kernel
theorem dX3_findAtDepth_26 : decode cX3_findAtDepth 26 = .ok (.if_icmp .ne 6, 3) := by decide +kernel
theorem dX3_findAtDepth_29 : decode cX3_findAtDepth 29 = .ok (.iload 4, 2) := by decide +kernel
theorem dX3_findAtDepth_31 : decode cX3_findAtDepth 31 = .ok (.ireturn, 1) := by decide +kernel
theorem dX3_findAtDepth_32 : decode cX3_findAtDepth 32 = .ok (.iinc 3 1, 3) := by decide +kernel
theorem dX3_findAtDepth_35 : decode cX3_findAtDepth 35 = .ok (.iinc 4 1, 3) := by decide +kernel
theorem dX3_findAtDepth_38 : decode cX3_findAtDepth 38 = .ok (.goto (-33), 3) := by decide +kernel
theorem dX3_findAtDepth_41 : decode cX3_findAtDepth 41 = .ok (.bipush (-5), 2) := by decide +kernel
theorem dX3_findAtDepth_43 : decode cX3_findAtDepth 43 = .ok (.ireturn, 1) := by decide +kernel
theorem dX3_positionCount_0 : decode cX3_positionCount 0 = .ok (.iconst 2, 1) := by decide +kernel
theorem dX3_positionCount_1 : decode cX3_positionCount 1 = .ok (.aload_n 0, 1) := by decide +kernel
theorem dX3_positionCount_2 : decode cX3_positionCount 2 = .ok (.getfield 28, 3) := by decide +kernel
theorem dX3_positionCount_5 : decode cX3_positionCount 5 = .ok (.imul, 1) := by decide +kernel
theorem dX3_positionCount_6 : decode cX3_positionCount 6 = .ok (.ireturn, 1) := by decide +kernel
set_option maxRecDepth 20000 in
theorem ggX3_openingOf_X3_depthOf : GoodIn wsX3_openingOf wsX3_depthOf := goodIn_r _ [5, 6, 7, 8, 9, 4, 10, 11, 12, 13, 14, 15, 16, 17, 18, 19] (by decide +kernel) (by decide +kernel)
set_option maxRecDepth 20000 in
theorem gX3_openingOf_X3_depthOf : GoodIn wsX3_openingOf (wsV RX3 40 RX3 yX3_depthOf wsX3_depthOf) := goodIn_app (goodIn_of _ (by decide +kernel)) ggX3_openingOf_X3_depthOf
theorem dX3_openingOf_0 : decode cX3_openingOf 0 = .ok (.iconst 2, 1) := by decide +kernel
theorem dX3_openingOf_1 : decode cX3_openingOf 1 = .ok (.iload_n 1, 1) := by decide +kernel
theorem dX3_openingOf_2 : decode cX3_openingOf 2 = .ok (.imul, 1) := by decide +kernel
theorem dX3_openingOf_3 : decode cX3_openingOf 3 = .ok (.aload_n 0, 1) := by decide +kernel
theorem dX3_openingOf_4 : decode cX3_openingOf 4 = .ok (.iload_n 1, 1) := by decide +kernel
theorem dX3_openingOf_5 : decode cX3_openingOf 5 = .ok (.invokevirtual 40, 3) := by decide +kernel
theorem dX3_openingOf_8 : decode cX3_openingOf 8 = .ok (.isub, 1) := by decide +kernel
theorem dX3_openingOf_9 : decode cX3_openingOf 9 = .ok (.ireturn, 1) := by decide +kernel
set_option maxRecDepth 20000 in
theorem ggX3_closingOf_X3_openingOf : GoodIn wsX3_closingOf wsX3_openingOf := goodIn_r _ [5, 6, 7, 8, 4, 9, 10, 11, 12, 13, 14, 15, 16, 17, 18, 27, 28, 29, 30, 31] (by decide +kernel) (by decide +kernel)
set_option maxRecDepth 20000 in
theorem gX3_closingOf_X3_openingOf : GoodIn wsX3_closingOf (wsV RX3 74 RX3 yX3_openingOf wsX3_openingOf) := goodIn_app (goodIn_of _ (by decide +kernel)) ggX3_closingOf_X3_openingOf
set_option maxRecDepth 20000 in
theorem ggX3_closingOf_X3_sizeOf : GoodIn wsX3_closingOf wsX3_sizeOf := goodIn_r _ [22, 23, 24, 25, 4, 26, 15, 6, 7, 8, 9, 10, 11, 12, 13, 14, 16, 17, 18, 27, 28, 29, 30, 31] (by decide +kernel) (by decide +kernel)
set_option maxRecDepth 20000 in
theorem gX3_closingOf_X3_sizeOf : GoodIn wsX3_closingOf (wsV RX3 71 RX3 yX3_sizeOf wsX3_sizeOf) := goodIn_app (goodIn_of _ (by decide +kernel)) ggX3_closingOf_X3_sizeOf
theorem dX3_closingOf_0 : decode cX3_closingOf 0 = .ok (.aload_n 0, 1) := by decide +kernel
theorem dX3_closingOf_1 : decode cX3_closingOf 1 = .ok (.iload_n 1, 1) := by decide +kernel
theorem dX3_closingOf_2 : decode cX3_closingOf 2 = .ok (.invokevirtual 74, 3) := by decide +kernel
theorem dX3_closingOf_5 : decode cX3_closingOf 5 = .ok (.iconst 2, 1) := by decide +kernel
theorem dX3_closingOf_6 : decode cX3_closingOf 6 = .ok (.aload_n 0, 1) := by decide +kernel
theorem dX3_closingOf_7 : decode cX3_closingOf 7 = .ok (.iload_n 1, 1) := by decide +kernel
theorem dX3_closingOf_8 : decode cX3_closingOf 8 = .ok (.invokevirtual 71, 3) := by decide +kernel
theorem dX3_closingOf_11 : decode cX3_closingOf 11 = .ok (.imul, 1) := by decide +kernel
theorem dX3_closingOf_12 : decode cX3_closingOf 12 = .ok (.iadd, 1) := by decide +kernel
theorem dX3_closingOf_13 : decode cX3_closingOf 13 = .ok (.iconst 1, 1) := by decide +kernel
theorem dX3_closingOf_14 : decode cX3_closingOf 14 = .ok (.isub, 1) := by decide +kernel
theorem dX3_closingOf_15 : decode cX3_closingOf 15 = .ok (.ireturn, 1) := by decide +kernel
set_option maxRecDepth 20000 in
theorem ggX3_openedBefore_X3_openingOf : GoodIn wsX3_openedBefore wsX3_openingOf := goodIn_r _ [6, 7, 8, 9, 5, 10, 11, 12, 13, 14, 15, 1, 16, 17, 18, 19, 20, 21, 22, 23] (by decide +kernel) (by decide +kernel)
set_option maxRecDepth 20000 in
theorem gX3_openedBefore_X3_openingOf : GoodIn wsX3_openedBefore (wsV RX3 74 RX3 yX3_openingOf wsX3_openingOf) := goodIn_app (goodIn_of _ (by decide +kernel)) ggX3_openedBefore_X3_openingOf
theorem dX3_openedBefore_0 : decode cX3_openedBefore 0 = .ok (.iconst 0, 1) := by decide +kernel
theorem dX3_openedBefore_1 : decode cX3_openedBefore 1 = .ok (.istore_n 2, 1) := by decide +kernel
theorem dX3_openedBefore_2 : decode cX3_openedBefore 2 = .ok (.iload_n 2, 1) := by decide +kernel
theorem dX3_openedBefore_3 : decode cX3_openedBefore 3 = .ok (.aload_n 0, 1) := by decide +kernel
theorem dX3_openedBefore_4 : decode cX3_openedBefore 4 = .ok (.getfield 28, 3) := by decide +kernel
theorem dX3_openedBefore_7 : decode cX3_openedBefore 7 = .ok (.if_icmp .ge 18, 3) := by decide +kernel
theorem dX3_openedBefore_10 : decode cX3_openedBefore 10 = .ok (.aload_n 0, 1) := by decide +kernel
theorem dX3_openedBefore_11 : decode cX3_openedBefore 11 = .ok (.iload_n 2, 1) := by decide +kernel
theorem dX3_openedBefore_12 : decode cX3_openedBefore 12 = .ok (.invokevirtual 74, 3) := by decide +kernel
theorem dX3_openedBefore_15 : decode cX3_openedBefore 15 = .ok (.iload_n 1, 1) := by decide +kernel
theorem dX3_openedBefore_16 : decode cX3_openedBefore 16 = .ok (.if_icmp .ge 9, 3) := by decide +kernel
theorem dX3_openedBefore_19 : decode cX3_openedBefore 19 = .ok (.iinc 2 1, 3) := by decide +kernel
theorem dX3_openedBefore_22 : decode cX3_openedBefore 22 = .ok (.goto (-20), 3) := by decide +kernel
theorem dX3_openedBefore_25 : decode cX3_openedBefore 25 = .ok (.iload_n 2, 1) := by decide +kernel
theorem dX3_openedBefore_26 : decode cX3_openedBefore 26 = .ok (.ireturn, 1) := by decide +kernel
set_option maxRecDepth 20000 in
theorem ggX3_excessBefore_X3_openedBefore : GoodIn wsX3_excessBefore wsX3_openedBefore := goodIn_r _ [5, 6, 7, 8, 9, 4, 10, 11, 12, 13, 14, 15, 16, 17, 18, 19, 20, 21, 22, 23, 24, 25, 26, 27] (by decide +kernel) (by decide +kernel)
set_option maxRecDepth 20000 in
theorem gX3_excessBefore_X3_openedBefore : GoodIn wsX3_excessBefore (wsV RX3 77 RX3 yX3_openedBefore wsX3_openedBefore) := goodIn_app (goodIn_of _ (by decide +kernel)) ggX3_excessBefore_X3_openedBefore
theorem dX3_excessBefore_0 : decode cX3_excessBefore 0 = .ok (.iconst 2, 1) := by decide +kernel
theorem dX3_excessBefore_1 : decode cX3_excessBefore 1 = .ok (.aload_n 0, 1) := by decide +kernel
theorem dX3_excessBefore_2 : decode cX3_excessBefore 2 = .ok (.iload_n 1, 1) := by decide +kernel
theorem dX3_excessBefore_3 : decode cX3_excessBefore 3 = .ok (.invokevirtual 77, 3) := by decide +kernel
theorem dX3_excessBefore_6 : decode cX3_excessBefore 6 = .ok (.imul, 1) := by decide +kernel
theorem dX3_excessBefore_7 : decode cX3_excessBefore 7 = .ok (.iload_n 1, 1) := by decide +kernel
theorem dX3_excessBefore_8 : decode cX3_excessBefore 8 = .ok (.isub, 1) := by decide +kernel
theorem dX3_excessBefore_9 : decode cX3_excessBefore 9 = .ok (.ireturn, 1) := by decide +kernel
set_option maxRecDepth 20000 in
theorem ggX3_opensAt_X3_has : GoodIn wsX3_opensAt wsX3_has := goodIn_r _ [5, 6, 19, 20, 21, 22, 23] (by decide +kernel) (by decide +kernel)
set_option maxRecDepth 20000 in
theorem gX3_opensAt_X3_has : GoodIn wsX3_opensAt (wsV RX3 32 RX3 yX3_has wsX3_has) := goodIn_app (goodIn_of _ (by decide +kernel)) ggX3_opensAt_X3_has
set_option maxRecDepth 20000 in
theorem ggX3_opensAt_X3_openingOf : GoodIn wsX3_opensAt wsX3_openingOf := goodIn_r _ [10, 11, 12, 13, 4, 14, 15, 1, 2, 3, 5, 6, 16, 17, 18, 19, 20, 21, 22, 23] (by decide +kernel) (by decide +kernel)
set_option maxRecDepth 20000 in
theorem gX3_opensAt_X3_openingOf : GoodIn wsX3_opensAt (wsV RX3 74 RX3 yX3_openingOf wsX3_openingOf) := goodIn_app (goodIn_of _ (by decide +kernel)) ggX3_opensAt_X3_openingOf
theorem dX3_opensAt_0 : decode cX3_opensAt 0 = .ok (.aload_n 0, 1) := by decide +kernel
theorem dX3_opensAt_1 : decode cX3_opensAt 1 = .ok (.iload_n 1, 1) := by decide +kernel
theorem dX3_opensAt_2 : decode cX3_opensAt 2 = .ok (.invokevirtual 32, 3) := by decide +kernel
theorem dX3_opensAt_5 : decode cX3_opensAt 5 = .ok (.ifCond .eq 16, 3) := by decide +kernel
theorem dX3_opensAt_8 : decode cX3_opensAt 8 = .ok (.aload_n 0, 1) := by decide +kernel
theorem dX3_opensAt_9 : decode cX3_opensAt 9 = .ok (.iload_n 1, 1) := by decide +kernel
theorem dX3_opensAt_10 : decode cX3_opensAt 10 = .ok (.invokevirtual 74, 3) := by decide +kernel
theorem dX3_opensAt_13 : decode cX3_opensAt 13 = .ok (.iload_n 2, 1) := by decide +kernel
theorem dX3_opensAt_14 : decode cX3_opensAt 14 = .ok (.if_icmp .ne 7, 3) := by decide +kernel
theorem dX3_opensAt_17 : decode cX3_opensAt 17 = .ok (.iconst 1, 1) := by decide +kernel
theorem dX3_opensAt_18 : decode cX3_opensAt 18 = .ok (.goto 4, 3) := by decide +kernel
theorem dX3_opensAt_21 : decode cX3_opensAt 21 = .ok (.iconst 0, 1) := by decide +kernel
theorem dX3_opensAt_22 : decode cX3_opensAt 22 = .ok (.ireturn, 1) := by decide +kernel
set_option maxRecDepth 20000 in
theorem ggX3_nodeOfPosition_X3_openedBefore : GoodIn wsX3_nodeOfPosition wsX3_openedBefore := goodIn_r _ [5, 6, 7, 8, 9, 4, 10, 11, 12, 13, 14, 15, 16, 17, 18, 19, 20, 21, 22, 31, 32, 33, 34, 35] (by decide +kernel) (by decide +kernel)
set_option maxRecDepth 20000 in
theorem gX3_nodeOfPosition_X3_openedBefore : GoodIn wsX3_nodeOfPosition (wsV RX3 77 RX3 yX3_openedBefore wsX3_openedBefore) := goodIn_app (goodIn_of _ (by decide +kernel)) ggX3_nodeOfPosition_X3_openedBefore
set_option maxRecDepth 20000 in
theorem ggX3_nodeOfPosition_X3_openingOf : GoodIn wsX3_nodeOfPosition wsX3_openingOf := goodIn_r _ [10, 11, 12, 13, 4, 14, 15, 16, 17, 18, 19, 6, 20, 21, 22, 31, 32, 33, 34, 35] (by decide +kernel) (by decide +kernel)
set_option maxRecDepth 20000 in
theorem gX3_nodeOfPosition_X3_openingOf : GoodIn wsX3_nodeOfPosition (wsV RX3 74 RX3 yX3_openingOf wsX3_openingOf) := goodIn_app (goodIn_of _ (by decide +kernel)) ggX3_nodeOfPosition_X3_openingOf
set_option maxRecDepth 20000 in
theorem ggX3_nodeOfPosition_X3_excessBefore : GoodIn wsX3_nodeOfPosition wsX3_excessBefore := goodIn_r _ [26, 1, 2, 3, 4, 5, 6, 7, 8, 9, 10, 11, 12, 13, 14, 15, 16, 17, 18, 19, 20, 21, 22, 31, 32, 33, 34, 35] (by decide +kernel) (by decide +kernel)
set_option maxRecDepth 20000 in
theorem gX3_nodeOfPosition_X3_excessBefore : GoodIn wsX3_nodeOfPosition (wsV RX3 80 RX3 yX3_excessBefore wsX3_excessBefore) := goodIn_app (goodIn_of _ (by decide +kernel)) ggX3_nodeOfPosition_X3_excessBefore
set_option maxRecDepth 20000 in
theorem ggX3_nodeOfPosition_X3_climb : GoodIn wsX3_nodeOfPosition wsX3_climb := goodIn_r _ [30, 11, 12, 13, 4, 14, 15, 16, 17, 18, 19, 6, 20, 21, 22, 31, 32, 33, 34, 35] (by decide +kernel) (by decide +kernel)
set_option maxRecDepth 20000 in
theorem gX3_nodeOfPosition_X3_climb : GoodIn wsX3_nodeOfPosition (wsV RX3 47 RX3 yX3_climb wsX3_climb) := goodIn_app (goodIn_of _ (by decide +kernel)) ggX3_nodeOfPosition_X3_climb
theorem dX3_nodeOfPosition_0 : decode cX3_nodeOfPosition 0 = .ok (.aload_n 0, 1) := by decide +kernel
theorem dX3_nodeOfPosition_1 : decode cX3_nodeOfPosition 1 = .ok (.iload_n 1, 1) := by decide +kernel
theorem dX3_nodeOfPosition_2 : decode cX3_nodeOfPosition 2 = .ok (.iconst 1, 1) := by decide +kernel
theorem dX3_nodeOfPosition_3 : decode cX3_nodeOfPosition 3 = .ok (.iadd, 1) := by decide +kernel
theorem dX3_nodeOfPosition_4 : decode cX3_nodeOfPosition 4 = .ok (.invokevirtual 77, 3) := by decide +kernel
theorem dX3_nodeOfPosition_7 : decode cX3_nodeOfPosition 7 = .ok (.iconst 1, 1) := by decide +kernel
theorem dX3_nodeOfPosition_8 : decode cX3_nodeOfPosition 8 = .ok (.isub, 1) := by decide +kernel
theorem dX3_nodeOfPosition_9 : decode cX3_nodeOfPosition 9 = .ok (.istore_n 2, 1) := by decide +kernel
theorem dX3_nodeOfPosition_10 : decode cX3_nodeOfPosition 10 = .ok (.aload_n 0, 1) := by decide +kernel
theorem dX3_nodeOfPosition_11 : decode cX3_nodeOfPosition 11 = .ok (.iload_n 2, 1) := by decide +kernel
theorem dX3_nodeOfPosition_12 : decode cX3_nodeOfPosition 12 = .ok (.invokevirtual 74, 3) := by decide +kernel
theorem dX3_nodeOfPosition_15 : decode cX3_nodeOfPosition 15 = .ok (.iload_n 1, 1) := by decide +kernel
theorem dX3_nodeOfPosition_16 : decode cX3_nodeOfPosition 16 = .ok (.if_icmp .ne 7, 3) := by decide +kernel
theorem dX3_nodeOfPosition_19 : decode cX3_nodeOfPosition 19 = .ok (.iload_n 2, 1) := by decide +kernel
theorem dX3_nodeOfPosition_20 : decode cX3_nodeOfPosition 20 = .ok (.goto 15, 3) := by decide +kernel
theorem dX3_nodeOfPosition_23 : decode cX3_nodeOfPosition 23 = .ok (.aload_n 0, 1) := by decide +kernel
theorem dX3_nodeOfPosition_24 : decode cX3_nodeOfPosition 24 = .ok (.iload_n 2, 1) := by decide +kernel
theorem dX3_nodeOfPosition_25 : decode cX3_nodeOfPosition 25 = .ok (.aload_n 0, 1) := by decide +kernel
theorem dX3_nodeOfPosition_26 : decode cX3_nodeOfPosition 26 = .ok (.iload_n 1, 1) := by decide +kernel
theorem dX3_nodeOfPosition_27 : decode cX3_nodeOfPosition 27 = .ok (.iconst 1, 1) := by decide +kernel
theorem dX3_nodeOfPosition_28 : decode cX3_nodeOfPosition 28 = .ok (.iadd, 1) := by decide +kernel
theorem dX3_nodeOfPosition_29 : decode cX3_nodeOfPosition 29 = .ok (.invokevirtual 80, 3) := by decide +kernel
theorem dX3_nodeOfPosition_32 : decode cX3_nodeOfPosition 32 = .ok (.invokevirtual 47, 3) := by decide +kernel
theorem dX3_nodeOfPosition_35 : decode cX3_nodeOfPosition 35 = .ok (.ireturn, 1) := by decide +kernel
set_option maxRecDepth 20000 in
theorem ggX3_countLabel_X3_endOf : GoodIn wsX3_countLabel wsX3_endOf := goodIn_r _ [5, 6, 7, 8, 9, 4, 10, 11, 12, 13, 14, 15, 16, 17, 18, 24, 25, 26, 27, 28] (by decide +kernel) (by decide +kernel)
set_option maxRecDepth 20000 in
theorem gX3_countLabel_X3_endOf : GoodIn wsX3_countLabel (wsV RX3 44 RX3 yX3_endOf wsX3_endOf) := goodIn_app (goodIn_of _ (by decide +kernel)) ggX3_countLabel_X3_endOf
set_option maxRecDepth 20000 in
theorem ggX3_countLabel_X3_labelOf : GoodIn wsX3_countLabel wsX3_labelOf := goodIn_r _ [22, 23, 16, 17, 18, 24, 25, 26, 27, 28] (by decide +kernel) (by decide +kernel)
set_option maxRecDepth 20000 in
theorem gX3_countLabel_X3_labelOf : GoodIn wsX3_countLabel (wsV RX3 83 RX3 yX3_labelOf wsX3_labelOf) := goodIn_app (goodIn_of _ (by decide +kernel)) ggX3_countLabel_X3_labelOf
theorem dX3_countLabel_0 : decode cX3_countLabel 0 = .ok (.aload_n 0, 1) := by decide +kernel
theorem dX3_countLabel_1 : decode cX3_countLabel 1 = .ok (.iload_n 1, 1) := by decide +kernel
theorem dX3_countLabel_2 : decode cX3_countLabel 2 = .ok (.invokevirtual 44, 3) := by decide +kernel
theorem dX3_countLabel_5 : decode cX3_countLabel 5 = .ok (.istore_n 3, 1) := by decide +kernel
theorem dX3_countLabel_6 : decode cX3_countLabel 6 = .ok (.iconst 0, 1) := by decide +kernel
theorem dX3_countLabel_7 : decode cX3_countLabel 7 = .ok (.istore 4, 2) := by decide +kernel
theorem dX3_countLabel_9 : decode cX3_countLabel 9 = .ok (.iload_n 1, 1) := by decide +kernel
theorem dX3_countLabel_10 : decode cX3_countLabel 10 = .ok (.istore 5, 2) := by decide +kernel
theorem dX3_countLabel_12 : decode cX3_countLabel 12 = .ok (.iload 5, 2) := by decide +kernel
theorem dX3_countLabel_14 : decode cX3_countLabel 14 = .ok (.iload_n 3, 1) := by decide +kernel
theorem dX3_countLabel_15 : decode cX3_countLabel 15 = .ok (.if_icmp .ge 22, 3) := by decide +kernel
theorem dX3_countLabel_18 : decode cX3_countLabel 18 = .ok (.aload_n 0, 1) := by decide +kernel
theorem dX3_countLabel_19 : decode cX3_countLabel 19 = .ok (.iload 5, 2) := by decide +kernel
theorem dX3_countLabel_21 : decode cX3_countLabel 21 = .ok (.invokevirtual 83, 3) := by decide +kernel
theorem dX3_countLabel_24 : decode cX3_countLabel 24 = .ok (.iload_n 2, 1) := by decide +kernel
theorem dX3_countLabel_25 : decode cX3_countLabel 25 = .ok (.if_icmp .ne 6, 3) := by decide +kernel
theorem dX3_countLabel_28 : decode cX3_countLabel 28 = .ok (.iinc 4 1, 3) := by decide +kernel
theorem dX3_countLabel_31 : decode cX3_countLabel 31 = .ok (.iinc 5 1, 3) := by decide +kernel
theorem dX3_countLabel_34 : decode cX3_countLabel 34 = .ok (.goto (-22), 3) := by decide +kernel
theorem dX3_countLabel_37 : decode cX3_countLabel 37 = .ok (.iload 4, 2) := by decide +kernel
theorem dX3_countLabel_39 : decode cX3_countLabel 39 = .ok (.ireturn, 1) := by decide +kernel
set_option maxRecDepth 20000 in
theorem ggX3_findLabel_X3_endOf : GoodIn wsX3_findLabel wsX3_endOf := goodIn_r _ [5, 6, 7, 8, 9, 4, 10, 11, 12, 13, 14, 15, 16, 17, 18, 24, 25, 26, 27, 28] (by decide +kernel) (by decide +kernel)
set_option maxRecDepth 20000 in
theorem gX3_findLabel_X3_endOf : GoodIn wsX3_findLabel (wsV RX3 44 RX3 yX3_endOf wsX3_endOf) := goodIn_app (goodIn_of _ (by decide +kernel)) ggX3_findLabel_X3_endOf
set_option maxRecDepth 20000 in
theorem ggX3_findLabel_X3_labelOf : GoodIn wsX3_findLabel wsX3_labelOf := goodIn_r _ [22, 23, 16, 17, 18, 24, 25, 26, 27, 28] (by decide +kernel) (by decide +kernel)
set_option maxRecDepth 20000 in
theorem gX3_findLabel_X3_labelOf : GoodIn wsX3_findLabel (wsV RX3 83 RX3 yX3_labelOf wsX3_labelOf) := goodIn_app (goodIn_of _ (by decide +kernel)) ggX3_findLabel_X3_labelOf
theorem dX3_findLabel_0 : decode cX3_findLabel 0 = .ok (.aload_n 0, 1) := by decide +kernel
theorem dX3_findLabel_1 : decode cX3_findLabel 1 = .ok (.iload_n 1, 1) := by decide +kernel
theorem dX3_findLabel_2 : decode cX3_findLabel 2 = .ok (.invokevirtual 44, 3) := by decide +kernel
theorem dX3_findLabel_5 : decode cX3_findLabel 5 = .ok (.istore 4, 2) := by decide +kernel
theorem dX3_findLabel_7 : decode cX3_findLabel 7 = .ok (.iconst 0, 1) := by decide +kernel
theorem dX3_findLabel_8 : decode cX3_findLabel 8 = .ok (.istore 5, 2) := by decide +kernel
theorem dX3_findLabel_10 : decode cX3_findLabel 10 = .ok (.iload_n 1, 1) := by decide +kernel
theorem dX3_findLabel_11 : decode cX3_findLabel 11 = .ok (.istore 6, 2) := by decide +kernel
theorem dX3_findLabel_13 : decode cX3_findLabel 13 = .ok (.iload 6, 2) := by decide +kernel
theorem dX3_findLabel_15 : decode cX3_findLabel 15 = .ok (.iload 4, 2) := by decide +kernel
theorem dX3_findLabel_17 : decode cX3_findLabel 17 = .ok (.if_icmp .ge 31, 3) := by decide +kernel
theorem dX3_findLabel_20 : decode cX3_findLabel 20 = .ok (.aload_n 0, 1) := by decide +kernel
theorem dX3_findLabel_21 : decode cX3_findLabel 21 = .ok (.iload 6, 2) := by decide +kernel
theorem dX3_findLabel_23 : decode cX3_findLabel 23 = .ok (.invokevirtual 83, 3) := by decide +kernel
theorem dX3_findLabel_26 : decode cX3_findLabel 26 = .ok (.iload_n 2, 1) := by decide +kernel
theorem dX3_findLabel_27 : decode cX3_findLabel 27 = .ok (.if_icmp .ne 15, 3) := by decide +kernel
theorem dX3_findLabel_30 : decode cX3_findLabel 30 = .ok (.iload 5, 2) := by decide +kernel
theorem dX3_findLabel_32 : decode cX3_findLabel 32 = .ok (.iload_n 3, 1) := by decide +kernel
theorem dX3_findLabel_33 : decode cX3_findLabel 33 = .ok (.if_icmp .ne 6, 3) := by decide +kernel
theorem dX3_findLabel_36 : decode cX3_findLabel 36 = .ok (.iload 6, 2) := by decide +kernel
theorem dX3_findLabel_38 : decode cX3_findLabel 38 = .ok (.ireturn, 1) := by decide +kernel
theorem dX3_findLabel_39 : decode cX3_findLabel 39 = .ok (.iinc 5 1, 3) := by decide +kernel
theorem dX3_findLabel_42 : decode cX3_findLabel 42 = .ok (.iinc 6 1, 3) := by decide +kernel
theorem dX3_findLabel_45 : decode cX3_findLabel 45 = .ok (.goto (-32), 3) := by decide +kernel
theorem dX3_findLabel_48 : decode cX3_findLabel 48 = .ok (.bipush (-5), 2) := by decide +kernel
theorem dX3_findLabel_50 : decode cX3_findLabel 50 = .ok (.ireturn, 1) := by decide +kernel
set_option maxRecDepth 20000 in
theorem ggX3_findAncestor_X3_depthOf : GoodIn wsX3_findAncestor wsX3_depthOf := goodIn_r _ [5, 6, 7, 8, 9, 4, 10, 11, 12, 13, 14, 20, 21, 22, 23, 24] (by decide +kernel) (by decide +kernel)
set_option maxRecDepth 20000 in
theorem gX3_findAncestor_X3_depthOf : GoodIn wsX3_findAncestor (wsV RX3 40 RX3 yX3_depthOf wsX3_depthOf) := goodIn_app (goodIn_of _ (by decide +kernel)) ggX3_findAncestor_X3_depthOf
set_option maxRecDepth 20000 in
theorem ggX3_findAncestor_X3_labelOf : GoodIn wsX3_findAncestor wsX3_labelOf := goodIn_r _ [18, 19, 12, 13, 14, 20, 21, 22, 23, 24] (by decide +kernel) (by decide +kernel)
set_option maxRecDepth 20000 in
theorem gX3_findAncestor_X3_labelOf : GoodIn wsX3_findAncestor (wsV RX3 83 RX3 yX3_labelOf wsX3_labelOf) := goodIn_app (goodIn_of _ (by decide +kernel)) ggX3_findAncestor_X3_labelOf
theorem dX3_findAncestor_0 : decode cX3_findAncestor 0 = .ok (.aload_n 0, 1) := by decide +kernel
theorem dX3_findAncestor_1 : decode cX3_findAncestor 1 = .ok (.iload_n 1, 1) := by decide +kernel
theorem dX3_findAncestor_2 : decode cX3_findAncestor 2 = .ok (.invokevirtual 40, 3) := by decide +kernel
theorem dX3_findAncestor_5 : decode cX3_findAncestor 5 = .ok (.istore_n 3, 1) := by decide +kernel
theorem dX3_findAncestor_6 : decode cX3_findAncestor 6 = .ok (.iload_n 1, 1) := by decide +kernel
theorem dX3_findAncestor_7 : decode cX3_findAncestor 7 = .ok (.iconst 1, 1) := by decide +kernel
theorem dX3_findAncestor_8 : decode cX3_findAncestor 8 = .ok (.isub, 1) := by decide +kernel
theorem dX3_findAncestor_9 : decode cX3_findAncestor 9 = .ok (.istore 4, 2) := by decide +kernel
theorem dX3_findAncestor_11 : decode cX3_findAncestor 11 = .ok (.iload 4, 2) := by decide +kernel
theorem dX3_findAncestor_13 : decode cX3_findAncestor 13 = .ok (.ifCond .lt 39, 3) := by decide +kernel
theorem dX3_findAncestor_16 : decode cX3_findAncestor 16 = .ok (.aload_n 0, 1) := by decide +kernel
theorem dX3_findAncestor_17 : decode cX3_findAncestor 17 = .ok (.iload 4, 2) := by decide +kernel
theorem dX3_findAncestor_19 : decode cX3_findAncestor 19 = .ok (.invokevirtual 40, 3) := by decide +kernel
theorem dX3_findAncestor_22 : decode cX3_findAncestor 22 = .ok (.iload_n 3, 1) := by decide +kernel
theorem dX3_findAncestor_23 : decode cX3_findAncestor 23 = .ok (.if_icmp .ge 23, 3) := by decide +kernel
theorem dX3_findAncestor_26 : decode cX3_findAncestor 26 = .ok (.aload_n 0, 1) := by decide +kernel
theorem dX3_findAncestor_27 : decode cX3_findAncestor 27 = .ok (.iload 4, 2) := by decide +kernel
theorem dX3_findAncestor_29 : decode cX3_findAncestor 29 = .ok (.invokevirtual 83, 3) := by decide +kernel
theorem dX3_findAncestor_32 : decode cX3_findAncestor 32 = .ok (.iload_n 2, 1) := by decide +kernel
theorem dX3_findAncestor_33 : decode cX3_findAncestor 33 = .ok (.if_icmp .ne 6, 3) := by decide +kernel
theorem dX3_findAncestor_36 : decode cX3_findAncestor 36 = .ok (.iload 4, 2) := by decide +kernel
theorem dX3_findAncestor_38 : decode cX3_findAncestor 38 = .ok (.ireturn, 1) := by decide +kernel
theorem dX3_findAncestor_39 : decode cX3_findAncestor 39 = .ok (.aload_n 0, 1) := by decide +kernel
theorem dX3_findAncestor_40 : decode cX3_findAncestor 40 = .ok (.iload 4, 2) := by decide +kernel
theorem dX3_findAncestor_42 : decode cX3_findAncestor 42 = .ok (.invokevirtual 40, 3) := by decide +kernel
theorem dX3_findAncestor_45 : decode cX3_findAncestor 45 = .ok (.istore_n 3, 1) := by decide +kernel
theorem dX3_findAncestor_46 : decode cX3_findAncestor 46 = .ok (.iinc 4 (-1), 3) := by decide +kernel
theorem dX3_findAncestor_49 : decode cX3_findAncestor 49 = .ok (.goto (-38), 3) := by decide +kernel
theorem dX3_findAncestor_52 : decode cX3_findAncestor 52 = .ok (.bipush (-5), 2) := by decide +kernel
theorem dX3_findAncestor_54 : decode cX3_findAncestor 54 = .ok (.ireturn, 1) := by decide +kernel
set_option maxRecDepth 20000 in
theorem ggX3_sameSubtrees_X3_sizeOf : GoodIn wsX3_sameSubtrees wsX3_sizeOf := goodIn_r _ [5, 6, 7, 8, 4, 9, 10, 11, 12, 13, 14, 15, 16, 17, 18, 19, 20, 21, 22, 28, 29, 30, 31, 32] (by decide +kernel) (by decide +kernel)
set_option maxRecDepth 20000 in
theorem gX3_sameSubtrees_X3_sizeOf : GoodIn wsX3_sameSubtrees (wsV RX3 71 RX3 yX3_sizeOf wsX3_sizeOf) := goodIn_app (goodIn_of _ (by decide +kernel)) ggX3_sameSubtrees_X3_sizeOf
set_option maxRecDepth 20000 in
theorem ggX3_sameSubtrees_X3_depthOf : GoodIn wsX3_sameSubtrees wsX3_depthOf := goodIn_r _ [14, 15, 16, 17, 18, 4, 19, 10, 20, 21, 22, 28, 29, 30, 31, 32] (by decide +kernel) (by decide +kernel)
set_option maxRecDepth 20000 in
theorem gX3_sameSubtrees_X3_depthOf : GoodIn wsX3_sameSubtrees (wsV RX3 40 RX3 yX3_depthOf wsX3_depthOf) := goodIn_app (goodIn_of _ (by decide +kernel)) ggX3_sameSubtrees_X3_depthOf
set_option maxRecDepth 20000 in
theorem ggX3_sameSubtrees_X3_labelOf : GoodIn wsX3_sameSubtrees wsX3_labelOf := goodIn_r _ [26, 27, 20, 21, 22, 28, 29, 30, 31, 32] (by decide +kernel) (by decide +kernel)
set_option maxRecDepth 20000 in
theorem gX3_sameSubtrees_X3_labelOf : GoodIn wsX3_sameSubtrees (wsV RX3 83 RX3 yX3_labelOf wsX3_labelOf) := goodIn_app (goodIn_of _ (by decide +kernel)) ggX3_sameSubtrees_X3_labelOf
theorem dX3_sameSubtrees_0 : decode cX3_sameSubtrees 0 = .ok (.aload_n 0, 1) := by decide +kernel
theorem dX3_sameSubtrees_1 : decode cX3_sameSubtrees 1 = .ok (.iload_n 1, 1) := by decide +kernel
theorem dX3_sameSubtrees_2 : decode cX3_sameSubtrees 2 = .ok (.invokevirtual 71, 3) := by decide +kernel
theorem dX3_sameSubtrees_5 : decode cX3_sameSubtrees 5 = .ok (.istore_n 3, 1) := by decide +kernel
theorem dX3_sameSubtrees_6 : decode cX3_sameSubtrees 6 = .ok (.aload_n 0, 1) := by decide +kernel
theorem dX3_sameSubtrees_7 : decode cX3_sameSubtrees 7 = .ok (.iload_n 2, 1) := by decide +kernel
theorem dX3_sameSubtrees_8 : decode cX3_sameSubtrees 8 = .ok (.invokevirtual 71, 3) := by decide +kernel
theorem dX3_sameSubtrees_11 : decode cX3_sameSubtrees 11 = .ok (.iload_n 3, 1) := by decide +kernel
theorem dX3_sameSubtrees_12 : decode cX3_sameSubtrees 12 = .ok (.if_icmp .eq 5, 3) := by decide +kernel
theorem dX3_sameSubtrees_15 : decode cX3_sameSubtrees 15 = .ok (.iconst 0, 1) := by decide +kernel
theorem dX3_sameSubtrees_16 : decode cX3_sameSubtrees 16 = .ok (.ireturn, 1) := by decide +kernel
theorem dX3_sameSubtrees_17 : decode cX3_sameSubtrees 17 = .ok (.aload_n 0, 1) := by decide +kernel
theorem dX3_sameSubtrees_18 : decode cX3_sameSubtrees 18 = .ok (.iload_n 2, 1) := by decide +kernel
theorem dX3_sameSubtrees_19 : decode cX3_sameSubtrees 19 = .ok (.invokevirtual 40, 3) := by decide +kernel
theorem dX3_sameSubtrees_22 : decode cX3_sameSubtrees 22 = .ok (.aload_n 0, 1) := by decide +kernel
theorem dX3_sameSubtrees_23 : decode cX3_sameSubtrees 23 = .ok (.iload_n 1, 1) := by decide +kernel
theorem dX3_sameSubtrees_24 : decode cX3_sameSubtrees 24 = .ok (.invokevirtual 40, 3) := by decide +kernel
theorem dX3_sameSubtrees_27 : decode cX3_sameSubtrees 27 = .ok (.isub, 1) := by decide +kernel
theorem dX3_sameSubtrees_28 : decode cX3_sameSubtrees 28 = .ok (.istore 4, 2) := by decide +kernel
theorem dX3_sameSubtrees_30 : decode cX3_sameSubtrees 30 = .ok (.iconst 0, 1) := by decide +kernel
theorem dX3_sameSubtrees_31 : decode cX3_sameSubtrees 31 = .ok (.istore 5, 2) := by decide +kernel
theorem dX3_sameSubtrees_33 : decode cX3_sameSubtrees 33 = .ok (.iload 5, 2) := by decide +kernel
theorem dX3_sameSubtrees_35 : decode cX3_sameSubtrees 35 = .ok (.iload_n 3, 1) := by decide +kernel
theorem dX3_sameSubtrees_36 : decode cX3_sameSubtrees 36 = .ok (.if_icmp .ge 52, 3) := by decide +kernel
theorem dX3_sameSubtrees_39 : decode cX3_sameSubtrees 39 = .ok (.aload_n 0, 1) := by decide +kernel
theorem dX3_sameSubtrees_40 : decode cX3_sameSubtrees 40 = .ok (.iload_n 1, 1) := by decide +kernel
theorem dX3_sameSubtrees_41 : decode cX3_sameSubtrees 41 = .ok (.iload 5, 2) := by decide +kernel
theorem dX3_sameSubtrees_43 : decode cX3_sameSubtrees 43 = .ok (.iadd, 1) := by decide +kernel
theorem dX3_sameSubtrees_44 : decode cX3_sameSubtrees 44 = .ok (.invokevirtual 83, 3) := by decide +kernel
theorem dX3_sameSubtrees_47 : decode cX3_sameSubtrees 47 = .ok (.aload_n 0, 1) := by decide +kernel
theorem dX3_sameSubtrees_48 : decode cX3_sameSubtrees 48 = .ok (.iload_n 2, 1) := by decide +kernel
theorem dX3_sameSubtrees_49 : decode cX3_sameSubtrees 49 = .ok (.iload 5, 2) := by decide +kernel
theorem dX3_sameSubtrees_51 : decode cX3_sameSubtrees 51 = .ok (.iadd, 1) := by decide +kernel
theorem dX3_sameSubtrees_52 : decode cX3_sameSubtrees 52 = .ok (.invokevirtual 83, 3) := by decide +kernel
theorem dX3_sameSubtrees_55 : decode cX3_sameSubtrees 55 = .ok (.if_icmp .ne 25, 3) := by decide +kernel
theorem dX3_sameSubtrees_58 : decode cX3_sameSubtrees 58 = .ok (.aload_n 0, 1) := by decide +kernel
theorem dX3_sameSubtrees_59 : decode cX3_sameSubtrees 59 = .ok (.iload_n 1, 1) := by decide +kernel
theorem dX3_sameSubtrees_60 : decode cX3_sameSubtrees 60 = .ok (.iload 5, 2) := by decide +kernel
theorem dX3_sameSubtrees_62 : decode cX3_sameSubtrees 62 = .ok (.iadd, 1) := by decide +kernel
theorem dX3_sameSubtrees_63 : decode cX3_sameSubtrees 63 = .ok (.invokevirtual 40, 3) := by decide +kernel
theorem dX3_sameSubtrees_66 : decode cX3_sameSubtrees 66 = .ok (.iload 4, 2) := by decide +kernel
theorem dX3_sameSubtrees_68 : decode cX3_sameSubtrees 68 = .ok (.iadd, 1) := by decide +kernel
theorem dX3_sameSubtrees_69 : decode cX3_sameSubtrees 69 = .ok (.aload_n 0, 1) := by decide +kernel
theorem dX3_sameSubtrees_70 : decode cX3_sameSubtrees 70 = .ok (.iload_n 2, 1) := by decide +kernel
theorem dX3_sameSubtrees_71 : decode cX3_sameSubtrees 71 = .ok (.iload 5, 2) := by decide +kernel
theorem dX3_sameSubtrees_73 : decode cX3_sameSubtrees 73 = .ok (.iadd, 1) := by decide +kernel
theorem dX3_sameSubtrees_74 : decode cX3_sameSubtrees 74 = .ok (.invokevirtual 40, 3) := by decide +kernel
theorem dX3_sameSubtrees_77 : decode cX3_sameSubtrees 77 = .ok (.if_icmp .eq 5, 3) := by decide +kernel
theorem dX3_sameSubtrees_80 : decode cX3_sameSubtrees 80 = .ok (.iconst 0, 1) := by decide +kernel
theorem dX3_sameSubtrees_81 : decode cX3_sameSubtrees 81 = .ok (.ireturn, 1) := by decide +kernel
theorem dX3_sameSubtrees_82 : decode cX3_sameSubtrees 82 = .ok (.iinc 5 1, 3) := by decide +kernel
theorem dX3_sameSubtrees_85 : decode cX3_sameSubtrees 85 = .ok (.goto (-52), 3) := by decide +kernel
theorem dX3_sameSubtrees_88 : decode cX3_sameSubtrees 88 = .ok (.iconst 1, 1) := by decide +kernel
theorem dX3_sameSubtrees_89 : decode cX3_sameSubtrees 89 = .ok (.ireturn, 1) := by decide +kernel
set_option maxRecDepth 20000 in
theorem ggX3_countEqual_X3_sameSubtrees : GoodIn wsX3_countEqual wsX3_sameSubtrees := goodIn_r _ [6, 7, 8, 9, 5, 10, 11, 12, 13, 14, 1, 15, 16, 17, 18, 19, 20, 21, 22, 23, 24, 25, 26, 27, 28, 29, 30, 31, 32, 33, 34, 35, 36] (by decide +kernel) (by decide +kernel)
set_option maxRecDepth 20000 in
theorem gX3_countEqual_X3_sameSubtrees : GoodIn wsX3_countEqual (wsV RX3 86 RX3 yX3_sameSubtrees wsX3_sameSubtrees) := goodIn_app (goodIn_of _ (by decide +kernel)) ggX3_countEqual_X3_sameSubtrees
theorem dX3_countEqual_0 : decode cX3_countEqual 0 = .ok (.iconst 0, 1) := by decide +kernel
theorem dX3_countEqual_1 : decode cX3_countEqual 1 = .ok (.istore_n 2, 1) := by decide +kernel
theorem dX3_countEqual_2 : decode cX3_countEqual 2 = .ok (.iconst 0, 1) := by decide +kernel
theorem dX3_countEqual_3 : decode cX3_countEqual 3 = .ok (.istore_n 3, 1) := by decide +kernel
theorem dX3_countEqual_4 : decode cX3_countEqual 4 = .ok (.iload_n 3, 1) := by decide +kernel
theorem dX3_countEqual_5 : decode cX3_countEqual 5 = .ok (.aload_n 0, 1) := by decide +kernel
theorem dX3_countEqual_6 : decode cX3_countEqual 6 = .ok (.getfield 28, 3) := by decide +kernel
theorem dX3_countEqual_9 : decode cX3_countEqual 9 = .ok (.if_icmp .ge 21, 3) := by decide +kernel
theorem dX3_countEqual_12 : decode cX3_countEqual 12 = .ok (.aload_n 0, 1) := by decide +kernel
theorem dX3_countEqual_13 : decode cX3_countEqual 13 = .ok (.iload_n 1, 1) := by decide +kernel
theorem dX3_countEqual_14 : decode cX3_countEqual 14 = .ok (.iload_n 3, 1) := by decide +kernel
theorem dX3_countEqual_15 : decode cX3_countEqual 15 = .ok (.invokevirtual 86, 3) := by decide +kernel
theorem dX3_countEqual_18 : decode cX3_countEqual 18 = .ok (.ifCond .eq 6, 3) := by decide +kernel
theorem dX3_countEqual_21 : decode cX3_countEqual 21 = .ok (.iinc 2 1, 3) := by decide +kernel
theorem dX3_countEqual_24 : decode cX3_countEqual 24 = .ok (.iinc 3 1, 3) := by decide +kernel
theorem dX3_countEqual_27 : decode cX3_countEqual 27 = .ok (.goto (-23), 3) := by decide +kernel
theorem dX3_countEqual_30 : decode cX3_countEqual 30 = .ok (.iload_n 2, 1) := by decide +kernel
theorem dX3_countEqual_31 : decode cX3_countEqual 31 = .ok (.ireturn, 1) := by decide +kernel
set_option maxRecDepth 20000 in
theorem ggX3_signsBehind_X3_isLeaf : GoodIn wsX3_signsBehind wsX3_isLeaf := goodIn_r _ [5, 6, 7, 8, 4, 9, 10, 11, 12, 13, 14, 15, 16, 17, 18, 19, 20, 21, 22, 23] (by decide +kernel) (by decide +kernel)
set_option maxRecDepth 20000 in
theorem gX3_signsBehind_X3_isLeaf : GoodIn wsX3_signsBehind (wsV RX3 51 RX3 yX3_isLeaf wsX3_isLeaf) := goodIn_app (goodIn_of _ (by decide +kernel)) ggX3_signsBehind_X3_isLeaf
set_option maxRecDepth 20000 in
theorem ggX3_signsBehind_X3_depthOf : GoodIn wsX3_signsBehind wsX3_depthOf := goodIn_r _ [9, 10, 11, 12, 13, 4, 14, 15, 16, 17, 18, 19, 20, 21, 22, 23] (by decide +kernel) (by decide +kernel)
set_option maxRecDepth 20000 in
theorem gX3_signsBehind_X3_depthOf : GoodIn wsX3_signsBehind (wsV RX3 40 RX3 yX3_depthOf wsX3_depthOf) := goodIn_app (goodIn_of _ (by decide +kernel)) ggX3_signsBehind_X3_depthOf
theorem dX3_signsBehind_0 : decode cX3_signsBehind 0 = .ok (.aload_n 0, 1) := by decide +kernel
theorem dX3_signsBehind_1 : decode cX3_signsBehind 1 = .ok (.iload_n 1, 1) := by decide +kernel
theorem dX3_signsBehind_2 : decode cX3_signsBehind 2 = .ok (.invokevirtual 51, 3) := by decide +kernel
theorem dX3_signsBehind_5 : decode cX3_signsBehind 5 = .ok (.ifCond .eq 19, 3) := by decide +kernel
theorem dX3_signsBehind_8 : decode cX3_signsBehind 8 = .ok (.aload_n 0, 1) := by decide +kernel
theorem dX3_signsBehind_9 : decode cX3_signsBehind 9 = .ok (.iload_n 1, 1) := by decide +kernel
theorem dX3_signsBehind_10 : decode cX3_signsBehind 10 = .ok (.invokevirtual 40, 3) := by decide +kernel
theorem dX3_signsBehind_13 : decode cX3_signsBehind 13 = .ok (.aload_n 0, 1) := by decide +kernel
theorem dX3_signsBehind_14 : decode cX3_signsBehind 14 = .ok (.iload_n 1, 1) := by decide +kernel
theorem dX3_signsBehind_15 : decode cX3_signsBehind 15 = .ok (.iconst 1, 1) := by decide +kernel
theorem dX3_signsBehind_16 : decode cX3_signsBehind 16 = .ok (.iadd, 1) := by decide +kernel
theorem dX3_signsBehind_17 : decode cX3_signsBehind 17 = .ok (.invokevirtual 40, 3) := by decide +kernel
theorem dX3_signsBehind_20 : decode cX3_signsBehind 20 = .ok (.isub, 1) := by decide +kernel
theorem dX3_signsBehind_21 : decode cX3_signsBehind 21 = .ok (.goto 4, 3) := by decide +kernel
theorem dX3_signsBehind_24 : decode cX3_signsBehind 24 = .ok (.iconst 1, 1) := by decide +kernel
theorem dX3_signsBehind_25 : decode cX3_signsBehind 25 = .ok (.ireturn, 1) := by decide +kernel
set_option maxRecDepth 20000 in
theorem ggX3_writtenLength_X3_signsBehind : GoodIn wsX3_writtenLength wsX3_signsBehind := goodIn_r _ [6, 7, 8, 9, 5, 10, 11, 12, 13, 14, 15, 16, 17, 18, 19, 1, 20, 21, 22, 23, 24, 25, 26, 27] (by decide +kernel) (by decide +kernel)
set_option maxRecDepth 20000 in
theorem gX3_writtenLength_X3_signsBehind : GoodIn wsX3_writtenLength (wsV RX3 90 RX3 yX3_signsBehind wsX3_signsBehind) := goodIn_app (goodIn_of _ (by decide +kernel)) ggX3_writtenLength_X3_signsBehind
theorem dX3_writtenLength_0 : decode cX3_writtenLength 0 = .ok (.iconst 0, 1) := by decide +kernel
theorem dX3_writtenLength_1 : decode cX3_writtenLength 1 = .ok (.istore_n 1, 1) := by decide +kernel
theorem dX3_writtenLength_2 : decode cX3_writtenLength 2 = .ok (.iconst 0, 1) := by decide +kernel
theorem dX3_writtenLength_3 : decode cX3_writtenLength 3 = .ok (.istore_n 2, 1) := by decide +kernel
theorem dX3_writtenLength_4 : decode cX3_writtenLength 4 = .ok (.iload_n 2, 1) := by decide +kernel
theorem dX3_writtenLength_5 : decode cX3_writtenLength 5 = .ok (.aload_n 0, 1) := by decide +kernel
theorem dX3_writtenLength_6 : decode cX3_writtenLength 6 = .ok (.getfield 28, 3) := by decide +kernel
theorem dX3_writtenLength_9 : decode cX3_writtenLength 9 = .ok (.if_icmp .ge 19, 3) := by decide +kernel
theorem dX3_writtenLength_12 : decode cX3_writtenLength 12 = .ok (.iload_n 1, 1) := by decide +kernel
theorem dX3_writtenLength_13 : decode cX3_writtenLength 13 = .ok (.iconst 1, 1) := by decide +kernel
theorem dX3_writtenLength_14 : decode cX3_writtenLength 14 = .ok (.aload_n 0, 1) := by decide +kernel
theorem dX3_writtenLength_15 : decode cX3_writtenLength 15 = .ok (.iload_n 2, 1) := by decide +kernel
theorem dX3_writtenLength_16 : decode cX3_writtenLength 16 = .ok (.invokevirtual 90, 3) := by decide +kernel
theorem dX3_writtenLength_19 : decode cX3_writtenLength 19 = .ok (.iadd, 1) := by decide +kernel
theorem dX3_writtenLength_20 : decode cX3_writtenLength 20 = .ok (.iadd, 1) := by decide +kernel
theorem dX3_writtenLength_21 : decode cX3_writtenLength 21 = .ok (.istore_n 1, 1) := by decide +kernel
theorem dX3_writtenLength_22 : decode cX3_writtenLength 22 = .ok (.iinc 2 1, 3) := by decide +kernel
theorem dX3_writtenLength_25 : decode cX3_writtenLength 25 = .ok (.goto (-21), 3) := by decide +kernel
theorem dX3_writtenLength_28 : decode cX3_writtenLength 28 = .ok (.iload_n 1, 1) := by decide +kernel
theorem dX3_writtenLength_29 : decode cX3_writtenLength 29 = .ok (.ireturn, 1) := by decide +kernel
set_option maxRecDepth 20000 in
theorem ggX3_writtenAt_X3_signsBehind : GoodIn wsX3_writtenAt wsX3_signsBehind := goodIn_r _ [6, 7, 8, 9, 5, 10, 11, 12, 13, 14, 15, 16, 17, 18, 19, 1, 20, 21, 22, 28, 29, 30, 31, 32] (by decide +kernel) (by decide +kernel)
set_option maxRecDepth 20000 in
theorem gX3_writtenAt_X3_signsBehind : GoodIn wsX3_writtenAt (wsV RX3 90 RX3 yX3_signsBehind wsX3_signsBehind) := goodIn_app (goodIn_of _ (by decide +kernel)) ggX3_writtenAt_X3_signsBehind
set_option maxRecDepth 20000 in
theorem ggX3_writtenAt_X3_labelOf : GoodIn wsX3_writtenAt wsX3_labelOf := goodIn_r _ [26, 27, 20, 21, 22, 28, 29, 30, 31, 32] (by decide +kernel) (by decide +kernel)
set_option maxRecDepth 20000 in
theorem gX3_writtenAt_X3_labelOf : GoodIn wsX3_writtenAt (wsV RX3 83 RX3 yX3_labelOf wsX3_labelOf) := goodIn_app (goodIn_of _ (by decide +kernel)) ggX3_writtenAt_X3_labelOf
set_option maxRecDepth 20000 in
theorem ggX3_writtenAt_X3_isLeaf : GoodIn wsX3_writtenAt wsX3_isLeaf := goodIn_r _ [10, 11, 12, 13, 5, 14, 15, 16, 17, 18, 19, 1, 20, 21, 22, 28, 29, 30, 31, 32] (by decide +kernel) (by decide +kernel)
set_option maxRecDepth 20000 in
theorem gX3_writtenAt_X3_isLeaf : GoodIn wsX3_writtenAt (wsV RX3 51 RX3 yX3_isLeaf wsX3_isLeaf) := goodIn_app (goodIn_of _ (by decide +kernel)) ggX3_writtenAt_X3_isLeaf
theorem dX3_writtenAt_0 : decode cX3_writtenAt 0 = .ok (.iconst 0, 1) := by decide +kernel
theorem dX3_writtenAt_1 : decode cX3_writtenAt 1 = .ok (.istore_n 2, 1) := by decide +kernel
theorem dX3_writtenAt_2 : decode cX3_writtenAt 2 = .ok (.iconst 0, 1) := by decide +kernel
theorem dX3_writtenAt_3 : decode cX3_writtenAt 3 = .ok (.istore_n 3, 1) := by decide +kernel
theorem dX3_writtenAt_4 : decode cX3_writtenAt 4 = .ok (.iload_n 3, 1) := by decide +kernel
theorem dX3_writtenAt_5 : decode cX3_writtenAt 5 = .ok (.aload_n 0, 1) := by decide +kernel
theorem dX3_writtenAt_6 : decode cX3_writtenAt 6 = .ok (.getfield 28, 3) := by decide +kernel
theorem dX3_writtenAt_9 : decode cX3_writtenAt 9 = .ok (.if_icmp .ge 56, 3) := by decide +kernel
theorem dX3_writtenAt_12 : decode cX3_writtenAt 12 = .ok (.iload_n 2, 1) := by decide +kernel
theorem dX3_writtenAt_13 : decode cX3_writtenAt 13 = .ok (.iconst 1, 1) := by decide +kernel
theorem dX3_writtenAt_14 : decode cX3_writtenAt 14 = .ok (.iadd, 1) := by decide +kernel
theorem dX3_writtenAt_15 : decode cX3_writtenAt 15 = .ok (.aload_n 0, 1) := by decide +kernel
theorem dX3_writtenAt_16 : decode cX3_writtenAt 16 = .ok (.iload_n 3, 1) := by decide +kernel
theorem dX3_writtenAt_17 : decode cX3_writtenAt 17 = .ok (.invokevirtual 90, 3) := by decide +kernel
theorem dX3_writtenAt_20 : decode cX3_writtenAt 20 = .ok (.iadd, 1) := by decide +kernel
theorem dX3_writtenAt_21 : decode cX3_writtenAt 21 = .ok (.istore 4, 2) := by decide +kernel
theorem dX3_writtenAt_23 : decode cX3_writtenAt 23 = .ok (.iload_n 1, 1) := by decide +kernel
theorem dX3_writtenAt_24 : decode cX3_writtenAt 24 = .ok (.iload_n 2, 1) := by decide +kernel
theorem dX3_writtenAt_25 : decode cX3_writtenAt 25 = .ok (.if_icmp .ne 9, 3) := by decide +kernel
theorem dX3_writtenAt_28 : decode cX3_writtenAt 28 = .ok (.aload_n 0, 1) := by decide +kernel
theorem dX3_writtenAt_29 : decode cX3_writtenAt 29 = .ok (.iload_n 3, 1) := by decide +kernel
theorem dX3_writtenAt_30 : decode cX3_writtenAt 30 = .ok (.invokevirtual 83, 3) := by decide +kernel
theorem dX3_writtenAt_33 : decode cX3_writtenAt 33 = .ok (.ireturn, 1) := by decide +kernel
theorem dX3_writtenAt_34 : decode cX3_writtenAt 34 = .ok (.iload_n 1, 1) := by decide +kernel
theorem dX3_writtenAt_35 : decode cX3_writtenAt 35 = .ok (.iload 4, 2) := by decide +kernel
theorem dX3_writtenAt_37 : decode cX3_writtenAt 37 = .ok (.if_icmp .ge 19, 3) := by decide +kernel
theorem dX3_writtenAt_40 : decode cX3_writtenAt 40 = .ok (.aload_n 0, 1) := by decide +kernel
theorem dX3_writtenAt_41 : decode cX3_writtenAt 41 = .ok (.iload_n 3, 1) := by decide +kernel
theorem dX3_writtenAt_42 : decode cX3_writtenAt 42 = .ok (.invokevirtual 51, 3) := by decide +kernel
theorem dX3_writtenAt_45 : decode cX3_writtenAt 45 = .ok (.ifCond .eq 8, 3) := by decide +kernel
theorem dX3_writtenAt_48 : decode cX3_writtenAt 48 = .ok (.bipush 41, 2) := by decide +kernel
theorem dX3_writtenAt_50 : decode cX3_writtenAt 50 = .ok (.goto 5, 3) := by decide +kernel
theorem dX3_writtenAt_53 : decode cX3_writtenAt 53 = .ok (.bipush 40, 2) := by decide +kernel
theorem dX3_writtenAt_55 : decode cX3_writtenAt 55 = .ok (.ireturn, 1) := by decide +kernel
theorem dX3_writtenAt_56 : decode cX3_writtenAt 56 = .ok (.iload 4, 2) := by decide +kernel
theorem dX3_writtenAt_58 : decode cX3_writtenAt 58 = .ok (.istore_n 2, 1) := by decide +kernel
theorem dX3_writtenAt_59 : decode cX3_writtenAt 59 = .ok (.iinc 3 1, 3) := by decide +kernel
theorem dX3_writtenAt_62 : decode cX3_writtenAt 62 = .ok (.goto (-58), 3) := by decide +kernel
theorem dX3_writtenAt_65 : decode cX3_writtenAt 65 = .ok (.bipush (-5), 2) := by decide +kernel
theorem dX3_writtenAt_67 : decode cX3_writtenAt 67 = .ok (.ireturn, 1) := by decide +kernel
theorem dX3_empty_0 : decode cX3_empty 0 = .ok (.aload_n 0, 1) := by decide +kernel
theorem dX3_empty_1 : decode cX3_empty 1 = .ok (.iconst 0, 1) := by decide +kernel
theorem dX3_empty_2 : decode cX3_empty 2 = .ok (.putfield 28, 3) := by decide +kernel
theorem dX3_empty_5 : decode cX3_empty 5 = .ok (.return_, 1) := by decide +kernel
set_option maxRecDepth 20000 in
theorem ggX3_append_X3_putNode : GoodIn wsX3_append wsX3_putNode := goodIn_r _ [6, 7, 8, 9, 10, 11, 12, 13, 14, 15, 16] (by decide +kernel) (by decide +kernel)
set_option maxRecDepth 20000 in
theorem gX3_append_X3_putNode : GoodIn wsX3_append (wsV RX3 93 RX3 yX3_putNode wsX3_putNode) := goodIn_app (goodIn_of _ (by decide +kernel)) ggX3_append_X3_putNode
theorem dX3_append_0 : decode cX3_append 0 = .ok (.aload_n 0, 1) := by decide +kernel
theorem dX3_append_1 : decode cX3_append 1 = .ok (.getfield 28, 3) := by decide +kernel
theorem dX3_append_4 : decode cX3_append 4 = .ok (.bipush 100, 2) := by decide +kernel
theorem dX3_append_6 : decode cX3_append 6 = .ok (.if_icmp .ge 23, 3) := by decide +kernel
theorem dX3_append_9 : decode cX3_append 9 = .ok (.aload_n 0, 1) := by decide +kernel
theorem dX3_append_10 : decode cX3_append 10 = .ok (.aload_n 0, 1) := by decide +kernel
theorem dX3_append_11 : decode cX3_append 11 = .ok (.getfield 28, 3) := by decide +kernel
theorem dX3_append_14 : decode cX3_append 14 = .ok (.iload_n 1, 1) := by decide +kernel
theorem dX3_append_15 : decode cX3_append 15 = .ok (.iload_n 2, 1) := by decide +kernel
theorem dX3_append_16 : decode cX3_append 16 = .ok (.invokevirtual 93, 3) := by decide +kernel
theorem dX3_append_19 : decode cX3_append 19 = .ok (.aload_n 0, 1) := by decide +kernel
theorem dX3_append_20 : decode cX3_append 20 = .ok (.dup, 1) := by decide +kernel
theorem dX3_append_21 : decode cX3_append 21 = .ok (.getfield 28, 3) := by decide +kernel
theorem dX3_append_24 : decode cX3_append 24 = .ok (.iconst 1, 1) := by decide +kernel
theorem dX3_append_25 : decode cX3_append 25 = .ok (.iadd, 1) := by decide +kernel
theorem dX3_append_26 : decode cX3_append 26 = .ok (.putfield 28, 3) := by decide +kernel
theorem dX3_append_29 : decode cX3_append 29 = .ok (.return_, 1) := by decide +kernel
set_option maxRecDepth 20000 in
theorem ggX3_putNode_X4_put : GoodIn wsX3_putNode wsX4_put := goodIn_r _ [5] (by decide +kernel) (by decide +kernel)
set_option maxRecDepth 20000 in
theorem gX3_putNode_X4_put_n24 : GoodIn wsX3_putNode (wsX4_put) := ggX3_putNode_X4_put
theorem dX3_putNode_0 : decode cX3_putNode 0 = .ok (.aload_n 0, 1) := by decide +kernel
theorem dX3_putNode_1 : decode cX3_putNode 1 = .ok (.getfield 9, 3) := by decide +kernel
theorem dX3_putNode_4 : decode cX3_putNode 4 = .ok (.iload_n 1, 1) := by decide +kernel
theorem dX3_putNode_5 : decode cX3_putNode 5 = .ok (.iload_n 2, 1) := by decide +kernel
theorem dX3_putNode_6 : decode cX3_putNode 6 = .ok (.invokestatic 24, 3) := by decide +kernel
theorem dX3_putNode_9 : decode cX3_putNode 9 = .ok (.aload_n 0, 1) := by decide +kernel
theorem dX3_putNode_10 : decode cX3_putNode 10 = .ok (.getfield 15, 3) := by decide +kernel
theorem dX3_putNode_13 : decode cX3_putNode 13 = .ok (.iload_n 1, 1) := by decide +kernel
theorem dX3_putNode_14 : decode cX3_putNode 14 = .ok (.iload_n 3, 1) := by decide +kernel
theorem dX3_putNode_15 : decode cX3_putNode 15 = .ok (.invokestatic 24, 3) := by decide +kernel
theorem dX3_putNode_18 : decode cX3_putNode 18 = .ok (.return_, 1) := by decide +kernel
set_option maxRecDepth 20000 in
theorem ggX3_openGap_X3_depthOf : GoodIn wsX3_openGap wsX3_depthOf := goodIn_r _ [10, 11, 12, 13, 14, 9, 15, 1, 16, 17, 18, 30, 31, 32, 33, 34] (by decide +kernel) (by decide +kernel)
set_option maxRecDepth 20000 in
theorem gX3_openGap_X3_depthOf : GoodIn wsX3_openGap (wsV RX3 40 RX3 yX3_depthOf wsX3_depthOf) := goodIn_app (goodIn_of _ (by decide +kernel)) ggX3_openGap_X3_depthOf
set_option maxRecDepth 20000 in
theorem ggX3_openGap_X3_labelOf : GoodIn wsX3_openGap wsX3_labelOf := goodIn_r _ [22, 23, 16, 17, 18, 30, 31, 32, 33, 34] (by decide +kernel) (by decide +kernel)
set_option maxRecDepth 20000 in
theorem gX3_openGap_X3_labelOf : GoodIn wsX3_openGap (wsV RX3 83 RX3 yX3_labelOf wsX3_labelOf) := goodIn_app (goodIn_of _ (by decide +kernel)) ggX3_openGap_X3_labelOf
set_option maxRecDepth 20000 in
theorem ggX3_openGap_X3_putNode : GoodIn wsX3_openGap wsX3_putNode := goodIn_r _ [27, 11, 23, 28, 17, 29, 30, 31, 32, 33, 34] (by decide +kernel) (by decide +kernel)
set_option maxRecDepth 20000 in
theorem gX3_openGap_X3_putNode : GoodIn wsX3_openGap (wsV RX3 93 RX3 yX3_putNode wsX3_putNode) := goodIn_app (goodIn_of _ (by decide +kernel)) ggX3_openGap_X3_putNode
theorem dX3_openGap_0 : decode cX3_openGap 0 = .ok (.aload_n 0, 1) := by decide +kernel
theorem dX3_openGap_1 : decode cX3_openGap 1 = .ok (.getfield 28, 3) := by decide +kernel
theorem dX3_openGap_4 : decode cX3_openGap 4 = .ok (.iconst 1, 1) := by decide +kernel
theorem dX3_openGap_5 : decode cX3_openGap 5 = .ok (.isub, 1) := by decide +kernel
theorem dX3_openGap_6 : decode cX3_openGap 6 = .ok (.istore_n 3, 1) := by decide +kernel
theorem dX3_openGap_7 : decode cX3_openGap 7 = .ok (.iload_n 3, 1) := by decide +kernel
theorem dX3_openGap_8 : decode cX3_openGap 8 = .ok (.iload_n 1, 1) := by decide +kernel
theorem dX3_openGap_9 : decode cX3_openGap 9 = .ok (.if_icmp .lt 26, 3) := by decide +kernel
theorem dX3_openGap_12 : decode cX3_openGap 12 = .ok (.aload_n 0, 1) := by decide +kernel
theorem dX3_openGap_13 : decode cX3_openGap 13 = .ok (.iload_n 3, 1) := by decide +kernel
theorem dX3_openGap_14 : decode cX3_openGap 14 = .ok (.iload_n 2, 1) := by decide +kernel
theorem dX3_openGap_15 : decode cX3_openGap 15 = .ok (.iadd, 1) := by decide +kernel
theorem dX3_openGap_16 : decode cX3_openGap 16 = .ok (.aload_n 0, 1) := by decide +kernel
theorem dX3_openGap_17 : decode cX3_openGap 17 = .ok (.iload_n 3, 1) := by decide +kernel
theorem dX3_openGap_18 : decode cX3_openGap 18 = .ok (.invokevirtual 40, 3) := by decide +kernel
theorem dX3_openGap_21 : decode cX3_openGap 21 = .ok (.aload_n 0, 1) := by decide +kernel
theorem dX3_openGap_22 : decode cX3_openGap 22 = .ok (.iload_n 3, 1) := by decide +kernel
theorem dX3_openGap_23 : decode cX3_openGap 23 = .ok (.invokevirtual 83, 3) := by decide +kernel
theorem dX3_openGap_26 : decode cX3_openGap 26 = .ok (.invokevirtual 93, 3) := by decide +kernel
theorem dX3_openGap_29 : decode cX3_openGap 29 = .ok (.iinc 3 (-1), 3) := by decide +kernel
theorem dX3_openGap_32 : decode cX3_openGap 32 = .ok (.goto (-25), 3) := by decide +kernel
theorem dX3_openGap_35 : decode cX3_openGap 35 = .ok (.aload_n 0, 1) := by decide +kernel
theorem dX3_openGap_36 : decode cX3_openGap 36 = .ok (.aload_n 0, 1) := by decide +kernel
theorem dX3_openGap_37 : decode cX3_openGap 37 = .ok (.getfield 28, 3) := by decide +kernel
theorem dX3_openGap_40 : decode cX3_openGap 40 = .ok (.iload_n 2, 1) := by decide +kernel
theorem dX3_openGap_41 : decode cX3_openGap 41 = .ok (.iadd, 1) := by decide +kernel
theorem dX3_openGap_42 : decode cX3_openGap 42 = .ok (.bipush 100, 2) := by decide +kernel
theorem dX3_openGap_44 : decode cX3_openGap 44 = .ok (.invokestatic 57, 3) := by decide +kernel
theorem dX3_openGap_47 : decode cX3_openGap 47 = .ok (.putfield 28, 3) := by decide +kernel
theorem dX3_openGap_50 : decode cX3_openGap 50 = .ok (.return_, 1) := by decide +kernel
set_option maxRecDepth 20000 in
theorem ggX3_closeGap_X3_depthOf : GoodIn wsX3_closeGap wsX3_depthOf := goodIn_r _ [10, 11, 12, 13, 14, 9, 15, 1, 16, 17, 18, 30, 31, 32, 33, 34] (by decide +kernel) (by decide +kernel)
set_option maxRecDepth 20000 in
theorem gX3_closeGap_X3_depthOf : GoodIn wsX3_closeGap (wsV RX3 40 RX3 yX3_depthOf wsX3_depthOf) := goodIn_app (goodIn_of _ (by decide +kernel)) ggX3_closeGap_X3_depthOf
set_option maxRecDepth 20000 in
theorem ggX3_closeGap_X3_labelOf : GoodIn wsX3_closeGap wsX3_labelOf := goodIn_r _ [22, 23, 16, 17, 18, 30, 31, 32, 33, 34] (by decide +kernel) (by decide +kernel)
set_option maxRecDepth 20000 in
theorem gX3_closeGap_X3_labelOf : GoodIn wsX3_closeGap (wsV RX3 83 RX3 yX3_labelOf wsX3_labelOf) := goodIn_app (goodIn_of _ (by decide +kernel)) ggX3_closeGap_X3_labelOf
set_option maxRecDepth 20000 in
theorem ggX3_closeGap_X3_putNode : GoodIn wsX3_closeGap wsX3_putNode := goodIn_r _ [27, 11, 23, 28, 17, 29, 30, 31, 32, 33, 34] (by decide +kernel) (by decide +kernel)
set_option maxRecDepth 20000 in
theorem gX3_closeGap_X3_putNode : GoodIn wsX3_closeGap (wsV RX3 93 RX3 yX3_putNode wsX3_putNode) := goodIn_app (goodIn_of _ (by decide +kernel)) ggX3_closeGap_X3_putNode
theorem dX3_closeGap_0 : decode cX3_closeGap 0 = .ok (.iload_n 1, 1) := by decide +kernel
theorem dX3_closeGap_1 : decode cX3_closeGap 1 = .ok (.iload_n 2, 1) := by decide +kernel
theorem dX3_closeGap_2 : decode cX3_closeGap 2 = .ok (.iadd, 1) := by decide +kernel
theorem dX3_closeGap_3 : decode cX3_closeGap 3 = .ok (.istore_n 3, 1) := by decide +kernel
theorem dX3_closeGap_4 : decode cX3_closeGap 4 = .ok (.iload_n 3, 1) := by decide +kernel
theorem dX3_closeGap_5 : decode cX3_closeGap 5 = .ok (.aload_n 0, 1) := by decide +kernel
theorem dX3_closeGap_6 : decode cX3_closeGap 6 = .ok (.getfield 28, 3) := by decide +kernel
theorem dX3_closeGap_9 : decode cX3_closeGap 9 = .ok (.if_icmp .ge 26, 3) := by decide +kernel
theorem dX3_closeGap_12 : decode cX3_closeGap 12 = .ok (.aload_n 0, 1) := by decide +kernel
theorem dX3_closeGap_13 : decode cX3_closeGap 13 = .ok (.iload_n 3, 1) := by decide +kernel
theorem dX3_closeGap_14 : decode cX3_closeGap 14 = .ok (.iload_n 2, 1) := by decide +kernel
theorem dX3_closeGap_15 : decode cX3_closeGap 15 = .ok (.isub, 1) := by decide +kernel
theorem dX3_closeGap_16 : decode cX3_closeGap 16 = .ok (.aload_n 0, 1) := by decide +kernel
theorem dX3_closeGap_17 : decode cX3_closeGap 17 = .ok (.iload_n 3, 1) := by decide +kernel
theorem dX3_closeGap_18 : decode cX3_closeGap 18 = .ok (.invokevirtual 40, 3) := by decide +kernel
theorem dX3_closeGap_21 : decode cX3_closeGap 21 = .ok (.aload_n 0, 1) := by decide +kernel
theorem dX3_closeGap_22 : decode cX3_closeGap 22 = .ok (.iload_n 3, 1) := by decide +kernel
theorem dX3_closeGap_23 : decode cX3_closeGap 23 = .ok (.invokevirtual 83, 3) := by decide +kernel
theorem dX3_closeGap_26 : decode cX3_closeGap 26 = .ok (.invokevirtual 93, 3) := by decide +kernel
theorem dX3_closeGap_29 : decode cX3_closeGap 29 = .ok (.iinc 3 1, 3) := by decide +kernel
theorem dX3_closeGap_32 : decode cX3_closeGap 32 = .ok (.goto (-28), 3) := by decide +kernel
theorem dX3_closeGap_35 : decode cX3_closeGap 35 = .ok (.aload_n 0, 1) := by decide +kernel
theorem dX3_closeGap_36 : decode cX3_closeGap 36 = .ok (.aload_n 0, 1) := by decide +kernel
theorem dX3_closeGap_37 : decode cX3_closeGap 37 = .ok (.getfield 28, 3) := by decide +kernel
theorem dX3_closeGap_40 : decode cX3_closeGap 40 = .ok (.iload_n 2, 1) := by decide +kernel
theorem dX3_closeGap_41 : decode cX3_closeGap 41 = .ok (.isub, 1) := by decide +kernel
theorem dX3_closeGap_42 : decode cX3_closeGap 42 = .ok (.iconst 0, 1) := by decide +kernel
theorem dX3_closeGap_43 : decode cX3_closeGap 43 = .ok (.invokestatic 62, 3) := by decide +kernel
theorem dX3_closeGap_46 : decode cX3_closeGap 46 = .ok (.putfield 28, 3) := by decide +kernel
theorem dX3_closeGap_49 : decode cX3_closeGap 49 = .ok (.return_, 1) := by decide +kernel
set_option maxRecDepth 20000 in
theorem ggX3_sink_X3_depthOf : GoodIn wsX3_sink wsX3_depthOf := goodIn_r _ [5, 6, 7, 8, 9, 4, 10, 11, 12, 13, 14, 26, 27, 28, 29, 30] (by decide +kernel) (by decide +kernel)
set_option maxRecDepth 20000 in
theorem gX3_sink_X3_depthOf : GoodIn wsX3_sink (wsV RX3 40 RX3 yX3_depthOf wsX3_depthOf) := goodIn_app (goodIn_of _ (by decide +kernel)) ggX3_sink_X3_depthOf
set_option maxRecDepth 20000 in
theorem ggX3_sink_X3_labelOf : GoodIn wsX3_sink wsX3_labelOf := goodIn_r _ [18, 19, 12, 13, 14, 26, 27, 28, 29, 30] (by decide +kernel) (by decide +kernel)
set_option maxRecDepth 20000 in
theorem gX3_sink_X3_labelOf : GoodIn wsX3_sink (wsV RX3 83 RX3 yX3_labelOf wsX3_labelOf) := goodIn_app (goodIn_of _ (by decide +kernel)) ggX3_sink_X3_labelOf
set_option maxRecDepth 20000 in
theorem ggX3_sink_X3_putNode : GoodIn wsX3_sink wsX3_putNode := goodIn_r _ [23, 6, 19, 24, 13, 25, 26, 27, 28, 29, 30] (by decide +kernel) (by decide +kernel)
set_option maxRecDepth 20000 in
theorem gX3_sink_X3_putNode : GoodIn wsX3_sink (wsV RX3 93 RX3 yX3_putNode wsX3_putNode) := goodIn_app (goodIn_of _ (by decide +kernel)) ggX3_sink_X3_putNode
theorem dX3_sink_0 : decode cX3_sink 0 = .ok (.iload_n 1, 1) := by decide +kernel
theorem dX3_sink_1 : decode cX3_sink 1 = .ok (.istore 4, 2) := by decide +kernel
theorem dX3_sink_3 : decode cX3_sink 3 = .ok (.iload 4, 2) := by decide +kernel
theorem dX3_sink_5 : decode cX3_sink 5 = .ok (.iload_n 2, 1) := by decide +kernel
theorem dX3_sink_6 : decode cX3_sink 6 = .ok (.if_icmp .ge 29, 3) := by decide +kernel
theorem dX3_sink_9 : decode cX3_sink 9 = .ok (.aload_n 0, 1) := by decide +kernel
theorem dX3_sink_10 : decode cX3_sink 10 = .ok (.iload 4, 2) := by decide +kernel
theorem dX3_sink_12 : decode cX3_sink 12 = .ok (.aload_n 0, 1) := by decide +kernel
theorem dX3_sink_13 : decode cX3_sink 13 = .ok (.iload 4, 2) := by decide +kernel
theorem dX3_sink_15 : decode cX3_sink 15 = .ok (.invokevirtual 40, 3) := by decide +kernel
theorem dX3_sink_18 : decode cX3_sink 18 = .ok (.iload_n 3, 1) := by decide +kernel
theorem dX3_sink_19 : decode cX3_sink 19 = .ok (.iadd, 1) := by decide +kernel
theorem dX3_sink_20 : decode cX3_sink 20 = .ok (.aload_n 0, 1) := by decide +kernel
theorem dX3_sink_21 : decode cX3_sink 21 = .ok (.iload 4, 2) := by decide +kernel
theorem dX3_sink_23 : decode cX3_sink 23 = .ok (.invokevirtual 83, 3) := by decide +kernel
theorem dX3_sink_26 : decode cX3_sink 26 = .ok (.invokevirtual 93, 3) := by decide +kernel
theorem dX3_sink_29 : decode cX3_sink 29 = .ok (.iinc 4 1, 3) := by decide +kernel
theorem dX3_sink_32 : decode cX3_sink 32 = .ok (.goto (-29), 3) := by decide +kernel
theorem dX3_sink_35 : decode cX3_sink 35 = .ok (.return_, 1) := by decide +kernel
set_option maxRecDepth 20000 in
theorem ggX3_wrapChildren_X3_startOfPlace : GoodIn wsX3_wrapChildren wsX3_startOfPlace := goodIn_r _ [5, 6, 7, 8, 4, 9, 10, 11, 12, 13, 14, 15, 16, 17, 18, 19, 20, 21, 22, 46, 47, 48, 49, 50] (by decide +kernel) (by decide +kernel)
set_option maxRecDepth 20000 in
theorem gX3_wrapChildren_X3_startOfPlace : GoodIn wsX3_wrapChildren (wsV RX3 97 RX3 yX3_startOfPlace wsX3_startOfPlace) := goodIn_app (goodIn_of _ (by decide +kernel)) ggX3_wrapChildren_X3_startOfPlace
set_option maxRecDepth 20000 in
theorem ggX3_wrapChildren_X3_sink : GoodIn wsX3_wrapChildren wsX3_sink := goodIn_r _ [26, 11, 12, 13, 4, 14, 15, 16, 17, 18, 19, 10, 20, 21, 22, 27, 28, 29, 30, 31, 32, 33, 34, 35, 36, 37, 46, 47, 48, 49, 50] (by decide +kernel) (by decide +kernel)
set_option maxRecDepth 20000 in
theorem gX3_wrapChildren_X3_sink : GoodIn wsX3_wrapChildren (wsV RX3 100 RX3 yX3_sink wsX3_sink) := goodIn_app (goodIn_of _ (by decide +kernel)) ggX3_wrapChildren_X3_sink
set_option maxRecDepth 20000 in
theorem ggX3_wrapChildren_X3_openGap : GoodIn wsX3_wrapChildren wsX3_openGap := goodIn_r _ [41, 10, 42, 43, 44, 45, 11, 12, 13, 4, 14, 15, 16, 17, 18, 19, 20, 21, 22, 27, 28, 29, 30, 31, 32, 33, 34, 35, 36, 37, 46, 47, 48, 49, 50] (by decide +kernel) (by decide +kernel)
set_option maxRecDepth 20000 in
theorem gX3_wrapChildren_X3_openGap : GoodIn wsX3_wrapChildren (wsV RX3 103 RX3 yX3_openGap wsX3_openGap) := goodIn_app (goodIn_of _ (by decide +kernel)) ggX3_wrapChildren_X3_openGap
set_option maxRecDepth 20000 in
theorem ggX3_wrapChildren_X3_depthOf : GoodIn wsX3_wrapChildren wsX3_depthOf := goodIn_r _ [14, 15, 16, 17, 18, 4, 19, 10, 20, 21, 22, 46, 47, 48, 49, 50] (by decide +kernel) (by decide +kernel)
set_option maxRecDepth 20000 in
theorem gX3_wrapChildren_X3_depthOf : GoodIn wsX3_wrapChildren (wsV RX3 40 RX3 yX3_depthOf wsX3_depthOf) := goodIn_app (goodIn_of _ (by decide +kernel)) ggX3_wrapChildren_X3_depthOf
set_option maxRecDepth 20000 in
theorem ggX3_wrapChildren_X3_putNode : GoodIn wsX3_wrapChildren wsX3_putNode := goodIn_r _ [35, 15, 31, 36, 21, 37, 46, 47, 48, 49, 50] (by decide +kernel) (by decide +kernel)
set_option maxRecDepth 20000 in
theorem gX3_wrapChildren_X3_putNode : GoodIn wsX3_wrapChildren (wsV RX3 93 RX3 yX3_putNode wsX3_putNode) := goodIn_app (goodIn_of _ (by decide +kernel)) ggX3_wrapChildren_X3_putNode
theorem dX3_wrapChildren_0 : decode cX3_wrapChildren 0 = .ok (.aload_n 0, 1) := by decide +kernel
theorem dX3_wrapChildren_1 : decode cX3_wrapChildren 1 = .ok (.iload_n 1, 1) := by decide +kernel
theorem dX3_wrapChildren_2 : decode cX3_wrapChildren 2 = .ok (.iload_n 2, 1) := by decide +kernel
theorem dX3_wrapChildren_3 : decode cX3_wrapChildren 3 = .ok (.invokevirtual 97, 3) := by decide +kernel
theorem dX3_wrapChildren_6 : decode cX3_wrapChildren 6 = .ok (.istore 5, 2) := by decide +kernel
theorem dX3_wrapChildren_8 : decode cX3_wrapChildren 8 = .ok (.aload_n 0, 1) := by decide +kernel
theorem dX3_wrapChildren_9 : decode cX3_wrapChildren 9 = .ok (.iload_n 1, 1) := by decide +kernel
theorem dX3_wrapChildren_10 : decode cX3_wrapChildren 10 = .ok (.iload_n 2, 1) := by decide +kernel
theorem dX3_wrapChildren_11 : decode cX3_wrapChildren 11 = .ok (.iload_n 3, 1) := by decide +kernel
theorem dX3_wrapChildren_12 : decode cX3_wrapChildren 12 = .ok (.iadd, 1) := by decide +kernel
theorem dX3_wrapChildren_13 : decode cX3_wrapChildren 13 = .ok (.invokevirtual 97, 3) := by decide +kernel
theorem dX3_wrapChildren_16 : decode cX3_wrapChildren 16 = .ok (.istore 6, 2) := by decide +kernel
theorem dX3_wrapChildren_18 : decode cX3_wrapChildren 18 = .ok (.aload_n 0, 1) := by decide +kernel
theorem dX3_wrapChildren_19 : decode cX3_wrapChildren 19 = .ok (.iload 5, 2) := by decide +kernel
theorem dX3_wrapChildren_21 : decode cX3_wrapChildren 21 = .ok (.iload 6, 2) := by decide +kernel
theorem dX3_wrapChildren_23 : decode cX3_wrapChildren 23 = .ok (.iconst 1, 1) := by decide +kernel
theorem dX3_wrapChildren_24 : decode cX3_wrapChildren 24 = .ok (.invokevirtual 100, 3) := by decide +kernel
theorem dX3_wrapChildren_27 : decode cX3_wrapChildren 27 = .ok (.aload_n 0, 1) := by decide +kernel
theorem dX3_wrapChildren_28 : decode cX3_wrapChildren 28 = .ok (.iload 5, 2) := by decide +kernel
theorem dX3_wrapChildren_30 : decode cX3_wrapChildren 30 = .ok (.iconst 1, 1) := by decide +kernel
theorem dX3_wrapChildren_31 : decode cX3_wrapChildren 31 = .ok (.invokevirtual 103, 3) := by decide +kernel
theorem dX3_wrapChildren_34 : decode cX3_wrapChildren 34 = .ok (.aload_n 0, 1) := by decide +kernel
theorem dX3_wrapChildren_35 : decode cX3_wrapChildren 35 = .ok (.iload 5, 2) := by decide +kernel
theorem dX3_wrapChildren_37 : decode cX3_wrapChildren 37 = .ok (.aload_n 0, 1) := by decide +kernel
theorem dX3_wrapChildren_38 : decode cX3_wrapChildren 38 = .ok (.iload_n 1, 1) := by decide +kernel
theorem dX3_wrapChildren_39 : decode cX3_wrapChildren 39 = .ok (.invokevirtual 40, 3) := by decide +kernel
theorem dX3_wrapChildren_42 : decode cX3_wrapChildren 42 = .ok (.iconst 1, 1) := by decide +kernel
theorem dX3_wrapChildren_43 : decode cX3_wrapChildren 43 = .ok (.iadd, 1) := by decide +kernel
theorem dX3_wrapChildren_44 : decode cX3_wrapChildren 44 = .ok (.iload 4, 2) := by decide +kernel
theorem dX3_wrapChildren_46 : decode cX3_wrapChildren 46 = .ok (.invokevirtual 93, 3) := by decide +kernel
theorem dX3_wrapChildren_49 : decode cX3_wrapChildren 49 = .ok (.iload 5, 2) := by decide +kernel
theorem dX3_wrapChildren_51 : decode cX3_wrapChildren 51 = .ok (.ireturn, 1) := by decide +kernel
set_option maxRecDepth 20000 in
theorem ggX3_dissolve_X3_endOf : GoodIn wsX3_dissolve wsX3_endOf := goodIn_r _ [5, 6, 7, 8, 9, 4, 10, 11, 12, 13, 14, 15, 16, 17, 18, 42, 43, 44, 45, 46] (by decide +kernel) (by decide +kernel)
set_option maxRecDepth 20000 in
theorem gX3_dissolve_X3_endOf : GoodIn wsX3_dissolve (wsV RX3 44 RX3 yX3_endOf wsX3_endOf) := goodIn_app (goodIn_of _ (by decide +kernel)) ggX3_dissolve_X3_endOf
set_option maxRecDepth 20000 in
theorem ggX3_dissolve_X3_sink : GoodIn wsX3_dissolve wsX3_sink := goodIn_r _ [22, 7, 8, 9, 4, 10, 11, 12, 13, 14, 15, 6, 16, 17, 18, 23, 24, 25, 26, 27, 28, 29, 30, 31, 32, 33, 42, 43, 44, 45, 46] (by decide +kernel) (by decide +kernel)
set_option maxRecDepth 20000 in
theorem gX3_dissolve_X3_sink : GoodIn wsX3_dissolve (wsV RX3 100 RX3 yX3_sink wsX3_sink) := goodIn_app (goodIn_of _ (by decide +kernel)) ggX3_dissolve_X3_sink
set_option maxRecDepth 20000 in
theorem ggX3_dissolve_X3_closeGap : GoodIn wsX3_dissolve wsX3_closeGap := goodIn_r _ [37, 6, 38, 39, 40, 41, 7, 8, 9, 4, 10, 11, 12, 13, 14, 15, 16, 17, 18, 23, 24, 25, 26, 27, 28, 29, 30, 31, 32, 33, 42, 43, 44, 45, 46] (by decide +kernel) (by decide +kernel)
set_option maxRecDepth 20000 in
theorem gX3_dissolve_X3_closeGap : GoodIn wsX3_dissolve (wsV RX3 107 RX3 yX3_closeGap wsX3_closeGap) := goodIn_app (goodIn_of _ (by decide +kernel)) ggX3_dissolve_X3_closeGap
theorem dX3_dissolve_0 : decode cX3_dissolve 0 = .ok (.aload_n 0, 1) := by decide +kernel
theorem dX3_dissolve_1 : decode cX3_dissolve 1 = .ok (.iload_n 1, 1) := by decide +kernel
theorem dX3_dissolve_2 : decode cX3_dissolve 2 = .ok (.iconst 1, 1) := by decide +kernel
theorem dX3_dissolve_3 : decode cX3_dissolve 3 = .ok (.iadd, 1) := by decide +kernel
theorem dX3_dissolve_4 : decode cX3_dissolve 4 = .ok (.aload_n 0, 1) := by decide +kernel
theorem dX3_dissolve_5 : decode cX3_dissolve 5 = .ok (.iload_n 1, 1) := by decide +kernel
theorem dX3_dissolve_6 : decode cX3_dissolve 6 = .ok (.invokevirtual 44, 3) := by decide +kernel
theorem dX3_dissolve_9 : decode cX3_dissolve 9 = .ok (.iconst (-1), 1) := by decide +kernel
theorem dX3_dissolve_10 : decode cX3_dissolve 10 = .ok (.invokevirtual 100, 3) := by decide +kernel
theorem dX3_dissolve_13 : decode cX3_dissolve 13 = .ok (.aload_n 0, 1) := by decide +kernel
theorem dX3_dissolve_14 : decode cX3_dissolve 14 = .ok (.iload_n 1, 1) := by decide +kernel
theorem dX3_dissolve_15 : decode cX3_dissolve 15 = .ok (.iconst 1, 1) := by decide +kernel
theorem dX3_dissolve_16 : decode cX3_dissolve 16 = .ok (.invokevirtual 107, 3) := by decide +kernel
theorem dX3_dissolve_19 : decode cX3_dissolve 19 = .ok (.return_, 1) := by decide +kernel
set_option maxRecDepth 20000 in
theorem ggX3_transplant_X3_sizeOf : GoodIn wsX3_transplant wsX3_sizeOf := goodIn_r _ [5, 6, 7, 8, 4, 9, 10, 11, 12, 13, 14, 15, 16, 17, 18, 19, 20, 21, 22, 63, 64, 65, 66, 67] (by decide +kernel) (by decide +kernel)
set_option maxRecDepth 20000 in
theorem gX3_transplant_X3_sizeOf : GoodIn wsX3_transplant (wsV RX3 71 RX3 yX3_sizeOf wsX3_sizeOf) := goodIn_app (goodIn_of _ (by decide +kernel)) ggX3_transplant_X3_sizeOf
set_option maxRecDepth 20000 in
theorem ggX3_transplant_X3_hold : GoodIn wsX3_transplant wsX3_hold := goodIn_r _ [26, 27, 28, 11, 12, 13, 4, 14, 15, 16, 17, 18, 19, 10, 20, 21, 22, 29, 30, 31, 32, 33, 34, 35, 63, 64, 65, 66, 67] (by decide +kernel) (by decide +kernel)
set_option maxRecDepth 20000 in
theorem gX3_transplant_X3_hold : GoodIn wsX3_transplant (wsV RX3 110 RX3 yX3_hold wsX3_hold) := goodIn_app (goodIn_of _ (by decide +kernel)) ggX3_transplant_X3_hold
set_option maxRecDepth 20000 in
theorem ggX3_transplant_X3_closeGap : GoodIn wsX3_transplant wsX3_closeGap := goodIn_r _ [39, 10, 40, 41, 42, 43, 11, 12, 13, 4, 14, 15, 16, 17, 18, 19, 20, 21, 22, 31, 32, 33, 34, 35, 44, 45, 46, 47, 29, 30, 63, 64, 65, 66, 67] (by decide +kernel) (by decide +kernel)
set_option maxRecDepth 20000 in
theorem gX3_transplant_X3_closeGap : GoodIn wsX3_transplant (wsV RX3 107 RX3 yX3_closeGap wsX3_closeGap) := goodIn_app (goodIn_of _ (by decide +kernel)) ggX3_transplant_X3_closeGap
set_option maxRecDepth 20000 in
theorem ggX3_transplant_X3_startOfPlace : GoodIn wsX3_transplant wsX3_startOfPlace := goodIn_r _ [51, 6, 7, 8, 4, 9, 10, 11, 12, 13, 14, 15, 16, 17, 18, 19, 20, 21, 22, 63, 64, 65, 66, 67] (by decide +kernel) (by decide +kernel)
set_option maxRecDepth 20000 in
theorem gX3_transplant_X3_startOfPlace : GoodIn wsX3_transplant (wsV RX3 97 RX3 yX3_startOfPlace wsX3_startOfPlace) := goodIn_app (goodIn_of _ (by decide +kernel)) ggX3_transplant_X3_startOfPlace
set_option maxRecDepth 20000 in
theorem ggX3_transplant_X3_openGap : GoodIn wsX3_transplant wsX3_openGap := goodIn_r _ [55, 10, 56, 57, 42, 58, 11, 12, 13, 4, 14, 15, 16, 17, 18, 19, 20, 21, 22, 31, 32, 33, 34, 35, 44, 45, 46, 47, 29, 30, 63, 64, 65, 66, 67] (by decide +kernel) (by decide +kernel)
set_option maxRecDepth 20000 in
theorem gX3_transplant_X3_openGap : GoodIn wsX3_transplant (wsV RX3 103 RX3 yX3_openGap wsX3_openGap) := goodIn_app (goodIn_of _ (by decide +kernel)) ggX3_transplant_X3_openGap
set_option maxRecDepth 20000 in
theorem ggX3_transplant_X3_depthOf : GoodIn wsX3_transplant wsX3_depthOf := goodIn_r _ [14, 15, 16, 17, 18, 4, 19, 10, 20, 21, 22, 63, 64, 65, 66, 67] (by decide +kernel) (by decide +kernel)
set_option maxRecDepth 20000 in
theorem gX3_transplant_X3_depthOf : GoodIn wsX3_transplant (wsV RX3 40 RX3 yX3_depthOf wsX3_depthOf) := goodIn_app (goodIn_of _ (by decide +kernel)) ggX3_transplant_X3_depthOf
set_option maxRecDepth 20000 in
theorem ggX3_transplant_X3_release : GoodIn wsX3_transplant wsX3_release := goodIn_r _ [62, 27, 28, 20, 21, 22, 44, 45, 46, 4, 47, 15, 35, 29, 30, 63, 64, 65, 66, 67] (by decide +kernel) (by decide +kernel)
set_option maxRecDepth 20000 in
theorem gX3_transplant_X3_release : GoodIn wsX3_transplant (wsV RX3 113 RX3 yX3_release wsX3_release) := goodIn_app (goodIn_of _ (by decide +kernel)) ggX3_transplant_X3_release
theorem dX3_transplant_0 : decode cX3_transplant 0 = .ok (.aload_n 0, 1) := by decide +kernel
theorem dX3_transplant_1 : decode cX3_transplant 1 = .ok (.iload_n 1, 1) := by decide +kernel
theorem dX3_transplant_2 : decode cX3_transplant 2 = .ok (.invokevirtual 71, 3) := by decide +kernel
theorem dX3_transplant_5 : decode cX3_transplant 5 = .ok (.istore 4, 2) := by decide +kernel
theorem dX3_transplant_7 : decode cX3_transplant 7 = .ok (.aload_n 0, 1) := by decide +kernel
theorem dX3_transplant_8 : decode cX3_transplant 8 = .ok (.iload_n 1, 1) := by decide +kernel
theorem dX3_transplant_9 : decode cX3_transplant 9 = .ok (.iload 4, 2) := by decide +kernel
theorem dX3_transplant_11 : decode cX3_transplant 11 = .ok (.invokevirtual 110, 3) := by decide +kernel
theorem dX3_transplant_14 : decode cX3_transplant 14 = .ok (.aload_n 0, 1) := by decide +kernel
theorem dX3_transplant_15 : decode cX3_transplant 15 = .ok (.iload_n 1, 1) := by decide +kernel
theorem dX3_transplant_16 : decode cX3_transplant 16 = .ok (.iload 4, 2) := by decide +kernel
theorem dX3_transplant_18 : decode cX3_transplant 18 = .ok (.invokevirtual 107, 3) := by decide +kernel
theorem dX3_transplant_21 : decode cX3_transplant 21 = .ok (.iload_n 2, 1) := by decide +kernel
theorem dX3_transplant_22 : decode cX3_transplant 22 = .ok (.iload_n 1, 1) := by decide +kernel
theorem dX3_transplant_23 : decode cX3_transplant 23 = .ok (.if_icmp .ge 7, 3) := by decide +kernel
theorem dX3_transplant_26 : decode cX3_transplant 26 = .ok (.iload_n 2, 1) := by decide +kernel
theorem dX3_transplant_27 : decode cX3_transplant 27 = .ok (.goto 7, 3) := by decide +kernel
theorem dX3_transplant_30 : decode cX3_transplant 30 = .ok (.iload_n 2, 1) := by decide +kernel
theorem dX3_transplant_31 : decode cX3_transplant 31 = .ok (.iload 4, 2) := by decide +kernel
theorem dX3_transplant_33 : decode cX3_transplant 33 = .ok (.isub, 1) := by decide +kernel
theorem dX3_transplant_34 : decode cX3_transplant 34 = .ok (.istore 5, 2) := by decide +kernel
theorem dX3_transplant_36 : decode cX3_transplant 36 = .ok (.aload_n 0, 1) := by decide +kernel
theorem dX3_transplant_37 : decode cX3_transplant 37 = .ok (.iload 5, 2) := by decide +kernel
theorem dX3_transplant_39 : decode cX3_transplant 39 = .ok (.iload_n 3, 1) := by decide +kernel
theorem dX3_transplant_40 : decode cX3_transplant 40 = .ok (.invokevirtual 97, 3) := by decide +kernel
theorem dX3_transplant_43 : decode cX3_transplant 43 = .ok (.istore 6, 2) := by decide +kernel
theorem dX3_transplant_45 : decode cX3_transplant 45 = .ok (.aload_n 0, 1) := by decide +kernel
theorem dX3_transplant_46 : decode cX3_transplant 46 = .ok (.iload 6, 2) := by decide +kernel
theorem dX3_transplant_48 : decode cX3_transplant 48 = .ok (.iload 4, 2) := by decide +kernel
theorem dX3_transplant_50 : decode cX3_transplant 50 = .ok (.invokevirtual 103, 3) := by decide +kernel
theorem dX3_transplant_53 : decode cX3_transplant 53 = .ok (.aload_n 0, 1) := by decide +kernel
theorem dX3_transplant_54 : decode cX3_transplant 54 = .ok (.iload 6, 2) := by decide +kernel
theorem dX3_transplant_56 : decode cX3_transplant 56 = .ok (.iload 4, 2) := by decide +kernel
theorem dX3_transplant_58 : decode cX3_transplant 58 = .ok (.aload_n 0, 1) := by decide +kernel
theorem dX3_transplant_59 : decode cX3_transplant 59 = .ok (.iload 5, 2) := by decide +kernel
theorem dX3_transplant_61 : decode cX3_transplant 61 = .ok (.invokevirtual 40, 3) := by decide +kernel
theorem dX3_transplant_64 : decode cX3_transplant 64 = .ok (.iconst 1, 1) := by decide +kernel
theorem dX3_transplant_65 : decode cX3_transplant 65 = .ok (.iadd, 1) := by decide +kernel
theorem dX3_transplant_66 : decode cX3_transplant 66 = .ok (.invokevirtual 113, 3) := by decide +kernel
theorem dX3_transplant_69 : decode cX3_transplant 69 = .ok (.iload 6, 2) := by decide +kernel
theorem dX3_transplant_71 : decode cX3_transplant 71 = .ok (.ireturn, 1) := by decide +kernel
set_option maxRecDepth 20000 in
theorem ggX3_hold_X3_depthOf : GoodIn wsX3_hold wsX3_depthOf := goodIn_r _ [7, 8, 9, 10, 11, 6, 12, 13, 14, 15, 16, 24, 25, 26, 27, 28] (by decide +kernel) (by decide +kernel)
set_option maxRecDepth 20000 in
theorem gX3_hold_X3_depthOf : GoodIn wsX3_hold (wsV RX3 40 RX3 yX3_depthOf wsX3_depthOf) := goodIn_app (goodIn_of _ (by decide +kernel)) ggX3_hold_X3_depthOf
set_option maxRecDepth 20000 in
theorem ggX3_hold_X4_put : GoodIn wsX3_hold wsX4_put := goodIn_r _ [18] (by decide +kernel) (by decide +kernel)
set_option maxRecDepth 20000 in
theorem gX3_hold_X4_put_n24 : GoodIn wsX3_hold (wsX4_put) := ggX3_hold_X4_put
set_option maxRecDepth 20000 in
theorem ggX3_hold_X3_labelOf : GoodIn wsX3_hold wsX3_labelOf := goodIn_r _ [22, 23, 14, 15, 16, 24, 25, 26, 27, 28] (by decide +kernel) (by decide +kernel)
set_option maxRecDepth 20000 in
theorem gX3_hold_X3_labelOf : GoodIn wsX3_hold (wsV RX3 83 RX3 yX3_labelOf wsX3_labelOf) := goodIn_app (goodIn_of _ (by decide +kernel)) ggX3_hold_X3_labelOf
theorem dX3_hold_0 : decode cX3_hold 0 = .ok (.iconst 0, 1) := by decide +kernel
theorem dX3_hold_1 : decode cX3_hold 1 = .ok (.istore_n 3, 1) := by decide +kernel
theorem dX3_hold_2 : decode cX3_hold 2 = .ok (.iload_n 3, 1) := by decide +kernel
theorem dX3_hold_3 : decode cX3_hold 3 = .ok (.iload_n 2, 1) := by decide +kernel
theorem dX3_hold_4 : decode cX3_hold 4 = .ok (.if_icmp .ge 45, 3) := by decide +kernel
theorem dX3_hold_7 : decode cX3_hold 7 = .ok (.aload_n 0, 1) := by decide +kernel
theorem dX3_hold_8 : decode cX3_hold 8 = .ok (.getfield 18, 3) := by decide +kernel
theorem dX3_hold_11 : decode cX3_hold 11 = .ok (.iload_n 3, 1) := by decide +kernel
theorem dX3_hold_12 : decode cX3_hold 12 = .ok (.aload_n 0, 1) := by decide +kernel
theorem dX3_hold_13 : decode cX3_hold 13 = .ok (.iload_n 1, 1) := by decide +kernel
theorem dX3_hold_14 : decode cX3_hold 14 = .ok (.iload_n 3, 1) := by decide +kernel
theorem dX3_hold_15 : decode cX3_hold 15 = .ok (.iadd, 1) := by decide +kernel
theorem dX3_hold_16 : decode cX3_hold 16 = .ok (.invokevirtual 40, 3) := by decide +kernel
theorem dX3_hold_19 : decode cX3_hold 19 = .ok (.aload_n 0, 1) := by decide +kernel
theorem dX3_hold_20 : decode cX3_hold 20 = .ok (.iload_n 1, 1) := by decide +kernel
theorem dX3_hold_21 : decode cX3_hold 21 = .ok (.invokevirtual 40, 3) := by decide +kernel
theorem dX3_hold_24 : decode cX3_hold 24 = .ok (.isub, 1) := by decide +kernel
theorem dX3_hold_25 : decode cX3_hold 25 = .ok (.invokestatic 24, 3) := by decide +kernel
theorem dX3_hold_28 : decode cX3_hold 28 = .ok (.aload_n 0, 1) := by decide +kernel
theorem dX3_hold_29 : decode cX3_hold 29 = .ok (.getfield 21, 3) := by decide +kernel
theorem dX3_hold_32 : decode cX3_hold 32 = .ok (.iload_n 3, 1) := by decide +kernel
theorem dX3_hold_33 : decode cX3_hold 33 = .ok (.aload_n 0, 1) := by decide +kernel
theorem dX3_hold_34 : decode cX3_hold 34 = .ok (.iload_n 1, 1) := by decide +kernel
theorem dX3_hold_35 : decode cX3_hold 35 = .ok (.iload_n 3, 1) := by decide +kernel
theorem dX3_hold_36 : decode cX3_hold 36 = .ok (.iadd, 1) := by decide +kernel
theorem dX3_hold_37 : decode cX3_hold 37 = .ok (.invokevirtual 83, 3) := by decide +kernel
theorem dX3_hold_40 : decode cX3_hold 40 = .ok (.invokestatic 24, 3) := by decide +kernel
theorem dX3_hold_43 : decode cX3_hold 43 = .ok (.iinc 3 1, 3) := by decide +kernel
theorem dX3_hold_46 : decode cX3_hold 46 = .ok (.goto (-44), 3) := by decide +kernel
theorem dX3_hold_49 : decode cX3_hold 49 = .ok (.return_, 1) := by decide +kernel
set_option maxRecDepth 20000 in
theorem ggX3_release_X4_get : GoodIn wsX3_release wsX4_get := goodIn_r _ [5] (by decide +kernel) (by decide +kernel)
set_option maxRecDepth 20000 in
theorem gX3_release_X4_get_n36 : GoodIn wsX3_release (wsX4_get) := ggX3_release_X4_get
set_option maxRecDepth 20000 in
theorem ggX3_release_X3_putNode : GoodIn wsX3_release wsX3_putNode := goodIn_r _ [10, 11, 12, 13, 4, 14, 15, 16, 17, 18, 19] (by decide +kernel) (by decide +kernel)
set_option maxRecDepth 20000 in
theorem gX3_release_X3_putNode : GoodIn wsX3_release (wsV RX3 93 RX3 yX3_putNode wsX3_putNode) := goodIn_app (goodIn_of _ (by decide +kernel)) ggX3_release_X3_putNode
theorem dX3_release_0 : decode cX3_release 0 = .ok (.iconst 0, 1) := by decide +kernel
theorem dX3_release_1 : decode cX3_release 1 = .ok (.istore 4, 2) := by decide +kernel
theorem dX3_release_3 : decode cX3_release 3 = .ok (.iload 4, 2) := by decide +kernel
theorem dX3_release_5 : decode cX3_release 5 = .ok (.iload_n 2, 1) := by decide +kernel
theorem dX3_release_6 : decode cX3_release 6 = .ok (.if_icmp .ge 37, 3) := by decide +kernel
theorem dX3_release_9 : decode cX3_release 9 = .ok (.aload_n 0, 1) := by decide +kernel
theorem dX3_release_10 : decode cX3_release 10 = .ok (.iload_n 1, 1) := by decide +kernel
theorem dX3_release_11 : decode cX3_release 11 = .ok (.iload 4, 2) := by decide +kernel
theorem dX3_release_13 : decode cX3_release 13 = .ok (.iadd, 1) := by decide +kernel
theorem dX3_release_14 : decode cX3_release 14 = .ok (.aload_n 0, 1) := by decide +kernel
theorem dX3_release_15 : decode cX3_release 15 = .ok (.getfield 18, 3) := by decide +kernel
theorem dX3_release_18 : decode cX3_release 18 = .ok (.iload 4, 2) := by decide +kernel
theorem dX3_release_20 : decode cX3_release 20 = .ok (.invokestatic 36, 3) := by decide +kernel
theorem dX3_release_23 : decode cX3_release 23 = .ok (.iload_n 3, 1) := by decide +kernel
theorem dX3_release_24 : decode cX3_release 24 = .ok (.iadd, 1) := by decide +kernel
theorem dX3_release_25 : decode cX3_release 25 = .ok (.aload_n 0, 1) := by decide +kernel
theorem dX3_release_26 : decode cX3_release 26 = .ok (.getfield 21, 3) := by decide +kernel
theorem dX3_release_29 : decode cX3_release 29 = .ok (.iload 4, 2) := by decide +kernel
theorem dX3_release_31 : decode cX3_release 31 = .ok (.invokestatic 36, 3) := by decide +kernel
theorem dX3_release_34 : decode cX3_release 34 = .ok (.invokevirtual 93, 3) := by decide +kernel
theorem dX3_release_37 : decode cX3_release 37 = .ok (.iinc 4 1, 3) := by decide +kernel
theorem dX3_release_40 : decode cX3_release 40 = .ok (.goto (-37), 3) := by decide +kernel
theorem dX3_release_43 : decode cX3_release 43 = .ok (.return_, 1) := by decide +kernel
set_option maxRecDepth 20000 in
theorem ggX4_init_X3_init : GoodIn wsX4_init wsX3_init := goodIn_r _ [22, 23, 2, 3, 24, 25, 26, 27, 28, 29, 30, 31, 32, 47, 48, 49, 50, 51] (by decide +kernel) (by decide +kernel)
set_option maxRecDepth 20000 in
theorem gX4_init_X3_init : GoodIn wsX4_init (wsX3_init) := ggX4_init_X3_init
set_option maxRecDepth 20000 in
theorem ggX4_init_X0_init : GoodIn wsX4_init wsX0_init := goodIn_r _ [34, 35, 2, 3, 36, 56] (by decide +kernel) (by decide +kernel)
set_option maxRecDepth 20000 in
theorem gX4_init_X0_init_n18 : GoodIn wsX4_init (wsX0_init) := ggX4_init_X0_init
set_option maxRecDepth 20000 in
theorem ggX4_init_X1_init : GoodIn wsX4_init wsX1_init := goodIn_r _ [38, 39, 2, 3, 24, 40, 41, 42, 57, 58, 59, 60, 61] (by decide +kernel) (by decide +kernel)
set_option maxRecDepth 20000 in
theorem gX4_init_X1_init_n25 : GoodIn wsX4_init (wsX1_init) := ggX4_init_X1_init
set_option maxRecDepth 20000 in
theorem ggX4_init_X2_init : GoodIn wsX4_init wsX2_init := goodIn_r _ [44, 45, 2, 3, 24, 46, 62, 63] (by decide +kernel) (by decide +kernel)
set_option maxRecDepth 20000 in
theorem gX4_init_X2_init_n32 : GoodIn wsX4_init (wsX2_init) := ggX4_init_X2_init
