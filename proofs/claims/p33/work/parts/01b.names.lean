theorem dX0_init_0 : decode cX0_init 0 = .ok (.aload_n 0, 1) := by decide +kernel
theorem dX0_init_1 : decode cX0_init 1 = .ok (.invokespecial 3, 3) := by decide +kernel
theorem dX0_init_4 : decode cX0_init 4 = .ok (.aload_n 0, 1) := by decide +kernel
theorem dX0_init_5 : decode cX0_init 5 = .ok (.bipush 8, 2) := by decide +kernel
theorem dX0_init_7 : decode cX0_init 7 = .ok (.putfield 9, 3) := by decide +kernel
theorem dX0_init_10 : decode cX0_init 10 = .ok (.return_, 1) := by decide +kernel
theorem dX0_changeWidth_0 : decode cX0_changeWidth 0 = .ok (.aload_n 0, 1) := by decide +kernel
theorem dX0_changeWidth_1 : decode cX0_changeWidth 1 = .ok (.getfield 9, 3) := by decide +kernel
theorem dX0_changeWidth_4 : decode cX0_changeWidth 4 = .ok (.istore_n 2, 1) := by decide +kernel
theorem dX0_changeWidth_5 : decode cX0_changeWidth 5 = .ok (.aload_n 0, 1) := by decide +kernel
theorem dX0_changeWidth_6 : decode cX0_changeWidth 6 = .ok (.iload_n 1, 1) := by decide +kernel
theorem dX0_changeWidth_7 : decode cX0_changeWidth 7 = .ok (.putfield 9, 3) := by decide +kernel
theorem dX0_changeWidth_10 : decode cX0_changeWidth 10 = .ok (.iload_n 2, 1) := by decide +kernel
theorem dX0_changeWidth_11 : decode cX0_changeWidth 11 = .ok (.ireturn, 1) := by decide +kernel
set_option maxRecDepth 20000 in
theorem ggX0_countFor_X3_positionCount : GoodIn wsX0_countFor wsX3_positionCount := goodIn_r _ [10, 11, 13, 14, 15, 16, 17] (by decide +kernel) (by decide +kernel)
set_option maxRecDepth 20000 in
theorem gX0_countFor_X3_positionCount : GoodIn wsX0_countFor (wsV RX0 21 RX3 yX3_positionCount wsX3_positionCount) := goodIn_app (goodIn_of _ (by decide +kernel)) ggX0_countFor_X3_positionCount
theorem dX0_countFor_0 : decode cX0_countFor 0 = .ok (.aload_n 0, 1) := by decide +kernel
theorem dX0_countFor_1 : decode cX0_countFor 1 = .ok (.getfield 9, 3) := by decide +kernel
theorem dX0_countFor_4 : decode cX0_countFor 4 = .ok (.iconst 4, 1) := by decide +kernel
theorem dX0_countFor_5 : decode cX0_countFor 5 = .ok (.invokestatic 15, 3) := by decide +kernel
theorem dX0_countFor_8 : decode cX0_countFor 8 = .ok (.istore_n 2, 1) := by decide +kernel
theorem dX0_countFor_9 : decode cX0_countFor 9 = .ok (.aload_n 1, 1) := by decide +kernel
theorem dX0_countFor_10 : decode cX0_countFor 10 = .ok (.invokevirtual 21, 3) := by decide +kernel
theorem dX0_countFor_13 : decode cX0_countFor 13 = .ok (.iload_n 2, 1) := by decide +kernel
theorem dX0_countFor_14 : decode cX0_countFor 14 = .ok (.iadd, 1) := by decide +kernel
theorem dX0_countFor_15 : decode cX0_countFor 15 = .ok (.iconst 1, 1) := by decide +kernel
theorem dX0_countFor_16 : decode cX0_countFor 16 = .ok (.isub, 1) := by decide +kernel
theorem dX0_countFor_17 : decode cX0_countFor 17 = .ok (.iload_n 2, 1) := by decide +kernel
theorem dX0_countFor_18 : decode cX0_countFor 18 = .ok (.idiv, 1) := by decide +kernel
theorem dX0_countFor_19 : decode cX0_countFor 19 = .ok (.ireturn, 1) := by decide +kernel
theorem dX0_startOf_0 : decode cX0_startOf 0 = .ok (.iload_n 1, 1) := by decide +kernel
theorem dX0_startOf_1 : decode cX0_startOf 1 = .ok (.aload_n 0, 1) := by decide +kernel
theorem dX0_startOf_2 : decode cX0_startOf 2 = .ok (.getfield 9, 3) := by decide +kernel
theorem dX0_startOf_5 : decode cX0_startOf 5 = .ok (.imul, 1) := by decide +kernel
theorem dX0_startOf_6 : decode cX0_startOf 6 = .ok (.ireturn, 1) := by decide +kernel
set_option maxRecDepth 20000 in
theorem ggX0_endOf_X0_startOf : GoodIn wsX0_endOf wsX0_startOf := goodIn_r _ [10, 1, 17] (by decide +kernel) (by decide +kernel)
set_option maxRecDepth 20000 in
theorem gX0_endOf_X0_startOf : GoodIn wsX0_endOf (wsV RX0 27 RX0 yX0_startOf wsX0_startOf) := goodIn_app (goodIn_of _ (by decide +kernel)) ggX0_endOf_X0_startOf
set_option maxRecDepth 20000 in
theorem ggX0_endOf_X3_positionCount : GoodIn wsX0_endOf wsX3_positionCount := goodIn_r _ [15, 16, 18, 19, 20, 21, 22] (by decide +kernel) (by decide +kernel)
set_option maxRecDepth 20000 in
theorem gX0_endOf_X3_positionCount : GoodIn wsX0_endOf (wsV RX0 21 RX3 yX3_positionCount wsX3_positionCount) := goodIn_app (goodIn_of _ (by decide +kernel)) ggX0_endOf_X3_positionCount
theorem dX0_endOf_0 : decode cX0_endOf 0 = .ok (.aload_n 0, 1) := by decide +kernel
theorem dX0_endOf_1 : decode cX0_endOf 1 = .ok (.iload_n 2, 1) := by decide +kernel
theorem dX0_endOf_2 : decode cX0_endOf 2 = .ok (.invokevirtual 27, 3) := by decide +kernel
theorem dX0_endOf_5 : decode cX0_endOf 5 = .ok (.aload_n 0, 1) := by decide +kernel
theorem dX0_endOf_6 : decode cX0_endOf 6 = .ok (.getfield 9, 3) := by decide +kernel
theorem dX0_endOf_9 : decode cX0_endOf 9 = .ok (.iadd, 1) := by decide +kernel
theorem dX0_endOf_10 : decode cX0_endOf 10 = .ok (.aload_n 1, 1) := by decide +kernel
theorem dX0_endOf_11 : decode cX0_endOf 11 = .ok (.invokevirtual 21, 3) := by decide +kernel
theorem dX0_endOf_14 : decode cX0_endOf 14 = .ok (.invokestatic 31, 3) := by decide +kernel
theorem dX0_endOf_17 : decode cX0_endOf 17 = .ok (.ireturn, 1) := by decide +kernel
set_option maxRecDepth 20000 in
theorem ggX0_positionsOf_X0_endOf : GoodIn wsX0_positionsOf wsX0_endOf := goodIn_r _ [5, 6, 7, 8, 9, 10, 11, 12, 13, 4, 14, 15, 16, 17, 18, 19, 20, 21, 22, 23, 24, 25, 26] (by decide +kernel) (by decide +kernel)
set_option maxRecDepth 20000 in
theorem gX0_positionsOf_X0_endOf : GoodIn wsX0_positionsOf (wsV RX0 34 RX0 yX0_endOf wsX0_endOf) := goodIn_app (goodIn_of _ (by decide +kernel)) ggX0_positionsOf_X0_endOf
set_option maxRecDepth 20000 in
theorem ggX0_positionsOf_X0_startOf : GoodIn wsX0_positionsOf wsX0_startOf := goodIn_r _ [14, 6, 21] (by decide +kernel) (by decide +kernel)
set_option maxRecDepth 20000 in
theorem gX0_positionsOf_X0_startOf : GoodIn wsX0_positionsOf (wsV RX0 27 RX0 yX0_startOf wsX0_startOf) := goodIn_app (goodIn_of _ (by decide +kernel)) ggX0_positionsOf_X0_startOf
theorem dX0_positionsOf_0 : decode cX0_positionsOf 0 = .ok (.aload_n 0, 1) := by decide +kernel
theorem dX0_positionsOf_1 : decode cX0_positionsOf 1 = .ok (.aload_n 1, 1) := by decide +kernel
theorem dX0_positionsOf_2 : decode cX0_positionsOf 2 = .ok (.iload_n 2, 1) := by decide +kernel
theorem dX0_positionsOf_3 : decode cX0_positionsOf 3 = .ok (.invokevirtual 34, 3) := by decide +kernel
theorem dX0_positionsOf_6 : decode cX0_positionsOf 6 = .ok (.aload_n 0, 1) := by decide +kernel
theorem dX0_positionsOf_7 : decode cX0_positionsOf 7 = .ok (.iload_n 2, 1) := by decide +kernel
theorem dX0_positionsOf_8 : decode cX0_positionsOf 8 = .ok (.invokevirtual 27, 3) := by decide +kernel
theorem dX0_positionsOf_11 : decode cX0_positionsOf 11 = .ok (.isub, 1) := by decide +kernel
theorem dX0_positionsOf_12 : decode cX0_positionsOf 12 = .ok (.ireturn, 1) := by decide +kernel
set_option maxRecDepth 20000 in
theorem ggX0_leastExcess_X0_endOf : GoodIn wsX0_leastExcess wsX0_endOf := goodIn_r _ [9, 10, 1, 2, 3, 4, 11, 12, 13, 8, 14, 15, 16, 17, 18, 19, 20, 45, 46, 47, 48, 49, 50] (by decide +kernel) (by decide +kernel)
set_option maxRecDepth 20000 in
theorem gX0_leastExcess_X0_endOf : GoodIn wsX0_leastExcess (wsV RX0 34 RX0 yX0_endOf wsX0_endOf) := goodIn_app (goodIn_of _ (by decide +kernel)) ggX0_leastExcess_X0_endOf
set_option maxRecDepth 20000 in
theorem ggX0_leastExcess_X0_startOf : GoodIn wsX0_leastExcess wsX0_startOf := goodIn_r _ [14, 10, 45] (by decide +kernel) (by decide +kernel)
set_option maxRecDepth 20000 in
theorem gX0_leastExcess_X0_startOf : GoodIn wsX0_leastExcess (wsV RX0 27 RX0 yX0_startOf wsX0_startOf) := goodIn_app (goodIn_of _ (by decide +kernel)) ggX0_leastExcess_X0_startOf
set_option maxRecDepth 20000 in
theorem ggX0_leastExcess_X3_openedBefore : GoodIn wsX0_leastExcess wsX3_openedBefore := goodIn_r _ [24, 20, 25, 26, 27, 18, 28, 29, 30, 31, 32, 33, 34, 35, 36, 37, 38, 39, 40, 46, 47, 48, 49, 50] (by decide +kernel) (by decide +kernel)
set_option maxRecDepth 20000 in
theorem gX0_leastExcess_X3_openedBefore : GoodIn wsX0_leastExcess (wsV RX0 38 RX3 yX3_openedBefore wsX3_openedBefore) := goodIn_app (goodIn_of _ (by decide +kernel)) ggX0_leastExcess_X3_openedBefore
set_option maxRecDepth 20000 in
theorem ggX0_leastExcess_X3_opensAt : GoodIn wsX0_leastExcess wsX3_opensAt := goodIn_r _ [44, 34, 35, 36, 18, 37, 20, 25, 26, 27, 28, 29, 30, 31, 32, 33, 38, 39, 40, 46, 47, 48, 49, 50] (by decide +kernel) (by decide +kernel)
set_option maxRecDepth 20000 in
theorem gX0_leastExcess_X3_opensAt : GoodIn wsX0_leastExcess (wsV RX0 41 RX3 yX3_opensAt wsX3_opensAt) := goodIn_app (goodIn_of _ (by decide +kernel)) ggX0_leastExcess_X3_opensAt
theorem dX0_leastExcess_0 : decode cX0_leastExcess 0 = .ok (.aload_n 0, 1) := by decide +kernel
theorem dX0_leastExcess_1 : decode cX0_leastExcess 1 = .ok (.aload_n 1, 1) := by decide +kernel
theorem dX0_leastExcess_2 : decode cX0_leastExcess 2 = .ok (.iload_n 2, 1) := by decide +kernel
theorem dX0_leastExcess_3 : decode cX0_leastExcess 3 = .ok (.invokevirtual 34, 3) := by decide +kernel
theorem dX0_leastExcess_6 : decode cX0_leastExcess 6 = .ok (.istore_n 3, 1) := by decide +kernel
theorem dX0_leastExcess_7 : decode cX0_leastExcess 7 = .ok (.aload_n 1, 1) := by decide +kernel
theorem dX0_leastExcess_8 : decode cX0_leastExcess 8 = .ok (.aload_n 0, 1) := by decide +kernel
theorem dX0_leastExcess_9 : decode cX0_leastExcess 9 = .ok (.iload_n 2, 1) := by decide +kernel
theorem dX0_leastExcess_10 : decode cX0_leastExcess 10 = .ok (.invokevirtual 27, 3) := by decide +kernel
theorem dX0_leastExcess_13 : decode cX0_leastExcess 13 = .ok (.invokevirtual 38, 3) := by decide +kernel
theorem dX0_leastExcess_16 : decode cX0_leastExcess 16 = .ok (.istore 4, 2) := by decide +kernel
theorem dX0_leastExcess_18 : decode cX0_leastExcess 18 = .ok (.bipush 100, 2) := by decide +kernel
theorem dX0_leastExcess_20 : decode cX0_leastExcess 20 = .ok (.istore 5, 2) := by decide +kernel
theorem dX0_leastExcess_22 : decode cX0_leastExcess 22 = .ok (.aload_n 0, 1) := by decide +kernel
theorem dX0_leastExcess_23 : decode cX0_leastExcess 23 = .ok (.iload_n 2, 1) := by decide +kernel
theorem dX0_leastExcess_24 : decode cX0_leastExcess 24 = .ok (.invokevirtual 27, 3) := by decide +kernel
theorem dX0_leastExcess_27 : decode cX0_leastExcess 27 = .ok (.istore 6, 2) := by decide +kernel
theorem dX0_leastExcess_29 : decode cX0_leastExcess 29 = .ok (.iload 6, 2) := by decide +kernel
theorem dX0_leastExcess_31 : decode cX0_leastExcess 31 = .ok (.iload_n 3, 1) := by decide +kernel
theorem dX0_leastExcess_32 : decode cX0_leastExcess 32 = .ok (.if_icmp .ge 38, 3) := by decide +kernel
theorem dX0_leastExcess_35 : decode cX0_leastExcess 35 = .ok (.iload 4, 2) := by decide +kernel
theorem dX0_leastExcess_37 : decode cX0_leastExcess 37 = .ok (.aload_n 1, 1) := by decide +kernel
theorem dX0_leastExcess_38 : decode cX0_leastExcess 38 = .ok (.iload 4, 2) := by decide +kernel
theorem dX0_leastExcess_40 : decode cX0_leastExcess 40 = .ok (.iload 6, 2) := by decide +kernel
theorem dX0_leastExcess_42 : decode cX0_leastExcess 42 = .ok (.invokevirtual 41, 3) := by decide +kernel
theorem dX0_leastExcess_45 : decode cX0_leastExcess 45 = .ok (.iadd, 1) := by decide +kernel
theorem dX0_leastExcess_46 : decode cX0_leastExcess 46 = .ok (.istore 4, 2) := by decide +kernel
theorem dX0_leastExcess_48 : decode cX0_leastExcess 48 = .ok (.iload 5, 2) := by decide +kernel
theorem dX0_leastExcess_50 : decode cX0_leastExcess 50 = .ok (.iconst 2, 1) := by decide +kernel
theorem dX0_leastExcess_51 : decode cX0_leastExcess 51 = .ok (.iload 4, 2) := by decide +kernel
theorem dX0_leastExcess_53 : decode cX0_leastExcess 53 = .ok (.imul, 1) := by decide +kernel
theorem dX0_leastExcess_54 : decode cX0_leastExcess 54 = .ok (.iload 6, 2) := by decide +kernel
theorem dX0_leastExcess_56 : decode cX0_leastExcess 56 = .ok (.isub, 1) := by decide +kernel
theorem dX0_leastExcess_57 : decode cX0_leastExcess 57 = .ok (.iconst 1, 1) := by decide +kernel
theorem dX0_leastExcess_58 : decode cX0_leastExcess 58 = .ok (.isub, 1) := by decide +kernel
theorem dX0_leastExcess_59 : decode cX0_leastExcess 59 = .ok (.invokestatic 31, 3) := by decide +kernel
theorem dX0_leastExcess_62 : decode cX0_leastExcess 62 = .ok (.istore 5, 2) := by decide +kernel
theorem dX0_leastExcess_64 : decode cX0_leastExcess 64 = .ok (.iinc 6 1, 3) := by decide +kernel
theorem dX0_leastExcess_67 : decode cX0_leastExcess 67 = .ok (.goto (-38), 3) := by decide +kernel
theorem dX0_leastExcess_70 : decode cX0_leastExcess 70 = .ok (.iload 5, 2) := by decide +kernel
theorem dX0_leastExcess_72 : decode cX0_leastExcess 72 = .ok (.ireturn, 1) := by decide +kernel
set_option maxRecDepth 20000 in
theorem ggX0_greatestExcess_X0_endOf : GoodIn wsX0_greatestExcess wsX0_endOf := goodIn_r _ [9, 10, 11, 12, 3, 13, 14, 15, 16, 8, 17, 18, 19, 20, 21, 22, 23, 48, 49, 50, 51, 52, 53] (by decide +kernel) (by decide +kernel)
set_option maxRecDepth 20000 in
theorem gX0_greatestExcess_X0_endOf : GoodIn wsX0_greatestExcess (wsV RX0 34 RX0 yX0_endOf wsX0_endOf) := goodIn_app (goodIn_of _ (by decide +kernel)) ggX0_greatestExcess_X0_endOf
set_option maxRecDepth 20000 in
theorem ggX0_greatestExcess_X0_startOf : GoodIn wsX0_greatestExcess wsX0_startOf := goodIn_r _ [17, 10, 48] (by decide +kernel) (by decide +kernel)
set_option maxRecDepth 20000 in
theorem gX0_greatestExcess_X0_startOf : GoodIn wsX0_greatestExcess (wsV RX0 27 RX0 yX0_startOf wsX0_startOf) := goodIn_app (goodIn_of _ (by decide +kernel)) ggX0_greatestExcess_X0_startOf
set_option maxRecDepth 20000 in
theorem ggX0_greatestExcess_X3_openedBefore : GoodIn wsX0_greatestExcess wsX3_openedBefore := goodIn_r _ [27, 23, 28, 29, 30, 21, 31, 32, 33, 34, 35, 36, 37, 38, 39, 40, 41, 42, 43, 49, 50, 51, 52, 53] (by decide +kernel) (by decide +kernel)
set_option maxRecDepth 20000 in
theorem gX0_greatestExcess_X3_openedBefore : GoodIn wsX0_greatestExcess (wsV RX0 38 RX3 yX3_openedBefore wsX3_openedBefore) := goodIn_app (goodIn_of _ (by decide +kernel)) ggX0_greatestExcess_X3_openedBefore
set_option maxRecDepth 20000 in
theorem ggX0_greatestExcess_X3_opensAt : GoodIn wsX0_greatestExcess wsX3_opensAt := goodIn_r _ [47, 37, 38, 39, 21, 40, 23, 28, 29, 30, 31, 32, 33, 34, 35, 36, 41, 42, 43, 49, 50, 51, 52, 53] (by decide +kernel) (by decide +kernel)
set_option maxRecDepth 20000 in
theorem gX0_greatestExcess_X3_opensAt : GoodIn wsX0_greatestExcess (wsV RX0 41 RX3 yX3_opensAt wsX3_opensAt) := goodIn_app (goodIn_of _ (by decide +kernel)) ggX0_greatestExcess_X3_opensAt
theorem dX0_greatestExcess_0 : decode cX0_greatestExcess 0 = .ok (.aload_n 0, 1) := by decide +kernel
theorem dX0_greatestExcess_1 : decode cX0_greatestExcess 1 = .ok (.aload_n 1, 1) := by decide +kernel
theorem dX0_greatestExcess_2 : decode cX0_greatestExcess 2 = .ok (.iload_n 2, 1) := by decide +kernel
theorem dX0_greatestExcess_3 : decode cX0_greatestExcess 3 = .ok (.invokevirtual 34, 3) := by decide +kernel
theorem dX0_greatestExcess_6 : decode cX0_greatestExcess 6 = .ok (.istore_n 3, 1) := by decide +kernel
theorem dX0_greatestExcess_7 : decode cX0_greatestExcess 7 = .ok (.aload_n 1, 1) := by decide +kernel
theorem dX0_greatestExcess_8 : decode cX0_greatestExcess 8 = .ok (.aload_n 0, 1) := by decide +kernel
theorem dX0_greatestExcess_9 : decode cX0_greatestExcess 9 = .ok (.iload_n 2, 1) := by decide +kernel
theorem dX0_greatestExcess_10 : decode cX0_greatestExcess 10 = .ok (.invokevirtual 27, 3) := by decide +kernel
theorem dX0_greatestExcess_13 : decode cX0_greatestExcess 13 = .ok (.invokevirtual 38, 3) := by decide +kernel
theorem dX0_greatestExcess_16 : decode cX0_greatestExcess 16 = .ok (.istore 4, 2) := by decide +kernel
theorem dX0_greatestExcess_18 : decode cX0_greatestExcess 18 = .ok (.iconst 0, 1) := by decide +kernel
theorem dX0_greatestExcess_19 : decode cX0_greatestExcess 19 = .ok (.istore 5, 2) := by decide +kernel
theorem dX0_greatestExcess_21 : decode cX0_greatestExcess 21 = .ok (.aload_n 0, 1) := by decide +kernel
theorem dX0_greatestExcess_22 : decode cX0_greatestExcess 22 = .ok (.iload_n 2, 1) := by decide +kernel
theorem dX0_greatestExcess_23 : decode cX0_greatestExcess 23 = .ok (.invokevirtual 27, 3) := by decide +kernel
theorem dX0_greatestExcess_26 : decode cX0_greatestExcess 26 = .ok (.istore 6, 2) := by decide +kernel
theorem dX0_greatestExcess_28 : decode cX0_greatestExcess 28 = .ok (.iload 6, 2) := by decide +kernel
theorem dX0_greatestExcess_30 : decode cX0_greatestExcess 30 = .ok (.iload_n 3, 1) := by decide +kernel
theorem dX0_greatestExcess_31 : decode cX0_greatestExcess 31 = .ok (.if_icmp .ge 38, 3) := by decide +kernel
theorem dX0_greatestExcess_34 : decode cX0_greatestExcess 34 = .ok (.iload 4, 2) := by decide +kernel
theorem dX0_greatestExcess_36 : decode cX0_greatestExcess 36 = .ok (.aload_n 1, 1) := by decide +kernel
theorem dX0_greatestExcess_37 : decode cX0_greatestExcess 37 = .ok (.iload 4, 2) := by decide +kernel
theorem dX0_greatestExcess_39 : decode cX0_greatestExcess 39 = .ok (.iload 6, 2) := by decide +kernel
theorem dX0_greatestExcess_41 : decode cX0_greatestExcess 41 = .ok (.invokevirtual 41, 3) := by decide +kernel
theorem dX0_greatestExcess_44 : decode cX0_greatestExcess 44 = .ok (.iadd, 1) := by decide +kernel
theorem dX0_greatestExcess_45 : decode cX0_greatestExcess 45 = .ok (.istore 4, 2) := by decide +kernel
theorem dX0_greatestExcess_47 : decode cX0_greatestExcess 47 = .ok (.iload 5, 2) := by decide +kernel
theorem dX0_greatestExcess_49 : decode cX0_greatestExcess 49 = .ok (.iconst 2, 1) := by decide +kernel
theorem dX0_greatestExcess_50 : decode cX0_greatestExcess 50 = .ok (.iload 4, 2) := by decide +kernel
theorem dX0_greatestExcess_52 : decode cX0_greatestExcess 52 = .ok (.imul, 1) := by decide +kernel
theorem dX0_greatestExcess_53 : decode cX0_greatestExcess 53 = .ok (.iload 6, 2) := by decide +kernel
theorem dX0_greatestExcess_55 : decode cX0_greatestExcess 55 = .ok (.isub, 1) := by decide +kernel
theorem dX0_greatestExcess_56 : decode cX0_greatestExcess 56 = .ok (.iconst 1, 1) := by decide +kernel
theorem dX0_greatestExcess_57 : decode cX0_greatestExcess 57 = .ok (.isub, 1) := by decide +kernel
theorem dX0_greatestExcess_58 : decode cX0_greatestExcess 58 = .ok (.invokestatic 15, 3) := by decide +kernel
theorem dX0_greatestExcess_61 : decode cX0_greatestExcess 61 = .ok (.istore 5, 2) := by decide +kernel
theorem dX0_greatestExcess_63 : decode cX0_greatestExcess 63 = .ok (.iinc 6 1, 3) := by decide +kernel
theorem dX0_greatestExcess_66 : decode cX0_greatestExcess 66 = .ok (.goto (-38), 3) := by decide +kernel
theorem dX0_greatestExcess_69 : decode cX0_greatestExcess 69 = .ok (.iload 5, 2) := by decide +kernel
theorem dX0_greatestExcess_71 : decode cX0_greatestExcess 71 = .ok (.ireturn, 1) := by decide +kernel
theorem dX1_init_0 : decode cX1_init 0 = .ok (.aload_n 0, 1) := by decide +kernel
theorem dX1_init_1 : decode cX1_init 1 = .ok (.invokespecial 3, 3) := by decide +kernel
theorem dX1_init_4 : decode cX1_init 4 = .ok (.aload_n 0, 1) := by decide +kernel
theorem dX1_init_5 : decode cX1_init 5 = .ok (.bipush 15, 2) := by decide +kernel
theorem dX1_init_7 : decode cX1_init 7 = .ok (.newarray .int, 2) := by decide +kernel
theorem dX1_init_9 : decode cX1_init 9 = .ok (.putfield 9, 3) := by decide +kernel
theorem dX1_init_12 : decode cX1_init 12 = .ok (.aload_n 0, 1) := by decide +kernel
theorem dX1_init_13 : decode cX1_init 13 = .ok (.sipush 1500, 3) := by decide +kernel
theorem dX1_init_16 : decode cX1_init 16 = .ok (.newarray .int, 2) := by decide +kernel
theorem dX1_init_18 : decode cX1_init 18 = .ok (.putfield 15, 3) := by decide +kernel
theorem dX1_init_21 : decode cX1_init 21 = .ok (.aload_n 0, 1) := by decide +kernel
theorem dX1_init_22 : decode cX1_init 22 = .ok (.sipush 1500, 3) := by decide +kernel
theorem dX1_init_25 : decode cX1_init 25 = .ok (.newarray .int, 2) := by decide +kernel
theorem dX1_init_27 : decode cX1_init 27 = .ok (.putfield 18, 3) := by decide +kernel
theorem dX1_init_30 : decode cX1_init 30 = .ok (.return_, 1) := by decide +kernel
theorem dX1_isBlank_0 : decode cX1_isBlank 0 = .ok (.aload_n 0, 1) := by decide +kernel
theorem dX1_isBlank_1 : decode cX1_isBlank 1 = .ok (.getfield 21, 3) := by decide +kernel
theorem dX1_isBlank_4 : decode cX1_isBlank 4 = .ok (.ifCond .ne 7, 3) := by decide +kernel
theorem dX1_isBlank_7 : decode cX1_isBlank 7 = .ok (.iconst 1, 1) := by decide +kernel
theorem dX1_isBlank_8 : decode cX1_isBlank 8 = .ok (.goto 4, 3) := by decide +kernel
theorem dX1_isBlank_11 : decode cX1_isBlank 11 = .ok (.iconst 0, 1) := by decide +kernel
theorem dX1_isBlank_12 : decode cX1_isBlank 12 = .ok (.ireturn, 1) := by decide +kernel
set_option maxRecDepth 20000 in
theorem ggX1_record_X3_count : GoodIn wsX1_record wsX3_count := goodIn_r _ [14, 15, 40, 41, 42, 43, 44] (by decide +kernel) (by decide +kernel)
set_option maxRecDepth 20000 in
theorem gX1_record_X3_count : GoodIn wsX1_record (wsV RX1 28 RX3 yX3_count wsX3_count) := goodIn_app (goodIn_of _ (by decide +kernel)) ggX1_record_X3_count
set_option maxRecDepth 20000 in
theorem ggX1_record_X4_put : GoodIn wsX1_record wsX4_put := goodIn_r _ [18] (by decide +kernel) (by decide +kernel)
set_option maxRecDepth 20000 in
theorem gX1_record_X4_put_n34 : GoodIn wsX1_record (wsX4_put) := ggX1_record_X4_put
set_option maxRecDepth 20000 in
theorem ggX1_record_X3_depthOf : GoodIn wsX1_record wsX3_depthOf := goodIn_r _ [22, 23, 24, 25, 26, 13, 27, 15, 28, 17, 29, 40, 41, 42, 43, 44] (by decide +kernel) (by decide +kernel)
set_option maxRecDepth 20000 in
theorem gX1_record_X3_depthOf : GoodIn wsX1_record (wsV RX1 38 RX3 yX3_depthOf wsX3_depthOf) := goodIn_app (goodIn_of _ (by decide +kernel)) ggX1_record_X3_depthOf
set_option maxRecDepth 20000 in
theorem ggX1_record_X3_labelOf : GoodIn wsX1_record wsX3_labelOf := goodIn_r _ [33, 34, 28, 17, 29, 40, 41, 42, 43, 44] (by decide +kernel) (by decide +kernel)
set_option maxRecDepth 20000 in
theorem gX1_record_X3_labelOf : GoodIn wsX1_record (wsV RX1 42 RX3 yX3_labelOf wsX3_labelOf) := goodIn_app (goodIn_of _ (by decide +kernel)) ggX1_record_X3_labelOf
theorem dX1_record_0 : decode cX1_record 0 = .ok (.aload_n 0, 1) := by decide +kernel
theorem dX1_record_1 : decode cX1_record 1 = .ok (.getfield 25, 3) := by decide +kernel
theorem dX1_record_4 : decode cX1_record 4 = .ok (.bipush 100, 2) := by decide +kernel
theorem dX1_record_6 : decode cX1_record 6 = .ok (.imul, 1) := by decide +kernel
theorem dX1_record_7 : decode cX1_record 7 = .ok (.istore_n 2, 1) := by decide +kernel
theorem dX1_record_8 : decode cX1_record 8 = .ok (.aload_n 0, 1) := by decide +kernel
theorem dX1_record_9 : decode cX1_record 9 = .ok (.getfield 9, 3) := by decide +kernel
theorem dX1_record_12 : decode cX1_record 12 = .ok (.aload_n 0, 1) := by decide +kernel
theorem dX1_record_13 : decode cX1_record 13 = .ok (.getfield 25, 3) := by decide +kernel
theorem dX1_record_16 : decode cX1_record 16 = .ok (.aload_n 1, 1) := by decide +kernel
theorem dX1_record_17 : decode cX1_record 17 = .ok (.invokevirtual 28, 3) := by decide +kernel
theorem dX1_record_20 : decode cX1_record 20 = .ok (.invokestatic 34, 3) := by decide +kernel
theorem dX1_record_23 : decode cX1_record 23 = .ok (.iconst 0, 1) := by decide +kernel
theorem dX1_record_24 : decode cX1_record 24 = .ok (.istore_n 3, 1) := by decide +kernel
theorem dX1_record_25 : decode cX1_record 25 = .ok (.iload_n 3, 1) := by decide +kernel
theorem dX1_record_26 : decode cX1_record 26 = .ok (.aload_n 1, 1) := by decide +kernel
theorem dX1_record_27 : decode cX1_record 27 = .ok (.invokevirtual 28, 3) := by decide +kernel
theorem dX1_record_30 : decode cX1_record 30 = .ok (.if_icmp .ge 39, 3) := by decide +kernel
theorem dX1_record_33 : decode cX1_record 33 = .ok (.aload_n 0, 1) := by decide +kernel
theorem dX1_record_34 : decode cX1_record 34 = .ok (.getfield 15, 3) := by decide +kernel
theorem dX1_record_37 : decode cX1_record 37 = .ok (.iload_n 2, 1) := by decide +kernel
theorem dX1_record_38 : decode cX1_record 38 = .ok (.iload_n 3, 1) := by decide +kernel
theorem dX1_record_39 : decode cX1_record 39 = .ok (.iadd, 1) := by decide +kernel
theorem dX1_record_40 : decode cX1_record 40 = .ok (.aload_n 1, 1) := by decide +kernel
theorem dX1_record_41 : decode cX1_record 41 = .ok (.iload_n 3, 1) := by decide +kernel
theorem dX1_record_42 : decode cX1_record 42 = .ok (.invokevirtual 38, 3) := by decide +kernel
theorem dX1_record_45 : decode cX1_record 45 = .ok (.invokestatic 34, 3) := by decide +kernel
theorem dX1_record_48 : decode cX1_record 48 = .ok (.aload_n 0, 1) := by decide +kernel
theorem dX1_record_49 : decode cX1_record 49 = .ok (.getfield 18, 3) := by decide +kernel
theorem dX1_record_52 : decode cX1_record 52 = .ok (.iload_n 2, 1) := by decide +kernel
theorem dX1_record_53 : decode cX1_record 53 = .ok (.iload_n 3, 1) := by decide +kernel
theorem dX1_record_54 : decode cX1_record 54 = .ok (.iadd, 1) := by decide +kernel
theorem dX1_record_55 : decode cX1_record 55 = .ok (.aload_n 1, 1) := by decide +kernel
theorem dX1_record_56 : decode cX1_record 56 = .ok (.iload_n 3, 1) := by decide +kernel
theorem dX1_record_57 : decode cX1_record 57 = .ok (.invokevirtual 42, 3) := by decide +kernel
theorem dX1_record_60 : decode cX1_record 60 = .ok (.invokestatic 34, 3) := by decide +kernel
theorem dX1_record_63 : decode cX1_record 63 = .ok (.iinc 3 1, 3) := by decide +kernel
theorem dX1_record_66 : decode cX1_record 66 = .ok (.goto (-41), 3) := by decide +kernel
theorem dX1_record_69 : decode cX1_record 69 = .ok (.aload_n 0, 1) := by decide +kernel
theorem dX1_record_70 : decode cX1_record 70 = .ok (.aload_n 0, 1) := by decide +kernel
theorem dX1_record_71 : decode cX1_record 71 = .ok (.getfield 25, 3) := by decide +kernel
theorem dX1_record_74 : decode cX1_record 74 = .ok (.iconst 1, 1) := by decide +kernel
theorem dX1_record_75 : decode cX1_record 75 = .ok (.iadd, 1) := by decide +kernel
theorem dX1_record_76 : decode cX1_record 76 = .ok (.bipush 15, 2) := by decide +kernel
theorem dX1_record_78 : decode cX1_record 78 = .ok (.if_icmp .ge 12, 3) := by decide +kernel
theorem dX1_record_81 : decode cX1_record 81 = .ok (.aload_n 0, 1) := by decide +kernel
theorem dX1_record_82 : decode cX1_record 82 = .ok (.getfield 25, 3) := by decide +kernel
theorem dX1_record_85 : decode cX1_record 85 = .ok (.iconst 1, 1) := by decide +kernel
theorem dX1_record_86 : decode cX1_record 86 = .ok (.iadd, 1) := by decide +kernel
theorem dX1_record_87 : decode cX1_record 87 = .ok (.goto 4, 3) := by decide +kernel
theorem dX1_record_90 : decode cX1_record 90 = .ok (.iconst 0, 1) := by decide +kernel
theorem dX1_record_91 : decode cX1_record 91 = .ok (.putfield 25, 3) := by decide +kernel
theorem dX1_record_94 : decode cX1_record 94 = .ok (.aload_n 0, 1) := by decide +kernel
theorem dX1_record_95 : decode cX1_record 95 = .ok (.aload_n 0, 1) := by decide +kernel
theorem dX1_record_96 : decode cX1_record 96 = .ok (.getfield 21, 3) := by decide +kernel
theorem dX1_record_99 : decode cX1_record 99 = .ok (.iconst 1, 1) := by decide +kernel
theorem dX1_record_100 : decode cX1_record 100 = .ok (.iadd, 1) := by decide +kernel
theorem dX1_record_101 : decode cX1_record 101 = .ok (.bipush 15, 2) := by decide +kernel
theorem dX1_record_103 : decode cX1_record 103 = .ok (.invokestatic 45, 3) := by decide +kernel
theorem dX1_record_106 : decode cX1_record 106 = .ok (.putfield 21, 3) := by decide +kernel
theorem dX1_record_109 : decode cX1_record 109 = .ok (.return_, 1) := by decide +kernel
set_option maxRecDepth 20000 in
theorem ggX1_recall_X4_get : GoodIn wsX1_recall wsX4_get := goodIn_r _ [12] (by decide +kernel) (by decide +kernel)
set_option maxRecDepth 20000 in
theorem gX1_recall_X4_get_n54 : GoodIn wsX1_recall (wsX4_get) := ggX1_recall_X4_get
set_option maxRecDepth 20000 in
theorem ggX1_recall_X3_empty : GoodIn wsX1_recall wsX3_empty := goodIn_r _ [17, 18, 36, 37, 38, 39, 40] (by decide +kernel) (by decide +kernel)
set_option maxRecDepth 20000 in
theorem gX1_recall_X3_empty : GoodIn wsX1_recall (wsV RX1 58 RX3 yX3_empty wsX3_empty) := goodIn_app (goodIn_of _ (by decide +kernel)) ggX1_recall_X3_empty
set_option maxRecDepth 20000 in
theorem ggX1_recall_X3_append : GoodIn wsX1_recall wsX3_append := goodIn_r _ [22, 18, 23, 24, 25, 16, 26, 27, 28, 29, 11, 30, 36, 37, 38, 39, 40] (by decide +kernel) (by decide +kernel)
set_option maxRecDepth 20000 in
theorem gX1_recall_X3_append : GoodIn wsX1_recall (wsV RX1 61 RX3 yX3_append wsX3_append) := goodIn_app (goodIn_of _ (by decide +kernel)) ggX1_recall_X3_append
theorem dX1_recall_0 : decode cX1_recall 0 = .ok (.aload_n 0, 1) := by decide +kernel
theorem dX1_recall_1 : decode cX1_recall 1 = .ok (.aload_n 0, 1) := by decide +kernel
theorem dX1_recall_2 : decode cX1_recall 2 = .ok (.getfield 25, 3) := by decide +kernel
theorem dX1_recall_5 : decode cX1_recall 5 = .ok (.ifCond .le 12, 3) := by decide +kernel
theorem dX1_recall_8 : decode cX1_recall 8 = .ok (.aload_n 0, 1) := by decide +kernel
theorem dX1_recall_9 : decode cX1_recall 9 = .ok (.getfield 25, 3) := by decide +kernel
theorem dX1_recall_12 : decode cX1_recall 12 = .ok (.iconst 1, 1) := by decide +kernel
theorem dX1_recall_13 : decode cX1_recall 13 = .ok (.isub, 1) := by decide +kernel
theorem dX1_recall_14 : decode cX1_recall 14 = .ok (.goto 5, 3) := by decide +kernel
theorem dX1_recall_17 : decode cX1_recall 17 = .ok (.bipush 14, 2) := by decide +kernel
theorem dX1_recall_19 : decode cX1_recall 19 = .ok (.putfield 25, 3) := by decide +kernel
theorem dX1_recall_22 : decode cX1_recall 22 = .ok (.aload_n 0, 1) := by decide +kernel
theorem dX1_recall_23 : decode cX1_recall 23 = .ok (.aload_n 0, 1) := by decide +kernel
theorem dX1_recall_24 : decode cX1_recall 24 = .ok (.getfield 21, 3) := by decide +kernel
theorem dX1_recall_27 : decode cX1_recall 27 = .ok (.iconst 1, 1) := by decide +kernel
theorem dX1_recall_28 : decode cX1_recall 28 = .ok (.isub, 1) := by decide +kernel
theorem dX1_recall_29 : decode cX1_recall 29 = .ok (.iconst 0, 1) := by decide +kernel
theorem dX1_recall_30 : decode cX1_recall 30 = .ok (.invokestatic 51, 3) := by decide +kernel
theorem dX1_recall_33 : decode cX1_recall 33 = .ok (.putfield 21, 3) := by decide +kernel
theorem dX1_recall_36 : decode cX1_recall 36 = .ok (.aload_n 0, 1) := by decide +kernel
theorem dX1_recall_37 : decode cX1_recall 37 = .ok (.getfield 25, 3) := by decide +kernel
theorem dX1_recall_40 : decode cX1_recall 40 = .ok (.bipush 100, 2) := by decide +kernel
theorem dX1_recall_42 : decode cX1_recall 42 = .ok (.imul, 1) := by decide +kernel
theorem dX1_recall_43 : decode cX1_recall 43 = .ok (.istore_n 2, 1) := by decide +kernel
theorem dX1_recall_44 : decode cX1_recall 44 = .ok (.aload_n 0, 1) := by decide +kernel
theorem dX1_recall_45 : decode cX1_recall 45 = .ok (.getfield 9, 3) := by decide +kernel
theorem dX1_recall_48 : decode cX1_recall 48 = .ok (.aload_n 0, 1) := by decide +kernel
theorem dX1_recall_49 : decode cX1_recall 49 = .ok (.getfield 25, 3) := by decide +kernel
theorem dX1_recall_52 : decode cX1_recall 52 = .ok (.invokestatic 54, 3) := by decide +kernel
theorem dX1_recall_55 : decode cX1_recall 55 = .ok (.istore_n 3, 1) := by decide +kernel
theorem dX1_recall_56 : decode cX1_recall 56 = .ok (.aload_n 1, 1) := by decide +kernel
theorem dX1_recall_57 : decode cX1_recall 57 = .ok (.invokevirtual 58, 3) := by decide +kernel
theorem dX1_recall_60 : decode cX1_recall 60 = .ok (.iconst 0, 1) := by decide +kernel
theorem dX1_recall_61 : decode cX1_recall 61 = .ok (.istore 4, 2) := by decide +kernel
theorem dX1_recall_63 : decode cX1_recall 63 = .ok (.iload 4, 2) := by decide +kernel
theorem dX1_recall_65 : decode cX1_recall 65 = .ok (.iload_n 3, 1) := by decide +kernel
theorem dX1_recall_66 : decode cX1_recall 66 = .ok (.if_icmp .ge 35, 3) := by decide +kernel
theorem dX1_recall_69 : decode cX1_recall 69 = .ok (.aload_n 1, 1) := by decide +kernel
theorem dX1_recall_70 : decode cX1_recall 70 = .ok (.aload_n 0, 1) := by decide +kernel
theorem dX1_recall_71 : decode cX1_recall 71 = .ok (.getfield 15, 3) := by decide +kernel
theorem dX1_recall_74 : decode cX1_recall 74 = .ok (.iload_n 2, 1) := by decide +kernel
theorem dX1_recall_75 : decode cX1_recall 75 = .ok (.iload 4, 2) := by decide +kernel
theorem dX1_recall_77 : decode cX1_recall 77 = .ok (.iadd, 1) := by decide +kernel
theorem dX1_recall_78 : decode cX1_recall 78 = .ok (.invokestatic 54, 3) := by decide +kernel
theorem dX1_recall_81 : decode cX1_recall 81 = .ok (.aload_n 0, 1) := by decide +kernel
theorem dX1_recall_82 : decode cX1_recall 82 = .ok (.getfield 18, 3) := by decide +kernel
theorem dX1_recall_85 : decode cX1_recall 85 = .ok (.iload_n 2, 1) := by decide +kernel
theorem dX1_recall_86 : decode cX1_recall 86 = .ok (.iload 4, 2) := by decide +kernel
theorem dX1_recall_88 : decode cX1_recall 88 = .ok (.iadd, 1) := by decide +kernel
theorem dX1_recall_89 : decode cX1_recall 89 = .ok (.invokestatic 54, 3) := by decide +kernel
theorem dX1_recall_92 : decode cX1_recall 92 = .ok (.invokevirtual 61, 3) := by decide +kernel
theorem dX1_recall_95 : decode cX1_recall 95 = .ok (.iinc 4 1, 3) := by decide +kernel
theorem dX1_recall_98 : decode cX1_recall 98 = .ok (.goto (-35), 3) := by decide +kernel
theorem dX1_recall_101 : decode cX1_recall 101 = .ok (.aload_n 0, 1) := by decide +kernel
theorem dX1_recall_102 : decode cX1_recall 102 = .ok (.getfield 21, 3) := by decide +kernel
theorem dX1_recall_105 : decode cX1_recall 105 = .ok (.ireturn, 1) := by decide +kernel
theorem dX2_init_0 : decode cX2_init 0 = .ok (.aload_n 0, 1) := by decide +kernel
theorem dX2_init_1 : decode cX2_init 1 = .ok (.invokespecial 3, 3) := by decide +kernel
theorem dX2_init_4 : decode cX2_init 4 = .ok (.aload_n 0, 1) := by decide +kernel
theorem dX2_init_5 : decode cX2_init 5 = .ok (.sipush 300, 3) := by decide +kernel
theorem dX2_init_8 : decode cX2_init 8 = .ok (.newarray .int, 2) := by decide +kernel
theorem dX2_init_10 : decode cX2_init 10 = .ok (.putfield 9, 3) := by decide +kernel
theorem dX2_init_13 : decode cX2_init 13 = .ok (.return_, 1) := by decide +kernel
set_option maxRecDepth 20000 in
theorem ggX2_append_X4_put : GoodIn wsX2_append wsX4_put := goodIn_r _ [5] (by decide +kernel) (by decide +kernel)
set_option maxRecDepth 20000 in
theorem gX2_append_X4_put_n19 : GoodIn wsX2_append (wsX4_put) := ggX2_append_X4_put
theorem dX2_append_0 : decode cX2_append 0 = .ok (.aload_n 0, 1) := by decide +kernel
theorem dX2_append_1 : decode cX2_append 1 = .ok (.getfield 15, 3) := by decide +kernel
theorem dX2_append_4 : decode cX2_append 4 = .ok (.sipush 300, 3) := by decide +kernel
theorem dX2_append_7 : decode cX2_append 7 = .ok (.if_icmp .lt 6, 3) := by decide +kernel
theorem dX2_append_10 : decode cX2_append 10 = .ok (.bipush (-4), 2) := by decide +kernel
theorem dX2_append_12 : decode cX2_append 12 = .ok (.ireturn, 1) := by decide +kernel
theorem dX2_append_13 : decode cX2_append 13 = .ok (.aload_n 0, 1) := by decide +kernel
theorem dX2_append_14 : decode cX2_append 14 = .ok (.getfield 9, 3) := by decide +kernel
theorem dX2_append_17 : decode cX2_append 17 = .ok (.aload_n 0, 1) := by decide +kernel
theorem dX2_append_18 : decode cX2_append 18 = .ok (.getfield 15, 3) := by decide +kernel
theorem dX2_append_21 : decode cX2_append 21 = .ok (.iload_n 1, 1) := by decide +kernel
theorem dX2_append_22 : decode cX2_append 22 = .ok (.invokestatic 19, 3) := by decide +kernel
theorem dX2_append_25 : decode cX2_append 25 = .ok (.aload_n 0, 1) := by decide +kernel
theorem dX2_append_26 : decode cX2_append 26 = .ok (.dup, 1) := by decide +kernel
theorem dX2_append_27 : decode cX2_append 27 = .ok (.getfield 15, 3) := by decide +kernel
theorem dX2_append_30 : decode cX2_append 30 = .ok (.iconst 1, 1) := by decide +kernel
theorem dX2_append_31 : decode cX2_append 31 = .ok (.iadd, 1) := by decide +kernel
theorem dX2_append_32 : decode cX2_append 32 = .ok (.putfield 15, 3) := by decide +kernel
theorem dX2_append_35 : decode cX2_append 35 = .ok (.aload_n 0, 1) := by decide +kernel
theorem dX2_append_36 : decode cX2_append 36 = .ok (.getfield 15, 3) := by decide +kernel
theorem dX2_append_39 : decode cX2_append 39 = .ok (.ireturn, 1) := by decide +kernel
theorem dX2_empty_0 : decode cX2_empty 0 = .ok (.aload_n 0, 1) := by decide +kernel
theorem dX2_empty_1 : decode cX2_empty 1 = .ok (.getfield 15, 3) := by decide +kernel
theorem dX2_empty_4 : decode cX2_empty 4 = .ok (.istore_n 1, 1) := by decide +kernel
theorem dX2_empty_5 : decode cX2_empty 5 = .ok (.aload_n 0, 1) := by decide +kernel
theorem dX2_empty_6 : decode cX2_empty 6 = .ok (.iconst 0, 1) := by decide +kernel
theorem dX2_empty_7 : decode cX2_empty 7 = .ok (.putfield 15, 3) := by decide +kernel
theorem dX2_empty_10 : decode cX2_empty 10 = .ok (.iload_n 1, 1) := by decide +kernel
theorem dX2_empty_11 : decode cX2_empty 11 = .ok (.ireturn, 1) := by decide +kernel
set_option maxRecDepth 20000 in
theorem ggX2_findFault_X2_isAllowed : GoodIn wsX2_findFault wsX2_isAllowed := goodIn_r _ [7, 2, 8, 9, 10, 11, 12, 17, 18] (by decide +kernel) (by decide +kernel)
set_option maxRecDepth 20000 in
theorem gX2_findFault_X2_isAllowed : GoodIn wsX2_findFault (wsV RX2 23 RX2 yX2_isAllowed wsX2_isAllowed) := goodIn_app (goodIn_of _ (by decide +kernel)) ggX2_findFault_X2_isAllowed
set_option maxRecDepth 20000 in
theorem ggX2_findFault_X2_deeper : GoodIn wsX2_findFault wsX2_deeper := goodIn_r _ [16, 2, 8, 9, 10, 17, 18] (by decide +kernel) (by decide +kernel)
set_option maxRecDepth 20000 in
theorem gX2_findFault_X2_deeper : GoodIn wsX2_findFault (wsV RX2 27 RX2 yX2_deeper wsX2_deeper) := goodIn_app (goodIn_of _ (by decide +kernel)) ggX2_findFault_X2_deeper
set_option maxRecDepth 20000 in
theorem ggX2_findFault_X4_get : GoodIn wsX2_findFault wsX4_get := goodIn_r _ [10] (by decide +kernel) (by decide +kernel)
set_option maxRecDepth 20000 in
theorem gX2_findFault_X4_get_n31 : GoodIn wsX2_findFault (wsX4_get) := ggX2_findFault_X4_get
set_option maxRecDepth 20000 in
theorem ggX2_findFault_X4_isLetter : GoodIn wsX2_findFault wsX4_isLetter := goodIn_r _ [12] (by decide +kernel) (by decide +kernel)
set_option maxRecDepth 20000 in
theorem gX2_findFault_X4_isLetter_n35 : GoodIn wsX2_findFault (wsX4_isLetter) := ggX2_findFault_X4_isLetter
theorem dX2_findFault_0 : decode cX2_findFault 0 = .ok (.iconst 0, 1) := by decide +kernel
theorem dX2_findFault_1 : decode cX2_findFault 1 = .ok (.istore_n 1, 1) := by decide +kernel
theorem dX2_findFault_2 : decode cX2_findFault 2 = .ok (.iconst 0, 1) := by decide +kernel
theorem dX2_findFault_3 : decode cX2_findFault 3 = .ok (.istore_n 2, 1) := by decide +kernel
theorem dX2_findFault_4 : decode cX2_findFault 4 = .ok (.iconst 0, 1) := by decide +kernel
theorem dX2_findFault_5 : decode cX2_findFault 5 = .ok (.istore_n 3, 1) := by decide +kernel
theorem dX2_findFault_6 : decode cX2_findFault 6 = .ok (.iload_n 3, 1) := by decide +kernel
theorem dX2_findFault_7 : decode cX2_findFault 7 = .ok (.aload_n 0, 1) := by decide +kernel
theorem dX2_findFault_8 : decode cX2_findFault 8 = .ok (.getfield 15, 3) := by decide +kernel
theorem dX2_findFault_11 : decode cX2_findFault 11 = .ok (.if_icmp .ge 51, 3) := by decide +kernel
theorem dX2_findFault_14 : decode cX2_findFault 14 = .ok (.aload_n 0, 1) := by decide +kernel
theorem dX2_findFault_15 : decode cX2_findFault 15 = .ok (.iload_n 3, 1) := by decide +kernel
theorem dX2_findFault_16 : decode cX2_findFault 16 = .ok (.iload_n 1, 1) := by decide +kernel
theorem dX2_findFault_17 : decode cX2_findFault 17 = .ok (.iload_n 2, 1) := by decide +kernel
theorem dX2_findFault_18 : decode cX2_findFault 18 = .ok (.invokevirtual 23, 3) := by decide +kernel
theorem dX2_findFault_21 : decode cX2_findFault 21 = .ok (.ifCond .ne 5, 3) := by decide +kernel
theorem dX2_findFault_24 : decode cX2_findFault 24 = .ok (.iload_n 3, 1) := by decide +kernel
theorem dX2_findFault_25 : decode cX2_findFault 25 = .ok (.ireturn, 1) := by decide +kernel
theorem dX2_findFault_26 : decode cX2_findFault 26 = .ok (.iload_n 1, 1) := by decide +kernel
theorem dX2_findFault_27 : decode cX2_findFault 27 = .ok (.aload_n 0, 1) := by decide +kernel
theorem dX2_findFault_28 : decode cX2_findFault 28 = .ok (.iload_n 3, 1) := by decide +kernel
theorem dX2_findFault_29 : decode cX2_findFault 29 = .ok (.invokevirtual 27, 3) := by decide +kernel
theorem dX2_findFault_32 : decode cX2_findFault 32 = .ok (.iadd, 1) := by decide +kernel
theorem dX2_findFault_33 : decode cX2_findFault 33 = .ok (.istore_n 1, 1) := by decide +kernel
theorem dX2_findFault_34 : decode cX2_findFault 34 = .ok (.iload_n 2, 1) := by decide +kernel
theorem dX2_findFault_35 : decode cX2_findFault 35 = .ok (.aload_n 0, 1) := by decide +kernel
theorem dX2_findFault_36 : decode cX2_findFault 36 = .ok (.getfield 9, 3) := by decide +kernel
theorem dX2_findFault_39 : decode cX2_findFault 39 = .ok (.iload_n 3, 1) := by decide +kernel
theorem dX2_findFault_40 : decode cX2_findFault 40 = .ok (.invokestatic 31, 3) := by decide +kernel
theorem dX2_findFault_43 : decode cX2_findFault 43 = .ok (.invokestatic 35, 3) := by decide +kernel
theorem dX2_findFault_46 : decode cX2_findFault 46 = .ok (.ifCond .eq 7, 3) := by decide +kernel
theorem dX2_findFault_49 : decode cX2_findFault 49 = .ok (.iconst 1, 1) := by decide +kernel
theorem dX2_findFault_50 : decode cX2_findFault 50 = .ok (.goto 4, 3) := by decide +kernel
theorem dX2_findFault_53 : decode cX2_findFault 53 = .ok (.iconst 0, 1) := by decide +kernel
theorem dX2_findFault_54 : decode cX2_findFault 54 = .ok (.iadd, 1) := by decide +kernel
theorem dX2_findFault_55 : decode cX2_findFault 55 = .ok (.istore_n 2, 1) := by decide +kernel
theorem dX2_findFault_56 : decode cX2_findFault 56 = .ok (.iinc 3 1, 3) := by decide +kernel
theorem dX2_findFault_59 : decode cX2_findFault 59 = .ok (.goto (-53), 3) := by decide +kernel
theorem dX2_findFault_62 : decode cX2_findFault 62 = .ok (.aload_n 0, 1) := by decide +kernel
theorem dX2_findFault_63 : decode cX2_findFault 63 = .ok (.getfield 15, 3) := by decide +kernel
theorem dX2_findFault_66 : decode cX2_findFault 66 = .ok (.ifCond .le 11, 3) := by decide +kernel
theorem dX2_findFault_69 : decode cX2_findFault 69 = .ok (.iload_n 1, 1) := by decide +kernel
theorem dX2_findFault_70 : decode cX2_findFault 70 = .ok (.ifCond .ne 7, 3) := by decide +kernel
theorem dX2_findFault_73 : decode cX2_findFault 73 = .ok (.iconst (-1), 1) := by decide +kernel
theorem dX2_findFault_74 : decode cX2_findFault 74 = .ok (.goto 7, 3) := by decide +kernel
theorem dX2_findFault_77 : decode cX2_findFault 77 = .ok (.aload_n 0, 1) := by decide +kernel
theorem dX2_findFault_78 : decode cX2_findFault 78 = .ok (.getfield 15, 3) := by decide +kernel
theorem dX2_findFault_81 : decode cX2_findFault 81 = .ok (.ireturn, 1) := by decide +kernel
set_option maxRecDepth 20000 in
theorem ggX2_isAllowed_X4_get : GoodIn wsX2_isAllowed wsX4_get := goodIn_r _ [4] (by decide +kernel) (by decide +kernel)
set_option maxRecDepth 20000 in
theorem gX2_isAllowed_X4_get_n31 : GoodIn wsX2_isAllowed (wsX4_get) := ggX2_isAllowed_X4_get
set_option maxRecDepth 20000 in
theorem ggX2_isAllowed_X4_isLetter : GoodIn wsX2_isAllowed wsX4_isLetter := goodIn_r _ [6] (by decide +kernel) (by decide +kernel)
set_option maxRecDepth 20000 in
theorem gX2_isAllowed_X4_isLetter_n35 : GoodIn wsX2_isAllowed (wsX4_isLetter) := ggX2_isAllowed_X4_isLetter
theorem dX2_isAllowed_0 : decode cX2_isAllowed 0 = .ok (.aload_n 0, 1) := by decide +kernel
theorem dX2_isAllowed_1 : decode cX2_isAllowed 1 = .ok (.getfield 9, 3) := by decide +kernel
theorem dX2_isAllowed_4 : decode cX2_isAllowed 4 = .ok (.iload_n 1, 1) := by decide +kernel
theorem dX2_isAllowed_5 : decode cX2_isAllowed 5 = .ok (.invokestatic 31, 3) := by decide +kernel
theorem dX2_isAllowed_8 : decode cX2_isAllowed 8 = .ok (.istore 4, 2) := by decide +kernel
theorem dX2_isAllowed_10 : decode cX2_isAllowed 10 = .ok (.iload_n 1, 1) := by decide +kernel
theorem dX2_isAllowed_11 : decode cX2_isAllowed 11 = .ok (.ifCond .le 16, 3) := by decide +kernel
theorem dX2_isAllowed_14 : decode cX2_isAllowed 14 = .ok (.aload_n 0, 1) := by decide +kernel
theorem dX2_isAllowed_15 : decode cX2_isAllowed 15 = .ok (.getfield 9, 3) := by decide +kernel
theorem dX2_isAllowed_18 : decode cX2_isAllowed 18 = .ok (.iload_n 1, 1) := by decide +kernel
theorem dX2_isAllowed_19 : decode cX2_isAllowed 19 = .ok (.iconst 1, 1) := by decide +kernel
theorem dX2_isAllowed_20 : decode cX2_isAllowed 20 = .ok (.isub, 1) := by decide +kernel
theorem dX2_isAllowed_21 : decode cX2_isAllowed 21 = .ok (.invokestatic 31, 3) := by decide +kernel
theorem dX2_isAllowed_24 : decode cX2_isAllowed 24 = .ok (.goto 4, 3) := by decide +kernel
theorem dX2_isAllowed_27 : decode cX2_isAllowed 27 = .ok (.iconst 0, 1) := by decide +kernel
theorem dX2_isAllowed_28 : decode cX2_isAllowed 28 = .ok (.istore 5, 2) := by decide +kernel
theorem dX2_isAllowed_30 : decode cX2_isAllowed 30 = .ok (.iload 4, 2) := by decide +kernel
theorem dX2_isAllowed_32 : decode cX2_isAllowed 32 = .ok (.bipush 40, 2) := by decide +kernel
theorem dX2_isAllowed_34 : decode cX2_isAllowed 34 = .ok (.if_icmp .ne 9, 3) := by decide +kernel
theorem dX2_isAllowed_37 : decode cX2_isAllowed 37 = .ok (.iload 5, 2) := by decide +kernel
theorem dX2_isAllowed_39 : decode cX2_isAllowed 39 = .ok (.invokestatic 35, 3) := by decide +kernel
theorem dX2_isAllowed_42 : decode cX2_isAllowed 42 = .ok (.ireturn, 1) := by decide +kernel
theorem dX2_isAllowed_43 : decode cX2_isAllowed 43 = .ok (.iload 4, 2) := by decide +kernel
theorem dX2_isAllowed_45 : decode cX2_isAllowed 45 = .ok (.bipush 41, 2) := by decide +kernel
theorem dX2_isAllowed_47 : decode cX2_isAllowed 47 = .ok (.if_icmp .ne 20, 3) := by decide +kernel
theorem dX2_isAllowed_50 : decode cX2_isAllowed 50 = .ok (.iload_n 2, 1) := by decide +kernel
theorem dX2_isAllowed_51 : decode cX2_isAllowed 51 = .ok (.ifCond .le 14, 3) := by decide +kernel
theorem dX2_isAllowed_54 : decode cX2_isAllowed 54 = .ok (.iload 5, 2) := by decide +kernel
theorem dX2_isAllowed_56 : decode cX2_isAllowed 56 = .ok (.bipush 40, 2) := by decide +kernel
theorem dX2_isAllowed_58 : decode cX2_isAllowed 58 = .ok (.if_icmp .eq 7, 3) := by decide +kernel
theorem dX2_isAllowed_61 : decode cX2_isAllowed 61 = .ok (.iconst 1, 1) := by decide +kernel
theorem dX2_isAllowed_62 : decode cX2_isAllowed 62 = .ok (.goto 4, 3) := by decide +kernel
theorem dX2_isAllowed_65 : decode cX2_isAllowed 65 = .ok (.iconst 0, 1) := by decide +kernel
theorem dX2_isAllowed_66 : decode cX2_isAllowed 66 = .ok (.ireturn, 1) := by decide +kernel
theorem dX2_isAllowed_67 : decode cX2_isAllowed 67 = .ok (.iload 4, 2) := by decide +kernel
theorem dX2_isAllowed_69 : decode cX2_isAllowed 69 = .ok (.invokestatic 35, 3) := by decide +kernel
theorem dX2_isAllowed_72 : decode cX2_isAllowed 72 = .ok (.ifCond .eq 21, 3) := by decide +kernel
theorem dX2_isAllowed_75 : decode cX2_isAllowed 75 = .ok (.iload_n 1, 1) := by decide +kernel
theorem dX2_isAllowed_76 : decode cX2_isAllowed 76 = .ok (.ifCond .eq 7, 3) := by decide +kernel
theorem dX2_isAllowed_79 : decode cX2_isAllowed 79 = .ok (.iload_n 2, 1) := by decide +kernel
theorem dX2_isAllowed_80 : decode cX2_isAllowed 80 = .ok (.ifCond .le 13, 3) := by decide +kernel
theorem dX2_isAllowed_83 : decode cX2_isAllowed 83 = .ok (.iload_n 3, 1) := by decide +kernel
theorem dX2_isAllowed_84 : decode cX2_isAllowed 84 = .ok (.bipush 100, 2) := by decide +kernel
theorem dX2_isAllowed_86 : decode cX2_isAllowed 86 = .ok (.if_icmp .ge 7, 3) := by decide +kernel
theorem dX2_isAllowed_89 : decode cX2_isAllowed 89 = .ok (.iconst 1, 1) := by decide +kernel
theorem dX2_isAllowed_90 : decode cX2_isAllowed 90 = .ok (.goto 4, 3) := by decide +kernel
theorem dX2_isAllowed_93 : decode cX2_isAllowed 93 = .ok (.iconst 0, 1) := by decide +kernel
theorem dX2_isAllowed_94 : decode cX2_isAllowed 94 = .ok (.ireturn, 1) := by decide +kernel
set_option maxRecDepth 20000 in
theorem ggX2_deeper_X4_get : GoodIn wsX2_deeper wsX4_get := goodIn_r _ [4] (by decide +kernel) (by decide +kernel)
set_option maxRecDepth 20000 in
theorem gX2_deeper_X4_get_n31 : GoodIn wsX2_deeper (wsX4_get) := ggX2_deeper_X4_get
theorem dX2_deeper_0 : decode cX2_deeper 0 = .ok (.aload_n 0, 1) := by decide +kernel
theorem dX2_deeper_1 : decode cX2_deeper 1 = .ok (.getfield 9, 3) := by decide +kernel
theorem dX2_deeper_4 : decode cX2_deeper 4 = .ok (.iload_n 1, 1) := by decide +kernel
theorem dX2_deeper_5 : decode cX2_deeper 5 = .ok (.invokestatic 31, 3) := by decide +kernel
theorem dX2_deeper_8 : decode cX2_deeper 8 = .ok (.istore_n 2, 1) := by decide +kernel
theorem dX2_deeper_9 : decode cX2_deeper 9 = .ok (.iload_n 2, 1) := by decide +kernel
theorem dX2_deeper_10 : decode cX2_deeper 10 = .ok (.bipush 40, 2) := by decide +kernel
theorem dX2_deeper_12 : decode cX2_deeper 12 = .ok (.if_icmp .ne 7, 3) := by decide +kernel
theorem dX2_deeper_15 : decode cX2_deeper 15 = .ok (.iconst 1, 1) := by decide +kernel
theorem dX2_deeper_16 : decode cX2_deeper 16 = .ok (.goto 14, 3) := by decide +kernel
theorem dX2_deeper_19 : decode cX2_deeper 19 = .ok (.iload_n 2, 1) := by decide +kernel
theorem dX2_deeper_20 : decode cX2_deeper 20 = .ok (.bipush 41, 2) := by decide +kernel
theorem dX2_deeper_22 : decode cX2_deeper 22 = .ok (.if_icmp .ne 7, 3) := by decide +kernel
theorem dX2_deeper_25 : decode cX2_deeper 25 = .ok (.iconst (-1), 1) := by decide +kernel
theorem dX2_deeper_26 : decode cX2_deeper 26 = .ok (.goto 4, 3) := by decide +kernel
theorem dX2_deeper_29 : decode cX2_deeper 29 = .ok (.iconst 0, 1) := by decide +kernel
theorem dX2_deeper_30 : decode cX2_deeper 30 = .ok (.ireturn, 1) := by decide +kernel
set_option maxRecDepth 20000 in
theorem ggX2_makeTree_X3_empty : GoodIn wsX2_makeTree wsX3_empty := goodIn_r _ [7, 8, 33, 34, 35, 36, 37] (by decide +kernel) (by decide +kernel)
set_option maxRecDepth 20000 in
theorem gX2_makeTree_X3_empty : GoodIn wsX2_makeTree (wsV RX2 39 RX3 yX3_empty wsX3_empty) := goodIn_app (goodIn_of _ (by decide +kernel)) ggX2_makeTree_X3_empty
set_option maxRecDepth 20000 in
theorem ggX2_makeTree_X4_get : GoodIn wsX2_makeTree wsX4_get := goodIn_r _ [11] (by decide +kernel) (by decide +kernel)
set_option maxRecDepth 20000 in
theorem gX2_makeTree_X4_get_n31 : GoodIn wsX2_makeTree (wsX4_get) := ggX2_makeTree_X4_get
set_option maxRecDepth 20000 in
theorem ggX2_makeTree_X4_isLetter : GoodIn wsX2_makeTree wsX4_isLetter := goodIn_r _ [13] (by decide +kernel) (by decide +kernel)
set_option maxRecDepth 20000 in
theorem gX2_makeTree_X4_isLetter_n35 : GoodIn wsX2_makeTree (wsX4_isLetter) := ggX2_makeTree_X4_isLetter
set_option maxRecDepth 20000 in
theorem ggX2_makeTree_X3_append : GoodIn wsX2_makeTree wsX3_append := goodIn_r _ [17, 8, 18, 19, 20, 6, 21, 22, 23, 24, 10, 25, 33, 34, 35, 36, 37] (by decide +kernel) (by decide +kernel)
set_option maxRecDepth 20000 in
theorem gX2_makeTree_X3_append : GoodIn wsX2_makeTree (wsV RX2 44 RX3 yX3_append wsX3_append) := goodIn_app (goodIn_of _ (by decide +kernel)) ggX2_makeTree_X3_append
set_option maxRecDepth 20000 in
theorem ggX2_makeTree_X2_deeper : GoodIn wsX2_makeTree wsX2_deeper := goodIn_r _ [30, 2, 9, 10, 11, 31, 32] (by decide +kernel) (by decide +kernel)
set_option maxRecDepth 20000 in
theorem gX2_makeTree_X2_deeper : GoodIn wsX2_makeTree (wsV RX2 27 RX2 yX2_deeper wsX2_deeper) := goodIn_app (goodIn_of _ (by decide +kernel)) ggX2_makeTree_X2_deeper
theorem dX2_makeTree_0 : decode cX2_makeTree 0 = .ok (.iconst 0, 1) := by decide +kernel
theorem dX2_makeTree_1 : decode cX2_makeTree 1 = .ok (.istore_n 2, 1) := by decide +kernel
theorem dX2_makeTree_2 : decode cX2_makeTree 2 = .ok (.aload_n 1, 1) := by decide +kernel
theorem dX2_makeTree_3 : decode cX2_makeTree 3 = .ok (.invokevirtual 39, 3) := by decide +kernel
theorem dX2_makeTree_6 : decode cX2_makeTree 6 = .ok (.iconst 0, 1) := by decide +kernel
theorem dX2_makeTree_7 : decode cX2_makeTree 7 = .ok (.istore_n 3, 1) := by decide +kernel
theorem dX2_makeTree_8 : decode cX2_makeTree 8 = .ok (.iload_n 3, 1) := by decide +kernel
theorem dX2_makeTree_9 : decode cX2_makeTree 9 = .ok (.aload_n 0, 1) := by decide +kernel
theorem dX2_makeTree_10 : decode cX2_makeTree 10 = .ok (.getfield 15, 3) := by decide +kernel
theorem dX2_makeTree_13 : decode cX2_makeTree 13 = .ok (.if_icmp .ge 44, 3) := by decide +kernel
theorem dX2_makeTree_16 : decode cX2_makeTree 16 = .ok (.aload_n 0, 1) := by decide +kernel
theorem dX2_makeTree_17 : decode cX2_makeTree 17 = .ok (.getfield 9, 3) := by decide +kernel
theorem dX2_makeTree_20 : decode cX2_makeTree 20 = .ok (.iload_n 3, 1) := by decide +kernel
theorem dX2_makeTree_21 : decode cX2_makeTree 21 = .ok (.invokestatic 31, 3) := by decide +kernel
theorem dX2_makeTree_24 : decode cX2_makeTree 24 = .ok (.invokestatic 35, 3) := by decide +kernel
theorem dX2_makeTree_27 : decode cX2_makeTree 27 = .ok (.ifCond .eq 16, 3) := by decide +kernel
theorem dX2_makeTree_30 : decode cX2_makeTree 30 = .ok (.aload_n 1, 1) := by decide +kernel
theorem dX2_makeTree_31 : decode cX2_makeTree 31 = .ok (.iload_n 2, 1) := by decide +kernel
theorem dX2_makeTree_32 : decode cX2_makeTree 32 = .ok (.aload_n 0, 1) := by decide +kernel
theorem dX2_makeTree_33 : decode cX2_makeTree 33 = .ok (.getfield 9, 3) := by decide +kernel
theorem dX2_makeTree_36 : decode cX2_makeTree 36 = .ok (.iload_n 3, 1) := by decide +kernel
theorem dX2_makeTree_37 : decode cX2_makeTree 37 = .ok (.invokestatic 31, 3) := by decide +kernel
theorem dX2_makeTree_40 : decode cX2_makeTree 40 = .ok (.invokevirtual 44, 3) := by decide +kernel
theorem dX2_makeTree_43 : decode cX2_makeTree 43 = .ok (.iload_n 2, 1) := by decide +kernel
theorem dX2_makeTree_44 : decode cX2_makeTree 44 = .ok (.aload_n 0, 1) := by decide +kernel
theorem dX2_makeTree_45 : decode cX2_makeTree 45 = .ok (.iload_n 3, 1) := by decide +kernel
theorem dX2_makeTree_46 : decode cX2_makeTree 46 = .ok (.invokevirtual 27, 3) := by decide +kernel
theorem dX2_makeTree_49 : decode cX2_makeTree 49 = .ok (.iadd, 1) := by decide +kernel
theorem dX2_makeTree_50 : decode cX2_makeTree 50 = .ok (.istore_n 2, 1) := by decide +kernel
theorem dX2_makeTree_51 : decode cX2_makeTree 51 = .ok (.iinc 3 1, 3) := by decide +kernel
theorem dX2_makeTree_54 : decode cX2_makeTree 54 = .ok (.goto (-46), 3) := by decide +kernel
theorem dX2_makeTree_57 : decode cX2_makeTree 57 = .ok (.return_, 1) := by decide +kernel
set_option maxRecDepth 20000 in
theorem ggX3_init_X4_put : GoodIn wsX3_init wsX4_put := goodIn_r _ [12] (by decide +kernel) (by decide +kernel)
set_option maxRecDepth 20000 in
theorem gX3_init_X4_put_n24 : GoodIn wsX3_init (wsX4_put) := ggX3_init_X4_put
