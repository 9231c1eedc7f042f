theorem dX5_init_0 : decode cX5_init 0 = .ok (.aload_n 0, 1) := by decide +kernel
theorem dX5_init_1 : decode cX5_init 1 = .ok (.invokespecial 1, 3) := by decide +kernel
theorem dX5_init_4 : decode cX5_init 4 = .ok (.aload_n 0, 1) := by decide +kernel
theorem dX5_init_5 : decode cX5_init 5 = .ok (.bipush 100, 2) := by decide +kernel
theorem dX5_init_7 : decode cX5_init 7 = .ok (.newarray .int, 2) := by decide +kernel
theorem dX5_init_9 : decode cX5_init 9 = .ok (.putfield 7, 3) := by decide +kernel
theorem dX5_init_12 : decode cX5_init 12 = .ok (.aload_n 0, 1) := by decide +kernel
theorem dX5_init_13 : decode cX5_init 13 = .ok (.bipush 100, 2) := by decide +kernel
theorem dX5_init_15 : decode cX5_init 15 = .ok (.newarray .char, 2) := by decide +kernel
theorem dX5_init_17 : decode cX5_init 17 = .ok (.putfield 13, 3) := by decide +kernel
theorem dX5_init_20 : decode cX5_init 20 = .ok (.aload_n 0, 1) := by decide +kernel
theorem dX5_init_21 : decode cX5_init 21 = .ok (.sipush 3015, 3) := by decide +kernel
theorem dX5_init_24 : decode cX5_init 24 = .ok (.newarray .int, 2) := by decide +kernel
theorem dX5_init_26 : decode cX5_init 26 = .ok (.putfield 17, 3) := by decide +kernel
theorem dX5_init_29 : decode cX5_init 29 = .ok (.aload_n 0, 1) := by decide +kernel
theorem dX5_init_30 : decode cX5_init 30 = .ok (.sipush 300, 3) := by decide +kernel
theorem dX5_init_33 : decode cX5_init 33 = .ok (.newarray .char, 2) := by decide +kernel
theorem dX5_init_35 : decode cX5_init 35 = .ok (.putfield 20, 3) := by decide +kernel
theorem dX5_init_38 : decode cX5_init 38 = .ok (.aload_n 0, 1) := by decide +kernel
theorem dX5_init_39 : decode cX5_init 39 = .ok (.bipush 100, 2) := by decide +kernel
theorem dX5_init_41 : decode cX5_init 41 = .ok (.newarray .int, 2) := by decide +kernel
theorem dX5_init_43 : decode cX5_init 43 = .ok (.putfield 23, 3) := by decide +kernel
theorem dX5_init_46 : decode cX5_init 46 = .ok (.aload_n 0, 1) := by decide +kernel
theorem dX5_init_47 : decode cX5_init 47 = .ok (.bipush 100, 2) := by decide +kernel
theorem dX5_init_49 : decode cX5_init 49 = .ok (.newarray .char, 2) := by decide +kernel
theorem dX5_init_51 : decode cX5_init 51 = .ok (.putfield 26, 3) := by decide +kernel
theorem dX5_init_54 : decode cX5_init 54 = .ok (.aload_n 0, 1) := by decide +kernel
theorem dX5_init_55 : decode cX5_init 55 = .ok (.iconst 1, 1) := by decide +kernel
theorem dX5_init_56 : decode cX5_init 56 = .ok (.putfield 29, 3) := by decide +kernel
theorem dX5_init_59 : decode cX5_init 59 = .ok (.aload_n 0, 1) := by decide +kernel
theorem dX5_init_60 : decode cX5_init 60 = .ok (.getfield 13, 3) := by decide +kernel
theorem dX5_init_63 : decode cX5_init 63 = .ok (.iconst 0, 1) := by decide +kernel
theorem dX5_init_64 : decode cX5_init 64 = .ok (.bipush 97, 2) := by decide +kernel
theorem dX5_init_66 : decode cX5_init 66 = .ok (.castore, 1) := by decide +kernel
theorem dX5_init_67 : decode cX5_init 67 = .ok (.aload_n 0, 1) := by decide +kernel
theorem dX5_init_68 : decode cX5_init 68 = .ok (.bipush 8, 2) := by decide +kernel
theorem dX5_init_70 : decode cX5_init 70 = .ok (.putfield 33, 3) := by decide +kernel
theorem dX5_init_73 : decode cX5_init 73 = .ok (.return_, 1) := by decide +kernel
theorem dX5_in_0 : decode cX5_in 0 = .ok (.iload_n 0, 1) := by decide +kernel
theorem dX5_in_1 : decode cX5_in 1 = .ok (.iload_n 1, 1) := by decide +kernel
theorem dX5_in_2 : decode cX5_in 2 = .ok (.if_icmp .lt 12, 3) := by decide +kernel
theorem dX5_in_5 : decode cX5_in 5 = .ok (.iload_n 0, 1) := by decide +kernel
theorem dX5_in_6 : decode cX5_in 6 = .ok (.iload_n 2, 1) := by decide +kernel
theorem dX5_in_7 : decode cX5_in 7 = .ok (.if_icmp .gt 7, 3) := by decide +kernel
theorem dX5_in_10 : decode cX5_in 10 = .ok (.iconst 1, 1) := by decide +kernel
theorem dX5_in_11 : decode cX5_in 11 = .ok (.goto 4, 3) := by decide +kernel
theorem dX5_in_14 : decode cX5_in 14 = .ok (.iconst 0, 1) := by decide +kernel
theorem dX5_in_15 : decode cX5_in 15 = .ok (.ireturn, 1) := by decide +kernel
theorem dX5_isLetter_0 : decode cX5_isLetter 0 = .ok (.iload_n 0, 1) := by decide +kernel
theorem dX5_isLetter_1 : decode cX5_isLetter 1 = .ok (.bipush 97, 2) := by decide +kernel
theorem dX5_isLetter_3 : decode cX5_isLetter 3 = .ok (.if_icmp .lt 13, 3) := by decide +kernel
theorem dX5_isLetter_6 : decode cX5_isLetter 6 = .ok (.iload_n 0, 1) := by decide +kernel
theorem dX5_isLetter_7 : decode cX5_isLetter 7 = .ok (.bipush 122, 2) := by decide +kernel
theorem dX5_isLetter_9 : decode cX5_isLetter 9 = .ok (.if_icmp .gt 7, 3) := by decide +kernel
theorem dX5_isLetter_12 : decode cX5_isLetter 12 = .ok (.iconst 1, 1) := by decide +kernel
theorem dX5_isLetter_13 : decode cX5_isLetter 13 = .ok (.goto 4, 3) := by decide +kernel
theorem dX5_isLetter_16 : decode cX5_isLetter 16 = .ok (.iconst 0, 1) := by decide +kernel
theorem dX5_isLetter_17 : decode cX5_isLetter 17 = .ok (.ireturn, 1) := by decide +kernel
set_option maxRecDepth 20000 in
theorem ggX5_noNode_X5_in : GoodIn wsX5_noNode wsX5_in := goodIn_r _ [5] (by decide +kernel) (by decide +kernel)
set_option maxRecDepth 20000 in
theorem gX5_noNode_X5_in : GoodIn wsX5_noNode (va_wsS RX5 36 yX5_in wsX5_in) := goodIn_app (goodIn_of _ (by decide +kernel)) ggX5_noNode_X5_in
theorem dX5_noNode_0 : decode cX5_noNode 0 = .ok (.iload_n 1, 1) := by decide +kernel
theorem dX5_noNode_1 : decode cX5_noNode 1 = .ok (.iconst 0, 1) := by decide +kernel
theorem dX5_noNode_2 : decode cX5_noNode 2 = .ok (.aload_n 0, 1) := by decide +kernel
theorem dX5_noNode_3 : decode cX5_noNode 3 = .ok (.getfield 29, 3) := by decide +kernel
theorem dX5_noNode_6 : decode cX5_noNode 6 = .ok (.iconst 1, 1) := by decide +kernel
theorem dX5_noNode_7 : decode cX5_noNode 7 = .ok (.isub, 1) := by decide +kernel
theorem dX5_noNode_8 : decode cX5_noNode 8 = .ok (.invokestatic 36, 3) := by decide +kernel
theorem dX5_noNode_11 : decode cX5_noNode 11 = .ok (.ifCond .ne 7, 3) := by decide +kernel
theorem dX5_noNode_14 : decode cX5_noNode 14 = .ok (.iconst 1, 1) := by decide +kernel
theorem dX5_noNode_15 : decode cX5_noNode 15 = .ok (.goto 4, 3) := by decide +kernel
theorem dX5_noNode_18 : decode cX5_noNode 18 = .ok (.iconst 0, 1) := by decide +kernel
theorem dX5_noNode_19 : decode cX5_noNode 19 = .ok (.ireturn, 1) := by decide +kernel
theorem dX5_keep_0 : decode cX5_keep 0 = .ok (.aload_n 0, 1) := by decide +kernel
theorem dX5_keep_1 : decode cX5_keep 1 = .ok (.getfield 40, 3) := by decide +kernel
theorem dX5_keep_4 : decode cX5_keep 4 = .ok (.bipush 15, 2) := by decide +kernel
theorem dX5_keep_6 : decode cX5_keep 6 = .ok (.if_icmp .ne 49, 3) := by decide +kernel
theorem dX5_keep_9 : decode cX5_keep 9 = .ok (.aload_n 0, 1) := by decide +kernel
theorem dX5_keep_10 : decode cX5_keep 10 = .ok (.dup, 1) := by decide +kernel
theorem dX5_keep_11 : decode cX5_keep 11 = .ok (.getfield 40, 3) := by decide +kernel
theorem dX5_keep_14 : decode cX5_keep 14 = .ok (.iconst 1, 1) := by decide +kernel
theorem dX5_keep_15 : decode cX5_keep 15 = .ok (.isub, 1) := by decide +kernel
theorem dX5_keep_16 : decode cX5_keep 16 = .ok (.putfield 40, 3) := by decide +kernel
theorem dX5_keep_19 : decode cX5_keep 19 = .ok (.iconst 0, 1) := by decide +kernel
theorem dX5_keep_20 : decode cX5_keep 20 = .ok (.istore_n 1, 1) := by decide +kernel
theorem dX5_keep_21 : decode cX5_keep 21 = .ok (.iload_n 1, 1) := by decide +kernel
theorem dX5_keep_22 : decode cX5_keep 22 = .ok (.sipush 201, 3) := by decide +kernel
theorem dX5_keep_25 : decode cX5_keep 25 = .ok (.aload_n 0, 1) := by decide +kernel
theorem dX5_keep_26 : decode cX5_keep 26 = .ok (.getfield 40, 3) := by decide +kernel
theorem dX5_keep_29 : decode cX5_keep 29 = .ok (.imul, 1) := by decide +kernel
theorem dX5_keep_30 : decode cX5_keep 30 = .ok (.if_icmp .ge 25, 3) := by decide +kernel
theorem dX5_keep_33 : decode cX5_keep 33 = .ok (.aload_n 0, 1) := by decide +kernel
theorem dX5_keep_34 : decode cX5_keep 34 = .ok (.getfield 17, 3) := by decide +kernel
theorem dX5_keep_37 : decode cX5_keep 37 = .ok (.iload_n 1, 1) := by decide +kernel
theorem dX5_keep_38 : decode cX5_keep 38 = .ok (.aload_n 0, 1) := by decide +kernel
theorem dX5_keep_39 : decode cX5_keep 39 = .ok (.getfield 17, 3) := by decide +kernel
theorem dX5_keep_42 : decode cX5_keep 42 = .ok (.iload_n 1, 1) := by decide +kernel
theorem dX5_keep_43 : decode cX5_keep 43 = .ok (.sipush 201, 3) := by decide +kernel
theorem dX5_keep_46 : decode cX5_keep 46 = .ok (.iadd, 1) := by decide +kernel
theorem dX5_keep_47 : decode cX5_keep 47 = .ok (.iaload, 1) := by decide +kernel
theorem dX5_keep_48 : decode cX5_keep 48 = .ok (.iastore, 1) := by decide +kernel
theorem dX5_keep_49 : decode cX5_keep 49 = .ok (.iinc 1 1, 3) := by decide +kernel
theorem dX5_keep_52 : decode cX5_keep 52 = .ok (.goto (-31), 3) := by decide +kernel
theorem dX5_keep_55 : decode cX5_keep 55 = .ok (.sipush 201, 3) := by decide +kernel
theorem dX5_keep_58 : decode cX5_keep 58 = .ok (.aload_n 0, 1) := by decide +kernel
theorem dX5_keep_59 : decode cX5_keep 59 = .ok (.getfield 40, 3) := by decide +kernel
theorem dX5_keep_62 : decode cX5_keep 62 = .ok (.imul, 1) := by decide +kernel
theorem dX5_keep_63 : decode cX5_keep 63 = .ok (.istore_n 1, 1) := by decide +kernel
theorem dX5_keep_64 : decode cX5_keep 64 = .ok (.aload_n 0, 1) := by decide +kernel
theorem dX5_keep_65 : decode cX5_keep 65 = .ok (.getfield 17, 3) := by decide +kernel
theorem dX5_keep_68 : decode cX5_keep 68 = .ok (.iload_n 1, 1) := by decide +kernel
theorem dX5_keep_69 : decode cX5_keep 69 = .ok (.aload_n 0, 1) := by decide +kernel
theorem dX5_keep_70 : decode cX5_keep 70 = .ok (.getfield 29, 3) := by decide +kernel
theorem dX5_keep_73 : decode cX5_keep 73 = .ok (.iastore, 1) := by decide +kernel
theorem dX5_keep_74 : decode cX5_keep 74 = .ok (.iconst 0, 1) := by decide +kernel
theorem dX5_keep_75 : decode cX5_keep 75 = .ok (.istore_n 2, 1) := by decide +kernel
theorem dX5_keep_76 : decode cX5_keep 76 = .ok (.iload_n 2, 1) := by decide +kernel
theorem dX5_keep_77 : decode cX5_keep 77 = .ok (.aload_n 0, 1) := by decide +kernel
theorem dX5_keep_78 : decode cX5_keep 78 = .ok (.getfield 29, 3) := by decide +kernel
theorem dX5_keep_81 : decode cX5_keep 81 = .ok (.if_icmp .ge 42, 3) := by decide +kernel
theorem dX5_keep_84 : decode cX5_keep 84 = .ok (.aload_n 0, 1) := by decide +kernel
theorem dX5_keep_85 : decode cX5_keep 85 = .ok (.getfield 17, 3) := by decide +kernel
theorem dX5_keep_88 : decode cX5_keep 88 = .ok (.iload_n 1, 1) := by decide +kernel
theorem dX5_keep_89 : decode cX5_keep 89 = .ok (.iconst 1, 1) := by decide +kernel
theorem dX5_keep_90 : decode cX5_keep 90 = .ok (.iadd, 1) := by decide +kernel
theorem dX5_keep_91 : decode cX5_keep 91 = .ok (.iload_n 2, 1) := by decide +kernel
theorem dX5_keep_92 : decode cX5_keep 92 = .ok (.iadd, 1) := by decide +kernel
theorem dX5_keep_93 : decode cX5_keep 93 = .ok (.aload_n 0, 1) := by decide +kernel
theorem dX5_keep_94 : decode cX5_keep 94 = .ok (.getfield 7, 3) := by decide +kernel
theorem dX5_keep_97 : decode cX5_keep 97 = .ok (.iload_n 2, 1) := by decide +kernel
theorem dX5_keep_98 : decode cX5_keep 98 = .ok (.iaload, 1) := by decide +kernel
theorem dX5_keep_99 : decode cX5_keep 99 = .ok (.iastore, 1) := by decide +kernel
theorem dX5_keep_100 : decode cX5_keep 100 = .ok (.aload_n 0, 1) := by decide +kernel
theorem dX5_keep_101 : decode cX5_keep 101 = .ok (.getfield 17, 3) := by decide +kernel
theorem dX5_keep_104 : decode cX5_keep 104 = .ok (.iload_n 1, 1) := by decide +kernel
theorem dX5_keep_105 : decode cX5_keep 105 = .ok (.bipush 101, 2) := by decide +kernel
theorem dX5_keep_107 : decode cX5_keep 107 = .ok (.iadd, 1) := by decide +kernel
theorem dX5_keep_108 : decode cX5_keep 108 = .ok (.iload_n 2, 1) := by decide +kernel
theorem dX5_keep_109 : decode cX5_keep 109 = .ok (.iadd, 1) := by decide +kernel
theorem dX5_keep_110 : decode cX5_keep 110 = .ok (.aload_n 0, 1) := by decide +kernel
theorem dX5_keep_111 : decode cX5_keep 111 = .ok (.getfield 13, 3) := by decide +kernel
theorem dX5_keep_114 : decode cX5_keep 114 = .ok (.iload_n 2, 1) := by decide +kernel
theorem dX5_keep_115 : decode cX5_keep 115 = .ok (.caload, 1) := by decide +kernel
theorem dX5_keep_116 : decode cX5_keep 116 = .ok (.iastore, 1) := by decide +kernel
theorem dX5_keep_117 : decode cX5_keep 117 = .ok (.iinc 2 1, 3) := by decide +kernel
theorem dX5_keep_120 : decode cX5_keep 120 = .ok (.goto (-44), 3) := by decide +kernel
theorem dX5_keep_123 : decode cX5_keep 123 = .ok (.aload_n 0, 1) := by decide +kernel
theorem dX5_keep_124 : decode cX5_keep 124 = .ok (.dup, 1) := by decide +kernel
theorem dX5_keep_125 : decode cX5_keep 125 = .ok (.getfield 40, 3) := by decide +kernel
theorem dX5_keep_128 : decode cX5_keep 128 = .ok (.iconst 1, 1) := by decide +kernel
theorem dX5_keep_129 : decode cX5_keep 129 = .ok (.iadd, 1) := by decide +kernel
theorem dX5_keep_130 : decode cX5_keep 130 = .ok (.putfield 40, 3) := by decide +kernel
theorem dX5_keep_133 : decode cX5_keep 133 = .ok (.return_, 1) := by decide +kernel
theorem dX5_undo_0 : decode cX5_undo 0 = .ok (.aload_n 0, 1) := by decide +kernel
theorem dX5_undo_1 : decode cX5_undo 1 = .ok (.getfield 40, 3) := by decide +kernel
theorem dX5_undo_4 : decode cX5_undo 4 = .ok (.ifCond .ne 6, 3) := by decide +kernel
theorem dX5_undo_7 : decode cX5_undo 7 = .ok (.bipush (-5), 2) := by decide +kernel
theorem dX5_undo_9 : decode cX5_undo 9 = .ok (.ireturn, 1) := by decide +kernel
theorem dX5_undo_10 : decode cX5_undo 10 = .ok (.aload_n 0, 1) := by decide +kernel
theorem dX5_undo_11 : decode cX5_undo 11 = .ok (.dup, 1) := by decide +kernel
theorem dX5_undo_12 : decode cX5_undo 12 = .ok (.getfield 40, 3) := by decide +kernel
theorem dX5_undo_15 : decode cX5_undo 15 = .ok (.iconst 1, 1) := by decide +kernel
theorem dX5_undo_16 : decode cX5_undo 16 = .ok (.isub, 1) := by decide +kernel
theorem dX5_undo_17 : decode cX5_undo 17 = .ok (.putfield 40, 3) := by decide +kernel
theorem dX5_undo_20 : decode cX5_undo 20 = .ok (.sipush 201, 3) := by decide +kernel
theorem dX5_undo_23 : decode cX5_undo 23 = .ok (.aload_n 0, 1) := by decide +kernel
theorem dX5_undo_24 : decode cX5_undo 24 = .ok (.getfield 40, 3) := by decide +kernel
theorem dX5_undo_27 : decode cX5_undo 27 = .ok (.imul, 1) := by decide +kernel
theorem dX5_undo_28 : decode cX5_undo 28 = .ok (.istore_n 1, 1) := by decide +kernel
theorem dX5_undo_29 : decode cX5_undo 29 = .ok (.aload_n 0, 1) := by decide +kernel
theorem dX5_undo_30 : decode cX5_undo 30 = .ok (.aload_n 0, 1) := by decide +kernel
theorem dX5_undo_31 : decode cX5_undo 31 = .ok (.getfield 17, 3) := by decide +kernel
theorem dX5_undo_34 : decode cX5_undo 34 = .ok (.iload_n 1, 1) := by decide +kernel
theorem dX5_undo_35 : decode cX5_undo 35 = .ok (.iaload, 1) := by decide +kernel
theorem dX5_undo_36 : decode cX5_undo 36 = .ok (.putfield 29, 3) := by decide +kernel
theorem dX5_undo_39 : decode cX5_undo 39 = .ok (.iconst 0, 1) := by decide +kernel
theorem dX5_undo_40 : decode cX5_undo 40 = .ok (.istore_n 2, 1) := by decide +kernel
theorem dX5_undo_41 : decode cX5_undo 41 = .ok (.iload_n 2, 1) := by decide +kernel
theorem dX5_undo_42 : decode cX5_undo 42 = .ok (.aload_n 0, 1) := by decide +kernel
theorem dX5_undo_43 : decode cX5_undo 43 = .ok (.getfield 29, 3) := by decide +kernel
theorem dX5_undo_46 : decode cX5_undo 46 = .ok (.if_icmp .ge 43, 3) := by decide +kernel
theorem dX5_undo_49 : decode cX5_undo 49 = .ok (.aload_n 0, 1) := by decide +kernel
theorem dX5_undo_50 : decode cX5_undo 50 = .ok (.getfield 7, 3) := by decide +kernel
theorem dX5_undo_53 : decode cX5_undo 53 = .ok (.iload_n 2, 1) := by decide +kernel
theorem dX5_undo_54 : decode cX5_undo 54 = .ok (.aload_n 0, 1) := by decide +kernel
theorem dX5_undo_55 : decode cX5_undo 55 = .ok (.getfield 17, 3) := by decide +kernel
theorem dX5_undo_58 : decode cX5_undo 58 = .ok (.iload_n 1, 1) := by decide +kernel
theorem dX5_undo_59 : decode cX5_undo 59 = .ok (.iconst 1, 1) := by decide +kernel
theorem dX5_undo_60 : decode cX5_undo 60 = .ok (.iadd, 1) := by decide +kernel
theorem dX5_undo_61 : decode cX5_undo 61 = .ok (.iload_n 2, 1) := by decide +kernel
theorem dX5_undo_62 : decode cX5_undo 62 = .ok (.iadd, 1) := by decide +kernel
theorem dX5_undo_63 : decode cX5_undo 63 = .ok (.iaload, 1) := by decide +kernel
theorem dX5_undo_64 : decode cX5_undo 64 = .ok (.iastore, 1) := by decide +kernel
theorem dX5_undo_65 : decode cX5_undo 65 = .ok (.aload_n 0, 1) := by decide +kernel
theorem dX5_undo_66 : decode cX5_undo 66 = .ok (.getfield 13, 3) := by decide +kernel
theorem dX5_undo_69 : decode cX5_undo 69 = .ok (.iload_n 2, 1) := by decide +kernel
theorem dX5_undo_70 : decode cX5_undo 70 = .ok (.aload_n 0, 1) := by decide +kernel
theorem dX5_undo_71 : decode cX5_undo 71 = .ok (.getfield 17, 3) := by decide +kernel
theorem dX5_undo_74 : decode cX5_undo 74 = .ok (.iload_n 1, 1) := by decide +kernel
theorem dX5_undo_75 : decode cX5_undo 75 = .ok (.bipush 101, 2) := by decide +kernel
theorem dX5_undo_77 : decode cX5_undo 77 = .ok (.iadd, 1) := by decide +kernel
theorem dX5_undo_78 : decode cX5_undo 78 = .ok (.iload_n 2, 1) := by decide +kernel
theorem dX5_undo_79 : decode cX5_undo 79 = .ok (.iadd, 1) := by decide +kernel
theorem dX5_undo_80 : decode cX5_undo 80 = .ok (.iaload, 1) := by decide +kernel
theorem dX5_undo_81 : decode cX5_undo 81 = .ok (.i2c, 1) := by decide +kernel
theorem dX5_undo_82 : decode cX5_undo 82 = .ok (.castore, 1) := by decide +kernel
theorem dX5_undo_83 : decode cX5_undo 83 = .ok (.iinc 2 1, 3) := by decide +kernel
theorem dX5_undo_86 : decode cX5_undo 86 = .ok (.goto (-45), 3) := by decide +kernel
theorem dX5_undo_89 : decode cX5_undo 89 = .ok (.aload_n 0, 1) := by decide +kernel
theorem dX5_undo_90 : decode cX5_undo 90 = .ok (.getfield 40, 3) := by decide +kernel
theorem dX5_undo_93 : decode cX5_undo 93 = .ok (.ireturn, 1) := by decide +kernel
theorem dX5_type_0 : decode cX5_type 0 = .ok (.aload_n 0, 1) := by decide +kernel
theorem dX5_type_1 : decode cX5_type 1 = .ok (.getfield 43, 3) := by decide +kernel
theorem dX5_type_4 : decode cX5_type 4 = .ok (.sipush 300, 3) := by decide +kernel
theorem dX5_type_7 : decode cX5_type 7 = .ok (.if_icmp .ne 6, 3) := by decide +kernel
theorem dX5_type_10 : decode cX5_type 10 = .ok (.bipush (-4), 2) := by decide +kernel
theorem dX5_type_12 : decode cX5_type 12 = .ok (.ireturn, 1) := by decide +kernel
theorem dX5_type_13 : decode cX5_type 13 = .ok (.aload_n 0, 1) := by decide +kernel
theorem dX5_type_14 : decode cX5_type 14 = .ok (.getfield 20, 3) := by decide +kernel
theorem dX5_type_17 : decode cX5_type 17 = .ok (.aload_n 0, 1) := by decide +kernel
theorem dX5_type_18 : decode cX5_type 18 = .ok (.getfield 43, 3) := by decide +kernel
theorem dX5_type_21 : decode cX5_type 21 = .ok (.iload_n 1, 1) := by decide +kernel
theorem dX5_type_22 : decode cX5_type 22 = .ok (.castore, 1) := by decide +kernel
theorem dX5_type_23 : decode cX5_type 23 = .ok (.aload_n 0, 1) := by decide +kernel
theorem dX5_type_24 : decode cX5_type 24 = .ok (.dup, 1) := by decide +kernel
theorem dX5_type_25 : decode cX5_type 25 = .ok (.getfield 43, 3) := by decide +kernel
theorem dX5_type_28 : decode cX5_type 28 = .ok (.iconst 1, 1) := by decide +kernel
theorem dX5_type_29 : decode cX5_type 29 = .ok (.iadd, 1) := by decide +kernel
theorem dX5_type_30 : decode cX5_type 30 = .ok (.putfield 43, 3) := by decide +kernel
theorem dX5_type_33 : decode cX5_type 33 = .ok (.aload_n 0, 1) := by decide +kernel
theorem dX5_type_34 : decode cX5_type 34 = .ok (.getfield 43, 3) := by decide +kernel
theorem dX5_type_37 : decode cX5_type 37 = .ok (.ireturn, 1) := by decide +kernel
theorem dX5_clearText_0 : decode cX5_clearText 0 = .ok (.aload_n 0, 1) := by decide +kernel
theorem dX5_clearText_1 : decode cX5_clearText 1 = .ok (.getfield 43, 3) := by decide +kernel
theorem dX5_clearText_4 : decode cX5_clearText 4 = .ok (.istore_n 1, 1) := by decide +kernel
theorem dX5_clearText_5 : decode cX5_clearText 5 = .ok (.aload_n 0, 1) := by decide +kernel
theorem dX5_clearText_6 : decode cX5_clearText 6 = .ok (.iconst 0, 1) := by decide +kernel
theorem dX5_clearText_7 : decode cX5_clearText 7 = .ok (.putfield 43, 3) := by decide +kernel
theorem dX5_clearText_10 : decode cX5_clearText 10 = .ok (.iload_n 1, 1) := by decide +kernel
theorem dX5_clearText_11 : decode cX5_clearText 11 = .ok (.ireturn, 1) := by decide +kernel
set_option maxRecDepth 20000 in
theorem ggX5_read_X5_isLetter : GoodIn wsX5_read wsX5_isLetter := goodIn_r _ [11] (by decide +kernel) (by decide +kernel)
set_option maxRecDepth 20000 in
theorem gX5_read_X5_isLetter : GoodIn wsX5_read (va_wsS RX5 46 yX5_isLetter wsX5_isLetter) := goodIn_app (goodIn_of _ (by decide +kernel)) ggX5_read_X5_isLetter
set_option maxRecDepth 20000 in
theorem ggX5_read_X5_keep : GoodIn wsX5_read wsX5_keep := goodIn_r _ [15, 16, 17, 5, 6, 7, 18, 19, 20, 21, 22, 23, 24, 25, 26, 27] (by decide +kernel) (by decide +kernel)
set_option maxRecDepth 20000 in
theorem gX5_read_X5_keep : GoodIn wsX5_read (wsV RX5 50 RX5 yX5_keep wsX5_keep) := goodIn_app (goodIn_of _ (by decide +kernel)) ggX5_read_X5_keep
theorem dX5_read_0 : decode cX5_read 0 = .ok (.iconst 0, 1) := by decide +kernel
theorem dX5_read_1 : decode cX5_read 1 = .ok (.istore_n 1, 1) := by decide +kernel
theorem dX5_read_2 : decode cX5_read 2 = .ok (.iconst 0, 1) := by decide +kernel
theorem dX5_read_3 : decode cX5_read 3 = .ok (.istore_n 2, 1) := by decide +kernel
theorem dX5_read_4 : decode cX5_read 4 = .ok (.iconst 0, 1) := by decide +kernel
theorem dX5_read_5 : decode cX5_read 5 = .ok (.istore_n 3, 1) := by decide +kernel
theorem dX5_read_6 : decode cX5_read 6 = .ok (.iconst 0, 1) := by decide +kernel
theorem dX5_read_7 : decode cX5_read 7 = .ok (.istore 4, 2) := by decide +kernel
theorem dX5_read_9 : decode cX5_read 9 = .ok (.iload 4, 2) := by decide +kernel
theorem dX5_read_11 : decode cX5_read 11 = .ok (.aload_n 0, 1) := by decide +kernel
theorem dX5_read_12 : decode cX5_read 12 = .ok (.getfield 43, 3) := by decide +kernel
theorem dX5_read_15 : decode cX5_read 15 = .ok (.if_icmp .ge 154, 3) := by decide +kernel
theorem dX5_read_18 : decode cX5_read 18 = .ok (.aload_n 0, 1) := by decide +kernel
theorem dX5_read_19 : decode cX5_read 19 = .ok (.getfield 20, 3) := by decide +kernel
theorem dX5_read_22 : decode cX5_read 22 = .ok (.iload 4, 2) := by decide +kernel
theorem dX5_read_24 : decode cX5_read 24 = .ok (.caload, 1) := by decide +kernel
theorem dX5_read_25 : decode cX5_read 25 = .ok (.istore 5, 2) := by decide +kernel
theorem dX5_read_27 : decode cX5_read 27 = .ok (.iload 5, 2) := by decide +kernel
theorem dX5_read_29 : decode cX5_read 29 = .ok (.invokestatic 46, 3) := by decide +kernel
theorem dX5_read_32 : decode cX5_read 32 = .ok (.ifCond .eq 26, 3) := by decide +kernel
theorem dX5_read_35 : decode cX5_read 35 = .ok (.iload_n 1, 1) := by decide +kernel
theorem dX5_read_36 : decode cX5_read 36 = .ok (.bipush 100, 2) := by decide +kernel
theorem dX5_read_38 : decode cX5_read 38 = .ok (.if_icmp .ge 20, 3) := by decide +kernel
theorem dX5_read_41 : decode cX5_read 41 = .ok (.iload_n 3, 1) := by decide +kernel
theorem dX5_read_42 : decode cX5_read 42 = .ok (.ifCond .eq 12, 3) := by decide +kernel
theorem dX5_read_45 : decode cX5_read 45 = .ok (.iload_n 3, 1) := by decide +kernel
theorem dX5_read_46 : decode cX5_read 46 = .ok (.iconst 2, 1) := by decide +kernel
theorem dX5_read_47 : decode cX5_read 47 = .ok (.if_icmp .eq 7, 3) := by decide +kernel
theorem dX5_read_50 : decode cX5_read 50 = .ok (.iload_n 2, 1) := by decide +kernel
theorem dX5_read_51 : decode cX5_read 51 = .ok (.ifCond .le 7, 3) := by decide +kernel
theorem dX5_read_54 : decode cX5_read 54 = .ok (.iconst 1, 1) := by decide +kernel
theorem dX5_read_55 : decode cX5_read 55 = .ok (.goto 4, 3) := by decide +kernel
theorem dX5_read_58 : decode cX5_read 58 = .ok (.iconst 0, 1) := by decide +kernel
theorem dX5_read_59 : decode cX5_read 59 = .ok (.istore 6, 2) := by decide +kernel
theorem dX5_read_61 : decode cX5_read 61 = .ok (.iload 5, 2) := by decide +kernel
theorem dX5_read_63 : decode cX5_read 63 = .ok (.bipush 40, 2) := by decide +kernel
theorem dX5_read_65 : decode cX5_read 65 = .ok (.if_icmp .ne 12, 3) := by decide +kernel
theorem dX5_read_68 : decode cX5_read 68 = .ok (.iload_n 3, 1) := by decide +kernel
theorem dX5_read_69 : decode cX5_read 69 = .ok (.iconst 1, 1) := by decide +kernel
theorem dX5_read_70 : decode cX5_read 70 = .ok (.if_icmp .ne 7, 3) := by decide +kernel
theorem dX5_read_73 : decode cX5_read 73 = .ok (.iconst 1, 1) := by decide +kernel
theorem dX5_read_74 : decode cX5_read 74 = .ok (.goto 4, 3) := by decide +kernel
theorem dX5_read_77 : decode cX5_read 77 = .ok (.iconst 0, 1) := by decide +kernel
theorem dX5_read_78 : decode cX5_read 78 = .ok (.istore 7, 2) := by decide +kernel
theorem dX5_read_80 : decode cX5_read 80 = .ok (.iload 5, 2) := by decide +kernel
theorem dX5_read_82 : decode cX5_read 82 = .ok (.bipush 41, 2) := by decide +kernel
theorem dX5_read_84 : decode cX5_read 84 = .ok (.if_icmp .ne 16, 3) := by decide +kernel
theorem dX5_read_87 : decode cX5_read 87 = .ok (.iload_n 2, 1) := by decide +kernel
theorem dX5_read_88 : decode cX5_read 88 = .ok (.ifCond .le 12, 3) := by decide +kernel
theorem dX5_read_91 : decode cX5_read 91 = .ok (.iload_n 3, 1) := by decide +kernel
theorem dX5_read_92 : decode cX5_read 92 = .ok (.iconst 2, 1) := by decide +kernel
theorem dX5_read_93 : decode cX5_read 93 = .ok (.if_icmp .eq 7, 3) := by decide +kernel
theorem dX5_read_96 : decode cX5_read 96 = .ok (.iconst 1, 1) := by decide +kernel
theorem dX5_read_97 : decode cX5_read 97 = .ok (.goto 4, 3) := by decide +kernel
theorem dX5_read_100 : decode cX5_read 100 = .ok (.iconst 0, 1) := by decide +kernel
theorem dX5_read_101 : decode cX5_read 101 = .ok (.istore 8, 2) := by decide +kernel
theorem dX5_read_103 : decode cX5_read 103 = .ok (.iload 6, 2) := by decide +kernel
theorem dX5_read_105 : decode cX5_read 105 = .ok (.ifCond .eq 26, 3) := by decide +kernel
theorem dX5_read_108 : decode cX5_read 108 = .ok (.aload_n 0, 1) := by decide +kernel
theorem dX5_read_109 : decode cX5_read 109 = .ok (.getfield 23, 3) := by decide +kernel
theorem dX5_read_112 : decode cX5_read 112 = .ok (.iload_n 1, 1) := by decide +kernel
theorem dX5_read_113 : decode cX5_read 113 = .ok (.iload_n 2, 1) := by decide +kernel
theorem dX5_read_114 : decode cX5_read 114 = .ok (.iastore, 1) := by decide +kernel
theorem dX5_read_115 : decode cX5_read 115 = .ok (.aload_n 0, 1) := by decide +kernel
theorem dX5_read_116 : decode cX5_read 116 = .ok (.getfield 26, 3) := by decide +kernel
theorem dX5_read_119 : decode cX5_read 119 = .ok (.iload_n 1, 1) := by decide +kernel
theorem dX5_read_120 : decode cX5_read 120 = .ok (.iload 5, 2) := by decide +kernel
theorem dX5_read_122 : decode cX5_read 122 = .ok (.castore, 1) := by decide +kernel
theorem dX5_read_123 : decode cX5_read 123 = .ok (.iinc 1 1, 3) := by decide +kernel
theorem dX5_read_126 : decode cX5_read 126 = .ok (.iconst 1, 1) := by decide +kernel
theorem dX5_read_127 : decode cX5_read 127 = .ok (.istore_n 3, 1) := by decide +kernel
theorem dX5_read_128 : decode cX5_read 128 = .ok (.goto 35, 3) := by decide +kernel
theorem dX5_read_131 : decode cX5_read 131 = .ok (.iload 7, 2) := by decide +kernel
theorem dX5_read_133 : decode cX5_read 133 = .ok (.ifCond .eq 11, 3) := by decide +kernel
theorem dX5_read_136 : decode cX5_read 136 = .ok (.iinc 2 1, 3) := by decide +kernel
theorem dX5_read_139 : decode cX5_read 139 = .ok (.iconst 2, 1) := by decide +kernel
theorem dX5_read_140 : decode cX5_read 140 = .ok (.istore_n 3, 1) := by decide +kernel
theorem dX5_read_141 : decode cX5_read 141 = .ok (.goto 22, 3) := by decide +kernel
theorem dX5_read_144 : decode cX5_read 144 = .ok (.iload 8, 2) := by decide +kernel
theorem dX5_read_146 : decode cX5_read 146 = .ok (.ifCond .eq 11, 3) := by decide +kernel
theorem dX5_read_149 : decode cX5_read 149 = .ok (.iinc 2 (-1), 3) := by decide +kernel
theorem dX5_read_152 : decode cX5_read 152 = .ok (.iconst 3, 1) := by decide +kernel
theorem dX5_read_153 : decode cX5_read 153 = .ok (.istore_n 3, 1) := by decide +kernel
theorem dX5_read_154 : decode cX5_read 154 = .ok (.goto 9, 3) := by decide +kernel
theorem dX5_read_157 : decode cX5_read 157 = .ok (.bipush (-100), 2) := by decide +kernel
theorem dX5_read_159 : decode cX5_read 159 = .ok (.iload 4, 2) := by decide +kernel
theorem dX5_read_161 : decode cX5_read 161 = .ok (.isub, 1) := by decide +kernel
theorem dX5_read_162 : decode cX5_read 162 = .ok (.ireturn, 1) := by decide +kernel
theorem dX5_read_163 : decode cX5_read 163 = .ok (.iinc 4 1, 3) := by decide +kernel
theorem dX5_read_166 : decode cX5_read 166 = .ok (.goto (-157), 3) := by decide +kernel
theorem dX5_read_169 : decode cX5_read 169 = .ok (.iload_n 1, 1) := by decide +kernel
theorem dX5_read_170 : decode cX5_read 170 = .ok (.ifCond .eq 7, 3) := by decide +kernel
theorem dX5_read_173 : decode cX5_read 173 = .ok (.iload_n 2, 1) := by decide +kernel
theorem dX5_read_174 : decode cX5_read 174 = .ok (.ifCond .le 11, 3) := by decide +kernel
theorem dX5_read_177 : decode cX5_read 177 = .ok (.bipush (-100), 2) := by decide +kernel
theorem dX5_read_179 : decode cX5_read 179 = .ok (.aload_n 0, 1) := by decide +kernel
theorem dX5_read_180 : decode cX5_read 180 = .ok (.getfield 43, 3) := by decide +kernel
theorem dX5_read_183 : decode cX5_read 183 = .ok (.isub, 1) := by decide +kernel
theorem dX5_read_184 : decode cX5_read 184 = .ok (.ireturn, 1) := by decide +kernel
theorem dX5_read_185 : decode cX5_read 185 = .ok (.aload_n 0, 1) := by decide +kernel
theorem dX5_read_186 : decode cX5_read 186 = .ok (.invokevirtual 50, 3) := by decide +kernel
theorem dX5_read_189 : decode cX5_read 189 = .ok (.aload_n 0, 1) := by decide +kernel
theorem dX5_read_190 : decode cX5_read 190 = .ok (.iload_n 1, 1) := by decide +kernel
theorem dX5_read_191 : decode cX5_read 191 = .ok (.putfield 29, 3) := by decide +kernel
theorem dX5_read_194 : decode cX5_read 194 = .ok (.iconst 0, 1) := by decide +kernel
theorem dX5_read_195 : decode cX5_read 195 = .ok (.istore 4, 2) := by decide +kernel
theorem dX5_read_197 : decode cX5_read 197 = .ok (.iload 4, 2) := by decide +kernel
theorem dX5_read_199 : decode cX5_read 199 = .ok (.aload_n 0, 1) := by decide +kernel
theorem dX5_read_200 : decode cX5_read 200 = .ok (.getfield 29, 3) := by decide +kernel
theorem dX5_read_203 : decode cX5_read 203 = .ok (.if_icmp .ge 37, 3) := by decide +kernel
theorem dX5_read_206 : decode cX5_read 206 = .ok (.aload_n 0, 1) := by decide +kernel
theorem dX5_read_207 : decode cX5_read 207 = .ok (.getfield 7, 3) := by decide +kernel
theorem dX5_read_210 : decode cX5_read 210 = .ok (.iload 4, 2) := by decide +kernel
theorem dX5_read_212 : decode cX5_read 212 = .ok (.aload_n 0, 1) := by decide +kernel
theorem dX5_read_213 : decode cX5_read 213 = .ok (.getfield 23, 3) := by decide +kernel
theorem dX5_read_216 : decode cX5_read 216 = .ok (.iload 4, 2) := by decide +kernel
theorem dX5_read_218 : decode cX5_read 218 = .ok (.iaload, 1) := by decide +kernel
theorem dX5_read_219 : decode cX5_read 219 = .ok (.iastore, 1) := by decide +kernel
theorem dX5_read_220 : decode cX5_read 220 = .ok (.aload_n 0, 1) := by decide +kernel
theorem dX5_read_221 : decode cX5_read 221 = .ok (.getfield 13, 3) := by decide +kernel
theorem dX5_read_224 : decode cX5_read 224 = .ok (.iload 4, 2) := by decide +kernel
theorem dX5_read_226 : decode cX5_read 226 = .ok (.aload_n 0, 1) := by decide +kernel
theorem dX5_read_227 : decode cX5_read 227 = .ok (.getfield 26, 3) := by decide +kernel
theorem dX5_read_230 : decode cX5_read 230 = .ok (.iload 4, 2) := by decide +kernel
theorem dX5_read_232 : decode cX5_read 232 = .ok (.caload, 1) := by decide +kernel
theorem dX5_read_233 : decode cX5_read 233 = .ok (.castore, 1) := by decide +kernel
theorem dX5_read_234 : decode cX5_read 234 = .ok (.iinc 4 1, 3) := by decide +kernel
theorem dX5_read_237 : decode cX5_read 237 = .ok (.goto (-40), 3) := by decide +kernel
theorem dX5_read_240 : decode cX5_read 240 = .ok (.aload_n 0, 1) := by decide +kernel
theorem dX5_read_241 : decode cX5_read 241 = .ok (.getfield 29, 3) := by decide +kernel
theorem dX5_read_244 : decode cX5_read 244 = .ok (.ireturn, 1) := by decide +kernel
theorem dX5_nextDepth_0 : decode cX5_nextDepth 0 = .ok (.iload_n 1, 1) := by decide +kernel
theorem dX5_nextDepth_1 : decode cX5_nextDepth 1 = .ok (.iconst 1, 1) := by decide +kernel
theorem dX5_nextDepth_2 : decode cX5_nextDepth 2 = .ok (.iadd, 1) := by decide +kernel
theorem dX5_nextDepth_3 : decode cX5_nextDepth 3 = .ok (.aload_n 0, 1) := by decide +kernel
theorem dX5_nextDepth_4 : decode cX5_nextDepth 4 = .ok (.getfield 29, 3) := by decide +kernel
theorem dX5_nextDepth_7 : decode cX5_nextDepth 7 = .ok (.if_icmp .ge 14, 3) := by decide +kernel
theorem dX5_nextDepth_10 : decode cX5_nextDepth 10 = .ok (.aload_n 0, 1) := by decide +kernel
theorem dX5_nextDepth_11 : decode cX5_nextDepth 11 = .ok (.getfield 7, 3) := by decide +kernel
theorem dX5_nextDepth_14 : decode cX5_nextDepth 14 = .ok (.iload_n 1, 1) := by decide +kernel
theorem dX5_nextDepth_15 : decode cX5_nextDepth 15 = .ok (.iconst 1, 1) := by decide +kernel
theorem dX5_nextDepth_16 : decode cX5_nextDepth 16 = .ok (.iadd, 1) := by decide +kernel
theorem dX5_nextDepth_17 : decode cX5_nextDepth 17 = .ok (.iaload, 1) := by decide +kernel
theorem dX5_nextDepth_18 : decode cX5_nextDepth 18 = .ok (.goto 4, 3) := by decide +kernel
theorem dX5_nextDepth_21 : decode cX5_nextDepth 21 = .ok (.iconst 0, 1) := by decide +kernel
theorem dX5_nextDepth_22 : decode cX5_nextDepth 22 = .ok (.ireturn, 1) := by decide +kernel
theorem dX5_isLeaf_0 : decode cX5_isLeaf 0 = .ok (.iload_n 1, 1) := by decide +kernel
theorem dX5_isLeaf_1 : decode cX5_isLeaf 1 = .ok (.iconst 1, 1) := by decide +kernel
theorem dX5_isLeaf_2 : decode cX5_isLeaf 2 = .ok (.iadd, 1) := by decide +kernel
theorem dX5_isLeaf_3 : decode cX5_isLeaf 3 = .ok (.aload_n 0, 1) := by decide +kernel
theorem dX5_isLeaf_4 : decode cX5_isLeaf 4 = .ok (.getfield 29, 3) := by decide +kernel
theorem dX5_isLeaf_7 : decode cX5_isLeaf 7 = .ok (.if_icmp .eq 20, 3) := by decide +kernel
theorem dX5_isLeaf_10 : decode cX5_isLeaf 10 = .ok (.aload_n 0, 1) := by decide +kernel
theorem dX5_isLeaf_11 : decode cX5_isLeaf 11 = .ok (.getfield 7, 3) := by decide +kernel
theorem dX5_isLeaf_14 : decode cX5_isLeaf 14 = .ok (.iload_n 1, 1) := by decide +kernel
theorem dX5_isLeaf_15 : decode cX5_isLeaf 15 = .ok (.iconst 1, 1) := by decide +kernel
theorem dX5_isLeaf_16 : decode cX5_isLeaf 16 = .ok (.iadd, 1) := by decide +kernel
theorem dX5_isLeaf_17 : decode cX5_isLeaf 17 = .ok (.iaload, 1) := by decide +kernel
theorem dX5_isLeaf_18 : decode cX5_isLeaf 18 = .ok (.aload_n 0, 1) := by decide +kernel
theorem dX5_isLeaf_19 : decode cX5_isLeaf 19 = .ok (.getfield 7, 3) := by decide +kernel
theorem dX5_isLeaf_22 : decode cX5_isLeaf 22 = .ok (.iload_n 1, 1) := by decide +kernel
theorem dX5_isLeaf_23 : decode cX5_isLeaf 23 = .ok (.iaload, 1) := by decide +kernel
theorem dX5_isLeaf_24 : decode cX5_isLeaf 24 = .ok (.if_icmp .gt 7, 3) := by decide +kernel
theorem dX5_isLeaf_27 : decode cX5_isLeaf 27 = .ok (.iconst 1, 1) := by decide +kernel
theorem dX5_isLeaf_28 : decode cX5_isLeaf 28 = .ok (.goto 4, 3) := by decide +kernel
theorem dX5_isLeaf_31 : decode cX5_isLeaf 31 = .ok (.iconst 0, 1) := by decide +kernel
theorem dX5_isLeaf_32 : decode cX5_isLeaf 32 = .ok (.ireturn, 1) := by decide +kernel
set_option maxRecDepth 20000 in
theorem ggX5_written_X5_isLeaf : GoodIn wsX5_written wsX5_isLeaf := goodIn_r _ [8, 1, 3, 13, 14, 15, 16, 17, 18, 19, 20, 21, 22] (by decide +kernel) (by decide +kernel)
set_option maxRecDepth 20000 in
theorem gX5_written_X5_isLeaf : GoodIn wsX5_written (wsV RX5 53 RX5 yX5_isLeaf wsX5_isLeaf) := goodIn_app (goodIn_of _ (by decide +kernel)) ggX5_written_X5_isLeaf
set_option maxRecDepth 20000 in
theorem ggX5_written_X5_nextDepth : GoodIn wsX5_written wsX5_nextDepth := goodIn_r _ [12, 1, 3, 13, 14, 15, 16, 17, 18, 19, 20, 21, 22] (by decide +kernel) (by decide +kernel)
set_option maxRecDepth 20000 in
theorem gX5_written_X5_nextDepth : GoodIn wsX5_written (wsV RX5 57 RX5 yX5_nextDepth wsX5_nextDepth) := goodIn_app (goodIn_of _ (by decide +kernel)) ggX5_written_X5_nextDepth
theorem dX5_written_0 : decode cX5_written 0 = .ok (.iload_n 1, 1) := by decide +kernel
theorem dX5_written_1 : decode cX5_written 1 = .ok (.iconst (-1), 1) := by decide +kernel
theorem dX5_written_2 : decode cX5_written 2 = .ok (.if_icmp .ge 6, 3) := by decide +kernel
theorem dX5_written_5 : decode cX5_written 5 = .ok (.bipush (-2), 2) := by decide +kernel
theorem dX5_written_7 : decode cX5_written 7 = .ok (.ireturn, 1) := by decide +kernel
theorem dX5_written_8 : decode cX5_written 8 = .ok (.iconst 0, 1) := by decide +kernel
theorem dX5_written_9 : decode cX5_written 9 = .ok (.istore_n 2, 1) := by decide +kernel
theorem dX5_written_10 : decode cX5_written 10 = .ok (.iconst 0, 1) := by decide +kernel
theorem dX5_written_11 : decode cX5_written 11 = .ok (.istore_n 3, 1) := by decide +kernel
theorem dX5_written_12 : decode cX5_written 12 = .ok (.iload_n 3, 1) := by decide +kernel
theorem dX5_written_13 : decode cX5_written 13 = .ok (.aload_n 0, 1) := by decide +kernel
theorem dX5_written_14 : decode cX5_written 14 = .ok (.getfield 29, 3) := by decide +kernel
theorem dX5_written_17 : decode cX5_written 17 = .ok (.if_icmp .ge 81, 3) := by decide +kernel
theorem dX5_written_20 : decode cX5_written 20 = .ok (.iload_n 2, 1) := by decide +kernel
theorem dX5_written_21 : decode cX5_written 21 = .ok (.iload_n 1, 1) := by decide +kernel
theorem dX5_written_22 : decode cX5_written 22 = .ok (.if_icmp .ne 10, 3) := by decide +kernel
theorem dX5_written_25 : decode cX5_written 25 = .ok (.aload_n 0, 1) := by decide +kernel
theorem dX5_written_26 : decode cX5_written 26 = .ok (.getfield 13, 3) := by decide +kernel
theorem dX5_written_29 : decode cX5_written 29 = .ok (.iload_n 3, 1) := by decide +kernel
theorem dX5_written_30 : decode cX5_written 30 = .ok (.caload, 1) := by decide +kernel
theorem dX5_written_31 : decode cX5_written 31 = .ok (.ireturn, 1) := by decide +kernel
theorem dX5_written_32 : decode cX5_written 32 = .ok (.iinc 2 1, 3) := by decide +kernel
theorem dX5_written_35 : decode cX5_written 35 = .ok (.aload_n 0, 1) := by decide +kernel
theorem dX5_written_36 : decode cX5_written 36 = .ok (.iload_n 3, 1) := by decide +kernel
theorem dX5_written_37 : decode cX5_written 37 = .ok (.invokevirtual 53, 3) := by decide +kernel
theorem dX5_written_40 : decode cX5_written 40 = .ok (.ifCond .ne 17, 3) := by decide +kernel
theorem dX5_written_43 : decode cX5_written 43 = .ok (.iload_n 2, 1) := by decide +kernel
theorem dX5_written_44 : decode cX5_written 44 = .ok (.iload_n 1, 1) := by decide +kernel
theorem dX5_written_45 : decode cX5_written 45 = .ok (.if_icmp .ne 6, 3) := by decide +kernel
theorem dX5_written_48 : decode cX5_written 48 = .ok (.bipush 40, 2) := by decide +kernel
theorem dX5_written_50 : decode cX5_written 50 = .ok (.ireturn, 1) := by decide +kernel
theorem dX5_written_51 : decode cX5_written 51 = .ok (.iinc 2 1, 3) := by decide +kernel
theorem dX5_written_54 : decode cX5_written 54 = .ok (.goto 38, 3) := by decide +kernel
theorem dX5_written_57 : decode cX5_written 57 = .ok (.aload_n 0, 1) := by decide +kernel
theorem dX5_written_58 : decode cX5_written 58 = .ok (.getfield 7, 3) := by decide +kernel
theorem dX5_written_61 : decode cX5_written 61 = .ok (.iload_n 3, 1) := by decide +kernel
theorem dX5_written_62 : decode cX5_written 62 = .ok (.iaload, 1) := by decide +kernel
theorem dX5_written_63 : decode cX5_written 63 = .ok (.aload_n 0, 1) := by decide +kernel
theorem dX5_written_64 : decode cX5_written 64 = .ok (.iload_n 3, 1) := by decide +kernel
theorem dX5_written_65 : decode cX5_written 65 = .ok (.invokevirtual 57, 3) := by decide +kernel
theorem dX5_written_68 : decode cX5_written 68 = .ok (.isub, 1) := by decide +kernel
theorem dX5_written_69 : decode cX5_written 69 = .ok (.istore 4, 2) := by decide +kernel
theorem dX5_written_71 : decode cX5_written 71 = .ok (.iload_n 1, 1) := by decide +kernel
theorem dX5_written_72 : decode cX5_written 72 = .ok (.iload_n 2, 1) := by decide +kernel
theorem dX5_written_73 : decode cX5_written 73 = .ok (.if_icmp .lt 14, 3) := by decide +kernel
theorem dX5_written_76 : decode cX5_written 76 = .ok (.iload_n 1, 1) := by decide +kernel
theorem dX5_written_77 : decode cX5_written 77 = .ok (.iload_n 2, 1) := by decide +kernel
theorem dX5_written_78 : decode cX5_written 78 = .ok (.iload 4, 2) := by decide +kernel
theorem dX5_written_80 : decode cX5_written 80 = .ok (.iadd, 1) := by decide +kernel
theorem dX5_written_81 : decode cX5_written 81 = .ok (.if_icmp .ge 6, 3) := by decide +kernel
theorem dX5_written_84 : decode cX5_written 84 = .ok (.bipush 41, 2) := by decide +kernel
theorem dX5_written_86 : decode cX5_written 86 = .ok (.ireturn, 1) := by decide +kernel
theorem dX5_written_87 : decode cX5_written 87 = .ok (.iload_n 2, 1) := by decide +kernel
theorem dX5_written_88 : decode cX5_written 88 = .ok (.iload 4, 2) := by decide +kernel
theorem dX5_written_90 : decode cX5_written 90 = .ok (.iadd, 1) := by decide +kernel
theorem dX5_written_91 : decode cX5_written 91 = .ok (.istore_n 2, 1) := by decide +kernel
theorem dX5_written_92 : decode cX5_written 92 = .ok (.iinc 3 1, 3) := by decide +kernel
theorem dX5_written_95 : decode cX5_written 95 = .ok (.goto (-83), 3) := by decide +kernel
theorem dX5_written_98 : decode cX5_written 98 = .ok (.iload_n 1, 1) := by decide +kernel
theorem dX5_written_99 : decode cX5_written 99 = .ok (.ifCond .ge 7, 3) := by decide +kernel
theorem dX5_written_102 : decode cX5_written 102 = .ok (.iload_n 2, 1) := by decide +kernel
theorem dX5_written_103 : decode cX5_written 103 = .ok (.goto 5, 3) := by decide +kernel
theorem dX5_written_106 : decode cX5_written 106 = .ok (.bipush (-5), 2) := by decide +kernel
theorem dX5_written_108 : decode cX5_written 108 = .ok (.ireturn, 1) := by decide +kernel
theorem dX5_size_0 : decode cX5_size 0 = .ok (.aload_n 0, 1) := by decide +kernel
theorem dX5_size_1 : decode cX5_size 1 = .ok (.getfield 29, 3) := by decide +kernel
theorem dX5_size_4 : decode cX5_size 4 = .ok (.ireturn, 1) := by decide +kernel
theorem dX5_behind_0 : decode cX5_behind 0 = .ok (.iload_n 1, 1) := by decide +kernel
theorem dX5_behind_1 : decode cX5_behind 1 = .ok (.iconst 1, 1) := by decide +kernel
theorem dX5_behind_2 : decode cX5_behind 2 = .ok (.iadd, 1) := by decide +kernel
theorem dX5_behind_3 : decode cX5_behind 3 = .ok (.istore_n 2, 1) := by decide +kernel
theorem dX5_behind_4 : decode cX5_behind 4 = .ok (.iload_n 2, 1) := by decide +kernel
theorem dX5_behind_5 : decode cX5_behind 5 = .ok (.aload_n 0, 1) := by decide +kernel
theorem dX5_behind_6 : decode cX5_behind 6 = .ok (.getfield 29, 3) := by decide +kernel
theorem dX5_behind_9 : decode cX5_behind 9 = .ok (.if_icmp .ge 24, 3) := by decide +kernel
theorem dX5_behind_12 : decode cX5_behind 12 = .ok (.aload_n 0, 1) := by decide +kernel
theorem dX5_behind_13 : decode cX5_behind 13 = .ok (.getfield 7, 3) := by decide +kernel
theorem dX5_behind_16 : decode cX5_behind 16 = .ok (.iload_n 2, 1) := by decide +kernel
theorem dX5_behind_17 : decode cX5_behind 17 = .ok (.iaload, 1) := by decide +kernel
theorem dX5_behind_18 : decode cX5_behind 18 = .ok (.aload_n 0, 1) := by decide +kernel
theorem dX5_behind_19 : decode cX5_behind 19 = .ok (.getfield 7, 3) := by decide +kernel
theorem dX5_behind_22 : decode cX5_behind 22 = .ok (.iload_n 1, 1) := by decide +kernel
theorem dX5_behind_23 : decode cX5_behind 23 = .ok (.iaload, 1) := by decide +kernel
theorem dX5_behind_24 : decode cX5_behind 24 = .ok (.if_icmp .le 9, 3) := by decide +kernel
theorem dX5_behind_27 : decode cX5_behind 27 = .ok (.iinc 2 1, 3) := by decide +kernel
theorem dX5_behind_30 : decode cX5_behind 30 = .ok (.goto (-26), 3) := by decide +kernel
theorem dX5_behind_33 : decode cX5_behind 33 = .ok (.iload_n 2, 1) := by decide +kernel
theorem dX5_behind_34 : decode cX5_behind 34 = .ok (.ireturn, 1) := by decide +kernel
theorem dX5_parentOf_0 : decode cX5_parentOf 0 = .ok (.iload_n 1, 1) := by decide +kernel
theorem dX5_parentOf_1 : decode cX5_parentOf 1 = .ok (.istore_n 2, 1) := by decide +kernel
theorem dX5_parentOf_2 : decode cX5_parentOf 2 = .ok (.iload_n 2, 1) := by decide +kernel
theorem dX5_parentOf_3 : decode cX5_parentOf 3 = .ok (.ifCond .lt 24, 3) := by decide +kernel
theorem dX5_parentOf_6 : decode cX5_parentOf 6 = .ok (.aload_n 0, 1) := by decide +kernel
theorem dX5_parentOf_7 : decode cX5_parentOf 7 = .ok (.getfield 7, 3) := by decide +kernel
theorem dX5_parentOf_10 : decode cX5_parentOf 10 = .ok (.iload_n 2, 1) := by decide +kernel
theorem dX5_parentOf_11 : decode cX5_parentOf 11 = .ok (.iaload, 1) := by decide +kernel
theorem dX5_parentOf_12 : decode cX5_parentOf 12 = .ok (.aload_n 0, 1) := by decide +kernel
theorem dX5_parentOf_13 : decode cX5_parentOf 13 = .ok (.getfield 7, 3) := by decide +kernel
theorem dX5_parentOf_16 : decode cX5_parentOf 16 = .ok (.iload_n 1, 1) := by decide +kernel
theorem dX5_parentOf_17 : decode cX5_parentOf 17 = .ok (.iaload, 1) := by decide +kernel
theorem dX5_parentOf_18 : decode cX5_parentOf 18 = .ok (.if_icmp .lt 9, 3) := by decide +kernel
theorem dX5_parentOf_21 : decode cX5_parentOf 21 = .ok (.iinc 2 (-1), 3) := by decide +kernel
theorem dX5_parentOf_24 : decode cX5_parentOf 24 = .ok (.goto (-22), 3) := by decide +kernel
theorem dX5_parentOf_27 : decode cX5_parentOf 27 = .ok (.iload_n 2, 1) := by decide +kernel
theorem dX5_parentOf_28 : decode cX5_parentOf 28 = .ok (.ifCond .ge 8, 3) := by decide +kernel
theorem dX5_parentOf_31 : decode cX5_parentOf 31 = .ok (.bipush (-5), 2) := by decide +kernel
theorem dX5_parentOf_33 : decode cX5_parentOf 33 = .ok (.goto 4, 3) := by decide +kernel
theorem dX5_parentOf_36 : decode cX5_parentOf 36 = .ok (.iload_n 2, 1) := by decide +kernel
theorem dX5_parentOf_37 : decode cX5_parentOf 37 = .ok (.ireturn, 1) := by decide +kernel
set_option maxRecDepth 20000 in
theorem ggX5_childCount_X5_behind : GoodIn wsX5_childCount wsX5_behind := goodIn_r _ [6, 7, 1, 8, 9, 10, 11, 12, 13, 14, 15, 16, 17] (by decide +kernel) (by decide +kernel)
set_option maxRecDepth 20000 in
theorem gX5_childCount_X5_behind : GoodIn wsX5_childCount (wsV RX5 61 RX5 yX5_behind wsX5_behind) := goodIn_app (goodIn_of _ (by decide +kernel)) ggX5_childCount_X5_behind
theorem dX5_childCount_0 : decode cX5_childCount 0 = .ok (.iconst 0, 1) := by decide +kernel
theorem dX5_childCount_1 : decode cX5_childCount 1 = .ok (.istore_n 2, 1) := by decide +kernel
theorem dX5_childCount_2 : decode cX5_childCount 2 = .ok (.iload_n 1, 1) := by decide +kernel
theorem dX5_childCount_3 : decode cX5_childCount 3 = .ok (.iconst 1, 1) := by decide +kernel
theorem dX5_childCount_4 : decode cX5_childCount 4 = .ok (.iadd, 1) := by decide +kernel
theorem dX5_childCount_5 : decode cX5_childCount 5 = .ok (.istore_n 3, 1) := by decide +kernel
theorem dX5_childCount_6 : decode cX5_childCount 6 = .ok (.iload_n 3, 1) := by decide +kernel
theorem dX5_childCount_7 : decode cX5_childCount 7 = .ok (.aload_n 0, 1) := by decide +kernel
theorem dX5_childCount_8 : decode cX5_childCount 8 = .ok (.iload_n 1, 1) := by decide +kernel
theorem dX5_childCount_9 : decode cX5_childCount 9 = .ok (.invokevirtual 61, 3) := by decide +kernel
theorem dX5_childCount_12 : decode cX5_childCount 12 = .ok (.if_icmp .ge 34, 3) := by decide +kernel
theorem dX5_childCount_15 : decode cX5_childCount 15 = .ok (.iload_n 2, 1) := by decide +kernel
theorem dX5_childCount_16 : decode cX5_childCount 16 = .ok (.aload_n 0, 1) := by decide +kernel
theorem dX5_childCount_17 : decode cX5_childCount 17 = .ok (.getfield 7, 3) := by decide +kernel
theorem dX5_childCount_20 : decode cX5_childCount 20 = .ok (.iload_n 3, 1) := by decide +kernel
theorem dX5_childCount_21 : decode cX5_childCount 21 = .ok (.iaload, 1) := by decide +kernel
theorem dX5_childCount_22 : decode cX5_childCount 22 = .ok (.aload_n 0, 1) := by decide +kernel
theorem dX5_childCount_23 : decode cX5_childCount 23 = .ok (.getfield 7, 3) := by decide +kernel
theorem dX5_childCount_26 : decode cX5_childCount 26 = .ok (.iload_n 1, 1) := by decide +kernel
theorem dX5_childCount_27 : decode cX5_childCount 27 = .ok (.iaload, 1) := by decide +kernel
theorem dX5_childCount_28 : decode cX5_childCount 28 = .ok (.iconst 1, 1) := by decide +kernel
theorem dX5_childCount_29 : decode cX5_childCount 29 = .ok (.iadd, 1) := by decide +kernel
theorem dX5_childCount_30 : decode cX5_childCount 30 = .ok (.if_icmp .ne 7, 3) := by decide +kernel
theorem dX5_childCount_33 : decode cX5_childCount 33 = .ok (.iconst 1, 1) := by decide +kernel
theorem dX5_childCount_34 : decode cX5_childCount 34 = .ok (.goto 4, 3) := by decide +kernel
theorem dX5_childCount_37 : decode cX5_childCount 37 = .ok (.iconst 0, 1) := by decide +kernel
theorem dX5_childCount_38 : decode cX5_childCount 38 = .ok (.iadd, 1) := by decide +kernel
theorem dX5_childCount_39 : decode cX5_childCount 39 = .ok (.istore_n 2, 1) := by decide +kernel
theorem dX5_childCount_40 : decode cX5_childCount 40 = .ok (.iinc 3 1, 3) := by decide +kernel
theorem dX5_childCount_43 : decode cX5_childCount 43 = .ok (.goto (-37), 3) := by decide +kernel
theorem dX5_childCount_46 : decode cX5_childCount 46 = .ok (.iload_n 2, 1) := by decide +kernel
theorem dX5_childCount_47 : decode cX5_childCount 47 = .ok (.ireturn, 1) := by decide +kernel
set_option maxRecDepth 20000 in
theorem ggX5_childOrEnd_X5_behind : GoodIn wsX5_childOrEnd wsX5_behind := goodIn_r _ [6, 7, 1, 8, 9, 10, 11, 12, 13, 14, 15, 16, 17] (by decide +kernel) (by decide +kernel)
set_option maxRecDepth 20000 in
theorem gX5_childOrEnd_X5_behind : GoodIn wsX5_childOrEnd (wsV RX5 61 RX5 yX5_behind wsX5_behind) := goodIn_app (goodIn_of _ (by decide +kernel)) ggX5_childOrEnd_X5_behind
theorem dX5_childOrEnd_0 : decode cX5_childOrEnd 0 = .ok (.iconst 0, 1) := by decide +kernel
theorem dX5_childOrEnd_1 : decode cX5_childOrEnd 1 = .ok (.istore_n 3, 1) := by decide +kernel
theorem dX5_childOrEnd_2 : decode cX5_childOrEnd 2 = .ok (.aload_n 0, 1) := by decide +kernel
theorem dX5_childOrEnd_3 : decode cX5_childOrEnd 3 = .ok (.iload_n 1, 1) := by decide +kernel
theorem dX5_childOrEnd_4 : decode cX5_childOrEnd 4 = .ok (.invokevirtual 61, 3) := by decide +kernel
theorem dX5_childOrEnd_7 : decode cX5_childOrEnd 7 = .ok (.istore 4, 2) := by decide +kernel
theorem dX5_childOrEnd_9 : decode cX5_childOrEnd 9 = .ok (.iload_n 1, 1) := by decide +kernel
theorem dX5_childOrEnd_10 : decode cX5_childOrEnd 10 = .ok (.iconst 1, 1) := by decide +kernel
theorem dX5_childOrEnd_11 : decode cX5_childOrEnd 11 = .ok (.iadd, 1) := by decide +kernel
theorem dX5_childOrEnd_12 : decode cX5_childOrEnd 12 = .ok (.istore 5, 2) := by decide +kernel
theorem dX5_childOrEnd_14 : decode cX5_childOrEnd 14 = .ok (.iload 5, 2) := by decide +kernel
theorem dX5_childOrEnd_16 : decode cX5_childOrEnd 16 = .ok (.iload 4, 2) := by decide +kernel
theorem dX5_childOrEnd_18 : decode cX5_childOrEnd 18 = .ok (.if_icmp .ge 38, 3) := by decide +kernel
theorem dX5_childOrEnd_21 : decode cX5_childOrEnd 21 = .ok (.aload_n 0, 1) := by decide +kernel
theorem dX5_childOrEnd_22 : decode cX5_childOrEnd 22 = .ok (.getfield 7, 3) := by decide +kernel
theorem dX5_childOrEnd_25 : decode cX5_childOrEnd 25 = .ok (.iload 5, 2) := by decide +kernel
theorem dX5_childOrEnd_27 : decode cX5_childOrEnd 27 = .ok (.iaload, 1) := by decide +kernel
theorem dX5_childOrEnd_28 : decode cX5_childOrEnd 28 = .ok (.aload_n 0, 1) := by decide +kernel
theorem dX5_childOrEnd_29 : decode cX5_childOrEnd 29 = .ok (.getfield 7, 3) := by decide +kernel
theorem dX5_childOrEnd_32 : decode cX5_childOrEnd 32 = .ok (.iload_n 1, 1) := by decide +kernel
theorem dX5_childOrEnd_33 : decode cX5_childOrEnd 33 = .ok (.iaload, 1) := by decide +kernel
theorem dX5_childOrEnd_34 : decode cX5_childOrEnd 34 = .ok (.iconst 1, 1) := by decide +kernel
theorem dX5_childOrEnd_35 : decode cX5_childOrEnd 35 = .ok (.iadd, 1) := by decide +kernel
theorem dX5_childOrEnd_36 : decode cX5_childOrEnd 36 = .ok (.if_icmp .ne 14, 3) := by decide +kernel
theorem dX5_childOrEnd_39 : decode cX5_childOrEnd 39 = .ok (.iload_n 3, 1) := by decide +kernel
theorem dX5_childOrEnd_40 : decode cX5_childOrEnd 40 = .ok (.iload_n 2, 1) := by decide +kernel
theorem dX5_childOrEnd_41 : decode cX5_childOrEnd 41 = .ok (.if_icmp .ne 6, 3) := by decide +kernel
theorem dX5_childOrEnd_44 : decode cX5_childOrEnd 44 = .ok (.iload 5, 2) := by decide +kernel
theorem dX5_childOrEnd_46 : decode cX5_childOrEnd 46 = .ok (.ireturn, 1) := by decide +kernel
theorem dX5_childOrEnd_47 : decode cX5_childOrEnd 47 = .ok (.iinc 3 1, 3) := by decide +kernel
theorem dX5_childOrEnd_50 : decode cX5_childOrEnd 50 = .ok (.iinc 5 1, 3) := by decide +kernel
theorem dX5_childOrEnd_53 : decode cX5_childOrEnd 53 = .ok (.goto (-39), 3) := by decide +kernel
theorem dX5_childOrEnd_56 : decode cX5_childOrEnd 56 = .ok (.iload 4, 2) := by decide +kernel
theorem dX5_childOrEnd_58 : decode cX5_childOrEnd 58 = .ok (.ireturn, 1) := by decide +kernel
set_option maxRecDepth 20000 in
theorem ggX5_heightOf_X5_behind : GoodIn wsX5_heightOf wsX5_behind := goodIn_r _ [6, 7, 1, 8, 9, 10, 11, 12, 13, 14, 15, 16, 17] (by decide +kernel) (by decide +kernel)
set_option maxRecDepth 20000 in
theorem gX5_heightOf_X5_behind : GoodIn wsX5_heightOf (wsV RX5 61 RX5 yX5_behind wsX5_behind) := goodIn_app (goodIn_of _ (by decide +kernel)) ggX5_heightOf_X5_behind
theorem dX5_heightOf_0 : decode cX5_heightOf 0 = .ok (.aload_n 0, 1) := by decide +kernel
theorem dX5_heightOf_1 : decode cX5_heightOf 1 = .ok (.getfield 7, 3) := by decide +kernel
theorem dX5_heightOf_4 : decode cX5_heightOf 4 = .ok (.iload_n 1, 1) := by decide +kernel
theorem dX5_heightOf_5 : decode cX5_heightOf 5 = .ok (.iaload, 1) := by decide +kernel
theorem dX5_heightOf_6 : decode cX5_heightOf 6 = .ok (.istore_n 2, 1) := by decide +kernel
theorem dX5_heightOf_7 : decode cX5_heightOf 7 = .ok (.iload_n 1, 1) := by decide +kernel
theorem dX5_heightOf_8 : decode cX5_heightOf 8 = .ok (.istore_n 3, 1) := by decide +kernel
theorem dX5_heightOf_9 : decode cX5_heightOf 9 = .ok (.iload_n 3, 1) := by decide +kernel
theorem dX5_heightOf_10 : decode cX5_heightOf 10 = .ok (.aload_n 0, 1) := by decide +kernel
theorem dX5_heightOf_11 : decode cX5_heightOf 11 = .ok (.iload_n 1, 1) := by decide +kernel
theorem dX5_heightOf_12 : decode cX5_heightOf 12 = .ok (.invokevirtual 61, 3) := by decide +kernel
theorem dX5_heightOf_15 : decode cX5_heightOf 15 = .ok (.if_icmp .ge 30, 3) := by decide +kernel
theorem dX5_heightOf_18 : decode cX5_heightOf 18 = .ok (.aload_n 0, 1) := by decide +kernel
theorem dX5_heightOf_19 : decode cX5_heightOf 19 = .ok (.getfield 7, 3) := by decide +kernel
theorem dX5_heightOf_22 : decode cX5_heightOf 22 = .ok (.iload_n 3, 1) := by decide +kernel
theorem dX5_heightOf_23 : decode cX5_heightOf 23 = .ok (.iaload, 1) := by decide +kernel
theorem dX5_heightOf_24 : decode cX5_heightOf 24 = .ok (.iload_n 2, 1) := by decide +kernel
theorem dX5_heightOf_25 : decode cX5_heightOf 25 = .ok (.if_icmp .le 12, 3) := by decide +kernel
theorem dX5_heightOf_28 : decode cX5_heightOf 28 = .ok (.aload_n 0, 1) := by decide +kernel
theorem dX5_heightOf_29 : decode cX5_heightOf 29 = .ok (.getfield 7, 3) := by decide +kernel
theorem dX5_heightOf_32 : decode cX5_heightOf 32 = .ok (.iload_n 3, 1) := by decide +kernel
theorem dX5_heightOf_33 : decode cX5_heightOf 33 = .ok (.iaload, 1) := by decide +kernel
theorem dX5_heightOf_34 : decode cX5_heightOf 34 = .ok (.goto 4, 3) := by decide +kernel
theorem dX5_heightOf_37 : decode cX5_heightOf 37 = .ok (.iload_n 2, 1) := by decide +kernel
theorem dX5_heightOf_38 : decode cX5_heightOf 38 = .ok (.istore_n 2, 1) := by decide +kernel
theorem dX5_heightOf_39 : decode cX5_heightOf 39 = .ok (.iinc 3 1, 3) := by decide +kernel
theorem dX5_heightOf_42 : decode cX5_heightOf 42 = .ok (.goto (-33), 3) := by decide +kernel
theorem dX5_heightOf_45 : decode cX5_heightOf 45 = .ok (.iload_n 2, 1) := by decide +kernel
theorem dX5_heightOf_46 : decode cX5_heightOf 46 = .ok (.aload_n 0, 1) := by decide +kernel
theorem dX5_heightOf_47 : decode cX5_heightOf 47 = .ok (.getfield 7, 3) := by decide +kernel
theorem dX5_heightOf_50 : decode cX5_heightOf 50 = .ok (.iload_n 1, 1) := by decide +kernel
theorem dX5_heightOf_51 : decode cX5_heightOf 51 = .ok (.iaload, 1) := by decide +kernel
theorem dX5_heightOf_52 : decode cX5_heightOf 52 = .ok (.isub, 1) := by decide +kernel
theorem dX5_heightOf_53 : decode cX5_heightOf 53 = .ok (.ireturn, 1) := by decide +kernel
theorem dX5_sibling_0 : decode cX5_sibling 0 = .ok (.iload_n 1, 1) := by decide +kernel
theorem dX5_sibling_1 : decode cX5_sibling 1 = .ok (.iconst 1, 1) := by decide +kernel
theorem dX5_sibling_2 : decode cX5_sibling 2 = .ok (.isub, 1) := by decide +kernel
theorem dX5_sibling_3 : decode cX5_sibling 3 = .ok (.istore_n 2, 1) := by decide +kernel
theorem dX5_sibling_4 : decode cX5_sibling 4 = .ok (.iload_n 2, 1) := by decide +kernel
theorem dX5_sibling_5 : decode cX5_sibling 5 = .ok (.ifCond .lt 24, 3) := by decide +kernel
theorem dX5_sibling_8 : decode cX5_sibling 8 = .ok (.aload_n 0, 1) := by decide +kernel
theorem dX5_sibling_9 : decode cX5_sibling 9 = .ok (.getfield 7, 3) := by decide +kernel
theorem dX5_sibling_12 : decode cX5_sibling 12 = .ok (.iload_n 2, 1) := by decide +kernel
theorem dX5_sibling_13 : decode cX5_sibling 13 = .ok (.iaload, 1) := by decide +kernel
theorem dX5_sibling_14 : decode cX5_sibling 14 = .ok (.aload_n 0, 1) := by decide +kernel
theorem dX5_sibling_15 : decode cX5_sibling 15 = .ok (.getfield 7, 3) := by decide +kernel
theorem dX5_sibling_18 : decode cX5_sibling 18 = .ok (.iload_n 1, 1) := by decide +kernel
theorem dX5_sibling_19 : decode cX5_sibling 19 = .ok (.iaload, 1) := by decide +kernel
theorem dX5_sibling_20 : decode cX5_sibling 20 = .ok (.if_icmp .le 9, 3) := by decide +kernel
theorem dX5_sibling_23 : decode cX5_sibling 23 = .ok (.iinc 2 (-1), 3) := by decide +kernel
theorem dX5_sibling_26 : decode cX5_sibling 26 = .ok (.goto (-22), 3) := by decide +kernel
theorem dX5_sibling_29 : decode cX5_sibling 29 = .ok (.iload_n 2, 1) := by decide +kernel
theorem dX5_sibling_30 : decode cX5_sibling 30 = .ok (.ifCond .lt 22, 3) := by decide +kernel
theorem dX5_sibling_33 : decode cX5_sibling 33 = .ok (.aload_n 0, 1) := by decide +kernel
theorem dX5_sibling_34 : decode cX5_sibling 34 = .ok (.getfield 7, 3) := by decide +kernel
theorem dX5_sibling_37 : decode cX5_sibling 37 = .ok (.iload_n 2, 1) := by decide +kernel
theorem dX5_sibling_38 : decode cX5_sibling 38 = .ok (.iaload, 1) := by decide +kernel
theorem dX5_sibling_39 : decode cX5_sibling 39 = .ok (.aload_n 0, 1) := by decide +kernel
theorem dX5_sibling_40 : decode cX5_sibling 40 = .ok (.getfield 7, 3) := by decide +kernel
theorem dX5_sibling_43 : decode cX5_sibling 43 = .ok (.iload_n 1, 1) := by decide +kernel
theorem dX5_sibling_44 : decode cX5_sibling 44 = .ok (.iaload, 1) := by decide +kernel
theorem dX5_sibling_45 : decode cX5_sibling 45 = .ok (.if_icmp .ne 7, 3) := by decide +kernel
theorem dX5_sibling_48 : decode cX5_sibling 48 = .ok (.iload_n 2, 1) := by decide +kernel
theorem dX5_sibling_49 : decode cX5_sibling 49 = .ok (.goto 5, 3) := by decide +kernel
theorem dX5_sibling_52 : decode cX5_sibling 52 = .ok (.bipush (-5), 2) := by decide +kernel
theorem dX5_sibling_54 : decode cX5_sibling 54 = .ok (.ireturn, 1) := by decide +kernel
set_option maxRecDepth 20000 in
theorem ggX5_placeOf_X5_sibling : GoodIn wsX5_placeOf wsX5_sibling := goodIn_r _ [5, 6, 7, 8, 9, 10, 11, 12, 13, 14, 15, 16] (by decide +kernel) (by decide +kernel)
set_option maxRecDepth 20000 in
theorem gX5_placeOf_X5_sibling : GoodIn wsX5_placeOf (wsV RX5 64 RX5 yX5_sibling wsX5_sibling) := goodIn_app (goodIn_of _ (by decide +kernel)) ggX5_placeOf_X5_sibling
theorem dX5_placeOf_0 : decode cX5_placeOf 0 = .ok (.iconst 0, 1) := by decide +kernel
theorem dX5_placeOf_1 : decode cX5_placeOf 1 = .ok (.istore_n 2, 1) := by decide +kernel
theorem dX5_placeOf_2 : decode cX5_placeOf 2 = .ok (.aload_n 0, 1) := by decide +kernel
theorem dX5_placeOf_3 : decode cX5_placeOf 3 = .ok (.iload_n 1, 1) := by decide +kernel
theorem dX5_placeOf_4 : decode cX5_placeOf 4 = .ok (.invokevirtual 64, 3) := by decide +kernel
theorem dX5_placeOf_7 : decode cX5_placeOf 7 = .ok (.istore_n 3, 1) := by decide +kernel
theorem dX5_placeOf_8 : decode cX5_placeOf 8 = .ok (.iload_n 3, 1) := by decide +kernel
theorem dX5_placeOf_9 : decode cX5_placeOf 9 = .ok (.ifCond .lt 15, 3) := by decide +kernel
theorem dX5_placeOf_12 : decode cX5_placeOf 12 = .ok (.iinc 2 1, 3) := by decide +kernel
theorem dX5_placeOf_15 : decode cX5_placeOf 15 = .ok (.aload_n 0, 1) := by decide +kernel
theorem dX5_placeOf_16 : decode cX5_placeOf 16 = .ok (.iload_n 3, 1) := by decide +kernel
theorem dX5_placeOf_17 : decode cX5_placeOf 17 = .ok (.invokevirtual 64, 3) := by decide +kernel
theorem dX5_placeOf_20 : decode cX5_placeOf 20 = .ok (.istore_n 3, 1) := by decide +kernel
theorem dX5_placeOf_21 : decode cX5_placeOf 21 = .ok (.goto (-13), 3) := by decide +kernel
theorem dX5_placeOf_24 : decode cX5_placeOf 24 = .ok (.iload_n 2, 1) := by decide +kernel
theorem dX5_placeOf_25 : decode cX5_placeOf 25 = .ok (.ireturn, 1) := by decide +kernel
set_option maxRecDepth 20000 in
theorem ggX5_leaves_X5_behind : GoodIn wsX5_leaves wsX5_behind := goodIn_r _ [5, 6, 7, 12, 13, 14, 15, 16, 17, 18, 19, 20, 21] (by decide +kernel) (by decide +kernel)
set_option maxRecDepth 20000 in
theorem gX5_leaves_X5_behind : GoodIn wsX5_leaves (wsV RX5 61 RX5 yX5_behind wsX5_behind) := goodIn_app (goodIn_of _ (by decide +kernel)) ggX5_leaves_X5_behind
set_option maxRecDepth 20000 in
theorem ggX5_leaves_X5_isLeaf : GoodIn wsX5_leaves wsX5_isLeaf := goodIn_r _ [11, 6, 7, 12, 13, 14, 15, 16, 17, 18, 19, 20, 21] (by decide +kernel) (by decide +kernel)
set_option maxRecDepth 20000 in
theorem gX5_leaves_X5_isLeaf : GoodIn wsX5_leaves (wsV RX5 53 RX5 yX5_isLeaf wsX5_isLeaf) := goodIn_app (goodIn_of _ (by decide +kernel)) ggX5_leaves_X5_isLeaf
theorem dX5_leaves_0 : decode cX5_leaves 0 = .ok (.iconst 0, 1) := by decide +kernel
theorem dX5_leaves_1 : decode cX5_leaves 1 = .ok (.istore_n 2, 1) := by decide +kernel
theorem dX5_leaves_2 : decode cX5_leaves 2 = .ok (.iload_n 1, 1) := by decide +kernel
theorem dX5_leaves_3 : decode cX5_leaves 3 = .ok (.istore_n 3, 1) := by decide +kernel
theorem dX5_leaves_4 : decode cX5_leaves 4 = .ok (.iload_n 3, 1) := by decide +kernel
theorem dX5_leaves_5 : decode cX5_leaves 5 = .ok (.aload_n 0, 1) := by decide +kernel
theorem dX5_leaves_6 : decode cX5_leaves 6 = .ok (.iload_n 1, 1) := by decide +kernel
theorem dX5_leaves_7 : decode cX5_leaves 7 = .ok (.invokevirtual 61, 3) := by decide +kernel
theorem dX5_leaves_10 : decode cX5_leaves 10 = .ok (.if_icmp .ge 25, 3) := by decide +kernel
theorem dX5_leaves_13 : decode cX5_leaves 13 = .ok (.iload_n 2, 1) := by decide +kernel
theorem dX5_leaves_14 : decode cX5_leaves 14 = .ok (.aload_n 0, 1) := by decide +kernel
theorem dX5_leaves_15 : decode cX5_leaves 15 = .ok (.iload_n 3, 1) := by decide +kernel
theorem dX5_leaves_16 : decode cX5_leaves 16 = .ok (.invokevirtual 53, 3) := by decide +kernel
theorem dX5_leaves_19 : decode cX5_leaves 19 = .ok (.ifCond .eq 7, 3) := by decide +kernel
theorem dX5_leaves_22 : decode cX5_leaves 22 = .ok (.iconst 1, 1) := by decide +kernel
theorem dX5_leaves_23 : decode cX5_leaves 23 = .ok (.goto 4, 3) := by decide +kernel
theorem dX5_leaves_26 : decode cX5_leaves 26 = .ok (.iconst 0, 1) := by decide +kernel
theorem dX5_leaves_27 : decode cX5_leaves 27 = .ok (.iadd, 1) := by decide +kernel
theorem dX5_leaves_28 : decode cX5_leaves 28 = .ok (.istore_n 2, 1) := by decide +kernel
theorem dX5_leaves_29 : decode cX5_leaves 29 = .ok (.iinc 3 1, 3) := by decide +kernel
theorem dX5_leaves_32 : decode cX5_leaves 32 = .ok (.goto (-28), 3) := by decide +kernel
theorem dX5_leaves_35 : decode cX5_leaves 35 = .ok (.iload_n 2, 1) := by decide +kernel
theorem dX5_leaves_36 : decode cX5_leaves 36 = .ok (.ireturn, 1) := by decide +kernel
theorem dX5_opening_0 : decode cX5_opening 0 = .ok (.iconst 2, 1) := by decide +kernel
theorem dX5_opening_1 : decode cX5_opening 1 = .ok (.iload_n 1, 1) := by decide +kernel
theorem dX5_opening_2 : decode cX5_opening 2 = .ok (.imul, 1) := by decide +kernel
theorem dX5_opening_3 : decode cX5_opening 3 = .ok (.aload_n 0, 1) := by decide +kernel
theorem dX5_opening_4 : decode cX5_opening 4 = .ok (.getfield 7, 3) := by decide +kernel
theorem dX5_opening_7 : decode cX5_opening 7 = .ok (.iload_n 1, 1) := by decide +kernel
theorem dX5_opening_8 : decode cX5_opening 8 = .ok (.iaload, 1) := by decide +kernel
theorem dX5_opening_9 : decode cX5_opening 9 = .ok (.isub, 1) := by decide +kernel
theorem dX5_opening_10 : decode cX5_opening 10 = .ok (.ireturn, 1) := by decide +kernel
set_option maxRecDepth 20000 in
theorem ggX5_closing_X5_opening : GoodIn wsX5_closing wsX5_opening := goodIn_r _ [5, 6, 12, 13, 14, 15, 16, 17, 18, 19, 20, 21] (by decide +kernel) (by decide +kernel)
set_option maxRecDepth 20000 in
theorem gX5_closing_X5_opening : GoodIn wsX5_closing (wsV RX5 67 RX5 yX5_opening wsX5_opening) := goodIn_app (goodIn_of _ (by decide +kernel)) ggX5_closing_X5_opening
set_option maxRecDepth 20000 in
theorem ggX5_closing_X5_behind : GoodIn wsX5_closing wsX5_behind := goodIn_r _ [10, 11, 6, 12, 13, 14, 15, 16, 17, 18, 19, 20, 21] (by decide +kernel) (by decide +kernel)
set_option maxRecDepth 20000 in
theorem gX5_closing_X5_behind : GoodIn wsX5_closing (wsV RX5 61 RX5 yX5_behind wsX5_behind) := goodIn_app (goodIn_of _ (by decide +kernel)) ggX5_closing_X5_behind
theorem dX5_closing_0 : decode cX5_closing 0 = .ok (.aload_n 0, 1) := by decide +kernel
theorem dX5_closing_1 : decode cX5_closing 1 = .ok (.iload_n 1, 1) := by decide +kernel
theorem dX5_closing_2 : decode cX5_closing 2 = .ok (.invokevirtual 67, 3) := by decide +kernel
theorem dX5_closing_5 : decode cX5_closing 5 = .ok (.iconst 2, 1) := by decide +kernel
theorem dX5_closing_6 : decode cX5_closing 6 = .ok (.aload_n 0, 1) := by decide +kernel
theorem dX5_closing_7 : decode cX5_closing 7 = .ok (.iload_n 1, 1) := by decide +kernel
theorem dX5_closing_8 : decode cX5_closing 8 = .ok (.invokevirtual 61, 3) := by decide +kernel
theorem dX5_closing_11 : decode cX5_closing 11 = .ok (.iload_n 1, 1) := by decide +kernel
theorem dX5_closing_12 : decode cX5_closing 12 = .ok (.isub, 1) := by decide +kernel
theorem dX5_closing_13 : decode cX5_closing 13 = .ok (.imul, 1) := by decide +kernel
theorem dX5_closing_14 : decode cX5_closing 14 = .ok (.iadd, 1) := by decide +kernel
theorem dX5_closing_15 : decode cX5_closing 15 = .ok (.iconst 1, 1) := by decide +kernel
theorem dX5_closing_16 : decode cX5_closing 16 = .ok (.isub, 1) := by decide +kernel
theorem dX5_closing_17 : decode cX5_closing 17 = .ok (.ireturn, 1) := by decide +kernel
set_option maxRecDepth 20000 in
theorem ggX5_rankOf_X5_behind : GoodIn wsX5_rankOf wsX5_behind := goodIn_r _ [6, 7, 1, 8, 9, 10, 11, 12, 13, 14, 15, 16, 17] (by decide +kernel) (by decide +kernel)
set_option maxRecDepth 20000 in
theorem gX5_rankOf_X5_behind : GoodIn wsX5_rankOf (wsV RX5 61 RX5 yX5_behind wsX5_behind) := goodIn_app (goodIn_of _ (by decide +kernel)) ggX5_rankOf_X5_behind
theorem dX5_rankOf_0 : decode cX5_rankOf 0 = .ok (.aload_n 0, 1) := by decide +kernel
theorem dX5_rankOf_1 : decode cX5_rankOf 1 = .ok (.iload_n 1, 1) := by decide +kernel
theorem dX5_rankOf_2 : decode cX5_rankOf 2 = .ok (.invokevirtual 61, 3) := by decide +kernel
theorem dX5_rankOf_5 : decode cX5_rankOf 5 = .ok (.iconst 1, 1) := by decide +kernel
theorem dX5_rankOf_6 : decode cX5_rankOf 6 = .ok (.isub, 1) := by decide +kernel
theorem dX5_rankOf_7 : decode cX5_rankOf 7 = .ok (.aload_n 0, 1) := by decide +kernel
theorem dX5_rankOf_8 : decode cX5_rankOf 8 = .ok (.getfield 7, 3) := by decide +kernel
theorem dX5_rankOf_11 : decode cX5_rankOf 11 = .ok (.iload_n 1, 1) := by decide +kernel
theorem dX5_rankOf_12 : decode cX5_rankOf 12 = .ok (.iaload, 1) := by decide +kernel
theorem dX5_rankOf_13 : decode cX5_rankOf 13 = .ok (.isub, 1) := by decide +kernel
theorem dX5_rankOf_14 : decode cX5_rankOf 14 = .ok (.ireturn, 1) := by decide +kernel
set_option maxRecDepth 20000 in
theorem ggX5_node_X5_noNode : GoodIn wsX5_node wsX5_noNode := goodIn_r _ [7, 8, 9, 10, 6, 11, 56, 57, 58, 59, 60, 61, 62, 63, 64, 65] (by decide +kernel) (by decide +kernel)
set_option maxRecDepth 20000 in
theorem gX5_node_X5_noNode : GoodIn wsX5_node (wsV RX5 70 RX5 yX5_noNode wsX5_noNode) := goodIn_app (goodIn_of _ (by decide +kernel)) ggX5_node_X5_noNode
set_option maxRecDepth 20000 in
theorem ggX5_node_X5_parentOf : GoodIn wsX5_node wsX5_parentOf := goodIn_r _ [15, 1, 56, 57, 58, 59, 60, 61, 62, 63, 64, 65] (by decide +kernel) (by decide +kernel)
set_option maxRecDepth 20000 in
theorem gX5_node_X5_parentOf : GoodIn wsX5_node (wsV RX5 73 RX5 yX5_parentOf wsX5_parentOf) := goodIn_app (goodIn_of _ (by decide +kernel)) ggX5_node_X5_parentOf
set_option maxRecDepth 20000 in
theorem ggX5_node_X5_childCount : GoodIn wsX5_node wsX5_childCount := goodIn_r _ [19, 1, 20, 21, 22, 6, 23, 8, 56, 57, 58, 59, 60, 61, 62, 63, 64, 65] (by decide +kernel) (by decide +kernel)
set_option maxRecDepth 20000 in
theorem gX5_node_X5_childCount : GoodIn wsX5_node (wsV RX5 76 RX5 yX5_childCount wsX5_childCount) := goodIn_app (goodIn_of _ (by decide +kernel)) ggX5_node_X5_childCount
set_option maxRecDepth 20000 in
theorem ggX5_node_X5_behind : GoodIn wsX5_node wsX5_behind := goodIn_r _ [23, 8, 1, 56, 57, 58, 59, 60, 61, 62, 63, 64, 65] (by decide +kernel) (by decide +kernel)
set_option maxRecDepth 20000 in
theorem gX5_node_X5_behind : GoodIn wsX5_node (wsV RX5 61 RX5 yX5_behind wsX5_behind) := goodIn_app (goodIn_of _ (by decide +kernel)) ggX5_node_X5_behind
set_option maxRecDepth 20000 in
theorem ggX5_node_X5_heightOf : GoodIn wsX5_node wsX5_heightOf := goodIn_r _ [27, 1, 20, 21, 22, 6, 23, 8, 56, 57, 58, 59, 60, 61, 62, 63, 64, 65] (by decide +kernel) (by decide +kernel)
set_option maxRecDepth 20000 in
theorem gX5_node_X5_heightOf : GoodIn wsX5_node (wsV RX5 79 RX5 yX5_heightOf wsX5_heightOf) := goodIn_app (goodIn_of _ (by decide +kernel)) ggX5_node_X5_heightOf
set_option maxRecDepth 20000 in
theorem ggX5_node_X5_placeOf : GoodIn wsX5_node wsX5_placeOf := goodIn_r _ [31, 32, 33, 34, 6, 35, 1, 56, 57, 58, 59, 60, 61, 62, 63, 64, 65] (by decide +kernel) (by decide +kernel)
set_option maxRecDepth 20000 in
theorem gX5_node_X5_placeOf : GoodIn wsX5_node (wsV RX5 82 RX5 yX5_placeOf wsX5_placeOf) := goodIn_app (goodIn_of _ (by decide +kernel)) ggX5_node_X5_placeOf
set_option maxRecDepth 20000 in
theorem ggX5_node_X5_leaves : GoodIn wsX5_node wsX5_leaves := goodIn_r _ [39, 20, 21, 22, 6, 23, 8, 1, 40, 41, 42, 43, 56, 57, 58, 59, 60, 61, 62, 63, 64, 65] (by decide +kernel) (by decide +kernel)
set_option maxRecDepth 20000 in
theorem gX5_node_X5_leaves : GoodIn wsX5_node (wsV RX5 85 RX5 yX5_leaves wsX5_leaves) := goodIn_app (goodIn_of _ (by decide +kernel)) ggX5_node_X5_leaves
set_option maxRecDepth 20000 in
theorem ggX5_node_X5_opening : GoodIn wsX5_node wsX5_opening := goodIn_r _ [47, 1, 56, 57, 58, 59, 60, 61, 62, 63, 64, 65] (by decide +kernel) (by decide +kernel)
set_option maxRecDepth 20000 in
theorem gX5_node_X5_opening : GoodIn wsX5_node (wsV RX5 67 RX5 yX5_opening wsX5_opening) := goodIn_app (goodIn_of _ (by decide +kernel)) ggX5_node_X5_opening
set_option maxRecDepth 20000 in
theorem ggX5_node_X5_closing : GoodIn wsX5_node wsX5_closing := goodIn_r _ [51, 44, 45, 46, 6, 47, 1, 20, 21, 22, 23, 8, 56, 57, 58, 59, 60, 61, 62, 63, 64, 65] (by decide +kernel) (by decide +kernel)
set_option maxRecDepth 20000 in
theorem gX5_node_X5_closing : GoodIn wsX5_node (wsV RX5 88 RX5 yX5_closing wsX5_closing) := goodIn_app (goodIn_of _ (by decide +kernel)) ggX5_node_X5_closing
set_option maxRecDepth 20000 in
theorem ggX5_node_X5_rankOf : GoodIn wsX5_node wsX5_rankOf := goodIn_r _ [55, 1, 20, 21, 22, 6, 23, 8, 56, 57, 58, 59, 60, 61, 62, 63, 64, 65] (by decide +kernel) (by decide +kernel)
set_option maxRecDepth 20000 in
theorem gX5_node_X5_rankOf : GoodIn wsX5_node (wsV RX5 91 RX5 yX5_rankOf wsX5_rankOf) := goodIn_app (goodIn_of _ (by decide +kernel)) ggX5_node_X5_rankOf
theorem dX5_node_0 : decode cX5_node 0 = .ok (.aload_n 0, 1) := by decide +kernel
theorem dX5_node_1 : decode cX5_node 1 = .ok (.iload_n 1, 1) := by decide +kernel
theorem dX5_node_2 : decode cX5_node 2 = .ok (.invokevirtual 70, 3) := by decide +kernel
theorem dX5_node_5 : decode cX5_node 5 = .ok (.ifCond .eq 5, 3) := by decide +kernel
theorem dX5_node_8 : decode cX5_node 8 = .ok (.iconst (-1), 1) := by decide +kernel
theorem dX5_node_9 : decode cX5_node 9 = .ok (.ireturn, 1) := by decide +kernel
theorem dX5_node_10 : decode cX5_node 10 = .ok (.iload_n 2, 1) := by decide +kernel
theorem dX5_node_11 : decode cX5_node 11 = .ok (.tableswitch 127 0 10 #[57, 64, 70, 76, 84, 90, 96, 102, 108, 114, 120], 57) := by decide +kernel
theorem dX5_node_68 : decode cX5_node 68 = .ok (.aload_n 0, 1) := by decide +kernel
theorem dX5_node_69 : decode cX5_node 69 = .ok (.getfield 7, 3) := by decide +kernel
theorem dX5_node_72 : decode cX5_node 72 = .ok (.iload_n 1, 1) := by decide +kernel
theorem dX5_node_73 : decode cX5_node 73 = .ok (.iaload, 1) := by decide +kernel
theorem dX5_node_74 : decode cX5_node 74 = .ok (.ireturn, 1) := by decide +kernel
theorem dX5_node_75 : decode cX5_node 75 = .ok (.aload_n 0, 1) := by decide +kernel
theorem dX5_node_76 : decode cX5_node 76 = .ok (.iload_n 1, 1) := by decide +kernel
theorem dX5_node_77 : decode cX5_node 77 = .ok (.invokevirtual 73, 3) := by decide +kernel
theorem dX5_node_80 : decode cX5_node 80 = .ok (.ireturn, 1) := by decide +kernel
theorem dX5_node_81 : decode cX5_node 81 = .ok (.aload_n 0, 1) := by decide +kernel
theorem dX5_node_82 : decode cX5_node 82 = .ok (.iload_n 1, 1) := by decide +kernel
theorem dX5_node_83 : decode cX5_node 83 = .ok (.invokevirtual 76, 3) := by decide +kernel
theorem dX5_node_86 : decode cX5_node 86 = .ok (.ireturn, 1) := by decide +kernel
theorem dX5_node_87 : decode cX5_node 87 = .ok (.aload_n 0, 1) := by decide +kernel
theorem dX5_node_88 : decode cX5_node 88 = .ok (.iload_n 1, 1) := by decide +kernel
theorem dX5_node_89 : decode cX5_node 89 = .ok (.invokevirtual 61, 3) := by decide +kernel
theorem dX5_node_92 : decode cX5_node 92 = .ok (.iload_n 1, 1) := by decide +kernel
theorem dX5_node_93 : decode cX5_node 93 = .ok (.isub, 1) := by decide +kernel
theorem dX5_node_94 : decode cX5_node 94 = .ok (.ireturn, 1) := by decide +kernel
theorem dX5_node_95 : decode cX5_node 95 = .ok (.aload_n 0, 1) := by decide +kernel
theorem dX5_node_96 : decode cX5_node 96 = .ok (.iload_n 1, 1) := by decide +kernel
theorem dX5_node_97 : decode cX5_node 97 = .ok (.invokevirtual 79, 3) := by decide +kernel
theorem dX5_node_100 : decode cX5_node 100 = .ok (.ireturn, 1) := by decide +kernel
theorem dX5_node_101 : decode cX5_node 101 = .ok (.aload_n 0, 1) := by decide +kernel
theorem dX5_node_102 : decode cX5_node 102 = .ok (.iload_n 1, 1) := by decide +kernel
theorem dX5_node_103 : decode cX5_node 103 = .ok (.invokevirtual 82, 3) := by decide +kernel
theorem dX5_node_106 : decode cX5_node 106 = .ok (.ireturn, 1) := by decide +kernel
theorem dX5_node_107 : decode cX5_node 107 = .ok (.aload_n 0, 1) := by decide +kernel
theorem dX5_node_108 : decode cX5_node 108 = .ok (.iload_n 1, 1) := by decide +kernel
theorem dX5_node_109 : decode cX5_node 109 = .ok (.invokevirtual 85, 3) := by decide +kernel
theorem dX5_node_112 : decode cX5_node 112 = .ok (.ireturn, 1) := by decide +kernel
theorem dX5_node_113 : decode cX5_node 113 = .ok (.aload_n 0, 1) := by decide +kernel
theorem dX5_node_114 : decode cX5_node 114 = .ok (.iload_n 1, 1) := by decide +kernel
theorem dX5_node_115 : decode cX5_node 115 = .ok (.invokevirtual 67, 3) := by decide +kernel
theorem dX5_node_118 : decode cX5_node 118 = .ok (.ireturn, 1) := by decide +kernel
theorem dX5_node_119 : decode cX5_node 119 = .ok (.aload_n 0, 1) := by decide +kernel
theorem dX5_node_120 : decode cX5_node 120 = .ok (.iload_n 1, 1) := by decide +kernel
theorem dX5_node_121 : decode cX5_node 121 = .ok (.invokevirtual 88, 3) := by decide +kernel
theorem dX5_node_124 : decode cX5_node 124 = .ok (.ireturn, 1) := by decide +kernel
theorem dX5_node_125 : decode cX5_node 125 = .ok (.aload_n 0, 1) := by decide +kernel
theorem dX5_node_126 : decode cX5_node 126 = .ok (.iload_n 1, 1) := by decide +kernel
theorem dX5_node_127 : decode cX5_node 127 = .ok (.invokevirtual 91, 3) := by decide +kernel
theorem dX5_node_130 : decode cX5_node 130 = .ok (.ireturn, 1) := by decide +kernel
theorem dX5_node_131 : decode cX5_node 131 = .ok (.aload_n 0, 1) := by decide +kernel
theorem dX5_node_132 : decode cX5_node 132 = .ok (.getfield 13, 3) := by decide +kernel
theorem dX5_node_135 : decode cX5_node 135 = .ok (.iload_n 1, 1) := by decide +kernel
theorem dX5_node_136 : decode cX5_node 136 = .ok (.caload, 1) := by decide +kernel
theorem dX5_node_137 : decode cX5_node 137 = .ok (.ireturn, 1) := by decide +kernel
theorem dX5_node_138 : decode cX5_node 138 = .ok (.bipush (-2), 2) := by decide +kernel
theorem dX5_node_140 : decode cX5_node 140 = .ok (.ireturn, 1) := by decide +kernel
set_option maxRecDepth 20000 in
theorem ggX5_child_X5_noNode : GoodIn wsX5_child wsX5_noNode := goodIn_r _ [5, 6, 7, 8, 4, 9, 23, 24, 25, 26, 27, 28, 29, 30, 31, 32] (by decide +kernel) (by decide +kernel)
set_option maxRecDepth 20000 in
theorem gX5_child_X5_noNode : GoodIn wsX5_child (wsV RX5 70 RX5 yX5_noNode wsX5_noNode) := goodIn_app (goodIn_of _ (by decide +kernel)) ggX5_child_X5_noNode
set_option maxRecDepth 20000 in
theorem ggX5_child_X5_childCount : GoodIn wsX5_child wsX5_childCount := goodIn_r _ [13, 14, 15, 16, 17, 4, 18, 6, 23, 24, 25, 26, 27, 28, 29, 30, 31, 32] (by decide +kernel) (by decide +kernel)
set_option maxRecDepth 20000 in
theorem gX5_child_X5_childCount : GoodIn wsX5_child (wsV RX5 76 RX5 yX5_childCount wsX5_childCount) := goodIn_app (goodIn_of _ (by decide +kernel)) ggX5_child_X5_childCount
set_option maxRecDepth 20000 in
theorem ggX5_child_X5_childOrEnd : GoodIn wsX5_child wsX5_childOrEnd := goodIn_r _ [22, 14, 15, 16, 17, 4, 18, 6, 23, 24, 25, 26, 27, 28, 29, 30, 31, 32] (by decide +kernel) (by decide +kernel)
set_option maxRecDepth 20000 in
theorem gX5_child_X5_childOrEnd : GoodIn wsX5_child (wsV RX5 94 RX5 yX5_childOrEnd wsX5_childOrEnd) := goodIn_app (goodIn_of _ (by decide +kernel)) ggX5_child_X5_childOrEnd
theorem dX5_child_0 : decode cX5_child 0 = .ok (.aload_n 0, 1) := by decide +kernel
theorem dX5_child_1 : decode cX5_child 1 = .ok (.iload_n 1, 1) := by decide +kernel
theorem dX5_child_2 : decode cX5_child 2 = .ok (.invokevirtual 70, 3) := by decide +kernel
theorem dX5_child_5 : decode cX5_child 5 = .ok (.ifCond .eq 5, 3) := by decide +kernel
theorem dX5_child_8 : decode cX5_child 8 = .ok (.iconst (-1), 1) := by decide +kernel
theorem dX5_child_9 : decode cX5_child 9 = .ok (.ireturn, 1) := by decide +kernel
theorem dX5_child_10 : decode cX5_child 10 = .ok (.iload_n 2, 1) := by decide +kernel
theorem dX5_child_11 : decode cX5_child 11 = .ok (.ifCond .ge 6, 3) := by decide +kernel
theorem dX5_child_14 : decode cX5_child 14 = .ok (.bipush (-2), 2) := by decide +kernel
theorem dX5_child_16 : decode cX5_child 16 = .ok (.ireturn, 1) := by decide +kernel
theorem dX5_child_17 : decode cX5_child 17 = .ok (.iload_n 2, 1) := by decide +kernel
theorem dX5_child_18 : decode cX5_child 18 = .ok (.aload_n 0, 1) := by decide +kernel
theorem dX5_child_19 : decode cX5_child 19 = .ok (.iload_n 1, 1) := by decide +kernel
theorem dX5_child_20 : decode cX5_child 20 = .ok (.invokevirtual 76, 3) := by decide +kernel
theorem dX5_child_23 : decode cX5_child 23 = .ok (.if_icmp .ge 12, 3) := by decide +kernel
theorem dX5_child_26 : decode cX5_child 26 = .ok (.aload_n 0, 1) := by decide +kernel
theorem dX5_child_27 : decode cX5_child 27 = .ok (.iload_n 1, 1) := by decide +kernel
theorem dX5_child_28 : decode cX5_child 28 = .ok (.iload_n 2, 1) := by decide +kernel
theorem dX5_child_29 : decode cX5_child 29 = .ok (.invokevirtual 94, 3) := by decide +kernel
theorem dX5_child_32 : decode cX5_child 32 = .ok (.goto 5, 3) := by decide +kernel
theorem dX5_child_35 : decode cX5_child 35 = .ok (.bipush (-5), 2) := by decide +kernel
theorem dX5_child_37 : decode cX5_child 37 = .ok (.ireturn, 1) := by decide +kernel
set_option maxRecDepth 20000 in
theorem ggX5_heaviest_X5_behind : GoodIn wsX5_heaviest wsX5_behind := goodIn_r _ [5, 6, 7, 8, 9, 10, 11, 12, 13, 14, 15, 16, 17] (by decide +kernel) (by decide +kernel)
set_option maxRecDepth 20000 in
theorem gX5_heaviest_X5_behind : GoodIn wsX5_heaviest (wsV RX5 61 RX5 yX5_behind wsX5_behind) := goodIn_app (goodIn_of _ (by decide +kernel)) ggX5_heaviest_X5_behind
theorem dX5_heaviest_0 : decode cX5_heaviest 0 = .ok (.bipush (-5), 2) := by decide +kernel
theorem dX5_heaviest_2 : decode cX5_heaviest 2 = .ok (.istore_n 2, 1) := by decide +kernel
theorem dX5_heaviest_3 : decode cX5_heaviest 3 = .ok (.iconst 0, 1) := by decide +kernel
theorem dX5_heaviest_4 : decode cX5_heaviest 4 = .ok (.istore_n 3, 1) := by decide +kernel
theorem dX5_heaviest_5 : decode cX5_heaviest 5 = .ok (.iload_n 1, 1) := by decide +kernel
theorem dX5_heaviest_6 : decode cX5_heaviest 6 = .ok (.iconst 1, 1) := by decide +kernel
theorem dX5_heaviest_7 : decode cX5_heaviest 7 = .ok (.iadd, 1) := by decide +kernel
theorem dX5_heaviest_8 : decode cX5_heaviest 8 = .ok (.istore 4, 2) := by decide +kernel
theorem dX5_heaviest_10 : decode cX5_heaviest 10 = .ok (.iload 4, 2) := by decide +kernel
theorem dX5_heaviest_12 : decode cX5_heaviest 12 = .ok (.aload_n 0, 1) := by decide +kernel
theorem dX5_heaviest_13 : decode cX5_heaviest 13 = .ok (.iload_n 1, 1) := by decide +kernel
theorem dX5_heaviest_14 : decode cX5_heaviest 14 = .ok (.invokevirtual 61, 3) := by decide +kernel
theorem dX5_heaviest_17 : decode cX5_heaviest 17 = .ok (.if_icmp .ge 51, 3) := by decide +kernel
theorem dX5_heaviest_20 : decode cX5_heaviest 20 = .ok (.aload_n 0, 1) := by decide +kernel
theorem dX5_heaviest_21 : decode cX5_heaviest 21 = .ok (.iload 4, 2) := by decide +kernel
theorem dX5_heaviest_23 : decode cX5_heaviest 23 = .ok (.invokevirtual 61, 3) := by decide +kernel
theorem dX5_heaviest_26 : decode cX5_heaviest 26 = .ok (.iload 4, 2) := by decide +kernel
theorem dX5_heaviest_28 : decode cX5_heaviest 28 = .ok (.isub, 1) := by decide +kernel
theorem dX5_heaviest_29 : decode cX5_heaviest 29 = .ok (.istore 5, 2) := by decide +kernel
theorem dX5_heaviest_31 : decode cX5_heaviest 31 = .ok (.iload 5, 2) := by decide +kernel
theorem dX5_heaviest_33 : decode cX5_heaviest 33 = .ok (.iload_n 3, 1) := by decide +kernel
theorem dX5_heaviest_34 : decode cX5_heaviest 34 = .ok (.if_icmp .le 8, 3) := by decide +kernel
theorem dX5_heaviest_37 : decode cX5_heaviest 37 = .ok (.iload 4, 2) := by decide +kernel
theorem dX5_heaviest_39 : decode cX5_heaviest 39 = .ok (.goto 4, 3) := by decide +kernel
theorem dX5_heaviest_42 : decode cX5_heaviest 42 = .ok (.iload_n 2, 1) := by decide +kernel
theorem dX5_heaviest_43 : decode cX5_heaviest 43 = .ok (.istore_n 2, 1) := by decide +kernel
theorem dX5_heaviest_44 : decode cX5_heaviest 44 = .ok (.iload 5, 2) := by decide +kernel
theorem dX5_heaviest_46 : decode cX5_heaviest 46 = .ok (.iload_n 3, 1) := by decide +kernel
theorem dX5_heaviest_47 : decode cX5_heaviest 47 = .ok (.if_icmp .le 8, 3) := by decide +kernel
theorem dX5_heaviest_50 : decode cX5_heaviest 50 = .ok (.iload 5, 2) := by decide +kernel
theorem dX5_heaviest_52 : decode cX5_heaviest 52 = .ok (.goto 4, 3) := by decide +kernel
theorem dX5_heaviest_55 : decode cX5_heaviest 55 = .ok (.iload_n 3, 1) := by decide +kernel
theorem dX5_heaviest_56 : decode cX5_heaviest 56 = .ok (.istore_n 3, 1) := by decide +kernel
theorem dX5_heaviest_57 : decode cX5_heaviest 57 = .ok (.aload_n 0, 1) := by decide +kernel
theorem dX5_heaviest_58 : decode cX5_heaviest 58 = .ok (.iload 4, 2) := by decide +kernel
theorem dX5_heaviest_60 : decode cX5_heaviest 60 = .ok (.invokevirtual 61, 3) := by decide +kernel
theorem dX5_heaviest_63 : decode cX5_heaviest 63 = .ok (.istore 4, 2) := by decide +kernel
theorem dX5_heaviest_65 : decode cX5_heaviest 65 = .ok (.goto (-55), 3) := by decide +kernel
theorem dX5_heaviest_68 : decode cX5_heaviest 68 = .ok (.iload_n 2, 1) := by decide +kernel
theorem dX5_heaviest_69 : decode cX5_heaviest 69 = .ok (.ireturn, 1) := by decide +kernel
set_option maxRecDepth 20000 in
theorem ggX5_levelMate_X5_in : GoodIn wsX5_levelMate wsX5_in := goodIn_r _ [6] (by decide +kernel) (by decide +kernel)
set_option maxRecDepth 20000 in
theorem gX5_levelMate_X5_in : GoodIn wsX5_levelMate (va_wsS RX5 36 yX5_in wsX5_in) := goodIn_app (goodIn_of _ (by decide +kernel)) ggX5_levelMate_X5_in
theorem dX5_levelMate_0 : decode cX5_levelMate 0 = .ok (.iload_n 1, 1) := by decide +kernel
theorem dX5_levelMate_1 : decode cX5_levelMate 1 = .ok (.iload_n 2, 1) := by decide +kernel
theorem dX5_levelMate_2 : decode cX5_levelMate 2 = .ok (.iadd, 1) := by decide +kernel
theorem dX5_levelMate_3 : decode cX5_levelMate 3 = .ok (.istore_n 3, 1) := by decide +kernel
theorem dX5_levelMate_4 : decode cX5_levelMate 4 = .ok (.iload_n 3, 1) := by decide +kernel
theorem dX5_levelMate_5 : decode cX5_levelMate 5 = .ok (.iconst 0, 1) := by decide +kernel
theorem dX5_levelMate_6 : decode cX5_levelMate 6 = .ok (.aload_n 0, 1) := by decide +kernel
theorem dX5_levelMate_7 : decode cX5_levelMate 7 = .ok (.getfield 29, 3) := by decide +kernel
theorem dX5_levelMate_10 : decode cX5_levelMate 10 = .ok (.iconst 1, 1) := by decide +kernel
theorem dX5_levelMate_11 : decode cX5_levelMate 11 = .ok (.isub, 1) := by decide +kernel
theorem dX5_levelMate_12 : decode cX5_levelMate 12 = .ok (.invokestatic 36, 3) := by decide +kernel
theorem dX5_levelMate_15 : decode cX5_levelMate 15 = .ok (.ifCond .eq 25, 3) := by decide +kernel
theorem dX5_levelMate_18 : decode cX5_levelMate 18 = .ok (.aload_n 0, 1) := by decide +kernel
theorem dX5_levelMate_19 : decode cX5_levelMate 19 = .ok (.getfield 7, 3) := by decide +kernel
theorem dX5_levelMate_22 : decode cX5_levelMate 22 = .ok (.iload_n 3, 1) := by decide +kernel
theorem dX5_levelMate_23 : decode cX5_levelMate 23 = .ok (.iaload, 1) := by decide +kernel
theorem dX5_levelMate_24 : decode cX5_levelMate 24 = .ok (.aload_n 0, 1) := by decide +kernel
theorem dX5_levelMate_25 : decode cX5_levelMate 25 = .ok (.getfield 7, 3) := by decide +kernel
theorem dX5_levelMate_28 : decode cX5_levelMate 28 = .ok (.iload_n 1, 1) := by decide +kernel
theorem dX5_levelMate_29 : decode cX5_levelMate 29 = .ok (.iaload, 1) := by decide +kernel
theorem dX5_levelMate_30 : decode cX5_levelMate 30 = .ok (.if_icmp .eq 10, 3) := by decide +kernel
theorem dX5_levelMate_33 : decode cX5_levelMate 33 = .ok (.iload_n 3, 1) := by decide +kernel
theorem dX5_levelMate_34 : decode cX5_levelMate 34 = .ok (.iload_n 2, 1) := by decide +kernel
theorem dX5_levelMate_35 : decode cX5_levelMate 35 = .ok (.iadd, 1) := by decide +kernel
theorem dX5_levelMate_36 : decode cX5_levelMate 36 = .ok (.istore_n 3, 1) := by decide +kernel
theorem dX5_levelMate_37 : decode cX5_levelMate 37 = .ok (.goto (-33), 3) := by decide +kernel
theorem dX5_levelMate_40 : decode cX5_levelMate 40 = .ok (.iload_n 3, 1) := by decide +kernel
theorem dX5_levelMate_41 : decode cX5_levelMate 41 = .ok (.iconst 0, 1) := by decide +kernel
theorem dX5_levelMate_42 : decode cX5_levelMate 42 = .ok (.aload_n 0, 1) := by decide +kernel
theorem dX5_levelMate_43 : decode cX5_levelMate 43 = .ok (.getfield 29, 3) := by decide +kernel
theorem dX5_levelMate_46 : decode cX5_levelMate 46 = .ok (.iconst 1, 1) := by decide +kernel
theorem dX5_levelMate_47 : decode cX5_levelMate 47 = .ok (.isub, 1) := by decide +kernel
theorem dX5_levelMate_48 : decode cX5_levelMate 48 = .ok (.invokestatic 36, 3) := by decide +kernel
theorem dX5_levelMate_51 : decode cX5_levelMate 51 = .ok (.ifCond .eq 7, 3) := by decide +kernel
theorem dX5_levelMate_54 : decode cX5_levelMate 54 = .ok (.iload_n 3, 1) := by decide +kernel
theorem dX5_levelMate_55 : decode cX5_levelMate 55 = .ok (.goto 5, 3) := by decide +kernel
theorem dX5_levelMate_58 : decode cX5_levelMate 58 = .ok (.bipush (-5), 2) := by decide +kernel
theorem dX5_levelMate_60 : decode cX5_levelMate 60 = .ok (.ireturn, 1) := by decide +kernel
set_option maxRecDepth 20000 in
theorem ggX5_leafBehind_X5_isLeaf : GoodIn wsX5_leafBehind wsX5_isLeaf := goodIn_r _ [6, 1, 7, 8, 9, 10, 11, 12, 13, 14, 15, 16, 17] (by decide +kernel) (by decide +kernel)
set_option maxRecDepth 20000 in
theorem gX5_leafBehind_X5_isLeaf : GoodIn wsX5_leafBehind (wsV RX5 53 RX5 yX5_isLeaf wsX5_isLeaf) := goodIn_app (goodIn_of _ (by decide +kernel)) ggX5_leafBehind_X5_isLeaf
theorem dX5_leafBehind_0 : decode cX5_leafBehind 0 = .ok (.iload_n 1, 1) := by decide +kernel
theorem dX5_leafBehind_1 : decode cX5_leafBehind 1 = .ok (.iconst 1, 1) := by decide +kernel
theorem dX5_leafBehind_2 : decode cX5_leafBehind 2 = .ok (.iadd, 1) := by decide +kernel
theorem dX5_leafBehind_3 : decode cX5_leafBehind 3 = .ok (.istore_n 2, 1) := by decide +kernel
theorem dX5_leafBehind_4 : decode cX5_leafBehind 4 = .ok (.iload_n 2, 1) := by decide +kernel
theorem dX5_leafBehind_5 : decode cX5_leafBehind 5 = .ok (.aload_n 0, 1) := by decide +kernel
theorem dX5_leafBehind_6 : decode cX5_leafBehind 6 = .ok (.getfield 29, 3) := by decide +kernel
theorem dX5_leafBehind_9 : decode cX5_leafBehind 9 = .ok (.if_icmp .ge 17, 3) := by decide +kernel
theorem dX5_leafBehind_12 : decode cX5_leafBehind 12 = .ok (.aload_n 0, 1) := by decide +kernel
theorem dX5_leafBehind_13 : decode cX5_leafBehind 13 = .ok (.iload_n 2, 1) := by decide +kernel
theorem dX5_leafBehind_14 : decode cX5_leafBehind 14 = .ok (.invokevirtual 53, 3) := by decide +kernel
theorem dX5_leafBehind_17 : decode cX5_leafBehind 17 = .ok (.ifCond .ne 9, 3) := by decide +kernel
theorem dX5_leafBehind_20 : decode cX5_leafBehind 20 = .ok (.iinc 2 1, 3) := by decide +kernel
theorem dX5_leafBehind_23 : decode cX5_leafBehind 23 = .ok (.goto (-19), 3) := by decide +kernel
theorem dX5_leafBehind_26 : decode cX5_leafBehind 26 = .ok (.iload_n 2, 1) := by decide +kernel
theorem dX5_leafBehind_27 : decode cX5_leafBehind 27 = .ok (.aload_n 0, 1) := by decide +kernel
theorem dX5_leafBehind_28 : decode cX5_leafBehind 28 = .ok (.getfield 29, 3) := by decide +kernel
theorem dX5_leafBehind_31 : decode cX5_leafBehind 31 = .ok (.if_icmp .ge 7, 3) := by decide +kernel
theorem dX5_leafBehind_34 : decode cX5_leafBehind 34 = .ok (.iload_n 2, 1) := by decide +kernel
theorem dX5_leafBehind_35 : decode cX5_leafBehind 35 = .ok (.goto 5, 3) := by decide +kernel
theorem dX5_leafBehind_38 : decode cX5_leafBehind 38 = .ok (.bipush (-5), 2) := by decide +kernel
theorem dX5_leafBehind_40 : decode cX5_leafBehind 40 = .ok (.ireturn, 1) := by decide +kernel
set_option maxRecDepth 20000 in
theorem ggX5_neighbour_X5_noNode : GoodIn wsX5_neighbour wsX5_noNode := goodIn_r _ [7, 1, 8, 9, 6, 10, 35, 36, 37, 38, 39, 40, 41, 42, 43, 44] (by decide +kernel) (by decide +kernel)
set_option maxRecDepth 20000 in
theorem gX5_neighbour_X5_noNode : GoodIn wsX5_neighbour (wsV RX5 70 RX5 yX5_noNode wsX5_noNode) := goodIn_app (goodIn_of _ (by decide +kernel)) ggX5_neighbour_X5_noNode
set_option maxRecDepth 20000 in
theorem ggX5_neighbour_X5_behind : GoodIn wsX5_neighbour wsX5_behind := goodIn_r _ [14, 1, 2, 35, 36, 37, 38, 39, 40, 41, 42, 43, 44] (by decide +kernel) (by decide +kernel)
set_option maxRecDepth 20000 in
theorem gX5_neighbour_X5_behind : GoodIn wsX5_neighbour (wsV RX5 61 RX5 yX5_behind wsX5_behind) := goodIn_app (goodIn_of _ (by decide +kernel)) ggX5_neighbour_X5_behind
set_option maxRecDepth 20000 in
theorem ggX5_neighbour_X5_sibling : GoodIn wsX5_neighbour wsX5_sibling := goodIn_r _ [18, 2, 35, 36, 37, 38, 39, 40, 41, 42, 43, 44] (by decide +kernel) (by decide +kernel)
set_option maxRecDepth 20000 in
theorem gX5_neighbour_X5_sibling : GoodIn wsX5_neighbour (wsV RX5 64 RX5 yX5_sibling wsX5_sibling) := goodIn_app (goodIn_of _ (by decide +kernel)) ggX5_neighbour_X5_sibling
set_option maxRecDepth 20000 in
theorem ggX5_neighbour_X5_levelMate : GoodIn wsX5_neighbour wsX5_levelMate := goodIn_r _ [22, 1, 2, 8, 9, 6, 10, 35, 36, 37, 38, 39, 40, 41, 42, 43, 44] (by decide +kernel) (by decide +kernel)
set_option maxRecDepth 20000 in
theorem gX5_neighbour_X5_levelMate : GoodIn wsX5_neighbour (wsV RX5 98 RX5 yX5_levelMate wsX5_levelMate) := goodIn_app (goodIn_of _ (by decide +kernel)) ggX5_neighbour_X5_levelMate
set_option maxRecDepth 20000 in
theorem ggX5_neighbour_X5_leafBehind : GoodIn wsX5_neighbour wsX5_leafBehind := goodIn_r _ [26, 1, 27, 28, 29, 6, 30, 2, 35, 36, 37, 38, 39, 40, 41, 42, 43, 44] (by decide +kernel) (by decide +kernel)
set_option maxRecDepth 20000 in
theorem gX5_neighbour_X5_leafBehind : GoodIn wsX5_neighbour (wsV RX5 101 RX5 yX5_leafBehind wsX5_leafBehind) := goodIn_app (goodIn_of _ (by decide +kernel)) ggX5_neighbour_X5_leafBehind
set_option maxRecDepth 20000 in
theorem ggX5_neighbour_X5_heaviest : GoodIn wsX5_neighbour wsX5_heaviest := goodIn_r _ [34, 11, 12, 13, 6, 14, 1, 2, 35, 36, 37, 38, 39, 40, 41, 42, 43, 44] (by decide +kernel) (by decide +kernel)
set_option maxRecDepth 20000 in
theorem gX5_neighbour_X5_heaviest : GoodIn wsX5_neighbour (wsV RX5 104 RX5 yX5_heaviest wsX5_heaviest) := goodIn_app (goodIn_of _ (by decide +kernel)) ggX5_neighbour_X5_heaviest
theorem dX5_neighbour_0 : decode cX5_neighbour 0 = .ok (.aload_n 0, 1) := by decide +kernel
theorem dX5_neighbour_1 : decode cX5_neighbour 1 = .ok (.iload_n 1, 1) := by decide +kernel
theorem dX5_neighbour_2 : decode cX5_neighbour 2 = .ok (.invokevirtual 70, 3) := by decide +kernel
theorem dX5_neighbour_5 : decode cX5_neighbour 5 = .ok (.ifCond .eq 5, 3) := by decide +kernel
theorem dX5_neighbour_8 : decode cX5_neighbour 8 = .ok (.iconst (-1), 1) := by decide +kernel
theorem dX5_neighbour_9 : decode cX5_neighbour 9 = .ok (.ireturn, 1) := by decide +kernel
theorem dX5_neighbour_10 : decode cX5_neighbour 10 = .ok (.aload_n 0, 1) := by decide +kernel
theorem dX5_neighbour_11 : decode cX5_neighbour 11 = .ok (.iload_n 1, 1) := by decide +kernel
theorem dX5_neighbour_12 : decode cX5_neighbour 12 = .ok (.invokevirtual 61, 3) := by decide +kernel
theorem dX5_neighbour_15 : decode cX5_neighbour 15 = .ok (.istore_n 3, 1) := by decide +kernel
theorem dX5_neighbour_16 : decode cX5_neighbour 16 = .ok (.iload_n 2, 1) := by decide +kernel
theorem dX5_neighbour_17 : decode cX5_neighbour 17 = .ok (.tableswitch 101 0 5 #[39, 69, 75, 82, 89, 95], 39) := by decide +kernel
theorem dX5_neighbour_56 : decode cX5_neighbour 56 = .ok (.iload_n 3, 1) := by decide +kernel
theorem dX5_neighbour_57 : decode cX5_neighbour 57 = .ok (.aload_n 0, 1) := by decide +kernel
theorem dX5_neighbour_58 : decode cX5_neighbour 58 = .ok (.getfield 29, 3) := by decide +kernel
theorem dX5_neighbour_61 : decode cX5_neighbour 61 = .ok (.if_icmp .ge 22, 3) := by decide +kernel
theorem dX5_neighbour_64 : decode cX5_neighbour 64 = .ok (.aload_n 0, 1) := by decide +kernel
theorem dX5_neighbour_65 : decode cX5_neighbour 65 = .ok (.getfield 7, 3) := by decide +kernel
theorem dX5_neighbour_68 : decode cX5_neighbour 68 = .ok (.iload_n 3, 1) := by decide +kernel
theorem dX5_neighbour_69 : decode cX5_neighbour 69 = .ok (.iaload, 1) := by decide +kernel
theorem dX5_neighbour_70 : decode cX5_neighbour 70 = .ok (.aload_n 0, 1) := by decide +kernel
theorem dX5_neighbour_71 : decode cX5_neighbour 71 = .ok (.getfield 7, 3) := by decide +kernel
theorem dX5_neighbour_74 : decode cX5_neighbour 74 = .ok (.iload_n 1, 1) := by decide +kernel
theorem dX5_neighbour_75 : decode cX5_neighbour 75 = .ok (.iaload, 1) := by decide +kernel
theorem dX5_neighbour_76 : decode cX5_neighbour 76 = .ok (.if_icmp .ne 7, 3) := by decide +kernel
theorem dX5_neighbour_79 : decode cX5_neighbour 79 = .ok (.iload_n 3, 1) := by decide +kernel
theorem dX5_neighbour_80 : decode cX5_neighbour 80 = .ok (.goto 5, 3) := by decide +kernel
theorem dX5_neighbour_83 : decode cX5_neighbour 83 = .ok (.bipush (-5), 2) := by decide +kernel
theorem dX5_neighbour_85 : decode cX5_neighbour 85 = .ok (.ireturn, 1) := by decide +kernel
theorem dX5_neighbour_86 : decode cX5_neighbour 86 = .ok (.aload_n 0, 1) := by decide +kernel
theorem dX5_neighbour_87 : decode cX5_neighbour 87 = .ok (.iload_n 1, 1) := by decide +kernel
theorem dX5_neighbour_88 : decode cX5_neighbour 88 = .ok (.invokevirtual 64, 3) := by decide +kernel
theorem dX5_neighbour_91 : decode cX5_neighbour 91 = .ok (.ireturn, 1) := by decide +kernel
theorem dX5_neighbour_92 : decode cX5_neighbour 92 = .ok (.aload_n 0, 1) := by decide +kernel
theorem dX5_neighbour_93 : decode cX5_neighbour 93 = .ok (.iload_n 1, 1) := by decide +kernel
theorem dX5_neighbour_94 : decode cX5_neighbour 94 = .ok (.iconst 1, 1) := by decide +kernel
theorem dX5_neighbour_95 : decode cX5_neighbour 95 = .ok (.invokevirtual 98, 3) := by decide +kernel
theorem dX5_neighbour_98 : decode cX5_neighbour 98 = .ok (.ireturn, 1) := by decide +kernel
theorem dX5_neighbour_99 : decode cX5_neighbour 99 = .ok (.aload_n 0, 1) := by decide +kernel
theorem dX5_neighbour_100 : decode cX5_neighbour 100 = .ok (.iload_n 1, 1) := by decide +kernel
theorem dX5_neighbour_101 : decode cX5_neighbour 101 = .ok (.iconst (-1), 1) := by decide +kernel
theorem dX5_neighbour_102 : decode cX5_neighbour 102 = .ok (.invokevirtual 98, 3) := by decide +kernel
theorem dX5_neighbour_105 : decode cX5_neighbour 105 = .ok (.ireturn, 1) := by decide +kernel
theorem dX5_neighbour_106 : decode cX5_neighbour 106 = .ok (.aload_n 0, 1) := by decide +kernel
theorem dX5_neighbour_107 : decode cX5_neighbour 107 = .ok (.iload_n 1, 1) := by decide +kernel
theorem dX5_neighbour_108 : decode cX5_neighbour 108 = .ok (.invokevirtual 101, 3) := by decide +kernel
theorem dX5_neighbour_111 : decode cX5_neighbour 111 = .ok (.ireturn, 1) := by decide +kernel
theorem dX5_neighbour_112 : decode cX5_neighbour 112 = .ok (.aload_n 0, 1) := by decide +kernel
theorem dX5_neighbour_113 : decode cX5_neighbour 113 = .ok (.iload_n 1, 1) := by decide +kernel
theorem dX5_neighbour_114 : decode cX5_neighbour 114 = .ok (.invokevirtual 104, 3) := by decide +kernel
theorem dX5_neighbour_117 : decode cX5_neighbour 117 = .ok (.ireturn, 1) := by decide +kernel
theorem dX5_neighbour_118 : decode cX5_neighbour 118 = .ok (.bipush (-2), 2) := by decide +kernel
theorem dX5_neighbour_120 : decode cX5_neighbour 120 = .ok (.ireturn, 1) := by decide +kernel
set_option maxRecDepth 20000 in
theorem ggX5_upTo_X5_parentOf : GoodIn wsX5_upTo wsX5_parentOf := goodIn_r _ [6, 1, 7, 8, 9, 10, 11, 12, 13, 14, 15, 16] (by decide +kernel) (by decide +kernel)
set_option maxRecDepth 20000 in
theorem gX5_upTo_X5_parentOf : GoodIn wsX5_upTo (wsV RX5 73 RX5 yX5_parentOf wsX5_parentOf) := goodIn_app (goodIn_of _ (by decide +kernel)) ggX5_upTo_X5_parentOf
theorem dX5_upTo_0 : decode cX5_upTo 0 = .ok (.iload_n 1, 1) := by decide +kernel
theorem dX5_upTo_1 : decode cX5_upTo 1 = .ok (.istore_n 3, 1) := by decide +kernel
theorem dX5_upTo_2 : decode cX5_upTo 2 = .ok (.aload_n 0, 1) := by decide +kernel
theorem dX5_upTo_3 : decode cX5_upTo 3 = .ok (.getfield 7, 3) := by decide +kernel
theorem dX5_upTo_6 : decode cX5_upTo 6 = .ok (.iload_n 3, 1) := by decide +kernel
theorem dX5_upTo_7 : decode cX5_upTo 7 = .ok (.iaload, 1) := by decide +kernel
theorem dX5_upTo_8 : decode cX5_upTo 8 = .ok (.iload_n 2, 1) := by decide +kernel
theorem dX5_upTo_9 : decode cX5_upTo 9 = .ok (.if_icmp .le 12, 3) := by decide +kernel
theorem dX5_upTo_12 : decode cX5_upTo 12 = .ok (.aload_n 0, 1) := by decide +kernel
theorem dX5_upTo_13 : decode cX5_upTo 13 = .ok (.iload_n 3, 1) := by decide +kernel
theorem dX5_upTo_14 : decode cX5_upTo 14 = .ok (.invokevirtual 73, 3) := by decide +kernel
theorem dX5_upTo_17 : decode cX5_upTo 17 = .ok (.istore_n 3, 1) := by decide +kernel
theorem dX5_upTo_18 : decode cX5_upTo 18 = .ok (.goto (-16), 3) := by decide +kernel
theorem dX5_upTo_21 : decode cX5_upTo 21 = .ok (.iload_n 3, 1) := by decide +kernel
theorem dX5_upTo_22 : decode cX5_upTo 22 = .ok (.ireturn, 1) := by decide +kernel
set_option maxRecDepth 20000 in
theorem ggX5_ancestorAt_X5_noNode : GoodIn wsX5_ancestorAt wsX5_noNode := goodIn_r _ [6, 7, 8, 9, 5, 10, 19, 20, 21, 22, 23, 24, 25, 26, 27, 28] (by decide +kernel) (by decide +kernel)
set_option maxRecDepth 20000 in
theorem gX5_ancestorAt_X5_noNode : GoodIn wsX5_ancestorAt (wsV RX5 70 RX5 yX5_noNode wsX5_noNode) := goodIn_app (goodIn_of _ (by decide +kernel)) ggX5_ancestorAt_X5_noNode
set_option maxRecDepth 20000 in
theorem ggX5_ancestorAt_X5_in : GoodIn wsX5_ancestorAt wsX5_in := goodIn_r _ [10] (by decide +kernel) (by decide +kernel)
set_option maxRecDepth 20000 in
theorem gX5_ancestorAt_X5_in : GoodIn wsX5_ancestorAt (va_wsS RX5 36 yX5_in wsX5_in) := goodIn_app (goodIn_of _ (by decide +kernel)) ggX5_ancestorAt_X5_in
set_option maxRecDepth 20000 in
theorem ggX5_ancestorAt_X5_upTo : GoodIn wsX5_ancestorAt wsX5_upTo := goodIn_r _ [14, 1, 15, 16, 17, 5, 18, 19, 20, 21, 22, 23, 24, 25, 26, 27, 28] (by decide +kernel) (by decide +kernel)
set_option maxRecDepth 20000 in
theorem gX5_ancestorAt_X5_upTo : GoodIn wsX5_ancestorAt (wsV RX5 107 RX5 yX5_upTo wsX5_upTo) := goodIn_app (goodIn_of _ (by decide +kernel)) ggX5_ancestorAt_X5_upTo
theorem dX5_ancestorAt_0 : decode cX5_ancestorAt 0 = .ok (.aload_n 0, 1) := by decide +kernel
theorem dX5_ancestorAt_1 : decode cX5_ancestorAt 1 = .ok (.iload_n 1, 1) := by decide +kernel
theorem dX5_ancestorAt_2 : decode cX5_ancestorAt 2 = .ok (.invokevirtual 70, 3) := by decide +kernel
theorem dX5_ancestorAt_5 : decode cX5_ancestorAt 5 = .ok (.ifCond .eq 5, 3) := by decide +kernel
theorem dX5_ancestorAt_8 : decode cX5_ancestorAt 8 = .ok (.iconst (-1), 1) := by decide +kernel
theorem dX5_ancestorAt_9 : decode cX5_ancestorAt 9 = .ok (.ireturn, 1) := by decide +kernel
theorem dX5_ancestorAt_10 : decode cX5_ancestorAt 10 = .ok (.iload_n 2, 1) := by decide +kernel
theorem dX5_ancestorAt_11 : decode cX5_ancestorAt 11 = .ok (.iconst 0, 1) := by decide +kernel
theorem dX5_ancestorAt_12 : decode cX5_ancestorAt 12 = .ok (.aload_n 0, 1) := by decide +kernel
theorem dX5_ancestorAt_13 : decode cX5_ancestorAt 13 = .ok (.getfield 7, 3) := by decide +kernel
theorem dX5_ancestorAt_16 : decode cX5_ancestorAt 16 = .ok (.iload_n 1, 1) := by decide +kernel
theorem dX5_ancestorAt_17 : decode cX5_ancestorAt 17 = .ok (.iaload, 1) := by decide +kernel
theorem dX5_ancestorAt_18 : decode cX5_ancestorAt 18 = .ok (.invokestatic 36, 3) := by decide +kernel
theorem dX5_ancestorAt_21 : decode cX5_ancestorAt 21 = .ok (.ifCond .eq 12, 3) := by decide +kernel
theorem dX5_ancestorAt_24 : decode cX5_ancestorAt 24 = .ok (.aload_n 0, 1) := by decide +kernel
theorem dX5_ancestorAt_25 : decode cX5_ancestorAt 25 = .ok (.iload_n 1, 1) := by decide +kernel
theorem dX5_ancestorAt_26 : decode cX5_ancestorAt 26 = .ok (.iload_n 2, 1) := by decide +kernel
theorem dX5_ancestorAt_27 : decode cX5_ancestorAt 27 = .ok (.invokevirtual 107, 3) := by decide +kernel
theorem dX5_ancestorAt_30 : decode cX5_ancestorAt 30 = .ok (.goto 5, 3) := by decide +kernel
theorem dX5_ancestorAt_33 : decode cX5_ancestorAt 33 = .ok (.bipush (-2), 2) := by decide +kernel
theorem dX5_ancestorAt_35 : decode cX5_ancestorAt 35 = .ok (.ireturn, 1) := by decide +kernel
set_option maxRecDepth 20000 in
theorem ggX5_holds_X5_behind : GoodIn wsX5_holds wsX5_behind := goodIn_r _ [5, 6, 7, 8, 9, 10, 11, 12, 13, 14, 15, 16, 17] (by decide +kernel) (by decide +kernel)
set_option maxRecDepth 20000 in
theorem gX5_holds_X5_behind : GoodIn wsX5_holds (wsV RX5 61 RX5 yX5_behind wsX5_behind) := goodIn_app (goodIn_of _ (by decide +kernel)) ggX5_holds_X5_behind
theorem dX5_holds_0 : decode cX5_holds 0 = .ok (.iload_n 2, 1) := by decide +kernel
theorem dX5_holds_1 : decode cX5_holds 1 = .ok (.iload_n 1, 1) := by decide +kernel
theorem dX5_holds_2 : decode cX5_holds 2 = .ok (.if_icmp .lt 16, 3) := by decide +kernel
theorem dX5_holds_5 : decode cX5_holds 5 = .ok (.iload_n 2, 1) := by decide +kernel
theorem dX5_holds_6 : decode cX5_holds 6 = .ok (.aload_n 0, 1) := by decide +kernel
theorem dX5_holds_7 : decode cX5_holds 7 = .ok (.iload_n 1, 1) := by decide +kernel
theorem dX5_holds_8 : decode cX5_holds 8 = .ok (.invokevirtual 61, 3) := by decide +kernel
theorem dX5_holds_11 : decode cX5_holds 11 = .ok (.if_icmp .ge 7, 3) := by decide +kernel
theorem dX5_holds_14 : decode cX5_holds 14 = .ok (.iconst 1, 1) := by decide +kernel
theorem dX5_holds_15 : decode cX5_holds 15 = .ok (.goto 4, 3) := by decide +kernel
theorem dX5_holds_18 : decode cX5_holds 18 = .ok (.iconst 0, 1) := by decide +kernel
theorem dX5_holds_19 : decode cX5_holds 19 = .ok (.ireturn, 1) := by decide +kernel
set_option maxRecDepth 20000 in
theorem ggX5_commonOf_X5_holds : GoodIn wsX5_commonOf wsX5_holds := goodIn_r _ [5, 6, 7, 8, 4, 9, 10, 11, 16, 17, 18, 19, 20, 21, 22, 23, 24, 25] (by decide +kernel) (by decide +kernel)
set_option maxRecDepth 20000 in
theorem gX5_commonOf_X5_holds : GoodIn wsX5_commonOf (wsV RX5 110 RX5 yX5_holds wsX5_holds) := goodIn_app (goodIn_of _ (by decide +kernel)) ggX5_commonOf_X5_holds
set_option maxRecDepth 20000 in
theorem ggX5_commonOf_X5_parentOf : GoodIn wsX5_commonOf wsX5_parentOf := goodIn_r _ [15, 11, 16, 17, 18, 19, 20, 21, 22, 23, 24, 25] (by decide +kernel) (by decide +kernel)
set_option maxRecDepth 20000 in
theorem gX5_commonOf_X5_parentOf : GoodIn wsX5_commonOf (wsV RX5 73 RX5 yX5_parentOf wsX5_parentOf) := goodIn_app (goodIn_of _ (by decide +kernel)) ggX5_commonOf_X5_parentOf
theorem dX5_commonOf_0 : decode cX5_commonOf 0 = .ok (.iload_n 1, 1) := by decide +kernel
theorem dX5_commonOf_1 : decode cX5_commonOf 1 = .ok (.istore_n 3, 1) := by decide +kernel
theorem dX5_commonOf_2 : decode cX5_commonOf 2 = .ok (.aload_n 0, 1) := by decide +kernel
theorem dX5_commonOf_3 : decode cX5_commonOf 3 = .ok (.iload_n 3, 1) := by decide +kernel
theorem dX5_commonOf_4 : decode cX5_commonOf 4 = .ok (.iload_n 2, 1) := by decide +kernel
theorem dX5_commonOf_5 : decode cX5_commonOf 5 = .ok (.invokevirtual 110, 3) := by decide +kernel
theorem dX5_commonOf_8 : decode cX5_commonOf 8 = .ok (.ifCond .ne 12, 3) := by decide +kernel
theorem dX5_commonOf_11 : decode cX5_commonOf 11 = .ok (.aload_n 0, 1) := by decide +kernel
theorem dX5_commonOf_12 : decode cX5_commonOf 12 = .ok (.iload_n 3, 1) := by decide +kernel
theorem dX5_commonOf_13 : decode cX5_commonOf 13 = .ok (.invokevirtual 73, 3) := by decide +kernel
theorem dX5_commonOf_16 : decode cX5_commonOf 16 = .ok (.istore_n 3, 1) := by decide +kernel
theorem dX5_commonOf_17 : decode cX5_commonOf 17 = .ok (.goto (-15), 3) := by decide +kernel
theorem dX5_commonOf_20 : decode cX5_commonOf 20 = .ok (.iload_n 3, 1) := by decide +kernel
theorem dX5_commonOf_21 : decode cX5_commonOf 21 = .ok (.ireturn, 1) := by decide +kernel
set_option maxRecDepth 20000 in
theorem ggX5_common_X5_noNode : GoodIn wsX5_common wsX5_noNode := goodIn_r _ [5, 6, 7, 8, 4, 9, 27, 28, 29, 30, 31, 32, 33, 34, 35, 36] (by decide +kernel) (by decide +kernel)
set_option maxRecDepth 20000 in
theorem gX5_common_X5_noNode : GoodIn wsX5_common (wsV RX5 70 RX5 yX5_noNode wsX5_noNode) := goodIn_app (goodIn_of _ (by decide +kernel)) ggX5_common_X5_noNode
set_option maxRecDepth 20000 in
theorem ggX5_common_X5_commonOf : GoodIn wsX5_common wsX5_commonOf := goodIn_r _ [13, 14, 15, 16, 4, 17, 18, 19, 20, 21, 6, 22, 23, 24, 25, 26, 27, 28, 29, 30, 31, 32, 33, 34, 35, 36] (by decide +kernel) (by decide +kernel)
set_option maxRecDepth 20000 in
theorem gX5_common_X5_commonOf : GoodIn wsX5_common (wsV RX5 114 RX5 yX5_commonOf wsX5_commonOf) := goodIn_app (goodIn_of _ (by decide +kernel)) ggX5_common_X5_commonOf
theorem dX5_common_0 : decode cX5_common 0 = .ok (.aload_n 0, 1) := by decide +kernel
theorem dX5_common_1 : decode cX5_common 1 = .ok (.iload_n 1, 1) := by decide +kernel
theorem dX5_common_2 : decode cX5_common 2 = .ok (.invokevirtual 70, 3) := by decide +kernel
theorem dX5_common_5 : decode cX5_common 5 = .ok (.ifCond .ne 11, 3) := by decide +kernel
theorem dX5_common_8 : decode cX5_common 8 = .ok (.aload_n 0, 1) := by decide +kernel
theorem dX5_common_9 : decode cX5_common 9 = .ok (.iload_n 2, 1) := by decide +kernel
theorem dX5_common_10 : decode cX5_common 10 = .ok (.invokevirtual 70, 3) := by decide +kernel
theorem dX5_common_13 : decode cX5_common 13 = .ok (.ifCond .eq 7, 3) := by decide +kernel
theorem dX5_common_16 : decode cX5_common 16 = .ok (.iconst (-1), 1) := by decide +kernel
theorem dX5_common_17 : decode cX5_common 17 = .ok (.goto 9, 3) := by decide +kernel
theorem dX5_common_20 : decode cX5_common 20 = .ok (.aload_n 0, 1) := by decide +kernel
theorem dX5_common_21 : decode cX5_common 21 = .ok (.iload_n 1, 1) := by decide +kernel
theorem dX5_common_22 : decode cX5_common 22 = .ok (.iload_n 2, 1) := by decide +kernel
theorem dX5_common_23 : decode cX5_common 23 = .ok (.invokevirtual 114, 3) := by decide +kernel
theorem dX5_common_26 : decode cX5_common 26 = .ok (.ireturn, 1) := by decide +kernel
set_option maxRecDepth 20000 in
theorem ggX5_way_X5_noNode : GoodIn wsX5_way wsX5_noNode := goodIn_r _ [6, 7, 8, 9, 5, 10, 31, 32, 33, 34, 35, 36, 37, 38, 39, 40] (by decide +kernel) (by decide +kernel)
set_option maxRecDepth 20000 in
theorem gX5_way_X5_noNode : GoodIn wsX5_way (wsV RX5 70 RX5 yX5_noNode wsX5_noNode) := goodIn_app (goodIn_of _ (by decide +kernel)) ggX5_way_X5_noNode
set_option maxRecDepth 20000 in
theorem ggX5_way_X5_commonOf : GoodIn wsX5_way wsX5_commonOf := goodIn_r _ [14, 15, 16, 17, 5, 18, 19, 20, 21, 22, 7, 1, 23, 24, 25, 26, 31, 32, 33, 34, 35, 36, 37, 38, 39, 40] (by decide +kernel) (by decide +kernel)
set_option maxRecDepth 20000 in
theorem gX5_way_X5_commonOf : GoodIn wsX5_way (wsV RX5 114 RX5 yX5_commonOf wsX5_commonOf) := goodIn_app (goodIn_of _ (by decide +kernel)) ggX5_way_X5_commonOf
set_option maxRecDepth 20000 in
theorem ggX5_way_X5_upTo : GoodIn wsX5_way wsX5_upTo := goodIn_r _ [30, 1, 23, 24, 25, 5, 26, 31, 32, 33, 34, 35, 36, 37, 38, 39, 40] (by decide +kernel) (by decide +kernel)
set_option maxRecDepth 20000 in
theorem gX5_way_X5_upTo : GoodIn wsX5_way (wsV RX5 107 RX5 yX5_upTo wsX5_upTo) := goodIn_app (goodIn_of _ (by decide +kernel)) ggX5_way_X5_upTo
theorem dX5_way_0 : decode cX5_way 0 = .ok (.aload_n 0, 1) := by decide +kernel
theorem dX5_way_1 : decode cX5_way 1 = .ok (.iload_n 1, 1) := by decide +kernel
theorem dX5_way_2 : decode cX5_way 2 = .ok (.invokevirtual 70, 3) := by decide +kernel
theorem dX5_way_5 : decode cX5_way 5 = .ok (.ifCond .ne 11, 3) := by decide +kernel
theorem dX5_way_8 : decode cX5_way 8 = .ok (.aload_n 0, 1) := by decide +kernel
theorem dX5_way_9 : decode cX5_way 9 = .ok (.iload_n 2, 1) := by decide +kernel
theorem dX5_way_10 : decode cX5_way 10 = .ok (.invokevirtual 70, 3) := by decide +kernel
theorem dX5_way_13 : decode cX5_way 13 = .ok (.ifCond .eq 5, 3) := by decide +kernel
theorem dX5_way_16 : decode cX5_way 16 = .ok (.iconst (-1), 1) := by decide +kernel
theorem dX5_way_17 : decode cX5_way 17 = .ok (.ireturn, 1) := by decide +kernel
theorem dX5_way_18 : decode cX5_way 18 = .ok (.iload_n 3, 1) := by decide +kernel
theorem dX5_way_19 : decode cX5_way 19 = .ok (.iconst (-1), 1) := by decide +kernel
theorem dX5_way_20 : decode cX5_way 20 = .ok (.if_icmp .ge 6, 3) := by decide +kernel
theorem dX5_way_23 : decode cX5_way 23 = .ok (.bipush (-2), 2) := by decide +kernel
theorem dX5_way_25 : decode cX5_way 25 = .ok (.ireturn, 1) := by decide +kernel
theorem dX5_way_26 : decode cX5_way 26 = .ok (.aload_n 0, 1) := by decide +kernel
theorem dX5_way_27 : decode cX5_way 27 = .ok (.getfield 7, 3) := by decide +kernel
theorem dX5_way_30 : decode cX5_way 30 = .ok (.aload_n 0, 1) := by decide +kernel
theorem dX5_way_31 : decode cX5_way 31 = .ok (.iload_n 1, 1) := by decide +kernel
theorem dX5_way_32 : decode cX5_way 32 = .ok (.iload_n 2, 1) := by decide +kernel
theorem dX5_way_33 : decode cX5_way 33 = .ok (.invokevirtual 114, 3) := by decide +kernel
theorem dX5_way_36 : decode cX5_way 36 = .ok (.iaload, 1) := by decide +kernel
theorem dX5_way_37 : decode cX5_way 37 = .ok (.istore 4, 2) := by decide +kernel
theorem dX5_way_39 : decode cX5_way 39 = .ok (.aload_n 0, 1) := by decide +kernel
theorem dX5_way_40 : decode cX5_way 40 = .ok (.getfield 7, 3) := by decide +kernel
theorem dX5_way_43 : decode cX5_way 43 = .ok (.iload_n 1, 1) := by decide +kernel
theorem dX5_way_44 : decode cX5_way 44 = .ok (.iaload, 1) := by decide +kernel
theorem dX5_way_45 : decode cX5_way 45 = .ok (.iload 4, 2) := by decide +kernel
theorem dX5_way_47 : decode cX5_way 47 = .ok (.isub, 1) := by decide +kernel
theorem dX5_way_48 : decode cX5_way 48 = .ok (.istore 5, 2) := by decide +kernel
theorem dX5_way_50 : decode cX5_way 50 = .ok (.iload 5, 2) := by decide +kernel
theorem dX5_way_52 : decode cX5_way 52 = .ok (.aload_n 0, 1) := by decide +kernel
theorem dX5_way_53 : decode cX5_way 53 = .ok (.getfield 7, 3) := by decide +kernel
theorem dX5_way_56 : decode cX5_way 56 = .ok (.iload_n 2, 1) := by decide +kernel
theorem dX5_way_57 : decode cX5_way 57 = .ok (.iaload, 1) := by decide +kernel
theorem dX5_way_58 : decode cX5_way 58 = .ok (.iadd, 1) := by decide +kernel
theorem dX5_way_59 : decode cX5_way 59 = .ok (.iload 4, 2) := by decide +kernel
theorem dX5_way_61 : decode cX5_way 61 = .ok (.isub, 1) := by decide +kernel
theorem dX5_way_62 : decode cX5_way 62 = .ok (.istore 6, 2) := by decide +kernel
theorem dX5_way_64 : decode cX5_way 64 = .ok (.iload_n 3, 1) := by decide +kernel
theorem dX5_way_65 : decode cX5_way 65 = .ok (.ifCond .ge 6, 3) := by decide +kernel
theorem dX5_way_68 : decode cX5_way 68 = .ok (.iload 6, 2) := by decide +kernel
theorem dX5_way_70 : decode cX5_way 70 = .ok (.ireturn, 1) := by decide +kernel
theorem dX5_way_71 : decode cX5_way 71 = .ok (.iload_n 3, 1) := by decide +kernel
theorem dX5_way_72 : decode cX5_way 72 = .ok (.iload 6, 2) := by decide +kernel
theorem dX5_way_74 : decode cX5_way 74 = .ok (.if_icmp .le 6, 3) := by decide +kernel
theorem dX5_way_77 : decode cX5_way 77 = .ok (.bipush (-5), 2) := by decide +kernel
theorem dX5_way_79 : decode cX5_way 79 = .ok (.ireturn, 1) := by decide +kernel
theorem dX5_way_80 : decode cX5_way 80 = .ok (.iload_n 3, 1) := by decide +kernel
theorem dX5_way_81 : decode cX5_way 81 = .ok (.iload 5, 2) := by decide +kernel
theorem dX5_way_83 : decode cX5_way 83 = .ok (.if_icmp .gt 19, 3) := by decide +kernel
theorem dX5_way_86 : decode cX5_way 86 = .ok (.aload_n 0, 1) := by decide +kernel
theorem dX5_way_87 : decode cX5_way 87 = .ok (.iload_n 1, 1) := by decide +kernel
theorem dX5_way_88 : decode cX5_way 88 = .ok (.aload_n 0, 1) := by decide +kernel
theorem dX5_way_89 : decode cX5_way 89 = .ok (.getfield 7, 3) := by decide +kernel
theorem dX5_way_92 : decode cX5_way 92 = .ok (.iload_n 1, 1) := by decide +kernel
theorem dX5_way_93 : decode cX5_way 93 = .ok (.iaload, 1) := by decide +kernel
theorem dX5_way_94 : decode cX5_way 94 = .ok (.iload_n 3, 1) := by decide +kernel
theorem dX5_way_95 : decode cX5_way 95 = .ok (.isub, 1) := by decide +kernel
theorem dX5_way_96 : decode cX5_way 96 = .ok (.invokevirtual 107, 3) := by decide +kernel
theorem dX5_way_99 : decode cX5_way 99 = .ok (.goto 15, 3) := by decide +kernel
theorem dX5_way_102 : decode cX5_way 102 = .ok (.aload_n 0, 1) := by decide +kernel
theorem dX5_way_103 : decode cX5_way 103 = .ok (.iload_n 2, 1) := by decide +kernel
theorem dX5_way_104 : decode cX5_way 104 = .ok (.iload 4, 2) := by decide +kernel
theorem dX5_way_106 : decode cX5_way 106 = .ok (.iload_n 3, 1) := by decide +kernel
theorem dX5_way_107 : decode cX5_way 107 = .ok (.iadd, 1) := by decide +kernel
theorem dX5_way_108 : decode cX5_way 108 = .ok (.iload 5, 2) := by decide +kernel
theorem dX5_way_110 : decode cX5_way 110 = .ok (.isub, 1) := by decide +kernel
theorem dX5_way_111 : decode cX5_way 111 = .ok (.invokevirtual 107, 3) := by decide +kernel
theorem dX5_way_114 : decode cX5_way 114 = .ok (.ireturn, 1) := by decide +kernel
theorem dX5_level_0 : decode cX5_level 0 = .ok (.iload_n 1, 1) := by decide +kernel
theorem dX5_level_1 : decode cX5_level 1 = .ok (.ifCond .lt 8, 3) := by decide +kernel
theorem dX5_level_4 : decode cX5_level 4 = .ok (.iload_n 2, 1) := by decide +kernel
theorem dX5_level_5 : decode cX5_level 5 = .ok (.iconst (-1), 1) := by decide +kernel
theorem dX5_level_6 : decode cX5_level 6 = .ok (.if_icmp .ge 6, 3) := by decide +kernel
theorem dX5_level_9 : decode cX5_level 9 = .ok (.bipush (-2), 2) := by decide +kernel
theorem dX5_level_11 : decode cX5_level 11 = .ok (.ireturn, 1) := by decide +kernel
theorem dX5_level_12 : decode cX5_level 12 = .ok (.iconst 0, 1) := by decide +kernel
theorem dX5_level_13 : decode cX5_level 13 = .ok (.istore_n 3, 1) := by decide +kernel
theorem dX5_level_14 : decode cX5_level 14 = .ok (.iconst 0, 1) := by decide +kernel
theorem dX5_level_15 : decode cX5_level 15 = .ok (.istore 4, 2) := by decide +kernel
theorem dX5_level_17 : decode cX5_level 17 = .ok (.iload 4, 2) := by decide +kernel
theorem dX5_level_19 : decode cX5_level 19 = .ok (.aload_n 0, 1) := by decide +kernel
theorem dX5_level_20 : decode cX5_level 20 = .ok (.getfield 29, 3) := by decide +kernel
theorem dX5_level_23 : decode cX5_level 23 = .ok (.if_icmp .ge 31, 3) := by decide +kernel
theorem dX5_level_26 : decode cX5_level 26 = .ok (.aload_n 0, 1) := by decide +kernel
theorem dX5_level_27 : decode cX5_level 27 = .ok (.getfield 7, 3) := by decide +kernel
theorem dX5_level_30 : decode cX5_level 30 = .ok (.iload 4, 2) := by decide +kernel
theorem dX5_level_32 : decode cX5_level 32 = .ok (.iaload, 1) := by decide +kernel
theorem dX5_level_33 : decode cX5_level 33 = .ok (.iload_n 1, 1) := by decide +kernel
theorem dX5_level_34 : decode cX5_level 34 = .ok (.if_icmp .ne 14, 3) := by decide +kernel
theorem dX5_level_37 : decode cX5_level 37 = .ok (.iload_n 3, 1) := by decide +kernel
theorem dX5_level_38 : decode cX5_level 38 = .ok (.iload_n 2, 1) := by decide +kernel
theorem dX5_level_39 : decode cX5_level 39 = .ok (.if_icmp .ne 6, 3) := by decide +kernel
theorem dX5_level_42 : decode cX5_level 42 = .ok (.iload 4, 2) := by decide +kernel
theorem dX5_level_44 : decode cX5_level 44 = .ok (.ireturn, 1) := by decide +kernel
theorem dX5_level_45 : decode cX5_level 45 = .ok (.iinc 3 1, 3) := by decide +kernel
theorem dX5_level_48 : decode cX5_level 48 = .ok (.iinc 4 1, 3) := by decide +kernel
theorem dX5_level_51 : decode cX5_level 51 = .ok (.goto (-34), 3) := by decide +kernel
theorem dX5_level_54 : decode cX5_level 54 = .ok (.iload_n 2, 1) := by decide +kernel
theorem dX5_level_55 : decode cX5_level 55 = .ok (.ifCond .ge 7, 3) := by decide +kernel
theorem dX5_level_58 : decode cX5_level 58 = .ok (.iload_n 3, 1) := by decide +kernel
theorem dX5_level_59 : decode cX5_level 59 = .ok (.goto 5, 3) := by decide +kernel
theorem dX5_level_62 : decode cX5_level 62 = .ok (.bipush (-5), 2) := by decide +kernel
theorem dX5_level_64 : decode cX5_level 64 = .ok (.ireturn, 1) := by decide +kernel
set_option maxRecDepth 20000 in
theorem ggX5_byPostorder_X5_rankOf : GoodIn wsX5_byPostorder wsX5_rankOf := goodIn_r _ [6, 7, 8, 9, 10, 5, 11, 1, 12, 13, 14, 15, 16, 17, 18, 19, 20, 21] (by decide +kernel) (by decide +kernel)
set_option maxRecDepth 20000 in
theorem gX5_byPostorder_X5_rankOf : GoodIn wsX5_byPostorder (wsV RX5 91 RX5 yX5_rankOf wsX5_rankOf) := goodIn_app (goodIn_of _ (by decide +kernel)) ggX5_byPostorder_X5_rankOf
theorem dX5_byPostorder_0 : decode cX5_byPostorder 0 = .ok (.iconst 0, 1) := by decide +kernel
theorem dX5_byPostorder_1 : decode cX5_byPostorder 1 = .ok (.istore_n 2, 1) := by decide +kernel
theorem dX5_byPostorder_2 : decode cX5_byPostorder 2 = .ok (.iload_n 2, 1) := by decide +kernel
theorem dX5_byPostorder_3 : decode cX5_byPostorder 3 = .ok (.aload_n 0, 1) := by decide +kernel
theorem dX5_byPostorder_4 : decode cX5_byPostorder 4 = .ok (.getfield 29, 3) := by decide +kernel
theorem dX5_byPostorder_7 : decode cX5_byPostorder 7 = .ok (.if_icmp .ge 20, 3) := by decide +kernel
theorem dX5_byPostorder_10 : decode cX5_byPostorder 10 = .ok (.aload_n 0, 1) := by decide +kernel
theorem dX5_byPostorder_11 : decode cX5_byPostorder 11 = .ok (.iload_n 2, 1) := by decide +kernel
theorem dX5_byPostorder_12 : decode cX5_byPostorder 12 = .ok (.invokevirtual 91, 3) := by decide +kernel
theorem dX5_byPostorder_15 : decode cX5_byPostorder 15 = .ok (.iload_n 1, 1) := by decide +kernel
theorem dX5_byPostorder_16 : decode cX5_byPostorder 16 = .ok (.if_icmp .ne 5, 3) := by decide +kernel
theorem dX5_byPostorder_19 : decode cX5_byPostorder 19 = .ok (.iload_n 2, 1) := by decide +kernel
theorem dX5_byPostorder_20 : decode cX5_byPostorder 20 = .ok (.ireturn, 1) := by decide +kernel
theorem dX5_byPostorder_21 : decode cX5_byPostorder 21 = .ok (.iinc 2 1, 3) := by decide +kernel
theorem dX5_byPostorder_24 : decode cX5_byPostorder 24 = .ok (.goto (-22), 3) := by decide +kernel
theorem dX5_byPostorder_27 : decode cX5_byPostorder 27 = .ok (.bipush (-2), 2) := by decide +kernel
theorem dX5_byPostorder_29 : decode cX5_byPostorder 29 = .ok (.ireturn, 1) := by decide +kernel
set_option maxRecDepth 20000 in
theorem ggX5_deepest_X5_noNode : GoodIn wsX5_deepest wsX5_noNode := goodIn_r _ [6, 7, 8, 9, 5, 10, 15, 16, 17, 18, 19, 20, 21, 22, 23, 24] (by decide +kernel) (by decide +kernel)
set_option maxRecDepth 20000 in
theorem gX5_deepest_X5_noNode : GoodIn wsX5_deepest (wsV RX5 70 RX5 yX5_noNode wsX5_noNode) := goodIn_app (goodIn_of _ (by decide +kernel)) ggX5_deepest_X5_noNode
set_option maxRecDepth 20000 in
theorem ggX5_deepest_X5_behind : GoodIn wsX5_deepest wsX5_behind := goodIn_r _ [14, 7, 1, 15, 16, 17, 18, 19, 20, 21, 22, 23, 24] (by decide +kernel) (by decide +kernel)
set_option maxRecDepth 20000 in
theorem gX5_deepest_X5_behind : GoodIn wsX5_deepest (wsV RX5 61 RX5 yX5_behind wsX5_behind) := goodIn_app (goodIn_of _ (by decide +kernel)) ggX5_deepest_X5_behind
theorem dX5_deepest_0 : decode cX5_deepest 0 = .ok (.aload_n 0, 1) := by decide +kernel
theorem dX5_deepest_1 : decode cX5_deepest 1 = .ok (.iload_n 1, 1) := by decide +kernel
theorem dX5_deepest_2 : decode cX5_deepest 2 = .ok (.invokevirtual 70, 3) := by decide +kernel
theorem dX5_deepest_5 : decode cX5_deepest 5 = .ok (.ifCond .eq 5, 3) := by decide +kernel
theorem dX5_deepest_8 : decode cX5_deepest 8 = .ok (.iconst (-1), 1) := by decide +kernel
theorem dX5_deepest_9 : decode cX5_deepest 9 = .ok (.ireturn, 1) := by decide +kernel
theorem dX5_deepest_10 : decode cX5_deepest 10 = .ok (.iload_n 1, 1) := by decide +kernel
theorem dX5_deepest_11 : decode cX5_deepest 11 = .ok (.istore_n 2, 1) := by decide +kernel
theorem dX5_deepest_12 : decode cX5_deepest 12 = .ok (.iload_n 1, 1) := by decide +kernel
theorem dX5_deepest_13 : decode cX5_deepest 13 = .ok (.istore_n 3, 1) := by decide +kernel
theorem dX5_deepest_14 : decode cX5_deepest 14 = .ok (.iload_n 3, 1) := by decide +kernel
theorem dX5_deepest_15 : decode cX5_deepest 15 = .ok (.aload_n 0, 1) := by decide +kernel
theorem dX5_deepest_16 : decode cX5_deepest 16 = .ok (.iload_n 1, 1) := by decide +kernel
theorem dX5_deepest_17 : decode cX5_deepest 17 = .ok (.invokevirtual 61, 3) := by decide +kernel
theorem dX5_deepest_20 : decode cX5_deepest 20 = .ok (.if_icmp .ge 30, 3) := by decide +kernel
theorem dX5_deepest_23 : decode cX5_deepest 23 = .ok (.aload_n 0, 1) := by decide +kernel
theorem dX5_deepest_24 : decode cX5_deepest 24 = .ok (.getfield 7, 3) := by decide +kernel
theorem dX5_deepest_27 : decode cX5_deepest 27 = .ok (.iload_n 3, 1) := by decide +kernel
theorem dX5_deepest_28 : decode cX5_deepest 28 = .ok (.iaload, 1) := by decide +kernel
theorem dX5_deepest_29 : decode cX5_deepest 29 = .ok (.aload_n 0, 1) := by decide +kernel
theorem dX5_deepest_30 : decode cX5_deepest 30 = .ok (.getfield 7, 3) := by decide +kernel
theorem dX5_deepest_33 : decode cX5_deepest 33 = .ok (.iload_n 2, 1) := by decide +kernel
theorem dX5_deepest_34 : decode cX5_deepest 34 = .ok (.iaload, 1) := by decide +kernel
theorem dX5_deepest_35 : decode cX5_deepest 35 = .ok (.if_icmp .le 7, 3) := by decide +kernel
theorem dX5_deepest_38 : decode cX5_deepest 38 = .ok (.iload_n 3, 1) := by decide +kernel
theorem dX5_deepest_39 : decode cX5_deepest 39 = .ok (.goto 4, 3) := by decide +kernel
theorem dX5_deepest_42 : decode cX5_deepest 42 = .ok (.iload_n 2, 1) := by decide +kernel
theorem dX5_deepest_43 : decode cX5_deepest 43 = .ok (.istore_n 2, 1) := by decide +kernel
theorem dX5_deepest_44 : decode cX5_deepest 44 = .ok (.iinc 3 1, 3) := by decide +kernel
theorem dX5_deepest_47 : decode cX5_deepest 47 = .ok (.goto (-33), 3) := by decide +kernel
theorem dX5_deepest_50 : decode cX5_deepest 50 = .ok (.iload_n 2, 1) := by decide +kernel
theorem dX5_deepest_51 : decode cX5_deepest 51 = .ok (.ireturn, 1) := by decide +kernel
set_option maxRecDepth 20000 in
theorem ggX5_opensAt_X5_opening : GoodIn wsX5_opensAt wsX5_opening := goodIn_r _ [6, 7, 8, 9, 10, 11, 12, 13, 14, 15, 16, 17] (by decide +kernel) (by decide +kernel)
set_option maxRecDepth 20000 in
theorem gX5_opensAt_X5_opening : GoodIn wsX5_opensAt (wsV RX5 67 RX5 yX5_opening wsX5_opening) := goodIn_app (goodIn_of _ (by decide +kernel)) ggX5_opensAt_X5_opening
theorem dX5_opensAt_0 : decode cX5_opensAt 0 = .ok (.iconst 0, 1) := by decide +kernel
theorem dX5_opensAt_1 : decode cX5_opensAt 1 = .ok (.istore_n 2, 1) := by decide +kernel
theorem dX5_opensAt_2 : decode cX5_opensAt 2 = .ok (.iload_n 2, 1) := by decide +kernel
theorem dX5_opensAt_3 : decode cX5_opensAt 3 = .ok (.aload_n 0, 1) := by decide +kernel
theorem dX5_opensAt_4 : decode cX5_opensAt 4 = .ok (.getfield 29, 3) := by decide +kernel
theorem dX5_opensAt_7 : decode cX5_opensAt 7 = .ok (.if_icmp .ge 20, 3) := by decide +kernel
theorem dX5_opensAt_10 : decode cX5_opensAt 10 = .ok (.aload_n 0, 1) := by decide +kernel
theorem dX5_opensAt_11 : decode cX5_opensAt 11 = .ok (.iload_n 2, 1) := by decide +kernel
theorem dX5_opensAt_12 : decode cX5_opensAt 12 = .ok (.invokevirtual 67, 3) := by decide +kernel
theorem dX5_opensAt_15 : decode cX5_opensAt 15 = .ok (.iload_n 1, 1) := by decide +kernel
theorem dX5_opensAt_16 : decode cX5_opensAt 16 = .ok (.if_icmp .ne 5, 3) := by decide +kernel
theorem dX5_opensAt_19 : decode cX5_opensAt 19 = .ok (.iload_n 2, 1) := by decide +kernel
theorem dX5_opensAt_20 : decode cX5_opensAt 20 = .ok (.ireturn, 1) := by decide +kernel
theorem dX5_opensAt_21 : decode cX5_opensAt 21 = .ok (.iinc 2 1, 3) := by decide +kernel
theorem dX5_opensAt_24 : decode cX5_opensAt 24 = .ok (.goto (-22), 3) := by decide +kernel
theorem dX5_opensAt_27 : decode cX5_opensAt 27 = .ok (.iconst (-1), 1) := by decide +kernel
theorem dX5_opensAt_28 : decode cX5_opensAt 28 = .ok (.ireturn, 1) := by decide +kernel
set_option maxRecDepth 20000 in
theorem ggX5_nodeAt_X5_opensAt : GoodIn wsX5_nodeAt wsX5_opensAt := goodIn_r _ [6, 1, 7, 8, 9, 5, 10, 11, 20, 21, 22, 23, 24, 25, 26, 27, 28, 29] (by decide +kernel) (by decide +kernel)
set_option maxRecDepth 20000 in
theorem gX5_nodeAt_X5_opensAt : GoodIn wsX5_nodeAt (wsV RX5 117 RX5 yX5_opensAt wsX5_opensAt) := goodIn_app (goodIn_of _ (by decide +kernel)) ggX5_nodeAt_X5_opensAt
set_option maxRecDepth 20000 in
theorem ggX5_nodeAt_X5_closing : GoodIn wsX5_nodeAt wsX5_closing := goodIn_r _ [15, 7, 8, 9, 5, 10, 11, 16, 17, 18, 19, 1, 20, 21, 22, 23, 24, 25, 26, 27, 28, 29] (by decide +kernel) (by decide +kernel)
set_option maxRecDepth 20000 in
theorem gX5_nodeAt_X5_closing : GoodIn wsX5_nodeAt (wsV RX5 88 RX5 yX5_closing wsX5_closing) := goodIn_app (goodIn_of _ (by decide +kernel)) ggX5_nodeAt_X5_closing
theorem dX5_nodeAt_0 : decode cX5_nodeAt 0 = .ok (.aload_n 0, 1) := by decide +kernel
theorem dX5_nodeAt_1 : decode cX5_nodeAt 1 = .ok (.iload_n 1, 1) := by decide +kernel
theorem dX5_nodeAt_2 : decode cX5_nodeAt 2 = .ok (.invokevirtual 117, 3) := by decide +kernel
theorem dX5_nodeAt_5 : decode cX5_nodeAt 5 = .ok (.istore_n 2, 1) := by decide +kernel
theorem dX5_nodeAt_6 : decode cX5_nodeAt 6 = .ok (.iconst 0, 1) := by decide +kernel
theorem dX5_nodeAt_7 : decode cX5_nodeAt 7 = .ok (.istore_n 3, 1) := by decide +kernel
theorem dX5_nodeAt_8 : decode cX5_nodeAt 8 = .ok (.iload_n 3, 1) := by decide +kernel
theorem dX5_nodeAt_9 : decode cX5_nodeAt 9 = .ok (.aload_n 0, 1) := by decide +kernel
theorem dX5_nodeAt_10 : decode cX5_nodeAt 10 = .ok (.getfield 29, 3) := by decide +kernel
theorem dX5_nodeAt_13 : decode cX5_nodeAt 13 = .ok (.if_icmp .ge 28, 3) := by decide +kernel
theorem dX5_nodeAt_16 : decode cX5_nodeAt 16 = .ok (.iload_n 2, 1) := by decide +kernel
theorem dX5_nodeAt_17 : decode cX5_nodeAt 17 = .ok (.ifCond .ge 24, 3) := by decide +kernel
theorem dX5_nodeAt_20 : decode cX5_nodeAt 20 = .ok (.aload_n 0, 1) := by decide +kernel
theorem dX5_nodeAt_21 : decode cX5_nodeAt 21 = .ok (.iload_n 3, 1) := by decide +kernel
theorem dX5_nodeAt_22 : decode cX5_nodeAt 22 = .ok (.invokevirtual 88, 3) := by decide +kernel
theorem dX5_nodeAt_25 : decode cX5_nodeAt 25 = .ok (.iload_n 1, 1) := by decide +kernel
theorem dX5_nodeAt_26 : decode cX5_nodeAt 26 = .ok (.if_icmp .ne 7, 3) := by decide +kernel
theorem dX5_nodeAt_29 : decode cX5_nodeAt 29 = .ok (.iload_n 3, 1) := by decide +kernel
theorem dX5_nodeAt_30 : decode cX5_nodeAt 30 = .ok (.goto 4, 3) := by decide +kernel
theorem dX5_nodeAt_33 : decode cX5_nodeAt 33 = .ok (.iload_n 2, 1) := by decide +kernel
theorem dX5_nodeAt_34 : decode cX5_nodeAt 34 = .ok (.istore_n 2, 1) := by decide +kernel
theorem dX5_nodeAt_35 : decode cX5_nodeAt 35 = .ok (.iinc 3 1, 3) := by decide +kernel
theorem dX5_nodeAt_38 : decode cX5_nodeAt 38 = .ok (.goto (-30), 3) := by decide +kernel
theorem dX5_nodeAt_41 : decode cX5_nodeAt 41 = .ok (.iload_n 2, 1) := by decide +kernel
theorem dX5_nodeAt_42 : decode cX5_nodeAt 42 = .ok (.ireturn, 1) := by decide +kernel
set_option maxRecDepth 20000 in
theorem ggX5_excess_X5_nodeAt : GoodIn wsX5_excess wsX5_nodeAt := goodIn_r _ [6, 7, 8, 9, 10, 5, 11, 12, 13, 14, 15, 1, 16, 17, 18, 19, 20, 21, 22, 23, 24, 25, 26, 27, 28, 29, 30, 31, 32, 33] (by decide +kernel) (by decide +kernel)
set_option maxRecDepth 20000 in
theorem gX5_excess_X5_nodeAt : GoodIn wsX5_excess (wsV RX5 120 RX5 yX5_nodeAt wsX5_nodeAt) := goodIn_app (goodIn_of _ (by decide +kernel)) ggX5_excess_X5_nodeAt
set_option maxRecDepth 20000 in
theorem ggX5_excess_X5_opening : GoodIn wsX5_excess wsX5_opening := goodIn_r _ [15, 1, 24, 25, 26, 27, 28, 29, 30, 31, 32, 33] (by decide +kernel) (by decide +kernel)
set_option maxRecDepth 20000 in
theorem gX5_excess_X5_opening : GoodIn wsX5_excess (wsV RX5 67 RX5 yX5_opening wsX5_opening) := goodIn_app (goodIn_of _ (by decide +kernel)) ggX5_excess_X5_opening
theorem dX5_excess_0 : decode cX5_excess 0 = .ok (.aload_n 0, 1) := by decide +kernel
theorem dX5_excess_1 : decode cX5_excess 1 = .ok (.iload_n 1, 1) := by decide +kernel
theorem dX5_excess_2 : decode cX5_excess 2 = .ok (.invokevirtual 120, 3) := by decide +kernel
theorem dX5_excess_5 : decode cX5_excess 5 = .ok (.istore_n 2, 1) := by decide +kernel
theorem dX5_excess_6 : decode cX5_excess 6 = .ok (.aload_n 0, 1) := by decide +kernel
theorem dX5_excess_7 : decode cX5_excess 7 = .ok (.iload_n 2, 1) := by decide +kernel
theorem dX5_excess_8 : decode cX5_excess 8 = .ok (.invokevirtual 67, 3) := by decide +kernel
theorem dX5_excess_11 : decode cX5_excess 11 = .ok (.iload_n 1, 1) := by decide +kernel
theorem dX5_excess_12 : decode cX5_excess 12 = .ok (.if_icmp .ne 14, 3) := by decide +kernel
theorem dX5_excess_15 : decode cX5_excess 15 = .ok (.aload_n 0, 1) := by decide +kernel
theorem dX5_excess_16 : decode cX5_excess 16 = .ok (.getfield 7, 3) := by decide +kernel
theorem dX5_excess_19 : decode cX5_excess 19 = .ok (.iload_n 2, 1) := by decide +kernel
theorem dX5_excess_20 : decode cX5_excess 20 = .ok (.iaload, 1) := by decide +kernel
theorem dX5_excess_21 : decode cX5_excess 21 = .ok (.iconst 1, 1) := by decide +kernel
theorem dX5_excess_22 : decode cX5_excess 22 = .ok (.iadd, 1) := by decide +kernel
theorem dX5_excess_23 : decode cX5_excess 23 = .ok (.goto 9, 3) := by decide +kernel
theorem dX5_excess_26 : decode cX5_excess 26 = .ok (.aload_n 0, 1) := by decide +kernel
theorem dX5_excess_27 : decode cX5_excess 27 = .ok (.getfield 7, 3) := by decide +kernel
theorem dX5_excess_30 : decode cX5_excess 30 = .ok (.iload_n 2, 1) := by decide +kernel
theorem dX5_excess_31 : decode cX5_excess 31 = .ok (.iaload, 1) := by decide +kernel
theorem dX5_excess_32 : decode cX5_excess 32 = .ok (.ireturn, 1) := by decide +kernel
set_option maxRecDepth 20000 in
theorem ggX5_bracket_X5_in : GoodIn wsX5_bracket wsX5_in := goodIn_r _ [5] (by decide +kernel) (by decide +kernel)
set_option maxRecDepth 20000 in
theorem gX5_bracket_X5_in : GoodIn wsX5_bracket (va_wsS RX5 36 yX5_in wsX5_in) := goodIn_app (goodIn_of _ (by decide +kernel)) ggX5_bracket_X5_in
set_option maxRecDepth 20000 in
theorem ggX5_bracket_X5_nodeAt : GoodIn wsX5_bracket wsX5_nodeAt := goodIn_r _ [9, 1, 10, 11, 12, 4, 13, 14, 15, 16, 17, 18, 19, 20, 21, 22, 23, 24, 25, 26, 35, 36, 37, 38, 39, 40, 41, 42, 43, 44] (by decide +kernel) (by decide +kernel)
set_option maxRecDepth 20000 in
theorem gX5_bracket_X5_nodeAt : GoodIn wsX5_bracket (wsV RX5 120 RX5 yX5_nodeAt wsX5_nodeAt) := goodIn_app (goodIn_of _ (by decide +kernel)) ggX5_bracket_X5_nodeAt
set_option maxRecDepth 20000 in
theorem ggX5_bracket_X5_opening : GoodIn wsX5_bracket wsX5_opening := goodIn_r _ [17, 18, 35, 36, 37, 38, 39, 40, 41, 42, 43, 44] (by decide +kernel) (by decide +kernel)
set_option maxRecDepth 20000 in
theorem gX5_bracket_X5_opening : GoodIn wsX5_bracket (wsV RX5 67 RX5 yX5_opening wsX5_opening) := goodIn_app (goodIn_of _ (by decide +kernel)) ggX5_bracket_X5_opening
set_option maxRecDepth 20000 in
theorem ggX5_bracket_X5_excess : GoodIn wsX5_bracket wsX5_excess := goodIn_r _ [30, 18, 6, 7, 8, 4, 9, 1, 10, 11, 12, 13, 14, 15, 16, 17, 19, 20, 21, 22, 23, 24, 25, 26, 35, 36, 37, 38, 39, 40, 41, 42, 43, 44] (by decide +kernel) (by decide +kernel)
set_option maxRecDepth 20000 in
theorem gX5_bracket_X5_excess : GoodIn wsX5_bracket (wsV RX5 123 RX5 yX5_excess wsX5_excess) := goodIn_app (goodIn_of _ (by decide +kernel)) ggX5_bracket_X5_excess
set_option maxRecDepth 20000 in
theorem ggX5_bracket_X5_closing : GoodIn wsX5_bracket wsX5_closing := goodIn_r _ [22, 14, 15, 16, 4, 17, 18, 23, 24, 25, 26, 1, 35, 36, 37, 38, 39, 40, 41, 42, 43, 44] (by decide +kernel) (by decide +kernel)
set_option maxRecDepth 20000 in
theorem gX5_bracket_X5_closing : GoodIn wsX5_bracket (wsV RX5 88 RX5 yX5_closing wsX5_closing) := goodIn_app (goodIn_of _ (by decide +kernel)) ggX5_bracket_X5_closing
set_option maxRecDepth 20000 in
theorem ggX5_bracket_X5_parentOf : GoodIn wsX5_bracket wsX5_parentOf := goodIn_r _ [34, 18, 35, 36, 37, 38, 39, 40, 41, 42, 43, 44] (by decide +kernel) (by decide +kernel)
set_option maxRecDepth 20000 in
theorem gX5_bracket_X5_parentOf : GoodIn wsX5_bracket (wsV RX5 73 RX5 yX5_parentOf wsX5_parentOf) := goodIn_app (goodIn_of _ (by decide +kernel)) ggX5_bracket_X5_parentOf
theorem dX5_bracket_0 : decode cX5_bracket 0 = .ok (.iload_n 1, 1) := by decide +kernel
theorem dX5_bracket_1 : decode cX5_bracket 1 = .ok (.iconst 0, 1) := by decide +kernel
theorem dX5_bracket_2 : decode cX5_bracket 2 = .ok (.iconst 2, 1) := by decide +kernel
theorem dX5_bracket_3 : decode cX5_bracket 3 = .ok (.aload_n 0, 1) := by decide +kernel
theorem dX5_bracket_4 : decode cX5_bracket 4 = .ok (.getfield 29, 3) := by decide +kernel
theorem dX5_bracket_7 : decode cX5_bracket 7 = .ok (.imul, 1) := by decide +kernel
theorem dX5_bracket_8 : decode cX5_bracket 8 = .ok (.iconst 1, 1) := by decide +kernel
theorem dX5_bracket_9 : decode cX5_bracket 9 = .ok (.isub, 1) := by decide +kernel
theorem dX5_bracket_10 : decode cX5_bracket 10 = .ok (.invokestatic 36, 3) := by decide +kernel
theorem dX5_bracket_13 : decode cX5_bracket 13 = .ok (.ifCond .ne 5, 3) := by decide +kernel
theorem dX5_bracket_16 : decode cX5_bracket 16 = .ok (.iconst (-1), 1) := by decide +kernel
theorem dX5_bracket_17 : decode cX5_bracket 17 = .ok (.ireturn, 1) := by decide +kernel
theorem dX5_bracket_18 : decode cX5_bracket 18 = .ok (.aload_n 0, 1) := by decide +kernel
theorem dX5_bracket_19 : decode cX5_bracket 19 = .ok (.iload_n 1, 1) := by decide +kernel
theorem dX5_bracket_20 : decode cX5_bracket 20 = .ok (.invokevirtual 120, 3) := by decide +kernel
theorem dX5_bracket_23 : decode cX5_bracket 23 = .ok (.istore_n 3, 1) := by decide +kernel
theorem dX5_bracket_24 : decode cX5_bracket 24 = .ok (.aload_n 0, 1) := by decide +kernel
theorem dX5_bracket_25 : decode cX5_bracket 25 = .ok (.iload_n 3, 1) := by decide +kernel
theorem dX5_bracket_26 : decode cX5_bracket 26 = .ok (.invokevirtual 67, 3) := by decide +kernel
theorem dX5_bracket_29 : decode cX5_bracket 29 = .ok (.iload_n 1, 1) := by decide +kernel
theorem dX5_bracket_30 : decode cX5_bracket 30 = .ok (.if_icmp .ne 7, 3) := by decide +kernel
theorem dX5_bracket_33 : decode cX5_bracket 33 = .ok (.iconst 1, 1) := by decide +kernel
theorem dX5_bracket_34 : decode cX5_bracket 34 = .ok (.goto 4, 3) := by decide +kernel
theorem dX5_bracket_37 : decode cX5_bracket 37 = .ok (.iconst 0, 1) := by decide +kernel
theorem dX5_bracket_38 : decode cX5_bracket 38 = .ok (.istore 4, 2) := by decide +kernel
theorem dX5_bracket_40 : decode cX5_bracket 40 = .ok (.iload_n 2, 1) := by decide +kernel
theorem dX5_bracket_41 : decode cX5_bracket 41 = .ok (.tableswitch 92 0 4 #[35, 46, 52, 71, 90], 35) := by decide +kernel
theorem dX5_bracket_76 : decode cX5_bracket 76 = .ok (.iload 4, 2) := by decide +kernel
theorem dX5_bracket_78 : decode cX5_bracket 78 = .ok (.ifCond .eq 7, 3) := by decide +kernel
theorem dX5_bracket_81 : decode cX5_bracket 81 = .ok (.iconst 1, 1) := by decide +kernel
theorem dX5_bracket_82 : decode cX5_bracket 82 = .ok (.goto 4, 3) := by decide +kernel
theorem dX5_bracket_85 : decode cX5_bracket 85 = .ok (.iconst 0, 1) := by decide +kernel
theorem dX5_bracket_86 : decode cX5_bracket 86 = .ok (.ireturn, 1) := by decide +kernel
theorem dX5_bracket_87 : decode cX5_bracket 87 = .ok (.aload_n 0, 1) := by decide +kernel
theorem dX5_bracket_88 : decode cX5_bracket 88 = .ok (.iload_n 1, 1) := by decide +kernel
theorem dX5_bracket_89 : decode cX5_bracket 89 = .ok (.invokevirtual 123, 3) := by decide +kernel
theorem dX5_bracket_92 : decode cX5_bracket 92 = .ok (.ireturn, 1) := by decide +kernel
theorem dX5_bracket_93 : decode cX5_bracket 93 = .ok (.iload 4, 2) := by decide +kernel
theorem dX5_bracket_95 : decode cX5_bracket 95 = .ok (.ifCond .eq 11, 3) := by decide +kernel
theorem dX5_bracket_98 : decode cX5_bracket 98 = .ok (.aload_n 0, 1) := by decide +kernel
theorem dX5_bracket_99 : decode cX5_bracket 99 = .ok (.iload_n 3, 1) := by decide +kernel
theorem dX5_bracket_100 : decode cX5_bracket 100 = .ok (.invokevirtual 88, 3) := by decide +kernel
theorem dX5_bracket_103 : decode cX5_bracket 103 = .ok (.goto 8, 3) := by decide +kernel
theorem dX5_bracket_106 : decode cX5_bracket 106 = .ok (.aload_n 0, 1) := by decide +kernel
theorem dX5_bracket_107 : decode cX5_bracket 107 = .ok (.iload_n 3, 1) := by decide +kernel
theorem dX5_bracket_108 : decode cX5_bracket 108 = .ok (.invokevirtual 67, 3) := by decide +kernel
theorem dX5_bracket_111 : decode cX5_bracket 111 = .ok (.ireturn, 1) := by decide +kernel
theorem dX5_bracket_112 : decode cX5_bracket 112 = .ok (.iload_n 3, 1) := by decide +kernel
theorem dX5_bracket_113 : decode cX5_bracket 113 = .ok (.ifCond .ne 8, 3) := by decide +kernel
theorem dX5_bracket_116 : decode cX5_bracket 116 = .ok (.bipush (-5), 2) := by decide +kernel
theorem dX5_bracket_118 : decode cX5_bracket 118 = .ok (.goto 12, 3) := by decide +kernel
theorem dX5_bracket_121 : decode cX5_bracket 121 = .ok (.aload_n 0, 1) := by decide +kernel
theorem dX5_bracket_122 : decode cX5_bracket 122 = .ok (.aload_n 0, 1) := by decide +kernel
theorem dX5_bracket_123 : decode cX5_bracket 123 = .ok (.iload_n 3, 1) := by decide +kernel
theorem dX5_bracket_124 : decode cX5_bracket 124 = .ok (.invokevirtual 73, 3) := by decide +kernel
theorem dX5_bracket_127 : decode cX5_bracket 127 = .ok (.invokevirtual 67, 3) := by decide +kernel
theorem dX5_bracket_130 : decode cX5_bracket 130 = .ok (.ireturn, 1) := by decide +kernel
theorem dX5_bracket_131 : decode cX5_bracket 131 = .ok (.iload_n 3, 1) := by decide +kernel
theorem dX5_bracket_132 : decode cX5_bracket 132 = .ok (.ireturn, 1) := by decide +kernel
theorem dX5_bracket_133 : decode cX5_bracket 133 = .ok (.bipush (-2), 2) := by decide +kernel
theorem dX5_bracket_135 : decode cX5_bracket 135 = .ok (.ireturn, 1) := by decide +kernel
set_option maxRecDepth 20000 in
theorem ggX5_setWidth_X5_in : GoodIn wsX5_setWidth wsX5_in := goodIn_r _ [5] (by decide +kernel) (by decide +kernel)
set_option maxRecDepth 20000 in
theorem gX5_setWidth_X5_in : GoodIn wsX5_setWidth (va_wsS RX5 36 yX5_in wsX5_in) := goodIn_app (goodIn_of _ (by decide +kernel)) ggX5_setWidth_X5_in
theorem dX5_setWidth_0 : decode cX5_setWidth 0 = .ok (.iload_n 1, 1) := by decide +kernel
theorem dX5_setWidth_1 : decode cX5_setWidth 1 = .ok (.iconst 4, 1) := by decide +kernel
theorem dX5_setWidth_2 : decode cX5_setWidth 2 = .ok (.bipush 32, 2) := by decide +kernel
theorem dX5_setWidth_4 : decode cX5_setWidth 4 = .ok (.invokestatic 36, 3) := by decide +kernel
theorem dX5_setWidth_7 : decode cX5_setWidth 7 = .ok (.ifCond .ne 6, 3) := by decide +kernel
theorem dX5_setWidth_10 : decode cX5_setWidth 10 = .ok (.bipush (-2), 2) := by decide +kernel
theorem dX5_setWidth_12 : decode cX5_setWidth 12 = .ok (.ireturn, 1) := by decide +kernel
theorem dX5_setWidth_13 : decode cX5_setWidth 13 = .ok (.aload_n 0, 1) := by decide +kernel
theorem dX5_setWidth_14 : decode cX5_setWidth 14 = .ok (.getfield 33, 3) := by decide +kernel
theorem dX5_setWidth_17 : decode cX5_setWidth 17 = .ok (.istore_n 2, 1) := by decide +kernel
theorem dX5_setWidth_18 : decode cX5_setWidth 18 = .ok (.aload_n 0, 1) := by decide +kernel
theorem dX5_setWidth_19 : decode cX5_setWidth 19 = .ok (.iload_n 1, 1) := by decide +kernel
theorem dX5_setWidth_20 : decode cX5_setWidth 20 = .ok (.putfield 33, 3) := by decide +kernel
theorem dX5_setWidth_23 : decode cX5_setWidth 23 = .ok (.iload_n 2, 1) := by decide +kernel
theorem dX5_setWidth_24 : decode cX5_setWidth 24 = .ok (.ireturn, 1) := by decide +kernel
theorem dX5_blocks_0 : decode cX5_blocks 0 = .ok (.iconst 2, 1) := by decide +kernel
theorem dX5_blocks_1 : decode cX5_blocks 1 = .ok (.aload_n 0, 1) := by decide +kernel
theorem dX5_blocks_2 : decode cX5_blocks 2 = .ok (.getfield 29, 3) := by decide +kernel
theorem dX5_blocks_5 : decode cX5_blocks 5 = .ok (.imul, 1) := by decide +kernel
theorem dX5_blocks_6 : decode cX5_blocks 6 = .ok (.aload_n 0, 1) := by decide +kernel
theorem dX5_blocks_7 : decode cX5_blocks 7 = .ok (.getfield 33, 3) := by decide +kernel
theorem dX5_blocks_10 : decode cX5_blocks 10 = .ok (.iadd, 1) := by decide +kernel
theorem dX5_blocks_11 : decode cX5_blocks 11 = .ok (.iconst 1, 1) := by decide +kernel
theorem dX5_blocks_12 : decode cX5_blocks 12 = .ok (.isub, 1) := by decide +kernel
theorem dX5_blocks_13 : decode cX5_blocks 13 = .ok (.aload_n 0, 1) := by decide +kernel
theorem dX5_blocks_14 : decode cX5_blocks 14 = .ok (.getfield 33, 3) := by decide +kernel
theorem dX5_blocks_17 : decode cX5_blocks 17 = .ok (.idiv, 1) := by decide +kernel
theorem dX5_blocks_18 : decode cX5_blocks 18 = .ok (.ireturn, 1) := by decide +kernel
set_option maxRecDepth 20000 in
theorem ggX5_block_X5_blocks : GoodIn wsX5_block wsX5_blocks := goodIn_r _ [7, 2, 1, 36, 37, 38, 39, 40, 41, 42, 43, 44, 45] (by decide +kernel) (by decide +kernel)
set_option maxRecDepth 20000 in
theorem gX5_block_X5_blocks : GoodIn wsX5_block (wsV RX5 126 RX5 yX5_blocks wsX5_blocks) := goodIn_app (goodIn_of _ (by decide +kernel)) ggX5_block_X5_blocks
set_option maxRecDepth 20000 in
theorem ggX5_block_X5_in : GoodIn wsX5_block wsX5_in := goodIn_r _ [10] (by decide +kernel) (by decide +kernel)
set_option maxRecDepth 20000 in
theorem gX5_block_X5_in : GoodIn wsX5_block (va_wsS RX5 36 yX5_in wsX5_in) := goodIn_app (goodIn_of _ (by decide +kernel)) ggX5_block_X5_in
set_option maxRecDepth 20000 in
theorem ggX5_block_X5_excess : GoodIn wsX5_block wsX5_excess := goodIn_r _ [14, 15, 16, 17, 18, 6, 19, 2, 20, 21, 22, 23, 24, 25, 26, 27, 28, 29, 30, 31, 32, 33, 34, 35, 36, 37, 38, 39, 40, 41, 42, 43, 44, 45] (by decide +kernel) (by decide +kernel)
set_option maxRecDepth 20000 in
theorem gX5_block_X5_excess : GoodIn wsX5_block (wsV RX5 123 RX5 yX5_excess wsX5_excess) := goodIn_app (goodIn_of _ (by decide +kernel)) ggX5_block_X5_excess
theorem dX5_block_0 : decode cX5_block 0 = .ok (.iload_n 1, 1) := by decide +kernel
theorem dX5_block_1 : decode cX5_block 1 = .ok (.iconst 0, 1) := by decide +kernel
theorem dX5_block_2 : decode cX5_block 2 = .ok (.aload_n 0, 1) := by decide +kernel
theorem dX5_block_3 : decode cX5_block 3 = .ok (.invokevirtual 126, 3) := by decide +kernel
theorem dX5_block_6 : decode cX5_block 6 = .ok (.iconst 1, 1) := by decide +kernel
theorem dX5_block_7 : decode cX5_block 7 = .ok (.isub, 1) := by decide +kernel
theorem dX5_block_8 : decode cX5_block 8 = .ok (.invokestatic 36, 3) := by decide +kernel
theorem dX5_block_11 : decode cX5_block 11 = .ok (.ifCond .ne 5, 3) := by decide +kernel
theorem dX5_block_14 : decode cX5_block 14 = .ok (.iconst (-1), 1) := by decide +kernel
theorem dX5_block_15 : decode cX5_block 15 = .ok (.ireturn, 1) := by decide +kernel
theorem dX5_block_16 : decode cX5_block 16 = .ok (.iload_n 1, 1) := by decide +kernel
theorem dX5_block_17 : decode cX5_block 17 = .ok (.aload_n 0, 1) := by decide +kernel
theorem dX5_block_18 : decode cX5_block 18 = .ok (.getfield 33, 3) := by decide +kernel
theorem dX5_block_21 : decode cX5_block 21 = .ok (.imul, 1) := by decide +kernel
theorem dX5_block_22 : decode cX5_block 22 = .ok (.istore_n 3, 1) := by decide +kernel
theorem dX5_block_23 : decode cX5_block 23 = .ok (.iload_n 3, 1) := by decide +kernel
theorem dX5_block_24 : decode cX5_block 24 = .ok (.aload_n 0, 1) := by decide +kernel
theorem dX5_block_25 : decode cX5_block 25 = .ok (.getfield 33, 3) := by decide +kernel
theorem dX5_block_28 : decode cX5_block 28 = .ok (.iadd, 1) := by decide +kernel
theorem dX5_block_29 : decode cX5_block 29 = .ok (.iconst 2, 1) := by decide +kernel
theorem dX5_block_30 : decode cX5_block 30 = .ok (.aload_n 0, 1) := by decide +kernel
theorem dX5_block_31 : decode cX5_block 31 = .ok (.getfield 29, 3) := by decide +kernel
theorem dX5_block_34 : decode cX5_block 34 = .ok (.imul, 1) := by decide +kernel
theorem dX5_block_35 : decode cX5_block 35 = .ok (.if_icmp .ge 12, 3) := by decide +kernel
theorem dX5_block_38 : decode cX5_block 38 = .ok (.iload_n 3, 1) := by decide +kernel
theorem dX5_block_39 : decode cX5_block 39 = .ok (.aload_n 0, 1) := by decide +kernel
theorem dX5_block_40 : decode cX5_block 40 = .ok (.getfield 33, 3) := by decide +kernel
theorem dX5_block_43 : decode cX5_block 43 = .ok (.iadd, 1) := by decide +kernel
theorem dX5_block_44 : decode cX5_block 44 = .ok (.goto 9, 3) := by decide +kernel
theorem dX5_block_47 : decode cX5_block 47 = .ok (.iconst 2, 1) := by decide +kernel
theorem dX5_block_48 : decode cX5_block 48 = .ok (.aload_n 0, 1) := by decide +kernel
theorem dX5_block_49 : decode cX5_block 49 = .ok (.getfield 29, 3) := by decide +kernel
theorem dX5_block_52 : decode cX5_block 52 = .ok (.imul, 1) := by decide +kernel
theorem dX5_block_53 : decode cX5_block 53 = .ok (.istore 4, 2) := by decide +kernel
theorem dX5_block_55 : decode cX5_block 55 = .ok (.aload_n 0, 1) := by decide +kernel
theorem dX5_block_56 : decode cX5_block 56 = .ok (.iload_n 3, 1) := by decide +kernel
theorem dX5_block_57 : decode cX5_block 57 = .ok (.invokevirtual 123, 3) := by decide +kernel
theorem dX5_block_60 : decode cX5_block 60 = .ok (.istore 5, 2) := by decide +kernel
theorem dX5_block_62 : decode cX5_block 62 = .ok (.iload 5, 2) := by decide +kernel
theorem dX5_block_64 : decode cX5_block 64 = .ok (.istore 6, 2) := by decide +kernel
theorem dX5_block_66 : decode cX5_block 66 = .ok (.iload_n 3, 1) := by decide +kernel
theorem dX5_block_67 : decode cX5_block 67 = .ok (.iconst 1, 1) := by decide +kernel
theorem dX5_block_68 : decode cX5_block 68 = .ok (.iadd, 1) := by decide +kernel
theorem dX5_block_69 : decode cX5_block 69 = .ok (.istore 7, 2) := by decide +kernel
theorem dX5_block_71 : decode cX5_block 71 = .ok (.iload 7, 2) := by decide +kernel
theorem dX5_block_73 : decode cX5_block 73 = .ok (.iload 4, 2) := by decide +kernel
theorem dX5_block_75 : decode cX5_block 75 = .ok (.if_icmp .ge 49, 3) := by decide +kernel
theorem dX5_block_78 : decode cX5_block 78 = .ok (.aload_n 0, 1) := by decide +kernel
theorem dX5_block_79 : decode cX5_block 79 = .ok (.iload 7, 2) := by decide +kernel
theorem dX5_block_81 : decode cX5_block 81 = .ok (.invokevirtual 123, 3) := by decide +kernel
theorem dX5_block_84 : decode cX5_block 84 = .ok (.istore 8, 2) := by decide +kernel
theorem dX5_block_86 : decode cX5_block 86 = .ok (.iload 8, 2) := by decide +kernel
theorem dX5_block_88 : decode cX5_block 88 = .ok (.iload 5, 2) := by decide +kernel
theorem dX5_block_90 : decode cX5_block 90 = .ok (.if_icmp .ge 8, 3) := by decide +kernel
theorem dX5_block_93 : decode cX5_block 93 = .ok (.iload 8, 2) := by decide +kernel
theorem dX5_block_95 : decode cX5_block 95 = .ok (.goto 5, 3) := by decide +kernel
theorem dX5_block_98 : decode cX5_block 98 = .ok (.iload 5, 2) := by decide +kernel
theorem dX5_block_100 : decode cX5_block 100 = .ok (.istore 5, 2) := by decide +kernel
theorem dX5_block_102 : decode cX5_block 102 = .ok (.iload 8, 2) := by decide +kernel
theorem dX5_block_104 : decode cX5_block 104 = .ok (.iload 6, 2) := by decide +kernel
theorem dX5_block_106 : decode cX5_block 106 = .ok (.if_icmp .le 8, 3) := by decide +kernel
theorem dX5_block_109 : decode cX5_block 109 = .ok (.iload 8, 2) := by decide +kernel
theorem dX5_block_111 : decode cX5_block 111 = .ok (.goto 5, 3) := by decide +kernel
theorem dX5_block_114 : decode cX5_block 114 = .ok (.iload 6, 2) := by decide +kernel
theorem dX5_block_116 : decode cX5_block 116 = .ok (.istore 6, 2) := by decide +kernel
theorem dX5_block_118 : decode cX5_block 118 = .ok (.iinc 7 1, 3) := by decide +kernel
theorem dX5_block_121 : decode cX5_block 121 = .ok (.goto (-50), 3) := by decide +kernel
theorem dX5_block_124 : decode cX5_block 124 = .ok (.iload_n 2, 1) := by decide +kernel
theorem dX5_block_125 : decode cX5_block 125 = .ok (.tableswitch 58 0 3 #[31, 47, 50, 53], 31) := by decide +kernel
theorem dX5_block_156 : decode cX5_block 156 = .ok (.iload_n 1, 1) := by decide +kernel
theorem dX5_block_157 : decode cX5_block 157 = .ok (.ifCond .ne 7, 3) := by decide +kernel
theorem dX5_block_160 : decode cX5_block 160 = .ok (.iconst 0, 1) := by decide +kernel
theorem dX5_block_161 : decode cX5_block 161 = .ok (.goto 10, 3) := by decide +kernel
theorem dX5_block_164 : decode cX5_block 164 = .ok (.aload_n 0, 1) := by decide +kernel
theorem dX5_block_165 : decode cX5_block 165 = .ok (.iload_n 3, 1) := by decide +kernel
theorem dX5_block_166 : decode cX5_block 166 = .ok (.iconst 1, 1) := by decide +kernel
theorem dX5_block_167 : decode cX5_block 167 = .ok (.isub, 1) := by decide +kernel
theorem dX5_block_168 : decode cX5_block 168 = .ok (.invokevirtual 123, 3) := by decide +kernel
theorem dX5_block_171 : decode cX5_block 171 = .ok (.ireturn, 1) := by decide +kernel
theorem dX5_block_172 : decode cX5_block 172 = .ok (.iload 5, 2) := by decide +kernel
theorem dX5_block_174 : decode cX5_block 174 = .ok (.ireturn, 1) := by decide +kernel
theorem dX5_block_175 : decode cX5_block 175 = .ok (.iload 6, 2) := by decide +kernel
theorem dX5_block_177 : decode cX5_block 177 = .ok (.ireturn, 1) := by decide +kernel
theorem dX5_block_178 : decode cX5_block 178 = .ok (.iload 4, 2) := by decide +kernel
theorem dX5_block_180 : decode cX5_block 180 = .ok (.iload_n 3, 1) := by decide +kernel
theorem dX5_block_181 : decode cX5_block 181 = .ok (.isub, 1) := by decide +kernel
theorem dX5_block_182 : decode cX5_block 182 = .ok (.ireturn, 1) := by decide +kernel
theorem dX5_block_183 : decode cX5_block 183 = .ok (.bipush (-2), 2) := by decide +kernel
theorem dX5_block_185 : decode cX5_block 185 = .ok (.ireturn, 1) := by decide +kernel
set_option maxRecDepth 20000 in
theorem ggX5_space_X5_blocks : GoodIn wsX5_space wsX5_blocks := goodIn_r _ [6, 1, 7, 8, 9, 10, 11, 12, 13, 14, 15, 16, 17] (by decide +kernel) (by decide +kernel)
set_option maxRecDepth 20000 in
theorem gX5_space_X5_blocks : GoodIn wsX5_space (wsV RX5 126 RX5 yX5_blocks wsX5_blocks) := goodIn_app (goodIn_of _ (by decide +kernel)) ggX5_space_X5_blocks
theorem dX5_space_0 : decode cX5_space 0 = .ok (.iconst 0, 1) := by decide +kernel
theorem dX5_space_1 : decode cX5_space 1 = .ok (.istore_n 2, 1) := by decide +kernel
theorem dX5_space_2 : decode cX5_space 2 = .ok (.aload_n 0, 1) := by decide +kernel
theorem dX5_space_3 : decode cX5_space 3 = .ok (.getfield 29, 3) := by decide +kernel
theorem dX5_space_6 : decode cX5_space 6 = .ok (.istore_n 3, 1) := by decide +kernel
theorem dX5_space_7 : decode cX5_space 7 = .ok (.iload_n 3, 1) := by decide +kernel
theorem dX5_space_8 : decode cX5_space 8 = .ok (.ifCond .le 13, 3) := by decide +kernel
theorem dX5_space_11 : decode cX5_space 11 = .ok (.iinc 2 1, 3) := by decide +kernel
theorem dX5_space_14 : decode cX5_space 14 = .ok (.iload_n 3, 1) := by decide +kernel
theorem dX5_space_15 : decode cX5_space 15 = .ok (.iconst 2, 1) := by decide +kernel
theorem dX5_space_16 : decode cX5_space 16 = .ok (.idiv, 1) := by decide +kernel
theorem dX5_space_17 : decode cX5_space 17 = .ok (.istore_n 3, 1) := by decide +kernel
theorem dX5_space_18 : decode cX5_space 18 = .ok (.goto (-11), 3) := by decide +kernel
theorem dX5_space_21 : decode cX5_space 21 = .ok (.iconst 3, 1) := by decide +kernel
theorem dX5_space_22 : decode cX5_space 22 = .ok (.iload_n 2, 1) := by decide +kernel
theorem dX5_space_23 : decode cX5_space 23 = .ok (.imul, 1) := by decide +kernel
theorem dX5_space_24 : decode cX5_space 24 = .ok (.aload_n 0, 1) := by decide +kernel
theorem dX5_space_25 : decode cX5_space 25 = .ok (.invokevirtual 126, 3) := by decide +kernel
theorem dX5_space_28 : decode cX5_space 28 = .ok (.imul, 1) := by decide +kernel
theorem dX5_space_29 : decode cX5_space 29 = .ok (.istore_n 3, 1) := by decide +kernel
theorem dX5_space_30 : decode cX5_space 30 = .ok (.iload_n 1, 1) := by decide +kernel
theorem dX5_space_31 : decode cX5_space 31 = .ok (.tableswitch 64 0 4 #[33, 40, 47, 49, 59], 33) := by decide +kernel
theorem dX5_space_64 : decode cX5_space 64 = .ok (.iconst 2, 1) := by decide +kernel
theorem dX5_space_65 : decode cX5_space 65 = .ok (.aload_n 0, 1) := by decide +kernel
theorem dX5_space_66 : decode cX5_space 66 = .ok (.getfield 29, 3) := by decide +kernel
theorem dX5_space_69 : decode cX5_space 69 = .ok (.imul, 1) := by decide +kernel
theorem dX5_space_70 : decode cX5_space 70 = .ok (.ireturn, 1) := by decide +kernel
theorem dX5_space_71 : decode cX5_space 71 = .ok (.iconst 5, 1) := by decide +kernel
theorem dX5_space_72 : decode cX5_space 72 = .ok (.aload_n 0, 1) := by decide +kernel
theorem dX5_space_73 : decode cX5_space 73 = .ok (.getfield 29, 3) := by decide +kernel
theorem dX5_space_76 : decode cX5_space 76 = .ok (.imul, 1) := by decide +kernel
theorem dX5_space_77 : decode cX5_space 77 = .ok (.ireturn, 1) := by decide +kernel
theorem dX5_space_78 : decode cX5_space 78 = .ok (.iload_n 3, 1) := by decide +kernel
theorem dX5_space_79 : decode cX5_space 79 = .ok (.ireturn, 1) := by decide +kernel
theorem dX5_space_80 : decode cX5_space 80 = .ok (.bipush 7, 2) := by decide +kernel
theorem dX5_space_82 : decode cX5_space 82 = .ok (.aload_n 0, 1) := by decide +kernel
theorem dX5_space_83 : decode cX5_space 83 = .ok (.getfield 29, 3) := by decide +kernel
theorem dX5_space_86 : decode cX5_space 86 = .ok (.imul, 1) := by decide +kernel
theorem dX5_space_87 : decode cX5_space 87 = .ok (.iload_n 3, 1) := by decide +kernel
theorem dX5_space_88 : decode cX5_space 88 = .ok (.iadd, 1) := by decide +kernel
theorem dX5_space_89 : decode cX5_space 89 = .ok (.ireturn, 1) := by decide +kernel
theorem dX5_space_90 : decode cX5_space 90 = .ok (.aload_n 0, 1) := by decide +kernel
theorem dX5_space_91 : decode cX5_space 91 = .ok (.invokevirtual 126, 3) := by decide +kernel
theorem dX5_space_94 : decode cX5_space 94 = .ok (.ireturn, 1) := by decide +kernel
theorem dX5_space_95 : decode cX5_space 95 = .ok (.bipush (-2), 2) := by decide +kernel
theorem dX5_space_97 : decode cX5_space 97 = .ok (.ireturn, 1) := by decide +kernel
set_option maxRecDepth 20000 in
theorem ggX5_setLabel_X5_noNode : GoodIn wsX5_setLabel wsX5_noNode := goodIn_r _ [6, 7, 8, 9, 5, 10, 21, 22, 23, 24, 25, 26, 27, 28, 29, 30] (by decide +kernel) (by decide +kernel)
set_option maxRecDepth 20000 in
theorem gX5_setLabel_X5_noNode : GoodIn wsX5_setLabel (wsV RX5 70 RX5 yX5_noNode wsX5_noNode) := goodIn_app (goodIn_of _ (by decide +kernel)) ggX5_setLabel_X5_noNode
set_option maxRecDepth 20000 in
theorem ggX5_setLabel_X5_isLetter : GoodIn wsX5_setLabel wsX5_isLetter := goodIn_r _ [13] (by decide +kernel) (by decide +kernel)
set_option maxRecDepth 20000 in
theorem gX5_setLabel_X5_isLetter : GoodIn wsX5_setLabel (va_wsS RX5 46 yX5_isLetter wsX5_isLetter) := goodIn_app (goodIn_of _ (by decide +kernel)) ggX5_setLabel_X5_isLetter
set_option maxRecDepth 20000 in
theorem ggX5_setLabel_X5_keep : GoodIn wsX5_setLabel wsX5_keep := goodIn_r _ [17, 18, 19, 7, 20, 1, 21, 22, 23, 24, 25, 26, 27, 28, 29, 30] (by decide +kernel) (by decide +kernel)
set_option maxRecDepth 20000 in
theorem gX5_setLabel_X5_keep : GoodIn wsX5_setLabel (wsV RX5 50 RX5 yX5_keep wsX5_keep) := goodIn_app (goodIn_of _ (by decide +kernel)) ggX5_setLabel_X5_keep
theorem dX5_setLabel_0 : decode cX5_setLabel 0 = .ok (.aload_n 0, 1) := by decide +kernel
theorem dX5_setLabel_1 : decode cX5_setLabel 1 = .ok (.iload_n 1, 1) := by decide +kernel
theorem dX5_setLabel_2 : decode cX5_setLabel 2 = .ok (.invokevirtual 70, 3) := by decide +kernel
theorem dX5_setLabel_5 : decode cX5_setLabel 5 = .ok (.ifCond .eq 5, 3) := by decide +kernel
theorem dX5_setLabel_8 : decode cX5_setLabel 8 = .ok (.iconst (-1), 1) := by decide +kernel
theorem dX5_setLabel_9 : decode cX5_setLabel 9 = .ok (.ireturn, 1) := by decide +kernel
theorem dX5_setLabel_10 : decode cX5_setLabel 10 = .ok (.iload_n 2, 1) := by decide +kernel
theorem dX5_setLabel_11 : decode cX5_setLabel 11 = .ok (.invokestatic 46, 3) := by decide +kernel
theorem dX5_setLabel_14 : decode cX5_setLabel 14 = .ok (.ifCond .ne 6, 3) := by decide +kernel
theorem dX5_setLabel_17 : decode cX5_setLabel 17 = .ok (.bipush (-2), 2) := by decide +kernel
theorem dX5_setLabel_19 : decode cX5_setLabel 19 = .ok (.ireturn, 1) := by decide +kernel
theorem dX5_setLabel_20 : decode cX5_setLabel 20 = .ok (.aload_n 0, 1) := by decide +kernel
theorem dX5_setLabel_21 : decode cX5_setLabel 21 = .ok (.invokevirtual 50, 3) := by decide +kernel
theorem dX5_setLabel_24 : decode cX5_setLabel 24 = .ok (.aload_n 0, 1) := by decide +kernel
theorem dX5_setLabel_25 : decode cX5_setLabel 25 = .ok (.getfield 13, 3) := by decide +kernel
theorem dX5_setLabel_28 : decode cX5_setLabel 28 = .ok (.iload_n 1, 1) := by decide +kernel
theorem dX5_setLabel_29 : decode cX5_setLabel 29 = .ok (.caload, 1) := by decide +kernel
theorem dX5_setLabel_30 : decode cX5_setLabel 30 = .ok (.istore_n 3, 1) := by decide +kernel
theorem dX5_setLabel_31 : decode cX5_setLabel 31 = .ok (.aload_n 0, 1) := by decide +kernel
theorem dX5_setLabel_32 : decode cX5_setLabel 32 = .ok (.getfield 13, 3) := by decide +kernel
theorem dX5_setLabel_35 : decode cX5_setLabel 35 = .ok (.iload_n 1, 1) := by decide +kernel
theorem dX5_setLabel_36 : decode cX5_setLabel 36 = .ok (.iload_n 2, 1) := by decide +kernel
theorem dX5_setLabel_37 : decode cX5_setLabel 37 = .ok (.castore, 1) := by decide +kernel
theorem dX5_setLabel_38 : decode cX5_setLabel 38 = .ok (.iload_n 3, 1) := by decide +kernel
theorem dX5_setLabel_39 : decode cX5_setLabel 39 = .ok (.ireturn, 1) := by decide +kernel
set_option maxRecDepth 20000 in
theorem ggX5_find_X5_behind : GoodIn wsX5_find wsX5_behind := goodIn_r _ [6, 7, 8, 9, 10, 11, 12, 13, 14, 15, 16, 17, 18] (by decide +kernel) (by decide +kernel)
set_option maxRecDepth 20000 in
theorem gX5_find_X5_behind : GoodIn wsX5_find (wsV RX5 61 RX5 yX5_behind wsX5_behind) := goodIn_app (goodIn_of _ (by decide +kernel)) ggX5_find_X5_behind
theorem dX5_find_0 : decode cX5_find 0 = .ok (.iconst 0, 1) := by decide +kernel
theorem dX5_find_1 : decode cX5_find 1 = .ok (.istore 4, 2) := by decide +kernel
theorem dX5_find_3 : decode cX5_find 3 = .ok (.iload_n 1, 1) := by decide +kernel
theorem dX5_find_4 : decode cX5_find 4 = .ok (.istore 5, 2) := by decide +kernel
theorem dX5_find_6 : decode cX5_find 6 = .ok (.iload 5, 2) := by decide +kernel
theorem dX5_find_8 : decode cX5_find 8 = .ok (.aload_n 0, 1) := by decide +kernel
theorem dX5_find_9 : decode cX5_find 9 = .ok (.iload_n 1, 1) := by decide +kernel
theorem dX5_find_10 : decode cX5_find 10 = .ok (.invokevirtual 61, 3) := by decide +kernel
theorem dX5_find_13 : decode cX5_find 13 = .ok (.if_icmp .ge 32, 3) := by decide +kernel
theorem dX5_find_16 : decode cX5_find 16 = .ok (.aload_n 0, 1) := by decide +kernel
theorem dX5_find_17 : decode cX5_find 17 = .ok (.getfield 13, 3) := by decide +kernel
theorem dX5_find_20 : decode cX5_find 20 = .ok (.iload 5, 2) := by decide +kernel
theorem dX5_find_22 : decode cX5_find 22 = .ok (.caload, 1) := by decide +kernel
theorem dX5_find_23 : decode cX5_find 23 = .ok (.iload_n 2, 1) := by decide +kernel
theorem dX5_find_24 : decode cX5_find 24 = .ok (.if_icmp .ne 15, 3) := by decide +kernel
theorem dX5_find_27 : decode cX5_find 27 = .ok (.iload 4, 2) := by decide +kernel
theorem dX5_find_29 : decode cX5_find 29 = .ok (.iload_n 3, 1) := by decide +kernel
theorem dX5_find_30 : decode cX5_find 30 = .ok (.if_icmp .ne 6, 3) := by decide +kernel
theorem dX5_find_33 : decode cX5_find 33 = .ok (.iload 5, 2) := by decide +kernel
theorem dX5_find_35 : decode cX5_find 35 = .ok (.ireturn, 1) := by decide +kernel
theorem dX5_find_36 : decode cX5_find 36 = .ok (.iinc 4 1, 3) := by decide +kernel
theorem dX5_find_39 : decode cX5_find 39 = .ok (.iinc 5 1, 3) := by decide +kernel
theorem dX5_find_42 : decode cX5_find 42 = .ok (.goto (-36), 3) := by decide +kernel
theorem dX5_find_45 : decode cX5_find 45 = .ok (.iload_n 3, 1) := by decide +kernel
theorem dX5_find_46 : decode cX5_find 46 = .ok (.ifCond .ge 8, 3) := by decide +kernel
theorem dX5_find_49 : decode cX5_find 49 = .ok (.iload 4, 2) := by decide +kernel
theorem dX5_find_51 : decode cX5_find 51 = .ok (.goto 5, 3) := by decide +kernel
theorem dX5_find_54 : decode cX5_find 54 = .ok (.bipush (-5), 2) := by decide +kernel
theorem dX5_find_56 : decode cX5_find 56 = .ok (.ireturn, 1) := by decide +kernel
set_option maxRecDepth 20000 in
theorem ggX5_labelled_X5_noNode : GoodIn wsX5_labelled wsX5_noNode := goodIn_r _ [5, 6, 7, 8, 4, 9, 23, 24, 25, 26, 27, 28, 29, 30, 31, 32] (by decide +kernel) (by decide +kernel)
set_option maxRecDepth 20000 in
theorem gX5_labelled_X5_noNode : GoodIn wsX5_labelled (wsV RX5 70 RX5 yX5_noNode wsX5_noNode) := goodIn_app (goodIn_of _ (by decide +kernel)) ggX5_labelled_X5_noNode
set_option maxRecDepth 20000 in
theorem ggX5_labelled_X5_isLetter : GoodIn wsX5_labelled wsX5_isLetter := goodIn_r _ [12] (by decide +kernel) (by decide +kernel)
set_option maxRecDepth 20000 in
theorem gX5_labelled_X5_isLetter : GoodIn wsX5_labelled (va_wsS RX5 46 yX5_isLetter wsX5_isLetter) := goodIn_app (goodIn_of _ (by decide +kernel)) ggX5_labelled_X5_isLetter
set_option maxRecDepth 20000 in
theorem ggX5_labelled_X5_find : GoodIn wsX5_labelled wsX5_find := goodIn_r _ [16, 17, 18, 19, 20, 4, 21, 6, 22, 23, 24, 25, 26, 27, 28, 29, 30, 31, 32] (by decide +kernel) (by decide +kernel)
set_option maxRecDepth 20000 in
theorem gX5_labelled_X5_find : GoodIn wsX5_labelled (wsV RX5 130 RX5 yX5_find wsX5_find) := goodIn_app (goodIn_of _ (by decide +kernel)) ggX5_labelled_X5_find
theorem dX5_labelled_0 : decode cX5_labelled 0 = .ok (.aload_n 0, 1) := by decide +kernel
theorem dX5_labelled_1 : decode cX5_labelled 1 = .ok (.iload_n 1, 1) := by decide +kernel
theorem dX5_labelled_2 : decode cX5_labelled 2 = .ok (.invokevirtual 70, 3) := by decide +kernel
theorem dX5_labelled_5 : decode cX5_labelled 5 = .ok (.ifCond .eq 5, 3) := by decide +kernel
theorem dX5_labelled_8 : decode cX5_labelled 8 = .ok (.iconst (-1), 1) := by decide +kernel
theorem dX5_labelled_9 : decode cX5_labelled 9 = .ok (.ireturn, 1) := by decide +kernel
theorem dX5_labelled_10 : decode cX5_labelled 10 = .ok (.iload_n 2, 1) := by decide +kernel
theorem dX5_labelled_11 : decode cX5_labelled 11 = .ok (.invokestatic 46, 3) := by decide +kernel
theorem dX5_labelled_14 : decode cX5_labelled 14 = .ok (.ifCond .eq 13, 3) := by decide +kernel
theorem dX5_labelled_17 : decode cX5_labelled 17 = .ok (.aload_n 0, 1) := by decide +kernel
theorem dX5_labelled_18 : decode cX5_labelled 18 = .ok (.iload_n 1, 1) := by decide +kernel
theorem dX5_labelled_19 : decode cX5_labelled 19 = .ok (.iload_n 2, 1) := by decide +kernel
theorem dX5_labelled_20 : decode cX5_labelled 20 = .ok (.iconst (-1), 1) := by decide +kernel
theorem dX5_labelled_21 : decode cX5_labelled 21 = .ok (.invokevirtual 130, 3) := by decide +kernel
theorem dX5_labelled_24 : decode cX5_labelled 24 = .ok (.goto 5, 3) := by decide +kernel
theorem dX5_labelled_27 : decode cX5_labelled 27 = .ok (.bipush (-2), 2) := by decide +kernel
theorem dX5_labelled_29 : decode cX5_labelled 29 = .ok (.ireturn, 1) := by decide +kernel
set_option maxRecDepth 20000 in
theorem ggX5_select_X5_noNode : GoodIn wsX5_select wsX5_noNode := goodIn_r _ [5, 6, 7, 8, 4, 9, 23, 24, 25, 26, 27, 28, 29, 30, 31, 32] (by decide +kernel) (by decide +kernel)
set_option maxRecDepth 20000 in
theorem gX5_select_X5_noNode : GoodIn wsX5_select (wsV RX5 70 RX5 yX5_noNode wsX5_noNode) := goodIn_app (goodIn_of _ (by decide +kernel)) ggX5_select_X5_noNode
set_option maxRecDepth 20000 in
theorem ggX5_select_X5_isLetter : GoodIn wsX5_select wsX5_isLetter := goodIn_r _ [12] (by decide +kernel) (by decide +kernel)
set_option maxRecDepth 20000 in
theorem gX5_select_X5_isLetter : GoodIn wsX5_select (va_wsS RX5 46 yX5_isLetter wsX5_isLetter) := goodIn_app (goodIn_of _ (by decide +kernel)) ggX5_select_X5_isLetter
set_option maxRecDepth 20000 in
theorem ggX5_select_X5_find : GoodIn wsX5_select wsX5_find := goodIn_r _ [16, 17, 18, 19, 20, 4, 21, 6, 22, 23, 24, 25, 26, 27, 28, 29, 30, 31, 32] (by decide +kernel) (by decide +kernel)
set_option maxRecDepth 20000 in
theorem gX5_select_X5_find : GoodIn wsX5_select (wsV RX5 130 RX5 yX5_find wsX5_find) := goodIn_app (goodIn_of _ (by decide +kernel)) ggX5_select_X5_find
theorem dX5_select_0 : decode cX5_select 0 = .ok (.aload_n 0, 1) := by decide +kernel
theorem dX5_select_1 : decode cX5_select 1 = .ok (.iload_n 1, 1) := by decide +kernel
theorem dX5_select_2 : decode cX5_select 2 = .ok (.invokevirtual 70, 3) := by decide +kernel
theorem dX5_select_5 : decode cX5_select 5 = .ok (.ifCond .eq 5, 3) := by decide +kernel
theorem dX5_select_8 : decode cX5_select 8 = .ok (.iconst (-1), 1) := by decide +kernel
theorem dX5_select_9 : decode cX5_select 9 = .ok (.ireturn, 1) := by decide +kernel
theorem dX5_select_10 : decode cX5_select 10 = .ok (.iload_n 2, 1) := by decide +kernel
theorem dX5_select_11 : decode cX5_select 11 = .ok (.invokestatic 46, 3) := by decide +kernel
theorem dX5_select_14 : decode cX5_select 14 = .ok (.ifCond .eq 17, 3) := by decide +kernel
theorem dX5_select_17 : decode cX5_select 17 = .ok (.iload_n 3, 1) := by decide +kernel
theorem dX5_select_18 : decode cX5_select 18 = .ok (.ifCond .lt 13, 3) := by decide +kernel
theorem dX5_select_21 : decode cX5_select 21 = .ok (.aload_n 0, 1) := by decide +kernel
theorem dX5_select_22 : decode cX5_select 22 = .ok (.iload_n 1, 1) := by decide +kernel
theorem dX5_select_23 : decode cX5_select 23 = .ok (.iload_n 2, 1) := by decide +kernel
theorem dX5_select_24 : decode cX5_select 24 = .ok (.iload_n 3, 1) := by decide +kernel
theorem dX5_select_25 : decode cX5_select 25 = .ok (.invokevirtual 130, 3) := by decide +kernel
theorem dX5_select_28 : decode cX5_select 28 = .ok (.goto 5, 3) := by decide +kernel
theorem dX5_select_31 : decode cX5_select 31 = .ok (.bipush (-2), 2) := by decide +kernel
theorem dX5_select_33 : decode cX5_select 33 = .ok (.ireturn, 1) := by decide +kernel
set_option maxRecDepth 20000 in
theorem ggX5_ancestorWith_X5_noNode : GoodIn wsX5_ancestorWith wsX5_noNode := goodIn_r _ [6, 7, 8, 9, 5, 10, 19, 20, 21, 22, 23, 24, 25, 26, 27, 28] (by decide +kernel) (by decide +kernel)
set_option maxRecDepth 20000 in
theorem gX5_ancestorWith_X5_noNode : GoodIn wsX5_ancestorWith (wsV RX5 70 RX5 yX5_noNode wsX5_noNode) := goodIn_app (goodIn_of _ (by decide +kernel)) ggX5_ancestorWith_X5_noNode
set_option maxRecDepth 20000 in
theorem ggX5_ancestorWith_X5_isLetter : GoodIn wsX5_ancestorWith wsX5_isLetter := goodIn_r _ [13] (by decide +kernel) (by decide +kernel)
set_option maxRecDepth 20000 in
theorem gX5_ancestorWith_X5_isLetter : GoodIn wsX5_ancestorWith (va_wsS RX5 46 yX5_isLetter wsX5_isLetter) := goodIn_app (goodIn_of _ (by decide +kernel)) ggX5_ancestorWith_X5_isLetter
set_option maxRecDepth 20000 in
theorem ggX5_ancestorWith_X5_parentOf : GoodIn wsX5_ancestorWith wsX5_parentOf := goodIn_r _ [17, 18, 19, 20, 21, 22, 23, 24, 25, 26, 27, 28] (by decide +kernel) (by decide +kernel)
set_option maxRecDepth 20000 in
theorem gX5_ancestorWith_X5_parentOf : GoodIn wsX5_ancestorWith (wsV RX5 73 RX5 yX5_parentOf wsX5_parentOf) := goodIn_app (goodIn_of _ (by decide +kernel)) ggX5_ancestorWith_X5_parentOf
theorem dX5_ancestorWith_0 : decode cX5_ancestorWith 0 = .ok (.aload_n 0, 1) := by decide +kernel
theorem dX5_ancestorWith_1 : decode cX5_ancestorWith 1 = .ok (.iload_n 1, 1) := by decide +kernel
theorem dX5_ancestorWith_2 : decode cX5_ancestorWith 2 = .ok (.invokevirtual 70, 3) := by decide +kernel
theorem dX5_ancestorWith_5 : decode cX5_ancestorWith 5 = .ok (.ifCond .eq 5, 3) := by decide +kernel
theorem dX5_ancestorWith_8 : decode cX5_ancestorWith 8 = .ok (.iconst (-1), 1) := by decide +kernel
theorem dX5_ancestorWith_9 : decode cX5_ancestorWith 9 = .ok (.ireturn, 1) := by decide +kernel
theorem dX5_ancestorWith_10 : decode cX5_ancestorWith 10 = .ok (.iload_n 2, 1) := by decide +kernel
theorem dX5_ancestorWith_11 : decode cX5_ancestorWith 11 = .ok (.invokestatic 46, 3) := by decide +kernel
theorem dX5_ancestorWith_14 : decode cX5_ancestorWith 14 = .ok (.ifCond .ne 6, 3) := by decide +kernel
theorem dX5_ancestorWith_17 : decode cX5_ancestorWith 17 = .ok (.bipush (-2), 2) := by decide +kernel
theorem dX5_ancestorWith_19 : decode cX5_ancestorWith 19 = .ok (.ireturn, 1) := by decide +kernel
theorem dX5_ancestorWith_20 : decode cX5_ancestorWith 20 = .ok (.aload_n 0, 1) := by decide +kernel
theorem dX5_ancestorWith_21 : decode cX5_ancestorWith 21 = .ok (.iload_n 1, 1) := by decide +kernel
theorem dX5_ancestorWith_22 : decode cX5_ancestorWith 22 = .ok (.invokevirtual 73, 3) := by decide +kernel
theorem dX5_ancestorWith_25 : decode cX5_ancestorWith 25 = .ok (.istore_n 3, 1) := by decide +kernel
theorem dX5_ancestorWith_26 : decode cX5_ancestorWith 26 = .ok (.iload_n 3, 1) := by decide +kernel
theorem dX5_ancestorWith_27 : decode cX5_ancestorWith 27 = .ok (.ifCond .lt 22, 3) := by decide +kernel
theorem dX5_ancestorWith_30 : decode cX5_ancestorWith 30 = .ok (.aload_n 0, 1) := by decide +kernel
theorem dX5_ancestorWith_31 : decode cX5_ancestorWith 31 = .ok (.getfield 13, 3) := by decide +kernel
theorem dX5_ancestorWith_34 : decode cX5_ancestorWith 34 = .ok (.iload_n 3, 1) := by decide +kernel
theorem dX5_ancestorWith_35 : decode cX5_ancestorWith 35 = .ok (.caload, 1) := by decide +kernel
theorem dX5_ancestorWith_36 : decode cX5_ancestorWith 36 = .ok (.iload_n 2, 1) := by decide +kernel
theorem dX5_ancestorWith_37 : decode cX5_ancestorWith 37 = .ok (.if_icmp .eq 12, 3) := by decide +kernel
theorem dX5_ancestorWith_40 : decode cX5_ancestorWith 40 = .ok (.aload_n 0, 1) := by decide +kernel
theorem dX5_ancestorWith_41 : decode cX5_ancestorWith 41 = .ok (.iload_n 3, 1) := by decide +kernel
theorem dX5_ancestorWith_42 : decode cX5_ancestorWith 42 = .ok (.invokevirtual 73, 3) := by decide +kernel
theorem dX5_ancestorWith_45 : decode cX5_ancestorWith 45 = .ok (.istore_n 3, 1) := by decide +kernel
theorem dX5_ancestorWith_46 : decode cX5_ancestorWith 46 = .ok (.goto (-20), 3) := by decide +kernel
theorem dX5_ancestorWith_49 : decode cX5_ancestorWith 49 = .ok (.iload_n 3, 1) := by decide +kernel
theorem dX5_ancestorWith_50 : decode cX5_ancestorWith 50 = .ok (.ifCond .ge 8, 3) := by decide +kernel
theorem dX5_ancestorWith_53 : decode cX5_ancestorWith 53 = .ok (.bipush (-5), 2) := by decide +kernel
theorem dX5_ancestorWith_55 : decode cX5_ancestorWith 55 = .ok (.goto 4, 3) := by decide +kernel
theorem dX5_ancestorWith_58 : decode cX5_ancestorWith 58 = .ok (.iload_n 3, 1) := by decide +kernel
theorem dX5_ancestorWith_59 : decode cX5_ancestorWith 59 = .ok (.ireturn, 1) := by decide +kernel
set_option maxRecDepth 20000 in
theorem ggX5_alike_X5_behind : GoodIn wsX5_alike wsX5_behind := goodIn_r _ [7, 8, 2, 9, 10, 11, 12, 13, 14, 15, 16, 17, 18] (by decide +kernel) (by decide +kernel)
set_option maxRecDepth 20000 in
theorem gX5_alike_X5_behind : GoodIn wsX5_alike (wsV RX5 61 RX5 yX5_behind wsX5_behind) := goodIn_app (goodIn_of _ (by decide +kernel)) ggX5_alike_X5_behind
theorem dX5_alike_0 : decode cX5_alike 0 = .ok (.aload_n 0, 1) := by decide +kernel
theorem dX5_alike_1 : decode cX5_alike 1 = .ok (.iload_n 1, 1) := by decide +kernel
theorem dX5_alike_2 : decode cX5_alike 2 = .ok (.invokevirtual 61, 3) := by decide +kernel
theorem dX5_alike_5 : decode cX5_alike 5 = .ok (.iload_n 1, 1) := by decide +kernel
theorem dX5_alike_6 : decode cX5_alike 6 = .ok (.isub, 1) := by decide +kernel
theorem dX5_alike_7 : decode cX5_alike 7 = .ok (.istore_n 3, 1) := by decide +kernel
theorem dX5_alike_8 : decode cX5_alike 8 = .ok (.aload_n 0, 1) := by decide +kernel
theorem dX5_alike_9 : decode cX5_alike 9 = .ok (.iload_n 2, 1) := by decide +kernel
theorem dX5_alike_10 : decode cX5_alike 10 = .ok (.invokevirtual 61, 3) := by decide +kernel
theorem dX5_alike_13 : decode cX5_alike 13 = .ok (.iload_n 2, 1) := by decide +kernel
theorem dX5_alike_14 : decode cX5_alike 14 = .ok (.isub, 1) := by decide +kernel
theorem dX5_alike_15 : decode cX5_alike 15 = .ok (.iload_n 3, 1) := by decide +kernel
theorem dX5_alike_16 : decode cX5_alike 16 = .ok (.if_icmp .ne 7, 3) := by decide +kernel
theorem dX5_alike_19 : decode cX5_alike 19 = .ok (.iconst 1, 1) := by decide +kernel
theorem dX5_alike_20 : decode cX5_alike 20 = .ok (.goto 4, 3) := by decide +kernel
theorem dX5_alike_23 : decode cX5_alike 23 = .ok (.iconst 0, 1) := by decide +kernel
theorem dX5_alike_24 : decode cX5_alike 24 = .ok (.istore 4, 2) := by decide +kernel
theorem dX5_alike_26 : decode cX5_alike 26 = .ok (.iconst 0, 1) := by decide +kernel
theorem dX5_alike_27 : decode cX5_alike 27 = .ok (.istore 5, 2) := by decide +kernel
theorem dX5_alike_29 : decode cX5_alike 29 = .ok (.iload 5, 2) := by decide +kernel
theorem dX5_alike_31 : decode cX5_alike 31 = .ok (.iload_n 3, 1) := by decide +kernel
theorem dX5_alike_32 : decode cX5_alike 32 = .ok (.if_icmp .ge 77, 3) := by decide +kernel
theorem dX5_alike_35 : decode cX5_alike 35 = .ok (.iload 4, 2) := by decide +kernel
theorem dX5_alike_37 : decode cX5_alike 37 = .ok (.ifCond .eq 72, 3) := by decide +kernel
theorem dX5_alike_40 : decode cX5_alike 40 = .ok (.aload_n 0, 1) := by decide +kernel
theorem dX5_alike_41 : decode cX5_alike 41 = .ok (.getfield 13, 3) := by decide +kernel
theorem dX5_alike_44 : decode cX5_alike 44 = .ok (.iload_n 1, 1) := by decide +kernel
theorem dX5_alike_45 : decode cX5_alike 45 = .ok (.iload 5, 2) := by decide +kernel
theorem dX5_alike_47 : decode cX5_alike 47 = .ok (.iadd, 1) := by decide +kernel
theorem dX5_alike_48 : decode cX5_alike 48 = .ok (.caload, 1) := by decide +kernel
theorem dX5_alike_49 : decode cX5_alike 49 = .ok (.aload_n 0, 1) := by decide +kernel
theorem dX5_alike_50 : decode cX5_alike 50 = .ok (.getfield 13, 3) := by decide +kernel
theorem dX5_alike_53 : decode cX5_alike 53 = .ok (.iload_n 2, 1) := by decide +kernel
theorem dX5_alike_54 : decode cX5_alike 54 = .ok (.iload 5, 2) := by decide +kernel
theorem dX5_alike_56 : decode cX5_alike 56 = .ok (.iadd, 1) := by decide +kernel
theorem dX5_alike_57 : decode cX5_alike 57 = .ok (.caload, 1) := by decide +kernel
theorem dX5_alike_58 : decode cX5_alike 58 = .ok (.if_icmp .ne 42, 3) := by decide +kernel
theorem dX5_alike_61 : decode cX5_alike 61 = .ok (.aload_n 0, 1) := by decide +kernel
theorem dX5_alike_62 : decode cX5_alike 62 = .ok (.getfield 7, 3) := by decide +kernel
theorem dX5_alike_65 : decode cX5_alike 65 = .ok (.iload_n 1, 1) := by decide +kernel
theorem dX5_alike_66 : decode cX5_alike 66 = .ok (.iload 5, 2) := by decide +kernel
theorem dX5_alike_68 : decode cX5_alike 68 = .ok (.iadd, 1) := by decide +kernel
theorem dX5_alike_69 : decode cX5_alike 69 = .ok (.iaload, 1) := by decide +kernel
theorem dX5_alike_70 : decode cX5_alike 70 = .ok (.aload_n 0, 1) := by decide +kernel
theorem dX5_alike_71 : decode cX5_alike 71 = .ok (.getfield 7, 3) := by decide +kernel
theorem dX5_alike_74 : decode cX5_alike 74 = .ok (.iload_n 1, 1) := by decide +kernel
theorem dX5_alike_75 : decode cX5_alike 75 = .ok (.iaload, 1) := by decide +kernel
theorem dX5_alike_76 : decode cX5_alike 76 = .ok (.isub, 1) := by decide +kernel
theorem dX5_alike_77 : decode cX5_alike 77 = .ok (.aload_n 0, 1) := by decide +kernel
theorem dX5_alike_78 : decode cX5_alike 78 = .ok (.getfield 7, 3) := by decide +kernel
theorem dX5_alike_81 : decode cX5_alike 81 = .ok (.iload_n 2, 1) := by decide +kernel
theorem dX5_alike_82 : decode cX5_alike 82 = .ok (.iload 5, 2) := by decide +kernel
theorem dX5_alike_84 : decode cX5_alike 84 = .ok (.iadd, 1) := by decide +kernel
theorem dX5_alike_85 : decode cX5_alike 85 = .ok (.iaload, 1) := by decide +kernel
theorem dX5_alike_86 : decode cX5_alike 86 = .ok (.aload_n 0, 1) := by decide +kernel
theorem dX5_alike_87 : decode cX5_alike 87 = .ok (.getfield 7, 3) := by decide +kernel
theorem dX5_alike_90 : decode cX5_alike 90 = .ok (.iload_n 2, 1) := by decide +kernel
theorem dX5_alike_91 : decode cX5_alike 91 = .ok (.iaload, 1) := by decide +kernel
theorem dX5_alike_92 : decode cX5_alike 92 = .ok (.isub, 1) := by decide +kernel
theorem dX5_alike_93 : decode cX5_alike 93 = .ok (.if_icmp .ne 7, 3) := by decide +kernel
theorem dX5_alike_96 : decode cX5_alike 96 = .ok (.iconst 1, 1) := by decide +kernel
theorem dX5_alike_97 : decode cX5_alike 97 = .ok (.goto 4, 3) := by decide +kernel
theorem dX5_alike_100 : decode cX5_alike 100 = .ok (.iconst 0, 1) := by decide +kernel
theorem dX5_alike_101 : decode cX5_alike 101 = .ok (.istore 4, 2) := by decide +kernel
theorem dX5_alike_103 : decode cX5_alike 103 = .ok (.iinc 5 1, 3) := by decide +kernel
theorem dX5_alike_106 : decode cX5_alike 106 = .ok (.goto (-77), 3) := by decide +kernel
theorem dX5_alike_109 : decode cX5_alike 109 = .ok (.iload 4, 2) := by decide +kernel
theorem dX5_alike_111 : decode cX5_alike 111 = .ok (.ireturn, 1) := by decide +kernel
set_option maxRecDepth 20000 in
theorem ggX5_areEqual_X5_noNode : GoodIn wsX5_areEqual wsX5_noNode := goodIn_r _ [5, 6, 7, 8, 4, 9, 20, 21, 22, 23, 24, 25, 26, 27, 28, 29] (by decide +kernel) (by decide +kernel)
set_option maxRecDepth 20000 in
theorem gX5_areEqual_X5_noNode : GoodIn wsX5_areEqual (wsV RX5 70 RX5 yX5_noNode wsX5_noNode) := goodIn_app (goodIn_of _ (by decide +kernel)) ggX5_areEqual_X5_noNode
set_option maxRecDepth 20000 in
theorem ggX5_areEqual_X5_alike : GoodIn wsX5_areEqual wsX5_alike := goodIn_r _ [13, 14, 15, 16, 17, 18, 4, 19, 6, 20, 21, 22, 23, 24, 25, 26, 27, 28, 29] (by decide +kernel) (by decide +kernel)
set_option maxRecDepth 20000 in
theorem gX5_areEqual_X5_alike : GoodIn wsX5_areEqual (wsV RX5 134 RX5 yX5_alike wsX5_alike) := goodIn_app (goodIn_of _ (by decide +kernel)) ggX5_areEqual_X5_alike
theorem dX5_areEqual_0 : decode cX5_areEqual 0 = .ok (.aload_n 0, 1) := by decide +kernel
theorem dX5_areEqual_1 : decode cX5_areEqual 1 = .ok (.iload_n 1, 1) := by decide +kernel
theorem dX5_areEqual_2 : decode cX5_areEqual 2 = .ok (.invokevirtual 70, 3) := by decide +kernel
theorem dX5_areEqual_5 : decode cX5_areEqual 5 = .ok (.ifCond .ne 11, 3) := by decide +kernel
theorem dX5_areEqual_8 : decode cX5_areEqual 8 = .ok (.aload_n 0, 1) := by decide +kernel
theorem dX5_areEqual_9 : decode cX5_areEqual 9 = .ok (.iload_n 2, 1) := by decide +kernel
theorem dX5_areEqual_10 : decode cX5_areEqual 10 = .ok (.invokevirtual 70, 3) := by decide +kernel
theorem dX5_areEqual_13 : decode cX5_areEqual 13 = .ok (.ifCond .eq 5, 3) := by decide +kernel
theorem dX5_areEqual_16 : decode cX5_areEqual 16 = .ok (.iconst (-1), 1) := by decide +kernel
theorem dX5_areEqual_17 : decode cX5_areEqual 17 = .ok (.ireturn, 1) := by decide +kernel
theorem dX5_areEqual_18 : decode cX5_areEqual 18 = .ok (.aload_n 0, 1) := by decide +kernel
theorem dX5_areEqual_19 : decode cX5_areEqual 19 = .ok (.iload_n 1, 1) := by decide +kernel
theorem dX5_areEqual_20 : decode cX5_areEqual 20 = .ok (.iload_n 2, 1) := by decide +kernel
theorem dX5_areEqual_21 : decode cX5_areEqual 21 = .ok (.invokevirtual 134, 3) := by decide +kernel
theorem dX5_areEqual_24 : decode cX5_areEqual 24 = .ok (.ifCond .eq 7, 3) := by decide +kernel
theorem dX5_areEqual_27 : decode cX5_areEqual 27 = .ok (.iconst 1, 1) := by decide +kernel
theorem dX5_areEqual_28 : decode cX5_areEqual 28 = .ok (.goto 4, 3) := by decide +kernel
theorem dX5_areEqual_31 : decode cX5_areEqual 31 = .ok (.iconst 0, 1) := by decide +kernel
theorem dX5_areEqual_32 : decode cX5_areEqual 32 = .ok (.ireturn, 1) := by decide +kernel
set_option maxRecDepth 20000 in
theorem ggX5_copies_X5_noNode : GoodIn wsX5_copies wsX5_noNode := goodIn_r _ [6, 1, 7, 8, 5, 9, 20, 21, 22, 23, 24, 25, 26, 27, 28, 29] (by decide +kernel) (by decide +kernel)
set_option maxRecDepth 20000 in
theorem gX5_copies_X5_noNode : GoodIn wsX5_copies (wsV RX5 70 RX5 yX5_noNode wsX5_noNode) := goodIn_app (goodIn_of _ (by decide +kernel)) ggX5_copies_X5_noNode
set_option maxRecDepth 20000 in
theorem ggX5_copies_X5_alike : GoodIn wsX5_copies wsX5_alike := goodIn_r _ [13, 14, 15, 16, 17, 18, 5, 19, 1, 20, 21, 22, 23, 24, 25, 26, 27, 28, 29] (by decide +kernel) (by decide +kernel)
set_option maxRecDepth 20000 in
theorem gX5_copies_X5_alike : GoodIn wsX5_copies (wsV RX5 134 RX5 yX5_alike wsX5_alike) := goodIn_app (goodIn_of _ (by decide +kernel)) ggX5_copies_X5_alike
theorem dX5_copies_0 : decode cX5_copies 0 = .ok (.aload_n 0, 1) := by decide +kernel
theorem dX5_copies_1 : decode cX5_copies 1 = .ok (.iload_n 1, 1) := by decide +kernel
theorem dX5_copies_2 : decode cX5_copies 2 = .ok (.invokevirtual 70, 3) := by decide +kernel
theorem dX5_copies_5 : decode cX5_copies 5 = .ok (.ifCond .eq 5, 3) := by decide +kernel
theorem dX5_copies_8 : decode cX5_copies 8 = .ok (.iconst (-1), 1) := by decide +kernel
theorem dX5_copies_9 : decode cX5_copies 9 = .ok (.ireturn, 1) := by decide +kernel
theorem dX5_copies_10 : decode cX5_copies 10 = .ok (.iconst 0, 1) := by decide +kernel
theorem dX5_copies_11 : decode cX5_copies 11 = .ok (.istore_n 2, 1) := by decide +kernel
theorem dX5_copies_12 : decode cX5_copies 12 = .ok (.iconst 0, 1) := by decide +kernel
theorem dX5_copies_13 : decode cX5_copies 13 = .ok (.istore_n 3, 1) := by decide +kernel
theorem dX5_copies_14 : decode cX5_copies 14 = .ok (.iload_n 3, 1) := by decide +kernel
theorem dX5_copies_15 : decode cX5_copies 15 = .ok (.aload_n 0, 1) := by decide +kernel
theorem dX5_copies_16 : decode cX5_copies 16 = .ok (.getfield 29, 3) := by decide +kernel
theorem dX5_copies_19 : decode cX5_copies 19 = .ok (.if_icmp .ge 26, 3) := by decide +kernel
theorem dX5_copies_22 : decode cX5_copies 22 = .ok (.iload_n 2, 1) := by decide +kernel
theorem dX5_copies_23 : decode cX5_copies 23 = .ok (.aload_n 0, 1) := by decide +kernel
theorem dX5_copies_24 : decode cX5_copies 24 = .ok (.iload_n 1, 1) := by decide +kernel
theorem dX5_copies_25 : decode cX5_copies 25 = .ok (.iload_n 3, 1) := by decide +kernel
theorem dX5_copies_26 : decode cX5_copies 26 = .ok (.invokevirtual 134, 3) := by decide +kernel
theorem dX5_copies_29 : decode cX5_copies 29 = .ok (.ifCond .eq 7, 3) := by decide +kernel
theorem dX5_copies_32 : decode cX5_copies 32 = .ok (.iconst 1, 1) := by decide +kernel
theorem dX5_copies_33 : decode cX5_copies 33 = .ok (.goto 4, 3) := by decide +kernel
theorem dX5_copies_36 : decode cX5_copies 36 = .ok (.iconst 0, 1) := by decide +kernel
theorem dX5_copies_37 : decode cX5_copies 37 = .ok (.iadd, 1) := by decide +kernel
theorem dX5_copies_38 : decode cX5_copies 38 = .ok (.istore_n 2, 1) := by decide +kernel
theorem dX5_copies_39 : decode cX5_copies 39 = .ok (.iinc 3 1, 3) := by decide +kernel
theorem dX5_copies_42 : decode cX5_copies 42 = .ok (.goto (-28), 3) := by decide +kernel
theorem dX5_copies_45 : decode cX5_copies 45 = .ok (.iload_n 2, 1) := by decide +kernel
theorem dX5_copies_46 : decode cX5_copies 46 = .ok (.ireturn, 1) := by decide +kernel
theorem dX5_put_0 : decode cX5_put 0 = .ok (.aload_n 0, 1) := by decide +kernel
theorem dX5_put_1 : decode cX5_put 1 = .ok (.getfield 29, 3) := by decide +kernel
theorem dX5_put_4 : decode cX5_put 4 = .ok (.istore 4, 2) := by decide +kernel
theorem dX5_put_6 : decode cX5_put 6 = .ok (.iload 4, 2) := by decide +kernel
theorem dX5_put_8 : decode cX5_put 8 = .ok (.iload_n 1, 1) := by decide +kernel
theorem dX5_put_9 : decode cX5_put 9 = .ok (.if_icmp .le 41, 3) := by decide +kernel
theorem dX5_put_12 : decode cX5_put 12 = .ok (.aload_n 0, 1) := by decide +kernel
theorem dX5_put_13 : decode cX5_put 13 = .ok (.getfield 7, 3) := by decide +kernel
theorem dX5_put_16 : decode cX5_put 16 = .ok (.iload 4, 2) := by decide +kernel
theorem dX5_put_18 : decode cX5_put 18 = .ok (.aload_n 0, 1) := by decide +kernel
theorem dX5_put_19 : decode cX5_put 19 = .ok (.getfield 7, 3) := by decide +kernel
theorem dX5_put_22 : decode cX5_put 22 = .ok (.iload 4, 2) := by decide +kernel
theorem dX5_put_24 : decode cX5_put 24 = .ok (.iconst 1, 1) := by decide +kernel
theorem dX5_put_25 : decode cX5_put 25 = .ok (.isub, 1) := by decide +kernel
theorem dX5_put_26 : decode cX5_put 26 = .ok (.iaload, 1) := by decide +kernel
theorem dX5_put_27 : decode cX5_put 27 = .ok (.iastore, 1) := by decide +kernel
theorem dX5_put_28 : decode cX5_put 28 = .ok (.aload_n 0, 1) := by decide +kernel
theorem dX5_put_29 : decode cX5_put 29 = .ok (.getfield 13, 3) := by decide +kernel
theorem dX5_put_32 : decode cX5_put 32 = .ok (.iload 4, 2) := by decide +kernel
theorem dX5_put_34 : decode cX5_put 34 = .ok (.aload_n 0, 1) := by decide +kernel
theorem dX5_put_35 : decode cX5_put 35 = .ok (.getfield 13, 3) := by decide +kernel
theorem dX5_put_38 : decode cX5_put 38 = .ok (.iload 4, 2) := by decide +kernel
theorem dX5_put_40 : decode cX5_put 40 = .ok (.iconst 1, 1) := by decide +kernel
theorem dX5_put_41 : decode cX5_put 41 = .ok (.isub, 1) := by decide +kernel
theorem dX5_put_42 : decode cX5_put 42 = .ok (.caload, 1) := by decide +kernel
theorem dX5_put_43 : decode cX5_put 43 = .ok (.castore, 1) := by decide +kernel
theorem dX5_put_44 : decode cX5_put 44 = .ok (.iinc 4 (-1), 3) := by decide +kernel
theorem dX5_put_47 : decode cX5_put 47 = .ok (.goto (-41), 3) := by decide +kernel
theorem dX5_put_50 : decode cX5_put 50 = .ok (.aload_n 0, 1) := by decide +kernel
theorem dX5_put_51 : decode cX5_put 51 = .ok (.getfield 7, 3) := by decide +kernel
theorem dX5_put_54 : decode cX5_put 54 = .ok (.iload_n 1, 1) := by decide +kernel
theorem dX5_put_55 : decode cX5_put 55 = .ok (.iload_n 2, 1) := by decide +kernel
theorem dX5_put_56 : decode cX5_put 56 = .ok (.iastore, 1) := by decide +kernel
theorem dX5_put_57 : decode cX5_put 57 = .ok (.aload_n 0, 1) := by decide +kernel
theorem dX5_put_58 : decode cX5_put 58 = .ok (.getfield 13, 3) := by decide +kernel
theorem dX5_put_61 : decode cX5_put 61 = .ok (.iload_n 1, 1) := by decide +kernel
theorem dX5_put_62 : decode cX5_put 62 = .ok (.iload_n 3, 1) := by decide +kernel
theorem dX5_put_63 : decode cX5_put 63 = .ok (.castore, 1) := by decide +kernel
theorem dX5_put_64 : decode cX5_put 64 = .ok (.aload_n 0, 1) := by decide +kernel
theorem dX5_put_65 : decode cX5_put 65 = .ok (.dup, 1) := by decide +kernel
theorem dX5_put_66 : decode cX5_put 66 = .ok (.getfield 29, 3) := by decide +kernel
theorem dX5_put_69 : decode cX5_put 69 = .ok (.iconst 1, 1) := by decide +kernel
theorem dX5_put_70 : decode cX5_put 70 = .ok (.iadd, 1) := by decide +kernel
theorem dX5_put_71 : decode cX5_put 71 = .ok (.putfield 29, 3) := by decide +kernel
theorem dX5_put_74 : decode cX5_put 74 = .ok (.return_, 1) := by decide +kernel
theorem dX5_take_0 : decode cX5_take 0 = .ok (.aload_n 0, 1) := by decide +kernel
theorem dX5_take_1 : decode cX5_take 1 = .ok (.dup, 1) := by decide +kernel
theorem dX5_take_2 : decode cX5_take 2 = .ok (.getfield 29, 3) := by decide +kernel
theorem dX5_take_5 : decode cX5_take 5 = .ok (.iload_n 2, 1) := by decide +kernel
theorem dX5_take_6 : decode cX5_take 6 = .ok (.isub, 1) := by decide +kernel
theorem dX5_take_7 : decode cX5_take 7 = .ok (.putfield 29, 3) := by decide +kernel
theorem dX5_take_10 : decode cX5_take 10 = .ok (.iload_n 1, 1) := by decide +kernel
theorem dX5_take_11 : decode cX5_take 11 = .ok (.istore_n 3, 1) := by decide +kernel
theorem dX5_take_12 : decode cX5_take 12 = .ok (.iload_n 3, 1) := by decide +kernel
theorem dX5_take_13 : decode cX5_take 13 = .ok (.aload_n 0, 1) := by decide +kernel
theorem dX5_take_14 : decode cX5_take 14 = .ok (.getfield 29, 3) := by decide +kernel
theorem dX5_take_17 : decode cX5_take 17 = .ok (.if_icmp .ge 37, 3) := by decide +kernel
theorem dX5_take_20 : decode cX5_take 20 = .ok (.aload_n 0, 1) := by decide +kernel
theorem dX5_take_21 : decode cX5_take 21 = .ok (.getfield 7, 3) := by decide +kernel
theorem dX5_take_24 : decode cX5_take 24 = .ok (.iload_n 3, 1) := by decide +kernel
theorem dX5_take_25 : decode cX5_take 25 = .ok (.aload_n 0, 1) := by decide +kernel
theorem dX5_take_26 : decode cX5_take 26 = .ok (.getfield 7, 3) := by decide +kernel
theorem dX5_take_29 : decode cX5_take 29 = .ok (.iload_n 3, 1) := by decide +kernel
theorem dX5_take_30 : decode cX5_take 30 = .ok (.iload_n 2, 1) := by decide +kernel
theorem dX5_take_31 : decode cX5_take 31 = .ok (.iadd, 1) := by decide +kernel
theorem dX5_take_32 : decode cX5_take 32 = .ok (.iaload, 1) := by decide +kernel
theorem dX5_take_33 : decode cX5_take 33 = .ok (.iastore, 1) := by decide +kernel
theorem dX5_take_34 : decode cX5_take 34 = .ok (.aload_n 0, 1) := by decide +kernel
theorem dX5_take_35 : decode cX5_take 35 = .ok (.getfield 13, 3) := by decide +kernel
theorem dX5_take_38 : decode cX5_take 38 = .ok (.iload_n 3, 1) := by decide +kernel
theorem dX5_take_39 : decode cX5_take 39 = .ok (.aload_n 0, 1) := by decide +kernel
theorem dX5_take_40 : decode cX5_take 40 = .ok (.getfield 13, 3) := by decide +kernel
theorem dX5_take_43 : decode cX5_take 43 = .ok (.iload_n 3, 1) := by decide +kernel
theorem dX5_take_44 : decode cX5_take 44 = .ok (.iload_n 2, 1) := by decide +kernel
theorem dX5_take_45 : decode cX5_take 45 = .ok (.iadd, 1) := by decide +kernel
theorem dX5_take_46 : decode cX5_take 46 = .ok (.caload, 1) := by decide +kernel
theorem dX5_take_47 : decode cX5_take 47 = .ok (.castore, 1) := by decide +kernel
theorem dX5_take_48 : decode cX5_take 48 = .ok (.iinc 3 1, 3) := by decide +kernel
theorem dX5_take_51 : decode cX5_take 51 = .ok (.goto (-39), 3) := by decide +kernel
theorem dX5_take_54 : decode cX5_take 54 = .ok (.return_, 1) := by decide +kernel
set_option maxRecDepth 20000 in
theorem ggX5_insert_X5_noNode : GoodIn wsX5_insert wsX5_noNode := goodIn_r _ [7, 1, 8, 9, 6, 10, 37, 38, 39, 40, 41, 42, 43, 44, 45, 46] (by decide +kernel) (by decide +kernel)
set_option maxRecDepth 20000 in
theorem gX5_insert_X5_noNode : GoodIn wsX5_insert (wsV RX5 70 RX5 yX5_noNode wsX5_noNode) := goodIn_app (goodIn_of _ (by decide +kernel)) ggX5_insert_X5_noNode
set_option maxRecDepth 20000 in
theorem ggX5_insert_X5_childCount : GoodIn wsX5_insert wsX5_childCount := goodIn_r _ [14, 2, 15, 16, 17, 6, 18, 1, 37, 38, 39, 40, 41, 42, 43, 44, 45, 46] (by decide +kernel) (by decide +kernel)
set_option maxRecDepth 20000 in
theorem gX5_insert_X5_childCount : GoodIn wsX5_insert (wsV RX5 76 RX5 yX5_childCount wsX5_childCount) := goodIn_app (goodIn_of _ (by decide +kernel)) ggX5_insert_X5_childCount
set_option maxRecDepth 20000 in
theorem ggX5_insert_X5_in : GoodIn wsX5_insert wsX5_in := goodIn_r _ [10] (by decide +kernel) (by decide +kernel)
set_option maxRecDepth 20000 in
theorem gX5_insert_X5_in : GoodIn wsX5_insert (va_wsS RX5 36 yX5_in wsX5_in) := goodIn_app (goodIn_of _ (by decide +kernel)) ggX5_insert_X5_in
set_option maxRecDepth 20000 in
theorem ggX5_insert_X5_isLetter : GoodIn wsX5_insert wsX5_isLetter := goodIn_r _ [21] (by decide +kernel) (by decide +kernel)
set_option maxRecDepth 20000 in
theorem gX5_insert_X5_isLetter : GoodIn wsX5_insert (va_wsS RX5 46 yX5_isLetter wsX5_isLetter) := goodIn_app (goodIn_of _ (by decide +kernel)) ggX5_insert_X5_isLetter
set_option maxRecDepth 20000 in
theorem ggX5_insert_X5_keep : GoodIn wsX5_insert wsX5_keep := goodIn_r _ [25, 26, 27, 1, 2, 28, 37, 38, 39, 40, 41, 42, 43, 44, 45, 46] (by decide +kernel) (by decide +kernel)
set_option maxRecDepth 20000 in
theorem gX5_insert_X5_keep : GoodIn wsX5_insert (wsV RX5 50 RX5 yX5_keep wsX5_keep) := goodIn_app (goodIn_of _ (by decide +kernel)) ggX5_insert_X5_keep
set_option maxRecDepth 20000 in
theorem ggX5_insert_X5_childOrEnd : GoodIn wsX5_insert wsX5_childOrEnd := goodIn_r _ [32, 2, 15, 16, 17, 6, 18, 1, 37, 38, 39, 40, 41, 42, 43, 44, 45, 46] (by decide +kernel) (by decide +kernel)
set_option maxRecDepth 20000 in
theorem gX5_insert_X5_childOrEnd : GoodIn wsX5_insert (wsV RX5 94 RX5 yX5_childOrEnd wsX5_childOrEnd) := goodIn_app (goodIn_of _ (by decide +kernel)) ggX5_insert_X5_childOrEnd
set_option maxRecDepth 20000 in
theorem ggX5_insert_X5_put : GoodIn wsX5_insert wsX5_put := goodIn_r _ [36, 1, 2, 28, 37, 38, 39, 40, 41, 42, 43, 44, 45, 46] (by decide +kernel) (by decide +kernel)
set_option maxRecDepth 20000 in
theorem gX5_insert_X5_put : GoodIn wsX5_insert (wsV RX5 137 RX5 yX5_put wsX5_put) := goodIn_app (goodIn_of _ (by decide +kernel)) ggX5_insert_X5_put
theorem dX5_insert_0 : decode cX5_insert 0 = .ok (.aload_n 0, 1) := by decide +kernel
theorem dX5_insert_1 : decode cX5_insert 1 = .ok (.iload_n 1, 1) := by decide +kernel
theorem dX5_insert_2 : decode cX5_insert 2 = .ok (.invokevirtual 70, 3) := by decide +kernel
theorem dX5_insert_5 : decode cX5_insert 5 = .ok (.ifCond .eq 5, 3) := by decide +kernel
theorem dX5_insert_8 : decode cX5_insert 8 = .ok (.iconst (-1), 1) := by decide +kernel
theorem dX5_insert_9 : decode cX5_insert 9 = .ok (.ireturn, 1) := by decide +kernel
theorem dX5_insert_10 : decode cX5_insert 10 = .ok (.iload_n 2, 1) := by decide +kernel
theorem dX5_insert_11 : decode cX5_insert 11 = .ok (.iconst 0, 1) := by decide +kernel
theorem dX5_insert_12 : decode cX5_insert 12 = .ok (.aload_n 0, 1) := by decide +kernel
theorem dX5_insert_13 : decode cX5_insert 13 = .ok (.iload_n 1, 1) := by decide +kernel
theorem dX5_insert_14 : decode cX5_insert 14 = .ok (.invokevirtual 76, 3) := by decide +kernel
theorem dX5_insert_17 : decode cX5_insert 17 = .ok (.invokestatic 36, 3) := by decide +kernel
theorem dX5_insert_20 : decode cX5_insert 20 = .ok (.ifCond .eq 10, 3) := by decide +kernel
theorem dX5_insert_23 : decode cX5_insert 23 = .ok (.iload_n 3, 1) := by decide +kernel
theorem dX5_insert_24 : decode cX5_insert 24 = .ok (.invokestatic 46, 3) := by decide +kernel
theorem dX5_insert_27 : decode cX5_insert 27 = .ok (.ifCond .ne 6, 3) := by decide +kernel
theorem dX5_insert_30 : decode cX5_insert 30 = .ok (.bipush (-2), 2) := by decide +kernel
theorem dX5_insert_32 : decode cX5_insert 32 = .ok (.ireturn, 1) := by decide +kernel
theorem dX5_insert_33 : decode cX5_insert 33 = .ok (.aload_n 0, 1) := by decide +kernel
theorem dX5_insert_34 : decode cX5_insert 34 = .ok (.getfield 29, 3) := by decide +kernel
theorem dX5_insert_37 : decode cX5_insert 37 = .ok (.bipush 100, 2) := by decide +kernel
theorem dX5_insert_39 : decode cX5_insert 39 = .ok (.if_icmp .ne 6, 3) := by decide +kernel
theorem dX5_insert_42 : decode cX5_insert 42 = .ok (.bipush (-4), 2) := by decide +kernel
theorem dX5_insert_44 : decode cX5_insert 44 = .ok (.ireturn, 1) := by decide +kernel
theorem dX5_insert_45 : decode cX5_insert 45 = .ok (.aload_n 0, 1) := by decide +kernel
theorem dX5_insert_46 : decode cX5_insert 46 = .ok (.invokevirtual 50, 3) := by decide +kernel
theorem dX5_insert_49 : decode cX5_insert 49 = .ok (.aload_n 0, 1) := by decide +kernel
theorem dX5_insert_50 : decode cX5_insert 50 = .ok (.iload_n 1, 1) := by decide +kernel
theorem dX5_insert_51 : decode cX5_insert 51 = .ok (.iload_n 2, 1) := by decide +kernel
theorem dX5_insert_52 : decode cX5_insert 52 = .ok (.invokevirtual 94, 3) := by decide +kernel
theorem dX5_insert_55 : decode cX5_insert 55 = .ok (.istore 4, 2) := by decide +kernel
theorem dX5_insert_57 : decode cX5_insert 57 = .ok (.aload_n 0, 1) := by decide +kernel
theorem dX5_insert_58 : decode cX5_insert 58 = .ok (.iload 4, 2) := by decide +kernel
theorem dX5_insert_60 : decode cX5_insert 60 = .ok (.aload_n 0, 1) := by decide +kernel
theorem dX5_insert_61 : decode cX5_insert 61 = .ok (.getfield 7, 3) := by decide +kernel
theorem dX5_insert_64 : decode cX5_insert 64 = .ok (.iload_n 1, 1) := by decide +kernel
theorem dX5_insert_65 : decode cX5_insert 65 = .ok (.iaload, 1) := by decide +kernel
theorem dX5_insert_66 : decode cX5_insert 66 = .ok (.iconst 1, 1) := by decide +kernel
theorem dX5_insert_67 : decode cX5_insert 67 = .ok (.iadd, 1) := by decide +kernel
theorem dX5_insert_68 : decode cX5_insert 68 = .ok (.iload_n 3, 1) := by decide +kernel
theorem dX5_insert_69 : decode cX5_insert 69 = .ok (.invokevirtual 137, 3) := by decide +kernel
theorem dX5_insert_72 : decode cX5_insert 72 = .ok (.iload 4, 2) := by decide +kernel
theorem dX5_insert_74 : decode cX5_insert 74 = .ok (.ireturn, 1) := by decide +kernel
set_option maxRecDepth 20000 in
theorem ggX5_wrap_X5_noNode : GoodIn wsX5_wrap wsX5_noNode := goodIn_r _ [7, 1, 8, 9, 6, 10, 37, 38, 39, 40, 41, 42, 43, 44, 45, 46] (by decide +kernel) (by decide +kernel)
set_option maxRecDepth 20000 in
theorem gX5_wrap_X5_noNode : GoodIn wsX5_wrap (wsV RX5 70 RX5 yX5_noNode wsX5_noNode) := goodIn_app (goodIn_of _ (by decide +kernel)) ggX5_wrap_X5_noNode
set_option maxRecDepth 20000 in
theorem ggX5_wrap_X5_childCount : GoodIn wsX5_wrap wsX5_childCount := goodIn_r _ [14, 2, 15, 16, 17, 6, 18, 1, 37, 38, 39, 40, 41, 42, 43, 44, 45, 46] (by decide +kernel) (by decide +kernel)
set_option maxRecDepth 20000 in
theorem gX5_wrap_X5_childCount : GoodIn wsX5_wrap (wsV RX5 76 RX5 yX5_childCount wsX5_childCount) := goodIn_app (goodIn_of _ (by decide +kernel)) ggX5_wrap_X5_childCount
set_option maxRecDepth 20000 in
theorem ggX5_wrap_X5_in : GoodIn wsX5_wrap wsX5_in := goodIn_r _ [10] (by decide +kernel) (by decide +kernel)
set_option maxRecDepth 20000 in
theorem gX5_wrap_X5_in : GoodIn wsX5_wrap (va_wsS RX5 36 yX5_in wsX5_in) := goodIn_app (goodIn_of _ (by decide +kernel)) ggX5_wrap_X5_in
set_option maxRecDepth 20000 in
theorem ggX5_wrap_X5_isLetter : GoodIn wsX5_wrap wsX5_isLetter := goodIn_r _ [21] (by decide +kernel) (by decide +kernel)
set_option maxRecDepth 20000 in
theorem gX5_wrap_X5_isLetter : GoodIn wsX5_wrap (va_wsS RX5 46 yX5_isLetter wsX5_isLetter) := goodIn_app (goodIn_of _ (by decide +kernel)) ggX5_wrap_X5_isLetter
set_option maxRecDepth 20000 in
theorem ggX5_wrap_X5_keep : GoodIn wsX5_wrap wsX5_keep := goodIn_r _ [25, 26, 27, 1, 2, 28, 37, 38, 39, 40, 41, 42, 43, 44, 45, 46] (by decide +kernel) (by decide +kernel)
set_option maxRecDepth 20000 in
theorem gX5_wrap_X5_keep : GoodIn wsX5_wrap (wsV RX5 50 RX5 yX5_keep wsX5_keep) := goodIn_app (goodIn_of _ (by decide +kernel)) ggX5_wrap_X5_keep
set_option maxRecDepth 20000 in
theorem ggX5_wrap_X5_childOrEnd : GoodIn wsX5_wrap wsX5_childOrEnd := goodIn_r _ [32, 2, 15, 16, 17, 6, 18, 1, 37, 38, 39, 40, 41, 42, 43, 44, 45, 46] (by decide +kernel) (by decide +kernel)
set_option maxRecDepth 20000 in
theorem gX5_wrap_X5_childOrEnd : GoodIn wsX5_wrap (wsV RX5 94 RX5 yX5_childOrEnd wsX5_childOrEnd) := goodIn_app (goodIn_of _ (by decide +kernel)) ggX5_wrap_X5_childOrEnd
set_option maxRecDepth 20000 in
theorem ggX5_wrap_X5_put : GoodIn wsX5_wrap wsX5_put := goodIn_r _ [36, 1, 2, 28, 37, 38, 39, 40, 41, 42, 43, 44, 45, 46] (by decide +kernel) (by decide +kernel)
set_option maxRecDepth 20000 in
theorem gX5_wrap_X5_put : GoodIn wsX5_wrap (wsV RX5 137 RX5 yX5_put wsX5_put) := goodIn_app (goodIn_of _ (by decide +kernel)) ggX5_wrap_X5_put
theorem dX5_wrap_0 : decode cX5_wrap 0 = .ok (.aload_n 0, 1) := by decide +kernel
theorem dX5_wrap_1 : decode cX5_wrap 1 = .ok (.iload_n 1, 1) := by decide +kernel
theorem dX5_wrap_2 : decode cX5_wrap 2 = .ok (.invokevirtual 70, 3) := by decide +kernel
theorem dX5_wrap_5 : decode cX5_wrap 5 = .ok (.ifCond .eq 5, 3) := by decide +kernel
theorem dX5_wrap_8 : decode cX5_wrap 8 = .ok (.iconst (-1), 1) := by decide +kernel
theorem dX5_wrap_9 : decode cX5_wrap 9 = .ok (.ireturn, 1) := by decide +kernel
theorem dX5_wrap_10 : decode cX5_wrap 10 = .ok (.aload_n 0, 1) := by decide +kernel
theorem dX5_wrap_11 : decode cX5_wrap 11 = .ok (.iload_n 1, 1) := by decide +kernel
theorem dX5_wrap_12 : decode cX5_wrap 12 = .ok (.invokevirtual 76, 3) := by decide +kernel
theorem dX5_wrap_15 : decode cX5_wrap 15 = .ok (.istore 5, 2) := by decide +kernel
theorem dX5_wrap_17 : decode cX5_wrap 17 = .ok (.iload_n 2, 1) := by decide +kernel
theorem dX5_wrap_18 : decode cX5_wrap 18 = .ok (.iconst 0, 1) := by decide +kernel
theorem dX5_wrap_19 : decode cX5_wrap 19 = .ok (.iload 5, 2) := by decide +kernel
theorem dX5_wrap_21 : decode cX5_wrap 21 = .ok (.invokestatic 36, 3) := by decide +kernel
theorem dX5_wrap_24 : decode cX5_wrap 24 = .ok (.ifCond .eq 23, 3) := by decide +kernel
theorem dX5_wrap_27 : decode cX5_wrap 27 = .ok (.iload_n 3, 1) := by decide +kernel
theorem dX5_wrap_28 : decode cX5_wrap 28 = .ok (.iconst 0, 1) := by decide +kernel
theorem dX5_wrap_29 : decode cX5_wrap 29 = .ok (.iload 5, 2) := by decide +kernel
theorem dX5_wrap_31 : decode cX5_wrap 31 = .ok (.iload_n 2, 1) := by decide +kernel
theorem dX5_wrap_32 : decode cX5_wrap 32 = .ok (.isub, 1) := by decide +kernel
theorem dX5_wrap_33 : decode cX5_wrap 33 = .ok (.invokestatic 36, 3) := by decide +kernel
theorem dX5_wrap_36 : decode cX5_wrap 36 = .ok (.ifCond .eq 11, 3) := by decide +kernel
theorem dX5_wrap_39 : decode cX5_wrap 39 = .ok (.iload 4, 2) := by decide +kernel
theorem dX5_wrap_41 : decode cX5_wrap 41 = .ok (.invokestatic 46, 3) := by decide +kernel
theorem dX5_wrap_44 : decode cX5_wrap 44 = .ok (.ifCond .ne 6, 3) := by decide +kernel
theorem dX5_wrap_47 : decode cX5_wrap 47 = .ok (.bipush (-2), 2) := by decide +kernel
theorem dX5_wrap_49 : decode cX5_wrap 49 = .ok (.ireturn, 1) := by decide +kernel
theorem dX5_wrap_50 : decode cX5_wrap 50 = .ok (.aload_n 0, 1) := by decide +kernel
theorem dX5_wrap_51 : decode cX5_wrap 51 = .ok (.getfield 29, 3) := by decide +kernel
theorem dX5_wrap_54 : decode cX5_wrap 54 = .ok (.bipush 100, 2) := by decide +kernel
theorem dX5_wrap_56 : decode cX5_wrap 56 = .ok (.if_icmp .ne 6, 3) := by decide +kernel
theorem dX5_wrap_59 : decode cX5_wrap 59 = .ok (.bipush (-4), 2) := by decide +kernel
theorem dX5_wrap_61 : decode cX5_wrap 61 = .ok (.ireturn, 1) := by decide +kernel
theorem dX5_wrap_62 : decode cX5_wrap 62 = .ok (.aload_n 0, 1) := by decide +kernel
theorem dX5_wrap_63 : decode cX5_wrap 63 = .ok (.invokevirtual 50, 3) := by decide +kernel
theorem dX5_wrap_66 : decode cX5_wrap 66 = .ok (.aload_n 0, 1) := by decide +kernel
theorem dX5_wrap_67 : decode cX5_wrap 67 = .ok (.iload_n 1, 1) := by decide +kernel
theorem dX5_wrap_68 : decode cX5_wrap 68 = .ok (.iload_n 2, 1) := by decide +kernel
theorem dX5_wrap_69 : decode cX5_wrap 69 = .ok (.invokevirtual 94, 3) := by decide +kernel
theorem dX5_wrap_72 : decode cX5_wrap 72 = .ok (.istore 6, 2) := by decide +kernel
theorem dX5_wrap_74 : decode cX5_wrap 74 = .ok (.aload_n 0, 1) := by decide +kernel
theorem dX5_wrap_75 : decode cX5_wrap 75 = .ok (.iload_n 1, 1) := by decide +kernel
theorem dX5_wrap_76 : decode cX5_wrap 76 = .ok (.iload_n 2, 1) := by decide +kernel
theorem dX5_wrap_77 : decode cX5_wrap 77 = .ok (.iload_n 3, 1) := by decide +kernel
theorem dX5_wrap_78 : decode cX5_wrap 78 = .ok (.iadd, 1) := by decide +kernel
theorem dX5_wrap_79 : decode cX5_wrap 79 = .ok (.invokevirtual 94, 3) := by decide +kernel
theorem dX5_wrap_82 : decode cX5_wrap 82 = .ok (.istore 7, 2) := by decide +kernel
theorem dX5_wrap_84 : decode cX5_wrap 84 = .ok (.iload 6, 2) := by decide +kernel
theorem dX5_wrap_86 : decode cX5_wrap 86 = .ok (.istore 8, 2) := by decide +kernel
theorem dX5_wrap_88 : decode cX5_wrap 88 = .ok (.iload 8, 2) := by decide +kernel
theorem dX5_wrap_90 : decode cX5_wrap 90 = .ok (.iload 7, 2) := by decide +kernel
theorem dX5_wrap_92 : decode cX5_wrap 92 = .ok (.if_icmp .ge 20, 3) := by decide +kernel
theorem dX5_wrap_95 : decode cX5_wrap 95 = .ok (.aload_n 0, 1) := by decide +kernel
theorem dX5_wrap_96 : decode cX5_wrap 96 = .ok (.getfield 7, 3) := by decide +kernel
theorem dX5_wrap_99 : decode cX5_wrap 99 = .ok (.iload 8, 2) := by decide +kernel
theorem dX5_wrap_101 : decode cX5_wrap 101 = .ok (.dup2, 1) := by decide +kernel
theorem dX5_wrap_102 : decode cX5_wrap 102 = .ok (.iaload, 1) := by decide +kernel
theorem dX5_wrap_103 : decode cX5_wrap 103 = .ok (.iconst 1, 1) := by decide +kernel
theorem dX5_wrap_104 : decode cX5_wrap 104 = .ok (.iadd, 1) := by decide +kernel
theorem dX5_wrap_105 : decode cX5_wrap 105 = .ok (.iastore, 1) := by decide +kernel
theorem dX5_wrap_106 : decode cX5_wrap 106 = .ok (.iinc 8 1, 3) := by decide +kernel
theorem dX5_wrap_109 : decode cX5_wrap 109 = .ok (.goto (-21), 3) := by decide +kernel
theorem dX5_wrap_112 : decode cX5_wrap 112 = .ok (.aload_n 0, 1) := by decide +kernel
theorem dX5_wrap_113 : decode cX5_wrap 113 = .ok (.iload 6, 2) := by decide +kernel
theorem dX5_wrap_115 : decode cX5_wrap 115 = .ok (.aload_n 0, 1) := by decide +kernel
theorem dX5_wrap_116 : decode cX5_wrap 116 = .ok (.getfield 7, 3) := by decide +kernel
theorem dX5_wrap_119 : decode cX5_wrap 119 = .ok (.iload_n 1, 1) := by decide +kernel
theorem dX5_wrap_120 : decode cX5_wrap 120 = .ok (.iaload, 1) := by decide +kernel
theorem dX5_wrap_121 : decode cX5_wrap 121 = .ok (.iconst 1, 1) := by decide +kernel
theorem dX5_wrap_122 : decode cX5_wrap 122 = .ok (.iadd, 1) := by decide +kernel
theorem dX5_wrap_123 : decode cX5_wrap 123 = .ok (.iload 4, 2) := by decide +kernel
theorem dX5_wrap_125 : decode cX5_wrap 125 = .ok (.invokevirtual 137, 3) := by decide +kernel
theorem dX5_wrap_128 : decode cX5_wrap 128 = .ok (.iload 6, 2) := by decide +kernel
theorem dX5_wrap_130 : decode cX5_wrap 130 = .ok (.ireturn, 1) := by decide +kernel
set_option maxRecDepth 20000 in
theorem ggX5_remove_X5_noNode : GoodIn wsX5_remove wsX5_noNode := goodIn_r _ [7, 2, 8, 9, 6, 10, 26, 27, 28, 29, 30, 31, 32, 33, 34, 35] (by decide +kernel) (by decide +kernel)
set_option maxRecDepth 20000 in
theorem gX5_remove_X5_noNode : GoodIn wsX5_remove (wsV RX5 70 RX5 yX5_noNode wsX5_noNode) := goodIn_app (goodIn_of _ (by decide +kernel)) ggX5_remove_X5_noNode
set_option maxRecDepth 20000 in
theorem ggX5_remove_X5_keep : GoodIn wsX5_remove wsX5_keep := goodIn_r _ [14, 15, 16, 2, 1, 17, 26, 27, 28, 29, 30, 31, 32, 33, 34, 35] (by decide +kernel) (by decide +kernel)
set_option maxRecDepth 20000 in
theorem gX5_remove_X5_keep : GoodIn wsX5_remove (wsV RX5 50 RX5 yX5_keep wsX5_keep) := goodIn_app (goodIn_of _ (by decide +kernel)) ggX5_remove_X5_keep
set_option maxRecDepth 20000 in
theorem ggX5_remove_X5_behind : GoodIn wsX5_remove wsX5_behind := goodIn_r _ [21, 2, 1, 26, 27, 28, 29, 30, 31, 32, 33, 34, 35] (by decide +kernel) (by decide +kernel)
set_option maxRecDepth 20000 in
theorem gX5_remove_X5_behind : GoodIn wsX5_remove (wsV RX5 61 RX5 yX5_behind wsX5_behind) := goodIn_app (goodIn_of _ (by decide +kernel)) ggX5_remove_X5_behind
set_option maxRecDepth 20000 in
theorem ggX5_remove_X5_take : GoodIn wsX5_remove wsX5_take := goodIn_r _ [25, 2, 1, 17, 26, 27, 28, 29, 30, 31, 32, 33, 34, 35] (by decide +kernel) (by decide +kernel)
set_option maxRecDepth 20000 in
theorem gX5_remove_X5_take : GoodIn wsX5_remove (wsV RX5 141 RX5 yX5_take wsX5_take) := goodIn_app (goodIn_of _ (by decide +kernel)) ggX5_remove_X5_take
theorem dX5_remove_0 : decode cX5_remove 0 = .ok (.aload_n 0, 1) := by decide +kernel
theorem dX5_remove_1 : decode cX5_remove 1 = .ok (.iload_n 1, 1) := by decide +kernel
theorem dX5_remove_2 : decode cX5_remove 2 = .ok (.invokevirtual 70, 3) := by decide +kernel
theorem dX5_remove_5 : decode cX5_remove 5 = .ok (.ifCond .eq 5, 3) := by decide +kernel
theorem dX5_remove_8 : decode cX5_remove 8 = .ok (.iconst (-1), 1) := by decide +kernel
theorem dX5_remove_9 : decode cX5_remove 9 = .ok (.ireturn, 1) := by decide +kernel
theorem dX5_remove_10 : decode cX5_remove 10 = .ok (.iload_n 1, 1) := by decide +kernel
theorem dX5_remove_11 : decode cX5_remove 11 = .ok (.ifCond .ne 6, 3) := by decide +kernel
theorem dX5_remove_14 : decode cX5_remove 14 = .ok (.bipush (-3), 2) := by decide +kernel
theorem dX5_remove_16 : decode cX5_remove 16 = .ok (.ireturn, 1) := by decide +kernel
theorem dX5_remove_17 : decode cX5_remove 17 = .ok (.aload_n 0, 1) := by decide +kernel
theorem dX5_remove_18 : decode cX5_remove 18 = .ok (.invokevirtual 50, 3) := by decide +kernel
theorem dX5_remove_21 : decode cX5_remove 21 = .ok (.aload_n 0, 1) := by decide +kernel
theorem dX5_remove_22 : decode cX5_remove 22 = .ok (.iload_n 1, 1) := by decide +kernel
theorem dX5_remove_23 : decode cX5_remove 23 = .ok (.invokevirtual 61, 3) := by decide +kernel
theorem dX5_remove_26 : decode cX5_remove 26 = .ok (.istore_n 2, 1) := by decide +kernel
theorem dX5_remove_27 : decode cX5_remove 27 = .ok (.iload_n 1, 1) := by decide +kernel
theorem dX5_remove_28 : decode cX5_remove 28 = .ok (.iconst 1, 1) := by decide +kernel
theorem dX5_remove_29 : decode cX5_remove 29 = .ok (.iadd, 1) := by decide +kernel
theorem dX5_remove_30 : decode cX5_remove 30 = .ok (.istore_n 3, 1) := by decide +kernel
theorem dX5_remove_31 : decode cX5_remove 31 = .ok (.iload_n 3, 1) := by decide +kernel
theorem dX5_remove_32 : decode cX5_remove 32 = .ok (.iload_n 2, 1) := by decide +kernel
theorem dX5_remove_33 : decode cX5_remove 33 = .ok (.if_icmp .ge 19, 3) := by decide +kernel
theorem dX5_remove_36 : decode cX5_remove 36 = .ok (.aload_n 0, 1) := by decide +kernel
theorem dX5_remove_37 : decode cX5_remove 37 = .ok (.getfield 7, 3) := by decide +kernel
theorem dX5_remove_40 : decode cX5_remove 40 = .ok (.iload_n 3, 1) := by decide +kernel
theorem dX5_remove_41 : decode cX5_remove 41 = .ok (.dup2, 1) := by decide +kernel
theorem dX5_remove_42 : decode cX5_remove 42 = .ok (.iaload, 1) := by decide +kernel
theorem dX5_remove_43 : decode cX5_remove 43 = .ok (.iconst 1, 1) := by decide +kernel
theorem dX5_remove_44 : decode cX5_remove 44 = .ok (.isub, 1) := by decide +kernel
theorem dX5_remove_45 : decode cX5_remove 45 = .ok (.iastore, 1) := by decide +kernel
theorem dX5_remove_46 : decode cX5_remove 46 = .ok (.iinc 3 1, 3) := by decide +kernel
theorem dX5_remove_49 : decode cX5_remove 49 = .ok (.goto (-18), 3) := by decide +kernel
theorem dX5_remove_52 : decode cX5_remove 52 = .ok (.aload_n 0, 1) := by decide +kernel
theorem dX5_remove_53 : decode cX5_remove 53 = .ok (.iload_n 1, 1) := by decide +kernel
theorem dX5_remove_54 : decode cX5_remove 54 = .ok (.iconst 1, 1) := by decide +kernel
theorem dX5_remove_55 : decode cX5_remove 55 = .ok (.invokevirtual 141, 3) := by decide +kernel
theorem dX5_remove_58 : decode cX5_remove 58 = .ok (.aload_n 0, 1) := by decide +kernel
theorem dX5_remove_59 : decode cX5_remove 59 = .ok (.getfield 29, 3) := by decide +kernel
theorem dX5_remove_62 : decode cX5_remove 62 = .ok (.ireturn, 1) := by decide +kernel
set_option maxRecDepth 20000 in
theorem ggX5_cut_X5_noNode : GoodIn wsX5_cut wsX5_noNode := goodIn_r _ [6, 1, 7, 8, 5, 9, 26, 27, 28, 29, 30, 31, 32, 33, 34, 35] (by decide +kernel) (by decide +kernel)
set_option maxRecDepth 20000 in
theorem gX5_cut_X5_noNode : GoodIn wsX5_cut (wsV RX5 70 RX5 yX5_noNode wsX5_noNode) := goodIn_app (goodIn_of _ (by decide +kernel)) ggX5_cut_X5_noNode
set_option maxRecDepth 20000 in
theorem ggX5_cut_X5_keep : GoodIn wsX5_cut wsX5_keep := goodIn_r _ [13, 14, 15, 1, 16, 17, 26, 27, 28, 29, 30, 31, 32, 33, 34, 35] (by decide +kernel) (by decide +kernel)
set_option maxRecDepth 20000 in
theorem gX5_cut_X5_keep : GoodIn wsX5_cut (wsV RX5 50 RX5 yX5_keep wsX5_keep) := goodIn_app (goodIn_of _ (by decide +kernel)) ggX5_cut_X5_keep
set_option maxRecDepth 20000 in
theorem ggX5_cut_X5_behind : GoodIn wsX5_cut wsX5_behind := goodIn_r _ [21, 1, 16, 26, 27, 28, 29, 30, 31, 32, 33, 34, 35] (by decide +kernel) (by decide +kernel)
set_option maxRecDepth 20000 in
theorem gX5_cut_X5_behind : GoodIn wsX5_cut (wsV RX5 61 RX5 yX5_behind wsX5_behind) := goodIn_app (goodIn_of _ (by decide +kernel)) ggX5_cut_X5_behind
set_option maxRecDepth 20000 in
theorem ggX5_cut_X5_take : GoodIn wsX5_cut wsX5_take := goodIn_r _ [25, 1, 16, 17, 26, 27, 28, 29, 30, 31, 32, 33, 34, 35] (by decide +kernel) (by decide +kernel)
set_option maxRecDepth 20000 in
theorem gX5_cut_X5_take : GoodIn wsX5_cut (wsV RX5 141 RX5 yX5_take wsX5_take) := goodIn_app (goodIn_of _ (by decide +kernel)) ggX5_cut_X5_take
theorem dX5_cut_0 : decode cX5_cut 0 = .ok (.aload_n 0, 1) := by decide +kernel
theorem dX5_cut_1 : decode cX5_cut 1 = .ok (.iload_n 1, 1) := by decide +kernel
theorem dX5_cut_2 : decode cX5_cut 2 = .ok (.invokevirtual 70, 3) := by decide +kernel
theorem dX5_cut_5 : decode cX5_cut 5 = .ok (.ifCond .eq 5, 3) := by decide +kernel
theorem dX5_cut_8 : decode cX5_cut 8 = .ok (.iconst (-1), 1) := by decide +kernel
theorem dX5_cut_9 : decode cX5_cut 9 = .ok (.ireturn, 1) := by decide +kernel
theorem dX5_cut_10 : decode cX5_cut 10 = .ok (.iload_n 1, 1) := by decide +kernel
theorem dX5_cut_11 : decode cX5_cut 11 = .ok (.ifCond .ne 6, 3) := by decide +kernel
theorem dX5_cut_14 : decode cX5_cut 14 = .ok (.bipush (-3), 2) := by decide +kernel
theorem dX5_cut_16 : decode cX5_cut 16 = .ok (.ireturn, 1) := by decide +kernel
theorem dX5_cut_17 : decode cX5_cut 17 = .ok (.aload_n 0, 1) := by decide +kernel
theorem dX5_cut_18 : decode cX5_cut 18 = .ok (.invokevirtual 50, 3) := by decide +kernel
theorem dX5_cut_21 : decode cX5_cut 21 = .ok (.aload_n 0, 1) := by decide +kernel
theorem dX5_cut_22 : decode cX5_cut 22 = .ok (.iload_n 1, 1) := by decide +kernel
theorem dX5_cut_23 : decode cX5_cut 23 = .ok (.aload_n 0, 1) := by decide +kernel
theorem dX5_cut_24 : decode cX5_cut 24 = .ok (.iload_n 1, 1) := by decide +kernel
theorem dX5_cut_25 : decode cX5_cut 25 = .ok (.invokevirtual 61, 3) := by decide +kernel
theorem dX5_cut_28 : decode cX5_cut 28 = .ok (.iload_n 1, 1) := by decide +kernel
theorem dX5_cut_29 : decode cX5_cut 29 = .ok (.isub, 1) := by decide +kernel
theorem dX5_cut_30 : decode cX5_cut 30 = .ok (.invokevirtual 141, 3) := by decide +kernel
theorem dX5_cut_33 : decode cX5_cut 33 = .ok (.aload_n 0, 1) := by decide +kernel
theorem dX5_cut_34 : decode cX5_cut 34 = .ok (.getfield 29, 3) := by decide +kernel
theorem dX5_cut_37 : decode cX5_cut 37 = .ok (.ireturn, 1) := by decide +kernel
set_option maxRecDepth 20000 in
theorem ggX5_move_X5_noNode : GoodIn wsX5_move wsX5_noNode := goodIn_r _ [9, 10, 11, 12, 8, 13, 48, 49, 50, 51, 52, 53, 54, 55, 56, 57] (by decide +kernel) (by decide +kernel)
set_option maxRecDepth 20000 in
theorem gX5_move_X5_noNode : GoodIn wsX5_move (wsV RX5 70 RX5 yX5_noNode wsX5_noNode) := goodIn_app (goodIn_of _ (by decide +kernel)) ggX5_move_X5_noNode
set_option maxRecDepth 20000 in
theorem ggX5_move_X5_holds : GoodIn wsX5_move wsX5_holds := goodIn_r _ [17, 18, 19, 20, 8, 21, 10, 1, 48, 49, 50, 51, 52, 53, 54, 55, 56, 57] (by decide +kernel) (by decide +kernel)
set_option maxRecDepth 20000 in
theorem gX5_move_X5_holds : GoodIn wsX5_move (wsV RX5 110 RX5 yX5_holds wsX5_holds) := goodIn_app (goodIn_of _ (by decide +kernel)) ggX5_move_X5_holds
set_option maxRecDepth 20000 in
theorem ggX5_move_X5_childCount : GoodIn wsX5_move wsX5_childCount := goodIn_r _ [25, 1, 18, 19, 20, 8, 21, 10, 48, 49, 50, 51, 52, 53, 54, 55, 56, 57] (by decide +kernel) (by decide +kernel)
set_option maxRecDepth 20000 in
theorem gX5_move_X5_childCount : GoodIn wsX5_move (wsV RX5 76 RX5 yX5_childCount wsX5_childCount) := goodIn_app (goodIn_of _ (by decide +kernel)) ggX5_move_X5_childCount
set_option maxRecDepth 20000 in
theorem ggX5_move_X5_parentOf : GoodIn wsX5_move wsX5_parentOf := goodIn_r _ [29, 1, 48, 49, 50, 51, 52, 53, 54, 55, 56, 57] (by decide +kernel) (by decide +kernel)
set_option maxRecDepth 20000 in
theorem gX5_move_X5_parentOf : GoodIn wsX5_move (wsV RX5 73 RX5 yX5_parentOf wsX5_parentOf) := goodIn_app (goodIn_of _ (by decide +kernel)) ggX5_move_X5_parentOf
set_option maxRecDepth 20000 in
theorem ggX5_move_X5_in : GoodIn wsX5_move wsX5_in := goodIn_r _ [13] (by decide +kernel) (by decide +kernel)
set_option maxRecDepth 20000 in
theorem gX5_move_X5_in : GoodIn wsX5_move (va_wsS RX5 36 yX5_in wsX5_in) := goodIn_app (goodIn_of _ (by decide +kernel)) ggX5_move_X5_in
set_option maxRecDepth 20000 in
theorem ggX5_move_X5_keep : GoodIn wsX5_move wsX5_keep := goodIn_r _ [33, 34, 35, 10, 1, 4, 48, 49, 50, 51, 52, 53, 54, 55, 56, 57] (by decide +kernel) (by decide +kernel)
set_option maxRecDepth 20000 in
theorem gX5_move_X5_keep : GoodIn wsX5_move (wsV RX5 50 RX5 yX5_keep wsX5_keep) := goodIn_app (goodIn_of _ (by decide +kernel)) ggX5_move_X5_keep
set_option maxRecDepth 20000 in
theorem ggX5_move_X5_behind : GoodIn wsX5_move wsX5_behind := goodIn_r _ [21, 10, 1, 48, 49, 50, 51, 52, 53, 54, 55, 56, 57] (by decide +kernel) (by decide +kernel)
set_option maxRecDepth 20000 in
theorem gX5_move_X5_behind : GoodIn wsX5_move (wsV RX5 61 RX5 yX5_behind wsX5_behind) := goodIn_app (goodIn_of _ (by decide +kernel)) ggX5_move_X5_behind
set_option maxRecDepth 20000 in
theorem ggX5_move_X5_take : GoodIn wsX5_move wsX5_take := goodIn_r _ [39, 10, 1, 4, 48, 49, 50, 51, 52, 53, 54, 55, 56, 57] (by decide +kernel) (by decide +kernel)
set_option maxRecDepth 20000 in
theorem gX5_move_X5_take : GoodIn wsX5_move (wsV RX5 141 RX5 yX5_take wsX5_take) := goodIn_app (goodIn_of _ (by decide +kernel)) ggX5_move_X5_take
set_option maxRecDepth 20000 in
theorem ggX5_move_X5_childOrEnd : GoodIn wsX5_move wsX5_childOrEnd := goodIn_r _ [43, 1, 18, 19, 20, 8, 21, 10, 48, 49, 50, 51, 52, 53, 54, 55, 56, 57] (by decide +kernel) (by decide +kernel)
set_option maxRecDepth 20000 in
theorem gX5_move_X5_childOrEnd : GoodIn wsX5_move (wsV RX5 94 RX5 yX5_childOrEnd wsX5_childOrEnd) := goodIn_app (goodIn_of _ (by decide +kernel)) ggX5_move_X5_childOrEnd
set_option maxRecDepth 20000 in
theorem ggX5_move_X5_put : GoodIn wsX5_move wsX5_put := goodIn_r _ [47, 10, 1, 4, 48, 49, 50, 51, 52, 53, 54, 55, 56, 57] (by decide +kernel) (by decide +kernel)
set_option maxRecDepth 20000 in
theorem gX5_move_X5_put : GoodIn wsX5_move (wsV RX5 137 RX5 yX5_put wsX5_put) := goodIn_app (goodIn_of _ (by decide +kernel)) ggX5_move_X5_put
theorem dX5_move_0 : decode cX5_move 0 = .ok (.aload_n 0, 1) := by decide +kernel
theorem dX5_move_1 : decode cX5_move 1 = .ok (.iload_n 1, 1) := by decide +kernel
theorem dX5_move_2 : decode cX5_move 2 = .ok (.invokevirtual 70, 3) := by decide +kernel
theorem dX5_move_5 : decode cX5_move 5 = .ok (.ifCond .ne 11, 3) := by decide +kernel
theorem dX5_move_8 : decode cX5_move 8 = .ok (.aload_n 0, 1) := by decide +kernel
theorem dX5_move_9 : decode cX5_move 9 = .ok (.iload_n 2, 1) := by decide +kernel
theorem dX5_move_10 : decode cX5_move 10 = .ok (.invokevirtual 70, 3) := by decide +kernel
theorem dX5_move_13 : decode cX5_move 13 = .ok (.ifCond .eq 5, 3) := by decide +kernel
theorem dX5_move_16 : decode cX5_move 16 = .ok (.iconst (-1), 1) := by decide +kernel
theorem dX5_move_17 : decode cX5_move 17 = .ok (.ireturn, 1) := by decide +kernel
theorem dX5_move_18 : decode cX5_move 18 = .ok (.aload_n 0, 1) := by decide +kernel
theorem dX5_move_19 : decode cX5_move 19 = .ok (.iload_n 1, 1) := by decide +kernel
theorem dX5_move_20 : decode cX5_move 20 = .ok (.iload_n 2, 1) := by decide +kernel
theorem dX5_move_21 : decode cX5_move 21 = .ok (.invokevirtual 110, 3) := by decide +kernel
theorem dX5_move_24 : decode cX5_move 24 = .ok (.ifCond .eq 6, 3) := by decide +kernel
theorem dX5_move_27 : decode cX5_move 27 = .ok (.bipush (-3), 2) := by decide +kernel
theorem dX5_move_29 : decode cX5_move 29 = .ok (.ireturn, 1) := by decide +kernel
theorem dX5_move_30 : decode cX5_move 30 = .ok (.aload_n 0, 1) := by decide +kernel
theorem dX5_move_31 : decode cX5_move 31 = .ok (.iload_n 2, 1) := by decide +kernel
theorem dX5_move_32 : decode cX5_move 32 = .ok (.invokevirtual 76, 3) := by decide +kernel
theorem dX5_move_35 : decode cX5_move 35 = .ok (.aload_n 0, 1) := by decide +kernel
theorem dX5_move_36 : decode cX5_move 36 = .ok (.iload_n 1, 1) := by decide +kernel
theorem dX5_move_37 : decode cX5_move 37 = .ok (.invokevirtual 73, 3) := by decide +kernel
theorem dX5_move_40 : decode cX5_move 40 = .ok (.iload_n 2, 1) := by decide +kernel
theorem dX5_move_41 : decode cX5_move 41 = .ok (.if_icmp .ne 7, 3) := by decide +kernel
theorem dX5_move_44 : decode cX5_move 44 = .ok (.iconst 1, 1) := by decide +kernel
theorem dX5_move_45 : decode cX5_move 45 = .ok (.goto 4, 3) := by decide +kernel
theorem dX5_move_48 : decode cX5_move 48 = .ok (.iconst 0, 1) := by decide +kernel
theorem dX5_move_49 : decode cX5_move 49 = .ok (.isub, 1) := by decide +kernel
theorem dX5_move_50 : decode cX5_move 50 = .ok (.istore 4, 2) := by decide +kernel
theorem dX5_move_52 : decode cX5_move 52 = .ok (.iload_n 3, 1) := by decide +kernel
theorem dX5_move_53 : decode cX5_move 53 = .ok (.iconst 0, 1) := by decide +kernel
theorem dX5_move_54 : decode cX5_move 54 = .ok (.iload 4, 2) := by decide +kernel
theorem dX5_move_56 : decode cX5_move 56 = .ok (.invokestatic 36, 3) := by decide +kernel
theorem dX5_move_59 : decode cX5_move 59 = .ok (.ifCond .ne 6, 3) := by decide +kernel
theorem dX5_move_62 : decode cX5_move 62 = .ok (.bipush (-2), 2) := by decide +kernel
theorem dX5_move_64 : decode cX5_move 64 = .ok (.ireturn, 1) := by decide +kernel
theorem dX5_move_65 : decode cX5_move 65 = .ok (.aload_n 0, 1) := by decide +kernel
theorem dX5_move_66 : decode cX5_move 66 = .ok (.invokevirtual 50, 3) := by decide +kernel
theorem dX5_move_69 : decode cX5_move 69 = .ok (.aload_n 0, 1) := by decide +kernel
theorem dX5_move_70 : decode cX5_move 70 = .ok (.iload_n 1, 1) := by decide +kernel
theorem dX5_move_71 : decode cX5_move 71 = .ok (.invokevirtual 61, 3) := by decide +kernel
theorem dX5_move_74 : decode cX5_move 74 = .ok (.iload_n 1, 1) := by decide +kernel
theorem dX5_move_75 : decode cX5_move 75 = .ok (.isub, 1) := by decide +kernel
theorem dX5_move_76 : decode cX5_move 76 = .ok (.istore 5, 2) := by decide +kernel
theorem dX5_move_78 : decode cX5_move 78 = .ok (.aload_n 0, 1) := by decide +kernel
theorem dX5_move_79 : decode cX5_move 79 = .ok (.getfield 7, 3) := by decide +kernel
theorem dX5_move_82 : decode cX5_move 82 = .ok (.iload_n 1, 1) := by decide +kernel
theorem dX5_move_83 : decode cX5_move 83 = .ok (.iaload, 1) := by decide +kernel
theorem dX5_move_84 : decode cX5_move 84 = .ok (.istore 6, 2) := by decide +kernel
theorem dX5_move_86 : decode cX5_move 86 = .ok (.iconst 0, 1) := by decide +kernel
theorem dX5_move_87 : decode cX5_move 87 = .ok (.istore 7, 2) := by decide +kernel
theorem dX5_move_89 : decode cX5_move 89 = .ok (.iload 7, 2) := by decide +kernel
theorem dX5_move_91 : decode cX5_move 91 = .ok (.iload 5, 2) := by decide +kernel
theorem dX5_move_93 : decode cX5_move 93 = .ok (.if_icmp .ge 44, 3) := by decide +kernel
theorem dX5_move_96 : decode cX5_move 96 = .ok (.aload_n 0, 1) := by decide +kernel
theorem dX5_move_97 : decode cX5_move 97 = .ok (.getfield 23, 3) := by decide +kernel
theorem dX5_move_100 : decode cX5_move 100 = .ok (.iload 7, 2) := by decide +kernel
theorem dX5_move_102 : decode cX5_move 102 = .ok (.aload_n 0, 1) := by decide +kernel
theorem dX5_move_103 : decode cX5_move 103 = .ok (.getfield 7, 3) := by decide +kernel
theorem dX5_move_106 : decode cX5_move 106 = .ok (.iload_n 1, 1) := by decide +kernel
theorem dX5_move_107 : decode cX5_move 107 = .ok (.iload 7, 2) := by decide +kernel
theorem dX5_move_109 : decode cX5_move 109 = .ok (.iadd, 1) := by decide +kernel
theorem dX5_move_110 : decode cX5_move 110 = .ok (.iaload, 1) := by decide +kernel
theorem dX5_move_111 : decode cX5_move 111 = .ok (.iload 6, 2) := by decide +kernel
theorem dX5_move_113 : decode cX5_move 113 = .ok (.isub, 1) := by decide +kernel
theorem dX5_move_114 : decode cX5_move 114 = .ok (.iastore, 1) := by decide +kernel
theorem dX5_move_115 : decode cX5_move 115 = .ok (.aload_n 0, 1) := by decide +kernel
theorem dX5_move_116 : decode cX5_move 116 = .ok (.getfield 26, 3) := by decide +kernel
theorem dX5_move_119 : decode cX5_move 119 = .ok (.iload 7, 2) := by decide +kernel
theorem dX5_move_121 : decode cX5_move 121 = .ok (.aload_n 0, 1) := by decide +kernel
theorem dX5_move_122 : decode cX5_move 122 = .ok (.getfield 13, 3) := by decide +kernel
theorem dX5_move_125 : decode cX5_move 125 = .ok (.iload_n 1, 1) := by decide +kernel
theorem dX5_move_126 : decode cX5_move 126 = .ok (.iload 7, 2) := by decide +kernel
theorem dX5_move_128 : decode cX5_move 128 = .ok (.iadd, 1) := by decide +kernel
theorem dX5_move_129 : decode cX5_move 129 = .ok (.caload, 1) := by decide +kernel
theorem dX5_move_130 : decode cX5_move 130 = .ok (.castore, 1) := by decide +kernel
theorem dX5_move_131 : decode cX5_move 131 = .ok (.iinc 7 1, 3) := by decide +kernel
theorem dX5_move_134 : decode cX5_move 134 = .ok (.goto (-45), 3) := by decide +kernel
theorem dX5_move_137 : decode cX5_move 137 = .ok (.aload_n 0, 1) := by decide +kernel
theorem dX5_move_138 : decode cX5_move 138 = .ok (.iload_n 1, 1) := by decide +kernel
theorem dX5_move_139 : decode cX5_move 139 = .ok (.iload 5, 2) := by decide +kernel
theorem dX5_move_141 : decode cX5_move 141 = .ok (.invokevirtual 141, 3) := by decide +kernel
theorem dX5_move_144 : decode cX5_move 144 = .ok (.iload_n 2, 1) := by decide +kernel
theorem dX5_move_145 : decode cX5_move 145 = .ok (.iload_n 1, 1) := by decide +kernel
theorem dX5_move_146 : decode cX5_move 146 = .ok (.if_icmp .le 10, 3) := by decide +kernel
theorem dX5_move_149 : decode cX5_move 149 = .ok (.iload_n 2, 1) := by decide +kernel
theorem dX5_move_150 : decode cX5_move 150 = .ok (.iload 5, 2) := by decide +kernel
theorem dX5_move_152 : decode cX5_move 152 = .ok (.isub, 1) := by decide +kernel
theorem dX5_move_153 : decode cX5_move 153 = .ok (.goto 4, 3) := by decide +kernel
theorem dX5_move_156 : decode cX5_move 156 = .ok (.iload_n 2, 1) := by decide +kernel
theorem dX5_move_157 : decode cX5_move 157 = .ok (.istore 7, 2) := by decide +kernel
theorem dX5_move_159 : decode cX5_move 159 = .ok (.aload_n 0, 1) := by decide +kernel
theorem dX5_move_160 : decode cX5_move 160 = .ok (.iload 7, 2) := by decide +kernel
theorem dX5_move_162 : decode cX5_move 162 = .ok (.iload_n 3, 1) := by decide +kernel
theorem dX5_move_163 : decode cX5_move 163 = .ok (.invokevirtual 94, 3) := by decide +kernel
theorem dX5_move_166 : decode cX5_move 166 = .ok (.istore 8, 2) := by decide +kernel
theorem dX5_move_168 : decode cX5_move 168 = .ok (.iconst 0, 1) := by decide +kernel
theorem dX5_move_169 : decode cX5_move 169 = .ok (.istore 9, 2) := by decide +kernel
theorem dX5_move_171 : decode cX5_move 171 = .ok (.iload 9, 2) := by decide +kernel
theorem dX5_move_173 : decode cX5_move 173 = .ok (.iload 5, 2) := by decide +kernel
theorem dX5_move_175 : decode cX5_move 175 = .ok (.if_icmp .ge 42, 3) := by decide +kernel
theorem dX5_move_178 : decode cX5_move 178 = .ok (.aload_n 0, 1) := by decide +kernel
theorem dX5_move_179 : decode cX5_move 179 = .ok (.iload 8, 2) := by decide +kernel
theorem dX5_move_181 : decode cX5_move 181 = .ok (.iload 9, 2) := by decide +kernel
theorem dX5_move_183 : decode cX5_move 183 = .ok (.iadd, 1) := by decide +kernel
theorem dX5_move_184 : decode cX5_move 184 = .ok (.aload_n 0, 1) := by decide +kernel
theorem dX5_move_185 : decode cX5_move 185 = .ok (.getfield 23, 3) := by decide +kernel
theorem dX5_move_188 : decode cX5_move 188 = .ok (.iload 9, 2) := by decide +kernel
theorem dX5_move_190 : decode cX5_move 190 = .ok (.iaload, 1) := by decide +kernel
theorem dX5_move_191 : decode cX5_move 191 = .ok (.aload_n 0, 1) := by decide +kernel
theorem dX5_move_192 : decode cX5_move 192 = .ok (.getfield 7, 3) := by decide +kernel
theorem dX5_move_195 : decode cX5_move 195 = .ok (.iload 7, 2) := by decide +kernel
theorem dX5_move_197 : decode cX5_move 197 = .ok (.iaload, 1) := by decide +kernel
theorem dX5_move_198 : decode cX5_move 198 = .ok (.iadd, 1) := by decide +kernel
theorem dX5_move_199 : decode cX5_move 199 = .ok (.iconst 1, 1) := by decide +kernel
theorem dX5_move_200 : decode cX5_move 200 = .ok (.iadd, 1) := by decide +kernel
theorem dX5_move_201 : decode cX5_move 201 = .ok (.aload_n 0, 1) := by decide +kernel
theorem dX5_move_202 : decode cX5_move 202 = .ok (.getfield 26, 3) := by decide +kernel
theorem dX5_move_205 : decode cX5_move 205 = .ok (.iload 9, 2) := by decide +kernel
theorem dX5_move_207 : decode cX5_move 207 = .ok (.caload, 1) := by decide +kernel
theorem dX5_move_208 : decode cX5_move 208 = .ok (.invokevirtual 137, 3) := by decide +kernel
theorem dX5_move_211 : decode cX5_move 211 = .ok (.iinc 9 1, 3) := by decide +kernel
theorem dX5_move_214 : decode cX5_move 214 = .ok (.goto (-43), 3) := by decide +kernel
theorem dX5_move_217 : decode cX5_move 217 = .ok (.iload 8, 2) := by decide +kernel
theorem dX5_move_219 : decode cX5_move 219 = .ok (.ireturn, 1) := by decide +kernel
theorem dJ9_max_7cf53_0 : decode cJ9_max_7cf53 0 = .ok (.iload_n 0, 1) := by decide +kernel
theorem dJ9_max_7cf53_1 : decode cJ9_max_7cf53 1 = .ok (.iload_n 1, 1) := by decide +kernel
theorem dJ9_max_7cf53_2 : decode cJ9_max_7cf53 2 = .ok (.if_icmp .lt 7, 3) := by decide +kernel
theorem dJ9_max_7cf53_5 : decode cJ9_max_7cf53 5 = .ok (.iload_n 0, 1) := by decide +kernel
theorem dJ9_max_7cf53_6 : decode cJ9_max_7cf53 6 = .ok (.goto 4, 3) := by decide +kernel
theorem dJ9_max_7cf53_9 : decode cJ9_max_7cf53 9 = .ok (.iload_n 1, 1) := by decide +kernel
theorem dJ9_max_7cf53_10 : decode cJ9_max_7cf53 10 = .ok (.ireturn, 1) := by decide +kernel
theorem dJ9_min_7cf53_0 : decode cJ9_min_7cf53 0 = .ok (.iload_n 0, 1) := by decide +kernel
theorem dJ9_min_7cf53_1 : decode cJ9_min_7cf53 1 = .ok (.iload_n 1, 1) := by decide +kernel
theorem dJ9_min_7cf53_2 : decode cJ9_min_7cf53 2 = .ok (.if_icmp .gt 7, 3) := by decide +kernel
theorem dJ9_min_7cf53_5 : decode cJ9_min_7cf53 5 = .ok (.iload_n 0, 1) := by decide +kernel
theorem dJ9_min_7cf53_6 : decode cJ9_min_7cf53 6 = .ok (.goto 4, 3) := by decide +kernel
theorem dJ9_min_7cf53_9 : decode cJ9_min_7cf53 9 = .ok (.iload_n 1, 1) := by decide +kernel
theorem dJ9_min_7cf53_10 : decode cJ9_min_7cf53 10 = .ok (.ireturn, 1) := by decide +kernel
