set_option maxRecDepth 20000 in
theorem ggL_edits_X4_size : GoodIn wsL_edits wsX4_size := goodIn_r _ [5, 6, 7, 8, 9, 10, 11, 12, 214, 215, 216, 217, 218, 219, 220, 221, 222] (by decide +kernel) (by decide +kernel)
set_option maxRecDepth 20000 in
theorem gL_edits_X4_size : GoodIn wsL_edits (wsV RL 9 RX4 yX4_size wsX4_size) := goodIn_app (goodIn_of _ (by decide +kernel)) ggL_edits_X4_size
set_option maxRecDepth 20000 in
theorem ggL_edits_L_low : GoodIn wsL_edits wsL_low := goodIn_r _ [16, 17] (by decide +kernel) (by decide +kernel)
set_option maxRecDepth 20000 in
theorem gL_edits_L_low : GoodIn wsL_edits (va_wsS RL 97 yL_low wsL_low) := goodIn_app (goodIn_of _ (by decide +kernel)) ggL_edits_L_low
set_option maxRecDepth 20000 in
theorem ggL_edits_X4_node : GoodIn wsL_edits wsX4_node := goodIn_r _ [21, 6, 22, 23, 24, 10, 25, 12, 26, 27, 28, 29, 30, 31, 32, 4, 33, 34, 35, 36, 37, 38, 39, 40, 41, 42, 43, 44, 45, 46, 47, 48, 49, 50, 51, 52, 53, 54, 55, 56, 57, 58, 59, 60, 61, 62, 63, 64, 65, 66, 67, 68, 69, 70, 71, 72, 73, 74, 75, 76, 77, 78, 79, 80, 81, 82, 83, 84, 85, 86, 87, 88, 89, 214, 215, 216, 217, 218, 219, 220, 221, 222] (by decide +kernel) (by decide +kernel)
set_option maxRecDepth 20000 in
theorem gL_edits_X4_node : GoodIn wsL_edits (wsV RL 15 RX4 yX4_node wsX4_node) := goodIn_app (goodIn_of _ (by decide +kernel)) ggL_edits_X4_node
set_option maxRecDepth 20000 in
theorem ggL_edits_L_print : GoodIn wsL_edits wsL_print := goodIn_r _ [92, 93, 94, 1, 2, 3, 4, 5, 6, 7, 8, 9, 10, 11, 12, 18, 19, 20, 21, 22, 23, 24, 25, 26, 27, 28, 29, 30, 31, 32, 33, 34, 35, 36, 37, 38, 39, 40, 41, 42, 43, 44, 45, 46, 47, 48, 49, 50, 51, 52, 53, 54, 55, 56, 57, 58, 59, 60, 61, 62, 63, 64, 65, 66, 67, 68, 69, 70, 71, 72, 73, 74, 75, 76, 77, 78, 79, 80, 81, 82, 83, 84, 85, 86, 87, 88, 89, 214, 215, 216, 217, 218, 219, 220, 221, 222] (by decide +kernel) (by decide +kernel)
set_option maxRecDepth 20000 in
theorem gL_edits_L_print : GoodIn wsL_edits (va_wsS RL 78 yL_print wsL_print) := goodIn_app (goodIn_of _ (by decide +kernel)) ggL_edits_L_print
set_option maxRecDepth 20000 in
theorem ggL_edits_X4_insert : GoodIn wsL_edits wsX4_insert := goodIn_r _ [98, 99, 100, 101, 4, 102, 6, 103, 22, 23, 24, 10, 25, 12, 43, 44, 45, 46, 47, 48, 49, 50, 38, 27, 28, 29, 30, 31, 32, 33, 104, 105, 106, 7, 8, 9, 11, 107, 108, 109, 110, 111, 112, 113, 114, 115, 116, 117, 118, 119, 120, 121, 122, 123, 124, 125, 86, 87, 88, 89, 126, 127, 128, 129, 130, 131, 132, 133, 134, 135, 136, 137, 138, 139, 140, 141, 142, 143, 144, 145, 146, 147, 214, 215, 216, 217, 218, 219, 220, 221, 222, 223, 224, 225, 226, 227] (by decide +kernel) (by decide +kernel)
set_option maxRecDepth 20000 in
theorem gL_edits_X4_insert : GoodIn wsL_edits (wsV RL 100 RX4 yX4_insert wsX4_insert) := goodIn_app (goodIn_of _ (by decide +kernel)) ggL_edits_X4_insert
set_option maxRecDepth 20000 in
theorem ggL_edits_X4_wrap : GoodIn wsL_edits wsX4_wrap := goodIn_r _ [102, 6, 103, 22, 23, 24, 10, 25, 12, 43, 44, 45, 46, 47, 48, 49, 50, 38, 27, 28, 29, 30, 31, 32, 4, 33, 104, 105, 106, 7, 8, 9, 11, 107, 108, 109, 110, 111, 112, 113, 114, 115, 116, 117, 118, 119, 120, 121, 122, 123, 124, 125, 86, 87, 88, 89, 126, 127, 128, 129, 130, 131, 132, 133, 134, 135, 136, 137, 138, 139, 140, 141, 142, 143, 144, 145, 146, 147, 214, 215, 216, 217, 218, 219, 220, 221, 222, 223, 224, 225, 226, 227] (by decide +kernel) (by decide +kernel)
set_option maxRecDepth 20000 in
theorem gL_edits_X4_wrap : GoodIn wsL_edits (wsV RL 104 RX4 yX4_wrap wsX4_wrap) := goodIn_app (goodIn_of _ (by decide +kernel)) ggL_edits_X4_wrap
set_option maxRecDepth 20000 in
theorem ggL_edits_X4_remove : GoodIn wsL_edits wsX4_remove := goodIn_r _ [152, 6, 103, 22, 23, 24, 10, 25, 12, 107, 108, 109, 110, 111, 112, 113, 114, 115, 116, 117, 118, 119, 120, 121, 8, 9, 11, 122, 4, 123, 124, 27, 28, 29, 30, 31, 32, 33, 125, 86, 87, 88, 89, 153, 154, 155, 156, 47, 48, 49, 50, 38, 134, 135, 136, 137, 138, 139, 140, 141, 142, 157, 158, 159, 160, 161, 162, 163, 7, 214, 215, 216, 217, 218, 219, 220, 221, 222, 223, 224, 225, 226, 227] (by decide +kernel) (by decide +kernel)
set_option maxRecDepth 20000 in
theorem gL_edits_X4_remove : GoodIn wsL_edits (wsV RL 108 RX4 yX4_remove wsX4_remove) := goodIn_app (goodIn_of _ (by decide +kernel)) ggL_edits_X4_remove
set_option maxRecDepth 20000 in
theorem ggL_edits_X4_cut : GoodIn wsL_edits wsX4_cut := goodIn_r _ [167, 6, 103, 22, 23, 24, 10, 25, 12, 107, 108, 109, 110, 111, 112, 113, 114, 115, 116, 117, 118, 119, 120, 121, 8, 9, 11, 122, 4, 123, 124, 27, 28, 29, 30, 31, 32, 33, 125, 86, 87, 88, 89, 51, 52, 53, 54, 47, 48, 49, 50, 38, 168, 158, 159, 160, 161, 162, 163, 138, 139, 140, 141, 142, 7, 214, 215, 216, 217, 218, 219, 220, 221, 222, 223, 224, 225, 226, 227] (by decide +kernel) (by decide +kernel)
set_option maxRecDepth 20000 in
theorem gL_edits_X4_cut : GoodIn wsL_edits (wsV RL 111 RX4 yX4_cut wsX4_cut) := goodIn_app (goodIn_of _ (by decide +kernel)) ggL_edits_X4_cut
set_option maxRecDepth 20000 in
theorem ggL_edits_X4_move : GoodIn wsL_edits wsX4_move := goodIn_r _ [172, 6, 103, 22, 23, 24, 10, 25, 12, 173, 48, 49, 50, 38, 27, 28, 29, 30, 31, 32, 4, 33, 43, 44, 45, 46, 47, 34, 35, 36, 37, 39, 40, 41, 42, 107, 108, 109, 110, 111, 112, 113, 114, 115, 116, 117, 118, 119, 120, 121, 8, 9, 11, 122, 123, 124, 125, 86, 87, 88, 89, 174, 175, 176, 177, 80, 52, 53, 54, 178, 179, 180, 181, 182, 183, 138, 157, 158, 159, 160, 161, 162, 163, 139, 140, 141, 142, 130, 131, 132, 133, 143, 144, 145, 146, 147, 184, 185, 186, 187, 214, 215, 216, 217, 218, 219, 220, 221, 222, 223, 224, 225, 226, 227] (by decide +kernel) (by decide +kernel)
set_option maxRecDepth 20000 in
theorem gL_edits_X4_move : GoodIn wsL_edits (wsV RL 114 RX4 yX4_move wsX4_move) := goodIn_app (goodIn_of _ (by decide +kernel)) ggL_edits_X4_move
set_option maxRecDepth 20000 in
theorem ggL_edits_X4_setLabel : GoodIn wsL_edits wsX4_setLabel := goodIn_r _ [191, 6, 103, 22, 23, 24, 10, 25, 12, 104, 105, 4, 106, 85, 86, 87, 88, 89, 32, 33, 107, 108, 109, 110, 111, 112, 113, 114, 115, 116, 117, 118, 119, 120, 121, 8, 9, 11, 122, 123, 124, 27, 28, 29, 30, 31, 125, 26, 192, 140, 141, 142, 214, 215, 216, 217, 218, 219, 220, 221, 222, 223, 224, 225, 226, 227] (by decide +kernel) (by decide +kernel)
set_option maxRecDepth 20000 in
theorem gL_edits_X4_setLabel : GoodIn wsL_edits (wsV RL 117 RX4 yX4_setLabel wsX4_setLabel) := goodIn_app (goodIn_of _ (by decide +kernel)) ggL_edits_X4_setLabel
set_option maxRecDepth 20000 in
theorem ggL_edits_X4_undo : GoodIn wsL_edits wsX4_undo := goodIn_r _ [196, 103, 6, 197, 198, 199, 110, 200, 116, 201, 202, 203, 204, 112, 205, 162, 119, 163, 113, 114, 115, 32, 4, 33, 206, 207, 208, 10, 209, 12, 210, 211, 212, 213, 139, 140, 141, 142, 30, 89, 122, 123, 214, 215, 216, 217, 223, 224, 225, 226, 227, 218, 219, 220, 221, 222] (by decide +kernel) (by decide +kernel)
set_option maxRecDepth 20000 in
theorem gL_edits_X4_undo : GoodIn wsL_edits (wsV RL 94 RX4 yX4_undo wsX4_undo) := goodIn_app (goodIn_of _ (by decide +kernel)) ggL_edits_X4_undo
theorem dL_edits_0 : decode cL_edits 0 = .ok (.aload_n 0, 1) := by decide +kernel
theorem dL_edits_1 : decode cL_edits 1 = .ok (.invokevirtual 9, 3) := by decide +kernel
theorem dL_edits_4 : decode cL_edits 4 = .ok (.istore 5, 2) := by decide +kernel
theorem dL_edits_6 : decode cL_edits 6 = .ok (.iload_n 2, 1) := by decide +kernel
theorem dL_edits_7 : decode cL_edits 7 = .ok (.iconst 4, 1) := by decide +kernel
theorem dL_edits_8 : decode cL_edits 8 = .ok (.ishr, 1) := by decide +kernel
theorem dL_edits_9 : decode cL_edits 9 = .ok (.iload 5, 2) := by decide +kernel
theorem dL_edits_11 : decode cL_edits 11 = .ok (.invokestatic 97, 3) := by decide +kernel
theorem dL_edits_14 : decode cL_edits 14 = .ok (.istore 6, 2) := by decide +kernel
theorem dL_edits_16 : decode cL_edits 16 = .ok (.iload_n 2, 1) := by decide +kernel
theorem dL_edits_17 : decode cL_edits 17 = .ok (.bipush 11, 2) := by decide +kernel
theorem dL_edits_19 : decode cL_edits 19 = .ok (.ishr, 1) := by decide +kernel
theorem dL_edits_20 : decode cL_edits 20 = .ok (.iload 5, 2) := by decide +kernel
theorem dL_edits_22 : decode cL_edits 22 = .ok (.invokestatic 97, 3) := by decide +kernel
theorem dL_edits_25 : decode cL_edits 25 = .ok (.istore 7, 2) := by decide +kernel
theorem dL_edits_27 : decode cL_edits 27 = .ok (.bipush 97, 2) := by decide +kernel
theorem dL_edits_29 : decode cL_edits 29 = .ok (.iload_n 3, 1) := by decide +kernel
theorem dL_edits_30 : decode cL_edits 30 = .ok (.iconst 5, 1) := by decide +kernel
theorem dL_edits_31 : decode cL_edits 31 = .ok (.invokestatic 97, 3) := by decide +kernel
theorem dL_edits_34 : decode cL_edits 34 = .ok (.iadd, 1) := by decide +kernel
theorem dL_edits_35 : decode cL_edits 35 = .ok (.i2c, 1) := by decide +kernel
theorem dL_edits_36 : decode cL_edits 36 = .ok (.istore 8, 2) := by decide +kernel
theorem dL_edits_38 : decode cL_edits 38 = .ok (.aload_n 0, 1) := by decide +kernel
theorem dL_edits_39 : decode cL_edits 39 = .ok (.iload 6, 2) := by decide +kernel
theorem dL_edits_41 : decode cL_edits 41 = .ok (.iconst 2, 1) := by decide +kernel
theorem dL_edits_42 : decode cL_edits 42 = .ok (.invokevirtual 15, 3) := by decide +kernel
theorem dL_edits_45 : decode cL_edits 45 = .ok (.istore 9, 2) := by decide +kernel
theorem dL_edits_47 : decode cL_edits 47 = .ok (.aload_n 0, 1) := by decide +kernel
theorem dL_edits_48 : decode cL_edits 48 = .ok (.invokestatic 78, 3) := by decide +kernel
theorem dL_edits_51 : decode cL_edits 51 = .ok (.lstore 10, 2) := by decide +kernel
theorem dL_edits_53 : decode cL_edits 53 = .ok (.iload_n 1, 1) := by decide +kernel
theorem dL_edits_54 : decode cL_edits 54 = .ok (.iconst 2, 1) := by decide +kernel
theorem dL_edits_55 : decode cL_edits 55 = .ok (.if_icmp .ge 135, 3) := by decide +kernel
theorem dL_edits_58 : decode cL_edits 58 = .ok (.iload_n 3, 1) := by decide +kernel
theorem dL_edits_59 : decode cL_edits 59 = .ok (.iconst 4, 1) := by decide +kernel
theorem dL_edits_60 : decode cL_edits 60 = .ok (.ishr, 1) := by decide +kernel
theorem dL_edits_61 : decode cL_edits 61 = .ok (.iload 9, 2) := by decide +kernel
theorem dL_edits_63 : decode cL_edits 63 = .ok (.iconst 1, 1) := by decide +kernel
theorem dL_edits_64 : decode cL_edits 64 = .ok (.iadd, 1) := by decide +kernel
theorem dL_edits_65 : decode cL_edits 65 = .ok (.invokestatic 97, 3) := by decide +kernel
theorem dL_edits_68 : decode cL_edits 68 = .ok (.istore 13, 2) := by decide +kernel
theorem dL_edits_70 : decode cL_edits 70 = .ok (.aload_n 0, 1) := by decide +kernel
theorem dL_edits_71 : decode cL_edits 71 = .ok (.iload 6, 2) := by decide +kernel
theorem dL_edits_73 : decode cL_edits 73 = .ok (.iload 13, 2) := by decide +kernel
theorem dL_edits_75 : decode cL_edits 75 = .ok (.iload 8, 2) := by decide +kernel
theorem dL_edits_77 : decode cL_edits 77 = .ok (.invokevirtual 100, 3) := by decide +kernel
theorem dL_edits_80 : decode cL_edits 80 = .ok (.istore 12, 2) := by decide +kernel
theorem dL_edits_82 : decode cL_edits 82 = .ok (.iload 5, 2) := by decide +kernel
theorem dL_edits_84 : decode cL_edits 84 = .ok (.bipush 100, 2) := by decide +kernel
theorem dL_edits_86 : decode cL_edits 86 = .ok (.if_icmp .ne 13, 3) := by decide +kernel
theorem dL_edits_89 : decode cL_edits 89 = .ok (.iload 12, 2) := by decide +kernel
theorem dL_edits_91 : decode cL_edits 91 = .ok (.bipush (-4), 2) := by decide +kernel
theorem dL_edits_93 : decode cL_edits 93 = .ok (.if_icmp .eq 94, 3) := by decide +kernel
theorem dL_edits_96 : decode cL_edits 96 = .ok (.goto 89, 3) := by decide +kernel
theorem dL_edits_99 : decode cL_edits 99 = .ok (.aload_n 0, 1) := by decide +kernel
theorem dL_edits_100 : decode cL_edits 100 = .ok (.invokevirtual 9, 3) := by decide +kernel
theorem dL_edits_103 : decode cL_edits 103 = .ok (.iload 5, 2) := by decide +kernel
theorem dL_edits_105 : decode cL_edits 105 = .ok (.iconst 1, 1) := by decide +kernel
theorem dL_edits_106 : decode cL_edits 106 = .ok (.iadd, 1) := by decide +kernel
theorem dL_edits_107 : decode cL_edits 107 = .ok (.if_icmp .ne 78, 3) := by decide +kernel
theorem dL_edits_110 : decode cL_edits 110 = .ok (.aload_n 0, 1) := by decide +kernel
theorem dL_edits_111 : decode cL_edits 111 = .ok (.iload 12, 2) := by decide +kernel
theorem dL_edits_113 : decode cL_edits 113 = .ok (.iconst 1, 1) := by decide +kernel
theorem dL_edits_114 : decode cL_edits 114 = .ok (.invokevirtual 15, 3) := by decide +kernel
theorem dL_edits_117 : decode cL_edits 117 = .ok (.iload 6, 2) := by decide +kernel
theorem dL_edits_119 : decode cL_edits 119 = .ok (.if_icmp .ne 66, 3) := by decide +kernel
theorem dL_edits_122 : decode cL_edits 122 = .ok (.aload_n 0, 1) := by decide +kernel
theorem dL_edits_123 : decode cL_edits 123 = .ok (.iload 12, 2) := by decide +kernel
theorem dL_edits_125 : decode cL_edits 125 = .ok (.iconst 5, 1) := by decide +kernel
theorem dL_edits_126 : decode cL_edits 126 = .ok (.invokevirtual 15, 3) := by decide +kernel
theorem dL_edits_129 : decode cL_edits 129 = .ok (.iload 13, 2) := by decide +kernel
theorem dL_edits_131 : decode cL_edits 131 = .ok (.if_icmp .ne 54, 3) := by decide +kernel
theorem dL_edits_134 : decode cL_edits 134 = .ok (.aload_n 0, 1) := by decide +kernel
theorem dL_edits_135 : decode cL_edits 135 = .ok (.iload 12, 2) := by decide +kernel
theorem dL_edits_137 : decode cL_edits 137 = .ok (.iconst 2, 1) := by decide +kernel
theorem dL_edits_138 : decode cL_edits 138 = .ok (.invokevirtual 15, 3) := by decide +kernel
theorem dL_edits_141 : decode cL_edits 141 = .ok (.ifCond .ne 44, 3) := by decide +kernel
theorem dL_edits_144 : decode cL_edits 144 = .ok (.aload_n 0, 1) := by decide +kernel
theorem dL_edits_145 : decode cL_edits 145 = .ok (.iload 12, 2) := by decide +kernel
theorem dL_edits_147 : decode cL_edits 147 = .ok (.bipush 10, 2) := by decide +kernel
theorem dL_edits_149 : decode cL_edits 149 = .ok (.invokevirtual 15, 3) := by decide +kernel
theorem dL_edits_152 : decode cL_edits 152 = .ok (.iload 8, 2) := by decide +kernel
theorem dL_edits_154 : decode cL_edits 154 = .ok (.if_icmp .ne 31, 3) := by decide +kernel
theorem dL_edits_157 : decode cL_edits 157 = .ok (.aload_n 0, 1) := by decide +kernel
theorem dL_edits_158 : decode cL_edits 158 = .ok (.iload 6, 2) := by decide +kernel
theorem dL_edits_160 : decode cL_edits 160 = .ok (.iconst (-1), 1) := by decide +kernel
theorem dL_edits_161 : decode cL_edits 161 = .ok (.iload 8, 2) := by decide +kernel
theorem dL_edits_163 : decode cL_edits 163 = .ok (.invokevirtual 100, 3) := by decide +kernel
theorem dL_edits_166 : decode cL_edits 166 = .ok (.bipush (-2), 2) := by decide +kernel
theorem dL_edits_168 : decode cL_edits 168 = .ok (.if_icmp .ne 17, 3) := by decide +kernel
theorem dL_edits_171 : decode cL_edits 171 = .ok (.aload_n 0, 1) := by decide +kernel
theorem dL_edits_172 : decode cL_edits 172 = .ok (.iload 6, 2) := by decide +kernel
theorem dL_edits_174 : decode cL_edits 174 = .ok (.iconst 0, 1) := by decide +kernel
theorem dL_edits_175 : decode cL_edits 175 = .ok (.bipush 123, 2) := by decide +kernel
theorem dL_edits_177 : decode cL_edits 177 = .ok (.invokevirtual 100, 3) := by decide +kernel
theorem dL_edits_180 : decode cL_edits 180 = .ok (.bipush (-2), 2) := by decide +kernel
theorem dL_edits_182 : decode cL_edits 182 = .ok (.if_icmp .eq 5, 3) := by decide +kernel
theorem dL_edits_185 : decode cL_edits 185 = .ok (.iconst (-1), 1) := by decide +kernel
theorem dL_edits_186 : decode cL_edits 186 = .ok (.ireturn, 1) := by decide +kernel
theorem dL_edits_187 : decode cL_edits 187 = .ok (.goto 582, 3) := by decide +kernel
theorem dL_edits_190 : decode cL_edits 190 = .ok (.iload_n 1, 1) := by decide +kernel
theorem dL_edits_191 : decode cL_edits 191 = .ok (.iconst 2, 1) := by decide +kernel
theorem dL_edits_192 : decode cL_edits 192 = .ok (.if_icmp .ne 147, 3) := by decide +kernel
theorem dL_edits_195 : decode cL_edits 195 = .ok (.iload_n 3, 1) := by decide +kernel
theorem dL_edits_196 : decode cL_edits 196 = .ok (.iconst 4, 1) := by decide +kernel
theorem dL_edits_197 : decode cL_edits 197 = .ok (.ishr, 1) := by decide +kernel
theorem dL_edits_198 : decode cL_edits 198 = .ok (.iload 9, 2) := by decide +kernel
theorem dL_edits_200 : decode cL_edits 200 = .ok (.iconst 1, 1) := by decide +kernel
theorem dL_edits_201 : decode cL_edits 201 = .ok (.iadd, 1) := by decide +kernel
theorem dL_edits_202 : decode cL_edits 202 = .ok (.invokestatic 97, 3) := by decide +kernel
theorem dL_edits_205 : decode cL_edits 205 = .ok (.istore 13, 2) := by decide +kernel
theorem dL_edits_207 : decode cL_edits 207 = .ok (.iload_n 3, 1) := by decide +kernel
theorem dL_edits_208 : decode cL_edits 208 = .ok (.bipush 9, 2) := by decide +kernel
theorem dL_edits_210 : decode cL_edits 210 = .ok (.ishr, 1) := by decide +kernel
theorem dL_edits_211 : decode cL_edits 211 = .ok (.iload 9, 2) := by decide +kernel
theorem dL_edits_213 : decode cL_edits 213 = .ok (.iload 13, 2) := by decide +kernel
theorem dL_edits_215 : decode cL_edits 215 = .ok (.isub, 1) := by decide +kernel
theorem dL_edits_216 : decode cL_edits 216 = .ok (.iconst 1, 1) := by decide +kernel
theorem dL_edits_217 : decode cL_edits 217 = .ok (.iadd, 1) := by decide +kernel
theorem dL_edits_218 : decode cL_edits 218 = .ok (.invokestatic 97, 3) := by decide +kernel
theorem dL_edits_221 : decode cL_edits 221 = .ok (.istore 14, 2) := by decide +kernel
theorem dL_edits_223 : decode cL_edits 223 = .ok (.aload_n 0, 1) := by decide +kernel
theorem dL_edits_224 : decode cL_edits 224 = .ok (.iload 6, 2) := by decide +kernel
theorem dL_edits_226 : decode cL_edits 226 = .ok (.iload 13, 2) := by decide +kernel
theorem dL_edits_228 : decode cL_edits 228 = .ok (.iload 14, 2) := by decide +kernel
theorem dL_edits_230 : decode cL_edits 230 = .ok (.iload 8, 2) := by decide +kernel
theorem dL_edits_232 : decode cL_edits 232 = .ok (.invokevirtual 104, 3) := by decide +kernel
theorem dL_edits_235 : decode cL_edits 235 = .ok (.istore 12, 2) := by decide +kernel
theorem dL_edits_237 : decode cL_edits 237 = .ok (.iload 5, 2) := by decide +kernel
theorem dL_edits_239 : decode cL_edits 239 = .ok (.bipush 100, 2) := by decide +kernel
theorem dL_edits_241 : decode cL_edits 241 = .ok (.if_icmp .ne 13, 3) := by decide +kernel
theorem dL_edits_244 : decode cL_edits 244 = .ok (.iload 12, 2) := by decide +kernel
theorem dL_edits_246 : decode cL_edits 246 = .ok (.bipush (-4), 2) := by decide +kernel
theorem dL_edits_248 : decode cL_edits 248 = .ok (.if_icmp .eq 88, 3) := by decide +kernel
theorem dL_edits_251 : decode cL_edits 251 = .ok (.goto 83, 3) := by decide +kernel
theorem dL_edits_254 : decode cL_edits 254 = .ok (.aload_n 0, 1) := by decide +kernel
theorem dL_edits_255 : decode cL_edits 255 = .ok (.invokevirtual 9, 3) := by decide +kernel
theorem dL_edits_258 : decode cL_edits 258 = .ok (.iload 5, 2) := by decide +kernel
theorem dL_edits_260 : decode cL_edits 260 = .ok (.iconst 1, 1) := by decide +kernel
theorem dL_edits_261 : decode cL_edits 261 = .ok (.iadd, 1) := by decide +kernel
theorem dL_edits_262 : decode cL_edits 262 = .ok (.if_icmp .ne 72, 3) := by decide +kernel
theorem dL_edits_265 : decode cL_edits 265 = .ok (.aload_n 0, 1) := by decide +kernel
theorem dL_edits_266 : decode cL_edits 266 = .ok (.iload 12, 2) := by decide +kernel
theorem dL_edits_268 : decode cL_edits 268 = .ok (.iconst 1, 1) := by decide +kernel
theorem dL_edits_269 : decode cL_edits 269 = .ok (.invokevirtual 15, 3) := by decide +kernel
theorem dL_edits_272 : decode cL_edits 272 = .ok (.iload 6, 2) := by decide +kernel
theorem dL_edits_274 : decode cL_edits 274 = .ok (.if_icmp .ne 60, 3) := by decide +kernel
theorem dL_edits_277 : decode cL_edits 277 = .ok (.aload_n 0, 1) := by decide +kernel
theorem dL_edits_278 : decode cL_edits 278 = .ok (.iload 12, 2) := by decide +kernel
theorem dL_edits_280 : decode cL_edits 280 = .ok (.iconst 2, 1) := by decide +kernel
theorem dL_edits_281 : decode cL_edits 281 = .ok (.invokevirtual 15, 3) := by decide +kernel
theorem dL_edits_284 : decode cL_edits 284 = .ok (.iload 14, 2) := by decide +kernel
theorem dL_edits_286 : decode cL_edits 286 = .ok (.if_icmp .ne 48, 3) := by decide +kernel
theorem dL_edits_289 : decode cL_edits 289 = .ok (.aload_n 0, 1) := by decide +kernel
theorem dL_edits_290 : decode cL_edits 290 = .ok (.iload 12, 2) := by decide +kernel
theorem dL_edits_292 : decode cL_edits 292 = .ok (.iconst 5, 1) := by decide +kernel
theorem dL_edits_293 : decode cL_edits 293 = .ok (.invokevirtual 15, 3) := by decide +kernel
theorem dL_edits_296 : decode cL_edits 296 = .ok (.iload 13, 2) := by decide +kernel
theorem dL_edits_298 : decode cL_edits 298 = .ok (.if_icmp .ne 36, 3) := by decide +kernel
theorem dL_edits_301 : decode cL_edits 301 = .ok (.aload_n 0, 1) := by decide +kernel
theorem dL_edits_302 : decode cL_edits 302 = .ok (.iload 6, 2) := by decide +kernel
theorem dL_edits_304 : decode cL_edits 304 = .ok (.iconst 2, 1) := by decide +kernel
theorem dL_edits_305 : decode cL_edits 305 = .ok (.invokevirtual 15, 3) := by decide +kernel
theorem dL_edits_308 : decode cL_edits 308 = .ok (.iload 9, 2) := by decide +kernel
theorem dL_edits_310 : decode cL_edits 310 = .ok (.iload 14, 2) := by decide +kernel
theorem dL_edits_312 : decode cL_edits 312 = .ok (.isub, 1) := by decide +kernel
theorem dL_edits_313 : decode cL_edits 313 = .ok (.iconst 1, 1) := by decide +kernel
theorem dL_edits_314 : decode cL_edits 314 = .ok (.iadd, 1) := by decide +kernel
theorem dL_edits_315 : decode cL_edits 315 = .ok (.if_icmp .ne 19, 3) := by decide +kernel
theorem dL_edits_318 : decode cL_edits 318 = .ok (.aload_n 0, 1) := by decide +kernel
theorem dL_edits_319 : decode cL_edits 319 = .ok (.iload 6, 2) := by decide +kernel
theorem dL_edits_321 : decode cL_edits 321 = .ok (.iconst 0, 1) := by decide +kernel
theorem dL_edits_322 : decode cL_edits 322 = .ok (.bipush 101, 2) := by decide +kernel
theorem dL_edits_324 : decode cL_edits 324 = .ok (.iload 8, 2) := by decide +kernel
theorem dL_edits_326 : decode cL_edits 326 = .ok (.invokevirtual 104, 3) := by decide +kernel
theorem dL_edits_329 : decode cL_edits 329 = .ok (.bipush (-2), 2) := by decide +kernel
theorem dL_edits_331 : decode cL_edits 331 = .ok (.if_icmp .eq 5, 3) := by decide +kernel
theorem dL_edits_334 : decode cL_edits 334 = .ok (.iconst (-1), 1) := by decide +kernel
theorem dL_edits_335 : decode cL_edits 335 = .ok (.ireturn, 1) := by decide +kernel
theorem dL_edits_336 : decode cL_edits 336 = .ok (.goto 433, 3) := by decide +kernel
theorem dL_edits_339 : decode cL_edits 339 = .ok (.iload_n 1, 1) := by decide +kernel
theorem dL_edits_340 : decode cL_edits 340 = .ok (.iconst 3, 1) := by decide +kernel
theorem dL_edits_341 : decode cL_edits 341 = .ok (.if_icmp .ne 95, 3) := by decide +kernel
theorem dL_edits_344 : decode cL_edits 344 = .ok (.aload_n 0, 1) := by decide +kernel
theorem dL_edits_345 : decode cL_edits 345 = .ok (.iload 6, 2) := by decide +kernel
theorem dL_edits_347 : decode cL_edits 347 = .ok (.iconst 1, 1) := by decide +kernel
theorem dL_edits_348 : decode cL_edits 348 = .ok (.invokevirtual 15, 3) := by decide +kernel
theorem dL_edits_351 : decode cL_edits 351 = .ok (.istore 13, 2) := by decide +kernel
theorem dL_edits_353 : decode cL_edits 353 = .ok (.iload 6, 2) := by decide +kernel
theorem dL_edits_355 : decode cL_edits 355 = .ok (.ifCond .ne 7, 3) := by decide +kernel
theorem dL_edits_358 : decode cL_edits 358 = .ok (.iconst 0, 1) := by decide +kernel
theorem dL_edits_359 : decode cL_edits 359 = .ok (.goto 10, 3) := by decide +kernel
theorem dL_edits_362 : decode cL_edits 362 = .ok (.aload_n 0, 1) := by decide +kernel
theorem dL_edits_363 : decode cL_edits 363 = .ok (.iload 13, 2) := by decide +kernel
theorem dL_edits_365 : decode cL_edits 365 = .ok (.iconst 2, 1) := by decide +kernel
theorem dL_edits_366 : decode cL_edits 366 = .ok (.invokevirtual 15, 3) := by decide +kernel
theorem dL_edits_369 : decode cL_edits 369 = .ok (.istore 14, 2) := by decide +kernel
theorem dL_edits_371 : decode cL_edits 371 = .ok (.aload_n 0, 1) := by decide +kernel
theorem dL_edits_372 : decode cL_edits 372 = .ok (.iload 6, 2) := by decide +kernel
theorem dL_edits_374 : decode cL_edits 374 = .ok (.invokevirtual 108, 3) := by decide +kernel
theorem dL_edits_377 : decode cL_edits 377 = .ok (.istore 12, 2) := by decide +kernel
theorem dL_edits_379 : decode cL_edits 379 = .ok (.iload 6, 2) := by decide +kernel
theorem dL_edits_381 : decode cL_edits 381 = .ok (.ifCond .ne 13, 3) := by decide +kernel
theorem dL_edits_384 : decode cL_edits 384 = .ok (.iload 12, 2) := by decide +kernel
theorem dL_edits_386 : decode cL_edits 386 = .ok (.bipush (-3), 2) := by decide +kernel
theorem dL_edits_388 : decode cL_edits 388 = .ok (.if_icmp .eq 45, 3) := by decide +kernel
theorem dL_edits_391 : decode cL_edits 391 = .ok (.goto 40, 3) := by decide +kernel
theorem dL_edits_394 : decode cL_edits 394 = .ok (.iload 12, 2) := by decide +kernel
theorem dL_edits_396 : decode cL_edits 396 = .ok (.iload 5, 2) := by decide +kernel
theorem dL_edits_398 : decode cL_edits 398 = .ok (.iconst 1, 1) := by decide +kernel
theorem dL_edits_399 : decode cL_edits 399 = .ok (.isub, 1) := by decide +kernel
theorem dL_edits_400 : decode cL_edits 400 = .ok (.if_icmp .ne 31, 3) := by decide +kernel
theorem dL_edits_403 : decode cL_edits 403 = .ok (.aload_n 0, 1) := by decide +kernel
theorem dL_edits_404 : decode cL_edits 404 = .ok (.invokevirtual 9, 3) := by decide +kernel
theorem dL_edits_407 : decode cL_edits 407 = .ok (.iload 5, 2) := by decide +kernel
theorem dL_edits_409 : decode cL_edits 409 = .ok (.iconst 1, 1) := by decide +kernel
theorem dL_edits_410 : decode cL_edits 410 = .ok (.isub, 1) := by decide +kernel
theorem dL_edits_411 : decode cL_edits 411 = .ok (.if_icmp .ne 20, 3) := by decide +kernel
theorem dL_edits_414 : decode cL_edits 414 = .ok (.aload_n 0, 1) := by decide +kernel
theorem dL_edits_415 : decode cL_edits 415 = .ok (.iload 13, 2) := by decide +kernel
theorem dL_edits_417 : decode cL_edits 417 = .ok (.iconst 2, 1) := by decide +kernel
theorem dL_edits_418 : decode cL_edits 418 = .ok (.invokevirtual 15, 3) := by decide +kernel
theorem dL_edits_421 : decode cL_edits 421 = .ok (.iload 14, 2) := by decide +kernel
theorem dL_edits_423 : decode cL_edits 423 = .ok (.iconst 1, 1) := by decide +kernel
theorem dL_edits_424 : decode cL_edits 424 = .ok (.isub, 1) := by decide +kernel
theorem dL_edits_425 : decode cL_edits 425 = .ok (.iload 9, 2) := by decide +kernel
theorem dL_edits_427 : decode cL_edits 427 = .ok (.iadd, 1) := by decide +kernel
theorem dL_edits_428 : decode cL_edits 428 = .ok (.if_icmp .eq 5, 3) := by decide +kernel
theorem dL_edits_431 : decode cL_edits 431 = .ok (.iconst (-1), 1) := by decide +kernel
theorem dL_edits_432 : decode cL_edits 432 = .ok (.ireturn, 1) := by decide +kernel
theorem dL_edits_433 : decode cL_edits 433 = .ok (.goto 336, 3) := by decide +kernel
theorem dL_edits_436 : decode cL_edits 436 = .ok (.iload_n 1, 1) := by decide +kernel
theorem dL_edits_437 : decode cL_edits 437 = .ok (.iconst 4, 1) := by decide +kernel
theorem dL_edits_438 : decode cL_edits 438 = .ok (.if_icmp .ne 59, 3) := by decide +kernel
theorem dL_edits_441 : decode cL_edits 441 = .ok (.aload_n 0, 1) := by decide +kernel
theorem dL_edits_442 : decode cL_edits 442 = .ok (.iload 6, 2) := by decide +kernel
theorem dL_edits_444 : decode cL_edits 444 = .ok (.iconst 3, 1) := by decide +kernel
theorem dL_edits_445 : decode cL_edits 445 = .ok (.invokevirtual 15, 3) := by decide +kernel
theorem dL_edits_448 : decode cL_edits 448 = .ok (.istore 13, 2) := by decide +kernel
theorem dL_edits_450 : decode cL_edits 450 = .ok (.aload_n 0, 1) := by decide +kernel
theorem dL_edits_451 : decode cL_edits 451 = .ok (.iload 6, 2) := by decide +kernel
theorem dL_edits_453 : decode cL_edits 453 = .ok (.invokevirtual 111, 3) := by decide +kernel
theorem dL_edits_456 : decode cL_edits 456 = .ok (.istore 12, 2) := by decide +kernel
theorem dL_edits_458 : decode cL_edits 458 = .ok (.iload 6, 2) := by decide +kernel
theorem dL_edits_460 : decode cL_edits 460 = .ok (.ifCond .ne 13, 3) := by decide +kernel
theorem dL_edits_463 : decode cL_edits 463 = .ok (.iload 12, 2) := by decide +kernel
theorem dL_edits_465 : decode cL_edits 465 = .ok (.bipush (-3), 2) := by decide +kernel
theorem dL_edits_467 : decode cL_edits 467 = .ok (.if_icmp .eq 27, 3) := by decide +kernel
theorem dL_edits_470 : decode cL_edits 470 = .ok (.goto 22, 3) := by decide +kernel
theorem dL_edits_473 : decode cL_edits 473 = .ok (.iload 12, 2) := by decide +kernel
theorem dL_edits_475 : decode cL_edits 475 = .ok (.iload 5, 2) := by decide +kernel
theorem dL_edits_477 : decode cL_edits 477 = .ok (.iload 13, 2) := by decide +kernel
theorem dL_edits_479 : decode cL_edits 479 = .ok (.isub, 1) := by decide +kernel
theorem dL_edits_480 : decode cL_edits 480 = .ok (.if_icmp .ne 12, 3) := by decide +kernel
theorem dL_edits_483 : decode cL_edits 483 = .ok (.aload_n 0, 1) := by decide +kernel
theorem dL_edits_484 : decode cL_edits 484 = .ok (.invokevirtual 9, 3) := by decide +kernel
theorem dL_edits_487 : decode cL_edits 487 = .ok (.iload 12, 2) := by decide +kernel
theorem dL_edits_489 : decode cL_edits 489 = .ok (.if_icmp .eq 5, 3) := by decide +kernel
theorem dL_edits_492 : decode cL_edits 492 = .ok (.iconst (-1), 1) := by decide +kernel
theorem dL_edits_493 : decode cL_edits 493 = .ok (.ireturn, 1) := by decide +kernel
theorem dL_edits_494 : decode cL_edits 494 = .ok (.goto 275, 3) := by decide +kernel
theorem dL_edits_497 : decode cL_edits 497 = .ok (.iload_n 1, 1) := by decide +kernel
theorem dL_edits_498 : decode cL_edits 498 = .ok (.iconst 5, 1) := by decide +kernel
theorem dL_edits_499 : decode cL_edits 499 = .ok (.if_icmp .ne 207, 3) := by decide +kernel
theorem dL_edits_502 : decode cL_edits 502 = .ok (.iload 7, 2) := by decide +kernel
theorem dL_edits_504 : decode cL_edits 504 = .ok (.iload 6, 2) := by decide +kernel
theorem dL_edits_506 : decode cL_edits 506 = .ok (.if_icmp .lt 22, 3) := by decide +kernel
theorem dL_edits_509 : decode cL_edits 509 = .ok (.iload 7, 2) := by decide +kernel
theorem dL_edits_511 : decode cL_edits 511 = .ok (.iload 6, 2) := by decide +kernel
theorem dL_edits_513 : decode cL_edits 513 = .ok (.aload_n 0, 1) := by decide +kernel
theorem dL_edits_514 : decode cL_edits 514 = .ok (.iload 6, 2) := by decide +kernel
theorem dL_edits_516 : decode cL_edits 516 = .ok (.iconst 3, 1) := by decide +kernel
theorem dL_edits_517 : decode cL_edits 517 = .ok (.invokevirtual 15, 3) := by decide +kernel
theorem dL_edits_520 : decode cL_edits 520 = .ok (.iadd, 1) := by decide +kernel
theorem dL_edits_521 : decode cL_edits 521 = .ok (.if_icmp .ge 7, 3) := by decide +kernel
theorem dL_edits_524 : decode cL_edits 524 = .ok (.iconst 1, 1) := by decide +kernel
theorem dL_edits_525 : decode cL_edits 525 = .ok (.goto 4, 3) := by decide +kernel
theorem dL_edits_528 : decode cL_edits 528 = .ok (.iconst 0, 1) := by decide +kernel
theorem dL_edits_529 : decode cL_edits 529 = .ok (.istore 13, 2) := by decide +kernel
theorem dL_edits_531 : decode cL_edits 531 = .ok (.aload_n 0, 1) := by decide +kernel
theorem dL_edits_532 : decode cL_edits 532 = .ok (.iload 6, 2) := by decide +kernel
theorem dL_edits_534 : decode cL_edits 534 = .ok (.iconst 3, 1) := by decide +kernel
theorem dL_edits_535 : decode cL_edits 535 = .ok (.invokevirtual 15, 3) := by decide +kernel
theorem dL_edits_538 : decode cL_edits 538 = .ok (.istore 14, 2) := by decide +kernel
theorem dL_edits_540 : decode cL_edits 540 = .ok (.aload_n 0, 1) := by decide +kernel
theorem dL_edits_541 : decode cL_edits 541 = .ok (.iload 6, 2) := by decide +kernel
theorem dL_edits_543 : decode cL_edits 543 = .ok (.iconst 4, 1) := by decide +kernel
theorem dL_edits_544 : decode cL_edits 544 = .ok (.invokevirtual 15, 3) := by decide +kernel
theorem dL_edits_547 : decode cL_edits 547 = .ok (.istore 15, 2) := by decide +kernel
theorem dL_edits_549 : decode cL_edits 549 = .ok (.aload_n 0, 1) := by decide +kernel
theorem dL_edits_550 : decode cL_edits 550 = .ok (.iload 7, 2) := by decide +kernel
theorem dL_edits_552 : decode cL_edits 552 = .ok (.iconst 2, 1) := by decide +kernel
theorem dL_edits_553 : decode cL_edits 553 = .ok (.invokevirtual 15, 3) := by decide +kernel
theorem dL_edits_556 : decode cL_edits 556 = .ok (.aload_n 0, 1) := by decide +kernel
theorem dL_edits_557 : decode cL_edits 557 = .ok (.iload 6, 2) := by decide +kernel
theorem dL_edits_559 : decode cL_edits 559 = .ok (.iconst 1, 1) := by decide +kernel
theorem dL_edits_560 : decode cL_edits 560 = .ok (.invokevirtual 15, 3) := by decide +kernel
theorem dL_edits_563 : decode cL_edits 563 = .ok (.iload 7, 2) := by decide +kernel
theorem dL_edits_565 : decode cL_edits 565 = .ok (.if_icmp .ne 7, 3) := by decide +kernel
theorem dL_edits_568 : decode cL_edits 568 = .ok (.iconst 1, 1) := by decide +kernel
theorem dL_edits_569 : decode cL_edits 569 = .ok (.goto 4, 3) := by decide +kernel
theorem dL_edits_572 : decode cL_edits 572 = .ok (.iconst 0, 1) := by decide +kernel
theorem dL_edits_573 : decode cL_edits 573 = .ok (.isub, 1) := by decide +kernel
theorem dL_edits_574 : decode cL_edits 574 = .ok (.istore 16, 2) := by decide +kernel
theorem dL_edits_576 : decode cL_edits 576 = .ok (.iload_n 3, 1) := by decide +kernel
theorem dL_edits_577 : decode cL_edits 577 = .ok (.iload 16, 2) := by decide +kernel
theorem dL_edits_579 : decode cL_edits 579 = .ok (.iconst 1, 1) := by decide +kernel
theorem dL_edits_580 : decode cL_edits 580 = .ok (.iadd, 1) := by decide +kernel
theorem dL_edits_581 : decode cL_edits 581 = .ok (.invokestatic 97, 3) := by decide +kernel
theorem dL_edits_584 : decode cL_edits 584 = .ok (.istore 17, 2) := by decide +kernel
theorem dL_edits_586 : decode cL_edits 586 = .ok (.iload 13, 2) := by decide +kernel
theorem dL_edits_588 : decode cL_edits 588 = .ok (.ifCond .ne 22, 3) := by decide +kernel
theorem dL_edits_591 : decode cL_edits 591 = .ok (.aload_n 0, 1) := by decide +kernel
theorem dL_edits_592 : decode cL_edits 592 = .ok (.iload 6, 2) := by decide +kernel
theorem dL_edits_594 : decode cL_edits 594 = .ok (.iload 7, 2) := by decide +kernel
theorem dL_edits_596 : decode cL_edits 596 = .ok (.iload 16, 2) := by decide +kernel
theorem dL_edits_598 : decode cL_edits 598 = .ok (.iconst 1, 1) := by decide +kernel
theorem dL_edits_599 : decode cL_edits 599 = .ok (.iadd, 1) := by decide +kernel
theorem dL_edits_600 : decode cL_edits 600 = .ok (.invokevirtual 114, 3) := by decide +kernel
theorem dL_edits_603 : decode cL_edits 603 = .ok (.bipush (-2), 2) := by decide +kernel
theorem dL_edits_605 : decode cL_edits 605 = .ok (.if_icmp .eq 5, 3) := by decide +kernel
theorem dL_edits_608 : decode cL_edits 608 = .ok (.iconst (-1), 1) := by decide +kernel
theorem dL_edits_609 : decode cL_edits 609 = .ok (.ireturn, 1) := by decide +kernel
theorem dL_edits_610 : decode cL_edits 610 = .ok (.aload_n 0, 1) := by decide +kernel
theorem dL_edits_611 : decode cL_edits 611 = .ok (.iload 6, 2) := by decide +kernel
theorem dL_edits_613 : decode cL_edits 613 = .ok (.iload 7, 2) := by decide +kernel
theorem dL_edits_615 : decode cL_edits 615 = .ok (.iload 17, 2) := by decide +kernel
theorem dL_edits_617 : decode cL_edits 617 = .ok (.invokevirtual 114, 3) := by decide +kernel
theorem dL_edits_620 : decode cL_edits 620 = .ok (.istore 12, 2) := by decide +kernel
theorem dL_edits_622 : decode cL_edits 622 = .ok (.iload 13, 2) := by decide +kernel
theorem dL_edits_624 : decode cL_edits 624 = .ok (.ifCond .eq 13, 3) := by decide +kernel
theorem dL_edits_627 : decode cL_edits 627 = .ok (.iload 12, 2) := by decide +kernel
theorem dL_edits_629 : decode cL_edits 629 = .ok (.bipush (-3), 2) := by decide +kernel
theorem dL_edits_631 : decode cL_edits 631 = .ok (.if_icmp .eq 72, 3) := by decide +kernel
theorem dL_edits_634 : decode cL_edits 634 = .ok (.goto 67, 3) := by decide +kernel
theorem dL_edits_637 : decode cL_edits 637 = .ok (.aload_n 0, 1) := by decide +kernel
theorem dL_edits_638 : decode cL_edits 638 = .ok (.invokevirtual 9, 3) := by decide +kernel
theorem dL_edits_641 : decode cL_edits 641 = .ok (.iload 5, 2) := by decide +kernel
theorem dL_edits_643 : decode cL_edits 643 = .ok (.if_icmp .ne 58, 3) := by decide +kernel
theorem dL_edits_646 : decode cL_edits 646 = .ok (.aload_n 0, 1) := by decide +kernel
theorem dL_edits_647 : decode cL_edits 647 = .ok (.iload 12, 2) := by decide +kernel
theorem dL_edits_649 : decode cL_edits 649 = .ok (.iconst 3, 1) := by decide +kernel
theorem dL_edits_650 : decode cL_edits 650 = .ok (.invokevirtual 15, 3) := by decide +kernel
theorem dL_edits_653 : decode cL_edits 653 = .ok (.iload 14, 2) := by decide +kernel
theorem dL_edits_655 : decode cL_edits 655 = .ok (.if_icmp .ne 46, 3) := by decide +kernel
theorem dL_edits_658 : decode cL_edits 658 = .ok (.aload_n 0, 1) := by decide +kernel
theorem dL_edits_659 : decode cL_edits 659 = .ok (.iload 12, 2) := by decide +kernel
theorem dL_edits_661 : decode cL_edits 661 = .ok (.iconst 4, 1) := by decide +kernel
theorem dL_edits_662 : decode cL_edits 662 = .ok (.invokevirtual 15, 3) := by decide +kernel
theorem dL_edits_665 : decode cL_edits 665 = .ok (.iload 15, 2) := by decide +kernel
theorem dL_edits_667 : decode cL_edits 667 = .ok (.if_icmp .ne 34, 3) := by decide +kernel
theorem dL_edits_670 : decode cL_edits 670 = .ok (.aload_n 0, 1) := by decide +kernel
theorem dL_edits_671 : decode cL_edits 671 = .ok (.iload 12, 2) := by decide +kernel
theorem dL_edits_673 : decode cL_edits 673 = .ok (.iconst 5, 1) := by decide +kernel
theorem dL_edits_674 : decode cL_edits 674 = .ok (.invokevirtual 15, 3) := by decide +kernel
theorem dL_edits_677 : decode cL_edits 677 = .ok (.iload 17, 2) := by decide +kernel
theorem dL_edits_679 : decode cL_edits 679 = .ok (.if_icmp .ne 22, 3) := by decide +kernel
theorem dL_edits_682 : decode cL_edits 682 = .ok (.aload_n 0, 1) := by decide +kernel
theorem dL_edits_683 : decode cL_edits 683 = .ok (.aload_n 0, 1) := by decide +kernel
theorem dL_edits_684 : decode cL_edits 684 = .ok (.iload 12, 2) := by decide +kernel
theorem dL_edits_686 : decode cL_edits 686 = .ok (.iconst 1, 1) := by decide +kernel
theorem dL_edits_687 : decode cL_edits 687 = .ok (.invokevirtual 15, 3) := by decide +kernel
theorem dL_edits_690 : decode cL_edits 690 = .ok (.iconst 2, 1) := by decide +kernel
theorem dL_edits_691 : decode cL_edits 691 = .ok (.invokevirtual 15, 3) := by decide +kernel
theorem dL_edits_694 : decode cL_edits 694 = .ok (.iload 16, 2) := by decide +kernel
theorem dL_edits_696 : decode cL_edits 696 = .ok (.iconst 1, 1) := by decide +kernel
theorem dL_edits_697 : decode cL_edits 697 = .ok (.iadd, 1) := by decide +kernel
theorem dL_edits_698 : decode cL_edits 698 = .ok (.if_icmp .eq 5, 3) := by decide +kernel
theorem dL_edits_701 : decode cL_edits 701 = .ok (.iconst (-1), 1) := by decide +kernel
theorem dL_edits_702 : decode cL_edits 702 = .ok (.ireturn, 1) := by decide +kernel
theorem dL_edits_703 : decode cL_edits 703 = .ok (.goto 66, 3) := by decide +kernel
theorem dL_edits_706 : decode cL_edits 706 = .ok (.aload_n 0, 1) := by decide +kernel
theorem dL_edits_707 : decode cL_edits 707 = .ok (.iload 6, 2) := by decide +kernel
theorem dL_edits_709 : decode cL_edits 709 = .ok (.bipush 10, 2) := by decide +kernel
theorem dL_edits_711 : decode cL_edits 711 = .ok (.invokevirtual 15, 3) := by decide +kernel
theorem dL_edits_714 : decode cL_edits 714 = .ok (.istore 13, 2) := by decide +kernel
theorem dL_edits_716 : decode cL_edits 716 = .ok (.aload_n 0, 1) := by decide +kernel
theorem dL_edits_717 : decode cL_edits 717 = .ok (.iload 6, 2) := by decide +kernel
theorem dL_edits_719 : decode cL_edits 719 = .ok (.iload 8, 2) := by decide +kernel
theorem dL_edits_721 : decode cL_edits 721 = .ok (.invokevirtual 117, 3) := by decide +kernel
theorem dL_edits_724 : decode cL_edits 724 = .ok (.iload 13, 2) := by decide +kernel
theorem dL_edits_726 : decode cL_edits 726 = .ok (.if_icmp .ne 7, 3) := by decide +kernel
theorem dL_edits_729 : decode cL_edits 729 = .ok (.iconst 0, 1) := by decide +kernel
theorem dL_edits_730 : decode cL_edits 730 = .ok (.goto 4, 3) := by decide +kernel
theorem dL_edits_733 : decode cL_edits 733 = .ok (.iconst (-1), 1) := by decide +kernel
theorem dL_edits_734 : decode cL_edits 734 = .ok (.istore 12, 2) := by decide +kernel
theorem dL_edits_736 : decode cL_edits 736 = .ok (.iload 12, 2) := by decide +kernel
theorem dL_edits_738 : decode cL_edits 738 = .ok (.ifCond .lt 29, 3) := by decide +kernel
theorem dL_edits_741 : decode cL_edits 741 = .ok (.aload_n 0, 1) := by decide +kernel
theorem dL_edits_742 : decode cL_edits 742 = .ok (.iload 6, 2) := by decide +kernel
theorem dL_edits_744 : decode cL_edits 744 = .ok (.bipush 10, 2) := by decide +kernel
theorem dL_edits_746 : decode cL_edits 746 = .ok (.invokevirtual 15, 3) := by decide +kernel
theorem dL_edits_749 : decode cL_edits 749 = .ok (.iload 8, 2) := by decide +kernel
theorem dL_edits_751 : decode cL_edits 751 = .ok (.if_icmp .ne 16, 3) := by decide +kernel
theorem dL_edits_754 : decode cL_edits 754 = .ok (.aload_n 0, 1) := by decide +kernel
theorem dL_edits_755 : decode cL_edits 755 = .ok (.iload 6, 2) := by decide +kernel
theorem dL_edits_757 : decode cL_edits 757 = .ok (.bipush 90, 2) := by decide +kernel
theorem dL_edits_759 : decode cL_edits 759 = .ok (.invokevirtual 117, 3) := by decide +kernel
theorem dL_edits_762 : decode cL_edits 762 = .ok (.bipush (-2), 2) := by decide +kernel
theorem dL_edits_764 : decode cL_edits 764 = .ok (.if_icmp .eq 5, 3) := by decide +kernel
theorem dL_edits_767 : decode cL_edits 767 = .ok (.iconst (-1), 1) := by decide +kernel
theorem dL_edits_768 : decode cL_edits 768 = .ok (.ireturn, 1) := by decide +kernel
theorem dL_edits_769 : decode cL_edits 769 = .ok (.iload 12, 2) := by decide +kernel
theorem dL_edits_771 : decode cL_edits 771 = .ok (.ifCond .ge 20, 3) := by decide +kernel
theorem dL_edits_774 : decode cL_edits 774 = .ok (.aload_n 0, 1) := by decide +kernel
theorem dL_edits_775 : decode cL_edits 775 = .ok (.invokestatic 78, 3) := by decide +kernel
theorem dL_edits_778 : decode cL_edits 778 = .ok (.lload 10, 2) := by decide +kernel
theorem dL_edits_780 : decode cL_edits 780 = .ok (.lcmp, 1) := by decide +kernel
theorem dL_edits_781 : decode cL_edits 781 = .ok (.ifCond .ne 8, 3) := by decide +kernel
theorem dL_edits_784 : decode cL_edits 784 = .ok (.iload 4, 2) := by decide +kernel
theorem dL_edits_786 : decode cL_edits 786 = .ok (.goto 4, 3) := by decide +kernel
theorem dL_edits_789 : decode cL_edits 789 = .ok (.iconst (-1), 1) := by decide +kernel
theorem dL_edits_790 : decode cL_edits 790 = .ok (.ireturn, 1) := by decide +kernel
theorem dL_edits_791 : decode cL_edits 791 = .ok (.iload_n 3, 1) := by decide +kernel
theorem dL_edits_792 : decode cL_edits 792 = .ok (.bipush 20, 2) := by decide +kernel
theorem dL_edits_794 : decode cL_edits 794 = .ok (.ishr, 1) := by decide +kernel
theorem dL_edits_795 : decode cL_edits 795 = .ok (.iconst 3, 1) := by decide +kernel
theorem dL_edits_796 : decode cL_edits 796 = .ok (.iand, 1) := by decide +kernel
theorem dL_edits_797 : decode cL_edits 797 = .ok (.ifCond .ne 45, 3) := by decide +kernel
theorem dL_edits_800 : decode cL_edits 800 = .ok (.aload_n 0, 1) := by decide +kernel
theorem dL_edits_801 : decode cL_edits 801 = .ok (.invokevirtual 94, 3) := by decide +kernel
theorem dL_edits_804 : decode cL_edits 804 = .ok (.istore 13, 2) := by decide +kernel
theorem dL_edits_806 : decode cL_edits 806 = .ok (.iload 13, 2) := by decide +kernel
theorem dL_edits_808 : decode cL_edits 808 = .ok (.iload 4, 2) := by decide +kernel
theorem dL_edits_810 : decode cL_edits 810 = .ok (.bipush 15, 2) := by decide +kernel
theorem dL_edits_812 : decode cL_edits 812 = .ok (.if_icmp .ge 8, 3) := by decide +kernel
theorem dL_edits_815 : decode cL_edits 815 = .ok (.iload 4, 2) := by decide +kernel
theorem dL_edits_817 : decode cL_edits 817 = .ok (.goto 5, 3) := by decide +kernel
theorem dL_edits_820 : decode cL_edits 820 = .ok (.bipush 14, 2) := by decide +kernel
theorem dL_edits_822 : decode cL_edits 822 = .ok (.if_icmp .ne 18, 3) := by decide +kernel
theorem dL_edits_825 : decode cL_edits 825 = .ok (.aload_n 0, 1) := by decide +kernel
theorem dL_edits_826 : decode cL_edits 826 = .ok (.invokestatic 78, 3) := by decide +kernel
theorem dL_edits_829 : decode cL_edits 829 = .ok (.lload 10, 2) := by decide +kernel
theorem dL_edits_831 : decode cL_edits 831 = .ok (.lcmp, 1) := by decide +kernel
theorem dL_edits_832 : decode cL_edits 832 = .ok (.ifCond .ne 8, 3) := by decide +kernel
theorem dL_edits_835 : decode cL_edits 835 = .ok (.iload 13, 2) := by decide +kernel
theorem dL_edits_837 : decode cL_edits 837 = .ok (.goto 4, 3) := by decide +kernel
theorem dL_edits_840 : decode cL_edits 840 = .ok (.iconst (-1), 1) := by decide +kernel
theorem dL_edits_841 : decode cL_edits 841 = .ok (.ireturn, 1) := by decide +kernel
theorem dL_edits_842 : decode cL_edits 842 = .ok (.iload 4, 2) := by decide +kernel
theorem dL_edits_844 : decode cL_edits 844 = .ok (.bipush 15, 2) := by decide +kernel
theorem dL_edits_846 : decode cL_edits 846 = .ok (.if_icmp .ge 10, 3) := by decide +kernel
theorem dL_edits_849 : decode cL_edits 849 = .ok (.iload 4, 2) := by decide +kernel
theorem dL_edits_851 : decode cL_edits 851 = .ok (.iconst 1, 1) := by decide +kernel
theorem dL_edits_852 : decode cL_edits 852 = .ok (.iadd, 1) := by decide +kernel
theorem dL_edits_853 : decode cL_edits 853 = .ok (.goto 5, 3) := by decide +kernel
theorem dL_edits_856 : decode cL_edits 856 = .ok (.bipush 15, 2) := by decide +kernel
theorem dL_edits_858 : decode cL_edits 858 = .ok (.ireturn, 1) := by decide +kernel
