theorem dL_cell_0 : decode cL_cell 0 = .ok (.iload_n 1, 1) := by decide +kernel
theorem dL_cell_1 : decode cL_cell 1 = .ok (.aload_n 0, 1) := by decide +kernel
theorem dL_cell_2 : decode cL_cell 2 = .ok (.arraylength, 1) := by decide +kernel
theorem dL_cell_3 : decode cL_cell 3 = .ok (.if_icmp .ge 9, 3) := by decide +kernel
theorem dL_cell_6 : decode cL_cell 6 = .ok (.aload_n 0, 1) := by decide +kernel
theorem dL_cell_7 : decode cL_cell 7 = .ok (.iload_n 1, 1) := by decide +kernel
theorem dL_cell_8 : decode cL_cell 8 = .ok (.iaload, 1) := by decide +kernel
theorem dL_cell_9 : decode cL_cell 9 = .ok (.goto 11, 3) := by decide +kernel
theorem dL_cell_12 : decode cL_cell 12 = .ok (.ldc 7, 2) := by decide +kernel
theorem dL_cell_14 : decode cL_cell 14 = .ok (.iload_n 1, 1) := by decide +kernel
theorem dL_cell_15 : decode cL_cell 15 = .ok (.imul, 1) := by decide +kernel
theorem dL_cell_16 : decode cL_cell 16 = .ok (.sipush 347, 3) := by decide +kernel
theorem dL_cell_19 : decode cL_cell 19 = .ok (.iadd, 1) := by decide +kernel
theorem dL_cell_20 : decode cL_cell 20 = .ok (.ireturn, 1) := by decide +kernel
theorem dL_low_0 : decode cL_low 0 = .ok (.iload_n 0, 1) := by decide +kernel
theorem dL_low_1 : decode cL_low 1 = .ok (.ldc 8, 2) := by decide +kernel
theorem dL_low_3 : decode cL_low 3 = .ok (.iand, 1) := by decide +kernel
theorem dL_low_4 : decode cL_low 4 = .ok (.iload_n 1, 1) := by decide +kernel
theorem dL_low_5 : decode cL_low 5 = .ok (.irem, 1) := by decide +kernel
theorem dL_low_6 : decode cL_low 6 = .ok (.ireturn, 1) := by decide +kernel
set_option maxRecDepth 20000 in
theorem ggL_node_X4_size : GoodIn wsL_node wsX4_size := goodIn_r _ [5, 6, 7, 8, 9, 10, 11, 12, 157, 158, 159, 160, 161, 162, 163, 164, 165] (by decide +kernel) (by decide +kernel)
set_option maxRecDepth 20000 in
theorem gL_node_X4_size : GoodIn wsL_node (wsV RL 9 RX4 yX4_size wsX4_size) := goodIn_app (goodIn_of _ (by decide +kernel)) ggL_node_X4_size
set_option maxRecDepth 20000 in
theorem ggL_node_X4_node : GoodIn wsL_node wsX4_node := goodIn_r _ [16, 6, 17, 18, 19, 10, 20, 12, 21, 22, 23, 24, 25, 26, 27, 4, 28, 29, 30, 31, 32, 33, 34, 35, 36, 37, 38, 39, 40, 41, 42, 43, 44, 45, 46, 47, 48, 49, 50, 51, 52, 53, 54, 55, 56, 57, 58, 59, 60, 61, 62, 63, 64, 65, 66, 67, 68, 69, 70, 71, 72, 73, 74, 75, 76, 77, 78, 79, 80, 81, 82, 83, 84, 157, 158, 159, 160, 161, 162, 163, 164, 165] (by decide +kernel) (by decide +kernel)
set_option maxRecDepth 20000 in
theorem gL_node_X4_node : GoodIn wsL_node (wsV RL 15 RX4 yX4_node wsX4_node) := goodIn_app (goodIn_of _ (by decide +kernel)) ggL_node_X4_node
set_option maxRecDepth 20000 in
theorem ggL_node_X4_child : GoodIn wsL_node wsX4_child := goodIn_r _ [88, 6, 17, 18, 19, 10, 20, 12, 38, 39, 40, 41, 42, 43, 44, 45, 33, 22, 23, 24, 25, 26, 27, 4, 28, 89, 90, 91, 92, 157, 158, 159, 160, 161, 162, 163, 164, 165] (by decide +kernel) (by decide +kernel)
set_option maxRecDepth 20000 in
theorem gL_node_X4_child : GoodIn wsL_node (wsV RL 19 RX4 yX4_child wsX4_child) := goodIn_app (goodIn_of _ (by decide +kernel)) ggL_node_X4_child
set_option maxRecDepth 20000 in
theorem ggL_node_X4_neighbour : GoodIn wsL_node wsX4_neighbour := goodIn_r _ [96, 6, 17, 18, 19, 10, 20, 12, 97, 98, 99, 100, 42, 43, 44, 45, 33, 22, 23, 24, 25, 26, 27, 4, 28, 101, 102, 103, 104, 105, 55, 56, 57, 106, 107, 108, 109, 34, 35, 36, 37, 110, 111, 112, 113, 114, 115, 116, 117, 118, 62, 63, 64, 65, 119, 120, 121, 122, 75, 47, 48, 49, 157, 158, 159, 160, 161, 162, 163, 164, 165] (by decide +kernel) (by decide +kernel)
set_option maxRecDepth 20000 in
theorem gL_node_X4_neighbour : GoodIn wsL_node (wsV RL 22 RX4 yX4_neighbour wsX4_neighbour) := goodIn_app (goodIn_of _ (by decide +kernel)) ggL_node_X4_neighbour
set_option maxRecDepth 20000 in
theorem ggL_node_X4_bracket : GoodIn wsL_node wsX4_bracket := goodIn_r _ [126, 6, 127, 128, 129, 10, 130, 12, 131, 132, 133, 134, 135, 136, 137, 138, 74, 67, 68, 69, 33, 22, 23, 24, 25, 26, 18, 19, 20, 27, 4, 28, 139, 140, 141, 142, 34, 35, 36, 37, 66, 143, 70, 71, 72, 73, 75, 47, 48, 49, 42, 43, 44, 45, 29, 30, 31, 32, 157, 158, 159, 160, 161, 162, 163, 164, 165] (by decide +kernel) (by decide +kernel)
set_option maxRecDepth 20000 in
theorem gL_node_X4_bracket : GoodIn wsL_node (wsV RL 25 RX4 yX4_bracket wsX4_bracket) := goodIn_app (goodIn_of _ (by decide +kernel)) ggL_node_X4_bracket
set_option maxRecDepth 20000 in
theorem ggL_node_X4_deepest : GoodIn wsL_node wsX4_deepest := goodIn_r _ [147, 6, 17, 18, 19, 10, 20, 12, 50, 51, 52, 53, 42, 43, 44, 45, 33, 22, 23, 24, 25, 26, 27, 4, 28, 157, 158, 159, 160, 161, 162, 163, 164, 165] (by decide +kernel) (by decide +kernel)
set_option maxRecDepth 20000 in
theorem gL_node_X4_deepest : GoodIn wsL_node (wsV RL 28 RX4 yX4_deepest wsX4_deepest) := goodIn_app (goodIn_of _ (by decide +kernel)) ggL_node_X4_deepest
set_option maxRecDepth 20000 in
theorem ggL_node_X4_byPostorder : GoodIn wsL_node wsX4_byPostorder := goodIn_r _ [151, 6, 7, 8, 9, 10, 11, 12, 152, 153, 154, 155, 156, 77, 78, 79, 42, 43, 44, 45, 33, 22, 23, 24, 25, 26, 18, 19, 20, 27, 4, 28, 157, 158, 159, 160, 161, 162, 163, 164, 165] (by decide +kernel) (by decide +kernel)
set_option maxRecDepth 20000 in
theorem gL_node_X4_byPostorder : GoodIn wsL_node (wsV RL 32 RX4 yX4_byPostorder wsX4_byPostorder) := goodIn_app (goodIn_of _ (by decide +kernel)) ggL_node_X4_byPostorder
theorem dL_node_0 : decode cL_node 0 = .ok (.aload_n 0, 1) := by decide +kernel
theorem dL_node_1 : decode cL_node 1 = .ok (.invokevirtual 9, 3) := by decide +kernel
theorem dL_node_4 : decode cL_node 4 = .ok (.istore_n 2, 1) := by decide +kernel
theorem dL_node_5 : decode cL_node 5 = .ok (.aload_n 0, 1) := by decide +kernel
theorem dL_node_6 : decode cL_node 6 = .ok (.iload_n 1, 1) := by decide +kernel
theorem dL_node_7 : decode cL_node 7 = .ok (.iconst 0, 1) := by decide +kernel
theorem dL_node_8 : decode cL_node 8 = .ok (.invokevirtual 15, 3) := by decide +kernel
theorem dL_node_11 : decode cL_node 11 = .ok (.istore_n 3, 1) := by decide +kernel
theorem dL_node_12 : decode cL_node 12 = .ok (.aload_n 0, 1) := by decide +kernel
theorem dL_node_13 : decode cL_node 13 = .ok (.iload_n 1, 1) := by decide +kernel
theorem dL_node_14 : decode cL_node 14 = .ok (.iconst 1, 1) := by decide +kernel
theorem dL_node_15 : decode cL_node 15 = .ok (.invokevirtual 15, 3) := by decide +kernel
theorem dL_node_18 : decode cL_node 18 = .ok (.istore 4, 2) := by decide +kernel
theorem dL_node_20 : decode cL_node 20 = .ok (.aload_n 0, 1) := by decide +kernel
theorem dL_node_21 : decode cL_node 21 = .ok (.iload_n 1, 1) := by decide +kernel
theorem dL_node_22 : decode cL_node 22 = .ok (.iconst 2, 1) := by decide +kernel
theorem dL_node_23 : decode cL_node 23 = .ok (.invokevirtual 15, 3) := by decide +kernel
theorem dL_node_26 : decode cL_node 26 = .ok (.istore 5, 2) := by decide +kernel
theorem dL_node_28 : decode cL_node 28 = .ok (.aload_n 0, 1) := by decide +kernel
theorem dL_node_29 : decode cL_node 29 = .ok (.iload_n 1, 1) := by decide +kernel
theorem dL_node_30 : decode cL_node 30 = .ok (.iconst 3, 1) := by decide +kernel
theorem dL_node_31 : decode cL_node 31 = .ok (.invokevirtual 15, 3) := by decide +kernel
theorem dL_node_34 : decode cL_node 34 = .ok (.istore 6, 2) := by decide +kernel
theorem dL_node_36 : decode cL_node 36 = .ok (.aload_n 0, 1) := by decide +kernel
theorem dL_node_37 : decode cL_node 37 = .ok (.iload_n 1, 1) := by decide +kernel
theorem dL_node_38 : decode cL_node 38 = .ok (.iconst 4, 1) := by decide +kernel
theorem dL_node_39 : decode cL_node 39 = .ok (.invokevirtual 15, 3) := by decide +kernel
theorem dL_node_42 : decode cL_node 42 = .ok (.istore 7, 2) := by decide +kernel
theorem dL_node_44 : decode cL_node 44 = .ok (.aload_n 0, 1) := by decide +kernel
theorem dL_node_45 : decode cL_node 45 = .ok (.iload_n 1, 1) := by decide +kernel
theorem dL_node_46 : decode cL_node 46 = .ok (.bipush 7, 2) := by decide +kernel
theorem dL_node_48 : decode cL_node 48 = .ok (.invokevirtual 15, 3) := by decide +kernel
theorem dL_node_51 : decode cL_node 51 = .ok (.istore 8, 2) := by decide +kernel
theorem dL_node_53 : decode cL_node 53 = .ok (.aload_n 0, 1) := by decide +kernel
theorem dL_node_54 : decode cL_node 54 = .ok (.iload_n 1, 1) := by decide +kernel
theorem dL_node_55 : decode cL_node 55 = .ok (.bipush 8, 2) := by decide +kernel
theorem dL_node_57 : decode cL_node 57 = .ok (.invokevirtual 15, 3) := by decide +kernel
theorem dL_node_60 : decode cL_node 60 = .ok (.istore 9, 2) := by decide +kernel
theorem dL_node_62 : decode cL_node 62 = .ok (.iconst 1, 1) := by decide +kernel
theorem dL_node_63 : decode cL_node 63 = .ok (.istore 10, 2) := by decide +kernel
theorem dL_node_65 : decode cL_node 65 = .ok (.iload 5, 2) := by decide +kernel
theorem dL_node_67 : decode cL_node 67 = .ok (.ifCond .ne 7, 3) := by decide +kernel
theorem dL_node_70 : decode cL_node 70 = .ok (.iconst 1, 1) := by decide +kernel
theorem dL_node_71 : decode cL_node 71 = .ok (.goto 4, 3) := by decide +kernel
theorem dL_node_74 : decode cL_node 74 = .ok (.iconst 0, 1) := by decide +kernel
theorem dL_node_75 : decode cL_node 75 = .ok (.istore 11, 2) := by decide +kernel
theorem dL_node_77 : decode cL_node 77 = .ok (.iconst 0, 1) := by decide +kernel
theorem dL_node_78 : decode cL_node 78 = .ok (.istore 12, 2) := by decide +kernel
theorem dL_node_80 : decode cL_node 80 = .ok (.iload_n 1, 1) := by decide +kernel
theorem dL_node_81 : decode cL_node 81 = .ok (.iconst 1, 1) := by decide +kernel
theorem dL_node_82 : decode cL_node 82 = .ok (.iadd, 1) := by decide +kernel
theorem dL_node_83 : decode cL_node 83 = .ok (.istore 13, 2) := by decide +kernel
theorem dL_node_85 : decode cL_node 85 = .ok (.bipush (-5), 2) := by decide +kernel
theorem dL_node_87 : decode cL_node 87 = .ok (.istore 14, 2) := by decide +kernel
theorem dL_node_89 : decode cL_node 89 = .ok (.iconst 0, 1) := by decide +kernel
theorem dL_node_90 : decode cL_node 90 = .ok (.istore 15, 2) := by decide +kernel
theorem dL_node_92 : decode cL_node 92 = .ok (.iconst 0, 1) := by decide +kernel
theorem dL_node_93 : decode cL_node 93 = .ok (.istore 16, 2) := by decide +kernel
theorem dL_node_95 : decode cL_node 95 = .ok (.iload 16, 2) := by decide +kernel
theorem dL_node_97 : decode cL_node 97 = .ok (.iload 5, 2) := by decide +kernel
theorem dL_node_99 : decode cL_node 99 = .ok (.if_icmp .ge 223, 3) := by decide +kernel
theorem dL_node_102 : decode cL_node 102 = .ok (.aload_n 0, 1) := by decide +kernel
theorem dL_node_103 : decode cL_node 103 = .ok (.iload_n 1, 1) := by decide +kernel
theorem dL_node_104 : decode cL_node 104 = .ok (.iload 16, 2) := by decide +kernel
theorem dL_node_106 : decode cL_node 106 = .ok (.invokevirtual 19, 3) := by decide +kernel
theorem dL_node_109 : decode cL_node 109 = .ok (.istore 17, 2) := by decide +kernel
theorem dL_node_111 : decode cL_node 111 = .ok (.iload 17, 2) := by decide +kernel
theorem dL_node_113 : decode cL_node 113 = .ok (.iload 13, 2) := by decide +kernel
theorem dL_node_115 : decode cL_node 115 = .ok (.if_icmp .ne 101, 3) := by decide +kernel
theorem dL_node_118 : decode cL_node 118 = .ok (.aload_n 0, 1) := by decide +kernel
theorem dL_node_119 : decode cL_node 119 = .ok (.iload 17, 2) := by decide +kernel
theorem dL_node_121 : decode cL_node 121 = .ok (.iconst 1, 1) := by decide +kernel
theorem dL_node_122 : decode cL_node 122 = .ok (.invokevirtual 15, 3) := by decide +kernel
theorem dL_node_125 : decode cL_node 125 = .ok (.iload_n 1, 1) := by decide +kernel
theorem dL_node_126 : decode cL_node 126 = .ok (.if_icmp .ne 90, 3) := by decide +kernel
theorem dL_node_129 : decode cL_node 129 = .ok (.aload_n 0, 1) := by decide +kernel
theorem dL_node_130 : decode cL_node 130 = .ok (.iload 17, 2) := by decide +kernel
theorem dL_node_132 : decode cL_node 132 = .ok (.iconst 0, 1) := by decide +kernel
theorem dL_node_133 : decode cL_node 133 = .ok (.invokevirtual 15, 3) := by decide +kernel
theorem dL_node_136 : decode cL_node 136 = .ok (.iload_n 3, 1) := by decide +kernel
theorem dL_node_137 : decode cL_node 137 = .ok (.iconst 1, 1) := by decide +kernel
theorem dL_node_138 : decode cL_node 138 = .ok (.iadd, 1) := by decide +kernel
theorem dL_node_139 : decode cL_node 139 = .ok (.if_icmp .ne 77, 3) := by decide +kernel
theorem dL_node_142 : decode cL_node 142 = .ok (.aload_n 0, 1) := by decide +kernel
theorem dL_node_143 : decode cL_node 143 = .ok (.iload 17, 2) := by decide +kernel
theorem dL_node_145 : decode cL_node 145 = .ok (.iconst 5, 1) := by decide +kernel
theorem dL_node_146 : decode cL_node 146 = .ok (.invokevirtual 15, 3) := by decide +kernel
theorem dL_node_149 : decode cL_node 149 = .ok (.iload 16, 2) := by decide +kernel
theorem dL_node_151 : decode cL_node 151 = .ok (.if_icmp .ne 65, 3) := by decide +kernel
theorem dL_node_154 : decode cL_node 154 = .ok (.aload_n 0, 1) := by decide +kernel
theorem dL_node_155 : decode cL_node 155 = .ok (.iload 17, 2) := by decide +kernel
theorem dL_node_157 : decode cL_node 157 = .ok (.iconst 1, 1) := by decide +kernel
theorem dL_node_158 : decode cL_node 158 = .ok (.invokevirtual 22, 3) := by decide +kernel
theorem dL_node_161 : decode cL_node 161 = .ok (.iload 16, 2) := by decide +kernel
theorem dL_node_163 : decode cL_node 163 = .ok (.ifCond .ne 8, 3) := by decide +kernel
theorem dL_node_166 : decode cL_node 166 = .ok (.bipush (-5), 2) := by decide +kernel
theorem dL_node_168 : decode cL_node 168 = .ok (.goto 12, 3) := by decide +kernel
theorem dL_node_171 : decode cL_node 171 = .ok (.aload_n 0, 1) := by decide +kernel
theorem dL_node_172 : decode cL_node 172 = .ok (.iload_n 1, 1) := by decide +kernel
theorem dL_node_173 : decode cL_node 173 = .ok (.iload 16, 2) := by decide +kernel
theorem dL_node_175 : decode cL_node 175 = .ok (.iconst 1, 1) := by decide +kernel
theorem dL_node_176 : decode cL_node 176 = .ok (.isub, 1) := by decide +kernel
theorem dL_node_177 : decode cL_node 177 = .ok (.invokevirtual 19, 3) := by decide +kernel
theorem dL_node_180 : decode cL_node 180 = .ok (.if_icmp .ne 36, 3) := by decide +kernel
theorem dL_node_183 : decode cL_node 183 = .ok (.aload_n 0, 1) := by decide +kernel
theorem dL_node_184 : decode cL_node 184 = .ok (.iload 17, 2) := by decide +kernel
theorem dL_node_186 : decode cL_node 186 = .ok (.iconst 0, 1) := by decide +kernel
theorem dL_node_187 : decode cL_node 187 = .ok (.invokevirtual 22, 3) := by decide +kernel
theorem dL_node_190 : decode cL_node 190 = .ok (.iload 16, 2) := by decide +kernel
theorem dL_node_192 : decode cL_node 192 = .ok (.iconst 1, 1) := by decide +kernel
theorem dL_node_193 : decode cL_node 193 = .ok (.iadd, 1) := by decide +kernel
theorem dL_node_194 : decode cL_node 194 = .ok (.iload 5, 2) := by decide +kernel
theorem dL_node_196 : decode cL_node 196 = .ok (.if_icmp .ne 8, 3) := by decide +kernel
theorem dL_node_199 : decode cL_node 199 = .ok (.bipush (-5), 2) := by decide +kernel
theorem dL_node_201 : decode cL_node 201 = .ok (.goto 12, 3) := by decide +kernel
theorem dL_node_204 : decode cL_node 204 = .ok (.aload_n 0, 1) := by decide +kernel
theorem dL_node_205 : decode cL_node 205 = .ok (.iload_n 1, 1) := by decide +kernel
theorem dL_node_206 : decode cL_node 206 = .ok (.iload 16, 2) := by decide +kernel
theorem dL_node_208 : decode cL_node 208 = .ok (.iconst 1, 1) := by decide +kernel
theorem dL_node_209 : decode cL_node 209 = .ok (.iadd, 1) := by decide +kernel
theorem dL_node_210 : decode cL_node 210 = .ok (.invokevirtual 19, 3) := by decide +kernel
theorem dL_node_213 : decode cL_node 213 = .ok (.if_icmp .eq 5, 3) := by decide +kernel
theorem dL_node_216 : decode cL_node 216 = .ok (.iconst 0, 1) := by decide +kernel
theorem dL_node_217 : decode cL_node 217 = .ok (.ireturn, 1) := by decide +kernel
theorem dL_node_218 : decode cL_node 218 = .ok (.aload_n 0, 1) := by decide +kernel
theorem dL_node_219 : decode cL_node 219 = .ok (.iload 17, 2) := by decide +kernel
theorem dL_node_221 : decode cL_node 221 = .ok (.iconst 3, 1) := by decide +kernel
theorem dL_node_222 : decode cL_node 222 = .ok (.invokevirtual 15, 3) := by decide +kernel
theorem dL_node_225 : decode cL_node 225 = .ok (.istore 18, 2) := by decide +kernel
theorem dL_node_227 : decode cL_node 227 = .ok (.iload 18, 2) := by decide +kernel
theorem dL_node_229 : decode cL_node 229 = .ok (.iload 15, 2) := by decide +kernel
theorem dL_node_231 : decode cL_node 231 = .ok (.if_icmp .le 8, 3) := by decide +kernel
theorem dL_node_234 : decode cL_node 234 = .ok (.iload 17, 2) := by decide +kernel
theorem dL_node_236 : decode cL_node 236 = .ok (.goto 5, 3) := by decide +kernel
theorem dL_node_239 : decode cL_node 239 = .ok (.iload 14, 2) := by decide +kernel
theorem dL_node_241 : decode cL_node 241 = .ok (.istore 14, 2) := by decide +kernel
theorem dL_node_243 : decode cL_node 243 = .ok (.iload 18, 2) := by decide +kernel
theorem dL_node_245 : decode cL_node 245 = .ok (.iload 15, 2) := by decide +kernel
theorem dL_node_247 : decode cL_node 247 = .ok (.if_icmp .le 8, 3) := by decide +kernel
theorem dL_node_250 : decode cL_node 250 = .ok (.iload 18, 2) := by decide +kernel
theorem dL_node_252 : decode cL_node 252 = .ok (.goto 5, 3) := by decide +kernel
theorem dL_node_255 : decode cL_node 255 = .ok (.iload 15, 2) := by decide +kernel
theorem dL_node_257 : decode cL_node 257 = .ok (.istore 15, 2) := by decide +kernel
theorem dL_node_259 : decode cL_node 259 = .ok (.aload_n 0, 1) := by decide +kernel
theorem dL_node_260 : decode cL_node 260 = .ok (.iload 17, 2) := by decide +kernel
theorem dL_node_262 : decode cL_node 262 = .ok (.iconst 4, 1) := by decide +kernel
theorem dL_node_263 : decode cL_node 263 = .ok (.invokevirtual 15, 3) := by decide +kernel
theorem dL_node_266 : decode cL_node 266 = .ok (.iconst 1, 1) := by decide +kernel
theorem dL_node_267 : decode cL_node 267 = .ok (.iadd, 1) := by decide +kernel
theorem dL_node_268 : decode cL_node 268 = .ok (.iload 12, 2) := by decide +kernel
theorem dL_node_270 : decode cL_node 270 = .ok (.if_icmp .le 15, 3) := by decide +kernel
theorem dL_node_273 : decode cL_node 273 = .ok (.aload_n 0, 1) := by decide +kernel
theorem dL_node_274 : decode cL_node 274 = .ok (.iload 17, 2) := by decide +kernel
theorem dL_node_276 : decode cL_node 276 = .ok (.iconst 4, 1) := by decide +kernel
theorem dL_node_277 : decode cL_node 277 = .ok (.invokevirtual 15, 3) := by decide +kernel
theorem dL_node_280 : decode cL_node 280 = .ok (.iconst 1, 1) := by decide +kernel
theorem dL_node_281 : decode cL_node 281 = .ok (.iadd, 1) := by decide +kernel
theorem dL_node_282 : decode cL_node 282 = .ok (.goto 5, 3) := by decide +kernel
theorem dL_node_285 : decode cL_node 285 = .ok (.iload 12, 2) := by decide +kernel
theorem dL_node_287 : decode cL_node 287 = .ok (.istore 12, 2) := by decide +kernel
theorem dL_node_289 : decode cL_node 289 = .ok (.iload 11, 2) := by decide +kernel
theorem dL_node_291 : decode cL_node 291 = .ok (.aload_n 0, 1) := by decide +kernel
theorem dL_node_292 : decode cL_node 292 = .ok (.iload 17, 2) := by decide +kernel
theorem dL_node_294 : decode cL_node 294 = .ok (.bipush 6, 2) := by decide +kernel
theorem dL_node_296 : decode cL_node 296 = .ok (.invokevirtual 15, 3) := by decide +kernel
theorem dL_node_299 : decode cL_node 299 = .ok (.iadd, 1) := by decide +kernel
theorem dL_node_300 : decode cL_node 300 = .ok (.istore 11, 2) := by decide +kernel
theorem dL_node_302 : decode cL_node 302 = .ok (.iload 10, 2) := by decide +kernel
theorem dL_node_304 : decode cL_node 304 = .ok (.iload 18, 2) := by decide +kernel
theorem dL_node_306 : decode cL_node 306 = .ok (.iadd, 1) := by decide +kernel
theorem dL_node_307 : decode cL_node 307 = .ok (.istore 10, 2) := by decide +kernel
theorem dL_node_309 : decode cL_node 309 = .ok (.iload 13, 2) := by decide +kernel
theorem dL_node_311 : decode cL_node 311 = .ok (.iload 18, 2) := by decide +kernel
theorem dL_node_313 : decode cL_node 313 = .ok (.iadd, 1) := by decide +kernel
theorem dL_node_314 : decode cL_node 314 = .ok (.istore 13, 2) := by decide +kernel
theorem dL_node_316 : decode cL_node 316 = .ok (.iinc 16 1, 3) := by decide +kernel
theorem dL_node_319 : decode cL_node 319 = .ok (.goto (-224), 3) := by decide +kernel
theorem dL_node_322 : decode cL_node 322 = .ok (.iload 10, 2) := by decide +kernel
theorem dL_node_324 : decode cL_node 324 = .ok (.iload 6, 2) := by decide +kernel
theorem dL_node_326 : decode cL_node 326 = .ok (.if_icmp .ne 60, 3) := by decide +kernel
theorem dL_node_329 : decode cL_node 329 = .ok (.iload 11, 2) := by decide +kernel
theorem dL_node_331 : decode cL_node 331 = .ok (.aload_n 0, 1) := by decide +kernel
theorem dL_node_332 : decode cL_node 332 = .ok (.iload_n 1, 1) := by decide +kernel
theorem dL_node_333 : decode cL_node 333 = .ok (.bipush 6, 2) := by decide +kernel
theorem dL_node_335 : decode cL_node 335 = .ok (.invokevirtual 15, 3) := by decide +kernel
theorem dL_node_338 : decode cL_node 338 = .ok (.if_icmp .ne 48, 3) := by decide +kernel
theorem dL_node_341 : decode cL_node 341 = .ok (.iload 12, 2) := by decide +kernel
theorem dL_node_343 : decode cL_node 343 = .ok (.iload 7, 2) := by decide +kernel
theorem dL_node_345 : decode cL_node 345 = .ok (.if_icmp .ne 41, 3) := by decide +kernel
theorem dL_node_348 : decode cL_node 348 = .ok (.iload 14, 2) := by decide +kernel
theorem dL_node_350 : decode cL_node 350 = .ok (.aload_n 0, 1) := by decide +kernel
theorem dL_node_351 : decode cL_node 351 = .ok (.iload_n 1, 1) := by decide +kernel
theorem dL_node_352 : decode cL_node 352 = .ok (.iconst 5, 1) := by decide +kernel
theorem dL_node_353 : decode cL_node 353 = .ok (.invokevirtual 22, 3) := by decide +kernel
theorem dL_node_356 : decode cL_node 356 = .ok (.if_icmp .ne 30, 3) := by decide +kernel
theorem dL_node_359 : decode cL_node 359 = .ok (.aload_n 0, 1) := by decide +kernel
theorem dL_node_360 : decode cL_node 360 = .ok (.iload_n 1, 1) := by decide +kernel
theorem dL_node_361 : decode cL_node 361 = .ok (.iload 5, 2) := by decide +kernel
theorem dL_node_363 : decode cL_node 363 = .ok (.invokevirtual 19, 3) := by decide +kernel
theorem dL_node_366 : decode cL_node 366 = .ok (.bipush (-5), 2) := by decide +kernel
theorem dL_node_368 : decode cL_node 368 = .ok (.if_icmp .ne 18, 3) := by decide +kernel
theorem dL_node_371 : decode cL_node 371 = .ok (.aload_n 0, 1) := by decide +kernel
theorem dL_node_372 : decode cL_node 372 = .ok (.iload_n 1, 1) := by decide +kernel
theorem dL_node_373 : decode cL_node 373 = .ok (.iconst (-1), 1) := by decide +kernel
theorem dL_node_374 : decode cL_node 374 = .ok (.invokevirtual 19, 3) := by decide +kernel
theorem dL_node_377 : decode cL_node 377 = .ok (.bipush (-2), 2) := by decide +kernel
theorem dL_node_379 : decode cL_node 379 = .ok (.if_icmp .ne 7, 3) := by decide +kernel
theorem dL_node_382 : decode cL_node 382 = .ok (.iconst 1, 1) := by decide +kernel
theorem dL_node_383 : decode cL_node 383 = .ok (.goto 4, 3) := by decide +kernel
theorem dL_node_386 : decode cL_node 386 = .ok (.iconst 0, 1) := by decide +kernel
theorem dL_node_387 : decode cL_node 387 = .ok (.istore 16, 2) := by decide +kernel
theorem dL_node_389 : decode cL_node 389 = .ok (.iload_n 1, 1) := by decide +kernel
theorem dL_node_390 : decode cL_node 390 = .ok (.ifCond .ne 59, 3) := by decide +kernel
theorem dL_node_393 : decode cL_node 393 = .ok (.iload 4, 2) := by decide +kernel
theorem dL_node_395 : decode cL_node 395 = .ok (.bipush (-5), 2) := by decide +kernel
theorem dL_node_397 : decode cL_node 397 = .ok (.if_icmp .ne 48, 3) := by decide +kernel
theorem dL_node_400 : decode cL_node 400 = .ok (.iload_n 3, 1) := by decide +kernel
theorem dL_node_401 : decode cL_node 401 = .ok (.ifCond .ne 44, 3) := by decide +kernel
theorem dL_node_404 : decode cL_node 404 = .ok (.iload 6, 2) := by decide +kernel
theorem dL_node_406 : decode cL_node 406 = .ok (.iload_n 2, 1) := by decide +kernel
theorem dL_node_407 : decode cL_node 407 = .ok (.if_icmp .ne 38, 3) := by decide +kernel
theorem dL_node_410 : decode cL_node 410 = .ok (.aload_n 0, 1) := by decide +kernel
theorem dL_node_411 : decode cL_node 411 = .ok (.iload_n 1, 1) := by decide +kernel
theorem dL_node_412 : decode cL_node 412 = .ok (.iconst 5, 1) := by decide +kernel
theorem dL_node_413 : decode cL_node 413 = .ok (.invokevirtual 15, 3) := by decide +kernel
theorem dL_node_416 : decode cL_node 416 = .ok (.ifCond .ne 29, 3) := by decide +kernel
theorem dL_node_419 : decode cL_node 419 = .ok (.aload_n 0, 1) := by decide +kernel
theorem dL_node_420 : decode cL_node 420 = .ok (.iload_n 1, 1) := by decide +kernel
theorem dL_node_421 : decode cL_node 421 = .ok (.iconst 0, 1) := by decide +kernel
theorem dL_node_422 : decode cL_node 422 = .ok (.invokevirtual 22, 3) := by decide +kernel
theorem dL_node_425 : decode cL_node 425 = .ok (.bipush (-5), 2) := by decide +kernel
theorem dL_node_427 : decode cL_node 427 = .ok (.if_icmp .ne 18, 3) := by decide +kernel
theorem dL_node_430 : decode cL_node 430 = .ok (.aload_n 0, 1) := by decide +kernel
theorem dL_node_431 : decode cL_node 431 = .ok (.iload_n 1, 1) := by decide +kernel
theorem dL_node_432 : decode cL_node 432 = .ok (.iconst 1, 1) := by decide +kernel
theorem dL_node_433 : decode cL_node 433 = .ok (.invokevirtual 22, 3) := by decide +kernel
theorem dL_node_436 : decode cL_node 436 = .ok (.bipush (-5), 2) := by decide +kernel
theorem dL_node_438 : decode cL_node 438 = .ok (.if_icmp .ne 7, 3) := by decide +kernel
theorem dL_node_441 : decode cL_node 441 = .ok (.iconst 1, 1) := by decide +kernel
theorem dL_node_442 : decode cL_node 442 = .ok (.goto 23, 3) := by decide +kernel
theorem dL_node_445 : decode cL_node 445 = .ok (.iconst 0, 1) := by decide +kernel
theorem dL_node_446 : decode cL_node 446 = .ok (.goto 19, 3) := by decide +kernel
theorem dL_node_449 : decode cL_node 449 = .ok (.iload 4, 2) := by decide +kernel
theorem dL_node_451 : decode cL_node 451 = .ok (.ifCond .lt 13, 3) := by decide +kernel
theorem dL_node_454 : decode cL_node 454 = .ok (.iload 4, 2) := by decide +kernel
theorem dL_node_456 : decode cL_node 456 = .ok (.iload_n 1, 1) := by decide +kernel
theorem dL_node_457 : decode cL_node 457 = .ok (.if_icmp .ge 7, 3) := by decide +kernel
theorem dL_node_460 : decode cL_node 460 = .ok (.iconst 1, 1) := by decide +kernel
theorem dL_node_461 : decode cL_node 461 = .ok (.goto 4, 3) := by decide +kernel
theorem dL_node_464 : decode cL_node 464 = .ok (.iconst 0, 1) := by decide +kernel
theorem dL_node_465 : decode cL_node 465 = .ok (.istore 17, 2) := by decide +kernel
theorem dL_node_467 : decode cL_node 467 = .ok (.iload 9, 2) := by decide +kernel
theorem dL_node_469 : decode cL_node 469 = .ok (.iload 8, 2) := by decide +kernel
theorem dL_node_471 : decode cL_node 471 = .ok (.isub, 1) := by decide +kernel
theorem dL_node_472 : decode cL_node 472 = .ok (.iconst 2, 1) := by decide +kernel
theorem dL_node_473 : decode cL_node 473 = .ok (.iload 6, 2) := by decide +kernel
theorem dL_node_475 : decode cL_node 475 = .ok (.imul, 1) := by decide +kernel
theorem dL_node_476 : decode cL_node 476 = .ok (.iconst 1, 1) := by decide +kernel
theorem dL_node_477 : decode cL_node 477 = .ok (.isub, 1) := by decide +kernel
theorem dL_node_478 : decode cL_node 478 = .ok (.if_icmp .ne 135, 3) := by decide +kernel
theorem dL_node_481 : decode cL_node 481 = .ok (.iload 8, 2) := by decide +kernel
theorem dL_node_483 : decode cL_node 483 = .ok (.iconst 2, 1) := by decide +kernel
theorem dL_node_484 : decode cL_node 484 = .ok (.iload_n 1, 1) := by decide +kernel
theorem dL_node_485 : decode cL_node 485 = .ok (.imul, 1) := by decide +kernel
theorem dL_node_486 : decode cL_node 486 = .ok (.iload_n 3, 1) := by decide +kernel
theorem dL_node_487 : decode cL_node 487 = .ok (.isub, 1) := by decide +kernel
theorem dL_node_488 : decode cL_node 488 = .ok (.if_icmp .ne 125, 3) := by decide +kernel
theorem dL_node_491 : decode cL_node 491 = .ok (.aload_n 0, 1) := by decide +kernel
theorem dL_node_492 : decode cL_node 492 = .ok (.iload 8, 2) := by decide +kernel
theorem dL_node_494 : decode cL_node 494 = .ok (.iconst 0, 1) := by decide +kernel
theorem dL_node_495 : decode cL_node 495 = .ok (.invokevirtual 25, 3) := by decide +kernel
theorem dL_node_498 : decode cL_node 498 = .ok (.iconst 1, 1) := by decide +kernel
theorem dL_node_499 : decode cL_node 499 = .ok (.if_icmp .ne 114, 3) := by decide +kernel
theorem dL_node_502 : decode cL_node 502 = .ok (.aload_n 0, 1) := by decide +kernel
theorem dL_node_503 : decode cL_node 503 = .ok (.iload 9, 2) := by decide +kernel
theorem dL_node_505 : decode cL_node 505 = .ok (.iconst 0, 1) := by decide +kernel
theorem dL_node_506 : decode cL_node 506 = .ok (.invokevirtual 25, 3) := by decide +kernel
theorem dL_node_509 : decode cL_node 509 = .ok (.ifCond .ne 104, 3) := by decide +kernel
theorem dL_node_512 : decode cL_node 512 = .ok (.aload_n 0, 1) := by decide +kernel
theorem dL_node_513 : decode cL_node 513 = .ok (.iload 8, 2) := by decide +kernel
theorem dL_node_515 : decode cL_node 515 = .ok (.iconst 2, 1) := by decide +kernel
theorem dL_node_516 : decode cL_node 516 = .ok (.invokevirtual 25, 3) := by decide +kernel
theorem dL_node_519 : decode cL_node 519 = .ok (.iload 9, 2) := by decide +kernel
theorem dL_node_521 : decode cL_node 521 = .ok (.if_icmp .ne 92, 3) := by decide +kernel
theorem dL_node_524 : decode cL_node 524 = .ok (.aload_n 0, 1) := by decide +kernel
theorem dL_node_525 : decode cL_node 525 = .ok (.iload 9, 2) := by decide +kernel
theorem dL_node_527 : decode cL_node 527 = .ok (.iconst 2, 1) := by decide +kernel
theorem dL_node_528 : decode cL_node 528 = .ok (.invokevirtual 25, 3) := by decide +kernel
theorem dL_node_531 : decode cL_node 531 = .ok (.iload 8, 2) := by decide +kernel
theorem dL_node_533 : decode cL_node 533 = .ok (.if_icmp .ne 80, 3) := by decide +kernel
theorem dL_node_536 : decode cL_node 536 = .ok (.aload_n 0, 1) := by decide +kernel
theorem dL_node_537 : decode cL_node 537 = .ok (.iload 8, 2) := by decide +kernel
theorem dL_node_539 : decode cL_node 539 = .ok (.iconst 4, 1) := by decide +kernel
theorem dL_node_540 : decode cL_node 540 = .ok (.invokevirtual 25, 3) := by decide +kernel
theorem dL_node_543 : decode cL_node 543 = .ok (.iload_n 1, 1) := by decide +kernel
theorem dL_node_544 : decode cL_node 544 = .ok (.if_icmp .ne 69, 3) := by decide +kernel
theorem dL_node_547 : decode cL_node 547 = .ok (.aload_n 0, 1) := by decide +kernel
theorem dL_node_548 : decode cL_node 548 = .ok (.iload 9, 2) := by decide +kernel
theorem dL_node_550 : decode cL_node 550 = .ok (.iconst 4, 1) := by decide +kernel
theorem dL_node_551 : decode cL_node 551 = .ok (.invokevirtual 25, 3) := by decide +kernel
theorem dL_node_554 : decode cL_node 554 = .ok (.iload_n 1, 1) := by decide +kernel
theorem dL_node_555 : decode cL_node 555 = .ok (.if_icmp .ne 58, 3) := by decide +kernel
theorem dL_node_558 : decode cL_node 558 = .ok (.aload_n 0, 1) := by decide +kernel
theorem dL_node_559 : decode cL_node 559 = .ok (.iload 8, 2) := by decide +kernel
theorem dL_node_561 : decode cL_node 561 = .ok (.iconst 1, 1) := by decide +kernel
theorem dL_node_562 : decode cL_node 562 = .ok (.invokevirtual 25, 3) := by decide +kernel
theorem dL_node_565 : decode cL_node 565 = .ok (.iload_n 3, 1) := by decide +kernel
theorem dL_node_566 : decode cL_node 566 = .ok (.iconst 1, 1) := by decide +kernel
theorem dL_node_567 : decode cL_node 567 = .ok (.iadd, 1) := by decide +kernel
theorem dL_node_568 : decode cL_node 568 = .ok (.if_icmp .ne 45, 3) := by decide +kernel
theorem dL_node_571 : decode cL_node 571 = .ok (.aload_n 0, 1) := by decide +kernel
theorem dL_node_572 : decode cL_node 572 = .ok (.iload 9, 2) := by decide +kernel
theorem dL_node_574 : decode cL_node 574 = .ok (.iconst 1, 1) := by decide +kernel
theorem dL_node_575 : decode cL_node 575 = .ok (.invokevirtual 25, 3) := by decide +kernel
theorem dL_node_578 : decode cL_node 578 = .ok (.iload_n 3, 1) := by decide +kernel
theorem dL_node_579 : decode cL_node 579 = .ok (.if_icmp .ne 34, 3) := by decide +kernel
theorem dL_node_582 : decode cL_node 582 = .ok (.aload_n 0, 1) := by decide +kernel
theorem dL_node_583 : decode cL_node 583 = .ok (.iload 9, 2) := by decide +kernel
theorem dL_node_585 : decode cL_node 585 = .ok (.iconst 3, 1) := by decide +kernel
theorem dL_node_586 : decode cL_node 586 = .ok (.invokevirtual 25, 3) := by decide +kernel
theorem dL_node_589 : decode cL_node 589 = .ok (.iload_n 1, 1) := by decide +kernel
theorem dL_node_590 : decode cL_node 590 = .ok (.ifCond .ne 8, 3) := by decide +kernel
theorem dL_node_593 : decode cL_node 593 = .ok (.bipush (-5), 2) := by decide +kernel
theorem dL_node_595 : decode cL_node 595 = .ok (.goto 11, 3) := by decide +kernel
theorem dL_node_598 : decode cL_node 598 = .ok (.aload_n 0, 1) := by decide +kernel
theorem dL_node_599 : decode cL_node 599 = .ok (.iload 4, 2) := by decide +kernel
theorem dL_node_601 : decode cL_node 601 = .ok (.bipush 7, 2) := by decide +kernel
theorem dL_node_603 : decode cL_node 603 = .ok (.invokevirtual 15, 3) := by decide +kernel
theorem dL_node_606 : decode cL_node 606 = .ok (.if_icmp .ne 7, 3) := by decide +kernel
theorem dL_node_609 : decode cL_node 609 = .ok (.iconst 1, 1) := by decide +kernel
theorem dL_node_610 : decode cL_node 610 = .ok (.goto 4, 3) := by decide +kernel
theorem dL_node_613 : decode cL_node 613 = .ok (.iconst 0, 1) := by decide +kernel
theorem dL_node_614 : decode cL_node 614 = .ok (.istore 18, 2) := by decide +kernel
theorem dL_node_616 : decode cL_node 616 = .ok (.aload_n 0, 1) := by decide +kernel
theorem dL_node_617 : decode cL_node 617 = .ok (.iload_n 1, 1) := by decide +kernel
theorem dL_node_618 : decode cL_node 618 = .ok (.bipush 9, 2) := by decide +kernel
theorem dL_node_620 : decode cL_node 620 = .ok (.invokevirtual 15, 3) := by decide +kernel
theorem dL_node_623 : decode cL_node 623 = .ok (.istore 19, 2) := by decide +kernel
theorem dL_node_625 : decode cL_node 625 = .ok (.aload_n 0, 1) := by decide +kernel
theorem dL_node_626 : decode cL_node 626 = .ok (.iload_n 1, 1) := by decide +kernel
theorem dL_node_627 : decode cL_node 627 = .ok (.invokevirtual 28, 3) := by decide +kernel
theorem dL_node_630 : decode cL_node 630 = .ok (.istore 20, 2) := by decide +kernel
theorem dL_node_632 : decode cL_node 632 = .ok (.iload 20, 2) := by decide +kernel
theorem dL_node_634 : decode cL_node 634 = .ok (.iload_n 1, 1) := by decide +kernel
theorem dL_node_635 : decode cL_node 635 = .ok (.if_icmp .lt 53, 3) := by decide +kernel
theorem dL_node_638 : decode cL_node 638 = .ok (.iload 20, 2) := by decide +kernel
theorem dL_node_640 : decode cL_node 640 = .ok (.iload_n 1, 1) := by decide +kernel
theorem dL_node_641 : decode cL_node 641 = .ok (.iload 6, 2) := by decide +kernel
theorem dL_node_643 : decode cL_node 643 = .ok (.iadd, 1) := by decide +kernel
theorem dL_node_644 : decode cL_node 644 = .ok (.if_icmp .ge 44, 3) := by decide +kernel
theorem dL_node_647 : decode cL_node 647 = .ok (.aload_n 0, 1) := by decide +kernel
theorem dL_node_648 : decode cL_node 648 = .ok (.iload 20, 2) := by decide +kernel
theorem dL_node_650 : decode cL_node 650 = .ok (.iconst 0, 1) := by decide +kernel
theorem dL_node_651 : decode cL_node 651 = .ok (.invokevirtual 15, 3) := by decide +kernel
theorem dL_node_654 : decode cL_node 654 = .ok (.iload_n 3, 1) := by decide +kernel
theorem dL_node_655 : decode cL_node 655 = .ok (.iload 7, 2) := by decide +kernel
theorem dL_node_657 : decode cL_node 657 = .ok (.iadd, 1) := by decide +kernel
theorem dL_node_658 : decode cL_node 658 = .ok (.if_icmp .ne 30, 3) := by decide +kernel
theorem dL_node_661 : decode cL_node 661 = .ok (.iload 19, 2) := by decide +kernel
theorem dL_node_663 : decode cL_node 663 = .ok (.iload_n 1, 1) := by decide +kernel
theorem dL_node_664 : decode cL_node 664 = .ok (.iload 6, 2) := by decide +kernel
theorem dL_node_666 : decode cL_node 666 = .ok (.iadd, 1) := by decide +kernel
theorem dL_node_667 : decode cL_node 667 = .ok (.iconst 1, 1) := by decide +kernel
theorem dL_node_668 : decode cL_node 668 = .ok (.isub, 1) := by decide +kernel
theorem dL_node_669 : decode cL_node 669 = .ok (.iload_n 3, 1) := by decide +kernel
theorem dL_node_670 : decode cL_node 670 = .ok (.isub, 1) := by decide +kernel
theorem dL_node_671 : decode cL_node 671 = .ok (.if_icmp .ne 17, 3) := by decide +kernel
theorem dL_node_674 : decode cL_node 674 = .ok (.aload_n 0, 1) := by decide +kernel
theorem dL_node_675 : decode cL_node 675 = .ok (.iload 19, 2) := by decide +kernel
theorem dL_node_677 : decode cL_node 677 = .ok (.invokevirtual 32, 3) := by decide +kernel
theorem dL_node_680 : decode cL_node 680 = .ok (.iload_n 1, 1) := by decide +kernel
theorem dL_node_681 : decode cL_node 681 = .ok (.if_icmp .ne 7, 3) := by decide +kernel
theorem dL_node_684 : decode cL_node 684 = .ok (.iconst 1, 1) := by decide +kernel
theorem dL_node_685 : decode cL_node 685 = .ok (.goto 4, 3) := by decide +kernel
theorem dL_node_688 : decode cL_node 688 = .ok (.iconst 0, 1) := by decide +kernel
theorem dL_node_689 : decode cL_node 689 = .ok (.istore 21, 2) := by decide +kernel
theorem dL_node_691 : decode cL_node 691 = .ok (.iload 16, 2) := by decide +kernel
theorem dL_node_693 : decode cL_node 693 = .ok (.ifCond .eq 22, 3) := by decide +kernel
theorem dL_node_696 : decode cL_node 696 = .ok (.iload 17, 2) := by decide +kernel
theorem dL_node_698 : decode cL_node 698 = .ok (.ifCond .eq 17, 3) := by decide +kernel
theorem dL_node_701 : decode cL_node 701 = .ok (.iload 18, 2) := by decide +kernel
theorem dL_node_703 : decode cL_node 703 = .ok (.ifCond .eq 12, 3) := by decide +kernel
theorem dL_node_706 : decode cL_node 706 = .ok (.iload 21, 2) := by decide +kernel
theorem dL_node_708 : decode cL_node 708 = .ok (.ifCond .eq 7, 3) := by decide +kernel
theorem dL_node_711 : decode cL_node 711 = .ok (.iconst 1, 1) := by decide +kernel
theorem dL_node_712 : decode cL_node 712 = .ok (.goto 4, 3) := by decide +kernel
theorem dL_node_715 : decode cL_node 715 = .ok (.iconst 0, 1) := by decide +kernel
theorem dL_node_716 : decode cL_node 716 = .ok (.ireturn, 1) := by decide +kernel
set_option maxRecDepth 20000 in
theorem ggL_two_X4_size : GoodIn wsL_two wsX4_size := goodIn_r _ [5, 6, 7, 8, 9, 10, 11, 12, 151, 152, 153, 154, 155, 156, 157, 158, 159] (by decide +kernel) (by decide +kernel)
set_option maxRecDepth 20000 in
theorem gL_two_X4_size : GoodIn wsL_two (wsV RL 9 RX4 yX4_size wsX4_size) := goodIn_app (goodIn_of _ (by decide +kernel)) ggL_two_X4_size
set_option maxRecDepth 20000 in
theorem ggL_two_X4_common : GoodIn wsL_two wsX4_common := goodIn_r _ [16, 6, 17, 18, 19, 10, 20, 12, 21, 22, 23, 24, 25, 26, 27, 28, 29, 30, 31, 32, 33, 34, 35, 36, 37, 38, 4, 39, 40, 41, 42, 43, 151, 152, 153, 154, 155, 156, 157, 158, 159] (by decide +kernel) (by decide +kernel)
set_option maxRecDepth 20000 in
theorem gL_two_X4_common : GoodIn wsL_two (wsV RL 35 RX4 yX4_common wsX4_common) := goodIn_app (goodIn_of _ (by decide +kernel)) ggL_two_X4_common
set_option maxRecDepth 20000 in
theorem ggL_two_X4_node : GoodIn wsL_two wsX4_node := goodIn_r _ [47, 6, 17, 18, 19, 10, 20, 12, 48, 33, 34, 35, 36, 37, 38, 4, 39, 49, 50, 51, 52, 32, 40, 41, 42, 43, 53, 54, 55, 56, 57, 58, 59, 60, 61, 62, 63, 64, 65, 66, 67, 68, 69, 70, 71, 72, 73, 74, 75, 76, 77, 78, 79, 80, 81, 82, 83, 84, 85, 86, 87, 88, 89, 90, 91, 92, 93, 94, 95, 96, 97, 98, 99, 151, 152, 153, 154, 155, 156, 157, 158, 159] (by decide +kernel) (by decide +kernel)
set_option maxRecDepth 20000 in
theorem gL_two_X4_node : GoodIn wsL_two (wsV RL 15 RX4 yX4_node wsX4_node) := goodIn_app (goodIn_of _ (by decide +kernel)) ggL_two_X4_node
set_option maxRecDepth 20000 in
theorem ggL_two_X4_ancestorAt : GoodIn wsL_two wsX4_ancestorAt := goodIn_r _ [103, 6, 17, 18, 19, 10, 20, 12, 48, 33, 34, 35, 36, 37, 38, 4, 39, 104, 41, 42, 43, 32, 151, 152, 153, 154, 155, 156, 157, 158, 159] (by decide +kernel) (by decide +kernel)
set_option maxRecDepth 20000 in
theorem gL_two_X4_ancestorAt : GoodIn wsL_two (wsV RL 38 RX4 yX4_ancestorAt wsX4_ancestorAt) := goodIn_app (goodIn_of _ (by decide +kernel)) ggL_two_X4_ancestorAt
set_option maxRecDepth 20000 in
theorem ggL_two_X4_way : GoodIn wsL_two wsX4_way := goodIn_r _ [108, 6, 17, 18, 19, 10, 20, 12, 21, 22, 23, 24, 25, 26, 27, 28, 29, 30, 31, 32, 33, 34, 35, 36, 37, 38, 4, 39, 40, 41, 42, 43, 48, 104, 151, 152, 153, 154, 155, 156, 157, 158, 159] (by decide +kernel) (by decide +kernel)
set_option maxRecDepth 20000 in
theorem gL_two_X4_way : GoodIn wsL_two (wsV RL 41 RX4 yX4_way wsX4_way) := goodIn_app (goodIn_of _ (by decide +kernel)) ggL_two_X4_way
set_option maxRecDepth 20000 in
theorem ggL_two_X4_level : GoodIn wsL_two wsX4_level := goodIn_r _ [112, 6, 113, 114, 115, 10, 116, 12, 32, 33, 34, 35, 36, 37, 18, 19, 20, 38, 4, 39, 117, 118, 119, 120, 151, 152, 153, 154, 155, 156, 157, 158, 159] (by decide +kernel) (by decide +kernel)
set_option maxRecDepth 20000 in
theorem gL_two_X4_level : GoodIn wsL_two (wsV RL 45 RX4 yX4_level wsX4_level) := goodIn_app (goodIn_of _ (by decide +kernel)) ggL_two_X4_level
set_option maxRecDepth 20000 in
theorem ggL_two_X4_neighbour : GoodIn wsL_two wsX4_neighbour := goodIn_r _ [124, 6, 17, 18, 19, 10, 20, 12, 125, 126, 127, 128, 57, 58, 59, 60, 32, 33, 34, 35, 36, 37, 38, 4, 39, 129, 130, 131, 132, 133, 70, 71, 72, 134, 135, 136, 137, 40, 41, 42, 43, 138, 139, 140, 141, 142, 143, 144, 145, 146, 77, 78, 79, 80, 147, 148, 149, 150, 90, 62, 63, 64, 151, 152, 153, 154, 155, 156, 157, 158, 159] (by decide +kernel) (by decide +kernel)
set_option maxRecDepth 20000 in
theorem gL_two_X4_neighbour : GoodIn wsL_two (wsV RL 22 RX4 yX4_neighbour wsX4_neighbour) := goodIn_app (goodIn_of _ (by decide +kernel)) ggL_two_X4_neighbour
theorem dL_two_0 : decode cL_two 0 = .ok (.aload_n 0, 1) := by decide +kernel
theorem dL_two_1 : decode cL_two 1 = .ok (.invokevirtual 9, 3) := by decide +kernel
theorem dL_two_4 : decode cL_two 4 = .ok (.istore_n 3, 1) := by decide +kernel
theorem dL_two_5 : decode cL_two 5 = .ok (.aload_n 0, 1) := by decide +kernel
theorem dL_two_6 : decode cL_two 6 = .ok (.iload_n 1, 1) := by decide +kernel
theorem dL_two_7 : decode cL_two 7 = .ok (.iload_n 2, 1) := by decide +kernel
theorem dL_two_8 : decode cL_two 8 = .ok (.invokevirtual 35, 3) := by decide +kernel
theorem dL_two_11 : decode cL_two 11 = .ok (.istore 4, 2) := by decide +kernel
theorem dL_two_13 : decode cL_two 13 = .ok (.aload_n 0, 1) := by decide +kernel
theorem dL_two_14 : decode cL_two 14 = .ok (.iload_n 1, 1) := by decide +kernel
theorem dL_two_15 : decode cL_two 15 = .ok (.iconst 0, 1) := by decide +kernel
theorem dL_two_16 : decode cL_two 16 = .ok (.invokevirtual 15, 3) := by decide +kernel
theorem dL_two_19 : decode cL_two 19 = .ok (.aload_n 0, 1) := by decide +kernel
theorem dL_two_20 : decode cL_two 20 = .ok (.iload 4, 2) := by decide +kernel
theorem dL_two_22 : decode cL_two 22 = .ok (.iconst 0, 1) := by decide +kernel
theorem dL_two_23 : decode cL_two 23 = .ok (.invokevirtual 15, 3) := by decide +kernel
theorem dL_two_26 : decode cL_two 26 = .ok (.isub, 1) := by decide +kernel
theorem dL_two_27 : decode cL_two 27 = .ok (.istore 5, 2) := by decide +kernel
theorem dL_two_29 : decode cL_two 29 = .ok (.aload_n 0, 1) := by decide +kernel
theorem dL_two_30 : decode cL_two 30 = .ok (.iload_n 2, 1) := by decide +kernel
theorem dL_two_31 : decode cL_two 31 = .ok (.iconst 0, 1) := by decide +kernel
theorem dL_two_32 : decode cL_two 32 = .ok (.invokevirtual 15, 3) := by decide +kernel
theorem dL_two_35 : decode cL_two 35 = .ok (.aload_n 0, 1) := by decide +kernel
theorem dL_two_36 : decode cL_two 36 = .ok (.iload 4, 2) := by decide +kernel
theorem dL_two_38 : decode cL_two 38 = .ok (.iconst 0, 1) := by decide +kernel
theorem dL_two_39 : decode cL_two 39 = .ok (.invokevirtual 15, 3) := by decide +kernel
theorem dL_two_42 : decode cL_two 42 = .ok (.isub, 1) := by decide +kernel
theorem dL_two_43 : decode cL_two 43 = .ok (.istore 6, 2) := by decide +kernel
theorem dL_two_45 : decode cL_two 45 = .ok (.aload_n 0, 1) := by decide +kernel
theorem dL_two_46 : decode cL_two 46 = .ok (.iload_n 2, 1) := by decide +kernel
theorem dL_two_47 : decode cL_two 47 = .ok (.iload_n 1, 1) := by decide +kernel
theorem dL_two_48 : decode cL_two 48 = .ok (.invokevirtual 35, 3) := by decide +kernel
theorem dL_two_51 : decode cL_two 51 = .ok (.iload 4, 2) := by decide +kernel
theorem dL_two_53 : decode cL_two 53 = .ok (.if_icmp .ne 122, 3) := by decide +kernel
theorem dL_two_56 : decode cL_two 56 = .ok (.aload_n 0, 1) := by decide +kernel
theorem dL_two_57 : decode cL_two 57 = .ok (.iload_n 1, 1) := by decide +kernel
theorem dL_two_58 : decode cL_two 58 = .ok (.aload_n 0, 1) := by decide +kernel
theorem dL_two_59 : decode cL_two 59 = .ok (.iload 4, 2) := by decide +kernel
theorem dL_two_61 : decode cL_two 61 = .ok (.iconst 0, 1) := by decide +kernel
theorem dL_two_62 : decode cL_two 62 = .ok (.invokevirtual 15, 3) := by decide +kernel
theorem dL_two_65 : decode cL_two 65 = .ok (.invokevirtual 38, 3) := by decide +kernel
theorem dL_two_68 : decode cL_two 68 = .ok (.iload 4, 2) := by decide +kernel
theorem dL_two_70 : decode cL_two 70 = .ok (.if_icmp .ne 105, 3) := by decide +kernel
theorem dL_two_73 : decode cL_two 73 = .ok (.aload_n 0, 1) := by decide +kernel
theorem dL_two_74 : decode cL_two 74 = .ok (.iload_n 2, 1) := by decide +kernel
theorem dL_two_75 : decode cL_two 75 = .ok (.aload_n 0, 1) := by decide +kernel
theorem dL_two_76 : decode cL_two 76 = .ok (.iload 4, 2) := by decide +kernel
theorem dL_two_78 : decode cL_two 78 = .ok (.iconst 0, 1) := by decide +kernel
theorem dL_two_79 : decode cL_two 79 = .ok (.invokevirtual 15, 3) := by decide +kernel
theorem dL_two_82 : decode cL_two 82 = .ok (.invokevirtual 38, 3) := by decide +kernel
theorem dL_two_85 : decode cL_two 85 = .ok (.iload 4, 2) := by decide +kernel
theorem dL_two_87 : decode cL_two 87 = .ok (.if_icmp .ne 88, 3) := by decide +kernel
theorem dL_two_90 : decode cL_two 90 = .ok (.aload_n 0, 1) := by decide +kernel
theorem dL_two_91 : decode cL_two 91 = .ok (.iload_n 1, 1) := by decide +kernel
theorem dL_two_92 : decode cL_two 92 = .ok (.iload_n 2, 1) := by decide +kernel
theorem dL_two_93 : decode cL_two 93 = .ok (.iconst (-1), 1) := by decide +kernel
theorem dL_two_94 : decode cL_two 94 = .ok (.invokevirtual 41, 3) := by decide +kernel
theorem dL_two_97 : decode cL_two 97 = .ok (.iload 5, 2) := by decide +kernel
theorem dL_two_99 : decode cL_two 99 = .ok (.iload 6, 2) := by decide +kernel
theorem dL_two_101 : decode cL_two 101 = .ok (.iadd, 1) := by decide +kernel
theorem dL_two_102 : decode cL_two 102 = .ok (.if_icmp .ne 73, 3) := by decide +kernel
theorem dL_two_105 : decode cL_two 105 = .ok (.aload_n 0, 1) := by decide +kernel
theorem dL_two_106 : decode cL_two 106 = .ok (.iload_n 1, 1) := by decide +kernel
theorem dL_two_107 : decode cL_two 107 = .ok (.iload_n 2, 1) := by decide +kernel
theorem dL_two_108 : decode cL_two 108 = .ok (.iload 5, 2) := by decide +kernel
theorem dL_two_110 : decode cL_two 110 = .ok (.invokevirtual 41, 3) := by decide +kernel
theorem dL_two_113 : decode cL_two 113 = .ok (.iload 4, 2) := by decide +kernel
theorem dL_two_115 : decode cL_two 115 = .ok (.if_icmp .ne 60, 3) := by decide +kernel
theorem dL_two_118 : decode cL_two 118 = .ok (.aload_n 0, 1) := by decide +kernel
theorem dL_two_119 : decode cL_two 119 = .ok (.iload_n 1, 1) := by decide +kernel
theorem dL_two_120 : decode cL_two 120 = .ok (.iload_n 2, 1) := by decide +kernel
theorem dL_two_121 : decode cL_two 121 = .ok (.iconst 0, 1) := by decide +kernel
theorem dL_two_122 : decode cL_two 122 = .ok (.invokevirtual 41, 3) := by decide +kernel
theorem dL_two_125 : decode cL_two 125 = .ok (.iload_n 1, 1) := by decide +kernel
theorem dL_two_126 : decode cL_two 126 = .ok (.if_icmp .ne 49, 3) := by decide +kernel
theorem dL_two_129 : decode cL_two 129 = .ok (.aload_n 0, 1) := by decide +kernel
theorem dL_two_130 : decode cL_two 130 = .ok (.iload_n 1, 1) := by decide +kernel
theorem dL_two_131 : decode cL_two 131 = .ok (.iload_n 2, 1) := by decide +kernel
theorem dL_two_132 : decode cL_two 132 = .ok (.iload 5, 2) := by decide +kernel
theorem dL_two_134 : decode cL_two 134 = .ok (.iload 6, 2) := by decide +kernel
theorem dL_two_136 : decode cL_two 136 = .ok (.iadd, 1) := by decide +kernel
theorem dL_two_137 : decode cL_two 137 = .ok (.invokevirtual 41, 3) := by decide +kernel
theorem dL_two_140 : decode cL_two 140 = .ok (.iload_n 2, 1) := by decide +kernel
theorem dL_two_141 : decode cL_two 141 = .ok (.if_icmp .ne 34, 3) := by decide +kernel
theorem dL_two_144 : decode cL_two 144 = .ok (.aload_n 0, 1) := by decide +kernel
theorem dL_two_145 : decode cL_two 145 = .ok (.iload_n 1, 1) := by decide +kernel
theorem dL_two_146 : decode cL_two 146 = .ok (.iload_n 2, 1) := by decide +kernel
theorem dL_two_147 : decode cL_two 147 = .ok (.iload 5, 2) := by decide +kernel
theorem dL_two_149 : decode cL_two 149 = .ok (.iload 6, 2) := by decide +kernel
theorem dL_two_151 : decode cL_two 151 = .ok (.iadd, 1) := by decide +kernel
theorem dL_two_152 : decode cL_two 152 = .ok (.iconst 1, 1) := by decide +kernel
theorem dL_two_153 : decode cL_two 153 = .ok (.iadd, 1) := by decide +kernel
theorem dL_two_154 : decode cL_two 154 = .ok (.invokevirtual 41, 3) := by decide +kernel
theorem dL_two_157 : decode cL_two 157 = .ok (.bipush (-5), 2) := by decide +kernel
theorem dL_two_159 : decode cL_two 159 = .ok (.if_icmp .ne 16, 3) := by decide +kernel
theorem dL_two_162 : decode cL_two 162 = .ok (.aload_n 0, 1) := by decide +kernel
theorem dL_two_163 : decode cL_two 163 = .ok (.iload_n 1, 1) := by decide +kernel
theorem dL_two_164 : decode cL_two 164 = .ok (.iload_n 2, 1) := by decide +kernel
theorem dL_two_165 : decode cL_two 165 = .ok (.bipush (-2), 2) := by decide +kernel
theorem dL_two_167 : decode cL_two 167 = .ok (.invokevirtual 41, 3) := by decide +kernel
theorem dL_two_170 : decode cL_two 170 = .ok (.bipush (-2), 2) := by decide +kernel
theorem dL_two_172 : decode cL_two 172 = .ok (.if_icmp .eq 5, 3) := by decide +kernel
theorem dL_two_175 : decode cL_two 175 = .ok (.iconst 0, 1) := by decide +kernel
theorem dL_two_176 : decode cL_two 176 = .ok (.ireturn, 1) := by decide +kernel
theorem dL_two_177 : decode cL_two 177 = .ok (.iload 5, 2) := by decide +kernel
theorem dL_two_179 : decode cL_two 179 = .ok (.ifCond .le 33, 3) := by decide +kernel
theorem dL_two_182 : decode cL_two 182 = .ok (.iload 6, 2) := by decide +kernel
theorem dL_two_184 : decode cL_two 184 = .ok (.ifCond .le 28, 3) := by decide +kernel
theorem dL_two_187 : decode cL_two 187 = .ok (.aload_n 0, 1) := by decide +kernel
theorem dL_two_188 : decode cL_two 188 = .ok (.iload_n 1, 1) := by decide +kernel
theorem dL_two_189 : decode cL_two 189 = .ok (.iload_n 2, 1) := by decide +kernel
theorem dL_two_190 : decode cL_two 190 = .ok (.iload 5, 2) := by decide +kernel
theorem dL_two_192 : decode cL_two 192 = .ok (.iconst 1, 1) := by decide +kernel
theorem dL_two_193 : decode cL_two 193 = .ok (.isub, 1) := by decide +kernel
theorem dL_two_194 : decode cL_two 194 = .ok (.invokevirtual 41, 3) := by decide +kernel
theorem dL_two_197 : decode cL_two 197 = .ok (.aload_n 0, 1) := by decide +kernel
theorem dL_two_198 : decode cL_two 198 = .ok (.iload_n 1, 1) := by decide +kernel
theorem dL_two_199 : decode cL_two 199 = .ok (.iload_n 2, 1) := by decide +kernel
theorem dL_two_200 : decode cL_two 200 = .ok (.iload 5, 2) := by decide +kernel
theorem dL_two_202 : decode cL_two 202 = .ok (.iconst 1, 1) := by decide +kernel
theorem dL_two_203 : decode cL_two 203 = .ok (.iadd, 1) := by decide +kernel
theorem dL_two_204 : decode cL_two 204 = .ok (.invokevirtual 41, 3) := by decide +kernel
theorem dL_two_207 : decode cL_two 207 = .ok (.if_icmp .ne 5, 3) := by decide +kernel
theorem dL_two_210 : decode cL_two 210 = .ok (.iconst 0, 1) := by decide +kernel
theorem dL_two_211 : decode cL_two 211 = .ok (.ireturn, 1) := by decide +kernel
theorem dL_two_212 : decode cL_two 212 = .ok (.iconst 1, 1) := by decide +kernel
theorem dL_two_213 : decode cL_two 213 = .ok (.istore 7, 2) := by decide +kernel
theorem dL_two_215 : decode cL_two 215 = .ok (.iload 7, 2) := by decide +kernel
theorem dL_two_217 : decode cL_two 217 = .ok (.iload 5, 2) := by decide +kernel
theorem dL_two_219 : decode cL_two 219 = .ok (.iload 6, 2) := by decide +kernel
theorem dL_two_221 : decode cL_two 221 = .ok (.iadd, 1) := by decide +kernel
theorem dL_two_222 : decode cL_two 222 = .ok (.if_icmp .gt 76, 3) := by decide +kernel
theorem dL_two_225 : decode cL_two 225 = .ok (.aload_n 0, 1) := by decide +kernel
theorem dL_two_226 : decode cL_two 226 = .ok (.iload_n 1, 1) := by decide +kernel
theorem dL_two_227 : decode cL_two 227 = .ok (.iload_n 2, 1) := by decide +kernel
theorem dL_two_228 : decode cL_two 228 = .ok (.iload 7, 2) := by decide +kernel
theorem dL_two_230 : decode cL_two 230 = .ok (.iconst 1, 1) := by decide +kernel
theorem dL_two_231 : decode cL_two 231 = .ok (.isub, 1) := by decide +kernel
theorem dL_two_232 : decode cL_two 232 = .ok (.invokevirtual 41, 3) := by decide +kernel
theorem dL_two_235 : decode cL_two 235 = .ok (.istore 8, 2) := by decide +kernel
theorem dL_two_237 : decode cL_two 237 = .ok (.aload_n 0, 1) := by decide +kernel
theorem dL_two_238 : decode cL_two 238 = .ok (.iload_n 1, 1) := by decide +kernel
theorem dL_two_239 : decode cL_two 239 = .ok (.iload_n 2, 1) := by decide +kernel
theorem dL_two_240 : decode cL_two 240 = .ok (.iload 7, 2) := by decide +kernel
theorem dL_two_242 : decode cL_two 242 = .ok (.invokevirtual 41, 3) := by decide +kernel
theorem dL_two_245 : decode cL_two 245 = .ok (.istore 9, 2) := by decide +kernel
theorem dL_two_247 : decode cL_two 247 = .ok (.aload_n 0, 1) := by decide +kernel
theorem dL_two_248 : decode cL_two 248 = .ok (.iload 8, 2) := by decide +kernel
theorem dL_two_250 : decode cL_two 250 = .ok (.iconst 1, 1) := by decide +kernel
theorem dL_two_251 : decode cL_two 251 = .ok (.invokevirtual 15, 3) := by decide +kernel
theorem dL_two_254 : decode cL_two 254 = .ok (.iload 9, 2) := by decide +kernel
theorem dL_two_256 : decode cL_two 256 = .ok (.if_icmp .eq 15, 3) := by decide +kernel
theorem dL_two_259 : decode cL_two 259 = .ok (.aload_n 0, 1) := by decide +kernel
theorem dL_two_260 : decode cL_two 260 = .ok (.iload 9, 2) := by decide +kernel
theorem dL_two_262 : decode cL_two 262 = .ok (.iconst 1, 1) := by decide +kernel
theorem dL_two_263 : decode cL_two 263 = .ok (.invokevirtual 15, 3) := by decide +kernel
theorem dL_two_266 : decode cL_two 266 = .ok (.iload 8, 2) := by decide +kernel
theorem dL_two_268 : decode cL_two 268 = .ok (.if_icmp .ne 22, 3) := by decide +kernel
theorem dL_two_271 : decode cL_two 271 = .ok (.aload_n 0, 1) := by decide +kernel
theorem dL_two_272 : decode cL_two 272 = .ok (.iload_n 2, 1) := by decide +kernel
theorem dL_two_273 : decode cL_two 273 = .ok (.iload_n 1, 1) := by decide +kernel
theorem dL_two_274 : decode cL_two 274 = .ok (.iload 5, 2) := by decide +kernel
theorem dL_two_276 : decode cL_two 276 = .ok (.iload 6, 2) := by decide +kernel
theorem dL_two_278 : decode cL_two 278 = .ok (.iadd, 1) := by decide +kernel
theorem dL_two_279 : decode cL_two 279 = .ok (.iload 7, 2) := by decide +kernel
theorem dL_two_281 : decode cL_two 281 = .ok (.isub, 1) := by decide +kernel
theorem dL_two_282 : decode cL_two 282 = .ok (.invokevirtual 41, 3) := by decide +kernel
theorem dL_two_285 : decode cL_two 285 = .ok (.iload 9, 2) := by decide +kernel
theorem dL_two_287 : decode cL_two 287 = .ok (.if_icmp .eq 5, 3) := by decide +kernel
theorem dL_two_290 : decode cL_two 290 = .ok (.iconst 0, 1) := by decide +kernel
theorem dL_two_291 : decode cL_two 291 = .ok (.ireturn, 1) := by decide +kernel
theorem dL_two_292 : decode cL_two 292 = .ok (.iinc 7 1, 3) := by decide +kernel
theorem dL_two_295 : decode cL_two 295 = .ok (.goto (-80), 3) := by decide +kernel
theorem dL_two_298 : decode cL_two 298 = .ok (.iload_n 1, 1) := by decide +kernel
theorem dL_two_299 : decode cL_two 299 = .ok (.istore 7, 2) := by decide +kernel
theorem dL_two_301 : decode cL_two 301 = .ok (.aload_n 0, 1) := by decide +kernel
theorem dL_two_302 : decode cL_two 302 = .ok (.iload_n 1, 1) := by decide +kernel
theorem dL_two_303 : decode cL_two 303 = .ok (.iconst 0, 1) := by decide +kernel
theorem dL_two_304 : decode cL_two 304 = .ok (.invokevirtual 15, 3) := by decide +kernel
theorem dL_two_307 : decode cL_two 307 = .ok (.istore 8, 2) := by decide +kernel
theorem dL_two_309 : decode cL_two 309 = .ok (.iload 8, 2) := by decide +kernel
theorem dL_two_311 : decode cL_two 311 = .ok (.ifCond .lt 32, 3) := by decide +kernel
theorem dL_two_314 : decode cL_two 314 = .ok (.aload_n 0, 1) := by decide +kernel
theorem dL_two_315 : decode cL_two 315 = .ok (.iload_n 1, 1) := by decide +kernel
theorem dL_two_316 : decode cL_two 316 = .ok (.iload 8, 2) := by decide +kernel
theorem dL_two_318 : decode cL_two 318 = .ok (.invokevirtual 38, 3) := by decide +kernel
theorem dL_two_321 : decode cL_two 321 = .ok (.iload 7, 2) := by decide +kernel
theorem dL_two_323 : decode cL_two 323 = .ok (.if_icmp .eq 5, 3) := by decide +kernel
theorem dL_two_326 : decode cL_two 326 = .ok (.iconst 0, 1) := by decide +kernel
theorem dL_two_327 : decode cL_two 327 = .ok (.ireturn, 1) := by decide +kernel
theorem dL_two_328 : decode cL_two 328 = .ok (.aload_n 0, 1) := by decide +kernel
theorem dL_two_329 : decode cL_two 329 = .ok (.iload 7, 2) := by decide +kernel
theorem dL_two_331 : decode cL_two 331 = .ok (.iconst 1, 1) := by decide +kernel
theorem dL_two_332 : decode cL_two 332 = .ok (.invokevirtual 15, 3) := by decide +kernel
theorem dL_two_335 : decode cL_two 335 = .ok (.istore 7, 2) := by decide +kernel
theorem dL_two_337 : decode cL_two 337 = .ok (.iinc 8 (-1), 3) := by decide +kernel
theorem dL_two_340 : decode cL_two 340 = .ok (.goto (-31), 3) := by decide +kernel
theorem dL_two_343 : decode cL_two 343 = .ok (.aload_n 0, 1) := by decide +kernel
theorem dL_two_344 : decode cL_two 344 = .ok (.iload_n 1, 1) := by decide +kernel
theorem dL_two_345 : decode cL_two 345 = .ok (.iconst 0, 1) := by decide +kernel
theorem dL_two_346 : decode cL_two 346 = .ok (.invokevirtual 15, 3) := by decide +kernel
theorem dL_two_349 : decode cL_two 349 = .ok (.istore 8, 2) := by decide +kernel
theorem dL_two_351 : decode cL_two 351 = .ok (.aload_n 0, 1) := by decide +kernel
theorem dL_two_352 : decode cL_two 352 = .ok (.iload 8, 2) := by decide +kernel
theorem dL_two_354 : decode cL_two 354 = .ok (.iconst (-1), 1) := by decide +kernel
theorem dL_two_355 : decode cL_two 355 = .ok (.invokevirtual 45, 3) := by decide +kernel
theorem dL_two_358 : decode cL_two 358 = .ok (.istore 9, 2) := by decide +kernel
theorem dL_two_360 : decode cL_two 360 = .ok (.iconst 0, 1) := by decide +kernel
theorem dL_two_361 : decode cL_two 361 = .ok (.istore 10, 2) := by decide +kernel
theorem dL_two_363 : decode cL_two 363 = .ok (.aload_n 0, 1) := by decide +kernel
theorem dL_two_364 : decode cL_two 364 = .ok (.iload 8, 2) := by decide +kernel
theorem dL_two_366 : decode cL_two 366 = .ok (.iload 10, 2) := by decide +kernel
theorem dL_two_368 : decode cL_two 368 = .ok (.invokevirtual 45, 3) := by decide +kernel
theorem dL_two_371 : decode cL_two 371 = .ok (.iload_n 1, 1) := by decide +kernel
theorem dL_two_372 : decode cL_two 372 = .ok (.if_icmp .eq 15, 3) := by decide +kernel
theorem dL_two_375 : decode cL_two 375 = .ok (.iload 10, 2) := by decide +kernel
theorem dL_two_377 : decode cL_two 377 = .ok (.iload_n 3, 1) := by decide +kernel
theorem dL_two_378 : decode cL_two 378 = .ok (.if_icmp .ge 9, 3) := by decide +kernel
theorem dL_two_381 : decode cL_two 381 = .ok (.iinc 10 1, 3) := by decide +kernel
theorem dL_two_384 : decode cL_two 384 = .ok (.goto (-21), 3) := by decide +kernel
theorem dL_two_387 : decode cL_two 387 = .ok (.aload_n 0, 1) := by decide +kernel
theorem dL_two_388 : decode cL_two 388 = .ok (.iload_n 1, 1) := by decide +kernel
theorem dL_two_389 : decode cL_two 389 = .ok (.iconst 4, 1) := by decide +kernel
theorem dL_two_390 : decode cL_two 390 = .ok (.invokevirtual 22, 3) := by decide +kernel
theorem dL_two_393 : decode cL_two 393 = .ok (.istore 11, 2) := by decide +kernel
theorem dL_two_395 : decode cL_two 395 = .ok (.iload 11, 2) := by decide +kernel
theorem dL_two_397 : decode cL_two 397 = .ok (.bipush (-5), 2) := by decide +kernel
theorem dL_two_399 : decode cL_two 399 = .ok (.if_icmp .ne 32, 3) := by decide +kernel
theorem dL_two_402 : decode cL_two 402 = .ok (.aload_n 0, 1) := by decide +kernel
theorem dL_two_403 : decode cL_two 403 = .ok (.iload_n 1, 1) := by decide +kernel
theorem dL_two_404 : decode cL_two 404 = .ok (.iconst 3, 1) := by decide +kernel
theorem dL_two_405 : decode cL_two 405 = .ok (.invokevirtual 15, 3) := by decide +kernel
theorem dL_two_408 : decode cL_two 408 = .ok (.iload_n 3, 1) := by decide +kernel
theorem dL_two_409 : decode cL_two 409 = .ok (.iload_n 1, 1) := by decide +kernel
theorem dL_two_410 : decode cL_two 410 = .ok (.isub, 1) := by decide +kernel
theorem dL_two_411 : decode cL_two 411 = .ok (.if_icmp .ne 16, 3) := by decide +kernel
theorem dL_two_414 : decode cL_two 414 = .ok (.aload_n 0, 1) := by decide +kernel
theorem dL_two_415 : decode cL_two 415 = .ok (.iload_n 1, 1) := by decide +kernel
theorem dL_two_416 : decode cL_two 416 = .ok (.iconst 2, 1) := by decide +kernel
theorem dL_two_417 : decode cL_two 417 = .ok (.invokevirtual 15, 3) := by decide +kernel
theorem dL_two_420 : decode cL_two 420 = .ok (.ifCond .ne 7, 3) := by decide +kernel
theorem dL_two_423 : decode cL_two 423 = .ok (.iconst 1, 1) := by decide +kernel
theorem dL_two_424 : decode cL_two 424 = .ok (.goto 50, 3) := by decide +kernel
theorem dL_two_427 : decode cL_two 427 = .ok (.iconst 0, 1) := by decide +kernel
theorem dL_two_428 : decode cL_two 428 = .ok (.goto 46, 3) := by decide +kernel
theorem dL_two_431 : decode cL_two 431 = .ok (.iload 11, 2) := by decide +kernel
theorem dL_two_433 : decode cL_two 433 = .ok (.iload_n 1, 1) := by decide +kernel
theorem dL_two_434 : decode cL_two 434 = .ok (.if_icmp .le 39, 3) := by decide +kernel
theorem dL_two_437 : decode cL_two 437 = .ok (.aload_n 0, 1) := by decide +kernel
theorem dL_two_438 : decode cL_two 438 = .ok (.iload 11, 2) := by decide +kernel
theorem dL_two_440 : decode cL_two 440 = .ok (.iconst 2, 1) := by decide +kernel
theorem dL_two_441 : decode cL_two 441 = .ok (.invokevirtual 15, 3) := by decide +kernel
theorem dL_two_444 : decode cL_two 444 = .ok (.ifCond .ne 29, 3) := by decide +kernel
theorem dL_two_447 : decode cL_two 447 = .ok (.aload_n 0, 1) := by decide +kernel
theorem dL_two_448 : decode cL_two 448 = .ok (.iload_n 1, 1) := by decide +kernel
theorem dL_two_449 : decode cL_two 449 = .ok (.iconst 2, 1) := by decide +kernel
theorem dL_two_450 : decode cL_two 450 = .ok (.invokevirtual 15, 3) := by decide +kernel
theorem dL_two_453 : decode cL_two 453 = .ok (.ifCond .eq 16, 3) := by decide +kernel
theorem dL_two_456 : decode cL_two 456 = .ok (.iload 11, 2) := by decide +kernel
theorem dL_two_458 : decode cL_two 458 = .ok (.iload_n 1, 1) := by decide +kernel
theorem dL_two_459 : decode cL_two 459 = .ok (.aload_n 0, 1) := by decide +kernel
theorem dL_two_460 : decode cL_two 460 = .ok (.iload_n 1, 1) := by decide +kernel
theorem dL_two_461 : decode cL_two 461 = .ok (.iconst 3, 1) := by decide +kernel
theorem dL_two_462 : decode cL_two 462 = .ok (.invokevirtual 15, 3) := by decide +kernel
theorem dL_two_465 : decode cL_two 465 = .ok (.iadd, 1) := by decide +kernel
theorem dL_two_466 : decode cL_two 466 = .ok (.if_icmp .ge 7, 3) := by decide +kernel
theorem dL_two_469 : decode cL_two 469 = .ok (.iconst 1, 1) := by decide +kernel
theorem dL_two_470 : decode cL_two 470 = .ok (.goto 4, 3) := by decide +kernel
theorem dL_two_473 : decode cL_two 473 = .ok (.iconst 0, 1) := by decide +kernel
theorem dL_two_474 : decode cL_two 474 = .ok (.istore 12, 2) := by decide +kernel
theorem dL_two_476 : decode cL_two 476 = .ok (.iload_n 1, 1) := by decide +kernel
theorem dL_two_477 : decode cL_two 477 = .ok (.iconst 1, 1) := by decide +kernel
theorem dL_two_478 : decode cL_two 478 = .ok (.iadd, 1) := by decide +kernel
theorem dL_two_479 : decode cL_two 479 = .ok (.istore 13, 2) := by decide +kernel
theorem dL_two_481 : decode cL_two 481 = .ok (.iload 13, 2) := by decide +kernel
theorem dL_two_483 : decode cL_two 483 = .ok (.iload 11, 2) := by decide +kernel
theorem dL_two_485 : decode cL_two 485 = .ok (.if_icmp .ge 31, 3) := by decide +kernel
theorem dL_two_488 : decode cL_two 488 = .ok (.iload 12, 2) := by decide +kernel
theorem dL_two_490 : decode cL_two 490 = .ok (.ifCond .eq 17, 3) := by decide +kernel
theorem dL_two_493 : decode cL_two 493 = .ok (.aload_n 0, 1) := by decide +kernel
theorem dL_two_494 : decode cL_two 494 = .ok (.iload 13, 2) := by decide +kernel
theorem dL_two_496 : decode cL_two 496 = .ok (.iconst 2, 1) := by decide +kernel
theorem dL_two_497 : decode cL_two 497 = .ok (.invokevirtual 15, 3) := by decide +kernel
theorem dL_two_500 : decode cL_two 500 = .ok (.ifCond .le 7, 3) := by decide +kernel
theorem dL_two_503 : decode cL_two 503 = .ok (.iconst 1, 1) := by decide +kernel
theorem dL_two_504 : decode cL_two 504 = .ok (.goto 4, 3) := by decide +kernel
theorem dL_two_507 : decode cL_two 507 = .ok (.iconst 0, 1) := by decide +kernel
theorem dL_two_508 : decode cL_two 508 = .ok (.istore 12, 2) := by decide +kernel
theorem dL_two_510 : decode cL_two 510 = .ok (.iinc 13 1, 3) := by decide +kernel
theorem dL_two_513 : decode cL_two 513 = .ok (.goto (-32), 3) := by decide +kernel
theorem dL_two_516 : decode cL_two 516 = .ok (.iload 12, 2) := by decide +kernel
theorem dL_two_518 : decode cL_two 518 = .ok (.ifCond .eq 135, 3) := by decide +kernel
theorem dL_two_521 : decode cL_two 521 = .ok (.iload 10, 2) := by decide +kernel
theorem dL_two_523 : decode cL_two 523 = .ok (.iload 9, 2) := by decide +kernel
theorem dL_two_525 : decode cL_two 525 = .ok (.if_icmp .ge 128, 3) := by decide +kernel
theorem dL_two_528 : decode cL_two 528 = .ok (.aload_n 0, 1) := by decide +kernel
theorem dL_two_529 : decode cL_two 529 = .ok (.iload 8, 2) := by decide +kernel
theorem dL_two_531 : decode cL_two 531 = .ok (.iload 9, 2) := by decide +kernel
theorem dL_two_533 : decode cL_two 533 = .ok (.invokevirtual 45, 3) := by decide +kernel
theorem dL_two_536 : decode cL_two 536 = .ok (.bipush (-5), 2) := by decide +kernel
theorem dL_two_538 : decode cL_two 538 = .ok (.if_icmp .ne 115, 3) := by decide +kernel
theorem dL_two_541 : decode cL_two 541 = .ok (.aload_n 0, 1) := by decide +kernel
theorem dL_two_542 : decode cL_two 542 = .ok (.iload_n 1, 1) := by decide +kernel
theorem dL_two_543 : decode cL_two 543 = .ok (.iconst 2, 1) := by decide +kernel
theorem dL_two_544 : decode cL_two 544 = .ok (.invokevirtual 22, 3) := by decide +kernel
theorem dL_two_547 : decode cL_two 547 = .ok (.iload 10, 2) := by decide +kernel
theorem dL_two_549 : decode cL_two 549 = .ok (.iconst 1, 1) := by decide +kernel
theorem dL_two_550 : decode cL_two 550 = .ok (.iadd, 1) := by decide +kernel
theorem dL_two_551 : decode cL_two 551 = .ok (.iload 9, 2) := by decide +kernel
theorem dL_two_553 : decode cL_two 553 = .ok (.if_icmp .ge 16, 3) := by decide +kernel
theorem dL_two_556 : decode cL_two 556 = .ok (.aload_n 0, 1) := by decide +kernel
theorem dL_two_557 : decode cL_two 557 = .ok (.iload 8, 2) := by decide +kernel
theorem dL_two_559 : decode cL_two 559 = .ok (.iload 10, 2) := by decide +kernel
theorem dL_two_561 : decode cL_two 561 = .ok (.iconst 1, 1) := by decide +kernel
theorem dL_two_562 : decode cL_two 562 = .ok (.iadd, 1) := by decide +kernel
theorem dL_two_563 : decode cL_two 563 = .ok (.invokevirtual 45, 3) := by decide +kernel
theorem dL_two_566 : decode cL_two 566 = .ok (.goto 5, 3) := by decide +kernel
theorem dL_two_569 : decode cL_two 569 = .ok (.bipush (-5), 2) := by decide +kernel
theorem dL_two_571 : decode cL_two 571 = .ok (.if_icmp .ne 82, 3) := by decide +kernel
theorem dL_two_574 : decode cL_two 574 = .ok (.aload_n 0, 1) := by decide +kernel
theorem dL_two_575 : decode cL_two 575 = .ok (.iload_n 1, 1) := by decide +kernel
theorem dL_two_576 : decode cL_two 576 = .ok (.iconst 3, 1) := by decide +kernel
theorem dL_two_577 : decode cL_two 577 = .ok (.invokevirtual 22, 3) := by decide +kernel
theorem dL_two_580 : decode cL_two 580 = .ok (.iload 10, 2) := by decide +kernel
theorem dL_two_582 : decode cL_two 582 = .ok (.ifCond .le 16, 3) := by decide +kernel
theorem dL_two_585 : decode cL_two 585 = .ok (.aload_n 0, 1) := by decide +kernel
theorem dL_two_586 : decode cL_two 586 = .ok (.iload 8, 2) := by decide +kernel
theorem dL_two_588 : decode cL_two 588 = .ok (.iload 10, 2) := by decide +kernel
theorem dL_two_590 : decode cL_two 590 = .ok (.iconst 1, 1) := by decide +kernel
theorem dL_two_591 : decode cL_two 591 = .ok (.isub, 1) := by decide +kernel
theorem dL_two_592 : decode cL_two 592 = .ok (.invokevirtual 45, 3) := by decide +kernel
theorem dL_two_595 : decode cL_two 595 = .ok (.goto 5, 3) := by decide +kernel
theorem dL_two_598 : decode cL_two 598 = .ok (.bipush (-5), 2) := by decide +kernel
theorem dL_two_600 : decode cL_two 600 = .ok (.if_icmp .ne 53, 3) := by decide +kernel
theorem dL_two_603 : decode cL_two 603 = .ok (.aload_n 0, 1) := by decide +kernel
theorem dL_two_604 : decode cL_two 604 = .ok (.iload_n 1, 1) := by decide +kernel
theorem dL_two_605 : decode cL_two 605 = .ok (.iload 8, 2) := by decide +kernel
theorem dL_two_607 : decode cL_two 607 = .ok (.iconst 1, 1) := by decide +kernel
theorem dL_two_608 : decode cL_two 608 = .ok (.iadd, 1) := by decide +kernel
theorem dL_two_609 : decode cL_two 609 = .ok (.invokevirtual 38, 3) := by decide +kernel
theorem dL_two_612 : decode cL_two 612 = .ok (.bipush (-2), 2) := by decide +kernel
theorem dL_two_614 : decode cL_two 614 = .ok (.if_icmp .ne 39, 3) := by decide +kernel
theorem dL_two_617 : decode cL_two 617 = .ok (.aload_n 0, 1) := by decide +kernel
theorem dL_two_618 : decode cL_two 618 = .ok (.iconst (-1), 1) := by decide +kernel
theorem dL_two_619 : decode cL_two 619 = .ok (.iconst 0, 1) := by decide +kernel
theorem dL_two_620 : decode cL_two 620 = .ok (.invokevirtual 45, 3) := by decide +kernel
theorem dL_two_623 : decode cL_two 623 = .ok (.bipush (-2), 2) := by decide +kernel
theorem dL_two_625 : decode cL_two 625 = .ok (.if_icmp .ne 28, 3) := by decide +kernel
theorem dL_two_628 : decode cL_two 628 = .ok (.aload_n 0, 1) := by decide +kernel
theorem dL_two_629 : decode cL_two 629 = .ok (.iconst 0, 1) := by decide +kernel
theorem dL_two_630 : decode cL_two 630 = .ok (.bipush (-2), 2) := by decide +kernel
theorem dL_two_632 : decode cL_two 632 = .ok (.invokevirtual 45, 3) := by decide +kernel
theorem dL_two_635 : decode cL_two 635 = .ok (.bipush (-2), 2) := by decide +kernel
theorem dL_two_637 : decode cL_two 637 = .ok (.if_icmp .ne 16, 3) := by decide +kernel
theorem dL_two_640 : decode cL_two 640 = .ok (.aload_n 0, 1) := by decide +kernel
theorem dL_two_641 : decode cL_two 641 = .ok (.iload_n 3, 1) := by decide +kernel
theorem dL_two_642 : decode cL_two 642 = .ok (.iconst (-1), 1) := by decide +kernel
theorem dL_two_643 : decode cL_two 643 = .ok (.invokevirtual 45, 3) := by decide +kernel
theorem dL_two_646 : decode cL_two 646 = .ok (.ifCond .ne 7, 3) := by decide +kernel
theorem dL_two_649 : decode cL_two 649 = .ok (.iconst 1, 1) := by decide +kernel
theorem dL_two_650 : decode cL_two 650 = .ok (.goto 4, 3) := by decide +kernel
theorem dL_two_653 : decode cL_two 653 = .ok (.iconst 0, 1) := by decide +kernel
theorem dL_two_654 : decode cL_two 654 = .ok (.ireturn, 1) := by decide +kernel
set_option maxRecDepth 20000 in
theorem ggL_labels_X4_node : GoodIn wsL_labels wsX4_node := goodIn_r _ [5, 6, 7, 8, 9, 10, 11, 12, 13, 14, 15, 16, 17, 18, 19, 4, 20, 21, 22, 23, 24, 25, 26, 27, 28, 29, 30, 31, 32, 33, 34, 35, 36, 37, 38, 39, 40, 41, 42, 43, 44, 45, 46, 47, 48, 49, 50, 51, 52, 53, 54, 55, 56, 57, 58, 59, 60, 61, 62, 63, 64, 65, 66, 67, 68, 69, 70, 71, 72, 73, 74, 75, 76, 138, 139, 140, 141, 142, 143, 144, 145, 146] (by decide +kernel) (by decide +kernel)
set_option maxRecDepth 20000 in
theorem gL_labels_X4_node : GoodIn wsL_labels (wsV RL 15 RX4 yX4_node wsX4_node) := goodIn_app (goodIn_of _ (by decide +kernel)) ggL_labels_X4_node
set_option maxRecDepth 20000 in
theorem ggL_labels_X4_labelled : GoodIn wsL_labels wsX4_labelled := goodIn_r _ [80, 6, 7, 8, 9, 10, 11, 12, 81, 82, 4, 83, 84, 85, 86, 87, 34, 35, 36, 37, 25, 14, 15, 16, 17, 18, 19, 20, 88, 73, 74, 75, 76, 138, 139, 140, 141, 142, 143, 144, 145, 146] (by decide +kernel) (by decide +kernel)
set_option maxRecDepth 20000 in
theorem gL_labels_X4_labelled : GoodIn wsL_labels (wsV RL 48 RX4 yX4_labelled wsX4_labelled) := goodIn_app (goodIn_of _ (by decide +kernel)) ggL_labels_X4_labelled
set_option maxRecDepth 20000 in
theorem ggL_labels_X4_select : GoodIn wsL_labels wsX4_select := goodIn_r _ [92, 6, 7, 8, 9, 10, 11, 12, 81, 82, 4, 83, 93, 94, 95, 96, 34, 35, 36, 37, 25, 14, 15, 16, 17, 18, 19, 20, 88, 73, 74, 75, 76, 138, 139, 140, 141, 142, 143, 144, 145, 146] (by decide +kernel) (by decide +kernel)
set_option maxRecDepth 20000 in
theorem gL_labels_X4_select : GoodIn wsL_labels (wsV RL 52 RX4 yX4_select wsX4_select) := goodIn_app (goodIn_of _ (by decide +kernel)) ggL_labels_X4_select
set_option maxRecDepth 20000 in
theorem ggL_labels_X4_size : GoodIn wsL_labels wsX4_size := goodIn_r _ [100, 6, 101, 102, 103, 10, 104, 12, 138, 139, 140, 141, 142, 143, 144, 145, 146] (by decide +kernel) (by decide +kernel)
set_option maxRecDepth 20000 in
theorem gL_labels_X4_size : GoodIn wsL_labels (wsV RL 9 RX4 yX4_size wsX4_size) := goodIn_app (goodIn_of _ (by decide +kernel)) ggL_labels_X4_size
set_option maxRecDepth 20000 in
theorem ggL_labels_X4_areEqual : GoodIn wsL_labels wsX4_areEqual := goodIn_r _ [108, 6, 7, 8, 9, 10, 11, 12, 109, 110, 111, 112, 67, 39, 40, 41, 34, 35, 36, 37, 25, 14, 15, 16, 17, 18, 19, 4, 20, 88, 73, 74, 75, 76, 138, 139, 140, 141, 142, 143, 144, 145, 146] (by decide +kernel) (by decide +kernel)
set_option maxRecDepth 20000 in
theorem gL_labels_X4_areEqual : GoodIn wsL_labels (wsV RL 56 RX4 yX4_areEqual wsX4_areEqual) := goodIn_app (goodIn_of _ (by decide +kernel)) ggL_labels_X4_areEqual
set_option maxRecDepth 20000 in
theorem ggL_labels_X4_child : GoodIn wsL_labels wsX4_child := goodIn_r _ [116, 6, 7, 8, 9, 10, 11, 12, 30, 31, 32, 33, 34, 35, 36, 37, 25, 14, 15, 16, 17, 18, 19, 4, 20, 117, 118, 119, 120, 138, 139, 140, 141, 142, 143, 144, 145, 146] (by decide +kernel) (by decide +kernel)
set_option maxRecDepth 20000 in
theorem gL_labels_X4_child : GoodIn wsL_labels (wsV RL 19 RX4 yX4_child wsX4_child) := goodIn_app (goodIn_of _ (by decide +kernel)) ggL_labels_X4_child
set_option maxRecDepth 20000 in
theorem ggL_labels_X4_copies : GoodIn wsL_labels wsX4_copies := goodIn_r _ [124, 6, 7, 8, 9, 10, 11, 12, 125, 126, 127, 128, 129, 110, 111, 112, 67, 39, 40, 41, 34, 35, 36, 37, 25, 14, 15, 16, 17, 18, 19, 4, 20, 88, 73, 74, 75, 76, 138, 139, 140, 141, 142, 143, 144, 145, 146] (by decide +kernel) (by decide +kernel)
set_option maxRecDepth 20000 in
theorem gL_labels_X4_copies : GoodIn wsL_labels (wsV RL 59 RX4 yX4_copies wsX4_copies) := goodIn_app (goodIn_of _ (by decide +kernel)) ggL_labels_X4_copies
set_option maxRecDepth 20000 in
theorem ggL_labels_X4_ancestorWith : GoodIn wsL_labels wsX4_ancestorWith := goodIn_r _ [133, 6, 7, 8, 9, 10, 11, 12, 81, 82, 4, 83, 134, 135, 136, 137, 25, 14, 15, 16, 17, 18, 19, 20, 88, 73, 74, 75, 76, 138, 139, 140, 141, 142, 143, 144, 145, 146] (by decide +kernel) (by decide +kernel)
set_option maxRecDepth 20000 in
theorem gL_labels_X4_ancestorWith : GoodIn wsL_labels (wsV RL 62 RX4 yX4_ancestorWith wsX4_ancestorWith) := goodIn_app (goodIn_of _ (by decide +kernel)) ggL_labels_X4_ancestorWith
theorem dL_labels_0 : decode cL_labels 0 = .ok (.aload_n 0, 1) := by decide +kernel
theorem dL_labels_1 : decode cL_labels 1 = .ok (.iload_n 2, 1) := by decide +kernel
theorem dL_labels_2 : decode cL_labels 2 = .ok (.bipush 10, 2) := by decide +kernel
theorem dL_labels_4 : decode cL_labels 4 = .ok (.invokevirtual 15, 3) := by decide +kernel
theorem dL_labels_7 : decode cL_labels 7 = .ok (.i2c, 1) := by decide +kernel
theorem dL_labels_8 : decode cL_labels 8 = .ok (.istore_n 3, 1) := by decide +kernel
theorem dL_labels_9 : decode cL_labels 9 = .ok (.aload_n 0, 1) := by decide +kernel
theorem dL_labels_10 : decode cL_labels 10 = .ok (.iload_n 1, 1) := by decide +kernel
theorem dL_labels_11 : decode cL_labels 11 = .ok (.iload_n 3, 1) := by decide +kernel
theorem dL_labels_12 : decode cL_labels 12 = .ok (.invokevirtual 48, 3) := by decide +kernel
theorem dL_labels_15 : decode cL_labels 15 = .ok (.istore 4, 2) := by decide +kernel
theorem dL_labels_17 : decode cL_labels 17 = .ok (.iload_n 1, 1) := by decide +kernel
theorem dL_labels_18 : decode cL_labels 18 = .ok (.iconst 1, 1) := by decide +kernel
theorem dL_labels_19 : decode cL_labels 19 = .ok (.isub, 1) := by decide +kernel
theorem dL_labels_20 : decode cL_labels 20 = .ok (.istore 5, 2) := by decide +kernel
theorem dL_labels_22 : decode cL_labels 22 = .ok (.iconst 0, 1) := by decide +kernel
theorem dL_labels_23 : decode cL_labels 23 = .ok (.istore 6, 2) := by decide +kernel
theorem dL_labels_25 : decode cL_labels 25 = .ok (.iload 6, 2) := by decide +kernel
theorem dL_labels_27 : decode cL_labels 27 = .ok (.iload 4, 2) := by decide +kernel
theorem dL_labels_29 : decode cL_labels 29 = .ok (.if_icmp .ge 57, 3) := by decide +kernel
theorem dL_labels_32 : decode cL_labels 32 = .ok (.aload_n 0, 1) := by decide +kernel
theorem dL_labels_33 : decode cL_labels 33 = .ok (.iload_n 1, 1) := by decide +kernel
theorem dL_labels_34 : decode cL_labels 34 = .ok (.iload_n 3, 1) := by decide +kernel
theorem dL_labels_35 : decode cL_labels 35 = .ok (.iload 6, 2) := by decide +kernel
theorem dL_labels_37 : decode cL_labels 37 = .ok (.invokevirtual 52, 3) := by decide +kernel
theorem dL_labels_40 : decode cL_labels 40 = .ok (.istore 7, 2) := by decide +kernel
theorem dL_labels_42 : decode cL_labels 42 = .ok (.iload 7, 2) := by decide +kernel
theorem dL_labels_44 : decode cL_labels 44 = .ok (.iload 5, 2) := by decide +kernel
theorem dL_labels_46 : decode cL_labels 46 = .ok (.if_icmp .le 28, 3) := by decide +kernel
theorem dL_labels_49 : decode cL_labels 49 = .ok (.iload 7, 2) := by decide +kernel
theorem dL_labels_51 : decode cL_labels 51 = .ok (.iload_n 1, 1) := by decide +kernel
theorem dL_labels_52 : decode cL_labels 52 = .ok (.aload_n 0, 1) := by decide +kernel
theorem dL_labels_53 : decode cL_labels 53 = .ok (.iload_n 1, 1) := by decide +kernel
theorem dL_labels_54 : decode cL_labels 54 = .ok (.iconst 3, 1) := by decide +kernel
theorem dL_labels_55 : decode cL_labels 55 = .ok (.invokevirtual 15, 3) := by decide +kernel
theorem dL_labels_58 : decode cL_labels 58 = .ok (.iadd, 1) := by decide +kernel
theorem dL_labels_59 : decode cL_labels 59 = .ok (.if_icmp .ge 15, 3) := by decide +kernel
theorem dL_labels_62 : decode cL_labels 62 = .ok (.aload_n 0, 1) := by decide +kernel
theorem dL_labels_63 : decode cL_labels 63 = .ok (.iload 7, 2) := by decide +kernel
theorem dL_labels_65 : decode cL_labels 65 = .ok (.bipush 10, 2) := by decide +kernel
theorem dL_labels_67 : decode cL_labels 67 = .ok (.invokevirtual 15, 3) := by decide +kernel
theorem dL_labels_70 : decode cL_labels 70 = .ok (.iload_n 3, 1) := by decide +kernel
theorem dL_labels_71 : decode cL_labels 71 = .ok (.if_icmp .eq 5, 3) := by decide +kernel
theorem dL_labels_74 : decode cL_labels 74 = .ok (.iconst 0, 1) := by decide +kernel
theorem dL_labels_75 : decode cL_labels 75 = .ok (.ireturn, 1) := by decide +kernel
theorem dL_labels_76 : decode cL_labels 76 = .ok (.iload 7, 2) := by decide +kernel
theorem dL_labels_78 : decode cL_labels 78 = .ok (.istore 5, 2) := by decide +kernel
theorem dL_labels_80 : decode cL_labels 80 = .ok (.iinc 6 1, 3) := by decide +kernel
theorem dL_labels_83 : decode cL_labels 83 = .ok (.goto (-58), 3) := by decide +kernel
theorem dL_labels_86 : decode cL_labels 86 = .ok (.iconst 0, 1) := by decide +kernel
theorem dL_labels_87 : decode cL_labels 87 = .ok (.istore 6, 2) := by decide +kernel
theorem dL_labels_89 : decode cL_labels 89 = .ok (.iconst 0, 1) := by decide +kernel
theorem dL_labels_90 : decode cL_labels 90 = .ok (.istore 7, 2) := by decide +kernel
theorem dL_labels_92 : decode cL_labels 92 = .ok (.iconst 0, 1) := by decide +kernel
theorem dL_labels_93 : decode cL_labels 93 = .ok (.istore 8, 2) := by decide +kernel
theorem dL_labels_95 : decode cL_labels 95 = .ok (.iload 8, 2) := by decide +kernel
theorem dL_labels_97 : decode cL_labels 97 = .ok (.aload_n 0, 1) := by decide +kernel
theorem dL_labels_98 : decode cL_labels 98 = .ok (.invokevirtual 9, 3) := by decide +kernel
theorem dL_labels_101 : decode cL_labels 101 = .ok (.if_icmp .ge 62, 3) := by decide +kernel
theorem dL_labels_104 : decode cL_labels 104 = .ok (.iload 6, 2) := by decide +kernel
theorem dL_labels_106 : decode cL_labels 106 = .ok (.iload 8, 2) := by decide +kernel
theorem dL_labels_108 : decode cL_labels 108 = .ok (.iload_n 1, 1) := by decide +kernel
theorem dL_labels_109 : decode cL_labels 109 = .ok (.if_icmp .lt 32, 3) := by decide +kernel
theorem dL_labels_112 : decode cL_labels 112 = .ok (.iload 8, 2) := by decide +kernel
theorem dL_labels_114 : decode cL_labels 114 = .ok (.iload_n 1, 1) := by decide +kernel
theorem dL_labels_115 : decode cL_labels 115 = .ok (.aload_n 0, 1) := by decide +kernel
theorem dL_labels_116 : decode cL_labels 116 = .ok (.iload_n 1, 1) := by decide +kernel
theorem dL_labels_117 : decode cL_labels 117 = .ok (.iconst 3, 1) := by decide +kernel
theorem dL_labels_118 : decode cL_labels 118 = .ok (.invokevirtual 15, 3) := by decide +kernel
theorem dL_labels_121 : decode cL_labels 121 = .ok (.iadd, 1) := by decide +kernel
theorem dL_labels_122 : decode cL_labels 122 = .ok (.if_icmp .ge 19, 3) := by decide +kernel
theorem dL_labels_125 : decode cL_labels 125 = .ok (.aload_n 0, 1) := by decide +kernel
theorem dL_labels_126 : decode cL_labels 126 = .ok (.iload 8, 2) := by decide +kernel
theorem dL_labels_128 : decode cL_labels 128 = .ok (.bipush 10, 2) := by decide +kernel
theorem dL_labels_130 : decode cL_labels 130 = .ok (.invokevirtual 15, 3) := by decide +kernel
theorem dL_labels_133 : decode cL_labels 133 = .ok (.iload_n 3, 1) := by decide +kernel
theorem dL_labels_134 : decode cL_labels 134 = .ok (.if_icmp .ne 7, 3) := by decide +kernel
theorem dL_labels_137 : decode cL_labels 137 = .ok (.iconst 1, 1) := by decide +kernel
theorem dL_labels_138 : decode cL_labels 138 = .ok (.goto 4, 3) := by decide +kernel
theorem dL_labels_141 : decode cL_labels 141 = .ok (.iconst 0, 1) := by decide +kernel
theorem dL_labels_142 : decode cL_labels 142 = .ok (.iadd, 1) := by decide +kernel
theorem dL_labels_143 : decode cL_labels 143 = .ok (.istore 6, 2) := by decide +kernel
theorem dL_labels_145 : decode cL_labels 145 = .ok (.iload 7, 2) := by decide +kernel
theorem dL_labels_147 : decode cL_labels 147 = .ok (.aload_n 0, 1) := by decide +kernel
theorem dL_labels_148 : decode cL_labels 148 = .ok (.iload_n 1, 1) := by decide +kernel
theorem dL_labels_149 : decode cL_labels 149 = .ok (.iload 8, 2) := by decide +kernel
theorem dL_labels_151 : decode cL_labels 151 = .ok (.invokevirtual 56, 3) := by decide +kernel
theorem dL_labels_154 : decode cL_labels 154 = .ok (.iadd, 1) := by decide +kernel
theorem dL_labels_155 : decode cL_labels 155 = .ok (.istore 7, 2) := by decide +kernel
theorem dL_labels_157 : decode cL_labels 157 = .ok (.iinc 8 1, 3) := by decide +kernel
theorem dL_labels_160 : decode cL_labels 160 = .ok (.goto (-65), 3) := by decide +kernel
theorem dL_labels_163 : decode cL_labels 163 = .ok (.aload_n 0, 1) := by decide +kernel
theorem dL_labels_164 : decode cL_labels 164 = .ok (.iload_n 1, 1) := by decide +kernel
theorem dL_labels_165 : decode cL_labels 165 = .ok (.iconst 1, 1) := by decide +kernel
theorem dL_labels_166 : decode cL_labels 166 = .ok (.invokevirtual 15, 3) := by decide +kernel
theorem dL_labels_169 : decode cL_labels 169 = .ok (.istore 8, 2) := by decide +kernel
theorem dL_labels_171 : decode cL_labels 171 = .ok (.iload 8, 2) := by decide +kernel
theorem dL_labels_173 : decode cL_labels 173 = .ok (.ifCond .lt 27, 3) := by decide +kernel
theorem dL_labels_176 : decode cL_labels 176 = .ok (.aload_n 0, 1) := by decide +kernel
theorem dL_labels_177 : decode cL_labels 177 = .ok (.iload 8, 2) := by decide +kernel
theorem dL_labels_179 : decode cL_labels 179 = .ok (.bipush 10, 2) := by decide +kernel
theorem dL_labels_181 : decode cL_labels 181 = .ok (.invokevirtual 15, 3) := by decide +kernel
theorem dL_labels_184 : decode cL_labels 184 = .ok (.iload_n 3, 1) := by decide +kernel
theorem dL_labels_185 : decode cL_labels 185 = .ok (.if_icmp .eq 15, 3) := by decide +kernel
theorem dL_labels_188 : decode cL_labels 188 = .ok (.aload_n 0, 1) := by decide +kernel
theorem dL_labels_189 : decode cL_labels 189 = .ok (.iload 8, 2) := by decide +kernel
theorem dL_labels_191 : decode cL_labels 191 = .ok (.iconst 1, 1) := by decide +kernel
theorem dL_labels_192 : decode cL_labels 192 = .ok (.invokevirtual 15, 3) := by decide +kernel
theorem dL_labels_195 : decode cL_labels 195 = .ok (.istore 8, 2) := by decide +kernel
theorem dL_labels_197 : decode cL_labels 197 = .ok (.goto (-26), 3) := by decide +kernel
theorem dL_labels_200 : decode cL_labels 200 = .ok (.aload_n 0, 1) := by decide +kernel
theorem dL_labels_201 : decode cL_labels 201 = .ok (.iload_n 1, 1) := by decide +kernel
theorem dL_labels_202 : decode cL_labels 202 = .ok (.bipush 10, 2) := by decide +kernel
theorem dL_labels_204 : decode cL_labels 204 = .ok (.invokevirtual 15, 3) := by decide +kernel
theorem dL_labels_207 : decode cL_labels 207 = .ok (.aload_n 0, 1) := by decide +kernel
theorem dL_labels_208 : decode cL_labels 208 = .ok (.iload_n 2, 1) := by decide +kernel
theorem dL_labels_209 : decode cL_labels 209 = .ok (.bipush 10, 2) := by decide +kernel
theorem dL_labels_211 : decode cL_labels 211 = .ok (.invokevirtual 15, 3) := by decide +kernel
theorem dL_labels_214 : decode cL_labels 214 = .ok (.if_icmp .ne 22, 3) := by decide +kernel
theorem dL_labels_217 : decode cL_labels 217 = .ok (.aload_n 0, 1) := by decide +kernel
theorem dL_labels_218 : decode cL_labels 218 = .ok (.iload_n 1, 1) := by decide +kernel
theorem dL_labels_219 : decode cL_labels 219 = .ok (.iconst 2, 1) := by decide +kernel
theorem dL_labels_220 : decode cL_labels 220 = .ok (.invokevirtual 15, 3) := by decide +kernel
theorem dL_labels_223 : decode cL_labels 223 = .ok (.aload_n 0, 1) := by decide +kernel
theorem dL_labels_224 : decode cL_labels 224 = .ok (.iload_n 2, 1) := by decide +kernel
theorem dL_labels_225 : decode cL_labels 225 = .ok (.iconst 2, 1) := by decide +kernel
theorem dL_labels_226 : decode cL_labels 226 = .ok (.invokevirtual 15, 3) := by decide +kernel
theorem dL_labels_229 : decode cL_labels 229 = .ok (.if_icmp .ne 7, 3) := by decide +kernel
theorem dL_labels_232 : decode cL_labels 232 = .ok (.iconst 1, 1) := by decide +kernel
theorem dL_labels_233 : decode cL_labels 233 = .ok (.goto 4, 3) := by decide +kernel
theorem dL_labels_236 : decode cL_labels 236 = .ok (.iconst 0, 1) := by decide +kernel
theorem dL_labels_237 : decode cL_labels 237 = .ok (.istore 9, 2) := by decide +kernel
theorem dL_labels_239 : decode cL_labels 239 = .ok (.iconst 0, 1) := by decide +kernel
theorem dL_labels_240 : decode cL_labels 240 = .ok (.istore 10, 2) := by decide +kernel
theorem dL_labels_242 : decode cL_labels 242 = .ok (.iload 10, 2) := by decide +kernel
theorem dL_labels_244 : decode cL_labels 244 = .ok (.aload_n 0, 1) := by decide +kernel
theorem dL_labels_245 : decode cL_labels 245 = .ok (.iload_n 1, 1) := by decide +kernel
theorem dL_labels_246 : decode cL_labels 246 = .ok (.iconst 2, 1) := by decide +kernel
theorem dL_labels_247 : decode cL_labels 247 = .ok (.invokevirtual 15, 3) := by decide +kernel
theorem dL_labels_250 : decode cL_labels 250 = .ok (.if_icmp .ge 43, 3) := by decide +kernel
theorem dL_labels_253 : decode cL_labels 253 = .ok (.iload 9, 2) := by decide +kernel
theorem dL_labels_255 : decode cL_labels 255 = .ok (.ifCond .eq 38, 3) := by decide +kernel
theorem dL_labels_258 : decode cL_labels 258 = .ok (.aload_n 0, 1) := by decide +kernel
theorem dL_labels_259 : decode cL_labels 259 = .ok (.aload_n 0, 1) := by decide +kernel
theorem dL_labels_260 : decode cL_labels 260 = .ok (.iload_n 1, 1) := by decide +kernel
theorem dL_labels_261 : decode cL_labels 261 = .ok (.iload 10, 2) := by decide +kernel
theorem dL_labels_263 : decode cL_labels 263 = .ok (.invokevirtual 19, 3) := by decide +kernel
theorem dL_labels_266 : decode cL_labels 266 = .ok (.aload_n 0, 1) := by decide +kernel
theorem dL_labels_267 : decode cL_labels 267 = .ok (.iload_n 2, 1) := by decide +kernel
theorem dL_labels_268 : decode cL_labels 268 = .ok (.iload 10, 2) := by decide +kernel
theorem dL_labels_270 : decode cL_labels 270 = .ok (.invokevirtual 19, 3) := by decide +kernel
theorem dL_labels_273 : decode cL_labels 273 = .ok (.invokevirtual 56, 3) := by decide +kernel
theorem dL_labels_276 : decode cL_labels 276 = .ok (.iconst 1, 1) := by decide +kernel
theorem dL_labels_277 : decode cL_labels 277 = .ok (.if_icmp .ne 7, 3) := by decide +kernel
theorem dL_labels_280 : decode cL_labels 280 = .ok (.iconst 1, 1) := by decide +kernel
theorem dL_labels_281 : decode cL_labels 281 = .ok (.goto 4, 3) := by decide +kernel
theorem dL_labels_284 : decode cL_labels 284 = .ok (.iconst 0, 1) := by decide +kernel
theorem dL_labels_285 : decode cL_labels 285 = .ok (.istore 9, 2) := by decide +kernel
theorem dL_labels_287 : decode cL_labels 287 = .ok (.iinc 10 1, 3) := by decide +kernel
theorem dL_labels_290 : decode cL_labels 290 = .ok (.goto (-48), 3) := by decide +kernel
theorem dL_labels_293 : decode cL_labels 293 = .ok (.iload 6, 2) := by decide +kernel
theorem dL_labels_295 : decode cL_labels 295 = .ok (.iload 4, 2) := by decide +kernel
theorem dL_labels_297 : decode cL_labels 297 = .ok (.if_icmp .ne 95, 3) := by decide +kernel
theorem dL_labels_300 : decode cL_labels 300 = .ok (.aload_n 0, 1) := by decide +kernel
theorem dL_labels_301 : decode cL_labels 301 = .ok (.iload_n 1, 1) := by decide +kernel
theorem dL_labels_302 : decode cL_labels 302 = .ok (.iload_n 3, 1) := by decide +kernel
theorem dL_labels_303 : decode cL_labels 303 = .ok (.iload 4, 2) := by decide +kernel
theorem dL_labels_305 : decode cL_labels 305 = .ok (.invokevirtual 52, 3) := by decide +kernel
theorem dL_labels_308 : decode cL_labels 308 = .ok (.bipush (-5), 2) := by decide +kernel
theorem dL_labels_310 : decode cL_labels 310 = .ok (.if_icmp .ne 82, 3) := by decide +kernel
theorem dL_labels_313 : decode cL_labels 313 = .ok (.aload_n 0, 1) := by decide +kernel
theorem dL_labels_314 : decode cL_labels 314 = .ok (.iload_n 1, 1) := by decide +kernel
theorem dL_labels_315 : decode cL_labels 315 = .ok (.iload_n 3, 1) := by decide +kernel
theorem dL_labels_316 : decode cL_labels 316 = .ok (.iconst (-1), 1) := by decide +kernel
theorem dL_labels_317 : decode cL_labels 317 = .ok (.invokevirtual 52, 3) := by decide +kernel
theorem dL_labels_320 : decode cL_labels 320 = .ok (.bipush (-2), 2) := by decide +kernel
theorem dL_labels_322 : decode cL_labels 322 = .ok (.if_icmp .ne 70, 3) := by decide +kernel
theorem dL_labels_325 : decode cL_labels 325 = .ok (.aload_n 0, 1) := by decide +kernel
theorem dL_labels_326 : decode cL_labels 326 = .ok (.iload_n 1, 1) := by decide +kernel
theorem dL_labels_327 : decode cL_labels 327 = .ok (.bipush 65, 2) := by decide +kernel
theorem dL_labels_329 : decode cL_labels 329 = .ok (.iconst 0, 1) := by decide +kernel
theorem dL_labels_330 : decode cL_labels 330 = .ok (.invokevirtual 52, 3) := by decide +kernel
theorem dL_labels_333 : decode cL_labels 333 = .ok (.bipush (-2), 2) := by decide +kernel
theorem dL_labels_335 : decode cL_labels 335 = .ok (.if_icmp .ne 57, 3) := by decide +kernel
theorem dL_labels_338 : decode cL_labels 338 = .ok (.aload_n 0, 1) := by decide +kernel
theorem dL_labels_339 : decode cL_labels 339 = .ok (.iload_n 1, 1) := by decide +kernel
theorem dL_labels_340 : decode cL_labels 340 = .ok (.invokevirtual 59, 3) := by decide +kernel
theorem dL_labels_343 : decode cL_labels 343 = .ok (.iload 7, 2) := by decide +kernel
theorem dL_labels_345 : decode cL_labels 345 = .ok (.if_icmp .ne 47, 3) := by decide +kernel
theorem dL_labels_348 : decode cL_labels 348 = .ok (.aload_n 0, 1) := by decide +kernel
theorem dL_labels_349 : decode cL_labels 349 = .ok (.iload_n 1, 1) := by decide +kernel
theorem dL_labels_350 : decode cL_labels 350 = .ok (.iload_n 1, 1) := by decide +kernel
theorem dL_labels_351 : decode cL_labels 351 = .ok (.invokevirtual 56, 3) := by decide +kernel
theorem dL_labels_354 : decode cL_labels 354 = .ok (.iconst 1, 1) := by decide +kernel
theorem dL_labels_355 : decode cL_labels 355 = .ok (.if_icmp .ne 37, 3) := by decide +kernel
theorem dL_labels_358 : decode cL_labels 358 = .ok (.aload_n 0, 1) := by decide +kernel
theorem dL_labels_359 : decode cL_labels 359 = .ok (.iload_n 1, 1) := by decide +kernel
theorem dL_labels_360 : decode cL_labels 360 = .ok (.iload_n 3, 1) := by decide +kernel
theorem dL_labels_361 : decode cL_labels 361 = .ok (.invokevirtual 62, 3) := by decide +kernel
theorem dL_labels_364 : decode cL_labels 364 = .ok (.iload 8, 2) := by decide +kernel
theorem dL_labels_366 : decode cL_labels 366 = .ok (.if_icmp .ne 26, 3) := by decide +kernel
theorem dL_labels_369 : decode cL_labels 369 = .ok (.aload_n 0, 1) := by decide +kernel
theorem dL_labels_370 : decode cL_labels 370 = .ok (.iload_n 1, 1) := by decide +kernel
theorem dL_labels_371 : decode cL_labels 371 = .ok (.iload_n 2, 1) := by decide +kernel
theorem dL_labels_372 : decode cL_labels 372 = .ok (.invokevirtual 56, 3) := by decide +kernel
theorem dL_labels_375 : decode cL_labels 375 = .ok (.iload 9, 2) := by decide +kernel
theorem dL_labels_377 : decode cL_labels 377 = .ok (.ifCond .eq 7, 3) := by decide +kernel
theorem dL_labels_380 : decode cL_labels 380 = .ok (.iconst 1, 1) := by decide +kernel
theorem dL_labels_381 : decode cL_labels 381 = .ok (.goto 4, 3) := by decide +kernel
theorem dL_labels_384 : decode cL_labels 384 = .ok (.iconst 0, 1) := by decide +kernel
theorem dL_labels_385 : decode cL_labels 385 = .ok (.if_icmp .ne 7, 3) := by decide +kernel
theorem dL_labels_388 : decode cL_labels 388 = .ok (.iconst 1, 1) := by decide +kernel
theorem dL_labels_389 : decode cL_labels 389 = .ok (.goto 4, 3) := by decide +kernel
theorem dL_labels_392 : decode cL_labels 392 = .ok (.iconst 0, 1) := by decide +kernel
theorem dL_labels_393 : decode cL_labels 393 = .ok (.ireturn, 1) := by decide +kernel
set_option maxRecDepth 20000 in
theorem ggL_blocks_X4_size : GoodIn wsL_blocks wsX4_size := goodIn_r _ [5, 6, 7, 8, 9, 10, 11, 12, 122, 123, 124, 125, 126, 127, 128, 129, 130] (by decide +kernel) (by decide +kernel)
set_option maxRecDepth 20000 in
theorem gL_blocks_X4_size : GoodIn wsL_blocks (wsV RL 9 RX4 yX4_size wsX4_size) := goodIn_app (goodIn_of _ (by decide +kernel)) ggL_blocks_X4_size
set_option maxRecDepth 20000 in
theorem ggL_blocks_X4_space : GoodIn wsL_blocks wsX4_space := goodIn_r _ [16, 6, 17, 7, 8, 9, 10, 11, 12, 18, 19, 4, 20, 21, 22, 23, 24, 25, 26, 27, 28, 29, 30, 31, 32, 33, 34, 122, 123, 124, 125, 126, 127, 128, 129, 130, 131] (by decide +kernel) (by decide +kernel)
set_option maxRecDepth 20000 in
theorem gL_blocks_X4_space : GoodIn wsL_blocks (wsV RL 65 RX4 yX4_space wsX4_space) := goodIn_app (goodIn_of _ (by decide +kernel)) ggL_blocks_X4_space
set_option maxRecDepth 20000 in
theorem ggL_blocks_X4_block : GoodIn wsL_blocks wsX4_block := goodIn_r _ [38, 17, 6, 21, 22, 23, 24, 25, 26, 27, 28, 29, 30, 31, 32, 33, 10, 34, 12, 39, 40, 41, 42, 43, 44, 45, 46, 47, 48, 49, 50, 51, 52, 53, 54, 55, 56, 57, 58, 59, 60, 61, 62, 63, 64, 4, 65, 66, 67, 68, 69, 70, 71, 72, 73, 74, 75, 76, 77, 78, 79, 80, 81, 82, 83, 84, 85, 86, 87, 88, 89, 90, 122, 123, 124, 125, 131, 126, 127, 128, 129, 130] (by decide +kernel) (by decide +kernel)
set_option maxRecDepth 20000 in
theorem gL_blocks_X4_block : GoodIn wsL_blocks (wsV RL 68 RX4 yX4_block wsX4_block) := goodIn_app (goodIn_of _ (by decide +kernel)) ggL_blocks_X4_block
set_option maxRecDepth 20000 in
theorem ggL_blocks_X4_bracket : GoodIn wsL_blocks wsX4_bracket := goodIn_r _ [94, 6, 95, 32, 33, 10, 34, 12, 96, 97, 98, 99, 47, 48, 49, 50, 51, 52, 53, 54, 55, 56, 57, 58, 59, 60, 61, 62, 63, 64, 4, 65, 100, 44, 45, 46, 101, 102, 103, 104, 105, 43, 106, 107, 108, 109, 110, 111, 112, 113, 114, 115, 116, 117, 118, 119, 120, 121, 122, 123, 124, 125, 126, 127, 128, 129, 130] (by decide +kernel) (by decide +kernel)
set_option maxRecDepth 20000 in
theorem gL_blocks_X4_bracket : GoodIn wsL_blocks (wsV RL 25 RX4 yX4_bracket wsX4_bracket) := goodIn_app (goodIn_of _ (by decide +kernel)) ggL_blocks_X4_bracket
theorem dL_blocks_0 : decode cL_blocks 0 = .ok (.aload_n 0, 1) := by decide +kernel
theorem dL_blocks_1 : decode cL_blocks 1 = .ok (.invokevirtual 9, 3) := by decide +kernel
theorem dL_blocks_4 : decode cL_blocks 4 = .ok (.istore_n 2, 1) := by decide +kernel
theorem dL_blocks_5 : decode cL_blocks 5 = .ok (.aload_n 0, 1) := by decide +kernel
theorem dL_blocks_6 : decode cL_blocks 6 = .ok (.iconst 4, 1) := by decide +kernel
theorem dL_blocks_7 : decode cL_blocks 7 = .ok (.invokevirtual 65, 3) := by decide +kernel
theorem dL_blocks_10 : decode cL_blocks 10 = .ok (.istore_n 3, 1) := by decide +kernel
theorem dL_blocks_11 : decode cL_blocks 11 = .ok (.iconst 0, 1) := by decide +kernel
theorem dL_blocks_12 : decode cL_blocks 12 = .ok (.istore 4, 2) := by decide +kernel
theorem dL_blocks_14 : decode cL_blocks 14 = .ok (.iconst 0, 1) := by decide +kernel
theorem dL_blocks_15 : decode cL_blocks 15 = .ok (.istore 5, 2) := by decide +kernel
theorem dL_blocks_17 : decode cL_blocks 17 = .ok (.iconst 0, 1) := by decide +kernel
theorem dL_blocks_18 : decode cL_blocks 18 = .ok (.istore 6, 2) := by decide +kernel
theorem dL_blocks_20 : decode cL_blocks 20 = .ok (.iload 6, 2) := by decide +kernel
theorem dL_blocks_22 : decode cL_blocks 22 = .ok (.iload_n 3, 1) := by decide +kernel
theorem dL_blocks_23 : decode cL_blocks 23 = .ok (.if_icmp .ge 189, 3) := by decide +kernel
theorem dL_blocks_26 : decode cL_blocks 26 = .ok (.sipush 1000, 3) := by decide +kernel
theorem dL_blocks_29 : decode cL_blocks 29 = .ok (.istore 7, 2) := by decide +kernel
theorem dL_blocks_31 : decode cL_blocks 31 = .ok (.sipush (-1000), 3) := by decide +kernel
theorem dL_blocks_34 : decode cL_blocks 34 = .ok (.istore 8, 2) := by decide +kernel
theorem dL_blocks_36 : decode cL_blocks 36 = .ok (.aload_n 0, 1) := by decide +kernel
theorem dL_blocks_37 : decode cL_blocks 37 = .ok (.iload 6, 2) := by decide +kernel
theorem dL_blocks_39 : decode cL_blocks 39 = .ok (.iconst 3, 1) := by decide +kernel
theorem dL_blocks_40 : decode cL_blocks 40 = .ok (.invokevirtual 68, 3) := by decide +kernel
theorem dL_blocks_43 : decode cL_blocks 43 = .ok (.istore 9, 2) := by decide +kernel
theorem dL_blocks_45 : decode cL_blocks 45 = .ok (.aload_n 0, 1) := by decide +kernel
theorem dL_blocks_46 : decode cL_blocks 46 = .ok (.iload 6, 2) := by decide +kernel
theorem dL_blocks_48 : decode cL_blocks 48 = .ok (.iconst 0, 1) := by decide +kernel
theorem dL_blocks_49 : decode cL_blocks 49 = .ok (.invokevirtual 68, 3) := by decide +kernel
theorem dL_blocks_52 : decode cL_blocks 52 = .ok (.iload 5, 2) := by decide +kernel
theorem dL_blocks_54 : decode cL_blocks 54 = .ok (.if_icmp .ne 26, 3) := by decide +kernel
theorem dL_blocks_57 : decode cL_blocks 57 = .ok (.iload 9, 2) := by decide +kernel
theorem dL_blocks_59 : decode cL_blocks 59 = .ok (.iload 6, 2) := by decide +kernel
theorem dL_blocks_61 : decode cL_blocks 61 = .ok (.iconst 1, 1) := by decide +kernel
theorem dL_blocks_62 : decode cL_blocks 62 = .ok (.iadd, 1) := by decide +kernel
theorem dL_blocks_63 : decode cL_blocks 63 = .ok (.iload_n 3, 1) := by decide +kernel
theorem dL_blocks_64 : decode cL_blocks 64 = .ok (.if_icmp .ge 7, 3) := by decide +kernel
theorem dL_blocks_67 : decode cL_blocks 67 = .ok (.iload_n 1, 1) := by decide +kernel
theorem dL_blocks_68 : decode cL_blocks 68 = .ok (.goto 9, 3) := by decide +kernel
theorem dL_blocks_71 : decode cL_blocks 71 = .ok (.iconst 2, 1) := by decide +kernel
theorem dL_blocks_72 : decode cL_blocks 72 = .ok (.iload_n 2, 1) := by decide +kernel
theorem dL_blocks_73 : decode cL_blocks 73 = .ok (.imul, 1) := by decide +kernel
theorem dL_blocks_74 : decode cL_blocks 74 = .ok (.iload 4, 2) := by decide +kernel
theorem dL_blocks_76 : decode cL_blocks 76 = .ok (.isub, 1) := by decide +kernel
theorem dL_blocks_77 : decode cL_blocks 77 = .ok (.if_icmp .eq 5, 3) := by decide +kernel
theorem dL_blocks_80 : decode cL_blocks 80 = .ok (.iconst 0, 1) := by decide +kernel
theorem dL_blocks_81 : decode cL_blocks 81 = .ok (.ireturn, 1) := by decide +kernel
theorem dL_blocks_82 : decode cL_blocks 82 = .ok (.iconst 0, 1) := by decide +kernel
theorem dL_blocks_83 : decode cL_blocks 83 = .ok (.istore 10, 2) := by decide +kernel
theorem dL_blocks_85 : decode cL_blocks 85 = .ok (.iload 10, 2) := by decide +kernel
theorem dL_blocks_87 : decode cL_blocks 87 = .ok (.iload 9, 2) := by decide +kernel
theorem dL_blocks_89 : decode cL_blocks 89 = .ok (.if_icmp .ge 79, 3) := by decide +kernel
theorem dL_blocks_92 : decode cL_blocks 92 = .ok (.iload 5, 2) := by decide +kernel
theorem dL_blocks_94 : decode cL_blocks 94 = .ok (.aload_n 0, 1) := by decide +kernel
theorem dL_blocks_95 : decode cL_blocks 95 = .ok (.iload 4, 2) := by decide +kernel
theorem dL_blocks_97 : decode cL_blocks 97 = .ok (.iconst 0, 1) := by decide +kernel
theorem dL_blocks_98 : decode cL_blocks 98 = .ok (.invokevirtual 25, 3) := by decide +kernel
theorem dL_blocks_101 : decode cL_blocks 101 = .ok (.iconst 1, 1) := by decide +kernel
theorem dL_blocks_102 : decode cL_blocks 102 = .ok (.if_icmp .ne 7, 3) := by decide +kernel
theorem dL_blocks_105 : decode cL_blocks 105 = .ok (.iconst 1, 1) := by decide +kernel
theorem dL_blocks_106 : decode cL_blocks 106 = .ok (.goto 4, 3) := by decide +kernel
theorem dL_blocks_109 : decode cL_blocks 109 = .ok (.iconst (-1), 1) := by decide +kernel
theorem dL_blocks_110 : decode cL_blocks 110 = .ok (.iadd, 1) := by decide +kernel
theorem dL_blocks_111 : decode cL_blocks 111 = .ok (.istore 5, 2) := by decide +kernel
theorem dL_blocks_113 : decode cL_blocks 113 = .ok (.aload_n 0, 1) := by decide +kernel
theorem dL_blocks_114 : decode cL_blocks 114 = .ok (.iload 4, 2) := by decide +kernel
theorem dL_blocks_116 : decode cL_blocks 116 = .ok (.iconst 1, 1) := by decide +kernel
theorem dL_blocks_117 : decode cL_blocks 117 = .ok (.invokevirtual 25, 3) := by decide +kernel
theorem dL_blocks_120 : decode cL_blocks 120 = .ok (.iload 5, 2) := by decide +kernel
theorem dL_blocks_122 : decode cL_blocks 122 = .ok (.if_icmp .eq 5, 3) := by decide +kernel
theorem dL_blocks_125 : decode cL_blocks 125 = .ok (.iconst 0, 1) := by decide +kernel
theorem dL_blocks_126 : decode cL_blocks 126 = .ok (.ireturn, 1) := by decide +kernel
theorem dL_blocks_127 : decode cL_blocks 127 = .ok (.iload 5, 2) := by decide +kernel
theorem dL_blocks_129 : decode cL_blocks 129 = .ok (.iload 7, 2) := by decide +kernel
theorem dL_blocks_131 : decode cL_blocks 131 = .ok (.if_icmp .ge 8, 3) := by decide +kernel
theorem dL_blocks_134 : decode cL_blocks 134 = .ok (.iload 5, 2) := by decide +kernel
theorem dL_blocks_136 : decode cL_blocks 136 = .ok (.goto 5, 3) := by decide +kernel
theorem dL_blocks_139 : decode cL_blocks 139 = .ok (.iload 7, 2) := by decide +kernel
theorem dL_blocks_141 : decode cL_blocks 141 = .ok (.istore 7, 2) := by decide +kernel
theorem dL_blocks_143 : decode cL_blocks 143 = .ok (.iload 5, 2) := by decide +kernel
theorem dL_blocks_145 : decode cL_blocks 145 = .ok (.iload 8, 2) := by decide +kernel
theorem dL_blocks_147 : decode cL_blocks 147 = .ok (.if_icmp .le 8, 3) := by decide +kernel
theorem dL_blocks_150 : decode cL_blocks 150 = .ok (.iload 5, 2) := by decide +kernel
theorem dL_blocks_152 : decode cL_blocks 152 = .ok (.goto 5, 3) := by decide +kernel
theorem dL_blocks_155 : decode cL_blocks 155 = .ok (.iload 8, 2) := by decide +kernel
theorem dL_blocks_157 : decode cL_blocks 157 = .ok (.istore 8, 2) := by decide +kernel
theorem dL_blocks_159 : decode cL_blocks 159 = .ok (.iinc 4 1, 3) := by decide +kernel
theorem dL_blocks_162 : decode cL_blocks 162 = .ok (.iinc 10 1, 3) := by decide +kernel
theorem dL_blocks_165 : decode cL_blocks 165 = .ok (.goto (-80), 3) := by decide +kernel
theorem dL_blocks_168 : decode cL_blocks 168 = .ok (.aload_n 0, 1) := by decide +kernel
theorem dL_blocks_169 : decode cL_blocks 169 = .ok (.iload 6, 2) := by decide +kernel
theorem dL_blocks_171 : decode cL_blocks 171 = .ok (.iconst 1, 1) := by decide +kernel
theorem dL_blocks_172 : decode cL_blocks 172 = .ok (.invokevirtual 68, 3) := by decide +kernel
theorem dL_blocks_175 : decode cL_blocks 175 = .ok (.iload 7, 2) := by decide +kernel
theorem dL_blocks_177 : decode cL_blocks 177 = .ok (.if_icmp .ne 27, 3) := by decide +kernel
theorem dL_blocks_180 : decode cL_blocks 180 = .ok (.aload_n 0, 1) := by decide +kernel
theorem dL_blocks_181 : decode cL_blocks 181 = .ok (.iload 6, 2) := by decide +kernel
theorem dL_blocks_183 : decode cL_blocks 183 = .ok (.iconst 2, 1) := by decide +kernel
theorem dL_blocks_184 : decode cL_blocks 184 = .ok (.invokevirtual 68, 3) := by decide +kernel
theorem dL_blocks_187 : decode cL_blocks 187 = .ok (.iload 8, 2) := by decide +kernel
theorem dL_blocks_189 : decode cL_blocks 189 = .ok (.if_icmp .ne 15, 3) := by decide +kernel
theorem dL_blocks_192 : decode cL_blocks 192 = .ok (.aload_n 0, 1) := by decide +kernel
theorem dL_blocks_193 : decode cL_blocks 193 = .ok (.iload 6, 2) := by decide +kernel
theorem dL_blocks_195 : decode cL_blocks 195 = .ok (.iconst 4, 1) := by decide +kernel
theorem dL_blocks_196 : decode cL_blocks 196 = .ok (.invokevirtual 68, 3) := by decide +kernel
theorem dL_blocks_199 : decode cL_blocks 199 = .ok (.bipush (-2), 2) := by decide +kernel
theorem dL_blocks_201 : decode cL_blocks 201 = .ok (.if_icmp .eq 5, 3) := by decide +kernel
theorem dL_blocks_204 : decode cL_blocks 204 = .ok (.iconst 0, 1) := by decide +kernel
theorem dL_blocks_205 : decode cL_blocks 205 = .ok (.ireturn, 1) := by decide +kernel
theorem dL_blocks_206 : decode cL_blocks 206 = .ok (.iinc 6 1, 3) := by decide +kernel
theorem dL_blocks_209 : decode cL_blocks 209 = .ok (.goto (-189), 3) := by decide +kernel
theorem dL_blocks_212 : decode cL_blocks 212 = .ok (.iconst 1, 1) := by decide +kernel
theorem dL_blocks_213 : decode cL_blocks 213 = .ok (.istore 6, 2) := by decide +kernel
theorem dL_blocks_215 : decode cL_blocks 215 = .ok (.iload_n 2, 1) := by decide +kernel
theorem dL_blocks_216 : decode cL_blocks 216 = .ok (.iload 6, 2) := by decide +kernel
theorem dL_blocks_218 : decode cL_blocks 218 = .ok (.ishr, 1) := by decide +kernel
theorem dL_blocks_219 : decode cL_blocks 219 = .ok (.ifCond .le 9, 3) := by decide +kernel
theorem dL_blocks_222 : decode cL_blocks 222 = .ok (.iinc 6 1, 3) := by decide +kernel
theorem dL_blocks_225 : decode cL_blocks 225 = .ok (.goto (-10), 3) := by decide +kernel
theorem dL_blocks_228 : decode cL_blocks 228 = .ok (.iload 5, 2) := by decide +kernel
theorem dL_blocks_230 : decode cL_blocks 230 = .ok (.ifCond .ne 89, 3) := by decide +kernel
theorem dL_blocks_233 : decode cL_blocks 233 = .ok (.iload 4, 2) := by decide +kernel
theorem dL_blocks_235 : decode cL_blocks 235 = .ok (.iconst 2, 1) := by decide +kernel
theorem dL_blocks_236 : decode cL_blocks 236 = .ok (.iload_n 2, 1) := by decide +kernel
theorem dL_blocks_237 : decode cL_blocks 237 = .ok (.imul, 1) := by decide +kernel
theorem dL_blocks_238 : decode cL_blocks 238 = .ok (.if_icmp .ne 81, 3) := by decide +kernel
theorem dL_blocks_241 : decode cL_blocks 241 = .ok (.aload_n 0, 1) := by decide +kernel
theorem dL_blocks_242 : decode cL_blocks 242 = .ok (.iload_n 3, 1) := by decide +kernel
theorem dL_blocks_243 : decode cL_blocks 243 = .ok (.iconst 0, 1) := by decide +kernel
theorem dL_blocks_244 : decode cL_blocks 244 = .ok (.invokevirtual 68, 3) := by decide +kernel
theorem dL_blocks_247 : decode cL_blocks 247 = .ok (.iconst (-1), 1) := by decide +kernel
theorem dL_blocks_248 : decode cL_blocks 248 = .ok (.if_icmp .ne 71, 3) := by decide +kernel
theorem dL_blocks_251 : decode cL_blocks 251 = .ok (.aload_n 0, 1) := by decide +kernel
theorem dL_blocks_252 : decode cL_blocks 252 = .ok (.iconst 0, 1) := by decide +kernel
theorem dL_blocks_253 : decode cL_blocks 253 = .ok (.invokevirtual 65, 3) := by decide +kernel
theorem dL_blocks_256 : decode cL_blocks 256 = .ok (.iconst 2, 1) := by decide +kernel
theorem dL_blocks_257 : decode cL_blocks 257 = .ok (.iload_n 2, 1) := by decide +kernel
theorem dL_blocks_258 : decode cL_blocks 258 = .ok (.imul, 1) := by decide +kernel
theorem dL_blocks_259 : decode cL_blocks 259 = .ok (.if_icmp .ne 60, 3) := by decide +kernel
theorem dL_blocks_262 : decode cL_blocks 262 = .ok (.aload_n 0, 1) := by decide +kernel
theorem dL_blocks_263 : decode cL_blocks 263 = .ok (.iconst 1, 1) := by decide +kernel
theorem dL_blocks_264 : decode cL_blocks 264 = .ok (.invokevirtual 65, 3) := by decide +kernel
theorem dL_blocks_267 : decode cL_blocks 267 = .ok (.iconst 5, 1) := by decide +kernel
theorem dL_blocks_268 : decode cL_blocks 268 = .ok (.iload_n 2, 1) := by decide +kernel
theorem dL_blocks_269 : decode cL_blocks 269 = .ok (.imul, 1) := by decide +kernel
theorem dL_blocks_270 : decode cL_blocks 270 = .ok (.if_icmp .ne 49, 3) := by decide +kernel
theorem dL_blocks_273 : decode cL_blocks 273 = .ok (.aload_n 0, 1) := by decide +kernel
theorem dL_blocks_274 : decode cL_blocks 274 = .ok (.iconst 2, 1) := by decide +kernel
theorem dL_blocks_275 : decode cL_blocks 275 = .ok (.invokevirtual 65, 3) := by decide +kernel
theorem dL_blocks_278 : decode cL_blocks 278 = .ok (.iconst 3, 1) := by decide +kernel
theorem dL_blocks_279 : decode cL_blocks 279 = .ok (.iload 6, 2) := by decide +kernel
theorem dL_blocks_281 : decode cL_blocks 281 = .ok (.imul, 1) := by decide +kernel
theorem dL_blocks_282 : decode cL_blocks 282 = .ok (.iload_n 3, 1) := by decide +kernel
theorem dL_blocks_283 : decode cL_blocks 283 = .ok (.imul, 1) := by decide +kernel
theorem dL_blocks_284 : decode cL_blocks 284 = .ok (.if_icmp .ne 35, 3) := by decide +kernel
theorem dL_blocks_287 : decode cL_blocks 287 = .ok (.aload_n 0, 1) := by decide +kernel
theorem dL_blocks_288 : decode cL_blocks 288 = .ok (.iconst 3, 1) := by decide +kernel
theorem dL_blocks_289 : decode cL_blocks 289 = .ok (.invokevirtual 65, 3) := by decide +kernel
theorem dL_blocks_292 : decode cL_blocks 292 = .ok (.bipush 7, 2) := by decide +kernel
theorem dL_blocks_294 : decode cL_blocks 294 = .ok (.iload_n 2, 1) := by decide +kernel
theorem dL_blocks_295 : decode cL_blocks 295 = .ok (.imul, 1) := by decide +kernel
theorem dL_blocks_296 : decode cL_blocks 296 = .ok (.aload_n 0, 1) := by decide +kernel
theorem dL_blocks_297 : decode cL_blocks 297 = .ok (.iconst 2, 1) := by decide +kernel
theorem dL_blocks_298 : decode cL_blocks 298 = .ok (.invokevirtual 65, 3) := by decide +kernel
theorem dL_blocks_301 : decode cL_blocks 301 = .ok (.iadd, 1) := by decide +kernel
theorem dL_blocks_302 : decode cL_blocks 302 = .ok (.if_icmp .ne 17, 3) := by decide +kernel
theorem dL_blocks_305 : decode cL_blocks 305 = .ok (.aload_n 0, 1) := by decide +kernel
theorem dL_blocks_306 : decode cL_blocks 306 = .ok (.iconst 5, 1) := by decide +kernel
theorem dL_blocks_307 : decode cL_blocks 307 = .ok (.invokevirtual 65, 3) := by decide +kernel
theorem dL_blocks_310 : decode cL_blocks 310 = .ok (.bipush (-2), 2) := by decide +kernel
theorem dL_blocks_312 : decode cL_blocks 312 = .ok (.if_icmp .ne 7, 3) := by decide +kernel
theorem dL_blocks_315 : decode cL_blocks 315 = .ok (.iconst 1, 1) := by decide +kernel
theorem dL_blocks_316 : decode cL_blocks 316 = .ok (.goto 4, 3) := by decide +kernel
theorem dL_blocks_319 : decode cL_blocks 319 = .ok (.iconst 0, 1) := by decide +kernel
theorem dL_blocks_320 : decode cL_blocks 320 = .ok (.ireturn, 1) := by decide +kernel
set_option maxRecDepth 20000 in
theorem ggL_print_X4_size : GoodIn wsL_print wsX4_size := goodIn_r _ [7, 8, 9, 10, 11, 12, 13, 14, 87, 88, 89, 90, 91, 92, 93, 94, 95] (by decide +kernel) (by decide +kernel)
set_option maxRecDepth 20000 in
theorem gL_print_X4_size : GoodIn wsL_print (wsV RL 9 RX4 yX4_size wsX4_size) := goodIn_app (goodIn_of _ (by decide +kernel)) ggL_print_X4_size
set_option maxRecDepth 20000 in
theorem ggL_print_X4_node : GoodIn wsL_print wsX4_node := goodIn_r _ [18, 8, 19, 20, 21, 12, 22, 14, 23, 24, 25, 26, 27, 28, 29, 6, 30, 31, 32, 33, 34, 35, 36, 37, 38, 39, 40, 41, 42, 43, 44, 45, 46, 47, 48, 49, 50, 51, 52, 53, 54, 55, 56, 57, 58, 59, 60, 61, 62, 63, 64, 65, 66, 67, 68, 69, 70, 71, 72, 73, 74, 75, 76, 77, 78, 79, 80, 81, 82, 83, 84, 85, 86, 87, 88, 89, 90, 91, 92, 93, 94, 95] (by decide +kernel) (by decide +kernel)
set_option maxRecDepth 20000 in
theorem gL_print_X4_node : GoodIn wsL_print (wsV RL 15 RX4 yX4_node wsX4_node) := goodIn_app (goodIn_of _ (by decide +kernel)) ggL_print_X4_node
theorem dL_print_0 : decode cL_print 0 = .ok (.aload_n 0, 1) := by decide +kernel
theorem dL_print_1 : decode cL_print 1 = .ok (.invokevirtual 9, 3) := by decide +kernel
theorem dL_print_4 : decode cL_print 4 = .ok (.i2l, 1) := by decide +kernel
theorem dL_print_5 : decode cL_print 5 = .ok (.lstore_n 1, 1) := by decide +kernel
theorem dL_print_6 : decode cL_print 6 = .ok (.iconst 0, 1) := by decide +kernel
theorem dL_print_7 : decode cL_print 7 = .ok (.istore_n 3, 1) := by decide +kernel
theorem dL_print_8 : decode cL_print 8 = .ok (.iload_n 3, 1) := by decide +kernel
theorem dL_print_9 : decode cL_print 9 = .ok (.aload_n 0, 1) := by decide +kernel
theorem dL_print_10 : decode cL_print 10 = .ok (.invokevirtual 9, 3) := by decide +kernel
theorem dL_print_13 : decode cL_print 13 = .ok (.if_icmp .ge 36, 3) := by decide +kernel
theorem dL_print_16 : decode cL_print 16 = .ok (.ldc2_w 71, 3) := by decide +kernel
theorem dL_print_19 : decode cL_print 19 = .ok (.lload_n 1, 1) := by decide +kernel
theorem dL_print_20 : decode cL_print 20 = .ok (.lmul, 1) := by decide +kernel
theorem dL_print_21 : decode cL_print 21 = .ok (.ldc2_w 73, 3) := by decide +kernel
theorem dL_print_24 : decode cL_print 24 = .ok (.aload_n 0, 1) := by decide +kernel
theorem dL_print_25 : decode cL_print 25 = .ok (.iload_n 3, 1) := by decide +kernel
theorem dL_print_26 : decode cL_print 26 = .ok (.iconst 0, 1) := by decide +kernel
theorem dL_print_27 : decode cL_print 27 = .ok (.invokevirtual 15, 3) := by decide +kernel
theorem dL_print_30 : decode cL_print 30 = .ok (.i2l, 1) := by decide +kernel
theorem dL_print_31 : decode cL_print 31 = .ok (.lmul, 1) := by decide +kernel
theorem dL_print_32 : decode cL_print 32 = .ok (.ladd, 1) := by decide +kernel
theorem dL_print_33 : decode cL_print 33 = .ok (.aload_n 0, 1) := by decide +kernel
theorem dL_print_34 : decode cL_print 34 = .ok (.iload_n 3, 1) := by decide +kernel
theorem dL_print_35 : decode cL_print 35 = .ok (.bipush 10, 2) := by decide +kernel
theorem dL_print_37 : decode cL_print 37 = .ok (.invokevirtual 15, 3) := by decide +kernel
theorem dL_print_40 : decode cL_print 40 = .ok (.i2l, 1) := by decide +kernel
theorem dL_print_41 : decode cL_print 41 = .ok (.ladd, 1) := by decide +kernel
theorem dL_print_42 : decode cL_print 42 = .ok (.lstore_n 1, 1) := by decide +kernel
theorem dL_print_43 : decode cL_print 43 = .ok (.iinc 3 1, 3) := by decide +kernel
theorem dL_print_46 : decode cL_print 46 = .ok (.goto (-38), 3) := by decide +kernel
theorem dL_print_49 : decode cL_print 49 = .ok (.lload_n 1, 1) := by decide +kernel
theorem dL_print_50 : decode cL_print 50 = .ok (.lreturn, 1) := by decide +kernel
set_option maxRecDepth 20000 in
theorem ggL_texts_X4_written : GoodIn wsL_texts wsX4_written := goodIn_r _ [5, 6, 7, 8, 9, 10, 11, 12, 13, 14, 15, 16, 17, 18, 19, 20, 21, 22, 23, 24, 25, 26, 27, 28, 29, 30, 4, 31, 32, 33, 34, 35, 36, 37, 38, 39, 40, 199, 200, 201, 202, 203, 204, 205, 206, 207] (by decide +kernel) (by decide +kernel)
set_option maxRecDepth 20000 in
theorem gL_texts_X4_written : GoodIn wsL_texts (wsV RL 75 RX4 yX4_written wsX4_written) := goodIn_app (goodIn_of _ (by decide +kernel)) ggL_texts_X4_written
set_option maxRecDepth 20000 in
theorem ggL_texts_L_print : GoodIn wsL_texts wsL_print := goodIn_r _ [44, 45, 46, 47, 48, 49, 4, 50, 6, 51, 52, 53, 10, 54, 12, 55, 56, 57, 58, 59, 27, 28, 29, 60, 22, 23, 24, 25, 26, 30, 31, 61, 62, 63, 64, 21, 65, 66, 67, 68, 69, 70, 71, 72, 73, 74, 75, 76, 77, 78, 79, 80, 81, 82, 83, 84, 85, 86, 87, 88, 89, 90, 91, 92, 17, 18, 19, 20, 93, 94, 95, 96, 97, 98, 99, 100, 101, 102, 103, 104, 105, 106, 107, 37, 38, 39, 40, 199, 200, 201, 202, 203, 204, 205, 206, 207] (by decide +kernel) (by decide +kernel)
set_option maxRecDepth 20000 in
theorem gL_texts_L_print : GoodIn wsL_texts (va_wsS RL 78 yL_print wsL_print) := goodIn_app (goodIn_of _ (by decide +kernel)) ggL_texts_L_print
set_option maxRecDepth 20000 in
theorem ggL_texts_X4_size : GoodIn wsL_texts wsX4_size := goodIn_r _ [50, 6, 51, 52, 53, 10, 54, 12, 199, 200, 201, 202, 203, 204, 205, 206, 207] (by decide +kernel) (by decide +kernel)
set_option maxRecDepth 20000 in
theorem gL_texts_X4_size : GoodIn wsL_texts (wsV RL 9 RX4 yX4_size wsX4_size) := goodIn_app (goodIn_of _ (by decide +kernel)) ggL_texts_X4_size
set_option maxRecDepth 20000 in
theorem ggL_texts_X4_clearText : GoodIn wsL_texts wsX4_clearText := goodIn_r _ [111, 112, 113, 114, 115, 116, 117, 118, 199, 200, 201, 202, 208, 209] (by decide +kernel) (by decide +kernel)
set_option maxRecDepth 20000 in
theorem gL_texts_X4_clearText : GoodIn wsL_texts (wsV RL 84 RX4 yX4_clearText wsX4_clearText) := goodIn_app (goodIn_of _ (by decide +kernel)) ggL_texts_X4_clearText
set_option maxRecDepth 20000 in
theorem ggL_texts_X4_type : GoodIn wsL_texts wsX4_type := goodIn_r _ [122, 112, 123, 124, 125, 116, 126, 118, 127, 128, 4, 129, 199, 200, 201, 202, 208, 209] (by decide +kernel) (by decide +kernel)
set_option maxRecDepth 20000 in
theorem gL_texts_X4_type : GoodIn wsL_texts (wsV RL 87 RX4 yX4_type wsX4_type) := goodIn_app (goodIn_of _ (by decide +kernel)) ggL_texts_X4_type
set_option maxRecDepth 20000 in
theorem ggL_texts_X4_read : GoodIn wsL_texts wsX4_read := goodIn_r _ [133, 112, 134, 6, 135, 136, 137, 116, 138, 118, 127, 139, 140, 141, 142, 30, 4, 31, 143, 144, 145, 146, 147, 148, 149, 150, 151, 152, 153, 154, 155, 156, 157, 158, 159, 160, 161, 162, 163, 52, 53, 10, 54, 12, 128, 129, 164, 22, 23, 24, 25, 26, 27, 28, 29, 165, 37, 38, 39, 40, 166, 167, 168, 169, 170, 171, 172, 173, 174, 175, 176, 177, 178, 179, 180, 181, 51, 199, 200, 201, 202, 208, 209, 210, 211, 212, 213, 214, 203, 204, 205, 206, 207] (by decide +kernel) (by decide +kernel)
set_option maxRecDepth 20000 in
theorem gL_texts_X4_read : GoodIn wsL_texts (wsV RL 91 RX4 yX4_read wsX4_read) := goodIn_app (goodIn_of _ (by decide +kernel)) ggL_texts_X4_read
set_option maxRecDepth 20000 in
theorem ggL_texts_X4_undo : GoodIn wsL_texts wsX4_undo := goodIn_r _ [185, 134, 6, 186, 187, 188, 152, 189, 158, 190, 191, 192, 193, 154, 194, 195, 161, 196, 155, 156, 157, 30, 4, 31, 197, 171, 172, 10, 173, 12, 198, 175, 176, 177, 178, 179, 180, 181, 25, 40, 128, 129, 199, 200, 201, 202, 210, 211, 212, 213, 214, 203, 204, 205, 206, 207] (by decide +kernel) (by decide +kernel)
set_option maxRecDepth 20000 in
theorem gL_texts_X4_undo : GoodIn wsL_texts (wsV RL 94 RX4 yX4_undo wsX4_undo) := goodIn_app (goodIn_of _ (by decide +kernel)) ggL_texts_X4_undo
theorem dL_texts_0 : decode cL_texts 0 = .ok (.aload_n 0, 1) := by decide +kernel
theorem dL_texts_1 : decode cL_texts 1 = .ok (.iconst (-1), 1) := by decide +kernel
theorem dL_texts_2 : decode cL_texts 2 = .ok (.invokevirtual 75, 3) := by decide +kernel
theorem dL_texts_5 : decode cL_texts 5 = .ok (.istore_n 2, 1) := by decide +kernel
theorem dL_texts_6 : decode cL_texts 6 = .ok (.aload_n 0, 1) := by decide +kernel
theorem dL_texts_7 : decode cL_texts 7 = .ok (.invokestatic 78, 3) := by decide +kernel
theorem dL_texts_10 : decode cL_texts 10 = .ok (.lstore_n 3, 1) := by decide +kernel
theorem dL_texts_11 : decode cL_texts 11 = .ok (.aload_n 0, 1) := by decide +kernel
theorem dL_texts_12 : decode cL_texts 12 = .ok (.invokevirtual 9, 3) := by decide +kernel
theorem dL_texts_15 : decode cL_texts 15 = .ok (.istore 5, 2) := by decide +kernel
theorem dL_texts_17 : decode cL_texts 17 = .ok (.aload_n 0, 1) := by decide +kernel
theorem dL_texts_18 : decode cL_texts 18 = .ok (.iload_n 2, 1) := by decide +kernel
theorem dL_texts_19 : decode cL_texts 19 = .ok (.invokevirtual 75, 3) := by decide +kernel
theorem dL_texts_22 : decode cL_texts 22 = .ok (.bipush (-5), 2) := by decide +kernel
theorem dL_texts_24 : decode cL_texts 24 = .ok (.if_icmp .ne 14, 3) := by decide +kernel
theorem dL_texts_27 : decode cL_texts 27 = .ok (.aload_n 0, 1) := by decide +kernel
theorem dL_texts_28 : decode cL_texts 28 = .ok (.bipush (-2), 2) := by decide +kernel
theorem dL_texts_30 : decode cL_texts 30 = .ok (.invokevirtual 75, 3) := by decide +kernel
theorem dL_texts_33 : decode cL_texts 33 = .ok (.bipush (-2), 2) := by decide +kernel
theorem dL_texts_35 : decode cL_texts 35 = .ok (.if_icmp .eq 5, 3) := by decide +kernel
theorem dL_texts_38 : decode cL_texts 38 = .ok (.iconst 0, 1) := by decide +kernel
theorem dL_texts_39 : decode cL_texts 39 = .ok (.ireturn, 1) := by decide +kernel
theorem dL_texts_40 : decode cL_texts 40 = .ok (.iload_n 2, 1) := by decide +kernel
theorem dL_texts_41 : decode cL_texts 41 = .ok (.sipush 299, 3) := by decide +kernel
theorem dL_texts_44 : decode cL_texts 44 = .ok (.if_icmp .le 5, 3) := by decide +kernel
theorem dL_texts_47 : decode cL_texts 47 = .ok (.iconst 1, 1) := by decide +kernel
theorem dL_texts_48 : decode cL_texts 48 = .ok (.ireturn, 1) := by decide +kernel
theorem dL_texts_49 : decode cL_texts 49 = .ok (.aload_n 0, 1) := by decide +kernel
theorem dL_texts_50 : decode cL_texts 50 = .ok (.invokevirtual 84, 3) := by decide +kernel
theorem dL_texts_53 : decode cL_texts 53 = .ok (.pop, 1) := by decide +kernel
theorem dL_texts_54 : decode cL_texts 54 = .ok (.iconst 0, 1) := by decide +kernel
theorem dL_texts_55 : decode cL_texts 55 = .ok (.istore 6, 2) := by decide +kernel
theorem dL_texts_57 : decode cL_texts 57 = .ok (.iload 6, 2) := by decide +kernel
theorem dL_texts_59 : decode cL_texts 59 = .ok (.iload_n 2, 1) := by decide +kernel
theorem dL_texts_60 : decode cL_texts 60 = .ok (.if_icmp .ge 21, 3) := by decide +kernel
theorem dL_texts_63 : decode cL_texts 63 = .ok (.aload_n 0, 1) := by decide +kernel
theorem dL_texts_64 : decode cL_texts 64 = .ok (.aload_n 0, 1) := by decide +kernel
theorem dL_texts_65 : decode cL_texts 65 = .ok (.iload 6, 2) := by decide +kernel
theorem dL_texts_67 : decode cL_texts 67 = .ok (.invokevirtual 75, 3) := by decide +kernel
theorem dL_texts_70 : decode cL_texts 70 = .ok (.i2c, 1) := by decide +kernel
theorem dL_texts_71 : decode cL_texts 71 = .ok (.invokevirtual 87, 3) := by decide +kernel
theorem dL_texts_74 : decode cL_texts 74 = .ok (.pop, 1) := by decide +kernel
theorem dL_texts_75 : decode cL_texts 75 = .ok (.iinc 6 1, 3) := by decide +kernel
theorem dL_texts_78 : decode cL_texts 78 = .ok (.goto (-21), 3) := by decide +kernel
theorem dL_texts_81 : decode cL_texts 81 = .ok (.aload_n 0, 1) := by decide +kernel
theorem dL_texts_82 : decode cL_texts 82 = .ok (.invokevirtual 91, 3) := by decide +kernel
theorem dL_texts_85 : decode cL_texts 85 = .ok (.iload 5, 2) := by decide +kernel
theorem dL_texts_87 : decode cL_texts 87 = .ok (.if_icmp .ne 40, 3) := by decide +kernel
theorem dL_texts_90 : decode cL_texts 90 = .ok (.aload_n 0, 1) := by decide +kernel
theorem dL_texts_91 : decode cL_texts 91 = .ok (.invokestatic 78, 3) := by decide +kernel
theorem dL_texts_94 : decode cL_texts 94 = .ok (.lload_n 3, 1) := by decide +kernel
theorem dL_texts_95 : decode cL_texts 95 = .ok (.lcmp, 1) := by decide +kernel
theorem dL_texts_96 : decode cL_texts 96 = .ok (.ifCond .ne 31, 3) := by decide +kernel
theorem dL_texts_99 : decode cL_texts 99 = .ok (.aload_n 0, 1) := by decide +kernel
theorem dL_texts_100 : decode cL_texts 100 = .ok (.invokevirtual 94, 3) := by decide +kernel
theorem dL_texts_103 : decode cL_texts 103 = .ok (.iload_n 1, 1) := by decide +kernel
theorem dL_texts_104 : decode cL_texts 104 = .ok (.bipush 15, 2) := by decide +kernel
theorem dL_texts_106 : decode cL_texts 106 = .ok (.if_icmp .ge 7, 3) := by decide +kernel
theorem dL_texts_109 : decode cL_texts 109 = .ok (.iload_n 1, 1) := by decide +kernel
theorem dL_texts_110 : decode cL_texts 110 = .ok (.goto 5, 3) := by decide +kernel
theorem dL_texts_113 : decode cL_texts 113 = .ok (.bipush 14, 2) := by decide +kernel
theorem dL_texts_115 : decode cL_texts 115 = .ok (.if_icmp .ne 12, 3) := by decide +kernel
theorem dL_texts_118 : decode cL_texts 118 = .ok (.aload_n 0, 1) := by decide +kernel
theorem dL_texts_119 : decode cL_texts 119 = .ok (.invokestatic 78, 3) := by decide +kernel
theorem dL_texts_122 : decode cL_texts 122 = .ok (.lload_n 3, 1) := by decide +kernel
theorem dL_texts_123 : decode cL_texts 123 = .ok (.lcmp, 1) := by decide +kernel
theorem dL_texts_124 : decode cL_texts 124 = .ok (.ifCond .eq 5, 3) := by decide +kernel
theorem dL_texts_127 : decode cL_texts 127 = .ok (.iconst 0, 1) := by decide +kernel
theorem dL_texts_128 : decode cL_texts 128 = .ok (.ireturn, 1) := by decide +kernel
theorem dL_texts_129 : decode cL_texts 129 = .ok (.aload_n 0, 1) := by decide +kernel
theorem dL_texts_130 : decode cL_texts 130 = .ok (.bipush 98, 2) := by decide +kernel
theorem dL_texts_132 : decode cL_texts 132 = .ok (.invokevirtual 87, 3) := by decide +kernel
theorem dL_texts_135 : decode cL_texts 135 = .ok (.pop, 1) := by decide +kernel
theorem dL_texts_136 : decode cL_texts 136 = .ok (.aload_n 0, 1) := by decide +kernel
theorem dL_texts_137 : decode cL_texts 137 = .ok (.invokevirtual 91, 3) := by decide +kernel
theorem dL_texts_140 : decode cL_texts 140 = .ok (.bipush (-100), 2) := by decide +kernel
theorem dL_texts_142 : decode cL_texts 142 = .ok (.iload_n 2, 1) := by decide +kernel
theorem dL_texts_143 : decode cL_texts 143 = .ok (.isub, 1) := by decide +kernel
theorem dL_texts_144 : decode cL_texts 144 = .ok (.if_icmp .ne 7, 3) := by decide +kernel
theorem dL_texts_147 : decode cL_texts 147 = .ok (.iconst 1, 1) := by decide +kernel
theorem dL_texts_148 : decode cL_texts 148 = .ok (.goto 4, 3) := by decide +kernel
theorem dL_texts_151 : decode cL_texts 151 = .ok (.iconst 0, 1) := by decide +kernel
theorem dL_texts_152 : decode cL_texts 152 = .ok (.istore 6, 2) := by decide +kernel
theorem dL_texts_154 : decode cL_texts 154 = .ok (.aload_n 0, 1) := by decide +kernel
theorem dL_texts_155 : decode cL_texts 155 = .ok (.invokevirtual 84, 3) := by decide +kernel
theorem dL_texts_158 : decode cL_texts 158 = .ok (.pop, 1) := by decide +kernel
theorem dL_texts_159 : decode cL_texts 159 = .ok (.aload_n 0, 1) := by decide +kernel
theorem dL_texts_160 : decode cL_texts 160 = .ok (.invokevirtual 91, 3) := by decide +kernel
theorem dL_texts_163 : decode cL_texts 163 = .ok (.bipush (-100), 2) := by decide +kernel
theorem dL_texts_165 : decode cL_texts 165 = .ok (.if_icmp .ne 7, 3) := by decide +kernel
theorem dL_texts_168 : decode cL_texts 168 = .ok (.iconst 1, 1) := by decide +kernel
theorem dL_texts_169 : decode cL_texts 169 = .ok (.goto 4, 3) := by decide +kernel
theorem dL_texts_172 : decode cL_texts 172 = .ok (.iconst 0, 1) := by decide +kernel
theorem dL_texts_173 : decode cL_texts 173 = .ok (.istore 7, 2) := by decide +kernel
theorem dL_texts_175 : decode cL_texts 175 = .ok (.aload_n 0, 1) := by decide +kernel
theorem dL_texts_176 : decode cL_texts 176 = .ok (.bipush 113, 2) := by decide +kernel
theorem dL_texts_178 : decode cL_texts 178 = .ok (.invokevirtual 87, 3) := by decide +kernel
theorem dL_texts_181 : decode cL_texts 181 = .ok (.pop, 1) := by decide +kernel
theorem dL_texts_182 : decode cL_texts 182 = .ok (.aload_n 0, 1) := by decide +kernel
theorem dL_texts_183 : decode cL_texts 183 = .ok (.bipush 40, 2) := by decide +kernel
theorem dL_texts_185 : decode cL_texts 185 = .ok (.invokevirtual 87, 3) := by decide +kernel
theorem dL_texts_188 : decode cL_texts 188 = .ok (.pop, 1) := by decide +kernel
theorem dL_texts_189 : decode cL_texts 189 = .ok (.aload_n 0, 1) := by decide +kernel
theorem dL_texts_190 : decode cL_texts 190 = .ok (.invokevirtual 91, 3) := by decide +kernel
theorem dL_texts_193 : decode cL_texts 193 = .ok (.bipush (-102), 2) := by decide +kernel
theorem dL_texts_195 : decode cL_texts 195 = .ok (.if_icmp .ne 7, 3) := by decide +kernel
theorem dL_texts_198 : decode cL_texts 198 = .ok (.iconst 1, 1) := by decide +kernel
theorem dL_texts_199 : decode cL_texts 199 = .ok (.goto 4, 3) := by decide +kernel
theorem dL_texts_202 : decode cL_texts 202 = .ok (.iconst 0, 1) := by decide +kernel
theorem dL_texts_203 : decode cL_texts 203 = .ok (.istore 8, 2) := by decide +kernel
theorem dL_texts_205 : decode cL_texts 205 = .ok (.aload_n 0, 1) := by decide +kernel
theorem dL_texts_206 : decode cL_texts 206 = .ok (.bipush 41, 2) := by decide +kernel
theorem dL_texts_208 : decode cL_texts 208 = .ok (.invokevirtual 87, 3) := by decide +kernel
theorem dL_texts_211 : decode cL_texts 211 = .ok (.pop, 1) := by decide +kernel
theorem dL_texts_212 : decode cL_texts 212 = .ok (.iload 6, 2) := by decide +kernel
theorem dL_texts_214 : decode cL_texts 214 = .ok (.ifCond .eq 35, 3) := by decide +kernel
theorem dL_texts_217 : decode cL_texts 217 = .ok (.iload 7, 2) := by decide +kernel
theorem dL_texts_219 : decode cL_texts 219 = .ok (.ifCond .eq 30, 3) := by decide +kernel
theorem dL_texts_222 : decode cL_texts 222 = .ok (.iload 8, 2) := by decide +kernel
theorem dL_texts_224 : decode cL_texts 224 = .ok (.ifCond .eq 25, 3) := by decide +kernel
theorem dL_texts_227 : decode cL_texts 227 = .ok (.aload_n 0, 1) := by decide +kernel
theorem dL_texts_228 : decode cL_texts 228 = .ok (.invokevirtual 91, 3) := by decide +kernel
theorem dL_texts_231 : decode cL_texts 231 = .ok (.bipush (-102), 2) := by decide +kernel
theorem dL_texts_233 : decode cL_texts 233 = .ok (.if_icmp .ne 16, 3) := by decide +kernel
theorem dL_texts_236 : decode cL_texts 236 = .ok (.aload_n 0, 1) := by decide +kernel
theorem dL_texts_237 : decode cL_texts 237 = .ok (.invokestatic 78, 3) := by decide +kernel
theorem dL_texts_240 : decode cL_texts 240 = .ok (.lload_n 3, 1) := by decide +kernel
theorem dL_texts_241 : decode cL_texts 241 = .ok (.lcmp, 1) := by decide +kernel
theorem dL_texts_242 : decode cL_texts 242 = .ok (.ifCond .ne 7, 3) := by decide +kernel
theorem dL_texts_245 : decode cL_texts 245 = .ok (.iconst 1, 1) := by decide +kernel
theorem dL_texts_246 : decode cL_texts 246 = .ok (.goto 4, 3) := by decide +kernel
theorem dL_texts_249 : decode cL_texts 249 = .ok (.iconst 0, 1) := by decide +kernel
theorem dL_texts_250 : decode cL_texts 250 = .ok (.ireturn, 1) := by decide +kernel
