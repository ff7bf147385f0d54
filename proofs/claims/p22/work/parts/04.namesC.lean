theorem dX4_init_0 : decode cX4_init 0 = .ok (.aload_n 0, 1) := by decide +kernel
theorem dX4_init_1 : decode cX4_init 1 = .ok (.invokespecial 3, 3) := by decide +kernel
theorem dX4_init_4 : decode cX4_init 4 = .ok (.aload_n 0, 1) := by decide +kernel
theorem dX4_init_5 : decode cX4_init 5 = .ok (.bipush 100, 2) := by decide +kernel
theorem dX4_init_7 : decode cX4_init 7 = .ok (.putfield 9, 3) := by decide +kernel
theorem dX4_init_10 : decode cX4_init 10 = .ok (.aload_n 0, 1) := by decide +kernel
theorem dX4_init_11 : decode cX4_init 11 = .ok (.sipush 500, 3) := by decide +kernel
theorem dX4_init_14 : decode cX4_init 14 = .ok (.putfield 15, 3) := by decide +kernel
theorem dX4_init_17 : decode cX4_init 17 = .ok (.aload_n 0, 1) := by decide +kernel
theorem dX4_init_18 : decode cX4_init 18 = .ok (.sipush 300, 3) := by decide +kernel
theorem dX4_init_21 : decode cX4_init 21 = .ok (.putfield 18, 3) := by decide +kernel
theorem dX4_init_24 : decode cX4_init 24 = .ok (.aload_n 0, 1) := by decide +kernel
theorem dX4_init_25 : decode cX4_init 25 = .ok (.bipush 10, 2) := by decide +kernel
theorem dX4_init_27 : decode cX4_init 27 = .ok (.newarray .int, 2) := by decide +kernel
theorem dX4_init_29 : decode cX4_init 29 = .ok (.putfield 21, 3) := by decide +kernel
theorem dX4_init_32 : decode cX4_init 32 = .ok (.aload_n 0, 1) := by decide +kernel
theorem dX4_init_33 : decode cX4_init 33 = .ok (.bipush 10, 2) := by decide +kernel
theorem dX4_init_35 : decode cX4_init 35 = .ok (.newarray .int, 2) := by decide +kernel
theorem dX4_init_37 : decode cX4_init 37 = .ok (.putfield 25, 3) := by decide +kernel
theorem dX4_init_40 : decode cX4_init 40 = .ok (.aload_n 0, 1) := by decide +kernel
theorem dX4_init_41 : decode cX4_init 41 = .ok (.bipush 10, 2) := by decide +kernel
theorem dX4_init_43 : decode cX4_init 43 = .ok (.newarray .int, 2) := by decide +kernel
theorem dX4_init_45 : decode cX4_init 45 = .ok (.putfield 28, 3) := by decide +kernel
theorem dX4_init_48 : decode cX4_init 48 = .ok (.aload_n 0, 1) := by decide +kernel
theorem dX4_init_49 : decode cX4_init 49 = .ok (.bipush 10, 2) := by decide +kernel
theorem dX4_init_51 : decode cX4_init 51 = .ok (.newarray .int, 2) := by decide +kernel
theorem dX4_init_53 : decode cX4_init 53 = .ok (.putfield 31, 3) := by decide +kernel
theorem dX4_init_56 : decode cX4_init 56 = .ok (.aload_n 0, 1) := by decide +kernel
theorem dX4_init_57 : decode cX4_init 57 = .ok (.bipush 10, 2) := by decide +kernel
theorem dX4_init_59 : decode cX4_init 59 = .ok (.newarray .int, 2) := by decide +kernel
theorem dX4_init_61 : decode cX4_init 61 = .ok (.putfield 34, 3) := by decide +kernel
theorem dX4_init_64 : decode cX4_init 64 = .ok (.aload_n 0, 1) := by decide +kernel
theorem dX4_init_65 : decode cX4_init 65 = .ok (.bipush 10, 2) := by decide +kernel
theorem dX4_init_67 : decode cX4_init 67 = .ok (.newarray .int, 2) := by decide +kernel
theorem dX4_init_69 : decode cX4_init 69 = .ok (.putfield 37, 3) := by decide +kernel
theorem dX4_init_72 : decode cX4_init 72 = .ok (.aload_n 0, 1) := by decide +kernel
theorem dX4_init_73 : decode cX4_init 73 = .ok (.bipush 100, 2) := by decide +kernel
theorem dX4_init_75 : decode cX4_init 75 = .ok (.newarray .int, 2) := by decide +kernel
theorem dX4_init_77 : decode cX4_init 77 = .ok (.putfield 40, 3) := by decide +kernel
theorem dX4_init_80 : decode cX4_init 80 = .ok (.aload_n 0, 1) := by decide +kernel
theorem dX4_init_81 : decode cX4_init 81 = .ok (.bipush 10, 2) := by decide +kernel
theorem dX4_init_83 : decode cX4_init 83 = .ok (.newarray .int, 2) := by decide +kernel
theorem dX4_init_85 : decode cX4_init 85 = .ok (.putfield 43, 3) := by decide +kernel
theorem dX4_init_88 : decode cX4_init 88 = .ok (.aload_n 0, 1) := by decide +kernel
theorem dX4_init_89 : decode cX4_init 89 = .ok (.bipush 10, 2) := by decide +kernel
theorem dX4_init_91 : decode cX4_init 91 = .ok (.newarray .int, 2) := by decide +kernel
theorem dX4_init_93 : decode cX4_init 93 = .ok (.putfield 46, 3) := by decide +kernel
theorem dX4_init_96 : decode cX4_init 96 = .ok (.aload_n 0, 1) := by decide +kernel
theorem dX4_init_97 : decode cX4_init 97 = .ok (.bipush 10, 2) := by decide +kernel
theorem dX4_init_99 : decode cX4_init 99 = .ok (.newarray .int, 2) := by decide +kernel
theorem dX4_init_101 : decode cX4_init 101 = .ok (.putfield 49, 3) := by decide +kernel
theorem dX4_init_104 : decode cX4_init 104 = .ok (.aload_n 0, 1) := by decide +kernel
theorem dX4_init_105 : decode cX4_init 105 = .ok (.iconst 3, 1) := by decide +kernel
theorem dX4_init_106 : decode cX4_init 106 = .ok (.newarray .int, 2) := by decide +kernel
theorem dX4_init_108 : decode cX4_init 108 = .ok (.putfield 52, 3) := by decide +kernel
theorem dX4_init_111 : decode cX4_init 111 = .ok (.aload_n 0, 1) := by decide +kernel
theorem dX4_init_112 : decode cX4_init 112 = .ok (.bipush 40, 2) := by decide +kernel
theorem dX4_init_114 : decode cX4_init 114 = .ok (.newarray .int, 2) := by decide +kernel
theorem dX4_init_116 : decode cX4_init 116 = .ok (.putfield 55, 3) := by decide +kernel
theorem dX4_init_119 : decode cX4_init 119 = .ok (.aload_n 0, 1) := by decide +kernel
theorem dX4_init_120 : decode cX4_init 120 = .ok (.bipush 6, 2) := by decide +kernel
theorem dX4_init_122 : decode cX4_init 122 = .ok (.newarray .int, 2) := by decide +kernel
theorem dX4_init_124 : decode cX4_init 124 = .ok (.putfield 58, 3) := by decide +kernel
theorem dX4_init_127 : decode cX4_init 127 = .ok (.aload_n 0, 1) := by decide +kernel
theorem dX4_init_128 : decode cX4_init 128 = .ok (.bipush 6, 2) := by decide +kernel
theorem dX4_init_130 : decode cX4_init 130 = .ok (.newarray .int, 2) := by decide +kernel
theorem dX4_init_132 : decode cX4_init 132 = .ok (.putfield 61, 3) := by decide +kernel
theorem dX4_init_135 : decode cX4_init 135 = .ok (.aload_n 0, 1) := by decide +kernel
theorem dX4_init_136 : decode cX4_init 136 = .ok (.bipush 10, 2) := by decide +kernel
theorem dX4_init_138 : decode cX4_init 138 = .ok (.newarray .int, 2) := by decide +kernel
theorem dX4_init_140 : decode cX4_init 140 = .ok (.putfield 64, 3) := by decide +kernel
theorem dX4_init_143 : decode cX4_init 143 = .ok (.iconst 0, 1) := by decide +kernel
theorem dX4_init_144 : decode cX4_init 144 = .ok (.istore_n 1, 1) := by decide +kernel
theorem dX4_init_145 : decode cX4_init 145 = .ok (.iload_n 1, 1) := by decide +kernel
theorem dX4_init_146 : decode cX4_init 146 = .ok (.bipush 40, 2) := by decide +kernel
theorem dX4_init_148 : decode cX4_init 148 = .ok (.if_icmp .ge 17, 3) := by decide +kernel
theorem dX4_init_151 : decode cX4_init 151 = .ok (.aload_n 0, 1) := by decide +kernel
theorem dX4_init_152 : decode cX4_init 152 = .ok (.getfield 55, 3) := by decide +kernel
theorem dX4_init_155 : decode cX4_init 155 = .ok (.iload_n 1, 1) := by decide +kernel
theorem dX4_init_156 : decode cX4_init 156 = .ok (.bipush 20, 2) := by decide +kernel
theorem dX4_init_158 : decode cX4_init 158 = .ok (.iastore, 1) := by decide +kernel
theorem dX4_init_159 : decode cX4_init 159 = .ok (.iinc 1 1, 3) := by decide +kernel
theorem dX4_init_162 : decode cX4_init 162 = .ok (.goto (-17), 3) := by decide +kernel
theorem dX4_init_165 : decode cX4_init 165 = .ok (.iconst 0, 1) := by decide +kernel
theorem dX4_init_166 : decode cX4_init 166 = .ok (.istore_n 1, 1) := by decide +kernel
theorem dX4_init_167 : decode cX4_init 167 = .ok (.iload_n 1, 1) := by decide +kernel
theorem dX4_init_168 : decode cX4_init 168 = .ok (.iconst 3, 1) := by decide +kernel
theorem dX4_init_169 : decode cX4_init 169 = .ok (.if_icmp .ge 17, 3) := by decide +kernel
theorem dX4_init_172 : decode cX4_init 172 = .ok (.aload_n 0, 1) := by decide +kernel
theorem dX4_init_173 : decode cX4_init 173 = .ok (.getfield 52, 3) := by decide +kernel
theorem dX4_init_176 : decode cX4_init 176 = .ok (.iload_n 1, 1) := by decide +kernel
theorem dX4_init_177 : decode cX4_init 177 = .ok (.bipush 10, 2) := by decide +kernel
theorem dX4_init_179 : decode cX4_init 179 = .ok (.iastore, 1) := by decide +kernel
theorem dX4_init_180 : decode cX4_init 180 = .ok (.iinc 1 1, 3) := by decide +kernel
theorem dX4_init_183 : decode cX4_init 183 = .ok (.goto (-16), 3) := by decide +kernel
theorem dX4_init_186 : decode cX4_init 186 = .ok (.iconst 0, 1) := by decide +kernel
theorem dX4_init_187 : decode cX4_init 187 = .ok (.istore_n 1, 1) := by decide +kernel
theorem dX4_init_188 : decode cX4_init 188 = .ok (.iload_n 1, 1) := by decide +kernel
theorem dX4_init_189 : decode cX4_init 189 = .ok (.bipush 100, 2) := by decide +kernel
theorem dX4_init_191 : decode cX4_init 191 = .ok (.if_icmp .ge 16, 3) := by decide +kernel
theorem dX4_init_194 : decode cX4_init 194 = .ok (.aload_n 0, 1) := by decide +kernel
theorem dX4_init_195 : decode cX4_init 195 = .ok (.getfield 40, 3) := by decide +kernel
theorem dX4_init_198 : decode cX4_init 198 = .ok (.iload_n 1, 1) := by decide +kernel
theorem dX4_init_199 : decode cX4_init 199 = .ok (.iconst (-1), 1) := by decide +kernel
theorem dX4_init_200 : decode cX4_init 200 = .ok (.iastore, 1) := by decide +kernel
theorem dX4_init_201 : decode cX4_init 201 = .ok (.iinc 1 1, 3) := by decide +kernel
theorem dX4_init_204 : decode cX4_init 204 = .ok (.goto (-16), 3) := by decide +kernel
theorem dX4_init_207 : decode cX4_init 207 = .ok (.return_, 1) := by decide +kernel
theorem dX4_isPiece_0 : decode cX4_isPiece 0 = .ok (.iload_n 1, 1) := by decide +kernel
theorem dX4_isPiece_1 : decode cX4_isPiece 1 = .ok (.ifCond .lt 15, 3) := by decide +kernel
theorem dX4_isPiece_4 : decode cX4_isPiece 4 = .ok (.iload_n 1, 1) := by decide +kernel
theorem dX4_isPiece_5 : decode cX4_isPiece 5 = .ok (.aload_n 0, 1) := by decide +kernel
theorem dX4_isPiece_6 : decode cX4_isPiece 6 = .ok (.getfield 67, 3) := by decide +kernel
theorem dX4_isPiece_9 : decode cX4_isPiece 9 = .ok (.if_icmp .ge 7, 3) := by decide +kernel
theorem dX4_isPiece_12 : decode cX4_isPiece 12 = .ok (.iconst 1, 1) := by decide +kernel
theorem dX4_isPiece_13 : decode cX4_isPiece 13 = .ok (.goto 4, 3) := by decide +kernel
theorem dX4_isPiece_16 : decode cX4_isPiece 16 = .ok (.iconst 0, 1) := by decide +kernel
theorem dX4_isPiece_17 : decode cX4_isPiece 17 = .ok (.ireturn, 1) := by decide +kernel
theorem dX4_isDay_0 : decode cX4_isDay 0 = .ok (.iload_n 0, 1) := by decide +kernel
theorem dX4_isDay_1 : decode cX4_isDay 1 = .ok (.ifCond .lt 13, 3) := by decide +kernel
theorem dX4_isDay_4 : decode cX4_isDay 4 = .ok (.iload_n 0, 1) := by decide +kernel
theorem dX4_isDay_5 : decode cX4_isDay 5 = .ok (.bipush 40, 2) := by decide +kernel
theorem dX4_isDay_7 : decode cX4_isDay 7 = .ok (.if_icmp .ge 7, 3) := by decide +kernel
theorem dX4_isDay_10 : decode cX4_isDay 10 = .ok (.iconst 1, 1) := by decide +kernel
theorem dX4_isDay_11 : decode cX4_isDay 11 = .ok (.goto 4, 3) := by decide +kernel
theorem dX4_isDay_14 : decode cX4_isDay 14 = .ok (.iconst 0, 1) := by decide +kernel
theorem dX4_isDay_15 : decode cX4_isDay 15 = .ok (.ireturn, 1) := by decide +kernel
theorem dX4_piece_0 : decode cX4_piece 0 = .ok (.iload_n 1, 1) := by decide +kernel
theorem dX4_piece_1 : decode cX4_piece 1 = .ok (.ifCond .lt 28, 3) := by decide +kernel
theorem dX4_piece_4 : decode cX4_piece 4 = .ok (.iload_n 1, 1) := by decide +kernel
theorem dX4_piece_5 : decode cX4_piece 5 = .ok (.iconst 3, 1) := by decide +kernel
theorem dX4_piece_6 : decode cX4_piece 6 = .ok (.if_icmp .gt 23, 3) := by decide +kernel
theorem dX4_piece_9 : decode cX4_piece 9 = .ok (.iload_n 2, 1) := by decide +kernel
theorem dX4_piece_10 : decode cX4_piece 10 = .ok (.ifCond .lt 19, 3) := by decide +kernel
theorem dX4_piece_13 : decode cX4_piece 13 = .ok (.iload_n 2, 1) := by decide +kernel
theorem dX4_piece_14 : decode cX4_piece 14 = .ok (.iconst 5, 1) := by decide +kernel
theorem dX4_piece_15 : decode cX4_piece 15 = .ok (.if_icmp .gt 14, 3) := by decide +kernel
theorem dX4_piece_18 : decode cX4_piece 18 = .ok (.iload 4, 2) := by decide +kernel
theorem dX4_piece_20 : decode cX4_piece 20 = .ok (.ifCond .lt 9, 3) := by decide +kernel
theorem dX4_piece_23 : decode cX4_piece 23 = .ok (.iload 4, 2) := by decide +kernel
theorem dX4_piece_25 : decode cX4_piece 25 = .ok (.iconst 2, 1) := by decide +kernel
theorem dX4_piece_26 : decode cX4_piece 26 = .ok (.if_icmp .le 5, 3) := by decide +kernel
theorem dX4_piece_29 : decode cX4_piece 29 = .ok (.iconst (-1), 1) := by decide +kernel
theorem dX4_piece_30 : decode cX4_piece 30 = .ok (.ireturn, 1) := by decide +kernel
theorem dX4_piece_31 : decode cX4_piece 31 = .ok (.iload_n 3, 1) := by decide +kernel
theorem dX4_piece_32 : decode cX4_piece 32 = .ok (.iconst 1, 1) := by decide +kernel
theorem dX4_piece_33 : decode cX4_piece 33 = .ok (.if_icmp .lt 23, 3) := by decide +kernel
theorem dX4_piece_36 : decode cX4_piece 36 = .ok (.iload_n 3, 1) := by decide +kernel
theorem dX4_piece_37 : decode cX4_piece 37 = .ok (.sipush 200, 3) := by decide +kernel
theorem dX4_piece_40 : decode cX4_piece 40 = .ok (.if_icmp .gt 16, 3) := by decide +kernel
theorem dX4_piece_43 : decode cX4_piece 43 = .ok (.iload 5, 2) := by decide +kernel
theorem dX4_piece_45 : decode cX4_piece 45 = .ok (.iconst 1, 1) := by decide +kernel
theorem dX4_piece_46 : decode cX4_piece 46 = .ok (.if_icmp .lt 10, 3) := by decide +kernel
theorem dX4_piece_49 : decode cX4_piece 49 = .ok (.iload 5, 2) := by decide +kernel
theorem dX4_piece_51 : decode cX4_piece 51 = .ok (.bipush 9, 2) := by decide +kernel
theorem dX4_piece_53 : decode cX4_piece 53 = .ok (.if_icmp .le 6, 3) := by decide +kernel
theorem dX4_piece_56 : decode cX4_piece 56 = .ok (.bipush (-2), 2) := by decide +kernel
theorem dX4_piece_58 : decode cX4_piece 58 = .ok (.ireturn, 1) := by decide +kernel
theorem dX4_piece_59 : decode cX4_piece 59 = .ok (.aload_n 0, 1) := by decide +kernel
theorem dX4_piece_60 : decode cX4_piece 60 = .ok (.getfield 67, 3) := by decide +kernel
theorem dX4_piece_63 : decode cX4_piece 63 = .ok (.bipush 10, 2) := by decide +kernel
theorem dX4_piece_65 : decode cX4_piece 65 = .ok (.if_icmp .ne 6, 3) := by decide +kernel
theorem dX4_piece_68 : decode cX4_piece 68 = .ok (.bipush (-4), 2) := by decide +kernel
theorem dX4_piece_70 : decode cX4_piece 70 = .ok (.ireturn, 1) := by decide +kernel
theorem dX4_piece_71 : decode cX4_piece 71 = .ok (.aload_n 0, 1) := by decide +kernel
theorem dX4_piece_72 : decode cX4_piece 72 = .ok (.getfield 21, 3) := by decide +kernel
theorem dX4_piece_75 : decode cX4_piece 75 = .ok (.aload_n 0, 1) := by decide +kernel
theorem dX4_piece_76 : decode cX4_piece 76 = .ok (.getfield 67, 3) := by decide +kernel
theorem dX4_piece_79 : decode cX4_piece 79 = .ok (.iload_n 1, 1) := by decide +kernel
theorem dX4_piece_80 : decode cX4_piece 80 = .ok (.iastore, 1) := by decide +kernel
theorem dX4_piece_81 : decode cX4_piece 81 = .ok (.aload_n 0, 1) := by decide +kernel
theorem dX4_piece_82 : decode cX4_piece 82 = .ok (.getfield 25, 3) := by decide +kernel
theorem dX4_piece_85 : decode cX4_piece 85 = .ok (.aload_n 0, 1) := by decide +kernel
theorem dX4_piece_86 : decode cX4_piece 86 = .ok (.getfield 67, 3) := by decide +kernel
theorem dX4_piece_89 : decode cX4_piece 89 = .ok (.iload_n 2, 1) := by decide +kernel
theorem dX4_piece_90 : decode cX4_piece 90 = .ok (.iastore, 1) := by decide +kernel
theorem dX4_piece_91 : decode cX4_piece 91 = .ok (.aload_n 0, 1) := by decide +kernel
theorem dX4_piece_92 : decode cX4_piece 92 = .ok (.getfield 28, 3) := by decide +kernel
theorem dX4_piece_95 : decode cX4_piece 95 = .ok (.aload_n 0, 1) := by decide +kernel
theorem dX4_piece_96 : decode cX4_piece 96 = .ok (.getfield 67, 3) := by decide +kernel
theorem dX4_piece_99 : decode cX4_piece 99 = .ok (.iload_n 3, 1) := by decide +kernel
theorem dX4_piece_100 : decode cX4_piece 100 = .ok (.iastore, 1) := by decide +kernel
theorem dX4_piece_101 : decode cX4_piece 101 = .ok (.aload_n 0, 1) := by decide +kernel
theorem dX4_piece_102 : decode cX4_piece 102 = .ok (.getfield 31, 3) := by decide +kernel
theorem dX4_piece_105 : decode cX4_piece 105 = .ok (.aload_n 0, 1) := by decide +kernel
theorem dX4_piece_106 : decode cX4_piece 106 = .ok (.getfield 67, 3) := by decide +kernel
theorem dX4_piece_109 : decode cX4_piece 109 = .ok (.iload 4, 2) := by decide +kernel
theorem dX4_piece_111 : decode cX4_piece 111 = .ok (.iastore, 1) := by decide +kernel
theorem dX4_piece_112 : decode cX4_piece 112 = .ok (.aload_n 0, 1) := by decide +kernel
theorem dX4_piece_113 : decode cX4_piece 113 = .ok (.getfield 34, 3) := by decide +kernel
theorem dX4_piece_116 : decode cX4_piece 116 = .ok (.aload_n 0, 1) := by decide +kernel
theorem dX4_piece_117 : decode cX4_piece 117 = .ok (.getfield 67, 3) := by decide +kernel
theorem dX4_piece_120 : decode cX4_piece 120 = .ok (.iload 5, 2) := by decide +kernel
theorem dX4_piece_122 : decode cX4_piece 122 = .ok (.iastore, 1) := by decide +kernel
theorem dX4_piece_123 : decode cX4_piece 123 = .ok (.aload_n 0, 1) := by decide +kernel
theorem dX4_piece_124 : decode cX4_piece 124 = .ok (.getfield 37, 3) := by decide +kernel
theorem dX4_piece_127 : decode cX4_piece 127 = .ok (.aload_n 0, 1) := by decide +kernel
theorem dX4_piece_128 : decode cX4_piece 128 = .ok (.getfield 67, 3) := by decide +kernel
theorem dX4_piece_131 : decode cX4_piece 131 = .ok (.iconst (-1), 1) := by decide +kernel
theorem dX4_piece_132 : decode cX4_piece 132 = .ok (.iastore, 1) := by decide +kernel
theorem dX4_piece_133 : decode cX4_piece 133 = .ok (.aload_n 0, 1) := by decide +kernel
theorem dX4_piece_134 : decode cX4_piece 134 = .ok (.getfield 43, 3) := by decide +kernel
theorem dX4_piece_137 : decode cX4_piece 137 = .ok (.aload_n 0, 1) := by decide +kernel
theorem dX4_piece_138 : decode cX4_piece 138 = .ok (.getfield 67, 3) := by decide +kernel
theorem dX4_piece_141 : decode cX4_piece 141 = .ok (.aload_n 0, 1) := by decide +kernel
theorem dX4_piece_142 : decode cX4_piece 142 = .ok (.getfield 67, 3) := by decide +kernel
theorem dX4_piece_145 : decode cX4_piece 145 = .ok (.iastore, 1) := by decide +kernel
theorem dX4_piece_146 : decode cX4_piece 146 = .ok (.aload_n 0, 1) := by decide +kernel
theorem dX4_piece_147 : decode cX4_piece 147 = .ok (.dup, 1) := by decide +kernel
theorem dX4_piece_148 : decode cX4_piece 148 = .ok (.getfield 67, 3) := by decide +kernel
theorem dX4_piece_151 : decode cX4_piece 151 = .ok (.dup_x1, 1) := by decide +kernel
theorem dX4_piece_152 : decode cX4_piece 152 = .ok (.iconst 1, 1) := by decide +kernel
theorem dX4_piece_153 : decode cX4_piece 153 = .ok (.iadd, 1) := by decide +kernel
theorem dX4_piece_154 : decode cX4_piece 154 = .ok (.putfield 67, 3) := by decide +kernel
theorem dX4_piece_157 : decode cX4_piece 157 = .ok (.ireturn, 1) := by decide +kernel
theorem dX4_leads_0 : decode cX4_leads 0 = .ok (.iconst 1, 1) := by decide +kernel
theorem dX4_leads_1 : decode cX4_leads 1 = .ok (.iload_n 1, 1) := by decide +kernel
theorem dX4_leads_2 : decode cX4_leads 2 = .ok (.ishl, 1) := by decide +kernel
theorem dX4_leads_3 : decode cX4_leads 3 = .ok (.istore_n 3, 1) := by decide +kernel
theorem dX4_leads_4 : decode cX4_leads 4 = .ok (.iconst 0, 1) := by decide +kernel
theorem dX4_leads_5 : decode cX4_leads 5 = .ok (.istore 4, 2) := by decide +kernel
theorem dX4_leads_7 : decode cX4_leads 7 = .ok (.iload_n 3, 1) := by decide +kernel
theorem dX4_leads_8 : decode cX4_leads 8 = .ok (.iload 4, 2) := by decide +kernel
theorem dX4_leads_10 : decode cX4_leads 10 = .ok (.if_icmp .eq 80, 3) := by decide +kernel
theorem dX4_leads_13 : decode cX4_leads 13 = .ok (.iload_n 3, 1) := by decide +kernel
theorem dX4_leads_14 : decode cX4_leads 14 = .ok (.istore 4, 2) := by decide +kernel
theorem dX4_leads_16 : decode cX4_leads 16 = .ok (.iconst 0, 1) := by decide +kernel
theorem dX4_leads_17 : decode cX4_leads 17 = .ok (.istore 5, 2) := by decide +kernel
theorem dX4_leads_19 : decode cX4_leads 19 = .ok (.iload 5, 2) := by decide +kernel
theorem dX4_leads_21 : decode cX4_leads 21 = .ok (.aload_n 0, 1) := by decide +kernel
theorem dX4_leads_22 : decode cX4_leads 22 = .ok (.getfield 67, 3) := by decide +kernel
theorem dX4_leads_25 : decode cX4_leads 25 = .ok (.if_icmp .ge 62, 3) := by decide +kernel
theorem dX4_leads_28 : decode cX4_leads 28 = .ok (.iconst 0, 1) := by decide +kernel
theorem dX4_leads_29 : decode cX4_leads 29 = .ok (.istore 6, 2) := by decide +kernel
theorem dX4_leads_31 : decode cX4_leads 31 = .ok (.iload 6, 2) := by decide +kernel
theorem dX4_leads_33 : decode cX4_leads 33 = .ok (.aload_n 0, 1) := by decide +kernel
theorem dX4_leads_34 : decode cX4_leads 34 = .ok (.getfield 67, 3) := by decide +kernel
theorem dX4_leads_37 : decode cX4_leads 37 = .ok (.if_icmp .ge 44, 3) := by decide +kernel
theorem dX4_leads_40 : decode cX4_leads 40 = .ok (.iload 4, 2) := by decide +kernel
theorem dX4_leads_42 : decode cX4_leads 42 = .ok (.iload 5, 2) := by decide +kernel
theorem dX4_leads_44 : decode cX4_leads 44 = .ok (.ishr, 1) := by decide +kernel
theorem dX4_leads_45 : decode cX4_leads 45 = .ok (.iconst 1, 1) := by decide +kernel
theorem dX4_leads_46 : decode cX4_leads 46 = .ok (.iand, 1) := by decide +kernel
theorem dX4_leads_47 : decode cX4_leads 47 = .ok (.iconst 1, 1) := by decide +kernel
theorem dX4_leads_48 : decode cX4_leads 48 = .ok (.if_icmp .ne 27, 3) := by decide +kernel
theorem dX4_leads_51 : decode cX4_leads 51 = .ok (.aload_n 0, 1) := by decide +kernel
theorem dX4_leads_52 : decode cX4_leads 52 = .ok (.getfield 40, 3) := by decide +kernel
theorem dX4_leads_55 : decode cX4_leads 55 = .ok (.bipush 10, 2) := by decide +kernel
theorem dX4_leads_57 : decode cX4_leads 57 = .ok (.iload 5, 2) := by decide +kernel
theorem dX4_leads_59 : decode cX4_leads 59 = .ok (.imul, 1) := by decide +kernel
theorem dX4_leads_60 : decode cX4_leads 60 = .ok (.iload 6, 2) := by decide +kernel
theorem dX4_leads_62 : decode cX4_leads 62 = .ok (.iadd, 1) := by decide +kernel
theorem dX4_leads_63 : decode cX4_leads 63 = .ok (.iaload, 1) := by decide +kernel
theorem dX4_leads_64 : decode cX4_leads 64 = .ok (.iconst (-1), 1) := by decide +kernel
theorem dX4_leads_65 : decode cX4_leads 65 = .ok (.if_icmp .eq 10, 3) := by decide +kernel
theorem dX4_leads_68 : decode cX4_leads 68 = .ok (.iload_n 3, 1) := by decide +kernel
theorem dX4_leads_69 : decode cX4_leads 69 = .ok (.iconst 1, 1) := by decide +kernel
theorem dX4_leads_70 : decode cX4_leads 70 = .ok (.iload 6, 2) := by decide +kernel
theorem dX4_leads_72 : decode cX4_leads 72 = .ok (.ishl, 1) := by decide +kernel
theorem dX4_leads_73 : decode cX4_leads 73 = .ok (.ior, 1) := by decide +kernel
theorem dX4_leads_74 : decode cX4_leads 74 = .ok (.istore_n 3, 1) := by decide +kernel
theorem dX4_leads_75 : decode cX4_leads 75 = .ok (.iinc 6 1, 3) := by decide +kernel
theorem dX4_leads_78 : decode cX4_leads 78 = .ok (.goto (-47), 3) := by decide +kernel
theorem dX4_leads_81 : decode cX4_leads 81 = .ok (.iinc 5 1, 3) := by decide +kernel
theorem dX4_leads_84 : decode cX4_leads 84 = .ok (.goto (-65), 3) := by decide +kernel
theorem dX4_leads_87 : decode cX4_leads 87 = .ok (.goto (-80), 3) := by decide +kernel
theorem dX4_leads_90 : decode cX4_leads 90 = .ok (.iload_n 3, 1) := by decide +kernel
theorem dX4_leads_91 : decode cX4_leads 91 = .ok (.iload_n 2, 1) := by decide +kernel
theorem dX4_leads_92 : decode cX4_leads 92 = .ok (.ishr, 1) := by decide +kernel
theorem dX4_leads_93 : decode cX4_leads 93 = .ok (.iconst 1, 1) := by decide +kernel
theorem dX4_leads_94 : decode cX4_leads 94 = .ok (.iand, 1) := by decide +kernel
theorem dX4_leads_95 : decode cX4_leads 95 = .ok (.iconst 1, 1) := by decide +kernel
theorem dX4_leads_96 : decode cX4_leads 96 = .ok (.if_icmp .ne 7, 3) := by decide +kernel
theorem dX4_leads_99 : decode cX4_leads 99 = .ok (.iconst 1, 1) := by decide +kernel
theorem dX4_leads_100 : decode cX4_leads 100 = .ok (.goto 4, 3) := by decide +kernel
theorem dX4_leads_103 : decode cX4_leads 103 = .ok (.iconst 0, 1) := by decide +kernel
theorem dX4_leads_104 : decode cX4_leads 104 = .ok (.ireturn, 1) := by decide +kernel
set_option maxRecDepth 100000 in
theorem ggX4_ahead_X4_isPiece : GoodIn wsX4_ahead wsX4_isPiece := goodIn_sub (mc (List.mem_of_getElem? (i := 6) rfl) (mem_two (mc (List.mem_of_getElem? (i := 7) rfl) mn) (fun w h => (List.mem_cons_of_mem _ (List.mem_append_right _ h))))) (by decide +kernel)
set_option maxRecDepth 100000 in
theorem gX4_ahead_X4_isPiece : GoodIn wsX4_ahead (wsV RX4 70 RX4 yX4_isPiece wsX4_isPiece) := goodIn_app (goodIn_sub (mc (List.mem_of_getElem? (i := 2) rfl) (mc (List.mem_of_getElem? (i := 3) rfl) (mc (List.mem_of_getElem? (i := 4) rfl) (mc (List.mem_of_getElem? (i := 5) rfl) mn)))) (by decide +kernel)) ggX4_ahead_X4_isPiece
set_option maxRecDepth 100000 in
theorem ggX4_ahead_X4_leads : GoodIn wsX4_ahead wsX4_leads := goodIn_sub (mc (List.mem_of_getElem? (i := 11) rfl) (mem_two (mc (List.mem_of_getElem? (i := 7) rfl) (mc (List.mem_of_getElem? (i := 1) rfl) mn)) (fun w h => (List.mem_cons_of_mem _ (List.mem_append_right _ h))))) (by decide +kernel)
set_option maxRecDepth 100000 in
theorem gX4_ahead_X4_leads : GoodIn wsX4_ahead (wsV RX4 74 RX4 yX4_leads wsX4_leads) := goodIn_app (goodIn_sub (mc (List.mem_of_getElem? (i := 8) rfl) (mc (List.mem_of_getElem? (i := 9) rfl) (mc (List.mem_of_getElem? (i := 10) rfl) (mc (List.mem_of_getElem? (i := 5) rfl) mn)))) (by decide +kernel)) ggX4_ahead_X4_leads
theorem dX4_ahead_0 : decode cX4_ahead 0 = .ok (.aload_n 0, 1) := by decide +kernel
theorem dX4_ahead_1 : decode cX4_ahead 1 = .ok (.iload_n 1, 1) := by decide +kernel
theorem dX4_ahead_2 : decode cX4_ahead 2 = .ok (.invokevirtual 70, 3) := by decide +kernel
theorem dX4_ahead_5 : decode cX4_ahead 5 = .ok (.ifCond .eq 11, 3) := by decide +kernel
theorem dX4_ahead_8 : decode cX4_ahead 8 = .ok (.aload_n 0, 1) := by decide +kernel
theorem dX4_ahead_9 : decode cX4_ahead 9 = .ok (.iload_n 2, 1) := by decide +kernel
theorem dX4_ahead_10 : decode cX4_ahead 10 = .ok (.invokevirtual 70, 3) := by decide +kernel
theorem dX4_ahead_13 : decode cX4_ahead 13 = .ok (.ifCond .ne 5, 3) := by decide +kernel
theorem dX4_ahead_16 : decode cX4_ahead 16 = .ok (.iconst (-1), 1) := by decide +kernel
theorem dX4_ahead_17 : decode cX4_ahead 17 = .ok (.ireturn, 1) := by decide +kernel
theorem dX4_ahead_18 : decode cX4_ahead 18 = .ok (.iload_n 3, 1) := by decide +kernel
theorem dX4_ahead_19 : decode cX4_ahead 19 = .ok (.ifCond .lt 23, 3) := by decide +kernel
theorem dX4_ahead_22 : decode cX4_ahead 22 = .ok (.iload_n 3, 1) := by decide +kernel
theorem dX4_ahead_23 : decode cX4_ahead 23 = .ok (.bipush 9, 2) := by decide +kernel
theorem dX4_ahead_25 : decode cX4_ahead 25 = .ok (.if_icmp .gt 17, 3) := by decide +kernel
theorem dX4_ahead_28 : decode cX4_ahead 28 = .ok (.iload_n 1, 1) := by decide +kernel
theorem dX4_ahead_29 : decode cX4_ahead 29 = .ok (.iload_n 2, 1) := by decide +kernel
theorem dX4_ahead_30 : decode cX4_ahead 30 = .ok (.if_icmp .eq 12, 3) := by decide +kernel
theorem dX4_ahead_33 : decode cX4_ahead 33 = .ok (.aload_n 0, 1) := by decide +kernel
theorem dX4_ahead_34 : decode cX4_ahead 34 = .ok (.iload_n 2, 1) := by decide +kernel
theorem dX4_ahead_35 : decode cX4_ahead 35 = .ok (.iload_n 1, 1) := by decide +kernel
theorem dX4_ahead_36 : decode cX4_ahead 36 = .ok (.invokevirtual 74, 3) := by decide +kernel
theorem dX4_ahead_39 : decode cX4_ahead 39 = .ok (.ifCond .eq 6, 3) := by decide +kernel
theorem dX4_ahead_42 : decode cX4_ahead 42 = .ok (.bipush (-2), 2) := by decide +kernel
theorem dX4_ahead_44 : decode cX4_ahead 44 = .ok (.ireturn, 1) := by decide +kernel
theorem dX4_ahead_45 : decode cX4_ahead 45 = .ok (.aload_n 0, 1) := by decide +kernel
theorem dX4_ahead_46 : decode cX4_ahead 46 = .ok (.getfield 40, 3) := by decide +kernel
theorem dX4_ahead_49 : decode cX4_ahead 49 = .ok (.bipush 10, 2) := by decide +kernel
theorem dX4_ahead_51 : decode cX4_ahead 51 = .ok (.iload_n 1, 1) := by decide +kernel
theorem dX4_ahead_52 : decode cX4_ahead 52 = .ok (.imul, 1) := by decide +kernel
theorem dX4_ahead_53 : decode cX4_ahead 53 = .ok (.iload_n 2, 1) := by decide +kernel
theorem dX4_ahead_54 : decode cX4_ahead 54 = .ok (.iadd, 1) := by decide +kernel
theorem dX4_ahead_55 : decode cX4_ahead 55 = .ok (.iaload, 1) := by decide +kernel
theorem dX4_ahead_56 : decode cX4_ahead 56 = .ok (.istore 4, 2) := by decide +kernel
theorem dX4_ahead_58 : decode cX4_ahead 58 = .ok (.aload_n 0, 1) := by decide +kernel
theorem dX4_ahead_59 : decode cX4_ahead 59 = .ok (.getfield 40, 3) := by decide +kernel
theorem dX4_ahead_62 : decode cX4_ahead 62 = .ok (.bipush 10, 2) := by decide +kernel
theorem dX4_ahead_64 : decode cX4_ahead 64 = .ok (.iload_n 1, 1) := by decide +kernel
theorem dX4_ahead_65 : decode cX4_ahead 65 = .ok (.imul, 1) := by decide +kernel
theorem dX4_ahead_66 : decode cX4_ahead 66 = .ok (.iload_n 2, 1) := by decide +kernel
theorem dX4_ahead_67 : decode cX4_ahead 67 = .ok (.iadd, 1) := by decide +kernel
theorem dX4_ahead_68 : decode cX4_ahead 68 = .ok (.iload_n 3, 1) := by decide +kernel
theorem dX4_ahead_69 : decode cX4_ahead 69 = .ok (.iastore, 1) := by decide +kernel
theorem dX4_ahead_70 : decode cX4_ahead 70 = .ok (.iload 4, 2) := by decide +kernel
theorem dX4_ahead_72 : decode cX4_ahead 72 = .ok (.ireturn, 1) := by decide +kernel
theorem dX4_form_0 : decode cX4_form 0 = .ok (.iload_n 1, 1) := by decide +kernel
theorem dX4_form_1 : decode cX4_form 1 = .ok (.ifCond .lt 8, 3) := by decide +kernel
theorem dX4_form_4 : decode cX4_form 4 = .ok (.iload_n 1, 1) := by decide +kernel
theorem dX4_form_5 : decode cX4_form 5 = .ok (.iconst 2, 1) := by decide +kernel
theorem dX4_form_6 : decode cX4_form 6 = .ok (.if_icmp .le 5, 3) := by decide +kernel
theorem dX4_form_9 : decode cX4_form 9 = .ok (.iconst (-1), 1) := by decide +kernel
theorem dX4_form_10 : decode cX4_form 10 = .ok (.ireturn, 1) := by decide +kernel
theorem dX4_form_11 : decode cX4_form 11 = .ok (.iload_n 2, 1) := by decide +kernel
theorem dX4_form_12 : decode cX4_form 12 = .ok (.ifCond .lt 9, 3) := by decide +kernel
theorem dX4_form_15 : decode cX4_form 15 = .ok (.iload_n 2, 1) := by decide +kernel
theorem dX4_form_16 : decode cX4_form 16 = .ok (.bipush 50, 2) := by decide +kernel
theorem dX4_form_18 : decode cX4_form 18 = .ok (.if_icmp .le 6, 3) := by decide +kernel
theorem dX4_form_21 : decode cX4_form 21 = .ok (.bipush (-2), 2) := by decide +kernel
theorem dX4_form_23 : decode cX4_form 23 = .ok (.ireturn, 1) := by decide +kernel
theorem dX4_form_24 : decode cX4_form 24 = .ok (.aload_n 0, 1) := by decide +kernel
theorem dX4_form_25 : decode cX4_form 25 = .ok (.getfield 52, 3) := by decide +kernel
theorem dX4_form_28 : decode cX4_form 28 = .ok (.iload_n 1, 1) := by decide +kernel
theorem dX4_form_29 : decode cX4_form 29 = .ok (.iaload, 1) := by decide +kernel
theorem dX4_form_30 : decode cX4_form 30 = .ok (.istore_n 3, 1) := by decide +kernel
theorem dX4_form_31 : decode cX4_form 31 = .ok (.aload_n 0, 1) := by decide +kernel
theorem dX4_form_32 : decode cX4_form 32 = .ok (.getfield 52, 3) := by decide +kernel
theorem dX4_form_35 : decode cX4_form 35 = .ok (.iload_n 1, 1) := by decide +kernel
theorem dX4_form_36 : decode cX4_form 36 = .ok (.iload_n 2, 1) := by decide +kernel
theorem dX4_form_37 : decode cX4_form 37 = .ok (.iastore, 1) := by decide +kernel
theorem dX4_form_38 : decode cX4_form 38 = .ok (.iload_n 3, 1) := by decide +kernel
theorem dX4_form_39 : decode cX4_form 39 = .ok (.ireturn, 1) := by decide +kernel
theorem dX4_gang_0 : decode cX4_gang 0 = .ok (.iload_n 1, 1) := by decide +kernel
theorem dX4_gang_1 : decode cX4_gang 1 = .ok (.iconst 1, 1) := by decide +kernel
theorem dX4_gang_2 : decode cX4_gang 2 = .ok (.if_icmp .lt 10, 3) := by decide +kernel
theorem dX4_gang_5 : decode cX4_gang 5 = .ok (.iload_n 1, 1) := by decide +kernel
theorem dX4_gang_6 : decode cX4_gang 6 = .ok (.sipush 1000, 3) := by decide +kernel
theorem dX4_gang_9 : decode cX4_gang 9 = .ok (.if_icmp .le 6, 3) := by decide +kernel
theorem dX4_gang_12 : decode cX4_gang 12 = .ok (.bipush (-2), 2) := by decide +kernel
theorem dX4_gang_14 : decode cX4_gang 14 = .ok (.ireturn, 1) := by decide +kernel
theorem dX4_gang_15 : decode cX4_gang 15 = .ok (.aload_n 0, 1) := by decide +kernel
theorem dX4_gang_16 : decode cX4_gang 16 = .ok (.getfield 9, 3) := by decide +kernel
theorem dX4_gang_19 : decode cX4_gang 19 = .ok (.istore_n 2, 1) := by decide +kernel
theorem dX4_gang_20 : decode cX4_gang 20 = .ok (.aload_n 0, 1) := by decide +kernel
theorem dX4_gang_21 : decode cX4_gang 21 = .ok (.iload_n 1, 1) := by decide +kernel
theorem dX4_gang_22 : decode cX4_gang 22 = .ok (.putfield 9, 3) := by decide +kernel
theorem dX4_gang_25 : decode cX4_gang 25 = .ok (.iload_n 2, 1) := by decide +kernel
theorem dX4_gang_26 : decode cX4_gang 26 = .ok (.ireturn, 1) := by decide +kernel
theorem dX4_level_0 : decode cX4_level 0 = .ok (.iload_n 1, 1) := by decide +kernel
theorem dX4_level_1 : decode cX4_level 1 = .ok (.ifCond .lt 8, 3) := by decide +kernel
theorem dX4_level_4 : decode cX4_level 4 = .ok (.iload_n 1, 1) := by decide +kernel
theorem dX4_level_5 : decode cX4_level 5 = .ok (.iconst 1, 1) := by decide +kernel
theorem dX4_level_6 : decode cX4_level 6 = .ok (.if_icmp .le 5, 3) := by decide +kernel
theorem dX4_level_9 : decode cX4_level 9 = .ok (.iconst (-1), 1) := by decide +kernel
theorem dX4_level_10 : decode cX4_level 10 = .ok (.ireturn, 1) := by decide +kernel
theorem dX4_level_11 : decode cX4_level 11 = .ok (.iload_n 2, 1) := by decide +kernel
theorem dX4_level_12 : decode cX4_level 12 = .ok (.ifCond .lt 10, 3) := by decide +kernel
theorem dX4_level_15 : decode cX4_level 15 = .ok (.iload_n 2, 1) := by decide +kernel
theorem dX4_level_16 : decode cX4_level 16 = .ok (.sipush 1000, 3) := by decide +kernel
theorem dX4_level_19 : decode cX4_level 19 = .ok (.if_icmp .le 6, 3) := by decide +kernel
theorem dX4_level_22 : decode cX4_level 22 = .ok (.bipush (-2), 2) := by decide +kernel
theorem dX4_level_24 : decode cX4_level 24 = .ok (.ireturn, 1) := by decide +kernel
theorem dX4_level_25 : decode cX4_level 25 = .ok (.iload_n 1, 1) := by decide +kernel
theorem dX4_level_26 : decode cX4_level 26 = .ok (.ifCond .ne 10, 3) := by decide +kernel
theorem dX4_level_29 : decode cX4_level 29 = .ok (.aload_n 0, 1) := by decide +kernel
theorem dX4_level_30 : decode cX4_level 30 = .ok (.getfield 15, 3) := by decide +kernel
theorem dX4_level_33 : decode cX4_level 33 = .ok (.goto 7, 3) := by decide +kernel
theorem dX4_level_36 : decode cX4_level 36 = .ok (.aload_n 0, 1) := by decide +kernel
theorem dX4_level_37 : decode cX4_level 37 = .ok (.getfield 18, 3) := by decide +kernel
theorem dX4_level_40 : decode cX4_level 40 = .ok (.istore_n 3, 1) := by decide +kernel
theorem dX4_level_41 : decode cX4_level 41 = .ok (.iload_n 1, 1) := by decide +kernel
theorem dX4_level_42 : decode cX4_level 42 = .ok (.ifCond .ne 11, 3) := by decide +kernel
theorem dX4_level_45 : decode cX4_level 45 = .ok (.aload_n 0, 1) := by decide +kernel
theorem dX4_level_46 : decode cX4_level 46 = .ok (.iload_n 2, 1) := by decide +kernel
theorem dX4_level_47 : decode cX4_level 47 = .ok (.putfield 15, 3) := by decide +kernel
theorem dX4_level_50 : decode cX4_level 50 = .ok (.goto 8, 3) := by decide +kernel
theorem dX4_level_53 : decode cX4_level 53 = .ok (.aload_n 0, 1) := by decide +kernel
theorem dX4_level_54 : decode cX4_level 54 = .ok (.iload_n 2, 1) := by decide +kernel
theorem dX4_level_55 : decode cX4_level 55 = .ok (.putfield 18, 3) := by decide +kernel
theorem dX4_level_58 : decode cX4_level 58 = .ok (.iload_n 3, 1) := by decide +kernel
theorem dX4_level_59 : decode cX4_level 59 = .ok (.ireturn, 1) := by decide +kernel
set_option maxRecDepth 100000 in
theorem ggX4_warm_X4_isDay : GoodIn wsX4_warm wsX4_isDay := goodIn_sub (mc (List.mem_of_getElem? (i := 7) rfl) mn) (by decide +kernel)
set_option maxRecDepth 20000 in
theorem gX4_warm_X4_isDay : GoodIn wsX4_warm (va_wsS RX4 78 yX4_isDay wsX4_isDay) := goodIn_app (goodIn_of _ (by decide +kernel)) ggX4_warm_X4_isDay
theorem dX4_warm_0 : decode cX4_warm 0 = .ok (.iload_n 1, 1) := by decide +kernel
theorem dX4_warm_1 : decode cX4_warm 1 = .ok (.invokestatic 78, 3) := by decide +kernel
theorem dX4_warm_4 : decode cX4_warm 4 = .ok (.ifCond .ne 6, 3) := by decide +kernel
theorem dX4_warm_7 : decode cX4_warm 7 = .ok (.ldc 83, 2) := by decide +kernel
theorem dX4_warm_9 : decode cX4_warm 9 = .ok (.ireturn, 1) := by decide +kernel
theorem dX4_warm_10 : decode cX4_warm 10 = .ok (.iload_n 2, 1) := by decide +kernel
theorem dX4_warm_11 : decode cX4_warm 11 = .ok (.bipush (-30), 2) := by decide +kernel
theorem dX4_warm_13 : decode cX4_warm 13 = .ok (.if_icmp .lt 9, 3) := by decide +kernel
theorem dX4_warm_16 : decode cX4_warm 16 = .ok (.iload_n 2, 1) := by decide +kernel
theorem dX4_warm_17 : decode cX4_warm 17 = .ok (.bipush 50, 2) := by decide +kernel
theorem dX4_warm_19 : decode cX4_warm 19 = .ok (.if_icmp .le 6, 3) := by decide +kernel
theorem dX4_warm_22 : decode cX4_warm 22 = .ok (.ldc 84, 2) := by decide +kernel
theorem dX4_warm_24 : decode cX4_warm 24 = .ok (.ireturn, 1) := by decide +kernel
theorem dX4_warm_25 : decode cX4_warm 25 = .ok (.aload_n 0, 1) := by decide +kernel
theorem dX4_warm_26 : decode cX4_warm 26 = .ok (.getfield 55, 3) := by decide +kernel
theorem dX4_warm_29 : decode cX4_warm 29 = .ok (.iload_n 1, 1) := by decide +kernel
theorem dX4_warm_30 : decode cX4_warm 30 = .ok (.iaload, 1) := by decide +kernel
theorem dX4_warm_31 : decode cX4_warm 31 = .ok (.istore_n 3, 1) := by decide +kernel
theorem dX4_warm_32 : decode cX4_warm 32 = .ok (.aload_n 0, 1) := by decide +kernel
theorem dX4_warm_33 : decode cX4_warm 33 = .ok (.getfield 55, 3) := by decide +kernel
theorem dX4_warm_36 : decode cX4_warm 36 = .ok (.iload_n 1, 1) := by decide +kernel
theorem dX4_warm_37 : decode cX4_warm 37 = .ok (.iload_n 2, 1) := by decide +kernel
theorem dX4_warm_38 : decode cX4_warm 38 = .ok (.iastore, 1) := by decide +kernel
theorem dX4_warm_39 : decode cX4_warm 39 = .ok (.iload_n 3, 1) := by decide +kernel
theorem dX4_warm_40 : decode cX4_warm 40 = .ok (.ireturn, 1) := by decide +kernel
theorem dX4_base_0 : decode cX4_base 0 = .ok (.iload_n 1, 1) := by decide +kernel
theorem dX4_base_1 : decode cX4_base 1 = .ok (.ifCond .lt 9, 3) := by decide +kernel
theorem dX4_base_4 : decode cX4_base 4 = .ok (.iload_n 1, 1) := by decide +kernel
theorem dX4_base_5 : decode cX4_base 5 = .ok (.bipush 20, 2) := by decide +kernel
theorem dX4_base_7 : decode cX4_base 7 = .ok (.if_icmp .le 6, 3) := by decide +kernel
theorem dX4_base_10 : decode cX4_base 10 = .ok (.bipush (-2), 2) := by decide +kernel
theorem dX4_base_12 : decode cX4_base 12 = .ok (.ireturn, 1) := by decide +kernel
theorem dX4_base_13 : decode cX4_base 13 = .ok (.aload_n 0, 1) := by decide +kernel
theorem dX4_base_14 : decode cX4_base 14 = .ok (.getfield 85, 3) := by decide +kernel
theorem dX4_base_17 : decode cX4_base 17 = .ok (.istore_n 2, 1) := by decide +kernel
theorem dX4_base_18 : decode cX4_base 18 = .ok (.aload_n 0, 1) := by decide +kernel
theorem dX4_base_19 : decode cX4_base 19 = .ok (.iload_n 1, 1) := by decide +kernel
theorem dX4_base_20 : decode cX4_base 20 = .ok (.putfield 85, 3) := by decide +kernel
theorem dX4_base_23 : decode cX4_base 23 = .ok (.iload_n 2, 1) := by decide +kernel
theorem dX4_base_24 : decode cX4_base 24 = .ok (.ireturn, 1) := by decide +kernel
theorem dX4_point_0 : decode cX4_point 0 = .ok (.iload_n 1, 1) := by decide +kernel
theorem dX4_point_1 : decode cX4_point 1 = .ok (.iconst 1, 1) := by decide +kernel
theorem dX4_point_2 : decode cX4_point 2 = .ok (.if_icmp .lt 21, 3) := by decide +kernel
theorem dX4_point_5 : decode cX4_point 5 = .ok (.iload_n 1, 1) := by decide +kernel
theorem dX4_point_6 : decode cX4_point 6 = .ok (.sipush 2000, 3) := by decide +kernel
theorem dX4_point_9 : decode cX4_point 9 = .ok (.if_icmp .gt 14, 3) := by decide +kernel
theorem dX4_point_12 : decode cX4_point 12 = .ok (.iload_n 2, 1) := by decide +kernel
theorem dX4_point_13 : decode cX4_point 13 = .ok (.ifCond .lt 10, 3) := by decide +kernel
theorem dX4_point_16 : decode cX4_point 16 = .ok (.iload_n 2, 1) := by decide +kernel
theorem dX4_point_17 : decode cX4_point 17 = .ok (.sipush 1000, 3) := by decide +kernel
theorem dX4_point_20 : decode cX4_point 20 = .ok (.if_icmp .le 6, 3) := by decide +kernel
theorem dX4_point_23 : decode cX4_point 23 = .ok (.bipush (-2), 2) := by decide +kernel
theorem dX4_point_25 : decode cX4_point 25 = .ok (.ireturn, 1) := by decide +kernel
theorem dX4_point_26 : decode cX4_point 26 = .ok (.aload_n 0, 1) := by decide +kernel
theorem dX4_point_27 : decode cX4_point 27 = .ok (.getfield 88, 3) := by decide +kernel
theorem dX4_point_30 : decode cX4_point 30 = .ok (.ifCond .le 36, 3) := by decide +kernel
theorem dX4_point_33 : decode cX4_point 33 = .ok (.iload_n 1, 1) := by decide +kernel
theorem dX4_point_34 : decode cX4_point 34 = .ok (.aload_n 0, 1) := by decide +kernel
theorem dX4_point_35 : decode cX4_point 35 = .ok (.getfield 58, 3) := by decide +kernel
theorem dX4_point_38 : decode cX4_point 38 = .ok (.aload_n 0, 1) := by decide +kernel
theorem dX4_point_39 : decode cX4_point 39 = .ok (.getfield 88, 3) := by decide +kernel
theorem dX4_point_42 : decode cX4_point 42 = .ok (.iconst 1, 1) := by decide +kernel
theorem dX4_point_43 : decode cX4_point 43 = .ok (.isub, 1) := by decide +kernel
theorem dX4_point_44 : decode cX4_point 44 = .ok (.iaload, 1) := by decide +kernel
theorem dX4_point_45 : decode cX4_point 45 = .ok (.if_icmp .le 18, 3) := by decide +kernel
theorem dX4_point_48 : decode cX4_point 48 = .ok (.iload_n 2, 1) := by decide +kernel
theorem dX4_point_49 : decode cX4_point 49 = .ok (.aload_n 0, 1) := by decide +kernel
theorem dX4_point_50 : decode cX4_point 50 = .ok (.getfield 61, 3) := by decide +kernel
theorem dX4_point_53 : decode cX4_point 53 = .ok (.aload_n 0, 1) := by decide +kernel
theorem dX4_point_54 : decode cX4_point 54 = .ok (.getfield 88, 3) := by decide +kernel
theorem dX4_point_57 : decode cX4_point 57 = .ok (.iconst 1, 1) := by decide +kernel
theorem dX4_point_58 : decode cX4_point 58 = .ok (.isub, 1) := by decide +kernel
theorem dX4_point_59 : decode cX4_point 59 = .ok (.iaload, 1) := by decide +kernel
theorem dX4_point_60 : decode cX4_point 60 = .ok (.if_icmp .ge 6, 3) := by decide +kernel
theorem dX4_point_63 : decode cX4_point 63 = .ok (.bipush (-2), 2) := by decide +kernel
theorem dX4_point_65 : decode cX4_point 65 = .ok (.ireturn, 1) := by decide +kernel
theorem dX4_point_66 : decode cX4_point 66 = .ok (.aload_n 0, 1) := by decide +kernel
theorem dX4_point_67 : decode cX4_point 67 = .ok (.getfield 88, 3) := by decide +kernel
theorem dX4_point_70 : decode cX4_point 70 = .ok (.bipush 6, 2) := by decide +kernel
theorem dX4_point_72 : decode cX4_point 72 = .ok (.if_icmp .ne 6, 3) := by decide +kernel
theorem dX4_point_75 : decode cX4_point 75 = .ok (.bipush (-4), 2) := by decide +kernel
theorem dX4_point_77 : decode cX4_point 77 = .ok (.ireturn, 1) := by decide +kernel
theorem dX4_point_78 : decode cX4_point 78 = .ok (.aload_n 0, 1) := by decide +kernel
theorem dX4_point_79 : decode cX4_point 79 = .ok (.getfield 58, 3) := by decide +kernel
theorem dX4_point_82 : decode cX4_point 82 = .ok (.aload_n 0, 1) := by decide +kernel
theorem dX4_point_83 : decode cX4_point 83 = .ok (.getfield 88, 3) := by decide +kernel
theorem dX4_point_86 : decode cX4_point 86 = .ok (.iload_n 1, 1) := by decide +kernel
theorem dX4_point_87 : decode cX4_point 87 = .ok (.iastore, 1) := by decide +kernel
theorem dX4_point_88 : decode cX4_point 88 = .ok (.aload_n 0, 1) := by decide +kernel
theorem dX4_point_89 : decode cX4_point 89 = .ok (.getfield 61, 3) := by decide +kernel
theorem dX4_point_92 : decode cX4_point 92 = .ok (.aload_n 0, 1) := by decide +kernel
theorem dX4_point_93 : decode cX4_point 93 = .ok (.getfield 88, 3) := by decide +kernel
theorem dX4_point_96 : decode cX4_point 96 = .ok (.iload_n 2, 1) := by decide +kernel
theorem dX4_point_97 : decode cX4_point 97 = .ok (.iastore, 1) := by decide +kernel
theorem dX4_point_98 : decode cX4_point 98 = .ok (.aload_n 0, 1) := by decide +kernel
theorem dX4_point_99 : decode cX4_point 99 = .ok (.dup, 1) := by decide +kernel
theorem dX4_point_100 : decode cX4_point 100 = .ok (.getfield 88, 3) := by decide +kernel
theorem dX4_point_103 : decode cX4_point 103 = .ok (.iconst 1, 1) := by decide +kernel
theorem dX4_point_104 : decode cX4_point 104 = .ok (.iadd, 1) := by decide +kernel
theorem dX4_point_105 : decode cX4_point 105 = .ok (.dup_x1, 1) := by decide +kernel
theorem dX4_point_106 : decode cX4_point 106 = .ok (.putfield 88, 3) := by decide +kernel
theorem dX4_point_109 : decode cX4_point 109 = .ok (.ireturn, 1) := by decide +kernel
theorem dX4_unpoint_0 : decode cX4_unpoint 0 = .ok (.aload_n 0, 1) := by decide +kernel
theorem dX4_unpoint_1 : decode cX4_unpoint 1 = .ok (.getfield 88, 3) := by decide +kernel
theorem dX4_unpoint_4 : decode cX4_unpoint 4 = .ok (.istore_n 1, 1) := by decide +kernel
theorem dX4_unpoint_5 : decode cX4_unpoint 5 = .ok (.aload_n 0, 1) := by decide +kernel
theorem dX4_unpoint_6 : decode cX4_unpoint 6 = .ok (.iconst 0, 1) := by decide +kernel
theorem dX4_unpoint_7 : decode cX4_unpoint 7 = .ok (.putfield 88, 3) := by decide +kernel
theorem dX4_unpoint_10 : decode cX4_unpoint 10 = .ok (.iload_n 1, 1) := by decide +kernel
theorem dX4_unpoint_11 : decode cX4_unpoint 11 = .ok (.ireturn, 1) := by decide +kernel
theorem dX4_table_0 : decode cX4_table 0 = .ok (.iload_n 1, 1) := by decide +kernel
theorem dX4_table_1 : decode cX4_table 1 = .ok (.ifCond .ge 6, 3) := by decide +kernel
theorem dX4_table_4 : decode cX4_table 4 = .ok (.bipush (-2), 2) := by decide +kernel
theorem dX4_table_6 : decode cX4_table 6 = .ok (.ireturn, 1) := by decide +kernel
theorem dX4_table_7 : decode cX4_table 7 = .ok (.iconst 0, 1) := by decide +kernel
theorem dX4_table_8 : decode cX4_table 8 = .ok (.istore_n 2, 1) := by decide +kernel
theorem dX4_table_9 : decode cX4_table 9 = .ok (.iconst 0, 1) := by decide +kernel
theorem dX4_table_10 : decode cX4_table 10 = .ok (.istore_n 3, 1) := by decide +kernel
theorem dX4_table_11 : decode cX4_table 11 = .ok (.iconst 0, 1) := by decide +kernel
theorem dX4_table_12 : decode cX4_table 12 = .ok (.istore 4, 2) := by decide +kernel
theorem dX4_table_14 : decode cX4_table 14 = .ok (.iload 4, 2) := by decide +kernel
theorem dX4_table_16 : decode cX4_table 16 = .ok (.aload_n 0, 1) := by decide +kernel
theorem dX4_table_17 : decode cX4_table 17 = .ok (.getfield 88, 3) := by decide +kernel
theorem dX4_table_20 : decode cX4_table 20 = .ok (.if_icmp .ge 62, 3) := by decide +kernel
theorem dX4_table_23 : decode cX4_table 23 = .ok (.iload_n 1, 1) := by decide +kernel
theorem dX4_table_24 : decode cX4_table 24 = .ok (.aload_n 0, 1) := by decide +kernel
theorem dX4_table_25 : decode cX4_table 25 = .ok (.getfield 58, 3) := by decide +kernel
theorem dX4_table_28 : decode cX4_table 28 = .ok (.iload 4, 2) := by decide +kernel
theorem dX4_table_30 : decode cX4_table 30 = .ok (.iaload, 1) := by decide +kernel
theorem dX4_table_31 : decode cX4_table 31 = .ok (.if_icmp .ge 29, 3) := by decide +kernel
theorem dX4_table_34 : decode cX4_table 34 = .ok (.iload_n 3, 1) := by decide +kernel
theorem dX4_table_35 : decode cX4_table 35 = .ok (.iload_n 1, 1) := by decide +kernel
theorem dX4_table_36 : decode cX4_table 36 = .ok (.iload_n 2, 1) := by decide +kernel
theorem dX4_table_37 : decode cX4_table 37 = .ok (.isub, 1) := by decide +kernel
theorem dX4_table_38 : decode cX4_table 38 = .ok (.aload_n 0, 1) := by decide +kernel
theorem dX4_table_39 : decode cX4_table 39 = .ok (.getfield 61, 3) := by decide +kernel
theorem dX4_table_42 : decode cX4_table 42 = .ok (.iload 4, 2) := by decide +kernel
theorem dX4_table_44 : decode cX4_table 44 = .ok (.iaload, 1) := by decide +kernel
theorem dX4_table_45 : decode cX4_table 45 = .ok (.iload_n 3, 1) := by decide +kernel
theorem dX4_table_46 : decode cX4_table 46 = .ok (.isub, 1) := by decide +kernel
theorem dX4_table_47 : decode cX4_table 47 = .ok (.imul, 1) := by decide +kernel
theorem dX4_table_48 : decode cX4_table 48 = .ok (.aload_n 0, 1) := by decide +kernel
theorem dX4_table_49 : decode cX4_table 49 = .ok (.getfield 58, 3) := by decide +kernel
theorem dX4_table_52 : decode cX4_table 52 = .ok (.iload 4, 2) := by decide +kernel
theorem dX4_table_54 : decode cX4_table 54 = .ok (.iaload, 1) := by decide +kernel
theorem dX4_table_55 : decode cX4_table 55 = .ok (.iload_n 2, 1) := by decide +kernel
theorem dX4_table_56 : decode cX4_table 56 = .ok (.isub, 1) := by decide +kernel
theorem dX4_table_57 : decode cX4_table 57 = .ok (.idiv, 1) := by decide +kernel
theorem dX4_table_58 : decode cX4_table 58 = .ok (.iadd, 1) := by decide +kernel
theorem dX4_table_59 : decode cX4_table 59 = .ok (.ireturn, 1) := by decide +kernel
theorem dX4_table_60 : decode cX4_table 60 = .ok (.aload_n 0, 1) := by decide +kernel
theorem dX4_table_61 : decode cX4_table 61 = .ok (.getfield 58, 3) := by decide +kernel
theorem dX4_table_64 : decode cX4_table 64 = .ok (.iload 4, 2) := by decide +kernel
theorem dX4_table_66 : decode cX4_table 66 = .ok (.iaload, 1) := by decide +kernel
theorem dX4_table_67 : decode cX4_table 67 = .ok (.istore_n 2, 1) := by decide +kernel
theorem dX4_table_68 : decode cX4_table 68 = .ok (.aload_n 0, 1) := by decide +kernel
theorem dX4_table_69 : decode cX4_table 69 = .ok (.getfield 61, 3) := by decide +kernel
theorem dX4_table_72 : decode cX4_table 72 = .ok (.iload 4, 2) := by decide +kernel
theorem dX4_table_74 : decode cX4_table 74 = .ok (.iaload, 1) := by decide +kernel
theorem dX4_table_75 : decode cX4_table 75 = .ok (.istore_n 3, 1) := by decide +kernel
theorem dX4_table_76 : decode cX4_table 76 = .ok (.iinc 4 1, 3) := by decide +kernel
theorem dX4_table_79 : decode cX4_table 79 = .ok (.goto (-65), 3) := by decide +kernel
theorem dX4_table_82 : decode cX4_table 82 = .ok (.iload_n 3, 1) := by decide +kernel
theorem dX4_table_83 : decode cX4_table 83 = .ok (.ireturn, 1) := by decide +kernel
set_option maxRecDepth 100000 in
theorem ggX4_hardness_X4_table : GoodIn wsX4_hardness wsX4_table := goodIn_sub (mc (List.mem_of_getElem? (i := 7) rfl) (mem_two (mc (List.mem_of_getElem? (i := 8) rfl) (mc (List.mem_of_getElem? (i := 9) rfl) (mc (List.mem_of_getElem? (i := 10) rfl) mn))) (fun w h => (List.mem_cons_of_mem _ (List.mem_append_right _ h))))) (by decide +kernel)
set_option maxRecDepth 100000 in
theorem gX4_hardness_X4_table : GoodIn wsX4_hardness (wsV RX4 91 RX4 yX4_table wsX4_table) := goodIn_app (goodIn_sub (mc (List.mem_of_getElem? (i := 3) rfl) (mc (List.mem_of_getElem? (i := 4) rfl) (mc (List.mem_of_getElem? (i := 5) rfl) (mc (List.mem_of_getElem? (i := 6) rfl) mn)))) (by decide +kernel)) ggX4_hardness_X4_table
theorem dX4_hardness_0 : decode cX4_hardness 0 = .ok (.iconst 0, 1) := by decide +kernel
theorem dX4_hardness_1 : decode cX4_hardness 1 = .ok (.istore_n 3, 1) := by decide +kernel
theorem dX4_hardness_2 : decode cX4_hardness 2 = .ok (.iload_n 1, 1) := by decide +kernel
theorem dX4_hardness_3 : decode cX4_hardness 3 = .ok (.istore 4, 2) := by decide +kernel
theorem dX4_hardness_5 : decode cX4_hardness 5 = .ok (.iload 4, 2) := by decide +kernel
theorem dX4_hardness_7 : decode cX4_hardness 7 = .ok (.iload_n 2, 1) := by decide +kernel
theorem dX4_hardness_8 : decode cX4_hardness 8 = .ok (.if_icmp .ge 42, 3) := by decide +kernel
theorem dX4_hardness_11 : decode cX4_hardness 11 = .ok (.iload_n 3, 1) := by decide +kernel
theorem dX4_hardness_12 : decode cX4_hardness 12 = .ok (.aload_n 0, 1) := by decide +kernel
theorem dX4_hardness_13 : decode cX4_hardness 13 = .ok (.getfield 55, 3) := by decide +kernel
theorem dX4_hardness_16 : decode cX4_hardness 16 = .ok (.iload 4, 2) := by decide +kernel
theorem dX4_hardness_18 : decode cX4_hardness 18 = .ok (.iaload, 1) := by decide +kernel
theorem dX4_hardness_19 : decode cX4_hardness 19 = .ok (.aload_n 0, 1) := by decide +kernel
theorem dX4_hardness_20 : decode cX4_hardness 20 = .ok (.getfield 85, 3) := by decide +kernel
theorem dX4_hardness_23 : decode cX4_hardness 23 = .ok (.if_icmp .le 18, 3) := by decide +kernel
theorem dX4_hardness_26 : decode cX4_hardness 26 = .ok (.aload_n 0, 1) := by decide +kernel
theorem dX4_hardness_27 : decode cX4_hardness 27 = .ok (.getfield 55, 3) := by decide +kernel
theorem dX4_hardness_30 : decode cX4_hardness 30 = .ok (.iload 4, 2) := by decide +kernel
theorem dX4_hardness_32 : decode cX4_hardness 32 = .ok (.iaload, 1) := by decide +kernel
theorem dX4_hardness_33 : decode cX4_hardness 33 = .ok (.aload_n 0, 1) := by decide +kernel
theorem dX4_hardness_34 : decode cX4_hardness 34 = .ok (.getfield 85, 3) := by decide +kernel
theorem dX4_hardness_37 : decode cX4_hardness 37 = .ok (.isub, 1) := by decide +kernel
theorem dX4_hardness_38 : decode cX4_hardness 38 = .ok (.goto 4, 3) := by decide +kernel
theorem dX4_hardness_41 : decode cX4_hardness 41 = .ok (.iconst 0, 1) := by decide +kernel
theorem dX4_hardness_42 : decode cX4_hardness 42 = .ok (.iadd, 1) := by decide +kernel
theorem dX4_hardness_43 : decode cX4_hardness 43 = .ok (.istore_n 3, 1) := by decide +kernel
theorem dX4_hardness_44 : decode cX4_hardness 44 = .ok (.iinc 4 1, 3) := by decide +kernel
theorem dX4_hardness_47 : decode cX4_hardness 47 = .ok (.goto (-42), 3) := by decide +kernel
theorem dX4_hardness_50 : decode cX4_hardness 50 = .ok (.aload_n 0, 1) := by decide +kernel
theorem dX4_hardness_51 : decode cX4_hardness 51 = .ok (.iload_n 3, 1) := by decide +kernel
theorem dX4_hardness_52 : decode cX4_hardness 52 = .ok (.invokevirtual 91, 3) := by decide +kernel
theorem dX4_hardness_55 : decode cX4_hardness 55 = .ok (.ireturn, 1) := by decide +kernel
set_option maxRecDepth 100000 in
theorem ggX4_stripped_X4_hardness : GoodIn wsX4_stripped wsX4_hardness := goodIn_sub (mc (List.mem_of_getElem? (i := 6) rfl) (mem_two (mc (List.mem_of_getElem? (i := 7) rfl) (mc (List.mem_of_getElem? (i := 8) rfl) (mc (List.mem_of_getElem? (i := 9) rfl) (mc (List.mem_of_getElem? (i := 10) rfl) (mc (List.mem_of_getElem? (i := 11) rfl) (mc (List.mem_of_getElem? (i := 5) rfl) (mc (List.mem_of_getElem? (i := 12) rfl) (mc (List.mem_of_getElem? (i := 13) rfl) (mc (List.mem_of_getElem? (i := 14) rfl) (mc (List.mem_of_getElem? (i := 15) rfl) mn)))))))))) (fun w h => (List.mem_cons_of_mem _ (List.mem_append_right _ h))))) (by decide +kernel)
set_option maxRecDepth 100000 in
theorem gX4_stripped_X4_hardness : GoodIn wsX4_stripped (wsV RX4 95 RX4 yX4_hardness wsX4_hardness) := goodIn_app (goodIn_sub (mc (List.mem_of_getElem? (i := 2) rfl) (mc (List.mem_of_getElem? (i := 3) rfl) (mc (List.mem_of_getElem? (i := 4) rfl) (mc (List.mem_of_getElem? (i := 5) rfl) mn)))) (by decide +kernel)) ggX4_stripped_X4_hardness
theorem dX4_stripped_0 : decode cX4_stripped 0 = .ok (.iload_n 1, 1) := by decide +kernel
theorem dX4_stripped_1 : decode cX4_stripped 1 = .ok (.iconst 1, 1) := by decide +kernel
theorem dX4_stripped_2 : decode cX4_stripped 2 = .ok (.iadd, 1) := by decide +kernel
theorem dX4_stripped_3 : decode cX4_stripped 3 = .ok (.istore_n 2, 1) := by decide +kernel
theorem dX4_stripped_4 : decode cX4_stripped 4 = .ok (.iload_n 2, 1) := by decide +kernel
theorem dX4_stripped_5 : decode cX4_stripped 5 = .ok (.bipush 40, 2) := by decide +kernel
theorem dX4_stripped_7 : decode cX4_stripped 7 = .ok (.if_icmp .ge 24, 3) := by decide +kernel
theorem dX4_stripped_10 : decode cX4_stripped 10 = .ok (.aload_n 0, 1) := by decide +kernel
theorem dX4_stripped_11 : decode cX4_stripped 11 = .ok (.iload_n 1, 1) := by decide +kernel
theorem dX4_stripped_12 : decode cX4_stripped 12 = .ok (.iload_n 2, 1) := by decide +kernel
theorem dX4_stripped_13 : decode cX4_stripped 13 = .ok (.invokevirtual 95, 3) := by decide +kernel
theorem dX4_stripped_16 : decode cX4_stripped 16 = .ok (.aload_n 0, 1) := by decide +kernel
theorem dX4_stripped_17 : decode cX4_stripped 17 = .ok (.getfield 15, 3) := by decide +kernel
theorem dX4_stripped_20 : decode cX4_stripped 20 = .ok (.if_icmp .lt 5, 3) := by decide +kernel
theorem dX4_stripped_23 : decode cX4_stripped 23 = .ok (.iload_n 2, 1) := by decide +kernel
theorem dX4_stripped_24 : decode cX4_stripped 24 = .ok (.ireturn, 1) := by decide +kernel
theorem dX4_stripped_25 : decode cX4_stripped 25 = .ok (.iinc 2 1, 3) := by decide +kernel
theorem dX4_stripped_28 : decode cX4_stripped 28 = .ok (.goto (-24), 3) := by decide +kernel
theorem dX4_stripped_31 : decode cX4_stripped 31 = .ok (.bipush 40, 2) := by decide +kernel
theorem dX4_stripped_33 : decode cX4_stripped 33 = .ok (.ireturn, 1) := by decide +kernel
theorem dX4_isPoured_0 : decode cX4_isPoured 0 = .ok (.aload_n 0, 1) := by decide +kernel
theorem dX4_isPoured_1 : decode cX4_isPoured 1 = .ok (.getfield 37, 3) := by decide +kernel
theorem dX4_isPoured_4 : decode cX4_isPoured 4 = .ok (.iload_n 1, 1) := by decide +kernel
theorem dX4_isPoured_5 : decode cX4_isPoured 5 = .ok (.iaload, 1) := by decide +kernel
theorem dX4_isPoured_6 : decode cX4_isPoured 6 = .ok (.iconst (-1), 1) := by decide +kernel
theorem dX4_isPoured_7 : decode cX4_isPoured 7 = .ok (.if_icmp .eq 17, 3) := by decide +kernel
theorem dX4_isPoured_10 : decode cX4_isPoured 10 = .ok (.aload_n 0, 1) := by decide +kernel
theorem dX4_isPoured_11 : decode cX4_isPoured 11 = .ok (.getfield 37, 3) := by decide +kernel
theorem dX4_isPoured_14 : decode cX4_isPoured 14 = .ok (.iload_n 1, 1) := by decide +kernel
theorem dX4_isPoured_15 : decode cX4_isPoured 15 = .ok (.iaload, 1) := by decide +kernel
theorem dX4_isPoured_16 : decode cX4_isPoured 16 = .ok (.iload_n 2, 1) := by decide +kernel
theorem dX4_isPoured_17 : decode cX4_isPoured 17 = .ok (.if_icmp .gt 7, 3) := by decide +kernel
theorem dX4_isPoured_20 : decode cX4_isPoured 20 = .ok (.iconst 1, 1) := by decide +kernel
theorem dX4_isPoured_21 : decode cX4_isPoured 21 = .ok (.goto 4, 3) := by decide +kernel
theorem dX4_isPoured_24 : decode cX4_isPoured 24 = .ok (.iconst 0, 1) := by decide +kernel
theorem dX4_isPoured_25 : decode cX4_isPoured 25 = .ok (.ireturn, 1) := by decide +kernel
set_option maxRecDepth 100000 in
theorem ggX4_holds_X4_isPoured : GoodIn wsX4_holds wsX4_isPoured := goodIn_sub (mc (List.mem_of_getElem? (i := 6) rfl) (mem_two (mc (List.mem_of_getElem? (i := 1) rfl) mn) (fun w h => (List.mem_cons_of_mem _ (List.mem_append_right _ h))))) (by decide +kernel)
set_option maxRecDepth 100000 in
theorem gX4_holds_X4_isPoured : GoodIn wsX4_holds (wsV RX4 99 RX4 yX4_isPoured wsX4_isPoured) := goodIn_app (goodIn_sub (mc (List.mem_of_getElem? (i := 2) rfl) (mc (List.mem_of_getElem? (i := 3) rfl) (mc (List.mem_of_getElem? (i := 4) rfl) (mc (List.mem_of_getElem? (i := 5) rfl) mn)))) (by decide +kernel)) ggX4_holds_X4_isPoured
set_option maxRecDepth 100000 in
theorem ggX4_holds_X4_stripped : GoodIn wsX4_holds wsX4_stripped := goodIn_sub (mc (List.mem_of_getElem? (i := 10) rfl) (mem_two (mc (List.mem_of_getElem? (i := 11) rfl) (mc (List.mem_of_getElem? (i := 12) rfl) (mc (List.mem_of_getElem? (i := 13) rfl) (mc (List.mem_of_getElem? (i := 14) rfl) (mc (List.mem_of_getElem? (i := 5) rfl) (mc (List.mem_of_getElem? (i := 15) rfl) (mc (List.mem_of_getElem? (i := 16) rfl) (mc (List.mem_of_getElem? (i := 17) rfl) (mc (List.mem_of_getElem? (i := 18) rfl) (mc (List.mem_of_getElem? (i := 19) rfl) (mc (List.mem_of_getElem? (i := 20) rfl) (mc (List.mem_of_getElem? (i := 21) rfl) (mc (List.mem_of_getElem? (i := 22) rfl) (mc (List.mem_of_getElem? (i := 23) rfl) (mc (List.mem_of_getElem? (i := 24) rfl) mn))))))))))))))) (fun w h => (List.mem_cons_of_mem _ (List.mem_append_right _ h))))) (by decide +kernel)
set_option maxRecDepth 100000 in
theorem gX4_holds_X4_stripped : GoodIn wsX4_holds (wsV RX4 102 RX4 yX4_stripped wsX4_stripped) := goodIn_app (goodIn_sub (mc (List.mem_of_getElem? (i := 7) rfl) (mc (List.mem_of_getElem? (i := 8) rfl) (mc (List.mem_of_getElem? (i := 9) rfl) (mc (List.mem_of_getElem? (i := 5) rfl) mn)))) (by decide +kernel)) ggX4_holds_X4_stripped
theorem dX4_holds_0 : decode cX4_holds 0 = .ok (.aload_n 0, 1) := by decide +kernel
theorem dX4_holds_1 : decode cX4_holds 1 = .ok (.iload_n 1, 1) := by decide +kernel
theorem dX4_holds_2 : decode cX4_holds 2 = .ok (.iload_n 2, 1) := by decide +kernel
theorem dX4_holds_3 : decode cX4_holds 3 = .ok (.invokevirtual 99, 3) := by decide +kernel
theorem dX4_holds_6 : decode cX4_holds 6 = .ok (.ifCond .eq 21, 3) := by decide +kernel
theorem dX4_holds_9 : decode cX4_holds 9 = .ok (.iload_n 2, 1) := by decide +kernel
theorem dX4_holds_10 : decode cX4_holds 10 = .ok (.aload_n 0, 1) := by decide +kernel
theorem dX4_holds_11 : decode cX4_holds 11 = .ok (.aload_n 0, 1) := by decide +kernel
theorem dX4_holds_12 : decode cX4_holds 12 = .ok (.getfield 37, 3) := by decide +kernel
theorem dX4_holds_15 : decode cX4_holds 15 = .ok (.iload_n 1, 1) := by decide +kernel
theorem dX4_holds_16 : decode cX4_holds 16 = .ok (.iaload, 1) := by decide +kernel
theorem dX4_holds_17 : decode cX4_holds 17 = .ok (.invokevirtual 102, 3) := by decide +kernel
theorem dX4_holds_20 : decode cX4_holds 20 = .ok (.if_icmp .ge 7, 3) := by decide +kernel
theorem dX4_holds_23 : decode cX4_holds 23 = .ok (.iconst 1, 1) := by decide +kernel
theorem dX4_holds_24 : decode cX4_holds 24 = .ok (.goto 4, 3) := by decide +kernel
theorem dX4_holds_27 : decode cX4_holds 27 = .ok (.iconst 0, 1) := by decide +kernel
theorem dX4_holds_28 : decode cX4_holds 28 = .ok (.ireturn, 1) := by decide +kernel
set_option maxRecDepth 100000 in
theorem ggX4_freeOf_X4_holds : GoodIn wsX4_freeOf wsX4_holds := goodIn_sub (mc (List.mem_of_getElem? (i := 9) rfl) (mem_two (mc (List.mem_of_getElem? (i := 10) rfl) (mc (List.mem_of_getElem? (i := 11) rfl) (mc (List.mem_of_getElem? (i := 12) rfl) (mc (List.mem_of_getElem? (i := 13) rfl) (mc (List.mem_of_getElem? (i := 8) rfl) (mc (List.mem_of_getElem? (i := 14) rfl) (mc (List.mem_of_getElem? (i := 15) rfl) (mc (List.mem_of_getElem? (i := 16) rfl) (mc (List.mem_of_getElem? (i := 17) rfl) (mc (List.mem_of_getElem? (i := 18) rfl) (mc (List.mem_of_getElem? (i := 19) rfl) (mc (List.mem_of_getElem? (i := 20) rfl) (mc (List.mem_of_getElem? (i := 21) rfl) (mc (List.mem_of_getElem? (i := 22) rfl) (mc (List.mem_of_getElem? (i := 23) rfl) (mc (List.mem_of_getElem? (i := 24) rfl) (mc (List.mem_of_getElem? (i := 25) rfl) (mc (List.mem_of_getElem? (i := 26) rfl) (mc (List.mem_of_getElem? (i := 27) rfl) (mc (List.mem_of_getElem? (i := 28) rfl) (mc (List.mem_of_getElem? (i := 29) rfl) (mc (List.mem_of_getElem? (i := 30) rfl) (mc (List.mem_of_getElem? (i := 31) rfl) (mc (List.mem_of_getElem? (i := 32) rfl) mn)))))))))))))))))))))))) (fun w h => (List.mem_cons_of_mem _ (List.mem_append_right _ h))))) (by decide +kernel)
set_option maxRecDepth 100000 in
theorem gX4_freeOf_X4_holds : GoodIn wsX4_freeOf (wsV RX4 105 RX4 yX4_holds wsX4_holds) := goodIn_app (goodIn_sub (mc (List.mem_of_getElem? (i := 5) rfl) (mc (List.mem_of_getElem? (i := 6) rfl) (mc (List.mem_of_getElem? (i := 7) rfl) (mc (List.mem_of_getElem? (i := 8) rfl) mn)))) (by decide +kernel)) ggX4_freeOf_X4_holds
theorem dX4_freeOf_0 : decode cX4_freeOf 0 = .ok (.aload_n 0, 1) := by decide +kernel
theorem dX4_freeOf_1 : decode cX4_freeOf 1 = .ok (.getfield 52, 3) := by decide +kernel
theorem dX4_freeOf_4 : decode cX4_freeOf 4 = .ok (.iload_n 1, 1) := by decide +kernel
theorem dX4_freeOf_5 : decode cX4_freeOf 5 = .ok (.iaload, 1) := by decide +kernel
theorem dX4_freeOf_6 : decode cX4_freeOf 6 = .ok (.istore 4, 2) := by decide +kernel
theorem dX4_freeOf_8 : decode cX4_freeOf 8 = .ok (.iconst 0, 1) := by decide +kernel
theorem dX4_freeOf_9 : decode cX4_freeOf 9 = .ok (.istore 5, 2) := by decide +kernel
theorem dX4_freeOf_11 : decode cX4_freeOf 11 = .ok (.iload 5, 2) := by decide +kernel
theorem dX4_freeOf_13 : decode cX4_freeOf 13 = .ok (.aload_n 0, 1) := by decide +kernel
theorem dX4_freeOf_14 : decode cX4_freeOf 14 = .ok (.getfield 67, 3) := by decide +kernel
theorem dX4_freeOf_17 : decode cX4_freeOf 17 = .ok (.if_icmp .ge 48, 3) := by decide +kernel
theorem dX4_freeOf_20 : decode cX4_freeOf 20 = .ok (.iload 5, 2) := by decide +kernel
theorem dX4_freeOf_22 : decode cX4_freeOf 22 = .ok (.iload_n 3, 1) := by decide +kernel
theorem dX4_freeOf_23 : decode cX4_freeOf 23 = .ok (.if_icmp .eq 36, 3) := by decide +kernel
theorem dX4_freeOf_26 : decode cX4_freeOf 26 = .ok (.aload_n 0, 1) := by decide +kernel
theorem dX4_freeOf_27 : decode cX4_freeOf 27 = .ok (.getfield 31, 3) := by decide +kernel
theorem dX4_freeOf_30 : decode cX4_freeOf 30 = .ok (.iload 5, 2) := by decide +kernel
theorem dX4_freeOf_32 : decode cX4_freeOf 32 = .ok (.iaload, 1) := by decide +kernel
theorem dX4_freeOf_33 : decode cX4_freeOf 33 = .ok (.iload_n 1, 1) := by decide +kernel
theorem dX4_freeOf_34 : decode cX4_freeOf 34 = .ok (.if_icmp .ne 25, 3) := by decide +kernel
theorem dX4_freeOf_37 : decode cX4_freeOf 37 = .ok (.aload_n 0, 1) := by decide +kernel
theorem dX4_freeOf_38 : decode cX4_freeOf 38 = .ok (.iload 5, 2) := by decide +kernel
theorem dX4_freeOf_40 : decode cX4_freeOf 40 = .ok (.iload_n 2, 1) := by decide +kernel
theorem dX4_freeOf_41 : decode cX4_freeOf 41 = .ok (.invokevirtual 105, 3) := by decide +kernel
theorem dX4_freeOf_44 : decode cX4_freeOf 44 = .ok (.ifCond .eq 15, 3) := by decide +kernel
theorem dX4_freeOf_47 : decode cX4_freeOf 47 = .ok (.iload 4, 2) := by decide +kernel
theorem dX4_freeOf_49 : decode cX4_freeOf 49 = .ok (.aload_n 0, 1) := by decide +kernel
theorem dX4_freeOf_50 : decode cX4_freeOf 50 = .ok (.getfield 34, 3) := by decide +kernel
theorem dX4_freeOf_53 : decode cX4_freeOf 53 = .ok (.iload 5, 2) := by decide +kernel
theorem dX4_freeOf_55 : decode cX4_freeOf 55 = .ok (.iaload, 1) := by decide +kernel
theorem dX4_freeOf_56 : decode cX4_freeOf 56 = .ok (.isub, 1) := by decide +kernel
theorem dX4_freeOf_57 : decode cX4_freeOf 57 = .ok (.istore 4, 2) := by decide +kernel
theorem dX4_freeOf_59 : decode cX4_freeOf 59 = .ok (.iinc 5 1, 3) := by decide +kernel
theorem dX4_freeOf_62 : decode cX4_freeOf 62 = .ok (.goto (-51), 3) := by decide +kernel
theorem dX4_freeOf_65 : decode cX4_freeOf 65 = .ok (.iload 4, 2) := by decide +kernel
theorem dX4_freeOf_67 : decode cX4_freeOf 67 = .ok (.ireturn, 1) := by decide +kernel
theorem dX4_volumes_0 : decode cX4_volumes 0 = .ok (.iconst 0, 1) := by decide +kernel
theorem dX4_volumes_1 : decode cX4_volumes 1 = .ok (.istore_n 3, 1) := by decide +kernel
theorem dX4_volumes_2 : decode cX4_volumes 2 = .ok (.iconst 0, 1) := by decide +kernel
theorem dX4_volumes_3 : decode cX4_volumes 3 = .ok (.istore 4, 2) := by decide +kernel
theorem dX4_volumes_5 : decode cX4_volumes 5 = .ok (.iload 4, 2) := by decide +kernel
theorem dX4_volumes_7 : decode cX4_volumes 7 = .ok (.aload_n 0, 1) := by decide +kernel
theorem dX4_volumes_8 : decode cX4_volumes 8 = .ok (.getfield 67, 3) := by decide +kernel
theorem dX4_volumes_11 : decode cX4_volumes 11 = .ok (.if_icmp .ge 36, 3) := by decide +kernel
theorem dX4_volumes_14 : decode cX4_volumes 14 = .ok (.iload 4, 2) := by decide +kernel
theorem dX4_volumes_16 : decode cX4_volumes 16 = .ok (.iload_n 2, 1) := by decide +kernel
theorem dX4_volumes_17 : decode cX4_volumes 17 = .ok (.if_icmp .eq 24, 3) := by decide +kernel
theorem dX4_volumes_20 : decode cX4_volumes 20 = .ok (.aload_n 0, 1) := by decide +kernel
theorem dX4_volumes_21 : decode cX4_volumes 21 = .ok (.getfield 37, 3) := by decide +kernel
theorem dX4_volumes_24 : decode cX4_volumes 24 = .ok (.iload 4, 2) := by decide +kernel
theorem dX4_volumes_26 : decode cX4_volumes 26 = .ok (.iaload, 1) := by decide +kernel
theorem dX4_volumes_27 : decode cX4_volumes 27 = .ok (.iload_n 1, 1) := by decide +kernel
theorem dX4_volumes_28 : decode cX4_volumes 28 = .ok (.if_icmp .ne 13, 3) := by decide +kernel
theorem dX4_volumes_31 : decode cX4_volumes 31 = .ok (.iload_n 3, 1) := by decide +kernel
theorem dX4_volumes_32 : decode cX4_volumes 32 = .ok (.aload_n 0, 1) := by decide +kernel
theorem dX4_volumes_33 : decode cX4_volumes 33 = .ok (.getfield 28, 3) := by decide +kernel
theorem dX4_volumes_36 : decode cX4_volumes 36 = .ok (.iload 4, 2) := by decide +kernel
theorem dX4_volumes_38 : decode cX4_volumes 38 = .ok (.iaload, 1) := by decide +kernel
theorem dX4_volumes_39 : decode cX4_volumes 39 = .ok (.iadd, 1) := by decide +kernel
theorem dX4_volumes_40 : decode cX4_volumes 40 = .ok (.istore_n 3, 1) := by decide +kernel
theorem dX4_volumes_41 : decode cX4_volumes 41 = .ok (.iinc 4 1, 3) := by decide +kernel
theorem dX4_volumes_44 : decode cX4_volumes 44 = .ok (.goto (-39), 3) := by decide +kernel
theorem dX4_volumes_47 : decode cX4_volumes 47 = .ok (.iload_n 3, 1) := by decide +kernel
theorem dX4_volumes_48 : decode cX4_volumes 48 = .ok (.ireturn, 1) := by decide +kernel
theorem dX4_isUnder_0 : decode cX4_isUnder 0 = .ok (.iload_n 2, 1) := by decide +kernel
theorem dX4_isUnder_1 : decode cX4_isUnder 1 = .ok (.iload_n 1, 1) := by decide +kernel
theorem dX4_isUnder_2 : decode cX4_isUnder 2 = .ok (.if_icmp .ne 5, 3) := by decide +kernel
theorem dX4_isUnder_5 : decode cX4_isUnder 5 = .ok (.iconst 0, 1) := by decide +kernel
theorem dX4_isUnder_6 : decode cX4_isUnder 6 = .ok (.ireturn, 1) := by decide +kernel
theorem dX4_isUnder_7 : decode cX4_isUnder 7 = .ok (.aload_n 0, 1) := by decide +kernel
theorem dX4_isUnder_8 : decode cX4_isUnder 8 = .ok (.getfield 21, 3) := by decide +kernel
theorem dX4_isUnder_11 : decode cX4_isUnder 11 = .ok (.iload_n 2, 1) := by decide +kernel
theorem dX4_isUnder_12 : decode cX4_isUnder 12 = .ok (.iaload, 1) := by decide +kernel
theorem dX4_isUnder_13 : decode cX4_isUnder 13 = .ok (.iconst 1, 1) := by decide +kernel
theorem dX4_isUnder_14 : decode cX4_isUnder 14 = .ok (.if_icmp .eq 13, 3) := by decide +kernel
theorem dX4_isUnder_17 : decode cX4_isUnder 17 = .ok (.aload_n 0, 1) := by decide +kernel
theorem dX4_isUnder_18 : decode cX4_isUnder 18 = .ok (.getfield 21, 3) := by decide +kernel
theorem dX4_isUnder_21 : decode cX4_isUnder 21 = .ok (.iload_n 2, 1) := by decide +kernel
theorem dX4_isUnder_22 : decode cX4_isUnder 22 = .ok (.iaload, 1) := by decide +kernel
theorem dX4_isUnder_23 : decode cX4_isUnder 23 = .ok (.iconst 2, 1) := by decide +kernel
theorem dX4_isUnder_24 : decode cX4_isUnder 24 = .ok (.if_icmp .ne 24, 3) := by decide +kernel
theorem dX4_isUnder_27 : decode cX4_isUnder 27 = .ok (.aload_n 0, 1) := by decide +kernel
theorem dX4_isUnder_28 : decode cX4_isUnder 28 = .ok (.getfield 25, 3) := by decide +kernel
theorem dX4_isUnder_31 : decode cX4_isUnder 31 = .ok (.iload_n 2, 1) := by decide +kernel
theorem dX4_isUnder_32 : decode cX4_isUnder 32 = .ok (.iaload, 1) := by decide +kernel
theorem dX4_isUnder_33 : decode cX4_isUnder 33 = .ok (.aload_n 0, 1) := by decide +kernel
theorem dX4_isUnder_34 : decode cX4_isUnder 34 = .ok (.getfield 25, 3) := by decide +kernel
theorem dX4_isUnder_37 : decode cX4_isUnder 37 = .ok (.iload_n 1, 1) := by decide +kernel
theorem dX4_isUnder_38 : decode cX4_isUnder 38 = .ok (.iaload, 1) := by decide +kernel
theorem dX4_isUnder_39 : decode cX4_isUnder 39 = .ok (.if_icmp .ne 7, 3) := by decide +kernel
theorem dX4_isUnder_42 : decode cX4_isUnder 42 = .ok (.iconst 1, 1) := by decide +kernel
theorem dX4_isUnder_43 : decode cX4_isUnder 43 = .ok (.goto 4, 3) := by decide +kernel
theorem dX4_isUnder_46 : decode cX4_isUnder 46 = .ok (.iconst 0, 1) := by decide +kernel
theorem dX4_isUnder_47 : decode cX4_isUnder 47 = .ok (.ireturn, 1) := by decide +kernel
theorem dX4_isUnder_48 : decode cX4_isUnder 48 = .ok (.aload_n 0, 1) := by decide +kernel
theorem dX4_isUnder_49 : decode cX4_isUnder 49 = .ok (.getfield 21, 3) := by decide +kernel
theorem dX4_isUnder_52 : decode cX4_isUnder 52 = .ok (.iload_n 2, 1) := by decide +kernel
theorem dX4_isUnder_53 : decode cX4_isUnder 53 = .ok (.iaload, 1) := by decide +kernel
theorem dX4_isUnder_54 : decode cX4_isUnder 54 = .ok (.ifCond .ne 24, 3) := by decide +kernel
theorem dX4_isUnder_57 : decode cX4_isUnder 57 = .ok (.aload_n 0, 1) := by decide +kernel
theorem dX4_isUnder_58 : decode cX4_isUnder 58 = .ok (.getfield 25, 3) := by decide +kernel
theorem dX4_isUnder_61 : decode cX4_isUnder 61 = .ok (.iload_n 2, 1) := by decide +kernel
theorem dX4_isUnder_62 : decode cX4_isUnder 62 = .ok (.iaload, 1) := by decide +kernel
theorem dX4_isUnder_63 : decode cX4_isUnder 63 = .ok (.aload_n 0, 1) := by decide +kernel
theorem dX4_isUnder_64 : decode cX4_isUnder 64 = .ok (.getfield 25, 3) := by decide +kernel
theorem dX4_isUnder_67 : decode cX4_isUnder 67 = .ok (.iload_n 1, 1) := by decide +kernel
theorem dX4_isUnder_68 : decode cX4_isUnder 68 = .ok (.iaload, 1) := by decide +kernel
theorem dX4_isUnder_69 : decode cX4_isUnder 69 = .ok (.iconst 1, 1) := by decide +kernel
theorem dX4_isUnder_70 : decode cX4_isUnder 70 = .ok (.isub, 1) := by decide +kernel
theorem dX4_isUnder_71 : decode cX4_isUnder 71 = .ok (.if_icmp .ne 7, 3) := by decide +kernel
theorem dX4_isUnder_74 : decode cX4_isUnder 74 = .ok (.iconst 1, 1) := by decide +kernel
theorem dX4_isUnder_75 : decode cX4_isUnder 75 = .ok (.goto 4, 3) := by decide +kernel
theorem dX4_isUnder_78 : decode cX4_isUnder 78 = .ok (.iconst 0, 1) := by decide +kernel
theorem dX4_isUnder_79 : decode cX4_isUnder 79 = .ok (.ireturn, 1) := by decide +kernel
set_option maxRecDepth 100000 in
theorem ggX4_hinders_X4_isUnder : GoodIn wsX4_hinders wsX4_isUnder := goodIn_sub (mc (List.mem_of_getElem? (i := 14) rfl) (mem_two (mc (List.mem_of_getElem? (i := 4) rfl) (mc (List.mem_of_getElem? (i := 15) rfl) mn)) (fun w h => (List.mem_cons_of_mem _ (List.mem_append_right _ h))))) (by decide +kernel)
set_option maxRecDepth 100000 in
theorem gX4_hinders_X4_isUnder : GoodIn wsX4_hinders (wsV RX4 108 RX4 yX4_isUnder wsX4_isUnder) := goodIn_app (goodIn_sub (mc (List.mem_of_getElem? (i := 10) rfl) (mc (List.mem_of_getElem? (i := 11) rfl) (mc (List.mem_of_getElem? (i := 12) rfl) (mc (List.mem_of_getElem? (i := 13) rfl) mn)))) (by decide +kernel)) ggX4_hinders_X4_isUnder
set_option maxRecDepth 100000 in
theorem ggX4_hinders_X4_isPoured : GoodIn wsX4_hinders wsX4_isPoured := goodIn_sub (mc (List.mem_of_getElem? (i := 19) rfl) (mem_two (mc (List.mem_of_getElem? (i := 3) rfl) mn) (fun w h => (List.mem_cons_of_mem _ (List.mem_append_right _ h))))) (by decide +kernel)
set_option maxRecDepth 100000 in
theorem gX4_hinders_X4_isPoured : GoodIn wsX4_hinders (wsV RX4 99 RX4 yX4_isPoured wsX4_isPoured) := goodIn_app (goodIn_sub (mc (List.mem_of_getElem? (i := 16) rfl) (mc (List.mem_of_getElem? (i := 17) rfl) (mc (List.mem_of_getElem? (i := 18) rfl) (mc (List.mem_of_getElem? (i := 13) rfl) mn)))) (by decide +kernel)) ggX4_hinders_X4_isPoured
set_option maxRecDepth 100000 in
theorem ggX4_hinders_X4_hardness : GoodIn wsX4_hinders wsX4_hardness := goodIn_sub (mc (List.mem_of_getElem? (i := 23) rfl) (mem_two (mc (List.mem_of_getElem? (i := 24) rfl) (mc (List.mem_of_getElem? (i := 25) rfl) (mc (List.mem_of_getElem? (i := 26) rfl) (mc (List.mem_of_getElem? (i := 27) rfl) (mc (List.mem_of_getElem? (i := 28) rfl) (mc (List.mem_of_getElem? (i := 13) rfl) (mc (List.mem_of_getElem? (i := 29) rfl) (mc (List.mem_of_getElem? (i := 30) rfl) (mc (List.mem_of_getElem? (i := 31) rfl) (mc (List.mem_of_getElem? (i := 32) rfl) mn)))))))))) (fun w h => (List.mem_cons_of_mem _ (List.mem_append_right _ h))))) (by decide +kernel)
set_option maxRecDepth 100000 in
theorem gX4_hinders_X4_hardness : GoodIn wsX4_hinders (wsV RX4 95 RX4 yX4_hardness wsX4_hardness) := goodIn_app (goodIn_sub (mc (List.mem_of_getElem? (i := 20) rfl) (mc (List.mem_of_getElem? (i := 21) rfl) (mc (List.mem_of_getElem? (i := 22) rfl) (mc (List.mem_of_getElem? (i := 13) rfl) mn)))) (by decide +kernel)) ggX4_hinders_X4_hardness
set_option maxRecDepth 100000 in
theorem ggX4_hinders_X4_freeOf : GoodIn wsX4_hinders wsX4_freeOf := goodIn_sub (mc (List.mem_of_getElem? (i := 36) rfl) (mem_two (mem_two (mc (List.mem_of_getElem? (i := 37) rfl) (mc (List.mem_of_getElem? (i := 1) rfl) (mc (List.mem_of_getElem? (i := 6) rfl) (mc (List.mem_of_getElem? (i := 7) rfl) (mc (List.mem_of_getElem? (i := 38) rfl) (mc (List.mem_of_getElem? (i := 39) rfl) (mc (List.mem_of_getElem? (i := 40) rfl) (mc (List.mem_of_getElem? (i := 13) rfl) (mc (List.mem_of_getElem? (i := 41) rfl) (mc (List.mem_of_getElem? (i := 3) rfl) (mc (List.mem_of_getElem? (i := 16) rfl) (mc (List.mem_of_getElem? (i := 17) rfl) (mc (List.mem_of_getElem? (i := 18) rfl) (mc (List.mem_of_getElem? (i := 19) rfl) (mc (List.mem_of_getElem? (i := 42) rfl) (mc (List.mem_of_getElem? (i := 43) rfl) (mc (List.mem_of_getElem? (i := 44) rfl) (mc (List.mem_of_getElem? (i := 45) rfl) (mc (List.mem_of_getElem? (i := 46) rfl) (mc (List.mem_of_getElem? (i := 20) rfl) (mc (List.mem_of_getElem? (i := 21) rfl) (mc (List.mem_of_getElem? (i := 22) rfl) (mc (List.mem_of_getElem? (i := 23) rfl) (mc (List.mem_of_getElem? (i := 24) rfl) mn)))))))))))))))))))))))) (mc (List.mem_of_getElem? (i := 25) rfl) (mc (List.mem_of_getElem? (i := 26) rfl) (mc (List.mem_of_getElem? (i := 27) rfl) (mc (List.mem_of_getElem? (i := 28) rfl) (mc (List.mem_of_getElem? (i := 29) rfl) (mc (List.mem_of_getElem? (i := 30) rfl) (mc (List.mem_of_getElem? (i := 31) rfl) (mc (List.mem_of_getElem? (i := 32) rfl) mn))))))))) (fun w h => (List.mem_cons_of_mem _ (List.mem_append_right _ h))))) (by decide +kernel)
set_option maxRecDepth 100000 in
theorem gX4_hinders_X4_freeOf : GoodIn wsX4_hinders (wsV RX4 111 RX4 yX4_freeOf wsX4_freeOf) := goodIn_app (goodIn_sub (mc (List.mem_of_getElem? (i := 33) rfl) (mc (List.mem_of_getElem? (i := 34) rfl) (mc (List.mem_of_getElem? (i := 35) rfl) (mc (List.mem_of_getElem? (i := 13) rfl) mn)))) (by decide +kernel)) ggX4_hinders_X4_freeOf
set_option maxRecDepth 100000 in
theorem ggX4_hinders_X4_volumes : GoodIn wsX4_hinders wsX4_volumes := goodIn_sub (mc (List.mem_of_getElem? (i := 50) rfl) (mem_two (mc (List.mem_of_getElem? (i := 1) rfl) (mc (List.mem_of_getElem? (i := 3) rfl) (mc (List.mem_of_getElem? (i := 8) rfl) mn))) (fun w h => (List.mem_cons_of_mem _ (List.mem_append_right _ h))))) (by decide +kernel)
set_option maxRecDepth 100000 in
theorem gX4_hinders_X4_volumes : GoodIn wsX4_hinders (wsV RX4 115 RX4 yX4_volumes wsX4_volumes) := goodIn_app (goodIn_sub (mc (List.mem_of_getElem? (i := 47) rfl) (mc (List.mem_of_getElem? (i := 48) rfl) (mc (List.mem_of_getElem? (i := 49) rfl) (mc (List.mem_of_getElem? (i := 13) rfl) mn)))) (by decide +kernel)) ggX4_hinders_X4_volumes
theorem dX4_hinders_0 : decode cX4_hinders 0 = .ok (.iconst 0, 1) := by decide +kernel
theorem dX4_hinders_1 : decode cX4_hinders 1 = .ok (.istore_n 3, 1) := by decide +kernel
theorem dX4_hinders_2 : decode cX4_hinders 2 = .ok (.iload_n 3, 1) := by decide +kernel
theorem dX4_hinders_3 : decode cX4_hinders 3 = .ok (.aload_n 0, 1) := by decide +kernel
theorem dX4_hinders_4 : decode cX4_hinders 4 = .ok (.getfield 67, 3) := by decide +kernel
theorem dX4_hinders_7 : decode cX4_hinders 7 = .ok (.if_icmp .ge 53, 3) := by decide +kernel
theorem dX4_hinders_10 : decode cX4_hinders 10 = .ok (.aload_n 0, 1) := by decide +kernel
theorem dX4_hinders_11 : decode cX4_hinders 11 = .ok (.getfield 40, 3) := by decide +kernel
theorem dX4_hinders_14 : decode cX4_hinders 14 = .ok (.bipush 10, 2) := by decide +kernel
theorem dX4_hinders_16 : decode cX4_hinders 16 = .ok (.iload_n 3, 1) := by decide +kernel
theorem dX4_hinders_17 : decode cX4_hinders 17 = .ok (.imul, 1) := by decide +kernel
theorem dX4_hinders_18 : decode cX4_hinders 18 = .ok (.iload_n 1, 1) := by decide +kernel
theorem dX4_hinders_19 : decode cX4_hinders 19 = .ok (.iadd, 1) := by decide +kernel
theorem dX4_hinders_20 : decode cX4_hinders 20 = .ok (.iaload, 1) := by decide +kernel
theorem dX4_hinders_21 : decode cX4_hinders 21 = .ok (.istore 4, 2) := by decide +kernel
theorem dX4_hinders_23 : decode cX4_hinders 23 = .ok (.iload 4, 2) := by decide +kernel
theorem dX4_hinders_25 : decode cX4_hinders 25 = .ok (.iconst (-1), 1) := by decide +kernel
theorem dX4_hinders_26 : decode cX4_hinders 26 = .ok (.if_icmp .eq 28, 3) := by decide +kernel
theorem dX4_hinders_29 : decode cX4_hinders 29 = .ok (.aload_n 0, 1) := by decide +kernel
theorem dX4_hinders_30 : decode cX4_hinders 30 = .ok (.getfield 37, 3) := by decide +kernel
theorem dX4_hinders_33 : decode cX4_hinders 33 = .ok (.iload_n 3, 1) := by decide +kernel
theorem dX4_hinders_34 : decode cX4_hinders 34 = .ok (.iaload, 1) := by decide +kernel
theorem dX4_hinders_35 : decode cX4_hinders 35 = .ok (.iconst (-1), 1) := by decide +kernel
theorem dX4_hinders_36 : decode cX4_hinders 36 = .ok (.if_icmp .eq 16, 3) := by decide +kernel
theorem dX4_hinders_39 : decode cX4_hinders 39 = .ok (.aload_n 0, 1) := by decide +kernel
theorem dX4_hinders_40 : decode cX4_hinders 40 = .ok (.getfield 37, 3) := by decide +kernel
theorem dX4_hinders_43 : decode cX4_hinders 43 = .ok (.iload_n 3, 1) := by decide +kernel
theorem dX4_hinders_44 : decode cX4_hinders 44 = .ok (.iaload, 1) := by decide +kernel
theorem dX4_hinders_45 : decode cX4_hinders 45 = .ok (.iload 4, 2) := by decide +kernel
theorem dX4_hinders_47 : decode cX4_hinders 47 = .ok (.iadd, 1) := by decide +kernel
theorem dX4_hinders_48 : decode cX4_hinders 48 = .ok (.iload_n 2, 1) := by decide +kernel
theorem dX4_hinders_49 : decode cX4_hinders 49 = .ok (.if_icmp .le 5, 3) := by decide +kernel
theorem dX4_hinders_52 : decode cX4_hinders 52 = .ok (.iconst 1, 1) := by decide +kernel
theorem dX4_hinders_53 : decode cX4_hinders 53 = .ok (.ireturn, 1) := by decide +kernel
theorem dX4_hinders_54 : decode cX4_hinders 54 = .ok (.iinc 3 1, 3) := by decide +kernel
theorem dX4_hinders_57 : decode cX4_hinders 57 = .ok (.goto (-55), 3) := by decide +kernel
theorem dX4_hinders_60 : decode cX4_hinders 60 = .ok (.iconst 0, 1) := by decide +kernel
theorem dX4_hinders_61 : decode cX4_hinders 61 = .ok (.istore_n 3, 1) := by decide +kernel
theorem dX4_hinders_62 : decode cX4_hinders 62 = .ok (.iload_n 3, 1) := by decide +kernel
theorem dX4_hinders_63 : decode cX4_hinders 63 = .ok (.aload_n 0, 1) := by decide +kernel
theorem dX4_hinders_64 : decode cX4_hinders 64 = .ok (.getfield 67, 3) := by decide +kernel
theorem dX4_hinders_67 : decode cX4_hinders 67 = .ok (.if_icmp .ge 56, 3) := by decide +kernel
theorem dX4_hinders_70 : decode cX4_hinders 70 = .ok (.aload_n 0, 1) := by decide +kernel
theorem dX4_hinders_71 : decode cX4_hinders 71 = .ok (.getfield 21, 3) := by decide +kernel
theorem dX4_hinders_74 : decode cX4_hinders 74 = .ok (.iload_n 1, 1) := by decide +kernel
theorem dX4_hinders_75 : decode cX4_hinders 75 = .ok (.iaload, 1) := by decide +kernel
theorem dX4_hinders_76 : decode cX4_hinders 76 = .ok (.ifCond .ne 47, 3) := by decide +kernel
theorem dX4_hinders_79 : decode cX4_hinders 79 = .ok (.aload_n 0, 1) := by decide +kernel
theorem dX4_hinders_80 : decode cX4_hinders 80 = .ok (.iload_n 1, 1) := by decide +kernel
theorem dX4_hinders_81 : decode cX4_hinders 81 = .ok (.iload_n 3, 1) := by decide +kernel
theorem dX4_hinders_82 : decode cX4_hinders 82 = .ok (.invokevirtual 108, 3) := by decide +kernel
theorem dX4_hinders_85 : decode cX4_hinders 85 = .ok (.ifCond .eq 32, 3) := by decide +kernel
theorem dX4_hinders_88 : decode cX4_hinders 88 = .ok (.aload_n 0, 1) := by decide +kernel
theorem dX4_hinders_89 : decode cX4_hinders 89 = .ok (.iload_n 3, 1) := by decide +kernel
theorem dX4_hinders_90 : decode cX4_hinders 90 = .ok (.iload_n 2, 1) := by decide +kernel
theorem dX4_hinders_91 : decode cX4_hinders 91 = .ok (.invokevirtual 99, 3) := by decide +kernel
theorem dX4_hinders_94 : decode cX4_hinders 94 = .ok (.ifCond .eq 21, 3) := by decide +kernel
theorem dX4_hinders_97 : decode cX4_hinders 97 = .ok (.aload_n 0, 1) := by decide +kernel
theorem dX4_hinders_98 : decode cX4_hinders 98 = .ok (.aload_n 0, 1) := by decide +kernel
theorem dX4_hinders_99 : decode cX4_hinders 99 = .ok (.getfield 37, 3) := by decide +kernel
theorem dX4_hinders_102 : decode cX4_hinders 102 = .ok (.iload_n 3, 1) := by decide +kernel
theorem dX4_hinders_103 : decode cX4_hinders 103 = .ok (.iaload, 1) := by decide +kernel
theorem dX4_hinders_104 : decode cX4_hinders 104 = .ok (.iload_n 2, 1) := by decide +kernel
theorem dX4_hinders_105 : decode cX4_hinders 105 = .ok (.invokevirtual 95, 3) := by decide +kernel
theorem dX4_hinders_108 : decode cX4_hinders 108 = .ok (.aload_n 0, 1) := by decide +kernel
theorem dX4_hinders_109 : decode cX4_hinders 109 = .ok (.getfield 18, 3) := by decide +kernel
theorem dX4_hinders_112 : decode cX4_hinders 112 = .ok (.if_icmp .ge 5, 3) := by decide +kernel
theorem dX4_hinders_115 : decode cX4_hinders 115 = .ok (.iconst 2, 1) := by decide +kernel
theorem dX4_hinders_116 : decode cX4_hinders 116 = .ok (.ireturn, 1) := by decide +kernel
theorem dX4_hinders_117 : decode cX4_hinders 117 = .ok (.iinc 3 1, 3) := by decide +kernel
theorem dX4_hinders_120 : decode cX4_hinders 120 = .ok (.goto (-58), 3) := by decide +kernel
theorem dX4_hinders_123 : decode cX4_hinders 123 = .ok (.aload_n 0, 1) := by decide +kernel
theorem dX4_hinders_124 : decode cX4_hinders 124 = .ok (.aload_n 0, 1) := by decide +kernel
theorem dX4_hinders_125 : decode cX4_hinders 125 = .ok (.getfield 31, 3) := by decide +kernel
theorem dX4_hinders_128 : decode cX4_hinders 128 = .ok (.iload_n 1, 1) := by decide +kernel
theorem dX4_hinders_129 : decode cX4_hinders 129 = .ok (.iaload, 1) := by decide +kernel
theorem dX4_hinders_130 : decode cX4_hinders 130 = .ok (.iload_n 2, 1) := by decide +kernel
theorem dX4_hinders_131 : decode cX4_hinders 131 = .ok (.iload_n 1, 1) := by decide +kernel
theorem dX4_hinders_132 : decode cX4_hinders 132 = .ok (.invokevirtual 111, 3) := by decide +kernel
theorem dX4_hinders_135 : decode cX4_hinders 135 = .ok (.aload_n 0, 1) := by decide +kernel
theorem dX4_hinders_136 : decode cX4_hinders 136 = .ok (.getfield 34, 3) := by decide +kernel
theorem dX4_hinders_139 : decode cX4_hinders 139 = .ok (.iload_n 1, 1) := by decide +kernel
theorem dX4_hinders_140 : decode cX4_hinders 140 = .ok (.iaload, 1) := by decide +kernel
theorem dX4_hinders_141 : decode cX4_hinders 141 = .ok (.if_icmp .ge 5, 3) := by decide +kernel
theorem dX4_hinders_144 : decode cX4_hinders 144 = .ok (.iconst 3, 1) := by decide +kernel
theorem dX4_hinders_145 : decode cX4_hinders 145 = .ok (.ireturn, 1) := by decide +kernel
theorem dX4_hinders_146 : decode cX4_hinders 146 = .ok (.aload_n 0, 1) := by decide +kernel
theorem dX4_hinders_147 : decode cX4_hinders 147 = .ok (.iload_n 2, 1) := by decide +kernel
theorem dX4_hinders_148 : decode cX4_hinders 148 = .ok (.iload_n 1, 1) := by decide +kernel
theorem dX4_hinders_149 : decode cX4_hinders 149 = .ok (.invokevirtual 115, 3) := by decide +kernel
theorem dX4_hinders_152 : decode cX4_hinders 152 = .ok (.aload_n 0, 1) := by decide +kernel
theorem dX4_hinders_153 : decode cX4_hinders 153 = .ok (.getfield 28, 3) := by decide +kernel
theorem dX4_hinders_156 : decode cX4_hinders 156 = .ok (.iload_n 1, 1) := by decide +kernel
theorem dX4_hinders_157 : decode cX4_hinders 157 = .ok (.iaload, 1) := by decide +kernel
theorem dX4_hinders_158 : decode cX4_hinders 158 = .ok (.iadd, 1) := by decide +kernel
theorem dX4_hinders_159 : decode cX4_hinders 159 = .ok (.aload_n 0, 1) := by decide +kernel
theorem dX4_hinders_160 : decode cX4_hinders 160 = .ok (.getfield 9, 3) := by decide +kernel
theorem dX4_hinders_163 : decode cX4_hinders 163 = .ok (.if_icmp .le 7, 3) := by decide +kernel
theorem dX4_hinders_166 : decode cX4_hinders 166 = .ok (.iconst 4, 1) := by decide +kernel
theorem dX4_hinders_167 : decode cX4_hinders 167 = .ok (.goto 4, 3) := by decide +kernel
theorem dX4_hinders_170 : decode cX4_hinders 170 = .ok (.iconst 0, 1) := by decide +kernel
theorem dX4_hinders_171 : decode cX4_hinders 171 = .ok (.ireturn, 1) := by decide +kernel
set_option maxRecDepth 100000 in
theorem ggX4_plans_X4_hinders : GoodIn wsX4_plans wsX4_hinders := goodIn_sub (mc (List.mem_of_getElem? (i := 8) rfl) (mem_two (mem_two (mc (List.mem_of_getElem? (i := 1) rfl) (mc (List.mem_of_getElem? (i := 9) rfl) (mc (List.mem_of_getElem? (i := 2) rfl) (mc (List.mem_of_getElem? (i := 10) rfl) (mc (List.mem_of_getElem? (i := 11) rfl) (mc (List.mem_of_getElem? (i := 12) rfl) (mc (List.mem_of_getElem? (i := 13) rfl) (mc (List.mem_of_getElem? (i := 14) rfl) (mc (List.mem_of_getElem? (i := 15) rfl) (mc (List.mem_of_getElem? (i := 16) rfl) (mc (List.mem_of_getElem? (i := 17) rfl) (mc (List.mem_of_getElem? (i := 18) rfl) (mc (List.mem_of_getElem? (i := 7) rfl) (mc (List.mem_of_getElem? (i := 19) rfl) (mc (List.mem_of_getElem? (i := 20) rfl) (mc (List.mem_of_getElem? (i := 21) rfl) (mc (List.mem_of_getElem? (i := 22) rfl) (mc (List.mem_of_getElem? (i := 23) rfl) (mc (List.mem_of_getElem? (i := 24) rfl) (mc (List.mem_of_getElem? (i := 25) rfl) (mc (List.mem_of_getElem? (i := 26) rfl) (mc (List.mem_of_getElem? (i := 27) rfl) (mc (List.mem_of_getElem? (i := 28) rfl) (mc (List.mem_of_getElem? (i := 29) rfl) mn)))))))))))))))))))))))) (mem_two (mc (List.mem_of_getElem? (i := 30) rfl) (mc (List.mem_of_getElem? (i := 31) rfl) (mc (List.mem_of_getElem? (i := 32) rfl) (mc (List.mem_of_getElem? (i := 33) rfl) (mc (List.mem_of_getElem? (i := 34) rfl) (mc (List.mem_of_getElem? (i := 35) rfl) (mc (List.mem_of_getElem? (i := 36) rfl) (mc (List.mem_of_getElem? (i := 37) rfl) (mc (List.mem_of_getElem? (i := 38) rfl) (mc (List.mem_of_getElem? (i := 39) rfl) (mc (List.mem_of_getElem? (i := 40) rfl) (mc (List.mem_of_getElem? (i := 41) rfl) (mc (List.mem_of_getElem? (i := 42) rfl) (mc (List.mem_of_getElem? (i := 43) rfl) (mc (List.mem_of_getElem? (i := 44) rfl) (mc (List.mem_of_getElem? (i := 45) rfl) (mc (List.mem_of_getElem? (i := 46) rfl) (mc (List.mem_of_getElem? (i := 47) rfl) (mc (List.mem_of_getElem? (i := 48) rfl) (mc (List.mem_of_getElem? (i := 49) rfl) (mc (List.mem_of_getElem? (i := 50) rfl) (mc (List.mem_of_getElem? (i := 51) rfl) (mc (List.mem_of_getElem? (i := 52) rfl) (mc (List.mem_of_getElem? (i := 53) rfl) mn)))))))))))))))))))))))) (mc (List.mem_of_getElem? (i := 54) rfl) (mc (List.mem_of_getElem? (i := 55) rfl) mn)))) (fun w h => (List.mem_cons_of_mem _ (List.mem_append_right _ h))))) (by decide +kernel)
set_option maxRecDepth 100000 in
theorem gX4_plans_X4_hinders : GoodIn wsX4_plans (wsV RX4 121 RX4 yX4_hinders wsX4_hinders) := goodIn_app (goodIn_sub (mc (List.mem_of_getElem? (i := 4) rfl) (mc (List.mem_of_getElem? (i := 5) rfl) (mc (List.mem_of_getElem? (i := 6) rfl) (mc (List.mem_of_getElem? (i := 7) rfl) mn)))) (by decide +kernel)) ggX4_plans_X4_hinders
set_option maxRecDepth 100000 in
theorem ggX4_plans_X4_stripped : GoodIn wsX4_plans wsX4_stripped := goodIn_sub (mc (List.mem_of_getElem? (i := 50) rfl) (mem_two (mc (List.mem_of_getElem? (i := 51) rfl) (mc (List.mem_of_getElem? (i := 25) rfl) (mc (List.mem_of_getElem? (i := 26) rfl) (mc (List.mem_of_getElem? (i := 27) rfl) (mc (List.mem_of_getElem? (i := 7) rfl) (mc (List.mem_of_getElem? (i := 28) rfl) (mc (List.mem_of_getElem? (i := 29) rfl) (mc (List.mem_of_getElem? (i := 30) rfl) (mc (List.mem_of_getElem? (i := 31) rfl) (mc (List.mem_of_getElem? (i := 32) rfl) (mc (List.mem_of_getElem? (i := 33) rfl) (mc (List.mem_of_getElem? (i := 34) rfl) (mc (List.mem_of_getElem? (i := 35) rfl) (mc (List.mem_of_getElem? (i := 36) rfl) (mc (List.mem_of_getElem? (i := 37) rfl) mn))))))))))))))) (fun w h => (List.mem_cons_of_mem _ (List.mem_append_right _ h))))) (by decide +kernel)
set_option maxRecDepth 100000 in
theorem gX4_plans_X4_stripped : GoodIn wsX4_plans (wsV RX4 102 RX4 yX4_stripped wsX4_stripped) := goodIn_app (goodIn_sub (mc (List.mem_of_getElem? (i := 47) rfl) (mc (List.mem_of_getElem? (i := 48) rfl) (mc (List.mem_of_getElem? (i := 49) rfl) (mc (List.mem_of_getElem? (i := 7) rfl) mn)))) (by decide +kernel)) ggX4_plans_X4_stripped
theorem dX4_plans_0 : decode cX4_plans 0 = .ok (.iconst 0, 1) := by decide +kernel
theorem dX4_plans_1 : decode cX4_plans 1 = .ok (.istore_n 2, 1) := by decide +kernel
theorem dX4_plans_2 : decode cX4_plans 2 = .ok (.iload_n 2, 1) := by decide +kernel
theorem dX4_plans_3 : decode cX4_plans 3 = .ok (.aload_n 0, 1) := by decide +kernel
theorem dX4_plans_4 : decode cX4_plans 4 = .ok (.getfield 67, 3) := by decide +kernel
theorem dX4_plans_7 : decode cX4_plans 7 = .ok (.if_icmp .ge 29, 3) := by decide +kernel
theorem dX4_plans_10 : decode cX4_plans 10 = .ok (.aload_n 0, 1) := by decide +kernel
theorem dX4_plans_11 : decode cX4_plans 11 = .ok (.getfield 37, 3) := by decide +kernel
theorem dX4_plans_14 : decode cX4_plans 14 = .ok (.iload_n 2, 1) := by decide +kernel
theorem dX4_plans_15 : decode cX4_plans 15 = .ok (.iaload, 1) := by decide +kernel
theorem dX4_plans_16 : decode cX4_plans 16 = .ok (.aload_n 0, 1) := by decide +kernel
theorem dX4_plans_17 : decode cX4_plans 17 = .ok (.getfield 118, 3) := by decide +kernel
theorem dX4_plans_20 : decode cX4_plans 20 = .ok (.if_icmp .lt 10, 3) := by decide +kernel
theorem dX4_plans_23 : decode cX4_plans 23 = .ok (.aload_n 0, 1) := by decide +kernel
theorem dX4_plans_24 : decode cX4_plans 24 = .ok (.getfield 37, 3) := by decide +kernel
theorem dX4_plans_27 : decode cX4_plans 27 = .ok (.iload_n 2, 1) := by decide +kernel
theorem dX4_plans_28 : decode cX4_plans 28 = .ok (.iconst (-1), 1) := by decide +kernel
theorem dX4_plans_29 : decode cX4_plans 29 = .ok (.iastore, 1) := by decide +kernel
theorem dX4_plans_30 : decode cX4_plans 30 = .ok (.iinc 2 1, 3) := by decide +kernel
theorem dX4_plans_33 : decode cX4_plans 33 = .ok (.goto (-31), 3) := by decide +kernel
theorem dX4_plans_36 : decode cX4_plans 36 = .ok (.aload_n 0, 1) := by decide +kernel
theorem dX4_plans_37 : decode cX4_plans 37 = .ok (.getfield 118, 3) := by decide +kernel
theorem dX4_plans_40 : decode cX4_plans 40 = .ok (.istore_n 2, 1) := by decide +kernel
theorem dX4_plans_41 : decode cX4_plans 41 = .ok (.iload_n 2, 1) := by decide +kernel
theorem dX4_plans_42 : decode cX4_plans 42 = .ok (.bipush 40, 2) := by decide +kernel
theorem dX4_plans_44 : decode cX4_plans 44 = .ok (.if_icmp .ge 59, 3) := by decide +kernel
theorem dX4_plans_47 : decode cX4_plans 47 = .ok (.iconst 0, 1) := by decide +kernel
theorem dX4_plans_48 : decode cX4_plans 48 = .ok (.istore_n 3, 1) := by decide +kernel
theorem dX4_plans_49 : decode cX4_plans 49 = .ok (.iload_n 3, 1) := by decide +kernel
theorem dX4_plans_50 : decode cX4_plans 50 = .ok (.aload_n 0, 1) := by decide +kernel
theorem dX4_plans_51 : decode cX4_plans 51 = .ok (.getfield 67, 3) := by decide +kernel
theorem dX4_plans_54 : decode cX4_plans 54 = .ok (.if_icmp .ge 43, 3) := by decide +kernel
theorem dX4_plans_57 : decode cX4_plans 57 = .ok (.aload_n 1, 1) := by decide +kernel
theorem dX4_plans_58 : decode cX4_plans 58 = .ok (.iload_n 3, 1) := by decide +kernel
theorem dX4_plans_59 : decode cX4_plans 59 = .ok (.iaload, 1) := by decide +kernel
theorem dX4_plans_60 : decode cX4_plans 60 = .ok (.istore 4, 2) := by decide +kernel
theorem dX4_plans_62 : decode cX4_plans 62 = .ok (.aload_n 0, 1) := by decide +kernel
theorem dX4_plans_63 : decode cX4_plans 63 = .ok (.getfield 37, 3) := by decide +kernel
theorem dX4_plans_66 : decode cX4_plans 66 = .ok (.iload 4, 2) := by decide +kernel
theorem dX4_plans_68 : decode cX4_plans 68 = .ok (.iaload, 1) := by decide +kernel
theorem dX4_plans_69 : decode cX4_plans 69 = .ok (.iconst (-1), 1) := by decide +kernel
theorem dX4_plans_70 : decode cX4_plans 70 = .ok (.if_icmp .ne 21, 3) := by decide +kernel
theorem dX4_plans_73 : decode cX4_plans 73 = .ok (.aload_n 0, 1) := by decide +kernel
theorem dX4_plans_74 : decode cX4_plans 74 = .ok (.iload 4, 2) := by decide +kernel
theorem dX4_plans_76 : decode cX4_plans 76 = .ok (.iload_n 2, 1) := by decide +kernel
theorem dX4_plans_77 : decode cX4_plans 77 = .ok (.invokevirtual 121, 3) := by decide +kernel
theorem dX4_plans_80 : decode cX4_plans 80 = .ok (.ifCond .ne 11, 3) := by decide +kernel
theorem dX4_plans_83 : decode cX4_plans 83 = .ok (.aload_n 0, 1) := by decide +kernel
theorem dX4_plans_84 : decode cX4_plans 84 = .ok (.getfield 37, 3) := by decide +kernel
theorem dX4_plans_87 : decode cX4_plans 87 = .ok (.iload 4, 2) := by decide +kernel
theorem dX4_plans_89 : decode cX4_plans 89 = .ok (.iload_n 2, 1) := by decide +kernel
theorem dX4_plans_90 : decode cX4_plans 90 = .ok (.iastore, 1) := by decide +kernel
theorem dX4_plans_91 : decode cX4_plans 91 = .ok (.iinc 3 1, 3) := by decide +kernel
theorem dX4_plans_94 : decode cX4_plans 94 = .ok (.goto (-45), 3) := by decide +kernel
theorem dX4_plans_97 : decode cX4_plans 97 = .ok (.iinc 2 1, 3) := by decide +kernel
theorem dX4_plans_100 : decode cX4_plans 100 = .ok (.goto (-59), 3) := by decide +kernel
theorem dX4_plans_103 : decode cX4_plans 103 = .ok (.iconst 0, 1) := by decide +kernel
theorem dX4_plans_104 : decode cX4_plans 104 = .ok (.istore_n 2, 1) := by decide +kernel
theorem dX4_plans_105 : decode cX4_plans 105 = .ok (.iconst 0, 1) := by decide +kernel
theorem dX4_plans_106 : decode cX4_plans 106 = .ok (.istore_n 3, 1) := by decide +kernel
theorem dX4_plans_107 : decode cX4_plans 107 = .ok (.iload_n 3, 1) := by decide +kernel
theorem dX4_plans_108 : decode cX4_plans 108 = .ok (.aload_n 0, 1) := by decide +kernel
theorem dX4_plans_109 : decode cX4_plans 109 = .ok (.getfield 67, 3) := by decide +kernel
theorem dX4_plans_112 : decode cX4_plans 112 = .ok (.if_icmp .ge 45, 3) := by decide +kernel
theorem dX4_plans_115 : decode cX4_plans 115 = .ok (.aload_n 0, 1) := by decide +kernel
theorem dX4_plans_116 : decode cX4_plans 116 = .ok (.getfield 37, 3) := by decide +kernel
theorem dX4_plans_119 : decode cX4_plans 119 = .ok (.iload_n 3, 1) := by decide +kernel
theorem dX4_plans_120 : decode cX4_plans 120 = .ok (.iaload, 1) := by decide +kernel
theorem dX4_plans_121 : decode cX4_plans 121 = .ok (.iconst (-1), 1) := by decide +kernel
theorem dX4_plans_122 : decode cX4_plans 122 = .ok (.if_icmp .ne 8, 3) := by decide +kernel
theorem dX4_plans_125 : decode cX4_plans 125 = .ok (.bipush 40, 2) := by decide +kernel
theorem dX4_plans_127 : decode cX4_plans 127 = .ok (.goto 13, 3) := by decide +kernel
theorem dX4_plans_130 : decode cX4_plans 130 = .ok (.aload_n 0, 1) := by decide +kernel
theorem dX4_plans_131 : decode cX4_plans 131 = .ok (.aload_n 0, 1) := by decide +kernel
theorem dX4_plans_132 : decode cX4_plans 132 = .ok (.getfield 37, 3) := by decide +kernel
theorem dX4_plans_135 : decode cX4_plans 135 = .ok (.iload_n 3, 1) := by decide +kernel
theorem dX4_plans_136 : decode cX4_plans 136 = .ok (.iaload, 1) := by decide +kernel
theorem dX4_plans_137 : decode cX4_plans 137 = .ok (.invokevirtual 102, 3) := by decide +kernel
theorem dX4_plans_140 : decode cX4_plans 140 = .ok (.istore 4, 2) := by decide +kernel
theorem dX4_plans_142 : decode cX4_plans 142 = .ok (.iload 4, 2) := by decide +kernel
theorem dX4_plans_144 : decode cX4_plans 144 = .ok (.iload_n 2, 1) := by decide +kernel
theorem dX4_plans_145 : decode cX4_plans 145 = .ok (.if_icmp .le 6, 3) := by decide +kernel
theorem dX4_plans_148 : decode cX4_plans 148 = .ok (.iload 4, 2) := by decide +kernel
theorem dX4_plans_150 : decode cX4_plans 150 = .ok (.istore_n 2, 1) := by decide +kernel
theorem dX4_plans_151 : decode cX4_plans 151 = .ok (.iinc 3 1, 3) := by decide +kernel
theorem dX4_plans_154 : decode cX4_plans 154 = .ok (.goto (-47), 3) := by decide +kernel
theorem dX4_plans_157 : decode cX4_plans 157 = .ok (.iload_n 2, 1) := by decide +kernel
theorem dX4_plans_158 : decode cX4_plans 158 = .ok (.ireturn, 1) := by decide +kernel
set_option maxRecDepth 100000 in
theorem ggX4_plan_X4_plans : GoodIn wsX4_plan wsX4_plans := goodIn_sub (mc (List.mem_of_getElem? (i := 7) rfl) (mem_two (mem_two (mc (List.mem_of_getElem? (i := 8) rfl) (mc (List.mem_of_getElem? (i := 9) rfl) (mc (List.mem_of_getElem? (i := 10) rfl) (mc (List.mem_of_getElem? (i := 11) rfl) (mc (List.mem_of_getElem? (i := 12) rfl) (mc (List.mem_of_getElem? (i := 13) rfl) (mc (List.mem_of_getElem? (i := 6) rfl) (mc (List.mem_of_getElem? (i := 14) rfl) (mc (List.mem_of_getElem? (i := 15) rfl) (mc (List.mem_of_getElem? (i := 16) rfl) (mc (List.mem_of_getElem? (i := 17) rfl) (mc (List.mem_of_getElem? (i := 18) rfl) (mc (List.mem_of_getElem? (i := 19) rfl) (mc (List.mem_of_getElem? (i := 20) rfl) (mc (List.mem_of_getElem? (i := 21) rfl) (mc (List.mem_of_getElem? (i := 22) rfl) (mc (List.mem_of_getElem? (i := 23) rfl) (mc (List.mem_of_getElem? (i := 24) rfl) (mc (List.mem_of_getElem? (i := 25) rfl) (mc (List.mem_of_getElem? (i := 26) rfl) (mc (List.mem_of_getElem? (i := 27) rfl) (mc (List.mem_of_getElem? (i := 28) rfl) (mc (List.mem_of_getElem? (i := 29) rfl) (mc (List.mem_of_getElem? (i := 30) rfl) mn)))))))))))))))))))))))) (mem_two (mc (List.mem_of_getElem? (i := 31) rfl) (mc (List.mem_of_getElem? (i := 32) rfl) (mc (List.mem_of_getElem? (i := 33) rfl) (mc (List.mem_of_getElem? (i := 34) rfl) (mc (List.mem_of_getElem? (i := 35) rfl) (mc (List.mem_of_getElem? (i := 36) rfl) (mc (List.mem_of_getElem? (i := 37) rfl) (mc (List.mem_of_getElem? (i := 38) rfl) (mc (List.mem_of_getElem? (i := 39) rfl) (mc (List.mem_of_getElem? (i := 40) rfl) (mc (List.mem_of_getElem? (i := 41) rfl) (mc (List.mem_of_getElem? (i := 42) rfl) (mc (List.mem_of_getElem? (i := 43) rfl) (mc (List.mem_of_getElem? (i := 44) rfl) (mc (List.mem_of_getElem? (i := 45) rfl) (mc (List.mem_of_getElem? (i := 46) rfl) (mc (List.mem_of_getElem? (i := 47) rfl) (mc (List.mem_of_getElem? (i := 48) rfl) (mc (List.mem_of_getElem? (i := 49) rfl) (mc (List.mem_of_getElem? (i := 50) rfl) (mc (List.mem_of_getElem? (i := 51) rfl) (mc (List.mem_of_getElem? (i := 52) rfl) (mc (List.mem_of_getElem? (i := 53) rfl) (mc (List.mem_of_getElem? (i := 54) rfl) mn)))))))))))))))))))))))) (mc (List.mem_of_getElem? (i := 55) rfl) (mc (List.mem_of_getElem? (i := 56) rfl) (mc (List.mem_of_getElem? (i := 57) rfl) (mc (List.mem_of_getElem? (i := 58) rfl) (mc (List.mem_of_getElem? (i := 59) rfl) (mc (List.mem_of_getElem? (i := 60) rfl) (mc (List.mem_of_getElem? (i := 61) rfl) mn))))))))) (fun w h => (List.mem_cons_of_mem _ (List.mem_append_right _ h))))) (by decide +kernel)
set_option maxRecDepth 100000 in
theorem gX4_plan_X4_plans : GoodIn wsX4_plan (wsV RX4 124 RX4 yX4_plans wsX4_plans) := goodIn_app (goodIn_sub (mc (List.mem_of_getElem? (i := 3) rfl) (mc (List.mem_of_getElem? (i := 4) rfl) (mc (List.mem_of_getElem? (i := 5) rfl) (mc (List.mem_of_getElem? (i := 6) rfl) mn)))) (by decide +kernel)) ggX4_plan_X4_plans
theorem dX4_plan_0 : decode cX4_plan 0 = .ok (.aload_n 0, 1) := by decide +kernel
theorem dX4_plan_1 : decode cX4_plan 1 = .ok (.aload_n 0, 1) := by decide +kernel
theorem dX4_plan_2 : decode cX4_plan 2 = .ok (.aload_n 0, 1) := by decide +kernel
theorem dX4_plan_3 : decode cX4_plan 3 = .ok (.getfield 43, 3) := by decide +kernel
theorem dX4_plan_6 : decode cX4_plan 6 = .ok (.invokevirtual 124, 3) := by decide +kernel
theorem dX4_plan_9 : decode cX4_plan 9 = .ok (.putfield 128, 3) := by decide +kernel
theorem dX4_plan_12 : decode cX4_plan 12 = .ok (.aload_n 0, 1) := by decide +kernel
theorem dX4_plan_13 : decode cX4_plan 13 = .ok (.getfield 128, 3) := by decide +kernel
theorem dX4_plan_16 : decode cX4_plan 16 = .ok (.ireturn, 1) := by decide +kernel
set_option maxRecDepth 100000 in
theorem ggX4_order_X4_isPiece : GoodIn wsX4_order wsX4_isPiece := goodIn_sub (mc (List.mem_of_getElem? (i := 7) rfl) (mem_two (mc (List.mem_of_getElem? (i := 1) rfl) mn) (fun w h => (List.mem_cons_of_mem _ (List.mem_append_right _ h))))) (by decide +kernel)
set_option maxRecDepth 100000 in
theorem gX4_order_X4_isPiece : GoodIn wsX4_order (wsV RX4 70 RX4 yX4_isPiece wsX4_isPiece) := goodIn_app (goodIn_sub (mc (List.mem_of_getElem? (i := 3) rfl) (mc (List.mem_of_getElem? (i := 4) rfl) (mc (List.mem_of_getElem? (i := 5) rfl) (mc (List.mem_of_getElem? (i := 6) rfl) mn)))) (by decide +kernel)) ggX4_order_X4_isPiece
theorem dX4_order_0 : decode cX4_order 0 = .ok (.aload_n 0, 1) := by decide +kernel
theorem dX4_order_1 : decode cX4_order 1 = .ok (.iload_n 1, 1) := by decide +kernel
theorem dX4_order_2 : decode cX4_order 2 = .ok (.invokevirtual 70, 3) := by decide +kernel
theorem dX4_order_5 : decode cX4_order 5 = .ok (.ifCond .eq 15, 3) := by decide +kernel
theorem dX4_order_8 : decode cX4_order 8 = .ok (.iload_n 2, 1) := by decide +kernel
theorem dX4_order_9 : decode cX4_order 9 = .ok (.ifCond .lt 11, 3) := by decide +kernel
theorem dX4_order_12 : decode cX4_order 12 = .ok (.iload_n 2, 1) := by decide +kernel
theorem dX4_order_13 : decode cX4_order 13 = .ok (.aload_n 0, 1) := by decide +kernel
theorem dX4_order_14 : decode cX4_order 14 = .ok (.getfield 67, 3) := by decide +kernel
theorem dX4_order_17 : decode cX4_order 17 = .ok (.if_icmp .lt 5, 3) := by decide +kernel
theorem dX4_order_20 : decode cX4_order 20 = .ok (.iconst (-1), 1) := by decide +kernel
theorem dX4_order_21 : decode cX4_order 21 = .ok (.ireturn, 1) := by decide +kernel
theorem dX4_order_22 : decode cX4_order 22 = .ok (.iconst 0, 1) := by decide +kernel
theorem dX4_order_23 : decode cX4_order 23 = .ok (.istore_n 3, 1) := by decide +kernel
theorem dX4_order_24 : decode cX4_order 24 = .ok (.aload_n 0, 1) := by decide +kernel
theorem dX4_order_25 : decode cX4_order 25 = .ok (.getfield 43, 3) := by decide +kernel
theorem dX4_order_28 : decode cX4_order 28 = .ok (.iload_n 3, 1) := by decide +kernel
theorem dX4_order_29 : decode cX4_order 29 = .ok (.iaload, 1) := by decide +kernel
theorem dX4_order_30 : decode cX4_order 30 = .ok (.iload_n 1, 1) := by decide +kernel
theorem dX4_order_31 : decode cX4_order 31 = .ok (.if_icmp .eq 9, 3) := by decide +kernel
theorem dX4_order_34 : decode cX4_order 34 = .ok (.iinc 3 1, 3) := by decide +kernel
theorem dX4_order_37 : decode cX4_order 37 = .ok (.goto (-13), 3) := by decide +kernel
theorem dX4_order_40 : decode cX4_order 40 = .ok (.iload_n 3, 1) := by decide +kernel
theorem dX4_order_41 : decode cX4_order 41 = .ok (.istore 4, 2) := by decide +kernel
theorem dX4_order_43 : decode cX4_order 43 = .ok (.iload 4, 2) := by decide +kernel
theorem dX4_order_45 : decode cX4_order 45 = .ok (.iconst 1, 1) := by decide +kernel
theorem dX4_order_46 : decode cX4_order 46 = .ok (.iadd, 1) := by decide +kernel
theorem dX4_order_47 : decode cX4_order 47 = .ok (.aload_n 0, 1) := by decide +kernel
theorem dX4_order_48 : decode cX4_order 48 = .ok (.getfield 67, 3) := by decide +kernel
theorem dX4_order_51 : decode cX4_order 51 = .ok (.if_icmp .ge 25, 3) := by decide +kernel
theorem dX4_order_54 : decode cX4_order 54 = .ok (.aload_n 0, 1) := by decide +kernel
theorem dX4_order_55 : decode cX4_order 55 = .ok (.getfield 43, 3) := by decide +kernel
theorem dX4_order_58 : decode cX4_order 58 = .ok (.iload 4, 2) := by decide +kernel
theorem dX4_order_60 : decode cX4_order 60 = .ok (.aload_n 0, 1) := by decide +kernel
theorem dX4_order_61 : decode cX4_order 61 = .ok (.getfield 43, 3) := by decide +kernel
theorem dX4_order_64 : decode cX4_order 64 = .ok (.iload 4, 2) := by decide +kernel
theorem dX4_order_66 : decode cX4_order 66 = .ok (.iconst 1, 1) := by decide +kernel
theorem dX4_order_67 : decode cX4_order 67 = .ok (.iadd, 1) := by decide +kernel
theorem dX4_order_68 : decode cX4_order 68 = .ok (.iaload, 1) := by decide +kernel
theorem dX4_order_69 : decode cX4_order 69 = .ok (.iastore, 1) := by decide +kernel
theorem dX4_order_70 : decode cX4_order 70 = .ok (.iinc 4 1, 3) := by decide +kernel
theorem dX4_order_73 : decode cX4_order 73 = .ok (.goto (-30), 3) := by decide +kernel
theorem dX4_order_76 : decode cX4_order 76 = .ok (.aload_n 0, 1) := by decide +kernel
theorem dX4_order_77 : decode cX4_order 77 = .ok (.getfield 67, 3) := by decide +kernel
theorem dX4_order_80 : decode cX4_order 80 = .ok (.iconst 1, 1) := by decide +kernel
theorem dX4_order_81 : decode cX4_order 81 = .ok (.isub, 1) := by decide +kernel
theorem dX4_order_82 : decode cX4_order 82 = .ok (.istore 4, 2) := by decide +kernel
theorem dX4_order_84 : decode cX4_order 84 = .ok (.iload 4, 2) := by decide +kernel
theorem dX4_order_86 : decode cX4_order 86 = .ok (.iload_n 2, 1) := by decide +kernel
theorem dX4_order_87 : decode cX4_order 87 = .ok (.if_icmp .le 25, 3) := by decide +kernel
theorem dX4_order_90 : decode cX4_order 90 = .ok (.aload_n 0, 1) := by decide +kernel
theorem dX4_order_91 : decode cX4_order 91 = .ok (.getfield 43, 3) := by decide +kernel
theorem dX4_order_94 : decode cX4_order 94 = .ok (.iload 4, 2) := by decide +kernel
theorem dX4_order_96 : decode cX4_order 96 = .ok (.aload_n 0, 1) := by decide +kernel
theorem dX4_order_97 : decode cX4_order 97 = .ok (.getfield 43, 3) := by decide +kernel
theorem dX4_order_100 : decode cX4_order 100 = .ok (.iload 4, 2) := by decide +kernel
theorem dX4_order_102 : decode cX4_order 102 = .ok (.iconst 1, 1) := by decide +kernel
theorem dX4_order_103 : decode cX4_order 103 = .ok (.isub, 1) := by decide +kernel
theorem dX4_order_104 : decode cX4_order 104 = .ok (.iaload, 1) := by decide +kernel
theorem dX4_order_105 : decode cX4_order 105 = .ok (.iastore, 1) := by decide +kernel
theorem dX4_order_106 : decode cX4_order 106 = .ok (.iinc 4 (-1), 3) := by decide +kernel
theorem dX4_order_109 : decode cX4_order 109 = .ok (.goto (-25), 3) := by decide +kernel
theorem dX4_order_112 : decode cX4_order 112 = .ok (.aload_n 0, 1) := by decide +kernel
theorem dX4_order_113 : decode cX4_order 113 = .ok (.getfield 43, 3) := by decide +kernel
theorem dX4_order_116 : decode cX4_order 116 = .ok (.iload_n 2, 1) := by decide +kernel
theorem dX4_order_117 : decode cX4_order 117 = .ok (.iload_n 1, 1) := by decide +kernel
theorem dX4_order_118 : decode cX4_order 118 = .ok (.iastore, 1) := by decide +kernel
theorem dX4_order_119 : decode cX4_order 119 = .ok (.iload_n 3, 1) := by decide +kernel
theorem dX4_order_120 : decode cX4_order 120 = .ok (.ireturn, 1) := by decide +kernel
set_option maxRecDepth 100000 in
theorem ggX4_best_X4_plans : GoodIn wsX4_best wsX4_plans := goodIn_sub (mc (List.mem_of_getElem? (i := 9) rfl) (mem_two (mem_two (mc (List.mem_of_getElem? (i := 1) rfl) (mc (List.mem_of_getElem? (i := 10) rfl) (mc (List.mem_of_getElem? (i := 11) rfl) (mc (List.mem_of_getElem? (i := 12) rfl) (mc (List.mem_of_getElem? (i := 13) rfl) (mc (List.mem_of_getElem? (i := 14) rfl) (mc (List.mem_of_getElem? (i := 8) rfl) (mc (List.mem_of_getElem? (i := 15) rfl) (mc (List.mem_of_getElem? (i := 16) rfl) (mc (List.mem_of_getElem? (i := 17) rfl) (mc (List.mem_of_getElem? (i := 18) rfl) (mc (List.mem_of_getElem? (i := 19) rfl) (mc (List.mem_of_getElem? (i := 20) rfl) (mc (List.mem_of_getElem? (i := 21) rfl) (mc (List.mem_of_getElem? (i := 22) rfl) (mc (List.mem_of_getElem? (i := 23) rfl) (mc (List.mem_of_getElem? (i := 24) rfl) (mc (List.mem_of_getElem? (i := 25) rfl) (mc (List.mem_of_getElem? (i := 26) rfl) (mc (List.mem_of_getElem? (i := 27) rfl) (mc (List.mem_of_getElem? (i := 28) rfl) (mc (List.mem_of_getElem? (i := 29) rfl) (mc (List.mem_of_getElem? (i := 30) rfl) (mc (List.mem_of_getElem? (i := 31) rfl) mn)))))))))))))))))))))))) (mem_two (mc (List.mem_of_getElem? (i := 32) rfl) (mc (List.mem_of_getElem? (i := 33) rfl) (mc (List.mem_of_getElem? (i := 34) rfl) (mc (List.mem_of_getElem? (i := 35) rfl) (mc (List.mem_of_getElem? (i := 36) rfl) (mc (List.mem_of_getElem? (i := 37) rfl) (mc (List.mem_of_getElem? (i := 38) rfl) (mc (List.mem_of_getElem? (i := 39) rfl) (mc (List.mem_of_getElem? (i := 40) rfl) (mc (List.mem_of_getElem? (i := 41) rfl) (mc (List.mem_of_getElem? (i := 42) rfl) (mc (List.mem_of_getElem? (i := 43) rfl) (mc (List.mem_of_getElem? (i := 44) rfl) (mc (List.mem_of_getElem? (i := 45) rfl) (mc (List.mem_of_getElem? (i := 46) rfl) (mc (List.mem_of_getElem? (i := 47) rfl) (mc (List.mem_of_getElem? (i := 48) rfl) (mc (List.mem_of_getElem? (i := 49) rfl) (mc (List.mem_of_getElem? (i := 50) rfl) (mc (List.mem_of_getElem? (i := 51) rfl) (mc (List.mem_of_getElem? (i := 52) rfl) (mc (List.mem_of_getElem? (i := 53) rfl) (mc (List.mem_of_getElem? (i := 54) rfl) (mc (List.mem_of_getElem? (i := 55) rfl) mn)))))))))))))))))))))))) (mc (List.mem_of_getElem? (i := 56) rfl) (mc (List.mem_of_getElem? (i := 57) rfl) (mc (List.mem_of_getElem? (i := 58) rfl) (mc (List.mem_of_getElem? (i := 59) rfl) (mc (List.mem_of_getElem? (i := 60) rfl) (mc (List.mem_of_getElem? (i := 61) rfl) (mc (List.mem_of_getElem? (i := 62) rfl) mn))))))))) (fun w h => (List.mem_cons_of_mem _ (List.mem_append_right _ h))))) (by decide +kernel)
set_option maxRecDepth 100000 in
theorem gX4_best_X4_plans : GoodIn wsX4_best (wsV RX4 124 RX4 yX4_plans wsX4_plans) := goodIn_app (goodIn_sub (mc (List.mem_of_getElem? (i := 5) rfl) (mc (List.mem_of_getElem? (i := 6) rfl) (mc (List.mem_of_getElem? (i := 7) rfl) (mc (List.mem_of_getElem? (i := 8) rfl) mn)))) (by decide +kernel)) ggX4_best_X4_plans
set_option maxRecDepth 100000 in
theorem ggX4_best_X4_plan : GoodIn wsX4_best wsX4_plan := goodIn_sub (mc (List.mem_of_getElem? (i := 66) rfl) (mem_two (mem_two (mc (List.mem_of_getElem? (i := 4) rfl) (mc (List.mem_of_getElem? (i := 67) rfl) (mc (List.mem_of_getElem? (i := 5) rfl) (mc (List.mem_of_getElem? (i := 6) rfl) (mc (List.mem_of_getElem? (i := 7) rfl) (mc (List.mem_of_getElem? (i := 8) rfl) (mc (List.mem_of_getElem? (i := 9) rfl) (mc (List.mem_of_getElem? (i := 1) rfl) (mc (List.mem_of_getElem? (i := 10) rfl) (mc (List.mem_of_getElem? (i := 11) rfl) (mc (List.mem_of_getElem? (i := 12) rfl) (mc (List.mem_of_getElem? (i := 13) rfl) (mc (List.mem_of_getElem? (i := 14) rfl) (mc (List.mem_of_getElem? (i := 15) rfl) (mc (List.mem_of_getElem? (i := 16) rfl) (mc (List.mem_of_getElem? (i := 17) rfl) (mc (List.mem_of_getElem? (i := 18) rfl) (mc (List.mem_of_getElem? (i := 19) rfl) (mc (List.mem_of_getElem? (i := 20) rfl) (mc (List.mem_of_getElem? (i := 21) rfl) (mc (List.mem_of_getElem? (i := 22) rfl) (mc (List.mem_of_getElem? (i := 23) rfl) (mc (List.mem_of_getElem? (i := 24) rfl) (mc (List.mem_of_getElem? (i := 25) rfl) mn)))))))))))))))))))))))) (mem_two (mc (List.mem_of_getElem? (i := 26) rfl) (mc (List.mem_of_getElem? (i := 27) rfl) (mc (List.mem_of_getElem? (i := 28) rfl) (mc (List.mem_of_getElem? (i := 29) rfl) (mc (List.mem_of_getElem? (i := 30) rfl) (mc (List.mem_of_getElem? (i := 31) rfl) (mc (List.mem_of_getElem? (i := 32) rfl) (mc (List.mem_of_getElem? (i := 33) rfl) (mc (List.mem_of_getElem? (i := 34) rfl) (mc (List.mem_of_getElem? (i := 35) rfl) (mc (List.mem_of_getElem? (i := 36) rfl) (mc (List.mem_of_getElem? (i := 37) rfl) (mc (List.mem_of_getElem? (i := 38) rfl) (mc (List.mem_of_getElem? (i := 39) rfl) (mc (List.mem_of_getElem? (i := 40) rfl) (mc (List.mem_of_getElem? (i := 41) rfl) (mc (List.mem_of_getElem? (i := 42) rfl) (mc (List.mem_of_getElem? (i := 43) rfl) (mc (List.mem_of_getElem? (i := 44) rfl) (mc (List.mem_of_getElem? (i := 45) rfl) (mc (List.mem_of_getElem? (i := 46) rfl) (mc (List.mem_of_getElem? (i := 47) rfl) (mc (List.mem_of_getElem? (i := 48) rfl) (mc (List.mem_of_getElem? (i := 49) rfl) mn)))))))))))))))))))))))) (mc (List.mem_of_getElem? (i := 50) rfl) (mc (List.mem_of_getElem? (i := 51) rfl) (mc (List.mem_of_getElem? (i := 52) rfl) (mc (List.mem_of_getElem? (i := 53) rfl) (mc (List.mem_of_getElem? (i := 54) rfl) (mc (List.mem_of_getElem? (i := 55) rfl) (mc (List.mem_of_getElem? (i := 56) rfl) (mc (List.mem_of_getElem? (i := 57) rfl) (mc (List.mem_of_getElem? (i := 58) rfl) (mc (List.mem_of_getElem? (i := 59) rfl) (mc (List.mem_of_getElem? (i := 60) rfl) (mc (List.mem_of_getElem? (i := 61) rfl) (mc (List.mem_of_getElem? (i := 62) rfl) mn))))))))))))))) (fun w h => (List.mem_cons_of_mem _ (List.mem_append_right _ h))))) (by decide +kernel)
set_option maxRecDepth 100000 in
theorem gX4_best_X4_plan : GoodIn wsX4_best (wsV RX4 131 RX4 yX4_plan wsX4_plan) := goodIn_app (goodIn_sub (mc (List.mem_of_getElem? (i := 63) rfl) (mc (List.mem_of_getElem? (i := 64) rfl) (mc (List.mem_of_getElem? (i := 65) rfl) (mc (List.mem_of_getElem? (i := 8) rfl) mn)))) (by decide +kernel)) ggX4_best_X4_plan
theorem dX4_best_0 : decode cX4_best 0 = .ok (.aload_n 0, 1) := by decide +kernel
theorem dX4_best_1 : decode cX4_best 1 = .ok (.getfield 67, 3) := by decide +kernel
theorem dX4_best_4 : decode cX4_best 4 = .ok (.ifCond .eq 11, 3) := by decide +kernel
theorem dX4_best_7 : decode cX4_best 7 = .ok (.aload_n 0, 1) := by decide +kernel
theorem dX4_best_8 : decode cX4_best 8 = .ok (.getfield 67, 3) := by decide +kernel
theorem dX4_best_11 : decode cX4_best 11 = .ok (.iconst 5, 1) := by decide +kernel
theorem dX4_best_12 : decode cX4_best 12 = .ok (.if_icmp .le 6, 3) := by decide +kernel
theorem dX4_best_15 : decode cX4_best 15 = .ok (.bipush (-3), 2) := by decide +kernel
theorem dX4_best_17 : decode cX4_best 17 = .ok (.ireturn, 1) := by decide +kernel
theorem dX4_best_18 : decode cX4_best 18 = .ok (.bipush 41, 2) := by decide +kernel
theorem dX4_best_20 : decode cX4_best 20 = .ok (.istore_n 1, 1) := by decide +kernel
theorem dX4_best_21 : decode cX4_best 21 = .ok (.iconst 1, 1) := by decide +kernel
theorem dX4_best_22 : decode cX4_best 22 = .ok (.istore_n 2, 1) := by decide +kernel
theorem dX4_best_23 : decode cX4_best 23 = .ok (.iconst 0, 1) := by decide +kernel
theorem dX4_best_24 : decode cX4_best 24 = .ok (.istore_n 3, 1) := by decide +kernel
theorem dX4_best_25 : decode cX4_best 25 = .ok (.iload_n 3, 1) := by decide +kernel
theorem dX4_best_26 : decode cX4_best 26 = .ok (.aload_n 0, 1) := by decide +kernel
theorem dX4_best_27 : decode cX4_best 27 = .ok (.getfield 67, 3) := by decide +kernel
theorem dX4_best_30 : decode cX4_best 30 = .ok (.if_icmp .ge 16, 3) := by decide +kernel
theorem dX4_best_33 : decode cX4_best 33 = .ok (.iload_n 2, 1) := by decide +kernel
theorem dX4_best_34 : decode cX4_best 34 = .ok (.aload_n 0, 1) := by decide +kernel
theorem dX4_best_35 : decode cX4_best 35 = .ok (.getfield 67, 3) := by decide +kernel
theorem dX4_best_38 : decode cX4_best 38 = .ok (.imul, 1) := by decide +kernel
theorem dX4_best_39 : decode cX4_best 39 = .ok (.istore_n 2, 1) := by decide +kernel
theorem dX4_best_40 : decode cX4_best 40 = .ok (.iinc 3 1, 3) := by decide +kernel
theorem dX4_best_43 : decode cX4_best 43 = .ok (.goto (-18), 3) := by decide +kernel
theorem dX4_best_46 : decode cX4_best 46 = .ok (.iconst 0, 1) := by decide +kernel
theorem dX4_best_47 : decode cX4_best 47 = .ok (.istore_n 3, 1) := by decide +kernel
theorem dX4_best_48 : decode cX4_best 48 = .ok (.iload_n 3, 1) := by decide +kernel
theorem dX4_best_49 : decode cX4_best 49 = .ok (.iload_n 2, 1) := by decide +kernel
theorem dX4_best_50 : decode cX4_best 50 = .ok (.if_icmp .ge 138, 3) := by decide +kernel
theorem dX4_best_53 : decode cX4_best 53 = .ok (.iload_n 3, 1) := by decide +kernel
theorem dX4_best_54 : decode cX4_best 54 = .ok (.istore 4, 2) := by decide +kernel
theorem dX4_best_56 : decode cX4_best 56 = .ok (.iconst 0, 1) := by decide +kernel
theorem dX4_best_57 : decode cX4_best 57 = .ok (.istore 5, 2) := by decide +kernel
theorem dX4_best_59 : decode cX4_best 59 = .ok (.aload_n 0, 1) := by decide +kernel
theorem dX4_best_60 : decode cX4_best 60 = .ok (.getfield 67, 3) := by decide +kernel
theorem dX4_best_63 : decode cX4_best 63 = .ok (.iconst 1, 1) := by decide +kernel
theorem dX4_best_64 : decode cX4_best 64 = .ok (.isub, 1) := by decide +kernel
theorem dX4_best_65 : decode cX4_best 65 = .ok (.istore 6, 2) := by decide +kernel
theorem dX4_best_67 : decode cX4_best 67 = .ok (.iload 6, 2) := by decide +kernel
theorem dX4_best_69 : decode cX4_best 69 = .ok (.ifCond .lt 46, 3) := by decide +kernel
theorem dX4_best_72 : decode cX4_best 72 = .ok (.aload_n 0, 1) := by decide +kernel
theorem dX4_best_73 : decode cX4_best 73 = .ok (.getfield 46, 3) := by decide +kernel
theorem dX4_best_76 : decode cX4_best 76 = .ok (.iload 6, 2) := by decide +kernel
theorem dX4_best_78 : decode cX4_best 78 = .ok (.iload 4, 2) := by decide +kernel
theorem dX4_best_80 : decode cX4_best 80 = .ok (.aload_n 0, 1) := by decide +kernel
theorem dX4_best_81 : decode cX4_best 81 = .ok (.getfield 67, 3) := by decide +kernel
theorem dX4_best_84 : decode cX4_best 84 = .ok (.irem, 1) := by decide +kernel
theorem dX4_best_85 : decode cX4_best 85 = .ok (.iastore, 1) := by decide +kernel
theorem dX4_best_86 : decode cX4_best 86 = .ok (.iload 5, 2) := by decide +kernel
theorem dX4_best_88 : decode cX4_best 88 = .ok (.iconst 1, 1) := by decide +kernel
theorem dX4_best_89 : decode cX4_best 89 = .ok (.aload_n 0, 1) := by decide +kernel
theorem dX4_best_90 : decode cX4_best 90 = .ok (.getfield 46, 3) := by decide +kernel
theorem dX4_best_93 : decode cX4_best 93 = .ok (.iload 6, 2) := by decide +kernel
theorem dX4_best_95 : decode cX4_best 95 = .ok (.iaload, 1) := by decide +kernel
theorem dX4_best_96 : decode cX4_best 96 = .ok (.ishl, 1) := by decide +kernel
theorem dX4_best_97 : decode cX4_best 97 = .ok (.ior, 1) := by decide +kernel
theorem dX4_best_98 : decode cX4_best 98 = .ok (.istore 5, 2) := by decide +kernel
theorem dX4_best_100 : decode cX4_best 100 = .ok (.iload 4, 2) := by decide +kernel
theorem dX4_best_102 : decode cX4_best 102 = .ok (.aload_n 0, 1) := by decide +kernel
theorem dX4_best_103 : decode cX4_best 103 = .ok (.getfield 67, 3) := by decide +kernel
theorem dX4_best_106 : decode cX4_best 106 = .ok (.idiv, 1) := by decide +kernel
theorem dX4_best_107 : decode cX4_best 107 = .ok (.istore 4, 2) := by decide +kernel
theorem dX4_best_109 : decode cX4_best 109 = .ok (.iinc 6 (-1), 3) := by decide +kernel
theorem dX4_best_112 : decode cX4_best 112 = .ok (.goto (-45), 3) := by decide +kernel
theorem dX4_best_115 : decode cX4_best 115 = .ok (.iload 5, 2) := by decide +kernel
theorem dX4_best_117 : decode cX4_best 117 = .ok (.iconst 1, 1) := by decide +kernel
theorem dX4_best_118 : decode cX4_best 118 = .ok (.aload_n 0, 1) := by decide +kernel
theorem dX4_best_119 : decode cX4_best 119 = .ok (.getfield 67, 3) := by decide +kernel
theorem dX4_best_122 : decode cX4_best 122 = .ok (.ishl, 1) := by decide +kernel
theorem dX4_best_123 : decode cX4_best 123 = .ok (.iconst 1, 1) := by decide +kernel
theorem dX4_best_124 : decode cX4_best 124 = .ok (.isub, 1) := by decide +kernel
theorem dX4_best_125 : decode cX4_best 125 = .ok (.if_icmp .eq 6, 3) := by decide +kernel
theorem dX4_best_128 : decode cX4_best 128 = .ok (.goto 54, 3) := by decide +kernel
theorem dX4_best_131 : decode cX4_best 131 = .ok (.aload_n 0, 1) := by decide +kernel
theorem dX4_best_132 : decode cX4_best 132 = .ok (.aload_n 0, 1) := by decide +kernel
theorem dX4_best_133 : decode cX4_best 133 = .ok (.getfield 46, 3) := by decide +kernel
theorem dX4_best_136 : decode cX4_best 136 = .ok (.invokevirtual 124, 3) := by decide +kernel
theorem dX4_best_139 : decode cX4_best 139 = .ok (.istore 6, 2) := by decide +kernel
theorem dX4_best_141 : decode cX4_best 141 = .ok (.iload 6, 2) := by decide +kernel
theorem dX4_best_143 : decode cX4_best 143 = .ok (.iload_n 1, 1) := by decide +kernel
theorem dX4_best_144 : decode cX4_best 144 = .ok (.if_icmp .ge 38, 3) := by decide +kernel
theorem dX4_best_147 : decode cX4_best 147 = .ok (.iload 6, 2) := by decide +kernel
theorem dX4_best_149 : decode cX4_best 149 = .ok (.istore_n 1, 1) := by decide +kernel
theorem dX4_best_150 : decode cX4_best 150 = .ok (.iconst 0, 1) := by decide +kernel
theorem dX4_best_151 : decode cX4_best 151 = .ok (.istore 7, 2) := by decide +kernel
theorem dX4_best_153 : decode cX4_best 153 = .ok (.iload 7, 2) := by decide +kernel
theorem dX4_best_155 : decode cX4_best 155 = .ok (.aload_n 0, 1) := by decide +kernel
theorem dX4_best_156 : decode cX4_best 156 = .ok (.getfield 67, 3) := by decide +kernel
theorem dX4_best_159 : decode cX4_best 159 = .ok (.if_icmp .ge 23, 3) := by decide +kernel
theorem dX4_best_162 : decode cX4_best 162 = .ok (.aload_n 0, 1) := by decide +kernel
theorem dX4_best_163 : decode cX4_best 163 = .ok (.getfield 49, 3) := by decide +kernel
theorem dX4_best_166 : decode cX4_best 166 = .ok (.iload 7, 2) := by decide +kernel
theorem dX4_best_168 : decode cX4_best 168 = .ok (.aload_n 0, 1) := by decide +kernel
theorem dX4_best_169 : decode cX4_best 169 = .ok (.getfield 46, 3) := by decide +kernel
theorem dX4_best_172 : decode cX4_best 172 = .ok (.iload 7, 2) := by decide +kernel
theorem dX4_best_174 : decode cX4_best 174 = .ok (.iaload, 1) := by decide +kernel
theorem dX4_best_175 : decode cX4_best 175 = .ok (.iastore, 1) := by decide +kernel
theorem dX4_best_176 : decode cX4_best 176 = .ok (.iinc 7 1, 3) := by decide +kernel
theorem dX4_best_179 : decode cX4_best 179 = .ok (.goto (-26), 3) := by decide +kernel
theorem dX4_best_182 : decode cX4_best 182 = .ok (.iinc 3 1, 3) := by decide +kernel
theorem dX4_best_185 : decode cX4_best 185 = .ok (.goto (-137), 3) := by decide +kernel
theorem dX4_best_188 : decode cX4_best 188 = .ok (.iconst 0, 1) := by decide +kernel
theorem dX4_best_189 : decode cX4_best 189 = .ok (.istore_n 3, 1) := by decide +kernel
theorem dX4_best_190 : decode cX4_best 190 = .ok (.iload_n 3, 1) := by decide +kernel
theorem dX4_best_191 : decode cX4_best 191 = .ok (.aload_n 0, 1) := by decide +kernel
theorem dX4_best_192 : decode cX4_best 192 = .ok (.getfield 67, 3) := by decide +kernel
theorem dX4_best_195 : decode cX4_best 195 = .ok (.if_icmp .ge 21, 3) := by decide +kernel
theorem dX4_best_198 : decode cX4_best 198 = .ok (.aload_n 0, 1) := by decide +kernel
theorem dX4_best_199 : decode cX4_best 199 = .ok (.getfield 43, 3) := by decide +kernel
theorem dX4_best_202 : decode cX4_best 202 = .ok (.iload_n 3, 1) := by decide +kernel
theorem dX4_best_203 : decode cX4_best 203 = .ok (.aload_n 0, 1) := by decide +kernel
theorem dX4_best_204 : decode cX4_best 204 = .ok (.getfield 49, 3) := by decide +kernel
theorem dX4_best_207 : decode cX4_best 207 = .ok (.iload_n 3, 1) := by decide +kernel
theorem dX4_best_208 : decode cX4_best 208 = .ok (.iaload, 1) := by decide +kernel
theorem dX4_best_209 : decode cX4_best 209 = .ok (.iastore, 1) := by decide +kernel
theorem dX4_best_210 : decode cX4_best 210 = .ok (.iinc 3 1, 3) := by decide +kernel
theorem dX4_best_213 : decode cX4_best 213 = .ok (.goto (-23), 3) := by decide +kernel
theorem dX4_best_216 : decode cX4_best 216 = .ok (.aload_n 0, 1) := by decide +kernel
theorem dX4_best_217 : decode cX4_best 217 = .ok (.invokevirtual 131, 3) := by decide +kernel
theorem dX4_best_220 : decode cX4_best 220 = .ok (.ireturn, 1) := by decide +kernel
set_option maxRecDepth 100000 in
theorem ggX4_better_X4_plans : GoodIn wsX4_better wsX4_plans := goodIn_sub (mc (List.mem_of_getElem? (i := 7) rfl) (mem_two (mem_two (mc (List.mem_of_getElem? (i := 2) rfl) (mc (List.mem_of_getElem? (i := 8) rfl) (mc (List.mem_of_getElem? (i := 9) rfl) (mc (List.mem_of_getElem? (i := 10) rfl) (mc (List.mem_of_getElem? (i := 11) rfl) (mc (List.mem_of_getElem? (i := 12) rfl) (mc (List.mem_of_getElem? (i := 6) rfl) (mc (List.mem_of_getElem? (i := 13) rfl) (mc (List.mem_of_getElem? (i := 14) rfl) (mc (List.mem_of_getElem? (i := 15) rfl) (mc (List.mem_of_getElem? (i := 16) rfl) (mc (List.mem_of_getElem? (i := 17) rfl) (mc (List.mem_of_getElem? (i := 18) rfl) (mc (List.mem_of_getElem? (i := 19) rfl) (mc (List.mem_of_getElem? (i := 20) rfl) (mc (List.mem_of_getElem? (i := 21) rfl) (mc (List.mem_of_getElem? (i := 22) rfl) (mc (List.mem_of_getElem? (i := 23) rfl) (mc (List.mem_of_getElem? (i := 24) rfl) (mc (List.mem_of_getElem? (i := 25) rfl) (mc (List.mem_of_getElem? (i := 26) rfl) (mc (List.mem_of_getElem? (i := 27) rfl) (mc (List.mem_of_getElem? (i := 28) rfl) (mc (List.mem_of_getElem? (i := 29) rfl) mn)))))))))))))))))))))))) (mem_two (mc (List.mem_of_getElem? (i := 30) rfl) (mc (List.mem_of_getElem? (i := 31) rfl) (mc (List.mem_of_getElem? (i := 32) rfl) (mc (List.mem_of_getElem? (i := 33) rfl) (mc (List.mem_of_getElem? (i := 34) rfl) (mc (List.mem_of_getElem? (i := 35) rfl) (mc (List.mem_of_getElem? (i := 36) rfl) (mc (List.mem_of_getElem? (i := 37) rfl) (mc (List.mem_of_getElem? (i := 38) rfl) (mc (List.mem_of_getElem? (i := 39) rfl) (mc (List.mem_of_getElem? (i := 40) rfl) (mc (List.mem_of_getElem? (i := 41) rfl) (mc (List.mem_of_getElem? (i := 42) rfl) (mc (List.mem_of_getElem? (i := 43) rfl) (mc (List.mem_of_getElem? (i := 44) rfl) (mc (List.mem_of_getElem? (i := 45) rfl) (mc (List.mem_of_getElem? (i := 46) rfl) (mc (List.mem_of_getElem? (i := 47) rfl) (mc (List.mem_of_getElem? (i := 48) rfl) (mc (List.mem_of_getElem? (i := 49) rfl) (mc (List.mem_of_getElem? (i := 50) rfl) (mc (List.mem_of_getElem? (i := 51) rfl) (mc (List.mem_of_getElem? (i := 52) rfl) (mc (List.mem_of_getElem? (i := 53) rfl) mn)))))))))))))))))))))))) (mc (List.mem_of_getElem? (i := 54) rfl) (mc (List.mem_of_getElem? (i := 55) rfl) (mc (List.mem_of_getElem? (i := 56) rfl) (mc (List.mem_of_getElem? (i := 57) rfl) (mc (List.mem_of_getElem? (i := 58) rfl) (mc (List.mem_of_getElem? (i := 59) rfl) (mc (List.mem_of_getElem? (i := 60) rfl) mn))))))))) (fun w h => (List.mem_cons_of_mem _ (List.mem_append_right _ h))))) (by decide +kernel)
set_option maxRecDepth 100000 in
theorem gX4_better_X4_plans : GoodIn wsX4_better (wsV RX4 124 RX4 yX4_plans wsX4_plans) := goodIn_app (goodIn_sub (mc (List.mem_of_getElem? (i := 3) rfl) (mc (List.mem_of_getElem? (i := 4) rfl) (mc (List.mem_of_getElem? (i := 5) rfl) (mc (List.mem_of_getElem? (i := 6) rfl) mn)))) (by decide +kernel)) ggX4_better_X4_plans
set_option maxRecDepth 100000 in
theorem ggX4_better_X4_plan : GoodIn wsX4_better wsX4_plan := goodIn_sub (mc (List.mem_of_getElem? (i := 64) rfl) (mem_two (mem_two (mc (List.mem_of_getElem? (i := 1) rfl) (mc (List.mem_of_getElem? (i := 65) rfl) (mc (List.mem_of_getElem? (i := 3) rfl) (mc (List.mem_of_getElem? (i := 4) rfl) (mc (List.mem_of_getElem? (i := 5) rfl) (mc (List.mem_of_getElem? (i := 6) rfl) (mc (List.mem_of_getElem? (i := 7) rfl) (mc (List.mem_of_getElem? (i := 2) rfl) (mc (List.mem_of_getElem? (i := 8) rfl) (mc (List.mem_of_getElem? (i := 9) rfl) (mc (List.mem_of_getElem? (i := 10) rfl) (mc (List.mem_of_getElem? (i := 11) rfl) (mc (List.mem_of_getElem? (i := 12) rfl) (mc (List.mem_of_getElem? (i := 13) rfl) (mc (List.mem_of_getElem? (i := 14) rfl) (mc (List.mem_of_getElem? (i := 15) rfl) (mc (List.mem_of_getElem? (i := 16) rfl) (mc (List.mem_of_getElem? (i := 17) rfl) (mc (List.mem_of_getElem? (i := 18) rfl) (mc (List.mem_of_getElem? (i := 19) rfl) (mc (List.mem_of_getElem? (i := 20) rfl) (mc (List.mem_of_getElem? (i := 21) rfl) (mc (List.mem_of_getElem? (i := 22) rfl) (mc (List.mem_of_getElem? (i := 23) rfl) mn)))))))))))))))))))))))) (mem_two (mc (List.mem_of_getElem? (i := 24) rfl) (mc (List.mem_of_getElem? (i := 25) rfl) (mc (List.mem_of_getElem? (i := 26) rfl) (mc (List.mem_of_getElem? (i := 27) rfl) (mc (List.mem_of_getElem? (i := 28) rfl) (mc (List.mem_of_getElem? (i := 29) rfl) (mc (List.mem_of_getElem? (i := 30) rfl) (mc (List.mem_of_getElem? (i := 31) rfl) (mc (List.mem_of_getElem? (i := 32) rfl) (mc (List.mem_of_getElem? (i := 33) rfl) (mc (List.mem_of_getElem? (i := 34) rfl) (mc (List.mem_of_getElem? (i := 35) rfl) (mc (List.mem_of_getElem? (i := 36) rfl) (mc (List.mem_of_getElem? (i := 37) rfl) (mc (List.mem_of_getElem? (i := 38) rfl) (mc (List.mem_of_getElem? (i := 39) rfl) (mc (List.mem_of_getElem? (i := 40) rfl) (mc (List.mem_of_getElem? (i := 41) rfl) (mc (List.mem_of_getElem? (i := 42) rfl) (mc (List.mem_of_getElem? (i := 43) rfl) (mc (List.mem_of_getElem? (i := 44) rfl) (mc (List.mem_of_getElem? (i := 45) rfl) (mc (List.mem_of_getElem? (i := 46) rfl) (mc (List.mem_of_getElem? (i := 47) rfl) mn)))))))))))))))))))))))) (mc (List.mem_of_getElem? (i := 48) rfl) (mc (List.mem_of_getElem? (i := 49) rfl) (mc (List.mem_of_getElem? (i := 50) rfl) (mc (List.mem_of_getElem? (i := 51) rfl) (mc (List.mem_of_getElem? (i := 52) rfl) (mc (List.mem_of_getElem? (i := 53) rfl) (mc (List.mem_of_getElem? (i := 54) rfl) (mc (List.mem_of_getElem? (i := 55) rfl) (mc (List.mem_of_getElem? (i := 56) rfl) (mc (List.mem_of_getElem? (i := 57) rfl) (mc (List.mem_of_getElem? (i := 58) rfl) (mc (List.mem_of_getElem? (i := 59) rfl) (mc (List.mem_of_getElem? (i := 60) rfl) mn))))))))))))))) (fun w h => (List.mem_cons_of_mem _ (List.mem_append_right _ h))))) (by decide +kernel)
set_option maxRecDepth 100000 in
theorem gX4_better_X4_plan : GoodIn wsX4_better (wsV RX4 131 RX4 yX4_plan wsX4_plan) := goodIn_app (goodIn_sub (mc (List.mem_of_getElem? (i := 61) rfl) (mc (List.mem_of_getElem? (i := 62) rfl) (mc (List.mem_of_getElem? (i := 63) rfl) (mc (List.mem_of_getElem? (i := 6) rfl) mn)))) (by decide +kernel)) ggX4_better_X4_plan
theorem dX4_better_0 : decode cX4_better 0 = .ok (.iconst 0, 1) := by decide +kernel
theorem dX4_better_1 : decode cX4_better 1 = .ok (.istore_n 1, 1) := by decide +kernel
theorem dX4_better_2 : decode cX4_better 2 = .ok (.iconst 1, 1) := by decide +kernel
theorem dX4_better_3 : decode cX4_better 3 = .ok (.istore_n 2, 1) := by decide +kernel
theorem dX4_better_4 : decode cX4_better 4 = .ok (.iload_n 2, 1) := by decide +kernel
theorem dX4_better_5 : decode cX4_better 5 = .ok (.ifCond .eq 132, 3) := by decide +kernel
theorem dX4_better_8 : decode cX4_better 8 = .ok (.iload_n 1, 1) := by decide +kernel
theorem dX4_better_9 : decode cX4_better 9 = .ok (.bipush 10, 2) := by decide +kernel
theorem dX4_better_11 : decode cX4_better 11 = .ok (.if_icmp .ge 126, 3) := by decide +kernel
theorem dX4_better_14 : decode cX4_better 14 = .ok (.iconst 0, 1) := by decide +kernel
theorem dX4_better_15 : decode cX4_better 15 = .ok (.istore_n 2, 1) := by decide +kernel
theorem dX4_better_16 : decode cX4_better 16 = .ok (.aload_n 0, 1) := by decide +kernel
theorem dX4_better_17 : decode cX4_better 17 = .ok (.aload_n 0, 1) := by decide +kernel
theorem dX4_better_18 : decode cX4_better 18 = .ok (.getfield 43, 3) := by decide +kernel
theorem dX4_better_21 : decode cX4_better 21 = .ok (.invokevirtual 124, 3) := by decide +kernel
theorem dX4_better_24 : decode cX4_better 24 = .ok (.istore_n 3, 1) := by decide +kernel
theorem dX4_better_25 : decode cX4_better 25 = .ok (.iconst 0, 1) := by decide +kernel
theorem dX4_better_26 : decode cX4_better 26 = .ok (.istore 4, 2) := by decide +kernel
theorem dX4_better_28 : decode cX4_better 28 = .ok (.iload 4, 2) := by decide +kernel
theorem dX4_better_30 : decode cX4_better 30 = .ok (.iconst 1, 1) := by decide +kernel
theorem dX4_better_31 : decode cX4_better 31 = .ok (.iadd, 1) := by decide +kernel
theorem dX4_better_32 : decode cX4_better 32 = .ok (.aload_n 0, 1) := by decide +kernel
theorem dX4_better_33 : decode cX4_better 33 = .ok (.getfield 67, 3) := by decide +kernel
theorem dX4_better_36 : decode cX4_better 36 = .ok (.if_icmp .ge 91, 3) := by decide +kernel
theorem dX4_better_39 : decode cX4_better 39 = .ok (.iload_n 2, 1) := by decide +kernel
theorem dX4_better_40 : decode cX4_better 40 = .ok (.ifCond .ne 87, 3) := by decide +kernel
theorem dX4_better_43 : decode cX4_better 43 = .ok (.aload_n 0, 1) := by decide +kernel
theorem dX4_better_44 : decode cX4_better 44 = .ok (.getfield 43, 3) := by decide +kernel
theorem dX4_better_47 : decode cX4_better 47 = .ok (.iload 4, 2) := by decide +kernel
theorem dX4_better_49 : decode cX4_better 49 = .ok (.iaload, 1) := by decide +kernel
theorem dX4_better_50 : decode cX4_better 50 = .ok (.istore 5, 2) := by decide +kernel
theorem dX4_better_52 : decode cX4_better 52 = .ok (.aload_n 0, 1) := by decide +kernel
theorem dX4_better_53 : decode cX4_better 53 = .ok (.getfield 43, 3) := by decide +kernel
theorem dX4_better_56 : decode cX4_better 56 = .ok (.iload 4, 2) := by decide +kernel
theorem dX4_better_58 : decode cX4_better 58 = .ok (.aload_n 0, 1) := by decide +kernel
theorem dX4_better_59 : decode cX4_better 59 = .ok (.getfield 43, 3) := by decide +kernel
theorem dX4_better_62 : decode cX4_better 62 = .ok (.iload 4, 2) := by decide +kernel
theorem dX4_better_64 : decode cX4_better 64 = .ok (.iconst 1, 1) := by decide +kernel
theorem dX4_better_65 : decode cX4_better 65 = .ok (.iadd, 1) := by decide +kernel
theorem dX4_better_66 : decode cX4_better 66 = .ok (.iaload, 1) := by decide +kernel
theorem dX4_better_67 : decode cX4_better 67 = .ok (.iastore, 1) := by decide +kernel
theorem dX4_better_68 : decode cX4_better 68 = .ok (.aload_n 0, 1) := by decide +kernel
theorem dX4_better_69 : decode cX4_better 69 = .ok (.getfield 43, 3) := by decide +kernel
theorem dX4_better_72 : decode cX4_better 72 = .ok (.iload 4, 2) := by decide +kernel
theorem dX4_better_74 : decode cX4_better 74 = .ok (.iconst 1, 1) := by decide +kernel
theorem dX4_better_75 : decode cX4_better 75 = .ok (.iadd, 1) := by decide +kernel
theorem dX4_better_76 : decode cX4_better 76 = .ok (.iload 5, 2) := by decide +kernel
theorem dX4_better_78 : decode cX4_better 78 = .ok (.iastore, 1) := by decide +kernel
theorem dX4_better_79 : decode cX4_better 79 = .ok (.aload_n 0, 1) := by decide +kernel
theorem dX4_better_80 : decode cX4_better 80 = .ok (.aload_n 0, 1) := by decide +kernel
theorem dX4_better_81 : decode cX4_better 81 = .ok (.getfield 43, 3) := by decide +kernel
theorem dX4_better_84 : decode cX4_better 84 = .ok (.invokevirtual 124, 3) := by decide +kernel
theorem dX4_better_87 : decode cX4_better 87 = .ok (.iload_n 3, 1) := by decide +kernel
theorem dX4_better_88 : decode cX4_better 88 = .ok (.if_icmp .ge 8, 3) := by decide +kernel
theorem dX4_better_91 : decode cX4_better 91 = .ok (.iconst 1, 1) := by decide +kernel
theorem dX4_better_92 : decode cX4_better 92 = .ok (.istore_n 2, 1) := by decide +kernel
theorem dX4_better_93 : decode cX4_better 93 = .ok (.goto 28, 3) := by decide +kernel
theorem dX4_better_96 : decode cX4_better 96 = .ok (.aload_n 0, 1) := by decide +kernel
theorem dX4_better_97 : decode cX4_better 97 = .ok (.getfield 43, 3) := by decide +kernel
theorem dX4_better_100 : decode cX4_better 100 = .ok (.iload 4, 2) := by decide +kernel
theorem dX4_better_102 : decode cX4_better 102 = .ok (.iconst 1, 1) := by decide +kernel
theorem dX4_better_103 : decode cX4_better 103 = .ok (.iadd, 1) := by decide +kernel
theorem dX4_better_104 : decode cX4_better 104 = .ok (.aload_n 0, 1) := by decide +kernel
theorem dX4_better_105 : decode cX4_better 105 = .ok (.getfield 43, 3) := by decide +kernel
theorem dX4_better_108 : decode cX4_better 108 = .ok (.iload 4, 2) := by decide +kernel
theorem dX4_better_110 : decode cX4_better 110 = .ok (.iaload, 1) := by decide +kernel
theorem dX4_better_111 : decode cX4_better 111 = .ok (.iastore, 1) := by decide +kernel
theorem dX4_better_112 : decode cX4_better 112 = .ok (.aload_n 0, 1) := by decide +kernel
theorem dX4_better_113 : decode cX4_better 113 = .ok (.getfield 43, 3) := by decide +kernel
theorem dX4_better_116 : decode cX4_better 116 = .ok (.iload 4, 2) := by decide +kernel
theorem dX4_better_118 : decode cX4_better 118 = .ok (.iload 5, 2) := by decide +kernel
theorem dX4_better_120 : decode cX4_better 120 = .ok (.iastore, 1) := by decide +kernel
theorem dX4_better_121 : decode cX4_better 121 = .ok (.iinc 4 1, 3) := by decide +kernel
theorem dX4_better_124 : decode cX4_better 124 = .ok (.goto (-96), 3) := by decide +kernel
theorem dX4_better_127 : decode cX4_better 127 = .ok (.iload_n 2, 1) := by decide +kernel
theorem dX4_better_128 : decode cX4_better 128 = .ok (.ifCond .eq 6, 3) := by decide +kernel
theorem dX4_better_131 : decode cX4_better 131 = .ok (.iinc 1 1, 3) := by decide +kernel
theorem dX4_better_134 : decode cX4_better 134 = .ok (.goto (-130), 3) := by decide +kernel
theorem dX4_better_137 : decode cX4_better 137 = .ok (.aload_n 0, 1) := by decide +kernel
theorem dX4_better_138 : decode cX4_better 138 = .ok (.invokevirtual 131, 3) := by decide +kernel
theorem dX4_better_141 : decode cX4_better 141 = .ok (.pop, 1) := by decide +kernel
theorem dX4_better_142 : decode cX4_better 142 = .ok (.iload_n 1, 1) := by decide +kernel
theorem dX4_better_143 : decode cX4_better 143 = .ok (.ireturn, 1) := by decide +kernel
set_option maxRecDepth 100000 in
theorem ggX4_now_X4_isDay : GoodIn wsX4_now wsX4_isDay := goodIn_sub (mc (List.mem_of_getElem? (i := 7) rfl) mn) (by decide +kernel)
set_option maxRecDepth 20000 in
theorem gX4_now_X4_isDay : GoodIn wsX4_now (va_wsS RX4 78 yX4_isDay wsX4_isDay) := goodIn_app (goodIn_of _ (by decide +kernel)) ggX4_now_X4_isDay
theorem dX4_now_0 : decode cX4_now 0 = .ok (.iload_n 1, 1) := by decide +kernel
theorem dX4_now_1 : decode cX4_now 1 = .ok (.invokestatic 78, 3) := by decide +kernel
theorem dX4_now_4 : decode cX4_now 4 = .ok (.ifCond .ne 5, 3) := by decide +kernel
theorem dX4_now_7 : decode cX4_now 7 = .ok (.iconst (-1), 1) := by decide +kernel
theorem dX4_now_8 : decode cX4_now 8 = .ok (.ireturn, 1) := by decide +kernel
theorem dX4_now_9 : decode cX4_now 9 = .ok (.iload_n 1, 1) := by decide +kernel
theorem dX4_now_10 : decode cX4_now 10 = .ok (.aload_n 0, 1) := by decide +kernel
theorem dX4_now_11 : decode cX4_now 11 = .ok (.getfield 118, 3) := by decide +kernel
theorem dX4_now_14 : decode cX4_now 14 = .ok (.if_icmp .ge 6, 3) := by decide +kernel
theorem dX4_now_17 : decode cX4_now 17 = .ok (.bipush (-2), 2) := by decide +kernel
theorem dX4_now_19 : decode cX4_now 19 = .ok (.ireturn, 1) := by decide +kernel
theorem dX4_now_20 : decode cX4_now 20 = .ok (.aload_n 0, 1) := by decide +kernel
theorem dX4_now_21 : decode cX4_now 21 = .ok (.iload_n 1, 1) := by decide +kernel
theorem dX4_now_22 : decode cX4_now 22 = .ok (.putfield 118, 3) := by decide +kernel
theorem dX4_now_25 : decode cX4_now 25 = .ok (.iconst 0, 1) := by decide +kernel
theorem dX4_now_26 : decode cX4_now 26 = .ok (.istore_n 2, 1) := by decide +kernel
theorem dX4_now_27 : decode cX4_now 27 = .ok (.iconst 0, 1) := by decide +kernel
theorem dX4_now_28 : decode cX4_now 28 = .ok (.istore_n 3, 1) := by decide +kernel
theorem dX4_now_29 : decode cX4_now 29 = .ok (.iload_n 3, 1) := by decide +kernel
theorem dX4_now_30 : decode cX4_now 30 = .ok (.aload_n 0, 1) := by decide +kernel
theorem dX4_now_31 : decode cX4_now 31 = .ok (.getfield 67, 3) := by decide +kernel
theorem dX4_now_34 : decode cX4_now 34 = .ok (.if_icmp .ge 32, 3) := by decide +kernel
theorem dX4_now_37 : decode cX4_now 37 = .ok (.aload_n 0, 1) := by decide +kernel
theorem dX4_now_38 : decode cX4_now 38 = .ok (.getfield 37, 3) := by decide +kernel
theorem dX4_now_41 : decode cX4_now 41 = .ok (.iload_n 3, 1) := by decide +kernel
theorem dX4_now_42 : decode cX4_now 42 = .ok (.iaload, 1) := by decide +kernel
theorem dX4_now_43 : decode cX4_now 43 = .ok (.aload_n 0, 1) := by decide +kernel
theorem dX4_now_44 : decode cX4_now 44 = .ok (.getfield 118, 3) := by decide +kernel
theorem dX4_now_47 : decode cX4_now 47 = .ok (.if_icmp .lt 13, 3) := by decide +kernel
theorem dX4_now_50 : decode cX4_now 50 = .ok (.aload_n 0, 1) := by decide +kernel
theorem dX4_now_51 : decode cX4_now 51 = .ok (.getfield 37, 3) := by decide +kernel
theorem dX4_now_54 : decode cX4_now 54 = .ok (.iload_n 3, 1) := by decide +kernel
theorem dX4_now_55 : decode cX4_now 55 = .ok (.iconst (-1), 1) := by decide +kernel
theorem dX4_now_56 : decode cX4_now 56 = .ok (.iastore, 1) := by decide +kernel
theorem dX4_now_57 : decode cX4_now 57 = .ok (.iinc 2 1, 3) := by decide +kernel
theorem dX4_now_60 : decode cX4_now 60 = .ok (.iinc 3 1, 3) := by decide +kernel
theorem dX4_now_63 : decode cX4_now 63 = .ok (.goto (-34), 3) := by decide +kernel
theorem dX4_now_66 : decode cX4_now 66 = .ok (.iload_n 2, 1) := by decide +kernel
theorem dX4_now_67 : decode cX4_now 67 = .ok (.ireturn, 1) := by decide +kernel
theorem dX4_bound_0 : decode cX4_bound 0 = .ok (.aload_n 0, 1) := by decide +kernel
theorem dX4_bound_1 : decode cX4_bound 1 = .ok (.getfield 67, 3) := by decide +kernel
theorem dX4_bound_4 : decode cX4_bound 4 = .ok (.ifCond .ne 5, 3) := by decide +kernel
theorem dX4_bound_7 : decode cX4_bound 7 = .ok (.iconst 0, 1) := by decide +kernel
theorem dX4_bound_8 : decode cX4_bound 8 = .ok (.ireturn, 1) := by decide +kernel
theorem dX4_bound_9 : decode cX4_bound 9 = .ok (.iconst 0, 1) := by decide +kernel
theorem dX4_bound_10 : decode cX4_bound 10 = .ok (.istore_n 1, 1) := by decide +kernel
theorem dX4_bound_11 : decode cX4_bound 11 = .ok (.iload_n 1, 1) := by decide +kernel
theorem dX4_bound_12 : decode cX4_bound 12 = .ok (.aload_n 0, 1) := by decide +kernel
theorem dX4_bound_13 : decode cX4_bound 13 = .ok (.getfield 67, 3) := by decide +kernel
theorem dX4_bound_16 : decode cX4_bound 16 = .ok (.if_icmp .ge 16, 3) := by decide +kernel
theorem dX4_bound_19 : decode cX4_bound 19 = .ok (.aload_n 0, 1) := by decide +kernel
theorem dX4_bound_20 : decode cX4_bound 20 = .ok (.getfield 64, 3) := by decide +kernel
theorem dX4_bound_23 : decode cX4_bound 23 = .ok (.iload_n 1, 1) := by decide +kernel
theorem dX4_bound_24 : decode cX4_bound 24 = .ok (.iconst 0, 1) := by decide +kernel
theorem dX4_bound_25 : decode cX4_bound 25 = .ok (.iastore, 1) := by decide +kernel
theorem dX4_bound_26 : decode cX4_bound 26 = .ok (.iinc 1 1, 3) := by decide +kernel
theorem dX4_bound_29 : decode cX4_bound 29 = .ok (.goto (-18), 3) := by decide +kernel
theorem dX4_bound_32 : decode cX4_bound 32 = .ok (.iconst 0, 1) := by decide +kernel
theorem dX4_bound_33 : decode cX4_bound 33 = .ok (.istore_n 1, 1) := by decide +kernel
theorem dX4_bound_34 : decode cX4_bound 34 = .ok (.iload_n 1, 1) := by decide +kernel
theorem dX4_bound_35 : decode cX4_bound 35 = .ok (.aload_n 0, 1) := by decide +kernel
theorem dX4_bound_36 : decode cX4_bound 36 = .ok (.getfield 67, 3) := by decide +kernel
theorem dX4_bound_39 : decode cX4_bound 39 = .ok (.if_icmp .ge 93, 3) := by decide +kernel
theorem dX4_bound_42 : decode cX4_bound 42 = .ok (.iconst 0, 1) := by decide +kernel
theorem dX4_bound_43 : decode cX4_bound 43 = .ok (.istore_n 2, 1) := by decide +kernel
theorem dX4_bound_44 : decode cX4_bound 44 = .ok (.iload_n 2, 1) := by decide +kernel
theorem dX4_bound_45 : decode cX4_bound 45 = .ok (.aload_n 0, 1) := by decide +kernel
theorem dX4_bound_46 : decode cX4_bound 46 = .ok (.getfield 67, 3) := by decide +kernel
theorem dX4_bound_49 : decode cX4_bound 49 = .ok (.if_icmp .ge 77, 3) := by decide +kernel
theorem dX4_bound_52 : decode cX4_bound 52 = .ok (.iconst 0, 1) := by decide +kernel
theorem dX4_bound_53 : decode cX4_bound 53 = .ok (.istore_n 3, 1) := by decide +kernel
theorem dX4_bound_54 : decode cX4_bound 54 = .ok (.iload_n 3, 1) := by decide +kernel
theorem dX4_bound_55 : decode cX4_bound 55 = .ok (.aload_n 0, 1) := by decide +kernel
theorem dX4_bound_56 : decode cX4_bound 56 = .ok (.getfield 67, 3) := by decide +kernel
theorem dX4_bound_59 : decode cX4_bound 59 = .ok (.if_icmp .ge 61, 3) := by decide +kernel
theorem dX4_bound_62 : decode cX4_bound 62 = .ok (.aload_n 0, 1) := by decide +kernel
theorem dX4_bound_63 : decode cX4_bound 63 = .ok (.getfield 40, 3) := by decide +kernel
theorem dX4_bound_66 : decode cX4_bound 66 = .ok (.bipush 10, 2) := by decide +kernel
theorem dX4_bound_68 : decode cX4_bound 68 = .ok (.iload_n 2, 1) := by decide +kernel
theorem dX4_bound_69 : decode cX4_bound 69 = .ok (.imul, 1) := by decide +kernel
theorem dX4_bound_70 : decode cX4_bound 70 = .ok (.iload_n 3, 1) := by decide +kernel
theorem dX4_bound_71 : decode cX4_bound 71 = .ok (.iadd, 1) := by decide +kernel
theorem dX4_bound_72 : decode cX4_bound 72 = .ok (.iaload, 1) := by decide +kernel
theorem dX4_bound_73 : decode cX4_bound 73 = .ok (.istore 4, 2) := by decide +kernel
theorem dX4_bound_75 : decode cX4_bound 75 = .ok (.iload 4, 2) := by decide +kernel
theorem dX4_bound_77 : decode cX4_bound 77 = .ok (.iconst (-1), 1) := by decide +kernel
theorem dX4_bound_78 : decode cX4_bound 78 = .ok (.if_icmp .eq 36, 3) := by decide +kernel
theorem dX4_bound_81 : decode cX4_bound 81 = .ok (.aload_n 0, 1) := by decide +kernel
theorem dX4_bound_82 : decode cX4_bound 82 = .ok (.getfield 64, 3) := by decide +kernel
theorem dX4_bound_85 : decode cX4_bound 85 = .ok (.iload_n 2, 1) := by decide +kernel
theorem dX4_bound_86 : decode cX4_bound 86 = .ok (.iaload, 1) := by decide +kernel
theorem dX4_bound_87 : decode cX4_bound 87 = .ok (.iload 4, 2) := by decide +kernel
theorem dX4_bound_89 : decode cX4_bound 89 = .ok (.iadd, 1) := by decide +kernel
theorem dX4_bound_90 : decode cX4_bound 90 = .ok (.aload_n 0, 1) := by decide +kernel
theorem dX4_bound_91 : decode cX4_bound 91 = .ok (.getfield 64, 3) := by decide +kernel
theorem dX4_bound_94 : decode cX4_bound 94 = .ok (.iload_n 3, 1) := by decide +kernel
theorem dX4_bound_95 : decode cX4_bound 95 = .ok (.iaload, 1) := by decide +kernel
theorem dX4_bound_96 : decode cX4_bound 96 = .ok (.if_icmp .le 18, 3) := by decide +kernel
theorem dX4_bound_99 : decode cX4_bound 99 = .ok (.aload_n 0, 1) := by decide +kernel
theorem dX4_bound_100 : decode cX4_bound 100 = .ok (.getfield 64, 3) := by decide +kernel
theorem dX4_bound_103 : decode cX4_bound 103 = .ok (.iload_n 3, 1) := by decide +kernel
theorem dX4_bound_104 : decode cX4_bound 104 = .ok (.aload_n 0, 1) := by decide +kernel
theorem dX4_bound_105 : decode cX4_bound 105 = .ok (.getfield 64, 3) := by decide +kernel
theorem dX4_bound_108 : decode cX4_bound 108 = .ok (.iload_n 2, 1) := by decide +kernel
theorem dX4_bound_109 : decode cX4_bound 109 = .ok (.iaload, 1) := by decide +kernel
theorem dX4_bound_110 : decode cX4_bound 110 = .ok (.iload 4, 2) := by decide +kernel
theorem dX4_bound_112 : decode cX4_bound 112 = .ok (.iadd, 1) := by decide +kernel
theorem dX4_bound_113 : decode cX4_bound 113 = .ok (.iastore, 1) := by decide +kernel
theorem dX4_bound_114 : decode cX4_bound 114 = .ok (.iinc 3 1, 3) := by decide +kernel
theorem dX4_bound_117 : decode cX4_bound 117 = .ok (.goto (-63), 3) := by decide +kernel
theorem dX4_bound_120 : decode cX4_bound 120 = .ok (.iinc 2 1, 3) := by decide +kernel
theorem dX4_bound_123 : decode cX4_bound 123 = .ok (.goto (-79), 3) := by decide +kernel
theorem dX4_bound_126 : decode cX4_bound 126 = .ok (.iinc 1 1, 3) := by decide +kernel
theorem dX4_bound_129 : decode cX4_bound 129 = .ok (.goto (-95), 3) := by decide +kernel
theorem dX4_bound_132 : decode cX4_bound 132 = .ok (.iconst 0, 1) := by decide +kernel
theorem dX4_bound_133 : decode cX4_bound 133 = .ok (.istore_n 1, 1) := by decide +kernel
theorem dX4_bound_134 : decode cX4_bound 134 = .ok (.iconst 0, 1) := by decide +kernel
theorem dX4_bound_135 : decode cX4_bound 135 = .ok (.istore_n 2, 1) := by decide +kernel
theorem dX4_bound_136 : decode cX4_bound 136 = .ok (.iload_n 2, 1) := by decide +kernel
theorem dX4_bound_137 : decode cX4_bound 137 = .ok (.aload_n 0, 1) := by decide +kernel
theorem dX4_bound_138 : decode cX4_bound 138 = .ok (.getfield 67, 3) := by decide +kernel
theorem dX4_bound_141 : decode cX4_bound 141 = .ok (.if_icmp .ge 26, 3) := by decide +kernel
theorem dX4_bound_144 : decode cX4_bound 144 = .ok (.aload_n 0, 1) := by decide +kernel
theorem dX4_bound_145 : decode cX4_bound 145 = .ok (.getfield 64, 3) := by decide +kernel
theorem dX4_bound_148 : decode cX4_bound 148 = .ok (.iload_n 2, 1) := by decide +kernel
theorem dX4_bound_149 : decode cX4_bound 149 = .ok (.iaload, 1) := by decide +kernel
theorem dX4_bound_150 : decode cX4_bound 150 = .ok (.iload_n 1, 1) := by decide +kernel
theorem dX4_bound_151 : decode cX4_bound 151 = .ok (.if_icmp .le 10, 3) := by decide +kernel
theorem dX4_bound_154 : decode cX4_bound 154 = .ok (.aload_n 0, 1) := by decide +kernel
theorem dX4_bound_155 : decode cX4_bound 155 = .ok (.getfield 64, 3) := by decide +kernel
theorem dX4_bound_158 : decode cX4_bound 158 = .ok (.iload_n 2, 1) := by decide +kernel
theorem dX4_bound_159 : decode cX4_bound 159 = .ok (.iaload, 1) := by decide +kernel
theorem dX4_bound_160 : decode cX4_bound 160 = .ok (.istore_n 1, 1) := by decide +kernel
theorem dX4_bound_161 : decode cX4_bound 161 = .ok (.iinc 2 1, 3) := by decide +kernel
theorem dX4_bound_164 : decode cX4_bound 164 = .ok (.goto (-28), 3) := by decide +kernel
theorem dX4_bound_167 : decode cX4_bound 167 = .ok (.iload_n 1, 1) := by decide +kernel
theorem dX4_bound_168 : decode cX4_bound 168 = .ok (.iconst 1, 1) := by decide +kernel
theorem dX4_bound_169 : decode cX4_bound 169 = .ok (.iadd, 1) := by decide +kernel
theorem dX4_bound_170 : decode cX4_bound 170 = .ok (.ireturn, 1) := by decide +kernel
set_option maxRecDepth 100000 in
theorem ggX4_about_X4_isPiece : GoodIn wsX4_about wsX4_isPiece := goodIn_sub (mc (List.mem_of_getElem? (i := 12) rfl) (mem_two (mc (List.mem_of_getElem? (i := 13) rfl) mn) (fun w h => (List.mem_cons_of_mem _ (List.mem_append_right _ h))))) (by decide +kernel)
set_option maxRecDepth 100000 in
theorem gX4_about_X4_isPiece : GoodIn wsX4_about (wsV RX4 70 RX4 yX4_isPiece wsX4_isPiece) := goodIn_app (goodIn_sub (mc (List.mem_of_getElem? (i := 8) rfl) (mc (List.mem_of_getElem? (i := 9) rfl) (mc (List.mem_of_getElem? (i := 10) rfl) (mc (List.mem_of_getElem? (i := 11) rfl) mn)))) (by decide +kernel)) ggX4_about_X4_isPiece
set_option maxRecDepth 100000 in
theorem ggX4_about_X4_stripped : GoodIn wsX4_about wsX4_stripped := goodIn_sub (mc (List.mem_of_getElem? (i := 17) rfl) (mem_two (mc (List.mem_of_getElem? (i := 18) rfl) (mc (List.mem_of_getElem? (i := 19) rfl) (mc (List.mem_of_getElem? (i := 20) rfl) (mc (List.mem_of_getElem? (i := 21) rfl) (mc (List.mem_of_getElem? (i := 11) rfl) (mc (List.mem_of_getElem? (i := 22) rfl) (mc (List.mem_of_getElem? (i := 23) rfl) (mc (List.mem_of_getElem? (i := 24) rfl) (mc (List.mem_of_getElem? (i := 25) rfl) (mc (List.mem_of_getElem? (i := 26) rfl) (mc (List.mem_of_getElem? (i := 27) rfl) (mc (List.mem_of_getElem? (i := 28) rfl) (mc (List.mem_of_getElem? (i := 29) rfl) (mc (List.mem_of_getElem? (i := 30) rfl) (mc (List.mem_of_getElem? (i := 31) rfl) mn))))))))))))))) (fun w h => (List.mem_cons_of_mem _ (List.mem_append_right _ h))))) (by decide +kernel)
set_option maxRecDepth 100000 in
theorem gX4_about_X4_stripped : GoodIn wsX4_about (wsV RX4 102 RX4 yX4_stripped wsX4_stripped) := goodIn_app (goodIn_sub (mc (List.mem_of_getElem? (i := 14) rfl) (mc (List.mem_of_getElem? (i := 15) rfl) (mc (List.mem_of_getElem? (i := 16) rfl) (mc (List.mem_of_getElem? (i := 11) rfl) mn)))) (by decide +kernel)) ggX4_about_X4_stripped
theorem dX4_about_0 : decode cX4_about 0 = .ok (.aload_n 0, 1) := by decide +kernel
theorem dX4_about_1 : decode cX4_about 1 = .ok (.iload_n 1, 1) := by decide +kernel
theorem dX4_about_2 : decode cX4_about 2 = .ok (.invokevirtual 70, 3) := by decide +kernel
theorem dX4_about_5 : decode cX4_about 5 = .ok (.ifCond .ne 5, 3) := by decide +kernel
theorem dX4_about_8 : decode cX4_about 8 = .ok (.iconst (-1), 1) := by decide +kernel
theorem dX4_about_9 : decode cX4_about 9 = .ok (.ireturn, 1) := by decide +kernel
theorem dX4_about_10 : decode cX4_about 10 = .ok (.iload_n 2, 1) := by decide +kernel
theorem dX4_about_11 : decode cX4_about 11 = .ok (.tableswitch 132 0 7 #[45, 52, 59, 66, 73, 80, 87, 112], 45) := by decide +kernel
theorem dX4_about_56 : decode cX4_about 56 = .ok (.aload_n 0, 1) := by decide +kernel
theorem dX4_about_57 : decode cX4_about 57 = .ok (.getfield 21, 3) := by decide +kernel
theorem dX4_about_60 : decode cX4_about 60 = .ok (.iload_n 1, 1) := by decide +kernel
theorem dX4_about_61 : decode cX4_about 61 = .ok (.iaload, 1) := by decide +kernel
theorem dX4_about_62 : decode cX4_about 62 = .ok (.ireturn, 1) := by decide +kernel
theorem dX4_about_63 : decode cX4_about 63 = .ok (.aload_n 0, 1) := by decide +kernel
theorem dX4_about_64 : decode cX4_about 64 = .ok (.getfield 25, 3) := by decide +kernel
theorem dX4_about_67 : decode cX4_about 67 = .ok (.iload_n 1, 1) := by decide +kernel
theorem dX4_about_68 : decode cX4_about 68 = .ok (.iaload, 1) := by decide +kernel
theorem dX4_about_69 : decode cX4_about 69 = .ok (.ireturn, 1) := by decide +kernel
theorem dX4_about_70 : decode cX4_about 70 = .ok (.aload_n 0, 1) := by decide +kernel
theorem dX4_about_71 : decode cX4_about 71 = .ok (.getfield 28, 3) := by decide +kernel
theorem dX4_about_74 : decode cX4_about 74 = .ok (.iload_n 1, 1) := by decide +kernel
theorem dX4_about_75 : decode cX4_about 75 = .ok (.iaload, 1) := by decide +kernel
theorem dX4_about_76 : decode cX4_about 76 = .ok (.ireturn, 1) := by decide +kernel
theorem dX4_about_77 : decode cX4_about 77 = .ok (.aload_n 0, 1) := by decide +kernel
theorem dX4_about_78 : decode cX4_about 78 = .ok (.getfield 31, 3) := by decide +kernel
theorem dX4_about_81 : decode cX4_about 81 = .ok (.iload_n 1, 1) := by decide +kernel
theorem dX4_about_82 : decode cX4_about 82 = .ok (.iaload, 1) := by decide +kernel
theorem dX4_about_83 : decode cX4_about 83 = .ok (.ireturn, 1) := by decide +kernel
theorem dX4_about_84 : decode cX4_about 84 = .ok (.aload_n 0, 1) := by decide +kernel
theorem dX4_about_85 : decode cX4_about 85 = .ok (.getfield 34, 3) := by decide +kernel
theorem dX4_about_88 : decode cX4_about 88 = .ok (.iload_n 1, 1) := by decide +kernel
theorem dX4_about_89 : decode cX4_about 89 = .ok (.iaload, 1) := by decide +kernel
theorem dX4_about_90 : decode cX4_about 90 = .ok (.ireturn, 1) := by decide +kernel
theorem dX4_about_91 : decode cX4_about 91 = .ok (.aload_n 0, 1) := by decide +kernel
theorem dX4_about_92 : decode cX4_about 92 = .ok (.getfield 37, 3) := by decide +kernel
theorem dX4_about_95 : decode cX4_about 95 = .ok (.iload_n 1, 1) := by decide +kernel
theorem dX4_about_96 : decode cX4_about 96 = .ok (.iaload, 1) := by decide +kernel
theorem dX4_about_97 : decode cX4_about 97 = .ok (.ireturn, 1) := by decide +kernel
theorem dX4_about_98 : decode cX4_about 98 = .ok (.aload_n 0, 1) := by decide +kernel
theorem dX4_about_99 : decode cX4_about 99 = .ok (.getfield 37, 3) := by decide +kernel
theorem dX4_about_102 : decode cX4_about 102 = .ok (.iload_n 1, 1) := by decide +kernel
theorem dX4_about_103 : decode cX4_about 103 = .ok (.iaload, 1) := by decide +kernel
theorem dX4_about_104 : decode cX4_about 104 = .ok (.iconst (-1), 1) := by decide +kernel
theorem dX4_about_105 : decode cX4_about 105 = .ok (.if_icmp .ne 7, 3) := by decide +kernel
theorem dX4_about_108 : decode cX4_about 108 = .ok (.iconst (-1), 1) := by decide +kernel
theorem dX4_about_109 : decode cX4_about 109 = .ok (.goto 13, 3) := by decide +kernel
theorem dX4_about_112 : decode cX4_about 112 = .ok (.aload_n 0, 1) := by decide +kernel
theorem dX4_about_113 : decode cX4_about 113 = .ok (.aload_n 0, 1) := by decide +kernel
theorem dX4_about_114 : decode cX4_about 114 = .ok (.getfield 37, 3) := by decide +kernel
theorem dX4_about_117 : decode cX4_about 117 = .ok (.iload_n 1, 1) := by decide +kernel
theorem dX4_about_118 : decode cX4_about 118 = .ok (.iaload, 1) := by decide +kernel
theorem dX4_about_119 : decode cX4_about 119 = .ok (.invokevirtual 102, 3) := by decide +kernel
theorem dX4_about_122 : decode cX4_about 122 = .ok (.ireturn, 1) := by decide +kernel
theorem dX4_about_123 : decode cX4_about 123 = .ok (.iconst 0, 1) := by decide +kernel
theorem dX4_about_124 : decode cX4_about 124 = .ok (.istore_n 3, 1) := by decide +kernel
theorem dX4_about_125 : decode cX4_about 125 = .ok (.aload_n 0, 1) := by decide +kernel
theorem dX4_about_126 : decode cX4_about 126 = .ok (.getfield 43, 3) := by decide +kernel
theorem dX4_about_129 : decode cX4_about 129 = .ok (.iload_n 3, 1) := by decide +kernel
theorem dX4_about_130 : decode cX4_about 130 = .ok (.iaload, 1) := by decide +kernel
theorem dX4_about_131 : decode cX4_about 131 = .ok (.iload_n 1, 1) := by decide +kernel
theorem dX4_about_132 : decode cX4_about 132 = .ok (.if_icmp .eq 9, 3) := by decide +kernel
theorem dX4_about_135 : decode cX4_about 135 = .ok (.iinc 3 1, 3) := by decide +kernel
theorem dX4_about_138 : decode cX4_about 138 = .ok (.goto (-13), 3) := by decide +kernel
theorem dX4_about_141 : decode cX4_about 141 = .ok (.iload_n 3, 1) := by decide +kernel
theorem dX4_about_142 : decode cX4_about 142 = .ok (.ireturn, 1) := by decide +kernel
theorem dX4_about_143 : decode cX4_about 143 = .ok (.iconst (-1), 1) := by decide +kernel
theorem dX4_about_144 : decode cX4_about 144 = .ok (.ireturn, 1) := by decide +kernel
set_option maxRecDepth 100000 in
theorem ggX4_hard_X4_isPiece : GoodIn wsX4_hard wsX4_isPiece := goodIn_sub (mc (List.mem_of_getElem? (i := 6) rfl) (mem_two (mc (List.mem_of_getElem? (i := 7) rfl) mn) (fun w h => (List.mem_cons_of_mem _ (List.mem_append_right _ h))))) (by decide +kernel)
set_option maxRecDepth 100000 in
theorem gX4_hard_X4_isPiece : GoodIn wsX4_hard (wsV RX4 70 RX4 yX4_isPiece wsX4_isPiece) := goodIn_app (goodIn_sub (mc (List.mem_of_getElem? (i := 2) rfl) (mc (List.mem_of_getElem? (i := 3) rfl) (mc (List.mem_of_getElem? (i := 4) rfl) (mc (List.mem_of_getElem? (i := 5) rfl) mn)))) (by decide +kernel)) ggX4_hard_X4_isPiece
set_option maxRecDepth 100000 in
theorem ggX4_hard_X4_isDay : GoodIn wsX4_hard wsX4_isDay := goodIn_sub (mc (List.mem_of_getElem? (i := 10) rfl) mn) (by decide +kernel)
set_option maxRecDepth 20000 in
theorem gX4_hard_X4_isDay : GoodIn wsX4_hard (va_wsS RX4 78 yX4_isDay wsX4_isDay) := goodIn_app (goodIn_of _ (by decide +kernel)) ggX4_hard_X4_isDay
set_option maxRecDepth 100000 in
theorem ggX4_hard_X4_isPoured : GoodIn wsX4_hard wsX4_isPoured := goodIn_sub (mc (List.mem_of_getElem? (i := 14) rfl) (mem_two (mc (List.mem_of_getElem? (i := 1) rfl) mn) (fun w h => (List.mem_cons_of_mem _ (List.mem_append_right _ h))))) (by decide +kernel)
set_option maxRecDepth 100000 in
theorem gX4_hard_X4_isPoured : GoodIn wsX4_hard (wsV RX4 99 RX4 yX4_isPoured wsX4_isPoured) := goodIn_app (goodIn_sub (mc (List.mem_of_getElem? (i := 11) rfl) (mc (List.mem_of_getElem? (i := 12) rfl) (mc (List.mem_of_getElem? (i := 13) rfl) (mc (List.mem_of_getElem? (i := 5) rfl) mn)))) (by decide +kernel)) ggX4_hard_X4_isPoured
set_option maxRecDepth 100000 in
theorem ggX4_hard_X4_hardness : GoodIn wsX4_hard wsX4_hardness := goodIn_sub (mc (List.mem_of_getElem? (i := 18) rfl) (mem_two (mc (List.mem_of_getElem? (i := 19) rfl) (mc (List.mem_of_getElem? (i := 20) rfl) (mc (List.mem_of_getElem? (i := 21) rfl) (mc (List.mem_of_getElem? (i := 22) rfl) (mc (List.mem_of_getElem? (i := 23) rfl) (mc (List.mem_of_getElem? (i := 5) rfl) (mc (List.mem_of_getElem? (i := 24) rfl) (mc (List.mem_of_getElem? (i := 25) rfl) (mc (List.mem_of_getElem? (i := 26) rfl) (mc (List.mem_of_getElem? (i := 27) rfl) mn)))))))))) (fun w h => (List.mem_cons_of_mem _ (List.mem_append_right _ h))))) (by decide +kernel)
set_option maxRecDepth 100000 in
theorem gX4_hard_X4_hardness : GoodIn wsX4_hard (wsV RX4 95 RX4 yX4_hardness wsX4_hardness) := goodIn_app (goodIn_sub (mc (List.mem_of_getElem? (i := 15) rfl) (mc (List.mem_of_getElem? (i := 16) rfl) (mc (List.mem_of_getElem? (i := 17) rfl) (mc (List.mem_of_getElem? (i := 5) rfl) mn)))) (by decide +kernel)) ggX4_hard_X4_hardness
theorem dX4_hard_0 : decode cX4_hard 0 = .ok (.aload_n 0, 1) := by decide +kernel
theorem dX4_hard_1 : decode cX4_hard 1 = .ok (.iload_n 1, 1) := by decide +kernel
theorem dX4_hard_2 : decode cX4_hard 2 = .ok (.invokevirtual 70, 3) := by decide +kernel
theorem dX4_hard_5 : decode cX4_hard 5 = .ok (.ifCond .eq 33, 3) := by decide +kernel
theorem dX4_hard_8 : decode cX4_hard 8 = .ok (.iload_n 2, 1) := by decide +kernel
theorem dX4_hard_9 : decode cX4_hard 9 = .ok (.invokestatic 78, 3) := by decide +kernel
theorem dX4_hard_12 : decode cX4_hard 12 = .ok (.ifCond .eq 26, 3) := by decide +kernel
theorem dX4_hard_15 : decode cX4_hard 15 = .ok (.aload_n 0, 1) := by decide +kernel
theorem dX4_hard_16 : decode cX4_hard 16 = .ok (.iload_n 1, 1) := by decide +kernel
theorem dX4_hard_17 : decode cX4_hard 17 = .ok (.iload_n 2, 1) := by decide +kernel
theorem dX4_hard_18 : decode cX4_hard 18 = .ok (.invokevirtual 99, 3) := by decide +kernel
theorem dX4_hard_21 : decode cX4_hard 21 = .ok (.ifCond .eq 17, 3) := by decide +kernel
theorem dX4_hard_24 : decode cX4_hard 24 = .ok (.aload_n 0, 1) := by decide +kernel
theorem dX4_hard_25 : decode cX4_hard 25 = .ok (.aload_n 0, 1) := by decide +kernel
theorem dX4_hard_26 : decode cX4_hard 26 = .ok (.getfield 37, 3) := by decide +kernel
theorem dX4_hard_29 : decode cX4_hard 29 = .ok (.iload_n 1, 1) := by decide +kernel
theorem dX4_hard_30 : decode cX4_hard 30 = .ok (.iaload, 1) := by decide +kernel
theorem dX4_hard_31 : decode cX4_hard 31 = .ok (.iload_n 2, 1) := by decide +kernel
theorem dX4_hard_32 : decode cX4_hard 32 = .ok (.invokevirtual 95, 3) := by decide +kernel
theorem dX4_hard_35 : decode cX4_hard 35 = .ok (.goto 4, 3) := by decide +kernel
theorem dX4_hard_38 : decode cX4_hard 38 = .ok (.iconst (-1), 1) := by decide +kernel
theorem dX4_hard_39 : decode cX4_hard 39 = .ok (.ireturn, 1) := by decide +kernel
set_option maxRecDepth 100000 in
theorem ggX4_why_X4_isPiece : GoodIn wsX4_why wsX4_isPiece := goodIn_sub (mc (List.mem_of_getElem? (i := 5) rfl) (mem_two (mc (List.mem_of_getElem? (i := 6) rfl) mn) (fun w h => (List.mem_cons_of_mem _ (List.mem_append_right _ h))))) (by decide +kernel)
set_option maxRecDepth 100000 in
theorem gX4_why_X4_isPiece : GoodIn wsX4_why (wsV RX4 70 RX4 yX4_isPiece wsX4_isPiece) := goodIn_app (goodIn_sub (mc (List.mem_of_getElem? (i := 1) rfl) (mc (List.mem_of_getElem? (i := 2) rfl) (mc (List.mem_of_getElem? (i := 3) rfl) (mc (List.mem_of_getElem? (i := 4) rfl) mn)))) (by decide +kernel)) ggX4_why_X4_isPiece
set_option maxRecDepth 100000 in
theorem ggX4_why_X4_isDay : GoodIn wsX4_why wsX4_isDay := goodIn_sub (mc (List.mem_of_getElem? (i := 9) rfl) mn) (by decide +kernel)
set_option maxRecDepth 20000 in
theorem gX4_why_X4_isDay : GoodIn wsX4_why (va_wsS RX4 78 yX4_isDay wsX4_isDay) := goodIn_app (goodIn_of _ (by decide +kernel)) ggX4_why_X4_isDay
set_option maxRecDepth 100000 in
theorem ggX4_why_X4_hinders : GoodIn wsX4_why wsX4_hinders := goodIn_sub (mc (List.mem_of_getElem? (i := 13) rfl) (mem_two (mem_two (mc (List.mem_of_getElem? (i := 6) rfl) (mc (List.mem_of_getElem? (i := 14) rfl) (mc (List.mem_of_getElem? (i := 15) rfl) (mc (List.mem_of_getElem? (i := 16) rfl) (mc (List.mem_of_getElem? (i := 17) rfl) (mc (List.mem_of_getElem? (i := 18) rfl) (mc (List.mem_of_getElem? (i := 19) rfl) (mc (List.mem_of_getElem? (i := 20) rfl) (mc (List.mem_of_getElem? (i := 21) rfl) (mc (List.mem_of_getElem? (i := 22) rfl) (mc (List.mem_of_getElem? (i := 23) rfl) (mc (List.mem_of_getElem? (i := 24) rfl) (mc (List.mem_of_getElem? (i := 4) rfl) (mc (List.mem_of_getElem? (i := 25) rfl) (mc (List.mem_of_getElem? (i := 26) rfl) (mc (List.mem_of_getElem? (i := 27) rfl) (mc (List.mem_of_getElem? (i := 28) rfl) (mc (List.mem_of_getElem? (i := 29) rfl) (mc (List.mem_of_getElem? (i := 30) rfl) (mc (List.mem_of_getElem? (i := 31) rfl) (mc (List.mem_of_getElem? (i := 32) rfl) (mc (List.mem_of_getElem? (i := 33) rfl) (mc (List.mem_of_getElem? (i := 34) rfl) (mc (List.mem_of_getElem? (i := 35) rfl) mn)))))))))))))))))))))))) (mem_two (mc (List.mem_of_getElem? (i := 36) rfl) (mc (List.mem_of_getElem? (i := 37) rfl) (mc (List.mem_of_getElem? (i := 38) rfl) (mc (List.mem_of_getElem? (i := 39) rfl) (mc (List.mem_of_getElem? (i := 40) rfl) (mc (List.mem_of_getElem? (i := 41) rfl) (mc (List.mem_of_getElem? (i := 42) rfl) (mc (List.mem_of_getElem? (i := 43) rfl) (mc (List.mem_of_getElem? (i := 44) rfl) (mc (List.mem_of_getElem? (i := 45) rfl) (mc (List.mem_of_getElem? (i := 46) rfl) (mc (List.mem_of_getElem? (i := 47) rfl) (mc (List.mem_of_getElem? (i := 48) rfl) (mc (List.mem_of_getElem? (i := 49) rfl) (mc (List.mem_of_getElem? (i := 50) rfl) (mc (List.mem_of_getElem? (i := 51) rfl) (mc (List.mem_of_getElem? (i := 52) rfl) (mc (List.mem_of_getElem? (i := 53) rfl) (mc (List.mem_of_getElem? (i := 54) rfl) (mc (List.mem_of_getElem? (i := 55) rfl) (mc (List.mem_of_getElem? (i := 56) rfl) (mc (List.mem_of_getElem? (i := 57) rfl) (mc (List.mem_of_getElem? (i := 58) rfl) (mc (List.mem_of_getElem? (i := 59) rfl) mn)))))))))))))))))))))))) (mc (List.mem_of_getElem? (i := 60) rfl) (mc (List.mem_of_getElem? (i := 61) rfl) mn)))) (fun w h => (List.mem_cons_of_mem _ (List.mem_append_right _ h))))) (by decide +kernel)
set_option maxRecDepth 100000 in
theorem gX4_why_X4_hinders : GoodIn wsX4_why (wsV RX4 121 RX4 yX4_hinders wsX4_hinders) := goodIn_app (goodIn_sub (mc (List.mem_of_getElem? (i := 10) rfl) (mc (List.mem_of_getElem? (i := 11) rfl) (mc (List.mem_of_getElem? (i := 12) rfl) (mc (List.mem_of_getElem? (i := 4) rfl) mn)))) (by decide +kernel)) ggX4_why_X4_hinders
theorem dX4_why_0 : decode cX4_why 0 = .ok (.aload_n 0, 1) := by decide +kernel
theorem dX4_why_1 : decode cX4_why 1 = .ok (.iload_n 1, 1) := by decide +kernel
theorem dX4_why_2 : decode cX4_why 2 = .ok (.invokevirtual 70, 3) := by decide +kernel
theorem dX4_why_5 : decode cX4_why 5 = .ok (.ifCond .eq 19, 3) := by decide +kernel
theorem dX4_why_8 : decode cX4_why 8 = .ok (.iload_n 2, 1) := by decide +kernel
theorem dX4_why_9 : decode cX4_why 9 = .ok (.invokestatic 78, 3) := by decide +kernel
theorem dX4_why_12 : decode cX4_why 12 = .ok (.ifCond .eq 12, 3) := by decide +kernel
theorem dX4_why_15 : decode cX4_why 15 = .ok (.aload_n 0, 1) := by decide +kernel
theorem dX4_why_16 : decode cX4_why 16 = .ok (.iload_n 1, 1) := by decide +kernel
theorem dX4_why_17 : decode cX4_why 17 = .ok (.iload_n 2, 1) := by decide +kernel
theorem dX4_why_18 : decode cX4_why 18 = .ok (.invokevirtual 121, 3) := by decide +kernel
theorem dX4_why_21 : decode cX4_why 21 = .ok (.goto 4, 3) := by decide +kernel
theorem dX4_why_24 : decode cX4_why 24 = .ok (.iconst (-1), 1) := by decide +kernel
theorem dX4_why_25 : decode cX4_why 25 = .ok (.ireturn, 1) := by decide +kernel
set_option maxRecDepth 100000 in
theorem ggX4_free_X4_isDay : GoodIn wsX4_free wsX4_isDay := goodIn_sub (mc (List.mem_of_getElem? (i := 4) rfl) mn) (by decide +kernel)
set_option maxRecDepth 20000 in
theorem gX4_free_X4_isDay : GoodIn wsX4_free (va_wsS RX4 78 yX4_isDay wsX4_isDay) := goodIn_app (goodIn_of _ (by decide +kernel)) ggX4_free_X4_isDay
set_option maxRecDepth 100000 in
theorem ggX4_free_X4_freeOf : GoodIn wsX4_free wsX4_freeOf := goodIn_sub (mc (List.mem_of_getElem? (i := 8) rfl) (mem_two (mem_two (mc (List.mem_of_getElem? (i := 9) rfl) (mc (List.mem_of_getElem? (i := 10) rfl) (mc (List.mem_of_getElem? (i := 11) rfl) (mc (List.mem_of_getElem? (i := 12) rfl) (mc (List.mem_of_getElem? (i := 13) rfl) (mc (List.mem_of_getElem? (i := 14) rfl) (mc (List.mem_of_getElem? (i := 15) rfl) (mc (List.mem_of_getElem? (i := 3) rfl) (mc (List.mem_of_getElem? (i := 16) rfl) (mc (List.mem_of_getElem? (i := 17) rfl) (mc (List.mem_of_getElem? (i := 18) rfl) (mc (List.mem_of_getElem? (i := 19) rfl) (mc (List.mem_of_getElem? (i := 20) rfl) (mc (List.mem_of_getElem? (i := 21) rfl) (mc (List.mem_of_getElem? (i := 22) rfl) (mc (List.mem_of_getElem? (i := 23) rfl) (mc (List.mem_of_getElem? (i := 24) rfl) (mc (List.mem_of_getElem? (i := 25) rfl) (mc (List.mem_of_getElem? (i := 26) rfl) (mc (List.mem_of_getElem? (i := 27) rfl) (mc (List.mem_of_getElem? (i := 28) rfl) (mc (List.mem_of_getElem? (i := 29) rfl) (mc (List.mem_of_getElem? (i := 30) rfl) (mc (List.mem_of_getElem? (i := 31) rfl) mn)))))))))))))))))))))))) (mc (List.mem_of_getElem? (i := 32) rfl) (mc (List.mem_of_getElem? (i := 33) rfl) (mc (List.mem_of_getElem? (i := 34) rfl) (mc (List.mem_of_getElem? (i := 35) rfl) (mc (List.mem_of_getElem? (i := 36) rfl) (mc (List.mem_of_getElem? (i := 37) rfl) (mc (List.mem_of_getElem? (i := 38) rfl) (mc (List.mem_of_getElem? (i := 39) rfl) mn))))))))) (fun w h => (List.mem_cons_of_mem _ (List.mem_append_right _ h))))) (by decide +kernel)
set_option maxRecDepth 100000 in
theorem gX4_free_X4_freeOf : GoodIn wsX4_free (wsV RX4 111 RX4 yX4_freeOf wsX4_freeOf) := goodIn_app (goodIn_sub (mc (List.mem_of_getElem? (i := 5) rfl) (mc (List.mem_of_getElem? (i := 6) rfl) (mc (List.mem_of_getElem? (i := 7) rfl) (mc (List.mem_of_getElem? (i := 3) rfl) mn)))) (by decide +kernel)) ggX4_free_X4_freeOf
theorem dX4_free_0 : decode cX4_free 0 = .ok (.iload_n 1, 1) := by decide +kernel
theorem dX4_free_1 : decode cX4_free 1 = .ok (.ifCond .lt 25, 3) := by decide +kernel
theorem dX4_free_4 : decode cX4_free 4 = .ok (.iload_n 1, 1) := by decide +kernel
theorem dX4_free_5 : decode cX4_free 5 = .ok (.iconst 2, 1) := by decide +kernel
theorem dX4_free_6 : decode cX4_free 6 = .ok (.if_icmp .gt 20, 3) := by decide +kernel
theorem dX4_free_9 : decode cX4_free 9 = .ok (.iload_n 2, 1) := by decide +kernel
theorem dX4_free_10 : decode cX4_free 10 = .ok (.invokestatic 78, 3) := by decide +kernel
theorem dX4_free_13 : decode cX4_free 13 = .ok (.ifCond .eq 13, 3) := by decide +kernel
theorem dX4_free_16 : decode cX4_free 16 = .ok (.aload_n 0, 1) := by decide +kernel
theorem dX4_free_17 : decode cX4_free 17 = .ok (.iload_n 1, 1) := by decide +kernel
theorem dX4_free_18 : decode cX4_free 18 = .ok (.iload_n 2, 1) := by decide +kernel
theorem dX4_free_19 : decode cX4_free 19 = .ok (.iconst (-1), 1) := by decide +kernel
theorem dX4_free_20 : decode cX4_free 20 = .ok (.invokevirtual 111, 3) := by decide +kernel
theorem dX4_free_23 : decode cX4_free 23 = .ok (.goto 4, 3) := by decide +kernel
theorem dX4_free_26 : decode cX4_free 26 = .ok (.iconst (-1), 1) := by decide +kernel
theorem dX4_free_27 : decode cX4_free 27 = .ok (.ireturn, 1) := by decide +kernel
set_option maxRecDepth 100000 in
theorem ggX4_poured_X4_isDay : GoodIn wsX4_poured wsX4_isDay := goodIn_sub (mc (List.mem_of_getElem? (i := 4) rfl) mn) (by decide +kernel)
set_option maxRecDepth 20000 in
theorem gX4_poured_X4_isDay : GoodIn wsX4_poured (va_wsS RX4 78 yX4_isDay wsX4_isDay) := goodIn_app (goodIn_of _ (by decide +kernel)) ggX4_poured_X4_isDay
set_option maxRecDepth 100000 in
theorem ggX4_poured_X4_volumes : GoodIn wsX4_poured wsX4_volumes := goodIn_sub (mc (List.mem_of_getElem? (i := 8) rfl) (mem_two (mc (List.mem_of_getElem? (i := 9) rfl) (mc (List.mem_of_getElem? (i := 10) rfl) (mc (List.mem_of_getElem? (i := 11) rfl) mn))) (fun w h => (List.mem_cons_of_mem _ (List.mem_append_right _ h))))) (by decide +kernel)
set_option maxRecDepth 100000 in
theorem gX4_poured_X4_volumes : GoodIn wsX4_poured (wsV RX4 115 RX4 yX4_volumes wsX4_volumes) := goodIn_app (goodIn_sub (mc (List.mem_of_getElem? (i := 5) rfl) (mc (List.mem_of_getElem? (i := 6) rfl) (mc (List.mem_of_getElem? (i := 7) rfl) (mc (List.mem_of_getElem? (i := 3) rfl) mn)))) (by decide +kernel)) ggX4_poured_X4_volumes
theorem dX4_poured_0 : decode cX4_poured 0 = .ok (.iload_n 1, 1) := by decide +kernel
theorem dX4_poured_1 : decode cX4_poured 1 = .ok (.invokestatic 78, 3) := by decide +kernel
theorem dX4_poured_4 : decode cX4_poured 4 = .ok (.ifCond .eq 12, 3) := by decide +kernel
theorem dX4_poured_7 : decode cX4_poured 7 = .ok (.aload_n 0, 1) := by decide +kernel
theorem dX4_poured_8 : decode cX4_poured 8 = .ok (.iload_n 1, 1) := by decide +kernel
theorem dX4_poured_9 : decode cX4_poured 9 = .ok (.iconst (-1), 1) := by decide +kernel
theorem dX4_poured_10 : decode cX4_poured 10 = .ok (.invokevirtual 115, 3) := by decide +kernel
theorem dX4_poured_13 : decode cX4_poured 13 = .ok (.goto 4, 3) := by decide +kernel
theorem dX4_poured_16 : decode cX4_poured 16 = .ok (.iconst (-1), 1) := by decide +kernel
theorem dX4_poured_17 : decode cX4_poured 17 = .ok (.ireturn, 1) := by decide +kernel
theorem dX4_common_0 : decode cX4_common 0 = .ok (.lload_n 0, 1) := by decide +kernel
theorem dX4_common_1 : decode cX4_common 1 = .ok (.lstore 4, 2) := by decide +kernel
theorem dX4_common_3 : decode cX4_common 3 = .ok (.lload_n 2, 1) := by decide +kernel
theorem dX4_common_4 : decode cX4_common 4 = .ok (.lstore 6, 2) := by decide +kernel
theorem dX4_common_6 : decode cX4_common 6 = .ok (.lload 6, 2) := by decide +kernel
theorem dX4_common_8 : decode cX4_common 8 = .ok (.lconst 0, 1) := by decide +kernel
theorem dX4_common_9 : decode cX4_common 9 = .ok (.lcmp, 1) := by decide +kernel
theorem dX4_common_10 : decode cX4_common 10 = .ok (.ifCond .eq 21, 3) := by decide +kernel
theorem dX4_common_13 : decode cX4_common 13 = .ok (.lload 4, 2) := by decide +kernel
theorem dX4_common_15 : decode cX4_common 15 = .ok (.lload 6, 2) := by decide +kernel
theorem dX4_common_17 : decode cX4_common 17 = .ok (.lrem, 1) := by decide +kernel
theorem dX4_common_18 : decode cX4_common 18 = .ok (.lstore 8, 2) := by decide +kernel
theorem dX4_common_20 : decode cX4_common 20 = .ok (.lload 6, 2) := by decide +kernel
theorem dX4_common_22 : decode cX4_common 22 = .ok (.lstore 4, 2) := by decide +kernel
theorem dX4_common_24 : decode cX4_common 24 = .ok (.lload 8, 2) := by decide +kernel
theorem dX4_common_26 : decode cX4_common 26 = .ok (.lstore 6, 2) := by decide +kernel
theorem dX4_common_28 : decode cX4_common 28 = .ok (.goto (-22), 3) := by decide +kernel
theorem dX4_common_31 : decode cX4_common 31 = .ok (.lload 4, 2) := by decide +kernel
theorem dX4_common_33 : decode cX4_common 33 = .ok (.lreturn, 1) := by decide +kernel
set_option maxRecDepth 100000 in
theorem ggX4_adds_X4_common : GoodIn wsX4_adds wsX4_common := goodIn_sub (mc (List.mem_of_getElem? (i := 6) rfl) mn) (by decide +kernel)
set_option maxRecDepth 20000 in
theorem gX4_adds_X4_common : GoodIn wsX4_adds (va_wsS RX4 142 yX4_common wsX4_common) := goodIn_app (goodIn_of _ (by decide +kernel)) ggX4_adds_X4_common
theorem dX4_adds_0 : decode cX4_adds 0 = .ok (.aload_n 0, 1) := by decide +kernel
theorem dX4_adds_1 : decode cX4_adds 1 = .ok (.getfield 135, 3) := by decide +kernel
theorem dX4_adds_4 : decode cX4_adds 4 = .ok (.lload_n 3, 1) := by decide +kernel
theorem dX4_adds_5 : decode cX4_adds 5 = .ok (.lmul, 1) := by decide +kernel
theorem dX4_adds_6 : decode cX4_adds 6 = .ok (.lload_n 1, 1) := by decide +kernel
theorem dX4_adds_7 : decode cX4_adds 7 = .ok (.aload_n 0, 1) := by decide +kernel
theorem dX4_adds_8 : decode cX4_adds 8 = .ok (.getfield 139, 3) := by decide +kernel
theorem dX4_adds_11 : decode cX4_adds 11 = .ok (.lmul, 1) := by decide +kernel
theorem dX4_adds_12 : decode cX4_adds 12 = .ok (.ladd, 1) := by decide +kernel
theorem dX4_adds_13 : decode cX4_adds 13 = .ok (.lstore 5, 2) := by decide +kernel
theorem dX4_adds_15 : decode cX4_adds 15 = .ok (.aload_n 0, 1) := by decide +kernel
theorem dX4_adds_16 : decode cX4_adds 16 = .ok (.getfield 139, 3) := by decide +kernel
theorem dX4_adds_19 : decode cX4_adds 19 = .ok (.lload_n 3, 1) := by decide +kernel
theorem dX4_adds_20 : decode cX4_adds 20 = .ok (.lmul, 1) := by decide +kernel
theorem dX4_adds_21 : decode cX4_adds 21 = .ok (.lstore 7, 2) := by decide +kernel
theorem dX4_adds_23 : decode cX4_adds 23 = .ok (.lload 7, 2) := by decide +kernel
theorem dX4_adds_25 : decode cX4_adds 25 = .ok (.lload 5, 2) := by decide +kernel
theorem dX4_adds_27 : decode cX4_adds 27 = .ok (.invokestatic 142, 3) := by decide +kernel
theorem dX4_adds_30 : decode cX4_adds 30 = .ok (.lstore 9, 2) := by decide +kernel
theorem dX4_adds_32 : decode cX4_adds 32 = .ok (.aload_n 0, 1) := by decide +kernel
theorem dX4_adds_33 : decode cX4_adds 33 = .ok (.lload 5, 2) := by decide +kernel
theorem dX4_adds_35 : decode cX4_adds 35 = .ok (.lload 9, 2) := by decide +kernel
theorem dX4_adds_37 : decode cX4_adds 37 = .ok (.ldiv, 1) := by decide +kernel
theorem dX4_adds_38 : decode cX4_adds 38 = .ok (.putfield 135, 3) := by decide +kernel
theorem dX4_adds_41 : decode cX4_adds 41 = .ok (.aload_n 0, 1) := by decide +kernel
theorem dX4_adds_42 : decode cX4_adds 42 = .ok (.lload 7, 2) := by decide +kernel
theorem dX4_adds_44 : decode cX4_adds 44 = .ok (.lload 9, 2) := by decide +kernel
theorem dX4_adds_46 : decode cX4_adds 46 = .ok (.ldiv, 1) := by decide +kernel
theorem dX4_adds_47 : decode cX4_adds 47 = .ok (.putfield 139, 3) := by decide +kernel
theorem dX4_adds_50 : decode cX4_adds 50 = .ok (.return_, 1) := by decide +kernel
set_option maxRecDepth 100000 in
theorem ggX4_borne_X4_isPiece : GoodIn wsX4_borne wsX4_isPiece := goodIn_sub (mc (List.mem_of_getElem? (i := 13) rfl) (mem_two (mc (List.mem_of_getElem? (i := 6) rfl) mn) (fun w h => (List.mem_cons_of_mem _ (List.mem_append_right _ h))))) (by decide +kernel)
set_option maxRecDepth 100000 in
theorem gX4_borne_X4_isPiece : GoodIn wsX4_borne (wsV RX4 70 RX4 yX4_isPiece wsX4_isPiece) := goodIn_app (goodIn_sub (mc (List.mem_of_getElem? (i := 9) rfl) (mc (List.mem_of_getElem? (i := 10) rfl) (mc (List.mem_of_getElem? (i := 11) rfl) (mc (List.mem_of_getElem? (i := 12) rfl) mn)))) (by decide +kernel)) ggX4_borne_X4_isPiece
set_option maxRecDepth 100000 in
theorem ggX4_borne_X4_isDay : GoodIn wsX4_borne wsX4_isDay := goodIn_sub (mc (List.mem_of_getElem? (i := 16) rfl) mn) (by decide +kernel)
set_option maxRecDepth 20000 in
theorem gX4_borne_X4_isDay : GoodIn wsX4_borne (va_wsS RX4 78 yX4_isDay wsX4_isDay) := goodIn_app (goodIn_of _ (by decide +kernel)) ggX4_borne_X4_isDay
set_option maxRecDepth 100000 in
theorem ggX4_borne_X4_isPoured : GoodIn wsX4_borne wsX4_isPoured := goodIn_sub (mc (List.mem_of_getElem? (i := 20) rfl) (mem_two (mc (List.mem_of_getElem? (i := 8) rfl) mn) (fun w h => (List.mem_cons_of_mem _ (List.mem_append_right _ h))))) (by decide +kernel)
set_option maxRecDepth 100000 in
theorem gX4_borne_X4_isPoured : GoodIn wsX4_borne (wsV RX4 99 RX4 yX4_isPoured wsX4_isPoured) := goodIn_app (goodIn_sub (mc (List.mem_of_getElem? (i := 17) rfl) (mc (List.mem_of_getElem? (i := 18) rfl) (mc (List.mem_of_getElem? (i := 19) rfl) (mc (List.mem_of_getElem? (i := 12) rfl) mn)))) (by decide +kernel)) ggX4_borne_X4_isPoured
set_option maxRecDepth 100000 in
theorem ggX4_borne_X4_holds : GoodIn wsX4_borne wsX4_holds := goodIn_sub (mc (List.mem_of_getElem? (i := 24) rfl) (mem_two (mc (List.mem_of_getElem? (i := 8) rfl) (mc (List.mem_of_getElem? (i := 17) rfl) (mc (List.mem_of_getElem? (i := 18) rfl) (mc (List.mem_of_getElem? (i := 19) rfl) (mc (List.mem_of_getElem? (i := 12) rfl) (mc (List.mem_of_getElem? (i := 20) rfl) (mc (List.mem_of_getElem? (i := 25) rfl) (mc (List.mem_of_getElem? (i := 26) rfl) (mc (List.mem_of_getElem? (i := 27) rfl) (mc (List.mem_of_getElem? (i := 28) rfl) (mc (List.mem_of_getElem? (i := 29) rfl) (mc (List.mem_of_getElem? (i := 30) rfl) (mc (List.mem_of_getElem? (i := 31) rfl) (mc (List.mem_of_getElem? (i := 32) rfl) (mc (List.mem_of_getElem? (i := 33) rfl) (mc (List.mem_of_getElem? (i := 34) rfl) (mc (List.mem_of_getElem? (i := 35) rfl) (mc (List.mem_of_getElem? (i := 36) rfl) (mc (List.mem_of_getElem? (i := 37) rfl) (mc (List.mem_of_getElem? (i := 38) rfl) (mc (List.mem_of_getElem? (i := 39) rfl) (mc (List.mem_of_getElem? (i := 40) rfl) (mc (List.mem_of_getElem? (i := 41) rfl) (mc (List.mem_of_getElem? (i := 42) rfl) mn)))))))))))))))))))))))) (fun w h => (List.mem_cons_of_mem _ (List.mem_append_right _ h))))) (by decide +kernel)
set_option maxRecDepth 100000 in
theorem gX4_borne_X4_holds : GoodIn wsX4_borne (wsV RX4 105 RX4 yX4_holds wsX4_holds) := goodIn_app (goodIn_sub (mc (List.mem_of_getElem? (i := 21) rfl) (mc (List.mem_of_getElem? (i := 22) rfl) (mc (List.mem_of_getElem? (i := 23) rfl) (mc (List.mem_of_getElem? (i := 12) rfl) mn)))) (by decide +kernel)) ggX4_borne_X4_holds
set_option maxRecDepth 100000 in
theorem ggX4_borne_X4_hardness : GoodIn wsX4_borne wsX4_hardness := goodIn_sub (mc (List.mem_of_getElem? (i := 33) rfl) (mem_two (mc (List.mem_of_getElem? (i := 34) rfl) (mc (List.mem_of_getElem? (i := 35) rfl) (mc (List.mem_of_getElem? (i := 36) rfl) (mc (List.mem_of_getElem? (i := 37) rfl) (mc (List.mem_of_getElem? (i := 38) rfl) (mc (List.mem_of_getElem? (i := 12) rfl) (mc (List.mem_of_getElem? (i := 39) rfl) (mc (List.mem_of_getElem? (i := 40) rfl) (mc (List.mem_of_getElem? (i := 41) rfl) (mc (List.mem_of_getElem? (i := 42) rfl) mn)))))))))) (fun w h => (List.mem_cons_of_mem _ (List.mem_append_right _ h))))) (by decide +kernel)
set_option maxRecDepth 100000 in
theorem gX4_borne_X4_hardness : GoodIn wsX4_borne (wsV RX4 95 RX4 yX4_hardness wsX4_hardness) := goodIn_app (goodIn_sub (mc (List.mem_of_getElem? (i := 30) rfl) (mc (List.mem_of_getElem? (i := 31) rfl) (mc (List.mem_of_getElem? (i := 32) rfl) (mc (List.mem_of_getElem? (i := 12) rfl) mn)))) (by decide +kernel)) ggX4_borne_X4_hardness
set_option maxRecDepth 100000 in
theorem ggX4_borne_X4_adds : GoodIn wsX4_borne wsX4_adds := goodIn_sub (mc (List.mem_of_getElem? (i := 46) rfl) (mem_two (mc (List.mem_of_getElem? (i := 4) rfl) (mc (List.mem_of_getElem? (i := 5) rfl) (mc (List.mem_of_getElem? (i := 47) rfl) (mc (List.mem_of_getElem? (i := 48) rfl) (mc (List.mem_of_getElem? (i := 12) rfl) (mc (List.mem_of_getElem? (i := 49) rfl) mn)))))) (fun w h => (List.mem_cons_of_mem _ (List.mem_append_right _ h))))) (by decide +kernel)
set_option maxRecDepth 100000 in
theorem gX4_borne_X4_adds : GoodIn wsX4_borne (wsV RX4 148 RX4 yX4_adds wsX4_adds) := goodIn_app (goodIn_sub (mc (List.mem_of_getElem? (i := 43) rfl) (mc (List.mem_of_getElem? (i := 44) rfl) (mc (List.mem_of_getElem? (i := 45) rfl) (mc (List.mem_of_getElem? (i := 12) rfl) mn)))) (by decide +kernel)) ggX4_borne_X4_adds
theorem dX4_borne_0 : decode cX4_borne 0 = .ok (.aload_n 0, 1) := by decide +kernel
theorem dX4_borne_1 : decode cX4_borne 1 = .ok (.iload_n 1, 1) := by decide +kernel
theorem dX4_borne_2 : decode cX4_borne 2 = .ok (.invokevirtual 70, 3) := by decide +kernel
theorem dX4_borne_5 : decode cX4_borne 5 = .ok (.ifCond .eq 37, 3) := by decide +kernel
theorem dX4_borne_8 : decode cX4_borne 8 = .ok (.iload_n 2, 1) := by decide +kernel
theorem dX4_borne_9 : decode cX4_borne 9 = .ok (.invokestatic 78, 3) := by decide +kernel
theorem dX4_borne_12 : decode cX4_borne 12 = .ok (.ifCond .eq 30, 3) := by decide +kernel
theorem dX4_borne_15 : decode cX4_borne 15 = .ok (.iload_n 3, 1) := by decide +kernel
theorem dX4_borne_16 : decode cX4_borne 16 = .ok (.ifCond .lt 26, 3) := by decide +kernel
theorem dX4_borne_19 : decode cX4_borne 19 = .ok (.iload_n 3, 1) := by decide +kernel
theorem dX4_borne_20 : decode cX4_borne 20 = .ok (.iconst 1, 1) := by decide +kernel
theorem dX4_borne_21 : decode cX4_borne 21 = .ok (.if_icmp .gt 21, 3) := by decide +kernel
theorem dX4_borne_24 : decode cX4_borne 24 = .ok (.aload_n 0, 1) := by decide +kernel
theorem dX4_borne_25 : decode cX4_borne 25 = .ok (.getfield 21, 3) := by decide +kernel
theorem dX4_borne_28 : decode cX4_borne 28 = .ok (.iload_n 1, 1) := by decide +kernel
theorem dX4_borne_29 : decode cX4_borne 29 = .ok (.iaload, 1) := by decide +kernel
theorem dX4_borne_30 : decode cX4_borne 30 = .ok (.ifCond .ne 12, 3) := by decide +kernel
theorem dX4_borne_33 : decode cX4_borne 33 = .ok (.aload_n 0, 1) := by decide +kernel
theorem dX4_borne_34 : decode cX4_borne 34 = .ok (.iload_n 1, 1) := by decide +kernel
theorem dX4_borne_35 : decode cX4_borne 35 = .ok (.iload_n 2, 1) := by decide +kernel
theorem dX4_borne_36 : decode cX4_borne 36 = .ok (.invokevirtual 99, 3) := by decide +kernel
theorem dX4_borne_39 : decode cX4_borne 39 = .ok (.ifCond .ne 7, 3) := by decide +kernel
theorem dX4_borne_42 : decode cX4_borne 42 = .ok (.ldc2_w 146, 3) := by decide +kernel
theorem dX4_borne_45 : decode cX4_borne 45 = .ok (.lreturn, 1) := by decide +kernel
theorem dX4_borne_46 : decode cX4_borne 46 = .ok (.aload_n 0, 1) := by decide +kernel
theorem dX4_borne_47 : decode cX4_borne 47 = .ok (.aload_n 0, 1) := by decide +kernel
theorem dX4_borne_48 : decode cX4_borne 48 = .ok (.getfield 28, 3) := by decide +kernel
theorem dX4_borne_51 : decode cX4_borne 51 = .ok (.iload_n 1, 1) := by decide +kernel
theorem dX4_borne_52 : decode cX4_borne 52 = .ok (.iaload, 1) := by decide +kernel
theorem dX4_borne_53 : decode cX4_borne 53 = .ok (.i2l, 1) := by decide +kernel
theorem dX4_borne_54 : decode cX4_borne 54 = .ok (.putfield 135, 3) := by decide +kernel
theorem dX4_borne_57 : decode cX4_borne 57 = .ok (.aload_n 0, 1) := by decide +kernel
theorem dX4_borne_58 : decode cX4_borne 58 = .ok (.lconst 1, 1) := by decide +kernel
theorem dX4_borne_59 : decode cX4_borne 59 = .ok (.putfield 139, 3) := by decide +kernel
theorem dX4_borne_62 : decode cX4_borne 62 = .ok (.iconst 0, 1) := by decide +kernel
theorem dX4_borne_63 : decode cX4_borne 63 = .ok (.istore 4, 2) := by decide +kernel
theorem dX4_borne_65 : decode cX4_borne 65 = .ok (.iload 4, 2) := by decide +kernel
theorem dX4_borne_67 : decode cX4_borne 67 = .ok (.aload_n 0, 1) := by decide +kernel
theorem dX4_borne_68 : decode cX4_borne 68 = .ok (.getfield 67, 3) := by decide +kernel
theorem dX4_borne_71 : decode cX4_borne 71 = .ok (.if_icmp .ge 182, 3) := by decide +kernel
theorem dX4_borne_74 : decode cX4_borne 74 = .ok (.aload_n 0, 1) := by decide +kernel
theorem dX4_borne_75 : decode cX4_borne 75 = .ok (.getfield 25, 3) := by decide +kernel
theorem dX4_borne_78 : decode cX4_borne 78 = .ok (.iload 4, 2) := by decide +kernel
theorem dX4_borne_80 : decode cX4_borne 80 = .ok (.iaload, 1) := by decide +kernel
theorem dX4_borne_81 : decode cX4_borne 81 = .ok (.aload_n 0, 1) := by decide +kernel
theorem dX4_borne_82 : decode cX4_borne 82 = .ok (.getfield 25, 3) := by decide +kernel
theorem dX4_borne_85 : decode cX4_borne 85 = .ok (.iload_n 1, 1) := by decide +kernel
theorem dX4_borne_86 : decode cX4_borne 86 = .ok (.iaload, 1) := by decide +kernel
theorem dX4_borne_87 : decode cX4_borne 87 = .ok (.isub, 1) := by decide +kernel
theorem dX4_borne_88 : decode cX4_borne 88 = .ok (.istore 5, 2) := by decide +kernel
theorem dX4_borne_90 : decode cX4_borne 90 = .ok (.aload_n 0, 1) := by decide +kernel
theorem dX4_borne_91 : decode cX4_borne 91 = .ok (.getfield 21, 3) := by decide +kernel
theorem dX4_borne_94 : decode cX4_borne 94 = .ok (.iload 4, 2) := by decide +kernel
theorem dX4_borne_96 : decode cX4_borne 96 = .ok (.iaload, 1) := by decide +kernel
theorem dX4_borne_97 : decode cX4_borne 97 = .ok (.ifCond .ne 150, 3) := by decide +kernel
theorem dX4_borne_100 : decode cX4_borne 100 = .ok (.iload 5, 2) := by decide +kernel
theorem dX4_borne_102 : decode cX4_borne 102 = .ok (.iconst 1, 1) := by decide +kernel
theorem dX4_borne_103 : decode cX4_borne 103 = .ok (.if_icmp .lt 144, 3) := by decide +kernel
theorem dX4_borne_106 : decode cX4_borne 106 = .ok (.iload 5, 2) := by decide +kernel
theorem dX4_borne_108 : decode cX4_borne 108 = .ok (.iconst 2, 1) := by decide +kernel
theorem dX4_borne_109 : decode cX4_borne 109 = .ok (.if_icmp .gt 138, 3) := by decide +kernel
theorem dX4_borne_112 : decode cX4_borne 112 = .ok (.aload_n 0, 1) := by decide +kernel
theorem dX4_borne_113 : decode cX4_borne 113 = .ok (.iload 4, 2) := by decide +kernel
theorem dX4_borne_115 : decode cX4_borne 115 = .ok (.iload_n 2, 1) := by decide +kernel
theorem dX4_borne_116 : decode cX4_borne 116 = .ok (.invokevirtual 105, 3) := by decide +kernel
theorem dX4_borne_119 : decode cX4_borne 119 = .ok (.ifCond .ne 6, 3) := by decide +kernel
theorem dX4_borne_122 : decode cX4_borne 122 = .ok (.goto 125, 3) := by decide +kernel
theorem dX4_borne_125 : decode cX4_borne 125 = .ok (.lconst 0, 1) := by decide +kernel
theorem dX4_borne_126 : decode cX4_borne 126 = .ok (.lstore 6, 2) := by decide +kernel
theorem dX4_borne_128 : decode cX4_borne 128 = .ok (.iconst 0, 1) := by decide +kernel
theorem dX4_borne_129 : decode cX4_borne 129 = .ok (.istore 8, 2) := by decide +kernel
theorem dX4_borne_131 : decode cX4_borne 131 = .ok (.iload 8, 2) := by decide +kernel
theorem dX4_borne_133 : decode cX4_borne 133 = .ok (.aload_n 0, 1) := by decide +kernel
theorem dX4_borne_134 : decode cX4_borne 134 = .ok (.getfield 67, 3) := by decide +kernel
theorem dX4_borne_137 : decode cX4_borne 137 = .ok (.if_icmp .ge 76, 3) := by decide +kernel
theorem dX4_borne_140 : decode cX4_borne 140 = .ok (.aload_n 0, 1) := by decide +kernel
theorem dX4_borne_141 : decode cX4_borne 141 = .ok (.getfield 25, 3) := by decide +kernel
theorem dX4_borne_144 : decode cX4_borne 144 = .ok (.iload 4, 2) := by decide +kernel
theorem dX4_borne_146 : decode cX4_borne 146 = .ok (.iaload, 1) := by decide +kernel
theorem dX4_borne_147 : decode cX4_borne 147 = .ok (.aload_n 0, 1) := by decide +kernel
theorem dX4_borne_148 : decode cX4_borne 148 = .ok (.getfield 25, 3) := by decide +kernel
theorem dX4_borne_151 : decode cX4_borne 151 = .ok (.iload 8, 2) := by decide +kernel
theorem dX4_borne_153 : decode cX4_borne 153 = .ok (.iaload, 1) := by decide +kernel
theorem dX4_borne_154 : decode cX4_borne 154 = .ok (.isub, 1) := by decide +kernel
theorem dX4_borne_155 : decode cX4_borne 155 = .ok (.istore 9, 2) := by decide +kernel
theorem dX4_borne_157 : decode cX4_borne 157 = .ok (.aload_n 0, 1) := by decide +kernel
theorem dX4_borne_158 : decode cX4_borne 158 = .ok (.getfield 21, 3) := by decide +kernel
theorem dX4_borne_161 : decode cX4_borne 161 = .ok (.iload 8, 2) := by decide +kernel
theorem dX4_borne_163 : decode cX4_borne 163 = .ok (.iaload, 1) := by decide +kernel
theorem dX4_borne_164 : decode cX4_borne 164 = .ok (.ifCond .ne 43, 3) := by decide +kernel
theorem dX4_borne_167 : decode cX4_borne 167 = .ok (.iload 9, 2) := by decide +kernel
theorem dX4_borne_169 : decode cX4_borne 169 = .ok (.iconst 1, 1) := by decide +kernel
theorem dX4_borne_170 : decode cX4_borne 170 = .ok (.if_icmp .eq 9, 3) := by decide +kernel
theorem dX4_borne_173 : decode cX4_borne 173 = .ok (.iload 9, 2) := by decide +kernel
theorem dX4_borne_175 : decode cX4_borne 175 = .ok (.iconst 2, 1) := by decide +kernel
theorem dX4_borne_176 : decode cX4_borne 176 = .ok (.if_icmp .ne 31, 3) := by decide +kernel
theorem dX4_borne_179 : decode cX4_borne 179 = .ok (.aload_n 0, 1) := by decide +kernel
theorem dX4_borne_180 : decode cX4_borne 180 = .ok (.iload 8, 2) := by decide +kernel
theorem dX4_borne_182 : decode cX4_borne 182 = .ok (.iload_n 2, 1) := by decide +kernel
theorem dX4_borne_183 : decode cX4_borne 183 = .ok (.invokevirtual 99, 3) := by decide +kernel
theorem dX4_borne_186 : decode cX4_borne 186 = .ok (.ifCond .eq 21, 3) := by decide +kernel
theorem dX4_borne_189 : decode cX4_borne 189 = .ok (.lload 6, 2) := by decide +kernel
theorem dX4_borne_191 : decode cX4_borne 191 = .ok (.aload_n 0, 1) := by decide +kernel
theorem dX4_borne_192 : decode cX4_borne 192 = .ok (.aload_n 0, 1) := by decide +kernel
theorem dX4_borne_193 : decode cX4_borne 193 = .ok (.getfield 37, 3) := by decide +kernel
theorem dX4_borne_196 : decode cX4_borne 196 = .ok (.iload 8, 2) := by decide +kernel
theorem dX4_borne_198 : decode cX4_borne 198 = .ok (.iaload, 1) := by decide +kernel
theorem dX4_borne_199 : decode cX4_borne 199 = .ok (.iload_n 2, 1) := by decide +kernel
theorem dX4_borne_200 : decode cX4_borne 200 = .ok (.invokevirtual 95, 3) := by decide +kernel
theorem dX4_borne_203 : decode cX4_borne 203 = .ok (.i2l, 1) := by decide +kernel
theorem dX4_borne_204 : decode cX4_borne 204 = .ok (.ladd, 1) := by decide +kernel
theorem dX4_borne_205 : decode cX4_borne 205 = .ok (.lstore 6, 2) := by decide +kernel
theorem dX4_borne_207 : decode cX4_borne 207 = .ok (.iinc 8 1, 3) := by decide +kernel
theorem dX4_borne_210 : decode cX4_borne 210 = .ok (.goto (-79), 3) := by decide +kernel
theorem dX4_borne_213 : decode cX4_borne 213 = .ok (.lload 6, 2) := by decide +kernel
theorem dX4_borne_215 : decode cX4_borne 215 = .ok (.lconst 0, 1) := by decide +kernel
theorem dX4_borne_216 : decode cX4_borne 216 = .ok (.lcmp, 1) := by decide +kernel
theorem dX4_borne_217 : decode cX4_borne 217 = .ok (.ifCond .le 30, 3) := by decide +kernel
theorem dX4_borne_220 : decode cX4_borne 220 = .ok (.aload_n 0, 1) := by decide +kernel
theorem dX4_borne_221 : decode cX4_borne 221 = .ok (.aload_n 0, 1) := by decide +kernel
theorem dX4_borne_222 : decode cX4_borne 222 = .ok (.getfield 28, 3) := by decide +kernel
theorem dX4_borne_225 : decode cX4_borne 225 = .ok (.iload 4, 2) := by decide +kernel
theorem dX4_borne_227 : decode cX4_borne 227 = .ok (.iaload, 1) := by decide +kernel
theorem dX4_borne_228 : decode cX4_borne 228 = .ok (.i2l, 1) := by decide +kernel
theorem dX4_borne_229 : decode cX4_borne 229 = .ok (.aload_n 0, 1) := by decide +kernel
theorem dX4_borne_230 : decode cX4_borne 230 = .ok (.aload_n 0, 1) := by decide +kernel
theorem dX4_borne_231 : decode cX4_borne 231 = .ok (.getfield 37, 3) := by decide +kernel
theorem dX4_borne_234 : decode cX4_borne 234 = .ok (.iload_n 1, 1) := by decide +kernel
theorem dX4_borne_235 : decode cX4_borne 235 = .ok (.iaload, 1) := by decide +kernel
theorem dX4_borne_236 : decode cX4_borne 236 = .ok (.iload_n 2, 1) := by decide +kernel
theorem dX4_borne_237 : decode cX4_borne 237 = .ok (.invokevirtual 95, 3) := by decide +kernel
theorem dX4_borne_240 : decode cX4_borne 240 = .ok (.i2l, 1) := by decide +kernel
theorem dX4_borne_241 : decode cX4_borne 241 = .ok (.lmul, 1) := by decide +kernel
theorem dX4_borne_242 : decode cX4_borne 242 = .ok (.lload 6, 2) := by decide +kernel
theorem dX4_borne_244 : decode cX4_borne 244 = .ok (.invokevirtual 148, 3) := by decide +kernel
theorem dX4_borne_247 : decode cX4_borne 247 = .ok (.iinc 4 1, 3) := by decide +kernel
theorem dX4_borne_250 : decode cX4_borne 250 = .ok (.goto (-185), 3) := by decide +kernel
theorem dX4_borne_253 : decode cX4_borne 253 = .ok (.iload_n 3, 1) := by decide +kernel
theorem dX4_borne_254 : decode cX4_borne 254 = .ok (.ifCond .ne 10, 3) := by decide +kernel
theorem dX4_borne_257 : decode cX4_borne 257 = .ok (.aload_n 0, 1) := by decide +kernel
theorem dX4_borne_258 : decode cX4_borne 258 = .ok (.getfield 135, 3) := by decide +kernel
theorem dX4_borne_261 : decode cX4_borne 261 = .ok (.goto 7, 3) := by decide +kernel
theorem dX4_borne_264 : decode cX4_borne 264 = .ok (.aload_n 0, 1) := by decide +kernel
theorem dX4_borne_265 : decode cX4_borne 265 = .ok (.getfield 139, 3) := by decide +kernel
theorem dX4_borne_268 : decode cX4_borne 268 = .ok (.lreturn, 1) := by decide +kernel
theorem dX4_count_0 : decode cX4_count 0 = .ok (.iload_n 1, 1) := by decide +kernel
theorem dX4_count_1 : decode cX4_count 1 = .ok (.tableswitch 106 0 6 #[43, 48, 81, 86, 91, 96, 101], 43) := by decide +kernel
theorem dX4_count_44 : decode cX4_count 44 = .ok (.aload_n 0, 1) := by decide +kernel
theorem dX4_count_45 : decode cX4_count 45 = .ok (.getfield 67, 3) := by decide +kernel
theorem dX4_count_48 : decode cX4_count 48 = .ok (.ireturn, 1) := by decide +kernel
theorem dX4_count_49 : decode cX4_count 49 = .ok (.iconst 0, 1) := by decide +kernel
theorem dX4_count_50 : decode cX4_count 50 = .ok (.istore_n 2, 1) := by decide +kernel
theorem dX4_count_51 : decode cX4_count 51 = .ok (.iconst 0, 1) := by decide +kernel
theorem dX4_count_52 : decode cX4_count 52 = .ok (.istore_n 3, 1) := by decide +kernel
theorem dX4_count_53 : decode cX4_count 53 = .ok (.iload_n 3, 1) := by decide +kernel
theorem dX4_count_54 : decode cX4_count 54 = .ok (.aload_n 0, 1) := by decide +kernel
theorem dX4_count_55 : decode cX4_count 55 = .ok (.getfield 67, 3) := by decide +kernel
theorem dX4_count_58 : decode cX4_count 58 = .ok (.if_icmp .ge 22, 3) := by decide +kernel
theorem dX4_count_61 : decode cX4_count 61 = .ok (.aload_n 0, 1) := by decide +kernel
theorem dX4_count_62 : decode cX4_count 62 = .ok (.getfield 37, 3) := by decide +kernel
theorem dX4_count_65 : decode cX4_count 65 = .ok (.iload_n 3, 1) := by decide +kernel
theorem dX4_count_66 : decode cX4_count 66 = .ok (.iaload, 1) := by decide +kernel
theorem dX4_count_67 : decode cX4_count 67 = .ok (.iconst (-1), 1) := by decide +kernel
theorem dX4_count_68 : decode cX4_count 68 = .ok (.if_icmp .eq 6, 3) := by decide +kernel
theorem dX4_count_71 : decode cX4_count 71 = .ok (.iinc 2 1, 3) := by decide +kernel
theorem dX4_count_74 : decode cX4_count 74 = .ok (.iinc 3 1, 3) := by decide +kernel
theorem dX4_count_77 : decode cX4_count 77 = .ok (.goto (-24), 3) := by decide +kernel
theorem dX4_count_80 : decode cX4_count 80 = .ok (.iload_n 2, 1) := by decide +kernel
theorem dX4_count_81 : decode cX4_count 81 = .ok (.ireturn, 1) := by decide +kernel
theorem dX4_count_82 : decode cX4_count 82 = .ok (.aload_n 0, 1) := by decide +kernel
theorem dX4_count_83 : decode cX4_count 83 = .ok (.getfield 118, 3) := by decide +kernel
theorem dX4_count_86 : decode cX4_count 86 = .ok (.ireturn, 1) := by decide +kernel
theorem dX4_count_87 : decode cX4_count 87 = .ok (.aload_n 0, 1) := by decide +kernel
theorem dX4_count_88 : decode cX4_count 88 = .ok (.getfield 88, 3) := by decide +kernel
theorem dX4_count_91 : decode cX4_count 91 = .ok (.ireturn, 1) := by decide +kernel
theorem dX4_count_92 : decode cX4_count 92 = .ok (.aload_n 0, 1) := by decide +kernel
theorem dX4_count_93 : decode cX4_count 93 = .ok (.getfield 9, 3) := by decide +kernel
theorem dX4_count_96 : decode cX4_count 96 = .ok (.ireturn, 1) := by decide +kernel
theorem dX4_count_97 : decode cX4_count 97 = .ok (.aload_n 0, 1) := by decide +kernel
theorem dX4_count_98 : decode cX4_count 98 = .ok (.getfield 85, 3) := by decide +kernel
theorem dX4_count_101 : decode cX4_count 101 = .ok (.ireturn, 1) := by decide +kernel
theorem dX4_count_102 : decode cX4_count 102 = .ok (.aload_n 0, 1) := by decide +kernel
theorem dX4_count_103 : decode cX4_count 103 = .ok (.getfield 128, 3) := by decide +kernel
theorem dX4_count_106 : decode cX4_count 106 = .ok (.ireturn, 1) := by decide +kernel
theorem dX4_count_107 : decode cX4_count 107 = .ok (.iconst (-1), 1) := by decide +kernel
theorem dX4_count_108 : decode cX4_count 108 = .ok (.ireturn, 1) := by decide +kernel
theorem dJ9_max_7cf53_0 : decode cJ9_max_7cf53 0 = .ok (.iload_n 0, 1) := by decide +kernel
theorem dJ9_max_7cf53_1 : decode cJ9_max_7cf53 1 = .ok (.iload_n 1, 1) := by decide +kernel
theorem dJ9_max_7cf53_2 : decode cJ9_max_7cf53 2 = .ok (.if_icmp .lt 7, 3) := by decide +kernel
theorem dJ9_max_7cf53_5 : decode cJ9_max_7cf53 5 = .ok (.iload_n 0, 1) := by decide +kernel
theorem dJ9_max_7cf53_6 : decode cJ9_max_7cf53 6 = .ok (.goto 4, 3) := by decide +kernel
theorem dJ9_max_7cf53_9 : decode cJ9_max_7cf53 9 = .ok (.iload_n 1, 1) := by decide +kernel
theorem dJ9_max_7cf53_10 : decode cJ9_max_7cf53 10 = .ok (.ireturn, 1) := by decide +kernel
