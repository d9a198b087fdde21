theorem dX10_init_0 : decode cX10_init 0 = .ok (.aload_n 0, 1) := by decide +kernel
theorem dX10_init_1 : decode cX10_init 1 = .ok (.invokespecial 1, 3) := by decide +kernel
theorem dX10_init_4 : decode cX10_init 4 = .ok (.aload_n 0, 1) := by decide +kernel
theorem dX10_init_5 : decode cX10_init 5 = .ok (.iconst 4, 1) := by decide +kernel
theorem dX10_init_6 : decode cX10_init 6 = .ok (.newarray .int, 2) := by decide +kernel
theorem dX10_init_8 : decode cX10_init 8 = .ok (.putfield 7, 3) := by decide +kernel
theorem dX10_init_11 : decode cX10_init 11 = .ok (.aload_n 0, 1) := by decide +kernel
theorem dX10_init_12 : decode cX10_init 12 = .ok (.iconst 4, 1) := by decide +kernel
theorem dX10_init_13 : decode cX10_init 13 = .ok (.newarray .int, 2) := by decide +kernel
theorem dX10_init_15 : decode cX10_init 15 = .ok (.putfield 13, 3) := by decide +kernel
theorem dX10_init_18 : decode cX10_init 18 = .ok (.aload_n 0, 1) := by decide +kernel
theorem dX10_init_19 : decode cX10_init 19 = .ok (.bipush 64, 2) := by decide +kernel
theorem dX10_init_21 : decode cX10_init 21 = .ok (.newarray .int, 2) := by decide +kernel
theorem dX10_init_23 : decode cX10_init 23 = .ok (.putfield 16, 3) := by decide +kernel
theorem dX10_init_26 : decode cX10_init 26 = .ok (.aload_n 0, 1) := by decide +kernel
theorem dX10_init_27 : decode cX10_init 27 = .ok (.bipush 64, 2) := by decide +kernel
theorem dX10_init_29 : decode cX10_init 29 = .ok (.newarray .int, 2) := by decide +kernel
theorem dX10_init_31 : decode cX10_init 31 = .ok (.putfield 19, 3) := by decide +kernel
theorem dX10_init_34 : decode cX10_init 34 = .ok (.aload_n 0, 1) := by decide +kernel
theorem dX10_init_35 : decode cX10_init 35 = .ok (.bipush 64, 2) := by decide +kernel
theorem dX10_init_37 : decode cX10_init 37 = .ok (.newarray .int, 2) := by decide +kernel
theorem dX10_init_39 : decode cX10_init 39 = .ok (.putfield 22, 3) := by decide +kernel
theorem dX10_init_42 : decode cX10_init 42 = .ok (.aload_n 0, 1) := by decide +kernel
theorem dX10_init_43 : decode cX10_init 43 = .ok (.bipush 64, 2) := by decide +kernel
theorem dX10_init_45 : decode cX10_init 45 = .ok (.newarray .int, 2) := by decide +kernel
theorem dX10_init_47 : decode cX10_init 47 = .ok (.putfield 25, 3) := by decide +kernel
theorem dX10_init_50 : decode cX10_init 50 = .ok (.aload_n 0, 1) := by decide +kernel
theorem dX10_init_51 : decode cX10_init 51 = .ok (.bipush 64, 2) := by decide +kernel
theorem dX10_init_53 : decode cX10_init 53 = .ok (.newarray .int, 2) := by decide +kernel
theorem dX10_init_55 : decode cX10_init 55 = .ok (.putfield 28, 3) := by decide +kernel
theorem dX10_init_58 : decode cX10_init 58 = .ok (.aload_n 0, 1) := by decide +kernel
theorem dX10_init_59 : decode cX10_init 59 = .ok (.bipush 32, 2) := by decide +kernel
theorem dX10_init_61 : decode cX10_init 61 = .ok (.newarray .int, 2) := by decide +kernel
theorem dX10_init_63 : decode cX10_init 63 = .ok (.putfield 31, 3) := by decide +kernel
theorem dX10_init_66 : decode cX10_init 66 = .ok (.aload_n 0, 1) := by decide +kernel
theorem dX10_init_67 : decode cX10_init 67 = .ok (.bipush 8, 2) := by decide +kernel
theorem dX10_init_69 : decode cX10_init 69 = .ok (.newarray .int, 2) := by decide +kernel
theorem dX10_init_71 : decode cX10_init 71 = .ok (.putfield 34, 3) := by decide +kernel
theorem dX10_init_74 : decode cX10_init 74 = .ok (.aload_n 0, 1) := by decide +kernel
theorem dX10_init_75 : decode cX10_init 75 = .ok (.bipush 6, 2) := by decide +kernel
theorem dX10_init_77 : decode cX10_init 77 = .ok (.newarray .int, 2) := by decide +kernel
theorem dX10_init_79 : decode cX10_init 79 = .ok (.putfield 37, 3) := by decide +kernel
theorem dX10_init_82 : decode cX10_init 82 = .ok (.aload_n 0, 1) := by decide +kernel
theorem dX10_init_83 : decode cX10_init 83 = .ok (.bipush 36, 2) := by decide +kernel
theorem dX10_init_85 : decode cX10_init 85 = .ok (.newarray .int, 2) := by decide +kernel
theorem dX10_init_87 : decode cX10_init 87 = .ok (.putfield 40, 3) := by decide +kernel
theorem dX10_init_90 : decode cX10_init 90 = .ok (.aload_n 0, 1) := by decide +kernel
theorem dX10_init_91 : decode cX10_init 91 = .ok (.iconst 1, 1) := by decide +kernel
theorem dX10_init_92 : decode cX10_init 92 = .ok (.putfield 43, 3) := by decide +kernel
theorem dX10_init_95 : decode cX10_init 95 = .ok (.aload_n 0, 1) := by decide +kernel
theorem dX10_init_96 : decode cX10_init 96 = .ok (.iconst 1, 1) := by decide +kernel
theorem dX10_init_97 : decode cX10_init 97 = .ok (.putfield 47, 3) := by decide +kernel
theorem dX10_init_100 : decode cX10_init 100 = .ok (.aload_n 0, 1) := by decide +kernel
theorem dX10_init_101 : decode cX10_init 101 = .ok (.bipush 16, 2) := by decide +kernel
theorem dX10_init_103 : decode cX10_init 103 = .ok (.newarray .int, 2) := by decide +kernel
theorem dX10_init_105 : decode cX10_init 105 = .ok (.putfield 50, 3) := by decide +kernel
theorem dX10_init_108 : decode cX10_init 108 = .ok (.aload_n 0, 1) := by decide +kernel
theorem dX10_init_109 : decode cX10_init 109 = .ok (.bipush 16, 2) := by decide +kernel
theorem dX10_init_111 : decode cX10_init 111 = .ok (.newarray .int, 2) := by decide +kernel
theorem dX10_init_113 : decode cX10_init 113 = .ok (.putfield 53, 3) := by decide +kernel
theorem dX10_init_116 : decode cX10_init 116 = .ok (.aload_n 0, 1) := by decide +kernel
theorem dX10_init_117 : decode cX10_init 117 = .ok (.bipush 8, 2) := by decide +kernel
theorem dX10_init_119 : decode cX10_init 119 = .ok (.newarray .int, 2) := by decide +kernel
theorem dX10_init_121 : decode cX10_init 121 = .ok (.putfield 56, 3) := by decide +kernel
theorem dX10_init_124 : decode cX10_init 124 = .ok (.aload_n 0, 1) := by decide +kernel
theorem dX10_init_125 : decode cX10_init 125 = .ok (.bipush 8, 2) := by decide +kernel
theorem dX10_init_127 : decode cX10_init 127 = .ok (.newarray .int, 2) := by decide +kernel
theorem dX10_init_129 : decode cX10_init 129 = .ok (.putfield 59, 3) := by decide +kernel
theorem dX10_init_132 : decode cX10_init 132 = .ok (.aload_n 0, 1) := by decide +kernel
theorem dX10_init_133 : decode cX10_init 133 = .ok (.bipush 8, 2) := by decide +kernel
theorem dX10_init_135 : decode cX10_init 135 = .ok (.newarray .int, 2) := by decide +kernel
theorem dX10_init_137 : decode cX10_init 137 = .ok (.putfield 62, 3) := by decide +kernel
theorem dX10_init_140 : decode cX10_init 140 = .ok (.aload_n 0, 1) := by decide +kernel
theorem dX10_init_141 : decode cX10_init 141 = .ok (.bipush 16, 2) := by decide +kernel
theorem dX10_init_143 : decode cX10_init 143 = .ok (.newarray .int, 2) := by decide +kernel
theorem dX10_init_145 : decode cX10_init 145 = .ok (.putfield 65, 3) := by decide +kernel
theorem dX10_init_148 : decode cX10_init 148 = .ok (.aload_n 0, 1) := by decide +kernel
theorem dX10_init_149 : decode cX10_init 149 = .ok (.bipush 16, 2) := by decide +kernel
theorem dX10_init_151 : decode cX10_init 151 = .ok (.newarray .int, 2) := by decide +kernel
theorem dX10_init_153 : decode cX10_init 153 = .ok (.putfield 68, 3) := by decide +kernel
theorem dX10_init_156 : decode cX10_init 156 = .ok (.aload_n 0, 1) := by decide +kernel
theorem dX10_init_157 : decode cX10_init 157 = .ok (.bipush 16, 2) := by decide +kernel
theorem dX10_init_159 : decode cX10_init 159 = .ok (.newarray .int, 2) := by decide +kernel
theorem dX10_init_161 : decode cX10_init 161 = .ok (.putfield 71, 3) := by decide +kernel
theorem dX10_init_164 : decode cX10_init 164 = .ok (.aload_n 0, 1) := by decide +kernel
theorem dX10_init_165 : decode cX10_init 165 = .ok (.bipush 8, 2) := by decide +kernel
theorem dX10_init_167 : decode cX10_init 167 = .ok (.newarray .int, 2) := by decide +kernel
theorem dX10_init_169 : decode cX10_init 169 = .ok (.putfield 74, 3) := by decide +kernel
theorem dX10_init_172 : decode cX10_init 172 = .ok (.aload_n 0, 1) := by decide +kernel
theorem dX10_init_173 : decode cX10_init 173 = .ok (.bipush 8, 2) := by decide +kernel
theorem dX10_init_175 : decode cX10_init 175 = .ok (.newarray .int, 2) := by decide +kernel
theorem dX10_init_177 : decode cX10_init 177 = .ok (.putfield 77, 3) := by decide +kernel
theorem dX10_init_180 : decode cX10_init 180 = .ok (.aload_n 0, 1) := by decide +kernel
theorem dX10_init_181 : decode cX10_init 181 = .ok (.bipush 8, 2) := by decide +kernel
theorem dX10_init_183 : decode cX10_init 183 = .ok (.newarray .int, 2) := by decide +kernel
theorem dX10_init_185 : decode cX10_init 185 = .ok (.putfield 80, 3) := by decide +kernel
theorem dX10_init_188 : decode cX10_init 188 = .ok (.aload_n 0, 1) := by decide +kernel
theorem dX10_init_189 : decode cX10_init 189 = .ok (.sipush 256, 3) := by decide +kernel
theorem dX10_init_192 : decode cX10_init 192 = .ok (.newarray .int, 2) := by decide +kernel
theorem dX10_init_194 : decode cX10_init 194 = .ok (.putfield 83, 3) := by decide +kernel
theorem dX10_init_197 : decode cX10_init 197 = .ok (.aload_n 0, 1) := by decide +kernel
theorem dX10_init_198 : decode cX10_init 198 = .ok (.sipush 256, 3) := by decide +kernel
theorem dX10_init_201 : decode cX10_init 201 = .ok (.newarray .int, 2) := by decide +kernel
theorem dX10_init_203 : decode cX10_init 203 = .ok (.putfield 86, 3) := by decide +kernel
theorem dX10_init_206 : decode cX10_init 206 = .ok (.aload_n 0, 1) := by decide +kernel
theorem dX10_init_207 : decode cX10_init 207 = .ok (.bipush 8, 2) := by decide +kernel
theorem dX10_init_209 : decode cX10_init 209 = .ok (.newarray .int, 2) := by decide +kernel
theorem dX10_init_211 : decode cX10_init 211 = .ok (.putfield 89, 3) := by decide +kernel
theorem dX10_init_214 : decode cX10_init 214 = .ok (.aload_n 0, 1) := by decide +kernel
theorem dX10_init_215 : decode cX10_init 215 = .ok (.iconst 0, 1) := by decide +kernel
theorem dX10_init_216 : decode cX10_init 216 = .ok (.putfield 92, 3) := by decide +kernel
theorem dX10_init_219 : decode cX10_init 219 = .ok (.return_, 1) := by decide +kernel
theorem dX10_thrown_0 : decode cX10_thrown 0 = .ok (.aload_n 0, 1) := by decide +kernel
theorem dX10_thrown_1 : decode cX10_thrown 1 = .ok (.getfield 92, 3) := by decide +kernel
theorem dX10_thrown_4 : decode cX10_thrown 4 = .ok (.ireturn, 1) := by decide +kernel
theorem dX10_in_0 : decode cX10_in 0 = .ok (.iload_n 0, 1) := by decide +kernel
theorem dX10_in_1 : decode cX10_in 1 = .ok (.iload_n 1, 1) := by decide +kernel
theorem dX10_in_2 : decode cX10_in 2 = .ok (.if_icmp .lt 12, 3) := by decide +kernel
theorem dX10_in_5 : decode cX10_in 5 = .ok (.iload_n 0, 1) := by decide +kernel
theorem dX10_in_6 : decode cX10_in 6 = .ok (.iload_n 2, 1) := by decide +kernel
theorem dX10_in_7 : decode cX10_in 7 = .ok (.if_icmp .gt 7, 3) := by decide +kernel
theorem dX10_in_10 : decode cX10_in 10 = .ok (.iconst 1, 1) := by decide +kernel
theorem dX10_in_11 : decode cX10_in 11 = .ok (.goto 4, 3) := by decide +kernel
theorem dX10_in_14 : decode cX10_in 14 = .ok (.iconst 0, 1) := by decide +kernel
theorem dX10_in_15 : decode cX10_in 15 = .ok (.ireturn, 1) := by decide +kernel
theorem dX10_min_0 : decode cX10_min 0 = .ok (.iload_n 0, 1) := by decide +kernel
theorem dX10_min_1 : decode cX10_min 1 = .ok (.iload_n 1, 1) := by decide +kernel
theorem dX10_min_2 : decode cX10_min 2 = .ok (.if_icmp .ge 7, 3) := by decide +kernel
theorem dX10_min_5 : decode cX10_min 5 = .ok (.iload_n 0, 1) := by decide +kernel
theorem dX10_min_6 : decode cX10_min 6 = .ok (.goto 4, 3) := by decide +kernel
theorem dX10_min_9 : decode cX10_min 9 = .ok (.iload_n 1, 1) := by decide +kernel
theorem dX10_min_10 : decode cX10_min 10 = .ok (.ireturn, 1) := by decide +kernel
theorem dX10_max_0 : decode cX10_max 0 = .ok (.iload_n 0, 1) := by decide +kernel
theorem dX10_max_1 : decode cX10_max 1 = .ok (.iload_n 1, 1) := by decide +kernel
theorem dX10_max_2 : decode cX10_max 2 = .ok (.if_icmp .le 7, 3) := by decide +kernel
theorem dX10_max_5 : decode cX10_max 5 = .ok (.iload_n 0, 1) := by decide +kernel
theorem dX10_max_6 : decode cX10_max 6 = .ok (.goto 4, 3) := by decide +kernel
theorem dX10_max_9 : decode cX10_max 9 = .ok (.iload_n 1, 1) := by decide +kernel
theorem dX10_max_10 : decode cX10_max 10 = .ok (.ireturn, 1) := by decide +kernel
theorem dX10_has_0 : decode cX10_has 0 = .ok (.iload_n 0, 1) := by decide +kernel
theorem dX10_has_1 : decode cX10_has 1 = .ok (.iload_n 1, 1) := by decide +kernel
theorem dX10_has_2 : decode cX10_has 2 = .ok (.ishr, 1) := by decide +kernel
theorem dX10_has_3 : decode cX10_has 3 = .ok (.iconst 1, 1) := by decide +kernel
theorem dX10_has_4 : decode cX10_has 4 = .ok (.iand, 1) := by decide +kernel
theorem dX10_has_5 : decode cX10_has 5 = .ok (.iconst 1, 1) := by decide +kernel
theorem dX10_has_6 : decode cX10_has 6 = .ok (.if_icmp .ne 7, 3) := by decide +kernel
theorem dX10_has_9 : decode cX10_has 9 = .ok (.iconst 1, 1) := by decide +kernel
theorem dX10_has_10 : decode cX10_has 10 = .ok (.goto 4, 3) := by decide +kernel
theorem dX10_has_13 : decode cX10_has 13 = .ok (.iconst 0, 1) := by decide +kernel
theorem dX10_has_14 : decode cX10_has 14 = .ok (.ireturn, 1) := by decide +kernel
theorem dX10_bits_0 : decode cX10_bits 0 = .ok (.iconst 0, 1) := by decide +kernel
theorem dX10_bits_1 : decode cX10_bits 1 = .ok (.istore_n 1, 1) := by decide +kernel
theorem dX10_bits_2 : decode cX10_bits 2 = .ok (.iconst 0, 1) := by decide +kernel
theorem dX10_bits_3 : decode cX10_bits 3 = .ok (.istore_n 2, 1) := by decide +kernel
theorem dX10_bits_4 : decode cX10_bits 4 = .ok (.iload_n 2, 1) := by decide +kernel
theorem dX10_bits_5 : decode cX10_bits 5 = .ok (.bipush 8, 2) := by decide +kernel
theorem dX10_bits_7 : decode cX10_bits 7 = .ok (.if_icmp .ge 25, 3) := by decide +kernel
theorem dX10_bits_10 : decode cX10_bits 10 = .ok (.iload_n 1, 1) := by decide +kernel
theorem dX10_bits_11 : decode cX10_bits 11 = .ok (.iload_n 0, 1) := by decide +kernel
theorem dX10_bits_12 : decode cX10_bits 12 = .ok (.iload_n 2, 1) := by decide +kernel
theorem dX10_bits_13 : decode cX10_bits 13 = .ok (.invokestatic 95, 3) := by decide +kernel
theorem dX10_bits_16 : decode cX10_bits 16 = .ok (.ifCond .eq 7, 3) := by decide +kernel
theorem dX10_bits_19 : decode cX10_bits 19 = .ok (.iconst 1, 1) := by decide +kernel
theorem dX10_bits_20 : decode cX10_bits 20 = .ok (.goto 4, 3) := by decide +kernel
theorem dX10_bits_23 : decode cX10_bits 23 = .ok (.iconst 0, 1) := by decide +kernel
theorem dX10_bits_24 : decode cX10_bits 24 = .ok (.iadd, 1) := by decide +kernel
theorem dX10_bits_25 : decode cX10_bits 25 = .ok (.istore_n 1, 1) := by decide +kernel
theorem dX10_bits_26 : decode cX10_bits 26 = .ok (.iinc 2 1, 3) := by decide +kernel
theorem dX10_bits_29 : decode cX10_bits 29 = .ok (.goto (-25), 3) := by decide +kernel
theorem dX10_bits_32 : decode cX10_bits 32 = .ok (.iload_n 1, 1) := by decide +kernel
theorem dX10_bits_33 : decode cX10_bits 33 = .ok (.ireturn, 1) := by decide +kernel
theorem dX10_isNet_0 : decode cX10_isNet 0 = .ok (.iload_n 1, 1) := by decide +kernel
theorem dX10_isNet_1 : decode cX10_isNet 1 = .ok (.iconst 0, 1) := by decide +kernel
theorem dX10_isNet_2 : decode cX10_isNet 2 = .ok (.aload_n 0, 1) := by decide +kernel
theorem dX10_isNet_3 : decode cX10_isNet 3 = .ok (.getfield 99, 3) := by decide +kernel
theorem dX10_isNet_6 : decode cX10_isNet 6 = .ok (.iconst 1, 1) := by decide +kernel
theorem dX10_isNet_7 : decode cX10_isNet 7 = .ok (.isub, 1) := by decide +kernel
theorem dX10_isNet_8 : decode cX10_isNet 8 = .ok (.invokestatic 102, 3) := by decide +kernel
theorem dX10_isNet_11 : decode cX10_isNet 11 = .ok (.ireturn, 1) := by decide +kernel
theorem dX10_isCorner_0 : decode cX10_isCorner 0 = .ok (.iload_n 2, 1) := by decide +kernel
theorem dX10_isCorner_1 : decode cX10_isCorner 1 = .ok (.iconst 0, 1) := by decide +kernel
theorem dX10_isCorner_2 : decode cX10_isCorner 2 = .ok (.aload_n 0, 1) := by decide +kernel
theorem dX10_isCorner_3 : decode cX10_isCorner 3 = .ok (.getfield 7, 3) := by decide +kernel
theorem dX10_isCorner_6 : decode cX10_isCorner 6 = .ok (.iload_n 1, 1) := by decide +kernel
theorem dX10_isCorner_7 : decode cX10_isCorner 7 = .ok (.iaload, 1) := by decide +kernel
theorem dX10_isCorner_8 : decode cX10_isCorner 8 = .ok (.iconst 1, 1) := by decide +kernel
theorem dX10_isCorner_9 : decode cX10_isCorner 9 = .ok (.isub, 1) := by decide +kernel
theorem dX10_isCorner_10 : decode cX10_isCorner 10 = .ok (.invokestatic 102, 3) := by decide +kernel
theorem dX10_isCorner_13 : decode cX10_isCorner 13 = .ok (.ireturn, 1) := by decide +kernel
theorem dX10_isEdge_0 : decode cX10_isEdge 0 = .ok (.iload_n 2, 1) := by decide +kernel
theorem dX10_isEdge_1 : decode cX10_isEdge 1 = .ok (.iconst 0, 1) := by decide +kernel
theorem dX10_isEdge_2 : decode cX10_isEdge 2 = .ok (.aload_n 0, 1) := by decide +kernel
theorem dX10_isEdge_3 : decode cX10_isEdge 3 = .ok (.getfield 13, 3) := by decide +kernel
theorem dX10_isEdge_6 : decode cX10_isEdge 6 = .ok (.iload_n 1, 1) := by decide +kernel
theorem dX10_isEdge_7 : decode cX10_isEdge 7 = .ok (.iaload, 1) := by decide +kernel
theorem dX10_isEdge_8 : decode cX10_isEdge 8 = .ok (.iconst 1, 1) := by decide +kernel
theorem dX10_isEdge_9 : decode cX10_isEdge 9 = .ok (.isub, 1) := by decide +kernel
theorem dX10_isEdge_10 : decode cX10_isEdge 10 = .ok (.invokestatic 102, 3) := by decide +kernel
theorem dX10_isEdge_13 : decode cX10_isEdge 13 = .ok (.ireturn, 1) := by decide +kernel
theorem dX10_areTwo_0 : decode cX10_areTwo 0 = .ok (.aload_n 0, 1) := by decide +kernel
theorem dX10_areTwo_1 : decode cX10_areTwo 1 = .ok (.iload_n 1, 1) := by decide +kernel
theorem dX10_areTwo_2 : decode cX10_areTwo 2 = .ok (.iload_n 2, 1) := by decide +kernel
theorem dX10_areTwo_3 : decode cX10_areTwo 3 = .ok (.invokevirtual 106, 3) := by decide +kernel
theorem dX10_areTwo_6 : decode cX10_areTwo 6 = .ok (.ifCond .eq 21, 3) := by decide +kernel
theorem dX10_areTwo_9 : decode cX10_areTwo 9 = .ok (.aload_n 0, 1) := by decide +kernel
theorem dX10_areTwo_10 : decode cX10_areTwo 10 = .ok (.iload_n 1, 1) := by decide +kernel
theorem dX10_areTwo_11 : decode cX10_areTwo 11 = .ok (.iload_n 3, 1) := by decide +kernel
theorem dX10_areTwo_12 : decode cX10_areTwo 12 = .ok (.invokevirtual 106, 3) := by decide +kernel
theorem dX10_areTwo_15 : decode cX10_areTwo 15 = .ok (.ifCond .eq 12, 3) := by decide +kernel
theorem dX10_areTwo_18 : decode cX10_areTwo 18 = .ok (.iload_n 2, 1) := by decide +kernel
theorem dX10_areTwo_19 : decode cX10_areTwo 19 = .ok (.iload_n 3, 1) := by decide +kernel
theorem dX10_areTwo_20 : decode cX10_areTwo 20 = .ok (.if_icmp .eq 7, 3) := by decide +kernel
theorem dX10_areTwo_23 : decode cX10_areTwo 23 = .ok (.iconst 1, 1) := by decide +kernel
theorem dX10_areTwo_24 : decode cX10_areTwo 24 = .ok (.goto 4, 3) := by decide +kernel
theorem dX10_areTwo_27 : decode cX10_areTwo 27 = .ok (.iconst 0, 1) := by decide +kernel
theorem dX10_areTwo_28 : decode cX10_areTwo 28 = .ok (.ireturn, 1) := by decide +kernel
theorem dX10_wrong_0 : decode cX10_wrong 0 = .ok (.aload_n 0, 1) := by decide +kernel
theorem dX10_wrong_1 : decode cX10_wrong 1 = .ok (.iload_n 1, 1) := by decide +kernel
theorem dX10_wrong_2 : decode cX10_wrong 2 = .ok (.invokevirtual 109, 3) := by decide +kernel
theorem dX10_wrong_5 : decode cX10_wrong 5 = .ok (.ifCond .ne 7, 3) := by decide +kernel
theorem dX10_wrong_8 : decode cX10_wrong 8 = .ok (.iconst 1, 1) := by decide +kernel
theorem dX10_wrong_9 : decode cX10_wrong 9 = .ok (.goto 18, 3) := by decide +kernel
theorem dX10_wrong_12 : decode cX10_wrong 12 = .ok (.aload_n 0, 1) := by decide +kernel
theorem dX10_wrong_13 : decode cX10_wrong 13 = .ok (.iload_n 1, 1) := by decide +kernel
theorem dX10_wrong_14 : decode cX10_wrong 14 = .ok (.iload_n 2, 1) := by decide +kernel
theorem dX10_wrong_15 : decode cX10_wrong 15 = .ok (.iload_n 3, 1) := by decide +kernel
theorem dX10_wrong_16 : decode cX10_wrong 16 = .ok (.invokevirtual 113, 3) := by decide +kernel
theorem dX10_wrong_19 : decode cX10_wrong 19 = .ok (.ifCond .ne 7, 3) := by decide +kernel
theorem dX10_wrong_22 : decode cX10_wrong 22 = .ok (.iconst 2, 1) := by decide +kernel
theorem dX10_wrong_23 : decode cX10_wrong 23 = .ok (.goto 4, 3) := by decide +kernel
theorem dX10_wrong_26 : decode cX10_wrong 26 = .ok (.iconst 0, 1) := by decide +kernel
theorem dX10_wrong_27 : decode cX10_wrong 27 = .ok (.ireturn, 1) := by decide +kernel
theorem dX10_wrongEdge_0 : decode cX10_wrongEdge 0 = .ok (.aload_n 0, 1) := by decide +kernel
theorem dX10_wrongEdge_1 : decode cX10_wrongEdge 1 = .ok (.iload_n 1, 1) := by decide +kernel
theorem dX10_wrongEdge_2 : decode cX10_wrongEdge 2 = .ok (.invokevirtual 109, 3) := by decide +kernel
theorem dX10_wrongEdge_5 : decode cX10_wrongEdge 5 = .ok (.ifCond .eq 13, 3) := by decide +kernel
theorem dX10_wrongEdge_8 : decode cX10_wrongEdge 8 = .ok (.aload_n 0, 1) := by decide +kernel
theorem dX10_wrongEdge_9 : decode cX10_wrongEdge 9 = .ok (.iload_n 1, 1) := by decide +kernel
theorem dX10_wrongEdge_10 : decode cX10_wrongEdge 10 = .ok (.iload 4, 2) := by decide +kernel
theorem dX10_wrongEdge_12 : decode cX10_wrongEdge 12 = .ok (.invokevirtual 116, 3) := by decide +kernel
theorem dX10_wrongEdge_15 : decode cX10_wrongEdge 15 = .ok (.ifCond .ne 7, 3) := by decide +kernel
theorem dX10_wrongEdge_18 : decode cX10_wrongEdge 18 = .ok (.iconst 1, 1) := by decide +kernel
theorem dX10_wrongEdge_19 : decode cX10_wrongEdge 19 = .ok (.goto 18, 3) := by decide +kernel
theorem dX10_wrongEdge_22 : decode cX10_wrongEdge 22 = .ok (.aload_n 0, 1) := by decide +kernel
theorem dX10_wrongEdge_23 : decode cX10_wrongEdge 23 = .ok (.iload_n 1, 1) := by decide +kernel
theorem dX10_wrongEdge_24 : decode cX10_wrongEdge 24 = .ok (.iload_n 2, 1) := by decide +kernel
theorem dX10_wrongEdge_25 : decode cX10_wrongEdge 25 = .ok (.iload_n 3, 1) := by decide +kernel
theorem dX10_wrongEdge_26 : decode cX10_wrongEdge 26 = .ok (.invokevirtual 113, 3) := by decide +kernel
theorem dX10_wrongEdge_29 : decode cX10_wrongEdge 29 = .ok (.ifCond .ne 7, 3) := by decide +kernel
theorem dX10_wrongEdge_32 : decode cX10_wrongEdge 32 = .ok (.iconst 2, 1) := by decide +kernel
theorem dX10_wrongEdge_33 : decode cX10_wrongEdge 33 = .ok (.goto 4, 3) := by decide +kernel
theorem dX10_wrongEdge_36 : decode cX10_wrongEdge 36 = .ok (.iconst 0, 1) := by decide +kernel
theorem dX10_wrongEdge_37 : decode cX10_wrongEdge 37 = .ok (.ireturn, 1) := by decide +kernel
theorem dX10_net_0 : decode cX10_net 0 = .ok (.aload_n 0, 1) := by decide +kernel
theorem dX10_net_1 : decode cX10_net 1 = .ok (.iload_n 1, 1) := by decide +kernel
theorem dX10_net_2 : decode cX10_net 2 = .ok (.iconst 2, 1) := by decide +kernel
theorem dX10_net_3 : decode cX10_net 3 = .ok (.bipush 8, 2) := by decide +kernel
theorem dX10_net_5 : decode cX10_net 5 = .ok (.invokestatic 102, 3) := by decide +kernel
theorem dX10_net_8 : decode cX10_net 8 = .ok (.ifCond .ne 7, 3) := by decide +kernel
theorem dX10_net_11 : decode cX10_net 11 = .ok (.iconst 1, 1) := by decide +kernel
theorem dX10_net_12 : decode cX10_net 12 = .ok (.goto 16, 3) := by decide +kernel
theorem dX10_net_15 : decode cX10_net 15 = .ok (.aload_n 0, 1) := by decide +kernel
theorem dX10_net_16 : decode cX10_net 16 = .ok (.getfield 99, 3) := by decide +kernel
theorem dX10_net_19 : decode cX10_net 19 = .ok (.iconst 4, 1) := by decide +kernel
theorem dX10_net_20 : decode cX10_net 20 = .ok (.if_icmp .ne 7, 3) := by decide +kernel
theorem dX10_net_23 : decode cX10_net 23 = .ok (.iconst 2, 1) := by decide +kernel
theorem dX10_net_24 : decode cX10_net 24 = .ok (.goto 4, 3) := by decide +kernel
theorem dX10_net_27 : decode cX10_net 27 = .ok (.iconst 0, 1) := by decide +kernel
theorem dX10_net_28 : decode cX10_net 28 = .ok (.putfield 92, 3) := by decide +kernel
theorem dX10_net_31 : decode cX10_net 31 = .ok (.aload_n 0, 1) := by decide +kernel
theorem dX10_net_32 : decode cX10_net 32 = .ok (.getfield 92, 3) := by decide +kernel
theorem dX10_net_35 : decode cX10_net 35 = .ok (.ifCond .le 5, 3) := by decide +kernel
theorem dX10_net_38 : decode cX10_net 38 = .ok (.iconst 0, 1) := by decide +kernel
theorem dX10_net_39 : decode cX10_net 39 = .ok (.ireturn, 1) := by decide +kernel
theorem dX10_net_40 : decode cX10_net 40 = .ok (.aload_n 0, 1) := by decide +kernel
theorem dX10_net_41 : decode cX10_net 41 = .ok (.getfield 7, 3) := by decide +kernel
theorem dX10_net_44 : decode cX10_net 44 = .ok (.aload_n 0, 1) := by decide +kernel
theorem dX10_net_45 : decode cX10_net 45 = .ok (.getfield 99, 3) := by decide +kernel
theorem dX10_net_48 : decode cX10_net 48 = .ok (.iload_n 1, 1) := by decide +kernel
theorem dX10_net_49 : decode cX10_net 49 = .ok (.iastore, 1) := by decide +kernel
theorem dX10_net_50 : decode cX10_net 50 = .ok (.aload_n 0, 1) := by decide +kernel
theorem dX10_net_51 : decode cX10_net 51 = .ok (.dup, 1) := by decide +kernel
theorem dX10_net_52 : decode cX10_net 52 = .ok (.getfield 99, 3) := by decide +kernel
theorem dX10_net_55 : decode cX10_net 55 = .ok (.iconst 1, 1) := by decide +kernel
theorem dX10_net_56 : decode cX10_net 56 = .ok (.iadd, 1) := by decide +kernel
theorem dX10_net_57 : decode cX10_net 57 = .ok (.putfield 99, 3) := by decide +kernel
theorem dX10_net_60 : decode cX10_net 60 = .ok (.aload_n 0, 1) := by decide +kernel
theorem dX10_net_61 : decode cX10_net 61 = .ok (.getfield 99, 3) := by decide +kernel
theorem dX10_net_64 : decode cX10_net 64 = .ok (.iconst 1, 1) := by decide +kernel
theorem dX10_net_65 : decode cX10_net 65 = .ok (.isub, 1) := by decide +kernel
theorem dX10_net_66 : decode cX10_net 66 = .ok (.ireturn, 1) := by decide +kernel
theorem dX10_areBounds_0 : decode cX10_areBounds 0 = .ok (.iload_n 0, 1) := by decide +kernel
theorem dX10_areBounds_1 : decode cX10_areBounds 1 = .ok (.iconst 0, 1) := by decide +kernel
theorem dX10_areBounds_2 : decode cX10_areBounds 2 = .ok (.bipush 99, 2) := by decide +kernel
theorem dX10_areBounds_4 : decode cX10_areBounds 4 = .ok (.invokestatic 102, 3) := by decide +kernel
theorem dX10_areBounds_7 : decode cX10_areBounds 7 = .ok (.ifCond .eq 28, 3) := by decide +kernel
theorem dX10_areBounds_10 : decode cX10_areBounds 10 = .ok (.iload_n 1, 1) := by decide +kernel
theorem dX10_areBounds_11 : decode cX10_areBounds 11 = .ok (.iload_n 0, 1) := by decide +kernel
theorem dX10_areBounds_12 : decode cX10_areBounds 12 = .ok (.bipush 99, 2) := by decide +kernel
theorem dX10_areBounds_14 : decode cX10_areBounds 14 = .ok (.invokestatic 102, 3) := by decide +kernel
theorem dX10_areBounds_17 : decode cX10_areBounds 17 = .ok (.ifCond .eq 18, 3) := by decide +kernel
theorem dX10_areBounds_20 : decode cX10_areBounds 20 = .ok (.iload_n 2, 1) := by decide +kernel
theorem dX10_areBounds_21 : decode cX10_areBounds 21 = .ok (.bipush (-20), 2) := by decide +kernel
theorem dX10_areBounds_23 : decode cX10_areBounds 23 = .ok (.bipush 20, 2) := by decide +kernel
theorem dX10_areBounds_25 : decode cX10_areBounds 25 = .ok (.invokestatic 102, 3) := by decide +kernel
theorem dX10_areBounds_28 : decode cX10_areBounds 28 = .ok (.ifCond .eq 7, 3) := by decide +kernel
theorem dX10_areBounds_31 : decode cX10_areBounds 31 = .ok (.iconst 1, 1) := by decide +kernel
theorem dX10_areBounds_32 : decode cX10_areBounds 32 = .ok (.goto 4, 3) := by decide +kernel
theorem dX10_areBounds_35 : decode cX10_areBounds 35 = .ok (.iconst 0, 1) := by decide +kernel
theorem dX10_areBounds_36 : decode cX10_areBounds 36 = .ok (.ireturn, 1) := by decide +kernel
theorem dX10_edge_0 : decode cX10_edge 0 = .ok (.aload_n 0, 1) := by decide +kernel
theorem dX10_edge_1 : decode cX10_edge 1 = .ok (.aload_n 0, 1) := by decide +kernel
theorem dX10_edge_2 : decode cX10_edge 2 = .ok (.iload_n 1, 1) := by decide +kernel
theorem dX10_edge_3 : decode cX10_edge 3 = .ok (.invokevirtual 109, 3) := by decide +kernel
theorem dX10_edge_6 : decode cX10_edge 6 = .ok (.ifCond .ne 7, 3) := by decide +kernel
theorem dX10_edge_9 : decode cX10_edge 9 = .ok (.iconst 1, 1) := by decide +kernel
theorem dX10_edge_10 : decode cX10_edge 10 = .ok (.goto 45, 3) := by decide +kernel
theorem dX10_edge_13 : decode cX10_edge 13 = .ok (.aload_n 0, 1) := by decide +kernel
theorem dX10_edge_14 : decode cX10_edge 14 = .ok (.iload_n 1, 1) := by decide +kernel
theorem dX10_edge_15 : decode cX10_edge 15 = .ok (.iload_n 2, 1) := by decide +kernel
theorem dX10_edge_16 : decode cX10_edge 16 = .ok (.iload_n 3, 1) := by decide +kernel
theorem dX10_edge_17 : decode cX10_edge 17 = .ok (.invokevirtual 113, 3) := by decide +kernel
theorem dX10_edge_20 : decode cX10_edge 20 = .ok (.ifCond .eq 15, 3) := by decide +kernel
theorem dX10_edge_23 : decode cX10_edge 23 = .ok (.iload 4, 2) := by decide +kernel
theorem dX10_edge_25 : decode cX10_edge 25 = .ok (.iload 5, 2) := by decide +kernel
theorem dX10_edge_27 : decode cX10_edge 27 = .ok (.iload 6, 2) := by decide +kernel
theorem dX10_edge_29 : decode cX10_edge 29 = .ok (.invokestatic 119, 3) := by decide +kernel
theorem dX10_edge_32 : decode cX10_edge 32 = .ok (.ifCond .ne 7, 3) := by decide +kernel
theorem dX10_edge_35 : decode cX10_edge 35 = .ok (.iconst 2, 1) := by decide +kernel
theorem dX10_edge_36 : decode cX10_edge 36 = .ok (.goto 19, 3) := by decide +kernel
theorem dX10_edge_39 : decode cX10_edge 39 = .ok (.aload_n 0, 1) := by decide +kernel
theorem dX10_edge_40 : decode cX10_edge 40 = .ok (.getfield 13, 3) := by decide +kernel
theorem dX10_edge_43 : decode cX10_edge 43 = .ok (.iload_n 1, 1) := by decide +kernel
theorem dX10_edge_44 : decode cX10_edge 44 = .ok (.iaload, 1) := by decide +kernel
theorem dX10_edge_45 : decode cX10_edge 45 = .ok (.bipush 16, 2) := by decide +kernel
theorem dX10_edge_47 : decode cX10_edge 47 = .ok (.if_icmp .ne 7, 3) := by decide +kernel
theorem dX10_edge_50 : decode cX10_edge 50 = .ok (.iconst 3, 1) := by decide +kernel
theorem dX10_edge_51 : decode cX10_edge 51 = .ok (.goto 4, 3) := by decide +kernel
theorem dX10_edge_54 : decode cX10_edge 54 = .ok (.iconst 0, 1) := by decide +kernel
theorem dX10_edge_55 : decode cX10_edge 55 = .ok (.putfield 92, 3) := by decide +kernel
theorem dX10_edge_58 : decode cX10_edge 58 = .ok (.aload_n 0, 1) := by decide +kernel
theorem dX10_edge_59 : decode cX10_edge 59 = .ok (.getfield 92, 3) := by decide +kernel
theorem dX10_edge_62 : decode cX10_edge 62 = .ok (.ifCond .le 5, 3) := by decide +kernel
theorem dX10_edge_65 : decode cX10_edge 65 = .ok (.iconst 0, 1) := by decide +kernel
theorem dX10_edge_66 : decode cX10_edge 66 = .ok (.ireturn, 1) := by decide +kernel
theorem dX10_edge_67 : decode cX10_edge 67 = .ok (.bipush 16, 2) := by decide +kernel
theorem dX10_edge_69 : decode cX10_edge 69 = .ok (.iload_n 1, 1) := by decide +kernel
theorem dX10_edge_70 : decode cX10_edge 70 = .ok (.imul, 1) := by decide +kernel
theorem dX10_edge_71 : decode cX10_edge 71 = .ok (.aload_n 0, 1) := by decide +kernel
theorem dX10_edge_72 : decode cX10_edge 72 = .ok (.getfield 13, 3) := by decide +kernel
theorem dX10_edge_75 : decode cX10_edge 75 = .ok (.iload_n 1, 1) := by decide +kernel
theorem dX10_edge_76 : decode cX10_edge 76 = .ok (.iaload, 1) := by decide +kernel
theorem dX10_edge_77 : decode cX10_edge 77 = .ok (.iadd, 1) := by decide +kernel
theorem dX10_edge_78 : decode cX10_edge 78 = .ok (.istore 7, 2) := by decide +kernel
theorem dX10_edge_80 : decode cX10_edge 80 = .ok (.aload_n 0, 1) := by decide +kernel
theorem dX10_edge_81 : decode cX10_edge 81 = .ok (.getfield 16, 3) := by decide +kernel
theorem dX10_edge_84 : decode cX10_edge 84 = .ok (.iload 7, 2) := by decide +kernel
theorem dX10_edge_86 : decode cX10_edge 86 = .ok (.iload_n 2, 1) := by decide +kernel
theorem dX10_edge_87 : decode cX10_edge 87 = .ok (.iastore, 1) := by decide +kernel
theorem dX10_edge_88 : decode cX10_edge 88 = .ok (.aload_n 0, 1) := by decide +kernel
theorem dX10_edge_89 : decode cX10_edge 89 = .ok (.getfield 19, 3) := by decide +kernel
theorem dX10_edge_92 : decode cX10_edge 92 = .ok (.iload 7, 2) := by decide +kernel
theorem dX10_edge_94 : decode cX10_edge 94 = .ok (.iload_n 3, 1) := by decide +kernel
theorem dX10_edge_95 : decode cX10_edge 95 = .ok (.iastore, 1) := by decide +kernel
theorem dX10_edge_96 : decode cX10_edge 96 = .ok (.aload_n 0, 1) := by decide +kernel
theorem dX10_edge_97 : decode cX10_edge 97 = .ok (.getfield 22, 3) := by decide +kernel
theorem dX10_edge_100 : decode cX10_edge 100 = .ok (.iload 7, 2) := by decide +kernel
theorem dX10_edge_102 : decode cX10_edge 102 = .ok (.iload 4, 2) := by decide +kernel
theorem dX10_edge_104 : decode cX10_edge 104 = .ok (.iastore, 1) := by decide +kernel
theorem dX10_edge_105 : decode cX10_edge 105 = .ok (.aload_n 0, 1) := by decide +kernel
theorem dX10_edge_106 : decode cX10_edge 106 = .ok (.getfield 25, 3) := by decide +kernel
theorem dX10_edge_109 : decode cX10_edge 109 = .ok (.iload 7, 2) := by decide +kernel
theorem dX10_edge_111 : decode cX10_edge 111 = .ok (.iload 5, 2) := by decide +kernel
theorem dX10_edge_113 : decode cX10_edge 113 = .ok (.iastore, 1) := by decide +kernel
theorem dX10_edge_114 : decode cX10_edge 114 = .ok (.aload_n 0, 1) := by decide +kernel
theorem dX10_edge_115 : decode cX10_edge 115 = .ok (.getfield 28, 3) := by decide +kernel
theorem dX10_edge_118 : decode cX10_edge 118 = .ok (.iload 7, 2) := by decide +kernel
theorem dX10_edge_120 : decode cX10_edge 120 = .ok (.iload 6, 2) := by decide +kernel
theorem dX10_edge_122 : decode cX10_edge 122 = .ok (.iastore, 1) := by decide +kernel
theorem dX10_edge_123 : decode cX10_edge 123 = .ok (.aload_n 0, 1) := by decide +kernel
theorem dX10_edge_124 : decode cX10_edge 124 = .ok (.getfield 13, 3) := by decide +kernel
theorem dX10_edge_127 : decode cX10_edge 127 = .ok (.iload_n 1, 1) := by decide +kernel
theorem dX10_edge_128 : decode cX10_edge 128 = .ok (.dup2, 1) := by decide +kernel
theorem dX10_edge_129 : decode cX10_edge 129 = .ok (.iaload, 1) := by decide +kernel
theorem dX10_edge_130 : decode cX10_edge 130 = .ok (.iconst 1, 1) := by decide +kernel
theorem dX10_edge_131 : decode cX10_edge 131 = .ok (.iadd, 1) := by decide +kernel
theorem dX10_edge_132 : decode cX10_edge 132 = .ok (.iastore, 1) := by decide +kernel
theorem dX10_edge_133 : decode cX10_edge 133 = .ok (.aload_n 0, 1) := by decide +kernel
theorem dX10_edge_134 : decode cX10_edge 134 = .ok (.getfield 13, 3) := by decide +kernel
theorem dX10_edge_137 : decode cX10_edge 137 = .ok (.iload_n 1, 1) := by decide +kernel
theorem dX10_edge_138 : decode cX10_edge 138 = .ok (.iaload, 1) := by decide +kernel
theorem dX10_edge_139 : decode cX10_edge 139 = .ok (.iconst 1, 1) := by decide +kernel
theorem dX10_edge_140 : decode cX10_edge 140 = .ok (.isub, 1) := by decide +kernel
theorem dX10_edge_141 : decode cX10_edge 141 = .ok (.ireturn, 1) := by decide +kernel
theorem dX10_change_0 : decode cX10_change 0 = .ok (.aload_n 0, 1) := by decide +kernel
theorem dX10_change_1 : decode cX10_change 1 = .ok (.aload_n 0, 1) := by decide +kernel
theorem dX10_change_2 : decode cX10_change 2 = .ok (.iload_n 1, 1) := by decide +kernel
theorem dX10_change_3 : decode cX10_change 3 = .ok (.invokevirtual 109, 3) := by decide +kernel
theorem dX10_change_6 : decode cX10_change 6 = .ok (.ifCond .eq 12, 3) := by decide +kernel
theorem dX10_change_9 : decode cX10_change 9 = .ok (.aload_n 0, 1) := by decide +kernel
theorem dX10_change_10 : decode cX10_change 10 = .ok (.iload_n 1, 1) := by decide +kernel
theorem dX10_change_11 : decode cX10_change 11 = .ok (.iload_n 2, 1) := by decide +kernel
theorem dX10_change_12 : decode cX10_change 12 = .ok (.invokevirtual 116, 3) := by decide +kernel
theorem dX10_change_15 : decode cX10_change 15 = .ok (.ifCond .ne 7, 3) := by decide +kernel
theorem dX10_change_18 : decode cX10_change 18 = .ok (.iconst 1, 1) := by decide +kernel
theorem dX10_change_19 : decode cX10_change 19 = .ok (.goto 19, 3) := by decide +kernel
theorem dX10_change_22 : decode cX10_change 22 = .ok (.iload_n 3, 1) := by decide +kernel
theorem dX10_change_23 : decode cX10_change 23 = .ok (.iload 4, 2) := by decide +kernel
theorem dX10_change_25 : decode cX10_change 25 = .ok (.iload 5, 2) := by decide +kernel
theorem dX10_change_27 : decode cX10_change 27 = .ok (.invokestatic 119, 3) := by decide +kernel
theorem dX10_change_30 : decode cX10_change 30 = .ok (.ifCond .ne 7, 3) := by decide +kernel
theorem dX10_change_33 : decode cX10_change 33 = .ok (.iconst 2, 1) := by decide +kernel
theorem dX10_change_34 : decode cX10_change 34 = .ok (.goto 4, 3) := by decide +kernel
theorem dX10_change_37 : decode cX10_change 37 = .ok (.iconst 0, 1) := by decide +kernel
theorem dX10_change_38 : decode cX10_change 38 = .ok (.putfield 92, 3) := by decide +kernel
theorem dX10_change_41 : decode cX10_change 41 = .ok (.aload_n 0, 1) := by decide +kernel
theorem dX10_change_42 : decode cX10_change 42 = .ok (.getfield 92, 3) := by decide +kernel
theorem dX10_change_45 : decode cX10_change 45 = .ok (.ifCond .le 5, 3) := by decide +kernel
theorem dX10_change_48 : decode cX10_change 48 = .ok (.iconst 0, 1) := by decide +kernel
theorem dX10_change_49 : decode cX10_change 49 = .ok (.ireturn, 1) := by decide +kernel
theorem dX10_change_50 : decode cX10_change 50 = .ok (.bipush 16, 2) := by decide +kernel
theorem dX10_change_52 : decode cX10_change 52 = .ok (.iload_n 1, 1) := by decide +kernel
theorem dX10_change_53 : decode cX10_change 53 = .ok (.imul, 1) := by decide +kernel
theorem dX10_change_54 : decode cX10_change 54 = .ok (.iload_n 2, 1) := by decide +kernel
theorem dX10_change_55 : decode cX10_change 55 = .ok (.iadd, 1) := by decide +kernel
theorem dX10_change_56 : decode cX10_change 56 = .ok (.istore 6, 2) := by decide +kernel
theorem dX10_change_58 : decode cX10_change 58 = .ok (.aload_n 0, 1) := by decide +kernel
theorem dX10_change_59 : decode cX10_change 59 = .ok (.getfield 25, 3) := by decide +kernel
theorem dX10_change_62 : decode cX10_change 62 = .ok (.iload 6, 2) := by decide +kernel
theorem dX10_change_64 : decode cX10_change 64 = .ok (.iaload, 1) := by decide +kernel
theorem dX10_change_65 : decode cX10_change 65 = .ok (.istore 7, 2) := by decide +kernel
theorem dX10_change_67 : decode cX10_change 67 = .ok (.aload_n 0, 1) := by decide +kernel
theorem dX10_change_68 : decode cX10_change 68 = .ok (.getfield 22, 3) := by decide +kernel
theorem dX10_change_71 : decode cX10_change 71 = .ok (.iload 6, 2) := by decide +kernel
theorem dX10_change_73 : decode cX10_change 73 = .ok (.iload_n 3, 1) := by decide +kernel
theorem dX10_change_74 : decode cX10_change 74 = .ok (.iastore, 1) := by decide +kernel
theorem dX10_change_75 : decode cX10_change 75 = .ok (.aload_n 0, 1) := by decide +kernel
theorem dX10_change_76 : decode cX10_change 76 = .ok (.getfield 25, 3) := by decide +kernel
theorem dX10_change_79 : decode cX10_change 79 = .ok (.iload 6, 2) := by decide +kernel
theorem dX10_change_81 : decode cX10_change 81 = .ok (.iload 4, 2) := by decide +kernel
theorem dX10_change_83 : decode cX10_change 83 = .ok (.iastore, 1) := by decide +kernel
theorem dX10_change_84 : decode cX10_change 84 = .ok (.aload_n 0, 1) := by decide +kernel
theorem dX10_change_85 : decode cX10_change 85 = .ok (.getfield 28, 3) := by decide +kernel
theorem dX10_change_88 : decode cX10_change 88 = .ok (.iload 6, 2) := by decide +kernel
theorem dX10_change_90 : decode cX10_change 90 = .ok (.iload 5, 2) := by decide +kernel
theorem dX10_change_92 : decode cX10_change 92 = .ok (.iastore, 1) := by decide +kernel
theorem dX10_change_93 : decode cX10_change 93 = .ok (.iload 7, 2) := by decide +kernel
theorem dX10_change_95 : decode cX10_change 95 = .ok (.ireturn, 1) := by decide +kernel
theorem dX10_drop_0 : decode cX10_drop 0 = .ok (.aload_n 0, 1) := by decide +kernel
theorem dX10_drop_1 : decode cX10_drop 1 = .ok (.aload_n 0, 1) := by decide +kernel
theorem dX10_drop_2 : decode cX10_drop 2 = .ok (.iload_n 1, 1) := by decide +kernel
theorem dX10_drop_3 : decode cX10_drop 3 = .ok (.invokevirtual 109, 3) := by decide +kernel
theorem dX10_drop_6 : decode cX10_drop 6 = .ok (.ifCond .eq 12, 3) := by decide +kernel
theorem dX10_drop_9 : decode cX10_drop 9 = .ok (.aload_n 0, 1) := by decide +kernel
theorem dX10_drop_10 : decode cX10_drop 10 = .ok (.iload_n 1, 1) := by decide +kernel
theorem dX10_drop_11 : decode cX10_drop 11 = .ok (.iload_n 2, 1) := by decide +kernel
theorem dX10_drop_12 : decode cX10_drop 12 = .ok (.invokevirtual 116, 3) := by decide +kernel
theorem dX10_drop_15 : decode cX10_drop 15 = .ok (.ifCond .ne 7, 3) := by decide +kernel
theorem dX10_drop_18 : decode cX10_drop 18 = .ok (.iconst 1, 1) := by decide +kernel
theorem dX10_drop_19 : decode cX10_drop 19 = .ok (.goto 4, 3) := by decide +kernel
theorem dX10_drop_22 : decode cX10_drop 22 = .ok (.iconst 0, 1) := by decide +kernel
theorem dX10_drop_23 : decode cX10_drop 23 = .ok (.putfield 92, 3) := by decide +kernel
theorem dX10_drop_26 : decode cX10_drop 26 = .ok (.aload_n 0, 1) := by decide +kernel
theorem dX10_drop_27 : decode cX10_drop 27 = .ok (.getfield 92, 3) := by decide +kernel
theorem dX10_drop_30 : decode cX10_drop 30 = .ok (.ifCond .le 5, 3) := by decide +kernel
theorem dX10_drop_33 : decode cX10_drop 33 = .ok (.iconst 0, 1) := by decide +kernel
theorem dX10_drop_34 : decode cX10_drop 34 = .ok (.ireturn, 1) := by decide +kernel
theorem dX10_drop_35 : decode cX10_drop 35 = .ok (.bipush 16, 2) := by decide +kernel
theorem dX10_drop_37 : decode cX10_drop 37 = .ok (.iload_n 1, 1) := by decide +kernel
theorem dX10_drop_38 : decode cX10_drop 38 = .ok (.imul, 1) := by decide +kernel
theorem dX10_drop_39 : decode cX10_drop 39 = .ok (.iload_n 2, 1) := by decide +kernel
theorem dX10_drop_40 : decode cX10_drop 40 = .ok (.iadd, 1) := by decide +kernel
theorem dX10_drop_41 : decode cX10_drop 41 = .ok (.istore_n 3, 1) := by decide +kernel
theorem dX10_drop_42 : decode cX10_drop 42 = .ok (.iload_n 3, 1) := by decide +kernel
theorem dX10_drop_43 : decode cX10_drop 43 = .ok (.bipush 16, 2) := by decide +kernel
theorem dX10_drop_45 : decode cX10_drop 45 = .ok (.iload_n 1, 1) := by decide +kernel
theorem dX10_drop_46 : decode cX10_drop 46 = .ok (.imul, 1) := by decide +kernel
theorem dX10_drop_47 : decode cX10_drop 47 = .ok (.aload_n 0, 1) := by decide +kernel
theorem dX10_drop_48 : decode cX10_drop 48 = .ok (.getfield 13, 3) := by decide +kernel
theorem dX10_drop_51 : decode cX10_drop 51 = .ok (.iload_n 1, 1) := by decide +kernel
theorem dX10_drop_52 : decode cX10_drop 52 = .ok (.iaload, 1) := by decide +kernel
theorem dX10_drop_53 : decode cX10_drop 53 = .ok (.iadd, 1) := by decide +kernel
theorem dX10_drop_54 : decode cX10_drop 54 = .ok (.iconst 1, 1) := by decide +kernel
theorem dX10_drop_55 : decode cX10_drop 55 = .ok (.isub, 1) := by decide +kernel
theorem dX10_drop_56 : decode cX10_drop 56 = .ok (.if_icmp .ge 79, 3) := by decide +kernel
theorem dX10_drop_59 : decode cX10_drop 59 = .ok (.aload_n 0, 1) := by decide +kernel
theorem dX10_drop_60 : decode cX10_drop 60 = .ok (.getfield 16, 3) := by decide +kernel
theorem dX10_drop_63 : decode cX10_drop 63 = .ok (.iload_n 3, 1) := by decide +kernel
theorem dX10_drop_64 : decode cX10_drop 64 = .ok (.aload_n 0, 1) := by decide +kernel
theorem dX10_drop_65 : decode cX10_drop 65 = .ok (.getfield 16, 3) := by decide +kernel
theorem dX10_drop_68 : decode cX10_drop 68 = .ok (.iload_n 3, 1) := by decide +kernel
theorem dX10_drop_69 : decode cX10_drop 69 = .ok (.iconst 1, 1) := by decide +kernel
theorem dX10_drop_70 : decode cX10_drop 70 = .ok (.iadd, 1) := by decide +kernel
theorem dX10_drop_71 : decode cX10_drop 71 = .ok (.iaload, 1) := by decide +kernel
theorem dX10_drop_72 : decode cX10_drop 72 = .ok (.iastore, 1) := by decide +kernel
theorem dX10_drop_73 : decode cX10_drop 73 = .ok (.aload_n 0, 1) := by decide +kernel
theorem dX10_drop_74 : decode cX10_drop 74 = .ok (.getfield 19, 3) := by decide +kernel
theorem dX10_drop_77 : decode cX10_drop 77 = .ok (.iload_n 3, 1) := by decide +kernel
theorem dX10_drop_78 : decode cX10_drop 78 = .ok (.aload_n 0, 1) := by decide +kernel
theorem dX10_drop_79 : decode cX10_drop 79 = .ok (.getfield 19, 3) := by decide +kernel
theorem dX10_drop_82 : decode cX10_drop 82 = .ok (.iload_n 3, 1) := by decide +kernel
theorem dX10_drop_83 : decode cX10_drop 83 = .ok (.iconst 1, 1) := by decide +kernel
theorem dX10_drop_84 : decode cX10_drop 84 = .ok (.iadd, 1) := by decide +kernel
theorem dX10_drop_85 : decode cX10_drop 85 = .ok (.iaload, 1) := by decide +kernel
theorem dX10_drop_86 : decode cX10_drop 86 = .ok (.iastore, 1) := by decide +kernel
theorem dX10_drop_87 : decode cX10_drop 87 = .ok (.aload_n 0, 1) := by decide +kernel
theorem dX10_drop_88 : decode cX10_drop 88 = .ok (.getfield 22, 3) := by decide +kernel
theorem dX10_drop_91 : decode cX10_drop 91 = .ok (.iload_n 3, 1) := by decide +kernel
theorem dX10_drop_92 : decode cX10_drop 92 = .ok (.aload_n 0, 1) := by decide +kernel
theorem dX10_drop_93 : decode cX10_drop 93 = .ok (.getfield 22, 3) := by decide +kernel
theorem dX10_drop_96 : decode cX10_drop 96 = .ok (.iload_n 3, 1) := by decide +kernel
theorem dX10_drop_97 : decode cX10_drop 97 = .ok (.iconst 1, 1) := by decide +kernel
theorem dX10_drop_98 : decode cX10_drop 98 = .ok (.iadd, 1) := by decide +kernel
theorem dX10_drop_99 : decode cX10_drop 99 = .ok (.iaload, 1) := by decide +kernel
theorem dX10_drop_100 : decode cX10_drop 100 = .ok (.iastore, 1) := by decide +kernel
theorem dX10_drop_101 : decode cX10_drop 101 = .ok (.aload_n 0, 1) := by decide +kernel
theorem dX10_drop_102 : decode cX10_drop 102 = .ok (.getfield 25, 3) := by decide +kernel
theorem dX10_drop_105 : decode cX10_drop 105 = .ok (.iload_n 3, 1) := by decide +kernel
theorem dX10_drop_106 : decode cX10_drop 106 = .ok (.aload_n 0, 1) := by decide +kernel
theorem dX10_drop_107 : decode cX10_drop 107 = .ok (.getfield 25, 3) := by decide +kernel
theorem dX10_drop_110 : decode cX10_drop 110 = .ok (.iload_n 3, 1) := by decide +kernel
theorem dX10_drop_111 : decode cX10_drop 111 = .ok (.iconst 1, 1) := by decide +kernel
theorem dX10_drop_112 : decode cX10_drop 112 = .ok (.iadd, 1) := by decide +kernel
theorem dX10_drop_113 : decode cX10_drop 113 = .ok (.iaload, 1) := by decide +kernel
theorem dX10_drop_114 : decode cX10_drop 114 = .ok (.iastore, 1) := by decide +kernel
theorem dX10_drop_115 : decode cX10_drop 115 = .ok (.aload_n 0, 1) := by decide +kernel
theorem dX10_drop_116 : decode cX10_drop 116 = .ok (.getfield 28, 3) := by decide +kernel
theorem dX10_drop_119 : decode cX10_drop 119 = .ok (.iload_n 3, 1) := by decide +kernel
theorem dX10_drop_120 : decode cX10_drop 120 = .ok (.aload_n 0, 1) := by decide +kernel
theorem dX10_drop_121 : decode cX10_drop 121 = .ok (.getfield 28, 3) := by decide +kernel
theorem dX10_drop_124 : decode cX10_drop 124 = .ok (.iload_n 3, 1) := by decide +kernel
theorem dX10_drop_125 : decode cX10_drop 125 = .ok (.iconst 1, 1) := by decide +kernel
theorem dX10_drop_126 : decode cX10_drop 126 = .ok (.iadd, 1) := by decide +kernel
theorem dX10_drop_127 : decode cX10_drop 127 = .ok (.iaload, 1) := by decide +kernel
theorem dX10_drop_128 : decode cX10_drop 128 = .ok (.iastore, 1) := by decide +kernel
theorem dX10_drop_129 : decode cX10_drop 129 = .ok (.iinc 3 1, 3) := by decide +kernel
theorem dX10_drop_132 : decode cX10_drop 132 = .ok (.goto (-90), 3) := by decide +kernel
theorem dX10_drop_135 : decode cX10_drop 135 = .ok (.aload_n 0, 1) := by decide +kernel
theorem dX10_drop_136 : decode cX10_drop 136 = .ok (.getfield 13, 3) := by decide +kernel
theorem dX10_drop_139 : decode cX10_drop 139 = .ok (.iload_n 1, 1) := by decide +kernel
theorem dX10_drop_140 : decode cX10_drop 140 = .ok (.dup2, 1) := by decide +kernel
theorem dX10_drop_141 : decode cX10_drop 141 = .ok (.iaload, 1) := by decide +kernel
theorem dX10_drop_142 : decode cX10_drop 142 = .ok (.iconst 1, 1) := by decide +kernel
theorem dX10_drop_143 : decode cX10_drop 143 = .ok (.isub, 1) := by decide +kernel
theorem dX10_drop_144 : decode cX10_drop 144 = .ok (.iastore, 1) := by decide +kernel
theorem dX10_drop_145 : decode cX10_drop 145 = .ok (.aload_n 0, 1) := by decide +kernel
theorem dX10_drop_146 : decode cX10_drop 146 = .ok (.getfield 13, 3) := by decide +kernel
theorem dX10_drop_149 : decode cX10_drop 149 = .ok (.iload_n 1, 1) := by decide +kernel
theorem dX10_drop_150 : decode cX10_drop 150 = .ok (.iaload, 1) := by decide +kernel
theorem dX10_drop_151 : decode cX10_drop 151 = .ok (.ireturn, 1) := by decide +kernel
theorem dX10_edges_0 : decode cX10_edges 0 = .ok (.aload_n 0, 1) := by decide +kernel
theorem dX10_edges_1 : decode cX10_edges 1 = .ok (.aload_n 0, 1) := by decide +kernel
theorem dX10_edges_2 : decode cX10_edges 2 = .ok (.iload_n 1, 1) := by decide +kernel
theorem dX10_edges_3 : decode cX10_edges 3 = .ok (.invokevirtual 109, 3) := by decide +kernel
theorem dX10_edges_6 : decode cX10_edges 6 = .ok (.ifCond .ne 7, 3) := by decide +kernel
theorem dX10_edges_9 : decode cX10_edges 9 = .ok (.iconst 1, 1) := by decide +kernel
theorem dX10_edges_10 : decode cX10_edges 10 = .ok (.goto 4, 3) := by decide +kernel
theorem dX10_edges_13 : decode cX10_edges 13 = .ok (.iconst 0, 1) := by decide +kernel
theorem dX10_edges_14 : decode cX10_edges 14 = .ok (.putfield 92, 3) := by decide +kernel
theorem dX10_edges_17 : decode cX10_edges 17 = .ok (.aload_n 0, 1) := by decide +kernel
theorem dX10_edges_18 : decode cX10_edges 18 = .ok (.getfield 92, 3) := by decide +kernel
theorem dX10_edges_21 : decode cX10_edges 21 = .ok (.ifCond .le 7, 3) := by decide +kernel
theorem dX10_edges_24 : decode cX10_edges 24 = .ok (.iconst 0, 1) := by decide +kernel
theorem dX10_edges_25 : decode cX10_edges 25 = .ok (.goto 9, 3) := by decide +kernel
theorem dX10_edges_28 : decode cX10_edges 28 = .ok (.aload_n 0, 1) := by decide +kernel
theorem dX10_edges_29 : decode cX10_edges 29 = .ok (.getfield 13, 3) := by decide +kernel
theorem dX10_edges_32 : decode cX10_edges 32 = .ok (.iload_n 1, 1) := by decide +kernel
theorem dX10_edges_33 : decode cX10_edges 33 = .ok (.iaload, 1) := by decide +kernel
theorem dX10_edges_34 : decode cX10_edges 34 = .ok (.ireturn, 1) := by decide +kernel
theorem dX10_supply_0 : decode cX10_supply 0 = .ok (.aload_n 0, 1) := by decide +kernel
theorem dX10_supply_1 : decode cX10_supply 1 = .ok (.aload_n 0, 1) := by decide +kernel
theorem dX10_supply_2 : decode cX10_supply 2 = .ok (.iload_n 1, 1) := by decide +kernel
theorem dX10_supply_3 : decode cX10_supply 3 = .ok (.invokevirtual 109, 3) := by decide +kernel
theorem dX10_supply_6 : decode cX10_supply 6 = .ok (.ifCond .eq 12, 3) := by decide +kernel
theorem dX10_supply_9 : decode cX10_supply 9 = .ok (.aload_n 0, 1) := by decide +kernel
theorem dX10_supply_10 : decode cX10_supply 10 = .ok (.iload_n 1, 1) := by decide +kernel
theorem dX10_supply_11 : decode cX10_supply 11 = .ok (.iload_n 2, 1) := by decide +kernel
theorem dX10_supply_12 : decode cX10_supply 12 = .ok (.invokevirtual 106, 3) := by decide +kernel
theorem dX10_supply_15 : decode cX10_supply 15 = .ok (.ifCond .ne 7, 3) := by decide +kernel
theorem dX10_supply_18 : decode cX10_supply 18 = .ok (.iconst 1, 1) := by decide +kernel
theorem dX10_supply_19 : decode cX10_supply 19 = .ok (.goto 19, 3) := by decide +kernel
theorem dX10_supply_22 : decode cX10_supply 22 = .ok (.iload_n 3, 1) := by decide +kernel
theorem dX10_supply_23 : decode cX10_supply 23 = .ok (.bipush (-99), 2) := by decide +kernel
theorem dX10_supply_25 : decode cX10_supply 25 = .ok (.bipush 99, 2) := by decide +kernel
theorem dX10_supply_27 : decode cX10_supply 27 = .ok (.invokestatic 102, 3) := by decide +kernel
theorem dX10_supply_30 : decode cX10_supply 30 = .ok (.ifCond .ne 7, 3) := by decide +kernel
theorem dX10_supply_33 : decode cX10_supply 33 = .ok (.iconst 2, 1) := by decide +kernel
theorem dX10_supply_34 : decode cX10_supply 34 = .ok (.goto 4, 3) := by decide +kernel
theorem dX10_supply_37 : decode cX10_supply 37 = .ok (.iconst 0, 1) := by decide +kernel
theorem dX10_supply_38 : decode cX10_supply 38 = .ok (.putfield 92, 3) := by decide +kernel
theorem dX10_supply_41 : decode cX10_supply 41 = .ok (.aload_n 0, 1) := by decide +kernel
theorem dX10_supply_42 : decode cX10_supply 42 = .ok (.getfield 92, 3) := by decide +kernel
theorem dX10_supply_45 : decode cX10_supply 45 = .ok (.ifCond .le 5, 3) := by decide +kernel
theorem dX10_supply_48 : decode cX10_supply 48 = .ok (.iconst 0, 1) := by decide +kernel
theorem dX10_supply_49 : decode cX10_supply 49 = .ok (.ireturn, 1) := by decide +kernel
theorem dX10_supply_50 : decode cX10_supply 50 = .ok (.aload_n 0, 1) := by decide +kernel
theorem dX10_supply_51 : decode cX10_supply 51 = .ok (.getfield 31, 3) := by decide +kernel
theorem dX10_supply_54 : decode cX10_supply 54 = .ok (.bipush 8, 2) := by decide +kernel
theorem dX10_supply_56 : decode cX10_supply 56 = .ok (.iload_n 1, 1) := by decide +kernel
theorem dX10_supply_57 : decode cX10_supply 57 = .ok (.imul, 1) := by decide +kernel
theorem dX10_supply_58 : decode cX10_supply 58 = .ok (.iload_n 2, 1) := by decide +kernel
theorem dX10_supply_59 : decode cX10_supply 59 = .ok (.iadd, 1) := by decide +kernel
theorem dX10_supply_60 : decode cX10_supply 60 = .ok (.iaload, 1) := by decide +kernel
theorem dX10_supply_61 : decode cX10_supply 61 = .ok (.istore 4, 2) := by decide +kernel
theorem dX10_supply_63 : decode cX10_supply 63 = .ok (.aload_n 0, 1) := by decide +kernel
theorem dX10_supply_64 : decode cX10_supply 64 = .ok (.getfield 31, 3) := by decide +kernel
theorem dX10_supply_67 : decode cX10_supply 67 = .ok (.bipush 8, 2) := by decide +kernel
theorem dX10_supply_69 : decode cX10_supply 69 = .ok (.iload_n 1, 1) := by decide +kernel
theorem dX10_supply_70 : decode cX10_supply 70 = .ok (.imul, 1) := by decide +kernel
theorem dX10_supply_71 : decode cX10_supply 71 = .ok (.iload_n 2, 1) := by decide +kernel
theorem dX10_supply_72 : decode cX10_supply 72 = .ok (.iadd, 1) := by decide +kernel
theorem dX10_supply_73 : decode cX10_supply 73 = .ok (.iload_n 3, 1) := by decide +kernel
theorem dX10_supply_74 : decode cX10_supply 74 = .ok (.iastore, 1) := by decide +kernel
theorem dX10_supply_75 : decode cX10_supply 75 = .ok (.iload 4, 2) := by decide +kernel
theorem dX10_supply_77 : decode cX10_supply 77 = .ok (.ireturn, 1) := by decide +kernel
theorem dX10_looksAt_0 : decode cX10_looksAt 0 = .ok (.iconst 0, 1) := by decide +kernel
theorem dX10_looksAt_1 : decode cX10_looksAt 1 = .ok (.istore_n 2, 1) := by decide +kernel
theorem dX10_looksAt_2 : decode cX10_looksAt 2 = .ok (.iload_n 2, 1) := by decide +kernel
theorem dX10_looksAt_3 : decode cX10_looksAt 3 = .ok (.aload_n 0, 1) := by decide +kernel
theorem dX10_looksAt_4 : decode cX10_looksAt 4 = .ok (.getfield 13, 3) := by decide +kernel
theorem dX10_looksAt_7 : decode cX10_looksAt 7 = .ok (.iload_n 1, 1) := by decide +kernel
theorem dX10_looksAt_8 : decode cX10_looksAt 8 = .ok (.iaload, 1) := by decide +kernel
theorem dX10_looksAt_9 : decode cX10_looksAt 9 = .ok (.if_icmp .ge 43, 3) := by decide +kernel
theorem dX10_looksAt_12 : decode cX10_looksAt 12 = .ok (.aload_n 0, 1) := by decide +kernel
theorem dX10_looksAt_13 : decode cX10_looksAt 13 = .ok (.getfield 65, 3) := by decide +kernel
theorem dX10_looksAt_16 : decode cX10_looksAt 16 = .ok (.iload_n 2, 1) := by decide +kernel
theorem dX10_looksAt_17 : decode cX10_looksAt 17 = .ok (.aload_n 0, 1) := by decide +kernel
theorem dX10_looksAt_18 : decode cX10_looksAt 18 = .ok (.getfield 22, 3) := by decide +kernel
theorem dX10_looksAt_21 : decode cX10_looksAt 21 = .ok (.bipush 16, 2) := by decide +kernel
theorem dX10_looksAt_23 : decode cX10_looksAt 23 = .ok (.iload_n 1, 1) := by decide +kernel
theorem dX10_looksAt_24 : decode cX10_looksAt 24 = .ok (.imul, 1) := by decide +kernel
theorem dX10_looksAt_25 : decode cX10_looksAt 25 = .ok (.iload_n 2, 1) := by decide +kernel
theorem dX10_looksAt_26 : decode cX10_looksAt 26 = .ok (.iadd, 1) := by decide +kernel
theorem dX10_looksAt_27 : decode cX10_looksAt 27 = .ok (.iaload, 1) := by decide +kernel
theorem dX10_looksAt_28 : decode cX10_looksAt 28 = .ok (.iastore, 1) := by decide +kernel
theorem dX10_looksAt_29 : decode cX10_looksAt 29 = .ok (.aload_n 0, 1) := by decide +kernel
theorem dX10_looksAt_30 : decode cX10_looksAt 30 = .ok (.getfield 68, 3) := by decide +kernel
theorem dX10_looksAt_33 : decode cX10_looksAt 33 = .ok (.iload_n 2, 1) := by decide +kernel
theorem dX10_looksAt_34 : decode cX10_looksAt 34 = .ok (.aload_n 0, 1) := by decide +kernel
theorem dX10_looksAt_35 : decode cX10_looksAt 35 = .ok (.getfield 25, 3) := by decide +kernel
theorem dX10_looksAt_38 : decode cX10_looksAt 38 = .ok (.bipush 16, 2) := by decide +kernel
theorem dX10_looksAt_40 : decode cX10_looksAt 40 = .ok (.iload_n 1, 1) := by decide +kernel
theorem dX10_looksAt_41 : decode cX10_looksAt 41 = .ok (.imul, 1) := by decide +kernel
theorem dX10_looksAt_42 : decode cX10_looksAt 42 = .ok (.iload_n 2, 1) := by decide +kernel
theorem dX10_looksAt_43 : decode cX10_looksAt 43 = .ok (.iadd, 1) := by decide +kernel
theorem dX10_looksAt_44 : decode cX10_looksAt 44 = .ok (.iaload, 1) := by decide +kernel
theorem dX10_looksAt_45 : decode cX10_looksAt 45 = .ok (.iastore, 1) := by decide +kernel
theorem dX10_looksAt_46 : decode cX10_looksAt 46 = .ok (.iinc 2 1, 3) := by decide +kernel
theorem dX10_looksAt_49 : decode cX10_looksAt 49 = .ok (.goto (-47), 3) := by decide +kernel
theorem dX10_looksAt_52 : decode cX10_looksAt 52 = .ok (.return_, 1) := by decide +kernel
theorem dX10_leaves_0 : decode cX10_leaves 0 = .ok (.iload_n 3, 1) := by decide +kernel
theorem dX10_leaves_1 : decode cX10_leaves 1 = .ok (.aload_n 0, 1) := by decide +kernel
theorem dX10_leaves_2 : decode cX10_leaves 2 = .ok (.getfield 16, 3) := by decide +kernel
theorem dX10_leaves_5 : decode cX10_leaves 5 = .ok (.bipush 16, 2) := by decide +kernel
theorem dX10_leaves_7 : decode cX10_leaves 7 = .ok (.iload_n 1, 1) := by decide +kernel
theorem dX10_leaves_8 : decode cX10_leaves 8 = .ok (.imul, 1) := by decide +kernel
theorem dX10_leaves_9 : decode cX10_leaves 9 = .ok (.iload_n 2, 1) := by decide +kernel
theorem dX10_leaves_10 : decode cX10_leaves 10 = .ok (.iadd, 1) := by decide +kernel
theorem dX10_leaves_11 : decode cX10_leaves 11 = .ok (.iaload, 1) := by decide +kernel
theorem dX10_leaves_12 : decode cX10_leaves 12 = .ok (.invokestatic 95, 3) := by decide +kernel
theorem dX10_leaves_15 : decode cX10_leaves 15 = .ok (.ifCond .eq 25, 3) := by decide +kernel
theorem dX10_leaves_18 : decode cX10_leaves 18 = .ok (.iload_n 3, 1) := by decide +kernel
theorem dX10_leaves_19 : decode cX10_leaves 19 = .ok (.aload_n 0, 1) := by decide +kernel
theorem dX10_leaves_20 : decode cX10_leaves 20 = .ok (.getfield 19, 3) := by decide +kernel
theorem dX10_leaves_23 : decode cX10_leaves 23 = .ok (.bipush 16, 2) := by decide +kernel
theorem dX10_leaves_25 : decode cX10_leaves 25 = .ok (.iload_n 1, 1) := by decide +kernel
theorem dX10_leaves_26 : decode cX10_leaves 26 = .ok (.imul, 1) := by decide +kernel
theorem dX10_leaves_27 : decode cX10_leaves 27 = .ok (.iload_n 2, 1) := by decide +kernel
theorem dX10_leaves_28 : decode cX10_leaves 28 = .ok (.iadd, 1) := by decide +kernel
theorem dX10_leaves_29 : decode cX10_leaves 29 = .ok (.iaload, 1) := by decide +kernel
theorem dX10_leaves_30 : decode cX10_leaves 30 = .ok (.invokestatic 95, 3) := by decide +kernel
theorem dX10_leaves_33 : decode cX10_leaves 33 = .ok (.ifCond .ne 7, 3) := by decide +kernel
theorem dX10_leaves_36 : decode cX10_leaves 36 = .ok (.iconst 1, 1) := by decide +kernel
theorem dX10_leaves_37 : decode cX10_leaves 37 = .ok (.goto 4, 3) := by decide +kernel
theorem dX10_leaves_40 : decode cX10_leaves 40 = .ok (.iconst 0, 1) := by decide +kernel
theorem dX10_leaves_41 : decode cX10_leaves 41 = .ok (.ireturn, 1) := by decide +kernel
theorem dX10_enters_0 : decode cX10_enters 0 = .ok (.iload_n 3, 1) := by decide +kernel
theorem dX10_enters_1 : decode cX10_enters 1 = .ok (.aload_n 0, 1) := by decide +kernel
theorem dX10_enters_2 : decode cX10_enters 2 = .ok (.getfield 16, 3) := by decide +kernel
theorem dX10_enters_5 : decode cX10_enters 5 = .ok (.bipush 16, 2) := by decide +kernel
theorem dX10_enters_7 : decode cX10_enters 7 = .ok (.iload_n 1, 1) := by decide +kernel
theorem dX10_enters_8 : decode cX10_enters 8 = .ok (.imul, 1) := by decide +kernel
theorem dX10_enters_9 : decode cX10_enters 9 = .ok (.iload_n 2, 1) := by decide +kernel
theorem dX10_enters_10 : decode cX10_enters 10 = .ok (.iadd, 1) := by decide +kernel
theorem dX10_enters_11 : decode cX10_enters 11 = .ok (.iaload, 1) := by decide +kernel
theorem dX10_enters_12 : decode cX10_enters 12 = .ok (.invokestatic 95, 3) := by decide +kernel
theorem dX10_enters_15 : decode cX10_enters 15 = .ok (.ifCond .ne 25, 3) := by decide +kernel
theorem dX10_enters_18 : decode cX10_enters 18 = .ok (.iload_n 3, 1) := by decide +kernel
theorem dX10_enters_19 : decode cX10_enters 19 = .ok (.aload_n 0, 1) := by decide +kernel
theorem dX10_enters_20 : decode cX10_enters 20 = .ok (.getfield 19, 3) := by decide +kernel
theorem dX10_enters_23 : decode cX10_enters 23 = .ok (.bipush 16, 2) := by decide +kernel
theorem dX10_enters_25 : decode cX10_enters 25 = .ok (.iload_n 1, 1) := by decide +kernel
theorem dX10_enters_26 : decode cX10_enters 26 = .ok (.imul, 1) := by decide +kernel
theorem dX10_enters_27 : decode cX10_enters 27 = .ok (.iload_n 2, 1) := by decide +kernel
theorem dX10_enters_28 : decode cX10_enters 28 = .ok (.iadd, 1) := by decide +kernel
theorem dX10_enters_29 : decode cX10_enters 29 = .ok (.iaload, 1) := by decide +kernel
theorem dX10_enters_30 : decode cX10_enters 30 = .ok (.invokestatic 95, 3) := by decide +kernel
theorem dX10_enters_33 : decode cX10_enters 33 = .ok (.ifCond .eq 7, 3) := by decide +kernel
theorem dX10_enters_36 : decode cX10_enters 36 = .ok (.iconst 1, 1) := by decide +kernel
theorem dX10_enters_37 : decode cX10_enters 37 = .ok (.goto 4, 3) := by decide +kernel
theorem dX10_enters_40 : decode cX10_enters 40 = .ok (.iconst 0, 1) := by decide +kernel
theorem dX10_enters_41 : decode cX10_enters 41 = .ok (.ireturn, 1) := by decide +kernel
theorem dX10_leastOut_0 : decode cX10_leastOut 0 = .ok (.iconst 0, 1) := by decide +kernel
theorem dX10_leastOut_1 : decode cX10_leastOut 1 = .ok (.istore_n 3, 1) := by decide +kernel
theorem dX10_leastOut_2 : decode cX10_leastOut 2 = .ok (.iconst 0, 1) := by decide +kernel
theorem dX10_leastOut_3 : decode cX10_leastOut 3 = .ok (.istore 4, 2) := by decide +kernel
theorem dX10_leastOut_5 : decode cX10_leastOut 5 = .ok (.iload 4, 2) := by decide +kernel
theorem dX10_leastOut_7 : decode cX10_leastOut 7 = .ok (.aload_n 0, 1) := by decide +kernel
theorem dX10_leastOut_8 : decode cX10_leastOut 8 = .ok (.getfield 13, 3) := by decide +kernel
theorem dX10_leastOut_11 : decode cX10_leastOut 11 = .ok (.iload_n 1, 1) := by decide +kernel
theorem dX10_leastOut_12 : decode cX10_leastOut 12 = .ok (.iaload, 1) := by decide +kernel
theorem dX10_leastOut_13 : decode cX10_leastOut 13 = .ok (.if_icmp .ge 34, 3) := by decide +kernel
theorem dX10_leastOut_16 : decode cX10_leastOut 16 = .ok (.iload_n 3, 1) := by decide +kernel
theorem dX10_leastOut_17 : decode cX10_leastOut 17 = .ok (.aload_n 0, 1) := by decide +kernel
theorem dX10_leastOut_18 : decode cX10_leastOut 18 = .ok (.iload_n 1, 1) := by decide +kernel
theorem dX10_leastOut_19 : decode cX10_leastOut 19 = .ok (.iload 4, 2) := by decide +kernel
theorem dX10_leastOut_21 : decode cX10_leastOut 21 = .ok (.iload_n 2, 1) := by decide +kernel
theorem dX10_leastOut_22 : decode cX10_leastOut 22 = .ok (.invokevirtual 122, 3) := by decide +kernel
theorem dX10_leastOut_25 : decode cX10_leastOut 25 = .ok (.ifCond .eq 13, 3) := by decide +kernel
theorem dX10_leastOut_28 : decode cX10_leastOut 28 = .ok (.aload_n 0, 1) := by decide +kernel
theorem dX10_leastOut_29 : decode cX10_leastOut 29 = .ok (.getfield 65, 3) := by decide +kernel
theorem dX10_leastOut_32 : decode cX10_leastOut 32 = .ok (.iload 4, 2) := by decide +kernel
theorem dX10_leastOut_34 : decode cX10_leastOut 34 = .ok (.iaload, 1) := by decide +kernel
theorem dX10_leastOut_35 : decode cX10_leastOut 35 = .ok (.goto 4, 3) := by decide +kernel
theorem dX10_leastOut_38 : decode cX10_leastOut 38 = .ok (.iconst 0, 1) := by decide +kernel
theorem dX10_leastOut_39 : decode cX10_leastOut 39 = .ok (.iadd, 1) := by decide +kernel
theorem dX10_leastOut_40 : decode cX10_leastOut 40 = .ok (.istore_n 3, 1) := by decide +kernel
theorem dX10_leastOut_41 : decode cX10_leastOut 41 = .ok (.iinc 4 1, 3) := by decide +kernel
theorem dX10_leastOut_44 : decode cX10_leastOut 44 = .ok (.goto (-39), 3) := by decide +kernel
theorem dX10_leastOut_47 : decode cX10_leastOut 47 = .ok (.iload_n 3, 1) := by decide +kernel
theorem dX10_leastOut_48 : decode cX10_leastOut 48 = .ok (.ireturn, 1) := by decide +kernel
theorem dX10_mostOut_0 : decode cX10_mostOut 0 = .ok (.iconst 0, 1) := by decide +kernel
theorem dX10_mostOut_1 : decode cX10_mostOut 1 = .ok (.istore_n 3, 1) := by decide +kernel
theorem dX10_mostOut_2 : decode cX10_mostOut 2 = .ok (.iconst 0, 1) := by decide +kernel
theorem dX10_mostOut_3 : decode cX10_mostOut 3 = .ok (.istore 4, 2) := by decide +kernel
theorem dX10_mostOut_5 : decode cX10_mostOut 5 = .ok (.iload 4, 2) := by decide +kernel
theorem dX10_mostOut_7 : decode cX10_mostOut 7 = .ok (.aload_n 0, 1) := by decide +kernel
theorem dX10_mostOut_8 : decode cX10_mostOut 8 = .ok (.getfield 13, 3) := by decide +kernel
theorem dX10_mostOut_11 : decode cX10_mostOut 11 = .ok (.iload_n 1, 1) := by decide +kernel
theorem dX10_mostOut_12 : decode cX10_mostOut 12 = .ok (.iaload, 1) := by decide +kernel
theorem dX10_mostOut_13 : decode cX10_mostOut 13 = .ok (.if_icmp .ge 34, 3) := by decide +kernel
theorem dX10_mostOut_16 : decode cX10_mostOut 16 = .ok (.iload_n 3, 1) := by decide +kernel
theorem dX10_mostOut_17 : decode cX10_mostOut 17 = .ok (.aload_n 0, 1) := by decide +kernel
theorem dX10_mostOut_18 : decode cX10_mostOut 18 = .ok (.iload_n 1, 1) := by decide +kernel
theorem dX10_mostOut_19 : decode cX10_mostOut 19 = .ok (.iload 4, 2) := by decide +kernel
theorem dX10_mostOut_21 : decode cX10_mostOut 21 = .ok (.iload_n 2, 1) := by decide +kernel
theorem dX10_mostOut_22 : decode cX10_mostOut 22 = .ok (.invokevirtual 122, 3) := by decide +kernel
theorem dX10_mostOut_25 : decode cX10_mostOut 25 = .ok (.ifCond .eq 13, 3) := by decide +kernel
theorem dX10_mostOut_28 : decode cX10_mostOut 28 = .ok (.aload_n 0, 1) := by decide +kernel
theorem dX10_mostOut_29 : decode cX10_mostOut 29 = .ok (.getfield 68, 3) := by decide +kernel
theorem dX10_mostOut_32 : decode cX10_mostOut 32 = .ok (.iload 4, 2) := by decide +kernel
theorem dX10_mostOut_34 : decode cX10_mostOut 34 = .ok (.iaload, 1) := by decide +kernel
theorem dX10_mostOut_35 : decode cX10_mostOut 35 = .ok (.goto 4, 3) := by decide +kernel
theorem dX10_mostOut_38 : decode cX10_mostOut 38 = .ok (.iconst 0, 1) := by decide +kernel
theorem dX10_mostOut_39 : decode cX10_mostOut 39 = .ok (.iadd, 1) := by decide +kernel
theorem dX10_mostOut_40 : decode cX10_mostOut 40 = .ok (.istore_n 3, 1) := by decide +kernel
theorem dX10_mostOut_41 : decode cX10_mostOut 41 = .ok (.iinc 4 1, 3) := by decide +kernel
theorem dX10_mostOut_44 : decode cX10_mostOut 44 = .ok (.goto (-39), 3) := by decide +kernel
theorem dX10_mostOut_47 : decode cX10_mostOut 47 = .ok (.iload_n 3, 1) := by decide +kernel
theorem dX10_mostOut_48 : decode cX10_mostOut 48 = .ok (.ireturn, 1) := by decide +kernel
theorem dX10_leastIn_0 : decode cX10_leastIn 0 = .ok (.iconst 0, 1) := by decide +kernel
theorem dX10_leastIn_1 : decode cX10_leastIn 1 = .ok (.istore_n 3, 1) := by decide +kernel
theorem dX10_leastIn_2 : decode cX10_leastIn 2 = .ok (.iconst 0, 1) := by decide +kernel
theorem dX10_leastIn_3 : decode cX10_leastIn 3 = .ok (.istore 4, 2) := by decide +kernel
theorem dX10_leastIn_5 : decode cX10_leastIn 5 = .ok (.iload 4, 2) := by decide +kernel
theorem dX10_leastIn_7 : decode cX10_leastIn 7 = .ok (.aload_n 0, 1) := by decide +kernel
theorem dX10_leastIn_8 : decode cX10_leastIn 8 = .ok (.getfield 13, 3) := by decide +kernel
theorem dX10_leastIn_11 : decode cX10_leastIn 11 = .ok (.iload_n 1, 1) := by decide +kernel
theorem dX10_leastIn_12 : decode cX10_leastIn 12 = .ok (.iaload, 1) := by decide +kernel
theorem dX10_leastIn_13 : decode cX10_leastIn 13 = .ok (.if_icmp .ge 34, 3) := by decide +kernel
theorem dX10_leastIn_16 : decode cX10_leastIn 16 = .ok (.iload_n 3, 1) := by decide +kernel
theorem dX10_leastIn_17 : decode cX10_leastIn 17 = .ok (.aload_n 0, 1) := by decide +kernel
theorem dX10_leastIn_18 : decode cX10_leastIn 18 = .ok (.iload_n 1, 1) := by decide +kernel
theorem dX10_leastIn_19 : decode cX10_leastIn 19 = .ok (.iload 4, 2) := by decide +kernel
theorem dX10_leastIn_21 : decode cX10_leastIn 21 = .ok (.iload_n 2, 1) := by decide +kernel
theorem dX10_leastIn_22 : decode cX10_leastIn 22 = .ok (.invokevirtual 125, 3) := by decide +kernel
theorem dX10_leastIn_25 : decode cX10_leastIn 25 = .ok (.ifCond .eq 13, 3) := by decide +kernel
theorem dX10_leastIn_28 : decode cX10_leastIn 28 = .ok (.aload_n 0, 1) := by decide +kernel
theorem dX10_leastIn_29 : decode cX10_leastIn 29 = .ok (.getfield 65, 3) := by decide +kernel
theorem dX10_leastIn_32 : decode cX10_leastIn 32 = .ok (.iload 4, 2) := by decide +kernel
theorem dX10_leastIn_34 : decode cX10_leastIn 34 = .ok (.iaload, 1) := by decide +kernel
theorem dX10_leastIn_35 : decode cX10_leastIn 35 = .ok (.goto 4, 3) := by decide +kernel
theorem dX10_leastIn_38 : decode cX10_leastIn 38 = .ok (.iconst 0, 1) := by decide +kernel
theorem dX10_leastIn_39 : decode cX10_leastIn 39 = .ok (.iadd, 1) := by decide +kernel
theorem dX10_leastIn_40 : decode cX10_leastIn 40 = .ok (.istore_n 3, 1) := by decide +kernel
theorem dX10_leastIn_41 : decode cX10_leastIn 41 = .ok (.iinc 4 1, 3) := by decide +kernel
theorem dX10_leastIn_44 : decode cX10_leastIn 44 = .ok (.goto (-39), 3) := by decide +kernel
theorem dX10_leastIn_47 : decode cX10_leastIn 47 = .ok (.iload_n 3, 1) := by decide +kernel
theorem dX10_leastIn_48 : decode cX10_leastIn 48 = .ok (.ireturn, 1) := by decide +kernel
theorem dX10_mostIn_0 : decode cX10_mostIn 0 = .ok (.iconst 0, 1) := by decide +kernel
theorem dX10_mostIn_1 : decode cX10_mostIn 1 = .ok (.istore_n 3, 1) := by decide +kernel
theorem dX10_mostIn_2 : decode cX10_mostIn 2 = .ok (.iconst 0, 1) := by decide +kernel
theorem dX10_mostIn_3 : decode cX10_mostIn 3 = .ok (.istore 4, 2) := by decide +kernel
theorem dX10_mostIn_5 : decode cX10_mostIn 5 = .ok (.iload 4, 2) := by decide +kernel
theorem dX10_mostIn_7 : decode cX10_mostIn 7 = .ok (.aload_n 0, 1) := by decide +kernel
theorem dX10_mostIn_8 : decode cX10_mostIn 8 = .ok (.getfield 13, 3) := by decide +kernel
theorem dX10_mostIn_11 : decode cX10_mostIn 11 = .ok (.iload_n 1, 1) := by decide +kernel
theorem dX10_mostIn_12 : decode cX10_mostIn 12 = .ok (.iaload, 1) := by decide +kernel
theorem dX10_mostIn_13 : decode cX10_mostIn 13 = .ok (.if_icmp .ge 34, 3) := by decide +kernel
theorem dX10_mostIn_16 : decode cX10_mostIn 16 = .ok (.iload_n 3, 1) := by decide +kernel
theorem dX10_mostIn_17 : decode cX10_mostIn 17 = .ok (.aload_n 0, 1) := by decide +kernel
theorem dX10_mostIn_18 : decode cX10_mostIn 18 = .ok (.iload_n 1, 1) := by decide +kernel
theorem dX10_mostIn_19 : decode cX10_mostIn 19 = .ok (.iload 4, 2) := by decide +kernel
theorem dX10_mostIn_21 : decode cX10_mostIn 21 = .ok (.iload_n 2, 1) := by decide +kernel
theorem dX10_mostIn_22 : decode cX10_mostIn 22 = .ok (.invokevirtual 125, 3) := by decide +kernel
theorem dX10_mostIn_25 : decode cX10_mostIn 25 = .ok (.ifCond .eq 13, 3) := by decide +kernel
theorem dX10_mostIn_28 : decode cX10_mostIn 28 = .ok (.aload_n 0, 1) := by decide +kernel
theorem dX10_mostIn_29 : decode cX10_mostIn 29 = .ok (.getfield 68, 3) := by decide +kernel
theorem dX10_mostIn_32 : decode cX10_mostIn 32 = .ok (.iload 4, 2) := by decide +kernel
theorem dX10_mostIn_34 : decode cX10_mostIn 34 = .ok (.iaload, 1) := by decide +kernel
theorem dX10_mostIn_35 : decode cX10_mostIn 35 = .ok (.goto 4, 3) := by decide +kernel
theorem dX10_mostIn_38 : decode cX10_mostIn 38 = .ok (.iconst 0, 1) := by decide +kernel
theorem dX10_mostIn_39 : decode cX10_mostIn 39 = .ok (.iadd, 1) := by decide +kernel
theorem dX10_mostIn_40 : decode cX10_mostIn 40 = .ok (.istore_n 3, 1) := by decide +kernel
theorem dX10_mostIn_41 : decode cX10_mostIn 41 = .ok (.iinc 4 1, 3) := by decide +kernel
theorem dX10_mostIn_44 : decode cX10_mostIn 44 = .ok (.goto (-39), 3) := by decide +kernel
theorem dX10_mostIn_47 : decode cX10_mostIn 47 = .ok (.iload_n 3, 1) := by decide +kernel
theorem dX10_mostIn_48 : decode cX10_mostIn 48 = .ok (.ireturn, 1) := by decide +kernel
theorem dX10_isBetween_0 : decode cX10_isBetween 0 = .ok (.iload_n 0, 1) := by decide +kernel
theorem dX10_isBetween_1 : decode cX10_isBetween 1 = .ok (.iload_n 1, 1) := by decide +kernel
theorem dX10_isBetween_2 : decode cX10_isBetween 2 = .ok (.invokestatic 95, 3) := by decide +kernel
theorem dX10_isBetween_5 : decode cX10_isBetween 5 = .ok (.ifCond .eq 15, 3) := by decide +kernel
theorem dX10_isBetween_8 : decode cX10_isBetween 8 = .ok (.iload_n 0, 1) := by decide +kernel
theorem dX10_isBetween_9 : decode cX10_isBetween 9 = .ok (.iload_n 2, 1) := by decide +kernel
theorem dX10_isBetween_10 : decode cX10_isBetween 10 = .ok (.invokestatic 95, 3) := by decide +kernel
theorem dX10_isBetween_13 : decode cX10_isBetween 13 = .ok (.ifCond .ne 7, 3) := by decide +kernel
theorem dX10_isBetween_16 : decode cX10_isBetween 16 = .ok (.iconst 1, 1) := by decide +kernel
theorem dX10_isBetween_17 : decode cX10_isBetween 17 = .ok (.goto 4, 3) := by decide +kernel
theorem dX10_isBetween_20 : decode cX10_isBetween 20 = .ok (.iconst 0, 1) := by decide +kernel
theorem dX10_isBetween_21 : decode cX10_isBetween 21 = .ok (.ireturn, 1) := by decide +kernel
theorem dX10_sets_0 : decode cX10_sets 0 = .ok (.iconst 1, 1) := by decide +kernel
theorem dX10_sets_1 : decode cX10_sets 1 = .ok (.aload_n 0, 1) := by decide +kernel
theorem dX10_sets_2 : decode cX10_sets 2 = .ok (.getfield 7, 3) := by decide +kernel
theorem dX10_sets_5 : decode cX10_sets 5 = .ok (.iload_n 1, 1) := by decide +kernel
theorem dX10_sets_6 : decode cX10_sets 6 = .ok (.iaload, 1) := by decide +kernel
theorem dX10_sets_7 : decode cX10_sets 7 = .ok (.ishl, 1) := by decide +kernel
theorem dX10_sets_8 : decode cX10_sets 8 = .ok (.ireturn, 1) := by decide +kernel
theorem dX10_proof_0 : decode cX10_proof 0 = .ok (.iconst 0, 1) := by decide +kernel
theorem dX10_proof_1 : decode cX10_proof 1 = .ok (.istore 4, 2) := by decide +kernel
theorem dX10_proof_3 : decode cX10_proof 3 = .ok (.iload 4, 2) := by decide +kernel
theorem dX10_proof_5 : decode cX10_proof 5 = .ok (.aload_n 0, 1) := by decide +kernel
theorem dX10_proof_6 : decode cX10_proof 6 = .ok (.iload_n 1, 1) := by decide +kernel
theorem dX10_proof_7 : decode cX10_proof 7 = .ok (.invokevirtual 128, 3) := by decide +kernel
theorem dX10_proof_10 : decode cX10_proof 10 = .ok (.if_icmp .ge 44, 3) := by decide +kernel
theorem dX10_proof_13 : decode cX10_proof 13 = .ok (.iload 4, 2) := by decide +kernel
theorem dX10_proof_15 : decode cX10_proof 15 = .ok (.iload_n 2, 1) := by decide +kernel
theorem dX10_proof_16 : decode cX10_proof 16 = .ok (.invokestatic 95, 3) := by decide +kernel
theorem dX10_proof_19 : decode cX10_proof 19 = .ok (.iload 4, 2) := by decide +kernel
theorem dX10_proof_21 : decode cX10_proof 21 = .ok (.iload_n 3, 1) := by decide +kernel
theorem dX10_proof_22 : decode cX10_proof 22 = .ok (.invokestatic 95, 3) := by decide +kernel
theorem dX10_proof_25 : decode cX10_proof 25 = .ok (.if_icmp .ne 23, 3) := by decide +kernel
theorem dX10_proof_28 : decode cX10_proof 28 = .ok (.aload_n 0, 1) := by decide +kernel
theorem dX10_proof_29 : decode cX10_proof 29 = .ok (.iload_n 1, 1) := by decide +kernel
theorem dX10_proof_30 : decode cX10_proof 30 = .ok (.iload 4, 2) := by decide +kernel
theorem dX10_proof_32 : decode cX10_proof 32 = .ok (.invokevirtual 132, 3) := by decide +kernel
theorem dX10_proof_35 : decode cX10_proof 35 = .ok (.aload_n 0, 1) := by decide +kernel
theorem dX10_proof_36 : decode cX10_proof 36 = .ok (.iload_n 1, 1) := by decide +kernel
theorem dX10_proof_37 : decode cX10_proof 37 = .ok (.iload 4, 2) := by decide +kernel
theorem dX10_proof_39 : decode cX10_proof 39 = .ok (.invokevirtual 136, 3) := by decide +kernel
theorem dX10_proof_42 : decode cX10_proof 42 = .ok (.if_icmp .le 6, 3) := by decide +kernel
theorem dX10_proof_45 : decode cX10_proof 45 = .ok (.iload 4, 2) := by decide +kernel
theorem dX10_proof_47 : decode cX10_proof 47 = .ok (.ireturn, 1) := by decide +kernel
theorem dX10_proof_48 : decode cX10_proof 48 = .ok (.iinc 4 1, 3) := by decide +kernel
theorem dX10_proof_51 : decode cX10_proof 51 = .ok (.goto (-48), 3) := by decide +kernel
theorem dX10_proof_54 : decode cX10_proof 54 = .ok (.iconst (-1), 1) := by decide +kernel
theorem dX10_proof_55 : decode cX10_proof 55 = .ok (.ireturn, 1) := by decide +kernel
theorem dX10_sumOf_0 : decode cX10_sumOf 0 = .ok (.aload_n 0, 1) := by decide +kernel
theorem dX10_sumOf_1 : decode cX10_sumOf 1 = .ok (.iload_n 1, 1) := by decide +kernel
theorem dX10_sumOf_2 : decode cX10_sumOf 2 = .ok (.iload_n 2, 1) := by decide +kernel
theorem dX10_sumOf_3 : decode cX10_sumOf 3 = .ok (.invokevirtual 139, 3) := by decide +kernel
theorem dX10_sumOf_6 : decode cX10_sumOf 6 = .ok (.aload_n 0, 1) := by decide +kernel
theorem dX10_sumOf_7 : decode cX10_sumOf 7 = .ok (.iload_n 1, 1) := by decide +kernel
theorem dX10_sumOf_8 : decode cX10_sumOf 8 = .ok (.iload_n 2, 1) := by decide +kernel
theorem dX10_sumOf_9 : decode cX10_sumOf 9 = .ok (.invokevirtual 142, 3) := by decide +kernel
theorem dX10_sumOf_12 : decode cX10_sumOf 12 = .ok (.isub, 1) := by decide +kernel
theorem dX10_sumOf_13 : decode cX10_sumOf 13 = .ok (.ireturn, 1) := by decide +kernel
theorem dX10_amount_0 : decode cX10_amount 0 = .ok (.aload_n 0, 1) := by decide +kernel
theorem dX10_amount_1 : decode cX10_amount 1 = .ok (.iload_n 1, 1) := by decide +kernel
theorem dX10_amount_2 : decode cX10_amount 2 = .ok (.iload_n 2, 1) := by decide +kernel
theorem dX10_amount_3 : decode cX10_amount 3 = .ok (.iload_n 3, 1) := by decide +kernel
theorem dX10_amount_4 : decode cX10_amount 4 = .ok (.invokevirtual 145, 3) := by decide +kernel
theorem dX10_amount_7 : decode cX10_amount 7 = .ok (.ifCond .lt 6, 3) := by decide +kernel
theorem dX10_amount_10 : decode cX10_amount 10 = .ok (.ldc 149, 2) := by decide +kernel
theorem dX10_amount_12 : decode cX10_amount 12 = .ok (.ireturn, 1) := by decide +kernel
theorem dX10_amount_13 : decode cX10_amount 13 = .ok (.ldc 149, 2) := by decide +kernel
theorem dX10_amount_15 : decode cX10_amount 15 = .ok (.istore 4, 2) := by decide +kernel
theorem dX10_amount_17 : decode cX10_amount 17 = .ok (.iconst 0, 1) := by decide +kernel
theorem dX10_amount_18 : decode cX10_amount 18 = .ok (.istore 5, 2) := by decide +kernel
theorem dX10_amount_20 : decode cX10_amount 20 = .ok (.iload 5, 2) := by decide +kernel
theorem dX10_amount_22 : decode cX10_amount 22 = .ok (.aload_n 0, 1) := by decide +kernel
theorem dX10_amount_23 : decode cX10_amount 23 = .ok (.iload_n 1, 1) := by decide +kernel
theorem dX10_amount_24 : decode cX10_amount 24 = .ok (.invokevirtual 128, 3) := by decide +kernel
theorem dX10_amount_27 : decode cX10_amount 27 = .ok (.if_icmp .ge 51, 3) := by decide +kernel
theorem dX10_amount_30 : decode cX10_amount 30 = .ok (.iload 5, 2) := by decide +kernel
theorem dX10_amount_32 : decode cX10_amount 32 = .ok (.iload_n 2, 1) := by decide +kernel
theorem dX10_amount_33 : decode cX10_amount 33 = .ok (.iload_n 3, 1) := by decide +kernel
theorem dX10_amount_34 : decode cX10_amount 34 = .ok (.invokestatic 150, 3) := by decide +kernel
theorem dX10_amount_37 : decode cX10_amount 37 = .ok (.ifCond .eq 35, 3) := by decide +kernel
theorem dX10_amount_40 : decode cX10_amount 40 = .ok (.aload_n 0, 1) := by decide +kernel
theorem dX10_amount_41 : decode cX10_amount 41 = .ok (.iload_n 1, 1) := by decide +kernel
theorem dX10_amount_42 : decode cX10_amount 42 = .ok (.iload 5, 2) := by decide +kernel
theorem dX10_amount_44 : decode cX10_amount 44 = .ok (.invokevirtual 153, 3) := by decide +kernel
theorem dX10_amount_47 : decode cX10_amount 47 = .ok (.istore 6, 2) := by decide +kernel
theorem dX10_amount_49 : decode cX10_amount 49 = .ok (.iload 4, 2) := by decide +kernel
theorem dX10_amount_51 : decode cX10_amount 51 = .ok (.ldc 149, 2) := by decide +kernel
theorem dX10_amount_53 : decode cX10_amount 53 = .ok (.if_icmp .eq 10, 3) := by decide +kernel
theorem dX10_amount_56 : decode cX10_amount 56 = .ok (.iload 6, 2) := by decide +kernel
theorem dX10_amount_58 : decode cX10_amount 58 = .ok (.iload 4, 2) := by decide +kernel
theorem dX10_amount_60 : decode cX10_amount 60 = .ok (.if_icmp .ge 8, 3) := by decide +kernel
theorem dX10_amount_63 : decode cX10_amount 63 = .ok (.iload 6, 2) := by decide +kernel
theorem dX10_amount_65 : decode cX10_amount 65 = .ok (.goto 5, 3) := by decide +kernel
theorem dX10_amount_68 : decode cX10_amount 68 = .ok (.iload 4, 2) := by decide +kernel
theorem dX10_amount_70 : decode cX10_amount 70 = .ok (.istore 4, 2) := by decide +kernel
theorem dX10_amount_72 : decode cX10_amount 72 = .ok (.iinc 5 1, 3) := by decide +kernel
theorem dX10_amount_75 : decode cX10_amount 75 = .ok (.goto (-55), 3) := by decide +kernel
theorem dX10_amount_78 : decode cX10_amount 78 = .ok (.iload 4, 2) := by decide +kernel
theorem dX10_amount_80 : decode cX10_amount 80 = .ok (.ireturn, 1) := by decide +kernel
theorem dX10_beyond_0 : decode cX10_beyond 0 = .ok (.iload_n 0, 1) := by decide +kernel
theorem dX10_beyond_1 : decode cX10_beyond 1 = .ok (.iload_n 2, 1) := by decide +kernel
theorem dX10_beyond_2 : decode cX10_beyond 2 = .ok (.invokestatic 95, 3) := by decide +kernel
theorem dX10_beyond_5 : decode cX10_beyond 5 = .ok (.ifCond .eq 15, 3) := by decide +kernel
theorem dX10_beyond_8 : decode cX10_beyond 8 = .ok (.iload_n 0, 1) := by decide +kernel
theorem dX10_beyond_9 : decode cX10_beyond 9 = .ok (.iload_n 1, 1) := by decide +kernel
theorem dX10_beyond_10 : decode cX10_beyond 10 = .ok (.invokestatic 95, 3) := by decide +kernel
theorem dX10_beyond_13 : decode cX10_beyond 13 = .ok (.ifCond .ne 7, 3) := by decide +kernel
theorem dX10_beyond_16 : decode cX10_beyond 16 = .ok (.iload_n 3, 1) := by decide +kernel
theorem dX10_beyond_17 : decode cX10_beyond 17 = .ok (.goto 25, 3) := by decide +kernel
theorem dX10_beyond_20 : decode cX10_beyond 20 = .ok (.iload_n 0, 1) := by decide +kernel
theorem dX10_beyond_21 : decode cX10_beyond 21 = .ok (.iload_n 1, 1) := by decide +kernel
theorem dX10_beyond_22 : decode cX10_beyond 22 = .ok (.invokestatic 95, 3) := by decide +kernel
theorem dX10_beyond_25 : decode cX10_beyond 25 = .ok (.ifCond .eq 16, 3) := by decide +kernel
theorem dX10_beyond_28 : decode cX10_beyond 28 = .ok (.iload_n 0, 1) := by decide +kernel
theorem dX10_beyond_29 : decode cX10_beyond 29 = .ok (.iload_n 2, 1) := by decide +kernel
theorem dX10_beyond_30 : decode cX10_beyond 30 = .ok (.invokestatic 95, 3) := by decide +kernel
theorem dX10_beyond_33 : decode cX10_beyond 33 = .ok (.ifCond .ne 8, 3) := by decide +kernel
theorem dX10_beyond_36 : decode cX10_beyond 36 = .ok (.iload_n 3, 1) := by decide +kernel
theorem dX10_beyond_37 : decode cX10_beyond 37 = .ok (.ineg, 1) := by decide +kernel
theorem dX10_beyond_38 : decode cX10_beyond 38 = .ok (.goto 4, 3) := by decide +kernel
theorem dX10_beyond_41 : decode cX10_beyond 41 = .ok (.iconst 0, 1) := by decide +kernel
theorem dX10_beyond_42 : decode cX10_beyond 42 = .ok (.ireturn, 1) := by decide +kernel
theorem dX10_leastOf_0 : decode cX10_leastOf 0 = .ok (.aload_n 0, 1) := by decide +kernel
theorem dX10_leastOf_1 : decode cX10_leastOf 1 = .ok (.getfield 65, 3) := by decide +kernel
theorem dX10_leastOf_4 : decode cX10_leastOf 4 = .ok (.iload 5, 2) := by decide +kernel
theorem dX10_leastOf_6 : decode cX10_leastOf 6 = .ok (.iaload, 1) := by decide +kernel
theorem dX10_leastOf_7 : decode cX10_leastOf 7 = .ok (.istore 6, 2) := by decide +kernel
theorem dX10_leastOf_9 : decode cX10_leastOf 9 = .ok (.iconst 0, 1) := by decide +kernel
theorem dX10_leastOf_10 : decode cX10_leastOf 10 = .ok (.istore 7, 2) := by decide +kernel
theorem dX10_leastOf_12 : decode cX10_leastOf 12 = .ok (.iload 7, 2) := by decide +kernel
theorem dX10_leastOf_14 : decode cX10_leastOf 14 = .ok (.aload_n 0, 1) := by decide +kernel
theorem dX10_leastOf_15 : decode cX10_leastOf 15 = .ok (.iload_n 1, 1) := by decide +kernel
theorem dX10_leastOf_16 : decode cX10_leastOf 16 = .ok (.invokevirtual 128, 3) := by decide +kernel
theorem dX10_leastOf_19 : decode cX10_leastOf 19 = .ok (.if_icmp .ge 65, 3) := by decide +kernel
theorem dX10_leastOf_22 : decode cX10_leastOf 22 = .ok (.aload_n 0, 1) := by decide +kernel
theorem dX10_leastOf_23 : decode cX10_leastOf 23 = .ok (.iload_n 1, 1) := by decide +kernel
theorem dX10_leastOf_24 : decode cX10_leastOf 24 = .ok (.iload 5, 2) := by decide +kernel
theorem dX10_leastOf_26 : decode cX10_leastOf 26 = .ok (.iload 7, 2) := by decide +kernel
theorem dX10_leastOf_28 : decode cX10_leastOf 28 = .ok (.invokevirtual 125, 3) := by decide +kernel
theorem dX10_leastOf_31 : decode cX10_leastOf 31 = .ok (.ifCond .eq 47, 3) := by decide +kernel
theorem dX10_leastOf_34 : decode cX10_leastOf 34 = .ok (.aload_n 0, 1) := by decide +kernel
theorem dX10_leastOf_35 : decode cX10_leastOf 35 = .ok (.iload_n 1, 1) := by decide +kernel
theorem dX10_leastOf_36 : decode cX10_leastOf 36 = .ok (.iload 7, 2) := by decide +kernel
theorem dX10_leastOf_38 : decode cX10_leastOf 38 = .ok (.invokevirtual 132, 3) := by decide +kernel
theorem dX10_leastOf_41 : decode cX10_leastOf 41 = .ok (.iload 7, 2) := by decide +kernel
theorem dX10_leastOf_43 : decode cX10_leastOf 43 = .ok (.iload_n 2, 1) := by decide +kernel
theorem dX10_leastOf_44 : decode cX10_leastOf 44 = .ok (.iload_n 3, 1) := by decide +kernel
theorem dX10_leastOf_45 : decode cX10_leastOf 45 = .ok (.iload 4, 2) := by decide +kernel
theorem dX10_leastOf_47 : decode cX10_leastOf 47 = .ok (.invokestatic 156, 3) := by decide +kernel
theorem dX10_leastOf_50 : decode cX10_leastOf 50 = .ok (.iadd, 1) := by decide +kernel
theorem dX10_leastOf_51 : decode cX10_leastOf 51 = .ok (.istore 8, 2) := by decide +kernel
theorem dX10_leastOf_53 : decode cX10_leastOf 53 = .ok (.iload 6, 2) := by decide +kernel
theorem dX10_leastOf_55 : decode cX10_leastOf 55 = .ok (.iload 8, 2) := by decide +kernel
theorem dX10_leastOf_57 : decode cX10_leastOf 57 = .ok (.aload_n 0, 1) := by decide +kernel
theorem dX10_leastOf_58 : decode cX10_leastOf 58 = .ok (.iload_n 1, 1) := by decide +kernel
theorem dX10_leastOf_59 : decode cX10_leastOf 59 = .ok (.iload 7, 2) := by decide +kernel
theorem dX10_leastOf_61 : decode cX10_leastOf 61 = .ok (.invokevirtual 136, 3) := by decide +kernel
theorem dX10_leastOf_64 : decode cX10_leastOf 64 = .ok (.aload_n 0, 1) := by decide +kernel
theorem dX10_leastOf_65 : decode cX10_leastOf 65 = .ok (.getfield 68, 3) := by decide +kernel
theorem dX10_leastOf_68 : decode cX10_leastOf 68 = .ok (.iload 5, 2) := by decide +kernel
theorem dX10_leastOf_70 : decode cX10_leastOf 70 = .ok (.iaload, 1) := by decide +kernel
theorem dX10_leastOf_71 : decode cX10_leastOf 71 = .ok (.isub, 1) := by decide +kernel
theorem dX10_leastOf_72 : decode cX10_leastOf 72 = .ok (.isub, 1) := by decide +kernel
theorem dX10_leastOf_73 : decode cX10_leastOf 73 = .ok (.invokestatic 160, 3) := by decide +kernel
theorem dX10_leastOf_76 : decode cX10_leastOf 76 = .ok (.istore 6, 2) := by decide +kernel
theorem dX10_leastOf_78 : decode cX10_leastOf 78 = .ok (.iinc 7 1, 3) := by decide +kernel
theorem dX10_leastOf_81 : decode cX10_leastOf 81 = .ok (.goto (-69), 3) := by decide +kernel
theorem dX10_leastOf_84 : decode cX10_leastOf 84 = .ok (.iload 6, 2) := by decide +kernel
theorem dX10_leastOf_86 : decode cX10_leastOf 86 = .ok (.ireturn, 1) := by decide +kernel
theorem dX10_settles_0 : decode cX10_settles 0 = .ok (.iconst 0, 1) := by decide +kernel
theorem dX10_settles_1 : decode cX10_settles 1 = .ok (.istore 5, 2) := by decide +kernel
theorem dX10_settles_3 : decode cX10_settles 3 = .ok (.iload 5, 2) := by decide +kernel
theorem dX10_settles_5 : decode cX10_settles 5 = .ok (.aload_n 0, 1) := by decide +kernel
theorem dX10_settles_6 : decode cX10_settles 6 = .ok (.getfield 13, 3) := by decide +kernel
theorem dX10_settles_9 : decode cX10_settles 9 = .ok (.iload_n 1, 1) := by decide +kernel
theorem dX10_settles_10 : decode cX10_settles 10 = .ok (.iaload, 1) := by decide +kernel
theorem dX10_settles_11 : decode cX10_settles 11 = .ok (.if_icmp .ge 40, 3) := by decide +kernel
theorem dX10_settles_14 : decode cX10_settles 14 = .ok (.aload_n 0, 1) := by decide +kernel
theorem dX10_settles_15 : decode cX10_settles 15 = .ok (.iload_n 1, 1) := by decide +kernel
theorem dX10_settles_16 : decode cX10_settles 16 = .ok (.iload_n 2, 1) := by decide +kernel
theorem dX10_settles_17 : decode cX10_settles 17 = .ok (.iload_n 3, 1) := by decide +kernel
theorem dX10_settles_18 : decode cX10_settles 18 = .ok (.iload 4, 2) := by decide +kernel
theorem dX10_settles_20 : decode cX10_settles 20 = .ok (.iload 5, 2) := by decide +kernel
theorem dX10_settles_22 : decode cX10_settles 22 = .ok (.invokevirtual 163, 3) := by decide +kernel
theorem dX10_settles_25 : decode cX10_settles 25 = .ok (.istore 6, 2) := by decide +kernel
theorem dX10_settles_27 : decode cX10_settles 27 = .ok (.aload_n 0, 1) := by decide +kernel
theorem dX10_settles_28 : decode cX10_settles 28 = .ok (.getfield 65, 3) := by decide +kernel
theorem dX10_settles_31 : decode cX10_settles 31 = .ok (.iload 5, 2) := by decide +kernel
theorem dX10_settles_33 : decode cX10_settles 33 = .ok (.iload 6, 2) := by decide +kernel
theorem dX10_settles_35 : decode cX10_settles 35 = .ok (.iastore, 1) := by decide +kernel
theorem dX10_settles_36 : decode cX10_settles 36 = .ok (.aload_n 0, 1) := by decide +kernel
theorem dX10_settles_37 : decode cX10_settles 37 = .ok (.getfield 68, 3) := by decide +kernel
theorem dX10_settles_40 : decode cX10_settles 40 = .ok (.iload 5, 2) := by decide +kernel
theorem dX10_settles_42 : decode cX10_settles 42 = .ok (.iload 6, 2) := by decide +kernel
theorem dX10_settles_44 : decode cX10_settles 44 = .ok (.iastore, 1) := by decide +kernel
theorem dX10_settles_45 : decode cX10_settles 45 = .ok (.iinc 5 1, 3) := by decide +kernel
theorem dX10_settles_48 : decode cX10_settles 48 = .ok (.goto (-45), 3) := by decide +kernel
theorem dX10_settles_51 : decode cX10_settles 51 = .ok (.return_, 1) := by decide +kernel
theorem dX10_finds_0 : decode cX10_finds 0 = .ok (.aload_n 0, 1) := by decide +kernel
theorem dX10_finds_1 : decode cX10_finds 1 = .ok (.iload_n 1, 1) := by decide +kernel
theorem dX10_finds_2 : decode cX10_finds 2 = .ok (.invokevirtual 167, 3) := by decide +kernel
theorem dX10_finds_5 : decode cX10_finds 5 = .ok (.aload_n 0, 1) := by decide +kernel
theorem dX10_finds_6 : decode cX10_finds 6 = .ok (.iload_n 1, 1) := by decide +kernel
theorem dX10_finds_7 : decode cX10_finds 7 = .ok (.iload_n 2, 1) := by decide +kernel
theorem dX10_finds_8 : decode cX10_finds 8 = .ok (.iload_n 3, 1) := by decide +kernel
theorem dX10_finds_9 : decode cX10_finds 9 = .ok (.invokevirtual 171, 3) := by decide +kernel
theorem dX10_finds_12 : decode cX10_finds 12 = .ok (.istore 4, 2) := by decide +kernel
theorem dX10_finds_14 : decode cX10_finds 14 = .ok (.iload 4, 2) := by decide +kernel
theorem dX10_finds_16 : decode cX10_finds 16 = .ok (.ldc 149, 2) := by decide +kernel
theorem dX10_finds_18 : decode cX10_finds 18 = .ok (.if_icmp .eq 12, 3) := by decide +kernel
theorem dX10_finds_21 : decode cX10_finds 21 = .ok (.aload_n 0, 1) := by decide +kernel
theorem dX10_finds_22 : decode cX10_finds 22 = .ok (.iload_n 1, 1) := by decide +kernel
theorem dX10_finds_23 : decode cX10_finds 23 = .ok (.iload_n 2, 1) := by decide +kernel
theorem dX10_finds_24 : decode cX10_finds 24 = .ok (.iload_n 3, 1) := by decide +kernel
theorem dX10_finds_25 : decode cX10_finds 25 = .ok (.iload 4, 2) := by decide +kernel
theorem dX10_finds_27 : decode cX10_finds 27 = .ok (.invokevirtual 174, 3) := by decide +kernel
theorem dX10_finds_30 : decode cX10_finds 30 = .ok (.iload 4, 2) := by decide +kernel
theorem dX10_finds_32 : decode cX10_finds 32 = .ok (.ldc 149, 2) := by decide +kernel
theorem dX10_finds_34 : decode cX10_finds 34 = .ok (.if_icmp .eq 7, 3) := by decide +kernel
theorem dX10_finds_37 : decode cX10_finds 37 = .ok (.iconst 1, 1) := by decide +kernel
theorem dX10_finds_38 : decode cX10_finds 38 = .ok (.goto 4, 3) := by decide +kernel
theorem dX10_finds_41 : decode cX10_finds 41 = .ok (.iconst 0, 1) := by decide +kernel
theorem dX10_finds_42 : decode cX10_finds 42 = .ok (.ireturn, 1) := by decide +kernel
theorem dX10_most_0 : decode cX10_most 0 = .ok (.aload_n 0, 1) := by decide +kernel
theorem dX10_most_1 : decode cX10_most 1 = .ok (.aload_n 0, 1) := by decide +kernel
theorem dX10_most_2 : decode cX10_most 2 = .ok (.iload_n 1, 1) := by decide +kernel
theorem dX10_most_3 : decode cX10_most 3 = .ok (.iload_n 2, 1) := by decide +kernel
theorem dX10_most_4 : decode cX10_most 4 = .ok (.iload_n 3, 1) := by decide +kernel
theorem dX10_most_5 : decode cX10_most 5 = .ok (.invokevirtual 178, 3) := by decide +kernel
theorem dX10_most_8 : decode cX10_most 8 = .ok (.putfield 92, 3) := by decide +kernel
theorem dX10_most_11 : decode cX10_most 11 = .ok (.aload_n 0, 1) := by decide +kernel
theorem dX10_most_12 : decode cX10_most 12 = .ok (.getfield 92, 3) := by decide +kernel
theorem dX10_most_15 : decode cX10_most 15 = .ok (.ifCond .le 5, 3) := by decide +kernel
theorem dX10_most_18 : decode cX10_most 18 = .ok (.iconst 0, 1) := by decide +kernel
theorem dX10_most_19 : decode cX10_most 19 = .ok (.ireturn, 1) := by decide +kernel
theorem dX10_most_20 : decode cX10_most 20 = .ok (.aload_n 0, 1) := by decide +kernel
theorem dX10_most_21 : decode cX10_most 21 = .ok (.iload_n 1, 1) := by decide +kernel
theorem dX10_most_22 : decode cX10_most 22 = .ok (.invokevirtual 167, 3) := by decide +kernel
theorem dX10_most_25 : decode cX10_most 25 = .ok (.aload_n 0, 1) := by decide +kernel
theorem dX10_most_26 : decode cX10_most 26 = .ok (.iload_n 1, 1) := by decide +kernel
theorem dX10_most_27 : decode cX10_most 27 = .ok (.iload_n 2, 1) := by decide +kernel
theorem dX10_most_28 : decode cX10_most 28 = .ok (.iload_n 3, 1) := by decide +kernel
theorem dX10_most_29 : decode cX10_most 29 = .ok (.invokevirtual 171, 3) := by decide +kernel
theorem dX10_most_32 : decode cX10_most 32 = .ok (.istore 4, 2) := by decide +kernel
theorem dX10_most_34 : decode cX10_most 34 = .ok (.aload_n 0, 1) := by decide +kernel
theorem dX10_most_35 : decode cX10_most 35 = .ok (.iload 4, 2) := by decide +kernel
theorem dX10_most_37 : decode cX10_most 37 = .ok (.ldc 149, 2) := by decide +kernel
theorem dX10_most_39 : decode cX10_most 39 = .ok (.if_icmp .ne 7, 3) := by decide +kernel
theorem dX10_most_42 : decode cX10_most 42 = .ok (.iconst 3, 1) := by decide +kernel
theorem dX10_most_43 : decode cX10_most 43 = .ok (.goto 4, 3) := by decide +kernel
theorem dX10_most_46 : decode cX10_most 46 = .ok (.iconst 0, 1) := by decide +kernel
theorem dX10_most_47 : decode cX10_most 47 = .ok (.putfield 92, 3) := by decide +kernel
theorem dX10_most_50 : decode cX10_most 50 = .ok (.aload_n 0, 1) := by decide +kernel
theorem dX10_most_51 : decode cX10_most 51 = .ok (.getfield 92, 3) := by decide +kernel
theorem dX10_most_54 : decode cX10_most 54 = .ok (.ifCond .le 7, 3) := by decide +kernel
theorem dX10_most_57 : decode cX10_most 57 = .ok (.iconst 0, 1) := by decide +kernel
theorem dX10_most_58 : decode cX10_most 58 = .ok (.goto 5, 3) := by decide +kernel
theorem dX10_most_61 : decode cX10_most 61 = .ok (.iload 4, 2) := by decide +kernel
theorem dX10_most_63 : decode cX10_most 63 = .ok (.ireturn, 1) := by decide +kernel
theorem dX10_flow_0 : decode cX10_flow 0 = .ok (.aload_n 0, 1) := by decide +kernel
theorem dX10_flow_1 : decode cX10_flow 1 = .ok (.aload_n 0, 1) := by decide +kernel
theorem dX10_flow_2 : decode cX10_flow 2 = .ok (.iload_n 1, 1) := by decide +kernel
theorem dX10_flow_3 : decode cX10_flow 3 = .ok (.iload_n 2, 1) := by decide +kernel
theorem dX10_flow_4 : decode cX10_flow 4 = .ok (.iload_n 3, 1) := by decide +kernel
theorem dX10_flow_5 : decode cX10_flow 5 = .ok (.iload 4, 2) := by decide +kernel
theorem dX10_flow_7 : decode cX10_flow 7 = .ok (.invokevirtual 181, 3) := by decide +kernel
theorem dX10_flow_10 : decode cX10_flow 10 = .ok (.putfield 92, 3) := by decide +kernel
theorem dX10_flow_13 : decode cX10_flow 13 = .ok (.aload_n 0, 1) := by decide +kernel
theorem dX10_flow_14 : decode cX10_flow 14 = .ok (.aload_n 0, 1) := by decide +kernel
theorem dX10_flow_15 : decode cX10_flow 15 = .ok (.getfield 92, 3) := by decide +kernel
theorem dX10_flow_18 : decode cX10_flow 18 = .ok (.ifCond .le 10, 3) := by decide +kernel
theorem dX10_flow_21 : decode cX10_flow 21 = .ok (.aload_n 0, 1) := by decide +kernel
theorem dX10_flow_22 : decode cX10_flow 22 = .ok (.getfield 92, 3) := by decide +kernel
theorem dX10_flow_25 : decode cX10_flow 25 = .ok (.goto 18, 3) := by decide +kernel
theorem dX10_flow_28 : decode cX10_flow 28 = .ok (.aload_n 0, 1) := by decide +kernel
theorem dX10_flow_29 : decode cX10_flow 29 = .ok (.iload_n 1, 1) := by decide +kernel
theorem dX10_flow_30 : decode cX10_flow 30 = .ok (.iload_n 2, 1) := by decide +kernel
theorem dX10_flow_31 : decode cX10_flow 31 = .ok (.iload_n 3, 1) := by decide +kernel
theorem dX10_flow_32 : decode cX10_flow 32 = .ok (.invokevirtual 184, 3) := by decide +kernel
theorem dX10_flow_35 : decode cX10_flow 35 = .ok (.ifCond .eq 7, 3) := by decide +kernel
theorem dX10_flow_38 : decode cX10_flow 38 = .ok (.iconst 0, 1) := by decide +kernel
theorem dX10_flow_39 : decode cX10_flow 39 = .ok (.goto 4, 3) := by decide +kernel
theorem dX10_flow_42 : decode cX10_flow 42 = .ok (.iconst 3, 1) := by decide +kernel
theorem dX10_flow_43 : decode cX10_flow 43 = .ok (.putfield 92, 3) := by decide +kernel
theorem dX10_flow_46 : decode cX10_flow 46 = .ok (.aload_n 0, 1) := by decide +kernel
theorem dX10_flow_47 : decode cX10_flow 47 = .ok (.getfield 92, 3) := by decide +kernel
theorem dX10_flow_50 : decode cX10_flow 50 = .ok (.ifCond .le 7, 3) := by decide +kernel
theorem dX10_flow_53 : decode cX10_flow 53 = .ok (.iconst 0, 1) := by decide +kernel
theorem dX10_flow_54 : decode cX10_flow 54 = .ok (.goto 10, 3) := by decide +kernel
theorem dX10_flow_57 : decode cX10_flow 57 = .ok (.aload_n 0, 1) := by decide +kernel
theorem dX10_flow_58 : decode cX10_flow 58 = .ok (.getfield 65, 3) := by decide +kernel
theorem dX10_flow_61 : decode cX10_flow 61 = .ok (.iload 4, 2) := by decide +kernel
theorem dX10_flow_63 : decode cX10_flow 63 = .ok (.iaload, 1) := by decide +kernel
theorem dX10_flow_64 : decode cX10_flow 64 = .ok (.ireturn, 1) := by decide +kernel
theorem dX10_crowd_0 : decode cX10_crowd 0 = .ok (.aload_n 0, 1) := by decide +kernel
theorem dX10_crowd_1 : decode cX10_crowd 1 = .ok (.aload_n 0, 1) := by decide +kernel
theorem dX10_crowd_2 : decode cX10_crowd 2 = .ok (.iload_n 1, 1) := by decide +kernel
theorem dX10_crowd_3 : decode cX10_crowd 3 = .ok (.iload_n 2, 1) := by decide +kernel
theorem dX10_crowd_4 : decode cX10_crowd 4 = .ok (.iload_n 3, 1) := by decide +kernel
theorem dX10_crowd_5 : decode cX10_crowd 5 = .ok (.invokevirtual 178, 3) := by decide +kernel
theorem dX10_crowd_8 : decode cX10_crowd 8 = .ok (.putfield 92, 3) := by decide +kernel
theorem dX10_crowd_11 : decode cX10_crowd 11 = .ok (.aload_n 0, 1) := by decide +kernel
theorem dX10_crowd_12 : decode cX10_crowd 12 = .ok (.getfield 92, 3) := by decide +kernel
theorem dX10_crowd_15 : decode cX10_crowd 15 = .ok (.ifCond .le 5, 3) := by decide +kernel
theorem dX10_crowd_18 : decode cX10_crowd 18 = .ok (.iconst 0, 1) := by decide +kernel
theorem dX10_crowd_19 : decode cX10_crowd 19 = .ok (.ireturn, 1) := by decide +kernel
theorem dX10_crowd_20 : decode cX10_crowd 20 = .ok (.aload_n 0, 1) := by decide +kernel
theorem dX10_crowd_21 : decode cX10_crowd 21 = .ok (.iload_n 1, 1) := by decide +kernel
theorem dX10_crowd_22 : decode cX10_crowd 22 = .ok (.invokevirtual 167, 3) := by decide +kernel
theorem dX10_crowd_25 : decode cX10_crowd 25 = .ok (.aload_n 0, 1) := by decide +kernel
theorem dX10_crowd_26 : decode cX10_crowd 26 = .ok (.iload_n 1, 1) := by decide +kernel
theorem dX10_crowd_27 : decode cX10_crowd 27 = .ok (.iload_n 2, 1) := by decide +kernel
theorem dX10_crowd_28 : decode cX10_crowd 28 = .ok (.iload_n 3, 1) := by decide +kernel
theorem dX10_crowd_29 : decode cX10_crowd 29 = .ok (.invokevirtual 145, 3) := by decide +kernel
theorem dX10_crowd_32 : decode cX10_crowd 32 = .ok (.istore 4, 2) := by decide +kernel
theorem dX10_crowd_34 : decode cX10_crowd 34 = .ok (.aload_n 0, 1) := by decide +kernel
theorem dX10_crowd_35 : decode cX10_crowd 35 = .ok (.iload 4, 2) := by decide +kernel
theorem dX10_crowd_37 : decode cX10_crowd 37 = .ok (.ifCond .ge 7, 3) := by decide +kernel
theorem dX10_crowd_40 : decode cX10_crowd 40 = .ok (.iconst 3, 1) := by decide +kernel
theorem dX10_crowd_41 : decode cX10_crowd 41 = .ok (.goto 4, 3) := by decide +kernel
theorem dX10_crowd_44 : decode cX10_crowd 44 = .ok (.iconst 0, 1) := by decide +kernel
theorem dX10_crowd_45 : decode cX10_crowd 45 = .ok (.putfield 92, 3) := by decide +kernel
theorem dX10_crowd_48 : decode cX10_crowd 48 = .ok (.aload_n 0, 1) := by decide +kernel
theorem dX10_crowd_49 : decode cX10_crowd 49 = .ok (.getfield 92, 3) := by decide +kernel
theorem dX10_crowd_52 : decode cX10_crowd 52 = .ok (.ifCond .le 7, 3) := by decide +kernel
theorem dX10_crowd_55 : decode cX10_crowd 55 = .ok (.iconst 0, 1) := by decide +kernel
theorem dX10_crowd_56 : decode cX10_crowd 56 = .ok (.goto 5, 3) := by decide +kernel
theorem dX10_crowd_59 : decode cX10_crowd 59 = .ok (.iload 4, 2) := by decide +kernel
theorem dX10_crowd_61 : decode cX10_crowd 61 = .ok (.ireturn, 1) := by decide +kernel
theorem dX10_cut_0 : decode cX10_cut 0 = .ok (.aload_n 0, 1) := by decide +kernel
theorem dX10_cut_1 : decode cX10_cut 1 = .ok (.iload_n 1, 1) := by decide +kernel
theorem dX10_cut_2 : decode cX10_cut 2 = .ok (.iload_n 2, 1) := by decide +kernel
theorem dX10_cut_3 : decode cX10_cut 3 = .ok (.iload_n 3, 1) := by decide +kernel
theorem dX10_cut_4 : decode cX10_cut 4 = .ok (.invokevirtual 187, 3) := by decide +kernel
theorem dX10_cut_7 : decode cX10_cut 7 = .ok (.istore 5, 2) := by decide +kernel
theorem dX10_cut_9 : decode cX10_cut 9 = .ok (.iload 4, 2) := by decide +kernel
theorem dX10_cut_11 : decode cX10_cut 11 = .ok (.ifCond .eq 7, 3) := by decide +kernel
theorem dX10_cut_14 : decode cX10_cut 14 = .ok (.iconst 0, 1) := by decide +kernel
theorem dX10_cut_15 : decode cX10_cut 15 = .ok (.goto 6, 3) := by decide +kernel
theorem dX10_cut_18 : decode cX10_cut 18 = .ok (.sipush 255, 3) := by decide +kernel
theorem dX10_cut_21 : decode cX10_cut 21 = .ok (.istore 6, 2) := by decide +kernel
theorem dX10_cut_23 : decode cX10_cut 23 = .ok (.iconst 0, 1) := by decide +kernel
theorem dX10_cut_24 : decode cX10_cut 24 = .ok (.istore 7, 2) := by decide +kernel
theorem dX10_cut_26 : decode cX10_cut 26 = .ok (.aload_n 0, 1) := by decide +kernel
theorem dX10_cut_27 : decode cX10_cut 27 = .ok (.getfield 92, 3) := by decide +kernel
theorem dX10_cut_30 : decode cX10_cut 30 = .ok (.ifCond .ne 61, 3) := by decide +kernel
theorem dX10_cut_33 : decode cX10_cut 33 = .ok (.iload 7, 2) := by decide +kernel
theorem dX10_cut_35 : decode cX10_cut 35 = .ok (.aload_n 0, 1) := by decide +kernel
theorem dX10_cut_36 : decode cX10_cut 36 = .ok (.iload_n 1, 1) := by decide +kernel
theorem dX10_cut_37 : decode cX10_cut 37 = .ok (.invokevirtual 128, 3) := by decide +kernel
theorem dX10_cut_40 : decode cX10_cut 40 = .ok (.if_icmp .ge 51, 3) := by decide +kernel
theorem dX10_cut_43 : decode cX10_cut 43 = .ok (.iload 7, 2) := by decide +kernel
theorem dX10_cut_45 : decode cX10_cut 45 = .ok (.iload_n 2, 1) := by decide +kernel
theorem dX10_cut_46 : decode cX10_cut 46 = .ok (.iload_n 3, 1) := by decide +kernel
theorem dX10_cut_47 : decode cX10_cut 47 = .ok (.invokestatic 150, 3) := by decide +kernel
theorem dX10_cut_50 : decode cX10_cut 50 = .ok (.ifCond .eq 35, 3) := by decide +kernel
theorem dX10_cut_53 : decode cX10_cut 53 = .ok (.aload_n 0, 1) := by decide +kernel
theorem dX10_cut_54 : decode cX10_cut 54 = .ok (.iload_n 1, 1) := by decide +kernel
theorem dX10_cut_55 : decode cX10_cut 55 = .ok (.iload 7, 2) := by decide +kernel
theorem dX10_cut_57 : decode cX10_cut 57 = .ok (.invokevirtual 153, 3) := by decide +kernel
theorem dX10_cut_60 : decode cX10_cut 60 = .ok (.iload 5, 2) := by decide +kernel
theorem dX10_cut_62 : decode cX10_cut 62 = .ok (.if_icmp .ne 23, 3) := by decide +kernel
theorem dX10_cut_65 : decode cX10_cut 65 = .ok (.iload 4, 2) := by decide +kernel
theorem dX10_cut_67 : decode cX10_cut 67 = .ok (.ifCond .eq 11, 3) := by decide +kernel
theorem dX10_cut_70 : decode cX10_cut 70 = .ok (.iload 6, 2) := by decide +kernel
theorem dX10_cut_72 : decode cX10_cut 72 = .ok (.iload 7, 2) := by decide +kernel
theorem dX10_cut_74 : decode cX10_cut 74 = .ok (.ior, 1) := by decide +kernel
theorem dX10_cut_75 : decode cX10_cut 75 = .ok (.goto 8, 3) := by decide +kernel
theorem dX10_cut_78 : decode cX10_cut 78 = .ok (.iload 6, 2) := by decide +kernel
theorem dX10_cut_80 : decode cX10_cut 80 = .ok (.iload 7, 2) := by decide +kernel
theorem dX10_cut_82 : decode cX10_cut 82 = .ok (.iand, 1) := by decide +kernel
theorem dX10_cut_83 : decode cX10_cut 83 = .ok (.istore 6, 2) := by decide +kernel
theorem dX10_cut_85 : decode cX10_cut 85 = .ok (.iinc 7 1, 3) := by decide +kernel
theorem dX10_cut_88 : decode cX10_cut 88 = .ok (.goto (-62), 3) := by decide +kernel
theorem dX10_cut_91 : decode cX10_cut 91 = .ok (.aload_n 0, 1) := by decide +kernel
theorem dX10_cut_92 : decode cX10_cut 92 = .ok (.getfield 92, 3) := by decide +kernel
theorem dX10_cut_95 : decode cX10_cut 95 = .ok (.ifCond .le 7, 3) := by decide +kernel
theorem dX10_cut_98 : decode cX10_cut 98 = .ok (.iconst 0, 1) := by decide +kernel
theorem dX10_cut_99 : decode cX10_cut 99 = .ok (.goto 5, 3) := by decide +kernel
theorem dX10_cut_102 : decode cX10_cut 102 = .ok (.iload 6, 2) := by decide +kernel
theorem dX10_cut_104 : decode cX10_cut 104 = .ok (.ireturn, 1) := by decide +kernel
theorem dX10_cutSum_0 : decode cX10_cutSum 0 = .ok (.aload_n 0, 1) := by decide +kernel
theorem dX10_cutSum_1 : decode cX10_cutSum 1 = .ok (.aload_n 0, 1) := by decide +kernel
theorem dX10_cutSum_2 : decode cX10_cutSum 2 = .ok (.iload_n 1, 1) := by decide +kernel
theorem dX10_cutSum_3 : decode cX10_cutSum 3 = .ok (.iload_n 2, 1) := by decide +kernel
theorem dX10_cutSum_4 : decode cX10_cutSum 4 = .ok (.iload_n 3, 1) := by decide +kernel
theorem dX10_cutSum_5 : decode cX10_cutSum 5 = .ok (.invokevirtual 178, 3) := by decide +kernel
theorem dX10_cutSum_8 : decode cX10_cutSum 8 = .ok (.putfield 92, 3) := by decide +kernel
theorem dX10_cutSum_11 : decode cX10_cutSum 11 = .ok (.aload_n 0, 1) := by decide +kernel
theorem dX10_cutSum_12 : decode cX10_cutSum 12 = .ok (.aload_n 0, 1) := by decide +kernel
theorem dX10_cutSum_13 : decode cX10_cutSum 13 = .ok (.getfield 92, 3) := by decide +kernel
theorem dX10_cutSum_16 : decode cX10_cutSum 16 = .ok (.ifCond .le 10, 3) := by decide +kernel
theorem dX10_cutSum_19 : decode cX10_cutSum 19 = .ok (.aload_n 0, 1) := by decide +kernel
theorem dX10_cutSum_20 : decode cX10_cutSum 20 = .ok (.getfield 92, 3) := by decide +kernel
theorem dX10_cutSum_23 : decode cX10_cutSum 23 = .ok (.goto 34, 3) := by decide +kernel
theorem dX10_cutSum_26 : decode cX10_cutSum 26 = .ok (.iload 4, 2) := by decide +kernel
theorem dX10_cutSum_28 : decode cX10_cutSum 28 = .ok (.iconst 0, 1) := by decide +kernel
theorem dX10_cutSum_29 : decode cX10_cutSum 29 = .ok (.aload_n 0, 1) := by decide +kernel
theorem dX10_cutSum_30 : decode cX10_cutSum 30 = .ok (.iload_n 1, 1) := by decide +kernel
theorem dX10_cutSum_31 : decode cX10_cutSum 31 = .ok (.invokevirtual 128, 3) := by decide +kernel
theorem dX10_cutSum_34 : decode cX10_cutSum 34 = .ok (.iconst 1, 1) := by decide +kernel
theorem dX10_cutSum_35 : decode cX10_cutSum 35 = .ok (.isub, 1) := by decide +kernel
theorem dX10_cutSum_36 : decode cX10_cutSum 36 = .ok (.invokestatic 102, 3) := by decide +kernel
theorem dX10_cutSum_39 : decode cX10_cutSum 39 = .ok (.ifCond .eq 13, 3) := by decide +kernel
theorem dX10_cutSum_42 : decode cX10_cutSum 42 = .ok (.iload 4, 2) := by decide +kernel
theorem dX10_cutSum_44 : decode cX10_cutSum 44 = .ok (.iload_n 2, 1) := by decide +kernel
theorem dX10_cutSum_45 : decode cX10_cutSum 45 = .ok (.iload_n 3, 1) := by decide +kernel
theorem dX10_cutSum_46 : decode cX10_cutSum 46 = .ok (.invokestatic 150, 3) := by decide +kernel
theorem dX10_cutSum_49 : decode cX10_cutSum 49 = .ok (.ifCond .ne 7, 3) := by decide +kernel
theorem dX10_cutSum_52 : decode cX10_cutSum 52 = .ok (.iconst 2, 1) := by decide +kernel
theorem dX10_cutSum_53 : decode cX10_cutSum 53 = .ok (.goto 4, 3) := by decide +kernel
theorem dX10_cutSum_56 : decode cX10_cutSum 56 = .ok (.iconst 0, 1) := by decide +kernel
theorem dX10_cutSum_57 : decode cX10_cutSum 57 = .ok (.putfield 92, 3) := by decide +kernel
theorem dX10_cutSum_60 : decode cX10_cutSum 60 = .ok (.aload_n 0, 1) := by decide +kernel
theorem dX10_cutSum_61 : decode cX10_cutSum 61 = .ok (.getfield 92, 3) := by decide +kernel
theorem dX10_cutSum_64 : decode cX10_cutSum 64 = .ok (.ifCond .le 5, 3) := by decide +kernel
theorem dX10_cutSum_67 : decode cX10_cutSum 67 = .ok (.iconst 0, 1) := by decide +kernel
theorem dX10_cutSum_68 : decode cX10_cutSum 68 = .ok (.ireturn, 1) := by decide +kernel
theorem dX10_cutSum_69 : decode cX10_cutSum 69 = .ok (.aload_n 0, 1) := by decide +kernel
theorem dX10_cutSum_70 : decode cX10_cutSum 70 = .ok (.iload_n 1, 1) := by decide +kernel
theorem dX10_cutSum_71 : decode cX10_cutSum 71 = .ok (.invokevirtual 167, 3) := by decide +kernel
theorem dX10_cutSum_74 : decode cX10_cutSum 74 = .ok (.aload_n 0, 1) := by decide +kernel
theorem dX10_cutSum_75 : decode cX10_cutSum 75 = .ok (.iload_n 1, 1) := by decide +kernel
theorem dX10_cutSum_76 : decode cX10_cutSum 76 = .ok (.iload 4, 2) := by decide +kernel
theorem dX10_cutSum_78 : decode cX10_cutSum 78 = .ok (.invokevirtual 153, 3) := by decide +kernel
theorem dX10_cutSum_81 : decode cX10_cutSum 81 = .ok (.ireturn, 1) := by decide +kernel
theorem dX10_cuts_0 : decode cX10_cuts 0 = .ok (.aload_n 0, 1) := by decide +kernel
theorem dX10_cuts_1 : decode cX10_cuts 1 = .ok (.iload_n 1, 1) := by decide +kernel
theorem dX10_cuts_2 : decode cX10_cuts 2 = .ok (.iload_n 2, 1) := by decide +kernel
theorem dX10_cuts_3 : decode cX10_cuts 3 = .ok (.iload_n 3, 1) := by decide +kernel
theorem dX10_cuts_4 : decode cX10_cuts 4 = .ok (.invokevirtual 187, 3) := by decide +kernel
theorem dX10_cuts_7 : decode cX10_cuts 7 = .ok (.istore 4, 2) := by decide +kernel
theorem dX10_cuts_9 : decode cX10_cuts 9 = .ok (.iconst 0, 1) := by decide +kernel
theorem dX10_cuts_10 : decode cX10_cuts 10 = .ok (.istore 5, 2) := by decide +kernel
theorem dX10_cuts_12 : decode cX10_cuts 12 = .ok (.iconst 0, 1) := by decide +kernel
theorem dX10_cuts_13 : decode cX10_cuts 13 = .ok (.istore 6, 2) := by decide +kernel
theorem dX10_cuts_15 : decode cX10_cuts 15 = .ok (.aload_n 0, 1) := by decide +kernel
theorem dX10_cuts_16 : decode cX10_cuts 16 = .ok (.getfield 92, 3) := by decide +kernel
theorem dX10_cuts_19 : decode cX10_cuts 19 = .ok (.ifCond .ne 51, 3) := by decide +kernel
theorem dX10_cuts_22 : decode cX10_cuts 22 = .ok (.iload 6, 2) := by decide +kernel
theorem dX10_cuts_24 : decode cX10_cuts 24 = .ok (.aload_n 0, 1) := by decide +kernel
theorem dX10_cuts_25 : decode cX10_cuts 25 = .ok (.iload_n 1, 1) := by decide +kernel
theorem dX10_cuts_26 : decode cX10_cuts 26 = .ok (.invokevirtual 128, 3) := by decide +kernel
theorem dX10_cuts_29 : decode cX10_cuts 29 = .ok (.if_icmp .ge 41, 3) := by decide +kernel
theorem dX10_cuts_32 : decode cX10_cuts 32 = .ok (.iload 5, 2) := by decide +kernel
theorem dX10_cuts_34 : decode cX10_cuts 34 = .ok (.iload 6, 2) := by decide +kernel
theorem dX10_cuts_36 : decode cX10_cuts 36 = .ok (.iload_n 2, 1) := by decide +kernel
theorem dX10_cuts_37 : decode cX10_cuts 37 = .ok (.iload_n 3, 1) := by decide +kernel
theorem dX10_cuts_38 : decode cX10_cuts 38 = .ok (.invokestatic 150, 3) := by decide +kernel
theorem dX10_cuts_41 : decode cX10_cuts 41 = .ok (.ifCond .eq 19, 3) := by decide +kernel
theorem dX10_cuts_44 : decode cX10_cuts 44 = .ok (.aload_n 0, 1) := by decide +kernel
theorem dX10_cuts_45 : decode cX10_cuts 45 = .ok (.iload_n 1, 1) := by decide +kernel
theorem dX10_cuts_46 : decode cX10_cuts 46 = .ok (.iload 6, 2) := by decide +kernel
theorem dX10_cuts_48 : decode cX10_cuts 48 = .ok (.invokevirtual 153, 3) := by decide +kernel
theorem dX10_cuts_51 : decode cX10_cuts 51 = .ok (.iload 4, 2) := by decide +kernel
theorem dX10_cuts_53 : decode cX10_cuts 53 = .ok (.if_icmp .ne 7, 3) := by decide +kernel
theorem dX10_cuts_56 : decode cX10_cuts 56 = .ok (.iconst 1, 1) := by decide +kernel
theorem dX10_cuts_57 : decode cX10_cuts 57 = .ok (.goto 4, 3) := by decide +kernel
theorem dX10_cuts_60 : decode cX10_cuts 60 = .ok (.iconst 0, 1) := by decide +kernel
theorem dX10_cuts_61 : decode cX10_cuts 61 = .ok (.iadd, 1) := by decide +kernel
theorem dX10_cuts_62 : decode cX10_cuts 62 = .ok (.istore 5, 2) := by decide +kernel
theorem dX10_cuts_64 : decode cX10_cuts 64 = .ok (.iinc 6 1, 3) := by decide +kernel
theorem dX10_cuts_67 : decode cX10_cuts 67 = .ok (.goto (-52), 3) := by decide +kernel
theorem dX10_cuts_70 : decode cX10_cuts 70 = .ok (.iload 5, 2) := by decide +kernel
theorem dX10_cuts_72 : decode cX10_cuts 72 = .ok (.ireturn, 1) := by decide +kernel
theorem dX10_isFull_0 : decode cX10_isFull 0 = .ok (.aload_n 0, 1) := by decide +kernel
theorem dX10_isFull_1 : decode cX10_isFull 1 = .ok (.aload_n 0, 1) := by decide +kernel
theorem dX10_isFull_2 : decode cX10_isFull 2 = .ok (.iload_n 1, 1) := by decide +kernel
theorem dX10_isFull_3 : decode cX10_isFull 3 = .ok (.iload_n 2, 1) := by decide +kernel
theorem dX10_isFull_4 : decode cX10_isFull 4 = .ok (.iload_n 3, 1) := by decide +kernel
theorem dX10_isFull_5 : decode cX10_isFull 5 = .ok (.iload 4, 2) := by decide +kernel
theorem dX10_isFull_7 : decode cX10_isFull 7 = .ok (.invokevirtual 181, 3) := by decide +kernel
theorem dX10_isFull_10 : decode cX10_isFull 10 = .ok (.putfield 92, 3) := by decide +kernel
theorem dX10_isFull_13 : decode cX10_isFull 13 = .ok (.aload_n 0, 1) := by decide +kernel
theorem dX10_isFull_14 : decode cX10_isFull 14 = .ok (.getfield 92, 3) := by decide +kernel
theorem dX10_isFull_17 : decode cX10_isFull 17 = .ok (.ifCond .le 5, 3) := by decide +kernel
theorem dX10_isFull_20 : decode cX10_isFull 20 = .ok (.iconst 0, 1) := by decide +kernel
theorem dX10_isFull_21 : decode cX10_isFull 21 = .ok (.ireturn, 1) := by decide +kernel
theorem dX10_isFull_22 : decode cX10_isFull 22 = .ok (.aload_n 0, 1) := by decide +kernel
theorem dX10_isFull_23 : decode cX10_isFull 23 = .ok (.iload_n 1, 1) := by decide +kernel
theorem dX10_isFull_24 : decode cX10_isFull 24 = .ok (.iload_n 2, 1) := by decide +kernel
theorem dX10_isFull_25 : decode cX10_isFull 25 = .ok (.iload_n 3, 1) := by decide +kernel
theorem dX10_isFull_26 : decode cX10_isFull 26 = .ok (.invokevirtual 187, 3) := by decide +kernel
theorem dX10_isFull_29 : decode cX10_isFull 29 = .ok (.istore 5, 2) := by decide +kernel
theorem dX10_isFull_31 : decode cX10_isFull 31 = .ok (.aload_n 0, 1) := by decide +kernel
theorem dX10_isFull_32 : decode cX10_isFull 32 = .ok (.getfield 92, 3) := by decide +kernel
theorem dX10_isFull_35 : decode cX10_isFull 35 = .ok (.ifCond .ne 28, 3) := by decide +kernel
theorem dX10_isFull_38 : decode cX10_isFull 38 = .ok (.aload_n 0, 1) := by decide +kernel
theorem dX10_isFull_39 : decode cX10_isFull 39 = .ok (.iload_n 1, 1) := by decide +kernel
theorem dX10_isFull_40 : decode cX10_isFull 40 = .ok (.iload_n 2, 1) := by decide +kernel
theorem dX10_isFull_41 : decode cX10_isFull 41 = .ok (.iload_n 3, 1) := by decide +kernel
theorem dX10_isFull_42 : decode cX10_isFull 42 = .ok (.iload 5, 2) := by decide +kernel
theorem dX10_isFull_44 : decode cX10_isFull 44 = .ok (.iload 4, 2) := by decide +kernel
theorem dX10_isFull_46 : decode cX10_isFull 46 = .ok (.invokevirtual 163, 3) := by decide +kernel
theorem dX10_isFull_49 : decode cX10_isFull 49 = .ok (.aload_n 0, 1) := by decide +kernel
theorem dX10_isFull_50 : decode cX10_isFull 50 = .ok (.getfield 68, 3) := by decide +kernel
theorem dX10_isFull_53 : decode cX10_isFull 53 = .ok (.iload 4, 2) := by decide +kernel
theorem dX10_isFull_55 : decode cX10_isFull 55 = .ok (.iaload, 1) := by decide +kernel
theorem dX10_isFull_56 : decode cX10_isFull 56 = .ok (.if_icmp .ne 7, 3) := by decide +kernel
theorem dX10_isFull_59 : decode cX10_isFull 59 = .ok (.iconst 1, 1) := by decide +kernel
theorem dX10_isFull_60 : decode cX10_isFull 60 = .ok (.goto 4, 3) := by decide +kernel
theorem dX10_isFull_63 : decode cX10_isFull 63 = .ok (.iconst 0, 1) := by decide +kernel
theorem dX10_isFull_64 : decode cX10_isFull 64 = .ok (.ireturn, 1) := by decide +kernel
theorem dX10_isOpen_0 : decode cX10_isOpen 0 = .ok (.iload_n 2, 1) := by decide +kernel
theorem dX10_isOpen_1 : decode cX10_isOpen 1 = .ok (.bipush 16, 2) := by decide +kernel
theorem dX10_isOpen_3 : decode cX10_isOpen 3 = .ok (.if_icmp .ge 41, 3) := by decide +kernel
theorem dX10_isOpen_6 : decode cX10_isOpen 6 = .ok (.iload_n 2, 1) := by decide +kernel
theorem dX10_isOpen_7 : decode cX10_isOpen 7 = .ok (.aload_n 0, 1) := by decide +kernel
theorem dX10_isOpen_8 : decode cX10_isOpen 8 = .ok (.getfield 13, 3) := by decide +kernel
theorem dX10_isOpen_11 : decode cX10_isOpen 11 = .ok (.iload_n 1, 1) := by decide +kernel
theorem dX10_isOpen_12 : decode cX10_isOpen 12 = .ok (.iaload, 1) := by decide +kernel
theorem dX10_isOpen_13 : decode cX10_isOpen 13 = .ok (.if_icmp .ge 27, 3) := by decide +kernel
theorem dX10_isOpen_16 : decode cX10_isOpen 16 = .ok (.aload_n 0, 1) := by decide +kernel
theorem dX10_isOpen_17 : decode cX10_isOpen 17 = .ok (.getfield 71, 3) := by decide +kernel
theorem dX10_isOpen_20 : decode cX10_isOpen 20 = .ok (.iload_n 2, 1) := by decide +kernel
theorem dX10_isOpen_21 : decode cX10_isOpen 21 = .ok (.iaload, 1) := by decide +kernel
theorem dX10_isOpen_22 : decode cX10_isOpen 22 = .ok (.aload_n 0, 1) := by decide +kernel
theorem dX10_isOpen_23 : decode cX10_isOpen 23 = .ok (.getfield 25, 3) := by decide +kernel
theorem dX10_isOpen_26 : decode cX10_isOpen 26 = .ok (.bipush 16, 2) := by decide +kernel
theorem dX10_isOpen_28 : decode cX10_isOpen 28 = .ok (.iload_n 1, 1) := by decide +kernel
theorem dX10_isOpen_29 : decode cX10_isOpen 29 = .ok (.imul, 1) := by decide +kernel
theorem dX10_isOpen_30 : decode cX10_isOpen 30 = .ok (.iload_n 2, 1) := by decide +kernel
theorem dX10_isOpen_31 : decode cX10_isOpen 31 = .ok (.iadd, 1) := by decide +kernel
theorem dX10_isOpen_32 : decode cX10_isOpen 32 = .ok (.iaload, 1) := by decide +kernel
theorem dX10_isOpen_33 : decode cX10_isOpen 33 = .ok (.if_icmp .ge 7, 3) := by decide +kernel
theorem dX10_isOpen_36 : decode cX10_isOpen 36 = .ok (.iconst 1, 1) := by decide +kernel
theorem dX10_isOpen_37 : decode cX10_isOpen 37 = .ok (.goto 51, 3) := by decide +kernel
theorem dX10_isOpen_40 : decode cX10_isOpen 40 = .ok (.iconst 0, 1) := by decide +kernel
theorem dX10_isOpen_41 : decode cX10_isOpen 41 = .ok (.goto 47, 3) := by decide +kernel
theorem dX10_isOpen_44 : decode cX10_isOpen 44 = .ok (.iload_n 2, 1) := by decide +kernel
theorem dX10_isOpen_45 : decode cX10_isOpen 45 = .ok (.bipush 16, 2) := by decide +kernel
theorem dX10_isOpen_47 : decode cX10_isOpen 47 = .ok (.isub, 1) := by decide +kernel
theorem dX10_isOpen_48 : decode cX10_isOpen 48 = .ok (.aload_n 0, 1) := by decide +kernel
theorem dX10_isOpen_49 : decode cX10_isOpen 49 = .ok (.getfield 13, 3) := by decide +kernel
theorem dX10_isOpen_52 : decode cX10_isOpen 52 = .ok (.iload_n 1, 1) := by decide +kernel
theorem dX10_isOpen_53 : decode cX10_isOpen 53 = .ok (.iaload, 1) := by decide +kernel
theorem dX10_isOpen_54 : decode cX10_isOpen 54 = .ok (.if_icmp .ge 33, 3) := by decide +kernel
theorem dX10_isOpen_57 : decode cX10_isOpen 57 = .ok (.aload_n 0, 1) := by decide +kernel
theorem dX10_isOpen_58 : decode cX10_isOpen 58 = .ok (.getfield 71, 3) := by decide +kernel
theorem dX10_isOpen_61 : decode cX10_isOpen 61 = .ok (.iload_n 2, 1) := by decide +kernel
theorem dX10_isOpen_62 : decode cX10_isOpen 62 = .ok (.bipush 16, 2) := by decide +kernel
theorem dX10_isOpen_64 : decode cX10_isOpen 64 = .ok (.isub, 1) := by decide +kernel
theorem dX10_isOpen_65 : decode cX10_isOpen 65 = .ok (.iaload, 1) := by decide +kernel
theorem dX10_isOpen_66 : decode cX10_isOpen 66 = .ok (.aload_n 0, 1) := by decide +kernel
theorem dX10_isOpen_67 : decode cX10_isOpen 67 = .ok (.getfield 22, 3) := by decide +kernel
theorem dX10_isOpen_70 : decode cX10_isOpen 70 = .ok (.bipush 16, 2) := by decide +kernel
theorem dX10_isOpen_72 : decode cX10_isOpen 72 = .ok (.iload_n 1, 1) := by decide +kernel
theorem dX10_isOpen_73 : decode cX10_isOpen 73 = .ok (.imul, 1) := by decide +kernel
theorem dX10_isOpen_74 : decode cX10_isOpen 74 = .ok (.iload_n 2, 1) := by decide +kernel
theorem dX10_isOpen_75 : decode cX10_isOpen 75 = .ok (.iadd, 1) := by decide +kernel
theorem dX10_isOpen_76 : decode cX10_isOpen 76 = .ok (.bipush 16, 2) := by decide +kernel
theorem dX10_isOpen_78 : decode cX10_isOpen 78 = .ok (.isub, 1) := by decide +kernel
theorem dX10_isOpen_79 : decode cX10_isOpen 79 = .ok (.iaload, 1) := by decide +kernel
theorem dX10_isOpen_80 : decode cX10_isOpen 80 = .ok (.if_icmp .le 7, 3) := by decide +kernel
theorem dX10_isOpen_83 : decode cX10_isOpen 83 = .ok (.iconst 1, 1) := by decide +kernel
theorem dX10_isOpen_84 : decode cX10_isOpen 84 = .ok (.goto 4, 3) := by decide +kernel
theorem dX10_isOpen_87 : decode cX10_isOpen 87 = .ok (.iconst 0, 1) := by decide +kernel
theorem dX10_isOpen_88 : decode cX10_isOpen 88 = .ok (.ireturn, 1) := by decide +kernel
theorem dX10_begin_0 : decode cX10_begin 0 = .ok (.iload_n 2, 1) := by decide +kernel
theorem dX10_begin_1 : decode cX10_begin 1 = .ok (.bipush 16, 2) := by decide +kernel
theorem dX10_begin_3 : decode cX10_begin 3 = .ok (.if_icmp .ge 17, 3) := by decide +kernel
theorem dX10_begin_6 : decode cX10_begin 6 = .ok (.aload_n 0, 1) := by decide +kernel
theorem dX10_begin_7 : decode cX10_begin 7 = .ok (.getfield 16, 3) := by decide +kernel
theorem dX10_begin_10 : decode cX10_begin 10 = .ok (.bipush 16, 2) := by decide +kernel
theorem dX10_begin_12 : decode cX10_begin 12 = .ok (.iload_n 1, 1) := by decide +kernel
theorem dX10_begin_13 : decode cX10_begin 13 = .ok (.imul, 1) := by decide +kernel
theorem dX10_begin_14 : decode cX10_begin 14 = .ok (.iload_n 2, 1) := by decide +kernel
theorem dX10_begin_15 : decode cX10_begin 15 = .ok (.iadd, 1) := by decide +kernel
theorem dX10_begin_16 : decode cX10_begin 16 = .ok (.iaload, 1) := by decide +kernel
theorem dX10_begin_17 : decode cX10_begin 17 = .ok (.goto 17, 3) := by decide +kernel
theorem dX10_begin_20 : decode cX10_begin 20 = .ok (.aload_n 0, 1) := by decide +kernel
theorem dX10_begin_21 : decode cX10_begin 21 = .ok (.getfield 19, 3) := by decide +kernel
theorem dX10_begin_24 : decode cX10_begin 24 = .ok (.bipush 16, 2) := by decide +kernel
theorem dX10_begin_26 : decode cX10_begin 26 = .ok (.iload_n 1, 1) := by decide +kernel
theorem dX10_begin_27 : decode cX10_begin 27 = .ok (.imul, 1) := by decide +kernel
theorem dX10_begin_28 : decode cX10_begin 28 = .ok (.iload_n 2, 1) := by decide +kernel
theorem dX10_begin_29 : decode cX10_begin 29 = .ok (.iadd, 1) := by decide +kernel
theorem dX10_begin_30 : decode cX10_begin 30 = .ok (.bipush 16, 2) := by decide +kernel
theorem dX10_begin_32 : decode cX10_begin 32 = .ok (.isub, 1) := by decide +kernel
theorem dX10_begin_33 : decode cX10_begin 33 = .ok (.iaload, 1) := by decide +kernel
theorem dX10_begin_34 : decode cX10_begin 34 = .ok (.ireturn, 1) := by decide +kernel
theorem dX10_end_0 : decode cX10_end 0 = .ok (.iload_n 2, 1) := by decide +kernel
theorem dX10_end_1 : decode cX10_end 1 = .ok (.bipush 16, 2) := by decide +kernel
theorem dX10_end_3 : decode cX10_end 3 = .ok (.if_icmp .ge 17, 3) := by decide +kernel
theorem dX10_end_6 : decode cX10_end 6 = .ok (.aload_n 0, 1) := by decide +kernel
theorem dX10_end_7 : decode cX10_end 7 = .ok (.getfield 19, 3) := by decide +kernel
theorem dX10_end_10 : decode cX10_end 10 = .ok (.bipush 16, 2) := by decide +kernel
theorem dX10_end_12 : decode cX10_end 12 = .ok (.iload_n 1, 1) := by decide +kernel
theorem dX10_end_13 : decode cX10_end 13 = .ok (.imul, 1) := by decide +kernel
theorem dX10_end_14 : decode cX10_end 14 = .ok (.iload_n 2, 1) := by decide +kernel
theorem dX10_end_15 : decode cX10_end 15 = .ok (.iadd, 1) := by decide +kernel
theorem dX10_end_16 : decode cX10_end 16 = .ok (.iaload, 1) := by decide +kernel
theorem dX10_end_17 : decode cX10_end 17 = .ok (.goto 17, 3) := by decide +kernel
theorem dX10_end_20 : decode cX10_end 20 = .ok (.aload_n 0, 1) := by decide +kernel
theorem dX10_end_21 : decode cX10_end 21 = .ok (.getfield 16, 3) := by decide +kernel
theorem dX10_end_24 : decode cX10_end 24 = .ok (.bipush 16, 2) := by decide +kernel
theorem dX10_end_26 : decode cX10_end 26 = .ok (.iload_n 1, 1) := by decide +kernel
theorem dX10_end_27 : decode cX10_end 27 = .ok (.imul, 1) := by decide +kernel
theorem dX10_end_28 : decode cX10_end 28 = .ok (.iload_n 2, 1) := by decide +kernel
theorem dX10_end_29 : decode cX10_end 29 = .ok (.iadd, 1) := by decide +kernel
theorem dX10_end_30 : decode cX10_end 30 = .ok (.bipush 16, 2) := by decide +kernel
theorem dX10_end_32 : decode cX10_end 32 = .ok (.isub, 1) := by decide +kernel
theorem dX10_end_33 : decode cX10_end 33 = .ok (.iaload, 1) := by decide +kernel
theorem dX10_end_34 : decode cX10_end 34 = .ok (.ireturn, 1) := by decide +kernel
theorem dX10_measures_0 : decode cX10_measures 0 = .ok (.iconst 0, 1) := by decide +kernel
theorem dX10_measures_1 : decode cX10_measures 1 = .ok (.istore_n 3, 1) := by decide +kernel
theorem dX10_measures_2 : decode cX10_measures 2 = .ok (.iload_n 3, 1) := by decide +kernel
theorem dX10_measures_3 : decode cX10_measures 3 = .ok (.aload_n 0, 1) := by decide +kernel
theorem dX10_measures_4 : decode cX10_measures 4 = .ok (.getfield 7, 3) := by decide +kernel
theorem dX10_measures_7 : decode cX10_measures 7 = .ok (.iload_n 1, 1) := by decide +kernel
theorem dX10_measures_8 : decode cX10_measures 8 = .ok (.iaload, 1) := by decide +kernel
theorem dX10_measures_9 : decode cX10_measures 9 = .ok (.if_icmp .ge 26, 3) := by decide +kernel
theorem dX10_measures_12 : decode cX10_measures 12 = .ok (.aload_n 0, 1) := by decide +kernel
theorem dX10_measures_13 : decode cX10_measures 13 = .ok (.getfield 74, 3) := by decide +kernel
theorem dX10_measures_16 : decode cX10_measures 16 = .ok (.iload_n 3, 1) := by decide +kernel
theorem dX10_measures_17 : decode cX10_measures 17 = .ok (.iload_n 3, 1) := by decide +kernel
theorem dX10_measures_18 : decode cX10_measures 18 = .ok (.iload_n 2, 1) := by decide +kernel
theorem dX10_measures_19 : decode cX10_measures 19 = .ok (.if_icmp .ne 7, 3) := by decide +kernel
theorem dX10_measures_22 : decode cX10_measures 22 = .ok (.iconst 0, 1) := by decide +kernel
theorem dX10_measures_23 : decode cX10_measures 23 = .ok (.goto 5, 3) := by decide +kernel
theorem dX10_measures_26 : decode cX10_measures 26 = .ok (.bipush 99, 2) := by decide +kernel
theorem dX10_measures_28 : decode cX10_measures 28 = .ok (.iastore, 1) := by decide +kernel
theorem dX10_measures_29 : decode cX10_measures 29 = .ok (.iinc 3 1, 3) := by decide +kernel
theorem dX10_measures_32 : decode cX10_measures 32 = .ok (.goto (-30), 3) := by decide +kernel
theorem dX10_measures_35 : decode cX10_measures 35 = .ok (.iconst 0, 1) := by decide +kernel
theorem dX10_measures_36 : decode cX10_measures 36 = .ok (.istore_n 3, 1) := by decide +kernel
theorem dX10_measures_37 : decode cX10_measures 37 = .ok (.iload_n 3, 1) := by decide +kernel
theorem dX10_measures_38 : decode cX10_measures 38 = .ok (.aload_n 0, 1) := by decide +kernel
theorem dX10_measures_39 : decode cX10_measures 39 = .ok (.getfield 7, 3) := by decide +kernel
theorem dX10_measures_42 : decode cX10_measures 42 = .ok (.iload_n 1, 1) := by decide +kernel
theorem dX10_measures_43 : decode cX10_measures 43 = .ok (.iaload, 1) := by decide +kernel
theorem dX10_measures_44 : decode cX10_measures 44 = .ok (.if_icmp .ge 76, 3) := by decide +kernel
theorem dX10_measures_47 : decode cX10_measures 47 = .ok (.iconst 0, 1) := by decide +kernel
theorem dX10_measures_48 : decode cX10_measures 48 = .ok (.istore 4, 2) := by decide +kernel
theorem dX10_measures_50 : decode cX10_measures 50 = .ok (.iload 4, 2) := by decide +kernel
theorem dX10_measures_52 : decode cX10_measures 52 = .ok (.bipush 32, 2) := by decide +kernel
theorem dX10_measures_54 : decode cX10_measures 54 = .ok (.if_icmp .ge 60, 3) := by decide +kernel
theorem dX10_measures_57 : decode cX10_measures 57 = .ok (.aload_n 0, 1) := by decide +kernel
theorem dX10_measures_58 : decode cX10_measures 58 = .ok (.iload_n 1, 1) := by decide +kernel
theorem dX10_measures_59 : decode cX10_measures 59 = .ok (.iload 4, 2) := by decide +kernel
theorem dX10_measures_61 : decode cX10_measures 61 = .ok (.invokevirtual 190, 3) := by decide +kernel
theorem dX10_measures_64 : decode cX10_measures 64 = .ok (.ifCond .eq 44, 3) := by decide +kernel
theorem dX10_measures_67 : decode cX10_measures 67 = .ok (.aload_n 0, 1) := by decide +kernel
theorem dX10_measures_68 : decode cX10_measures 68 = .ok (.getfield 74, 3) := by decide +kernel
theorem dX10_measures_71 : decode cX10_measures 71 = .ok (.aload_n 0, 1) := by decide +kernel
theorem dX10_measures_72 : decode cX10_measures 72 = .ok (.iload_n 1, 1) := by decide +kernel
theorem dX10_measures_73 : decode cX10_measures 73 = .ok (.iload 4, 2) := by decide +kernel
theorem dX10_measures_75 : decode cX10_measures 75 = .ok (.invokevirtual 193, 3) := by decide +kernel
theorem dX10_measures_78 : decode cX10_measures 78 = .ok (.aload_n 0, 1) := by decide +kernel
theorem dX10_measures_79 : decode cX10_measures 79 = .ok (.getfield 74, 3) := by decide +kernel
theorem dX10_measures_82 : decode cX10_measures 82 = .ok (.aload_n 0, 1) := by decide +kernel
theorem dX10_measures_83 : decode cX10_measures 83 = .ok (.iload_n 1, 1) := by decide +kernel
theorem dX10_measures_84 : decode cX10_measures 84 = .ok (.iload 4, 2) := by decide +kernel
theorem dX10_measures_86 : decode cX10_measures 86 = .ok (.invokevirtual 193, 3) := by decide +kernel
theorem dX10_measures_89 : decode cX10_measures 89 = .ok (.iaload, 1) := by decide +kernel
theorem dX10_measures_90 : decode cX10_measures 90 = .ok (.aload_n 0, 1) := by decide +kernel
theorem dX10_measures_91 : decode cX10_measures 91 = .ok (.getfield 74, 3) := by decide +kernel
theorem dX10_measures_94 : decode cX10_measures 94 = .ok (.aload_n 0, 1) := by decide +kernel
theorem dX10_measures_95 : decode cX10_measures 95 = .ok (.iload_n 1, 1) := by decide +kernel
theorem dX10_measures_96 : decode cX10_measures 96 = .ok (.iload 4, 2) := by decide +kernel
theorem dX10_measures_98 : decode cX10_measures 98 = .ok (.invokevirtual 196, 3) := by decide +kernel
theorem dX10_measures_101 : decode cX10_measures 101 = .ok (.iaload, 1) := by decide +kernel
theorem dX10_measures_102 : decode cX10_measures 102 = .ok (.iconst 1, 1) := by decide +kernel
theorem dX10_measures_103 : decode cX10_measures 103 = .ok (.iadd, 1) := by decide +kernel
theorem dX10_measures_104 : decode cX10_measures 104 = .ok (.invokestatic 199, 3) := by decide +kernel
theorem dX10_measures_107 : decode cX10_measures 107 = .ok (.iastore, 1) := by decide +kernel
theorem dX10_measures_108 : decode cX10_measures 108 = .ok (.iinc 4 1, 3) := by decide +kernel
theorem dX10_measures_111 : decode cX10_measures 111 = .ok (.goto (-61), 3) := by decide +kernel
theorem dX10_measures_114 : decode cX10_measures 114 = .ok (.iinc 3 1, 3) := by decide +kernel
theorem dX10_measures_117 : decode cX10_measures 117 = .ok (.goto (-80), 3) := by decide +kernel
theorem dX10_measures_120 : decode cX10_measures 120 = .ok (.return_, 1) := by decide +kernel
theorem dX10_goes_0 : decode cX10_goes 0 = .ok (.aload_n 0, 1) := by decide +kernel
theorem dX10_goes_1 : decode cX10_goes 1 = .ok (.iload_n 1, 1) := by decide +kernel
theorem dX10_goes_2 : decode cX10_goes 2 = .ok (.iload_n 3, 1) := by decide +kernel
theorem dX10_goes_3 : decode cX10_goes 3 = .ok (.invokevirtual 202, 3) := by decide +kernel
theorem dX10_goes_6 : decode cX10_goes 6 = .ok (.aload_n 0, 1) := by decide +kernel
theorem dX10_goes_7 : decode cX10_goes 7 = .ok (.aload_n 0, 1) := by decide +kernel
theorem dX10_goes_8 : decode cX10_goes 8 = .ok (.getfield 74, 3) := by decide +kernel
theorem dX10_goes_11 : decode cX10_goes 11 = .ok (.iload_n 2, 1) := by decide +kernel
theorem dX10_goes_12 : decode cX10_goes 12 = .ok (.iaload, 1) := by decide +kernel
theorem dX10_goes_13 : decode cX10_goes 13 = .ok (.bipush 90, 2) := by decide +kernel
theorem dX10_goes_15 : decode cX10_goes 15 = .ok (.if_icmp .le 7, 3) := by decide +kernel
theorem dX10_goes_18 : decode cX10_goes 18 = .ok (.iconst 0, 1) := by decide +kernel
theorem dX10_goes_19 : decode cX10_goes 19 = .ok (.goto 9, 3) := by decide +kernel
theorem dX10_goes_22 : decode cX10_goes 22 = .ok (.aload_n 0, 1) := by decide +kernel
theorem dX10_goes_23 : decode cX10_goes 23 = .ok (.getfield 74, 3) := by decide +kernel
theorem dX10_goes_26 : decode cX10_goes 26 = .ok (.iload_n 2, 1) := by decide +kernel
theorem dX10_goes_27 : decode cX10_goes 27 = .ok (.iaload, 1) := by decide +kernel
theorem dX10_goes_28 : decode cX10_goes 28 = .ok (.putfield 206, 3) := by decide +kernel
theorem dX10_goes_31 : decode cX10_goes 31 = .ok (.iload_n 2, 1) := by decide +kernel
theorem dX10_goes_32 : decode cX10_goes 32 = .ok (.istore 4, 2) := by decide +kernel
theorem dX10_goes_34 : decode cX10_goes 34 = .ok (.aload_n 0, 1) := by decide +kernel
theorem dX10_goes_35 : decode cX10_goes 35 = .ok (.sipush 1000, 3) := by decide +kernel
theorem dX10_goes_38 : decode cX10_goes 38 = .ok (.putfield 209, 3) := by decide +kernel
theorem dX10_goes_41 : decode cX10_goes 41 = .ok (.iconst 0, 1) := by decide +kernel
theorem dX10_goes_42 : decode cX10_goes 42 = .ok (.istore 5, 2) := by decide +kernel
theorem dX10_goes_44 : decode cX10_goes 44 = .ok (.iload 5, 2) := by decide +kernel
theorem dX10_goes_46 : decode cX10_goes 46 = .ok (.aload_n 0, 1) := by decide +kernel
theorem dX10_goes_47 : decode cX10_goes 47 = .ok (.getfield 206, 3) := by decide +kernel
theorem dX10_goes_50 : decode cX10_goes 50 = .ok (.if_icmp .ge 133, 3) := by decide +kernel
theorem dX10_goes_53 : decode cX10_goes 53 = .ok (.iconst 0, 1) := by decide +kernel
theorem dX10_goes_54 : decode cX10_goes 54 = .ok (.istore 6, 2) := by decide +kernel
theorem dX10_goes_56 : decode cX10_goes 56 = .ok (.aload_n 0, 1) := by decide +kernel
theorem dX10_goes_57 : decode cX10_goes 57 = .ok (.iload_n 1, 1) := by decide +kernel
theorem dX10_goes_58 : decode cX10_goes 58 = .ok (.iload 6, 2) := by decide +kernel
theorem dX10_goes_60 : decode cX10_goes 60 = .ok (.invokevirtual 190, 3) := by decide +kernel
theorem dX10_goes_63 : decode cX10_goes 63 = .ok (.ifCond .eq 39, 3) := by decide +kernel
theorem dX10_goes_66 : decode cX10_goes 66 = .ok (.aload_n 0, 1) := by decide +kernel
theorem dX10_goes_67 : decode cX10_goes 67 = .ok (.iload_n 1, 1) := by decide +kernel
theorem dX10_goes_68 : decode cX10_goes 68 = .ok (.iload 6, 2) := by decide +kernel
theorem dX10_goes_70 : decode cX10_goes 70 = .ok (.invokevirtual 193, 3) := by decide +kernel
theorem dX10_goes_73 : decode cX10_goes 73 = .ok (.iload 4, 2) := by decide +kernel
theorem dX10_goes_75 : decode cX10_goes 75 = .ok (.if_icmp .ne 27, 3) := by decide +kernel
theorem dX10_goes_78 : decode cX10_goes 78 = .ok (.aload_n 0, 1) := by decide +kernel
theorem dX10_goes_79 : decode cX10_goes 79 = .ok (.getfield 74, 3) := by decide +kernel
theorem dX10_goes_82 : decode cX10_goes 82 = .ok (.aload_n 0, 1) := by decide +kernel
theorem dX10_goes_83 : decode cX10_goes 83 = .ok (.iload_n 1, 1) := by decide +kernel
theorem dX10_goes_84 : decode cX10_goes 84 = .ok (.iload 6, 2) := by decide +kernel
theorem dX10_goes_86 : decode cX10_goes 86 = .ok (.invokevirtual 196, 3) := by decide +kernel
theorem dX10_goes_89 : decode cX10_goes 89 = .ok (.iaload, 1) := by decide +kernel
theorem dX10_goes_90 : decode cX10_goes 90 = .ok (.aload_n 0, 1) := by decide +kernel
theorem dX10_goes_91 : decode cX10_goes 91 = .ok (.getfield 74, 3) := by decide +kernel
theorem dX10_goes_94 : decode cX10_goes 94 = .ok (.iload 4, 2) := by decide +kernel
theorem dX10_goes_96 : decode cX10_goes 96 = .ok (.iaload, 1) := by decide +kernel
theorem dX10_goes_97 : decode cX10_goes 97 = .ok (.iconst 1, 1) := by decide +kernel
theorem dX10_goes_98 : decode cX10_goes 98 = .ok (.isub, 1) := by decide +kernel
theorem dX10_goes_99 : decode cX10_goes 99 = .ok (.if_icmp .eq 9, 3) := by decide +kernel
theorem dX10_goes_102 : decode cX10_goes 102 = .ok (.iinc 6 1, 3) := by decide +kernel
theorem dX10_goes_105 : decode cX10_goes 105 = .ok (.goto (-49), 3) := by decide +kernel
theorem dX10_goes_108 : decode cX10_goes 108 = .ok (.aload_n 0, 1) := by decide +kernel
theorem dX10_goes_109 : decode cX10_goes 109 = .ok (.getfield 80, 3) := by decide +kernel
theorem dX10_goes_112 : decode cX10_goes 112 = .ok (.iload 5, 2) := by decide +kernel
theorem dX10_goes_114 : decode cX10_goes 114 = .ok (.iload 6, 2) := by decide +kernel
theorem dX10_goes_116 : decode cX10_goes 116 = .ok (.iastore, 1) := by decide +kernel
theorem dX10_goes_117 : decode cX10_goes 117 = .ok (.aload_n 0, 1) := by decide +kernel
theorem dX10_goes_118 : decode cX10_goes 118 = .ok (.iload_n 1, 1) := by decide +kernel
theorem dX10_goes_119 : decode cX10_goes 119 = .ok (.iload 6, 2) := by decide +kernel
theorem dX10_goes_121 : decode cX10_goes 121 = .ok (.invokevirtual 196, 3) := by decide +kernel
theorem dX10_goes_124 : decode cX10_goes 124 = .ok (.istore 4, 2) := by decide +kernel
theorem dX10_goes_126 : decode cX10_goes 126 = .ok (.aload_n 0, 1) := by decide +kernel
theorem dX10_goes_127 : decode cX10_goes 127 = .ok (.aload_n 0, 1) := by decide +kernel
theorem dX10_goes_128 : decode cX10_goes 128 = .ok (.getfield 209, 3) := by decide +kernel
theorem dX10_goes_131 : decode cX10_goes 131 = .ok (.iload 6, 2) := by decide +kernel
theorem dX10_goes_133 : decode cX10_goes 133 = .ok (.bipush 16, 2) := by decide +kernel
theorem dX10_goes_135 : decode cX10_goes 135 = .ok (.if_icmp .ge 26, 3) := by decide +kernel
theorem dX10_goes_138 : decode cX10_goes 138 = .ok (.aload_n 0, 1) := by decide +kernel
theorem dX10_goes_139 : decode cX10_goes 139 = .ok (.getfield 25, 3) := by decide +kernel
theorem dX10_goes_142 : decode cX10_goes 142 = .ok (.bipush 16, 2) := by decide +kernel
theorem dX10_goes_144 : decode cX10_goes 144 = .ok (.iload_n 1, 1) := by decide +kernel
theorem dX10_goes_145 : decode cX10_goes 145 = .ok (.imul, 1) := by decide +kernel
theorem dX10_goes_146 : decode cX10_goes 146 = .ok (.iload 6, 2) := by decide +kernel
theorem dX10_goes_148 : decode cX10_goes 148 = .ok (.iadd, 1) := by decide +kernel
theorem dX10_goes_149 : decode cX10_goes 149 = .ok (.iaload, 1) := by decide +kernel
theorem dX10_goes_150 : decode cX10_goes 150 = .ok (.aload_n 0, 1) := by decide +kernel
theorem dX10_goes_151 : decode cX10_goes 151 = .ok (.getfield 71, 3) := by decide +kernel
theorem dX10_goes_154 : decode cX10_goes 154 = .ok (.iload 6, 2) := by decide +kernel
theorem dX10_goes_156 : decode cX10_goes 156 = .ok (.iaload, 1) := by decide +kernel
theorem dX10_goes_157 : decode cX10_goes 157 = .ok (.isub, 1) := by decide +kernel
theorem dX10_goes_158 : decode cX10_goes 158 = .ok (.goto 13, 3) := by decide +kernel
theorem dX10_goes_161 : decode cX10_goes 161 = .ok (.aload_n 0, 1) := by decide +kernel
theorem dX10_goes_162 : decode cX10_goes 162 = .ok (.getfield 71, 3) := by decide +kernel
theorem dX10_goes_165 : decode cX10_goes 165 = .ok (.iload 6, 2) := by decide +kernel
theorem dX10_goes_167 : decode cX10_goes 167 = .ok (.bipush 16, 2) := by decide +kernel
theorem dX10_goes_169 : decode cX10_goes 169 = .ok (.isub, 1) := by decide +kernel
theorem dX10_goes_170 : decode cX10_goes 170 = .ok (.iaload, 1) := by decide +kernel
theorem dX10_goes_171 : decode cX10_goes 171 = .ok (.invokestatic 199, 3) := by decide +kernel
theorem dX10_goes_174 : decode cX10_goes 174 = .ok (.putfield 209, 3) := by decide +kernel
theorem dX10_goes_177 : decode cX10_goes 177 = .ok (.iinc 5 1, 3) := by decide +kernel
theorem dX10_goes_180 : decode cX10_goes 180 = .ok (.goto (-136), 3) := by decide +kernel
theorem dX10_goes_183 : decode cX10_goes 183 = .ok (.return_, 1) := by decide +kernel
theorem dX10_puts_0 : decode cX10_puts 0 = .ok (.iconst 0, 1) := by decide +kernel
theorem dX10_puts_1 : decode cX10_puts 1 = .ok (.istore_n 1, 1) := by decide +kernel
theorem dX10_puts_2 : decode cX10_puts 2 = .ok (.iload_n 1, 1) := by decide +kernel
theorem dX10_puts_3 : decode cX10_puts 3 = .ok (.aload_n 0, 1) := by decide +kernel
theorem dX10_puts_4 : decode cX10_puts 4 = .ok (.getfield 206, 3) := by decide +kernel
theorem dX10_puts_7 : decode cX10_puts 7 = .ok (.if_icmp .ge 49, 3) := by decide +kernel
theorem dX10_puts_10 : decode cX10_puts 10 = .ok (.aload_n 0, 1) := by decide +kernel
theorem dX10_puts_11 : decode cX10_puts 11 = .ok (.getfield 71, 3) := by decide +kernel
theorem dX10_puts_14 : decode cX10_puts 14 = .ok (.aload_n 0, 1) := by decide +kernel
theorem dX10_puts_15 : decode cX10_puts 15 = .ok (.getfield 80, 3) := by decide +kernel
theorem dX10_puts_18 : decode cX10_puts 18 = .ok (.iload_n 1, 1) := by decide +kernel
theorem dX10_puts_19 : decode cX10_puts 19 = .ok (.iaload, 1) := by decide +kernel
theorem dX10_puts_20 : decode cX10_puts 20 = .ok (.bipush 16, 2) := by decide +kernel
theorem dX10_puts_22 : decode cX10_puts 22 = .ok (.irem, 1) := by decide +kernel
theorem dX10_puts_23 : decode cX10_puts 23 = .ok (.dup2, 1) := by decide +kernel
theorem dX10_puts_24 : decode cX10_puts 24 = .ok (.iaload, 1) := by decide +kernel
theorem dX10_puts_25 : decode cX10_puts 25 = .ok (.aload_n 0, 1) := by decide +kernel
theorem dX10_puts_26 : decode cX10_puts 26 = .ok (.getfield 80, 3) := by decide +kernel
theorem dX10_puts_29 : decode cX10_puts 29 = .ok (.iload_n 1, 1) := by decide +kernel
theorem dX10_puts_30 : decode cX10_puts 30 = .ok (.iaload, 1) := by decide +kernel
theorem dX10_puts_31 : decode cX10_puts 31 = .ok (.bipush 16, 2) := by decide +kernel
theorem dX10_puts_33 : decode cX10_puts 33 = .ok (.if_icmp .ge 10, 3) := by decide +kernel
theorem dX10_puts_36 : decode cX10_puts 36 = .ok (.aload_n 0, 1) := by decide +kernel
theorem dX10_puts_37 : decode cX10_puts 37 = .ok (.getfield 209, 3) := by decide +kernel
theorem dX10_puts_40 : decode cX10_puts 40 = .ok (.goto 8, 3) := by decide +kernel
theorem dX10_puts_43 : decode cX10_puts 43 = .ok (.aload_n 0, 1) := by decide +kernel
theorem dX10_puts_44 : decode cX10_puts 44 = .ok (.getfield 209, 3) := by decide +kernel
theorem dX10_puts_47 : decode cX10_puts 47 = .ok (.ineg, 1) := by decide +kernel
theorem dX10_puts_48 : decode cX10_puts 48 = .ok (.iadd, 1) := by decide +kernel
theorem dX10_puts_49 : decode cX10_puts 49 = .ok (.iastore, 1) := by decide +kernel
theorem dX10_puts_50 : decode cX10_puts 50 = .ok (.iinc 1 1, 3) := by decide +kernel
theorem dX10_puts_53 : decode cX10_puts 53 = .ok (.goto (-51), 3) := by decide +kernel
theorem dX10_puts_56 : decode cX10_puts 56 = .ok (.return_, 1) := by decide +kernel
theorem dX10_roundsTo_0 : decode cX10_roundsTo 0 = .ok (.iconst 0, 1) := by decide +kernel
theorem dX10_roundsTo_1 : decode cX10_roundsTo 1 = .ok (.istore 5, 2) := by decide +kernel
theorem dX10_roundsTo_3 : decode cX10_roundsTo 3 = .ok (.iload 5, 2) := by decide +kernel
theorem dX10_roundsTo_5 : decode cX10_roundsTo 5 = .ok (.bipush 16, 2) := by decide +kernel
theorem dX10_roundsTo_7 : decode cX10_roundsTo 7 = .ok (.if_icmp .ge 17, 3) := by decide +kernel
theorem dX10_roundsTo_10 : decode cX10_roundsTo 10 = .ok (.aload_n 0, 1) := by decide +kernel
theorem dX10_roundsTo_11 : decode cX10_roundsTo 11 = .ok (.getfield 71, 3) := by decide +kernel
theorem dX10_roundsTo_14 : decode cX10_roundsTo 14 = .ok (.iload 5, 2) := by decide +kernel
theorem dX10_roundsTo_16 : decode cX10_roundsTo 16 = .ok (.iconst 0, 1) := by decide +kernel
theorem dX10_roundsTo_17 : decode cX10_roundsTo 17 = .ok (.iastore, 1) := by decide +kernel
theorem dX10_roundsTo_18 : decode cX10_roundsTo 18 = .ok (.iinc 5 1, 3) := by decide +kernel
theorem dX10_roundsTo_21 : decode cX10_roundsTo 21 = .ok (.goto (-18), 3) := by decide +kernel
theorem dX10_roundsTo_24 : decode cX10_roundsTo 24 = .ok (.iconst 0, 1) := by decide +kernel
theorem dX10_roundsTo_25 : decode cX10_roundsTo 25 = .ok (.istore 5, 2) := by decide +kernel
theorem dX10_roundsTo_27 : decode cX10_roundsTo 27 = .ok (.aload_n 0, 1) := by decide +kernel
theorem dX10_roundsTo_28 : decode cX10_roundsTo 28 = .ok (.iload_n 1, 1) := by decide +kernel
theorem dX10_roundsTo_29 : decode cX10_roundsTo 29 = .ok (.iload_n 2, 1) := by decide +kernel
theorem dX10_roundsTo_30 : decode cX10_roundsTo 30 = .ok (.iload_n 3, 1) := by decide +kernel
theorem dX10_roundsTo_31 : decode cX10_roundsTo 31 = .ok (.invokevirtual 212, 3) := by decide +kernel
theorem dX10_roundsTo_34 : decode cX10_roundsTo 34 = .ok (.aload_n 0, 1) := by decide +kernel
theorem dX10_roundsTo_35 : decode cX10_roundsTo 35 = .ok (.getfield 206, 3) := by decide +kernel
theorem dX10_roundsTo_38 : decode cX10_roundsTo 38 = .ok (.ifCond .le 27, 3) := by decide +kernel
theorem dX10_roundsTo_41 : decode cX10_roundsTo 41 = .ok (.iload 5, 2) := by decide +kernel
theorem dX10_roundsTo_43 : decode cX10_roundsTo 43 = .ok (.iload 4, 2) := by decide +kernel
theorem dX10_roundsTo_45 : decode cX10_roundsTo 45 = .ok (.if_icmp .eq 20, 3) := by decide +kernel
theorem dX10_roundsTo_48 : decode cX10_roundsTo 48 = .ok (.aload_n 0, 1) := by decide +kernel
theorem dX10_roundsTo_49 : decode cX10_roundsTo 49 = .ok (.invokevirtual 216, 3) := by decide +kernel
theorem dX10_roundsTo_52 : decode cX10_roundsTo 52 = .ok (.iinc 5 1, 3) := by decide +kernel
theorem dX10_roundsTo_55 : decode cX10_roundsTo 55 = .ok (.aload_n 0, 1) := by decide +kernel
theorem dX10_roundsTo_56 : decode cX10_roundsTo 56 = .ok (.iload_n 1, 1) := by decide +kernel
theorem dX10_roundsTo_57 : decode cX10_roundsTo 57 = .ok (.iload_n 2, 1) := by decide +kernel
theorem dX10_roundsTo_58 : decode cX10_roundsTo 58 = .ok (.iload_n 3, 1) := by decide +kernel
theorem dX10_roundsTo_59 : decode cX10_roundsTo 59 = .ok (.invokevirtual 212, 3) := by decide +kernel
theorem dX10_roundsTo_62 : decode cX10_roundsTo 62 = .ok (.goto (-28), 3) := by decide +kernel
theorem dX10_roundsTo_65 : decode cX10_roundsTo 65 = .ok (.iload 5, 2) := by decide +kernel
theorem dX10_roundsTo_67 : decode cX10_roundsTo 67 = .ok (.ireturn, 1) := by decide +kernel
theorem dX10_wrongRounds_0 : decode cX10_wrongRounds 0 = .ok (.aload_n 0, 1) := by decide +kernel
theorem dX10_wrongRounds_1 : decode cX10_wrongRounds 1 = .ok (.iload_n 1, 1) := by decide +kernel
theorem dX10_wrongRounds_2 : decode cX10_wrongRounds 2 = .ok (.iload_n 2, 1) := by decide +kernel
theorem dX10_wrongRounds_3 : decode cX10_wrongRounds 3 = .ok (.iload_n 3, 1) := by decide +kernel
theorem dX10_wrongRounds_4 : decode cX10_wrongRounds 4 = .ok (.invokevirtual 178, 3) := by decide +kernel
theorem dX10_wrongRounds_7 : decode cX10_wrongRounds 7 = .ok (.istore 4, 2) := by decide +kernel
theorem dX10_wrongRounds_9 : decode cX10_wrongRounds 9 = .ok (.iconst 1, 1) := by decide +kernel
theorem dX10_wrongRounds_10 : decode cX10_wrongRounds 10 = .ok (.istore 5, 2) := by decide +kernel
theorem dX10_wrongRounds_12 : decode cX10_wrongRounds 12 = .ok (.iconst 0, 1) := by decide +kernel
theorem dX10_wrongRounds_13 : decode cX10_wrongRounds 13 = .ok (.istore 6, 2) := by decide +kernel
theorem dX10_wrongRounds_15 : decode cX10_wrongRounds 15 = .ok (.iload 4, 2) := by decide +kernel
theorem dX10_wrongRounds_17 : decode cX10_wrongRounds 17 = .ok (.ifCond .ne 47, 3) := by decide +kernel
theorem dX10_wrongRounds_20 : decode cX10_wrongRounds 20 = .ok (.iload 6, 2) := by decide +kernel
theorem dX10_wrongRounds_22 : decode cX10_wrongRounds 22 = .ok (.aload_n 0, 1) := by decide +kernel
theorem dX10_wrongRounds_23 : decode cX10_wrongRounds 23 = .ok (.getfield 13, 3) := by decide +kernel
theorem dX10_wrongRounds_26 : decode cX10_wrongRounds 26 = .ok (.iload_n 1, 1) := by decide +kernel
theorem dX10_wrongRounds_27 : decode cX10_wrongRounds 27 = .ok (.iaload, 1) := by decide +kernel
theorem dX10_wrongRounds_28 : decode cX10_wrongRounds 28 = .ok (.if_icmp .ge 36, 3) := by decide +kernel
theorem dX10_wrongRounds_31 : decode cX10_wrongRounds 31 = .ok (.iload 5, 2) := by decide +kernel
theorem dX10_wrongRounds_33 : decode cX10_wrongRounds 33 = .ok (.ifCond .eq 22, 3) := by decide +kernel
theorem dX10_wrongRounds_36 : decode cX10_wrongRounds 36 = .ok (.aload_n 0, 1) := by decide +kernel
theorem dX10_wrongRounds_37 : decode cX10_wrongRounds 37 = .ok (.getfield 22, 3) := by decide +kernel
theorem dX10_wrongRounds_40 : decode cX10_wrongRounds 40 = .ok (.bipush 16, 2) := by decide +kernel
theorem dX10_wrongRounds_42 : decode cX10_wrongRounds 42 = .ok (.iload_n 1, 1) := by decide +kernel
theorem dX10_wrongRounds_43 : decode cX10_wrongRounds 43 = .ok (.imul, 1) := by decide +kernel
theorem dX10_wrongRounds_44 : decode cX10_wrongRounds 44 = .ok (.iload 6, 2) := by decide +kernel
theorem dX10_wrongRounds_46 : decode cX10_wrongRounds 46 = .ok (.iadd, 1) := by decide +kernel
theorem dX10_wrongRounds_47 : decode cX10_wrongRounds 47 = .ok (.iaload, 1) := by decide +kernel
theorem dX10_wrongRounds_48 : decode cX10_wrongRounds 48 = .ok (.ifCond .ne 7, 3) := by decide +kernel
theorem dX10_wrongRounds_51 : decode cX10_wrongRounds 51 = .ok (.iconst 1, 1) := by decide +kernel
theorem dX10_wrongRounds_52 : decode cX10_wrongRounds 52 = .ok (.goto 4, 3) := by decide +kernel
theorem dX10_wrongRounds_55 : decode cX10_wrongRounds 55 = .ok (.iconst 0, 1) := by decide +kernel
theorem dX10_wrongRounds_56 : decode cX10_wrongRounds 56 = .ok (.istore 5, 2) := by decide +kernel
theorem dX10_wrongRounds_58 : decode cX10_wrongRounds 58 = .ok (.iinc 6 1, 3) := by decide +kernel
theorem dX10_wrongRounds_61 : decode cX10_wrongRounds 61 = .ok (.goto (-46), 3) := by decide +kernel
theorem dX10_wrongRounds_64 : decode cX10_wrongRounds 64 = .ok (.iload 4, 2) := by decide +kernel
theorem dX10_wrongRounds_66 : decode cX10_wrongRounds 66 = .ok (.ifCond .le 8, 3) := by decide +kernel
theorem dX10_wrongRounds_69 : decode cX10_wrongRounds 69 = .ok (.iload 4, 2) := by decide +kernel
theorem dX10_wrongRounds_71 : decode cX10_wrongRounds 71 = .ok (.goto 13, 3) := by decide +kernel
theorem dX10_wrongRounds_74 : decode cX10_wrongRounds 74 = .ok (.iload 5, 2) := by decide +kernel
theorem dX10_wrongRounds_76 : decode cX10_wrongRounds 76 = .ok (.ifCond .eq 7, 3) := by decide +kernel
theorem dX10_wrongRounds_79 : decode cX10_wrongRounds 79 = .ok (.iconst 0, 1) := by decide +kernel
theorem dX10_wrongRounds_80 : decode cX10_wrongRounds 80 = .ok (.goto 4, 3) := by decide +kernel
theorem dX10_wrongRounds_83 : decode cX10_wrongRounds 83 = .ok (.iconst 3, 1) := by decide +kernel
theorem dX10_wrongRounds_84 : decode cX10_wrongRounds 84 = .ok (.ireturn, 1) := by decide +kernel
theorem dX10_rounds_0 : decode cX10_rounds 0 = .ok (.aload_n 0, 1) := by decide +kernel
theorem dX10_rounds_1 : decode cX10_rounds 1 = .ok (.aload_n 0, 1) := by decide +kernel
theorem dX10_rounds_2 : decode cX10_rounds 2 = .ok (.iload_n 1, 1) := by decide +kernel
theorem dX10_rounds_3 : decode cX10_rounds 3 = .ok (.iload_n 2, 1) := by decide +kernel
theorem dX10_rounds_4 : decode cX10_rounds 4 = .ok (.iload_n 3, 1) := by decide +kernel
theorem dX10_rounds_5 : decode cX10_rounds 5 = .ok (.invokevirtual 219, 3) := by decide +kernel
theorem dX10_rounds_8 : decode cX10_rounds 8 = .ok (.putfield 92, 3) := by decide +kernel
theorem dX10_rounds_11 : decode cX10_rounds 11 = .ok (.aload_n 0, 1) := by decide +kernel
theorem dX10_rounds_12 : decode cX10_rounds 12 = .ok (.getfield 92, 3) := by decide +kernel
theorem dX10_rounds_15 : decode cX10_rounds 15 = .ok (.ifCond .le 7, 3) := by decide +kernel
theorem dX10_rounds_18 : decode cX10_rounds 18 = .ok (.iconst 0, 1) := by decide +kernel
theorem dX10_rounds_19 : decode cX10_rounds 19 = .ok (.goto 11, 3) := by decide +kernel
theorem dX10_rounds_22 : decode cX10_rounds 22 = .ok (.aload_n 0, 1) := by decide +kernel
theorem dX10_rounds_23 : decode cX10_rounds 23 = .ok (.iload_n 1, 1) := by decide +kernel
theorem dX10_rounds_24 : decode cX10_rounds 24 = .ok (.iload_n 2, 1) := by decide +kernel
theorem dX10_rounds_25 : decode cX10_rounds 25 = .ok (.iload_n 3, 1) := by decide +kernel
theorem dX10_rounds_26 : decode cX10_rounds 26 = .ok (.iconst (-1), 1) := by decide +kernel
theorem dX10_rounds_27 : decode cX10_rounds 27 = .ok (.invokevirtual 222, 3) := by decide +kernel
theorem dX10_rounds_30 : decode cX10_rounds 30 = .ok (.ireturn, 1) := by decide +kernel
theorem dX10_isRound_0 : decode cX10_isRound 0 = .ok (.iload 4, 2) := by decide +kernel
theorem dX10_isRound_2 : decode cX10_isRound 2 = .ok (.ifCond .lt 28, 3) := by decide +kernel
theorem dX10_isRound_5 : decode cX10_isRound 5 = .ok (.aload_n 0, 1) := by decide +kernel
theorem dX10_isRound_6 : decode cX10_isRound 6 = .ok (.iload_n 1, 1) := by decide +kernel
theorem dX10_isRound_7 : decode cX10_isRound 7 = .ok (.iload_n 2, 1) := by decide +kernel
theorem dX10_isRound_8 : decode cX10_isRound 8 = .ok (.iload_n 3, 1) := by decide +kernel
theorem dX10_isRound_9 : decode cX10_isRound 9 = .ok (.iload 4, 2) := by decide +kernel
theorem dX10_isRound_11 : decode cX10_isRound 11 = .ok (.invokevirtual 222, 3) := by decide +kernel
theorem dX10_isRound_14 : decode cX10_isRound 14 = .ok (.iload 4, 2) := by decide +kernel
theorem dX10_isRound_16 : decode cX10_isRound 16 = .ok (.if_icmp .ne 14, 3) := by decide +kernel
theorem dX10_isRound_19 : decode cX10_isRound 19 = .ok (.aload_n 0, 1) := by decide +kernel
theorem dX10_isRound_20 : decode cX10_isRound 20 = .ok (.getfield 206, 3) := by decide +kernel
theorem dX10_isRound_23 : decode cX10_isRound 23 = .ok (.ifCond .le 7, 3) := by decide +kernel
theorem dX10_isRound_26 : decode cX10_isRound 26 = .ok (.iconst 1, 1) := by decide +kernel
theorem dX10_isRound_27 : decode cX10_isRound 27 = .ok (.goto 4, 3) := by decide +kernel
theorem dX10_isRound_30 : decode cX10_isRound 30 = .ok (.iconst 0, 1) := by decide +kernel
theorem dX10_isRound_31 : decode cX10_isRound 31 = .ok (.ireturn, 1) := by decide +kernel
theorem dX10_roundAmount_0 : decode cX10_roundAmount 0 = .ok (.aload_n 0, 1) := by decide +kernel
theorem dX10_roundAmount_1 : decode cX10_roundAmount 1 = .ok (.aload_n 0, 1) := by decide +kernel
theorem dX10_roundAmount_2 : decode cX10_roundAmount 2 = .ok (.iload_n 1, 1) := by decide +kernel
theorem dX10_roundAmount_3 : decode cX10_roundAmount 3 = .ok (.iload_n 2, 1) := by decide +kernel
theorem dX10_roundAmount_4 : decode cX10_roundAmount 4 = .ok (.iload_n 3, 1) := by decide +kernel
theorem dX10_roundAmount_5 : decode cX10_roundAmount 5 = .ok (.invokevirtual 219, 3) := by decide +kernel
theorem dX10_roundAmount_8 : decode cX10_roundAmount 8 = .ok (.putfield 92, 3) := by decide +kernel
theorem dX10_roundAmount_11 : decode cX10_roundAmount 11 = .ok (.aload_n 0, 1) := by decide +kernel
theorem dX10_roundAmount_12 : decode cX10_roundAmount 12 = .ok (.aload_n 0, 1) := by decide +kernel
theorem dX10_roundAmount_13 : decode cX10_roundAmount 13 = .ok (.getfield 92, 3) := by decide +kernel
theorem dX10_roundAmount_16 : decode cX10_roundAmount 16 = .ok (.ifCond .le 10, 3) := by decide +kernel
theorem dX10_roundAmount_19 : decode cX10_roundAmount 19 = .ok (.aload_n 0, 1) := by decide +kernel
theorem dX10_roundAmount_20 : decode cX10_roundAmount 20 = .ok (.getfield 92, 3) := by decide +kernel
theorem dX10_roundAmount_23 : decode cX10_roundAmount 23 = .ok (.goto 20, 3) := by decide +kernel
theorem dX10_roundAmount_26 : decode cX10_roundAmount 26 = .ok (.aload_n 0, 1) := by decide +kernel
theorem dX10_roundAmount_27 : decode cX10_roundAmount 27 = .ok (.iload_n 1, 1) := by decide +kernel
theorem dX10_roundAmount_28 : decode cX10_roundAmount 28 = .ok (.iload_n 2, 1) := by decide +kernel
theorem dX10_roundAmount_29 : decode cX10_roundAmount 29 = .ok (.iload_n 3, 1) := by decide +kernel
theorem dX10_roundAmount_30 : decode cX10_roundAmount 30 = .ok (.iload 4, 2) := by decide +kernel
theorem dX10_roundAmount_32 : decode cX10_roundAmount 32 = .ok (.invokevirtual 225, 3) := by decide +kernel
theorem dX10_roundAmount_35 : decode cX10_roundAmount 35 = .ok (.ifCond .eq 7, 3) := by decide +kernel
theorem dX10_roundAmount_38 : decode cX10_roundAmount 38 = .ok (.iconst 0, 1) := by decide +kernel
theorem dX10_roundAmount_39 : decode cX10_roundAmount 39 = .ok (.goto 4, 3) := by decide +kernel
theorem dX10_roundAmount_42 : decode cX10_roundAmount 42 = .ok (.iconst 4, 1) := by decide +kernel
theorem dX10_roundAmount_43 : decode cX10_roundAmount 43 = .ok (.putfield 92, 3) := by decide +kernel
theorem dX10_roundAmount_46 : decode cX10_roundAmount 46 = .ok (.aload_n 0, 1) := by decide +kernel
theorem dX10_roundAmount_47 : decode cX10_roundAmount 47 = .ok (.getfield 92, 3) := by decide +kernel
theorem dX10_roundAmount_50 : decode cX10_roundAmount 50 = .ok (.ifCond .le 7, 3) := by decide +kernel
theorem dX10_roundAmount_53 : decode cX10_roundAmount 53 = .ok (.iconst 0, 1) := by decide +kernel
theorem dX10_roundAmount_54 : decode cX10_roundAmount 54 = .ok (.goto 7, 3) := by decide +kernel
theorem dX10_roundAmount_57 : decode cX10_roundAmount 57 = .ok (.aload_n 0, 1) := by decide +kernel
theorem dX10_roundAmount_58 : decode cX10_roundAmount 58 = .ok (.getfield 209, 3) := by decide +kernel
theorem dX10_roundAmount_61 : decode cX10_roundAmount 61 = .ok (.ireturn, 1) := by decide +kernel
theorem dX10_roundSign_0 : decode cX10_roundSign 0 = .ok (.aload_n 0, 1) := by decide +kernel
theorem dX10_roundSign_1 : decode cX10_roundSign 1 = .ok (.aload_n 0, 1) := by decide +kernel
theorem dX10_roundSign_2 : decode cX10_roundSign 2 = .ok (.iload_n 1, 1) := by decide +kernel
theorem dX10_roundSign_3 : decode cX10_roundSign 3 = .ok (.iload_n 2, 1) := by decide +kernel
theorem dX10_roundSign_4 : decode cX10_roundSign 4 = .ok (.iload_n 3, 1) := by decide +kernel
theorem dX10_roundSign_5 : decode cX10_roundSign 5 = .ok (.invokevirtual 219, 3) := by decide +kernel
theorem dX10_roundSign_8 : decode cX10_roundSign 8 = .ok (.putfield 92, 3) := by decide +kernel
theorem dX10_roundSign_11 : decode cX10_roundSign 11 = .ok (.aload_n 0, 1) := by decide +kernel
theorem dX10_roundSign_12 : decode cX10_roundSign 12 = .ok (.aload_n 0, 1) := by decide +kernel
theorem dX10_roundSign_13 : decode cX10_roundSign 13 = .ok (.getfield 92, 3) := by decide +kernel
theorem dX10_roundSign_16 : decode cX10_roundSign 16 = .ok (.ifCond .le 10, 3) := by decide +kernel
theorem dX10_roundSign_19 : decode cX10_roundSign 19 = .ok (.aload_n 0, 1) := by decide +kernel
theorem dX10_roundSign_20 : decode cX10_roundSign 20 = .ok (.getfield 92, 3) := by decide +kernel
theorem dX10_roundSign_23 : decode cX10_roundSign 23 = .ok (.goto 35, 3) := by decide +kernel
theorem dX10_roundSign_26 : decode cX10_roundSign 26 = .ok (.aload_n 0, 1) := by decide +kernel
theorem dX10_roundSign_27 : decode cX10_roundSign 27 = .ok (.iload_n 1, 1) := by decide +kernel
theorem dX10_roundSign_28 : decode cX10_roundSign 28 = .ok (.iload_n 2, 1) := by decide +kernel
theorem dX10_roundSign_29 : decode cX10_roundSign 29 = .ok (.iload_n 3, 1) := by decide +kernel
theorem dX10_roundSign_30 : decode cX10_roundSign 30 = .ok (.iload 4, 2) := by decide +kernel
theorem dX10_roundSign_32 : decode cX10_roundSign 32 = .ok (.invokevirtual 225, 3) := by decide +kernel
theorem dX10_roundSign_35 : decode cX10_roundSign 35 = .ok (.ifCond .eq 22, 3) := by decide +kernel
theorem dX10_roundSign_38 : decode cX10_roundSign 38 = .ok (.iload 5, 2) := by decide +kernel
theorem dX10_roundSign_40 : decode cX10_roundSign 40 = .ok (.iconst 0, 1) := by decide +kernel
theorem dX10_roundSign_41 : decode cX10_roundSign 41 = .ok (.aload_n 0, 1) := by decide +kernel
theorem dX10_roundSign_42 : decode cX10_roundSign 42 = .ok (.getfield 206, 3) := by decide +kernel
theorem dX10_roundSign_45 : decode cX10_roundSign 45 = .ok (.iconst 1, 1) := by decide +kernel
theorem dX10_roundSign_46 : decode cX10_roundSign 46 = .ok (.isub, 1) := by decide +kernel
theorem dX10_roundSign_47 : decode cX10_roundSign 47 = .ok (.invokestatic 102, 3) := by decide +kernel
theorem dX10_roundSign_50 : decode cX10_roundSign 50 = .ok (.ifCond .eq 7, 3) := by decide +kernel
theorem dX10_roundSign_53 : decode cX10_roundSign 53 = .ok (.iconst 0, 1) := by decide +kernel
theorem dX10_roundSign_54 : decode cX10_roundSign 54 = .ok (.goto 4, 3) := by decide +kernel
theorem dX10_roundSign_57 : decode cX10_roundSign 57 = .ok (.iconst 4, 1) := by decide +kernel
theorem dX10_roundSign_58 : decode cX10_roundSign 58 = .ok (.putfield 92, 3) := by decide +kernel
theorem dX10_roundSign_61 : decode cX10_roundSign 61 = .ok (.aload_n 0, 1) := by decide +kernel
theorem dX10_roundSign_62 : decode cX10_roundSign 62 = .ok (.getfield 92, 3) := by decide +kernel
theorem dX10_roundSign_65 : decode cX10_roundSign 65 = .ok (.ifCond .le 7, 3) := by decide +kernel
theorem dX10_roundSign_68 : decode cX10_roundSign 68 = .ok (.iconst 0, 1) := by decide +kernel
theorem dX10_roundSign_69 : decode cX10_roundSign 69 = .ok (.goto 10, 3) := by decide +kernel
theorem dX10_roundSign_72 : decode cX10_roundSign 72 = .ok (.aload_n 0, 1) := by decide +kernel
theorem dX10_roundSign_73 : decode cX10_roundSign 73 = .ok (.getfield 80, 3) := by decide +kernel
theorem dX10_roundSign_76 : decode cX10_roundSign 76 = .ok (.iload 5, 2) := by decide +kernel
theorem dX10_roundSign_78 : decode cX10_roundSign 78 = .ok (.iaload, 1) := by decide +kernel
theorem dX10_roundSign_79 : decode cX10_roundSign 79 = .ok (.ireturn, 1) := by decide +kernel
theorem dX10_costAlong_0 : decode cX10_costAlong 0 = .ok (.iload_n 2, 1) := by decide +kernel
theorem dX10_costAlong_1 : decode cX10_costAlong 1 = .ok (.bipush 16, 2) := by decide +kernel
theorem dX10_costAlong_3 : decode cX10_costAlong 3 = .ok (.if_icmp .ge 17, 3) := by decide +kernel
theorem dX10_costAlong_6 : decode cX10_costAlong 6 = .ok (.aload_n 0, 1) := by decide +kernel
theorem dX10_costAlong_7 : decode cX10_costAlong 7 = .ok (.getfield 28, 3) := by decide +kernel
theorem dX10_costAlong_10 : decode cX10_costAlong 10 = .ok (.bipush 16, 2) := by decide +kernel
theorem dX10_costAlong_12 : decode cX10_costAlong 12 = .ok (.iload_n 1, 1) := by decide +kernel
theorem dX10_costAlong_13 : decode cX10_costAlong 13 = .ok (.imul, 1) := by decide +kernel
theorem dX10_costAlong_14 : decode cX10_costAlong 14 = .ok (.iload_n 2, 1) := by decide +kernel
theorem dX10_costAlong_15 : decode cX10_costAlong 15 = .ok (.iadd, 1) := by decide +kernel
theorem dX10_costAlong_16 : decode cX10_costAlong 16 = .ok (.iaload, 1) := by decide +kernel
theorem dX10_costAlong_17 : decode cX10_costAlong 17 = .ok (.goto 18, 3) := by decide +kernel
theorem dX10_costAlong_20 : decode cX10_costAlong 20 = .ok (.aload_n 0, 1) := by decide +kernel
theorem dX10_costAlong_21 : decode cX10_costAlong 21 = .ok (.getfield 28, 3) := by decide +kernel
theorem dX10_costAlong_24 : decode cX10_costAlong 24 = .ok (.bipush 16, 2) := by decide +kernel
theorem dX10_costAlong_26 : decode cX10_costAlong 26 = .ok (.iload_n 1, 1) := by decide +kernel
theorem dX10_costAlong_27 : decode cX10_costAlong 27 = .ok (.imul, 1) := by decide +kernel
theorem dX10_costAlong_28 : decode cX10_costAlong 28 = .ok (.iload_n 2, 1) := by decide +kernel
theorem dX10_costAlong_29 : decode cX10_costAlong 29 = .ok (.iadd, 1) := by decide +kernel
theorem dX10_costAlong_30 : decode cX10_costAlong 30 = .ok (.bipush 16, 2) := by decide +kernel
theorem dX10_costAlong_32 : decode cX10_costAlong 32 = .ok (.isub, 1) := by decide +kernel
theorem dX10_costAlong_33 : decode cX10_costAlong 33 = .ok (.iaload, 1) := by decide +kernel
theorem dX10_costAlong_34 : decode cX10_costAlong 34 = .ok (.ineg, 1) := by decide +kernel
theorem dX10_costAlong_35 : decode cX10_costAlong 35 = .ok (.ireturn, 1) := by decide +kernel
theorem dX10_costsFrom_0 : decode cX10_costsFrom 0 = .ok (.iconst 0, 1) := by decide +kernel
theorem dX10_costsFrom_1 : decode cX10_costsFrom 1 = .ok (.istore_n 3, 1) := by decide +kernel
theorem dX10_costsFrom_2 : decode cX10_costsFrom 2 = .ok (.iload_n 3, 1) := by decide +kernel
theorem dX10_costsFrom_3 : decode cX10_costsFrom 3 = .ok (.aload_n 0, 1) := by decide +kernel
theorem dX10_costsFrom_4 : decode cX10_costsFrom 4 = .ok (.getfield 7, 3) := by decide +kernel
theorem dX10_costsFrom_7 : decode cX10_costsFrom 7 = .ok (.iload_n 1, 1) := by decide +kernel
theorem dX10_costsFrom_8 : decode cX10_costsFrom 8 = .ok (.iaload, 1) := by decide +kernel
theorem dX10_costsFrom_9 : decode cX10_costsFrom 9 = .ok (.if_icmp .ge 31, 3) := by decide +kernel
theorem dX10_costsFrom_12 : decode cX10_costsFrom 12 = .ok (.aload_n 0, 1) := by decide +kernel
theorem dX10_costsFrom_13 : decode cX10_costsFrom 13 = .ok (.getfield 74, 3) := by decide +kernel
theorem dX10_costsFrom_16 : decode cX10_costsFrom 16 = .ok (.iload_n 3, 1) := by decide +kernel
theorem dX10_costsFrom_17 : decode cX10_costsFrom 17 = .ok (.iload_n 2, 1) := by decide +kernel
theorem dX10_costsFrom_18 : decode cX10_costsFrom 18 = .ok (.ifCond .lt 8, 3) := by decide +kernel
theorem dX10_costsFrom_21 : decode cX10_costsFrom 21 = .ok (.iload_n 3, 1) := by decide +kernel
theorem dX10_costsFrom_22 : decode cX10_costsFrom 22 = .ok (.iload_n 2, 1) := by decide +kernel
theorem dX10_costsFrom_23 : decode cX10_costsFrom 23 = .ok (.if_icmp .ne 7, 3) := by decide +kernel
theorem dX10_costsFrom_26 : decode cX10_costsFrom 26 = .ok (.iconst 0, 1) := by decide +kernel
theorem dX10_costsFrom_27 : decode cX10_costsFrom 27 = .ok (.goto 6, 3) := by decide +kernel
theorem dX10_costsFrom_30 : decode cX10_costsFrom 30 = .ok (.sipush 9999, 3) := by decide +kernel
theorem dX10_costsFrom_33 : decode cX10_costsFrom 33 = .ok (.iastore, 1) := by decide +kernel
theorem dX10_costsFrom_34 : decode cX10_costsFrom 34 = .ok (.iinc 3 1, 3) := by decide +kernel
theorem dX10_costsFrom_37 : decode cX10_costsFrom 37 = .ok (.goto (-35), 3) := by decide +kernel
theorem dX10_costsFrom_40 : decode cX10_costsFrom 40 = .ok (.iconst (-1), 1) := by decide +kernel
theorem dX10_costsFrom_41 : decode cX10_costsFrom 41 = .ok (.istore_n 3, 1) := by decide +kernel
theorem dX10_costsFrom_42 : decode cX10_costsFrom 42 = .ok (.iconst 0, 1) := by decide +kernel
theorem dX10_costsFrom_43 : decode cX10_costsFrom 43 = .ok (.istore 4, 2) := by decide +kernel
theorem dX10_costsFrom_45 : decode cX10_costsFrom 45 = .ok (.iload 4, 2) := by decide +kernel
theorem dX10_costsFrom_47 : decode cX10_costsFrom 47 = .ok (.aload_n 0, 1) := by decide +kernel
theorem dX10_costsFrom_48 : decode cX10_costsFrom 48 = .ok (.getfield 7, 3) := by decide +kernel
theorem dX10_costsFrom_51 : decode cX10_costsFrom 51 = .ok (.iload_n 1, 1) := by decide +kernel
theorem dX10_costsFrom_52 : decode cX10_costsFrom 52 = .ok (.iaload, 1) := by decide +kernel
theorem dX10_costsFrom_53 : decode cX10_costsFrom 53 = .ok (.if_icmp .gt 144, 3) := by decide +kernel
theorem dX10_costsFrom_56 : decode cX10_costsFrom 56 = .ok (.iconst (-1), 1) := by decide +kernel
theorem dX10_costsFrom_57 : decode cX10_costsFrom 57 = .ok (.istore_n 3, 1) := by decide +kernel
theorem dX10_costsFrom_58 : decode cX10_costsFrom 58 = .ok (.iconst 0, 1) := by decide +kernel
theorem dX10_costsFrom_59 : decode cX10_costsFrom 59 = .ok (.istore 5, 2) := by decide +kernel
theorem dX10_costsFrom_61 : decode cX10_costsFrom 61 = .ok (.iload 5, 2) := by decide +kernel
theorem dX10_costsFrom_63 : decode cX10_costsFrom 63 = .ok (.bipush 32, 2) := by decide +kernel
theorem dX10_costsFrom_65 : decode cX10_costsFrom 65 = .ok (.if_icmp .ge 126, 3) := by decide +kernel
theorem dX10_costsFrom_68 : decode cX10_costsFrom 68 = .ok (.aload_n 0, 1) := by decide +kernel
theorem dX10_costsFrom_69 : decode cX10_costsFrom 69 = .ok (.iload_n 1, 1) := by decide +kernel
theorem dX10_costsFrom_70 : decode cX10_costsFrom 70 = .ok (.iload 5, 2) := by decide +kernel
theorem dX10_costsFrom_72 : decode cX10_costsFrom 72 = .ok (.invokevirtual 190, 3) := by decide +kernel
theorem dX10_costsFrom_75 : decode cX10_costsFrom 75 = .ok (.ifCond .eq 110, 3) := by decide +kernel
theorem dX10_costsFrom_78 : decode cX10_costsFrom 78 = .ok (.aload_n 0, 1) := by decide +kernel
theorem dX10_costsFrom_79 : decode cX10_costsFrom 79 = .ok (.getfield 74, 3) := by decide +kernel
theorem dX10_costsFrom_82 : decode cX10_costsFrom 82 = .ok (.aload_n 0, 1) := by decide +kernel
theorem dX10_costsFrom_83 : decode cX10_costsFrom 83 = .ok (.iload_n 1, 1) := by decide +kernel
theorem dX10_costsFrom_84 : decode cX10_costsFrom 84 = .ok (.iload 5, 2) := by decide +kernel
theorem dX10_costsFrom_86 : decode cX10_costsFrom 86 = .ok (.invokevirtual 193, 3) := by decide +kernel
theorem dX10_costsFrom_89 : decode cX10_costsFrom 89 = .ok (.iaload, 1) := by decide +kernel
theorem dX10_costsFrom_90 : decode cX10_costsFrom 90 = .ok (.sipush 9000, 3) := by decide +kernel
theorem dX10_costsFrom_93 : decode cX10_costsFrom 93 = .ok (.if_icmp .ge 92, 3) := by decide +kernel
theorem dX10_costsFrom_96 : decode cX10_costsFrom 96 = .ok (.aload_n 0, 1) := by decide +kernel
theorem dX10_costsFrom_97 : decode cX10_costsFrom 97 = .ok (.getfield 74, 3) := by decide +kernel
theorem dX10_costsFrom_100 : decode cX10_costsFrom 100 = .ok (.aload_n 0, 1) := by decide +kernel
theorem dX10_costsFrom_101 : decode cX10_costsFrom 101 = .ok (.iload_n 1, 1) := by decide +kernel
theorem dX10_costsFrom_102 : decode cX10_costsFrom 102 = .ok (.iload 5, 2) := by decide +kernel
theorem dX10_costsFrom_104 : decode cX10_costsFrom 104 = .ok (.invokevirtual 193, 3) := by decide +kernel
theorem dX10_costsFrom_107 : decode cX10_costsFrom 107 = .ok (.iaload, 1) := by decide +kernel
theorem dX10_costsFrom_108 : decode cX10_costsFrom 108 = .ok (.aload_n 0, 1) := by decide +kernel
theorem dX10_costsFrom_109 : decode cX10_costsFrom 109 = .ok (.iload_n 1, 1) := by decide +kernel
theorem dX10_costsFrom_110 : decode cX10_costsFrom 110 = .ok (.iload 5, 2) := by decide +kernel
theorem dX10_costsFrom_112 : decode cX10_costsFrom 112 = .ok (.invokevirtual 229, 3) := by decide +kernel
theorem dX10_costsFrom_115 : decode cX10_costsFrom 115 = .ok (.iadd, 1) := by decide +kernel
theorem dX10_costsFrom_116 : decode cX10_costsFrom 116 = .ok (.aload_n 0, 1) := by decide +kernel
theorem dX10_costsFrom_117 : decode cX10_costsFrom 117 = .ok (.getfield 74, 3) := by decide +kernel
theorem dX10_costsFrom_120 : decode cX10_costsFrom 120 = .ok (.aload_n 0, 1) := by decide +kernel
theorem dX10_costsFrom_121 : decode cX10_costsFrom 121 = .ok (.iload_n 1, 1) := by decide +kernel
theorem dX10_costsFrom_122 : decode cX10_costsFrom 122 = .ok (.iload 5, 2) := by decide +kernel
theorem dX10_costsFrom_124 : decode cX10_costsFrom 124 = .ok (.invokevirtual 196, 3) := by decide +kernel
theorem dX10_costsFrom_127 : decode cX10_costsFrom 127 = .ok (.iaload, 1) := by decide +kernel
theorem dX10_costsFrom_128 : decode cX10_costsFrom 128 = .ok (.if_icmp .ge 57, 3) := by decide +kernel
theorem dX10_costsFrom_131 : decode cX10_costsFrom 131 = .ok (.aload_n 0, 1) := by decide +kernel
theorem dX10_costsFrom_132 : decode cX10_costsFrom 132 = .ok (.getfield 74, 3) := by decide +kernel
theorem dX10_costsFrom_135 : decode cX10_costsFrom 135 = .ok (.aload_n 0, 1) := by decide +kernel
theorem dX10_costsFrom_136 : decode cX10_costsFrom 136 = .ok (.iload_n 1, 1) := by decide +kernel
theorem dX10_costsFrom_137 : decode cX10_costsFrom 137 = .ok (.iload 5, 2) := by decide +kernel
theorem dX10_costsFrom_139 : decode cX10_costsFrom 139 = .ok (.invokevirtual 196, 3) := by decide +kernel
theorem dX10_costsFrom_142 : decode cX10_costsFrom 142 = .ok (.aload_n 0, 1) := by decide +kernel
theorem dX10_costsFrom_143 : decode cX10_costsFrom 143 = .ok (.getfield 74, 3) := by decide +kernel
theorem dX10_costsFrom_146 : decode cX10_costsFrom 146 = .ok (.aload_n 0, 1) := by decide +kernel
theorem dX10_costsFrom_147 : decode cX10_costsFrom 147 = .ok (.iload_n 1, 1) := by decide +kernel
theorem dX10_costsFrom_148 : decode cX10_costsFrom 148 = .ok (.iload 5, 2) := by decide +kernel
theorem dX10_costsFrom_150 : decode cX10_costsFrom 150 = .ok (.invokevirtual 193, 3) := by decide +kernel
theorem dX10_costsFrom_153 : decode cX10_costsFrom 153 = .ok (.iaload, 1) := by decide +kernel
theorem dX10_costsFrom_154 : decode cX10_costsFrom 154 = .ok (.aload_n 0, 1) := by decide +kernel
theorem dX10_costsFrom_155 : decode cX10_costsFrom 155 = .ok (.iload_n 1, 1) := by decide +kernel
theorem dX10_costsFrom_156 : decode cX10_costsFrom 156 = .ok (.iload 5, 2) := by decide +kernel
theorem dX10_costsFrom_158 : decode cX10_costsFrom 158 = .ok (.invokevirtual 229, 3) := by decide +kernel
theorem dX10_costsFrom_161 : decode cX10_costsFrom 161 = .ok (.iadd, 1) := by decide +kernel
theorem dX10_costsFrom_162 : decode cX10_costsFrom 162 = .ok (.iastore, 1) := by decide +kernel
theorem dX10_costsFrom_163 : decode cX10_costsFrom 163 = .ok (.aload_n 0, 1) := by decide +kernel
theorem dX10_costsFrom_164 : decode cX10_costsFrom 164 = .ok (.getfield 77, 3) := by decide +kernel
theorem dX10_costsFrom_167 : decode cX10_costsFrom 167 = .ok (.aload_n 0, 1) := by decide +kernel
theorem dX10_costsFrom_168 : decode cX10_costsFrom 168 = .ok (.iload_n 1, 1) := by decide +kernel
theorem dX10_costsFrom_169 : decode cX10_costsFrom 169 = .ok (.iload 5, 2) := by decide +kernel
theorem dX10_costsFrom_171 : decode cX10_costsFrom 171 = .ok (.invokevirtual 196, 3) := by decide +kernel
theorem dX10_costsFrom_174 : decode cX10_costsFrom 174 = .ok (.iload 5, 2) := by decide +kernel
theorem dX10_costsFrom_176 : decode cX10_costsFrom 176 = .ok (.iastore, 1) := by decide +kernel
theorem dX10_costsFrom_177 : decode cX10_costsFrom 177 = .ok (.aload_n 0, 1) := by decide +kernel
theorem dX10_costsFrom_178 : decode cX10_costsFrom 178 = .ok (.iload_n 1, 1) := by decide +kernel
theorem dX10_costsFrom_179 : decode cX10_costsFrom 179 = .ok (.iload 5, 2) := by decide +kernel
theorem dX10_costsFrom_181 : decode cX10_costsFrom 181 = .ok (.invokevirtual 196, 3) := by decide +kernel
theorem dX10_costsFrom_184 : decode cX10_costsFrom 184 = .ok (.istore_n 3, 1) := by decide +kernel
theorem dX10_costsFrom_185 : decode cX10_costsFrom 185 = .ok (.iinc 5 1, 3) := by decide +kernel
theorem dX10_costsFrom_188 : decode cX10_costsFrom 188 = .ok (.goto (-127), 3) := by decide +kernel
theorem dX10_costsFrom_191 : decode cX10_costsFrom 191 = .ok (.iinc 4 1, 3) := by decide +kernel
theorem dX10_costsFrom_194 : decode cX10_costsFrom 194 = .ok (.goto (-149), 3) := by decide +kernel
theorem dX10_costsFrom_197 : decode cX10_costsFrom 197 = .ok (.iload_n 3, 1) := by decide +kernel
theorem dX10_costsFrom_198 : decode cX10_costsFrom 198 = .ok (.ireturn, 1) := by decide +kernel
theorem dX10_turnsRound_0 : decode cX10_turnsRound 0 = .ok (.iload_n 2, 1) := by decide +kernel
theorem dX10_turnsRound_1 : decode cX10_turnsRound 1 = .ok (.istore_n 3, 1) := by decide +kernel
theorem dX10_turnsRound_2 : decode cX10_turnsRound 2 = .ok (.iconst 0, 1) := by decide +kernel
theorem dX10_turnsRound_3 : decode cX10_turnsRound 3 = .ok (.istore 4, 2) := by decide +kernel
theorem dX10_turnsRound_5 : decode cX10_turnsRound 5 = .ok (.iload 4, 2) := by decide +kernel
theorem dX10_turnsRound_7 : decode cX10_turnsRound 7 = .ok (.aload_n 0, 1) := by decide +kernel
theorem dX10_turnsRound_8 : decode cX10_turnsRound 8 = .ok (.getfield 7, 3) := by decide +kernel
theorem dX10_turnsRound_11 : decode cX10_turnsRound 11 = .ok (.iload_n 1, 1) := by decide +kernel
theorem dX10_turnsRound_12 : decode cX10_turnsRound 12 = .ok (.iaload, 1) := by decide +kernel
theorem dX10_turnsRound_13 : decode cX10_turnsRound 13 = .ok (.if_icmp .ge 21, 3) := by decide +kernel
theorem dX10_turnsRound_16 : decode cX10_turnsRound 16 = .ok (.aload_n 0, 1) := by decide +kernel
theorem dX10_turnsRound_17 : decode cX10_turnsRound 17 = .ok (.iload_n 1, 1) := by decide +kernel
theorem dX10_turnsRound_18 : decode cX10_turnsRound 18 = .ok (.aload_n 0, 1) := by decide +kernel
theorem dX10_turnsRound_19 : decode cX10_turnsRound 19 = .ok (.getfield 77, 3) := by decide +kernel
theorem dX10_turnsRound_22 : decode cX10_turnsRound 22 = .ok (.iload_n 3, 1) := by decide +kernel
theorem dX10_turnsRound_23 : decode cX10_turnsRound 23 = .ok (.iaload, 1) := by decide +kernel
theorem dX10_turnsRound_24 : decode cX10_turnsRound 24 = .ok (.invokevirtual 193, 3) := by decide +kernel
theorem dX10_turnsRound_27 : decode cX10_turnsRound 27 = .ok (.istore_n 3, 1) := by decide +kernel
theorem dX10_turnsRound_28 : decode cX10_turnsRound 28 = .ok (.iinc 4 1, 3) := by decide +kernel
theorem dX10_turnsRound_31 : decode cX10_turnsRound 31 = .ok (.goto (-26), 3) := by decide +kernel
theorem dX10_turnsRound_34 : decode cX10_turnsRound 34 = .ok (.iload_n 3, 1) := by decide +kernel
theorem dX10_turnsRound_35 : decode cX10_turnsRound 35 = .ok (.istore 4, 2) := by decide +kernel
theorem dX10_turnsRound_37 : decode cX10_turnsRound 37 = .ok (.sipush 1000, 3) := by decide +kernel
theorem dX10_turnsRound_40 : decode cX10_turnsRound 40 = .ok (.istore 5, 2) := by decide +kernel
theorem dX10_turnsRound_42 : decode cX10_turnsRound 42 = .ok (.iconst 1, 1) := by decide +kernel
theorem dX10_turnsRound_43 : decode cX10_turnsRound 43 = .ok (.istore 6, 2) := by decide +kernel
theorem dX10_turnsRound_45 : decode cX10_turnsRound 45 = .ok (.iload 6, 2) := by decide +kernel
theorem dX10_turnsRound_47 : decode cX10_turnsRound 47 = .ok (.ifCond .eq 99, 3) := by decide +kernel
theorem dX10_turnsRound_50 : decode cX10_turnsRound 50 = .ok (.aload_n 0, 1) := by decide +kernel
theorem dX10_turnsRound_51 : decode cX10_turnsRound 51 = .ok (.getfield 77, 3) := by decide +kernel
theorem dX10_turnsRound_54 : decode cX10_turnsRound 54 = .ok (.iload_n 3, 1) := by decide +kernel
theorem dX10_turnsRound_55 : decode cX10_turnsRound 55 = .ok (.iaload, 1) := by decide +kernel
theorem dX10_turnsRound_56 : decode cX10_turnsRound 56 = .ok (.istore 7, 2) := by decide +kernel
theorem dX10_turnsRound_58 : decode cX10_turnsRound 58 = .ok (.iload 7, 2) := by decide +kernel
theorem dX10_turnsRound_60 : decode cX10_turnsRound 60 = .ok (.bipush 16, 2) := by decide +kernel
theorem dX10_turnsRound_62 : decode cX10_turnsRound 62 = .ok (.irem, 1) := by decide +kernel
theorem dX10_turnsRound_63 : decode cX10_turnsRound 63 = .ok (.istore 8, 2) := by decide +kernel
theorem dX10_turnsRound_65 : decode cX10_turnsRound 65 = .ok (.iload 5, 2) := by decide +kernel
theorem dX10_turnsRound_67 : decode cX10_turnsRound 67 = .ok (.iload 7, 2) := by decide +kernel
theorem dX10_turnsRound_69 : decode cX10_turnsRound 69 = .ok (.bipush 16, 2) := by decide +kernel
theorem dX10_turnsRound_71 : decode cX10_turnsRound 71 = .ok (.if_icmp .ge 26, 3) := by decide +kernel
theorem dX10_turnsRound_74 : decode cX10_turnsRound 74 = .ok (.aload_n 0, 1) := by decide +kernel
theorem dX10_turnsRound_75 : decode cX10_turnsRound 75 = .ok (.getfield 25, 3) := by decide +kernel
theorem dX10_turnsRound_78 : decode cX10_turnsRound 78 = .ok (.bipush 16, 2) := by decide +kernel
theorem dX10_turnsRound_80 : decode cX10_turnsRound 80 = .ok (.iload_n 1, 1) := by decide +kernel
theorem dX10_turnsRound_81 : decode cX10_turnsRound 81 = .ok (.imul, 1) := by decide +kernel
theorem dX10_turnsRound_82 : decode cX10_turnsRound 82 = .ok (.iload 8, 2) := by decide +kernel
theorem dX10_turnsRound_84 : decode cX10_turnsRound 84 = .ok (.iadd, 1) := by decide +kernel
theorem dX10_turnsRound_85 : decode cX10_turnsRound 85 = .ok (.iaload, 1) := by decide +kernel
theorem dX10_turnsRound_86 : decode cX10_turnsRound 86 = .ok (.aload_n 0, 1) := by decide +kernel
theorem dX10_turnsRound_87 : decode cX10_turnsRound 87 = .ok (.getfield 71, 3) := by decide +kernel
theorem dX10_turnsRound_90 : decode cX10_turnsRound 90 = .ok (.iload 8, 2) := by decide +kernel
theorem dX10_turnsRound_92 : decode cX10_turnsRound 92 = .ok (.iaload, 1) := by decide +kernel
theorem dX10_turnsRound_93 : decode cX10_turnsRound 93 = .ok (.isub, 1) := by decide +kernel
theorem dX10_turnsRound_94 : decode cX10_turnsRound 94 = .ok (.goto 23, 3) := by decide +kernel
theorem dX10_turnsRound_97 : decode cX10_turnsRound 97 = .ok (.aload_n 0, 1) := by decide +kernel
theorem dX10_turnsRound_98 : decode cX10_turnsRound 98 = .ok (.getfield 71, 3) := by decide +kernel
theorem dX10_turnsRound_101 : decode cX10_turnsRound 101 = .ok (.iload 8, 2) := by decide +kernel
theorem dX10_turnsRound_103 : decode cX10_turnsRound 103 = .ok (.iaload, 1) := by decide +kernel
theorem dX10_turnsRound_104 : decode cX10_turnsRound 104 = .ok (.aload_n 0, 1) := by decide +kernel
theorem dX10_turnsRound_105 : decode cX10_turnsRound 105 = .ok (.getfield 22, 3) := by decide +kernel
theorem dX10_turnsRound_108 : decode cX10_turnsRound 108 = .ok (.bipush 16, 2) := by decide +kernel
theorem dX10_turnsRound_110 : decode cX10_turnsRound 110 = .ok (.iload_n 1, 1) := by decide +kernel
theorem dX10_turnsRound_111 : decode cX10_turnsRound 111 = .ok (.imul, 1) := by decide +kernel
theorem dX10_turnsRound_112 : decode cX10_turnsRound 112 = .ok (.iload 8, 2) := by decide +kernel
theorem dX10_turnsRound_114 : decode cX10_turnsRound 114 = .ok (.iadd, 1) := by decide +kernel
theorem dX10_turnsRound_115 : decode cX10_turnsRound 115 = .ok (.iaload, 1) := by decide +kernel
theorem dX10_turnsRound_116 : decode cX10_turnsRound 116 = .ok (.isub, 1) := by decide +kernel
theorem dX10_turnsRound_117 : decode cX10_turnsRound 117 = .ok (.invokestatic 199, 3) := by decide +kernel
theorem dX10_turnsRound_120 : decode cX10_turnsRound 120 = .ok (.istore 5, 2) := by decide +kernel
theorem dX10_turnsRound_122 : decode cX10_turnsRound 122 = .ok (.aload_n 0, 1) := by decide +kernel
theorem dX10_turnsRound_123 : decode cX10_turnsRound 123 = .ok (.iload_n 1, 1) := by decide +kernel
theorem dX10_turnsRound_124 : decode cX10_turnsRound 124 = .ok (.iload 7, 2) := by decide +kernel
theorem dX10_turnsRound_126 : decode cX10_turnsRound 126 = .ok (.invokevirtual 193, 3) := by decide +kernel
theorem dX10_turnsRound_129 : decode cX10_turnsRound 129 = .ok (.istore_n 3, 1) := by decide +kernel
theorem dX10_turnsRound_130 : decode cX10_turnsRound 130 = .ok (.iload_n 3, 1) := by decide +kernel
theorem dX10_turnsRound_131 : decode cX10_turnsRound 131 = .ok (.iload 4, 2) := by decide +kernel
theorem dX10_turnsRound_133 : decode cX10_turnsRound 133 = .ok (.if_icmp .eq 7, 3) := by decide +kernel
theorem dX10_turnsRound_136 : decode cX10_turnsRound 136 = .ok (.iconst 1, 1) := by decide +kernel
theorem dX10_turnsRound_137 : decode cX10_turnsRound 137 = .ok (.goto 4, 3) := by decide +kernel
theorem dX10_turnsRound_140 : decode cX10_turnsRound 140 = .ok (.iconst 0, 1) := by decide +kernel
theorem dX10_turnsRound_141 : decode cX10_turnsRound 141 = .ok (.istore 6, 2) := by decide +kernel
theorem dX10_turnsRound_143 : decode cX10_turnsRound 143 = .ok (.goto (-98), 3) := by decide +kernel
theorem dX10_turnsRound_146 : decode cX10_turnsRound 146 = .ok (.iconst 1, 1) := by decide +kernel
theorem dX10_turnsRound_147 : decode cX10_turnsRound 147 = .ok (.istore 6, 2) := by decide +kernel
theorem dX10_turnsRound_149 : decode cX10_turnsRound 149 = .ok (.iload 6, 2) := by decide +kernel
theorem dX10_turnsRound_151 : decode cX10_turnsRound 151 = .ok (.ifCond .eq 63, 3) := by decide +kernel
theorem dX10_turnsRound_154 : decode cX10_turnsRound 154 = .ok (.aload_n 0, 1) := by decide +kernel
theorem dX10_turnsRound_155 : decode cX10_turnsRound 155 = .ok (.getfield 77, 3) := by decide +kernel
theorem dX10_turnsRound_158 : decode cX10_turnsRound 158 = .ok (.iload_n 3, 1) := by decide +kernel
theorem dX10_turnsRound_159 : decode cX10_turnsRound 159 = .ok (.iaload, 1) := by decide +kernel
theorem dX10_turnsRound_160 : decode cX10_turnsRound 160 = .ok (.istore 7, 2) := by decide +kernel
theorem dX10_turnsRound_162 : decode cX10_turnsRound 162 = .ok (.aload_n 0, 1) := by decide +kernel
theorem dX10_turnsRound_163 : decode cX10_turnsRound 163 = .ok (.getfield 71, 3) := by decide +kernel
theorem dX10_turnsRound_166 : decode cX10_turnsRound 166 = .ok (.iload 7, 2) := by decide +kernel
theorem dX10_turnsRound_168 : decode cX10_turnsRound 168 = .ok (.bipush 16, 2) := by decide +kernel
theorem dX10_turnsRound_170 : decode cX10_turnsRound 170 = .ok (.irem, 1) := by decide +kernel
theorem dX10_turnsRound_171 : decode cX10_turnsRound 171 = .ok (.dup2, 1) := by decide +kernel
theorem dX10_turnsRound_172 : decode cX10_turnsRound 172 = .ok (.iaload, 1) := by decide +kernel
theorem dX10_turnsRound_173 : decode cX10_turnsRound 173 = .ok (.iload 7, 2) := by decide +kernel
theorem dX10_turnsRound_175 : decode cX10_turnsRound 175 = .ok (.bipush 16, 2) := by decide +kernel
theorem dX10_turnsRound_177 : decode cX10_turnsRound 177 = .ok (.if_icmp .ge 8, 3) := by decide +kernel
theorem dX10_turnsRound_180 : decode cX10_turnsRound 180 = .ok (.iload 5, 2) := by decide +kernel
theorem dX10_turnsRound_182 : decode cX10_turnsRound 182 = .ok (.goto 6, 3) := by decide +kernel
theorem dX10_turnsRound_185 : decode cX10_turnsRound 185 = .ok (.iload 5, 2) := by decide +kernel
theorem dX10_turnsRound_187 : decode cX10_turnsRound 187 = .ok (.ineg, 1) := by decide +kernel
theorem dX10_turnsRound_188 : decode cX10_turnsRound 188 = .ok (.iadd, 1) := by decide +kernel
theorem dX10_turnsRound_189 : decode cX10_turnsRound 189 = .ok (.iastore, 1) := by decide +kernel
theorem dX10_turnsRound_190 : decode cX10_turnsRound 190 = .ok (.aload_n 0, 1) := by decide +kernel
theorem dX10_turnsRound_191 : decode cX10_turnsRound 191 = .ok (.iload_n 1, 1) := by decide +kernel
theorem dX10_turnsRound_192 : decode cX10_turnsRound 192 = .ok (.iload 7, 2) := by decide +kernel
theorem dX10_turnsRound_194 : decode cX10_turnsRound 194 = .ok (.invokevirtual 193, 3) := by decide +kernel
theorem dX10_turnsRound_197 : decode cX10_turnsRound 197 = .ok (.istore_n 3, 1) := by decide +kernel
theorem dX10_turnsRound_198 : decode cX10_turnsRound 198 = .ok (.iload_n 3, 1) := by decide +kernel
theorem dX10_turnsRound_199 : decode cX10_turnsRound 199 = .ok (.iload 4, 2) := by decide +kernel
theorem dX10_turnsRound_201 : decode cX10_turnsRound 201 = .ok (.if_icmp .eq 7, 3) := by decide +kernel
theorem dX10_turnsRound_204 : decode cX10_turnsRound 204 = .ok (.iconst 1, 1) := by decide +kernel
theorem dX10_turnsRound_205 : decode cX10_turnsRound 205 = .ok (.goto 4, 3) := by decide +kernel
theorem dX10_turnsRound_208 : decode cX10_turnsRound 208 = .ok (.iconst 0, 1) := by decide +kernel
theorem dX10_turnsRound_209 : decode cX10_turnsRound 209 = .ok (.istore 6, 2) := by decide +kernel
theorem dX10_turnsRound_211 : decode cX10_turnsRound 211 = .ok (.goto (-62), 3) := by decide +kernel
theorem dX10_turnsRound_214 : decode cX10_turnsRound 214 = .ok (.return_, 1) := by decide +kernel
theorem dX10_findsCheap_0 : decode cX10_findsCheap 0 = .ok (.aload_n 0, 1) := by decide +kernel
theorem dX10_findsCheap_1 : decode cX10_findsCheap 1 = .ok (.iload_n 1, 1) := by decide +kernel
theorem dX10_findsCheap_2 : decode cX10_findsCheap 2 = .ok (.iload_n 2, 1) := by decide +kernel
theorem dX10_findsCheap_3 : decode cX10_findsCheap 3 = .ok (.iload_n 3, 1) := by decide +kernel
theorem dX10_findsCheap_4 : decode cX10_findsCheap 4 = .ok (.invokevirtual 184, 3) := by decide +kernel
theorem dX10_findsCheap_7 : decode cX10_findsCheap 7 = .ok (.ifCond .ne 5, 3) := by decide +kernel
theorem dX10_findsCheap_10 : decode cX10_findsCheap 10 = .ok (.iconst 0, 1) := by decide +kernel
theorem dX10_findsCheap_11 : decode cX10_findsCheap 11 = .ok (.ireturn, 1) := by decide +kernel
theorem dX10_findsCheap_12 : decode cX10_findsCheap 12 = .ok (.iconst 0, 1) := by decide +kernel
theorem dX10_findsCheap_13 : decode cX10_findsCheap 13 = .ok (.istore 4, 2) := by decide +kernel
theorem dX10_findsCheap_15 : decode cX10_findsCheap 15 = .ok (.iload 4, 2) := by decide +kernel
theorem dX10_findsCheap_17 : decode cX10_findsCheap 17 = .ok (.aload_n 0, 1) := by decide +kernel
theorem dX10_findsCheap_18 : decode cX10_findsCheap 18 = .ok (.getfield 13, 3) := by decide +kernel
theorem dX10_findsCheap_21 : decode cX10_findsCheap 21 = .ok (.iload_n 1, 1) := by decide +kernel
theorem dX10_findsCheap_22 : decode cX10_findsCheap 22 = .ok (.iaload, 1) := by decide +kernel
theorem dX10_findsCheap_23 : decode cX10_findsCheap 23 = .ok (.if_icmp .ge 23, 3) := by decide +kernel
theorem dX10_findsCheap_26 : decode cX10_findsCheap 26 = .ok (.aload_n 0, 1) := by decide +kernel
theorem dX10_findsCheap_27 : decode cX10_findsCheap 27 = .ok (.getfield 71, 3) := by decide +kernel
theorem dX10_findsCheap_30 : decode cX10_findsCheap 30 = .ok (.iload 4, 2) := by decide +kernel
theorem dX10_findsCheap_32 : decode cX10_findsCheap 32 = .ok (.aload_n 0, 1) := by decide +kernel
theorem dX10_findsCheap_33 : decode cX10_findsCheap 33 = .ok (.getfield 65, 3) := by decide +kernel
theorem dX10_findsCheap_36 : decode cX10_findsCheap 36 = .ok (.iload 4, 2) := by decide +kernel
theorem dX10_findsCheap_38 : decode cX10_findsCheap 38 = .ok (.iaload, 1) := by decide +kernel
theorem dX10_findsCheap_39 : decode cX10_findsCheap 39 = .ok (.iastore, 1) := by decide +kernel
theorem dX10_findsCheap_40 : decode cX10_findsCheap 40 = .ok (.iinc 4 1, 3) := by decide +kernel
theorem dX10_findsCheap_43 : decode cX10_findsCheap 43 = .ok (.goto (-28), 3) := by decide +kernel
theorem dX10_findsCheap_46 : decode cX10_findsCheap 46 = .ok (.aload_n 0, 1) := by decide +kernel
theorem dX10_findsCheap_47 : decode cX10_findsCheap 47 = .ok (.iload_n 1, 1) := by decide +kernel
theorem dX10_findsCheap_48 : decode cX10_findsCheap 48 = .ok (.iconst (-1), 1) := by decide +kernel
theorem dX10_findsCheap_49 : decode cX10_findsCheap 49 = .ok (.invokevirtual 232, 3) := by decide +kernel
theorem dX10_findsCheap_52 : decode cX10_findsCheap 52 = .ok (.istore 4, 2) := by decide +kernel
theorem dX10_findsCheap_54 : decode cX10_findsCheap 54 = .ok (.iload 4, 2) := by decide +kernel
theorem dX10_findsCheap_56 : decode cX10_findsCheap 56 = .ok (.ifCond .lt 21, 3) := by decide +kernel
theorem dX10_findsCheap_59 : decode cX10_findsCheap 59 = .ok (.aload_n 0, 1) := by decide +kernel
theorem dX10_findsCheap_60 : decode cX10_findsCheap 60 = .ok (.iload_n 1, 1) := by decide +kernel
theorem dX10_findsCheap_61 : decode cX10_findsCheap 61 = .ok (.iload 4, 2) := by decide +kernel
theorem dX10_findsCheap_63 : decode cX10_findsCheap 63 = .ok (.invokevirtual 235, 3) := by decide +kernel
theorem dX10_findsCheap_66 : decode cX10_findsCheap 66 = .ok (.aload_n 0, 1) := by decide +kernel
theorem dX10_findsCheap_67 : decode cX10_findsCheap 67 = .ok (.iload_n 1, 1) := by decide +kernel
theorem dX10_findsCheap_68 : decode cX10_findsCheap 68 = .ok (.iconst (-1), 1) := by decide +kernel
theorem dX10_findsCheap_69 : decode cX10_findsCheap 69 = .ok (.invokevirtual 232, 3) := by decide +kernel
theorem dX10_findsCheap_72 : decode cX10_findsCheap 72 = .ok (.istore 4, 2) := by decide +kernel
theorem dX10_findsCheap_74 : decode cX10_findsCheap 74 = .ok (.goto (-20), 3) := by decide +kernel
theorem dX10_findsCheap_77 : decode cX10_findsCheap 77 = .ok (.aload_n 0, 1) := by decide +kernel
theorem dX10_findsCheap_78 : decode cX10_findsCheap 78 = .ok (.iload_n 1, 1) := by decide +kernel
theorem dX10_findsCheap_79 : decode cX10_findsCheap 79 = .ok (.invokevirtual 167, 3) := by decide +kernel
theorem dX10_findsCheap_82 : decode cX10_findsCheap 82 = .ok (.aload_n 0, 1) := by decide +kernel
theorem dX10_findsCheap_83 : decode cX10_findsCheap 83 = .ok (.iload_n 1, 1) := by decide +kernel
theorem dX10_findsCheap_84 : decode cX10_findsCheap 84 = .ok (.iload_n 2, 1) := by decide +kernel
theorem dX10_findsCheap_85 : decode cX10_findsCheap 85 = .ok (.iload_n 3, 1) := by decide +kernel
theorem dX10_findsCheap_86 : decode cX10_findsCheap 86 = .ok (.invokevirtual 171, 3) := by decide +kernel
theorem dX10_findsCheap_89 : decode cX10_findsCheap 89 = .ok (.istore 5, 2) := by decide +kernel
theorem dX10_findsCheap_91 : decode cX10_findsCheap 91 = .ok (.iconst 0, 1) := by decide +kernel
theorem dX10_findsCheap_92 : decode cX10_findsCheap 92 = .ok (.istore 6, 2) := by decide +kernel
theorem dX10_findsCheap_94 : decode cX10_findsCheap 94 = .ok (.iload 6, 2) := by decide +kernel
theorem dX10_findsCheap_96 : decode cX10_findsCheap 96 = .ok (.aload_n 0, 1) := by decide +kernel
theorem dX10_findsCheap_97 : decode cX10_findsCheap 97 = .ok (.getfield 13, 3) := by decide +kernel
theorem dX10_findsCheap_100 : decode cX10_findsCheap 100 = .ok (.iload_n 1, 1) := by decide +kernel
theorem dX10_findsCheap_101 : decode cX10_findsCheap 101 = .ok (.iaload, 1) := by decide +kernel
theorem dX10_findsCheap_102 : decode cX10_findsCheap 102 = .ok (.if_icmp .ge 111, 3) := by decide +kernel
theorem dX10_findsCheap_105 : decode cX10_findsCheap 105 = .ok (.bipush 16, 2) := by decide +kernel
theorem dX10_findsCheap_107 : decode cX10_findsCheap 107 = .ok (.iload_n 1, 1) := by decide +kernel
theorem dX10_findsCheap_108 : decode cX10_findsCheap 108 = .ok (.imul, 1) := by decide +kernel
theorem dX10_findsCheap_109 : decode cX10_findsCheap 109 = .ok (.iload 6, 2) := by decide +kernel
theorem dX10_findsCheap_111 : decode cX10_findsCheap 111 = .ok (.iadd, 1) := by decide +kernel
theorem dX10_findsCheap_112 : decode cX10_findsCheap 112 = .ok (.istore 7, 2) := by decide +kernel
theorem dX10_findsCheap_114 : decode cX10_findsCheap 114 = .ok (.aload_n 0, 1) := by decide +kernel
theorem dX10_findsCheap_115 : decode cX10_findsCheap 115 = .ok (.getfield 74, 3) := by decide +kernel
theorem dX10_findsCheap_118 : decode cX10_findsCheap 118 = .ok (.aload_n 0, 1) := by decide +kernel
theorem dX10_findsCheap_119 : decode cX10_findsCheap 119 = .ok (.getfield 16, 3) := by decide +kernel
theorem dX10_findsCheap_122 : decode cX10_findsCheap 122 = .ok (.iload 7, 2) := by decide +kernel
theorem dX10_findsCheap_124 : decode cX10_findsCheap 124 = .ok (.iaload, 1) := by decide +kernel
theorem dX10_findsCheap_125 : decode cX10_findsCheap 125 = .ok (.iaload, 1) := by decide +kernel
theorem dX10_findsCheap_126 : decode cX10_findsCheap 126 = .ok (.aload_n 0, 1) := by decide +kernel
theorem dX10_findsCheap_127 : decode cX10_findsCheap 127 = .ok (.getfield 28, 3) := by decide +kernel
theorem dX10_findsCheap_130 : decode cX10_findsCheap 130 = .ok (.iload 7, 2) := by decide +kernel
theorem dX10_findsCheap_132 : decode cX10_findsCheap 132 = .ok (.iaload, 1) := by decide +kernel
theorem dX10_findsCheap_133 : decode cX10_findsCheap 133 = .ok (.iadd, 1) := by decide +kernel
theorem dX10_findsCheap_134 : decode cX10_findsCheap 134 = .ok (.aload_n 0, 1) := by decide +kernel
theorem dX10_findsCheap_135 : decode cX10_findsCheap 135 = .ok (.getfield 74, 3) := by decide +kernel
theorem dX10_findsCheap_138 : decode cX10_findsCheap 138 = .ok (.aload_n 0, 1) := by decide +kernel
theorem dX10_findsCheap_139 : decode cX10_findsCheap 139 = .ok (.getfield 19, 3) := by decide +kernel
theorem dX10_findsCheap_142 : decode cX10_findsCheap 142 = .ok (.iload 7, 2) := by decide +kernel
theorem dX10_findsCheap_144 : decode cX10_findsCheap 144 = .ok (.iaload, 1) := by decide +kernel
theorem dX10_findsCheap_145 : decode cX10_findsCheap 145 = .ok (.iaload, 1) := by decide +kernel
theorem dX10_findsCheap_146 : decode cX10_findsCheap 146 = .ok (.isub, 1) := by decide +kernel
theorem dX10_findsCheap_147 : decode cX10_findsCheap 147 = .ok (.istore 8, 2) := by decide +kernel
theorem dX10_findsCheap_149 : decode cX10_findsCheap 149 = .ok (.aload_n 0, 1) := by decide +kernel
theorem dX10_findsCheap_150 : decode cX10_findsCheap 150 = .ok (.getfield 68, 3) := by decide +kernel
theorem dX10_findsCheap_153 : decode cX10_findsCheap 153 = .ok (.iload 6, 2) := by decide +kernel
theorem dX10_findsCheap_155 : decode cX10_findsCheap 155 = .ok (.iload 8, 2) := by decide +kernel
theorem dX10_findsCheap_157 : decode cX10_findsCheap 157 = .ok (.ifCond .le 13, 3) := by decide +kernel
theorem dX10_findsCheap_160 : decode cX10_findsCheap 160 = .ok (.aload_n 0, 1) := by decide +kernel
theorem dX10_findsCheap_161 : decode cX10_findsCheap 161 = .ok (.getfield 65, 3) := by decide +kernel
theorem dX10_findsCheap_164 : decode cX10_findsCheap 164 = .ok (.iload 6, 2) := by decide +kernel
theorem dX10_findsCheap_166 : decode cX10_findsCheap 166 = .ok (.iaload, 1) := by decide +kernel
theorem dX10_findsCheap_167 : decode cX10_findsCheap 167 = .ok (.goto 10, 3) := by decide +kernel
theorem dX10_findsCheap_170 : decode cX10_findsCheap 170 = .ok (.aload_n 0, 1) := by decide +kernel
theorem dX10_findsCheap_171 : decode cX10_findsCheap 171 = .ok (.getfield 68, 3) := by decide +kernel
theorem dX10_findsCheap_174 : decode cX10_findsCheap 174 = .ok (.iload 6, 2) := by decide +kernel
theorem dX10_findsCheap_176 : decode cX10_findsCheap 176 = .ok (.iaload, 1) := by decide +kernel
theorem dX10_findsCheap_177 : decode cX10_findsCheap 177 = .ok (.iastore, 1) := by decide +kernel
theorem dX10_findsCheap_178 : decode cX10_findsCheap 178 = .ok (.aload_n 0, 1) := by decide +kernel
theorem dX10_findsCheap_179 : decode cX10_findsCheap 179 = .ok (.getfield 65, 3) := by decide +kernel
theorem dX10_findsCheap_182 : decode cX10_findsCheap 182 = .ok (.iload 6, 2) := by decide +kernel
theorem dX10_findsCheap_184 : decode cX10_findsCheap 184 = .ok (.iload 8, 2) := by decide +kernel
theorem dX10_findsCheap_186 : decode cX10_findsCheap 186 = .ok (.ifCond .ge 13, 3) := by decide +kernel
theorem dX10_findsCheap_189 : decode cX10_findsCheap 189 = .ok (.aload_n 0, 1) := by decide +kernel
theorem dX10_findsCheap_190 : decode cX10_findsCheap 190 = .ok (.getfield 68, 3) := by decide +kernel
theorem dX10_findsCheap_193 : decode cX10_findsCheap 193 = .ok (.iload 6, 2) := by decide +kernel
theorem dX10_findsCheap_195 : decode cX10_findsCheap 195 = .ok (.iaload, 1) := by decide +kernel
theorem dX10_findsCheap_196 : decode cX10_findsCheap 196 = .ok (.goto 10, 3) := by decide +kernel
theorem dX10_findsCheap_199 : decode cX10_findsCheap 199 = .ok (.aload_n 0, 1) := by decide +kernel
theorem dX10_findsCheap_200 : decode cX10_findsCheap 200 = .ok (.getfield 65, 3) := by decide +kernel
theorem dX10_findsCheap_203 : decode cX10_findsCheap 203 = .ok (.iload 6, 2) := by decide +kernel
theorem dX10_findsCheap_205 : decode cX10_findsCheap 205 = .ok (.iaload, 1) := by decide +kernel
theorem dX10_findsCheap_206 : decode cX10_findsCheap 206 = .ok (.iastore, 1) := by decide +kernel
theorem dX10_findsCheap_207 : decode cX10_findsCheap 207 = .ok (.iinc 6 1, 3) := by decide +kernel
theorem dX10_findsCheap_210 : decode cX10_findsCheap 210 = .ok (.goto (-116), 3) := by decide +kernel
theorem dX10_findsCheap_213 : decode cX10_findsCheap 213 = .ok (.aload_n 0, 1) := by decide +kernel
theorem dX10_findsCheap_214 : decode cX10_findsCheap 214 = .ok (.iload_n 1, 1) := by decide +kernel
theorem dX10_findsCheap_215 : decode cX10_findsCheap 215 = .ok (.iload_n 2, 1) := by decide +kernel
theorem dX10_findsCheap_216 : decode cX10_findsCheap 216 = .ok (.iload_n 3, 1) := by decide +kernel
theorem dX10_findsCheap_217 : decode cX10_findsCheap 217 = .ok (.iload 5, 2) := by decide +kernel
theorem dX10_findsCheap_219 : decode cX10_findsCheap 219 = .ok (.invokevirtual 174, 3) := by decide +kernel
theorem dX10_findsCheap_222 : decode cX10_findsCheap 222 = .ok (.iconst 0, 1) := by decide +kernel
theorem dX10_findsCheap_223 : decode cX10_findsCheap 223 = .ok (.istore 6, 2) := by decide +kernel
theorem dX10_findsCheap_225 : decode cX10_findsCheap 225 = .ok (.iload 6, 2) := by decide +kernel
theorem dX10_findsCheap_227 : decode cX10_findsCheap 227 = .ok (.aload_n 0, 1) := by decide +kernel
theorem dX10_findsCheap_228 : decode cX10_findsCheap 228 = .ok (.getfield 13, 3) := by decide +kernel
theorem dX10_findsCheap_231 : decode cX10_findsCheap 231 = .ok (.iload_n 1, 1) := by decide +kernel
theorem dX10_findsCheap_232 : decode cX10_findsCheap 232 = .ok (.iaload, 1) := by decide +kernel
theorem dX10_findsCheap_233 : decode cX10_findsCheap 233 = .ok (.if_icmp .ge 23, 3) := by decide +kernel
theorem dX10_findsCheap_236 : decode cX10_findsCheap 236 = .ok (.aload_n 0, 1) := by decide +kernel
theorem dX10_findsCheap_237 : decode cX10_findsCheap 237 = .ok (.getfield 71, 3) := by decide +kernel
theorem dX10_findsCheap_240 : decode cX10_findsCheap 240 = .ok (.iload 6, 2) := by decide +kernel
theorem dX10_findsCheap_242 : decode cX10_findsCheap 242 = .ok (.aload_n 0, 1) := by decide +kernel
theorem dX10_findsCheap_243 : decode cX10_findsCheap 243 = .ok (.getfield 65, 3) := by decide +kernel
theorem dX10_findsCheap_246 : decode cX10_findsCheap 246 = .ok (.iload 6, 2) := by decide +kernel
theorem dX10_findsCheap_248 : decode cX10_findsCheap 248 = .ok (.iaload, 1) := by decide +kernel
theorem dX10_findsCheap_249 : decode cX10_findsCheap 249 = .ok (.iastore, 1) := by decide +kernel
theorem dX10_findsCheap_250 : decode cX10_findsCheap 250 = .ok (.iinc 6 1, 3) := by decide +kernel
theorem dX10_findsCheap_253 : decode cX10_findsCheap 253 = .ok (.goto (-28), 3) := by decide +kernel
theorem dX10_findsCheap_256 : decode cX10_findsCheap 256 = .ok (.iconst 1, 1) := by decide +kernel
theorem dX10_findsCheap_257 : decode cX10_findsCheap 257 = .ok (.ireturn, 1) := by decide +kernel
theorem dX10_cost_0 : decode cX10_cost 0 = .ok (.aload_n 0, 1) := by decide +kernel
theorem dX10_cost_1 : decode cX10_cost 1 = .ok (.aload_n 0, 1) := by decide +kernel
theorem dX10_cost_2 : decode cX10_cost 2 = .ok (.iload_n 1, 1) := by decide +kernel
theorem dX10_cost_3 : decode cX10_cost 3 = .ok (.iload_n 2, 1) := by decide +kernel
theorem dX10_cost_4 : decode cX10_cost 4 = .ok (.iload_n 3, 1) := by decide +kernel
theorem dX10_cost_5 : decode cX10_cost 5 = .ok (.invokevirtual 178, 3) := by decide +kernel
theorem dX10_cost_8 : decode cX10_cost 8 = .ok (.putfield 92, 3) := by decide +kernel
theorem dX10_cost_11 : decode cX10_cost 11 = .ok (.aload_n 0, 1) := by decide +kernel
theorem dX10_cost_12 : decode cX10_cost 12 = .ok (.aload_n 0, 1) := by decide +kernel
theorem dX10_cost_13 : decode cX10_cost 13 = .ok (.getfield 92, 3) := by decide +kernel
theorem dX10_cost_16 : decode cX10_cost 16 = .ok (.ifCond .le 10, 3) := by decide +kernel
theorem dX10_cost_19 : decode cX10_cost 19 = .ok (.aload_n 0, 1) := by decide +kernel
theorem dX10_cost_20 : decode cX10_cost 20 = .ok (.getfield 92, 3) := by decide +kernel
theorem dX10_cost_23 : decode cX10_cost 23 = .ok (.goto 18, 3) := by decide +kernel
theorem dX10_cost_26 : decode cX10_cost 26 = .ok (.aload_n 0, 1) := by decide +kernel
theorem dX10_cost_27 : decode cX10_cost 27 = .ok (.iload_n 1, 1) := by decide +kernel
theorem dX10_cost_28 : decode cX10_cost 28 = .ok (.iload_n 2, 1) := by decide +kernel
theorem dX10_cost_29 : decode cX10_cost 29 = .ok (.iload_n 3, 1) := by decide +kernel
theorem dX10_cost_30 : decode cX10_cost 30 = .ok (.invokevirtual 238, 3) := by decide +kernel
theorem dX10_cost_33 : decode cX10_cost 33 = .ok (.ifCond .eq 7, 3) := by decide +kernel
theorem dX10_cost_36 : decode cX10_cost 36 = .ok (.iconst 0, 1) := by decide +kernel
theorem dX10_cost_37 : decode cX10_cost 37 = .ok (.goto 4, 3) := by decide +kernel
theorem dX10_cost_40 : decode cX10_cost 40 = .ok (.iconst 3, 1) := by decide +kernel
theorem dX10_cost_41 : decode cX10_cost 41 = .ok (.putfield 92, 3) := by decide +kernel
theorem dX10_cost_44 : decode cX10_cost 44 = .ok (.iconst 0, 1) := by decide +kernel
theorem dX10_cost_45 : decode cX10_cost 45 = .ok (.istore 4, 2) := by decide +kernel
theorem dX10_cost_47 : decode cX10_cost 47 = .ok (.iconst 0, 1) := by decide +kernel
theorem dX10_cost_48 : decode cX10_cost 48 = .ok (.istore 5, 2) := by decide +kernel
theorem dX10_cost_50 : decode cX10_cost 50 = .ok (.aload_n 0, 1) := by decide +kernel
theorem dX10_cost_51 : decode cX10_cost 51 = .ok (.getfield 92, 3) := by decide +kernel
theorem dX10_cost_54 : decode cX10_cost 54 = .ok (.ifCond .ne 45, 3) := by decide +kernel
theorem dX10_cost_57 : decode cX10_cost 57 = .ok (.iload 5, 2) := by decide +kernel
theorem dX10_cost_59 : decode cX10_cost 59 = .ok (.aload_n 0, 1) := by decide +kernel
theorem dX10_cost_60 : decode cX10_cost 60 = .ok (.getfield 13, 3) := by decide +kernel
theorem dX10_cost_63 : decode cX10_cost 63 = .ok (.iload_n 1, 1) := by decide +kernel
theorem dX10_cost_64 : decode cX10_cost 64 = .ok (.iaload, 1) := by decide +kernel
theorem dX10_cost_65 : decode cX10_cost 65 = .ok (.if_icmp .ge 34, 3) := by decide +kernel
theorem dX10_cost_68 : decode cX10_cost 68 = .ok (.iload 4, 2) := by decide +kernel
theorem dX10_cost_70 : decode cX10_cost 70 = .ok (.aload_n 0, 1) := by decide +kernel
theorem dX10_cost_71 : decode cX10_cost 71 = .ok (.getfield 71, 3) := by decide +kernel
theorem dX10_cost_74 : decode cX10_cost 74 = .ok (.iload 5, 2) := by decide +kernel
theorem dX10_cost_76 : decode cX10_cost 76 = .ok (.iaload, 1) := by decide +kernel
theorem dX10_cost_77 : decode cX10_cost 77 = .ok (.aload_n 0, 1) := by decide +kernel
theorem dX10_cost_78 : decode cX10_cost 78 = .ok (.getfield 28, 3) := by decide +kernel
theorem dX10_cost_81 : decode cX10_cost 81 = .ok (.bipush 16, 2) := by decide +kernel
theorem dX10_cost_83 : decode cX10_cost 83 = .ok (.iload_n 1, 1) := by decide +kernel
theorem dX10_cost_84 : decode cX10_cost 84 = .ok (.imul, 1) := by decide +kernel
theorem dX10_cost_85 : decode cX10_cost 85 = .ok (.iload 5, 2) := by decide +kernel
theorem dX10_cost_87 : decode cX10_cost 87 = .ok (.iadd, 1) := by decide +kernel
theorem dX10_cost_88 : decode cX10_cost 88 = .ok (.iaload, 1) := by decide +kernel
theorem dX10_cost_89 : decode cX10_cost 89 = .ok (.imul, 1) := by decide +kernel
theorem dX10_cost_90 : decode cX10_cost 90 = .ok (.iadd, 1) := by decide +kernel
theorem dX10_cost_91 : decode cX10_cost 91 = .ok (.istore 4, 2) := by decide +kernel
theorem dX10_cost_93 : decode cX10_cost 93 = .ok (.iinc 5 1, 3) := by decide +kernel
theorem dX10_cost_96 : decode cX10_cost 96 = .ok (.goto (-46), 3) := by decide +kernel
theorem dX10_cost_99 : decode cX10_cost 99 = .ok (.iload 4, 2) := by decide +kernel
theorem dX10_cost_101 : decode cX10_cost 101 = .ok (.ireturn, 1) := by decide +kernel
theorem dX10_cheapest_0 : decode cX10_cheapest 0 = .ok (.aload_n 0, 1) := by decide +kernel
theorem dX10_cheapest_1 : decode cX10_cheapest 1 = .ok (.aload_n 0, 1) := by decide +kernel
theorem dX10_cheapest_2 : decode cX10_cheapest 2 = .ok (.iload_n 1, 1) := by decide +kernel
theorem dX10_cheapest_3 : decode cX10_cheapest 3 = .ok (.iload_n 2, 1) := by decide +kernel
theorem dX10_cheapest_4 : decode cX10_cheapest 4 = .ok (.iload_n 3, 1) := by decide +kernel
theorem dX10_cheapest_5 : decode cX10_cheapest 5 = .ok (.iload 4, 2) := by decide +kernel
theorem dX10_cheapest_7 : decode cX10_cheapest 7 = .ok (.invokevirtual 181, 3) := by decide +kernel
theorem dX10_cheapest_10 : decode cX10_cheapest 10 = .ok (.putfield 92, 3) := by decide +kernel
theorem dX10_cheapest_13 : decode cX10_cheapest 13 = .ok (.aload_n 0, 1) := by decide +kernel
theorem dX10_cheapest_14 : decode cX10_cheapest 14 = .ok (.aload_n 0, 1) := by decide +kernel
theorem dX10_cheapest_15 : decode cX10_cheapest 15 = .ok (.getfield 92, 3) := by decide +kernel
theorem dX10_cheapest_18 : decode cX10_cheapest 18 = .ok (.ifCond .le 10, 3) := by decide +kernel
theorem dX10_cheapest_21 : decode cX10_cheapest 21 = .ok (.aload_n 0, 1) := by decide +kernel
theorem dX10_cheapest_22 : decode cX10_cheapest 22 = .ok (.getfield 92, 3) := by decide +kernel
theorem dX10_cheapest_25 : decode cX10_cheapest 25 = .ok (.goto 18, 3) := by decide +kernel
theorem dX10_cheapest_28 : decode cX10_cheapest 28 = .ok (.aload_n 0, 1) := by decide +kernel
theorem dX10_cheapest_29 : decode cX10_cheapest 29 = .ok (.iload_n 1, 1) := by decide +kernel
theorem dX10_cheapest_30 : decode cX10_cheapest 30 = .ok (.iload_n 2, 1) := by decide +kernel
theorem dX10_cheapest_31 : decode cX10_cheapest 31 = .ok (.iload_n 3, 1) := by decide +kernel
theorem dX10_cheapest_32 : decode cX10_cheapest 32 = .ok (.invokevirtual 238, 3) := by decide +kernel
theorem dX10_cheapest_35 : decode cX10_cheapest 35 = .ok (.ifCond .eq 7, 3) := by decide +kernel
theorem dX10_cheapest_38 : decode cX10_cheapest 38 = .ok (.iconst 0, 1) := by decide +kernel
theorem dX10_cheapest_39 : decode cX10_cheapest 39 = .ok (.goto 4, 3) := by decide +kernel
theorem dX10_cheapest_42 : decode cX10_cheapest 42 = .ok (.iconst 3, 1) := by decide +kernel
theorem dX10_cheapest_43 : decode cX10_cheapest 43 = .ok (.putfield 92, 3) := by decide +kernel
theorem dX10_cheapest_46 : decode cX10_cheapest 46 = .ok (.aload_n 0, 1) := by decide +kernel
theorem dX10_cheapest_47 : decode cX10_cheapest 47 = .ok (.getfield 92, 3) := by decide +kernel
theorem dX10_cheapest_50 : decode cX10_cheapest 50 = .ok (.ifCond .le 7, 3) := by decide +kernel
theorem dX10_cheapest_53 : decode cX10_cheapest 53 = .ok (.iconst 0, 1) := by decide +kernel
theorem dX10_cheapest_54 : decode cX10_cheapest 54 = .ok (.goto 10, 3) := by decide +kernel
theorem dX10_cheapest_57 : decode cX10_cheapest 57 = .ok (.aload_n 0, 1) := by decide +kernel
theorem dX10_cheapest_58 : decode cX10_cheapest 58 = .ok (.getfield 71, 3) := by decide +kernel
theorem dX10_cheapest_61 : decode cX10_cheapest 61 = .ok (.iload 4, 2) := by decide +kernel
theorem dX10_cheapest_63 : decode cX10_cheapest 63 = .ok (.iaload, 1) := by decide +kernel
theorem dX10_cheapest_64 : decode cX10_cheapest 64 = .ok (.ireturn, 1) := by decide +kernel
theorem dX10_price_0 : decode cX10_price 0 = .ok (.aload_n 0, 1) := by decide +kernel
theorem dX10_price_1 : decode cX10_price 1 = .ok (.aload_n 0, 1) := by decide +kernel
theorem dX10_price_2 : decode cX10_price 2 = .ok (.iload_n 1, 1) := by decide +kernel
theorem dX10_price_3 : decode cX10_price 3 = .ok (.invokevirtual 109, 3) := by decide +kernel
theorem dX10_price_6 : decode cX10_price 6 = .ok (.ifCond .eq 13, 3) := by decide +kernel
theorem dX10_price_9 : decode cX10_price 9 = .ok (.aload_n 0, 1) := by decide +kernel
theorem dX10_price_10 : decode cX10_price 10 = .ok (.iload_n 1, 1) := by decide +kernel
theorem dX10_price_11 : decode cX10_price 11 = .ok (.iload 4, 2) := by decide +kernel
theorem dX10_price_13 : decode cX10_price 13 = .ok (.invokevirtual 106, 3) := by decide +kernel
theorem dX10_price_16 : decode cX10_price 16 = .ok (.ifCond .ne 7, 3) := by decide +kernel
theorem dX10_price_19 : decode cX10_price 19 = .ok (.iconst 1, 1) := by decide +kernel
theorem dX10_price_20 : decode cX10_price 20 = .ok (.goto 18, 3) := by decide +kernel
theorem dX10_price_23 : decode cX10_price 23 = .ok (.aload_n 0, 1) := by decide +kernel
theorem dX10_price_24 : decode cX10_price 24 = .ok (.iload_n 1, 1) := by decide +kernel
theorem dX10_price_25 : decode cX10_price 25 = .ok (.iload_n 2, 1) := by decide +kernel
theorem dX10_price_26 : decode cX10_price 26 = .ok (.iload_n 3, 1) := by decide +kernel
theorem dX10_price_27 : decode cX10_price 27 = .ok (.invokevirtual 113, 3) := by decide +kernel
theorem dX10_price_30 : decode cX10_price 30 = .ok (.ifCond .ne 7, 3) := by decide +kernel
theorem dX10_price_33 : decode cX10_price 33 = .ok (.iconst 2, 1) := by decide +kernel
theorem dX10_price_34 : decode cX10_price 34 = .ok (.goto 4, 3) := by decide +kernel
theorem dX10_price_37 : decode cX10_price 37 = .ok (.iconst 0, 1) := by decide +kernel
theorem dX10_price_38 : decode cX10_price 38 = .ok (.putfield 92, 3) := by decide +kernel
theorem dX10_price_41 : decode cX10_price 41 = .ok (.aload_n 0, 1) := by decide +kernel
theorem dX10_price_42 : decode cX10_price 42 = .ok (.aload_n 0, 1) := by decide +kernel
theorem dX10_price_43 : decode cX10_price 43 = .ok (.getfield 92, 3) := by decide +kernel
theorem dX10_price_46 : decode cX10_price 46 = .ok (.ifCond .le 10, 3) := by decide +kernel
theorem dX10_price_49 : decode cX10_price 49 = .ok (.aload_n 0, 1) := by decide +kernel
theorem dX10_price_50 : decode cX10_price 50 = .ok (.getfield 92, 3) := by decide +kernel
theorem dX10_price_53 : decode cX10_price 53 = .ok (.goto 18, 3) := by decide +kernel
theorem dX10_price_56 : decode cX10_price 56 = .ok (.aload_n 0, 1) := by decide +kernel
theorem dX10_price_57 : decode cX10_price 57 = .ok (.iload_n 1, 1) := by decide +kernel
theorem dX10_price_58 : decode cX10_price 58 = .ok (.iload_n 2, 1) := by decide +kernel
theorem dX10_price_59 : decode cX10_price 59 = .ok (.iload_n 3, 1) := by decide +kernel
theorem dX10_price_60 : decode cX10_price 60 = .ok (.invokevirtual 238, 3) := by decide +kernel
theorem dX10_price_63 : decode cX10_price 63 = .ok (.ifCond .eq 7, 3) := by decide +kernel
theorem dX10_price_66 : decode cX10_price 66 = .ok (.iconst 0, 1) := by decide +kernel
theorem dX10_price_67 : decode cX10_price 67 = .ok (.goto 4, 3) := by decide +kernel
theorem dX10_price_70 : decode cX10_price 70 = .ok (.iconst 3, 1) := by decide +kernel
theorem dX10_price_71 : decode cX10_price 71 = .ok (.putfield 92, 3) := by decide +kernel
theorem dX10_price_74 : decode cX10_price 74 = .ok (.aload_n 0, 1) := by decide +kernel
theorem dX10_price_75 : decode cX10_price 75 = .ok (.getfield 92, 3) := by decide +kernel
theorem dX10_price_78 : decode cX10_price 78 = .ok (.ifCond .le 5, 3) := by decide +kernel
theorem dX10_price_81 : decode cX10_price 81 = .ok (.iconst 0, 1) := by decide +kernel
theorem dX10_price_82 : decode cX10_price 82 = .ok (.ireturn, 1) := by decide +kernel
theorem dX10_price_83 : decode cX10_price 83 = .ok (.aload_n 0, 1) := by decide +kernel
theorem dX10_price_84 : decode cX10_price 84 = .ok (.iload_n 1, 1) := by decide +kernel
theorem dX10_price_85 : decode cX10_price 85 = .ok (.iload_n 2, 1) := by decide +kernel
theorem dX10_price_86 : decode cX10_price 86 = .ok (.invokevirtual 232, 3) := by decide +kernel
theorem dX10_price_89 : decode cX10_price 89 = .ok (.istore 5, 2) := by decide +kernel
theorem dX10_price_91 : decode cX10_price 91 = .ok (.aload_n 0, 1) := by decide +kernel
theorem dX10_price_92 : decode cX10_price 92 = .ok (.iload 5, 2) := by decide +kernel
theorem dX10_price_94 : decode cX10_price 94 = .ok (.ifCond .ge 16, 3) := by decide +kernel
theorem dX10_price_97 : decode cX10_price 97 = .ok (.aload_n 0, 1) := by decide +kernel
theorem dX10_price_98 : decode cX10_price 98 = .ok (.getfield 74, 3) := by decide +kernel
theorem dX10_price_101 : decode cX10_price 101 = .ok (.iload 4, 2) := by decide +kernel
theorem dX10_price_103 : decode cX10_price 103 = .ok (.iaload, 1) := by decide +kernel
theorem dX10_price_104 : decode cX10_price 104 = .ok (.sipush 9000, 3) := by decide +kernel
theorem dX10_price_107 : decode cX10_price 107 = .ok (.if_icmp .le 7, 3) := by decide +kernel
theorem dX10_price_110 : decode cX10_price 110 = .ok (.iconst 3, 1) := by decide +kernel
theorem dX10_price_111 : decode cX10_price 111 = .ok (.goto 4, 3) := by decide +kernel
theorem dX10_price_114 : decode cX10_price 114 = .ok (.iconst 0, 1) := by decide +kernel
theorem dX10_price_115 : decode cX10_price 115 = .ok (.putfield 92, 3) := by decide +kernel
theorem dX10_price_118 : decode cX10_price 118 = .ok (.aload_n 0, 1) := by decide +kernel
theorem dX10_price_119 : decode cX10_price 119 = .ok (.getfield 92, 3) := by decide +kernel
theorem dX10_price_122 : decode cX10_price 122 = .ok (.ifCond .le 7, 3) := by decide +kernel
theorem dX10_price_125 : decode cX10_price 125 = .ok (.iconst 0, 1) := by decide +kernel
theorem dX10_price_126 : decode cX10_price 126 = .ok (.goto 10, 3) := by decide +kernel
theorem dX10_price_129 : decode cX10_price 129 = .ok (.aload_n 0, 1) := by decide +kernel
theorem dX10_price_130 : decode cX10_price 130 = .ok (.getfield 74, 3) := by decide +kernel
theorem dX10_price_133 : decode cX10_price 133 = .ok (.iload 4, 2) := by decide +kernel
theorem dX10_price_135 : decode cX10_price 135 = .ok (.iaload, 1) := by decide +kernel
theorem dX10_price_136 : decode cX10_price 136 = .ok (.ireturn, 1) := by decide +kernel
theorem dX10_counts_0 : decode cX10_counts 0 = .ok (.aload_n 0, 1) := by decide +kernel
theorem dX10_counts_1 : decode cX10_counts 1 = .ok (.getfield 25, 3) := by decide +kernel
theorem dX10_counts_4 : decode cX10_counts 4 = .ok (.bipush 16, 2) := by decide +kernel
theorem dX10_counts_6 : decode cX10_counts 6 = .ok (.iload_n 1, 1) := by decide +kernel
theorem dX10_counts_7 : decode cX10_counts 7 = .ok (.imul, 1) := by decide +kernel
theorem dX10_counts_8 : decode cX10_counts 8 = .ok (.iload_n 2, 1) := by decide +kernel
theorem dX10_counts_9 : decode cX10_counts 9 = .ok (.iadd, 1) := by decide +kernel
theorem dX10_counts_10 : decode cX10_counts 10 = .ok (.iaload, 1) := by decide +kernel
theorem dX10_counts_11 : decode cX10_counts 11 = .ok (.ifCond .le 7, 3) := by decide +kernel
theorem dX10_counts_14 : decode cX10_counts 14 = .ok (.iconst 1, 1) := by decide +kernel
theorem dX10_counts_15 : decode cX10_counts 15 = .ok (.goto 4, 3) := by decide +kernel
theorem dX10_counts_18 : decode cX10_counts 18 = .ok (.iconst 0, 1) := by decide +kernel
theorem dX10_counts_19 : decode cX10_counts 19 = .ok (.ireturn, 1) := by decide +kernel
theorem dX10_edgeWays_0 : decode cX10_edgeWays 0 = .ok (.aload_n 0, 1) := by decide +kernel
theorem dX10_edgeWays_1 : decode cX10_edgeWays 1 = .ok (.aload_n 0, 1) := by decide +kernel
theorem dX10_edgeWays_2 : decode cX10_edgeWays 2 = .ok (.iload_n 1, 1) := by decide +kernel
theorem dX10_edgeWays_3 : decode cX10_edgeWays 3 = .ok (.iload_n 2, 1) := by decide +kernel
theorem dX10_edgeWays_4 : decode cX10_edgeWays 4 = .ok (.iload_n 3, 1) := by decide +kernel
theorem dX10_edgeWays_5 : decode cX10_edgeWays 5 = .ok (.invokevirtual 178, 3) := by decide +kernel
theorem dX10_edgeWays_8 : decode cX10_edgeWays 8 = .ok (.putfield 92, 3) := by decide +kernel
theorem dX10_edgeWays_11 : decode cX10_edgeWays 11 = .ok (.sipush 1000, 3) := by decide +kernel
theorem dX10_edgeWays_14 : decode cX10_edgeWays 14 = .ok (.istore 4, 2) := by decide +kernel
theorem dX10_edgeWays_16 : decode cX10_edgeWays 16 = .ok (.iconst 0, 1) := by decide +kernel
theorem dX10_edgeWays_17 : decode cX10_edgeWays 17 = .ok (.istore 5, 2) := by decide +kernel
theorem dX10_edgeWays_19 : decode cX10_edgeWays 19 = .ok (.aload_n 0, 1) := by decide +kernel
theorem dX10_edgeWays_20 : decode cX10_edgeWays 20 = .ok (.getfield 92, 3) := by decide +kernel
theorem dX10_edgeWays_23 : decode cX10_edgeWays 23 = .ok (.ifCond .ne 98, 3) := by decide +kernel
theorem dX10_edgeWays_26 : decode cX10_edgeWays 26 = .ok (.iload 5, 2) := by decide +kernel
theorem dX10_edgeWays_28 : decode cX10_edgeWays 28 = .ok (.aload_n 0, 1) := by decide +kernel
theorem dX10_edgeWays_29 : decode cX10_edgeWays 29 = .ok (.iload_n 1, 1) := by decide +kernel
theorem dX10_edgeWays_30 : decode cX10_edgeWays 30 = .ok (.invokevirtual 128, 3) := by decide +kernel
theorem dX10_edgeWays_33 : decode cX10_edgeWays 33 = .ok (.if_icmp .ge 88, 3) := by decide +kernel
theorem dX10_edgeWays_36 : decode cX10_edgeWays 36 = .ok (.iconst 0, 1) := by decide +kernel
theorem dX10_edgeWays_37 : decode cX10_edgeWays 37 = .ok (.istore 6, 2) := by decide +kernel
theorem dX10_edgeWays_39 : decode cX10_edgeWays 39 = .ok (.iconst 0, 1) := by decide +kernel
theorem dX10_edgeWays_40 : decode cX10_edgeWays 40 = .ok (.istore 7, 2) := by decide +kernel
theorem dX10_edgeWays_42 : decode cX10_edgeWays 42 = .ok (.iload 7, 2) := by decide +kernel
theorem dX10_edgeWays_44 : decode cX10_edgeWays 44 = .ok (.aload_n 0, 1) := by decide +kernel
theorem dX10_edgeWays_45 : decode cX10_edgeWays 45 = .ok (.getfield 13, 3) := by decide +kernel
theorem dX10_edgeWays_48 : decode cX10_edgeWays 48 = .ok (.iload_n 1, 1) := by decide +kernel
theorem dX10_edgeWays_49 : decode cX10_edgeWays 49 = .ok (.iaload, 1) := by decide +kernel
theorem dX10_edgeWays_50 : decode cX10_edgeWays 50 = .ok (.if_icmp .ge 41, 3) := by decide +kernel
theorem dX10_edgeWays_53 : decode cX10_edgeWays 53 = .ok (.iload 6, 2) := by decide +kernel
theorem dX10_edgeWays_55 : decode cX10_edgeWays 55 = .ok (.aload_n 0, 1) := by decide +kernel
theorem dX10_edgeWays_56 : decode cX10_edgeWays 56 = .ok (.iload_n 1, 1) := by decide +kernel
theorem dX10_edgeWays_57 : decode cX10_edgeWays 57 = .ok (.iload 7, 2) := by decide +kernel
theorem dX10_edgeWays_59 : decode cX10_edgeWays 59 = .ok (.invokevirtual 241, 3) := by decide +kernel
theorem dX10_edgeWays_62 : decode cX10_edgeWays 62 = .ok (.ifCond .eq 19, 3) := by decide +kernel
theorem dX10_edgeWays_65 : decode cX10_edgeWays 65 = .ok (.aload_n 0, 1) := by decide +kernel
theorem dX10_edgeWays_66 : decode cX10_edgeWays 66 = .ok (.iload_n 1, 1) := by decide +kernel
theorem dX10_edgeWays_67 : decode cX10_edgeWays 67 = .ok (.iload 7, 2) := by decide +kernel
theorem dX10_edgeWays_69 : decode cX10_edgeWays 69 = .ok (.iload 5, 2) := by decide +kernel
theorem dX10_edgeWays_71 : decode cX10_edgeWays 71 = .ok (.invokevirtual 122, 3) := by decide +kernel
theorem dX10_edgeWays_74 : decode cX10_edgeWays 74 = .ok (.ifCond .eq 7, 3) := by decide +kernel
theorem dX10_edgeWays_77 : decode cX10_edgeWays 77 = .ok (.iconst 1, 1) := by decide +kernel
theorem dX10_edgeWays_78 : decode cX10_edgeWays 78 = .ok (.goto 4, 3) := by decide +kernel
theorem dX10_edgeWays_81 : decode cX10_edgeWays 81 = .ok (.iconst 0, 1) := by decide +kernel
theorem dX10_edgeWays_82 : decode cX10_edgeWays 82 = .ok (.iadd, 1) := by decide +kernel
theorem dX10_edgeWays_83 : decode cX10_edgeWays 83 = .ok (.istore 6, 2) := by decide +kernel
theorem dX10_edgeWays_85 : decode cX10_edgeWays 85 = .ok (.iinc 7 1, 3) := by decide +kernel
theorem dX10_edgeWays_88 : decode cX10_edgeWays 88 = .ok (.goto (-46), 3) := by decide +kernel
theorem dX10_edgeWays_91 : decode cX10_edgeWays 91 = .ok (.iload 5, 2) := by decide +kernel
theorem dX10_edgeWays_93 : decode cX10_edgeWays 93 = .ok (.iload_n 2, 1) := by decide +kernel
theorem dX10_edgeWays_94 : decode cX10_edgeWays 94 = .ok (.iload_n 3, 1) := by decide +kernel
theorem dX10_edgeWays_95 : decode cX10_edgeWays 95 = .ok (.invokestatic 150, 3) := by decide +kernel
theorem dX10_edgeWays_98 : decode cX10_edgeWays 98 = .ok (.ifCond .eq 13, 3) := by decide +kernel
theorem dX10_edgeWays_101 : decode cX10_edgeWays 101 = .ok (.iload 4, 2) := by decide +kernel
theorem dX10_edgeWays_103 : decode cX10_edgeWays 103 = .ok (.iload 6, 2) := by decide +kernel
theorem dX10_edgeWays_105 : decode cX10_edgeWays 105 = .ok (.invokestatic 199, 3) := by decide +kernel
theorem dX10_edgeWays_108 : decode cX10_edgeWays 108 = .ok (.goto 5, 3) := by decide +kernel
theorem dX10_edgeWays_111 : decode cX10_edgeWays 111 = .ok (.iload 4, 2) := by decide +kernel
theorem dX10_edgeWays_113 : decode cX10_edgeWays 113 = .ok (.istore 4, 2) := by decide +kernel
theorem dX10_edgeWays_115 : decode cX10_edgeWays 115 = .ok (.iinc 5 1, 3) := by decide +kernel
theorem dX10_edgeWays_118 : decode cX10_edgeWays 118 = .ok (.goto (-99), 3) := by decide +kernel
theorem dX10_edgeWays_121 : decode cX10_edgeWays 121 = .ok (.aload_n 0, 1) := by decide +kernel
theorem dX10_edgeWays_122 : decode cX10_edgeWays 122 = .ok (.getfield 92, 3) := by decide +kernel
theorem dX10_edgeWays_125 : decode cX10_edgeWays 125 = .ok (.ifCond .le 7, 3) := by decide +kernel
theorem dX10_edgeWays_128 : decode cX10_edgeWays 128 = .ok (.iconst 0, 1) := by decide +kernel
theorem dX10_edgeWays_129 : decode cX10_edgeWays 129 = .ok (.goto 5, 3) := by decide +kernel
theorem dX10_edgeWays_132 : decode cX10_edgeWays 132 = .ok (.iload 4, 2) := by decide +kernel
theorem dX10_edgeWays_134 : decode cX10_edgeWays 134 = .ok (.ireturn, 1) := by decide +kernel
theorem dX10_direct_0 : decode cX10_direct 0 = .ok (.iconst 0, 1) := by decide +kernel
theorem dX10_direct_1 : decode cX10_direct 1 = .ok (.istore 4, 2) := by decide +kernel
theorem dX10_direct_3 : decode cX10_direct 3 = .ok (.iconst 0, 1) := by decide +kernel
theorem dX10_direct_4 : decode cX10_direct 4 = .ok (.istore 5, 2) := by decide +kernel
theorem dX10_direct_6 : decode cX10_direct 6 = .ok (.iload 5, 2) := by decide +kernel
theorem dX10_direct_8 : decode cX10_direct 8 = .ok (.aload_n 0, 1) := by decide +kernel
theorem dX10_direct_9 : decode cX10_direct 9 = .ok (.getfield 13, 3) := by decide +kernel
theorem dX10_direct_12 : decode cX10_direct 12 = .ok (.iload_n 1, 1) := by decide +kernel
theorem dX10_direct_13 : decode cX10_direct 13 = .ok (.iaload, 1) := by decide +kernel
theorem dX10_direct_14 : decode cX10_direct 14 = .ok (.if_icmp .ge 61, 3) := by decide +kernel
theorem dX10_direct_17 : decode cX10_direct 17 = .ok (.iload 4, 2) := by decide +kernel
theorem dX10_direct_19 : decode cX10_direct 19 = .ok (.aload_n 0, 1) := by decide +kernel
theorem dX10_direct_20 : decode cX10_direct 20 = .ok (.iload_n 1, 1) := by decide +kernel
theorem dX10_direct_21 : decode cX10_direct 21 = .ok (.iload 5, 2) := by decide +kernel
theorem dX10_direct_23 : decode cX10_direct 23 = .ok (.invokevirtual 241, 3) := by decide +kernel
theorem dX10_direct_26 : decode cX10_direct 26 = .ok (.ifCond .eq 39, 3) := by decide +kernel
theorem dX10_direct_29 : decode cX10_direct 29 = .ok (.aload_n 0, 1) := by decide +kernel
theorem dX10_direct_30 : decode cX10_direct 30 = .ok (.getfield 16, 3) := by decide +kernel
theorem dX10_direct_33 : decode cX10_direct 33 = .ok (.bipush 16, 2) := by decide +kernel
theorem dX10_direct_35 : decode cX10_direct 35 = .ok (.iload_n 1, 1) := by decide +kernel
theorem dX10_direct_36 : decode cX10_direct 36 = .ok (.imul, 1) := by decide +kernel
theorem dX10_direct_37 : decode cX10_direct 37 = .ok (.iload 5, 2) := by decide +kernel
theorem dX10_direct_39 : decode cX10_direct 39 = .ok (.iadd, 1) := by decide +kernel
theorem dX10_direct_40 : decode cX10_direct 40 = .ok (.iaload, 1) := by decide +kernel
theorem dX10_direct_41 : decode cX10_direct 41 = .ok (.iload_n 2, 1) := by decide +kernel
theorem dX10_direct_42 : decode cX10_direct 42 = .ok (.if_icmp .ne 23, 3) := by decide +kernel
theorem dX10_direct_45 : decode cX10_direct 45 = .ok (.aload_n 0, 1) := by decide +kernel
theorem dX10_direct_46 : decode cX10_direct 46 = .ok (.getfield 19, 3) := by decide +kernel
theorem dX10_direct_49 : decode cX10_direct 49 = .ok (.bipush 16, 2) := by decide +kernel
theorem dX10_direct_51 : decode cX10_direct 51 = .ok (.iload_n 1, 1) := by decide +kernel
theorem dX10_direct_52 : decode cX10_direct 52 = .ok (.imul, 1) := by decide +kernel
theorem dX10_direct_53 : decode cX10_direct 53 = .ok (.iload 5, 2) := by decide +kernel
theorem dX10_direct_55 : decode cX10_direct 55 = .ok (.iadd, 1) := by decide +kernel
theorem dX10_direct_56 : decode cX10_direct 56 = .ok (.iaload, 1) := by decide +kernel
theorem dX10_direct_57 : decode cX10_direct 57 = .ok (.iload_n 3, 1) := by decide +kernel
theorem dX10_direct_58 : decode cX10_direct 58 = .ok (.if_icmp .ne 7, 3) := by decide +kernel
theorem dX10_direct_61 : decode cX10_direct 61 = .ok (.iconst 1, 1) := by decide +kernel
theorem dX10_direct_62 : decode cX10_direct 62 = .ok (.goto 4, 3) := by decide +kernel
theorem dX10_direct_65 : decode cX10_direct 65 = .ok (.iconst 0, 1) := by decide +kernel
theorem dX10_direct_66 : decode cX10_direct 66 = .ok (.iadd, 1) := by decide +kernel
theorem dX10_direct_67 : decode cX10_direct 67 = .ok (.istore 4, 2) := by decide +kernel
theorem dX10_direct_69 : decode cX10_direct 69 = .ok (.iinc 5 1, 3) := by decide +kernel
theorem dX10_direct_72 : decode cX10_direct 72 = .ok (.goto (-66), 3) := by decide +kernel
theorem dX10_direct_75 : decode cX10_direct 75 = .ok (.iload 4, 2) := by decide +kernel
theorem dX10_direct_77 : decode cX10_direct 77 = .ok (.ireturn, 1) := by decide +kernel
theorem dX10_leads_0 : decode cX10_leads 0 = .ok (.iconst 1, 1) := by decide +kernel
theorem dX10_leads_1 : decode cX10_leads 1 = .ok (.iload_n 2, 1) := by decide +kernel
theorem dX10_leads_2 : decode cX10_leads 2 = .ok (.ishl, 1) := by decide +kernel
theorem dX10_leads_3 : decode cX10_leads 3 = .ok (.istore 5, 2) := by decide +kernel
theorem dX10_leads_5 : decode cX10_leads 5 = .ok (.iconst 0, 1) := by decide +kernel
theorem dX10_leads_6 : decode cX10_leads 6 = .ok (.istore 6, 2) := by decide +kernel
theorem dX10_leads_8 : decode cX10_leads 8 = .ok (.iload 6, 2) := by decide +kernel
theorem dX10_leads_10 : decode cX10_leads 10 = .ok (.aload_n 0, 1) := by decide +kernel
theorem dX10_leads_11 : decode cX10_leads 11 = .ok (.getfield 7, 3) := by decide +kernel
theorem dX10_leads_14 : decode cX10_leads 14 = .ok (.iload_n 1, 1) := by decide +kernel
theorem dX10_leads_15 : decode cX10_leads 15 = .ok (.iaload, 1) := by decide +kernel
theorem dX10_leads_16 : decode cX10_leads 16 = .ok (.if_icmp .ge 125, 3) := by decide +kernel
theorem dX10_leads_19 : decode cX10_leads 19 = .ok (.iconst 0, 1) := by decide +kernel
theorem dX10_leads_20 : decode cX10_leads 20 = .ok (.istore 7, 2) := by decide +kernel
theorem dX10_leads_22 : decode cX10_leads 22 = .ok (.iload 7, 2) := by decide +kernel
theorem dX10_leads_24 : decode cX10_leads 24 = .ok (.aload_n 0, 1) := by decide +kernel
theorem dX10_leads_25 : decode cX10_leads 25 = .ok (.getfield 13, 3) := by decide +kernel
theorem dX10_leads_28 : decode cX10_leads 28 = .ok (.iload_n 1, 1) := by decide +kernel
theorem dX10_leads_29 : decode cX10_leads 29 = .ok (.iaload, 1) := by decide +kernel
theorem dX10_leads_30 : decode cX10_leads 30 = .ok (.if_icmp .ge 105, 3) := by decide +kernel
theorem dX10_leads_33 : decode cX10_leads 33 = .ok (.aload_n 0, 1) := by decide +kernel
theorem dX10_leads_34 : decode cX10_leads 34 = .ok (.getfield 16, 3) := by decide +kernel
theorem dX10_leads_37 : decode cX10_leads 37 = .ok (.bipush 16, 2) := by decide +kernel
theorem dX10_leads_39 : decode cX10_leads 39 = .ok (.iload_n 1, 1) := by decide +kernel
theorem dX10_leads_40 : decode cX10_leads 40 = .ok (.imul, 1) := by decide +kernel
theorem dX10_leads_41 : decode cX10_leads 41 = .ok (.iload 7, 2) := by decide +kernel
theorem dX10_leads_43 : decode cX10_leads 43 = .ok (.iadd, 1) := by decide +kernel
theorem dX10_leads_44 : decode cX10_leads 44 = .ok (.iaload, 1) := by decide +kernel
theorem dX10_leads_45 : decode cX10_leads 45 = .ok (.istore 8, 2) := by decide +kernel
theorem dX10_leads_47 : decode cX10_leads 47 = .ok (.aload_n 0, 1) := by decide +kernel
theorem dX10_leads_48 : decode cX10_leads 48 = .ok (.getfield 19, 3) := by decide +kernel
theorem dX10_leads_51 : decode cX10_leads 51 = .ok (.bipush 16, 2) := by decide +kernel
theorem dX10_leads_53 : decode cX10_leads 53 = .ok (.iload_n 1, 1) := by decide +kernel
theorem dX10_leads_54 : decode cX10_leads 54 = .ok (.imul, 1) := by decide +kernel
theorem dX10_leads_55 : decode cX10_leads 55 = .ok (.iload 7, 2) := by decide +kernel
theorem dX10_leads_57 : decode cX10_leads 57 = .ok (.iadd, 1) := by decide +kernel
theorem dX10_leads_58 : decode cX10_leads 58 = .ok (.iaload, 1) := by decide +kernel
theorem dX10_leads_59 : decode cX10_leads 59 = .ok (.istore 9, 2) := by decide +kernel
theorem dX10_leads_61 : decode cX10_leads 61 = .ok (.iload 8, 2) := by decide +kernel
theorem dX10_leads_63 : decode cX10_leads 63 = .ok (.iload_n 2, 1) := by decide +kernel
theorem dX10_leads_64 : decode cX10_leads 64 = .ok (.if_icmp .ne 13, 3) := by decide +kernel
theorem dX10_leads_67 : decode cX10_leads 67 = .ok (.iload 9, 2) := by decide +kernel
theorem dX10_leads_69 : decode cX10_leads 69 = .ok (.iload_n 3, 1) := by decide +kernel
theorem dX10_leads_70 : decode cX10_leads 70 = .ok (.if_icmp .ne 7, 3) := by decide +kernel
theorem dX10_leads_73 : decode cX10_leads 73 = .ok (.iconst 1, 1) := by decide +kernel
theorem dX10_leads_74 : decode cX10_leads 74 = .ok (.goto 4, 3) := by decide +kernel
theorem dX10_leads_77 : decode cX10_leads 77 = .ok (.iconst 0, 1) := by decide +kernel
theorem dX10_leads_78 : decode cX10_leads 78 = .ok (.istore 10, 2) := by decide +kernel
theorem dX10_leads_80 : decode cX10_leads 80 = .ok (.aload_n 0, 1) := by decide +kernel
theorem dX10_leads_81 : decode cX10_leads 81 = .ok (.iload_n 1, 1) := by decide +kernel
theorem dX10_leads_82 : decode cX10_leads 82 = .ok (.iload 7, 2) := by decide +kernel
theorem dX10_leads_84 : decode cX10_leads 84 = .ok (.invokevirtual 241, 3) := by decide +kernel
theorem dX10_leads_87 : decode cX10_leads 87 = .ok (.ifCond .eq 38, 3) := by decide +kernel
theorem dX10_leads_90 : decode cX10_leads 90 = .ok (.iload 10, 2) := by decide +kernel
theorem dX10_leads_92 : decode cX10_leads 92 = .ok (.ifCond .ne 33, 3) := by decide +kernel
theorem dX10_leads_95 : decode cX10_leads 95 = .ok (.iload 5, 2) := by decide +kernel
theorem dX10_leads_97 : decode cX10_leads 97 = .ok (.iload 8, 2) := by decide +kernel
theorem dX10_leads_99 : decode cX10_leads 99 = .ok (.invokestatic 95, 3) := by decide +kernel
theorem dX10_leads_102 : decode cX10_leads 102 = .ok (.ifCond .eq 23, 3) := by decide +kernel
theorem dX10_leads_105 : decode cX10_leads 105 = .ok (.iload 4, 2) := by decide +kernel
theorem dX10_leads_107 : decode cX10_leads 107 = .ok (.iload 9, 2) := by decide +kernel
theorem dX10_leads_109 : decode cX10_leads 109 = .ok (.invokestatic 95, 3) := by decide +kernel
theorem dX10_leads_112 : decode cX10_leads 112 = .ok (.ifCond .ne 13, 3) := by decide +kernel
theorem dX10_leads_115 : decode cX10_leads 115 = .ok (.iload 5, 2) := by decide +kernel
theorem dX10_leads_117 : decode cX10_leads 117 = .ok (.iconst 1, 1) := by decide +kernel
theorem dX10_leads_118 : decode cX10_leads 118 = .ok (.iload 9, 2) := by decide +kernel
theorem dX10_leads_120 : decode cX10_leads 120 = .ok (.ishl, 1) := by decide +kernel
theorem dX10_leads_121 : decode cX10_leads 121 = .ok (.ior, 1) := by decide +kernel
theorem dX10_leads_122 : decode cX10_leads 122 = .ok (.goto 5, 3) := by decide +kernel
theorem dX10_leads_125 : decode cX10_leads 125 = .ok (.iload 5, 2) := by decide +kernel
theorem dX10_leads_127 : decode cX10_leads 127 = .ok (.istore 5, 2) := by decide +kernel
theorem dX10_leads_129 : decode cX10_leads 129 = .ok (.iinc 7 1, 3) := by decide +kernel
theorem dX10_leads_132 : decode cX10_leads 132 = .ok (.goto (-110), 3) := by decide +kernel
theorem dX10_leads_135 : decode cX10_leads 135 = .ok (.iinc 6 1, 3) := by decide +kernel
theorem dX10_leads_138 : decode cX10_leads 138 = .ok (.goto (-130), 3) := by decide +kernel
theorem dX10_leads_141 : decode cX10_leads 141 = .ok (.iload 5, 2) := by decide +kernel
theorem dX10_leads_143 : decode cX10_leads 143 = .ok (.iload_n 3, 1) := by decide +kernel
theorem dX10_leads_144 : decode cX10_leads 144 = .ok (.invokestatic 95, 3) := by decide +kernel
theorem dX10_leads_147 : decode cX10_leads 147 = .ok (.ireturn, 1) := by decide +kernel
theorem dX10_parting_0 : decode cX10_parting 0 = .ok (.iconst (-1), 1) := by decide +kernel
theorem dX10_parting_1 : decode cX10_parting 1 = .ok (.istore 4, 2) := by decide +kernel
theorem dX10_parting_3 : decode cX10_parting 3 = .ok (.iconst 0, 1) := by decide +kernel
theorem dX10_parting_4 : decode cX10_parting 4 = .ok (.istore 5, 2) := by decide +kernel
theorem dX10_parting_6 : decode cX10_parting 6 = .ok (.iload 5, 2) := by decide +kernel
theorem dX10_parting_8 : decode cX10_parting 8 = .ok (.aload_n 0, 1) := by decide +kernel
theorem dX10_parting_9 : decode cX10_parting 9 = .ok (.iload_n 1, 1) := by decide +kernel
theorem dX10_parting_10 : decode cX10_parting 10 = .ok (.invokevirtual 128, 3) := by decide +kernel
theorem dX10_parting_13 : decode cX10_parting 13 = .ok (.if_icmp .ge 78, 3) := by decide +kernel
theorem dX10_parting_16 : decode cX10_parting 16 = .ok (.iload 5, 2) := by decide +kernel
theorem dX10_parting_18 : decode cX10_parting 18 = .ok (.iload_n 2, 1) := by decide +kernel
theorem dX10_parting_19 : decode cX10_parting 19 = .ok (.invokestatic 95, 3) := by decide +kernel
theorem dX10_parting_22 : decode cX10_parting 22 = .ok (.ifCond .ne 28, 3) := by decide +kernel
theorem dX10_parting_25 : decode cX10_parting 25 = .ok (.iload 5, 2) := by decide +kernel
theorem dX10_parting_27 : decode cX10_parting 27 = .ok (.iload_n 3, 1) := by decide +kernel
theorem dX10_parting_28 : decode cX10_parting 28 = .ok (.invokestatic 95, 3) := by decide +kernel
theorem dX10_parting_31 : decode cX10_parting 31 = .ok (.ifCond .ne 19, 3) := by decide +kernel
theorem dX10_parting_34 : decode cX10_parting 34 = .ok (.aload_n 0, 1) := by decide +kernel
theorem dX10_parting_35 : decode cX10_parting 35 = .ok (.iload_n 1, 1) := by decide +kernel
theorem dX10_parting_36 : decode cX10_parting 36 = .ok (.iload_n 2, 1) := by decide +kernel
theorem dX10_parting_37 : decode cX10_parting 37 = .ok (.iload_n 3, 1) := by decide +kernel
theorem dX10_parting_38 : decode cX10_parting 38 = .ok (.iload 5, 2) := by decide +kernel
theorem dX10_parting_40 : decode cX10_parting 40 = .ok (.invokevirtual 244, 3) := by decide +kernel
theorem dX10_parting_43 : decode cX10_parting 43 = .ok (.ifCond .ne 7, 3) := by decide +kernel
theorem dX10_parting_46 : decode cX10_parting 46 = .ok (.iconst 1, 1) := by decide +kernel
theorem dX10_parting_47 : decode cX10_parting 47 = .ok (.goto 4, 3) := by decide +kernel
theorem dX10_parting_50 : decode cX10_parting 50 = .ok (.iconst 0, 1) := by decide +kernel
theorem dX10_parting_51 : decode cX10_parting 51 = .ok (.istore 6, 2) := by decide +kernel
theorem dX10_parting_53 : decode cX10_parting 53 = .ok (.iload 6, 2) := by decide +kernel
theorem dX10_parting_55 : decode cX10_parting 55 = .ok (.ifCond .eq 26, 3) := by decide +kernel
theorem dX10_parting_58 : decode cX10_parting 58 = .ok (.iload 4, 2) := by decide +kernel
theorem dX10_parting_60 : decode cX10_parting 60 = .ok (.ifCond .lt 16, 3) := by decide +kernel
theorem dX10_parting_63 : decode cX10_parting 63 = .ok (.iload 5, 2) := by decide +kernel
theorem dX10_parting_65 : decode cX10_parting 65 = .ok (.invokestatic 247, 3) := by decide +kernel
theorem dX10_parting_68 : decode cX10_parting 68 = .ok (.iload 4, 2) := by decide +kernel
theorem dX10_parting_70 : decode cX10_parting 70 = .ok (.invokestatic 247, 3) := by decide +kernel
theorem dX10_parting_73 : decode cX10_parting 73 = .ok (.if_icmp .ge 8, 3) := by decide +kernel
theorem dX10_parting_76 : decode cX10_parting 76 = .ok (.iload 5, 2) := by decide +kernel
theorem dX10_parting_78 : decode cX10_parting 78 = .ok (.goto 5, 3) := by decide +kernel
theorem dX10_parting_81 : decode cX10_parting 81 = .ok (.iload 4, 2) := by decide +kernel
theorem dX10_parting_83 : decode cX10_parting 83 = .ok (.istore 4, 2) := by decide +kernel
theorem dX10_parting_85 : decode cX10_parting 85 = .ok (.iinc 5 1, 3) := by decide +kernel
theorem dX10_parting_88 : decode cX10_parting 88 = .ok (.goto (-82), 3) := by decide +kernel
theorem dX10_parting_91 : decode cX10_parting 91 = .ok (.iload 4, 2) := by decide +kernel
theorem dX10_parting_93 : decode cX10_parting 93 = .ok (.ireturn, 1) := by decide +kernel
theorem dX10_cornerWays_0 : decode cX10_cornerWays 0 = .ok (.aload_n 0, 1) := by decide +kernel
theorem dX10_cornerWays_1 : decode cX10_cornerWays 1 = .ok (.aload_n 0, 1) := by decide +kernel
theorem dX10_cornerWays_2 : decode cX10_cornerWays 2 = .ok (.iload_n 1, 1) := by decide +kernel
theorem dX10_cornerWays_3 : decode cX10_cornerWays 3 = .ok (.iload_n 2, 1) := by decide +kernel
theorem dX10_cornerWays_4 : decode cX10_cornerWays 4 = .ok (.iload_n 3, 1) := by decide +kernel
theorem dX10_cornerWays_5 : decode cX10_cornerWays 5 = .ok (.invokevirtual 178, 3) := by decide +kernel
theorem dX10_cornerWays_8 : decode cX10_cornerWays 8 = .ok (.putfield 92, 3) := by decide +kernel
theorem dX10_cornerWays_11 : decode cX10_cornerWays 11 = .ok (.aload_n 0, 1) := by decide +kernel
theorem dX10_cornerWays_12 : decode cX10_cornerWays 12 = .ok (.getfield 92, 3) := by decide +kernel
theorem dX10_cornerWays_15 : decode cX10_cornerWays 15 = .ok (.ifCond .le 7, 3) := by decide +kernel
theorem dX10_cornerWays_18 : decode cX10_cornerWays 18 = .ok (.iconst 0, 1) := by decide +kernel
theorem dX10_cornerWays_19 : decode cX10_cornerWays 19 = .ok (.goto 21, 3) := by decide +kernel
theorem dX10_cornerWays_22 : decode cX10_cornerWays 22 = .ok (.aload_n 0, 1) := by decide +kernel
theorem dX10_cornerWays_23 : decode cX10_cornerWays 23 = .ok (.iload_n 1, 1) := by decide +kernel
theorem dX10_cornerWays_24 : decode cX10_cornerWays 24 = .ok (.iload_n 2, 1) := by decide +kernel
theorem dX10_cornerWays_25 : decode cX10_cornerWays 25 = .ok (.iload_n 3, 1) := by decide +kernel
theorem dX10_cornerWays_26 : decode cX10_cornerWays 26 = .ok (.invokevirtual 250, 3) := by decide +kernel
theorem dX10_cornerWays_29 : decode cX10_cornerWays 29 = .ok (.aload_n 0, 1) := by decide +kernel
theorem dX10_cornerWays_30 : decode cX10_cornerWays 30 = .ok (.iload_n 1, 1) := by decide +kernel
theorem dX10_cornerWays_31 : decode cX10_cornerWays 31 = .ok (.iload_n 2, 1) := by decide +kernel
theorem dX10_cornerWays_32 : decode cX10_cornerWays 32 = .ok (.iload_n 3, 1) := by decide +kernel
theorem dX10_cornerWays_33 : decode cX10_cornerWays 33 = .ok (.invokevirtual 253, 3) := by decide +kernel
theorem dX10_cornerWays_36 : decode cX10_cornerWays 36 = .ok (.invokestatic 247, 3) := by decide +kernel
theorem dX10_cornerWays_39 : decode cX10_cornerWays 39 = .ok (.iadd, 1) := by decide +kernel
theorem dX10_cornerWays_40 : decode cX10_cornerWays 40 = .ok (.ireturn, 1) := by decide +kernel
theorem dX10_apart_0 : decode cX10_apart 0 = .ok (.aload_n 0, 1) := by decide +kernel
theorem dX10_apart_1 : decode cX10_apart 1 = .ok (.aload_n 0, 1) := by decide +kernel
theorem dX10_apart_2 : decode cX10_apart 2 = .ok (.iload_n 1, 1) := by decide +kernel
theorem dX10_apart_3 : decode cX10_apart 3 = .ok (.iload_n 2, 1) := by decide +kernel
theorem dX10_apart_4 : decode cX10_apart 4 = .ok (.iload_n 3, 1) := by decide +kernel
theorem dX10_apart_5 : decode cX10_apart 5 = .ok (.invokevirtual 178, 3) := by decide +kernel
theorem dX10_apart_8 : decode cX10_apart 8 = .ok (.putfield 92, 3) := by decide +kernel
theorem dX10_apart_11 : decode cX10_apart 11 = .ok (.aload_n 0, 1) := by decide +kernel
theorem dX10_apart_12 : decode cX10_apart 12 = .ok (.aload_n 0, 1) := by decide +kernel
theorem dX10_apart_13 : decode cX10_apart 13 = .ok (.getfield 92, 3) := by decide +kernel
theorem dX10_apart_16 : decode cX10_apart 16 = .ok (.ifCond .le 10, 3) := by decide +kernel
theorem dX10_apart_19 : decode cX10_apart 19 = .ok (.aload_n 0, 1) := by decide +kernel
theorem dX10_apart_20 : decode cX10_apart 20 = .ok (.getfield 92, 3) := by decide +kernel
theorem dX10_apart_23 : decode cX10_apart 23 = .ok (.goto 18, 3) := by decide +kernel
theorem dX10_apart_26 : decode cX10_apart 26 = .ok (.aload_n 0, 1) := by decide +kernel
theorem dX10_apart_27 : decode cX10_apart 27 = .ok (.iload_n 1, 1) := by decide +kernel
theorem dX10_apart_28 : decode cX10_apart 28 = .ok (.iload_n 2, 1) := by decide +kernel
theorem dX10_apart_29 : decode cX10_apart 29 = .ok (.iload_n 3, 1) := by decide +kernel
theorem dX10_apart_30 : decode cX10_apart 30 = .ok (.invokevirtual 250, 3) := by decide +kernel
theorem dX10_apart_33 : decode cX10_apart 33 = .ok (.ifCond .le 7, 3) := by decide +kernel
theorem dX10_apart_36 : decode cX10_apart 36 = .ok (.iconst 3, 1) := by decide +kernel
theorem dX10_apart_37 : decode cX10_apart 37 = .ok (.goto 4, 3) := by decide +kernel
theorem dX10_apart_40 : decode cX10_apart 40 = .ok (.iconst 0, 1) := by decide +kernel
theorem dX10_apart_41 : decode cX10_apart 41 = .ok (.putfield 92, 3) := by decide +kernel
theorem dX10_apart_44 : decode cX10_apart 44 = .ok (.aload_n 0, 1) := by decide +kernel
theorem dX10_apart_45 : decode cX10_apart 45 = .ok (.getfield 92, 3) := by decide +kernel
theorem dX10_apart_48 : decode cX10_apart 48 = .ok (.ifCond .le 7, 3) := by decide +kernel
theorem dX10_apart_51 : decode cX10_apart 51 = .ok (.iconst 0, 1) := by decide +kernel
theorem dX10_apart_52 : decode cX10_apart 52 = .ok (.goto 10, 3) := by decide +kernel
theorem dX10_apart_55 : decode cX10_apart 55 = .ok (.aload_n 0, 1) := by decide +kernel
theorem dX10_apart_56 : decode cX10_apart 56 = .ok (.iload_n 1, 1) := by decide +kernel
theorem dX10_apart_57 : decode cX10_apart 57 = .ok (.iload_n 2, 1) := by decide +kernel
theorem dX10_apart_58 : decode cX10_apart 58 = .ok (.iload_n 3, 1) := by decide +kernel
theorem dX10_apart_59 : decode cX10_apart 59 = .ok (.invokevirtual 253, 3) := by decide +kernel
theorem dX10_apart_62 : decode cX10_apart 62 = .ok (.ireturn, 1) := by decide +kernel
theorem dX10_wider_0 : decode cX10_wider 0 = .ok (.aload_n 0, 1) := by decide +kernel
theorem dX10_wider_1 : decode cX10_wider 1 = .ok (.aload_n 0, 1) := by decide +kernel
theorem dX10_wider_2 : decode cX10_wider 2 = .ok (.iload_n 1, 1) := by decide +kernel
theorem dX10_wider_3 : decode cX10_wider 3 = .ok (.iload_n 2, 1) := by decide +kernel
theorem dX10_wider_4 : decode cX10_wider 4 = .ok (.iload_n 3, 1) := by decide +kernel
theorem dX10_wider_5 : decode cX10_wider 5 = .ok (.iload 4, 2) := by decide +kernel
theorem dX10_wider_7 : decode cX10_wider 7 = .ok (.invokevirtual 181, 3) := by decide +kernel
theorem dX10_wider_10 : decode cX10_wider 10 = .ok (.putfield 92, 3) := by decide +kernel
theorem dX10_wider_13 : decode cX10_wider 13 = .ok (.aload_n 0, 1) := by decide +kernel
theorem dX10_wider_14 : decode cX10_wider 14 = .ok (.getfield 92, 3) := by decide +kernel
theorem dX10_wider_17 : decode cX10_wider 17 = .ok (.ifCond .le 5, 3) := by decide +kernel
theorem dX10_wider_20 : decode cX10_wider 20 = .ok (.iconst 0, 1) := by decide +kernel
theorem dX10_wider_21 : decode cX10_wider 21 = .ok (.ireturn, 1) := by decide +kernel
theorem dX10_wider_22 : decode cX10_wider 22 = .ok (.aload_n 0, 1) := by decide +kernel
theorem dX10_wider_23 : decode cX10_wider 23 = .ok (.iload_n 1, 1) := by decide +kernel
theorem dX10_wider_24 : decode cX10_wider 24 = .ok (.invokevirtual 167, 3) := by decide +kernel
theorem dX10_wider_27 : decode cX10_wider 27 = .ok (.aload_n 0, 1) := by decide +kernel
theorem dX10_wider_28 : decode cX10_wider 28 = .ok (.getfield 68, 3) := by decide +kernel
theorem dX10_wider_31 : decode cX10_wider 31 = .ok (.iload 4, 2) := by decide +kernel
theorem dX10_wider_33 : decode cX10_wider 33 = .ok (.dup2, 1) := by decide +kernel
theorem dX10_wider_34 : decode cX10_wider 34 = .ok (.iaload, 1) := by decide +kernel
theorem dX10_wider_35 : decode cX10_wider 35 = .ok (.iconst 1, 1) := by decide +kernel
theorem dX10_wider_36 : decode cX10_wider 36 = .ok (.iadd, 1) := by decide +kernel
theorem dX10_wider_37 : decode cX10_wider 37 = .ok (.iastore, 1) := by decide +kernel
theorem dX10_wider_38 : decode cX10_wider 38 = .ok (.aload_n 0, 1) := by decide +kernel
theorem dX10_wider_39 : decode cX10_wider 39 = .ok (.iload_n 1, 1) := by decide +kernel
theorem dX10_wider_40 : decode cX10_wider 40 = .ok (.iload_n 2, 1) := by decide +kernel
theorem dX10_wider_41 : decode cX10_wider 41 = .ok (.iload_n 3, 1) := by decide +kernel
theorem dX10_wider_42 : decode cX10_wider 42 = .ok (.invokevirtual 171, 3) := by decide +kernel
theorem dX10_wider_45 : decode cX10_wider 45 = .ok (.istore 5, 2) := by decide +kernel
theorem dX10_wider_47 : decode cX10_wider 47 = .ok (.aload_n 0, 1) := by decide +kernel
theorem dX10_wider_48 : decode cX10_wider 48 = .ok (.iload 5, 2) := by decide +kernel
theorem dX10_wider_50 : decode cX10_wider 50 = .ok (.ldc 149, 2) := by decide +kernel
theorem dX10_wider_52 : decode cX10_wider 52 = .ok (.if_icmp .ne 7, 3) := by decide +kernel
theorem dX10_wider_55 : decode cX10_wider 55 = .ok (.iconst 3, 1) := by decide +kernel
theorem dX10_wider_56 : decode cX10_wider 56 = .ok (.goto 4, 3) := by decide +kernel
theorem dX10_wider_59 : decode cX10_wider 59 = .ok (.iconst 0, 1) := by decide +kernel
theorem dX10_wider_60 : decode cX10_wider 60 = .ok (.putfield 92, 3) := by decide +kernel
theorem dX10_wider_63 : decode cX10_wider 63 = .ok (.aload_n 0, 1) := by decide +kernel
theorem dX10_wider_64 : decode cX10_wider 64 = .ok (.getfield 92, 3) := by decide +kernel
theorem dX10_wider_67 : decode cX10_wider 67 = .ok (.ifCond .le 7, 3) := by decide +kernel
theorem dX10_wider_70 : decode cX10_wider 70 = .ok (.iconst 0, 1) := by decide +kernel
theorem dX10_wider_71 : decode cX10_wider 71 = .ok (.goto 5, 3) := by decide +kernel
theorem dX10_wider_74 : decode cX10_wider 74 = .ok (.iload 5, 2) := by decide +kernel
theorem dX10_wider_76 : decode cX10_wider 76 = .ok (.ireturn, 1) := by decide +kernel
theorem dX10_without_0 : decode cX10_without 0 = .ok (.aload_n 0, 1) := by decide +kernel
theorem dX10_without_1 : decode cX10_without 1 = .ok (.aload_n 0, 1) := by decide +kernel
theorem dX10_without_2 : decode cX10_without 2 = .ok (.iload_n 1, 1) := by decide +kernel
theorem dX10_without_3 : decode cX10_without 3 = .ok (.iload_n 2, 1) := by decide +kernel
theorem dX10_without_4 : decode cX10_without 4 = .ok (.iload_n 3, 1) := by decide +kernel
theorem dX10_without_5 : decode cX10_without 5 = .ok (.iload 4, 2) := by decide +kernel
theorem dX10_without_7 : decode cX10_without 7 = .ok (.invokevirtual 181, 3) := by decide +kernel
theorem dX10_without_10 : decode cX10_without 10 = .ok (.putfield 92, 3) := by decide +kernel
theorem dX10_without_13 : decode cX10_without 13 = .ok (.aload_n 0, 1) := by decide +kernel
theorem dX10_without_14 : decode cX10_without 14 = .ok (.getfield 92, 3) := by decide +kernel
theorem dX10_without_17 : decode cX10_without 17 = .ok (.ifCond .le 5, 3) := by decide +kernel
theorem dX10_without_20 : decode cX10_without 20 = .ok (.iconst 0, 1) := by decide +kernel
theorem dX10_without_21 : decode cX10_without 21 = .ok (.ireturn, 1) := by decide +kernel
theorem dX10_without_22 : decode cX10_without 22 = .ok (.aload_n 0, 1) := by decide +kernel
theorem dX10_without_23 : decode cX10_without 23 = .ok (.iload_n 1, 1) := by decide +kernel
theorem dX10_without_24 : decode cX10_without 24 = .ok (.invokevirtual 167, 3) := by decide +kernel
theorem dX10_without_27 : decode cX10_without 27 = .ok (.aload_n 0, 1) := by decide +kernel
theorem dX10_without_28 : decode cX10_without 28 = .ok (.getfield 65, 3) := by decide +kernel
theorem dX10_without_31 : decode cX10_without 31 = .ok (.iload 4, 2) := by decide +kernel
theorem dX10_without_33 : decode cX10_without 33 = .ok (.iconst 0, 1) := by decide +kernel
theorem dX10_without_34 : decode cX10_without 34 = .ok (.iastore, 1) := by decide +kernel
theorem dX10_without_35 : decode cX10_without 35 = .ok (.aload_n 0, 1) := by decide +kernel
theorem dX10_without_36 : decode cX10_without 36 = .ok (.getfield 68, 3) := by decide +kernel
theorem dX10_without_39 : decode cX10_without 39 = .ok (.iload 4, 2) := by decide +kernel
theorem dX10_without_41 : decode cX10_without 41 = .ok (.iconst 0, 1) := by decide +kernel
theorem dX10_without_42 : decode cX10_without 42 = .ok (.iastore, 1) := by decide +kernel
theorem dX10_without_43 : decode cX10_without 43 = .ok (.aload_n 0, 1) := by decide +kernel
theorem dX10_without_44 : decode cX10_without 44 = .ok (.iload_n 1, 1) := by decide +kernel
theorem dX10_without_45 : decode cX10_without 45 = .ok (.iload_n 2, 1) := by decide +kernel
theorem dX10_without_46 : decode cX10_without 46 = .ok (.iload_n 3, 1) := by decide +kernel
theorem dX10_without_47 : decode cX10_without 47 = .ok (.invokevirtual 171, 3) := by decide +kernel
theorem dX10_without_50 : decode cX10_without 50 = .ok (.istore 5, 2) := by decide +kernel
theorem dX10_without_52 : decode cX10_without 52 = .ok (.aload_n 0, 1) := by decide +kernel
theorem dX10_without_53 : decode cX10_without 53 = .ok (.iload 5, 2) := by decide +kernel
theorem dX10_without_55 : decode cX10_without 55 = .ok (.ldc 149, 2) := by decide +kernel
theorem dX10_without_57 : decode cX10_without 57 = .ok (.if_icmp .ne 7, 3) := by decide +kernel
theorem dX10_without_60 : decode cX10_without 60 = .ok (.iconst 3, 1) := by decide +kernel
theorem dX10_without_61 : decode cX10_without 61 = .ok (.goto 4, 3) := by decide +kernel
theorem dX10_without_64 : decode cX10_without 64 = .ok (.iconst 0, 1) := by decide +kernel
theorem dX10_without_65 : decode cX10_without 65 = .ok (.putfield 92, 3) := by decide +kernel
theorem dX10_without_68 : decode cX10_without 68 = .ok (.aload_n 0, 1) := by decide +kernel
theorem dX10_without_69 : decode cX10_without 69 = .ok (.getfield 92, 3) := by decide +kernel
theorem dX10_without_72 : decode cX10_without 72 = .ok (.ifCond .le 7, 3) := by decide +kernel
theorem dX10_without_75 : decode cX10_without 75 = .ok (.iconst 0, 1) := by decide +kernel
theorem dX10_without_76 : decode cX10_without 76 = .ok (.goto 5, 3) := by decide +kernel
theorem dX10_without_79 : decode cX10_without 79 = .ok (.iload 5, 2) := by decide +kernel
theorem dX10_without_81 : decode cX10_without 81 = .ok (.ireturn, 1) := by decide +kernel
theorem dX10_supplies_0 : decode cX10_supplies 0 = .ok (.iconst 0, 1) := by decide +kernel
theorem dX10_supplies_1 : decode cX10_supplies 1 = .ok (.istore_n 3, 1) := by decide +kernel
theorem dX10_supplies_2 : decode cX10_supplies 2 = .ok (.iconst 0, 1) := by decide +kernel
theorem dX10_supplies_3 : decode cX10_supplies 3 = .ok (.istore 4, 2) := by decide +kernel
theorem dX10_supplies_5 : decode cX10_supplies 5 = .ok (.iload 4, 2) := by decide +kernel
theorem dX10_supplies_7 : decode cX10_supplies 7 = .ok (.aload_n 0, 1) := by decide +kernel
theorem dX10_supplies_8 : decode cX10_supplies 8 = .ok (.getfield 7, 3) := by decide +kernel
theorem dX10_supplies_11 : decode cX10_supplies 11 = .ok (.iload_n 1, 1) := by decide +kernel
theorem dX10_supplies_12 : decode cX10_supplies 12 = .ok (.iaload, 1) := by decide +kernel
theorem dX10_supplies_13 : decode cX10_supplies 13 = .ok (.if_icmp .ge 37, 3) := by decide +kernel
theorem dX10_supplies_16 : decode cX10_supplies 16 = .ok (.iload_n 3, 1) := by decide +kernel
theorem dX10_supplies_17 : decode cX10_supplies 17 = .ok (.iload_n 2, 1) := by decide +kernel
theorem dX10_supplies_18 : decode cX10_supplies 18 = .ok (.iload 4, 2) := by decide +kernel
theorem dX10_supplies_20 : decode cX10_supplies 20 = .ok (.invokestatic 95, 3) := by decide +kernel
theorem dX10_supplies_23 : decode cX10_supplies 23 = .ok (.ifCond .eq 18, 3) := by decide +kernel
theorem dX10_supplies_26 : decode cX10_supplies 26 = .ok (.aload_n 0, 1) := by decide +kernel
theorem dX10_supplies_27 : decode cX10_supplies 27 = .ok (.getfield 31, 3) := by decide +kernel
theorem dX10_supplies_30 : decode cX10_supplies 30 = .ok (.bipush 8, 2) := by decide +kernel
theorem dX10_supplies_32 : decode cX10_supplies 32 = .ok (.iload_n 1, 1) := by decide +kernel
theorem dX10_supplies_33 : decode cX10_supplies 33 = .ok (.imul, 1) := by decide +kernel
theorem dX10_supplies_34 : decode cX10_supplies 34 = .ok (.iload 4, 2) := by decide +kernel
theorem dX10_supplies_36 : decode cX10_supplies 36 = .ok (.iadd, 1) := by decide +kernel
theorem dX10_supplies_37 : decode cX10_supplies 37 = .ok (.iaload, 1) := by decide +kernel
theorem dX10_supplies_38 : decode cX10_supplies 38 = .ok (.goto 4, 3) := by decide +kernel
theorem dX10_supplies_41 : decode cX10_supplies 41 = .ok (.iconst 0, 1) := by decide +kernel
theorem dX10_supplies_42 : decode cX10_supplies 42 = .ok (.iadd, 1) := by decide +kernel
theorem dX10_supplies_43 : decode cX10_supplies 43 = .ok (.istore_n 3, 1) := by decide +kernel
theorem dX10_supplies_44 : decode cX10_supplies 44 = .ok (.iinc 4 1, 3) := by decide +kernel
theorem dX10_supplies_47 : decode cX10_supplies 47 = .ok (.goto (-42), 3) := by decide +kernel
theorem dX10_supplies_50 : decode cX10_supplies 50 = .ok (.iload_n 3, 1) := by decide +kernel
theorem dX10_supplies_51 : decode cX10_supplies 51 = .ok (.ireturn, 1) := by decide +kernel
theorem dX10_breaking_0 : decode cX10_breaking 0 = .ok (.aload_n 0, 1) := by decide +kernel
theorem dX10_breaking_1 : decode cX10_breaking 1 = .ok (.iload_n 1, 1) := by decide +kernel
theorem dX10_breaking_2 : decode cX10_breaking 2 = .ok (.invokevirtual 167, 3) := by decide +kernel
theorem dX10_breaking_5 : decode cX10_breaking 5 = .ok (.iconst 1, 1) := by decide +kernel
theorem dX10_breaking_6 : decode cX10_breaking 6 = .ok (.istore_n 2, 1) := by decide +kernel
theorem dX10_breaking_7 : decode cX10_breaking 7 = .ok (.iload_n 2, 1) := by decide +kernel
theorem dX10_breaking_8 : decode cX10_breaking 8 = .ok (.aload_n 0, 1) := by decide +kernel
theorem dX10_breaking_9 : decode cX10_breaking 9 = .ok (.iload_n 1, 1) := by decide +kernel
theorem dX10_breaking_10 : decode cX10_breaking 10 = .ok (.invokevirtual 128, 3) := by decide +kernel
theorem dX10_breaking_13 : decode cX10_breaking 13 = .ok (.if_icmp .ge 52, 3) := by decide +kernel
theorem dX10_breaking_16 : decode cX10_breaking 16 = .ok (.aload_n 0, 1) := by decide +kernel
theorem dX10_breaking_17 : decode cX10_breaking 17 = .ok (.iload_n 1, 1) := by decide +kernel
theorem dX10_breaking_18 : decode cX10_breaking 18 = .ok (.iload_n 2, 1) := by decide +kernel
theorem dX10_breaking_19 : decode cX10_breaking 19 = .ok (.invokevirtual 256, 3) := by decide +kernel
theorem dX10_breaking_22 : decode cX10_breaking 22 = .ok (.istore_n 3, 1) := by decide +kernel
theorem dX10_breaking_23 : decode cX10_breaking 23 = .ok (.iload_n 3, 1) := by decide +kernel
theorem dX10_breaking_24 : decode cX10_breaking 24 = .ok (.aload_n 0, 1) := by decide +kernel
theorem dX10_breaking_25 : decode cX10_breaking 25 = .ok (.iload_n 1, 1) := by decide +kernel
theorem dX10_breaking_26 : decode cX10_breaking 26 = .ok (.iload_n 2, 1) := by decide +kernel
theorem dX10_breaking_27 : decode cX10_breaking 27 = .ok (.invokevirtual 139, 3) := by decide +kernel
theorem dX10_breaking_30 : decode cX10_breaking 30 = .ok (.aload_n 0, 1) := by decide +kernel
theorem dX10_breaking_31 : decode cX10_breaking 31 = .ok (.iload_n 1, 1) := by decide +kernel
theorem dX10_breaking_32 : decode cX10_breaking 32 = .ok (.iload_n 2, 1) := by decide +kernel
theorem dX10_breaking_33 : decode cX10_breaking 33 = .ok (.invokevirtual 142, 3) := by decide +kernel
theorem dX10_breaking_36 : decode cX10_breaking 36 = .ok (.isub, 1) := by decide +kernel
theorem dX10_breaking_37 : decode cX10_breaking 37 = .ok (.if_icmp .gt 20, 3) := by decide +kernel
theorem dX10_breaking_40 : decode cX10_breaking 40 = .ok (.iload_n 3, 1) := by decide +kernel
theorem dX10_breaking_41 : decode cX10_breaking 41 = .ok (.aload_n 0, 1) := by decide +kernel
theorem dX10_breaking_42 : decode cX10_breaking 42 = .ok (.iload_n 1, 1) := by decide +kernel
theorem dX10_breaking_43 : decode cX10_breaking 43 = .ok (.iload_n 2, 1) := by decide +kernel
theorem dX10_breaking_44 : decode cX10_breaking 44 = .ok (.invokevirtual 132, 3) := by decide +kernel
theorem dX10_breaking_47 : decode cX10_breaking 47 = .ok (.aload_n 0, 1) := by decide +kernel
theorem dX10_breaking_48 : decode cX10_breaking 48 = .ok (.iload_n 1, 1) := by decide +kernel
theorem dX10_breaking_49 : decode cX10_breaking 49 = .ok (.iload_n 2, 1) := by decide +kernel
theorem dX10_breaking_50 : decode cX10_breaking 50 = .ok (.invokevirtual 136, 3) := by decide +kernel
theorem dX10_breaking_53 : decode cX10_breaking 53 = .ok (.isub, 1) := by decide +kernel
theorem dX10_breaking_54 : decode cX10_breaking 54 = .ok (.if_icmp .ge 5, 3) := by decide +kernel
theorem dX10_breaking_57 : decode cX10_breaking 57 = .ok (.iload_n 2, 1) := by decide +kernel
theorem dX10_breaking_58 : decode cX10_breaking 58 = .ok (.ireturn, 1) := by decide +kernel
theorem dX10_breaking_59 : decode cX10_breaking 59 = .ok (.iinc 2 1, 3) := by decide +kernel
theorem dX10_breaking_62 : decode cX10_breaking 62 = .ok (.goto (-55), 3) := by decide +kernel
theorem dX10_breaking_65 : decode cX10_breaking 65 = .ok (.iconst 0, 1) := by decide +kernel
theorem dX10_breaking_66 : decode cX10_breaking 66 = .ok (.ireturn, 1) := by decide +kernel
theorem dX10_holds_0 : decode cX10_holds 0 = .ok (.aload_n 0, 1) := by decide +kernel
theorem dX10_holds_1 : decode cX10_holds 1 = .ok (.aload_n 0, 1) := by decide +kernel
theorem dX10_holds_2 : decode cX10_holds 2 = .ok (.iload_n 1, 1) := by decide +kernel
theorem dX10_holds_3 : decode cX10_holds 3 = .ok (.invokevirtual 109, 3) := by decide +kernel
theorem dX10_holds_6 : decode cX10_holds 6 = .ok (.ifCond .ne 7, 3) := by decide +kernel
theorem dX10_holds_9 : decode cX10_holds 9 = .ok (.iconst 1, 1) := by decide +kernel
theorem dX10_holds_10 : decode cX10_holds 10 = .ok (.goto 4, 3) := by decide +kernel
theorem dX10_holds_13 : decode cX10_holds 13 = .ok (.iconst 0, 1) := by decide +kernel
theorem dX10_holds_14 : decode cX10_holds 14 = .ok (.putfield 92, 3) := by decide +kernel
theorem dX10_holds_17 : decode cX10_holds 17 = .ok (.aload_n 0, 1) := by decide +kernel
theorem dX10_holds_18 : decode cX10_holds 18 = .ok (.getfield 92, 3) := by decide +kernel
theorem dX10_holds_21 : decode cX10_holds 21 = .ok (.ifCond .ne 15, 3) := by decide +kernel
theorem dX10_holds_24 : decode cX10_holds 24 = .ok (.aload_n 0, 1) := by decide +kernel
theorem dX10_holds_25 : decode cX10_holds 25 = .ok (.iload_n 1, 1) := by decide +kernel
theorem dX10_holds_26 : decode cX10_holds 26 = .ok (.invokevirtual 259, 3) := by decide +kernel
theorem dX10_holds_29 : decode cX10_holds 29 = .ok (.ifCond .ne 7, 3) := by decide +kernel
theorem dX10_holds_32 : decode cX10_holds 32 = .ok (.iconst 1, 1) := by decide +kernel
theorem dX10_holds_33 : decode cX10_holds 33 = .ok (.goto 4, 3) := by decide +kernel
theorem dX10_holds_36 : decode cX10_holds 36 = .ok (.iconst 0, 1) := by decide +kernel
theorem dX10_holds_37 : decode cX10_holds 37 = .ok (.ireturn, 1) := by decide +kernel
theorem dX10_leastMeeting_0 : decode cX10_leastMeeting 0 = .ok (.aload_n 0, 1) := by decide +kernel
theorem dX10_leastMeeting_1 : decode cX10_leastMeeting 1 = .ok (.getfield 65, 3) := by decide +kernel
theorem dX10_leastMeeting_4 : decode cX10_leastMeeting 4 = .ok (.iload_n 2, 1) := by decide +kernel
theorem dX10_leastMeeting_5 : decode cX10_leastMeeting 5 = .ok (.iaload, 1) := by decide +kernel
theorem dX10_leastMeeting_6 : decode cX10_leastMeeting 6 = .ok (.istore_n 3, 1) := by decide +kernel
theorem dX10_leastMeeting_7 : decode cX10_leastMeeting 7 = .ok (.iconst 1, 1) := by decide +kernel
theorem dX10_leastMeeting_8 : decode cX10_leastMeeting 8 = .ok (.istore 4, 2) := by decide +kernel
theorem dX10_leastMeeting_10 : decode cX10_leastMeeting 10 = .ok (.iload 4, 2) := by decide +kernel
theorem dX10_leastMeeting_12 : decode cX10_leastMeeting 12 = .ok (.aload_n 0, 1) := by decide +kernel
theorem dX10_leastMeeting_13 : decode cX10_leastMeeting 13 = .ok (.iload_n 1, 1) := by decide +kernel
theorem dX10_leastMeeting_14 : decode cX10_leastMeeting 14 = .ok (.invokevirtual 128, 3) := by decide +kernel
theorem dX10_leastMeeting_17 : decode cX10_leastMeeting 17 = .ok (.if_icmp .ge 103, 3) := by decide +kernel
theorem dX10_leastMeeting_20 : decode cX10_leastMeeting 20 = .ok (.aload_n 0, 1) := by decide +kernel
theorem dX10_leastMeeting_21 : decode cX10_leastMeeting 21 = .ok (.iload_n 1, 1) := by decide +kernel
theorem dX10_leastMeeting_22 : decode cX10_leastMeeting 22 = .ok (.iload 4, 2) := by decide +kernel
theorem dX10_leastMeeting_24 : decode cX10_leastMeeting 24 = .ok (.invokevirtual 256, 3) := by decide +kernel
theorem dX10_leastMeeting_27 : decode cX10_leastMeeting 27 = .ok (.istore 5, 2) := by decide +kernel
theorem dX10_leastMeeting_29 : decode cX10_leastMeeting 29 = .ok (.aload_n 0, 1) := by decide +kernel
theorem dX10_leastMeeting_30 : decode cX10_leastMeeting 30 = .ok (.iload_n 1, 1) := by decide +kernel
theorem dX10_leastMeeting_31 : decode cX10_leastMeeting 31 = .ok (.iload_n 2, 1) := by decide +kernel
theorem dX10_leastMeeting_32 : decode cX10_leastMeeting 32 = .ok (.iload 4, 2) := by decide +kernel
theorem dX10_leastMeeting_34 : decode cX10_leastMeeting 34 = .ok (.invokevirtual 122, 3) := by decide +kernel
theorem dX10_leastMeeting_37 : decode cX10_leastMeeting 37 = .ok (.ifCond .eq 36, 3) := by decide +kernel
theorem dX10_leastMeeting_40 : decode cX10_leastMeeting 40 = .ok (.iload_n 3, 1) := by decide +kernel
theorem dX10_leastMeeting_41 : decode cX10_leastMeeting 41 = .ok (.iload 5, 2) := by decide +kernel
theorem dX10_leastMeeting_43 : decode cX10_leastMeeting 43 = .ok (.aload_n 0, 1) := by decide +kernel
theorem dX10_leastMeeting_44 : decode cX10_leastMeeting 44 = .ok (.iload_n 1, 1) := by decide +kernel
theorem dX10_leastMeeting_45 : decode cX10_leastMeeting 45 = .ok (.iload 4, 2) := by decide +kernel
theorem dX10_leastMeeting_47 : decode cX10_leastMeeting 47 = .ok (.invokevirtual 142, 3) := by decide +kernel
theorem dX10_leastMeeting_50 : decode cX10_leastMeeting 50 = .ok (.iadd, 1) := by decide +kernel
theorem dX10_leastMeeting_51 : decode cX10_leastMeeting 51 = .ok (.aload_n 0, 1) := by decide +kernel
theorem dX10_leastMeeting_52 : decode cX10_leastMeeting 52 = .ok (.iload_n 1, 1) := by decide +kernel
theorem dX10_leastMeeting_53 : decode cX10_leastMeeting 53 = .ok (.iload 4, 2) := by decide +kernel
theorem dX10_leastMeeting_55 : decode cX10_leastMeeting 55 = .ok (.invokevirtual 139, 3) := by decide +kernel
theorem dX10_leastMeeting_58 : decode cX10_leastMeeting 58 = .ok (.aload_n 0, 1) := by decide +kernel
theorem dX10_leastMeeting_59 : decode cX10_leastMeeting 59 = .ok (.getfield 68, 3) := by decide +kernel
theorem dX10_leastMeeting_62 : decode cX10_leastMeeting 62 = .ok (.iload_n 2, 1) := by decide +kernel
theorem dX10_leastMeeting_63 : decode cX10_leastMeeting 63 = .ok (.iaload, 1) := by decide +kernel
theorem dX10_leastMeeting_64 : decode cX10_leastMeeting 64 = .ok (.isub, 1) := by decide +kernel
theorem dX10_leastMeeting_65 : decode cX10_leastMeeting 65 = .ok (.isub, 1) := by decide +kernel
theorem dX10_leastMeeting_66 : decode cX10_leastMeeting 66 = .ok (.invokestatic 160, 3) := by decide +kernel
theorem dX10_leastMeeting_69 : decode cX10_leastMeeting 69 = .ok (.istore_n 3, 1) := by decide +kernel
theorem dX10_leastMeeting_70 : decode cX10_leastMeeting 70 = .ok (.goto 44, 3) := by decide +kernel
theorem dX10_leastMeeting_73 : decode cX10_leastMeeting 73 = .ok (.aload_n 0, 1) := by decide +kernel
theorem dX10_leastMeeting_74 : decode cX10_leastMeeting 74 = .ok (.iload_n 1, 1) := by decide +kernel
theorem dX10_leastMeeting_75 : decode cX10_leastMeeting 75 = .ok (.iload_n 2, 1) := by decide +kernel
theorem dX10_leastMeeting_76 : decode cX10_leastMeeting 76 = .ok (.iload 4, 2) := by decide +kernel
theorem dX10_leastMeeting_78 : decode cX10_leastMeeting 78 = .ok (.invokevirtual 125, 3) := by decide +kernel
theorem dX10_leastMeeting_81 : decode cX10_leastMeeting 81 = .ok (.ifCond .eq 33, 3) := by decide +kernel
theorem dX10_leastMeeting_84 : decode cX10_leastMeeting 84 = .ok (.iload_n 3, 1) := by decide +kernel
theorem dX10_leastMeeting_85 : decode cX10_leastMeeting 85 = .ok (.aload_n 0, 1) := by decide +kernel
theorem dX10_leastMeeting_86 : decode cX10_leastMeeting 86 = .ok (.iload_n 1, 1) := by decide +kernel
theorem dX10_leastMeeting_87 : decode cX10_leastMeeting 87 = .ok (.iload 4, 2) := by decide +kernel
theorem dX10_leastMeeting_89 : decode cX10_leastMeeting 89 = .ok (.invokevirtual 132, 3) := by decide +kernel
theorem dX10_leastMeeting_92 : decode cX10_leastMeeting 92 = .ok (.iload 5, 2) := by decide +kernel
theorem dX10_leastMeeting_94 : decode cX10_leastMeeting 94 = .ok (.isub, 1) := by decide +kernel
theorem dX10_leastMeeting_95 : decode cX10_leastMeeting 95 = .ok (.aload_n 0, 1) := by decide +kernel
theorem dX10_leastMeeting_96 : decode cX10_leastMeeting 96 = .ok (.iload_n 1, 1) := by decide +kernel
theorem dX10_leastMeeting_97 : decode cX10_leastMeeting 97 = .ok (.iload 4, 2) := by decide +kernel
theorem dX10_leastMeeting_99 : decode cX10_leastMeeting 99 = .ok (.invokevirtual 136, 3) := by decide +kernel
theorem dX10_leastMeeting_102 : decode cX10_leastMeeting 102 = .ok (.aload_n 0, 1) := by decide +kernel
theorem dX10_leastMeeting_103 : decode cX10_leastMeeting 103 = .ok (.getfield 68, 3) := by decide +kernel
theorem dX10_leastMeeting_106 : decode cX10_leastMeeting 106 = .ok (.iload_n 2, 1) := by decide +kernel
theorem dX10_leastMeeting_107 : decode cX10_leastMeeting 107 = .ok (.iaload, 1) := by decide +kernel
theorem dX10_leastMeeting_108 : decode cX10_leastMeeting 108 = .ok (.isub, 1) := by decide +kernel
theorem dX10_leastMeeting_109 : decode cX10_leastMeeting 109 = .ok (.isub, 1) := by decide +kernel
theorem dX10_leastMeeting_110 : decode cX10_leastMeeting 110 = .ok (.invokestatic 160, 3) := by decide +kernel
theorem dX10_leastMeeting_113 : decode cX10_leastMeeting 113 = .ok (.istore_n 3, 1) := by decide +kernel
theorem dX10_leastMeeting_114 : decode cX10_leastMeeting 114 = .ok (.iinc 4 1, 3) := by decide +kernel
theorem dX10_leastMeeting_117 : decode cX10_leastMeeting 117 = .ok (.goto (-107), 3) := by decide +kernel
theorem dX10_leastMeeting_120 : decode cX10_leastMeeting 120 = .ok (.iload_n 3, 1) := by decide +kernel
theorem dX10_leastMeeting_121 : decode cX10_leastMeeting 121 = .ok (.ireturn, 1) := by decide +kernel
theorem dX10_meets_0 : decode cX10_meets 0 = .ok (.aload_n 0, 1) := by decide +kernel
theorem dX10_meets_1 : decode cX10_meets 1 = .ok (.aload_n 0, 1) := by decide +kernel
theorem dX10_meets_2 : decode cX10_meets 2 = .ok (.iload_n 1, 1) := by decide +kernel
theorem dX10_meets_3 : decode cX10_meets 3 = .ok (.invokevirtual 109, 3) := by decide +kernel
theorem dX10_meets_6 : decode cX10_meets 6 = .ok (.ifCond .eq 12, 3) := by decide +kernel
theorem dX10_meets_9 : decode cX10_meets 9 = .ok (.aload_n 0, 1) := by decide +kernel
theorem dX10_meets_10 : decode cX10_meets 10 = .ok (.iload_n 1, 1) := by decide +kernel
theorem dX10_meets_11 : decode cX10_meets 11 = .ok (.iload_n 2, 1) := by decide +kernel
theorem dX10_meets_12 : decode cX10_meets 12 = .ok (.invokevirtual 116, 3) := by decide +kernel
theorem dX10_meets_15 : decode cX10_meets 15 = .ok (.ifCond .ne 7, 3) := by decide +kernel
theorem dX10_meets_18 : decode cX10_meets 18 = .ok (.iconst 1, 1) := by decide +kernel
theorem dX10_meets_19 : decode cX10_meets 19 = .ok (.goto 16, 3) := by decide +kernel
theorem dX10_meets_22 : decode cX10_meets 22 = .ok (.aload_n 0, 1) := by decide +kernel
theorem dX10_meets_23 : decode cX10_meets 23 = .ok (.iload_n 1, 1) := by decide +kernel
theorem dX10_meets_24 : decode cX10_meets 24 = .ok (.invokevirtual 259, 3) := by decide +kernel
theorem dX10_meets_27 : decode cX10_meets 27 = .ok (.ifCond .eq 7, 3) := by decide +kernel
theorem dX10_meets_30 : decode cX10_meets 30 = .ok (.iconst 2, 1) := by decide +kernel
theorem dX10_meets_31 : decode cX10_meets 31 = .ok (.goto 4, 3) := by decide +kernel
theorem dX10_meets_34 : decode cX10_meets 34 = .ok (.iconst 0, 1) := by decide +kernel
theorem dX10_meets_35 : decode cX10_meets 35 = .ok (.putfield 92, 3) := by decide +kernel
theorem dX10_meets_38 : decode cX10_meets 38 = .ok (.aload_n 0, 1) := by decide +kernel
theorem dX10_meets_39 : decode cX10_meets 39 = .ok (.getfield 92, 3) := by decide +kernel
theorem dX10_meets_42 : decode cX10_meets 42 = .ok (.ifCond .le 5, 3) := by decide +kernel
theorem dX10_meets_45 : decode cX10_meets 45 = .ok (.iconst 0, 1) := by decide +kernel
theorem dX10_meets_46 : decode cX10_meets 46 = .ok (.ireturn, 1) := by decide +kernel
theorem dX10_meets_47 : decode cX10_meets 47 = .ok (.aload_n 0, 1) := by decide +kernel
theorem dX10_meets_48 : decode cX10_meets 48 = .ok (.iload_n 1, 1) := by decide +kernel
theorem dX10_meets_49 : decode cX10_meets 49 = .ok (.invokevirtual 167, 3) := by decide +kernel
theorem dX10_meets_52 : decode cX10_meets 52 = .ok (.iconst 0, 1) := by decide +kernel
theorem dX10_meets_53 : decode cX10_meets 53 = .ok (.istore_n 3, 1) := by decide +kernel
theorem dX10_meets_54 : decode cX10_meets 54 = .ok (.iload_n 3, 1) := by decide +kernel
theorem dX10_meets_55 : decode cX10_meets 55 = .ok (.iload_n 2, 1) := by decide +kernel
theorem dX10_meets_56 : decode cX10_meets 56 = .ok (.if_icmp .gt 33, 3) := by decide +kernel
theorem dX10_meets_59 : decode cX10_meets 59 = .ok (.aload_n 0, 1) := by decide +kernel
theorem dX10_meets_60 : decode cX10_meets 60 = .ok (.iload_n 1, 1) := by decide +kernel
theorem dX10_meets_61 : decode cX10_meets 61 = .ok (.iload_n 3, 1) := by decide +kernel
theorem dX10_meets_62 : decode cX10_meets 62 = .ok (.invokevirtual 262, 3) := by decide +kernel
theorem dX10_meets_65 : decode cX10_meets 65 = .ok (.istore 4, 2) := by decide +kernel
theorem dX10_meets_67 : decode cX10_meets 67 = .ok (.aload_n 0, 1) := by decide +kernel
theorem dX10_meets_68 : decode cX10_meets 68 = .ok (.getfield 65, 3) := by decide +kernel
theorem dX10_meets_71 : decode cX10_meets 71 = .ok (.iload_n 3, 1) := by decide +kernel
theorem dX10_meets_72 : decode cX10_meets 72 = .ok (.iload 4, 2) := by decide +kernel
theorem dX10_meets_74 : decode cX10_meets 74 = .ok (.iastore, 1) := by decide +kernel
theorem dX10_meets_75 : decode cX10_meets 75 = .ok (.aload_n 0, 1) := by decide +kernel
theorem dX10_meets_76 : decode cX10_meets 76 = .ok (.getfield 68, 3) := by decide +kernel
theorem dX10_meets_79 : decode cX10_meets 79 = .ok (.iload_n 3, 1) := by decide +kernel
theorem dX10_meets_80 : decode cX10_meets 80 = .ok (.iload 4, 2) := by decide +kernel
theorem dX10_meets_82 : decode cX10_meets 82 = .ok (.iastore, 1) := by decide +kernel
theorem dX10_meets_83 : decode cX10_meets 83 = .ok (.iinc 3 1, 3) := by decide +kernel
theorem dX10_meets_86 : decode cX10_meets 86 = .ok (.goto (-32), 3) := by decide +kernel
theorem dX10_meets_89 : decode cX10_meets 89 = .ok (.aload_n 0, 1) := by decide +kernel
theorem dX10_meets_90 : decode cX10_meets 90 = .ok (.getfield 65, 3) := by decide +kernel
theorem dX10_meets_93 : decode cX10_meets 93 = .ok (.iload_n 2, 1) := by decide +kernel
theorem dX10_meets_94 : decode cX10_meets 94 = .ok (.iaload, 1) := by decide +kernel
theorem dX10_meets_95 : decode cX10_meets 95 = .ok (.ireturn, 1) := by decide +kernel
theorem dX10_breaks_0 : decode cX10_breaks 0 = .ok (.aload_n 0, 1) := by decide +kernel
theorem dX10_breaks_1 : decode cX10_breaks 1 = .ok (.aload_n 0, 1) := by decide +kernel
theorem dX10_breaks_2 : decode cX10_breaks 2 = .ok (.iload_n 1, 1) := by decide +kernel
theorem dX10_breaks_3 : decode cX10_breaks 3 = .ok (.invokevirtual 109, 3) := by decide +kernel
theorem dX10_breaks_6 : decode cX10_breaks 6 = .ok (.ifCond .ne 7, 3) := by decide +kernel
theorem dX10_breaks_9 : decode cX10_breaks 9 = .ok (.iconst 1, 1) := by decide +kernel
theorem dX10_breaks_10 : decode cX10_breaks 10 = .ok (.goto 16, 3) := by decide +kernel
theorem dX10_breaks_13 : decode cX10_breaks 13 = .ok (.aload_n 0, 1) := by decide +kernel
theorem dX10_breaks_14 : decode cX10_breaks 14 = .ok (.iload_n 1, 1) := by decide +kernel
theorem dX10_breaks_15 : decode cX10_breaks 15 = .ok (.invokevirtual 259, 3) := by decide +kernel
theorem dX10_breaks_18 : decode cX10_breaks 18 = .ok (.ifCond .ne 7, 3) := by decide +kernel
theorem dX10_breaks_21 : decode cX10_breaks 21 = .ok (.iconst 2, 1) := by decide +kernel
theorem dX10_breaks_22 : decode cX10_breaks 22 = .ok (.goto 4, 3) := by decide +kernel
theorem dX10_breaks_25 : decode cX10_breaks 25 = .ok (.iconst 0, 1) := by decide +kernel
theorem dX10_breaks_26 : decode cX10_breaks 26 = .ok (.putfield 92, 3) := by decide +kernel
theorem dX10_breaks_29 : decode cX10_breaks 29 = .ok (.aload_n 0, 1) := by decide +kernel
theorem dX10_breaks_30 : decode cX10_breaks 30 = .ok (.getfield 92, 3) := by decide +kernel
theorem dX10_breaks_33 : decode cX10_breaks 33 = .ok (.ifCond .le 7, 3) := by decide +kernel
theorem dX10_breaks_36 : decode cX10_breaks 36 = .ok (.iconst 0, 1) := by decide +kernel
theorem dX10_breaks_37 : decode cX10_breaks 37 = .ok (.goto 8, 3) := by decide +kernel
theorem dX10_breaks_40 : decode cX10_breaks 40 = .ok (.aload_n 0, 1) := by decide +kernel
theorem dX10_breaks_41 : decode cX10_breaks 41 = .ok (.iload_n 1, 1) := by decide +kernel
theorem dX10_breaks_42 : decode cX10_breaks 42 = .ok (.invokevirtual 259, 3) := by decide +kernel
theorem dX10_breaks_45 : decode cX10_breaks 45 = .ok (.ireturn, 1) := by decide +kernel
theorem dX10_bothWays_0 : decode cX10_bothWays 0 = .ok (.aload_n 0, 1) := by decide +kernel
theorem dX10_bothWays_1 : decode cX10_bothWays 1 = .ok (.iload_n 1, 1) := by decide +kernel
theorem dX10_bothWays_2 : decode cX10_bothWays 2 = .ok (.iload_n 2, 1) := by decide +kernel
theorem dX10_bothWays_3 : decode cX10_bothWays 3 = .ok (.invokevirtual 139, 3) := by decide +kernel
theorem dX10_bothWays_6 : decode cX10_bothWays 6 = .ok (.aload_n 0, 1) := by decide +kernel
theorem dX10_bothWays_7 : decode cX10_bothWays 7 = .ok (.iload_n 1, 1) := by decide +kernel
theorem dX10_bothWays_8 : decode cX10_bothWays 8 = .ok (.iload_n 2, 1) := by decide +kernel
theorem dX10_bothWays_9 : decode cX10_bothWays 9 = .ok (.invokevirtual 136, 3) := by decide +kernel
theorem dX10_bothWays_12 : decode cX10_bothWays 12 = .ok (.iadd, 1) := by decide +kernel
theorem dX10_bothWays_13 : decode cX10_bothWays 13 = .ok (.ireturn, 1) := by decide +kernel
theorem dX10_leastBetween_0 : decode cX10_leastBetween 0 = .ok (.ldc_w 265, 3) := by decide +kernel
theorem dX10_leastBetween_3 : decode cX10_leastBetween 3 = .ok (.istore 4, 2) := by decide +kernel
theorem dX10_leastBetween_5 : decode cX10_leastBetween 5 = .ok (.iconst 0, 1) := by decide +kernel
theorem dX10_leastBetween_6 : decode cX10_leastBetween 6 = .ok (.istore 5, 2) := by decide +kernel
theorem dX10_leastBetween_8 : decode cX10_leastBetween 8 = .ok (.iload 5, 2) := by decide +kernel
theorem dX10_leastBetween_10 : decode cX10_leastBetween 10 = .ok (.aload_n 0, 1) := by decide +kernel
theorem dX10_leastBetween_11 : decode cX10_leastBetween 11 = .ok (.iload_n 1, 1) := by decide +kernel
theorem dX10_leastBetween_12 : decode cX10_leastBetween 12 = .ok (.invokevirtual 128, 3) := by decide +kernel
theorem dX10_leastBetween_15 : decode cX10_leastBetween 15 = .ok (.if_icmp .ge 38, 3) := by decide +kernel
theorem dX10_leastBetween_18 : decode cX10_leastBetween 18 = .ok (.iload 5, 2) := by decide +kernel
theorem dX10_leastBetween_20 : decode cX10_leastBetween 20 = .ok (.iload_n 2, 1) := by decide +kernel
theorem dX10_leastBetween_21 : decode cX10_leastBetween 21 = .ok (.iload_n 3, 1) := by decide +kernel
theorem dX10_leastBetween_22 : decode cX10_leastBetween 22 = .ok (.invokestatic 150, 3) := by decide +kernel
theorem dX10_leastBetween_25 : decode cX10_leastBetween 25 = .ok (.ifCond .eq 18, 3) := by decide +kernel
theorem dX10_leastBetween_28 : decode cX10_leastBetween 28 = .ok (.iload 4, 2) := by decide +kernel
theorem dX10_leastBetween_30 : decode cX10_leastBetween 30 = .ok (.aload_n 0, 1) := by decide +kernel
theorem dX10_leastBetween_31 : decode cX10_leastBetween 31 = .ok (.iload_n 1, 1) := by decide +kernel
theorem dX10_leastBetween_32 : decode cX10_leastBetween 32 = .ok (.iload 5, 2) := by decide +kernel
theorem dX10_leastBetween_34 : decode cX10_leastBetween 34 = .ok (.invokevirtual 266, 3) := by decide +kernel
theorem dX10_leastBetween_37 : decode cX10_leastBetween 37 = .ok (.invokestatic 199, 3) := by decide +kernel
theorem dX10_leastBetween_40 : decode cX10_leastBetween 40 = .ok (.goto 5, 3) := by decide +kernel
theorem dX10_leastBetween_43 : decode cX10_leastBetween 43 = .ok (.iload 4, 2) := by decide +kernel
theorem dX10_leastBetween_45 : decode cX10_leastBetween 45 = .ok (.istore 4, 2) := by decide +kernel
theorem dX10_leastBetween_47 : decode cX10_leastBetween 47 = .ok (.iinc 5 1, 3) := by decide +kernel
theorem dX10_leastBetween_50 : decode cX10_leastBetween 50 = .ok (.goto (-42), 3) := by decide +kernel
theorem dX10_leastBetween_53 : decode cX10_leastBetween 53 = .ok (.iload 4, 2) := by decide +kernel
theorem dX10_leastBetween_55 : decode cX10_leastBetween 55 = .ok (.ireturn, 1) := by decide +kernel
theorem dX10_grows_0 : decode cX10_grows 0 = .ok (.aload_n 0, 1) := by decide +kernel
theorem dX10_grows_1 : decode cX10_grows 1 = .ok (.iload_n 1, 1) := by decide +kernel
theorem dX10_grows_2 : decode cX10_grows 2 = .ok (.invokevirtual 167, 3) := by decide +kernel
theorem dX10_grows_5 : decode cX10_grows 5 = .ok (.iconst 0, 1) := by decide +kernel
theorem dX10_grows_6 : decode cX10_grows 6 = .ok (.istore_n 2, 1) := by decide +kernel
theorem dX10_grows_7 : decode cX10_grows 7 = .ok (.iload_n 2, 1) := by decide +kernel
theorem dX10_grows_8 : decode cX10_grows 8 = .ok (.aload_n 0, 1) := by decide +kernel
theorem dX10_grows_9 : decode cX10_grows 9 = .ok (.getfield 7, 3) := by decide +kernel
theorem dX10_grows_12 : decode cX10_grows 12 = .ok (.iload_n 1, 1) := by decide +kernel
theorem dX10_grows_13 : decode cX10_grows 13 = .ok (.iaload, 1) := by decide +kernel
theorem dX10_grows_14 : decode cX10_grows 14 = .ok (.if_icmp .ge 16, 3) := by decide +kernel
theorem dX10_grows_17 : decode cX10_grows 17 = .ok (.aload_n 0, 1) := by decide +kernel
theorem dX10_grows_18 : decode cX10_grows 18 = .ok (.getfield 89, 3) := by decide +kernel
theorem dX10_grows_21 : decode cX10_grows 21 = .ok (.iload_n 2, 1) := by decide +kernel
theorem dX10_grows_22 : decode cX10_grows 22 = .ok (.iconst 0, 1) := by decide +kernel
theorem dX10_grows_23 : decode cX10_grows 23 = .ok (.iastore, 1) := by decide +kernel
theorem dX10_grows_24 : decode cX10_grows 24 = .ok (.iinc 2 1, 3) := by decide +kernel
theorem dX10_grows_27 : decode cX10_grows 27 = .ok (.goto (-20), 3) := by decide +kernel
theorem dX10_grows_30 : decode cX10_grows 30 = .ok (.iconst 1, 1) := by decide +kernel
theorem dX10_grows_31 : decode cX10_grows 31 = .ok (.istore_n 2, 1) := by decide +kernel
theorem dX10_grows_32 : decode cX10_grows 32 = .ok (.iload_n 2, 1) := by decide +kernel
theorem dX10_grows_33 : decode cX10_grows 33 = .ok (.aload_n 0, 1) := by decide +kernel
theorem dX10_grows_34 : decode cX10_grows 34 = .ok (.getfield 7, 3) := by decide +kernel
theorem dX10_grows_37 : decode cX10_grows 37 = .ok (.iload_n 1, 1) := by decide +kernel
theorem dX10_grows_38 : decode cX10_grows 38 = .ok (.iaload, 1) := by decide +kernel
theorem dX10_grows_39 : decode cX10_grows 39 = .ok (.if_icmp .ge 150, 3) := by decide +kernel
theorem dX10_grows_42 : decode cX10_grows 42 = .ok (.aload_n 0, 1) := by decide +kernel
theorem dX10_grows_43 : decode cX10_grows 43 = .ok (.iload_n 1, 1) := by decide +kernel
theorem dX10_grows_44 : decode cX10_grows 44 = .ok (.iload_n 2, 1) := by decide +kernel
theorem dX10_grows_45 : decode cX10_grows 45 = .ok (.aload_n 0, 1) := by decide +kernel
theorem dX10_grows_46 : decode cX10_grows 46 = .ok (.getfield 89, 3) := by decide +kernel
theorem dX10_grows_49 : decode cX10_grows 49 = .ok (.iload_n 2, 1) := by decide +kernel
theorem dX10_grows_50 : decode cX10_grows 50 = .ok (.iaload, 1) := by decide +kernel
theorem dX10_grows_51 : decode cX10_grows 51 = .ok (.invokevirtual 269, 3) := by decide +kernel
theorem dX10_grows_54 : decode cX10_grows 54 = .ok (.istore_n 3, 1) := by decide +kernel
theorem dX10_grows_55 : decode cX10_grows 55 = .ok (.sipush 255, 3) := by decide +kernel
theorem dX10_grows_58 : decode cX10_grows 58 = .ok (.istore 4, 2) := by decide +kernel
theorem dX10_grows_60 : decode cX10_grows 60 = .ok (.iconst 0, 1) := by decide +kernel
theorem dX10_grows_61 : decode cX10_grows 61 = .ok (.istore 5, 2) := by decide +kernel
theorem dX10_grows_63 : decode cX10_grows 63 = .ok (.iload 5, 2) := by decide +kernel
theorem dX10_grows_65 : decode cX10_grows 65 = .ok (.aload_n 0, 1) := by decide +kernel
theorem dX10_grows_66 : decode cX10_grows 66 = .ok (.iload_n 1, 1) := by decide +kernel
theorem dX10_grows_67 : decode cX10_grows 67 = .ok (.invokevirtual 128, 3) := by decide +kernel
theorem dX10_grows_70 : decode cX10_grows 70 = .ok (.if_icmp .ge 47, 3) := by decide +kernel
theorem dX10_grows_73 : decode cX10_grows 73 = .ok (.iload 5, 2) := by decide +kernel
theorem dX10_grows_75 : decode cX10_grows 75 = .ok (.iload_n 2, 1) := by decide +kernel
theorem dX10_grows_76 : decode cX10_grows 76 = .ok (.aload_n 0, 1) := by decide +kernel
theorem dX10_grows_77 : decode cX10_grows 77 = .ok (.getfield 89, 3) := by decide +kernel
theorem dX10_grows_80 : decode cX10_grows 80 = .ok (.iload_n 2, 1) := by decide +kernel
theorem dX10_grows_81 : decode cX10_grows 81 = .ok (.iaload, 1) := by decide +kernel
theorem dX10_grows_82 : decode cX10_grows 82 = .ok (.invokestatic 150, 3) := by decide +kernel
theorem dX10_grows_85 : decode cX10_grows 85 = .ok (.ifCond .eq 22, 3) := by decide +kernel
theorem dX10_grows_88 : decode cX10_grows 88 = .ok (.aload_n 0, 1) := by decide +kernel
theorem dX10_grows_89 : decode cX10_grows 89 = .ok (.iload_n 1, 1) := by decide +kernel
theorem dX10_grows_90 : decode cX10_grows 90 = .ok (.iload 5, 2) := by decide +kernel
theorem dX10_grows_92 : decode cX10_grows 92 = .ok (.invokevirtual 266, 3) := by decide +kernel
theorem dX10_grows_95 : decode cX10_grows 95 = .ok (.iload_n 3, 1) := by decide +kernel
theorem dX10_grows_96 : decode cX10_grows 96 = .ok (.if_icmp .ne 11, 3) := by decide +kernel
theorem dX10_grows_99 : decode cX10_grows 99 = .ok (.iload 4, 2) := by decide +kernel
theorem dX10_grows_101 : decode cX10_grows 101 = .ok (.iload 5, 2) := by decide +kernel
theorem dX10_grows_103 : decode cX10_grows 103 = .ok (.iand, 1) := by decide +kernel
theorem dX10_grows_104 : decode cX10_grows 104 = .ok (.goto 5, 3) := by decide +kernel
theorem dX10_grows_107 : decode cX10_grows 107 = .ok (.iload 4, 2) := by decide +kernel
theorem dX10_grows_109 : decode cX10_grows 109 = .ok (.istore 4, 2) := by decide +kernel
theorem dX10_grows_111 : decode cX10_grows 111 = .ok (.iinc 5 1, 3) := by decide +kernel
theorem dX10_grows_114 : decode cX10_grows 114 = .ok (.goto (-51), 3) := by decide +kernel
theorem dX10_grows_117 : decode cX10_grows 117 = .ok (.iload_n 2, 1) := by decide +kernel
theorem dX10_grows_118 : decode cX10_grows 118 = .ok (.iconst 1, 1) := by decide +kernel
theorem dX10_grows_119 : decode cX10_grows 119 = .ok (.iadd, 1) := by decide +kernel
theorem dX10_grows_120 : decode cX10_grows 120 = .ok (.istore 5, 2) := by decide +kernel
theorem dX10_grows_122 : decode cX10_grows 122 = .ok (.iload 5, 2) := by decide +kernel
theorem dX10_grows_124 : decode cX10_grows 124 = .ok (.aload_n 0, 1) := by decide +kernel
theorem dX10_grows_125 : decode cX10_grows 125 = .ok (.getfield 7, 3) := by decide +kernel
theorem dX10_grows_128 : decode cX10_grows 128 = .ok (.iload_n 1, 1) := by decide +kernel
theorem dX10_grows_129 : decode cX10_grows 129 = .ok (.iaload, 1) := by decide +kernel
theorem dX10_grows_130 : decode cX10_grows 130 = .ok (.if_icmp .ge 53, 3) := by decide +kernel
theorem dX10_grows_133 : decode cX10_grows 133 = .ok (.aload_n 0, 1) := by decide +kernel
theorem dX10_grows_134 : decode cX10_grows 134 = .ok (.getfield 89, 3) := by decide +kernel
theorem dX10_grows_137 : decode cX10_grows 137 = .ok (.iload 5, 2) := by decide +kernel
theorem dX10_grows_139 : decode cX10_grows 139 = .ok (.iload 4, 2) := by decide +kernel
theorem dX10_grows_141 : decode cX10_grows 141 = .ok (.iload 5, 2) := by decide +kernel
theorem dX10_grows_143 : decode cX10_grows 143 = .ok (.invokestatic 95, 3) := by decide +kernel
theorem dX10_grows_146 : decode cX10_grows 146 = .ok (.ifCond .eq 23, 3) := by decide +kernel
theorem dX10_grows_149 : decode cX10_grows 149 = .ok (.aload_n 0, 1) := by decide +kernel
theorem dX10_grows_150 : decode cX10_grows 150 = .ok (.getfield 89, 3) := by decide +kernel
theorem dX10_grows_153 : decode cX10_grows 153 = .ok (.iload 5, 2) := by decide +kernel
theorem dX10_grows_155 : decode cX10_grows 155 = .ok (.iaload, 1) := by decide +kernel
theorem dX10_grows_156 : decode cX10_grows 156 = .ok (.aload_n 0, 1) := by decide +kernel
theorem dX10_grows_157 : decode cX10_grows 157 = .ok (.getfield 89, 3) := by decide +kernel
theorem dX10_grows_160 : decode cX10_grows 160 = .ok (.iload_n 2, 1) := by decide +kernel
theorem dX10_grows_161 : decode cX10_grows 161 = .ok (.iaload, 1) := by decide +kernel
theorem dX10_grows_162 : decode cX10_grows 162 = .ok (.if_icmp .ne 7, 3) := by decide +kernel
theorem dX10_grows_165 : decode cX10_grows 165 = .ok (.iload_n 2, 1) := by decide +kernel
theorem dX10_grows_166 : decode cX10_grows 166 = .ok (.goto 10, 3) := by decide +kernel
theorem dX10_grows_169 : decode cX10_grows 169 = .ok (.aload_n 0, 1) := by decide +kernel
theorem dX10_grows_170 : decode cX10_grows 170 = .ok (.getfield 89, 3) := by decide +kernel
theorem dX10_grows_173 : decode cX10_grows 173 = .ok (.iload 5, 2) := by decide +kernel
theorem dX10_grows_175 : decode cX10_grows 175 = .ok (.iaload, 1) := by decide +kernel
theorem dX10_grows_176 : decode cX10_grows 176 = .ok (.iastore, 1) := by decide +kernel
theorem dX10_grows_177 : decode cX10_grows 177 = .ok (.iinc 5 1, 3) := by decide +kernel
theorem dX10_grows_180 : decode cX10_grows 180 = .ok (.goto (-58), 3) := by decide +kernel
theorem dX10_grows_183 : decode cX10_grows 183 = .ok (.iinc 2 1, 3) := by decide +kernel
theorem dX10_grows_186 : decode cX10_grows 186 = .ok (.goto (-154), 3) := by decide +kernel
theorem dX10_grows_189 : decode cX10_grows 189 = .ok (.return_, 1) := by decide +kernel
theorem dX10_parent_0 : decode cX10_parent 0 = .ok (.aload_n 0, 1) := by decide +kernel
theorem dX10_parent_1 : decode cX10_parent 1 = .ok (.aload_n 0, 1) := by decide +kernel
theorem dX10_parent_2 : decode cX10_parent 2 = .ok (.iload_n 1, 1) := by decide +kernel
theorem dX10_parent_3 : decode cX10_parent 3 = .ok (.invokevirtual 109, 3) := by decide +kernel
theorem dX10_parent_6 : decode cX10_parent 6 = .ok (.ifCond .eq 12, 3) := by decide +kernel
theorem dX10_parent_9 : decode cX10_parent 9 = .ok (.aload_n 0, 1) := by decide +kernel
theorem dX10_parent_10 : decode cX10_parent 10 = .ok (.iload_n 1, 1) := by decide +kernel
theorem dX10_parent_11 : decode cX10_parent 11 = .ok (.iload_n 2, 1) := by decide +kernel
theorem dX10_parent_12 : decode cX10_parent 12 = .ok (.invokevirtual 106, 3) := by decide +kernel
theorem dX10_parent_15 : decode cX10_parent 15 = .ok (.ifCond .ne 7, 3) := by decide +kernel
theorem dX10_parent_18 : decode cX10_parent 18 = .ok (.iconst 1, 1) := by decide +kernel
theorem dX10_parent_19 : decode cX10_parent 19 = .ok (.goto 12, 3) := by decide +kernel
theorem dX10_parent_22 : decode cX10_parent 22 = .ok (.iload_n 2, 1) := by decide +kernel
theorem dX10_parent_23 : decode cX10_parent 23 = .ok (.ifCond .ne 7, 3) := by decide +kernel
theorem dX10_parent_26 : decode cX10_parent 26 = .ok (.iconst 2, 1) := by decide +kernel
theorem dX10_parent_27 : decode cX10_parent 27 = .ok (.goto 4, 3) := by decide +kernel
theorem dX10_parent_30 : decode cX10_parent 30 = .ok (.iconst 0, 1) := by decide +kernel
theorem dX10_parent_31 : decode cX10_parent 31 = .ok (.putfield 92, 3) := by decide +kernel
theorem dX10_parent_34 : decode cX10_parent 34 = .ok (.aload_n 0, 1) := by decide +kernel
theorem dX10_parent_35 : decode cX10_parent 35 = .ok (.getfield 92, 3) := by decide +kernel
theorem dX10_parent_38 : decode cX10_parent 38 = .ok (.ifCond .le 5, 3) := by decide +kernel
theorem dX10_parent_41 : decode cX10_parent 41 = .ok (.iconst 0, 1) := by decide +kernel
theorem dX10_parent_42 : decode cX10_parent 42 = .ok (.ireturn, 1) := by decide +kernel
theorem dX10_parent_43 : decode cX10_parent 43 = .ok (.aload_n 0, 1) := by decide +kernel
theorem dX10_parent_44 : decode cX10_parent 44 = .ok (.iload_n 1, 1) := by decide +kernel
theorem dX10_parent_45 : decode cX10_parent 45 = .ok (.invokevirtual 272, 3) := by decide +kernel
theorem dX10_parent_48 : decode cX10_parent 48 = .ok (.aload_n 0, 1) := by decide +kernel
theorem dX10_parent_49 : decode cX10_parent 49 = .ok (.getfield 89, 3) := by decide +kernel
theorem dX10_parent_52 : decode cX10_parent 52 = .ok (.iload_n 2, 1) := by decide +kernel
theorem dX10_parent_53 : decode cX10_parent 53 = .ok (.iaload, 1) := by decide +kernel
theorem dX10_parent_54 : decode cX10_parent 54 = .ok (.ireturn, 1) := by decide +kernel
theorem dX10_between_0 : decode cX10_between 0 = .ok (.aload_n 0, 1) := by decide +kernel
theorem dX10_between_1 : decode cX10_between 1 = .ok (.aload_n 0, 1) := by decide +kernel
theorem dX10_between_2 : decode cX10_between 2 = .ok (.iload_n 1, 1) := by decide +kernel
theorem dX10_between_3 : decode cX10_between 3 = .ok (.iload_n 2, 1) := by decide +kernel
theorem dX10_between_4 : decode cX10_between 4 = .ok (.iload_n 3, 1) := by decide +kernel
theorem dX10_between_5 : decode cX10_between 5 = .ok (.invokevirtual 178, 3) := by decide +kernel
theorem dX10_between_8 : decode cX10_between 8 = .ok (.putfield 92, 3) := by decide +kernel
theorem dX10_between_11 : decode cX10_between 11 = .ok (.aload_n 0, 1) := by decide +kernel
theorem dX10_between_12 : decode cX10_between 12 = .ok (.getfield 92, 3) := by decide +kernel
theorem dX10_between_15 : decode cX10_between 15 = .ok (.ifCond .le 5, 3) := by decide +kernel
theorem dX10_between_18 : decode cX10_between 18 = .ok (.iconst 0, 1) := by decide +kernel
theorem dX10_between_19 : decode cX10_between 19 = .ok (.ireturn, 1) := by decide +kernel
theorem dX10_between_20 : decode cX10_between 20 = .ok (.aload_n 0, 1) := by decide +kernel
theorem dX10_between_21 : decode cX10_between 21 = .ok (.iload_n 1, 1) := by decide +kernel
theorem dX10_between_22 : decode cX10_between 22 = .ok (.invokevirtual 167, 3) := by decide +kernel
theorem dX10_between_25 : decode cX10_between 25 = .ok (.aload_n 0, 1) := by decide +kernel
theorem dX10_between_26 : decode cX10_between 26 = .ok (.iload_n 1, 1) := by decide +kernel
theorem dX10_between_27 : decode cX10_between 27 = .ok (.iload_n 2, 1) := by decide +kernel
theorem dX10_between_28 : decode cX10_between 28 = .ok (.iload_n 3, 1) := by decide +kernel
theorem dX10_between_29 : decode cX10_between 29 = .ok (.invokevirtual 269, 3) := by decide +kernel
theorem dX10_between_32 : decode cX10_between 32 = .ok (.ireturn, 1) := by decide +kernel
theorem dX10_inSteps_0 : decode cX10_inSteps 0 = .ok (.aload_n 0, 1) := by decide +kernel
theorem dX10_inSteps_1 : decode cX10_inSteps 1 = .ok (.aload_n 0, 1) := by decide +kernel
theorem dX10_inSteps_2 : decode cX10_inSteps 2 = .ok (.iload_n 1, 1) := by decide +kernel
theorem dX10_inSteps_3 : decode cX10_inSteps 3 = .ok (.iload_n 2, 1) := by decide +kernel
theorem dX10_inSteps_4 : decode cX10_inSteps 4 = .ok (.iload_n 3, 1) := by decide +kernel
theorem dX10_inSteps_5 : decode cX10_inSteps 5 = .ok (.invokevirtual 178, 3) := by decide +kernel
theorem dX10_inSteps_8 : decode cX10_inSteps 8 = .ok (.putfield 92, 3) := by decide +kernel
theorem dX10_inSteps_11 : decode cX10_inSteps 11 = .ok (.aload_n 0, 1) := by decide +kernel
theorem dX10_inSteps_12 : decode cX10_inSteps 12 = .ok (.aload_n 0, 1) := by decide +kernel
theorem dX10_inSteps_13 : decode cX10_inSteps 13 = .ok (.getfield 92, 3) := by decide +kernel
theorem dX10_inSteps_16 : decode cX10_inSteps 16 = .ok (.ifCond .le 10, 3) := by decide +kernel
theorem dX10_inSteps_19 : decode cX10_inSteps 19 = .ok (.aload_n 0, 1) := by decide +kernel
theorem dX10_inSteps_20 : decode cX10_inSteps 20 = .ok (.getfield 92, 3) := by decide +kernel
theorem dX10_inSteps_23 : decode cX10_inSteps 23 = .ok (.goto 19, 3) := by decide +kernel
theorem dX10_inSteps_26 : decode cX10_inSteps 26 = .ok (.iload 4, 2) := by decide +kernel
theorem dX10_inSteps_28 : decode cX10_inSteps 28 = .ok (.iconst 0, 1) := by decide +kernel
theorem dX10_inSteps_29 : decode cX10_inSteps 29 = .ok (.bipush 8, 2) := by decide +kernel
theorem dX10_inSteps_31 : decode cX10_inSteps 31 = .ok (.invokestatic 102, 3) := by decide +kernel
theorem dX10_inSteps_34 : decode cX10_inSteps 34 = .ok (.ifCond .ne 7, 3) := by decide +kernel
theorem dX10_inSteps_37 : decode cX10_inSteps 37 = .ok (.iconst 2, 1) := by decide +kernel
theorem dX10_inSteps_38 : decode cX10_inSteps 38 = .ok (.goto 4, 3) := by decide +kernel
theorem dX10_inSteps_41 : decode cX10_inSteps 41 = .ok (.iconst 0, 1) := by decide +kernel
theorem dX10_inSteps_42 : decode cX10_inSteps 42 = .ok (.putfield 92, 3) := by decide +kernel
theorem dX10_inSteps_45 : decode cX10_inSteps 45 = .ok (.aload_n 0, 1) := by decide +kernel
theorem dX10_inSteps_46 : decode cX10_inSteps 46 = .ok (.getfield 92, 3) := by decide +kernel
theorem dX10_inSteps_49 : decode cX10_inSteps 49 = .ok (.ifCond .le 5, 3) := by decide +kernel
theorem dX10_inSteps_52 : decode cX10_inSteps 52 = .ok (.iconst 0, 1) := by decide +kernel
theorem dX10_inSteps_53 : decode cX10_inSteps 53 = .ok (.ireturn, 1) := by decide +kernel
theorem dX10_inSteps_54 : decode cX10_inSteps 54 = .ok (.iconst 0, 1) := by decide +kernel
theorem dX10_inSteps_55 : decode cX10_inSteps 55 = .ok (.istore 5, 2) := by decide +kernel
theorem dX10_inSteps_57 : decode cX10_inSteps 57 = .ok (.iload 5, 2) := by decide +kernel
theorem dX10_inSteps_59 : decode cX10_inSteps 59 = .ok (.aload_n 0, 1) := by decide +kernel
theorem dX10_inSteps_60 : decode cX10_inSteps 60 = .ok (.iload_n 1, 1) := by decide +kernel
theorem dX10_inSteps_61 : decode cX10_inSteps 61 = .ok (.invokevirtual 128, 3) := by decide +kernel
theorem dX10_inSteps_64 : decode cX10_inSteps 64 = .ok (.if_icmp .ge 17, 3) := by decide +kernel
theorem dX10_inSteps_67 : decode cX10_inSteps 67 = .ok (.aload_n 0, 1) := by decide +kernel
theorem dX10_inSteps_68 : decode cX10_inSteps 68 = .ok (.getfield 83, 3) := by decide +kernel
theorem dX10_inSteps_71 : decode cX10_inSteps 71 = .ok (.iload 5, 2) := by decide +kernel
theorem dX10_inSteps_73 : decode cX10_inSteps 73 = .ok (.iconst 0, 1) := by decide +kernel
theorem dX10_inSteps_74 : decode cX10_inSteps 74 = .ok (.iastore, 1) := by decide +kernel
theorem dX10_inSteps_75 : decode cX10_inSteps 75 = .ok (.iinc 5 1, 3) := by decide +kernel
theorem dX10_inSteps_78 : decode cX10_inSteps 78 = .ok (.goto (-21), 3) := by decide +kernel
theorem dX10_inSteps_81 : decode cX10_inSteps 81 = .ok (.iconst 0, 1) := by decide +kernel
theorem dX10_inSteps_82 : decode cX10_inSteps 82 = .ok (.istore 5, 2) := by decide +kernel
theorem dX10_inSteps_84 : decode cX10_inSteps 84 = .ok (.iload 5, 2) := by decide +kernel
theorem dX10_inSteps_86 : decode cX10_inSteps 86 = .ok (.iload 4, 2) := by decide +kernel
theorem dX10_inSteps_88 : decode cX10_inSteps 88 = .ok (.if_icmp .ge 93, 3) := by decide +kernel
theorem dX10_inSteps_91 : decode cX10_inSteps 91 = .ok (.iconst 0, 1) := by decide +kernel
theorem dX10_inSteps_92 : decode cX10_inSteps 92 = .ok (.istore 6, 2) := by decide +kernel
theorem dX10_inSteps_94 : decode cX10_inSteps 94 = .ok (.iload 6, 2) := by decide +kernel
theorem dX10_inSteps_96 : decode cX10_inSteps 96 = .ok (.aload_n 0, 1) := by decide +kernel
theorem dX10_inSteps_97 : decode cX10_inSteps 97 = .ok (.iload_n 1, 1) := by decide +kernel
theorem dX10_inSteps_98 : decode cX10_inSteps 98 = .ok (.invokevirtual 128, 3) := by decide +kernel
theorem dX10_inSteps_101 : decode cX10_inSteps 101 = .ok (.if_icmp .ge 41, 3) := by decide +kernel
theorem dX10_inSteps_104 : decode cX10_inSteps 104 = .ok (.aload_n 0, 1) := by decide +kernel
theorem dX10_inSteps_105 : decode cX10_inSteps 105 = .ok (.getfield 86, 3) := by decide +kernel
theorem dX10_inSteps_108 : decode cX10_inSteps 108 = .ok (.iload 6, 2) := by decide +kernel
theorem dX10_inSteps_110 : decode cX10_inSteps 110 = .ok (.iload 6, 2) := by decide +kernel
theorem dX10_inSteps_112 : decode cX10_inSteps 112 = .ok (.iload_n 2, 1) := by decide +kernel
theorem dX10_inSteps_113 : decode cX10_inSteps 113 = .ok (.iload_n 3, 1) := by decide +kernel
theorem dX10_inSteps_114 : decode cX10_inSteps 114 = .ok (.invokestatic 150, 3) := by decide +kernel
theorem dX10_inSteps_117 : decode cX10_inSteps 117 = .ok (.ifCond .eq 15, 3) := by decide +kernel
theorem dX10_inSteps_120 : decode cX10_inSteps 120 = .ok (.aload_n 0, 1) := by decide +kernel
theorem dX10_inSteps_121 : decode cX10_inSteps 121 = .ok (.iload_n 1, 1) := by decide +kernel
theorem dX10_inSteps_122 : decode cX10_inSteps 122 = .ok (.iload_n 2, 1) := by decide +kernel
theorem dX10_inSteps_123 : decode cX10_inSteps 123 = .ok (.iload_n 3, 1) := by decide +kernel
theorem dX10_inSteps_124 : decode cX10_inSteps 124 = .ok (.iload 6, 2) := by decide +kernel
theorem dX10_inSteps_126 : decode cX10_inSteps 126 = .ok (.invokevirtual 275, 3) := by decide +kernel
theorem dX10_inSteps_129 : decode cX10_inSteps 129 = .ok (.goto 6, 3) := by decide +kernel
theorem dX10_inSteps_132 : decode cX10_inSteps 132 = .ok (.ldc_w 278, 3) := by decide +kernel
theorem dX10_inSteps_135 : decode cX10_inSteps 135 = .ok (.iastore, 1) := by decide +kernel
theorem dX10_inSteps_136 : decode cX10_inSteps 136 = .ok (.iinc 6 1, 3) := by decide +kernel
theorem dX10_inSteps_139 : decode cX10_inSteps 139 = .ok (.goto (-45), 3) := by decide +kernel
theorem dX10_inSteps_142 : decode cX10_inSteps 142 = .ok (.iconst 0, 1) := by decide +kernel
theorem dX10_inSteps_143 : decode cX10_inSteps 143 = .ok (.istore 6, 2) := by decide +kernel
theorem dX10_inSteps_145 : decode cX10_inSteps 145 = .ok (.iload 6, 2) := by decide +kernel
theorem dX10_inSteps_147 : decode cX10_inSteps 147 = .ok (.aload_n 0, 1) := by decide +kernel
theorem dX10_inSteps_148 : decode cX10_inSteps 148 = .ok (.iload_n 1, 1) := by decide +kernel
theorem dX10_inSteps_149 : decode cX10_inSteps 149 = .ok (.invokevirtual 128, 3) := by decide +kernel
theorem dX10_inSteps_152 : decode cX10_inSteps 152 = .ok (.if_icmp .ge 23, 3) := by decide +kernel
theorem dX10_inSteps_155 : decode cX10_inSteps 155 = .ok (.aload_n 0, 1) := by decide +kernel
theorem dX10_inSteps_156 : decode cX10_inSteps 156 = .ok (.getfield 83, 3) := by decide +kernel
theorem dX10_inSteps_159 : decode cX10_inSteps 159 = .ok (.iload 6, 2) := by decide +kernel
theorem dX10_inSteps_161 : decode cX10_inSteps 161 = .ok (.aload_n 0, 1) := by decide +kernel
theorem dX10_inSteps_162 : decode cX10_inSteps 162 = .ok (.getfield 86, 3) := by decide +kernel
theorem dX10_inSteps_165 : decode cX10_inSteps 165 = .ok (.iload 6, 2) := by decide +kernel
theorem dX10_inSteps_167 : decode cX10_inSteps 167 = .ok (.iaload, 1) := by decide +kernel
theorem dX10_inSteps_168 : decode cX10_inSteps 168 = .ok (.iastore, 1) := by decide +kernel
theorem dX10_inSteps_169 : decode cX10_inSteps 169 = .ok (.iinc 6 1, 3) := by decide +kernel
theorem dX10_inSteps_172 : decode cX10_inSteps 172 = .ok (.goto (-27), 3) := by decide +kernel
theorem dX10_inSteps_175 : decode cX10_inSteps 175 = .ok (.iinc 5 1, 3) := by decide +kernel
theorem dX10_inSteps_178 : decode cX10_inSteps 178 = .ok (.goto (-94), 3) := by decide +kernel
theorem dX10_inSteps_181 : decode cX10_inSteps 181 = .ok (.ldc_w 278, 3) := by decide +kernel
theorem dX10_inSteps_184 : decode cX10_inSteps 184 = .ok (.istore 5, 2) := by decide +kernel
theorem dX10_inSteps_186 : decode cX10_inSteps 186 = .ok (.iconst 0, 1) := by decide +kernel
theorem dX10_inSteps_187 : decode cX10_inSteps 187 = .ok (.istore 6, 2) := by decide +kernel
theorem dX10_inSteps_189 : decode cX10_inSteps 189 = .ok (.iload 6, 2) := by decide +kernel
theorem dX10_inSteps_191 : decode cX10_inSteps 191 = .ok (.aload_n 0, 1) := by decide +kernel
theorem dX10_inSteps_192 : decode cX10_inSteps 192 = .ok (.iload_n 1, 1) := by decide +kernel
theorem dX10_inSteps_193 : decode cX10_inSteps 193 = .ok (.invokevirtual 128, 3) := by decide +kernel
theorem dX10_inSteps_196 : decode cX10_inSteps 196 = .ok (.if_icmp .ge 38, 3) := by decide +kernel
theorem dX10_inSteps_199 : decode cX10_inSteps 199 = .ok (.iload 6, 2) := by decide +kernel
theorem dX10_inSteps_201 : decode cX10_inSteps 201 = .ok (.iload_n 2, 1) := by decide +kernel
theorem dX10_inSteps_202 : decode cX10_inSteps 202 = .ok (.iload_n 3, 1) := by decide +kernel
theorem dX10_inSteps_203 : decode cX10_inSteps 203 = .ok (.invokestatic 150, 3) := by decide +kernel
theorem dX10_inSteps_206 : decode cX10_inSteps 206 = .ok (.ifCond .eq 18, 3) := by decide +kernel
theorem dX10_inSteps_209 : decode cX10_inSteps 209 = .ok (.iload 5, 2) := by decide +kernel
theorem dX10_inSteps_211 : decode cX10_inSteps 211 = .ok (.aload_n 0, 1) := by decide +kernel
theorem dX10_inSteps_212 : decode cX10_inSteps 212 = .ok (.getfield 83, 3) := by decide +kernel
theorem dX10_inSteps_215 : decode cX10_inSteps 215 = .ok (.iload 6, 2) := by decide +kernel
theorem dX10_inSteps_217 : decode cX10_inSteps 217 = .ok (.iaload, 1) := by decide +kernel
theorem dX10_inSteps_218 : decode cX10_inSteps 218 = .ok (.invokestatic 199, 3) := by decide +kernel
theorem dX10_inSteps_221 : decode cX10_inSteps 221 = .ok (.goto 5, 3) := by decide +kernel
theorem dX10_inSteps_224 : decode cX10_inSteps 224 = .ok (.iload 5, 2) := by decide +kernel
theorem dX10_inSteps_226 : decode cX10_inSteps 226 = .ok (.istore 5, 2) := by decide +kernel
theorem dX10_inSteps_228 : decode cX10_inSteps 228 = .ok (.iinc 6 1, 3) := by decide +kernel
theorem dX10_inSteps_231 : decode cX10_inSteps 231 = .ok (.goto (-42), 3) := by decide +kernel
theorem dX10_inSteps_234 : decode cX10_inSteps 234 = .ok (.iload 5, 2) := by decide +kernel
theorem dX10_inSteps_236 : decode cX10_inSteps 236 = .ok (.ireturn, 1) := by decide +kernel
theorem dX10_parted_0 : decode cX10_parted 0 = .ok (.ldc_w 278, 3) := by decide +kernel
theorem dX10_parted_3 : decode cX10_parted 3 = .ok (.istore 5, 2) := by decide +kernel
theorem dX10_parted_5 : decode cX10_parted 5 = .ok (.iconst 0, 1) := by decide +kernel
theorem dX10_parted_6 : decode cX10_parted 6 = .ok (.istore 6, 2) := by decide +kernel
theorem dX10_parted_8 : decode cX10_parted 8 = .ok (.iload 6, 2) := by decide +kernel
theorem dX10_parted_10 : decode cX10_parted 10 = .ok (.iload 4, 2) := by decide +kernel
theorem dX10_parted_12 : decode cX10_parted 12 = .ok (.if_icmp .gt 53, 3) := by decide +kernel
theorem dX10_parted_15 : decode cX10_parted 15 = .ok (.iload 6, 2) := by decide +kernel
theorem dX10_parted_17 : decode cX10_parted 17 = .ok (.iload 4, 2) := by decide +kernel
theorem dX10_parted_19 : decode cX10_parted 19 = .ok (.iconst (-1), 1) := by decide +kernel
theorem dX10_parted_20 : decode cX10_parted 20 = .ok (.ixor, 1) := by decide +kernel
theorem dX10_parted_21 : decode cX10_parted 21 = .ok (.iand, 1) := by decide +kernel
theorem dX10_parted_22 : decode cX10_parted 22 = .ok (.ifCond .ne 37, 3) := by decide +kernel
theorem dX10_parted_25 : decode cX10_parted 25 = .ok (.iload 6, 2) := by decide +kernel
theorem dX10_parted_27 : decode cX10_parted 27 = .ok (.iload_n 2, 1) := by decide +kernel
theorem dX10_parted_28 : decode cX10_parted 28 = .ok (.iload_n 3, 1) := by decide +kernel
theorem dX10_parted_29 : decode cX10_parted 29 = .ok (.invokestatic 150, 3) := by decide +kernel
theorem dX10_parted_32 : decode cX10_parted 32 = .ok (.ifCond .eq 27, 3) := by decide +kernel
theorem dX10_parted_35 : decode cX10_parted 35 = .ok (.iload 5, 2) := by decide +kernel
theorem dX10_parted_37 : decode cX10_parted 37 = .ok (.aload_n 0, 1) := by decide +kernel
theorem dX10_parted_38 : decode cX10_parted 38 = .ok (.getfield 83, 3) := by decide +kernel
theorem dX10_parted_41 : decode cX10_parted 41 = .ok (.iload 6, 2) := by decide +kernel
theorem dX10_parted_43 : decode cX10_parted 43 = .ok (.iaload, 1) := by decide +kernel
theorem dX10_parted_44 : decode cX10_parted 44 = .ok (.aload_n 0, 1) := by decide +kernel
theorem dX10_parted_45 : decode cX10_parted 45 = .ok (.iload_n 1, 1) := by decide +kernel
theorem dX10_parted_46 : decode cX10_parted 46 = .ok (.iload 6, 2) := by decide +kernel
theorem dX10_parted_48 : decode cX10_parted 48 = .ok (.iload 4, 2) := by decide +kernel
theorem dX10_parted_50 : decode cX10_parted 50 = .ok (.invokevirtual 279, 3) := by decide +kernel
theorem dX10_parted_53 : decode cX10_parted 53 = .ok (.iadd, 1) := by decide +kernel
theorem dX10_parted_54 : decode cX10_parted 54 = .ok (.invokestatic 199, 3) := by decide +kernel
theorem dX10_parted_57 : decode cX10_parted 57 = .ok (.istore 5, 2) := by decide +kernel
theorem dX10_parted_59 : decode cX10_parted 59 = .ok (.iinc 6 1, 3) := by decide +kernel
theorem dX10_parted_62 : decode cX10_parted 62 = .ok (.goto (-54), 3) := by decide +kernel
theorem dX10_parted_65 : decode cX10_parted 65 = .ok (.iload 5, 2) := by decide +kernel
theorem dX10_parted_67 : decode cX10_parted 67 = .ok (.ireturn, 1) := by decide +kernel
theorem dX10_lost_0 : decode cX10_lost 0 = .ok (.iconst 0, 1) := by decide +kernel
theorem dX10_lost_1 : decode cX10_lost 1 = .ok (.istore 4, 2) := by decide +kernel
theorem dX10_lost_3 : decode cX10_lost 3 = .ok (.iconst 0, 1) := by decide +kernel
theorem dX10_lost_4 : decode cX10_lost 4 = .ok (.istore 5, 2) := by decide +kernel
theorem dX10_lost_6 : decode cX10_lost 6 = .ok (.iload 5, 2) := by decide +kernel
theorem dX10_lost_8 : decode cX10_lost 8 = .ok (.aload_n 0, 1) := by decide +kernel
theorem dX10_lost_9 : decode cX10_lost 9 = .ok (.getfield 13, 3) := by decide +kernel
theorem dX10_lost_12 : decode cX10_lost 12 = .ok (.iload_n 1, 1) := by decide +kernel
theorem dX10_lost_13 : decode cX10_lost 13 = .ok (.iaload, 1) := by decide +kernel
theorem dX10_lost_14 : decode cX10_lost 14 = .ok (.if_icmp .ge 68, 3) := by decide +kernel
theorem dX10_lost_17 : decode cX10_lost 17 = .ok (.iload 4, 2) := by decide +kernel
theorem dX10_lost_19 : decode cX10_lost 19 = .ok (.iload_n 2, 1) := by decide +kernel
theorem dX10_lost_20 : decode cX10_lost 20 = .ok (.aload_n 0, 1) := by decide +kernel
theorem dX10_lost_21 : decode cX10_lost 21 = .ok (.getfield 16, 3) := by decide +kernel
theorem dX10_lost_24 : decode cX10_lost 24 = .ok (.bipush 16, 2) := by decide +kernel
theorem dX10_lost_26 : decode cX10_lost 26 = .ok (.iload_n 1, 1) := by decide +kernel
theorem dX10_lost_27 : decode cX10_lost 27 = .ok (.imul, 1) := by decide +kernel
theorem dX10_lost_28 : decode cX10_lost 28 = .ok (.iload 5, 2) := by decide +kernel
theorem dX10_lost_30 : decode cX10_lost 30 = .ok (.iadd, 1) := by decide +kernel
theorem dX10_lost_31 : decode cX10_lost 31 = .ok (.iaload, 1) := by decide +kernel
theorem dX10_lost_32 : decode cX10_lost 32 = .ok (.invokestatic 95, 3) := by decide +kernel
theorem dX10_lost_35 : decode cX10_lost 35 = .ok (.ifCond .eq 37, 3) := by decide +kernel
theorem dX10_lost_38 : decode cX10_lost 38 = .ok (.iload_n 3, 1) := by decide +kernel
theorem dX10_lost_39 : decode cX10_lost 39 = .ok (.aload_n 0, 1) := by decide +kernel
theorem dX10_lost_40 : decode cX10_lost 40 = .ok (.getfield 19, 3) := by decide +kernel
theorem dX10_lost_43 : decode cX10_lost 43 = .ok (.bipush 16, 2) := by decide +kernel
theorem dX10_lost_45 : decode cX10_lost 45 = .ok (.iload_n 1, 1) := by decide +kernel
theorem dX10_lost_46 : decode cX10_lost 46 = .ok (.imul, 1) := by decide +kernel
theorem dX10_lost_47 : decode cX10_lost 47 = .ok (.iload 5, 2) := by decide +kernel
theorem dX10_lost_49 : decode cX10_lost 49 = .ok (.iadd, 1) := by decide +kernel
theorem dX10_lost_50 : decode cX10_lost 50 = .ok (.iaload, 1) := by decide +kernel
theorem dX10_lost_51 : decode cX10_lost 51 = .ok (.invokestatic 95, 3) := by decide +kernel
theorem dX10_lost_54 : decode cX10_lost 54 = .ok (.ifCond .ne 18, 3) := by decide +kernel
theorem dX10_lost_57 : decode cX10_lost 57 = .ok (.aload_n 0, 1) := by decide +kernel
theorem dX10_lost_58 : decode cX10_lost 58 = .ok (.getfield 25, 3) := by decide +kernel
theorem dX10_lost_61 : decode cX10_lost 61 = .ok (.bipush 16, 2) := by decide +kernel
theorem dX10_lost_63 : decode cX10_lost 63 = .ok (.iload_n 1, 1) := by decide +kernel
theorem dX10_lost_64 : decode cX10_lost 64 = .ok (.imul, 1) := by decide +kernel
theorem dX10_lost_65 : decode cX10_lost 65 = .ok (.iload 5, 2) := by decide +kernel
theorem dX10_lost_67 : decode cX10_lost 67 = .ok (.iadd, 1) := by decide +kernel
theorem dX10_lost_68 : decode cX10_lost 68 = .ok (.iaload, 1) := by decide +kernel
theorem dX10_lost_69 : decode cX10_lost 69 = .ok (.goto 4, 3) := by decide +kernel
theorem dX10_lost_72 : decode cX10_lost 72 = .ok (.iconst 0, 1) := by decide +kernel
theorem dX10_lost_73 : decode cX10_lost 73 = .ok (.iadd, 1) := by decide +kernel
theorem dX10_lost_74 : decode cX10_lost 74 = .ok (.istore 4, 2) := by decide +kernel
theorem dX10_lost_76 : decode cX10_lost 76 = .ok (.iinc 5 1, 3) := by decide +kernel
theorem dX10_lost_79 : decode cX10_lost 79 = .ok (.goto (-73), 3) := by decide +kernel
theorem dX10_lost_82 : decode cX10_lost 82 = .ok (.iload 4, 2) := by decide +kernel
theorem dX10_lost_84 : decode cX10_lost 84 = .ok (.ireturn, 1) := by decide +kernel
theorem dX10_likes_0 : decode cX10_likes 0 = .ok (.aload_n 0, 1) := by decide +kernel
theorem dX10_likes_1 : decode cX10_likes 1 = .ok (.iload_n 1, 1) := by decide +kernel
theorem dX10_likes_2 : decode cX10_likes 2 = .ok (.iconst 0, 1) := by decide +kernel
theorem dX10_likes_3 : decode cX10_likes 3 = .ok (.bipush 7, 2) := by decide +kernel
theorem dX10_likes_5 : decode cX10_likes 5 = .ok (.invokestatic 102, 3) := by decide +kernel
theorem dX10_likes_8 : decode cX10_likes 8 = .ok (.ifCond .ne 7, 3) := by decide +kernel
theorem dX10_likes_11 : decode cX10_likes 11 = .ok (.iconst 1, 1) := by decide +kernel
theorem dX10_likes_12 : decode cX10_likes 12 = .ok (.goto 19, 3) := by decide +kernel
theorem dX10_likes_15 : decode cX10_likes 15 = .ok (.iload_n 2, 1) := by decide +kernel
theorem dX10_likes_16 : decode cX10_likes 16 = .ok (.iconst 0, 1) := by decide +kernel
theorem dX10_likes_17 : decode cX10_likes 17 = .ok (.sipush 255, 3) := by decide +kernel
theorem dX10_likes_20 : decode cX10_likes 20 = .ok (.invokestatic 102, 3) := by decide +kernel
theorem dX10_likes_23 : decode cX10_likes 23 = .ok (.ifCond .ne 7, 3) := by decide +kernel
theorem dX10_likes_26 : decode cX10_likes 26 = .ok (.iconst 2, 1) := by decide +kernel
theorem dX10_likes_27 : decode cX10_likes 27 = .ok (.goto 4, 3) := by decide +kernel
theorem dX10_likes_30 : decode cX10_likes 30 = .ok (.iconst 0, 1) := by decide +kernel
theorem dX10_likes_31 : decode cX10_likes 31 = .ok (.putfield 92, 3) := by decide +kernel
theorem dX10_likes_34 : decode cX10_likes 34 = .ok (.aload_n 0, 1) := by decide +kernel
theorem dX10_likes_35 : decode cX10_likes 35 = .ok (.getfield 92, 3) := by decide +kernel
theorem dX10_likes_38 : decode cX10_likes 38 = .ok (.ifCond .le 5, 3) := by decide +kernel
theorem dX10_likes_41 : decode cX10_likes 41 = .ok (.iconst 0, 1) := by decide +kernel
theorem dX10_likes_42 : decode cX10_likes 42 = .ok (.ireturn, 1) := by decide +kernel
theorem dX10_likes_43 : decode cX10_likes 43 = .ok (.aload_n 0, 1) := by decide +kernel
theorem dX10_likes_44 : decode cX10_likes 44 = .ok (.getfield 34, 3) := by decide +kernel
theorem dX10_likes_47 : decode cX10_likes 47 = .ok (.iload_n 1, 1) := by decide +kernel
theorem dX10_likes_48 : decode cX10_likes 48 = .ok (.iaload, 1) := by decide +kernel
theorem dX10_likes_49 : decode cX10_likes 49 = .ok (.istore_n 3, 1) := by decide +kernel
theorem dX10_likes_50 : decode cX10_likes 50 = .ok (.aload_n 0, 1) := by decide +kernel
theorem dX10_likes_51 : decode cX10_likes 51 = .ok (.getfield 34, 3) := by decide +kernel
theorem dX10_likes_54 : decode cX10_likes 54 = .ok (.iload_n 1, 1) := by decide +kernel
theorem dX10_likes_55 : decode cX10_likes 55 = .ok (.iload_n 2, 1) := by decide +kernel
theorem dX10_likes_56 : decode cX10_likes 56 = .ok (.iastore, 1) := by decide +kernel
theorem dX10_likes_57 : decode cX10_likes 57 = .ok (.iload_n 3, 1) := by decide +kernel
theorem dX10_likes_58 : decode cX10_likes 58 = .ok (.ireturn, 1) := by decide +kernel
theorem dX10_likedBy_0 : decode cX10_likedBy 0 = .ok (.iconst 0, 1) := by decide +kernel
theorem dX10_likedBy_1 : decode cX10_likedBy 1 = .ok (.istore_n 3, 1) := by decide +kernel
theorem dX10_likedBy_2 : decode cX10_likedBy 2 = .ok (.iconst 0, 1) := by decide +kernel
theorem dX10_likedBy_3 : decode cX10_likedBy 3 = .ok (.istore 4, 2) := by decide +kernel
theorem dX10_likedBy_5 : decode cX10_likedBy 5 = .ok (.iload 4, 2) := by decide +kernel
theorem dX10_likedBy_7 : decode cX10_likedBy 7 = .ok (.bipush 8, 2) := by decide +kernel
theorem dX10_likedBy_9 : decode cX10_likedBy 9 = .ok (.if_icmp .ge 34, 3) := by decide +kernel
theorem dX10_likedBy_12 : decode cX10_likedBy 12 = .ok (.iload_n 3, 1) := by decide +kernel
theorem dX10_likedBy_13 : decode cX10_likedBy 13 = .ok (.iload_n 1, 1) := by decide +kernel
theorem dX10_likedBy_14 : decode cX10_likedBy 14 = .ok (.iload 4, 2) := by decide +kernel
theorem dX10_likedBy_16 : decode cX10_likedBy 16 = .ok (.invokestatic 95, 3) := by decide +kernel
theorem dX10_likedBy_19 : decode cX10_likedBy 19 = .ok (.ifCond .eq 15, 3) := by decide +kernel
theorem dX10_likedBy_22 : decode cX10_likedBy 22 = .ok (.aload_n 0, 1) := by decide +kernel
theorem dX10_likedBy_23 : decode cX10_likedBy 23 = .ok (.getfield 34, 3) := by decide +kernel
theorem dX10_likedBy_26 : decode cX10_likedBy 26 = .ok (.iload 4, 2) := by decide +kernel
theorem dX10_likedBy_28 : decode cX10_likedBy 28 = .ok (.iaload, 1) := by decide +kernel
theorem dX10_likedBy_29 : decode cX10_likedBy 29 = .ok (.iload_n 2, 1) := by decide +kernel
theorem dX10_likedBy_30 : decode cX10_likedBy 30 = .ok (.iand, 1) := by decide +kernel
theorem dX10_likedBy_31 : decode cX10_likedBy 31 = .ok (.goto 4, 3) := by decide +kernel
theorem dX10_likedBy_34 : decode cX10_likedBy 34 = .ok (.iconst 0, 1) := by decide +kernel
theorem dX10_likedBy_35 : decode cX10_likedBy 35 = .ok (.ior, 1) := by decide +kernel
theorem dX10_likedBy_36 : decode cX10_likedBy 36 = .ok (.istore_n 3, 1) := by decide +kernel
theorem dX10_likedBy_37 : decode cX10_likedBy 37 = .ok (.iinc 4 1, 3) := by decide +kernel
theorem dX10_likedBy_40 : decode cX10_likedBy 40 = .ok (.goto (-35), 3) := by decide +kernel
theorem dX10_likedBy_43 : decode cX10_likedBy 43 = .ok (.iload_n 3, 1) := by decide +kernel
theorem dX10_likedBy_44 : decode cX10_likedBy 44 = .ok (.ireturn, 1) := by decide +kernel
theorem dX10_pairsOf_0 : decode cX10_pairsOf 0 = .ok (.iconst 0, 1) := by decide +kernel
theorem dX10_pairsOf_1 : decode cX10_pairsOf 1 = .ok (.istore_n 3, 1) := by decide +kernel
theorem dX10_pairsOf_2 : decode cX10_pairsOf 2 = .ok (.iconst 0, 1) := by decide +kernel
theorem dX10_pairsOf_3 : decode cX10_pairsOf 3 = .ok (.istore 4, 2) := by decide +kernel
theorem dX10_pairsOf_5 : decode cX10_pairsOf 5 = .ok (.iload 4, 2) := by decide +kernel
theorem dX10_pairsOf_7 : decode cX10_pairsOf 7 = .ok (.iload_n 1, 1) := by decide +kernel
theorem dX10_pairsOf_8 : decode cX10_pairsOf 8 = .ok (.if_icmp .gt 39, 3) := by decide +kernel
theorem dX10_pairsOf_11 : decode cX10_pairsOf 11 = .ok (.iload 4, 2) := by decide +kernel
theorem dX10_pairsOf_13 : decode cX10_pairsOf 13 = .ok (.iload_n 1, 1) := by decide +kernel
theorem dX10_pairsOf_14 : decode cX10_pairsOf 14 = .ok (.iconst (-1), 1) := by decide +kernel
theorem dX10_pairsOf_15 : decode cX10_pairsOf 15 = .ok (.ixor, 1) := by decide +kernel
theorem dX10_pairsOf_16 : decode cX10_pairsOf 16 = .ok (.iand, 1) := by decide +kernel
theorem dX10_pairsOf_17 : decode cX10_pairsOf 17 = .ok (.ifCond .ne 24, 3) := by decide +kernel
theorem dX10_pairsOf_20 : decode cX10_pairsOf 20 = .ok (.iload_n 3, 1) := by decide +kernel
theorem dX10_pairsOf_21 : decode cX10_pairsOf 21 = .ok (.iload 4, 2) := by decide +kernel
theorem dX10_pairsOf_23 : decode cX10_pairsOf 23 = .ok (.invokestatic 247, 3) := by decide +kernel
theorem dX10_pairsOf_26 : decode cX10_pairsOf 26 = .ok (.aload_n 0, 1) := by decide +kernel
theorem dX10_pairsOf_27 : decode cX10_pairsOf 27 = .ok (.iload 4, 2) := by decide +kernel
theorem dX10_pairsOf_29 : decode cX10_pairsOf 29 = .ok (.iload_n 2, 1) := by decide +kernel
theorem dX10_pairsOf_30 : decode cX10_pairsOf 30 = .ok (.invokevirtual 282, 3) := by decide +kernel
theorem dX10_pairsOf_33 : decode cX10_pairsOf 33 = .ok (.invokestatic 247, 3) := by decide +kernel
theorem dX10_pairsOf_36 : decode cX10_pairsOf 36 = .ok (.isub, 1) := by decide +kernel
theorem dX10_pairsOf_37 : decode cX10_pairsOf 37 = .ok (.invokestatic 160, 3) := by decide +kernel
theorem dX10_pairsOf_40 : decode cX10_pairsOf 40 = .ok (.istore_n 3, 1) := by decide +kernel
theorem dX10_pairsOf_41 : decode cX10_pairsOf 41 = .ok (.iinc 4 1, 3) := by decide +kernel
theorem dX10_pairsOf_44 : decode cX10_pairsOf 44 = .ok (.goto (-39), 3) := by decide +kernel
theorem dX10_pairsOf_47 : decode cX10_pairsOf 47 = .ok (.iload_n 1, 1) := by decide +kernel
theorem dX10_pairsOf_48 : decode cX10_pairsOf 48 = .ok (.invokestatic 247, 3) := by decide +kernel
theorem dX10_pairsOf_51 : decode cX10_pairsOf 51 = .ok (.iload_n 3, 1) := by decide +kernel
theorem dX10_pairsOf_52 : decode cX10_pairsOf 52 = .ok (.isub, 1) := by decide +kernel
theorem dX10_pairsOf_53 : decode cX10_pairsOf 53 = .ok (.ireturn, 1) := by decide +kernel
theorem dX10_pairs_0 : decode cX10_pairs 0 = .ok (.aload_n 0, 1) := by decide +kernel
theorem dX10_pairs_1 : decode cX10_pairs 1 = .ok (.iconst 0, 1) := by decide +kernel
theorem dX10_pairs_2 : decode cX10_pairs 2 = .ok (.putfield 92, 3) := by decide +kernel
theorem dX10_pairs_5 : decode cX10_pairs 5 = .ok (.aload_n 0, 1) := by decide +kernel
theorem dX10_pairs_6 : decode cX10_pairs 6 = .ok (.sipush 255, 3) := by decide +kernel
theorem dX10_pairs_9 : decode cX10_pairs 9 = .ok (.sipush 255, 3) := by decide +kernel
theorem dX10_pairs_12 : decode cX10_pairs 12 = .ok (.invokevirtual 285, 3) := by decide +kernel
theorem dX10_pairs_15 : decode cX10_pairs 15 = .ok (.ireturn, 1) := by decide +kernel
theorem dX10_pairOf_0 : decode cX10_pairOf 0 = .ok (.aload_n 0, 1) := by decide +kernel
theorem dX10_pairOf_1 : decode cX10_pairOf 1 = .ok (.iload_n 1, 1) := by decide +kernel
theorem dX10_pairOf_2 : decode cX10_pairOf 2 = .ok (.iconst 0, 1) := by decide +kernel
theorem dX10_pairOf_3 : decode cX10_pairOf 3 = .ok (.bipush 7, 2) := by decide +kernel
theorem dX10_pairOf_5 : decode cX10_pairOf 5 = .ok (.invokestatic 102, 3) := by decide +kernel
theorem dX10_pairOf_8 : decode cX10_pairOf 8 = .ok (.ifCond .ne 7, 3) := by decide +kernel
theorem dX10_pairOf_11 : decode cX10_pairOf 11 = .ok (.iconst 1, 1) := by decide +kernel
theorem dX10_pairOf_12 : decode cX10_pairOf 12 = .ok (.goto 4, 3) := by decide +kernel
theorem dX10_pairOf_15 : decode cX10_pairOf 15 = .ok (.iconst 0, 1) := by decide +kernel
theorem dX10_pairOf_16 : decode cX10_pairOf 16 = .ok (.putfield 92, 3) := by decide +kernel
theorem dX10_pairOf_19 : decode cX10_pairOf 19 = .ok (.aload_n 0, 1) := by decide +kernel
theorem dX10_pairOf_20 : decode cX10_pairOf 20 = .ok (.getfield 92, 3) := by decide +kernel
theorem dX10_pairOf_23 : decode cX10_pairOf 23 = .ok (.ifCond .le 5, 3) := by decide +kernel
theorem dX10_pairOf_26 : decode cX10_pairOf 26 = .ok (.iconst 0, 1) := by decide +kernel
theorem dX10_pairOf_27 : decode cX10_pairOf 27 = .ok (.ireturn, 1) := by decide +kernel
theorem dX10_pairOf_28 : decode cX10_pairOf 28 = .ok (.aload_n 0, 1) := by decide +kernel
theorem dX10_pairOf_29 : decode cX10_pairOf 29 = .ok (.sipush 255, 3) := by decide +kernel
theorem dX10_pairOf_32 : decode cX10_pairOf 32 = .ok (.sipush 255, 3) := by decide +kernel
theorem dX10_pairOf_35 : decode cX10_pairOf 35 = .ok (.invokevirtual 285, 3) := by decide +kernel
theorem dX10_pairOf_38 : decode cX10_pairOf 38 = .ok (.istore_n 2, 1) := by decide +kernel
theorem dX10_pairOf_39 : decode cX10_pairOf 39 = .ok (.sipush 255, 3) := by decide +kernel
theorem dX10_pairOf_42 : decode cX10_pairOf 42 = .ok (.istore_n 3, 1) := by decide +kernel
theorem dX10_pairOf_43 : decode cX10_pairOf 43 = .ok (.iconst 0, 1) := by decide +kernel
theorem dX10_pairOf_44 : decode cX10_pairOf 44 = .ok (.istore 4, 2) := by decide +kernel
theorem dX10_pairOf_46 : decode cX10_pairOf 46 = .ok (.bipush 8, 2) := by decide +kernel
theorem dX10_pairOf_48 : decode cX10_pairOf 48 = .ok (.istore 5, 2) := by decide +kernel
theorem dX10_pairOf_50 : decode cX10_pairOf 50 = .ok (.iconst 0, 1) := by decide +kernel
theorem dX10_pairOf_51 : decode cX10_pairOf 51 = .ok (.istore 6, 2) := by decide +kernel
theorem dX10_pairOf_53 : decode cX10_pairOf 53 = .ok (.iload 6, 2) := by decide +kernel
theorem dX10_pairOf_55 : decode cX10_pairOf 55 = .ok (.iload_n 1, 1) := by decide +kernel
theorem dX10_pairOf_56 : decode cX10_pairOf 56 = .ok (.if_icmp .gt 118, 3) := by decide +kernel
theorem dX10_pairOf_59 : decode cX10_pairOf 59 = .ok (.sipush 255, 3) := by decide +kernel
theorem dX10_pairOf_62 : decode cX10_pairOf 62 = .ok (.iconst 2, 1) := by decide +kernel
theorem dX10_pairOf_63 : decode cX10_pairOf 63 = .ok (.iload 6, 2) := by decide +kernel
theorem dX10_pairOf_65 : decode cX10_pairOf 65 = .ok (.ishl, 1) := by decide +kernel
theorem dX10_pairOf_66 : decode cX10_pairOf 66 = .ok (.iconst 1, 1) := by decide +kernel
theorem dX10_pairOf_67 : decode cX10_pairOf 67 = .ok (.isub, 1) := by decide +kernel
theorem dX10_pairOf_68 : decode cX10_pairOf 68 = .ok (.iconst (-1), 1) := by decide +kernel
theorem dX10_pairOf_69 : decode cX10_pairOf 69 = .ok (.ixor, 1) := by decide +kernel
theorem dX10_pairOf_70 : decode cX10_pairOf 70 = .ok (.iand, 1) := by decide +kernel
theorem dX10_pairOf_71 : decode cX10_pairOf 71 = .ok (.istore 7, 2) := by decide +kernel
theorem dX10_pairOf_73 : decode cX10_pairOf 73 = .ok (.iconst 0, 1) := by decide +kernel
theorem dX10_pairOf_74 : decode cX10_pairOf 74 = .ok (.istore 5, 2) := by decide +kernel
theorem dX10_pairOf_76 : decode cX10_pairOf 76 = .ok (.iload 5, 2) := by decide +kernel
theorem dX10_pairOf_78 : decode cX10_pairOf 78 = .ok (.bipush 8, 2) := by decide +kernel
theorem dX10_pairOf_80 : decode cX10_pairOf 80 = .ok (.if_icmp .ge 49, 3) := by decide +kernel
theorem dX10_pairOf_83 : decode cX10_pairOf 83 = .ok (.aload_n 0, 1) := by decide +kernel
theorem dX10_pairOf_84 : decode cX10_pairOf 84 = .ok (.getfield 34, 3) := by decide +kernel
theorem dX10_pairOf_87 : decode cX10_pairOf 87 = .ok (.iload 6, 2) := by decide +kernel
theorem dX10_pairOf_89 : decode cX10_pairOf 89 = .ok (.iaload, 1) := by decide +kernel
theorem dX10_pairOf_90 : decode cX10_pairOf 90 = .ok (.iload_n 3, 1) := by decide +kernel
theorem dX10_pairOf_91 : decode cX10_pairOf 91 = .ok (.iand, 1) := by decide +kernel
theorem dX10_pairOf_92 : decode cX10_pairOf 92 = .ok (.iload 5, 2) := by decide +kernel
theorem dX10_pairOf_94 : decode cX10_pairOf 94 = .ok (.invokestatic 95, 3) := by decide +kernel
theorem dX10_pairOf_97 : decode cX10_pairOf 97 = .ok (.ifCond .eq 26, 3) := by decide +kernel
theorem dX10_pairOf_100 : decode cX10_pairOf 100 = .ok (.iload 4, 2) := by decide +kernel
theorem dX10_pairOf_102 : decode cX10_pairOf 102 = .ok (.iconst 1, 1) := by decide +kernel
theorem dX10_pairOf_103 : decode cX10_pairOf 103 = .ok (.iadd, 1) := by decide +kernel
theorem dX10_pairOf_104 : decode cX10_pairOf 104 = .ok (.aload_n 0, 1) := by decide +kernel
theorem dX10_pairOf_105 : decode cX10_pairOf 105 = .ok (.iload 7, 2) := by decide +kernel
theorem dX10_pairOf_107 : decode cX10_pairOf 107 = .ok (.iload_n 3, 1) := by decide +kernel
theorem dX10_pairOf_108 : decode cX10_pairOf 108 = .ok (.iconst 1, 1) := by decide +kernel
theorem dX10_pairOf_109 : decode cX10_pairOf 109 = .ok (.iload 5, 2) := by decide +kernel
theorem dX10_pairOf_111 : decode cX10_pairOf 111 = .ok (.ishl, 1) := by decide +kernel
theorem dX10_pairOf_112 : decode cX10_pairOf 112 = .ok (.iconst (-1), 1) := by decide +kernel
theorem dX10_pairOf_113 : decode cX10_pairOf 113 = .ok (.ixor, 1) := by decide +kernel
theorem dX10_pairOf_114 : decode cX10_pairOf 114 = .ok (.iand, 1) := by decide +kernel
theorem dX10_pairOf_115 : decode cX10_pairOf 115 = .ok (.invokevirtual 285, 3) := by decide +kernel
theorem dX10_pairOf_118 : decode cX10_pairOf 118 = .ok (.iadd, 1) := by decide +kernel
theorem dX10_pairOf_119 : decode cX10_pairOf 119 = .ok (.iload_n 2, 1) := by decide +kernel
theorem dX10_pairOf_120 : decode cX10_pairOf 120 = .ok (.if_icmp .eq 9, 3) := by decide +kernel
theorem dX10_pairOf_123 : decode cX10_pairOf 123 = .ok (.iinc 5 1, 3) := by decide +kernel
theorem dX10_pairOf_126 : decode cX10_pairOf 126 = .ok (.goto (-50), 3) := by decide +kernel
theorem dX10_pairOf_129 : decode cX10_pairOf 129 = .ok (.iload 4, 2) := by decide +kernel
theorem dX10_pairOf_131 : decode cX10_pairOf 131 = .ok (.iload 5, 2) := by decide +kernel
theorem dX10_pairOf_133 : decode cX10_pairOf 133 = .ok (.bipush 8, 2) := by decide +kernel
theorem dX10_pairOf_135 : decode cX10_pairOf 135 = .ok (.if_icmp .ge 7, 3) := by decide +kernel
theorem dX10_pairOf_138 : decode cX10_pairOf 138 = .ok (.iconst 1, 1) := by decide +kernel
theorem dX10_pairOf_139 : decode cX10_pairOf 139 = .ok (.goto 4, 3) := by decide +kernel
theorem dX10_pairOf_142 : decode cX10_pairOf 142 = .ok (.iconst 0, 1) := by decide +kernel
theorem dX10_pairOf_143 : decode cX10_pairOf 143 = .ok (.iadd, 1) := by decide +kernel
theorem dX10_pairOf_144 : decode cX10_pairOf 144 = .ok (.istore 4, 2) := by decide +kernel
theorem dX10_pairOf_146 : decode cX10_pairOf 146 = .ok (.iload_n 3, 1) := by decide +kernel
theorem dX10_pairOf_147 : decode cX10_pairOf 147 = .ok (.iload 5, 2) := by decide +kernel
theorem dX10_pairOf_149 : decode cX10_pairOf 149 = .ok (.bipush 8, 2) := by decide +kernel
theorem dX10_pairOf_151 : decode cX10_pairOf 151 = .ok (.if_icmp .ge 12, 3) := by decide +kernel
theorem dX10_pairOf_154 : decode cX10_pairOf 154 = .ok (.iconst 1, 1) := by decide +kernel
theorem dX10_pairOf_155 : decode cX10_pairOf 155 = .ok (.iload 5, 2) := by decide +kernel
theorem dX10_pairOf_157 : decode cX10_pairOf 157 = .ok (.ishl, 1) := by decide +kernel
theorem dX10_pairOf_158 : decode cX10_pairOf 158 = .ok (.iconst (-1), 1) := by decide +kernel
theorem dX10_pairOf_159 : decode cX10_pairOf 159 = .ok (.ixor, 1) := by decide +kernel
theorem dX10_pairOf_160 : decode cX10_pairOf 160 = .ok (.goto 6, 3) := by decide +kernel
theorem dX10_pairOf_163 : decode cX10_pairOf 163 = .ok (.sipush 255, 3) := by decide +kernel
theorem dX10_pairOf_166 : decode cX10_pairOf 166 = .ok (.iand, 1) := by decide +kernel
theorem dX10_pairOf_167 : decode cX10_pairOf 167 = .ok (.istore_n 3, 1) := by decide +kernel
theorem dX10_pairOf_168 : decode cX10_pairOf 168 = .ok (.iinc 6 1, 3) := by decide +kernel
theorem dX10_pairOf_171 : decode cX10_pairOf 171 = .ok (.goto (-118), 3) := by decide +kernel
theorem dX10_pairOf_174 : decode cX10_pairOf 174 = .ok (.aload_n 0, 1) := by decide +kernel
theorem dX10_pairOf_175 : decode cX10_pairOf 175 = .ok (.iload 5, 2) := by decide +kernel
theorem dX10_pairOf_177 : decode cX10_pairOf 177 = .ok (.bipush 8, 2) := by decide +kernel
theorem dX10_pairOf_179 : decode cX10_pairOf 179 = .ok (.if_icmp .ne 7, 3) := by decide +kernel
theorem dX10_pairOf_182 : decode cX10_pairOf 182 = .ok (.iconst 2, 1) := by decide +kernel
theorem dX10_pairOf_183 : decode cX10_pairOf 183 = .ok (.goto 4, 3) := by decide +kernel
theorem dX10_pairOf_186 : decode cX10_pairOf 186 = .ok (.iconst 0, 1) := by decide +kernel
theorem dX10_pairOf_187 : decode cX10_pairOf 187 = .ok (.putfield 92, 3) := by decide +kernel
theorem dX10_pairOf_190 : decode cX10_pairOf 190 = .ok (.aload_n 0, 1) := by decide +kernel
theorem dX10_pairOf_191 : decode cX10_pairOf 191 = .ok (.getfield 92, 3) := by decide +kernel
theorem dX10_pairOf_194 : decode cX10_pairOf 194 = .ok (.ifCond .le 7, 3) := by decide +kernel
theorem dX10_pairOf_197 : decode cX10_pairOf 197 = .ok (.iconst 0, 1) := by decide +kernel
theorem dX10_pairOf_198 : decode cX10_pairOf 198 = .ok (.goto 5, 3) := by decide +kernel
theorem dX10_pairOf_201 : decode cX10_pairOf 201 = .ok (.iload 5, 2) := by decide +kernel
theorem dX10_pairOf_203 : decode cX10_pairOf 203 = .ok (.ireturn, 1) := by decide +kernel
theorem dX10_cover_0 : decode cX10_cover 0 = .ok (.aload_n 0, 1) := by decide +kernel
theorem dX10_cover_1 : decode cX10_cover 1 = .ok (.iconst 0, 1) := by decide +kernel
theorem dX10_cover_2 : decode cX10_cover 2 = .ok (.putfield 92, 3) := by decide +kernel
theorem dX10_cover_5 : decode cX10_cover 5 = .ok (.aload_n 0, 1) := by decide +kernel
theorem dX10_cover_6 : decode cX10_cover 6 = .ok (.sipush 255, 3) := by decide +kernel
theorem dX10_cover_9 : decode cX10_cover 9 = .ok (.sipush 255, 3) := by decide +kernel
theorem dX10_cover_12 : decode cX10_cover 12 = .ok (.invokevirtual 285, 3) := by decide +kernel
theorem dX10_cover_15 : decode cX10_cover 15 = .ok (.istore_n 2, 1) := by decide +kernel
theorem dX10_cover_16 : decode cX10_cover 16 = .ok (.iconst 0, 1) := by decide +kernel
theorem dX10_cover_17 : decode cX10_cover 17 = .ok (.istore_n 3, 1) := by decide +kernel
theorem dX10_cover_18 : decode cX10_cover 18 = .ok (.iload_n 3, 1) := by decide +kernel
theorem dX10_cover_19 : decode cX10_cover 19 = .ok (.invokestatic 247, 3) := by decide +kernel
theorem dX10_cover_22 : decode cX10_cover 22 = .ok (.aload_n 0, 1) := by decide +kernel
theorem dX10_cover_23 : decode cX10_cover 23 = .ok (.sipush 255, 3) := by decide +kernel
theorem dX10_cover_26 : decode cX10_cover 26 = .ok (.iload_n 3, 1) := by decide +kernel
theorem dX10_cover_27 : decode cX10_cover 27 = .ok (.iconst (-1), 1) := by decide +kernel
theorem dX10_cover_28 : decode cX10_cover 28 = .ok (.ixor, 1) := by decide +kernel
theorem dX10_cover_29 : decode cX10_cover 29 = .ok (.iand, 1) := by decide +kernel
theorem dX10_cover_30 : decode cX10_cover 30 = .ok (.sipush 255, 3) := by decide +kernel
theorem dX10_cover_33 : decode cX10_cover 33 = .ok (.invokevirtual 282, 3) := by decide +kernel
theorem dX10_cover_36 : decode cX10_cover 36 = .ok (.invokestatic 247, 3) := by decide +kernel
theorem dX10_cover_39 : decode cX10_cover 39 = .ok (.iadd, 1) := by decide +kernel
theorem dX10_cover_40 : decode cX10_cover 40 = .ok (.iload_n 2, 1) := by decide +kernel
theorem dX10_cover_41 : decode cX10_cover 41 = .ok (.if_icmp .eq 9, 3) := by decide +kernel
theorem dX10_cover_44 : decode cX10_cover 44 = .ok (.iinc 3 1, 3) := by decide +kernel
theorem dX10_cover_47 : decode cX10_cover 47 = .ok (.goto (-29), 3) := by decide +kernel
theorem dX10_cover_50 : decode cX10_cover 50 = .ok (.iload_n 1, 1) := by decide +kernel
theorem dX10_cover_51 : decode cX10_cover 51 = .ok (.ifCond .eq 7, 3) := by decide +kernel
theorem dX10_cover_54 : decode cX10_cover 54 = .ok (.iload_n 3, 1) := by decide +kernel
theorem dX10_cover_55 : decode cX10_cover 55 = .ok (.goto 17, 3) := by decide +kernel
theorem dX10_cover_58 : decode cX10_cover 58 = .ok (.aload_n 0, 1) := by decide +kernel
theorem dX10_cover_59 : decode cX10_cover 59 = .ok (.sipush 255, 3) := by decide +kernel
theorem dX10_cover_62 : decode cX10_cover 62 = .ok (.iload_n 3, 1) := by decide +kernel
theorem dX10_cover_63 : decode cX10_cover 63 = .ok (.iconst (-1), 1) := by decide +kernel
theorem dX10_cover_64 : decode cX10_cover 64 = .ok (.ixor, 1) := by decide +kernel
theorem dX10_cover_65 : decode cX10_cover 65 = .ok (.iand, 1) := by decide +kernel
theorem dX10_cover_66 : decode cX10_cover 66 = .ok (.sipush 255, 3) := by decide +kernel
theorem dX10_cover_69 : decode cX10_cover 69 = .ok (.invokevirtual 282, 3) := by decide +kernel
theorem dX10_cover_72 : decode cX10_cover 72 = .ok (.ireturn, 1) := by decide +kernel
theorem dX10_crowdOfLeft_0 : decode cX10_crowdOfLeft 0 = .ok (.bipush 8, 2) := by decide +kernel
theorem dX10_crowdOfLeft_2 : decode cX10_crowdOfLeft 2 = .ok (.aload_n 0, 1) := by decide +kernel
theorem dX10_crowdOfLeft_3 : decode cX10_crowdOfLeft 3 = .ok (.sipush 255, 3) := by decide +kernel
theorem dX10_crowdOfLeft_6 : decode cX10_crowdOfLeft 6 = .ok (.sipush 255, 3) := by decide +kernel
theorem dX10_crowdOfLeft_9 : decode cX10_crowdOfLeft 9 = .ok (.invokevirtual 285, 3) := by decide +kernel
theorem dX10_crowdOfLeft_12 : decode cX10_crowdOfLeft 12 = .ok (.isub, 1) := by decide +kernel
theorem dX10_crowdOfLeft_13 : decode cX10_crowdOfLeft 13 = .ok (.istore_n 1, 1) := by decide +kernel
theorem dX10_crowdOfLeft_14 : decode cX10_crowdOfLeft 14 = .ok (.aload_n 0, 1) := by decide +kernel
theorem dX10_crowdOfLeft_15 : decode cX10_crowdOfLeft 15 = .ok (.iload_n 1, 1) := by decide +kernel
theorem dX10_crowdOfLeft_16 : decode cX10_crowdOfLeft 16 = .ok (.ifCond .ne 7, 3) := by decide +kernel
theorem dX10_crowdOfLeft_19 : decode cX10_crowdOfLeft 19 = .ok (.iconst 1, 1) := by decide +kernel
theorem dX10_crowdOfLeft_20 : decode cX10_crowdOfLeft 20 = .ok (.goto 4, 3) := by decide +kernel
theorem dX10_crowdOfLeft_23 : decode cX10_crowdOfLeft 23 = .ok (.iconst 0, 1) := by decide +kernel
theorem dX10_crowdOfLeft_24 : decode cX10_crowdOfLeft 24 = .ok (.putfield 92, 3) := by decide +kernel
theorem dX10_crowdOfLeft_27 : decode cX10_crowdOfLeft 27 = .ok (.sipush 255, 3) := by decide +kernel
theorem dX10_crowdOfLeft_30 : decode cX10_crowdOfLeft 30 = .ok (.istore_n 2, 1) := by decide +kernel
theorem dX10_crowdOfLeft_31 : decode cX10_crowdOfLeft 31 = .ok (.iconst 0, 1) := by decide +kernel
theorem dX10_crowdOfLeft_32 : decode cX10_crowdOfLeft 32 = .ok (.istore_n 3, 1) := by decide +kernel
theorem dX10_crowdOfLeft_33 : decode cX10_crowdOfLeft 33 = .ok (.aload_n 0, 1) := by decide +kernel
theorem dX10_crowdOfLeft_34 : decode cX10_crowdOfLeft 34 = .ok (.getfield 92, 3) := by decide +kernel
theorem dX10_crowdOfLeft_37 : decode cX10_crowdOfLeft 37 = .ok (.ifCond .ne 44, 3) := by decide +kernel
theorem dX10_crowdOfLeft_40 : decode cX10_crowdOfLeft 40 = .ok (.iload_n 3, 1) := by decide +kernel
theorem dX10_crowdOfLeft_41 : decode cX10_crowdOfLeft 41 = .ok (.sipush 256, 3) := by decide +kernel
theorem dX10_crowdOfLeft_44 : decode cX10_crowdOfLeft 44 = .ok (.if_icmp .ge 37, 3) := by decide +kernel
theorem dX10_crowdOfLeft_47 : decode cX10_crowdOfLeft 47 = .ok (.iload_n 3, 1) := by decide +kernel
theorem dX10_crowdOfLeft_48 : decode cX10_crowdOfLeft 48 = .ok (.invokestatic 247, 3) := by decide +kernel
theorem dX10_crowdOfLeft_51 : decode cX10_crowdOfLeft 51 = .ok (.aload_n 0, 1) := by decide +kernel
theorem dX10_crowdOfLeft_52 : decode cX10_crowdOfLeft 52 = .ok (.iload_n 3, 1) := by decide +kernel
theorem dX10_crowdOfLeft_53 : decode cX10_crowdOfLeft 53 = .ok (.sipush 255, 3) := by decide +kernel
theorem dX10_crowdOfLeft_56 : decode cX10_crowdOfLeft 56 = .ok (.invokevirtual 282, 3) := by decide +kernel
theorem dX10_crowdOfLeft_59 : decode cX10_crowdOfLeft 59 = .ok (.invokestatic 247, 3) := by decide +kernel
theorem dX10_crowdOfLeft_62 : decode cX10_crowdOfLeft 62 = .ok (.isub, 1) := by decide +kernel
theorem dX10_crowdOfLeft_63 : decode cX10_crowdOfLeft 63 = .ok (.iload_n 1, 1) := by decide +kernel
theorem dX10_crowdOfLeft_64 : decode cX10_crowdOfLeft 64 = .ok (.if_icmp .ne 9, 3) := by decide +kernel
theorem dX10_crowdOfLeft_67 : decode cX10_crowdOfLeft 67 = .ok (.iload_n 2, 1) := by decide +kernel
theorem dX10_crowdOfLeft_68 : decode cX10_crowdOfLeft 68 = .ok (.iload_n 3, 1) := by decide +kernel
theorem dX10_crowdOfLeft_69 : decode cX10_crowdOfLeft 69 = .ok (.iand, 1) := by decide +kernel
theorem dX10_crowdOfLeft_70 : decode cX10_crowdOfLeft 70 = .ok (.goto 4, 3) := by decide +kernel
theorem dX10_crowdOfLeft_73 : decode cX10_crowdOfLeft 73 = .ok (.iload_n 2, 1) := by decide +kernel
theorem dX10_crowdOfLeft_74 : decode cX10_crowdOfLeft 74 = .ok (.istore_n 2, 1) := by decide +kernel
theorem dX10_crowdOfLeft_75 : decode cX10_crowdOfLeft 75 = .ok (.iinc 3 1, 3) := by decide +kernel
theorem dX10_crowdOfLeft_78 : decode cX10_crowdOfLeft 78 = .ok (.goto (-45), 3) := by decide +kernel
theorem dX10_crowdOfLeft_81 : decode cX10_crowdOfLeft 81 = .ok (.aload_n 0, 1) := by decide +kernel
theorem dX10_crowdOfLeft_82 : decode cX10_crowdOfLeft 82 = .ok (.getfield 92, 3) := by decide +kernel
theorem dX10_crowdOfLeft_85 : decode cX10_crowdOfLeft 85 = .ok (.ifCond .le 7, 3) := by decide +kernel
theorem dX10_crowdOfLeft_88 : decode cX10_crowdOfLeft 88 = .ok (.iconst 0, 1) := by decide +kernel
theorem dX10_crowdOfLeft_89 : decode cX10_crowdOfLeft 89 = .ok (.goto 4, 3) := by decide +kernel
theorem dX10_crowdOfLeft_92 : decode cX10_crowdOfLeft 92 = .ok (.iload_n 2, 1) := by decide +kernel
theorem dX10_crowdOfLeft_93 : decode cX10_crowdOfLeft 93 = .ok (.ireturn, 1) := by decide +kernel
theorem dX10_team_0 : decode cX10_team 0 = .ok (.aload_n 0, 1) := by decide +kernel
theorem dX10_team_1 : decode cX10_team 1 = .ok (.iload_n 1, 1) := by decide +kernel
theorem dX10_team_2 : decode cX10_team 2 = .ok (.iconst 0, 1) := by decide +kernel
theorem dX10_team_3 : decode cX10_team 3 = .ok (.bipush 99, 2) := by decide +kernel
theorem dX10_team_5 : decode cX10_team 5 = .ok (.invokestatic 102, 3) := by decide +kernel
theorem dX10_team_8 : decode cX10_team 8 = .ok (.ifCond .ne 7, 3) := by decide +kernel
theorem dX10_team_11 : decode cX10_team 11 = .ok (.iconst 1, 1) := by decide +kernel
theorem dX10_team_12 : decode cX10_team 12 = .ok (.goto 17, 3) := by decide +kernel
theorem dX10_team_15 : decode cX10_team 15 = .ok (.aload_n 0, 1) := by decide +kernel
theorem dX10_team_16 : decode cX10_team 16 = .ok (.getfield 288, 3) := by decide +kernel
theorem dX10_team_19 : decode cX10_team 19 = .ok (.bipush 6, 2) := by decide +kernel
theorem dX10_team_21 : decode cX10_team 21 = .ok (.if_icmp .ne 7, 3) := by decide +kernel
theorem dX10_team_24 : decode cX10_team 24 = .ok (.iconst 2, 1) := by decide +kernel
theorem dX10_team_25 : decode cX10_team 25 = .ok (.goto 4, 3) := by decide +kernel
theorem dX10_team_28 : decode cX10_team 28 = .ok (.iconst 0, 1) := by decide +kernel
theorem dX10_team_29 : decode cX10_team 29 = .ok (.putfield 92, 3) := by decide +kernel
theorem dX10_team_32 : decode cX10_team 32 = .ok (.aload_n 0, 1) := by decide +kernel
theorem dX10_team_33 : decode cX10_team 33 = .ok (.getfield 92, 3) := by decide +kernel
theorem dX10_team_36 : decode cX10_team 36 = .ok (.ifCond .le 5, 3) := by decide +kernel
theorem dX10_team_39 : decode cX10_team 39 = .ok (.iconst 0, 1) := by decide +kernel
theorem dX10_team_40 : decode cX10_team 40 = .ok (.ireturn, 1) := by decide +kernel
theorem dX10_team_41 : decode cX10_team 41 = .ok (.aload_n 0, 1) := by decide +kernel
theorem dX10_team_42 : decode cX10_team 42 = .ok (.getfield 37, 3) := by decide +kernel
theorem dX10_team_45 : decode cX10_team 45 = .ok (.aload_n 0, 1) := by decide +kernel
theorem dX10_team_46 : decode cX10_team 46 = .ok (.getfield 288, 3) := by decide +kernel
theorem dX10_team_49 : decode cX10_team 49 = .ok (.iload_n 1, 1) := by decide +kernel
theorem dX10_team_50 : decode cX10_team 50 = .ok (.iastore, 1) := by decide +kernel
theorem dX10_team_51 : decode cX10_team 51 = .ok (.aload_n 0, 1) := by decide +kernel
theorem dX10_team_52 : decode cX10_team 52 = .ok (.dup, 1) := by decide +kernel
theorem dX10_team_53 : decode cX10_team 53 = .ok (.getfield 288, 3) := by decide +kernel
theorem dX10_team_56 : decode cX10_team 56 = .ok (.iconst 1, 1) := by decide +kernel
theorem dX10_team_57 : decode cX10_team 57 = .ok (.iadd, 1) := by decide +kernel
theorem dX10_team_58 : decode cX10_team 58 = .ok (.putfield 288, 3) := by decide +kernel
theorem dX10_team_61 : decode cX10_team 61 = .ok (.aload_n 0, 1) := by decide +kernel
theorem dX10_team_62 : decode cX10_team 62 = .ok (.getfield 288, 3) := by decide +kernel
theorem dX10_team_65 : decode cX10_team 65 = .ok (.iconst 1, 1) := by decide +kernel
theorem dX10_team_66 : decode cX10_team 66 = .ok (.isub, 1) := by decide +kernel
theorem dX10_team_67 : decode cX10_team 67 = .ok (.ireturn, 1) := by decide +kernel
theorem dX10_games_0 : decode cX10_games 0 = .ok (.aload_n 0, 1) := by decide +kernel
theorem dX10_games_1 : decode cX10_games 1 = .ok (.iload_n 1, 1) := by decide +kernel
theorem dX10_games_2 : decode cX10_games 2 = .ok (.iconst 0, 1) := by decide +kernel
theorem dX10_games_3 : decode cX10_games 3 = .ok (.aload_n 0, 1) := by decide +kernel
theorem dX10_games_4 : decode cX10_games 4 = .ok (.getfield 288, 3) := by decide +kernel
theorem dX10_games_7 : decode cX10_games 7 = .ok (.iconst 1, 1) := by decide +kernel
theorem dX10_games_8 : decode cX10_games 8 = .ok (.isub, 1) := by decide +kernel
theorem dX10_games_9 : decode cX10_games 9 = .ok (.invokestatic 102, 3) := by decide +kernel
theorem dX10_games_12 : decode cX10_games 12 = .ok (.ifCond .eq 17, 3) := by decide +kernel
theorem dX10_games_15 : decode cX10_games 15 = .ok (.iload_n 2, 1) := by decide +kernel
theorem dX10_games_16 : decode cX10_games 16 = .ok (.iconst 0, 1) := by decide +kernel
theorem dX10_games_17 : decode cX10_games 17 = .ok (.aload_n 0, 1) := by decide +kernel
theorem dX10_games_18 : decode cX10_games 18 = .ok (.getfield 288, 3) := by decide +kernel
theorem dX10_games_21 : decode cX10_games 21 = .ok (.iconst 1, 1) := by decide +kernel
theorem dX10_games_22 : decode cX10_games 22 = .ok (.isub, 1) := by decide +kernel
theorem dX10_games_23 : decode cX10_games 23 = .ok (.invokestatic 102, 3) := by decide +kernel
theorem dX10_games_26 : decode cX10_games 26 = .ok (.ifCond .ne 7, 3) := by decide +kernel
theorem dX10_games_29 : decode cX10_games 29 = .ok (.iconst 1, 1) := by decide +kernel
theorem dX10_games_30 : decode cX10_games 30 = .ok (.goto 23, 3) := by decide +kernel
theorem dX10_games_33 : decode cX10_games 33 = .ok (.iload_n 1, 1) := by decide +kernel
theorem dX10_games_34 : decode cX10_games 34 = .ok (.iload_n 2, 1) := by decide +kernel
theorem dX10_games_35 : decode cX10_games 35 = .ok (.if_icmp .eq 13, 3) := by decide +kernel
theorem dX10_games_38 : decode cX10_games 38 = .ok (.iload_n 3, 1) := by decide +kernel
theorem dX10_games_39 : decode cX10_games 39 = .ok (.iconst 0, 1) := by decide +kernel
theorem dX10_games_40 : decode cX10_games 40 = .ok (.bipush 9, 2) := by decide +kernel
theorem dX10_games_42 : decode cX10_games 42 = .ok (.invokestatic 102, 3) := by decide +kernel
theorem dX10_games_45 : decode cX10_games 45 = .ok (.ifCond .ne 7, 3) := by decide +kernel
theorem dX10_games_48 : decode cX10_games 48 = .ok (.iconst 2, 1) := by decide +kernel
theorem dX10_games_49 : decode cX10_games 49 = .ok (.goto 4, 3) := by decide +kernel
theorem dX10_games_52 : decode cX10_games 52 = .ok (.iconst 0, 1) := by decide +kernel
theorem dX10_games_53 : decode cX10_games 53 = .ok (.putfield 92, 3) := by decide +kernel
theorem dX10_games_56 : decode cX10_games 56 = .ok (.aload_n 0, 1) := by decide +kernel
theorem dX10_games_57 : decode cX10_games 57 = .ok (.getfield 92, 3) := by decide +kernel
theorem dX10_games_60 : decode cX10_games 60 = .ok (.ifCond .le 5, 3) := by decide +kernel
theorem dX10_games_63 : decode cX10_games 63 = .ok (.iconst 0, 1) := by decide +kernel
theorem dX10_games_64 : decode cX10_games 64 = .ok (.ireturn, 1) := by decide +kernel
theorem dX10_games_65 : decode cX10_games 65 = .ok (.aload_n 0, 1) := by decide +kernel
theorem dX10_games_66 : decode cX10_games 66 = .ok (.getfield 40, 3) := by decide +kernel
theorem dX10_games_69 : decode cX10_games 69 = .ok (.bipush 6, 2) := by decide +kernel
theorem dX10_games_71 : decode cX10_games 71 = .ok (.iload_n 1, 1) := by decide +kernel
theorem dX10_games_72 : decode cX10_games 72 = .ok (.imul, 1) := by decide +kernel
theorem dX10_games_73 : decode cX10_games 73 = .ok (.iload_n 2, 1) := by decide +kernel
theorem dX10_games_74 : decode cX10_games 74 = .ok (.iadd, 1) := by decide +kernel
theorem dX10_games_75 : decode cX10_games 75 = .ok (.iaload, 1) := by decide +kernel
theorem dX10_games_76 : decode cX10_games 76 = .ok (.istore 4, 2) := by decide +kernel
theorem dX10_games_78 : decode cX10_games 78 = .ok (.aload_n 0, 1) := by decide +kernel
theorem dX10_games_79 : decode cX10_games 79 = .ok (.getfield 40, 3) := by decide +kernel
theorem dX10_games_82 : decode cX10_games 82 = .ok (.bipush 6, 2) := by decide +kernel
theorem dX10_games_84 : decode cX10_games 84 = .ok (.iload_n 1, 1) := by decide +kernel
theorem dX10_games_85 : decode cX10_games 85 = .ok (.imul, 1) := by decide +kernel
theorem dX10_games_86 : decode cX10_games 86 = .ok (.iload_n 2, 1) := by decide +kernel
theorem dX10_games_87 : decode cX10_games 87 = .ok (.iadd, 1) := by decide +kernel
theorem dX10_games_88 : decode cX10_games 88 = .ok (.iload_n 3, 1) := by decide +kernel
theorem dX10_games_89 : decode cX10_games 89 = .ok (.iastore, 1) := by decide +kernel
theorem dX10_games_90 : decode cX10_games 90 = .ok (.aload_n 0, 1) := by decide +kernel
theorem dX10_games_91 : decode cX10_games 91 = .ok (.getfield 40, 3) := by decide +kernel
theorem dX10_games_94 : decode cX10_games 94 = .ok (.bipush 6, 2) := by decide +kernel
theorem dX10_games_96 : decode cX10_games 96 = .ok (.iload_n 2, 1) := by decide +kernel
theorem dX10_games_97 : decode cX10_games 97 = .ok (.imul, 1) := by decide +kernel
theorem dX10_games_98 : decode cX10_games 98 = .ok (.iload_n 1, 1) := by decide +kernel
theorem dX10_games_99 : decode cX10_games 99 = .ok (.iadd, 1) := by decide +kernel
theorem dX10_games_100 : decode cX10_games 100 = .ok (.iload_n 3, 1) := by decide +kernel
theorem dX10_games_101 : decode cX10_games 101 = .ok (.iastore, 1) := by decide +kernel
theorem dX10_games_102 : decode cX10_games 102 = .ok (.iload 4, 2) := by decide +kernel
theorem dX10_games_104 : decode cX10_games 104 = .ok (.ireturn, 1) := by decide +kernel
theorem dX10_winsOf_0 : decode cX10_winsOf 0 = .ok (.iconst 0, 1) := by decide +kernel
theorem dX10_winsOf_1 : decode cX10_winsOf 1 = .ok (.istore_n 2, 1) := by decide +kernel
theorem dX10_winsOf_2 : decode cX10_winsOf 2 = .ok (.iconst 0, 1) := by decide +kernel
theorem dX10_winsOf_3 : decode cX10_winsOf 3 = .ok (.istore_n 3, 1) := by decide +kernel
theorem dX10_winsOf_4 : decode cX10_winsOf 4 = .ok (.iload_n 3, 1) := by decide +kernel
theorem dX10_winsOf_5 : decode cX10_winsOf 5 = .ok (.aload_n 0, 1) := by decide +kernel
theorem dX10_winsOf_6 : decode cX10_winsOf 6 = .ok (.getfield 288, 3) := by decide +kernel
theorem dX10_winsOf_9 : decode cX10_winsOf 9 = .ok (.if_icmp .ge 81, 3) := by decide +kernel
theorem dX10_winsOf_12 : decode cX10_winsOf 12 = .ok (.iload_n 2, 1) := by decide +kernel
theorem dX10_winsOf_13 : decode cX10_winsOf 13 = .ok (.iload_n 1, 1) := by decide +kernel
theorem dX10_winsOf_14 : decode cX10_winsOf 14 = .ok (.iload_n 3, 1) := by decide +kernel
theorem dX10_winsOf_15 : decode cX10_winsOf 15 = .ok (.invokestatic 95, 3) := by decide +kernel
theorem dX10_winsOf_18 : decode cX10_winsOf 18 = .ok (.ifCond .eq 12, 3) := by decide +kernel
theorem dX10_winsOf_21 : decode cX10_winsOf 21 = .ok (.aload_n 0, 1) := by decide +kernel
theorem dX10_winsOf_22 : decode cX10_winsOf 22 = .ok (.getfield 37, 3) := by decide +kernel
theorem dX10_winsOf_25 : decode cX10_winsOf 25 = .ok (.iload_n 3, 1) := by decide +kernel
theorem dX10_winsOf_26 : decode cX10_winsOf 26 = .ok (.iaload, 1) := by decide +kernel
theorem dX10_winsOf_27 : decode cX10_winsOf 27 = .ok (.goto 4, 3) := by decide +kernel
theorem dX10_winsOf_30 : decode cX10_winsOf 30 = .ok (.iconst 0, 1) := by decide +kernel
theorem dX10_winsOf_31 : decode cX10_winsOf 31 = .ok (.iadd, 1) := by decide +kernel
theorem dX10_winsOf_32 : decode cX10_winsOf 32 = .ok (.istore_n 2, 1) := by decide +kernel
theorem dX10_winsOf_33 : decode cX10_winsOf 33 = .ok (.iconst 0, 1) := by decide +kernel
theorem dX10_winsOf_34 : decode cX10_winsOf 34 = .ok (.istore 4, 2) := by decide +kernel
theorem dX10_winsOf_36 : decode cX10_winsOf 36 = .ok (.iload 4, 2) := by decide +kernel
theorem dX10_winsOf_38 : decode cX10_winsOf 38 = .ok (.iload_n 3, 1) := by decide +kernel
theorem dX10_winsOf_39 : decode cX10_winsOf 39 = .ok (.if_icmp .ge 45, 3) := by decide +kernel
theorem dX10_winsOf_42 : decode cX10_winsOf 42 = .ok (.iload_n 2, 1) := by decide +kernel
theorem dX10_winsOf_43 : decode cX10_winsOf 43 = .ok (.iload_n 1, 1) := by decide +kernel
theorem dX10_winsOf_44 : decode cX10_winsOf 44 = .ok (.iload_n 3, 1) := by decide +kernel
theorem dX10_winsOf_45 : decode cX10_winsOf 45 = .ok (.invokestatic 95, 3) := by decide +kernel
theorem dX10_winsOf_48 : decode cX10_winsOf 48 = .ok (.ifCond .eq 27, 3) := by decide +kernel
theorem dX10_winsOf_51 : decode cX10_winsOf 51 = .ok (.iload_n 1, 1) := by decide +kernel
theorem dX10_winsOf_52 : decode cX10_winsOf 52 = .ok (.iload 4, 2) := by decide +kernel
theorem dX10_winsOf_54 : decode cX10_winsOf 54 = .ok (.invokestatic 95, 3) := by decide +kernel
theorem dX10_winsOf_57 : decode cX10_winsOf 57 = .ok (.ifCond .eq 18, 3) := by decide +kernel
theorem dX10_winsOf_60 : decode cX10_winsOf 60 = .ok (.aload_n 0, 1) := by decide +kernel
theorem dX10_winsOf_61 : decode cX10_winsOf 61 = .ok (.getfield 40, 3) := by decide +kernel
theorem dX10_winsOf_64 : decode cX10_winsOf 64 = .ok (.bipush 6, 2) := by decide +kernel
theorem dX10_winsOf_66 : decode cX10_winsOf 66 = .ok (.iload_n 3, 1) := by decide +kernel
theorem dX10_winsOf_67 : decode cX10_winsOf 67 = .ok (.imul, 1) := by decide +kernel
theorem dX10_winsOf_68 : decode cX10_winsOf 68 = .ok (.iload 4, 2) := by decide +kernel
theorem dX10_winsOf_70 : decode cX10_winsOf 70 = .ok (.iadd, 1) := by decide +kernel
theorem dX10_winsOf_71 : decode cX10_winsOf 71 = .ok (.iaload, 1) := by decide +kernel
theorem dX10_winsOf_72 : decode cX10_winsOf 72 = .ok (.goto 4, 3) := by decide +kernel
theorem dX10_winsOf_75 : decode cX10_winsOf 75 = .ok (.iconst 0, 1) := by decide +kernel
theorem dX10_winsOf_76 : decode cX10_winsOf 76 = .ok (.iadd, 1) := by decide +kernel
theorem dX10_winsOf_77 : decode cX10_winsOf 77 = .ok (.istore_n 2, 1) := by decide +kernel
theorem dX10_winsOf_78 : decode cX10_winsOf 78 = .ok (.iinc 4 1, 3) := by decide +kernel
theorem dX10_winsOf_81 : decode cX10_winsOf 81 = .ok (.goto (-45), 3) := by decide +kernel
theorem dX10_winsOf_84 : decode cX10_winsOf 84 = .ok (.iinc 3 1, 3) := by decide +kernel
theorem dX10_winsOf_87 : decode cX10_winsOf 87 = .ok (.goto (-83), 3) := by decide +kernel
theorem dX10_winsOf_90 : decode cX10_winsOf 90 = .ok (.iload_n 2, 1) := by decide +kernel
theorem dX10_winsOf_91 : decode cX10_winsOf 91 = .ok (.ireturn, 1) := by decide +kernel
theorem dX10_proofAgainst_0 : decode cX10_proofAgainst 0 = .ok (.aload_n 0, 1) := by decide +kernel
theorem dX10_proofAgainst_1 : decode cX10_proofAgainst 1 = .ok (.getfield 37, 3) := by decide +kernel
theorem dX10_proofAgainst_4 : decode cX10_proofAgainst 4 = .ok (.iload_n 1, 1) := by decide +kernel
theorem dX10_proofAgainst_5 : decode cX10_proofAgainst 5 = .ok (.iaload, 1) := by decide +kernel
theorem dX10_proofAgainst_6 : decode cX10_proofAgainst 6 = .ok (.istore_n 2, 1) := by decide +kernel
theorem dX10_proofAgainst_7 : decode cX10_proofAgainst 7 = .ok (.iconst 0, 1) := by decide +kernel
theorem dX10_proofAgainst_8 : decode cX10_proofAgainst 8 = .ok (.istore_n 3, 1) := by decide +kernel
theorem dX10_proofAgainst_9 : decode cX10_proofAgainst 9 = .ok (.iload_n 3, 1) := by decide +kernel
theorem dX10_proofAgainst_10 : decode cX10_proofAgainst 10 = .ok (.aload_n 0, 1) := by decide +kernel
theorem dX10_proofAgainst_11 : decode cX10_proofAgainst 11 = .ok (.getfield 288, 3) := by decide +kernel
theorem dX10_proofAgainst_14 : decode cX10_proofAgainst 14 = .ok (.if_icmp .ge 23, 3) := by decide +kernel
theorem dX10_proofAgainst_17 : decode cX10_proofAgainst 17 = .ok (.iload_n 2, 1) := by decide +kernel
theorem dX10_proofAgainst_18 : decode cX10_proofAgainst 18 = .ok (.aload_n 0, 1) := by decide +kernel
theorem dX10_proofAgainst_19 : decode cX10_proofAgainst 19 = .ok (.getfield 40, 3) := by decide +kernel
theorem dX10_proofAgainst_22 : decode cX10_proofAgainst 22 = .ok (.bipush 6, 2) := by decide +kernel
theorem dX10_proofAgainst_24 : decode cX10_proofAgainst 24 = .ok (.iload_n 1, 1) := by decide +kernel
theorem dX10_proofAgainst_25 : decode cX10_proofAgainst 25 = .ok (.imul, 1) := by decide +kernel
theorem dX10_proofAgainst_26 : decode cX10_proofAgainst 26 = .ok (.iload_n 3, 1) := by decide +kernel
theorem dX10_proofAgainst_27 : decode cX10_proofAgainst 27 = .ok (.iadd, 1) := by decide +kernel
theorem dX10_proofAgainst_28 : decode cX10_proofAgainst 28 = .ok (.iaload, 1) := by decide +kernel
theorem dX10_proofAgainst_29 : decode cX10_proofAgainst 29 = .ok (.iadd, 1) := by decide +kernel
theorem dX10_proofAgainst_30 : decode cX10_proofAgainst 30 = .ok (.istore_n 2, 1) := by decide +kernel
theorem dX10_proofAgainst_31 : decode cX10_proofAgainst 31 = .ok (.iinc 3 1, 3) := by decide +kernel
theorem dX10_proofAgainst_34 : decode cX10_proofAgainst 34 = .ok (.goto (-25), 3) := by decide +kernel
theorem dX10_proofAgainst_37 : decode cX10_proofAgainst 37 = .ok (.iconst 1, 1) := by decide +kernel
theorem dX10_proofAgainst_38 : decode cX10_proofAgainst 38 = .ok (.istore_n 3, 1) := by decide +kernel
theorem dX10_proofAgainst_39 : decode cX10_proofAgainst 39 = .ok (.iload_n 3, 1) := by decide +kernel
theorem dX10_proofAgainst_40 : decode cX10_proofAgainst 40 = .ok (.iconst 1, 1) := by decide +kernel
theorem dX10_proofAgainst_41 : decode cX10_proofAgainst 41 = .ok (.aload_n 0, 1) := by decide +kernel
theorem dX10_proofAgainst_42 : decode cX10_proofAgainst 42 = .ok (.getfield 288, 3) := by decide +kernel
theorem dX10_proofAgainst_45 : decode cX10_proofAgainst 45 = .ok (.ishl, 1) := by decide +kernel
theorem dX10_proofAgainst_46 : decode cX10_proofAgainst 46 = .ok (.if_icmp .ge 33, 3) := by decide +kernel
theorem dX10_proofAgainst_49 : decode cX10_proofAgainst 49 = .ok (.iload_n 3, 1) := by decide +kernel
theorem dX10_proofAgainst_50 : decode cX10_proofAgainst 50 = .ok (.iload_n 1, 1) := by decide +kernel
theorem dX10_proofAgainst_51 : decode cX10_proofAgainst 51 = .ok (.invokestatic 95, 3) := by decide +kernel
theorem dX10_proofAgainst_54 : decode cX10_proofAgainst 54 = .ok (.ifCond .ne 19, 3) := by decide +kernel
theorem dX10_proofAgainst_57 : decode cX10_proofAgainst 57 = .ok (.aload_n 0, 1) := by decide +kernel
theorem dX10_proofAgainst_58 : decode cX10_proofAgainst 58 = .ok (.iload_n 3, 1) := by decide +kernel
theorem dX10_proofAgainst_59 : decode cX10_proofAgainst 59 = .ok (.invokevirtual 291, 3) := by decide +kernel
theorem dX10_proofAgainst_62 : decode cX10_proofAgainst 62 = .ok (.iload_n 3, 1) := by decide +kernel
theorem dX10_proofAgainst_63 : decode cX10_proofAgainst 63 = .ok (.invokestatic 247, 3) := by decide +kernel
theorem dX10_proofAgainst_66 : decode cX10_proofAgainst 66 = .ok (.iload_n 2, 1) := by decide +kernel
theorem dX10_proofAgainst_67 : decode cX10_proofAgainst 67 = .ok (.imul, 1) := by decide +kernel
theorem dX10_proofAgainst_68 : decode cX10_proofAgainst 68 = .ok (.if_icmp .le 5, 3) := by decide +kernel
theorem dX10_proofAgainst_71 : decode cX10_proofAgainst 71 = .ok (.iload_n 3, 1) := by decide +kernel
theorem dX10_proofAgainst_72 : decode cX10_proofAgainst 72 = .ok (.ireturn, 1) := by decide +kernel
theorem dX10_proofAgainst_73 : decode cX10_proofAgainst 73 = .ok (.iinc 3 1, 3) := by decide +kernel
theorem dX10_proofAgainst_76 : decode cX10_proofAgainst 76 = .ok (.goto (-37), 3) := by decide +kernel
theorem dX10_proofAgainst_79 : decode cX10_proofAgainst 79 = .ok (.iconst 0, 1) := by decide +kernel
theorem dX10_proofAgainst_80 : decode cX10_proofAgainst 80 = .ok (.ireturn, 1) := by decide +kernel
theorem dX10_canWin_0 : decode cX10_canWin 0 = .ok (.aload_n 0, 1) := by decide +kernel
theorem dX10_canWin_1 : decode cX10_canWin 1 = .ok (.iload_n 1, 1) := by decide +kernel
theorem dX10_canWin_2 : decode cX10_canWin 2 = .ok (.iconst 0, 1) := by decide +kernel
theorem dX10_canWin_3 : decode cX10_canWin 3 = .ok (.aload_n 0, 1) := by decide +kernel
theorem dX10_canWin_4 : decode cX10_canWin 4 = .ok (.getfield 288, 3) := by decide +kernel
theorem dX10_canWin_7 : decode cX10_canWin 7 = .ok (.iconst 1, 1) := by decide +kernel
theorem dX10_canWin_8 : decode cX10_canWin 8 = .ok (.isub, 1) := by decide +kernel
theorem dX10_canWin_9 : decode cX10_canWin 9 = .ok (.invokestatic 102, 3) := by decide +kernel
theorem dX10_canWin_12 : decode cX10_canWin 12 = .ok (.ifCond .ne 7, 3) := by decide +kernel
theorem dX10_canWin_15 : decode cX10_canWin 15 = .ok (.iconst 1, 1) := by decide +kernel
theorem dX10_canWin_16 : decode cX10_canWin 16 = .ok (.goto 4, 3) := by decide +kernel
theorem dX10_canWin_19 : decode cX10_canWin 19 = .ok (.iconst 0, 1) := by decide +kernel
theorem dX10_canWin_20 : decode cX10_canWin 20 = .ok (.putfield 92, 3) := by decide +kernel
theorem dX10_canWin_23 : decode cX10_canWin 23 = .ok (.aload_n 0, 1) := by decide +kernel
theorem dX10_canWin_24 : decode cX10_canWin 24 = .ok (.getfield 92, 3) := by decide +kernel
theorem dX10_canWin_27 : decode cX10_canWin 27 = .ok (.ifCond .ne 15, 3) := by decide +kernel
theorem dX10_canWin_30 : decode cX10_canWin 30 = .ok (.aload_n 0, 1) := by decide +kernel
theorem dX10_canWin_31 : decode cX10_canWin 31 = .ok (.iload_n 1, 1) := by decide +kernel
theorem dX10_canWin_32 : decode cX10_canWin 32 = .ok (.invokevirtual 294, 3) := by decide +kernel
theorem dX10_canWin_35 : decode cX10_canWin 35 = .ok (.ifCond .ne 7, 3) := by decide +kernel
theorem dX10_canWin_38 : decode cX10_canWin 38 = .ok (.iconst 1, 1) := by decide +kernel
theorem dX10_canWin_39 : decode cX10_canWin 39 = .ok (.goto 4, 3) := by decide +kernel
theorem dX10_canWin_42 : decode cX10_canWin 42 = .ok (.iconst 0, 1) := by decide +kernel
theorem dX10_canWin_43 : decode cX10_canWin 43 = .ok (.ireturn, 1) := by decide +kernel
theorem dX10_against_0 : decode cX10_against 0 = .ok (.aload_n 0, 1) := by decide +kernel
theorem dX10_against_1 : decode cX10_against 1 = .ok (.iload_n 1, 1) := by decide +kernel
theorem dX10_against_2 : decode cX10_against 2 = .ok (.iconst 0, 1) := by decide +kernel
theorem dX10_against_3 : decode cX10_against 3 = .ok (.aload_n 0, 1) := by decide +kernel
theorem dX10_against_4 : decode cX10_against 4 = .ok (.getfield 288, 3) := by decide +kernel
theorem dX10_against_7 : decode cX10_against 7 = .ok (.iconst 1, 1) := by decide +kernel
theorem dX10_against_8 : decode cX10_against 8 = .ok (.isub, 1) := by decide +kernel
theorem dX10_against_9 : decode cX10_against 9 = .ok (.invokestatic 102, 3) := by decide +kernel
theorem dX10_against_12 : decode cX10_against 12 = .ok (.ifCond .ne 7, 3) := by decide +kernel
theorem dX10_against_15 : decode cX10_against 15 = .ok (.iconst 1, 1) := by decide +kernel
theorem dX10_against_16 : decode cX10_against 16 = .ok (.goto 16, 3) := by decide +kernel
theorem dX10_against_19 : decode cX10_against 19 = .ok (.aload_n 0, 1) := by decide +kernel
theorem dX10_against_20 : decode cX10_against 20 = .ok (.iload_n 1, 1) := by decide +kernel
theorem dX10_against_21 : decode cX10_against 21 = .ok (.invokevirtual 294, 3) := by decide +kernel
theorem dX10_against_24 : decode cX10_against 24 = .ok (.ifCond .ne 7, 3) := by decide +kernel
theorem dX10_against_27 : decode cX10_against 27 = .ok (.iconst 2, 1) := by decide +kernel
theorem dX10_against_28 : decode cX10_against 28 = .ok (.goto 4, 3) := by decide +kernel
theorem dX10_against_31 : decode cX10_against 31 = .ok (.iconst 0, 1) := by decide +kernel
theorem dX10_against_32 : decode cX10_against 32 = .ok (.putfield 92, 3) := by decide +kernel
theorem dX10_against_35 : decode cX10_against 35 = .ok (.aload_n 0, 1) := by decide +kernel
theorem dX10_against_36 : decode cX10_against 36 = .ok (.getfield 92, 3) := by decide +kernel
theorem dX10_against_39 : decode cX10_against 39 = .ok (.ifCond .le 7, 3) := by decide +kernel
theorem dX10_against_42 : decode cX10_against 42 = .ok (.iconst 0, 1) := by decide +kernel
theorem dX10_against_43 : decode cX10_against 43 = .ok (.goto 8, 3) := by decide +kernel
theorem dX10_against_46 : decode cX10_against 46 = .ok (.aload_n 0, 1) := by decide +kernel
theorem dX10_against_47 : decode cX10_against 47 = .ok (.iload_n 1, 1) := by decide +kernel
theorem dX10_against_48 : decode cX10_against 48 = .ok (.invokevirtual 294, 3) := by decide +kernel
theorem dX10_against_51 : decode cX10_against 51 = .ok (.ireturn, 1) := by decide +kernel
theorem dX10_table_0 : decode cX10_table 0 = .ok (.aload_n 0, 1) := by decide +kernel
theorem dX10_table_1 : decode cX10_table 1 = .ok (.iload_n 1, 1) := by decide +kernel
theorem dX10_table_2 : decode cX10_table 2 = .ok (.iconst 1, 1) := by decide +kernel
theorem dX10_table_3 : decode cX10_table 3 = .ok (.iconst 4, 1) := by decide +kernel
theorem dX10_table_4 : decode cX10_table 4 = .ok (.invokestatic 102, 3) := by decide +kernel
theorem dX10_table_7 : decode cX10_table 7 = .ok (.ifCond .eq 12, 3) := by decide +kernel
theorem dX10_table_10 : decode cX10_table 10 = .ok (.iload_n 2, 1) := by decide +kernel
theorem dX10_table_11 : decode cX10_table 11 = .ok (.iconst 1, 1) := by decide +kernel
theorem dX10_table_12 : decode cX10_table 12 = .ok (.iconst 4, 1) := by decide +kernel
theorem dX10_table_13 : decode cX10_table 13 = .ok (.invokestatic 102, 3) := by decide +kernel
theorem dX10_table_16 : decode cX10_table 16 = .ok (.ifCond .ne 7, 3) := by decide +kernel
theorem dX10_table_19 : decode cX10_table 19 = .ok (.iconst 1, 1) := by decide +kernel
theorem dX10_table_20 : decode cX10_table 20 = .ok (.goto 4, 3) := by decide +kernel
theorem dX10_table_23 : decode cX10_table 23 = .ok (.iconst 0, 1) := by decide +kernel
theorem dX10_table_24 : decode cX10_table 24 = .ok (.putfield 92, 3) := by decide +kernel
theorem dX10_table_27 : decode cX10_table 27 = .ok (.aload_n 0, 1) := by decide +kernel
theorem dX10_table_28 : decode cX10_table 28 = .ok (.getfield 92, 3) := by decide +kernel
theorem dX10_table_31 : decode cX10_table 31 = .ok (.ifCond .le 5, 3) := by decide +kernel
theorem dX10_table_34 : decode cX10_table 34 = .ok (.iconst 0, 1) := by decide +kernel
theorem dX10_table_35 : decode cX10_table 35 = .ok (.ireturn, 1) := by decide +kernel
theorem dX10_table_36 : decode cX10_table 36 = .ok (.aload_n 0, 1) := by decide +kernel
theorem dX10_table_37 : decode cX10_table 37 = .ok (.iload_n 1, 1) := by decide +kernel
theorem dX10_table_38 : decode cX10_table 38 = .ok (.putfield 43, 3) := by decide +kernel
theorem dX10_table_41 : decode cX10_table 41 = .ok (.aload_n 0, 1) := by decide +kernel
theorem dX10_table_42 : decode cX10_table 42 = .ok (.iload_n 2, 1) := by decide +kernel
theorem dX10_table_43 : decode cX10_table 43 = .ok (.putfield 47, 3) := by decide +kernel
theorem dX10_table_46 : decode cX10_table 46 = .ok (.iconst 0, 1) := by decide +kernel
theorem dX10_table_47 : decode cX10_table 47 = .ok (.istore_n 3, 1) := by decide +kernel
theorem dX10_table_48 : decode cX10_table 48 = .ok (.iload_n 3, 1) := by decide +kernel
theorem dX10_table_49 : decode cX10_table 49 = .ok (.bipush 16, 2) := by decide +kernel
theorem dX10_table_51 : decode cX10_table 51 = .ok (.if_icmp .ge 16, 3) := by decide +kernel
theorem dX10_table_54 : decode cX10_table 54 = .ok (.aload_n 0, 1) := by decide +kernel
theorem dX10_table_55 : decode cX10_table 55 = .ok (.getfield 50, 3) := by decide +kernel
theorem dX10_table_58 : decode cX10_table 58 = .ok (.iload_n 3, 1) := by decide +kernel
theorem dX10_table_59 : decode cX10_table 59 = .ok (.iconst 0, 1) := by decide +kernel
theorem dX10_table_60 : decode cX10_table 60 = .ok (.iastore, 1) := by decide +kernel
theorem dX10_table_61 : decode cX10_table 61 = .ok (.iinc 3 1, 3) := by decide +kernel
theorem dX10_table_64 : decode cX10_table 64 = .ok (.goto (-16), 3) := by decide +kernel
theorem dX10_table_67 : decode cX10_table 67 = .ok (.aload_n 0, 1) := by decide +kernel
theorem dX10_table_68 : decode cX10_table 68 = .ok (.getfield 43, 3) := by decide +kernel
theorem dX10_table_71 : decode cX10_table 71 = .ok (.aload_n 0, 1) := by decide +kernel
theorem dX10_table_72 : decode cX10_table 72 = .ok (.getfield 47, 3) := by decide +kernel
theorem dX10_table_75 : decode cX10_table 75 = .ok (.imul, 1) := by decide +kernel
theorem dX10_table_76 : decode cX10_table 76 = .ok (.ireturn, 1) := by decide +kernel
theorem dX10_tell_0 : decode cX10_tell 0 = .ok (.aload_n 0, 1) := by decide +kernel
theorem dX10_tell_1 : decode cX10_tell 1 = .ok (.iload_n 1, 1) := by decide +kernel
theorem dX10_tell_2 : decode cX10_tell 2 = .ok (.iconst 0, 1) := by decide +kernel
theorem dX10_tell_3 : decode cX10_tell 3 = .ok (.aload_n 0, 1) := by decide +kernel
theorem dX10_tell_4 : decode cX10_tell 4 = .ok (.getfield 43, 3) := by decide +kernel
theorem dX10_tell_7 : decode cX10_tell 7 = .ok (.iconst 1, 1) := by decide +kernel
theorem dX10_tell_8 : decode cX10_tell 8 = .ok (.isub, 1) := by decide +kernel
theorem dX10_tell_9 : decode cX10_tell 9 = .ok (.invokestatic 102, 3) := by decide +kernel
theorem dX10_tell_12 : decode cX10_tell 12 = .ok (.ifCond .eq 17, 3) := by decide +kernel
theorem dX10_tell_15 : decode cX10_tell 15 = .ok (.iload_n 2, 1) := by decide +kernel
theorem dX10_tell_16 : decode cX10_tell 16 = .ok (.iconst 0, 1) := by decide +kernel
theorem dX10_tell_17 : decode cX10_tell 17 = .ok (.aload_n 0, 1) := by decide +kernel
theorem dX10_tell_18 : decode cX10_tell 18 = .ok (.getfield 47, 3) := by decide +kernel
theorem dX10_tell_21 : decode cX10_tell 21 = .ok (.iconst 1, 1) := by decide +kernel
theorem dX10_tell_22 : decode cX10_tell 22 = .ok (.isub, 1) := by decide +kernel
theorem dX10_tell_23 : decode cX10_tell 23 = .ok (.invokestatic 102, 3) := by decide +kernel
theorem dX10_tell_26 : decode cX10_tell 26 = .ok (.ifCond .ne 7, 3) := by decide +kernel
theorem dX10_tell_29 : decode cX10_tell 29 = .ok (.iconst 1, 1) := by decide +kernel
theorem dX10_tell_30 : decode cX10_tell 30 = .ok (.goto 19, 3) := by decide +kernel
theorem dX10_tell_33 : decode cX10_tell 33 = .ok (.iload_n 3, 1) := by decide +kernel
theorem dX10_tell_34 : decode cX10_tell 34 = .ok (.iconst 0, 1) := by decide +kernel
theorem dX10_tell_35 : decode cX10_tell 35 = .ok (.sipush 999, 3) := by decide +kernel
theorem dX10_tell_38 : decode cX10_tell 38 = .ok (.invokestatic 102, 3) := by decide +kernel
theorem dX10_tell_41 : decode cX10_tell 41 = .ok (.ifCond .ne 7, 3) := by decide +kernel
theorem dX10_tell_44 : decode cX10_tell 44 = .ok (.iconst 2, 1) := by decide +kernel
theorem dX10_tell_45 : decode cX10_tell 45 = .ok (.goto 4, 3) := by decide +kernel
theorem dX10_tell_48 : decode cX10_tell 48 = .ok (.iconst 0, 1) := by decide +kernel
theorem dX10_tell_49 : decode cX10_tell 49 = .ok (.putfield 92, 3) := by decide +kernel
theorem dX10_tell_52 : decode cX10_tell 52 = .ok (.aload_n 0, 1) := by decide +kernel
theorem dX10_tell_53 : decode cX10_tell 53 = .ok (.getfield 92, 3) := by decide +kernel
theorem dX10_tell_56 : decode cX10_tell 56 = .ok (.ifCond .le 5, 3) := by decide +kernel
theorem dX10_tell_59 : decode cX10_tell 59 = .ok (.iconst 0, 1) := by decide +kernel
theorem dX10_tell_60 : decode cX10_tell 60 = .ok (.ireturn, 1) := by decide +kernel
theorem dX10_tell_61 : decode cX10_tell 61 = .ok (.aload_n 0, 1) := by decide +kernel
theorem dX10_tell_62 : decode cX10_tell 62 = .ok (.getfield 50, 3) := by decide +kernel
theorem dX10_tell_65 : decode cX10_tell 65 = .ok (.aload_n 0, 1) := by decide +kernel
theorem dX10_tell_66 : decode cX10_tell 66 = .ok (.getfield 47, 3) := by decide +kernel
theorem dX10_tell_69 : decode cX10_tell 69 = .ok (.iload_n 1, 1) := by decide +kernel
theorem dX10_tell_70 : decode cX10_tell 70 = .ok (.imul, 1) := by decide +kernel
theorem dX10_tell_71 : decode cX10_tell 71 = .ok (.iload_n 2, 1) := by decide +kernel
theorem dX10_tell_72 : decode cX10_tell 72 = .ok (.iadd, 1) := by decide +kernel
theorem dX10_tell_73 : decode cX10_tell 73 = .ok (.iaload, 1) := by decide +kernel
theorem dX10_tell_74 : decode cX10_tell 74 = .ok (.istore 4, 2) := by decide +kernel
theorem dX10_tell_76 : decode cX10_tell 76 = .ok (.aload_n 0, 1) := by decide +kernel
theorem dX10_tell_77 : decode cX10_tell 77 = .ok (.getfield 50, 3) := by decide +kernel
theorem dX10_tell_80 : decode cX10_tell 80 = .ok (.aload_n 0, 1) := by decide +kernel
theorem dX10_tell_81 : decode cX10_tell 81 = .ok (.getfield 47, 3) := by decide +kernel
theorem dX10_tell_84 : decode cX10_tell 84 = .ok (.iload_n 1, 1) := by decide +kernel
theorem dX10_tell_85 : decode cX10_tell 85 = .ok (.imul, 1) := by decide +kernel
theorem dX10_tell_86 : decode cX10_tell 86 = .ok (.iload_n 2, 1) := by decide +kernel
theorem dX10_tell_87 : decode cX10_tell 87 = .ok (.iadd, 1) := by decide +kernel
theorem dX10_tell_88 : decode cX10_tell 88 = .ok (.iload_n 3, 1) := by decide +kernel
theorem dX10_tell_89 : decode cX10_tell 89 = .ok (.iastore, 1) := by decide +kernel
theorem dX10_tell_90 : decode cX10_tell 90 = .ok (.iload 4, 2) := by decide +kernel
theorem dX10_tell_92 : decode cX10_tell 92 = .ok (.ireturn, 1) := by decide +kernel
theorem dX10_isNear_0 : decode cX10_isNear 0 = .ok (.bipush 10, 2) := by decide +kernel
theorem dX10_isNear_2 : decode cX10_isNear 2 = .ok (.iload_n 0, 1) := by decide +kernel
theorem dX10_isNear_3 : decode cX10_isNear 3 = .ok (.imul, 1) := by decide +kernel
theorem dX10_isNear_4 : decode cX10_isNear 4 = .ok (.iload_n 1, 1) := by decide +kernel
theorem dX10_isNear_5 : decode cX10_isNear 5 = .ok (.bipush 10, 2) := by decide +kernel
theorem dX10_isNear_7 : decode cX10_isNear 7 = .ok (.isub, 1) := by decide +kernel
theorem dX10_isNear_8 : decode cX10_isNear 8 = .ok (.if_icmp .le 18, 3) := by decide +kernel
theorem dX10_isNear_11 : decode cX10_isNear 11 = .ok (.bipush 10, 2) := by decide +kernel
theorem dX10_isNear_13 : decode cX10_isNear 13 = .ok (.iload_n 0, 1) := by decide +kernel
theorem dX10_isNear_14 : decode cX10_isNear 14 = .ok (.imul, 1) := by decide +kernel
theorem dX10_isNear_15 : decode cX10_isNear 15 = .ok (.iload_n 1, 1) := by decide +kernel
theorem dX10_isNear_16 : decode cX10_isNear 16 = .ok (.bipush 10, 2) := by decide +kernel
theorem dX10_isNear_18 : decode cX10_isNear 18 = .ok (.iadd, 1) := by decide +kernel
theorem dX10_isNear_19 : decode cX10_isNear 19 = .ok (.if_icmp .ge 7, 3) := by decide +kernel
theorem dX10_isNear_22 : decode cX10_isNear 22 = .ok (.iconst 1, 1) := by decide +kernel
theorem dX10_isNear_23 : decode cX10_isNear 23 = .ok (.goto 4, 3) := by decide +kernel
theorem dX10_isNear_26 : decode cX10_isNear 26 = .ok (.iconst 0, 1) := by decide +kernel
theorem dX10_isNear_27 : decode cX10_isNear 27 = .ok (.ireturn, 1) := by decide +kernel
theorem dX10_isRowNear_0 : decode cX10_isRowNear 0 = .ok (.iconst 0, 1) := by decide +kernel
theorem dX10_isRowNear_1 : decode cX10_isRowNear 1 = .ok (.istore_n 2, 1) := by decide +kernel
theorem dX10_isRowNear_2 : decode cX10_isRowNear 2 = .ok (.iconst 0, 1) := by decide +kernel
theorem dX10_isRowNear_3 : decode cX10_isRowNear 3 = .ok (.istore_n 3, 1) := by decide +kernel
theorem dX10_isRowNear_4 : decode cX10_isRowNear 4 = .ok (.iconst 0, 1) := by decide +kernel
theorem dX10_isRowNear_5 : decode cX10_isRowNear 5 = .ok (.istore 4, 2) := by decide +kernel
theorem dX10_isRowNear_7 : decode cX10_isRowNear 7 = .ok (.iload 4, 2) := by decide +kernel
theorem dX10_isRowNear_9 : decode cX10_isRowNear 9 = .ok (.aload_n 0, 1) := by decide +kernel
theorem dX10_isRowNear_10 : decode cX10_isRowNear 10 = .ok (.getfield 47, 3) := by decide +kernel
theorem dX10_isRowNear_13 : decode cX10_isRowNear 13 = .ok (.if_icmp .ge 43, 3) := by decide +kernel
theorem dX10_isRowNear_16 : decode cX10_isRowNear 16 = .ok (.iload_n 2, 1) := by decide +kernel
theorem dX10_isRowNear_17 : decode cX10_isRowNear 17 = .ok (.aload_n 0, 1) := by decide +kernel
theorem dX10_isRowNear_18 : decode cX10_isRowNear 18 = .ok (.getfield 53, 3) := by decide +kernel
theorem dX10_isRowNear_21 : decode cX10_isRowNear 21 = .ok (.aload_n 0, 1) := by decide +kernel
theorem dX10_isRowNear_22 : decode cX10_isRowNear 22 = .ok (.getfield 47, 3) := by decide +kernel
theorem dX10_isRowNear_25 : decode cX10_isRowNear 25 = .ok (.iload_n 1, 1) := by decide +kernel
theorem dX10_isRowNear_26 : decode cX10_isRowNear 26 = .ok (.imul, 1) := by decide +kernel
theorem dX10_isRowNear_27 : decode cX10_isRowNear 27 = .ok (.iload 4, 2) := by decide +kernel
theorem dX10_isRowNear_29 : decode cX10_isRowNear 29 = .ok (.iadd, 1) := by decide +kernel
theorem dX10_isRowNear_30 : decode cX10_isRowNear 30 = .ok (.iaload, 1) := by decide +kernel
theorem dX10_isRowNear_31 : decode cX10_isRowNear 31 = .ok (.iadd, 1) := by decide +kernel
theorem dX10_isRowNear_32 : decode cX10_isRowNear 32 = .ok (.istore_n 2, 1) := by decide +kernel
theorem dX10_isRowNear_33 : decode cX10_isRowNear 33 = .ok (.iload_n 3, 1) := by decide +kernel
theorem dX10_isRowNear_34 : decode cX10_isRowNear 34 = .ok (.aload_n 0, 1) := by decide +kernel
theorem dX10_isRowNear_35 : decode cX10_isRowNear 35 = .ok (.getfield 50, 3) := by decide +kernel
theorem dX10_isRowNear_38 : decode cX10_isRowNear 38 = .ok (.aload_n 0, 1) := by decide +kernel
theorem dX10_isRowNear_39 : decode cX10_isRowNear 39 = .ok (.getfield 47, 3) := by decide +kernel
theorem dX10_isRowNear_42 : decode cX10_isRowNear 42 = .ok (.iload_n 1, 1) := by decide +kernel
theorem dX10_isRowNear_43 : decode cX10_isRowNear 43 = .ok (.imul, 1) := by decide +kernel
theorem dX10_isRowNear_44 : decode cX10_isRowNear 44 = .ok (.iload 4, 2) := by decide +kernel
theorem dX10_isRowNear_46 : decode cX10_isRowNear 46 = .ok (.iadd, 1) := by decide +kernel
theorem dX10_isRowNear_47 : decode cX10_isRowNear 47 = .ok (.iaload, 1) := by decide +kernel
theorem dX10_isRowNear_48 : decode cX10_isRowNear 48 = .ok (.iadd, 1) := by decide +kernel
theorem dX10_isRowNear_49 : decode cX10_isRowNear 49 = .ok (.istore_n 3, 1) := by decide +kernel
theorem dX10_isRowNear_50 : decode cX10_isRowNear 50 = .ok (.iinc 4 1, 3) := by decide +kernel
theorem dX10_isRowNear_53 : decode cX10_isRowNear 53 = .ok (.goto (-46), 3) := by decide +kernel
theorem dX10_isRowNear_56 : decode cX10_isRowNear 56 = .ok (.iload_n 2, 1) := by decide +kernel
theorem dX10_isRowNear_57 : decode cX10_isRowNear 57 = .ok (.iload_n 3, 1) := by decide +kernel
theorem dX10_isRowNear_58 : decode cX10_isRowNear 58 = .ok (.invokestatic 297, 3) := by decide +kernel
theorem dX10_isRowNear_61 : decode cX10_isRowNear 61 = .ok (.ireturn, 1) := by decide +kernel
theorem dX10_isColumnNear_0 : decode cX10_isColumnNear 0 = .ok (.iconst 0, 1) := by decide +kernel
theorem dX10_isColumnNear_1 : decode cX10_isColumnNear 1 = .ok (.istore_n 2, 1) := by decide +kernel
theorem dX10_isColumnNear_2 : decode cX10_isColumnNear 2 = .ok (.iconst 0, 1) := by decide +kernel
theorem dX10_isColumnNear_3 : decode cX10_isColumnNear 3 = .ok (.istore_n 3, 1) := by decide +kernel
theorem dX10_isColumnNear_4 : decode cX10_isColumnNear 4 = .ok (.iconst 0, 1) := by decide +kernel
theorem dX10_isColumnNear_5 : decode cX10_isColumnNear 5 = .ok (.istore 4, 2) := by decide +kernel
theorem dX10_isColumnNear_7 : decode cX10_isColumnNear 7 = .ok (.iload 4, 2) := by decide +kernel
theorem dX10_isColumnNear_9 : decode cX10_isColumnNear 9 = .ok (.aload_n 0, 1) := by decide +kernel
theorem dX10_isColumnNear_10 : decode cX10_isColumnNear 10 = .ok (.getfield 43, 3) := by decide +kernel
theorem dX10_isColumnNear_13 : decode cX10_isColumnNear 13 = .ok (.if_icmp .ge 43, 3) := by decide +kernel
theorem dX10_isColumnNear_16 : decode cX10_isColumnNear 16 = .ok (.iload_n 2, 1) := by decide +kernel
theorem dX10_isColumnNear_17 : decode cX10_isColumnNear 17 = .ok (.aload_n 0, 1) := by decide +kernel
theorem dX10_isColumnNear_18 : decode cX10_isColumnNear 18 = .ok (.getfield 53, 3) := by decide +kernel
theorem dX10_isColumnNear_21 : decode cX10_isColumnNear 21 = .ok (.aload_n 0, 1) := by decide +kernel
theorem dX10_isColumnNear_22 : decode cX10_isColumnNear 22 = .ok (.getfield 47, 3) := by decide +kernel
theorem dX10_isColumnNear_25 : decode cX10_isColumnNear 25 = .ok (.iload 4, 2) := by decide +kernel
theorem dX10_isColumnNear_27 : decode cX10_isColumnNear 27 = .ok (.imul, 1) := by decide +kernel
theorem dX10_isColumnNear_28 : decode cX10_isColumnNear 28 = .ok (.iload_n 1, 1) := by decide +kernel
theorem dX10_isColumnNear_29 : decode cX10_isColumnNear 29 = .ok (.iadd, 1) := by decide +kernel
theorem dX10_isColumnNear_30 : decode cX10_isColumnNear 30 = .ok (.iaload, 1) := by decide +kernel
theorem dX10_isColumnNear_31 : decode cX10_isColumnNear 31 = .ok (.iadd, 1) := by decide +kernel
theorem dX10_isColumnNear_32 : decode cX10_isColumnNear 32 = .ok (.istore_n 2, 1) := by decide +kernel
theorem dX10_isColumnNear_33 : decode cX10_isColumnNear 33 = .ok (.iload_n 3, 1) := by decide +kernel
theorem dX10_isColumnNear_34 : decode cX10_isColumnNear 34 = .ok (.aload_n 0, 1) := by decide +kernel
theorem dX10_isColumnNear_35 : decode cX10_isColumnNear 35 = .ok (.getfield 50, 3) := by decide +kernel
theorem dX10_isColumnNear_38 : decode cX10_isColumnNear 38 = .ok (.aload_n 0, 1) := by decide +kernel
theorem dX10_isColumnNear_39 : decode cX10_isColumnNear 39 = .ok (.getfield 47, 3) := by decide +kernel
theorem dX10_isColumnNear_42 : decode cX10_isColumnNear 42 = .ok (.iload 4, 2) := by decide +kernel
theorem dX10_isColumnNear_44 : decode cX10_isColumnNear 44 = .ok (.imul, 1) := by decide +kernel
theorem dX10_isColumnNear_45 : decode cX10_isColumnNear 45 = .ok (.iload_n 1, 1) := by decide +kernel
theorem dX10_isColumnNear_46 : decode cX10_isColumnNear 46 = .ok (.iadd, 1) := by decide +kernel
theorem dX10_isColumnNear_47 : decode cX10_isColumnNear 47 = .ok (.iaload, 1) := by decide +kernel
theorem dX10_isColumnNear_48 : decode cX10_isColumnNear 48 = .ok (.iadd, 1) := by decide +kernel
theorem dX10_isColumnNear_49 : decode cX10_isColumnNear 49 = .ok (.istore_n 3, 1) := by decide +kernel
theorem dX10_isColumnNear_50 : decode cX10_isColumnNear 50 = .ok (.iinc 4 1, 3) := by decide +kernel
theorem dX10_isColumnNear_53 : decode cX10_isColumnNear 53 = .ok (.goto (-46), 3) := by decide +kernel
theorem dX10_isColumnNear_56 : decode cX10_isColumnNear 56 = .ok (.iload_n 2, 1) := by decide +kernel
theorem dX10_isColumnNear_57 : decode cX10_isColumnNear 57 = .ok (.iload_n 3, 1) := by decide +kernel
theorem dX10_isColumnNear_58 : decode cX10_isColumnNear 58 = .ok (.invokestatic 297, 3) := by decide +kernel
theorem dX10_isColumnNear_61 : decode cX10_isColumnNear 61 = .ok (.ireturn, 1) := by decide +kernel
theorem dX10_areAllNear_0 : decode cX10_areAllNear 0 = .ok (.iconst 0, 1) := by decide +kernel
theorem dX10_areAllNear_1 : decode cX10_areAllNear 1 = .ok (.istore_n 1, 1) := by decide +kernel
theorem dX10_areAllNear_2 : decode cX10_areAllNear 2 = .ok (.iconst 0, 1) := by decide +kernel
theorem dX10_areAllNear_3 : decode cX10_areAllNear 3 = .ok (.istore_n 2, 1) := by decide +kernel
theorem dX10_areAllNear_4 : decode cX10_areAllNear 4 = .ok (.iconst 0, 1) := by decide +kernel
theorem dX10_areAllNear_5 : decode cX10_areAllNear 5 = .ok (.istore_n 3, 1) := by decide +kernel
theorem dX10_areAllNear_6 : decode cX10_areAllNear 6 = .ok (.iload_n 3, 1) := by decide +kernel
theorem dX10_areAllNear_7 : decode cX10_areAllNear 7 = .ok (.aload_n 0, 1) := by decide +kernel
theorem dX10_areAllNear_8 : decode cX10_areAllNear 8 = .ok (.getfield 43, 3) := by decide +kernel
theorem dX10_areAllNear_11 : decode cX10_areAllNear 11 = .ok (.aload_n 0, 1) := by decide +kernel
theorem dX10_areAllNear_12 : decode cX10_areAllNear 12 = .ok (.getfield 47, 3) := by decide +kernel
theorem dX10_areAllNear_15 : decode cX10_areAllNear 15 = .ok (.imul, 1) := by decide +kernel
theorem dX10_areAllNear_16 : decode cX10_areAllNear 16 = .ok (.if_icmp .ge 27, 3) := by decide +kernel
theorem dX10_areAllNear_19 : decode cX10_areAllNear 19 = .ok (.iload_n 1, 1) := by decide +kernel
theorem dX10_areAllNear_20 : decode cX10_areAllNear 20 = .ok (.aload_n 0, 1) := by decide +kernel
theorem dX10_areAllNear_21 : decode cX10_areAllNear 21 = .ok (.getfield 53, 3) := by decide +kernel
theorem dX10_areAllNear_24 : decode cX10_areAllNear 24 = .ok (.iload_n 3, 1) := by decide +kernel
theorem dX10_areAllNear_25 : decode cX10_areAllNear 25 = .ok (.iaload, 1) := by decide +kernel
theorem dX10_areAllNear_26 : decode cX10_areAllNear 26 = .ok (.iadd, 1) := by decide +kernel
theorem dX10_areAllNear_27 : decode cX10_areAllNear 27 = .ok (.istore_n 1, 1) := by decide +kernel
theorem dX10_areAllNear_28 : decode cX10_areAllNear 28 = .ok (.iload_n 2, 1) := by decide +kernel
theorem dX10_areAllNear_29 : decode cX10_areAllNear 29 = .ok (.aload_n 0, 1) := by decide +kernel
theorem dX10_areAllNear_30 : decode cX10_areAllNear 30 = .ok (.getfield 50, 3) := by decide +kernel
theorem dX10_areAllNear_33 : decode cX10_areAllNear 33 = .ok (.iload_n 3, 1) := by decide +kernel
theorem dX10_areAllNear_34 : decode cX10_areAllNear 34 = .ok (.iaload, 1) := by decide +kernel
theorem dX10_areAllNear_35 : decode cX10_areAllNear 35 = .ok (.iadd, 1) := by decide +kernel
theorem dX10_areAllNear_36 : decode cX10_areAllNear 36 = .ok (.istore_n 2, 1) := by decide +kernel
theorem dX10_areAllNear_37 : decode cX10_areAllNear 37 = .ok (.iinc 3 1, 3) := by decide +kernel
theorem dX10_areAllNear_40 : decode cX10_areAllNear 40 = .ok (.goto (-34), 3) := by decide +kernel
theorem dX10_areAllNear_43 : decode cX10_areAllNear 43 = .ok (.iload_n 1, 1) := by decide +kernel
theorem dX10_areAllNear_44 : decode cX10_areAllNear 44 = .ok (.iload_n 2, 1) := by decide +kernel
theorem dX10_areAllNear_45 : decode cX10_areAllNear 45 = .ok (.invokestatic 297, 3) := by decide +kernel
theorem dX10_areAllNear_48 : decode cX10_areAllNear 48 = .ok (.ireturn, 1) := by decide +kernel
theorem dX10_areNear_0 : decode cX10_areNear 0 = .ok (.iload_n 1, 1) := by decide +kernel
theorem dX10_areNear_1 : decode cX10_areNear 1 = .ok (.aload_n 0, 1) := by decide +kernel
theorem dX10_areNear_2 : decode cX10_areNear 2 = .ok (.getfield 47, 3) := by decide +kernel
theorem dX10_areNear_5 : decode cX10_areNear 5 = .ok (.irem, 1) := by decide +kernel
theorem dX10_areNear_6 : decode cX10_areNear 6 = .ok (.aload_n 0, 1) := by decide +kernel
theorem dX10_areNear_7 : decode cX10_areNear 7 = .ok (.getfield 47, 3) := by decide +kernel
theorem dX10_areNear_10 : decode cX10_areNear 10 = .ok (.iconst 1, 1) := by decide +kernel
theorem dX10_areNear_11 : decode cX10_areNear 11 = .ok (.isub, 1) := by decide +kernel
theorem dX10_areNear_12 : decode cX10_areNear 12 = .ok (.if_icmp .ne 7, 3) := by decide +kernel
theorem dX10_areNear_15 : decode cX10_areNear 15 = .ok (.iconst 1, 1) := by decide +kernel
theorem dX10_areNear_16 : decode cX10_areNear 16 = .ok (.goto 4, 3) := by decide +kernel
theorem dX10_areNear_19 : decode cX10_areNear 19 = .ok (.iconst 0, 1) := by decide +kernel
theorem dX10_areNear_20 : decode cX10_areNear 20 = .ok (.istore_n 2, 1) := by decide +kernel
theorem dX10_areNear_21 : decode cX10_areNear 21 = .ok (.iload_n 1, 1) := by decide +kernel
theorem dX10_areNear_22 : decode cX10_areNear 22 = .ok (.aload_n 0, 1) := by decide +kernel
theorem dX10_areNear_23 : decode cX10_areNear 23 = .ok (.getfield 47, 3) := by decide +kernel
theorem dX10_areNear_26 : decode cX10_areNear 26 = .ok (.idiv, 1) := by decide +kernel
theorem dX10_areNear_27 : decode cX10_areNear 27 = .ok (.aload_n 0, 1) := by decide +kernel
theorem dX10_areNear_28 : decode cX10_areNear 28 = .ok (.getfield 43, 3) := by decide +kernel
theorem dX10_areNear_31 : decode cX10_areNear 31 = .ok (.iconst 1, 1) := by decide +kernel
theorem dX10_areNear_32 : decode cX10_areNear 32 = .ok (.isub, 1) := by decide +kernel
theorem dX10_areNear_33 : decode cX10_areNear 33 = .ok (.if_icmp .ne 7, 3) := by decide +kernel
theorem dX10_areNear_36 : decode cX10_areNear 36 = .ok (.iconst 1, 1) := by decide +kernel
theorem dX10_areNear_37 : decode cX10_areNear 37 = .ok (.goto 4, 3) := by decide +kernel
theorem dX10_areNear_40 : decode cX10_areNear 40 = .ok (.iconst 0, 1) := by decide +kernel
theorem dX10_areNear_41 : decode cX10_areNear 41 = .ok (.istore_n 3, 1) := by decide +kernel
theorem dX10_areNear_42 : decode cX10_areNear 42 = .ok (.iload_n 2, 1) := by decide +kernel
theorem dX10_areNear_43 : decode cX10_areNear 43 = .ok (.ifCond .eq 16, 3) := by decide +kernel
theorem dX10_areNear_46 : decode cX10_areNear 46 = .ok (.aload_n 0, 1) := by decide +kernel
theorem dX10_areNear_47 : decode cX10_areNear 47 = .ok (.iload_n 1, 1) := by decide +kernel
theorem dX10_areNear_48 : decode cX10_areNear 48 = .ok (.aload_n 0, 1) := by decide +kernel
theorem dX10_areNear_49 : decode cX10_areNear 49 = .ok (.getfield 47, 3) := by decide +kernel
theorem dX10_areNear_52 : decode cX10_areNear 52 = .ok (.idiv, 1) := by decide +kernel
theorem dX10_areNear_53 : decode cX10_areNear 53 = .ok (.invokevirtual 300, 3) := by decide +kernel
theorem dX10_areNear_56 : decode cX10_areNear 56 = .ok (.ifCond .eq 7, 3) := by decide +kernel
theorem dX10_areNear_59 : decode cX10_areNear 59 = .ok (.iconst 1, 1) := by decide +kernel
theorem dX10_areNear_60 : decode cX10_areNear 60 = .ok (.goto 4, 3) := by decide +kernel
theorem dX10_areNear_63 : decode cX10_areNear 63 = .ok (.iconst 0, 1) := by decide +kernel
theorem dX10_areNear_64 : decode cX10_areNear 64 = .ok (.istore 4, 2) := by decide +kernel
theorem dX10_areNear_66 : decode cX10_areNear 66 = .ok (.iload 4, 2) := by decide +kernel
theorem dX10_areNear_68 : decode cX10_areNear 68 = .ok (.ifCond .eq 24, 3) := by decide +kernel
theorem dX10_areNear_71 : decode cX10_areNear 71 = .ok (.iload_n 3, 1) := by decide +kernel
theorem dX10_areNear_72 : decode cX10_areNear 72 = .ok (.ifCond .eq 16, 3) := by decide +kernel
theorem dX10_areNear_75 : decode cX10_areNear 75 = .ok (.aload_n 0, 1) := by decide +kernel
theorem dX10_areNear_76 : decode cX10_areNear 76 = .ok (.iload_n 1, 1) := by decide +kernel
theorem dX10_areNear_77 : decode cX10_areNear 77 = .ok (.aload_n 0, 1) := by decide +kernel
theorem dX10_areNear_78 : decode cX10_areNear 78 = .ok (.getfield 47, 3) := by decide +kernel
theorem dX10_areNear_81 : decode cX10_areNear 81 = .ok (.irem, 1) := by decide +kernel
theorem dX10_areNear_82 : decode cX10_areNear 82 = .ok (.invokevirtual 303, 3) := by decide +kernel
theorem dX10_areNear_85 : decode cX10_areNear 85 = .ok (.ifCond .eq 7, 3) := by decide +kernel
theorem dX10_areNear_88 : decode cX10_areNear 88 = .ok (.iconst 1, 1) := by decide +kernel
theorem dX10_areNear_89 : decode cX10_areNear 89 = .ok (.goto 4, 3) := by decide +kernel
theorem dX10_areNear_92 : decode cX10_areNear 92 = .ok (.iconst 0, 1) := by decide +kernel
theorem dX10_areNear_93 : decode cX10_areNear 93 = .ok (.istore 4, 2) := by decide +kernel
theorem dX10_areNear_95 : decode cX10_areNear 95 = .ok (.iload 4, 2) := by decide +kernel
theorem dX10_areNear_97 : decode cX10_areNear 97 = .ok (.ifCond .eq 29, 3) := by decide +kernel
theorem dX10_areNear_100 : decode cX10_areNear 100 = .ok (.iload_n 1, 1) := by decide +kernel
theorem dX10_areNear_101 : decode cX10_areNear 101 = .ok (.aload_n 0, 1) := by decide +kernel
theorem dX10_areNear_102 : decode cX10_areNear 102 = .ok (.getfield 43, 3) := by decide +kernel
theorem dX10_areNear_105 : decode cX10_areNear 105 = .ok (.aload_n 0, 1) := by decide +kernel
theorem dX10_areNear_106 : decode cX10_areNear 106 = .ok (.getfield 47, 3) := by decide +kernel
theorem dX10_areNear_109 : decode cX10_areNear 109 = .ok (.imul, 1) := by decide +kernel
theorem dX10_areNear_110 : decode cX10_areNear 110 = .ok (.iconst 1, 1) := by decide +kernel
theorem dX10_areNear_111 : decode cX10_areNear 111 = .ok (.isub, 1) := by decide +kernel
theorem dX10_areNear_112 : decode cX10_areNear 112 = .ok (.if_icmp .lt 10, 3) := by decide +kernel
theorem dX10_areNear_115 : decode cX10_areNear 115 = .ok (.aload_n 0, 1) := by decide +kernel
theorem dX10_areNear_116 : decode cX10_areNear 116 = .ok (.invokevirtual 306, 3) := by decide +kernel
theorem dX10_areNear_119 : decode cX10_areNear 119 = .ok (.ifCond .eq 7, 3) := by decide +kernel
theorem dX10_areNear_122 : decode cX10_areNear 122 = .ok (.iconst 1, 1) := by decide +kernel
theorem dX10_areNear_123 : decode cX10_areNear 123 = .ok (.goto 4, 3) := by decide +kernel
theorem dX10_areNear_126 : decode cX10_areNear 126 = .ok (.iconst 0, 1) := by decide +kernel
theorem dX10_areNear_127 : decode cX10_areNear 127 = .ok (.ireturn, 1) := by decide +kernel
theorem dX10_roundsAll_0 : decode cX10_roundsAll 0 = .ok (.iconst 0, 1) := by decide +kernel
theorem dX10_roundsAll_1 : decode cX10_roundsAll 1 = .ok (.istore_n 1, 1) := by decide +kernel
theorem dX10_roundsAll_2 : decode cX10_roundsAll 2 = .ok (.aload_n 0, 1) := by decide +kernel
theorem dX10_roundsAll_3 : decode cX10_roundsAll 3 = .ok (.getfield 53, 3) := by decide +kernel
theorem dX10_roundsAll_6 : decode cX10_roundsAll 6 = .ok (.iconst 0, 1) := by decide +kernel
theorem dX10_roundsAll_7 : decode cX10_roundsAll 7 = .ok (.aload_n 0, 1) := by decide +kernel
theorem dX10_roundsAll_8 : decode cX10_roundsAll 8 = .ok (.getfield 50, 3) := by decide +kernel
theorem dX10_roundsAll_11 : decode cX10_roundsAll 11 = .ok (.iconst 0, 1) := by decide +kernel
theorem dX10_roundsAll_12 : decode cX10_roundsAll 12 = .ok (.iaload, 1) := by decide +kernel
theorem dX10_roundsAll_13 : decode cX10_roundsAll 13 = .ok (.bipush 10, 2) := by decide +kernel
theorem dX10_roundsAll_15 : decode cX10_roundsAll 15 = .ok (.idiv, 1) := by decide +kernel
theorem dX10_roundsAll_16 : decode cX10_roundsAll 16 = .ok (.iastore, 1) := by decide +kernel
theorem dX10_roundsAll_17 : decode cX10_roundsAll 17 = .ok (.iconst 0, 1) := by decide +kernel
theorem dX10_roundsAll_18 : decode cX10_roundsAll 18 = .ok (.istore_n 2, 1) := by decide +kernel
theorem dX10_roundsAll_19 : decode cX10_roundsAll 19 = .ok (.iload_n 1, 1) := by decide +kernel
theorem dX10_roundsAll_20 : decode cX10_roundsAll 20 = .ok (.ifCond .lt 116, 3) := by decide +kernel
theorem dX10_roundsAll_23 : decode cX10_roundsAll 23 = .ok (.iload_n 1, 1) := by decide +kernel
theorem dX10_roundsAll_24 : decode cX10_roundsAll 24 = .ok (.aload_n 0, 1) := by decide +kernel
theorem dX10_roundsAll_25 : decode cX10_roundsAll 25 = .ok (.getfield 43, 3) := by decide +kernel
theorem dX10_roundsAll_28 : decode cX10_roundsAll 28 = .ok (.aload_n 0, 1) := by decide +kernel
theorem dX10_roundsAll_29 : decode cX10_roundsAll 29 = .ok (.getfield 47, 3) := by decide +kernel
theorem dX10_roundsAll_32 : decode cX10_roundsAll 32 = .ok (.imul, 1) := by decide +kernel
theorem dX10_roundsAll_33 : decode cX10_roundsAll 33 = .ok (.if_icmp .ge 103, 3) := by decide +kernel
theorem dX10_roundsAll_36 : decode cX10_roundsAll 36 = .ok (.iload_n 2, 1) := by decide +kernel
theorem dX10_roundsAll_37 : decode cX10_roundsAll 37 = .ok (.ifCond .ne 15, 3) := by decide +kernel
theorem dX10_roundsAll_40 : decode cX10_roundsAll 40 = .ok (.aload_n 0, 1) := by decide +kernel
theorem dX10_roundsAll_41 : decode cX10_roundsAll 41 = .ok (.iload_n 1, 1) := by decide +kernel
theorem dX10_roundsAll_42 : decode cX10_roundsAll 42 = .ok (.invokevirtual 310, 3) := by decide +kernel
theorem dX10_roundsAll_45 : decode cX10_roundsAll 45 = .ok (.ifCond .eq 7, 3) := by decide +kernel
theorem dX10_roundsAll_48 : decode cX10_roundsAll 48 = .ok (.iconst 1, 1) := by decide +kernel
theorem dX10_roundsAll_49 : decode cX10_roundsAll 49 = .ok (.goto 4, 3) := by decide +kernel
theorem dX10_roundsAll_52 : decode cX10_roundsAll 52 = .ok (.iconst 0, 1) := by decide +kernel
theorem dX10_roundsAll_53 : decode cX10_roundsAll 53 = .ok (.istore_n 3, 1) := by decide +kernel
theorem dX10_roundsAll_54 : decode cX10_roundsAll 54 = .ok (.iload_n 3, 1) := by decide +kernel
theorem dX10_roundsAll_55 : decode cX10_roundsAll 55 = .ok (.ifCond .eq 37, 3) := by decide +kernel
theorem dX10_roundsAll_58 : decode cX10_roundsAll 58 = .ok (.iinc 1 1, 3) := by decide +kernel
theorem dX10_roundsAll_61 : decode cX10_roundsAll 61 = .ok (.iload_n 1, 1) := by decide +kernel
theorem dX10_roundsAll_62 : decode cX10_roundsAll 62 = .ok (.aload_n 0, 1) := by decide +kernel
theorem dX10_roundsAll_63 : decode cX10_roundsAll 63 = .ok (.getfield 43, 3) := by decide +kernel
theorem dX10_roundsAll_66 : decode cX10_roundsAll 66 = .ok (.aload_n 0, 1) := by decide +kernel
theorem dX10_roundsAll_67 : decode cX10_roundsAll 67 = .ok (.getfield 47, 3) := by decide +kernel
theorem dX10_roundsAll_70 : decode cX10_roundsAll 70 = .ok (.imul, 1) := by decide +kernel
theorem dX10_roundsAll_71 : decode cX10_roundsAll 71 = .ok (.if_icmp .ge 62, 3) := by decide +kernel
theorem dX10_roundsAll_74 : decode cX10_roundsAll 74 = .ok (.aload_n 0, 1) := by decide +kernel
theorem dX10_roundsAll_75 : decode cX10_roundsAll 75 = .ok (.getfield 53, 3) := by decide +kernel
theorem dX10_roundsAll_78 : decode cX10_roundsAll 78 = .ok (.iload_n 1, 1) := by decide +kernel
theorem dX10_roundsAll_79 : decode cX10_roundsAll 79 = .ok (.aload_n 0, 1) := by decide +kernel
theorem dX10_roundsAll_80 : decode cX10_roundsAll 80 = .ok (.getfield 50, 3) := by decide +kernel
theorem dX10_roundsAll_83 : decode cX10_roundsAll 83 = .ok (.iload_n 1, 1) := by decide +kernel
theorem dX10_roundsAll_84 : decode cX10_roundsAll 84 = .ok (.iaload, 1) := by decide +kernel
theorem dX10_roundsAll_85 : decode cX10_roundsAll 85 = .ok (.bipush 10, 2) := by decide +kernel
theorem dX10_roundsAll_87 : decode cX10_roundsAll 87 = .ok (.idiv, 1) := by decide +kernel
theorem dX10_roundsAll_88 : decode cX10_roundsAll 88 = .ok (.iastore, 1) := by decide +kernel
theorem dX10_roundsAll_89 : decode cX10_roundsAll 89 = .ok (.goto 44, 3) := by decide +kernel
theorem dX10_roundsAll_92 : decode cX10_roundsAll 92 = .ok (.aload_n 0, 1) := by decide +kernel
theorem dX10_roundsAll_93 : decode cX10_roundsAll 93 = .ok (.getfield 53, 3) := by decide +kernel
theorem dX10_roundsAll_96 : decode cX10_roundsAll 96 = .ok (.iload_n 1, 1) := by decide +kernel
theorem dX10_roundsAll_97 : decode cX10_roundsAll 97 = .ok (.iaload, 1) := by decide +kernel
theorem dX10_roundsAll_98 : decode cX10_roundsAll 98 = .ok (.aload_n 0, 1) := by decide +kernel
theorem dX10_roundsAll_99 : decode cX10_roundsAll 99 = .ok (.getfield 50, 3) := by decide +kernel
theorem dX10_roundsAll_102 : decode cX10_roundsAll 102 = .ok (.iload_n 1, 1) := by decide +kernel
theorem dX10_roundsAll_103 : decode cX10_roundsAll 103 = .ok (.iaload, 1) := by decide +kernel
theorem dX10_roundsAll_104 : decode cX10_roundsAll 104 = .ok (.bipush 9, 2) := by decide +kernel
theorem dX10_roundsAll_106 : decode cX10_roundsAll 106 = .ok (.iadd, 1) := by decide +kernel
theorem dX10_roundsAll_107 : decode cX10_roundsAll 107 = .ok (.bipush 10, 2) := by decide +kernel
theorem dX10_roundsAll_109 : decode cX10_roundsAll 109 = .ok (.idiv, 1) := by decide +kernel
theorem dX10_roundsAll_110 : decode cX10_roundsAll 110 = .ok (.if_icmp .ge 18, 3) := by decide +kernel
theorem dX10_roundsAll_113 : decode cX10_roundsAll 113 = .ok (.aload_n 0, 1) := by decide +kernel
theorem dX10_roundsAll_114 : decode cX10_roundsAll 114 = .ok (.getfield 53, 3) := by decide +kernel
theorem dX10_roundsAll_117 : decode cX10_roundsAll 117 = .ok (.iload_n 1, 1) := by decide +kernel
theorem dX10_roundsAll_118 : decode cX10_roundsAll 118 = .ok (.dup2, 1) := by decide +kernel
theorem dX10_roundsAll_119 : decode cX10_roundsAll 119 = .ok (.iaload, 1) := by decide +kernel
theorem dX10_roundsAll_120 : decode cX10_roundsAll 120 = .ok (.iconst 1, 1) := by decide +kernel
theorem dX10_roundsAll_121 : decode cX10_roundsAll 121 = .ok (.iadd, 1) := by decide +kernel
theorem dX10_roundsAll_122 : decode cX10_roundsAll 122 = .ok (.iastore, 1) := by decide +kernel
theorem dX10_roundsAll_123 : decode cX10_roundsAll 123 = .ok (.iconst 0, 1) := by decide +kernel
theorem dX10_roundsAll_124 : decode cX10_roundsAll 124 = .ok (.istore_n 2, 1) := by decide +kernel
theorem dX10_roundsAll_125 : decode cX10_roundsAll 125 = .ok (.goto 8, 3) := by decide +kernel
theorem dX10_roundsAll_128 : decode cX10_roundsAll 128 = .ok (.iinc 1 (-1), 3) := by decide +kernel
theorem dX10_roundsAll_131 : decode cX10_roundsAll 131 = .ok (.iconst 1, 1) := by decide +kernel
theorem dX10_roundsAll_132 : decode cX10_roundsAll 132 = .ok (.istore_n 2, 1) := by decide +kernel
theorem dX10_roundsAll_133 : decode cX10_roundsAll 133 = .ok (.goto (-114), 3) := by decide +kernel
theorem dX10_roundsAll_136 : decode cX10_roundsAll 136 = .ok (.return_, 1) := by decide +kernel
theorem dX10_rounded_0 : decode cX10_rounded 0 = .ok (.aload_n 0, 1) := by decide +kernel
theorem dX10_rounded_1 : decode cX10_rounded 1 = .ok (.iload_n 1, 1) := by decide +kernel
theorem dX10_rounded_2 : decode cX10_rounded 2 = .ok (.iconst 0, 1) := by decide +kernel
theorem dX10_rounded_3 : decode cX10_rounded 3 = .ok (.aload_n 0, 1) := by decide +kernel
theorem dX10_rounded_4 : decode cX10_rounded 4 = .ok (.getfield 43, 3) := by decide +kernel
theorem dX10_rounded_7 : decode cX10_rounded 7 = .ok (.iconst 1, 1) := by decide +kernel
theorem dX10_rounded_8 : decode cX10_rounded 8 = .ok (.isub, 1) := by decide +kernel
theorem dX10_rounded_9 : decode cX10_rounded 9 = .ok (.invokestatic 102, 3) := by decide +kernel
theorem dX10_rounded_12 : decode cX10_rounded 12 = .ok (.ifCond .eq 17, 3) := by decide +kernel
theorem dX10_rounded_15 : decode cX10_rounded 15 = .ok (.iload_n 2, 1) := by decide +kernel
theorem dX10_rounded_16 : decode cX10_rounded 16 = .ok (.iconst 0, 1) := by decide +kernel
theorem dX10_rounded_17 : decode cX10_rounded 17 = .ok (.aload_n 0, 1) := by decide +kernel
theorem dX10_rounded_18 : decode cX10_rounded 18 = .ok (.getfield 47, 3) := by decide +kernel
theorem dX10_rounded_21 : decode cX10_rounded 21 = .ok (.iconst 1, 1) := by decide +kernel
theorem dX10_rounded_22 : decode cX10_rounded 22 = .ok (.isub, 1) := by decide +kernel
theorem dX10_rounded_23 : decode cX10_rounded 23 = .ok (.invokestatic 102, 3) := by decide +kernel
theorem dX10_rounded_26 : decode cX10_rounded 26 = .ok (.ifCond .ne 7, 3) := by decide +kernel
theorem dX10_rounded_29 : decode cX10_rounded 29 = .ok (.iconst 1, 1) := by decide +kernel
theorem dX10_rounded_30 : decode cX10_rounded 30 = .ok (.goto 4, 3) := by decide +kernel
theorem dX10_rounded_33 : decode cX10_rounded 33 = .ok (.iconst 0, 1) := by decide +kernel
theorem dX10_rounded_34 : decode cX10_rounded 34 = .ok (.putfield 92, 3) := by decide +kernel
theorem dX10_rounded_37 : decode cX10_rounded 37 = .ok (.aload_n 0, 1) := by decide +kernel
theorem dX10_rounded_38 : decode cX10_rounded 38 = .ok (.getfield 92, 3) := by decide +kernel
theorem dX10_rounded_41 : decode cX10_rounded 41 = .ok (.ifCond .le 5, 3) := by decide +kernel
theorem dX10_rounded_44 : decode cX10_rounded 44 = .ok (.iconst 0, 1) := by decide +kernel
theorem dX10_rounded_45 : decode cX10_rounded 45 = .ok (.ireturn, 1) := by decide +kernel
theorem dX10_rounded_46 : decode cX10_rounded 46 = .ok (.aload_n 0, 1) := by decide +kernel
theorem dX10_rounded_47 : decode cX10_rounded 47 = .ok (.invokevirtual 313, 3) := by decide +kernel
theorem dX10_rounded_50 : decode cX10_rounded 50 = .ok (.aload_n 0, 1) := by decide +kernel
theorem dX10_rounded_51 : decode cX10_rounded 51 = .ok (.getfield 53, 3) := by decide +kernel
theorem dX10_rounded_54 : decode cX10_rounded 54 = .ok (.aload_n 0, 1) := by decide +kernel
theorem dX10_rounded_55 : decode cX10_rounded 55 = .ok (.getfield 47, 3) := by decide +kernel
theorem dX10_rounded_58 : decode cX10_rounded 58 = .ok (.iload_n 1, 1) := by decide +kernel
theorem dX10_rounded_59 : decode cX10_rounded 59 = .ok (.imul, 1) := by decide +kernel
theorem dX10_rounded_60 : decode cX10_rounded 60 = .ok (.iload_n 2, 1) := by decide +kernel
theorem dX10_rounded_61 : decode cX10_rounded 61 = .ok (.iadd, 1) := by decide +kernel
theorem dX10_rounded_62 : decode cX10_rounded 62 = .ok (.iaload, 1) := by decide +kernel
theorem dX10_rounded_63 : decode cX10_rounded 63 = .ok (.ireturn, 1) := by decide +kernel
theorem dX10_project_0 : decode cX10_project 0 = .ok (.aload_n 0, 1) := by decide +kernel
theorem dX10_project_1 : decode cX10_project 1 = .ok (.iload_n 1, 1) := by decide +kernel
theorem dX10_project_2 : decode cX10_project 2 = .ok (.iconst 0, 1) := by decide +kernel
theorem dX10_project_3 : decode cX10_project 3 = .ok (.bipush 99, 2) := by decide +kernel
theorem dX10_project_5 : decode cX10_project 5 = .ok (.invokestatic 102, 3) := by decide +kernel
theorem dX10_project_8 : decode cX10_project 8 = .ok (.ifCond .eq 14, 3) := by decide +kernel
theorem dX10_project_11 : decode cX10_project 11 = .ok (.iload_n 2, 1) := by decide +kernel
theorem dX10_project_12 : decode cX10_project 12 = .ok (.iconst 0, 1) := by decide +kernel
theorem dX10_project_13 : decode cX10_project 13 = .ok (.sipush 255, 3) := by decide +kernel
theorem dX10_project_16 : decode cX10_project 16 = .ok (.invokestatic 102, 3) := by decide +kernel
theorem dX10_project_19 : decode cX10_project 19 = .ok (.ifCond .ne 7, 3) := by decide +kernel
theorem dX10_project_22 : decode cX10_project 22 = .ok (.iconst 1, 1) := by decide +kernel
theorem dX10_project_23 : decode cX10_project 23 = .ok (.goto 17, 3) := by decide +kernel
theorem dX10_project_26 : decode cX10_project 26 = .ok (.aload_n 0, 1) := by decide +kernel
theorem dX10_project_27 : decode cX10_project 27 = .ok (.getfield 316, 3) := by decide +kernel
theorem dX10_project_30 : decode cX10_project 30 = .ok (.bipush 8, 2) := by decide +kernel
theorem dX10_project_32 : decode cX10_project 32 = .ok (.if_icmp .ne 7, 3) := by decide +kernel
theorem dX10_project_35 : decode cX10_project 35 = .ok (.iconst 2, 1) := by decide +kernel
theorem dX10_project_36 : decode cX10_project 36 = .ok (.goto 4, 3) := by decide +kernel
theorem dX10_project_39 : decode cX10_project 39 = .ok (.iconst 0, 1) := by decide +kernel
theorem dX10_project_40 : decode cX10_project 40 = .ok (.putfield 92, 3) := by decide +kernel
theorem dX10_project_43 : decode cX10_project 43 = .ok (.aload_n 0, 1) := by decide +kernel
theorem dX10_project_44 : decode cX10_project 44 = .ok (.getfield 92, 3) := by decide +kernel
theorem dX10_project_47 : decode cX10_project 47 = .ok (.ifCond .le 5, 3) := by decide +kernel
theorem dX10_project_50 : decode cX10_project 50 = .ok (.iconst 0, 1) := by decide +kernel
theorem dX10_project_51 : decode cX10_project 51 = .ok (.ireturn, 1) := by decide +kernel
theorem dX10_project_52 : decode cX10_project 52 = .ok (.aload_n 0, 1) := by decide +kernel
theorem dX10_project_53 : decode cX10_project 53 = .ok (.getfield 56, 3) := by decide +kernel
theorem dX10_project_56 : decode cX10_project 56 = .ok (.aload_n 0, 1) := by decide +kernel
theorem dX10_project_57 : decode cX10_project 57 = .ok (.getfield 316, 3) := by decide +kernel
theorem dX10_project_60 : decode cX10_project 60 = .ok (.iload_n 1, 1) := by decide +kernel
theorem dX10_project_61 : decode cX10_project 61 = .ok (.iastore, 1) := by decide +kernel
theorem dX10_project_62 : decode cX10_project 62 = .ok (.aload_n 0, 1) := by decide +kernel
theorem dX10_project_63 : decode cX10_project 63 = .ok (.getfield 59, 3) := by decide +kernel
theorem dX10_project_66 : decode cX10_project 66 = .ok (.aload_n 0, 1) := by decide +kernel
theorem dX10_project_67 : decode cX10_project 67 = .ok (.getfield 316, 3) := by decide +kernel
theorem dX10_project_70 : decode cX10_project 70 = .ok (.iload_n 2, 1) := by decide +kernel
theorem dX10_project_71 : decode cX10_project 71 = .ok (.iastore, 1) := by decide +kernel
theorem dX10_project_72 : decode cX10_project 72 = .ok (.aload_n 0, 1) := by decide +kernel
theorem dX10_project_73 : decode cX10_project 73 = .ok (.dup, 1) := by decide +kernel
theorem dX10_project_74 : decode cX10_project 74 = .ok (.getfield 316, 3) := by decide +kernel
theorem dX10_project_77 : decode cX10_project 77 = .ok (.iconst 1, 1) := by decide +kernel
theorem dX10_project_78 : decode cX10_project 78 = .ok (.iadd, 1) := by decide +kernel
theorem dX10_project_79 : decode cX10_project 79 = .ok (.putfield 316, 3) := by decide +kernel
theorem dX10_project_82 : decode cX10_project 82 = .ok (.aload_n 0, 1) := by decide +kernel
theorem dX10_project_83 : decode cX10_project 83 = .ok (.getfield 316, 3) := by decide +kernel
theorem dX10_project_86 : decode cX10_project 86 = .ok (.iconst 1, 1) := by decide +kernel
theorem dX10_project_87 : decode cX10_project 87 = .ok (.isub, 1) := by decide +kernel
theorem dX10_project_88 : decode cX10_project 88 = .ok (.ireturn, 1) := by decide +kernel
theorem dX10_toolCost_0 : decode cX10_toolCost 0 = .ok (.aload_n 0, 1) := by decide +kernel
theorem dX10_toolCost_1 : decode cX10_toolCost 1 = .ok (.iload_n 1, 1) := by decide +kernel
theorem dX10_toolCost_2 : decode cX10_toolCost 2 = .ok (.iconst 0, 1) := by decide +kernel
theorem dX10_toolCost_3 : decode cX10_toolCost 3 = .ok (.bipush 7, 2) := by decide +kernel
theorem dX10_toolCost_5 : decode cX10_toolCost 5 = .ok (.invokestatic 102, 3) := by decide +kernel
theorem dX10_toolCost_8 : decode cX10_toolCost 8 = .ok (.ifCond .ne 7, 3) := by decide +kernel
theorem dX10_toolCost_11 : decode cX10_toolCost 11 = .ok (.iconst 1, 1) := by decide +kernel
theorem dX10_toolCost_12 : decode cX10_toolCost 12 = .ok (.goto 18, 3) := by decide +kernel
theorem dX10_toolCost_15 : decode cX10_toolCost 15 = .ok (.iload_n 2, 1) := by decide +kernel
theorem dX10_toolCost_16 : decode cX10_toolCost 16 = .ok (.iconst 0, 1) := by decide +kernel
theorem dX10_toolCost_17 : decode cX10_toolCost 17 = .ok (.bipush 99, 2) := by decide +kernel
theorem dX10_toolCost_19 : decode cX10_toolCost 19 = .ok (.invokestatic 102, 3) := by decide +kernel
theorem dX10_toolCost_22 : decode cX10_toolCost 22 = .ok (.ifCond .ne 7, 3) := by decide +kernel
theorem dX10_toolCost_25 : decode cX10_toolCost 25 = .ok (.iconst 2, 1) := by decide +kernel
theorem dX10_toolCost_26 : decode cX10_toolCost 26 = .ok (.goto 4, 3) := by decide +kernel
theorem dX10_toolCost_29 : decode cX10_toolCost 29 = .ok (.iconst 0, 1) := by decide +kernel
theorem dX10_toolCost_30 : decode cX10_toolCost 30 = .ok (.putfield 92, 3) := by decide +kernel
theorem dX10_toolCost_33 : decode cX10_toolCost 33 = .ok (.aload_n 0, 1) := by decide +kernel
theorem dX10_toolCost_34 : decode cX10_toolCost 34 = .ok (.getfield 92, 3) := by decide +kernel
theorem dX10_toolCost_37 : decode cX10_toolCost 37 = .ok (.ifCond .le 5, 3) := by decide +kernel
theorem dX10_toolCost_40 : decode cX10_toolCost 40 = .ok (.iconst 0, 1) := by decide +kernel
theorem dX10_toolCost_41 : decode cX10_toolCost 41 = .ok (.ireturn, 1) := by decide +kernel
theorem dX10_toolCost_42 : decode cX10_toolCost 42 = .ok (.aload_n 0, 1) := by decide +kernel
theorem dX10_toolCost_43 : decode cX10_toolCost 43 = .ok (.getfield 62, 3) := by decide +kernel
theorem dX10_toolCost_46 : decode cX10_toolCost 46 = .ok (.iload_n 1, 1) := by decide +kernel
theorem dX10_toolCost_47 : decode cX10_toolCost 47 = .ok (.iaload, 1) := by decide +kernel
theorem dX10_toolCost_48 : decode cX10_toolCost 48 = .ok (.istore_n 3, 1) := by decide +kernel
theorem dX10_toolCost_49 : decode cX10_toolCost 49 = .ok (.aload_n 0, 1) := by decide +kernel
theorem dX10_toolCost_50 : decode cX10_toolCost 50 = .ok (.getfield 62, 3) := by decide +kernel
theorem dX10_toolCost_53 : decode cX10_toolCost 53 = .ok (.iload_n 1, 1) := by decide +kernel
theorem dX10_toolCost_54 : decode cX10_toolCost 54 = .ok (.iload_n 2, 1) := by decide +kernel
theorem dX10_toolCost_55 : decode cX10_toolCost 55 = .ok (.iastore, 1) := by decide +kernel
theorem dX10_toolCost_56 : decode cX10_toolCost 56 = .ok (.iload_n 3, 1) := by decide +kernel
theorem dX10_toolCost_57 : decode cX10_toolCost 57 = .ok (.ireturn, 1) := by decide +kernel
theorem dX10_worthOf_0 : decode cX10_worthOf 0 = .ok (.iconst 0, 1) := by decide +kernel
theorem dX10_worthOf_1 : decode cX10_worthOf 1 = .ok (.istore_n 2, 1) := by decide +kernel
theorem dX10_worthOf_2 : decode cX10_worthOf 2 = .ok (.iconst 0, 1) := by decide +kernel
theorem dX10_worthOf_3 : decode cX10_worthOf 3 = .ok (.istore_n 3, 1) := by decide +kernel
theorem dX10_worthOf_4 : decode cX10_worthOf 4 = .ok (.iconst 0, 1) := by decide +kernel
theorem dX10_worthOf_5 : decode cX10_worthOf 5 = .ok (.istore 4, 2) := by decide +kernel
theorem dX10_worthOf_7 : decode cX10_worthOf 7 = .ok (.iload 4, 2) := by decide +kernel
theorem dX10_worthOf_9 : decode cX10_worthOf 9 = .ok (.aload_n 0, 1) := by decide +kernel
theorem dX10_worthOf_10 : decode cX10_worthOf 10 = .ok (.getfield 316, 3) := by decide +kernel
theorem dX10_worthOf_13 : decode cX10_worthOf 13 = .ok (.if_icmp .ge 55, 3) := by decide +kernel
theorem dX10_worthOf_16 : decode cX10_worthOf 16 = .ok (.iload_n 2, 1) := by decide +kernel
theorem dX10_worthOf_17 : decode cX10_worthOf 17 = .ok (.iload_n 1, 1) := by decide +kernel
theorem dX10_worthOf_18 : decode cX10_worthOf 18 = .ok (.iload 4, 2) := by decide +kernel
theorem dX10_worthOf_20 : decode cX10_worthOf 20 = .ok (.invokestatic 95, 3) := by decide +kernel
theorem dX10_worthOf_23 : decode cX10_worthOf 23 = .ok (.ifCond .eq 13, 3) := by decide +kernel
theorem dX10_worthOf_26 : decode cX10_worthOf 26 = .ok (.aload_n 0, 1) := by decide +kernel
theorem dX10_worthOf_27 : decode cX10_worthOf 27 = .ok (.getfield 56, 3) := by decide +kernel
theorem dX10_worthOf_30 : decode cX10_worthOf 30 = .ok (.iload 4, 2) := by decide +kernel
theorem dX10_worthOf_32 : decode cX10_worthOf 32 = .ok (.iaload, 1) := by decide +kernel
theorem dX10_worthOf_33 : decode cX10_worthOf 33 = .ok (.goto 4, 3) := by decide +kernel
theorem dX10_worthOf_36 : decode cX10_worthOf 36 = .ok (.iconst 0, 1) := by decide +kernel
theorem dX10_worthOf_37 : decode cX10_worthOf 37 = .ok (.iadd, 1) := by decide +kernel
theorem dX10_worthOf_38 : decode cX10_worthOf 38 = .ok (.istore_n 2, 1) := by decide +kernel
theorem dX10_worthOf_39 : decode cX10_worthOf 39 = .ok (.iload_n 3, 1) := by decide +kernel
theorem dX10_worthOf_40 : decode cX10_worthOf 40 = .ok (.iload_n 1, 1) := by decide +kernel
theorem dX10_worthOf_41 : decode cX10_worthOf 41 = .ok (.iload 4, 2) := by decide +kernel
theorem dX10_worthOf_43 : decode cX10_worthOf 43 = .ok (.invokestatic 95, 3) := by decide +kernel
theorem dX10_worthOf_46 : decode cX10_worthOf 46 = .ok (.ifCond .eq 13, 3) := by decide +kernel
theorem dX10_worthOf_49 : decode cX10_worthOf 49 = .ok (.aload_n 0, 1) := by decide +kernel
theorem dX10_worthOf_50 : decode cX10_worthOf 50 = .ok (.getfield 59, 3) := by decide +kernel
theorem dX10_worthOf_53 : decode cX10_worthOf 53 = .ok (.iload 4, 2) := by decide +kernel
theorem dX10_worthOf_55 : decode cX10_worthOf 55 = .ok (.iaload, 1) := by decide +kernel
theorem dX10_worthOf_56 : decode cX10_worthOf 56 = .ok (.goto 4, 3) := by decide +kernel
theorem dX10_worthOf_59 : decode cX10_worthOf 59 = .ok (.iconst 0, 1) := by decide +kernel
theorem dX10_worthOf_60 : decode cX10_worthOf 60 = .ok (.ior, 1) := by decide +kernel
theorem dX10_worthOf_61 : decode cX10_worthOf 61 = .ok (.istore_n 3, 1) := by decide +kernel
theorem dX10_worthOf_62 : decode cX10_worthOf 62 = .ok (.iinc 4 1, 3) := by decide +kernel
theorem dX10_worthOf_65 : decode cX10_worthOf 65 = .ok (.goto (-58), 3) := by decide +kernel
theorem dX10_worthOf_68 : decode cX10_worthOf 68 = .ok (.iconst 0, 1) := by decide +kernel
theorem dX10_worthOf_69 : decode cX10_worthOf 69 = .ok (.istore 4, 2) := by decide +kernel
theorem dX10_worthOf_71 : decode cX10_worthOf 71 = .ok (.iload 4, 2) := by decide +kernel
theorem dX10_worthOf_73 : decode cX10_worthOf 73 = .ok (.bipush 8, 2) := by decide +kernel
theorem dX10_worthOf_75 : decode cX10_worthOf 75 = .ok (.if_icmp .ge 32, 3) := by decide +kernel
theorem dX10_worthOf_78 : decode cX10_worthOf 78 = .ok (.iload_n 2, 1) := by decide +kernel
theorem dX10_worthOf_79 : decode cX10_worthOf 79 = .ok (.iload_n 3, 1) := by decide +kernel
theorem dX10_worthOf_80 : decode cX10_worthOf 80 = .ok (.iload 4, 2) := by decide +kernel
theorem dX10_worthOf_82 : decode cX10_worthOf 82 = .ok (.invokestatic 95, 3) := by decide +kernel
theorem dX10_worthOf_85 : decode cX10_worthOf 85 = .ok (.ifCond .eq 13, 3) := by decide +kernel
theorem dX10_worthOf_88 : decode cX10_worthOf 88 = .ok (.aload_n 0, 1) := by decide +kernel
theorem dX10_worthOf_89 : decode cX10_worthOf 89 = .ok (.getfield 62, 3) := by decide +kernel
theorem dX10_worthOf_92 : decode cX10_worthOf 92 = .ok (.iload 4, 2) := by decide +kernel
theorem dX10_worthOf_94 : decode cX10_worthOf 94 = .ok (.iaload, 1) := by decide +kernel
theorem dX10_worthOf_95 : decode cX10_worthOf 95 = .ok (.goto 4, 3) := by decide +kernel
theorem dX10_worthOf_98 : decode cX10_worthOf 98 = .ok (.iconst 0, 1) := by decide +kernel
theorem dX10_worthOf_99 : decode cX10_worthOf 99 = .ok (.isub, 1) := by decide +kernel
theorem dX10_worthOf_100 : decode cX10_worthOf 100 = .ok (.istore_n 2, 1) := by decide +kernel
theorem dX10_worthOf_101 : decode cX10_worthOf 101 = .ok (.iinc 4 1, 3) := by decide +kernel
theorem dX10_worthOf_104 : decode cX10_worthOf 104 = .ok (.goto (-33), 3) := by decide +kernel
theorem dX10_worthOf_107 : decode cX10_worthOf 107 = .ok (.iload_n 2, 1) := by decide +kernel
theorem dX10_worthOf_108 : decode cX10_worthOf 108 = .ok (.ireturn, 1) := by decide +kernel
theorem dX10_best_0 : decode cX10_best 0 = .ok (.aload_n 0, 1) := by decide +kernel
theorem dX10_best_1 : decode cX10_best 1 = .ok (.iconst 0, 1) := by decide +kernel
theorem dX10_best_2 : decode cX10_best 2 = .ok (.putfield 92, 3) := by decide +kernel
theorem dX10_best_5 : decode cX10_best 5 = .ok (.iconst 0, 1) := by decide +kernel
theorem dX10_best_6 : decode cX10_best 6 = .ok (.istore_n 1, 1) := by decide +kernel
theorem dX10_best_7 : decode cX10_best 7 = .ok (.iconst 0, 1) := by decide +kernel
theorem dX10_best_8 : decode cX10_best 8 = .ok (.istore_n 2, 1) := by decide +kernel
theorem dX10_best_9 : decode cX10_best 9 = .ok (.iload_n 2, 1) := by decide +kernel
theorem dX10_best_10 : decode cX10_best 10 = .ok (.iconst 1, 1) := by decide +kernel
theorem dX10_best_11 : decode cX10_best 11 = .ok (.aload_n 0, 1) := by decide +kernel
theorem dX10_best_12 : decode cX10_best 12 = .ok (.getfield 316, 3) := by decide +kernel
theorem dX10_best_15 : decode cX10_best 15 = .ok (.ishl, 1) := by decide +kernel
theorem dX10_best_16 : decode cX10_best 16 = .ok (.if_icmp .ge 19, 3) := by decide +kernel
theorem dX10_best_19 : decode cX10_best 19 = .ok (.iload_n 1, 1) := by decide +kernel
theorem dX10_best_20 : decode cX10_best 20 = .ok (.aload_n 0, 1) := by decide +kernel
theorem dX10_best_21 : decode cX10_best 21 = .ok (.iload_n 2, 1) := by decide +kernel
theorem dX10_best_22 : decode cX10_best 22 = .ok (.invokevirtual 319, 3) := by decide +kernel
theorem dX10_best_25 : decode cX10_best 25 = .ok (.invokestatic 160, 3) := by decide +kernel
theorem dX10_best_28 : decode cX10_best 28 = .ok (.istore_n 1, 1) := by decide +kernel
theorem dX10_best_29 : decode cX10_best 29 = .ok (.iinc 2 1, 3) := by decide +kernel
theorem dX10_best_32 : decode cX10_best 32 = .ok (.goto (-23), 3) := by decide +kernel
theorem dX10_best_35 : decode cX10_best 35 = .ok (.iload_n 1, 1) := by decide +kernel
theorem dX10_best_36 : decode cX10_best 36 = .ok (.ireturn, 1) := by decide +kernel
theorem dX10_chosen_0 : decode cX10_chosen 0 = .ok (.aload_n 0, 1) := by decide +kernel
theorem dX10_chosen_1 : decode cX10_chosen 1 = .ok (.invokevirtual 322, 3) := by decide +kernel
theorem dX10_chosen_4 : decode cX10_chosen 4 = .ok (.istore_n 2, 1) := by decide +kernel
theorem dX10_chosen_5 : decode cX10_chosen 5 = .ok (.iload_n 1, 1) := by decide +kernel
theorem dX10_chosen_6 : decode cX10_chosen 6 = .ok (.ifCond .eq 7, 3) := by decide +kernel
theorem dX10_chosen_9 : decode cX10_chosen 9 = .ok (.iconst 0, 1) := by decide +kernel
theorem dX10_chosen_10 : decode cX10_chosen 10 = .ok (.goto 11, 3) := by decide +kernel
theorem dX10_chosen_13 : decode cX10_chosen 13 = .ok (.iconst 1, 1) := by decide +kernel
theorem dX10_chosen_14 : decode cX10_chosen 14 = .ok (.aload_n 0, 1) := by decide +kernel
theorem dX10_chosen_15 : decode cX10_chosen 15 = .ok (.getfield 316, 3) := by decide +kernel
theorem dX10_chosen_18 : decode cX10_chosen 18 = .ok (.ishl, 1) := by decide +kernel
theorem dX10_chosen_19 : decode cX10_chosen 19 = .ok (.iconst 1, 1) := by decide +kernel
theorem dX10_chosen_20 : decode cX10_chosen 20 = .ok (.isub, 1) := by decide +kernel
theorem dX10_chosen_21 : decode cX10_chosen 21 = .ok (.istore_n 3, 1) := by decide +kernel
theorem dX10_chosen_22 : decode cX10_chosen 22 = .ok (.iconst 0, 1) := by decide +kernel
theorem dX10_chosen_23 : decode cX10_chosen 23 = .ok (.istore 4, 2) := by decide +kernel
theorem dX10_chosen_25 : decode cX10_chosen 25 = .ok (.iload 4, 2) := by decide +kernel
theorem dX10_chosen_27 : decode cX10_chosen 27 = .ok (.iconst 1, 1) := by decide +kernel
theorem dX10_chosen_28 : decode cX10_chosen 28 = .ok (.aload_n 0, 1) := by decide +kernel
theorem dX10_chosen_29 : decode cX10_chosen 29 = .ok (.getfield 316, 3) := by decide +kernel
theorem dX10_chosen_32 : decode cX10_chosen 32 = .ok (.ishl, 1) := by decide +kernel
theorem dX10_chosen_33 : decode cX10_chosen 33 = .ok (.if_icmp .ge 35, 3) := by decide +kernel
theorem dX10_chosen_36 : decode cX10_chosen 36 = .ok (.aload_n 0, 1) := by decide +kernel
theorem dX10_chosen_37 : decode cX10_chosen 37 = .ok (.iload 4, 2) := by decide +kernel
theorem dX10_chosen_39 : decode cX10_chosen 39 = .ok (.invokevirtual 319, 3) := by decide +kernel
theorem dX10_chosen_42 : decode cX10_chosen 42 = .ok (.iload_n 2, 1) := by decide +kernel
theorem dX10_chosen_43 : decode cX10_chosen 43 = .ok (.if_icmp .ne 19, 3) := by decide +kernel
theorem dX10_chosen_46 : decode cX10_chosen 46 = .ok (.iload_n 1, 1) := by decide +kernel
theorem dX10_chosen_47 : decode cX10_chosen 47 = .ok (.ifCond .eq 10, 3) := by decide +kernel
theorem dX10_chosen_50 : decode cX10_chosen 50 = .ok (.iload_n 3, 1) := by decide +kernel
theorem dX10_chosen_51 : decode cX10_chosen 51 = .ok (.iload 4, 2) := by decide +kernel
theorem dX10_chosen_53 : decode cX10_chosen 53 = .ok (.ior, 1) := by decide +kernel
theorem dX10_chosen_54 : decode cX10_chosen 54 = .ok (.goto 7, 3) := by decide +kernel
theorem dX10_chosen_57 : decode cX10_chosen 57 = .ok (.iload_n 3, 1) := by decide +kernel
theorem dX10_chosen_58 : decode cX10_chosen 58 = .ok (.iload 4, 2) := by decide +kernel
theorem dX10_chosen_60 : decode cX10_chosen 60 = .ok (.iand, 1) := by decide +kernel
theorem dX10_chosen_61 : decode cX10_chosen 61 = .ok (.istore_n 3, 1) := by decide +kernel
theorem dX10_chosen_62 : decode cX10_chosen 62 = .ok (.iinc 4 1, 3) := by decide +kernel
theorem dX10_chosen_65 : decode cX10_chosen 65 = .ok (.goto (-40), 3) := by decide +kernel
theorem dX10_chosen_68 : decode cX10_chosen 68 = .ok (.iload_n 3, 1) := by decide +kernel
theorem dX10_chosen_69 : decode cX10_chosen 69 = .ok (.ireturn, 1) := by decide +kernel
theorem dX10_checksum_0 : decode cX10_checksum 0 = .ok (.aload_n 0, 1) := by decide +kernel
theorem dX10_checksum_1 : decode cX10_checksum 1 = .ok (.aload_n 0, 1) := by decide +kernel
theorem dX10_checksum_2 : decode cX10_checksum 2 = .ok (.iload_n 1, 1) := by decide +kernel
theorem dX10_checksum_3 : decode cX10_checksum 3 = .ok (.invokevirtual 109, 3) := by decide +kernel
theorem dX10_checksum_6 : decode cX10_checksum 6 = .ok (.ifCond .ne 7, 3) := by decide +kernel
theorem dX10_checksum_9 : decode cX10_checksum 9 = .ok (.iconst 1, 1) := by decide +kernel
theorem dX10_checksum_10 : decode cX10_checksum 10 = .ok (.goto 4, 3) := by decide +kernel
theorem dX10_checksum_13 : decode cX10_checksum 13 = .ok (.iconst 0, 1) := by decide +kernel
theorem dX10_checksum_14 : decode cX10_checksum 14 = .ok (.putfield 92, 3) := by decide +kernel
theorem dX10_checksum_17 : decode cX10_checksum 17 = .ok (.aload_n 0, 1) := by decide +kernel
theorem dX10_checksum_18 : decode cX10_checksum 18 = .ok (.getfield 92, 3) := by decide +kernel
theorem dX10_checksum_21 : decode cX10_checksum 21 = .ok (.ifCond .le 5, 3) := by decide +kernel
theorem dX10_checksum_24 : decode cX10_checksum 24 = .ok (.lconst 0, 1) := by decide +kernel
theorem dX10_checksum_25 : decode cX10_checksum 25 = .ok (.lreturn, 1) := by decide +kernel
theorem dX10_checksum_26 : decode cX10_checksum 26 = .ok (.ldc2_w 326, 3) := by decide +kernel
theorem dX10_checksum_29 : decode cX10_checksum 29 = .ok (.lstore_n 2, 1) := by decide +kernel
theorem dX10_checksum_30 : decode cX10_checksum 30 = .ok (.bipush 16, 2) := by decide +kernel
theorem dX10_checksum_32 : decode cX10_checksum 32 = .ok (.iload_n 1, 1) := by decide +kernel
theorem dX10_checksum_33 : decode cX10_checksum 33 = .ok (.imul, 1) := by decide +kernel
theorem dX10_checksum_34 : decode cX10_checksum 34 = .ok (.istore 4, 2) := by decide +kernel
theorem dX10_checksum_36 : decode cX10_checksum 36 = .ok (.iload 4, 2) := by decide +kernel
theorem dX10_checksum_38 : decode cX10_checksum 38 = .ok (.bipush 16, 2) := by decide +kernel
theorem dX10_checksum_40 : decode cX10_checksum 40 = .ok (.iload_n 1, 1) := by decide +kernel
theorem dX10_checksum_41 : decode cX10_checksum 41 = .ok (.imul, 1) := by decide +kernel
theorem dX10_checksum_42 : decode cX10_checksum 42 = .ok (.aload_n 0, 1) := by decide +kernel
theorem dX10_checksum_43 : decode cX10_checksum 43 = .ok (.getfield 13, 3) := by decide +kernel
theorem dX10_checksum_46 : decode cX10_checksum 46 = .ok (.iload_n 1, 1) := by decide +kernel
theorem dX10_checksum_47 : decode cX10_checksum 47 = .ok (.iaload, 1) := by decide +kernel
theorem dX10_checksum_48 : decode cX10_checksum 48 = .ok (.iadd, 1) := by decide +kernel
theorem dX10_checksum_49 : decode cX10_checksum 49 = .ok (.if_icmp .ge 84, 3) := by decide +kernel
theorem dX10_checksum_52 : decode cX10_checksum 52 = .ok (.ldc2_w 328, 3) := by decide +kernel
theorem dX10_checksum_55 : decode cX10_checksum 55 = .ok (.lload_n 2, 1) := by decide +kernel
theorem dX10_checksum_56 : decode cX10_checksum 56 = .ok (.lmul, 1) := by decide +kernel
theorem dX10_checksum_57 : decode cX10_checksum 57 = .ok (.aload_n 0, 1) := by decide +kernel
theorem dX10_checksum_58 : decode cX10_checksum 58 = .ok (.getfield 16, 3) := by decide +kernel
theorem dX10_checksum_61 : decode cX10_checksum 61 = .ok (.iload 4, 2) := by decide +kernel
theorem dX10_checksum_63 : decode cX10_checksum 63 = .ok (.iaload, 1) := by decide +kernel
theorem dX10_checksum_64 : decode cX10_checksum 64 = .ok (.i2l, 1) := by decide +kernel
theorem dX10_checksum_65 : decode cX10_checksum 65 = .ok (.ladd, 1) := by decide +kernel
theorem dX10_checksum_66 : decode cX10_checksum 66 = .ok (.lstore_n 2, 1) := by decide +kernel
theorem dX10_checksum_67 : decode cX10_checksum 67 = .ok (.ldc2_w 328, 3) := by decide +kernel
theorem dX10_checksum_70 : decode cX10_checksum 70 = .ok (.lload_n 2, 1) := by decide +kernel
theorem dX10_checksum_71 : decode cX10_checksum 71 = .ok (.lmul, 1) := by decide +kernel
theorem dX10_checksum_72 : decode cX10_checksum 72 = .ok (.aload_n 0, 1) := by decide +kernel
theorem dX10_checksum_73 : decode cX10_checksum 73 = .ok (.getfield 19, 3) := by decide +kernel
theorem dX10_checksum_76 : decode cX10_checksum 76 = .ok (.iload 4, 2) := by decide +kernel
theorem dX10_checksum_78 : decode cX10_checksum 78 = .ok (.iaload, 1) := by decide +kernel
theorem dX10_checksum_79 : decode cX10_checksum 79 = .ok (.i2l, 1) := by decide +kernel
theorem dX10_checksum_80 : decode cX10_checksum 80 = .ok (.ladd, 1) := by decide +kernel
theorem dX10_checksum_81 : decode cX10_checksum 81 = .ok (.lstore_n 2, 1) := by decide +kernel
theorem dX10_checksum_82 : decode cX10_checksum 82 = .ok (.ldc2_w 328, 3) := by decide +kernel
theorem dX10_checksum_85 : decode cX10_checksum 85 = .ok (.lload_n 2, 1) := by decide +kernel
theorem dX10_checksum_86 : decode cX10_checksum 86 = .ok (.lmul, 1) := by decide +kernel
theorem dX10_checksum_87 : decode cX10_checksum 87 = .ok (.aload_n 0, 1) := by decide +kernel
theorem dX10_checksum_88 : decode cX10_checksum 88 = .ok (.getfield 22, 3) := by decide +kernel
theorem dX10_checksum_91 : decode cX10_checksum 91 = .ok (.iload 4, 2) := by decide +kernel
theorem dX10_checksum_93 : decode cX10_checksum 93 = .ok (.iaload, 1) := by decide +kernel
theorem dX10_checksum_94 : decode cX10_checksum 94 = .ok (.i2l, 1) := by decide +kernel
theorem dX10_checksum_95 : decode cX10_checksum 95 = .ok (.ladd, 1) := by decide +kernel
theorem dX10_checksum_96 : decode cX10_checksum 96 = .ok (.lstore_n 2, 1) := by decide +kernel
theorem dX10_checksum_97 : decode cX10_checksum 97 = .ok (.ldc2_w 328, 3) := by decide +kernel
theorem dX10_checksum_100 : decode cX10_checksum 100 = .ok (.lload_n 2, 1) := by decide +kernel
theorem dX10_checksum_101 : decode cX10_checksum 101 = .ok (.lmul, 1) := by decide +kernel
theorem dX10_checksum_102 : decode cX10_checksum 102 = .ok (.aload_n 0, 1) := by decide +kernel
theorem dX10_checksum_103 : decode cX10_checksum 103 = .ok (.getfield 25, 3) := by decide +kernel
theorem dX10_checksum_106 : decode cX10_checksum 106 = .ok (.iload 4, 2) := by decide +kernel
theorem dX10_checksum_108 : decode cX10_checksum 108 = .ok (.iaload, 1) := by decide +kernel
theorem dX10_checksum_109 : decode cX10_checksum 109 = .ok (.i2l, 1) := by decide +kernel
theorem dX10_checksum_110 : decode cX10_checksum 110 = .ok (.ladd, 1) := by decide +kernel
theorem dX10_checksum_111 : decode cX10_checksum 111 = .ok (.lstore_n 2, 1) := by decide +kernel
theorem dX10_checksum_112 : decode cX10_checksum 112 = .ok (.ldc2_w 328, 3) := by decide +kernel
theorem dX10_checksum_115 : decode cX10_checksum 115 = .ok (.lload_n 2, 1) := by decide +kernel
theorem dX10_checksum_116 : decode cX10_checksum 116 = .ok (.lmul, 1) := by decide +kernel
theorem dX10_checksum_117 : decode cX10_checksum 117 = .ok (.aload_n 0, 1) := by decide +kernel
theorem dX10_checksum_118 : decode cX10_checksum 118 = .ok (.getfield 28, 3) := by decide +kernel
theorem dX10_checksum_121 : decode cX10_checksum 121 = .ok (.iload 4, 2) := by decide +kernel
theorem dX10_checksum_123 : decode cX10_checksum 123 = .ok (.iaload, 1) := by decide +kernel
theorem dX10_checksum_124 : decode cX10_checksum 124 = .ok (.i2l, 1) := by decide +kernel
theorem dX10_checksum_125 : decode cX10_checksum 125 = .ok (.ladd, 1) := by decide +kernel
theorem dX10_checksum_126 : decode cX10_checksum 126 = .ok (.lstore_n 2, 1) := by decide +kernel
theorem dX10_checksum_127 : decode cX10_checksum 127 = .ok (.iinc 4 1, 3) := by decide +kernel
theorem dX10_checksum_130 : decode cX10_checksum 130 = .ok (.goto (-94), 3) := by decide +kernel
theorem dX10_checksum_133 : decode cX10_checksum 133 = .ok (.iconst 0, 1) := by decide +kernel
theorem dX10_checksum_134 : decode cX10_checksum 134 = .ok (.istore 4, 2) := by decide +kernel
theorem dX10_checksum_136 : decode cX10_checksum 136 = .ok (.iload 4, 2) := by decide +kernel
theorem dX10_checksum_138 : decode cX10_checksum 138 = .ok (.aload_n 0, 1) := by decide +kernel
theorem dX10_checksum_139 : decode cX10_checksum 139 = .ok (.getfield 7, 3) := by decide +kernel
theorem dX10_checksum_142 : decode cX10_checksum 142 = .ok (.iload_n 1, 1) := by decide +kernel
theorem dX10_checksum_143 : decode cX10_checksum 143 = .ok (.iaload, 1) := by decide +kernel
theorem dX10_checksum_144 : decode cX10_checksum 144 = .ok (.if_icmp .ge 29, 3) := by decide +kernel
theorem dX10_checksum_147 : decode cX10_checksum 147 = .ok (.ldc2_w 328, 3) := by decide +kernel
theorem dX10_checksum_150 : decode cX10_checksum 150 = .ok (.lload_n 2, 1) := by decide +kernel
theorem dX10_checksum_151 : decode cX10_checksum 151 = .ok (.lmul, 1) := by decide +kernel
theorem dX10_checksum_152 : decode cX10_checksum 152 = .ok (.aload_n 0, 1) := by decide +kernel
theorem dX10_checksum_153 : decode cX10_checksum 153 = .ok (.getfield 31, 3) := by decide +kernel
theorem dX10_checksum_156 : decode cX10_checksum 156 = .ok (.bipush 8, 2) := by decide +kernel
theorem dX10_checksum_158 : decode cX10_checksum 158 = .ok (.iload_n 1, 1) := by decide +kernel
theorem dX10_checksum_159 : decode cX10_checksum 159 = .ok (.imul, 1) := by decide +kernel
theorem dX10_checksum_160 : decode cX10_checksum 160 = .ok (.iload 4, 2) := by decide +kernel
theorem dX10_checksum_162 : decode cX10_checksum 162 = .ok (.iadd, 1) := by decide +kernel
theorem dX10_checksum_163 : decode cX10_checksum 163 = .ok (.iaload, 1) := by decide +kernel
theorem dX10_checksum_164 : decode cX10_checksum 164 = .ok (.i2l, 1) := by decide +kernel
theorem dX10_checksum_165 : decode cX10_checksum 165 = .ok (.ladd, 1) := by decide +kernel
theorem dX10_checksum_166 : decode cX10_checksum 166 = .ok (.lstore_n 2, 1) := by decide +kernel
theorem dX10_checksum_167 : decode cX10_checksum 167 = .ok (.iinc 4 1, 3) := by decide +kernel
theorem dX10_checksum_170 : decode cX10_checksum 170 = .ok (.goto (-34), 3) := by decide +kernel
theorem dX10_checksum_173 : decode cX10_checksum 173 = .ok (.lload_n 2, 1) := by decide +kernel
theorem dX10_checksum_174 : decode cX10_checksum 174 = .ok (.lreturn, 1) := by decide +kernel
theorem dX10_fullShare_0 : decode cX10_fullShare 0 = .ok (.aload_n 0, 1) := by decide +kernel
theorem dX10_fullShare_1 : decode cX10_fullShare 1 = .ok (.aload_n 0, 1) := by decide +kernel
theorem dX10_fullShare_2 : decode cX10_fullShare 2 = .ok (.iload_n 1, 1) := by decide +kernel
theorem dX10_fullShare_3 : decode cX10_fullShare 3 = .ok (.iload_n 2, 1) := by decide +kernel
theorem dX10_fullShare_4 : decode cX10_fullShare 4 = .ok (.iload_n 3, 1) := by decide +kernel
theorem dX10_fullShare_5 : decode cX10_fullShare 5 = .ok (.invokevirtual 178, 3) := by decide +kernel
theorem dX10_fullShare_8 : decode cX10_fullShare 8 = .ok (.putfield 92, 3) := by decide +kernel
theorem dX10_fullShare_11 : decode cX10_fullShare 11 = .ok (.aload_n 0, 1) := by decide +kernel
theorem dX10_fullShare_12 : decode cX10_fullShare 12 = .ok (.aload_n 0, 1) := by decide +kernel
theorem dX10_fullShare_13 : decode cX10_fullShare 13 = .ok (.getfield 92, 3) := by decide +kernel
theorem dX10_fullShare_16 : decode cX10_fullShare 16 = .ok (.ifCond .le 10, 3) := by decide +kernel
theorem dX10_fullShare_19 : decode cX10_fullShare 19 = .ok (.aload_n 0, 1) := by decide +kernel
theorem dX10_fullShare_20 : decode cX10_fullShare 20 = .ok (.getfield 92, 3) := by decide +kernel
theorem dX10_fullShare_23 : decode cX10_fullShare 23 = .ok (.goto 27, 3) := by decide +kernel
theorem dX10_fullShare_26 : decode cX10_fullShare 26 = .ok (.aload_n 0, 1) := by decide +kernel
theorem dX10_fullShare_27 : decode cX10_fullShare 27 = .ok (.iload_n 1, 1) := by decide +kernel
theorem dX10_fullShare_28 : decode cX10_fullShare 28 = .ok (.iload_n 2, 1) := by decide +kernel
theorem dX10_fullShare_29 : decode cX10_fullShare 29 = .ok (.iload_n 3, 1) := by decide +kernel
theorem dX10_fullShare_30 : decode cX10_fullShare 30 = .ok (.invokevirtual 184, 3) := by decide +kernel
theorem dX10_fullShare_33 : decode cX10_fullShare 33 = .ok (.ifCond .eq 16, 3) := by decide +kernel
theorem dX10_fullShare_36 : decode cX10_fullShare 36 = .ok (.aload_n 0, 1) := by decide +kernel
theorem dX10_fullShare_37 : decode cX10_fullShare 37 = .ok (.getfield 13, 3) := by decide +kernel
theorem dX10_fullShare_40 : decode cX10_fullShare 40 = .ok (.iload_n 1, 1) := by decide +kernel
theorem dX10_fullShare_41 : decode cX10_fullShare 41 = .ok (.iaload, 1) := by decide +kernel
theorem dX10_fullShare_42 : decode cX10_fullShare 42 = .ok (.ifCond .le 7, 3) := by decide +kernel
theorem dX10_fullShare_45 : decode cX10_fullShare 45 = .ok (.iconst 0, 1) := by decide +kernel
theorem dX10_fullShare_46 : decode cX10_fullShare 46 = .ok (.goto 4, 3) := by decide +kernel
theorem dX10_fullShare_49 : decode cX10_fullShare 49 = .ok (.iconst 3, 1) := by decide +kernel
theorem dX10_fullShare_50 : decode cX10_fullShare 50 = .ok (.putfield 92, 3) := by decide +kernel
theorem dX10_fullShare_53 : decode cX10_fullShare 53 = .ok (.aload_n 0, 1) := by decide +kernel
theorem dX10_fullShare_54 : decode cX10_fullShare 54 = .ok (.getfield 92, 3) := by decide +kernel
theorem dX10_fullShare_57 : decode cX10_fullShare 57 = .ok (.ifCond .le 5, 3) := by decide +kernel
theorem dX10_fullShare_60 : decode cX10_fullShare 60 = .ok (.fconst 0, 1) := by decide +kernel
theorem dX10_fullShare_61 : decode cX10_fullShare 61 = .ok (.freturn, 1) := by decide +kernel
theorem dX10_fullShare_62 : decode cX10_fullShare 62 = .ok (.iconst 0, 1) := by decide +kernel
theorem dX10_fullShare_63 : decode cX10_fullShare 63 = .ok (.istore 4, 2) := by decide +kernel
theorem dX10_fullShare_65 : decode cX10_fullShare 65 = .ok (.iconst 0, 1) := by decide +kernel
theorem dX10_fullShare_66 : decode cX10_fullShare 66 = .ok (.istore 5, 2) := by decide +kernel
theorem dX10_fullShare_68 : decode cX10_fullShare 68 = .ok (.iload 5, 2) := by decide +kernel
theorem dX10_fullShare_70 : decode cX10_fullShare 70 = .ok (.aload_n 0, 1) := by decide +kernel
theorem dX10_fullShare_71 : decode cX10_fullShare 71 = .ok (.getfield 13, 3) := by decide +kernel
theorem dX10_fullShare_74 : decode cX10_fullShare 74 = .ok (.iload_n 1, 1) := by decide +kernel
theorem dX10_fullShare_75 : decode cX10_fullShare 75 = .ok (.iaload, 1) := by decide +kernel
theorem dX10_fullShare_76 : decode cX10_fullShare 76 = .ok (.if_icmp .ge 41, 3) := by decide +kernel
theorem dX10_fullShare_79 : decode cX10_fullShare 79 = .ok (.iload 4, 2) := by decide +kernel
theorem dX10_fullShare_81 : decode cX10_fullShare 81 = .ok (.aload_n 0, 1) := by decide +kernel
theorem dX10_fullShare_82 : decode cX10_fullShare 82 = .ok (.getfield 65, 3) := by decide +kernel
theorem dX10_fullShare_85 : decode cX10_fullShare 85 = .ok (.iload 5, 2) := by decide +kernel
theorem dX10_fullShare_87 : decode cX10_fullShare 87 = .ok (.iaload, 1) := by decide +kernel
theorem dX10_fullShare_88 : decode cX10_fullShare 88 = .ok (.aload_n 0, 1) := by decide +kernel
theorem dX10_fullShare_89 : decode cX10_fullShare 89 = .ok (.getfield 25, 3) := by decide +kernel
theorem dX10_fullShare_92 : decode cX10_fullShare 92 = .ok (.bipush 16, 2) := by decide +kernel
theorem dX10_fullShare_94 : decode cX10_fullShare 94 = .ok (.iload_n 1, 1) := by decide +kernel
theorem dX10_fullShare_95 : decode cX10_fullShare 95 = .ok (.imul, 1) := by decide +kernel
theorem dX10_fullShare_96 : decode cX10_fullShare 96 = .ok (.iload 5, 2) := by decide +kernel
theorem dX10_fullShare_98 : decode cX10_fullShare 98 = .ok (.iadd, 1) := by decide +kernel
theorem dX10_fullShare_99 : decode cX10_fullShare 99 = .ok (.iaload, 1) := by decide +kernel
theorem dX10_fullShare_100 : decode cX10_fullShare 100 = .ok (.if_icmp .ne 7, 3) := by decide +kernel
theorem dX10_fullShare_103 : decode cX10_fullShare 103 = .ok (.iconst 1, 1) := by decide +kernel
theorem dX10_fullShare_104 : decode cX10_fullShare 104 = .ok (.goto 4, 3) := by decide +kernel
theorem dX10_fullShare_107 : decode cX10_fullShare 107 = .ok (.iconst 0, 1) := by decide +kernel
theorem dX10_fullShare_108 : decode cX10_fullShare 108 = .ok (.iadd, 1) := by decide +kernel
theorem dX10_fullShare_109 : decode cX10_fullShare 109 = .ok (.istore 4, 2) := by decide +kernel
theorem dX10_fullShare_111 : decode cX10_fullShare 111 = .ok (.iinc 5 1, 3) := by decide +kernel
theorem dX10_fullShare_114 : decode cX10_fullShare 114 = .ok (.goto (-46), 3) := by decide +kernel
theorem dX10_fullShare_117 : decode cX10_fullShare 117 = .ok (.iload 4, 2) := by decide +kernel
theorem dX10_fullShare_119 : decode cX10_fullShare 119 = .ok (.i2f, 1) := by decide +kernel
theorem dX10_fullShare_120 : decode cX10_fullShare 120 = .ok (.aload_n 0, 1) := by decide +kernel
theorem dX10_fullShare_121 : decode cX10_fullShare 121 = .ok (.getfield 13, 3) := by decide +kernel
theorem dX10_fullShare_124 : decode cX10_fullShare 124 = .ok (.iload_n 1, 1) := by decide +kernel
theorem dX10_fullShare_125 : decode cX10_fullShare 125 = .ok (.iaload, 1) := by decide +kernel
theorem dX10_fullShare_126 : decode cX10_fullShare 126 = .ok (.i2f, 1) := by decide +kernel
theorem dX10_fullShare_127 : decode cX10_fullShare 127 = .ok (.fdiv, 1) := by decide +kernel
theorem dX10_fullShare_128 : decode cX10_fullShare 128 = .ok (.freturn, 1) := by decide +kernel
theorem dX10_meanFlow_0 : decode cX10_meanFlow 0 = .ok (.aload_n 0, 1) := by decide +kernel
theorem dX10_meanFlow_1 : decode cX10_meanFlow 1 = .ok (.aload_n 0, 1) := by decide +kernel
theorem dX10_meanFlow_2 : decode cX10_meanFlow 2 = .ok (.iload_n 1, 1) := by decide +kernel
theorem dX10_meanFlow_3 : decode cX10_meanFlow 3 = .ok (.iload_n 2, 1) := by decide +kernel
theorem dX10_meanFlow_4 : decode cX10_meanFlow 4 = .ok (.iload_n 3, 1) := by decide +kernel
theorem dX10_meanFlow_5 : decode cX10_meanFlow 5 = .ok (.invokevirtual 178, 3) := by decide +kernel
theorem dX10_meanFlow_8 : decode cX10_meanFlow 8 = .ok (.putfield 92, 3) := by decide +kernel
theorem dX10_meanFlow_11 : decode cX10_meanFlow 11 = .ok (.aload_n 0, 1) := by decide +kernel
theorem dX10_meanFlow_12 : decode cX10_meanFlow 12 = .ok (.aload_n 0, 1) := by decide +kernel
theorem dX10_meanFlow_13 : decode cX10_meanFlow 13 = .ok (.getfield 92, 3) := by decide +kernel
theorem dX10_meanFlow_16 : decode cX10_meanFlow 16 = .ok (.ifCond .le 10, 3) := by decide +kernel
theorem dX10_meanFlow_19 : decode cX10_meanFlow 19 = .ok (.aload_n 0, 1) := by decide +kernel
theorem dX10_meanFlow_20 : decode cX10_meanFlow 20 = .ok (.getfield 92, 3) := by decide +kernel
theorem dX10_meanFlow_23 : decode cX10_meanFlow 23 = .ok (.goto 27, 3) := by decide +kernel
theorem dX10_meanFlow_26 : decode cX10_meanFlow 26 = .ok (.aload_n 0, 1) := by decide +kernel
theorem dX10_meanFlow_27 : decode cX10_meanFlow 27 = .ok (.iload_n 1, 1) := by decide +kernel
theorem dX10_meanFlow_28 : decode cX10_meanFlow 28 = .ok (.iload_n 2, 1) := by decide +kernel
theorem dX10_meanFlow_29 : decode cX10_meanFlow 29 = .ok (.iload_n 3, 1) := by decide +kernel
theorem dX10_meanFlow_30 : decode cX10_meanFlow 30 = .ok (.invokevirtual 184, 3) := by decide +kernel
theorem dX10_meanFlow_33 : decode cX10_meanFlow 33 = .ok (.ifCond .eq 16, 3) := by decide +kernel
theorem dX10_meanFlow_36 : decode cX10_meanFlow 36 = .ok (.aload_n 0, 1) := by decide +kernel
theorem dX10_meanFlow_37 : decode cX10_meanFlow 37 = .ok (.getfield 13, 3) := by decide +kernel
theorem dX10_meanFlow_40 : decode cX10_meanFlow 40 = .ok (.iload_n 1, 1) := by decide +kernel
theorem dX10_meanFlow_41 : decode cX10_meanFlow 41 = .ok (.iaload, 1) := by decide +kernel
theorem dX10_meanFlow_42 : decode cX10_meanFlow 42 = .ok (.ifCond .le 7, 3) := by decide +kernel
theorem dX10_meanFlow_45 : decode cX10_meanFlow 45 = .ok (.iconst 0, 1) := by decide +kernel
theorem dX10_meanFlow_46 : decode cX10_meanFlow 46 = .ok (.goto 4, 3) := by decide +kernel
theorem dX10_meanFlow_49 : decode cX10_meanFlow 49 = .ok (.iconst 3, 1) := by decide +kernel
theorem dX10_meanFlow_50 : decode cX10_meanFlow 50 = .ok (.putfield 92, 3) := by decide +kernel
theorem dX10_meanFlow_53 : decode cX10_meanFlow 53 = .ok (.aload_n 0, 1) := by decide +kernel
theorem dX10_meanFlow_54 : decode cX10_meanFlow 54 = .ok (.getfield 92, 3) := by decide +kernel
theorem dX10_meanFlow_57 : decode cX10_meanFlow 57 = .ok (.ifCond .le 5, 3) := by decide +kernel
theorem dX10_meanFlow_60 : decode cX10_meanFlow 60 = .ok (.dconst 0, 1) := by decide +kernel
theorem dX10_meanFlow_61 : decode cX10_meanFlow 61 = .ok (.dreturn, 1) := by decide +kernel
theorem dX10_meanFlow_62 : decode cX10_meanFlow 62 = .ok (.iconst 0, 1) := by decide +kernel
theorem dX10_meanFlow_63 : decode cX10_meanFlow 63 = .ok (.istore 4, 2) := by decide +kernel
theorem dX10_meanFlow_65 : decode cX10_meanFlow 65 = .ok (.iconst 0, 1) := by decide +kernel
theorem dX10_meanFlow_66 : decode cX10_meanFlow 66 = .ok (.istore 5, 2) := by decide +kernel
theorem dX10_meanFlow_68 : decode cX10_meanFlow 68 = .ok (.iload 5, 2) := by decide +kernel
theorem dX10_meanFlow_70 : decode cX10_meanFlow 70 = .ok (.aload_n 0, 1) := by decide +kernel
theorem dX10_meanFlow_71 : decode cX10_meanFlow 71 = .ok (.getfield 13, 3) := by decide +kernel
theorem dX10_meanFlow_74 : decode cX10_meanFlow 74 = .ok (.iload_n 1, 1) := by decide +kernel
theorem dX10_meanFlow_75 : decode cX10_meanFlow 75 = .ok (.iaload, 1) := by decide +kernel
theorem dX10_meanFlow_76 : decode cX10_meanFlow 76 = .ok (.if_icmp .ge 21, 3) := by decide +kernel
theorem dX10_meanFlow_79 : decode cX10_meanFlow 79 = .ok (.iload 4, 2) := by decide +kernel
theorem dX10_meanFlow_81 : decode cX10_meanFlow 81 = .ok (.aload_n 0, 1) := by decide +kernel
theorem dX10_meanFlow_82 : decode cX10_meanFlow 82 = .ok (.getfield 65, 3) := by decide +kernel
theorem dX10_meanFlow_85 : decode cX10_meanFlow 85 = .ok (.iload 5, 2) := by decide +kernel
theorem dX10_meanFlow_87 : decode cX10_meanFlow 87 = .ok (.iaload, 1) := by decide +kernel
theorem dX10_meanFlow_88 : decode cX10_meanFlow 88 = .ok (.iadd, 1) := by decide +kernel
theorem dX10_meanFlow_89 : decode cX10_meanFlow 89 = .ok (.istore 4, 2) := by decide +kernel
theorem dX10_meanFlow_91 : decode cX10_meanFlow 91 = .ok (.iinc 5 1, 3) := by decide +kernel
theorem dX10_meanFlow_94 : decode cX10_meanFlow 94 = .ok (.goto (-26), 3) := by decide +kernel
theorem dX10_meanFlow_97 : decode cX10_meanFlow 97 = .ok (.iload 4, 2) := by decide +kernel
theorem dX10_meanFlow_99 : decode cX10_meanFlow 99 = .ok (.i2d, 1) := by decide +kernel
theorem dX10_meanFlow_100 : decode cX10_meanFlow 100 = .ok (.aload_n 0, 1) := by decide +kernel
theorem dX10_meanFlow_101 : decode cX10_meanFlow 101 = .ok (.getfield 13, 3) := by decide +kernel
theorem dX10_meanFlow_104 : decode cX10_meanFlow 104 = .ok (.iload_n 1, 1) := by decide +kernel
theorem dX10_meanFlow_105 : decode cX10_meanFlow 105 = .ok (.iaload, 1) := by decide +kernel
theorem dX10_meanFlow_106 : decode cX10_meanFlow 106 = .ok (.i2d, 1) := by decide +kernel
theorem dX10_meanFlow_107 : decode cX10_meanFlow 107 = .ok (.ddiv, 1) := by decide +kernel
theorem dX10_meanFlow_108 : decode cX10_meanFlow 108 = .ok (.dreturn, 1) := by decide +kernel
theorem dX10_isSound_0 : decode cX10_isSound 0 = .ok (.aload_n 0, 1) := by decide +kernel
theorem dX10_isSound_1 : decode cX10_isSound 1 = .ok (.iconst 0, 1) := by decide +kernel
theorem dX10_isSound_2 : decode cX10_isSound 2 = .ok (.putfield 92, 3) := by decide +kernel
theorem dX10_isSound_5 : decode cX10_isSound 5 = .ok (.iconst 1, 1) := by decide +kernel
theorem dX10_isSound_6 : decode cX10_isSound 6 = .ok (.ireturn, 1) := by decide +kernel
