theorem dX10_init_0 : decode cX10_init 0 = .ok (.aload_n 0, 1) := by decide +kernel
theorem dX10_init_1 : decode cX10_init 1 = .ok (.invokespecial 1, 3) := by decide +kernel
theorem dX10_init_4 : decode cX10_init 4 = .ok (.aload_n 0, 1) := by decide +kernel
theorem dX10_init_5 : decode cX10_init 5 = .ok (.bipush 10, 2) := by decide +kernel
theorem dX10_init_7 : decode cX10_init 7 = .ok (.newarray .int, 2) := by decide +kernel
theorem dX10_init_9 : decode cX10_init 9 = .ok (.putfield 7, 3) := by decide +kernel
theorem dX10_init_12 : decode cX10_init 12 = .ok (.aload_n 0, 1) := by decide +kernel
theorem dX10_init_13 : decode cX10_init 13 = .ok (.bipush 10, 2) := by decide +kernel
theorem dX10_init_15 : decode cX10_init 15 = .ok (.newarray .int, 2) := by decide +kernel
theorem dX10_init_17 : decode cX10_init 17 = .ok (.putfield 13, 3) := by decide +kernel
theorem dX10_init_20 : decode cX10_init 20 = .ok (.aload_n 0, 1) := by decide +kernel
theorem dX10_init_21 : decode cX10_init 21 = .ok (.bipush 20, 2) := by decide +kernel
theorem dX10_init_23 : decode cX10_init 23 = .ok (.newarray .int, 2) := by decide +kernel
theorem dX10_init_25 : decode cX10_init 25 = .ok (.putfield 16, 3) := by decide +kernel
theorem dX10_init_28 : decode cX10_init 28 = .ok (.aload_n 0, 1) := by decide +kernel
theorem dX10_init_29 : decode cX10_init 29 = .ok (.bipush 20, 2) := by decide +kernel
theorem dX10_init_31 : decode cX10_init 31 = .ok (.newarray .int, 2) := by decide +kernel
theorem dX10_init_33 : decode cX10_init 33 = .ok (.putfield 19, 3) := by decide +kernel
theorem dX10_init_36 : decode cX10_init 36 = .ok (.aload_n 0, 1) := by decide +kernel
theorem dX10_init_37 : decode cX10_init 37 = .ok (.bipush 20, 2) := by decide +kernel
theorem dX10_init_39 : decode cX10_init 39 = .ok (.newarray .int, 2) := by decide +kernel
theorem dX10_init_41 : decode cX10_init 41 = .ok (.putfield 22, 3) := by decide +kernel
theorem dX10_init_44 : decode cX10_init 44 = .ok (.aload_n 0, 1) := by decide +kernel
theorem dX10_init_45 : decode cX10_init 45 = .ok (.bipush 20, 2) := by decide +kernel
theorem dX10_init_47 : decode cX10_init 47 = .ok (.newarray .int, 2) := by decide +kernel
theorem dX10_init_49 : decode cX10_init 49 = .ok (.putfield 25, 3) := by decide +kernel
theorem dX10_init_52 : decode cX10_init 52 = .ok (.aload_n 0, 1) := by decide +kernel
theorem dX10_init_53 : decode cX10_init 53 = .ok (.bipush 8, 2) := by decide +kernel
theorem dX10_init_55 : decode cX10_init 55 = .ok (.newarray .int, 2) := by decide +kernel
theorem dX10_init_57 : decode cX10_init 57 = .ok (.putfield 28, 3) := by decide +kernel
theorem dX10_init_60 : decode cX10_init 60 = .ok (.aload_n 0, 1) := by decide +kernel
theorem dX10_init_61 : decode cX10_init 61 = .ok (.bipush 10, 2) := by decide +kernel
theorem dX10_init_63 : decode cX10_init 63 = .ok (.newarray .int, 2) := by decide +kernel
theorem dX10_init_65 : decode cX10_init 65 = .ok (.putfield 31, 3) := by decide +kernel
theorem dX10_init_68 : decode cX10_init 68 = .ok (.aload_n 0, 1) := by decide +kernel
theorem dX10_init_69 : decode cX10_init 69 = .ok (.bipush 80, 2) := by decide +kernel
theorem dX10_init_71 : decode cX10_init 71 = .ok (.newarray .int, 2) := by decide +kernel
theorem dX10_init_73 : decode cX10_init 73 = .ok (.putfield 34, 3) := by decide +kernel
theorem dX10_init_76 : decode cX10_init 76 = .ok (.aload_n 0, 1) := by decide +kernel
theorem dX10_init_77 : decode cX10_init 77 = .ok (.sipush 280, 3) := by decide +kernel
theorem dX10_init_80 : decode cX10_init 80 = .ok (.newarray .int, 2) := by decide +kernel
theorem dX10_init_82 : decode cX10_init 82 = .ok (.putfield 37, 3) := by decide +kernel
theorem dX10_init_85 : decode cX10_init 85 = .ok (.aload_n 0, 1) := by decide +kernel
theorem dX10_init_86 : decode cX10_init 86 = .ok (.bipush 15, 2) := by decide +kernel
theorem dX10_init_88 : decode cX10_init 88 = .ok (.putfield 40, 3) := by decide +kernel
theorem dX10_init_91 : decode cX10_init 91 = .ok (.aload_n 0, 1) := by decide +kernel
theorem dX10_init_92 : decode cX10_init 92 = .ok (.iconst 3, 1) := by decide +kernel
theorem dX10_init_93 : decode cX10_init 93 = .ok (.putfield 44, 3) := by decide +kernel
theorem dX10_init_96 : decode cX10_init 96 = .ok (.aload_n 0, 1) := by decide +kernel
theorem dX10_init_97 : decode cX10_init 97 = .ok (.bipush 20, 2) := by decide +kernel
theorem dX10_init_99 : decode cX10_init 99 = .ok (.putfield 47, 3) := by decide +kernel
theorem dX10_init_102 : decode cX10_init 102 = .ok (.aload_n 0, 1) := by decide +kernel
theorem dX10_init_103 : decode cX10_init 103 = .ok (.iconst 1, 1) := by decide +kernel
theorem dX10_init_104 : decode cX10_init 104 = .ok (.putfield 50, 3) := by decide +kernel
theorem dX10_init_107 : decode cX10_init 107 = .ok (.aload_n 0, 1) := by decide +kernel
theorem dX10_init_108 : decode cX10_init 108 = .ok (.sipush 832, 3) := by decide +kernel
theorem dX10_init_111 : decode cX10_init 111 = .ok (.newarray .int, 2) := by decide +kernel
theorem dX10_init_113 : decode cX10_init 113 = .ok (.putfield 53, 3) := by decide +kernel
theorem dX10_init_116 : decode cX10_init 116 = .ok (.aload_n 0, 1) := by decide +kernel
theorem dX10_init_117 : decode cX10_init 117 = .ok (.bipush 104, 2) := by decide +kernel
theorem dX10_init_119 : decode cX10_init 119 = .ok (.newarray .int, 2) := by decide +kernel
theorem dX10_init_121 : decode cX10_init 121 = .ok (.putfield 56, 3) := by decide +kernel
theorem dX10_init_124 : decode cX10_init 124 = .ok (.aload_n 0, 1) := by decide +kernel
theorem dX10_init_125 : decode cX10_init 125 = .ok (.bipush 104, 2) := by decide +kernel
theorem dX10_init_127 : decode cX10_init 127 = .ok (.newarray .int, 2) := by decide +kernel
theorem dX10_init_129 : decode cX10_init 129 = .ok (.putfield 59, 3) := by decide +kernel
theorem dX10_init_132 : decode cX10_init 132 = .ok (.aload_n 0, 1) := by decide +kernel
theorem dX10_init_133 : decode cX10_init 133 = .ok (.bipush 104, 2) := by decide +kernel
theorem dX10_init_135 : decode cX10_init 135 = .ok (.newarray .int, 2) := by decide +kernel
theorem dX10_init_137 : decode cX10_init 137 = .ok (.putfield 62, 3) := by decide +kernel
theorem dX10_init_140 : decode cX10_init 140 = .ok (.aload_n 0, 1) := by decide +kernel
theorem dX10_init_141 : decode cX10_init 141 = .ok (.sipush 400, 3) := by decide +kernel
theorem dX10_init_144 : decode cX10_init 144 = .ok (.newarray .int, 2) := by decide +kernel
theorem dX10_init_146 : decode cX10_init 146 = .ok (.putfield 65, 3) := by decide +kernel
theorem dX10_init_149 : decode cX10_init 149 = .ok (.aload_n 0, 1) := by decide +kernel
theorem dX10_init_150 : decode cX10_init 150 = .ok (.sipush 400, 3) := by decide +kernel
theorem dX10_init_153 : decode cX10_init 153 = .ok (.newarray .int, 2) := by decide +kernel
theorem dX10_init_155 : decode cX10_init 155 = .ok (.putfield 68, 3) := by decide +kernel
theorem dX10_init_158 : decode cX10_init 158 = .ok (.aload_n 0, 1) := by decide +kernel
theorem dX10_init_159 : decode cX10_init 159 = .ok (.sipush 400, 3) := by decide +kernel
theorem dX10_init_162 : decode cX10_init 162 = .ok (.newarray .int, 2) := by decide +kernel
theorem dX10_init_164 : decode cX10_init 164 = .ok (.putfield 71, 3) := by decide +kernel
theorem dX10_init_167 : decode cX10_init 167 = .ok (.aload_n 0, 1) := by decide +kernel
theorem dX10_init_168 : decode cX10_init 168 = .ok (.sipush 400, 3) := by decide +kernel
theorem dX10_init_171 : decode cX10_init 171 = .ok (.newarray .int, 2) := by decide +kernel
theorem dX10_init_173 : decode cX10_init 173 = .ok (.putfield 74, 3) := by decide +kernel
theorem dX10_init_176 : decode cX10_init 176 = .ok (.aload_n 0, 1) := by decide +kernel
theorem dX10_init_177 : decode cX10_init 177 = .ok (.sipush 400, 3) := by decide +kernel
theorem dX10_init_180 : decode cX10_init 180 = .ok (.newarray .int, 2) := by decide +kernel
theorem dX10_init_182 : decode cX10_init 182 = .ok (.putfield 77, 3) := by decide +kernel
theorem dX10_init_185 : decode cX10_init 185 = .ok (.aload_n 0, 1) := by decide +kernel
theorem dX10_init_186 : decode cX10_init 186 = .ok (.bipush 10, 2) := by decide +kernel
theorem dX10_init_188 : decode cX10_init 188 = .ok (.newarray .int, 2) := by decide +kernel
theorem dX10_init_190 : decode cX10_init 190 = .ok (.putfield 80, 3) := by decide +kernel
theorem dX10_init_193 : decode cX10_init 193 = .ok (.aload_n 0, 1) := by decide +kernel
theorem dX10_init_194 : decode cX10_init 194 = .ok (.sipush 400, 3) := by decide +kernel
theorem dX10_init_197 : decode cX10_init 197 = .ok (.newarray .boolean, 2) := by decide +kernel
theorem dX10_init_199 : decode cX10_init 199 = .ok (.putfield 83, 3) := by decide +kernel
theorem dX10_init_202 : decode cX10_init 202 = .ok (.aload_n 0, 1) := by decide +kernel
theorem dX10_init_203 : decode cX10_init 203 = .ok (.bipush 10, 2) := by decide +kernel
theorem dX10_init_205 : decode cX10_init 205 = .ok (.newarray .int, 2) := by decide +kernel
theorem dX10_init_207 : decode cX10_init 207 = .ok (.putfield 87, 3) := by decide +kernel
theorem dX10_init_210 : decode cX10_init 210 = .ok (.aload_n 0, 1) := by decide +kernel
theorem dX10_init_211 : decode cX10_init 211 = .ok (.bipush 10, 2) := by decide +kernel
theorem dX10_init_213 : decode cX10_init 213 = .ok (.newarray .int, 2) := by decide +kernel
theorem dX10_init_215 : decode cX10_init 215 = .ok (.putfield 90, 3) := by decide +kernel
theorem dX10_init_218 : decode cX10_init 218 = .ok (.aload_n 0, 1) := by decide +kernel
theorem dX10_init_219 : decode cX10_init 219 = .ok (.bipush 60, 2) := by decide +kernel
theorem dX10_init_221 : decode cX10_init 221 = .ok (.newarray .int, 2) := by decide +kernel
theorem dX10_init_223 : decode cX10_init 223 = .ok (.putfield 93, 3) := by decide +kernel
theorem dX10_init_226 : decode cX10_init 226 = .ok (.aload_n 0, 1) := by decide +kernel
theorem dX10_init_227 : decode cX10_init 227 = .ok (.bipush 30, 2) := by decide +kernel
theorem dX10_init_229 : decode cX10_init 229 = .ok (.newarray .int, 2) := by decide +kernel
theorem dX10_init_231 : decode cX10_init 231 = .ok (.putfield 96, 3) := by decide +kernel
theorem dX10_init_234 : decode cX10_init 234 = .ok (.aload_n 0, 1) := by decide +kernel
theorem dX10_init_235 : decode cX10_init 235 = .ok (.bipush 30, 2) := by decide +kernel
theorem dX10_init_237 : decode cX10_init 237 = .ok (.newarray .int, 2) := by decide +kernel
theorem dX10_init_239 : decode cX10_init 239 = .ok (.putfield 99, 3) := by decide +kernel
theorem dX10_init_242 : decode cX10_init 242 = .ok (.aload_n 0, 1) := by decide +kernel
theorem dX10_init_243 : decode cX10_init 243 = .ok (.bipush 30, 2) := by decide +kernel
theorem dX10_init_245 : decode cX10_init 245 = .ok (.newarray .int, 2) := by decide +kernel
theorem dX10_init_247 : decode cX10_init 247 = .ok (.putfield 102, 3) := by decide +kernel
theorem dX10_init_250 : decode cX10_init 250 = .ok (.aload_n 0, 1) := by decide +kernel
theorem dX10_init_251 : decode cX10_init 251 = .ok (.bipush 30, 2) := by decide +kernel
theorem dX10_init_253 : decode cX10_init 253 = .ok (.newarray .int, 2) := by decide +kernel
theorem dX10_init_255 : decode cX10_init 255 = .ok (.putfield 105, 3) := by decide +kernel
theorem dX10_init_258 : decode cX10_init 258 = .ok (.aload_n 0, 1) := by decide +kernel
theorem dX10_init_259 : decode cX10_init 259 = .ok (.bipush 30, 2) := by decide +kernel
theorem dX10_init_261 : decode cX10_init 261 = .ok (.newarray .int, 2) := by decide +kernel
theorem dX10_init_263 : decode cX10_init 263 = .ok (.putfield 108, 3) := by decide +kernel
theorem dX10_init_266 : decode cX10_init 266 = .ok (.aload_n 0, 1) := by decide +kernel
theorem dX10_init_267 : decode cX10_init 267 = .ok (.iconst (-1), 1) := by decide +kernel
theorem dX10_init_268 : decode cX10_init 268 = .ok (.putfield 111, 3) := by decide +kernel
theorem dX10_init_271 : decode cX10_init 271 = .ok (.aload_n 0, 1) := by decide +kernel
theorem dX10_init_272 : decode cX10_init 272 = .ok (.bipush 24, 2) := by decide +kernel
theorem dX10_init_274 : decode cX10_init 274 = .ok (.newarray .int, 2) := by decide +kernel
theorem dX10_init_276 : decode cX10_init 276 = .ok (.putfield 114, 3) := by decide +kernel
theorem dX10_init_279 : decode cX10_init 279 = .ok (.return_, 1) := by decide +kernel
theorem dX10_thrown_0 : decode cX10_thrown 0 = .ok (.aload_n 0, 1) := by decide +kernel
theorem dX10_thrown_1 : decode cX10_thrown 1 = .ok (.getfield 117, 3) := by decide +kernel
theorem dX10_thrown_4 : decode cX10_thrown 4 = .ok (.ireturn, 1) := by decide +kernel
theorem dX10_fails_0 : decode cX10_fails 0 = .ok (.aload_n 0, 1) := by decide +kernel
theorem dX10_fails_1 : decode cX10_fails 1 = .ok (.iload_n 1, 1) := by decide +kernel
theorem dX10_fails_2 : decode cX10_fails 2 = .ok (.putfield 117, 3) := by decide +kernel
theorem dX10_fails_5 : decode cX10_fails 5 = .ok (.iconst 0, 1) := by decide +kernel
theorem dX10_fails_6 : decode cX10_fails 6 = .ok (.ireturn, 1) := by decide +kernel
theorem dX10_isBetween_0 : decode cX10_isBetween 0 = .ok (.iload_n 0, 1) := by decide +kernel
theorem dX10_isBetween_1 : decode cX10_isBetween 1 = .ok (.iload_n 1, 1) := by decide +kernel
theorem dX10_isBetween_2 : decode cX10_isBetween 2 = .ok (.if_icmp .lt 12, 3) := by decide +kernel
theorem dX10_isBetween_5 : decode cX10_isBetween 5 = .ok (.iload_n 0, 1) := by decide +kernel
theorem dX10_isBetween_6 : decode cX10_isBetween 6 = .ok (.iload_n 2, 1) := by decide +kernel
theorem dX10_isBetween_7 : decode cX10_isBetween 7 = .ok (.if_icmp .gt 7, 3) := by decide +kernel
theorem dX10_isBetween_10 : decode cX10_isBetween 10 = .ok (.iconst 1, 1) := by decide +kernel
theorem dX10_isBetween_11 : decode cX10_isBetween 11 = .ok (.goto 4, 3) := by decide +kernel
theorem dX10_isBetween_14 : decode cX10_isBetween 14 = .ok (.iconst 0, 1) := by decide +kernel
theorem dX10_isBetween_15 : decode cX10_isBetween 15 = .ok (.ireturn, 1) := by decide +kernel
theorem dX10_has_0 : decode cX10_has 0 = .ok (.iload_n 0, 1) := by decide +kernel
theorem dX10_has_1 : decode cX10_has 1 = .ok (.iload_n 1, 1) := by decide +kernel
theorem dX10_has_2 : decode cX10_has 2 = .ok (.ishr, 1) := by decide +kernel
theorem dX10_has_3 : decode cX10_has 3 = .ok (.iconst 1, 1) := by decide +kernel
theorem dX10_has_4 : decode cX10_has 4 = .ok (.iand, 1) := by decide +kernel
theorem dX10_has_5 : decode cX10_has 5 = .ok (.iconst 1, 1) := by decide +kernel
theorem dX10_has_6 : decode cX10_has 6 = .ok (.if_icmp .ne 7, 3) := by decide +kernel
theorem dX10_has_9 : decode cX10_has 9 = .ok (.iconst 1, 1) := by decide +kernel
theorem dX10_has_10 : decode cX10_has 10 = .ok (.goto 4, 3) := by decide +kernel
theorem dX10_has_13 : decode cX10_has 13 = .ok (.iconst 0, 1) := by decide +kernel
theorem dX10_has_14 : decode cX10_has 14 = .ok (.ireturn, 1) := by decide +kernel
theorem dX10_isVariable_0 : decode cX10_isVariable 0 = .ok (.iload_n 1, 1) := by decide +kernel
theorem dX10_isVariable_1 : decode cX10_isVariable 1 = .ok (.ifCond .lt 15, 3) := by decide +kernel
theorem dX10_isVariable_4 : decode cX10_isVariable 4 = .ok (.iload_n 1, 1) := by decide +kernel
theorem dX10_isVariable_5 : decode cX10_isVariable 5 = .ok (.aload_n 0, 1) := by decide +kernel
theorem dX10_isVariable_6 : decode cX10_isVariable 6 = .ok (.getfield 120, 3) := by decide +kernel
theorem dX10_isVariable_9 : decode cX10_isVariable 9 = .ok (.if_icmp .ge 7, 3) := by decide +kernel
theorem dX10_isVariable_12 : decode cX10_isVariable 12 = .ok (.iconst 1, 1) := by decide +kernel
theorem dX10_isVariable_13 : decode cX10_isVariable 13 = .ok (.goto 4, 3) := by decide +kernel
theorem dX10_isVariable_16 : decode cX10_isVariable 16 = .ok (.iconst 0, 1) := by decide +kernel
theorem dX10_isVariable_17 : decode cX10_isVariable 17 = .ok (.ireturn, 1) := by decide +kernel
theorem dX10_isConstraint_0 : decode cX10_isConstraint 0 = .ok (.iload_n 1, 1) := by decide +kernel
theorem dX10_isConstraint_1 : decode cX10_isConstraint 1 = .ok (.ifCond .lt 15, 3) := by decide +kernel
theorem dX10_isConstraint_4 : decode cX10_isConstraint 4 = .ok (.iload_n 1, 1) := by decide +kernel
theorem dX10_isConstraint_5 : decode cX10_isConstraint 5 = .ok (.aload_n 0, 1) := by decide +kernel
theorem dX10_isConstraint_6 : decode cX10_isConstraint 6 = .ok (.getfield 123, 3) := by decide +kernel
theorem dX10_isConstraint_9 : decode cX10_isConstraint 9 = .ok (.if_icmp .ge 7, 3) := by decide +kernel
theorem dX10_isConstraint_12 : decode cX10_isConstraint 12 = .ok (.iconst 1, 1) := by decide +kernel
theorem dX10_isConstraint_13 : decode cX10_isConstraint 13 = .ok (.goto 4, 3) := by decide +kernel
theorem dX10_isConstraint_16 : decode cX10_isConstraint 16 = .ok (.iconst 0, 1) := by decide +kernel
theorem dX10_isConstraint_17 : decode cX10_isConstraint 17 = .ok (.ireturn, 1) := by decide +kernel
theorem dX10_membersOf_0 : decode cX10_membersOf 0 = .ok (.iconst 0, 1) := by decide +kernel
theorem dX10_membersOf_1 : decode cX10_membersOf 1 = .ok (.istore_n 1, 1) := by decide +kernel
theorem dX10_membersOf_2 : decode cX10_membersOf 2 = .ok (.iconst 0, 1) := by decide +kernel
theorem dX10_membersOf_3 : decode cX10_membersOf 3 = .ok (.istore_n 2, 1) := by decide +kernel
theorem dX10_membersOf_4 : decode cX10_membersOf 4 = .ok (.iload_n 2, 1) := by decide +kernel
theorem dX10_membersOf_5 : decode cX10_membersOf 5 = .ok (.bipush 10, 2) := by decide +kernel
theorem dX10_membersOf_7 : decode cX10_membersOf 7 = .ok (.if_icmp .ge 17, 3) := by decide +kernel
theorem dX10_membersOf_10 : decode cX10_membersOf 10 = .ok (.iload_n 1, 1) := by decide +kernel
theorem dX10_membersOf_11 : decode cX10_membersOf 11 = .ok (.iload_n 0, 1) := by decide +kernel
theorem dX10_membersOf_12 : decode cX10_membersOf 12 = .ok (.iload_n 2, 1) := by decide +kernel
theorem dX10_membersOf_13 : decode cX10_membersOf 13 = .ok (.ishr, 1) := by decide +kernel
theorem dX10_membersOf_14 : decode cX10_membersOf 14 = .ok (.iconst 1, 1) := by decide +kernel
theorem dX10_membersOf_15 : decode cX10_membersOf 15 = .ok (.iand, 1) := by decide +kernel
theorem dX10_membersOf_16 : decode cX10_membersOf 16 = .ok (.iadd, 1) := by decide +kernel
theorem dX10_membersOf_17 : decode cX10_membersOf 17 = .ok (.istore_n 1, 1) := by decide +kernel
theorem dX10_membersOf_18 : decode cX10_membersOf 18 = .ok (.iinc 2 1, 3) := by decide +kernel
theorem dX10_membersOf_21 : decode cX10_membersOf 21 = .ok (.goto (-17), 3) := by decide +kernel
theorem dX10_membersOf_24 : decode cX10_membersOf 24 = .ok (.iload_n 1, 1) := by decide +kernel
theorem dX10_membersOf_25 : decode cX10_membersOf 25 = .ok (.ireturn, 1) := by decide +kernel
theorem dX10_pairsAlike_0 : decode cX10_pairsAlike 0 = .ok (.iconst 0, 1) := by decide +kernel
theorem dX10_pairsAlike_1 : decode cX10_pairsAlike 1 = .ok (.istore_n 3, 1) := by decide +kernel
theorem dX10_pairsAlike_2 : decode cX10_pairsAlike 2 = .ok (.iload_n 3, 1) := by decide +kernel
theorem dX10_pairsAlike_3 : decode cX10_pairsAlike 3 = .ok (.bipush 8, 2) := by decide +kernel
theorem dX10_pairsAlike_5 : decode cX10_pairsAlike 5 = .ok (.if_icmp .ge 16, 3) := by decide +kernel
theorem dX10_pairsAlike_8 : decode cX10_pairsAlike 8 = .ok (.aload_n 0, 1) := by decide +kernel
theorem dX10_pairsAlike_9 : decode cX10_pairsAlike 9 = .ok (.getfield 28, 3) := by decide +kernel
theorem dX10_pairsAlike_12 : decode cX10_pairsAlike 12 = .ok (.iload_n 3, 1) := by decide +kernel
theorem dX10_pairsAlike_13 : decode cX10_pairsAlike 13 = .ok (.iconst 0, 1) := by decide +kernel
theorem dX10_pairsAlike_14 : decode cX10_pairsAlike 14 = .ok (.iastore, 1) := by decide +kernel
theorem dX10_pairsAlike_15 : decode cX10_pairsAlike 15 = .ok (.iinc 3 1, 3) := by decide +kernel
theorem dX10_pairsAlike_18 : decode cX10_pairsAlike 18 = .ok (.goto (-16), 3) := by decide +kernel
theorem dX10_pairsAlike_21 : decode cX10_pairsAlike 21 = .ok (.iconst 0, 1) := by decide +kernel
theorem dX10_pairsAlike_22 : decode cX10_pairsAlike 22 = .ok (.istore_n 3, 1) := by decide +kernel
theorem dX10_pairsAlike_23 : decode cX10_pairsAlike 23 = .ok (.iconst 0, 1) := by decide +kernel
theorem dX10_pairsAlike_24 : decode cX10_pairsAlike 24 = .ok (.istore 4, 2) := by decide +kernel
theorem dX10_pairsAlike_26 : decode cX10_pairsAlike 26 = .ok (.iload 4, 2) := by decide +kernel
theorem dX10_pairsAlike_28 : decode cX10_pairsAlike 28 = .ok (.aload_n 0, 1) := by decide +kernel
theorem dX10_pairsAlike_29 : decode cX10_pairsAlike 29 = .ok (.getfield 120, 3) := by decide +kernel
theorem dX10_pairsAlike_32 : decode cX10_pairsAlike 32 = .ok (.if_icmp .ge 51, 3) := by decide +kernel
theorem dX10_pairsAlike_35 : decode cX10_pairsAlike 35 = .ok (.aload_n 0, 1) := by decide +kernel
theorem dX10_pairsAlike_36 : decode cX10_pairsAlike 36 = .ok (.getfield 19, 3) := by decide +kernel
theorem dX10_pairsAlike_39 : decode cX10_pairsAlike 39 = .ok (.iload_n 1, 1) := by decide +kernel
theorem dX10_pairsAlike_40 : decode cX10_pairsAlike 40 = .ok (.iaload, 1) := by decide +kernel
theorem dX10_pairsAlike_41 : decode cX10_pairsAlike 41 = .ok (.iload 4, 2) := by decide +kernel
theorem dX10_pairsAlike_43 : decode cX10_pairsAlike 43 = .ok (.invokestatic 126, 3) := by decide +kernel
theorem dX10_pairsAlike_46 : decode cX10_pairsAlike 46 = .ok (.ifCond .ne 6, 3) := by decide +kernel
theorem dX10_pairsAlike_49 : decode cX10_pairsAlike 49 = .ok (.goto 28, 3) := by decide +kernel
theorem dX10_pairsAlike_52 : decode cX10_pairsAlike 52 = .ok (.iload_n 3, 1) := by decide +kernel
theorem dX10_pairsAlike_53 : decode cX10_pairsAlike 53 = .ok (.aload_n 0, 1) := by decide +kernel
theorem dX10_pairsAlike_54 : decode cX10_pairsAlike 54 = .ok (.getfield 28, 3) := by decide +kernel
theorem dX10_pairsAlike_57 : decode cX10_pairsAlike 57 = .ok (.aload_n 2, 1) := by decide +kernel
theorem dX10_pairsAlike_58 : decode cX10_pairsAlike 58 = .ok (.iload 4, 2) := by decide +kernel
theorem dX10_pairsAlike_60 : decode cX10_pairsAlike 60 = .ok (.iaload, 1) := by decide +kernel
theorem dX10_pairsAlike_61 : decode cX10_pairsAlike 61 = .ok (.iaload, 1) := by decide +kernel
theorem dX10_pairsAlike_62 : decode cX10_pairsAlike 62 = .ok (.iadd, 1) := by decide +kernel
theorem dX10_pairsAlike_63 : decode cX10_pairsAlike 63 = .ok (.istore_n 3, 1) := by decide +kernel
theorem dX10_pairsAlike_64 : decode cX10_pairsAlike 64 = .ok (.aload_n 0, 1) := by decide +kernel
theorem dX10_pairsAlike_65 : decode cX10_pairsAlike 65 = .ok (.getfield 28, 3) := by decide +kernel
theorem dX10_pairsAlike_68 : decode cX10_pairsAlike 68 = .ok (.aload_n 2, 1) := by decide +kernel
theorem dX10_pairsAlike_69 : decode cX10_pairsAlike 69 = .ok (.iload 4, 2) := by decide +kernel
theorem dX10_pairsAlike_71 : decode cX10_pairsAlike 71 = .ok (.iaload, 1) := by decide +kernel
theorem dX10_pairsAlike_72 : decode cX10_pairsAlike 72 = .ok (.dup2, 1) := by decide +kernel
theorem dX10_pairsAlike_73 : decode cX10_pairsAlike 73 = .ok (.iaload, 1) := by decide +kernel
theorem dX10_pairsAlike_74 : decode cX10_pairsAlike 74 = .ok (.iconst 1, 1) := by decide +kernel
theorem dX10_pairsAlike_75 : decode cX10_pairsAlike 75 = .ok (.iadd, 1) := by decide +kernel
theorem dX10_pairsAlike_76 : decode cX10_pairsAlike 76 = .ok (.iastore, 1) := by decide +kernel
theorem dX10_pairsAlike_77 : decode cX10_pairsAlike 77 = .ok (.iinc 4 1, 3) := by decide +kernel
theorem dX10_pairsAlike_80 : decode cX10_pairsAlike 80 = .ok (.goto (-54), 3) := by decide +kernel
theorem dX10_pairsAlike_83 : decode cX10_pairsAlike 83 = .ok (.iload_n 3, 1) := by decide +kernel
theorem dX10_pairsAlike_84 : decode cX10_pairsAlike 84 = .ok (.ireturn, 1) := by decide +kernel
theorem dX10_pairsNear_0 : decode cX10_pairsNear 0 = .ok (.iconst 0, 1) := by decide +kernel
theorem dX10_pairsNear_1 : decode cX10_pairsNear 1 = .ok (.istore_n 3, 1) := by decide +kernel
theorem dX10_pairsNear_2 : decode cX10_pairsNear 2 = .ok (.iconst 0, 1) := by decide +kernel
theorem dX10_pairsNear_3 : decode cX10_pairsNear 3 = .ok (.istore 4, 2) := by decide +kernel
theorem dX10_pairsNear_5 : decode cX10_pairsNear 5 = .ok (.iload 4, 2) := by decide +kernel
theorem dX10_pairsNear_7 : decode cX10_pairsNear 7 = .ok (.aload_n 0, 1) := by decide +kernel
theorem dX10_pairsNear_8 : decode cX10_pairsNear 8 = .ok (.getfield 120, 3) := by decide +kernel
theorem dX10_pairsNear_11 : decode cX10_pairsNear 11 = .ok (.if_icmp .ge 106, 3) := by decide +kernel
theorem dX10_pairsNear_14 : decode cX10_pairsNear 14 = .ok (.iconst 0, 1) := by decide +kernel
theorem dX10_pairsNear_15 : decode cX10_pairsNear 15 = .ok (.istore 5, 2) := by decide +kernel
theorem dX10_pairsNear_17 : decode cX10_pairsNear 17 = .ok (.iload 5, 2) := by decide +kernel
theorem dX10_pairsNear_19 : decode cX10_pairsNear 19 = .ok (.iload 4, 2) := by decide +kernel
theorem dX10_pairsNear_21 : decode cX10_pairsNear 21 = .ok (.if_icmp .ge 90, 3) := by decide +kernel
theorem dX10_pairsNear_24 : decode cX10_pairsNear 24 = .ok (.aload_n 0, 1) := by decide +kernel
theorem dX10_pairsNear_25 : decode cX10_pairsNear 25 = .ok (.getfield 19, 3) := by decide +kernel
theorem dX10_pairsNear_28 : decode cX10_pairsNear 28 = .ok (.iload_n 1, 1) := by decide +kernel
theorem dX10_pairsNear_29 : decode cX10_pairsNear 29 = .ok (.iaload, 1) := by decide +kernel
theorem dX10_pairsNear_30 : decode cX10_pairsNear 30 = .ok (.iload 4, 2) := by decide +kernel
theorem dX10_pairsNear_32 : decode cX10_pairsNear 32 = .ok (.invokestatic 126, 3) := by decide +kernel
theorem dX10_pairsNear_35 : decode cX10_pairsNear 35 = .ok (.ifCond .eq 76, 3) := by decide +kernel
theorem dX10_pairsNear_38 : decode cX10_pairsNear 38 = .ok (.aload_n 2, 1) := by decide +kernel
theorem dX10_pairsNear_39 : decode cX10_pairsNear 39 = .ok (.iload 4, 2) := by decide +kernel
theorem dX10_pairsNear_41 : decode cX10_pairsNear 41 = .ok (.iaload, 1) := by decide +kernel
theorem dX10_pairsNear_42 : decode cX10_pairsNear 42 = .ok (.aload_n 2, 1) := by decide +kernel
theorem dX10_pairsNear_43 : decode cX10_pairsNear 43 = .ok (.iload 5, 2) := by decide +kernel
theorem dX10_pairsNear_45 : decode cX10_pairsNear 45 = .ok (.iaload, 1) := by decide +kernel
theorem dX10_pairsNear_46 : decode cX10_pairsNear 46 = .ok (.if_icmp .ge 15, 3) := by decide +kernel
theorem dX10_pairsNear_49 : decode cX10_pairsNear 49 = .ok (.aload_n 2, 1) := by decide +kernel
theorem dX10_pairsNear_50 : decode cX10_pairsNear 50 = .ok (.iload 5, 2) := by decide +kernel
theorem dX10_pairsNear_52 : decode cX10_pairsNear 52 = .ok (.iaload, 1) := by decide +kernel
theorem dX10_pairsNear_53 : decode cX10_pairsNear 53 = .ok (.aload_n 2, 1) := by decide +kernel
theorem dX10_pairsNear_54 : decode cX10_pairsNear 54 = .ok (.iload 4, 2) := by decide +kernel
theorem dX10_pairsNear_56 : decode cX10_pairsNear 56 = .ok (.iaload, 1) := by decide +kernel
theorem dX10_pairsNear_57 : decode cX10_pairsNear 57 = .ok (.isub, 1) := by decide +kernel
theorem dX10_pairsNear_58 : decode cX10_pairsNear 58 = .ok (.goto 12, 3) := by decide +kernel
theorem dX10_pairsNear_61 : decode cX10_pairsNear 61 = .ok (.aload_n 2, 1) := by decide +kernel
theorem dX10_pairsNear_62 : decode cX10_pairsNear 62 = .ok (.iload 4, 2) := by decide +kernel
theorem dX10_pairsNear_64 : decode cX10_pairsNear 64 = .ok (.iaload, 1) := by decide +kernel
theorem dX10_pairsNear_65 : decode cX10_pairsNear 65 = .ok (.aload_n 2, 1) := by decide +kernel
theorem dX10_pairsNear_66 : decode cX10_pairsNear 66 = .ok (.iload 5, 2) := by decide +kernel
theorem dX10_pairsNear_68 : decode cX10_pairsNear 68 = .ok (.iaload, 1) := by decide +kernel
theorem dX10_pairsNear_69 : decode cX10_pairsNear 69 = .ok (.isub, 1) := by decide +kernel
theorem dX10_pairsNear_70 : decode cX10_pairsNear 70 = .ok (.istore 6, 2) := by decide +kernel
theorem dX10_pairsNear_72 : decode cX10_pairsNear 72 = .ok (.iload_n 3, 1) := by decide +kernel
theorem dX10_pairsNear_73 : decode cX10_pairsNear 73 = .ok (.aload_n 0, 1) := by decide +kernel
theorem dX10_pairsNear_74 : decode cX10_pairsNear 74 = .ok (.getfield 19, 3) := by decide +kernel
theorem dX10_pairsNear_77 : decode cX10_pairsNear 77 = .ok (.iload_n 1, 1) := by decide +kernel
theorem dX10_pairsNear_78 : decode cX10_pairsNear 78 = .ok (.iaload, 1) := by decide +kernel
theorem dX10_pairsNear_79 : decode cX10_pairsNear 79 = .ok (.iload 5, 2) := by decide +kernel
theorem dX10_pairsNear_81 : decode cX10_pairsNear 81 = .ok (.invokestatic 126, 3) := by decide +kernel
theorem dX10_pairsNear_84 : decode cX10_pairsNear 84 = .ok (.ifCond .eq 18, 3) := by decide +kernel
theorem dX10_pairsNear_87 : decode cX10_pairsNear 87 = .ok (.iload 6, 2) := by decide +kernel
theorem dX10_pairsNear_89 : decode cX10_pairsNear 89 = .ok (.aload_n 0, 1) := by decide +kernel
theorem dX10_pairsNear_90 : decode cX10_pairsNear 90 = .ok (.getfield 22, 3) := by decide +kernel
theorem dX10_pairsNear_93 : decode cX10_pairsNear 93 = .ok (.iload_n 1, 1) := by decide +kernel
theorem dX10_pairsNear_94 : decode cX10_pairsNear 94 = .ok (.iaload, 1) := by decide +kernel
theorem dX10_pairsNear_95 : decode cX10_pairsNear 95 = .ok (.if_icmp .ge 7, 3) := by decide +kernel
theorem dX10_pairsNear_98 : decode cX10_pairsNear 98 = .ok (.iconst 1, 1) := by decide +kernel
theorem dX10_pairsNear_99 : decode cX10_pairsNear 99 = .ok (.goto 4, 3) := by decide +kernel
theorem dX10_pairsNear_102 : decode cX10_pairsNear 102 = .ok (.iconst 0, 1) := by decide +kernel
theorem dX10_pairsNear_103 : decode cX10_pairsNear 103 = .ok (.iadd, 1) := by decide +kernel
theorem dX10_pairsNear_104 : decode cX10_pairsNear 104 = .ok (.istore_n 3, 1) := by decide +kernel
theorem dX10_pairsNear_105 : decode cX10_pairsNear 105 = .ok (.iinc 5 1, 3) := by decide +kernel
theorem dX10_pairsNear_108 : decode cX10_pairsNear 108 = .ok (.goto (-91), 3) := by decide +kernel
theorem dX10_pairsNear_111 : decode cX10_pairsNear 111 = .ok (.iinc 4 1, 3) := by decide +kernel
theorem dX10_pairsNear_114 : decode cX10_pairsNear 114 = .ok (.goto (-109), 3) := by decide +kernel
theorem dX10_pairsNear_117 : decode cX10_pairsNear 117 = .ok (.iload_n 3, 1) := by decide +kernel
theorem dX10_pairsNear_118 : decode cX10_pairsNear 118 = .ok (.ireturn, 1) := by decide +kernel
theorem dX10_notAscending_0 : decode cX10_notAscending 0 = .ok (.iconst 0, 1) := by decide +kernel
theorem dX10_notAscending_1 : decode cX10_notAscending 1 = .ok (.istore_n 3, 1) := by decide +kernel
theorem dX10_notAscending_2 : decode cX10_notAscending 2 = .ok (.iconst (-1), 1) := by decide +kernel
theorem dX10_notAscending_3 : decode cX10_notAscending 3 = .ok (.istore 4, 2) := by decide +kernel
theorem dX10_notAscending_5 : decode cX10_notAscending 5 = .ok (.iconst 0, 1) := by decide +kernel
theorem dX10_notAscending_6 : decode cX10_notAscending 6 = .ok (.istore 5, 2) := by decide +kernel
theorem dX10_notAscending_8 : decode cX10_notAscending 8 = .ok (.iload 5, 2) := by decide +kernel
theorem dX10_notAscending_10 : decode cX10_notAscending 10 = .ok (.aload_n 0, 1) := by decide +kernel
theorem dX10_notAscending_11 : decode cX10_notAscending 11 = .ok (.getfield 120, 3) := by decide +kernel
theorem dX10_notAscending_14 : decode cX10_notAscending 14 = .ok (.if_icmp .ge 61, 3) := by decide +kernel
theorem dX10_notAscending_17 : decode cX10_notAscending 17 = .ok (.aload_n 0, 1) := by decide +kernel
theorem dX10_notAscending_18 : decode cX10_notAscending 18 = .ok (.getfield 19, 3) := by decide +kernel
theorem dX10_notAscending_21 : decode cX10_notAscending 21 = .ok (.iload_n 1, 1) := by decide +kernel
theorem dX10_notAscending_22 : decode cX10_notAscending 22 = .ok (.iaload, 1) := by decide +kernel
theorem dX10_notAscending_23 : decode cX10_notAscending 23 = .ok (.iload 5, 2) := by decide +kernel
theorem dX10_notAscending_25 : decode cX10_notAscending 25 = .ok (.invokestatic 126, 3) := by decide +kernel
theorem dX10_notAscending_28 : decode cX10_notAscending 28 = .ok (.ifCond .ne 6, 3) := by decide +kernel
theorem dX10_notAscending_31 : decode cX10_notAscending 31 = .ok (.goto 38, 3) := by decide +kernel
theorem dX10_notAscending_34 : decode cX10_notAscending 34 = .ok (.iload_n 3, 1) := by decide +kernel
theorem dX10_notAscending_35 : decode cX10_notAscending 35 = .ok (.iload 4, 2) := by decide +kernel
theorem dX10_notAscending_37 : decode cX10_notAscending 37 = .ok (.ifCond .lt 25, 3) := by decide +kernel
theorem dX10_notAscending_40 : decode cX10_notAscending 40 = .ok (.aload_n 2, 1) := by decide +kernel
theorem dX10_notAscending_41 : decode cX10_notAscending 41 = .ok (.iload 5, 2) := by decide +kernel
theorem dX10_notAscending_43 : decode cX10_notAscending 43 = .ok (.iaload, 1) := by decide +kernel
theorem dX10_notAscending_44 : decode cX10_notAscending 44 = .ok (.aload_n 0, 1) := by decide +kernel
theorem dX10_notAscending_45 : decode cX10_notAscending 45 = .ok (.getfield 22, 3) := by decide +kernel
theorem dX10_notAscending_48 : decode cX10_notAscending 48 = .ok (.iload_n 1, 1) := by decide +kernel
theorem dX10_notAscending_49 : decode cX10_notAscending 49 = .ok (.iaload, 1) := by decide +kernel
theorem dX10_notAscending_50 : decode cX10_notAscending 50 = .ok (.aload_n 2, 1) := by decide +kernel
theorem dX10_notAscending_51 : decode cX10_notAscending 51 = .ok (.iload 4, 2) := by decide +kernel
theorem dX10_notAscending_53 : decode cX10_notAscending 53 = .ok (.iaload, 1) := by decide +kernel
theorem dX10_notAscending_54 : decode cX10_notAscending 54 = .ok (.iadd, 1) := by decide +kernel
theorem dX10_notAscending_55 : decode cX10_notAscending 55 = .ok (.if_icmp .ge 7, 3) := by decide +kernel
theorem dX10_notAscending_58 : decode cX10_notAscending 58 = .ok (.iconst 1, 1) := by decide +kernel
theorem dX10_notAscending_59 : decode cX10_notAscending 59 = .ok (.goto 4, 3) := by decide +kernel
theorem dX10_notAscending_62 : decode cX10_notAscending 62 = .ok (.iconst 0, 1) := by decide +kernel
theorem dX10_notAscending_63 : decode cX10_notAscending 63 = .ok (.iadd, 1) := by decide +kernel
theorem dX10_notAscending_64 : decode cX10_notAscending 64 = .ok (.istore_n 3, 1) := by decide +kernel
theorem dX10_notAscending_65 : decode cX10_notAscending 65 = .ok (.iload 5, 2) := by decide +kernel
theorem dX10_notAscending_67 : decode cX10_notAscending 67 = .ok (.istore 4, 2) := by decide +kernel
theorem dX10_notAscending_69 : decode cX10_notAscending 69 = .ok (.iinc 5 1, 3) := by decide +kernel
theorem dX10_notAscending_72 : decode cX10_notAscending 72 = .ok (.goto (-64), 3) := by decide +kernel
theorem dX10_notAscending_75 : decode cX10_notAscending 75 = .ok (.iload_n 3, 1) := by decide +kernel
theorem dX10_notAscending_76 : decode cX10_notAscending 76 = .ok (.ireturn, 1) := by decide +kernel
theorem dX10_sumOf_0 : decode cX10_sumOf 0 = .ok (.iconst 0, 1) := by decide +kernel
theorem dX10_sumOf_1 : decode cX10_sumOf 1 = .ok (.istore 4, 2) := by decide +kernel
theorem dX10_sumOf_3 : decode cX10_sumOf 3 = .ok (.iconst 0, 1) := by decide +kernel
theorem dX10_sumOf_4 : decode cX10_sumOf 4 = .ok (.istore 5, 2) := by decide +kernel
theorem dX10_sumOf_6 : decode cX10_sumOf 6 = .ok (.iload 5, 2) := by decide +kernel
theorem dX10_sumOf_8 : decode cX10_sumOf 8 = .ok (.aload_n 0, 1) := by decide +kernel
theorem dX10_sumOf_9 : decode cX10_sumOf 9 = .ok (.getfield 120, 3) := by decide +kernel
theorem dX10_sumOf_12 : decode cX10_sumOf 12 = .ok (.if_icmp .ge 55, 3) := by decide +kernel
theorem dX10_sumOf_15 : decode cX10_sumOf 15 = .ok (.iload 4, 2) := by decide +kernel
theorem dX10_sumOf_17 : decode cX10_sumOf 17 = .ok (.aload_n 0, 1) := by decide +kernel
theorem dX10_sumOf_18 : decode cX10_sumOf 18 = .ok (.getfield 19, 3) := by decide +kernel
theorem dX10_sumOf_21 : decode cX10_sumOf 21 = .ok (.iload_n 1, 1) := by decide +kernel
theorem dX10_sumOf_22 : decode cX10_sumOf 22 = .ok (.iaload, 1) := by decide +kernel
theorem dX10_sumOf_23 : decode cX10_sumOf 23 = .ok (.iload 5, 2) := by decide +kernel
theorem dX10_sumOf_25 : decode cX10_sumOf 25 = .ok (.invokestatic 126, 3) := by decide +kernel
theorem dX10_sumOf_28 : decode cX10_sumOf 28 = .ok (.ifCond .ne 7, 3) := by decide +kernel
theorem dX10_sumOf_31 : decode cX10_sumOf 31 = .ok (.iconst 0, 1) := by decide +kernel
theorem dX10_sumOf_32 : decode cX10_sumOf 32 = .ok (.goto 26, 3) := by decide +kernel
theorem dX10_sumOf_35 : decode cX10_sumOf 35 = .ok (.iload_n 3, 1) := by decide +kernel
theorem dX10_sumOf_36 : decode cX10_sumOf 36 = .ok (.ifCond .eq 18, 3) := by decide +kernel
theorem dX10_sumOf_39 : decode cX10_sumOf 39 = .ok (.aload_n 2, 1) := by decide +kernel
theorem dX10_sumOf_40 : decode cX10_sumOf 40 = .ok (.iload 5, 2) := by decide +kernel
theorem dX10_sumOf_42 : decode cX10_sumOf 42 = .ok (.iaload, 1) := by decide +kernel
theorem dX10_sumOf_43 : decode cX10_sumOf 43 = .ok (.ifCond .ne 7, 3) := by decide +kernel
theorem dX10_sumOf_46 : decode cX10_sumOf 46 = .ok (.iconst 1, 1) := by decide +kernel
theorem dX10_sumOf_47 : decode cX10_sumOf 47 = .ok (.goto 11, 3) := by decide +kernel
theorem dX10_sumOf_50 : decode cX10_sumOf 50 = .ok (.iconst 0, 1) := by decide +kernel
theorem dX10_sumOf_51 : decode cX10_sumOf 51 = .ok (.goto 7, 3) := by decide +kernel
theorem dX10_sumOf_54 : decode cX10_sumOf 54 = .ok (.aload_n 2, 1) := by decide +kernel
theorem dX10_sumOf_55 : decode cX10_sumOf 55 = .ok (.iload 5, 2) := by decide +kernel
theorem dX10_sumOf_57 : decode cX10_sumOf 57 = .ok (.iaload, 1) := by decide +kernel
theorem dX10_sumOf_58 : decode cX10_sumOf 58 = .ok (.iadd, 1) := by decide +kernel
theorem dX10_sumOf_59 : decode cX10_sumOf 59 = .ok (.istore 4, 2) := by decide +kernel
theorem dX10_sumOf_61 : decode cX10_sumOf 61 = .ok (.iinc 5 1, 3) := by decide +kernel
theorem dX10_sumOf_64 : decode cX10_sumOf 64 = .ok (.goto (-58), 3) := by decide +kernel
theorem dX10_sumOf_67 : decode cX10_sumOf 67 = .ok (.iload 4, 2) := by decide +kernel
theorem dX10_sumOf_69 : decode cX10_sumOf 69 = .ok (.ireturn, 1) := by decide +kernel
theorem dX10_violationOf_0 : decode cX10_violationOf 0 = .ok (.aload_n 0, 1) := by decide +kernel
theorem dX10_violationOf_1 : decode cX10_violationOf 1 = .ok (.getfield 16, 3) := by decide +kernel
theorem dX10_violationOf_4 : decode cX10_violationOf 4 = .ok (.iload_n 1, 1) := by decide +kernel
theorem dX10_violationOf_5 : decode cX10_violationOf 5 = .ok (.iaload, 1) := by decide +kernel
theorem dX10_violationOf_6 : decode cX10_violationOf 6 = .ok (.tableswitch 125 0 4 #[34, 41, 66, 92, 99], 34) := by decide +kernel
theorem dX10_violationOf_40 : decode cX10_violationOf 40 = .ok (.aload_n 0, 1) := by decide +kernel
theorem dX10_violationOf_41 : decode cX10_violationOf 41 = .ok (.iload_n 1, 1) := by decide +kernel
theorem dX10_violationOf_42 : decode cX10_violationOf 42 = .ok (.aload_n 2, 1) := by decide +kernel
theorem dX10_violationOf_43 : decode cX10_violationOf 43 = .ok (.invokevirtual 130, 3) := by decide +kernel
theorem dX10_violationOf_46 : decode cX10_violationOf 46 = .ok (.ireturn, 1) := by decide +kernel
theorem dX10_violationOf_47 : decode cX10_violationOf 47 = .ok (.aload_n 0, 1) := by decide +kernel
theorem dX10_violationOf_48 : decode cX10_violationOf 48 = .ok (.iload_n 1, 1) := by decide +kernel
theorem dX10_violationOf_49 : decode cX10_violationOf 49 = .ok (.aload_n 2, 1) := by decide +kernel
theorem dX10_violationOf_50 : decode cX10_violationOf 50 = .ok (.iconst 0, 1) := by decide +kernel
theorem dX10_violationOf_51 : decode cX10_violationOf 51 = .ok (.invokevirtual 134, 3) := by decide +kernel
theorem dX10_violationOf_54 : decode cX10_violationOf 54 = .ok (.aload_n 0, 1) := by decide +kernel
theorem dX10_violationOf_55 : decode cX10_violationOf 55 = .ok (.getfield 22, 3) := by decide +kernel
theorem dX10_violationOf_58 : decode cX10_violationOf 58 = .ok (.iload_n 1, 1) := by decide +kernel
theorem dX10_violationOf_59 : decode cX10_violationOf 59 = .ok (.iaload, 1) := by decide +kernel
theorem dX10_violationOf_60 : decode cX10_violationOf 60 = .ok (.isub, 1) := by decide +kernel
theorem dX10_violationOf_61 : decode cX10_violationOf 61 = .ok (.istore_n 3, 1) := by decide +kernel
theorem dX10_violationOf_62 : decode cX10_violationOf 62 = .ok (.iload_n 3, 1) := by decide +kernel
theorem dX10_violationOf_63 : decode cX10_violationOf 63 = .ok (.ifCond .ge 7, 3) := by decide +kernel
theorem dX10_violationOf_66 : decode cX10_violationOf 66 = .ok (.iconst 0, 1) := by decide +kernel
theorem dX10_violationOf_67 : decode cX10_violationOf 67 = .ok (.goto 4, 3) := by decide +kernel
theorem dX10_violationOf_70 : decode cX10_violationOf 70 = .ok (.iload_n 3, 1) := by decide +kernel
theorem dX10_violationOf_71 : decode cX10_violationOf 71 = .ok (.ireturn, 1) := by decide +kernel
theorem dX10_violationOf_72 : decode cX10_violationOf 72 = .ok (.aload_n 0, 1) := by decide +kernel
theorem dX10_violationOf_73 : decode cX10_violationOf 73 = .ok (.iload_n 1, 1) := by decide +kernel
theorem dX10_violationOf_74 : decode cX10_violationOf 74 = .ok (.aload_n 2, 1) := by decide +kernel
theorem dX10_violationOf_75 : decode cX10_violationOf 75 = .ok (.iconst 0, 1) := by decide +kernel
theorem dX10_violationOf_76 : decode cX10_violationOf 76 = .ok (.invokevirtual 134, 3) := by decide +kernel
theorem dX10_violationOf_79 : decode cX10_violationOf 79 = .ok (.aload_n 0, 1) := by decide +kernel
theorem dX10_violationOf_80 : decode cX10_violationOf 80 = .ok (.getfield 22, 3) := by decide +kernel
theorem dX10_violationOf_83 : decode cX10_violationOf 83 = .ok (.iload_n 1, 1) := by decide +kernel
theorem dX10_violationOf_84 : decode cX10_violationOf 84 = .ok (.iaload, 1) := by decide +kernel
theorem dX10_violationOf_85 : decode cX10_violationOf 85 = .ok (.isub, 1) := by decide +kernel
theorem dX10_violationOf_86 : decode cX10_violationOf 86 = .ok (.istore_n 3, 1) := by decide +kernel
theorem dX10_violationOf_87 : decode cX10_violationOf 87 = .ok (.iload_n 3, 1) := by decide +kernel
theorem dX10_violationOf_88 : decode cX10_violationOf 88 = .ok (.ifCond .ge 8, 3) := by decide +kernel
theorem dX10_violationOf_91 : decode cX10_violationOf 91 = .ok (.iload_n 3, 1) := by decide +kernel
theorem dX10_violationOf_92 : decode cX10_violationOf 92 = .ok (.ineg, 1) := by decide +kernel
theorem dX10_violationOf_93 : decode cX10_violationOf 93 = .ok (.goto 4, 3) := by decide +kernel
theorem dX10_violationOf_96 : decode cX10_violationOf 96 = .ok (.iload_n 3, 1) := by decide +kernel
theorem dX10_violationOf_97 : decode cX10_violationOf 97 = .ok (.ireturn, 1) := by decide +kernel
theorem dX10_violationOf_98 : decode cX10_violationOf 98 = .ok (.aload_n 0, 1) := by decide +kernel
theorem dX10_violationOf_99 : decode cX10_violationOf 99 = .ok (.iload_n 1, 1) := by decide +kernel
theorem dX10_violationOf_100 : decode cX10_violationOf 100 = .ok (.aload_n 2, 1) := by decide +kernel
theorem dX10_violationOf_101 : decode cX10_violationOf 101 = .ok (.invokevirtual 138, 3) := by decide +kernel
theorem dX10_violationOf_104 : decode cX10_violationOf 104 = .ok (.ireturn, 1) := by decide +kernel
theorem dX10_violationOf_105 : decode cX10_violationOf 105 = .ok (.aload_n 0, 1) := by decide +kernel
theorem dX10_violationOf_106 : decode cX10_violationOf 106 = .ok (.iload_n 1, 1) := by decide +kernel
theorem dX10_violationOf_107 : decode cX10_violationOf 107 = .ok (.aload_n 2, 1) := by decide +kernel
theorem dX10_violationOf_108 : decode cX10_violationOf 108 = .ok (.iconst 1, 1) := by decide +kernel
theorem dX10_violationOf_109 : decode cX10_violationOf 109 = .ok (.invokevirtual 134, 3) := by decide +kernel
theorem dX10_violationOf_112 : decode cX10_violationOf 112 = .ok (.aload_n 0, 1) := by decide +kernel
theorem dX10_violationOf_113 : decode cX10_violationOf 113 = .ok (.getfield 22, 3) := by decide +kernel
theorem dX10_violationOf_116 : decode cX10_violationOf 116 = .ok (.iload_n 1, 1) := by decide +kernel
theorem dX10_violationOf_117 : decode cX10_violationOf 117 = .ok (.iaload, 1) := by decide +kernel
theorem dX10_violationOf_118 : decode cX10_violationOf 118 = .ok (.isub, 1) := by decide +kernel
theorem dX10_violationOf_119 : decode cX10_violationOf 119 = .ok (.istore_n 3, 1) := by decide +kernel
theorem dX10_violationOf_120 : decode cX10_violationOf 120 = .ok (.iload_n 3, 1) := by decide +kernel
theorem dX10_violationOf_121 : decode cX10_violationOf 121 = .ok (.ifCond .ge 8, 3) := by decide +kernel
theorem dX10_violationOf_124 : decode cX10_violationOf 124 = .ok (.iload_n 3, 1) := by decide +kernel
theorem dX10_violationOf_125 : decode cX10_violationOf 125 = .ok (.ineg, 1) := by decide +kernel
theorem dX10_violationOf_126 : decode cX10_violationOf 126 = .ok (.goto 4, 3) := by decide +kernel
theorem dX10_violationOf_129 : decode cX10_violationOf 129 = .ok (.iload_n 3, 1) := by decide +kernel
theorem dX10_violationOf_130 : decode cX10_violationOf 130 = .ok (.ireturn, 1) := by decide +kernel
theorem dX10_violationOf_131 : decode cX10_violationOf 131 = .ok (.aload_n 0, 1) := by decide +kernel
theorem dX10_violationOf_132 : decode cX10_violationOf 132 = .ok (.iload_n 1, 1) := by decide +kernel
theorem dX10_violationOf_133 : decode cX10_violationOf 133 = .ok (.aload_n 2, 1) := by decide +kernel
theorem dX10_violationOf_134 : decode cX10_violationOf 134 = .ok (.invokevirtual 141, 3) := by decide +kernel
theorem dX10_violationOf_137 : decode cX10_violationOf 137 = .ok (.ireturn, 1) := by decide +kernel
theorem dX10_costOf_0 : decode cX10_costOf 0 = .ok (.iconst 0, 1) := by decide +kernel
theorem dX10_costOf_1 : decode cX10_costOf 1 = .ok (.istore_n 2, 1) := by decide +kernel
theorem dX10_costOf_2 : decode cX10_costOf 2 = .ok (.iconst 0, 1) := by decide +kernel
theorem dX10_costOf_3 : decode cX10_costOf 3 = .ok (.istore_n 3, 1) := by decide +kernel
theorem dX10_costOf_4 : decode cX10_costOf 4 = .ok (.iload_n 3, 1) := by decide +kernel
theorem dX10_costOf_5 : decode cX10_costOf 5 = .ok (.aload_n 0, 1) := by decide +kernel
theorem dX10_costOf_6 : decode cX10_costOf 6 = .ok (.getfield 123, 3) := by decide +kernel
theorem dX10_costOf_9 : decode cX10_costOf 9 = .ok (.if_icmp .ge 25, 3) := by decide +kernel
theorem dX10_costOf_12 : decode cX10_costOf 12 = .ok (.iload_n 2, 1) := by decide +kernel
theorem dX10_costOf_13 : decode cX10_costOf 13 = .ok (.aload_n 0, 1) := by decide +kernel
theorem dX10_costOf_14 : decode cX10_costOf 14 = .ok (.getfield 25, 3) := by decide +kernel
theorem dX10_costOf_17 : decode cX10_costOf 17 = .ok (.iload_n 3, 1) := by decide +kernel
theorem dX10_costOf_18 : decode cX10_costOf 18 = .ok (.iaload, 1) := by decide +kernel
theorem dX10_costOf_19 : decode cX10_costOf 19 = .ok (.aload_n 0, 1) := by decide +kernel
theorem dX10_costOf_20 : decode cX10_costOf 20 = .ok (.iload_n 3, 1) := by decide +kernel
theorem dX10_costOf_21 : decode cX10_costOf 21 = .ok (.aload_n 1, 1) := by decide +kernel
theorem dX10_costOf_22 : decode cX10_costOf 22 = .ok (.invokevirtual 144, 3) := by decide +kernel
theorem dX10_costOf_25 : decode cX10_costOf 25 = .ok (.imul, 1) := by decide +kernel
theorem dX10_costOf_26 : decode cX10_costOf 26 = .ok (.iadd, 1) := by decide +kernel
theorem dX10_costOf_27 : decode cX10_costOf 27 = .ok (.istore_n 2, 1) := by decide +kernel
theorem dX10_costOf_28 : decode cX10_costOf 28 = .ok (.iinc 3 1, 3) := by decide +kernel
theorem dX10_costOf_31 : decode cX10_costOf 31 = .ok (.goto (-27), 3) := by decide +kernel
theorem dX10_costOf_34 : decode cX10_costOf 34 = .ok (.iload_n 2, 1) := by decide +kernel
theorem dX10_costOf_35 : decode cX10_costOf 35 = .ok (.ireturn, 1) := by decide +kernel
theorem dX10_conflictOf_0 : decode cX10_conflictOf 0 = .ok (.iconst 0, 1) := by decide +kernel
theorem dX10_conflictOf_1 : decode cX10_conflictOf 1 = .ok (.istore_n 2, 1) := by decide +kernel
theorem dX10_conflictOf_2 : decode cX10_conflictOf 2 = .ok (.iconst 0, 1) := by decide +kernel
theorem dX10_conflictOf_3 : decode cX10_conflictOf 3 = .ok (.istore_n 3, 1) := by decide +kernel
theorem dX10_conflictOf_4 : decode cX10_conflictOf 4 = .ok (.iload_n 3, 1) := by decide +kernel
theorem dX10_conflictOf_5 : decode cX10_conflictOf 5 = .ok (.aload_n 0, 1) := by decide +kernel
theorem dX10_conflictOf_6 : decode cX10_conflictOf 6 = .ok (.getfield 123, 3) := by decide +kernel
theorem dX10_conflictOf_9 : decode cX10_conflictOf 9 = .ok (.if_icmp .ge 45, 3) := by decide +kernel
theorem dX10_conflictOf_12 : decode cX10_conflictOf 12 = .ok (.iload_n 2, 1) := by decide +kernel
theorem dX10_conflictOf_13 : decode cX10_conflictOf 13 = .ok (.aload_n 0, 1) := by decide +kernel
theorem dX10_conflictOf_14 : decode cX10_conflictOf 14 = .ok (.getfield 19, 3) := by decide +kernel
theorem dX10_conflictOf_17 : decode cX10_conflictOf 17 = .ok (.iload_n 3, 1) := by decide +kernel
theorem dX10_conflictOf_18 : decode cX10_conflictOf 18 = .ok (.iaload, 1) := by decide +kernel
theorem dX10_conflictOf_19 : decode cX10_conflictOf 19 = .ok (.iload_n 1, 1) := by decide +kernel
theorem dX10_conflictOf_20 : decode cX10_conflictOf 20 = .ok (.invokestatic 126, 3) := by decide +kernel
theorem dX10_conflictOf_23 : decode cX10_conflictOf 23 = .ok (.ifCond .eq 22, 3) := by decide +kernel
theorem dX10_conflictOf_26 : decode cX10_conflictOf 26 = .ok (.aload_n 0, 1) := by decide +kernel
theorem dX10_conflictOf_27 : decode cX10_conflictOf 27 = .ok (.getfield 25, 3) := by decide +kernel
theorem dX10_conflictOf_30 : decode cX10_conflictOf 30 = .ok (.iload_n 3, 1) := by decide +kernel
theorem dX10_conflictOf_31 : decode cX10_conflictOf 31 = .ok (.iaload, 1) := by decide +kernel
theorem dX10_conflictOf_32 : decode cX10_conflictOf 32 = .ok (.aload_n 0, 1) := by decide +kernel
theorem dX10_conflictOf_33 : decode cX10_conflictOf 33 = .ok (.iload_n 3, 1) := by decide +kernel
theorem dX10_conflictOf_34 : decode cX10_conflictOf 34 = .ok (.aload_n 0, 1) := by decide +kernel
theorem dX10_conflictOf_35 : decode cX10_conflictOf 35 = .ok (.getfield 13, 3) := by decide +kernel
theorem dX10_conflictOf_38 : decode cX10_conflictOf 38 = .ok (.invokevirtual 144, 3) := by decide +kernel
theorem dX10_conflictOf_41 : decode cX10_conflictOf 41 = .ok (.imul, 1) := by decide +kernel
theorem dX10_conflictOf_42 : decode cX10_conflictOf 42 = .ok (.goto 4, 3) := by decide +kernel
theorem dX10_conflictOf_45 : decode cX10_conflictOf 45 = .ok (.iconst 0, 1) := by decide +kernel
theorem dX10_conflictOf_46 : decode cX10_conflictOf 46 = .ok (.iadd, 1) := by decide +kernel
theorem dX10_conflictOf_47 : decode cX10_conflictOf 47 = .ok (.istore_n 2, 1) := by decide +kernel
theorem dX10_conflictOf_48 : decode cX10_conflictOf 48 = .ok (.iinc 3 1, 3) := by decide +kernel
theorem dX10_conflictOf_51 : decode cX10_conflictOf 51 = .ok (.goto (-47), 3) := by decide +kernel
theorem dX10_conflictOf_54 : decode cX10_conflictOf 54 = .ok (.iload_n 2, 1) := by decide +kernel
theorem dX10_conflictOf_55 : decode cX10_conflictOf 55 = .ok (.ireturn, 1) := by decide +kernel
theorem dX10_allowsAll_0 : decode cX10_allowsAll 0 = .ok (.iconst 0, 1) := by decide +kernel
theorem dX10_allowsAll_1 : decode cX10_allowsAll 1 = .ok (.istore_n 1, 1) := by decide +kernel
theorem dX10_allowsAll_2 : decode cX10_allowsAll 2 = .ok (.iload_n 1, 1) := by decide +kernel
theorem dX10_allowsAll_3 : decode cX10_allowsAll 3 = .ok (.bipush 80, 2) := by decide +kernel
theorem dX10_allowsAll_5 : decode cX10_allowsAll 5 = .ok (.if_icmp .ge 16, 3) := by decide +kernel
theorem dX10_allowsAll_8 : decode cX10_allowsAll 8 = .ok (.aload_n 0, 1) := by decide +kernel
theorem dX10_allowsAll_9 : decode cX10_allowsAll 9 = .ok (.getfield 34, 3) := by decide +kernel
theorem dX10_allowsAll_12 : decode cX10_allowsAll 12 = .ok (.iload_n 1, 1) := by decide +kernel
theorem dX10_allowsAll_13 : decode cX10_allowsAll 13 = .ok (.iconst (-1), 1) := by decide +kernel
theorem dX10_allowsAll_14 : decode cX10_allowsAll 14 = .ok (.iastore, 1) := by decide +kernel
theorem dX10_allowsAll_15 : decode cX10_allowsAll 15 = .ok (.iinc 1 1, 3) := by decide +kernel
theorem dX10_allowsAll_18 : decode cX10_allowsAll 18 = .ok (.goto (-16), 3) := by decide +kernel
theorem dX10_allowsAll_21 : decode cX10_allowsAll 21 = .ok (.return_, 1) := by decide +kernel
theorem dX10_keepsBest_0 : decode cX10_keepsBest 0 = .ok (.iconst 0, 1) := by decide +kernel
theorem dX10_keepsBest_1 : decode cX10_keepsBest 1 = .ok (.istore_n 1, 1) := by decide +kernel
theorem dX10_keepsBest_2 : decode cX10_keepsBest 2 = .ok (.iload_n 1, 1) := by decide +kernel
theorem dX10_keepsBest_3 : decode cX10_keepsBest 3 = .ok (.bipush 10, 2) := by decide +kernel
theorem dX10_keepsBest_5 : decode cX10_keepsBest 5 = .ok (.if_icmp .ge 21, 3) := by decide +kernel
theorem dX10_keepsBest_8 : decode cX10_keepsBest 8 = .ok (.aload_n 0, 1) := by decide +kernel
theorem dX10_keepsBest_9 : decode cX10_keepsBest 9 = .ok (.getfield 31, 3) := by decide +kernel
theorem dX10_keepsBest_12 : decode cX10_keepsBest 12 = .ok (.iload_n 1, 1) := by decide +kernel
theorem dX10_keepsBest_13 : decode cX10_keepsBest 13 = .ok (.aload_n 0, 1) := by decide +kernel
theorem dX10_keepsBest_14 : decode cX10_keepsBest 14 = .ok (.getfield 13, 3) := by decide +kernel
theorem dX10_keepsBest_17 : decode cX10_keepsBest 17 = .ok (.iload_n 1, 1) := by decide +kernel
theorem dX10_keepsBest_18 : decode cX10_keepsBest 18 = .ok (.iaload, 1) := by decide +kernel
theorem dX10_keepsBest_19 : decode cX10_keepsBest 19 = .ok (.iastore, 1) := by decide +kernel
theorem dX10_keepsBest_20 : decode cX10_keepsBest 20 = .ok (.iinc 1 1, 3) := by decide +kernel
theorem dX10_keepsBest_23 : decode cX10_keepsBest 23 = .ok (.goto (-21), 3) := by decide +kernel
theorem dX10_keepsBest_26 : decode cX10_keepsBest 26 = .ok (.aload_n 0, 1) := by decide +kernel
theorem dX10_keepsBest_27 : decode cX10_keepsBest 27 = .ok (.aload_n 0, 1) := by decide +kernel
theorem dX10_keepsBest_28 : decode cX10_keepsBest 28 = .ok (.getfield 147, 3) := by decide +kernel
theorem dX10_keepsBest_31 : decode cX10_keepsBest 31 = .ok (.putfield 150, 3) := by decide +kernel
theorem dX10_keepsBest_34 : decode cX10_keepsBest 34 = .ok (.aload_n 0, 1) := by decide +kernel
theorem dX10_keepsBest_35 : decode cX10_keepsBest 35 = .ok (.aload_n 0, 1) := by decide +kernel
theorem dX10_keepsBest_36 : decode cX10_keepsBest 36 = .ok (.getfield 153, 3) := by decide +kernel
theorem dX10_keepsBest_39 : decode cX10_keepsBest 39 = .ok (.putfield 156, 3) := by decide +kernel
theorem dX10_keepsBest_42 : decode cX10_keepsBest 42 = .ok (.return_, 1) := by decide +kernel
theorem dX10_counts_0 : decode cX10_counts 0 = .ok (.aload_n 0, 1) := by decide +kernel
theorem dX10_counts_1 : decode cX10_counts 1 = .ok (.aload_n 0, 1) := by decide +kernel
theorem dX10_counts_2 : decode cX10_counts 2 = .ok (.aload_n 0, 1) := by decide +kernel
theorem dX10_counts_3 : decode cX10_counts 3 = .ok (.getfield 13, 3) := by decide +kernel
theorem dX10_counts_6 : decode cX10_counts 6 = .ok (.invokevirtual 159, 3) := by decide +kernel
theorem dX10_counts_9 : decode cX10_counts 9 = .ok (.putfield 147, 3) := by decide +kernel
theorem dX10_counts_12 : decode cX10_counts 12 = .ok (.aload_n 0, 1) := by decide +kernel
theorem dX10_counts_13 : decode cX10_counts 13 = .ok (.getfield 147, 3) := by decide +kernel
theorem dX10_counts_16 : decode cX10_counts 16 = .ok (.aload_n 0, 1) := by decide +kernel
theorem dX10_counts_17 : decode cX10_counts 17 = .ok (.getfield 150, 3) := by decide +kernel
theorem dX10_counts_20 : decode cX10_counts 20 = .ok (.if_icmp .ge 7, 3) := by decide +kernel
theorem dX10_counts_23 : decode cX10_counts 23 = .ok (.aload_n 0, 1) := by decide +kernel
theorem dX10_counts_24 : decode cX10_counts 24 = .ok (.invokevirtual 163, 3) := by decide +kernel
theorem dX10_counts_27 : decode cX10_counts 27 = .ok (.return_, 1) := by decide +kernel
theorem dX10_begins_0 : decode cX10_begins 0 = .ok (.aload_n 0, 1) := by decide +kernel
theorem dX10_begins_1 : decode cX10_begins 1 = .ok (.iconst 0, 1) := by decide +kernel
theorem dX10_begins_2 : decode cX10_begins 2 = .ok (.putfield 153, 3) := by decide +kernel
theorem dX10_begins_5 : decode cX10_begins 5 = .ok (.aload_n 0, 1) := by decide +kernel
theorem dX10_begins_6 : decode cX10_begins 6 = .ok (.iconst 0, 1) := by decide +kernel
theorem dX10_begins_7 : decode cX10_begins 7 = .ok (.putfield 166, 3) := by decide +kernel
theorem dX10_begins_10 : decode cX10_begins 10 = .ok (.aload_n 0, 1) := by decide +kernel
theorem dX10_begins_11 : decode cX10_begins 11 = .ok (.iconst 0, 1) := by decide +kernel
theorem dX10_begins_12 : decode cX10_begins 12 = .ok (.putfield 169, 3) := by decide +kernel
theorem dX10_begins_15 : decode cX10_begins 15 = .ok (.aload_n 0, 1) := by decide +kernel
theorem dX10_begins_16 : decode cX10_begins 16 = .ok (.iconst 0, 1) := by decide +kernel
theorem dX10_begins_17 : decode cX10_begins 17 = .ok (.putfield 172, 3) := by decide +kernel
theorem dX10_begins_20 : decode cX10_begins 20 = .ok (.aload_n 0, 1) := by decide +kernel
theorem dX10_begins_21 : decode cX10_begins 21 = .ok (.invokevirtual 175, 3) := by decide +kernel
theorem dX10_begins_24 : decode cX10_begins 24 = .ok (.aload_n 0, 1) := by decide +kernel
theorem dX10_begins_25 : decode cX10_begins 25 = .ok (.aload_n 0, 1) := by decide +kernel
theorem dX10_begins_26 : decode cX10_begins 26 = .ok (.aload_n 0, 1) := by decide +kernel
theorem dX10_begins_27 : decode cX10_begins 27 = .ok (.getfield 13, 3) := by decide +kernel
theorem dX10_begins_30 : decode cX10_begins 30 = .ok (.invokevirtual 159, 3) := by decide +kernel
theorem dX10_begins_33 : decode cX10_begins 33 = .ok (.putfield 147, 3) := by decide +kernel
theorem dX10_begins_36 : decode cX10_begins 36 = .ok (.aload_n 0, 1) := by decide +kernel
theorem dX10_begins_37 : decode cX10_begins 37 = .ok (.invokevirtual 163, 3) := by decide +kernel
theorem dX10_begins_40 : decode cX10_begins 40 = .ok (.return_, 1) := by decide +kernel
theorem dX10_hands_0 : decode cX10_hands 0 = .ok (.iconst 0, 1) := by decide +kernel
theorem dX10_hands_1 : decode cX10_hands 1 = .ok (.istore_n 3, 1) := by decide +kernel
theorem dX10_hands_2 : decode cX10_hands 2 = .ok (.iload_n 3, 1) := by decide +kernel
theorem dX10_hands_3 : decode cX10_hands 3 = .ok (.aload_n 1, 1) := by decide +kernel
theorem dX10_hands_4 : decode cX10_hands 4 = .ok (.arraylength, 1) := by decide +kernel
theorem dX10_hands_5 : decode cX10_hands 5 = .ok (.if_icmp .ge 47, 3) := by decide +kernel
theorem dX10_hands_8 : decode cX10_hands 8 = .ok (.aload_n 0, 1) := by decide +kernel
theorem dX10_hands_9 : decode cX10_hands 9 = .ok (.getfield 178, 3) := by decide +kernel
theorem dX10_hands_12 : decode cX10_hands 12 = .ok (.ifCond .eq 15, 3) := by decide +kernel
theorem dX10_hands_15 : decode cX10_hands 15 = .ok (.aload_n 2, 1) := by decide +kernel
theorem dX10_hands_16 : decode cX10_hands 16 = .ok (.aload_n 0, 1) := by decide +kernel
theorem dX10_hands_17 : decode cX10_hands 17 = .ok (.getfield 182, 3) := by decide +kernel
theorem dX10_hands_20 : decode cX10_hands 20 = .ok (.aload_n 1, 1) := by decide +kernel
theorem dX10_hands_21 : decode cX10_hands 21 = .ok (.iload_n 3, 1) := by decide +kernel
theorem dX10_hands_22 : decode cX10_hands 22 = .ok (.iaload, 1) := by decide +kernel
theorem dX10_hands_23 : decode cX10_hands 23 = .ok (.iastore, 1) := by decide +kernel
theorem dX10_hands_24 : decode cX10_hands 24 = .ok (.goto 12, 3) := by decide +kernel
theorem dX10_hands_27 : decode cX10_hands 27 = .ok (.aload_n 1, 1) := by decide +kernel
theorem dX10_hands_28 : decode cX10_hands 28 = .ok (.iload_n 3, 1) := by decide +kernel
theorem dX10_hands_29 : decode cX10_hands 29 = .ok (.aload_n 2, 1) := by decide +kernel
theorem dX10_hands_30 : decode cX10_hands 30 = .ok (.aload_n 0, 1) := by decide +kernel
theorem dX10_hands_31 : decode cX10_hands 31 = .ok (.getfield 182, 3) := by decide +kernel
theorem dX10_hands_34 : decode cX10_hands 34 = .ok (.iaload, 1) := by decide +kernel
theorem dX10_hands_35 : decode cX10_hands 35 = .ok (.iastore, 1) := by decide +kernel
theorem dX10_hands_36 : decode cX10_hands 36 = .ok (.aload_n 0, 1) := by decide +kernel
theorem dX10_hands_37 : decode cX10_hands 37 = .ok (.dup, 1) := by decide +kernel
theorem dX10_hands_38 : decode cX10_hands 38 = .ok (.getfield 182, 3) := by decide +kernel
theorem dX10_hands_41 : decode cX10_hands 41 = .ok (.iconst 1, 1) := by decide +kernel
theorem dX10_hands_42 : decode cX10_hands 42 = .ok (.iadd, 1) := by decide +kernel
theorem dX10_hands_43 : decode cX10_hands 43 = .ok (.putfield 182, 3) := by decide +kernel
theorem dX10_hands_46 : decode cX10_hands 46 = .ok (.iinc 3 1, 3) := by decide +kernel
theorem dX10_hands_49 : decode cX10_hands 49 = .ok (.goto (-47), 3) := by decide +kernel
theorem dX10_hands_52 : decode cX10_hands 52 = .ok (.return_, 1) := by decide +kernel
theorem dX10_handsAll_0 : decode cX10_handsAll 0 = .ok (.aload_n 0, 1) := by decide +kernel
theorem dX10_handsAll_1 : decode cX10_handsAll 1 = .ok (.iload_n 3, 1) := by decide +kernel
theorem dX10_handsAll_2 : decode cX10_handsAll 2 = .ok (.putfield 178, 3) := by decide +kernel
theorem dX10_handsAll_5 : decode cX10_handsAll 5 = .ok (.aload_n 0, 1) := by decide +kernel
theorem dX10_handsAll_6 : decode cX10_handsAll 6 = .ok (.iload_n 2, 1) := by decide +kernel
theorem dX10_handsAll_7 : decode cX10_handsAll 7 = .ok (.putfield 182, 3) := by decide +kernel
theorem dX10_handsAll_10 : decode cX10_handsAll 10 = .ok (.aload_n 0, 1) := by decide +kernel
theorem dX10_handsAll_11 : decode cX10_handsAll 11 = .ok (.aload_n 0, 1) := by decide +kernel
theorem dX10_handsAll_12 : decode cX10_handsAll 12 = .ok (.getfield 7, 3) := by decide +kernel
theorem dX10_handsAll_15 : decode cX10_handsAll 15 = .ok (.aload_n 1, 1) := by decide +kernel
theorem dX10_handsAll_16 : decode cX10_handsAll 16 = .ok (.invokevirtual 185, 3) := by decide +kernel
theorem dX10_handsAll_19 : decode cX10_handsAll 19 = .ok (.aload_n 0, 1) := by decide +kernel
theorem dX10_handsAll_20 : decode cX10_handsAll 20 = .ok (.aload_n 0, 1) := by decide +kernel
theorem dX10_handsAll_21 : decode cX10_handsAll 21 = .ok (.getfield 13, 3) := by decide +kernel
theorem dX10_handsAll_24 : decode cX10_handsAll 24 = .ok (.aload_n 1, 1) := by decide +kernel
theorem dX10_handsAll_25 : decode cX10_handsAll 25 = .ok (.invokevirtual 185, 3) := by decide +kernel
theorem dX10_handsAll_28 : decode cX10_handsAll 28 = .ok (.aload_n 0, 1) := by decide +kernel
theorem dX10_handsAll_29 : decode cX10_handsAll 29 = .ok (.aload_n 0, 1) := by decide +kernel
theorem dX10_handsAll_30 : decode cX10_handsAll 30 = .ok (.getfield 16, 3) := by decide +kernel
theorem dX10_handsAll_33 : decode cX10_handsAll 33 = .ok (.aload_n 1, 1) := by decide +kernel
theorem dX10_handsAll_34 : decode cX10_handsAll 34 = .ok (.invokevirtual 185, 3) := by decide +kernel
theorem dX10_handsAll_37 : decode cX10_handsAll 37 = .ok (.aload_n 0, 1) := by decide +kernel
theorem dX10_handsAll_38 : decode cX10_handsAll 38 = .ok (.aload_n 0, 1) := by decide +kernel
theorem dX10_handsAll_39 : decode cX10_handsAll 39 = .ok (.getfield 19, 3) := by decide +kernel
theorem dX10_handsAll_42 : decode cX10_handsAll 42 = .ok (.aload_n 1, 1) := by decide +kernel
theorem dX10_handsAll_43 : decode cX10_handsAll 43 = .ok (.invokevirtual 185, 3) := by decide +kernel
theorem dX10_handsAll_46 : decode cX10_handsAll 46 = .ok (.aload_n 0, 1) := by decide +kernel
theorem dX10_handsAll_47 : decode cX10_handsAll 47 = .ok (.aload_n 0, 1) := by decide +kernel
theorem dX10_handsAll_48 : decode cX10_handsAll 48 = .ok (.getfield 22, 3) := by decide +kernel
theorem dX10_handsAll_51 : decode cX10_handsAll 51 = .ok (.aload_n 1, 1) := by decide +kernel
theorem dX10_handsAll_52 : decode cX10_handsAll 52 = .ok (.invokevirtual 185, 3) := by decide +kernel
theorem dX10_handsAll_55 : decode cX10_handsAll 55 = .ok (.aload_n 0, 1) := by decide +kernel
theorem dX10_handsAll_56 : decode cX10_handsAll 56 = .ok (.aload_n 0, 1) := by decide +kernel
theorem dX10_handsAll_57 : decode cX10_handsAll 57 = .ok (.getfield 25, 3) := by decide +kernel
theorem dX10_handsAll_60 : decode cX10_handsAll 60 = .ok (.aload_n 1, 1) := by decide +kernel
theorem dX10_handsAll_61 : decode cX10_handsAll 61 = .ok (.invokevirtual 185, 3) := by decide +kernel
theorem dX10_handsAll_64 : decode cX10_handsAll 64 = .ok (.iload_n 3, 1) := by decide +kernel
theorem dX10_handsAll_65 : decode cX10_handsAll 65 = .ok (.ifCond .eq 28, 3) := by decide +kernel
theorem dX10_handsAll_68 : decode cX10_handsAll 68 = .ok (.aload_n 1, 1) := by decide +kernel
theorem dX10_handsAll_69 : decode cX10_handsAll 69 = .ok (.aload_n 0, 1) := by decide +kernel
theorem dX10_handsAll_70 : decode cX10_handsAll 70 = .ok (.getfield 182, 3) := by decide +kernel
theorem dX10_handsAll_73 : decode cX10_handsAll 73 = .ok (.aload_n 0, 1) := by decide +kernel
theorem dX10_handsAll_74 : decode cX10_handsAll 74 = .ok (.getfield 120, 3) := by decide +kernel
theorem dX10_handsAll_77 : decode cX10_handsAll 77 = .ok (.iastore, 1) := by decide +kernel
theorem dX10_handsAll_78 : decode cX10_handsAll 78 = .ok (.aload_n 1, 1) := by decide +kernel
theorem dX10_handsAll_79 : decode cX10_handsAll 79 = .ok (.aload_n 0, 1) := by decide +kernel
theorem dX10_handsAll_80 : decode cX10_handsAll 80 = .ok (.getfield 182, 3) := by decide +kernel
theorem dX10_handsAll_83 : decode cX10_handsAll 83 = .ok (.iconst 1, 1) := by decide +kernel
theorem dX10_handsAll_84 : decode cX10_handsAll 84 = .ok (.iadd, 1) := by decide +kernel
theorem dX10_handsAll_85 : decode cX10_handsAll 85 = .ok (.aload_n 0, 1) := by decide +kernel
theorem dX10_handsAll_86 : decode cX10_handsAll 86 = .ok (.getfield 123, 3) := by decide +kernel
theorem dX10_handsAll_89 : decode cX10_handsAll 89 = .ok (.iastore, 1) := by decide +kernel
theorem dX10_handsAll_90 : decode cX10_handsAll 90 = .ok (.goto 25, 3) := by decide +kernel
theorem dX10_handsAll_93 : decode cX10_handsAll 93 = .ok (.aload_n 0, 1) := by decide +kernel
theorem dX10_handsAll_94 : decode cX10_handsAll 94 = .ok (.aload_n 1, 1) := by decide +kernel
theorem dX10_handsAll_95 : decode cX10_handsAll 95 = .ok (.aload_n 0, 1) := by decide +kernel
theorem dX10_handsAll_96 : decode cX10_handsAll 96 = .ok (.getfield 182, 3) := by decide +kernel
theorem dX10_handsAll_99 : decode cX10_handsAll 99 = .ok (.iaload, 1) := by decide +kernel
theorem dX10_handsAll_100 : decode cX10_handsAll 100 = .ok (.putfield 120, 3) := by decide +kernel
theorem dX10_handsAll_103 : decode cX10_handsAll 103 = .ok (.aload_n 0, 1) := by decide +kernel
theorem dX10_handsAll_104 : decode cX10_handsAll 104 = .ok (.aload_n 1, 1) := by decide +kernel
theorem dX10_handsAll_105 : decode cX10_handsAll 105 = .ok (.aload_n 0, 1) := by decide +kernel
theorem dX10_handsAll_106 : decode cX10_handsAll 106 = .ok (.getfield 182, 3) := by decide +kernel
theorem dX10_handsAll_109 : decode cX10_handsAll 109 = .ok (.iconst 1, 1) := by decide +kernel
theorem dX10_handsAll_110 : decode cX10_handsAll 110 = .ok (.iadd, 1) := by decide +kernel
theorem dX10_handsAll_111 : decode cX10_handsAll 111 = .ok (.iaload, 1) := by decide +kernel
theorem dX10_handsAll_112 : decode cX10_handsAll 112 = .ok (.putfield 123, 3) := by decide +kernel
theorem dX10_handsAll_115 : decode cX10_handsAll 115 = .ok (.return_, 1) := by decide +kernel
theorem dX10_remembers_0 : decode cX10_remembers 0 = .ok (.aload_n 0, 1) := by decide +kernel
theorem dX10_remembers_1 : decode cX10_remembers 1 = .ok (.getfield 189, 3) := by decide +kernel
theorem dX10_remembers_4 : decode cX10_remembers 4 = .ok (.bipush 8, 2) := by decide +kernel
theorem dX10_remembers_6 : decode cX10_remembers 6 = .ok (.if_icmp .ne 43, 3) := by decide +kernel
theorem dX10_remembers_9 : decode cX10_remembers 9 = .ok (.iconst 0, 1) := by decide +kernel
theorem dX10_remembers_10 : decode cX10_remembers 10 = .ok (.istore_n 1, 1) := by decide +kernel
theorem dX10_remembers_11 : decode cX10_remembers 11 = .ok (.iload_n 1, 1) := by decide +kernel
theorem dX10_remembers_12 : decode cX10_remembers 12 = .ok (.sipush 728, 3) := by decide +kernel
theorem dX10_remembers_15 : decode cX10_remembers 15 = .ok (.if_icmp .ge 24, 3) := by decide +kernel
theorem dX10_remembers_18 : decode cX10_remembers 18 = .ok (.aload_n 0, 1) := by decide +kernel
theorem dX10_remembers_19 : decode cX10_remembers 19 = .ok (.getfield 53, 3) := by decide +kernel
theorem dX10_remembers_22 : decode cX10_remembers 22 = .ok (.iload_n 1, 1) := by decide +kernel
theorem dX10_remembers_23 : decode cX10_remembers 23 = .ok (.aload_n 0, 1) := by decide +kernel
theorem dX10_remembers_24 : decode cX10_remembers 24 = .ok (.getfield 53, 3) := by decide +kernel
theorem dX10_remembers_27 : decode cX10_remembers 27 = .ok (.iload_n 1, 1) := by decide +kernel
theorem dX10_remembers_28 : decode cX10_remembers 28 = .ok (.bipush 104, 2) := by decide +kernel
theorem dX10_remembers_30 : decode cX10_remembers 30 = .ok (.iadd, 1) := by decide +kernel
theorem dX10_remembers_31 : decode cX10_remembers 31 = .ok (.iaload, 1) := by decide +kernel
theorem dX10_remembers_32 : decode cX10_remembers 32 = .ok (.iastore, 1) := by decide +kernel
theorem dX10_remembers_33 : decode cX10_remembers 33 = .ok (.iinc 1 1, 3) := by decide +kernel
theorem dX10_remembers_36 : decode cX10_remembers 36 = .ok (.goto (-25), 3) := by decide +kernel
theorem dX10_remembers_39 : decode cX10_remembers 39 = .ok (.aload_n 0, 1) := by decide +kernel
theorem dX10_remembers_40 : decode cX10_remembers 40 = .ok (.dup, 1) := by decide +kernel
theorem dX10_remembers_41 : decode cX10_remembers 41 = .ok (.getfield 189, 3) := by decide +kernel
theorem dX10_remembers_44 : decode cX10_remembers 44 = .ok (.iconst 1, 1) := by decide +kernel
theorem dX10_remembers_45 : decode cX10_remembers 45 = .ok (.isub, 1) := by decide +kernel
theorem dX10_remembers_46 : decode cX10_remembers 46 = .ok (.putfield 189, 3) := by decide +kernel
theorem dX10_remembers_49 : decode cX10_remembers 49 = .ok (.aload_n 0, 1) := by decide +kernel
theorem dX10_remembers_50 : decode cX10_remembers 50 = .ok (.aload_n 0, 1) := by decide +kernel
theorem dX10_remembers_51 : decode cX10_remembers 51 = .ok (.getfield 53, 3) := by decide +kernel
theorem dX10_remembers_54 : decode cX10_remembers 54 = .ok (.bipush 104, 2) := by decide +kernel
theorem dX10_remembers_56 : decode cX10_remembers 56 = .ok (.aload_n 0, 1) := by decide +kernel
theorem dX10_remembers_57 : decode cX10_remembers 57 = .ok (.getfield 189, 3) := by decide +kernel
theorem dX10_remembers_60 : decode cX10_remembers 60 = .ok (.imul, 1) := by decide +kernel
theorem dX10_remembers_61 : decode cX10_remembers 61 = .ok (.iconst 1, 1) := by decide +kernel
theorem dX10_remembers_62 : decode cX10_remembers 62 = .ok (.invokevirtual 192, 3) := by decide +kernel
theorem dX10_remembers_65 : decode cX10_remembers 65 = .ok (.aload_n 0, 1) := by decide +kernel
theorem dX10_remembers_66 : decode cX10_remembers 66 = .ok (.dup, 1) := by decide +kernel
theorem dX10_remembers_67 : decode cX10_remembers 67 = .ok (.getfield 189, 3) := by decide +kernel
theorem dX10_remembers_70 : decode cX10_remembers 70 = .ok (.iconst 1, 1) := by decide +kernel
theorem dX10_remembers_71 : decode cX10_remembers 71 = .ok (.iadd, 1) := by decide +kernel
theorem dX10_remembers_72 : decode cX10_remembers 72 = .ok (.putfield 189, 3) := by decide +kernel
theorem dX10_remembers_75 : decode cX10_remembers 75 = .ok (.return_, 1) := by decide +kernel
theorem dX10_clear_0 : decode cX10_clear 0 = .ok (.aload_n 0, 1) := by decide +kernel
theorem dX10_clear_1 : decode cX10_clear 1 = .ok (.iconst 0, 1) := by decide +kernel
theorem dX10_clear_2 : decode cX10_clear 2 = .ok (.putfield 117, 3) := by decide +kernel
theorem dX10_clear_5 : decode cX10_clear 5 = .ok (.aload_n 0, 1) := by decide +kernel
theorem dX10_clear_6 : decode cX10_clear 6 = .ok (.getfield 120, 3) := by decide +kernel
theorem dX10_clear_9 : decode cX10_clear 9 = .ok (.istore_n 1, 1) := by decide +kernel
theorem dX10_clear_10 : decode cX10_clear 10 = .ok (.aload_n 0, 1) := by decide +kernel
theorem dX10_clear_11 : decode cX10_clear 11 = .ok (.iconst 0, 1) := by decide +kernel
theorem dX10_clear_12 : decode cX10_clear 12 = .ok (.putfield 120, 3) := by decide +kernel
theorem dX10_clear_15 : decode cX10_clear 15 = .ok (.aload_n 0, 1) := by decide +kernel
theorem dX10_clear_16 : decode cX10_clear 16 = .ok (.iconst 0, 1) := by decide +kernel
theorem dX10_clear_17 : decode cX10_clear 17 = .ok (.putfield 123, 3) := by decide +kernel
theorem dX10_clear_20 : decode cX10_clear 20 = .ok (.aload_n 0, 1) := by decide +kernel
theorem dX10_clear_21 : decode cX10_clear 21 = .ok (.bipush 15, 2) := by decide +kernel
theorem dX10_clear_23 : decode cX10_clear 23 = .ok (.putfield 40, 3) := by decide +kernel
theorem dX10_clear_26 : decode cX10_clear 26 = .ok (.aload_n 0, 1) := by decide +kernel
theorem dX10_clear_27 : decode cX10_clear 27 = .ok (.iconst 3, 1) := by decide +kernel
theorem dX10_clear_28 : decode cX10_clear 28 = .ok (.putfield 44, 3) := by decide +kernel
theorem dX10_clear_31 : decode cX10_clear 31 = .ok (.aload_n 0, 1) := by decide +kernel
theorem dX10_clear_32 : decode cX10_clear 32 = .ok (.bipush 20, 2) := by decide +kernel
theorem dX10_clear_34 : decode cX10_clear 34 = .ok (.putfield 47, 3) := by decide +kernel
theorem dX10_clear_37 : decode cX10_clear 37 = .ok (.aload_n 0, 1) := by decide +kernel
theorem dX10_clear_38 : decode cX10_clear 38 = .ok (.iconst 1, 1) := by decide +kernel
theorem dX10_clear_39 : decode cX10_clear 39 = .ok (.putfield 50, 3) := by decide +kernel
theorem dX10_clear_42 : decode cX10_clear 42 = .ok (.aload_n 0, 1) := by decide +kernel
theorem dX10_clear_43 : decode cX10_clear 43 = .ok (.iconst 0, 1) := by decide +kernel
theorem dX10_clear_44 : decode cX10_clear 44 = .ok (.putfield 189, 3) := by decide +kernel
theorem dX10_clear_47 : decode cX10_clear 47 = .ok (.aload_n 0, 1) := by decide +kernel
theorem dX10_clear_48 : decode cX10_clear 48 = .ok (.invokevirtual 196, 3) := by decide +kernel
theorem dX10_clear_51 : decode cX10_clear 51 = .ok (.iload_n 1, 1) := by decide +kernel
theorem dX10_clear_52 : decode cX10_clear 52 = .ok (.ireturn, 1) := by decide +kernel
theorem dX10_comesVariable_0 : decode cX10_comesVariable 0 = .ok (.aload_n 0, 1) := by decide +kernel
theorem dX10_comesVariable_1 : decode cX10_comesVariable 1 = .ok (.getfield 7, 3) := by decide +kernel
theorem dX10_comesVariable_4 : decode cX10_comesVariable 4 = .ok (.aload_n 0, 1) := by decide +kernel
theorem dX10_comesVariable_5 : decode cX10_comesVariable 5 = .ok (.getfield 120, 3) := by decide +kernel
theorem dX10_comesVariable_8 : decode cX10_comesVariable 8 = .ok (.iload_n 1, 1) := by decide +kernel
theorem dX10_comesVariable_9 : decode cX10_comesVariable 9 = .ok (.iastore, 1) := by decide +kernel
theorem dX10_comesVariable_10 : decode cX10_comesVariable 10 = .ok (.aload_n 0, 1) := by decide +kernel
theorem dX10_comesVariable_11 : decode cX10_comesVariable 11 = .ok (.getfield 13, 3) := by decide +kernel
theorem dX10_comesVariable_14 : decode cX10_comesVariable 14 = .ok (.aload_n 0, 1) := by decide +kernel
theorem dX10_comesVariable_15 : decode cX10_comesVariable 15 = .ok (.getfield 120, 3) := by decide +kernel
theorem dX10_comesVariable_18 : decode cX10_comesVariable 18 = .ok (.iconst 0, 1) := by decide +kernel
theorem dX10_comesVariable_19 : decode cX10_comesVariable 19 = .ok (.iastore, 1) := by decide +kernel
theorem dX10_comesVariable_20 : decode cX10_comesVariable 20 = .ok (.aload_n 0, 1) := by decide +kernel
theorem dX10_comesVariable_21 : decode cX10_comesVariable 21 = .ok (.dup, 1) := by decide +kernel
theorem dX10_comesVariable_22 : decode cX10_comesVariable 22 = .ok (.getfield 120, 3) := by decide +kernel
theorem dX10_comesVariable_25 : decode cX10_comesVariable 25 = .ok (.iconst 1, 1) := by decide +kernel
theorem dX10_comesVariable_26 : decode cX10_comesVariable 26 = .ok (.iadd, 1) := by decide +kernel
theorem dX10_comesVariable_27 : decode cX10_comesVariable 27 = .ok (.putfield 120, 3) := by decide +kernel
theorem dX10_comesVariable_30 : decode cX10_comesVariable 30 = .ok (.return_, 1) := by decide +kernel
theorem dX10_addVariable_0 : decode cX10_addVariable 0 = .ok (.iload_n 1, 1) := by decide +kernel
theorem dX10_addVariable_1 : decode cX10_addVariable 1 = .ok (.iconst 2, 1) := by decide +kernel
theorem dX10_addVariable_2 : decode cX10_addVariable 2 = .ok (.bipush 8, 2) := by decide +kernel
theorem dX10_addVariable_4 : decode cX10_addVariable 4 = .ok (.invokestatic 199, 3) := by decide +kernel
theorem dX10_addVariable_7 : decode cX10_addVariable 7 = .ok (.ifCond .ne 9, 3) := by decide +kernel
theorem dX10_addVariable_10 : decode cX10_addVariable 10 = .ok (.aload_n 0, 1) := by decide +kernel
theorem dX10_addVariable_11 : decode cX10_addVariable 11 = .ok (.iconst 1, 1) := by decide +kernel
theorem dX10_addVariable_12 : decode cX10_addVariable 12 = .ok (.invokevirtual 203, 3) := by decide +kernel
theorem dX10_addVariable_15 : decode cX10_addVariable 15 = .ok (.ireturn, 1) := by decide +kernel
theorem dX10_addVariable_16 : decode cX10_addVariable 16 = .ok (.aload_n 0, 1) := by decide +kernel
theorem dX10_addVariable_17 : decode cX10_addVariable 17 = .ok (.getfield 120, 3) := by decide +kernel
theorem dX10_addVariable_20 : decode cX10_addVariable 20 = .ok (.bipush 10, 2) := by decide +kernel
theorem dX10_addVariable_22 : decode cX10_addVariable 22 = .ok (.if_icmp .ne 9, 3) := by decide +kernel
theorem dX10_addVariable_25 : decode cX10_addVariable 25 = .ok (.aload_n 0, 1) := by decide +kernel
theorem dX10_addVariable_26 : decode cX10_addVariable 26 = .ok (.iconst 2, 1) := by decide +kernel
theorem dX10_addVariable_27 : decode cX10_addVariable 27 = .ok (.invokevirtual 203, 3) := by decide +kernel
theorem dX10_addVariable_30 : decode cX10_addVariable 30 = .ok (.ireturn, 1) := by decide +kernel
theorem dX10_addVariable_31 : decode cX10_addVariable 31 = .ok (.aload_n 0, 1) := by decide +kernel
theorem dX10_addVariable_32 : decode cX10_addVariable 32 = .ok (.iconst 0, 1) := by decide +kernel
theorem dX10_addVariable_33 : decode cX10_addVariable 33 = .ok (.putfield 117, 3) := by decide +kernel
theorem dX10_addVariable_36 : decode cX10_addVariable 36 = .ok (.aload_n 0, 1) := by decide +kernel
theorem dX10_addVariable_37 : decode cX10_addVariable 37 = .ok (.invokevirtual 207, 3) := by decide +kernel
theorem dX10_addVariable_40 : decode cX10_addVariable 40 = .ok (.aload_n 0, 1) := by decide +kernel
theorem dX10_addVariable_41 : decode cX10_addVariable 41 = .ok (.iload_n 1, 1) := by decide +kernel
theorem dX10_addVariable_42 : decode cX10_addVariable 42 = .ok (.invokevirtual 210, 3) := by decide +kernel
theorem dX10_addVariable_45 : decode cX10_addVariable 45 = .ok (.aload_n 0, 1) := by decide +kernel
theorem dX10_addVariable_46 : decode cX10_addVariable 46 = .ok (.invokevirtual 196, 3) := by decide +kernel
theorem dX10_addVariable_49 : decode cX10_addVariable 49 = .ok (.aload_n 0, 1) := by decide +kernel
theorem dX10_addVariable_50 : decode cX10_addVariable 50 = .ok (.getfield 120, 3) := by decide +kernel
theorem dX10_addVariable_53 : decode cX10_addVariable 53 = .ok (.iconst 1, 1) := by decide +kernel
theorem dX10_addVariable_54 : decode cX10_addVariable 54 = .ok (.isub, 1) := by decide +kernel
theorem dX10_addVariable_55 : decode cX10_addVariable 55 = .ok (.ireturn, 1) := by decide +kernel
theorem dX10_setDomain_0 : decode cX10_setDomain 0 = .ok (.aload_n 0, 1) := by decide +kernel
theorem dX10_setDomain_1 : decode cX10_setDomain 1 = .ok (.iload_n 1, 1) := by decide +kernel
theorem dX10_setDomain_2 : decode cX10_setDomain 2 = .ok (.invokevirtual 214, 3) := by decide +kernel
theorem dX10_setDomain_5 : decode cX10_setDomain 5 = .ok (.ifCond .ne 9, 3) := by decide +kernel
theorem dX10_setDomain_8 : decode cX10_setDomain 8 = .ok (.aload_n 0, 1) := by decide +kernel
theorem dX10_setDomain_9 : decode cX10_setDomain 9 = .ok (.iconst 1, 1) := by decide +kernel
theorem dX10_setDomain_10 : decode cX10_setDomain 10 = .ok (.invokevirtual 203, 3) := by decide +kernel
theorem dX10_setDomain_13 : decode cX10_setDomain 13 = .ok (.ireturn, 1) := by decide +kernel
theorem dX10_setDomain_14 : decode cX10_setDomain 14 = .ok (.iload_n 2, 1) := by decide +kernel
theorem dX10_setDomain_15 : decode cX10_setDomain 15 = .ok (.iconst 2, 1) := by decide +kernel
theorem dX10_setDomain_16 : decode cX10_setDomain 16 = .ok (.bipush 8, 2) := by decide +kernel
theorem dX10_setDomain_18 : decode cX10_setDomain 18 = .ok (.invokestatic 199, 3) := by decide +kernel
theorem dX10_setDomain_21 : decode cX10_setDomain 21 = .ok (.ifCond .ne 9, 3) := by decide +kernel
theorem dX10_setDomain_24 : decode cX10_setDomain 24 = .ok (.aload_n 0, 1) := by decide +kernel
theorem dX10_setDomain_25 : decode cX10_setDomain 25 = .ok (.iconst 2, 1) := by decide +kernel
theorem dX10_setDomain_26 : decode cX10_setDomain 26 = .ok (.invokevirtual 203, 3) := by decide +kernel
theorem dX10_setDomain_29 : decode cX10_setDomain 29 = .ok (.ireturn, 1) := by decide +kernel
theorem dX10_setDomain_30 : decode cX10_setDomain 30 = .ok (.aload_n 0, 1) := by decide +kernel
theorem dX10_setDomain_31 : decode cX10_setDomain 31 = .ok (.iconst 0, 1) := by decide +kernel
theorem dX10_setDomain_32 : decode cX10_setDomain 32 = .ok (.putfield 117, 3) := by decide +kernel
theorem dX10_setDomain_35 : decode cX10_setDomain 35 = .ok (.aload_n 0, 1) := by decide +kernel
theorem dX10_setDomain_36 : decode cX10_setDomain 36 = .ok (.invokevirtual 207, 3) := by decide +kernel
theorem dX10_setDomain_39 : decode cX10_setDomain 39 = .ok (.aload_n 0, 1) := by decide +kernel
theorem dX10_setDomain_40 : decode cX10_setDomain 40 = .ok (.getfield 7, 3) := by decide +kernel
theorem dX10_setDomain_43 : decode cX10_setDomain 43 = .ok (.iload_n 1, 1) := by decide +kernel
theorem dX10_setDomain_44 : decode cX10_setDomain 44 = .ok (.iaload, 1) := by decide +kernel
theorem dX10_setDomain_45 : decode cX10_setDomain 45 = .ok (.istore_n 3, 1) := by decide +kernel
theorem dX10_setDomain_46 : decode cX10_setDomain 46 = .ok (.aload_n 0, 1) := by decide +kernel
theorem dX10_setDomain_47 : decode cX10_setDomain 47 = .ok (.getfield 7, 3) := by decide +kernel
theorem dX10_setDomain_50 : decode cX10_setDomain 50 = .ok (.iload_n 1, 1) := by decide +kernel
theorem dX10_setDomain_51 : decode cX10_setDomain 51 = .ok (.iload_n 2, 1) := by decide +kernel
theorem dX10_setDomain_52 : decode cX10_setDomain 52 = .ok (.iastore, 1) := by decide +kernel
theorem dX10_setDomain_53 : decode cX10_setDomain 53 = .ok (.aload_n 0, 1) := by decide +kernel
theorem dX10_setDomain_54 : decode cX10_setDomain 54 = .ok (.getfield 13, 3) := by decide +kernel
theorem dX10_setDomain_57 : decode cX10_setDomain 57 = .ok (.iload_n 1, 1) := by decide +kernel
theorem dX10_setDomain_58 : decode cX10_setDomain 58 = .ok (.aload_n 0, 1) := by decide +kernel
theorem dX10_setDomain_59 : decode cX10_setDomain 59 = .ok (.getfield 13, 3) := by decide +kernel
theorem dX10_setDomain_62 : decode cX10_setDomain 62 = .ok (.iload_n 1, 1) := by decide +kernel
theorem dX10_setDomain_63 : decode cX10_setDomain 63 = .ok (.iaload, 1) := by decide +kernel
theorem dX10_setDomain_64 : decode cX10_setDomain 64 = .ok (.iload_n 2, 1) := by decide +kernel
theorem dX10_setDomain_65 : decode cX10_setDomain 65 = .ok (.if_icmp .ge 12, 3) := by decide +kernel
theorem dX10_setDomain_68 : decode cX10_setDomain 68 = .ok (.aload_n 0, 1) := by decide +kernel
theorem dX10_setDomain_69 : decode cX10_setDomain 69 = .ok (.getfield 13, 3) := by decide +kernel
theorem dX10_setDomain_72 : decode cX10_setDomain 72 = .ok (.iload_n 1, 1) := by decide +kernel
theorem dX10_setDomain_73 : decode cX10_setDomain 73 = .ok (.iaload, 1) := by decide +kernel
theorem dX10_setDomain_74 : decode cX10_setDomain 74 = .ok (.goto 6, 3) := by decide +kernel
theorem dX10_setDomain_77 : decode cX10_setDomain 77 = .ok (.iload_n 2, 1) := by decide +kernel
theorem dX10_setDomain_78 : decode cX10_setDomain 78 = .ok (.iconst 1, 1) := by decide +kernel
theorem dX10_setDomain_79 : decode cX10_setDomain 79 = .ok (.isub, 1) := by decide +kernel
theorem dX10_setDomain_80 : decode cX10_setDomain 80 = .ok (.iastore, 1) := by decide +kernel
theorem dX10_setDomain_81 : decode cX10_setDomain 81 = .ok (.aload_n 0, 1) := by decide +kernel
theorem dX10_setDomain_82 : decode cX10_setDomain 82 = .ok (.invokevirtual 196, 3) := by decide +kernel
theorem dX10_setDomain_85 : decode cX10_setDomain 85 = .ok (.iload_n 3, 1) := by decide +kernel
theorem dX10_setDomain_86 : decode cX10_setDomain 86 = .ok (.ireturn, 1) := by decide +kernel
theorem dX10_comesConstraint_0 : decode cX10_comesConstraint 0 = .ok (.aload_n 0, 1) := by decide +kernel
theorem dX10_comesConstraint_1 : decode cX10_comesConstraint 1 = .ok (.getfield 16, 3) := by decide +kernel
theorem dX10_comesConstraint_4 : decode cX10_comesConstraint 4 = .ok (.aload_n 0, 1) := by decide +kernel
theorem dX10_comesConstraint_5 : decode cX10_comesConstraint 5 = .ok (.getfield 123, 3) := by decide +kernel
theorem dX10_comesConstraint_8 : decode cX10_comesConstraint 8 = .ok (.iload_n 1, 1) := by decide +kernel
theorem dX10_comesConstraint_9 : decode cX10_comesConstraint 9 = .ok (.iastore, 1) := by decide +kernel
theorem dX10_comesConstraint_10 : decode cX10_comesConstraint 10 = .ok (.aload_n 0, 1) := by decide +kernel
theorem dX10_comesConstraint_11 : decode cX10_comesConstraint 11 = .ok (.getfield 19, 3) := by decide +kernel
theorem dX10_comesConstraint_14 : decode cX10_comesConstraint 14 = .ok (.aload_n 0, 1) := by decide +kernel
theorem dX10_comesConstraint_15 : decode cX10_comesConstraint 15 = .ok (.getfield 123, 3) := by decide +kernel
theorem dX10_comesConstraint_18 : decode cX10_comesConstraint 18 = .ok (.iload_n 2, 1) := by decide +kernel
theorem dX10_comesConstraint_19 : decode cX10_comesConstraint 19 = .ok (.iastore, 1) := by decide +kernel
theorem dX10_comesConstraint_20 : decode cX10_comesConstraint 20 = .ok (.aload_n 0, 1) := by decide +kernel
theorem dX10_comesConstraint_21 : decode cX10_comesConstraint 21 = .ok (.getfield 22, 3) := by decide +kernel
theorem dX10_comesConstraint_24 : decode cX10_comesConstraint 24 = .ok (.aload_n 0, 1) := by decide +kernel
theorem dX10_comesConstraint_25 : decode cX10_comesConstraint 25 = .ok (.getfield 123, 3) := by decide +kernel
theorem dX10_comesConstraint_28 : decode cX10_comesConstraint 28 = .ok (.iload_n 3, 1) := by decide +kernel
theorem dX10_comesConstraint_29 : decode cX10_comesConstraint 29 = .ok (.iastore, 1) := by decide +kernel
theorem dX10_comesConstraint_30 : decode cX10_comesConstraint 30 = .ok (.aload_n 0, 1) := by decide +kernel
theorem dX10_comesConstraint_31 : decode cX10_comesConstraint 31 = .ok (.getfield 25, 3) := by decide +kernel
theorem dX10_comesConstraint_34 : decode cX10_comesConstraint 34 = .ok (.aload_n 0, 1) := by decide +kernel
theorem dX10_comesConstraint_35 : decode cX10_comesConstraint 35 = .ok (.getfield 123, 3) := by decide +kernel
theorem dX10_comesConstraint_38 : decode cX10_comesConstraint 38 = .ok (.iload 4, 2) := by decide +kernel
theorem dX10_comesConstraint_40 : decode cX10_comesConstraint 40 = .ok (.iastore, 1) := by decide +kernel
theorem dX10_comesConstraint_41 : decode cX10_comesConstraint 41 = .ok (.aload_n 0, 1) := by decide +kernel
theorem dX10_comesConstraint_42 : decode cX10_comesConstraint 42 = .ok (.dup, 1) := by decide +kernel
theorem dX10_comesConstraint_43 : decode cX10_comesConstraint 43 = .ok (.getfield 123, 3) := by decide +kernel
theorem dX10_comesConstraint_46 : decode cX10_comesConstraint 46 = .ok (.iconst 1, 1) := by decide +kernel
theorem dX10_comesConstraint_47 : decode cX10_comesConstraint 47 = .ok (.iadd, 1) := by decide +kernel
theorem dX10_comesConstraint_48 : decode cX10_comesConstraint 48 = .ok (.putfield 123, 3) := by decide +kernel
theorem dX10_comesConstraint_51 : decode cX10_comesConstraint 51 = .ok (.return_, 1) := by decide +kernel
theorem dX10_doExist_0 : decode cX10_doExist 0 = .ok (.iload_n 1, 1) := by decide +kernel
theorem dX10_doExist_1 : decode cX10_doExist 1 = .ok (.ifCond .lt 16, 3) := by decide +kernel
theorem dX10_doExist_4 : decode cX10_doExist 4 = .ok (.iload_n 1, 1) := by decide +kernel
theorem dX10_doExist_5 : decode cX10_doExist 5 = .ok (.aload_n 0, 1) := by decide +kernel
theorem dX10_doExist_6 : decode cX10_doExist 6 = .ok (.getfield 120, 3) := by decide +kernel
theorem dX10_doExist_9 : decode cX10_doExist 9 = .ok (.ishr, 1) := by decide +kernel
theorem dX10_doExist_10 : decode cX10_doExist 10 = .ok (.ifCond .ne 7, 3) := by decide +kernel
theorem dX10_doExist_13 : decode cX10_doExist 13 = .ok (.iconst 1, 1) := by decide +kernel
theorem dX10_doExist_14 : decode cX10_doExist 14 = .ok (.goto 4, 3) := by decide +kernel
theorem dX10_doExist_17 : decode cX10_doExist 17 = .ok (.iconst 0, 1) := by decide +kernel
theorem dX10_doExist_18 : decode cX10_doExist 18 = .ok (.ireturn, 1) := by decide +kernel
theorem dX10_addConstraint_0 : decode cX10_addConstraint 0 = .ok (.iload_n 1, 1) := by decide +kernel
theorem dX10_addConstraint_1 : decode cX10_addConstraint 1 = .ok (.iconst 0, 1) := by decide +kernel
theorem dX10_addConstraint_2 : decode cX10_addConstraint 2 = .ok (.iconst 5, 1) := by decide +kernel
theorem dX10_addConstraint_3 : decode cX10_addConstraint 3 = .ok (.invokestatic 199, 3) := by decide +kernel
theorem dX10_addConstraint_6 : decode cX10_addConstraint 6 = .ok (.ifCond .eq 41, 3) := by decide +kernel
theorem dX10_addConstraint_9 : decode cX10_addConstraint 9 = .ok (.iload_n 3, 1) := by decide +kernel
theorem dX10_addConstraint_10 : decode cX10_addConstraint 10 = .ok (.bipush (-50), 2) := by decide +kernel
theorem dX10_addConstraint_12 : decode cX10_addConstraint 12 = .ok (.bipush 50, 2) := by decide +kernel
theorem dX10_addConstraint_14 : decode cX10_addConstraint 14 = .ok (.invokestatic 199, 3) := by decide +kernel
theorem dX10_addConstraint_17 : decode cX10_addConstraint 17 = .ok (.ifCond .eq 30, 3) := by decide +kernel
theorem dX10_addConstraint_20 : decode cX10_addConstraint 20 = .ok (.iload 4, 2) := by decide +kernel
theorem dX10_addConstraint_22 : decode cX10_addConstraint 22 = .ok (.iconst 1, 1) := by decide +kernel
theorem dX10_addConstraint_23 : decode cX10_addConstraint 23 = .ok (.bipush 9, 2) := by decide +kernel
theorem dX10_addConstraint_25 : decode cX10_addConstraint 25 = .ok (.invokestatic 199, 3) := by decide +kernel
theorem dX10_addConstraint_28 : decode cX10_addConstraint 28 = .ok (.ifCond .eq 19, 3) := by decide +kernel
theorem dX10_addConstraint_31 : decode cX10_addConstraint 31 = .ok (.aload_n 0, 1) := by decide +kernel
theorem dX10_addConstraint_32 : decode cX10_addConstraint 32 = .ok (.iload_n 2, 1) := by decide +kernel
theorem dX10_addConstraint_33 : decode cX10_addConstraint 33 = .ok (.invokevirtual 218, 3) := by decide +kernel
theorem dX10_addConstraint_36 : decode cX10_addConstraint 36 = .ok (.ifCond .eq 11, 3) := by decide +kernel
theorem dX10_addConstraint_39 : decode cX10_addConstraint 39 = .ok (.iload_n 2, 1) := by decide +kernel
theorem dX10_addConstraint_40 : decode cX10_addConstraint 40 = .ok (.invokestatic 221, 3) := by decide +kernel
theorem dX10_addConstraint_43 : decode cX10_addConstraint 43 = .ok (.iconst 2, 1) := by decide +kernel
theorem dX10_addConstraint_44 : decode cX10_addConstraint 44 = .ok (.if_icmp .ge 9, 3) := by decide +kernel
theorem dX10_addConstraint_47 : decode cX10_addConstraint 47 = .ok (.aload_n 0, 1) := by decide +kernel
theorem dX10_addConstraint_48 : decode cX10_addConstraint 48 = .ok (.iconst 1, 1) := by decide +kernel
theorem dX10_addConstraint_49 : decode cX10_addConstraint 49 = .ok (.invokevirtual 203, 3) := by decide +kernel
theorem dX10_addConstraint_52 : decode cX10_addConstraint 52 = .ok (.ireturn, 1) := by decide +kernel
theorem dX10_addConstraint_53 : decode cX10_addConstraint 53 = .ok (.aload_n 0, 1) := by decide +kernel
theorem dX10_addConstraint_54 : decode cX10_addConstraint 54 = .ok (.getfield 123, 3) := by decide +kernel
theorem dX10_addConstraint_57 : decode cX10_addConstraint 57 = .ok (.bipush 20, 2) := by decide +kernel
theorem dX10_addConstraint_59 : decode cX10_addConstraint 59 = .ok (.if_icmp .ne 9, 3) := by decide +kernel
theorem dX10_addConstraint_62 : decode cX10_addConstraint 62 = .ok (.aload_n 0, 1) := by decide +kernel
theorem dX10_addConstraint_63 : decode cX10_addConstraint 63 = .ok (.iconst 2, 1) := by decide +kernel
theorem dX10_addConstraint_64 : decode cX10_addConstraint 64 = .ok (.invokevirtual 203, 3) := by decide +kernel
theorem dX10_addConstraint_67 : decode cX10_addConstraint 67 = .ok (.ireturn, 1) := by decide +kernel
theorem dX10_addConstraint_68 : decode cX10_addConstraint 68 = .ok (.aload_n 0, 1) := by decide +kernel
theorem dX10_addConstraint_69 : decode cX10_addConstraint 69 = .ok (.iconst 0, 1) := by decide +kernel
theorem dX10_addConstraint_70 : decode cX10_addConstraint 70 = .ok (.putfield 117, 3) := by decide +kernel
theorem dX10_addConstraint_73 : decode cX10_addConstraint 73 = .ok (.aload_n 0, 1) := by decide +kernel
theorem dX10_addConstraint_74 : decode cX10_addConstraint 74 = .ok (.invokevirtual 207, 3) := by decide +kernel
theorem dX10_addConstraint_77 : decode cX10_addConstraint 77 = .ok (.aload_n 0, 1) := by decide +kernel
theorem dX10_addConstraint_78 : decode cX10_addConstraint 78 = .ok (.iload_n 1, 1) := by decide +kernel
theorem dX10_addConstraint_79 : decode cX10_addConstraint 79 = .ok (.iload_n 2, 1) := by decide +kernel
theorem dX10_addConstraint_80 : decode cX10_addConstraint 80 = .ok (.iload_n 3, 1) := by decide +kernel
theorem dX10_addConstraint_81 : decode cX10_addConstraint 81 = .ok (.iload 4, 2) := by decide +kernel
theorem dX10_addConstraint_83 : decode cX10_addConstraint 83 = .ok (.invokevirtual 224, 3) := by decide +kernel
theorem dX10_addConstraint_86 : decode cX10_addConstraint 86 = .ok (.aload_n 0, 1) := by decide +kernel
theorem dX10_addConstraint_87 : decode cX10_addConstraint 87 = .ok (.invokevirtual 196, 3) := by decide +kernel
theorem dX10_addConstraint_90 : decode cX10_addConstraint 90 = .ok (.aload_n 0, 1) := by decide +kernel
theorem dX10_addConstraint_91 : decode cX10_addConstraint 91 = .ok (.getfield 123, 3) := by decide +kernel
theorem dX10_addConstraint_94 : decode cX10_addConstraint 94 = .ok (.iconst 1, 1) := by decide +kernel
theorem dX10_addConstraint_95 : decode cX10_addConstraint 95 = .ok (.isub, 1) := by decide +kernel
theorem dX10_addConstraint_96 : decode cX10_addConstraint 96 = .ok (.ireturn, 1) := by decide +kernel
theorem dX10_removeConstraint_0 : decode cX10_removeConstraint 0 = .ok (.aload_n 0, 1) := by decide +kernel
theorem dX10_removeConstraint_1 : decode cX10_removeConstraint 1 = .ok (.iload_n 1, 1) := by decide +kernel
theorem dX10_removeConstraint_2 : decode cX10_removeConstraint 2 = .ok (.invokevirtual 228, 3) := by decide +kernel
theorem dX10_removeConstraint_5 : decode cX10_removeConstraint 5 = .ok (.ifCond .ne 9, 3) := by decide +kernel
theorem dX10_removeConstraint_8 : decode cX10_removeConstraint 8 = .ok (.aload_n 0, 1) := by decide +kernel
theorem dX10_removeConstraint_9 : decode cX10_removeConstraint 9 = .ok (.iconst 1, 1) := by decide +kernel
theorem dX10_removeConstraint_10 : decode cX10_removeConstraint 10 = .ok (.invokevirtual 203, 3) := by decide +kernel
theorem dX10_removeConstraint_13 : decode cX10_removeConstraint 13 = .ok (.ireturn, 1) := by decide +kernel
theorem dX10_removeConstraint_14 : decode cX10_removeConstraint 14 = .ok (.aload_n 0, 1) := by decide +kernel
theorem dX10_removeConstraint_15 : decode cX10_removeConstraint 15 = .ok (.iconst 0, 1) := by decide +kernel
theorem dX10_removeConstraint_16 : decode cX10_removeConstraint 16 = .ok (.putfield 117, 3) := by decide +kernel
theorem dX10_removeConstraint_19 : decode cX10_removeConstraint 19 = .ok (.aload_n 0, 1) := by decide +kernel
theorem dX10_removeConstraint_20 : decode cX10_removeConstraint 20 = .ok (.invokevirtual 207, 3) := by decide +kernel
theorem dX10_removeConstraint_23 : decode cX10_removeConstraint 23 = .ok (.aload_n 0, 1) := by decide +kernel
theorem dX10_removeConstraint_24 : decode cX10_removeConstraint 24 = .ok (.dup, 1) := by decide +kernel
theorem dX10_removeConstraint_25 : decode cX10_removeConstraint 25 = .ok (.getfield 123, 3) := by decide +kernel
theorem dX10_removeConstraint_28 : decode cX10_removeConstraint 28 = .ok (.iconst 1, 1) := by decide +kernel
theorem dX10_removeConstraint_29 : decode cX10_removeConstraint 29 = .ok (.isub, 1) := by decide +kernel
theorem dX10_removeConstraint_30 : decode cX10_removeConstraint 30 = .ok (.putfield 123, 3) := by decide +kernel
theorem dX10_removeConstraint_33 : decode cX10_removeConstraint 33 = .ok (.iload_n 1, 1) := by decide +kernel
theorem dX10_removeConstraint_34 : decode cX10_removeConstraint 34 = .ok (.istore_n 2, 1) := by decide +kernel
theorem dX10_removeConstraint_35 : decode cX10_removeConstraint 35 = .ok (.iload_n 2, 1) := by decide +kernel
theorem dX10_removeConstraint_36 : decode cX10_removeConstraint 36 = .ok (.aload_n 0, 1) := by decide +kernel
theorem dX10_removeConstraint_37 : decode cX10_removeConstraint 37 = .ok (.getfield 123, 3) := by decide +kernel
theorem dX10_removeConstraint_40 : decode cX10_removeConstraint 40 = .ok (.if_icmp .ge 65, 3) := by decide +kernel
theorem dX10_removeConstraint_43 : decode cX10_removeConstraint 43 = .ok (.aload_n 0, 1) := by decide +kernel
theorem dX10_removeConstraint_44 : decode cX10_removeConstraint 44 = .ok (.getfield 16, 3) := by decide +kernel
theorem dX10_removeConstraint_47 : decode cX10_removeConstraint 47 = .ok (.iload_n 2, 1) := by decide +kernel
theorem dX10_removeConstraint_48 : decode cX10_removeConstraint 48 = .ok (.aload_n 0, 1) := by decide +kernel
theorem dX10_removeConstraint_49 : decode cX10_removeConstraint 49 = .ok (.getfield 16, 3) := by decide +kernel
theorem dX10_removeConstraint_52 : decode cX10_removeConstraint 52 = .ok (.iload_n 2, 1) := by decide +kernel
theorem dX10_removeConstraint_53 : decode cX10_removeConstraint 53 = .ok (.iconst 1, 1) := by decide +kernel
theorem dX10_removeConstraint_54 : decode cX10_removeConstraint 54 = .ok (.iadd, 1) := by decide +kernel
theorem dX10_removeConstraint_55 : decode cX10_removeConstraint 55 = .ok (.iaload, 1) := by decide +kernel
theorem dX10_removeConstraint_56 : decode cX10_removeConstraint 56 = .ok (.iastore, 1) := by decide +kernel
theorem dX10_removeConstraint_57 : decode cX10_removeConstraint 57 = .ok (.aload_n 0, 1) := by decide +kernel
theorem dX10_removeConstraint_58 : decode cX10_removeConstraint 58 = .ok (.getfield 19, 3) := by decide +kernel
theorem dX10_removeConstraint_61 : decode cX10_removeConstraint 61 = .ok (.iload_n 2, 1) := by decide +kernel
theorem dX10_removeConstraint_62 : decode cX10_removeConstraint 62 = .ok (.aload_n 0, 1) := by decide +kernel
theorem dX10_removeConstraint_63 : decode cX10_removeConstraint 63 = .ok (.getfield 19, 3) := by decide +kernel
theorem dX10_removeConstraint_66 : decode cX10_removeConstraint 66 = .ok (.iload_n 2, 1) := by decide +kernel
theorem dX10_removeConstraint_67 : decode cX10_removeConstraint 67 = .ok (.iconst 1, 1) := by decide +kernel
theorem dX10_removeConstraint_68 : decode cX10_removeConstraint 68 = .ok (.iadd, 1) := by decide +kernel
theorem dX10_removeConstraint_69 : decode cX10_removeConstraint 69 = .ok (.iaload, 1) := by decide +kernel
theorem dX10_removeConstraint_70 : decode cX10_removeConstraint 70 = .ok (.iastore, 1) := by decide +kernel
theorem dX10_removeConstraint_71 : decode cX10_removeConstraint 71 = .ok (.aload_n 0, 1) := by decide +kernel
theorem dX10_removeConstraint_72 : decode cX10_removeConstraint 72 = .ok (.getfield 22, 3) := by decide +kernel
theorem dX10_removeConstraint_75 : decode cX10_removeConstraint 75 = .ok (.iload_n 2, 1) := by decide +kernel
theorem dX10_removeConstraint_76 : decode cX10_removeConstraint 76 = .ok (.aload_n 0, 1) := by decide +kernel
theorem dX10_removeConstraint_77 : decode cX10_removeConstraint 77 = .ok (.getfield 22, 3) := by decide +kernel
theorem dX10_removeConstraint_80 : decode cX10_removeConstraint 80 = .ok (.iload_n 2, 1) := by decide +kernel
theorem dX10_removeConstraint_81 : decode cX10_removeConstraint 81 = .ok (.iconst 1, 1) := by decide +kernel
theorem dX10_removeConstraint_82 : decode cX10_removeConstraint 82 = .ok (.iadd, 1) := by decide +kernel
theorem dX10_removeConstraint_83 : decode cX10_removeConstraint 83 = .ok (.iaload, 1) := by decide +kernel
theorem dX10_removeConstraint_84 : decode cX10_removeConstraint 84 = .ok (.iastore, 1) := by decide +kernel
theorem dX10_removeConstraint_85 : decode cX10_removeConstraint 85 = .ok (.aload_n 0, 1) := by decide +kernel
theorem dX10_removeConstraint_86 : decode cX10_removeConstraint 86 = .ok (.getfield 25, 3) := by decide +kernel
theorem dX10_removeConstraint_89 : decode cX10_removeConstraint 89 = .ok (.iload_n 2, 1) := by decide +kernel
theorem dX10_removeConstraint_90 : decode cX10_removeConstraint 90 = .ok (.aload_n 0, 1) := by decide +kernel
theorem dX10_removeConstraint_91 : decode cX10_removeConstraint 91 = .ok (.getfield 25, 3) := by decide +kernel
theorem dX10_removeConstraint_94 : decode cX10_removeConstraint 94 = .ok (.iload_n 2, 1) := by decide +kernel
theorem dX10_removeConstraint_95 : decode cX10_removeConstraint 95 = .ok (.iconst 1, 1) := by decide +kernel
theorem dX10_removeConstraint_96 : decode cX10_removeConstraint 96 = .ok (.iadd, 1) := by decide +kernel
theorem dX10_removeConstraint_97 : decode cX10_removeConstraint 97 = .ok (.iaload, 1) := by decide +kernel
theorem dX10_removeConstraint_98 : decode cX10_removeConstraint 98 = .ok (.iastore, 1) := by decide +kernel
theorem dX10_removeConstraint_99 : decode cX10_removeConstraint 99 = .ok (.iinc 2 1, 3) := by decide +kernel
theorem dX10_removeConstraint_102 : decode cX10_removeConstraint 102 = .ok (.goto (-67), 3) := by decide +kernel
theorem dX10_removeConstraint_105 : decode cX10_removeConstraint 105 = .ok (.aload_n 0, 1) := by decide +kernel
theorem dX10_removeConstraint_106 : decode cX10_removeConstraint 106 = .ok (.invokevirtual 196, 3) := by decide +kernel
theorem dX10_removeConstraint_109 : decode cX10_removeConstraint 109 = .ok (.aload_n 0, 1) := by decide +kernel
theorem dX10_removeConstraint_110 : decode cX10_removeConstraint 110 = .ok (.getfield 123, 3) := by decide +kernel
theorem dX10_removeConstraint_113 : decode cX10_removeConstraint 113 = .ok (.ireturn, 1) := by decide +kernel
theorem dX10_setWeight_0 : decode cX10_setWeight 0 = .ok (.aload_n 0, 1) := by decide +kernel
theorem dX10_setWeight_1 : decode cX10_setWeight 1 = .ok (.iload_n 1, 1) := by decide +kernel
theorem dX10_setWeight_2 : decode cX10_setWeight 2 = .ok (.invokevirtual 228, 3) := by decide +kernel
theorem dX10_setWeight_5 : decode cX10_setWeight 5 = .ok (.ifCond .ne 9, 3) := by decide +kernel
theorem dX10_setWeight_8 : decode cX10_setWeight 8 = .ok (.aload_n 0, 1) := by decide +kernel
theorem dX10_setWeight_9 : decode cX10_setWeight 9 = .ok (.iconst 1, 1) := by decide +kernel
theorem dX10_setWeight_10 : decode cX10_setWeight 10 = .ok (.invokevirtual 203, 3) := by decide +kernel
theorem dX10_setWeight_13 : decode cX10_setWeight 13 = .ok (.ireturn, 1) := by decide +kernel
theorem dX10_setWeight_14 : decode cX10_setWeight 14 = .ok (.iload_n 2, 1) := by decide +kernel
theorem dX10_setWeight_15 : decode cX10_setWeight 15 = .ok (.iconst 1, 1) := by decide +kernel
theorem dX10_setWeight_16 : decode cX10_setWeight 16 = .ok (.bipush 9, 2) := by decide +kernel
theorem dX10_setWeight_18 : decode cX10_setWeight 18 = .ok (.invokestatic 199, 3) := by decide +kernel
theorem dX10_setWeight_21 : decode cX10_setWeight 21 = .ok (.ifCond .ne 9, 3) := by decide +kernel
theorem dX10_setWeight_24 : decode cX10_setWeight 24 = .ok (.aload_n 0, 1) := by decide +kernel
theorem dX10_setWeight_25 : decode cX10_setWeight 25 = .ok (.iconst 2, 1) := by decide +kernel
theorem dX10_setWeight_26 : decode cX10_setWeight 26 = .ok (.invokevirtual 203, 3) := by decide +kernel
theorem dX10_setWeight_29 : decode cX10_setWeight 29 = .ok (.ireturn, 1) := by decide +kernel
theorem dX10_setWeight_30 : decode cX10_setWeight 30 = .ok (.aload_n 0, 1) := by decide +kernel
theorem dX10_setWeight_31 : decode cX10_setWeight 31 = .ok (.iconst 0, 1) := by decide +kernel
theorem dX10_setWeight_32 : decode cX10_setWeight 32 = .ok (.putfield 117, 3) := by decide +kernel
theorem dX10_setWeight_35 : decode cX10_setWeight 35 = .ok (.aload_n 0, 1) := by decide +kernel
theorem dX10_setWeight_36 : decode cX10_setWeight 36 = .ok (.invokevirtual 207, 3) := by decide +kernel
theorem dX10_setWeight_39 : decode cX10_setWeight 39 = .ok (.aload_n 0, 1) := by decide +kernel
theorem dX10_setWeight_40 : decode cX10_setWeight 40 = .ok (.getfield 25, 3) := by decide +kernel
theorem dX10_setWeight_43 : decode cX10_setWeight 43 = .ok (.iload_n 1, 1) := by decide +kernel
theorem dX10_setWeight_44 : decode cX10_setWeight 44 = .ok (.iaload, 1) := by decide +kernel
theorem dX10_setWeight_45 : decode cX10_setWeight 45 = .ok (.istore_n 3, 1) := by decide +kernel
theorem dX10_setWeight_46 : decode cX10_setWeight 46 = .ok (.aload_n 0, 1) := by decide +kernel
theorem dX10_setWeight_47 : decode cX10_setWeight 47 = .ok (.getfield 25, 3) := by decide +kernel
theorem dX10_setWeight_50 : decode cX10_setWeight 50 = .ok (.iload_n 1, 1) := by decide +kernel
theorem dX10_setWeight_51 : decode cX10_setWeight 51 = .ok (.iload_n 2, 1) := by decide +kernel
theorem dX10_setWeight_52 : decode cX10_setWeight 52 = .ok (.iastore, 1) := by decide +kernel
theorem dX10_setWeight_53 : decode cX10_setWeight 53 = .ok (.aload_n 0, 1) := by decide +kernel
theorem dX10_setWeight_54 : decode cX10_setWeight 54 = .ok (.invokevirtual 196, 3) := by decide +kernel
theorem dX10_setWeight_57 : decode cX10_setWeight 57 = .ok (.iload_n 3, 1) := by decide +kernel
theorem dX10_setWeight_58 : decode cX10_setWeight 58 = .ok (.ireturn, 1) := by decide +kernel
theorem dX10_isIn_0 : decode cX10_isIn 0 = .ok (.iload_n 2, 1) := by decide +kernel
theorem dX10_isIn_1 : decode cX10_isIn 1 = .ok (.ifCond .lt 17, 3) := by decide +kernel
theorem dX10_isIn_4 : decode cX10_isIn 4 = .ok (.iload_n 2, 1) := by decide +kernel
theorem dX10_isIn_5 : decode cX10_isIn 5 = .ok (.aload_n 0, 1) := by decide +kernel
theorem dX10_isIn_6 : decode cX10_isIn 6 = .ok (.getfield 7, 3) := by decide +kernel
theorem dX10_isIn_9 : decode cX10_isIn 9 = .ok (.iload_n 1, 1) := by decide +kernel
theorem dX10_isIn_10 : decode cX10_isIn 10 = .ok (.iaload, 1) := by decide +kernel
theorem dX10_isIn_11 : decode cX10_isIn 11 = .ok (.if_icmp .ge 7, 3) := by decide +kernel
theorem dX10_isIn_14 : decode cX10_isIn 14 = .ok (.iconst 1, 1) := by decide +kernel
theorem dX10_isIn_15 : decode cX10_isIn 15 = .ok (.goto 4, 3) := by decide +kernel
theorem dX10_isIn_18 : decode cX10_isIn 18 = .ok (.iconst 0, 1) := by decide +kernel
theorem dX10_isIn_19 : decode cX10_isIn 19 = .ok (.ireturn, 1) := by decide +kernel
theorem dX10_setValue_0 : decode cX10_setValue 0 = .ok (.aload_n 0, 1) := by decide +kernel
theorem dX10_setValue_1 : decode cX10_setValue 1 = .ok (.iload_n 1, 1) := by decide +kernel
theorem dX10_setValue_2 : decode cX10_setValue 2 = .ok (.invokevirtual 214, 3) := by decide +kernel
theorem dX10_setValue_5 : decode cX10_setValue 5 = .ok (.ifCond .ne 9, 3) := by decide +kernel
theorem dX10_setValue_8 : decode cX10_setValue 8 = .ok (.aload_n 0, 1) := by decide +kernel
theorem dX10_setValue_9 : decode cX10_setValue 9 = .ok (.iconst 1, 1) := by decide +kernel
theorem dX10_setValue_10 : decode cX10_setValue 10 = .ok (.invokevirtual 203, 3) := by decide +kernel
theorem dX10_setValue_13 : decode cX10_setValue 13 = .ok (.ireturn, 1) := by decide +kernel
theorem dX10_setValue_14 : decode cX10_setValue 14 = .ok (.aload_n 0, 1) := by decide +kernel
theorem dX10_setValue_15 : decode cX10_setValue 15 = .ok (.iload_n 1, 1) := by decide +kernel
theorem dX10_setValue_16 : decode cX10_setValue 16 = .ok (.iload_n 2, 1) := by decide +kernel
theorem dX10_setValue_17 : decode cX10_setValue 17 = .ok (.invokevirtual 231, 3) := by decide +kernel
theorem dX10_setValue_20 : decode cX10_setValue 20 = .ok (.ifCond .ne 9, 3) := by decide +kernel
theorem dX10_setValue_23 : decode cX10_setValue 23 = .ok (.aload_n 0, 1) := by decide +kernel
theorem dX10_setValue_24 : decode cX10_setValue 24 = .ok (.iconst 2, 1) := by decide +kernel
theorem dX10_setValue_25 : decode cX10_setValue 25 = .ok (.invokevirtual 203, 3) := by decide +kernel
theorem dX10_setValue_28 : decode cX10_setValue 28 = .ok (.ireturn, 1) := by decide +kernel
theorem dX10_setValue_29 : decode cX10_setValue 29 = .ok (.aload_n 0, 1) := by decide +kernel
theorem dX10_setValue_30 : decode cX10_setValue 30 = .ok (.iconst 0, 1) := by decide +kernel
theorem dX10_setValue_31 : decode cX10_setValue 31 = .ok (.putfield 117, 3) := by decide +kernel
theorem dX10_setValue_34 : decode cX10_setValue 34 = .ok (.aload_n 0, 1) := by decide +kernel
theorem dX10_setValue_35 : decode cX10_setValue 35 = .ok (.getfield 13, 3) := by decide +kernel
theorem dX10_setValue_38 : decode cX10_setValue 38 = .ok (.iload_n 1, 1) := by decide +kernel
theorem dX10_setValue_39 : decode cX10_setValue 39 = .ok (.iaload, 1) := by decide +kernel
theorem dX10_setValue_40 : decode cX10_setValue 40 = .ok (.istore_n 3, 1) := by decide +kernel
theorem dX10_setValue_41 : decode cX10_setValue 41 = .ok (.aload_n 0, 1) := by decide +kernel
theorem dX10_setValue_42 : decode cX10_setValue 42 = .ok (.getfield 13, 3) := by decide +kernel
theorem dX10_setValue_45 : decode cX10_setValue 45 = .ok (.iload_n 1, 1) := by decide +kernel
theorem dX10_setValue_46 : decode cX10_setValue 46 = .ok (.iload_n 2, 1) := by decide +kernel
theorem dX10_setValue_47 : decode cX10_setValue 47 = .ok (.iastore, 1) := by decide +kernel
theorem dX10_setValue_48 : decode cX10_setValue 48 = .ok (.aload_n 0, 1) := by decide +kernel
theorem dX10_setValue_49 : decode cX10_setValue 49 = .ok (.invokevirtual 196, 3) := by decide +kernel
theorem dX10_setValue_52 : decode cX10_setValue 52 = .ok (.iload_n 3, 1) := by decide +kernel
theorem dX10_setValue_53 : decode cX10_setValue 53 = .ok (.ireturn, 1) := by decide +kernel
theorem dX10_combinations_0 : decode cX10_combinations 0 = .ok (.iconst 1, 1) := by decide +kernel
theorem dX10_combinations_1 : decode cX10_combinations 1 = .ok (.istore_n 1, 1) := by decide +kernel
theorem dX10_combinations_2 : decode cX10_combinations 2 = .ok (.iconst 0, 1) := by decide +kernel
theorem dX10_combinations_3 : decode cX10_combinations 3 = .ok (.istore_n 2, 1) := by decide +kernel
theorem dX10_combinations_4 : decode cX10_combinations 4 = .ok (.iload_n 2, 1) := by decide +kernel
theorem dX10_combinations_5 : decode cX10_combinations 5 = .ok (.aload_n 0, 1) := by decide +kernel
theorem dX10_combinations_6 : decode cX10_combinations 6 = .ok (.getfield 120, 3) := by decide +kernel
theorem dX10_combinations_9 : decode cX10_combinations 9 = .ok (.if_icmp .ge 18, 3) := by decide +kernel
theorem dX10_combinations_12 : decode cX10_combinations 12 = .ok (.iload_n 1, 1) := by decide +kernel
theorem dX10_combinations_13 : decode cX10_combinations 13 = .ok (.aload_n 0, 1) := by decide +kernel
theorem dX10_combinations_14 : decode cX10_combinations 14 = .ok (.getfield 7, 3) := by decide +kernel
theorem dX10_combinations_17 : decode cX10_combinations 17 = .ok (.iload_n 2, 1) := by decide +kernel
theorem dX10_combinations_18 : decode cX10_combinations 18 = .ok (.iaload, 1) := by decide +kernel
theorem dX10_combinations_19 : decode cX10_combinations 19 = .ok (.imul, 1) := by decide +kernel
theorem dX10_combinations_20 : decode cX10_combinations 20 = .ok (.istore_n 1, 1) := by decide +kernel
theorem dX10_combinations_21 : decode cX10_combinations 21 = .ok (.iinc 2 1, 3) := by decide +kernel
theorem dX10_combinations_24 : decode cX10_combinations 24 = .ok (.goto (-20), 3) := by decide +kernel
theorem dX10_combinations_27 : decode cX10_combinations 27 = .ok (.iload_n 1, 1) := by decide +kernel
theorem dX10_combinations_28 : decode cX10_combinations 28 = .ok (.ireturn, 1) := by decide +kernel
theorem dX10_count_0 : decode cX10_count 0 = .ok (.iload_n 1, 1) := by decide +kernel
theorem dX10_count_1 : decode cX10_count 1 = .ok (.iconst 0, 1) := by decide +kernel
theorem dX10_count_2 : decode cX10_count 2 = .ok (.iconst 3, 1) := by decide +kernel
theorem dX10_count_3 : decode cX10_count 3 = .ok (.invokestatic 199, 3) := by decide +kernel
theorem dX10_count_6 : decode cX10_count 6 = .ok (.ifCond .ne 9, 3) := by decide +kernel
theorem dX10_count_9 : decode cX10_count 9 = .ok (.aload_n 0, 1) := by decide +kernel
theorem dX10_count_10 : decode cX10_count 10 = .ok (.iconst 1, 1) := by decide +kernel
theorem dX10_count_11 : decode cX10_count 11 = .ok (.invokevirtual 203, 3) := by decide +kernel
theorem dX10_count_14 : decode cX10_count 14 = .ok (.ireturn, 1) := by decide +kernel
theorem dX10_count_15 : decode cX10_count 15 = .ok (.aload_n 0, 1) := by decide +kernel
theorem dX10_count_16 : decode cX10_count 16 = .ok (.iconst 0, 1) := by decide +kernel
theorem dX10_count_17 : decode cX10_count 17 = .ok (.putfield 117, 3) := by decide +kernel
theorem dX10_count_20 : decode cX10_count 20 = .ok (.iconst 0, 1) := by decide +kernel
theorem dX10_count_21 : decode cX10_count 21 = .ok (.istore_n 2, 1) := by decide +kernel
theorem dX10_count_22 : decode cX10_count 22 = .ok (.iload_n 1, 1) := by decide +kernel
theorem dX10_count_23 : decode cX10_count 23 = .ok (.tableswitch 73 0 2 #[25, 30, 35], 25) := by decide +kernel
theorem dX10_count_48 : decode cX10_count 48 = .ok (.aload_n 0, 1) := by decide +kernel
theorem dX10_count_49 : decode cX10_count 49 = .ok (.getfield 120, 3) := by decide +kernel
theorem dX10_count_52 : decode cX10_count 52 = .ok (.ireturn, 1) := by decide +kernel
theorem dX10_count_53 : decode cX10_count 53 = .ok (.aload_n 0, 1) := by decide +kernel
theorem dX10_count_54 : decode cX10_count 54 = .ok (.getfield 123, 3) := by decide +kernel
theorem dX10_count_57 : decode cX10_count 57 = .ok (.ireturn, 1) := by decide +kernel
theorem dX10_count_58 : decode cX10_count 58 = .ok (.iconst 0, 1) := by decide +kernel
theorem dX10_count_59 : decode cX10_count 59 = .ok (.istore_n 3, 1) := by decide +kernel
theorem dX10_count_60 : decode cX10_count 60 = .ok (.iload_n 3, 1) := by decide +kernel
theorem dX10_count_61 : decode cX10_count 61 = .ok (.aload_n 0, 1) := by decide +kernel
theorem dX10_count_62 : decode cX10_count 62 = .ok (.getfield 123, 3) := by decide +kernel
theorem dX10_count_65 : decode cX10_count 65 = .ok (.if_icmp .ge 29, 3) := by decide +kernel
theorem dX10_count_68 : decode cX10_count 68 = .ok (.iload_n 2, 1) := by decide +kernel
theorem dX10_count_69 : decode cX10_count 69 = .ok (.aload_n 0, 1) := by decide +kernel
theorem dX10_count_70 : decode cX10_count 70 = .ok (.iload_n 3, 1) := by decide +kernel
theorem dX10_count_71 : decode cX10_count 71 = .ok (.aload_n 0, 1) := by decide +kernel
theorem dX10_count_72 : decode cX10_count 72 = .ok (.getfield 13, 3) := by decide +kernel
theorem dX10_count_75 : decode cX10_count 75 = .ok (.invokevirtual 144, 3) := by decide +kernel
theorem dX10_count_78 : decode cX10_count 78 = .ok (.ifCond .le 7, 3) := by decide +kernel
theorem dX10_count_81 : decode cX10_count 81 = .ok (.iconst 1, 1) := by decide +kernel
theorem dX10_count_82 : decode cX10_count 82 = .ok (.goto 4, 3) := by decide +kernel
theorem dX10_count_85 : decode cX10_count 85 = .ok (.iconst 0, 1) := by decide +kernel
theorem dX10_count_86 : decode cX10_count 86 = .ok (.iadd, 1) := by decide +kernel
theorem dX10_count_87 : decode cX10_count 87 = .ok (.istore_n 2, 1) := by decide +kernel
theorem dX10_count_88 : decode cX10_count 88 = .ok (.iinc 3 1, 3) := by decide +kernel
theorem dX10_count_91 : decode cX10_count 91 = .ok (.goto (-31), 3) := by decide +kernel
theorem dX10_count_94 : decode cX10_count 94 = .ok (.iload_n 2, 1) := by decide +kernel
theorem dX10_count_95 : decode cX10_count 95 = .ok (.ireturn, 1) := by decide +kernel
theorem dX10_count_96 : decode cX10_count 96 = .ok (.aload_n 0, 1) := by decide +kernel
theorem dX10_count_97 : decode cX10_count 97 = .ok (.invokevirtual 234, 3) := by decide +kernel
theorem dX10_count_100 : decode cX10_count 100 = .ok (.ireturn, 1) := by decide +kernel
theorem dX10_constraint_0 : decode cX10_constraint 0 = .ok (.aload_n 0, 1) := by decide +kernel
theorem dX10_constraint_1 : decode cX10_constraint 1 = .ok (.iload_n 1, 1) := by decide +kernel
theorem dX10_constraint_2 : decode cX10_constraint 2 = .ok (.invokevirtual 228, 3) := by decide +kernel
theorem dX10_constraint_5 : decode cX10_constraint 5 = .ok (.ifCond .ne 9, 3) := by decide +kernel
theorem dX10_constraint_8 : decode cX10_constraint 8 = .ok (.aload_n 0, 1) := by decide +kernel
theorem dX10_constraint_9 : decode cX10_constraint 9 = .ok (.iconst 1, 1) := by decide +kernel
theorem dX10_constraint_10 : decode cX10_constraint 10 = .ok (.invokevirtual 203, 3) := by decide +kernel
theorem dX10_constraint_13 : decode cX10_constraint 13 = .ok (.ireturn, 1) := by decide +kernel
theorem dX10_constraint_14 : decode cX10_constraint 14 = .ok (.iload_n 2, 1) := by decide +kernel
theorem dX10_constraint_15 : decode cX10_constraint 15 = .ok (.iconst 0, 1) := by decide +kernel
theorem dX10_constraint_16 : decode cX10_constraint 16 = .ok (.iconst 3, 1) := by decide +kernel
theorem dX10_constraint_17 : decode cX10_constraint 17 = .ok (.invokestatic 199, 3) := by decide +kernel
theorem dX10_constraint_20 : decode cX10_constraint 20 = .ok (.ifCond .ne 9, 3) := by decide +kernel
theorem dX10_constraint_23 : decode cX10_constraint 23 = .ok (.aload_n 0, 1) := by decide +kernel
theorem dX10_constraint_24 : decode cX10_constraint 24 = .ok (.iconst 2, 1) := by decide +kernel
theorem dX10_constraint_25 : decode cX10_constraint 25 = .ok (.invokevirtual 203, 3) := by decide +kernel
theorem dX10_constraint_28 : decode cX10_constraint 28 = .ok (.ireturn, 1) := by decide +kernel
theorem dX10_constraint_29 : decode cX10_constraint 29 = .ok (.aload_n 0, 1) := by decide +kernel
theorem dX10_constraint_30 : decode cX10_constraint 30 = .ok (.iconst 0, 1) := by decide +kernel
theorem dX10_constraint_31 : decode cX10_constraint 31 = .ok (.putfield 117, 3) := by decide +kernel
theorem dX10_constraint_34 : decode cX10_constraint 34 = .ok (.iload_n 2, 1) := by decide +kernel
theorem dX10_constraint_35 : decode cX10_constraint 35 = .ok (.ifCond .ne 12, 3) := by decide +kernel
theorem dX10_constraint_38 : decode cX10_constraint 38 = .ok (.aload_n 0, 1) := by decide +kernel
theorem dX10_constraint_39 : decode cX10_constraint 39 = .ok (.getfield 16, 3) := by decide +kernel
theorem dX10_constraint_42 : decode cX10_constraint 42 = .ok (.iload_n 1, 1) := by decide +kernel
theorem dX10_constraint_43 : decode cX10_constraint 43 = .ok (.iaload, 1) := by decide +kernel
theorem dX10_constraint_44 : decode cX10_constraint 44 = .ok (.goto 37, 3) := by decide +kernel
theorem dX10_constraint_47 : decode cX10_constraint 47 = .ok (.iload_n 2, 1) := by decide +kernel
theorem dX10_constraint_48 : decode cX10_constraint 48 = .ok (.iconst 1, 1) := by decide +kernel
theorem dX10_constraint_49 : decode cX10_constraint 49 = .ok (.if_icmp .ne 12, 3) := by decide +kernel
theorem dX10_constraint_52 : decode cX10_constraint 52 = .ok (.aload_n 0, 1) := by decide +kernel
theorem dX10_constraint_53 : decode cX10_constraint 53 = .ok (.getfield 19, 3) := by decide +kernel
theorem dX10_constraint_56 : decode cX10_constraint 56 = .ok (.iload_n 1, 1) := by decide +kernel
theorem dX10_constraint_57 : decode cX10_constraint 57 = .ok (.iaload, 1) := by decide +kernel
theorem dX10_constraint_58 : decode cX10_constraint 58 = .ok (.goto 23, 3) := by decide +kernel
theorem dX10_constraint_61 : decode cX10_constraint 61 = .ok (.iload_n 2, 1) := by decide +kernel
theorem dX10_constraint_62 : decode cX10_constraint 62 = .ok (.iconst 2, 1) := by decide +kernel
theorem dX10_constraint_63 : decode cX10_constraint 63 = .ok (.if_icmp .ne 12, 3) := by decide +kernel
theorem dX10_constraint_66 : decode cX10_constraint 66 = .ok (.aload_n 0, 1) := by decide +kernel
theorem dX10_constraint_67 : decode cX10_constraint 67 = .ok (.getfield 22, 3) := by decide +kernel
theorem dX10_constraint_70 : decode cX10_constraint 70 = .ok (.iload_n 1, 1) := by decide +kernel
theorem dX10_constraint_71 : decode cX10_constraint 71 = .ok (.iaload, 1) := by decide +kernel
theorem dX10_constraint_72 : decode cX10_constraint 72 = .ok (.goto 9, 3) := by decide +kernel
theorem dX10_constraint_75 : decode cX10_constraint 75 = .ok (.aload_n 0, 1) := by decide +kernel
theorem dX10_constraint_76 : decode cX10_constraint 76 = .ok (.getfield 25, 3) := by decide +kernel
theorem dX10_constraint_79 : decode cX10_constraint 79 = .ok (.iload_n 1, 1) := by decide +kernel
theorem dX10_constraint_80 : decode cX10_constraint 80 = .ok (.iaload, 1) := by decide +kernel
theorem dX10_constraint_81 : decode cX10_constraint 81 = .ok (.ireturn, 1) := by decide +kernel
theorem dX10_variable_0 : decode cX10_variable 0 = .ok (.aload_n 0, 1) := by decide +kernel
theorem dX10_variable_1 : decode cX10_variable 1 = .ok (.iload_n 1, 1) := by decide +kernel
theorem dX10_variable_2 : decode cX10_variable 2 = .ok (.invokevirtual 214, 3) := by decide +kernel
theorem dX10_variable_5 : decode cX10_variable 5 = .ok (.ifCond .ne 9, 3) := by decide +kernel
theorem dX10_variable_8 : decode cX10_variable 8 = .ok (.aload_n 0, 1) := by decide +kernel
theorem dX10_variable_9 : decode cX10_variable 9 = .ok (.iconst 1, 1) := by decide +kernel
theorem dX10_variable_10 : decode cX10_variable 10 = .ok (.invokevirtual 203, 3) := by decide +kernel
theorem dX10_variable_13 : decode cX10_variable 13 = .ok (.ireturn, 1) := by decide +kernel
theorem dX10_variable_14 : decode cX10_variable 14 = .ok (.iload_n 2, 1) := by decide +kernel
theorem dX10_variable_15 : decode cX10_variable 15 = .ok (.iconst 0, 1) := by decide +kernel
theorem dX10_variable_16 : decode cX10_variable 16 = .ok (.iconst 4, 1) := by decide +kernel
theorem dX10_variable_17 : decode cX10_variable 17 = .ok (.invokestatic 199, 3) := by decide +kernel
theorem dX10_variable_20 : decode cX10_variable 20 = .ok (.ifCond .ne 9, 3) := by decide +kernel
theorem dX10_variable_23 : decode cX10_variable 23 = .ok (.aload_n 0, 1) := by decide +kernel
theorem dX10_variable_24 : decode cX10_variable 24 = .ok (.iconst 2, 1) := by decide +kernel
theorem dX10_variable_25 : decode cX10_variable 25 = .ok (.invokevirtual 203, 3) := by decide +kernel
theorem dX10_variable_28 : decode cX10_variable 28 = .ok (.ireturn, 1) := by decide +kernel
theorem dX10_variable_29 : decode cX10_variable 29 = .ok (.aload_n 0, 1) := by decide +kernel
theorem dX10_variable_30 : decode cX10_variable 30 = .ok (.iconst 0, 1) := by decide +kernel
theorem dX10_variable_31 : decode cX10_variable 31 = .ok (.putfield 117, 3) := by decide +kernel
theorem dX10_variable_34 : decode cX10_variable 34 = .ok (.iconst 0, 1) := by decide +kernel
theorem dX10_variable_35 : decode cX10_variable 35 = .ok (.istore_n 3, 1) := by decide +kernel
theorem dX10_variable_36 : decode cX10_variable 36 = .ok (.iconst 0, 1) := by decide +kernel
theorem dX10_variable_37 : decode cX10_variable 37 = .ok (.istore 4, 2) := by decide +kernel
theorem dX10_variable_39 : decode cX10_variable 39 = .ok (.iload 4, 2) := by decide +kernel
theorem dX10_variable_41 : decode cX10_variable 41 = .ok (.aload_n 0, 1) := by decide +kernel
theorem dX10_variable_42 : decode cX10_variable 42 = .ok (.getfield 123, 3) := by decide +kernel
theorem dX10_variable_45 : decode cX10_variable 45 = .ok (.if_icmp .ge 31, 3) := by decide +kernel
theorem dX10_variable_48 : decode cX10_variable 48 = .ok (.iload_n 3, 1) := by decide +kernel
theorem dX10_variable_49 : decode cX10_variable 49 = .ok (.aload_n 0, 1) := by decide +kernel
theorem dX10_variable_50 : decode cX10_variable 50 = .ok (.getfield 19, 3) := by decide +kernel
theorem dX10_variable_53 : decode cX10_variable 53 = .ok (.iload 4, 2) := by decide +kernel
theorem dX10_variable_55 : decode cX10_variable 55 = .ok (.iaload, 1) := by decide +kernel
theorem dX10_variable_56 : decode cX10_variable 56 = .ok (.iload_n 1, 1) := by decide +kernel
theorem dX10_variable_57 : decode cX10_variable 57 = .ok (.invokestatic 126, 3) := by decide +kernel
theorem dX10_variable_60 : decode cX10_variable 60 = .ok (.ifCond .eq 7, 3) := by decide +kernel
theorem dX10_variable_63 : decode cX10_variable 63 = .ok (.iconst 1, 1) := by decide +kernel
theorem dX10_variable_64 : decode cX10_variable 64 = .ok (.goto 4, 3) := by decide +kernel
theorem dX10_variable_67 : decode cX10_variable 67 = .ok (.iconst 0, 1) := by decide +kernel
theorem dX10_variable_68 : decode cX10_variable 68 = .ok (.iadd, 1) := by decide +kernel
theorem dX10_variable_69 : decode cX10_variable 69 = .ok (.istore_n 3, 1) := by decide +kernel
theorem dX10_variable_70 : decode cX10_variable 70 = .ok (.iinc 4 1, 3) := by decide +kernel
theorem dX10_variable_73 : decode cX10_variable 73 = .ok (.goto (-34), 3) := by decide +kernel
theorem dX10_variable_76 : decode cX10_variable 76 = .ok (.iload_n 2, 1) := by decide +kernel
theorem dX10_variable_77 : decode cX10_variable 77 = .ok (.ifCond .ne 12, 3) := by decide +kernel
theorem dX10_variable_80 : decode cX10_variable 80 = .ok (.aload_n 0, 1) := by decide +kernel
theorem dX10_variable_81 : decode cX10_variable 81 = .ok (.getfield 7, 3) := by decide +kernel
theorem dX10_variable_84 : decode cX10_variable 84 = .ok (.iload_n 1, 1) := by decide +kernel
theorem dX10_variable_85 : decode cX10_variable 85 = .ok (.iaload, 1) := by decide +kernel
theorem dX10_variable_86 : decode cX10_variable 86 = .ok (.goto 45, 3) := by decide +kernel
theorem dX10_variable_89 : decode cX10_variable 89 = .ok (.iload_n 2, 1) := by decide +kernel
theorem dX10_variable_90 : decode cX10_variable 90 = .ok (.iconst 1, 1) := by decide +kernel
theorem dX10_variable_91 : decode cX10_variable 91 = .ok (.if_icmp .ne 12, 3) := by decide +kernel
theorem dX10_variable_94 : decode cX10_variable 94 = .ok (.aload_n 0, 1) := by decide +kernel
theorem dX10_variable_95 : decode cX10_variable 95 = .ok (.getfield 13, 3) := by decide +kernel
theorem dX10_variable_98 : decode cX10_variable 98 = .ok (.iload_n 1, 1) := by decide +kernel
theorem dX10_variable_99 : decode cX10_variable 99 = .ok (.iaload, 1) := by decide +kernel
theorem dX10_variable_100 : decode cX10_variable 100 = .ok (.goto 31, 3) := by decide +kernel
theorem dX10_variable_103 : decode cX10_variable 103 = .ok (.iload_n 2, 1) := by decide +kernel
theorem dX10_variable_104 : decode cX10_variable 104 = .ok (.iconst 2, 1) := by decide +kernel
theorem dX10_variable_105 : decode cX10_variable 105 = .ok (.if_icmp .ne 12, 3) := by decide +kernel
theorem dX10_variable_108 : decode cX10_variable 108 = .ok (.aload_n 0, 1) := by decide +kernel
theorem dX10_variable_109 : decode cX10_variable 109 = .ok (.getfield 31, 3) := by decide +kernel
theorem dX10_variable_112 : decode cX10_variable 112 = .ok (.iload_n 1, 1) := by decide +kernel
theorem dX10_variable_113 : decode cX10_variable 113 = .ok (.iaload, 1) := by decide +kernel
theorem dX10_variable_114 : decode cX10_variable 114 = .ok (.goto 17, 3) := by decide +kernel
theorem dX10_variable_117 : decode cX10_variable 117 = .ok (.iload_n 2, 1) := by decide +kernel
theorem dX10_variable_118 : decode cX10_variable 118 = .ok (.iconst 3, 1) := by decide +kernel
theorem dX10_variable_119 : decode cX10_variable 119 = .ok (.if_icmp .ne 11, 3) := by decide +kernel
theorem dX10_variable_122 : decode cX10_variable 122 = .ok (.aload_n 0, 1) := by decide +kernel
theorem dX10_variable_123 : decode cX10_variable 123 = .ok (.iload_n 1, 1) := by decide +kernel
theorem dX10_variable_124 : decode cX10_variable 124 = .ok (.invokevirtual 238, 3) := by decide +kernel
theorem dX10_variable_127 : decode cX10_variable 127 = .ok (.goto 4, 3) := by decide +kernel
theorem dX10_variable_130 : decode cX10_variable 130 = .ok (.iload_n 3, 1) := by decide +kernel
theorem dX10_variable_131 : decode cX10_variable 131 = .ok (.ireturn, 1) := by decide +kernel
theorem dX10_cost_0 : decode cX10_cost 0 = .ok (.aload_n 0, 1) := by decide +kernel
theorem dX10_cost_1 : decode cX10_cost 1 = .ok (.iconst 0, 1) := by decide +kernel
theorem dX10_cost_2 : decode cX10_cost 2 = .ok (.putfield 117, 3) := by decide +kernel
theorem dX10_cost_5 : decode cX10_cost 5 = .ok (.aload_n 0, 1) := by decide +kernel
theorem dX10_cost_6 : decode cX10_cost 6 = .ok (.getfield 147, 3) := by decide +kernel
theorem dX10_cost_9 : decode cX10_cost 9 = .ok (.ireturn, 1) := by decide +kernel
theorem dX10_bestCost_0 : decode cX10_bestCost 0 = .ok (.aload_n 0, 1) := by decide +kernel
theorem dX10_bestCost_1 : decode cX10_bestCost 1 = .ok (.iconst 0, 1) := by decide +kernel
theorem dX10_bestCost_2 : decode cX10_bestCost 2 = .ok (.putfield 117, 3) := by decide +kernel
theorem dX10_bestCost_5 : decode cX10_bestCost 5 = .ok (.aload_n 0, 1) := by decide +kernel
theorem dX10_bestCost_6 : decode cX10_bestCost 6 = .ok (.getfield 150, 3) := by decide +kernel
theorem dX10_bestCost_9 : decode cX10_bestCost 9 = .ok (.ireturn, 1) := by decide +kernel
theorem dX10_violation_0 : decode cX10_violation 0 = .ok (.aload_n 0, 1) := by decide +kernel
theorem dX10_violation_1 : decode cX10_violation 1 = .ok (.iload_n 1, 1) := by decide +kernel
theorem dX10_violation_2 : decode cX10_violation 2 = .ok (.invokevirtual 228, 3) := by decide +kernel
theorem dX10_violation_5 : decode cX10_violation 5 = .ok (.ifCond .ne 9, 3) := by decide +kernel
theorem dX10_violation_8 : decode cX10_violation 8 = .ok (.aload_n 0, 1) := by decide +kernel
theorem dX10_violation_9 : decode cX10_violation 9 = .ok (.iconst 1, 1) := by decide +kernel
theorem dX10_violation_10 : decode cX10_violation 10 = .ok (.invokevirtual 203, 3) := by decide +kernel
theorem dX10_violation_13 : decode cX10_violation 13 = .ok (.ireturn, 1) := by decide +kernel
theorem dX10_violation_14 : decode cX10_violation 14 = .ok (.aload_n 0, 1) := by decide +kernel
theorem dX10_violation_15 : decode cX10_violation 15 = .ok (.iconst 0, 1) := by decide +kernel
theorem dX10_violation_16 : decode cX10_violation 16 = .ok (.putfield 117, 3) := by decide +kernel
theorem dX10_violation_19 : decode cX10_violation 19 = .ok (.aload_n 0, 1) := by decide +kernel
theorem dX10_violation_20 : decode cX10_violation 20 = .ok (.iload_n 1, 1) := by decide +kernel
theorem dX10_violation_21 : decode cX10_violation 21 = .ok (.iload_n 2, 1) := by decide +kernel
theorem dX10_violation_22 : decode cX10_violation 22 = .ok (.ifCond .eq 10, 3) := by decide +kernel
theorem dX10_violation_25 : decode cX10_violation 25 = .ok (.aload_n 0, 1) := by decide +kernel
theorem dX10_violation_26 : decode cX10_violation 26 = .ok (.getfield 31, 3) := by decide +kernel
theorem dX10_violation_29 : decode cX10_violation 29 = .ok (.goto 7, 3) := by decide +kernel
theorem dX10_violation_32 : decode cX10_violation 32 = .ok (.aload_n 0, 1) := by decide +kernel
theorem dX10_violation_33 : decode cX10_violation 33 = .ok (.getfield 13, 3) := by decide +kernel
theorem dX10_violation_36 : decode cX10_violation 36 = .ok (.invokevirtual 144, 3) := by decide +kernel
theorem dX10_violation_39 : decode cX10_violation 39 = .ok (.ireturn, 1) := by decide +kernel
theorem dX10_mostBlamed_0 : decode cX10_mostBlamed 0 = .ok (.iconst (-1), 1) := by decide +kernel
theorem dX10_mostBlamed_1 : decode cX10_mostBlamed 1 = .ok (.istore_n 1, 1) := by decide +kernel
theorem dX10_mostBlamed_2 : decode cX10_mostBlamed 2 = .ok (.iconst 0, 1) := by decide +kernel
theorem dX10_mostBlamed_3 : decode cX10_mostBlamed 3 = .ok (.istore_n 2, 1) := by decide +kernel
theorem dX10_mostBlamed_4 : decode cX10_mostBlamed 4 = .ok (.iconst 0, 1) := by decide +kernel
theorem dX10_mostBlamed_5 : decode cX10_mostBlamed 5 = .ok (.istore_n 3, 1) := by decide +kernel
theorem dX10_mostBlamed_6 : decode cX10_mostBlamed 6 = .ok (.iload_n 3, 1) := by decide +kernel
theorem dX10_mostBlamed_7 : decode cX10_mostBlamed 7 = .ok (.aload_n 0, 1) := by decide +kernel
theorem dX10_mostBlamed_8 : decode cX10_mostBlamed 8 = .ok (.getfield 120, 3) := by decide +kernel
theorem dX10_mostBlamed_11 : decode cX10_mostBlamed 11 = .ok (.if_icmp .ge 41, 3) := by decide +kernel
theorem dX10_mostBlamed_14 : decode cX10_mostBlamed 14 = .ok (.aload_n 0, 1) := by decide +kernel
theorem dX10_mostBlamed_15 : decode cX10_mostBlamed 15 = .ok (.iload_n 3, 1) := by decide +kernel
theorem dX10_mostBlamed_16 : decode cX10_mostBlamed 16 = .ok (.invokevirtual 238, 3) := by decide +kernel
theorem dX10_mostBlamed_19 : decode cX10_mostBlamed 19 = .ok (.istore 4, 2) := by decide +kernel
theorem dX10_mostBlamed_21 : decode cX10_mostBlamed 21 = .ok (.iload 4, 2) := by decide +kernel
theorem dX10_mostBlamed_23 : decode cX10_mostBlamed 23 = .ok (.iload_n 2, 1) := by decide +kernel
theorem dX10_mostBlamed_24 : decode cX10_mostBlamed 24 = .ok (.if_icmp .le 7, 3) := by decide +kernel
theorem dX10_mostBlamed_27 : decode cX10_mostBlamed 27 = .ok (.iload_n 3, 1) := by decide +kernel
theorem dX10_mostBlamed_28 : decode cX10_mostBlamed 28 = .ok (.goto 4, 3) := by decide +kernel
theorem dX10_mostBlamed_31 : decode cX10_mostBlamed 31 = .ok (.iload_n 1, 1) := by decide +kernel
theorem dX10_mostBlamed_32 : decode cX10_mostBlamed 32 = .ok (.istore_n 1, 1) := by decide +kernel
theorem dX10_mostBlamed_33 : decode cX10_mostBlamed 33 = .ok (.iload 4, 2) := by decide +kernel
theorem dX10_mostBlamed_35 : decode cX10_mostBlamed 35 = .ok (.iload_n 2, 1) := by decide +kernel
theorem dX10_mostBlamed_36 : decode cX10_mostBlamed 36 = .ok (.if_icmp .le 8, 3) := by decide +kernel
theorem dX10_mostBlamed_39 : decode cX10_mostBlamed 39 = .ok (.iload 4, 2) := by decide +kernel
theorem dX10_mostBlamed_41 : decode cX10_mostBlamed 41 = .ok (.goto 4, 3) := by decide +kernel
theorem dX10_mostBlamed_44 : decode cX10_mostBlamed 44 = .ok (.iload_n 2, 1) := by decide +kernel
theorem dX10_mostBlamed_45 : decode cX10_mostBlamed 45 = .ok (.istore_n 2, 1) := by decide +kernel
theorem dX10_mostBlamed_46 : decode cX10_mostBlamed 46 = .ok (.iinc 3 1, 3) := by decide +kernel
theorem dX10_mostBlamed_49 : decode cX10_mostBlamed 49 = .ok (.goto (-43), 3) := by decide +kernel
theorem dX10_mostBlamed_52 : decode cX10_mostBlamed 52 = .ok (.iload_n 1, 1) := by decide +kernel
theorem dX10_mostBlamed_53 : decode cX10_mostBlamed 53 = .ok (.ifCond .ge 9, 3) := by decide +kernel
theorem dX10_mostBlamed_56 : decode cX10_mostBlamed 56 = .ok (.aload_n 0, 1) := by decide +kernel
theorem dX10_mostBlamed_57 : decode cX10_mostBlamed 57 = .ok (.iconst 1, 1) := by decide +kernel
theorem dX10_mostBlamed_58 : decode cX10_mostBlamed 58 = .ok (.invokevirtual 203, 3) := by decide +kernel
theorem dX10_mostBlamed_61 : decode cX10_mostBlamed 61 = .ok (.ireturn, 1) := by decide +kernel
theorem dX10_mostBlamed_62 : decode cX10_mostBlamed 62 = .ok (.aload_n 0, 1) := by decide +kernel
theorem dX10_mostBlamed_63 : decode cX10_mostBlamed 63 = .ok (.iconst 0, 1) := by decide +kernel
theorem dX10_mostBlamed_64 : decode cX10_mostBlamed 64 = .ok (.putfield 117, 3) := by decide +kernel
theorem dX10_mostBlamed_67 : decode cX10_mostBlamed 67 = .ok (.iload_n 1, 1) := by decide +kernel
theorem dX10_mostBlamed_68 : decode cX10_mostBlamed 68 = .ok (.ireturn, 1) := by decide +kernel
theorem dX10_relief_0 : decode cX10_relief 0 = .ok (.aload_n 0, 1) := by decide +kernel
theorem dX10_relief_1 : decode cX10_relief 1 = .ok (.iload_n 1, 1) := by decide +kernel
theorem dX10_relief_2 : decode cX10_relief 2 = .ok (.invokevirtual 214, 3) := by decide +kernel
theorem dX10_relief_5 : decode cX10_relief 5 = .ok (.ifCond .ne 9, 3) := by decide +kernel
theorem dX10_relief_8 : decode cX10_relief 8 = .ok (.aload_n 0, 1) := by decide +kernel
theorem dX10_relief_9 : decode cX10_relief 9 = .ok (.iconst 1, 1) := by decide +kernel
theorem dX10_relief_10 : decode cX10_relief 10 = .ok (.invokevirtual 203, 3) := by decide +kernel
theorem dX10_relief_13 : decode cX10_relief 13 = .ok (.ireturn, 1) := by decide +kernel
theorem dX10_relief_14 : decode cX10_relief 14 = .ok (.aload_n 0, 1) := by decide +kernel
theorem dX10_relief_15 : decode cX10_relief 15 = .ok (.iconst 0, 1) := by decide +kernel
theorem dX10_relief_16 : decode cX10_relief 16 = .ok (.putfield 117, 3) := by decide +kernel
theorem dX10_relief_19 : decode cX10_relief 19 = .ok (.aload_n 0, 1) := by decide +kernel
theorem dX10_relief_20 : decode cX10_relief 20 = .ok (.getfield 13, 3) := by decide +kernel
theorem dX10_relief_23 : decode cX10_relief 23 = .ok (.iload_n 1, 1) := by decide +kernel
theorem dX10_relief_24 : decode cX10_relief 24 = .ok (.iaload, 1) := by decide +kernel
theorem dX10_relief_25 : decode cX10_relief 25 = .ok (.istore_n 2, 1) := by decide +kernel
theorem dX10_relief_26 : decode cX10_relief 26 = .ok (.ldc 241, 2) := by decide +kernel
theorem dX10_relief_28 : decode cX10_relief 28 = .ok (.istore_n 3, 1) := by decide +kernel
theorem dX10_relief_29 : decode cX10_relief 29 = .ok (.iconst 0, 1) := by decide +kernel
theorem dX10_relief_30 : decode cX10_relief 30 = .ok (.istore 4, 2) := by decide +kernel
theorem dX10_relief_32 : decode cX10_relief 32 = .ok (.iload 4, 2) := by decide +kernel
theorem dX10_relief_34 : decode cX10_relief 34 = .ok (.aload_n 0, 1) := by decide +kernel
theorem dX10_relief_35 : decode cX10_relief 35 = .ok (.getfield 7, 3) := by decide +kernel
theorem dX10_relief_38 : decode cX10_relief 38 = .ok (.iload_n 1, 1) := by decide +kernel
theorem dX10_relief_39 : decode cX10_relief 39 = .ok (.iaload, 1) := by decide +kernel
theorem dX10_relief_40 : decode cX10_relief 40 = .ok (.if_icmp .ge 49, 3) := by decide +kernel
theorem dX10_relief_43 : decode cX10_relief 43 = .ok (.iload 4, 2) := by decide +kernel
theorem dX10_relief_45 : decode cX10_relief 45 = .ok (.iload_n 2, 1) := by decide +kernel
theorem dX10_relief_46 : decode cX10_relief 46 = .ok (.if_icmp .ne 6, 3) := by decide +kernel
theorem dX10_relief_49 : decode cX10_relief 49 = .ok (.goto 34, 3) := by decide +kernel
theorem dX10_relief_52 : decode cX10_relief 52 = .ok (.aload_n 0, 1) := by decide +kernel
theorem dX10_relief_53 : decode cX10_relief 53 = .ok (.getfield 13, 3) := by decide +kernel
theorem dX10_relief_56 : decode cX10_relief 56 = .ok (.iload_n 1, 1) := by decide +kernel
theorem dX10_relief_57 : decode cX10_relief 57 = .ok (.iload 4, 2) := by decide +kernel
theorem dX10_relief_59 : decode cX10_relief 59 = .ok (.iastore, 1) := by decide +kernel
theorem dX10_relief_60 : decode cX10_relief 60 = .ok (.aload_n 0, 1) := by decide +kernel
theorem dX10_relief_61 : decode cX10_relief 61 = .ok (.aload_n 0, 1) := by decide +kernel
theorem dX10_relief_62 : decode cX10_relief 62 = .ok (.getfield 13, 3) := by decide +kernel
theorem dX10_relief_65 : decode cX10_relief 65 = .ok (.invokevirtual 159, 3) := by decide +kernel
theorem dX10_relief_68 : decode cX10_relief 68 = .ok (.istore 5, 2) := by decide +kernel
theorem dX10_relief_70 : decode cX10_relief 70 = .ok (.iload 5, 2) := by decide +kernel
theorem dX10_relief_72 : decode cX10_relief 72 = .ok (.iload_n 3, 1) := by decide +kernel
theorem dX10_relief_73 : decode cX10_relief 73 = .ok (.if_icmp .ge 8, 3) := by decide +kernel
theorem dX10_relief_76 : decode cX10_relief 76 = .ok (.iload 5, 2) := by decide +kernel
theorem dX10_relief_78 : decode cX10_relief 78 = .ok (.goto 4, 3) := by decide +kernel
theorem dX10_relief_81 : decode cX10_relief 81 = .ok (.iload_n 3, 1) := by decide +kernel
theorem dX10_relief_82 : decode cX10_relief 82 = .ok (.istore_n 3, 1) := by decide +kernel
theorem dX10_relief_83 : decode cX10_relief 83 = .ok (.iinc 4 1, 3) := by decide +kernel
theorem dX10_relief_86 : decode cX10_relief 86 = .ok (.goto (-54), 3) := by decide +kernel
theorem dX10_relief_89 : decode cX10_relief 89 = .ok (.aload_n 0, 1) := by decide +kernel
theorem dX10_relief_90 : decode cX10_relief 90 = .ok (.getfield 13, 3) := by decide +kernel
theorem dX10_relief_93 : decode cX10_relief 93 = .ok (.iload_n 1, 1) := by decide +kernel
theorem dX10_relief_94 : decode cX10_relief 94 = .ok (.iload_n 2, 1) := by decide +kernel
theorem dX10_relief_95 : decode cX10_relief 95 = .ok (.iastore, 1) := by decide +kernel
theorem dX10_relief_96 : decode cX10_relief 96 = .ok (.aload_n 0, 1) := by decide +kernel
theorem dX10_relief_97 : decode cX10_relief 97 = .ok (.getfield 147, 3) := by decide +kernel
theorem dX10_relief_100 : decode cX10_relief 100 = .ok (.iload_n 3, 1) := by decide +kernel
theorem dX10_relief_101 : decode cX10_relief 101 = .ok (.isub, 1) := by decide +kernel
theorem dX10_relief_102 : decode cX10_relief 102 = .ok (.ireturn, 1) := by decide +kernel
theorem dX10_takeBest_0 : decode cX10_takeBest 0 = .ok (.aload_n 0, 1) := by decide +kernel
theorem dX10_takeBest_1 : decode cX10_takeBest 1 = .ok (.iconst 0, 1) := by decide +kernel
theorem dX10_takeBest_2 : decode cX10_takeBest 2 = .ok (.putfield 117, 3) := by decide +kernel
theorem dX10_takeBest_5 : decode cX10_takeBest 5 = .ok (.aload_n 0, 1) := by decide +kernel
theorem dX10_takeBest_6 : decode cX10_takeBest 6 = .ok (.getfield 147, 3) := by decide +kernel
theorem dX10_takeBest_9 : decode cX10_takeBest 9 = .ok (.istore_n 1, 1) := by decide +kernel
theorem dX10_takeBest_10 : decode cX10_takeBest 10 = .ok (.iconst 0, 1) := by decide +kernel
theorem dX10_takeBest_11 : decode cX10_takeBest 11 = .ok (.istore_n 2, 1) := by decide +kernel
theorem dX10_takeBest_12 : decode cX10_takeBest 12 = .ok (.iload_n 2, 1) := by decide +kernel
theorem dX10_takeBest_13 : decode cX10_takeBest 13 = .ok (.bipush 10, 2) := by decide +kernel
theorem dX10_takeBest_15 : decode cX10_takeBest 15 = .ok (.if_icmp .ge 21, 3) := by decide +kernel
theorem dX10_takeBest_18 : decode cX10_takeBest 18 = .ok (.aload_n 0, 1) := by decide +kernel
theorem dX10_takeBest_19 : decode cX10_takeBest 19 = .ok (.getfield 13, 3) := by decide +kernel
theorem dX10_takeBest_22 : decode cX10_takeBest 22 = .ok (.iload_n 2, 1) := by decide +kernel
theorem dX10_takeBest_23 : decode cX10_takeBest 23 = .ok (.aload_n 0, 1) := by decide +kernel
theorem dX10_takeBest_24 : decode cX10_takeBest 24 = .ok (.getfield 31, 3) := by decide +kernel
theorem dX10_takeBest_27 : decode cX10_takeBest 27 = .ok (.iload_n 2, 1) := by decide +kernel
theorem dX10_takeBest_28 : decode cX10_takeBest 28 = .ok (.iaload, 1) := by decide +kernel
theorem dX10_takeBest_29 : decode cX10_takeBest 29 = .ok (.iastore, 1) := by decide +kernel
theorem dX10_takeBest_30 : decode cX10_takeBest 30 = .ok (.iinc 2 1, 3) := by decide +kernel
theorem dX10_takeBest_33 : decode cX10_takeBest 33 = .ok (.goto (-21), 3) := by decide +kernel
theorem dX10_takeBest_36 : decode cX10_takeBest 36 = .ok (.aload_n 0, 1) := by decide +kernel
theorem dX10_takeBest_37 : decode cX10_takeBest 37 = .ok (.aload_n 0, 1) := by decide +kernel
theorem dX10_takeBest_38 : decode cX10_takeBest 38 = .ok (.getfield 150, 3) := by decide +kernel
theorem dX10_takeBest_41 : decode cX10_takeBest 41 = .ok (.putfield 147, 3) := by decide +kernel
theorem dX10_takeBest_44 : decode cX10_takeBest 44 = .ok (.iload_n 1, 1) := by decide +kernel
theorem dX10_takeBest_45 : decode cX10_takeBest 45 = .ok (.aload_n 0, 1) := by decide +kernel
theorem dX10_takeBest_46 : decode cX10_takeBest 46 = .ok (.getfield 147, 3) := by decide +kernel
theorem dX10_takeBest_49 : decode cX10_takeBest 49 = .ok (.isub, 1) := by decide +kernel
theorem dX10_takeBest_50 : decode cX10_takeBest 50 = .ok (.ireturn, 1) := by decide +kernel
theorem dX10_findThen_0 : decode cX10_findThen 0 = .ok (.iconst 0, 1) := by decide +kernel
theorem dX10_findThen_1 : decode cX10_findThen 1 = .ok (.istore 5, 2) := by decide +kernel
theorem dX10_findThen_3 : decode cX10_findThen 3 = .ok (.iload 5, 2) := by decide +kernel
theorem dX10_findThen_5 : decode cX10_findThen 5 = .ok (.aload_n 0, 1) := by decide +kernel
theorem dX10_findThen_6 : decode cX10_findThen 6 = .ok (.getfield 120, 3) := by decide +kernel
theorem dX10_findThen_9 : decode cX10_findThen 9 = .ok (.if_icmp .ge 23, 3) := by decide +kernel
theorem dX10_findThen_12 : decode cX10_findThen 12 = .ok (.aload_n 0, 1) := by decide +kernel
theorem dX10_findThen_13 : decode cX10_findThen 13 = .ok (.getfield 80, 3) := by decide +kernel
theorem dX10_findThen_16 : decode cX10_findThen 16 = .ok (.iload 5, 2) := by decide +kernel
theorem dX10_findThen_18 : decode cX10_findThen 18 = .ok (.aload_n 0, 1) := by decide +kernel
theorem dX10_findThen_19 : decode cX10_findThen 19 = .ok (.getfield 13, 3) := by decide +kernel
theorem dX10_findThen_22 : decode cX10_findThen 22 = .ok (.iload 5, 2) := by decide +kernel
theorem dX10_findThen_24 : decode cX10_findThen 24 = .ok (.iaload, 1) := by decide +kernel
theorem dX10_findThen_25 : decode cX10_findThen 25 = .ok (.iastore, 1) := by decide +kernel
theorem dX10_findThen_26 : decode cX10_findThen 26 = .ok (.iinc 5 1, 3) := by decide +kernel
theorem dX10_findThen_29 : decode cX10_findThen 29 = .ok (.goto (-26), 3) := by decide +kernel
theorem dX10_findThen_32 : decode cX10_findThen 32 = .ok (.iload_n 1, 1) := by decide +kernel
theorem dX10_findThen_33 : decode cX10_findThen 33 = .ok (.ifCond .ne 10, 3) := by decide +kernel
theorem dX10_findThen_36 : decode cX10_findThen 36 = .ok (.aload_n 0, 1) := by decide +kernel
theorem dX10_findThen_37 : decode cX10_findThen 37 = .ok (.getfield 80, 3) := by decide +kernel
theorem dX10_findThen_40 : decode cX10_findThen 40 = .ok (.iload_n 2, 1) := by decide +kernel
theorem dX10_findThen_41 : decode cX10_findThen 41 = .ok (.iload_n 3, 1) := by decide +kernel
theorem dX10_findThen_42 : decode cX10_findThen 42 = .ok (.iastore, 1) := by decide +kernel
theorem dX10_findThen_43 : decode cX10_findThen 43 = .ok (.iload_n 1, 1) := by decide +kernel
theorem dX10_findThen_44 : decode cX10_findThen 44 = .ok (.iconst 1, 1) := by decide +kernel
theorem dX10_findThen_45 : decode cX10_findThen 45 = .ok (.if_icmp .ne 27, 3) := by decide +kernel
theorem dX10_findThen_48 : decode cX10_findThen 48 = .ok (.aload_n 0, 1) := by decide +kernel
theorem dX10_findThen_49 : decode cX10_findThen 49 = .ok (.getfield 80, 3) := by decide +kernel
theorem dX10_findThen_52 : decode cX10_findThen 52 = .ok (.iload_n 2, 1) := by decide +kernel
theorem dX10_findThen_53 : decode cX10_findThen 53 = .ok (.aload_n 0, 1) := by decide +kernel
theorem dX10_findThen_54 : decode cX10_findThen 54 = .ok (.getfield 13, 3) := by decide +kernel
theorem dX10_findThen_57 : decode cX10_findThen 57 = .ok (.iload_n 3, 1) := by decide +kernel
theorem dX10_findThen_58 : decode cX10_findThen 58 = .ok (.iaload, 1) := by decide +kernel
theorem dX10_findThen_59 : decode cX10_findThen 59 = .ok (.iastore, 1) := by decide +kernel
theorem dX10_findThen_60 : decode cX10_findThen 60 = .ok (.aload_n 0, 1) := by decide +kernel
theorem dX10_findThen_61 : decode cX10_findThen 61 = .ok (.getfield 80, 3) := by decide +kernel
theorem dX10_findThen_64 : decode cX10_findThen 64 = .ok (.iload_n 3, 1) := by decide +kernel
theorem dX10_findThen_65 : decode cX10_findThen 65 = .ok (.aload_n 0, 1) := by decide +kernel
theorem dX10_findThen_66 : decode cX10_findThen 66 = .ok (.getfield 13, 3) := by decide +kernel
theorem dX10_findThen_69 : decode cX10_findThen 69 = .ok (.iload_n 2, 1) := by decide +kernel
theorem dX10_findThen_70 : decode cX10_findThen 70 = .ok (.iaload, 1) := by decide +kernel
theorem dX10_findThen_71 : decode cX10_findThen 71 = .ok (.iastore, 1) := by decide +kernel
theorem dX10_findThen_72 : decode cX10_findThen 72 = .ok (.iload_n 1, 1) := by decide +kernel
theorem dX10_findThen_73 : decode cX10_findThen 73 = .ok (.iconst 2, 1) := by decide +kernel
theorem dX10_findThen_74 : decode cX10_findThen 74 = .ok (.if_icmp .ne 40, 3) := by decide +kernel
theorem dX10_findThen_77 : decode cX10_findThen 77 = .ok (.aload_n 0, 1) := by decide +kernel
theorem dX10_findThen_78 : decode cX10_findThen 78 = .ok (.getfield 80, 3) := by decide +kernel
theorem dX10_findThen_81 : decode cX10_findThen 81 = .ok (.iload_n 2, 1) := by decide +kernel
theorem dX10_findThen_82 : decode cX10_findThen 82 = .ok (.aload_n 0, 1) := by decide +kernel
theorem dX10_findThen_83 : decode cX10_findThen 83 = .ok (.getfield 13, 3) := by decide +kernel
theorem dX10_findThen_86 : decode cX10_findThen 86 = .ok (.iload_n 2, 1) := by decide +kernel
theorem dX10_findThen_87 : decode cX10_findThen 87 = .ok (.iaload, 1) := by decide +kernel
theorem dX10_findThen_88 : decode cX10_findThen 88 = .ok (.iload_n 3, 1) := by decide +kernel
theorem dX10_findThen_89 : decode cX10_findThen 89 = .ok (.iconst 1, 1) := by decide +kernel
theorem dX10_findThen_90 : decode cX10_findThen 90 = .ok (.if_icmp .ne 7, 3) := by decide +kernel
theorem dX10_findThen_93 : decode cX10_findThen 93 = .ok (.iconst 1, 1) := by decide +kernel
theorem dX10_findThen_94 : decode cX10_findThen 94 = .ok (.goto 11, 3) := by decide +kernel
theorem dX10_findThen_97 : decode cX10_findThen 97 = .ok (.aload_n 0, 1) := by decide +kernel
theorem dX10_findThen_98 : decode cX10_findThen 98 = .ok (.getfield 7, 3) := by decide +kernel
theorem dX10_findThen_101 : decode cX10_findThen 101 = .ok (.iload_n 2, 1) := by decide +kernel
theorem dX10_findThen_102 : decode cX10_findThen 102 = .ok (.iaload, 1) := by decide +kernel
theorem dX10_findThen_103 : decode cX10_findThen 103 = .ok (.iconst 1, 1) := by decide +kernel
theorem dX10_findThen_104 : decode cX10_findThen 104 = .ok (.isub, 1) := by decide +kernel
theorem dX10_findThen_105 : decode cX10_findThen 105 = .ok (.iadd, 1) := by decide +kernel
theorem dX10_findThen_106 : decode cX10_findThen 106 = .ok (.aload_n 0, 1) := by decide +kernel
theorem dX10_findThen_107 : decode cX10_findThen 107 = .ok (.getfield 7, 3) := by decide +kernel
theorem dX10_findThen_110 : decode cX10_findThen 110 = .ok (.iload_n 2, 1) := by decide +kernel
theorem dX10_findThen_111 : decode cX10_findThen 111 = .ok (.iaload, 1) := by decide +kernel
theorem dX10_findThen_112 : decode cX10_findThen 112 = .ok (.irem, 1) := by decide +kernel
theorem dX10_findThen_113 : decode cX10_findThen 113 = .ok (.iastore, 1) := by decide +kernel
theorem dX10_findThen_114 : decode cX10_findThen 114 = .ok (.iload_n 1, 1) := by decide +kernel
theorem dX10_findThen_115 : decode cX10_findThen 115 = .ok (.iconst 3, 1) := by decide +kernel
theorem dX10_findThen_116 : decode cX10_findThen 116 = .ok (.if_icmp .ne 41, 3) := by decide +kernel
theorem dX10_findThen_119 : decode cX10_findThen 119 = .ok (.aload_n 0, 1) := by decide +kernel
theorem dX10_findThen_120 : decode cX10_findThen 120 = .ok (.getfield 80, 3) := by decide +kernel
theorem dX10_findThen_123 : decode cX10_findThen 123 = .ok (.iload_n 3, 1) := by decide +kernel
theorem dX10_findThen_124 : decode cX10_findThen 124 = .ok (.aload_n 0, 1) := by decide +kernel
theorem dX10_findThen_125 : decode cX10_findThen 125 = .ok (.getfield 13, 3) := by decide +kernel
theorem dX10_findThen_128 : decode cX10_findThen 128 = .ok (.iload_n 2, 1) := by decide +kernel
theorem dX10_findThen_129 : decode cX10_findThen 129 = .ok (.iaload, 1) := by decide +kernel
theorem dX10_findThen_130 : decode cX10_findThen 130 = .ok (.iastore, 1) := by decide +kernel
theorem dX10_findThen_131 : decode cX10_findThen 131 = .ok (.aload_n 0, 1) := by decide +kernel
theorem dX10_findThen_132 : decode cX10_findThen 132 = .ok (.getfield 80, 3) := by decide +kernel
theorem dX10_findThen_135 : decode cX10_findThen 135 = .ok (.iload 4, 2) := by decide +kernel
theorem dX10_findThen_137 : decode cX10_findThen 137 = .ok (.aload_n 0, 1) := by decide +kernel
theorem dX10_findThen_138 : decode cX10_findThen 138 = .ok (.getfield 13, 3) := by decide +kernel
theorem dX10_findThen_141 : decode cX10_findThen 141 = .ok (.iload_n 3, 1) := by decide +kernel
theorem dX10_findThen_142 : decode cX10_findThen 142 = .ok (.iaload, 1) := by decide +kernel
theorem dX10_findThen_143 : decode cX10_findThen 143 = .ok (.iastore, 1) := by decide +kernel
theorem dX10_findThen_144 : decode cX10_findThen 144 = .ok (.aload_n 0, 1) := by decide +kernel
theorem dX10_findThen_145 : decode cX10_findThen 145 = .ok (.getfield 80, 3) := by decide +kernel
theorem dX10_findThen_148 : decode cX10_findThen 148 = .ok (.iload_n 2, 1) := by decide +kernel
theorem dX10_findThen_149 : decode cX10_findThen 149 = .ok (.aload_n 0, 1) := by decide +kernel
theorem dX10_findThen_150 : decode cX10_findThen 150 = .ok (.getfield 13, 3) := by decide +kernel
theorem dX10_findThen_153 : decode cX10_findThen 153 = .ok (.iload 4, 2) := by decide +kernel
theorem dX10_findThen_155 : decode cX10_findThen 155 = .ok (.iaload, 1) := by decide +kernel
theorem dX10_findThen_156 : decode cX10_findThen 156 = .ok (.iastore, 1) := by decide +kernel
theorem dX10_findThen_157 : decode cX10_findThen 157 = .ok (.return_, 1) := by decide +kernel
theorem dX10_isForbiddenNow_0 : decode cX10_isForbiddenNow 0 = .ok (.aload_n 0, 1) := by decide +kernel
theorem dX10_isForbiddenNow_1 : decode cX10_isForbiddenNow 1 = .ok (.getfield 34, 3) := by decide +kernel
theorem dX10_isForbiddenNow_4 : decode cX10_isForbiddenNow 4 = .ok (.bipush 8, 2) := by decide +kernel
theorem dX10_isForbiddenNow_6 : decode cX10_isForbiddenNow 6 = .ok (.iload_n 1, 1) := by decide +kernel
theorem dX10_isForbiddenNow_7 : decode cX10_isForbiddenNow 7 = .ok (.imul, 1) := by decide +kernel
theorem dX10_isForbiddenNow_8 : decode cX10_isForbiddenNow 8 = .ok (.iload_n 2, 1) := by decide +kernel
theorem dX10_isForbiddenNow_9 : decode cX10_isForbiddenNow 9 = .ok (.iadd, 1) := by decide +kernel
theorem dX10_isForbiddenNow_10 : decode cX10_isForbiddenNow 10 = .ok (.iaload, 1) := by decide +kernel
theorem dX10_isForbiddenNow_11 : decode cX10_isForbiddenNow 11 = .ok (.aload_n 0, 1) := by decide +kernel
theorem dX10_isForbiddenNow_12 : decode cX10_isForbiddenNow 12 = .ok (.getfield 153, 3) := by decide +kernel
theorem dX10_isForbiddenNow_15 : decode cX10_isForbiddenNow 15 = .ok (.if_icmp .lt 7, 3) := by decide +kernel
theorem dX10_isForbiddenNow_18 : decode cX10_isForbiddenNow 18 = .ok (.iconst 1, 1) := by decide +kernel
theorem dX10_isForbiddenNow_19 : decode cX10_isForbiddenNow 19 = .ok (.goto 4, 3) := by decide +kernel
theorem dX10_isForbiddenNow_22 : decode cX10_isForbiddenNow 22 = .ok (.iconst 0, 1) := by decide +kernel
theorem dX10_isForbiddenNow_23 : decode cX10_isForbiddenNow 23 = .ok (.ireturn, 1) := by decide +kernel
theorem dX10_lists_0 : decode cX10_lists 0 = .ok (.aload_n 0, 1) := by decide +kernel
theorem dX10_lists_1 : decode cX10_lists 1 = .ok (.iload_n 1, 1) := by decide +kernel
theorem dX10_lists_2 : decode cX10_lists 2 = .ok (.iload_n 2, 1) := by decide +kernel
theorem dX10_lists_3 : decode cX10_lists 3 = .ok (.iload_n 3, 1) := by decide +kernel
theorem dX10_lists_4 : decode cX10_lists 4 = .ok (.iload 4, 2) := by decide +kernel
theorem dX10_lists_6 : decode cX10_lists 6 = .ok (.invokevirtual 242, 3) := by decide +kernel
theorem dX10_lists_9 : decode cX10_lists 9 = .ok (.aload_n 0, 1) := by decide +kernel
theorem dX10_lists_10 : decode cX10_lists 10 = .ok (.getfield 65, 3) := by decide +kernel
theorem dX10_lists_13 : decode cX10_lists 13 = .ok (.aload_n 0, 1) := by decide +kernel
theorem dX10_lists_14 : decode cX10_lists 14 = .ok (.getfield 245, 3) := by decide +kernel
theorem dX10_lists_17 : decode cX10_lists 17 = .ok (.iload_n 1, 1) := by decide +kernel
theorem dX10_lists_18 : decode cX10_lists 18 = .ok (.iastore, 1) := by decide +kernel
theorem dX10_lists_19 : decode cX10_lists 19 = .ok (.aload_n 0, 1) := by decide +kernel
theorem dX10_lists_20 : decode cX10_lists 20 = .ok (.getfield 68, 3) := by decide +kernel
theorem dX10_lists_23 : decode cX10_lists 23 = .ok (.aload_n 0, 1) := by decide +kernel
theorem dX10_lists_24 : decode cX10_lists 24 = .ok (.getfield 245, 3) := by decide +kernel
theorem dX10_lists_27 : decode cX10_lists 27 = .ok (.iload_n 2, 1) := by decide +kernel
theorem dX10_lists_28 : decode cX10_lists 28 = .ok (.iastore, 1) := by decide +kernel
theorem dX10_lists_29 : decode cX10_lists 29 = .ok (.aload_n 0, 1) := by decide +kernel
theorem dX10_lists_30 : decode cX10_lists 30 = .ok (.getfield 71, 3) := by decide +kernel
theorem dX10_lists_33 : decode cX10_lists 33 = .ok (.aload_n 0, 1) := by decide +kernel
theorem dX10_lists_34 : decode cX10_lists 34 = .ok (.getfield 245, 3) := by decide +kernel
theorem dX10_lists_37 : decode cX10_lists 37 = .ok (.iload_n 3, 1) := by decide +kernel
theorem dX10_lists_38 : decode cX10_lists 38 = .ok (.iastore, 1) := by decide +kernel
theorem dX10_lists_39 : decode cX10_lists 39 = .ok (.aload_n 0, 1) := by decide +kernel
theorem dX10_lists_40 : decode cX10_lists 40 = .ok (.getfield 74, 3) := by decide +kernel
theorem dX10_lists_43 : decode cX10_lists 43 = .ok (.aload_n 0, 1) := by decide +kernel
theorem dX10_lists_44 : decode cX10_lists 44 = .ok (.getfield 245, 3) := by decide +kernel
theorem dX10_lists_47 : decode cX10_lists 47 = .ok (.iload 4, 2) := by decide +kernel
theorem dX10_lists_49 : decode cX10_lists 49 = .ok (.iastore, 1) := by decide +kernel
theorem dX10_lists_50 : decode cX10_lists 50 = .ok (.aload_n 0, 1) := by decide +kernel
theorem dX10_lists_51 : decode cX10_lists 51 = .ok (.getfield 77, 3) := by decide +kernel
theorem dX10_lists_54 : decode cX10_lists 54 = .ok (.aload_n 0, 1) := by decide +kernel
theorem dX10_lists_55 : decode cX10_lists 55 = .ok (.getfield 245, 3) := by decide +kernel
theorem dX10_lists_58 : decode cX10_lists 58 = .ok (.aload_n 0, 1) := by decide +kernel
theorem dX10_lists_59 : decode cX10_lists 59 = .ok (.aload_n 0, 1) := by decide +kernel
theorem dX10_lists_60 : decode cX10_lists 60 = .ok (.getfield 80, 3) := by decide +kernel
theorem dX10_lists_63 : decode cX10_lists 63 = .ok (.invokevirtual 159, 3) := by decide +kernel
theorem dX10_lists_66 : decode cX10_lists 66 = .ok (.iastore, 1) := by decide +kernel
theorem dX10_lists_67 : decode cX10_lists 67 = .ok (.iconst 0, 1) := by decide +kernel
theorem dX10_lists_68 : decode cX10_lists 68 = .ok (.istore 5, 2) := by decide +kernel
theorem dX10_lists_70 : decode cX10_lists 70 = .ok (.iconst 0, 1) := by decide +kernel
theorem dX10_lists_71 : decode cX10_lists 71 = .ok (.istore 6, 2) := by decide +kernel
theorem dX10_lists_73 : decode cX10_lists 73 = .ok (.iload 6, 2) := by decide +kernel
theorem dX10_lists_75 : decode cX10_lists 75 = .ok (.aload_n 0, 1) := by decide +kernel
theorem dX10_lists_76 : decode cX10_lists 76 = .ok (.getfield 120, 3) := by decide +kernel
theorem dX10_lists_79 : decode cX10_lists 79 = .ok (.if_icmp .ge 54, 3) := by decide +kernel
theorem dX10_lists_82 : decode cX10_lists 82 = .ok (.iload 5, 2) := by decide +kernel
theorem dX10_lists_84 : decode cX10_lists 84 = .ok (.ifCond .ne 36, 3) := by decide +kernel
theorem dX10_lists_87 : decode cX10_lists 87 = .ok (.aload_n 0, 1) := by decide +kernel
theorem dX10_lists_88 : decode cX10_lists 88 = .ok (.getfield 80, 3) := by decide +kernel
theorem dX10_lists_91 : decode cX10_lists 91 = .ok (.iload 6, 2) := by decide +kernel
theorem dX10_lists_93 : decode cX10_lists 93 = .ok (.iaload, 1) := by decide +kernel
theorem dX10_lists_94 : decode cX10_lists 94 = .ok (.aload_n 0, 1) := by decide +kernel
theorem dX10_lists_95 : decode cX10_lists 95 = .ok (.getfield 13, 3) := by decide +kernel
theorem dX10_lists_98 : decode cX10_lists 98 = .ok (.iload 6, 2) := by decide +kernel
theorem dX10_lists_100 : decode cX10_lists 100 = .ok (.iaload, 1) := by decide +kernel
theorem dX10_lists_101 : decode cX10_lists 101 = .ok (.if_icmp .eq 23, 3) := by decide +kernel
theorem dX10_lists_104 : decode cX10_lists 104 = .ok (.aload_n 0, 1) := by decide +kernel
theorem dX10_lists_105 : decode cX10_lists 105 = .ok (.iload 6, 2) := by decide +kernel
theorem dX10_lists_107 : decode cX10_lists 107 = .ok (.aload_n 0, 1) := by decide +kernel
theorem dX10_lists_108 : decode cX10_lists 108 = .ok (.getfield 80, 3) := by decide +kernel
theorem dX10_lists_111 : decode cX10_lists 111 = .ok (.iload 6, 2) := by decide +kernel
theorem dX10_lists_113 : decode cX10_lists 113 = .ok (.iaload, 1) := by decide +kernel
theorem dX10_lists_114 : decode cX10_lists 114 = .ok (.invokevirtual 248, 3) := by decide +kernel
theorem dX10_lists_117 : decode cX10_lists 117 = .ok (.ifCond .eq 7, 3) := by decide +kernel
theorem dX10_lists_120 : decode cX10_lists 120 = .ok (.iconst 1, 1) := by decide +kernel
theorem dX10_lists_121 : decode cX10_lists 121 = .ok (.goto 4, 3) := by decide +kernel
theorem dX10_lists_124 : decode cX10_lists 124 = .ok (.iconst 0, 1) := by decide +kernel
theorem dX10_lists_125 : decode cX10_lists 125 = .ok (.istore 5, 2) := by decide +kernel
theorem dX10_lists_127 : decode cX10_lists 127 = .ok (.iinc 6 1, 3) := by decide +kernel
theorem dX10_lists_130 : decode cX10_lists 130 = .ok (.goto (-57), 3) := by decide +kernel
theorem dX10_lists_133 : decode cX10_lists 133 = .ok (.aload_n 0, 1) := by decide +kernel
theorem dX10_lists_134 : decode cX10_lists 134 = .ok (.getfield 83, 3) := by decide +kernel
theorem dX10_lists_137 : decode cX10_lists 137 = .ok (.aload_n 0, 1) := by decide +kernel
theorem dX10_lists_138 : decode cX10_lists 138 = .ok (.getfield 245, 3) := by decide +kernel
theorem dX10_lists_141 : decode cX10_lists 141 = .ok (.iload 5, 2) := by decide +kernel
theorem dX10_lists_143 : decode cX10_lists 143 = .ok (.ifCond .eq 23, 3) := by decide +kernel
theorem dX10_lists_146 : decode cX10_lists 146 = .ok (.aload_n 0, 1) := by decide +kernel
theorem dX10_lists_147 : decode cX10_lists 147 = .ok (.getfield 77, 3) := by decide +kernel
theorem dX10_lists_150 : decode cX10_lists 150 = .ok (.aload_n 0, 1) := by decide +kernel
theorem dX10_lists_151 : decode cX10_lists 151 = .ok (.getfield 245, 3) := by decide +kernel
theorem dX10_lists_154 : decode cX10_lists 154 = .ok (.iaload, 1) := by decide +kernel
theorem dX10_lists_155 : decode cX10_lists 155 = .ok (.aload_n 0, 1) := by decide +kernel
theorem dX10_lists_156 : decode cX10_lists 156 = .ok (.getfield 150, 3) := by decide +kernel
theorem dX10_lists_159 : decode cX10_lists 159 = .ok (.if_icmp .lt 7, 3) := by decide +kernel
theorem dX10_lists_162 : decode cX10_lists 162 = .ok (.iconst 1, 1) := by decide +kernel
theorem dX10_lists_163 : decode cX10_lists 163 = .ok (.goto 4, 3) := by decide +kernel
theorem dX10_lists_166 : decode cX10_lists 166 = .ok (.iconst 0, 1) := by decide +kernel
theorem dX10_lists_167 : decode cX10_lists 167 = .ok (.bastore, 1) := by decide +kernel
theorem dX10_lists_168 : decode cX10_lists 168 = .ok (.aload_n 0, 1) := by decide +kernel
theorem dX10_lists_169 : decode cX10_lists 169 = .ok (.dup, 1) := by decide +kernel
theorem dX10_lists_170 : decode cX10_lists 170 = .ok (.getfield 245, 3) := by decide +kernel
theorem dX10_lists_173 : decode cX10_lists 173 = .ok (.iconst 1, 1) := by decide +kernel
theorem dX10_lists_174 : decode cX10_lists 174 = .ok (.iadd, 1) := by decide +kernel
theorem dX10_lists_175 : decode cX10_lists 175 = .ok (.putfield 245, 3) := by decide +kernel
theorem dX10_lists_178 : decode cX10_lists 178 = .ok (.return_, 1) := by decide +kernel
theorem dX10_listsSets_0 : decode cX10_listsSets 0 = .ok (.iconst 0, 1) := by decide +kernel
theorem dX10_listsSets_1 : decode cX10_listsSets 1 = .ok (.istore_n 2, 1) := by decide +kernel
theorem dX10_listsSets_2 : decode cX10_listsSets 2 = .ok (.iload_n 2, 1) := by decide +kernel
theorem dX10_listsSets_3 : decode cX10_listsSets 3 = .ok (.aload_n 0, 1) := by decide +kernel
theorem dX10_listsSets_4 : decode cX10_listsSets 4 = .ok (.getfield 7, 3) := by decide +kernel
theorem dX10_listsSets_7 : decode cX10_listsSets 7 = .ok (.iload_n 1, 1) := by decide +kernel
theorem dX10_listsSets_8 : decode cX10_listsSets 8 = .ok (.iaload, 1) := by decide +kernel
theorem dX10_listsSets_9 : decode cX10_listsSets 9 = .ok (.if_icmp .ge 27, 3) := by decide +kernel
theorem dX10_listsSets_12 : decode cX10_listsSets 12 = .ok (.iload_n 2, 1) := by decide +kernel
theorem dX10_listsSets_13 : decode cX10_listsSets 13 = .ok (.aload_n 0, 1) := by decide +kernel
theorem dX10_listsSets_14 : decode cX10_listsSets 14 = .ok (.getfield 13, 3) := by decide +kernel
theorem dX10_listsSets_17 : decode cX10_listsSets 17 = .ok (.iload_n 1, 1) := by decide +kernel
theorem dX10_listsSets_18 : decode cX10_listsSets 18 = .ok (.iaload, 1) := by decide +kernel
theorem dX10_listsSets_19 : decode cX10_listsSets 19 = .ok (.if_icmp .eq 11, 3) := by decide +kernel
theorem dX10_listsSets_22 : decode cX10_listsSets 22 = .ok (.aload_n 0, 1) := by decide +kernel
theorem dX10_listsSets_23 : decode cX10_listsSets 23 = .ok (.iconst 0, 1) := by decide +kernel
theorem dX10_listsSets_24 : decode cX10_listsSets 24 = .ok (.iload_n 1, 1) := by decide +kernel
theorem dX10_listsSets_25 : decode cX10_listsSets 25 = .ok (.iload_n 2, 1) := by decide +kernel
theorem dX10_listsSets_26 : decode cX10_listsSets 26 = .ok (.iconst (-1), 1) := by decide +kernel
theorem dX10_listsSets_27 : decode cX10_listsSets 27 = .ok (.invokevirtual 251, 3) := by decide +kernel
theorem dX10_listsSets_30 : decode cX10_listsSets 30 = .ok (.iinc 2 1, 3) := by decide +kernel
theorem dX10_listsSets_33 : decode cX10_listsSets 33 = .ok (.goto (-31), 3) := by decide +kernel
theorem dX10_listsSets_36 : decode cX10_listsSets 36 = .ok (.return_, 1) := by decide +kernel
theorem dX10_listsSwaps_0 : decode cX10_listsSwaps 0 = .ok (.iload_n 1, 1) := by decide +kernel
theorem dX10_listsSwaps_1 : decode cX10_listsSwaps 1 = .ok (.iconst 1, 1) := by decide +kernel
theorem dX10_listsSwaps_2 : decode cX10_listsSwaps 2 = .ok (.iadd, 1) := by decide +kernel
theorem dX10_listsSwaps_3 : decode cX10_listsSwaps 3 = .ok (.istore_n 2, 1) := by decide +kernel
theorem dX10_listsSwaps_4 : decode cX10_listsSwaps 4 = .ok (.iload_n 2, 1) := by decide +kernel
theorem dX10_listsSwaps_5 : decode cX10_listsSwaps 5 = .ok (.aload_n 0, 1) := by decide +kernel
theorem dX10_listsSwaps_6 : decode cX10_listsSwaps 6 = .ok (.getfield 120, 3) := by decide +kernel
theorem dX10_listsSwaps_9 : decode cX10_listsSwaps 9 = .ok (.if_icmp .ge 60, 3) := by decide +kernel
theorem dX10_listsSwaps_12 : decode cX10_listsSwaps 12 = .ok (.aload_n 0, 1) := by decide +kernel
theorem dX10_listsSwaps_13 : decode cX10_listsSwaps 13 = .ok (.getfield 13, 3) := by decide +kernel
theorem dX10_listsSwaps_16 : decode cX10_listsSwaps 16 = .ok (.iload_n 1, 1) := by decide +kernel
theorem dX10_listsSwaps_17 : decode cX10_listsSwaps 17 = .ok (.iaload, 1) := by decide +kernel
theorem dX10_listsSwaps_18 : decode cX10_listsSwaps 18 = .ok (.aload_n 0, 1) := by decide +kernel
theorem dX10_listsSwaps_19 : decode cX10_listsSwaps 19 = .ok (.getfield 13, 3) := by decide +kernel
theorem dX10_listsSwaps_22 : decode cX10_listsSwaps 22 = .ok (.iload_n 2, 1) := by decide +kernel
theorem dX10_listsSwaps_23 : decode cX10_listsSwaps 23 = .ok (.iaload, 1) := by decide +kernel
theorem dX10_listsSwaps_24 : decode cX10_listsSwaps 24 = .ok (.if_icmp .eq 39, 3) := by decide +kernel
theorem dX10_listsSwaps_27 : decode cX10_listsSwaps 27 = .ok (.aload_n 0, 1) := by decide +kernel
theorem dX10_listsSwaps_28 : decode cX10_listsSwaps 28 = .ok (.iload_n 1, 1) := by decide +kernel
theorem dX10_listsSwaps_29 : decode cX10_listsSwaps 29 = .ok (.aload_n 0, 1) := by decide +kernel
theorem dX10_listsSwaps_30 : decode cX10_listsSwaps 30 = .ok (.getfield 13, 3) := by decide +kernel
theorem dX10_listsSwaps_33 : decode cX10_listsSwaps 33 = .ok (.iload_n 2, 1) := by decide +kernel
theorem dX10_listsSwaps_34 : decode cX10_listsSwaps 34 = .ok (.iaload, 1) := by decide +kernel
theorem dX10_listsSwaps_35 : decode cX10_listsSwaps 35 = .ok (.invokevirtual 231, 3) := by decide +kernel
theorem dX10_listsSwaps_38 : decode cX10_listsSwaps 38 = .ok (.ifCond .eq 25, 3) := by decide +kernel
theorem dX10_listsSwaps_41 : decode cX10_listsSwaps 41 = .ok (.aload_n 0, 1) := by decide +kernel
theorem dX10_listsSwaps_42 : decode cX10_listsSwaps 42 = .ok (.iload_n 2, 1) := by decide +kernel
theorem dX10_listsSwaps_43 : decode cX10_listsSwaps 43 = .ok (.aload_n 0, 1) := by decide +kernel
theorem dX10_listsSwaps_44 : decode cX10_listsSwaps 44 = .ok (.getfield 13, 3) := by decide +kernel
theorem dX10_listsSwaps_47 : decode cX10_listsSwaps 47 = .ok (.iload_n 1, 1) := by decide +kernel
theorem dX10_listsSwaps_48 : decode cX10_listsSwaps 48 = .ok (.iaload, 1) := by decide +kernel
theorem dX10_listsSwaps_49 : decode cX10_listsSwaps 49 = .ok (.invokevirtual 231, 3) := by decide +kernel
theorem dX10_listsSwaps_52 : decode cX10_listsSwaps 52 = .ok (.ifCond .eq 11, 3) := by decide +kernel
theorem dX10_listsSwaps_55 : decode cX10_listsSwaps 55 = .ok (.aload_n 0, 1) := by decide +kernel
theorem dX10_listsSwaps_56 : decode cX10_listsSwaps 56 = .ok (.iconst 1, 1) := by decide +kernel
theorem dX10_listsSwaps_57 : decode cX10_listsSwaps 57 = .ok (.iload_n 1, 1) := by decide +kernel
theorem dX10_listsSwaps_58 : decode cX10_listsSwaps 58 = .ok (.iload_n 2, 1) := by decide +kernel
theorem dX10_listsSwaps_59 : decode cX10_listsSwaps 59 = .ok (.iconst (-1), 1) := by decide +kernel
theorem dX10_listsSwaps_60 : decode cX10_listsSwaps 60 = .ok (.invokevirtual 251, 3) := by decide +kernel
theorem dX10_listsSwaps_63 : decode cX10_listsSwaps 63 = .ok (.iinc 2 1, 3) := by decide +kernel
theorem dX10_listsSwaps_66 : decode cX10_listsSwaps 66 = .ok (.goto (-62), 3) := by decide +kernel
theorem dX10_listsSwaps_69 : decode cX10_listsSwaps 69 = .ok (.return_, 1) := by decide +kernel
theorem dX10_listsRotations_0 : decode cX10_listsRotations 0 = .ok (.iload_n 1, 1) := by decide +kernel
theorem dX10_listsRotations_1 : decode cX10_listsRotations 1 = .ok (.iconst 1, 1) := by decide +kernel
theorem dX10_listsRotations_2 : decode cX10_listsRotations 2 = .ok (.iadd, 1) := by decide +kernel
theorem dX10_listsRotations_3 : decode cX10_listsRotations 3 = .ok (.istore_n 2, 1) := by decide +kernel
theorem dX10_listsRotations_4 : decode cX10_listsRotations 4 = .ok (.iload_n 2, 1) := by decide +kernel
theorem dX10_listsRotations_5 : decode cX10_listsRotations 5 = .ok (.aload_n 0, 1) := by decide +kernel
theorem dX10_listsRotations_6 : decode cX10_listsRotations 6 = .ok (.getfield 120, 3) := by decide +kernel
theorem dX10_listsRotations_9 : decode cX10_listsRotations 9 = .ok (.if_icmp .ge 115, 3) := by decide +kernel
theorem dX10_listsRotations_12 : decode cX10_listsRotations 12 = .ok (.iload_n 1, 1) := by decide +kernel
theorem dX10_listsRotations_13 : decode cX10_listsRotations 13 = .ok (.iconst 1, 1) := by decide +kernel
theorem dX10_listsRotations_14 : decode cX10_listsRotations 14 = .ok (.iadd, 1) := by decide +kernel
theorem dX10_listsRotations_15 : decode cX10_listsRotations 15 = .ok (.istore_n 3, 1) := by decide +kernel
theorem dX10_listsRotations_16 : decode cX10_listsRotations 16 = .ok (.iload_n 3, 1) := by decide +kernel
theorem dX10_listsRotations_17 : decode cX10_listsRotations 17 = .ok (.aload_n 0, 1) := by decide +kernel
theorem dX10_listsRotations_18 : decode cX10_listsRotations 18 = .ok (.getfield 120, 3) := by decide +kernel
theorem dX10_listsRotations_21 : decode cX10_listsRotations 21 = .ok (.if_icmp .ge 97, 3) := by decide +kernel
theorem dX10_listsRotations_24 : decode cX10_listsRotations 24 = .ok (.iload_n 2, 1) := by decide +kernel
theorem dX10_listsRotations_25 : decode cX10_listsRotations 25 = .ok (.iload_n 3, 1) := by decide +kernel
theorem dX10_listsRotations_26 : decode cX10_listsRotations 26 = .ok (.if_icmp .eq 86, 3) := by decide +kernel
theorem dX10_listsRotations_29 : decode cX10_listsRotations 29 = .ok (.aload_n 0, 1) := by decide +kernel
theorem dX10_listsRotations_30 : decode cX10_listsRotations 30 = .ok (.getfield 13, 3) := by decide +kernel
theorem dX10_listsRotations_33 : decode cX10_listsRotations 33 = .ok (.iload_n 1, 1) := by decide +kernel
theorem dX10_listsRotations_34 : decode cX10_listsRotations 34 = .ok (.iaload, 1) := by decide +kernel
theorem dX10_listsRotations_35 : decode cX10_listsRotations 35 = .ok (.aload_n 0, 1) := by decide +kernel
theorem dX10_listsRotations_36 : decode cX10_listsRotations 36 = .ok (.getfield 13, 3) := by decide +kernel
theorem dX10_listsRotations_39 : decode cX10_listsRotations 39 = .ok (.iload_n 2, 1) := by decide +kernel
theorem dX10_listsRotations_40 : decode cX10_listsRotations 40 = .ok (.iaload, 1) := by decide +kernel
theorem dX10_listsRotations_41 : decode cX10_listsRotations 41 = .ok (.if_icmp .ne 21, 3) := by decide +kernel
theorem dX10_listsRotations_44 : decode cX10_listsRotations 44 = .ok (.aload_n 0, 1) := by decide +kernel
theorem dX10_listsRotations_45 : decode cX10_listsRotations 45 = .ok (.getfield 13, 3) := by decide +kernel
theorem dX10_listsRotations_48 : decode cX10_listsRotations 48 = .ok (.iload_n 2, 1) := by decide +kernel
theorem dX10_listsRotations_49 : decode cX10_listsRotations 49 = .ok (.iaload, 1) := by decide +kernel
theorem dX10_listsRotations_50 : decode cX10_listsRotations 50 = .ok (.aload_n 0, 1) := by decide +kernel
theorem dX10_listsRotations_51 : decode cX10_listsRotations 51 = .ok (.getfield 13, 3) := by decide +kernel
theorem dX10_listsRotations_54 : decode cX10_listsRotations 54 = .ok (.iload_n 3, 1) := by decide +kernel
theorem dX10_listsRotations_55 : decode cX10_listsRotations 55 = .ok (.iaload, 1) := by decide +kernel
theorem dX10_listsRotations_56 : decode cX10_listsRotations 56 = .ok (.if_icmp .ne 6, 3) := by decide +kernel
theorem dX10_listsRotations_59 : decode cX10_listsRotations 59 = .ok (.goto 53, 3) := by decide +kernel
theorem dX10_listsRotations_62 : decode cX10_listsRotations 62 = .ok (.aload_n 0, 1) := by decide +kernel
theorem dX10_listsRotations_63 : decode cX10_listsRotations 63 = .ok (.iload_n 2, 1) := by decide +kernel
theorem dX10_listsRotations_64 : decode cX10_listsRotations 64 = .ok (.aload_n 0, 1) := by decide +kernel
theorem dX10_listsRotations_65 : decode cX10_listsRotations 65 = .ok (.getfield 13, 3) := by decide +kernel
theorem dX10_listsRotations_68 : decode cX10_listsRotations 68 = .ok (.iload_n 1, 1) := by decide +kernel
theorem dX10_listsRotations_69 : decode cX10_listsRotations 69 = .ok (.iaload, 1) := by decide +kernel
theorem dX10_listsRotations_70 : decode cX10_listsRotations 70 = .ok (.invokevirtual 231, 3) := by decide +kernel
theorem dX10_listsRotations_73 : decode cX10_listsRotations 73 = .ok (.ifCond .eq 39, 3) := by decide +kernel
theorem dX10_listsRotations_76 : decode cX10_listsRotations 76 = .ok (.aload_n 0, 1) := by decide +kernel
theorem dX10_listsRotations_77 : decode cX10_listsRotations 77 = .ok (.iload_n 3, 1) := by decide +kernel
theorem dX10_listsRotations_78 : decode cX10_listsRotations 78 = .ok (.aload_n 0, 1) := by decide +kernel
theorem dX10_listsRotations_79 : decode cX10_listsRotations 79 = .ok (.getfield 13, 3) := by decide +kernel
theorem dX10_listsRotations_82 : decode cX10_listsRotations 82 = .ok (.iload_n 2, 1) := by decide +kernel
theorem dX10_listsRotations_83 : decode cX10_listsRotations 83 = .ok (.iaload, 1) := by decide +kernel
theorem dX10_listsRotations_84 : decode cX10_listsRotations 84 = .ok (.invokevirtual 231, 3) := by decide +kernel
theorem dX10_listsRotations_87 : decode cX10_listsRotations 87 = .ok (.ifCond .eq 25, 3) := by decide +kernel
theorem dX10_listsRotations_90 : decode cX10_listsRotations 90 = .ok (.aload_n 0, 1) := by decide +kernel
theorem dX10_listsRotations_91 : decode cX10_listsRotations 91 = .ok (.iload_n 1, 1) := by decide +kernel
theorem dX10_listsRotations_92 : decode cX10_listsRotations 92 = .ok (.aload_n 0, 1) := by decide +kernel
theorem dX10_listsRotations_93 : decode cX10_listsRotations 93 = .ok (.getfield 13, 3) := by decide +kernel
theorem dX10_listsRotations_96 : decode cX10_listsRotations 96 = .ok (.iload_n 3, 1) := by decide +kernel
theorem dX10_listsRotations_97 : decode cX10_listsRotations 97 = .ok (.iaload, 1) := by decide +kernel
theorem dX10_listsRotations_98 : decode cX10_listsRotations 98 = .ok (.invokevirtual 231, 3) := by decide +kernel
theorem dX10_listsRotations_101 : decode cX10_listsRotations 101 = .ok (.ifCond .eq 11, 3) := by decide +kernel
theorem dX10_listsRotations_104 : decode cX10_listsRotations 104 = .ok (.aload_n 0, 1) := by decide +kernel
theorem dX10_listsRotations_105 : decode cX10_listsRotations 105 = .ok (.iconst 3, 1) := by decide +kernel
theorem dX10_listsRotations_106 : decode cX10_listsRotations 106 = .ok (.iload_n 1, 1) := by decide +kernel
theorem dX10_listsRotations_107 : decode cX10_listsRotations 107 = .ok (.iload_n 2, 1) := by decide +kernel
theorem dX10_listsRotations_108 : decode cX10_listsRotations 108 = .ok (.iload_n 3, 1) := by decide +kernel
theorem dX10_listsRotations_109 : decode cX10_listsRotations 109 = .ok (.invokevirtual 251, 3) := by decide +kernel
theorem dX10_listsRotations_112 : decode cX10_listsRotations 112 = .ok (.iinc 3 1, 3) := by decide +kernel
theorem dX10_listsRotations_115 : decode cX10_listsRotations 115 = .ok (.goto (-99), 3) := by decide +kernel
theorem dX10_listsRotations_118 : decode cX10_listsRotations 118 = .ok (.iinc 2 1, 3) := by decide +kernel
theorem dX10_listsRotations_121 : decode cX10_listsRotations 121 = .ok (.goto (-117), 3) := by decide +kernel
theorem dX10_listsRotations_124 : decode cX10_listsRotations 124 = .ok (.return_, 1) := by decide +kernel
theorem dX10_findMoves_0 : decode cX10_findMoves 0 = .ok (.aload_n 0, 1) := by decide +kernel
theorem dX10_findMoves_1 : decode cX10_findMoves 1 = .ok (.iconst 0, 1) := by decide +kernel
theorem dX10_findMoves_2 : decode cX10_findMoves 2 = .ok (.putfield 245, 3) := by decide +kernel
theorem dX10_findMoves_5 : decode cX10_findMoves 5 = .ok (.iconst 0, 1) := by decide +kernel
theorem dX10_findMoves_6 : decode cX10_findMoves 6 = .ok (.istore_n 1, 1) := by decide +kernel
theorem dX10_findMoves_7 : decode cX10_findMoves 7 = .ok (.iload_n 1, 1) := by decide +kernel
theorem dX10_findMoves_8 : decode cX10_findMoves 8 = .ok (.aload_n 0, 1) := by decide +kernel
theorem dX10_findMoves_9 : decode cX10_findMoves 9 = .ok (.getfield 120, 3) := by decide +kernel
theorem dX10_findMoves_12 : decode cX10_findMoves 12 = .ok (.if_icmp .ge 25, 3) := by decide +kernel
theorem dX10_findMoves_15 : decode cX10_findMoves 15 = .ok (.aload_n 0, 1) := by decide +kernel
theorem dX10_findMoves_16 : decode cX10_findMoves 16 = .ok (.getfield 40, 3) := by decide +kernel
theorem dX10_findMoves_19 : decode cX10_findMoves 19 = .ok (.iconst 0, 1) := by decide +kernel
theorem dX10_findMoves_20 : decode cX10_findMoves 20 = .ok (.invokestatic 126, 3) := by decide +kernel
theorem dX10_findMoves_23 : decode cX10_findMoves 23 = .ok (.ifCond .eq 14, 3) := by decide +kernel
theorem dX10_findMoves_26 : decode cX10_findMoves 26 = .ok (.aload_n 0, 1) := by decide +kernel
theorem dX10_findMoves_27 : decode cX10_findMoves 27 = .ok (.iload_n 1, 1) := by decide +kernel
theorem dX10_findMoves_28 : decode cX10_findMoves 28 = .ok (.invokevirtual 254, 3) := by decide +kernel
theorem dX10_findMoves_31 : decode cX10_findMoves 31 = .ok (.iinc 1 1, 3) := by decide +kernel
theorem dX10_findMoves_34 : decode cX10_findMoves 34 = .ok (.goto (-27), 3) := by decide +kernel
theorem dX10_findMoves_37 : decode cX10_findMoves 37 = .ok (.iconst 0, 1) := by decide +kernel
theorem dX10_findMoves_38 : decode cX10_findMoves 38 = .ok (.istore_n 1, 1) := by decide +kernel
theorem dX10_findMoves_39 : decode cX10_findMoves 39 = .ok (.iload_n 1, 1) := by decide +kernel
theorem dX10_findMoves_40 : decode cX10_findMoves 40 = .ok (.aload_n 0, 1) := by decide +kernel
theorem dX10_findMoves_41 : decode cX10_findMoves 41 = .ok (.getfield 120, 3) := by decide +kernel
theorem dX10_findMoves_44 : decode cX10_findMoves 44 = .ok (.if_icmp .ge 25, 3) := by decide +kernel
theorem dX10_findMoves_47 : decode cX10_findMoves 47 = .ok (.aload_n 0, 1) := by decide +kernel
theorem dX10_findMoves_48 : decode cX10_findMoves 48 = .ok (.getfield 40, 3) := by decide +kernel
theorem dX10_findMoves_51 : decode cX10_findMoves 51 = .ok (.iconst 1, 1) := by decide +kernel
theorem dX10_findMoves_52 : decode cX10_findMoves 52 = .ok (.invokestatic 126, 3) := by decide +kernel
theorem dX10_findMoves_55 : decode cX10_findMoves 55 = .ok (.ifCond .eq 14, 3) := by decide +kernel
theorem dX10_findMoves_58 : decode cX10_findMoves 58 = .ok (.aload_n 0, 1) := by decide +kernel
theorem dX10_findMoves_59 : decode cX10_findMoves 59 = .ok (.iload_n 1, 1) := by decide +kernel
theorem dX10_findMoves_60 : decode cX10_findMoves 60 = .ok (.invokevirtual 257, 3) := by decide +kernel
theorem dX10_findMoves_63 : decode cX10_findMoves 63 = .ok (.iinc 1 1, 3) := by decide +kernel
theorem dX10_findMoves_66 : decode cX10_findMoves 66 = .ok (.goto (-27), 3) := by decide +kernel
theorem dX10_findMoves_69 : decode cX10_findMoves 69 = .ok (.iconst 0, 1) := by decide +kernel
theorem dX10_findMoves_70 : decode cX10_findMoves 70 = .ok (.istore_n 1, 1) := by decide +kernel
theorem dX10_findMoves_71 : decode cX10_findMoves 71 = .ok (.iload_n 1, 1) := by decide +kernel
theorem dX10_findMoves_72 : decode cX10_findMoves 72 = .ok (.aload_n 0, 1) := by decide +kernel
theorem dX10_findMoves_73 : decode cX10_findMoves 73 = .ok (.getfield 120, 3) := by decide +kernel
theorem dX10_findMoves_76 : decode cX10_findMoves 76 = .ok (.if_icmp .ge 36, 3) := by decide +kernel
theorem dX10_findMoves_79 : decode cX10_findMoves 79 = .ok (.aload_n 0, 1) := by decide +kernel
theorem dX10_findMoves_80 : decode cX10_findMoves 80 = .ok (.getfield 40, 3) := by decide +kernel
theorem dX10_findMoves_83 : decode cX10_findMoves 83 = .ok (.iconst 2, 1) := by decide +kernel
theorem dX10_findMoves_84 : decode cX10_findMoves 84 = .ok (.invokestatic 126, 3) := by decide +kernel
theorem dX10_findMoves_87 : decode cX10_findMoves 87 = .ok (.ifCond .eq 25, 3) := by decide +kernel
theorem dX10_findMoves_90 : decode cX10_findMoves 90 = .ok (.aload_n 0, 1) := by decide +kernel
theorem dX10_findMoves_91 : decode cX10_findMoves 91 = .ok (.iconst 2, 1) := by decide +kernel
theorem dX10_findMoves_92 : decode cX10_findMoves 92 = .ok (.iload_n 1, 1) := by decide +kernel
theorem dX10_findMoves_93 : decode cX10_findMoves 93 = .ok (.iconst 0, 1) := by decide +kernel
theorem dX10_findMoves_94 : decode cX10_findMoves 94 = .ok (.iconst (-1), 1) := by decide +kernel
theorem dX10_findMoves_95 : decode cX10_findMoves 95 = .ok (.invokevirtual 251, 3) := by decide +kernel
theorem dX10_findMoves_98 : decode cX10_findMoves 98 = .ok (.aload_n 0, 1) := by decide +kernel
theorem dX10_findMoves_99 : decode cX10_findMoves 99 = .ok (.iconst 2, 1) := by decide +kernel
theorem dX10_findMoves_100 : decode cX10_findMoves 100 = .ok (.iload_n 1, 1) := by decide +kernel
theorem dX10_findMoves_101 : decode cX10_findMoves 101 = .ok (.iconst 1, 1) := by decide +kernel
theorem dX10_findMoves_102 : decode cX10_findMoves 102 = .ok (.iconst (-1), 1) := by decide +kernel
theorem dX10_findMoves_103 : decode cX10_findMoves 103 = .ok (.invokevirtual 251, 3) := by decide +kernel
theorem dX10_findMoves_106 : decode cX10_findMoves 106 = .ok (.iinc 1 1, 3) := by decide +kernel
theorem dX10_findMoves_109 : decode cX10_findMoves 109 = .ok (.goto (-38), 3) := by decide +kernel
theorem dX10_findMoves_112 : decode cX10_findMoves 112 = .ok (.iconst 0, 1) := by decide +kernel
theorem dX10_findMoves_113 : decode cX10_findMoves 113 = .ok (.istore_n 1, 1) := by decide +kernel
theorem dX10_findMoves_114 : decode cX10_findMoves 114 = .ok (.iload_n 1, 1) := by decide +kernel
theorem dX10_findMoves_115 : decode cX10_findMoves 115 = .ok (.aload_n 0, 1) := by decide +kernel
theorem dX10_findMoves_116 : decode cX10_findMoves 116 = .ok (.getfield 120, 3) := by decide +kernel
theorem dX10_findMoves_119 : decode cX10_findMoves 119 = .ok (.if_icmp .ge 25, 3) := by decide +kernel
theorem dX10_findMoves_122 : decode cX10_findMoves 122 = .ok (.aload_n 0, 1) := by decide +kernel
theorem dX10_findMoves_123 : decode cX10_findMoves 123 = .ok (.getfield 40, 3) := by decide +kernel
theorem dX10_findMoves_126 : decode cX10_findMoves 126 = .ok (.iconst 3, 1) := by decide +kernel
theorem dX10_findMoves_127 : decode cX10_findMoves 127 = .ok (.invokestatic 126, 3) := by decide +kernel
theorem dX10_findMoves_130 : decode cX10_findMoves 130 = .ok (.ifCond .eq 14, 3) := by decide +kernel
theorem dX10_findMoves_133 : decode cX10_findMoves 133 = .ok (.aload_n 0, 1) := by decide +kernel
theorem dX10_findMoves_134 : decode cX10_findMoves 134 = .ok (.iload_n 1, 1) := by decide +kernel
theorem dX10_findMoves_135 : decode cX10_findMoves 135 = .ok (.invokevirtual 260, 3) := by decide +kernel
theorem dX10_findMoves_138 : decode cX10_findMoves 138 = .ok (.iinc 1 1, 3) := by decide +kernel
theorem dX10_findMoves_141 : decode cX10_findMoves 141 = .ok (.goto (-27), 3) := by decide +kernel
theorem dX10_findMoves_144 : decode cX10_findMoves 144 = .ok (.return_, 1) := by decide +kernel
theorem dX10_setNeighborhood_0 : decode cX10_setNeighborhood 0 = .ok (.iload_n 1, 1) := by decide +kernel
theorem dX10_setNeighborhood_1 : decode cX10_setNeighborhood 1 = .ok (.iconst 0, 1) := by decide +kernel
theorem dX10_setNeighborhood_2 : decode cX10_setNeighborhood 2 = .ok (.bipush 15, 2) := by decide +kernel
theorem dX10_setNeighborhood_4 : decode cX10_setNeighborhood 4 = .ok (.invokestatic 199, 3) := by decide +kernel
theorem dX10_setNeighborhood_7 : decode cX10_setNeighborhood 7 = .ok (.ifCond .ne 9, 3) := by decide +kernel
theorem dX10_setNeighborhood_10 : decode cX10_setNeighborhood 10 = .ok (.aload_n 0, 1) := by decide +kernel
theorem dX10_setNeighborhood_11 : decode cX10_setNeighborhood 11 = .ok (.iconst 1, 1) := by decide +kernel
theorem dX10_setNeighborhood_12 : decode cX10_setNeighborhood 12 = .ok (.invokevirtual 203, 3) := by decide +kernel
theorem dX10_setNeighborhood_15 : decode cX10_setNeighborhood 15 = .ok (.ireturn, 1) := by decide +kernel
theorem dX10_setNeighborhood_16 : decode cX10_setNeighborhood 16 = .ok (.aload_n 0, 1) := by decide +kernel
theorem dX10_setNeighborhood_17 : decode cX10_setNeighborhood 17 = .ok (.iconst 0, 1) := by decide +kernel
theorem dX10_setNeighborhood_18 : decode cX10_setNeighborhood 18 = .ok (.putfield 117, 3) := by decide +kernel
theorem dX10_setNeighborhood_21 : decode cX10_setNeighborhood 21 = .ok (.aload_n 0, 1) := by decide +kernel
theorem dX10_setNeighborhood_22 : decode cX10_setNeighborhood 22 = .ok (.getfield 40, 3) := by decide +kernel
theorem dX10_setNeighborhood_25 : decode cX10_setNeighborhood 25 = .ok (.istore_n 2, 1) := by decide +kernel
theorem dX10_setNeighborhood_26 : decode cX10_setNeighborhood 26 = .ok (.aload_n 0, 1) := by decide +kernel
theorem dX10_setNeighborhood_27 : decode cX10_setNeighborhood 27 = .ok (.iload_n 1, 1) := by decide +kernel
theorem dX10_setNeighborhood_28 : decode cX10_setNeighborhood 28 = .ok (.putfield 40, 3) := by decide +kernel
theorem dX10_setNeighborhood_31 : decode cX10_setNeighborhood 31 = .ok (.iload_n 2, 1) := by decide +kernel
theorem dX10_setNeighborhood_32 : decode cX10_setNeighborhood 32 = .ok (.ireturn, 1) := by decide +kernel
theorem dX10_setTenure_0 : decode cX10_setTenure 0 = .ok (.iload_n 1, 1) := by decide +kernel
theorem dX10_setTenure_1 : decode cX10_setTenure 1 = .ok (.iconst 0, 1) := by decide +kernel
theorem dX10_setTenure_2 : decode cX10_setTenure 2 = .ok (.bipush 20, 2) := by decide +kernel
theorem dX10_setTenure_4 : decode cX10_setTenure 4 = .ok (.invokestatic 199, 3) := by decide +kernel
theorem dX10_setTenure_7 : decode cX10_setTenure 7 = .ok (.ifCond .ne 9, 3) := by decide +kernel
theorem dX10_setTenure_10 : decode cX10_setTenure 10 = .ok (.aload_n 0, 1) := by decide +kernel
theorem dX10_setTenure_11 : decode cX10_setTenure 11 = .ok (.iconst 1, 1) := by decide +kernel
theorem dX10_setTenure_12 : decode cX10_setTenure 12 = .ok (.invokevirtual 203, 3) := by decide +kernel
theorem dX10_setTenure_15 : decode cX10_setTenure 15 = .ok (.ireturn, 1) := by decide +kernel
theorem dX10_setTenure_16 : decode cX10_setTenure 16 = .ok (.aload_n 0, 1) := by decide +kernel
theorem dX10_setTenure_17 : decode cX10_setTenure 17 = .ok (.iconst 0, 1) := by decide +kernel
theorem dX10_setTenure_18 : decode cX10_setTenure 18 = .ok (.putfield 117, 3) := by decide +kernel
theorem dX10_setTenure_21 : decode cX10_setTenure 21 = .ok (.aload_n 0, 1) := by decide +kernel
theorem dX10_setTenure_22 : decode cX10_setTenure 22 = .ok (.getfield 44, 3) := by decide +kernel
theorem dX10_setTenure_25 : decode cX10_setTenure 25 = .ok (.istore_n 2, 1) := by decide +kernel
theorem dX10_setTenure_26 : decode cX10_setTenure 26 = .ok (.aload_n 0, 1) := by decide +kernel
theorem dX10_setTenure_27 : decode cX10_setTenure 27 = .ok (.iload_n 1, 1) := by decide +kernel
theorem dX10_setTenure_28 : decode cX10_setTenure 28 = .ok (.putfield 44, 3) := by decide +kernel
theorem dX10_setTenure_31 : decode cX10_setTenure 31 = .ok (.iload_n 2, 1) := by decide +kernel
theorem dX10_setTenure_32 : decode cX10_setTenure 32 = .ok (.ireturn, 1) := by decide +kernel
theorem dX10_setPatience_0 : decode cX10_setPatience 0 = .ok (.iload_n 1, 1) := by decide +kernel
theorem dX10_setPatience_1 : decode cX10_setPatience 1 = .ok (.iconst 1, 1) := by decide +kernel
theorem dX10_setPatience_2 : decode cX10_setPatience 2 = .ok (.bipush 100, 2) := by decide +kernel
theorem dX10_setPatience_4 : decode cX10_setPatience 4 = .ok (.invokestatic 199, 3) := by decide +kernel
theorem dX10_setPatience_7 : decode cX10_setPatience 7 = .ok (.ifCond .ne 9, 3) := by decide +kernel
theorem dX10_setPatience_10 : decode cX10_setPatience 10 = .ok (.aload_n 0, 1) := by decide +kernel
theorem dX10_setPatience_11 : decode cX10_setPatience 11 = .ok (.iconst 1, 1) := by decide +kernel
theorem dX10_setPatience_12 : decode cX10_setPatience 12 = .ok (.invokevirtual 203, 3) := by decide +kernel
theorem dX10_setPatience_15 : decode cX10_setPatience 15 = .ok (.ireturn, 1) := by decide +kernel
theorem dX10_setPatience_16 : decode cX10_setPatience 16 = .ok (.aload_n 0, 1) := by decide +kernel
theorem dX10_setPatience_17 : decode cX10_setPatience 17 = .ok (.iconst 0, 1) := by decide +kernel
theorem dX10_setPatience_18 : decode cX10_setPatience 18 = .ok (.putfield 117, 3) := by decide +kernel
theorem dX10_setPatience_21 : decode cX10_setPatience 21 = .ok (.aload_n 0, 1) := by decide +kernel
theorem dX10_setPatience_22 : decode cX10_setPatience 22 = .ok (.getfield 47, 3) := by decide +kernel
theorem dX10_setPatience_25 : decode cX10_setPatience 25 = .ok (.istore_n 2, 1) := by decide +kernel
theorem dX10_setPatience_26 : decode cX10_setPatience 26 = .ok (.aload_n 0, 1) := by decide +kernel
theorem dX10_setPatience_27 : decode cX10_setPatience 27 = .ok (.iload_n 1, 1) := by decide +kernel
theorem dX10_setPatience_28 : decode cX10_setPatience 28 = .ok (.putfield 47, 3) := by decide +kernel
theorem dX10_setPatience_31 : decode cX10_setPatience 31 = .ok (.iload_n 2, 1) := by decide +kernel
theorem dX10_setPatience_32 : decode cX10_setPatience 32 = .ok (.ireturn, 1) := by decide +kernel
theorem dX10_setSeed_0 : decode cX10_setSeed 0 = .ok (.iload_n 1, 1) := by decide +kernel
theorem dX10_setSeed_1 : decode cX10_setSeed 1 = .ok (.ifCond .ge 9, 3) := by decide +kernel
theorem dX10_setSeed_4 : decode cX10_setSeed 4 = .ok (.aload_n 0, 1) := by decide +kernel
theorem dX10_setSeed_5 : decode cX10_setSeed 5 = .ok (.iconst 1, 1) := by decide +kernel
theorem dX10_setSeed_6 : decode cX10_setSeed 6 = .ok (.invokevirtual 203, 3) := by decide +kernel
theorem dX10_setSeed_9 : decode cX10_setSeed 9 = .ok (.ireturn, 1) := by decide +kernel
theorem dX10_setSeed_10 : decode cX10_setSeed 10 = .ok (.aload_n 0, 1) := by decide +kernel
theorem dX10_setSeed_11 : decode cX10_setSeed 11 = .ok (.iconst 0, 1) := by decide +kernel
theorem dX10_setSeed_12 : decode cX10_setSeed 12 = .ok (.putfield 117, 3) := by decide +kernel
theorem dX10_setSeed_15 : decode cX10_setSeed 15 = .ok (.aload_n 0, 1) := by decide +kernel
theorem dX10_setSeed_16 : decode cX10_setSeed 16 = .ok (.getfield 50, 3) := by decide +kernel
theorem dX10_setSeed_19 : decode cX10_setSeed 19 = .ok (.istore_n 2, 1) := by decide +kernel
theorem dX10_setSeed_20 : decode cX10_setSeed 20 = .ok (.aload_n 0, 1) := by decide +kernel
theorem dX10_setSeed_21 : decode cX10_setSeed 21 = .ok (.iload_n 1, 1) := by decide +kernel
theorem dX10_setSeed_22 : decode cX10_setSeed 22 = .ok (.putfield 50, 3) := by decide +kernel
theorem dX10_setSeed_25 : decode cX10_setSeed 25 = .ok (.iload_n 2, 1) := by decide +kernel
theorem dX10_setSeed_26 : decode cX10_setSeed 26 = .ok (.ireturn, 1) := by decide +kernel
theorem dX10_moves_0 : decode cX10_moves 0 = .ok (.aload_n 0, 1) := by decide +kernel
theorem dX10_moves_1 : decode cX10_moves 1 = .ok (.iconst 0, 1) := by decide +kernel
theorem dX10_moves_2 : decode cX10_moves 2 = .ok (.putfield 117, 3) := by decide +kernel
theorem dX10_moves_5 : decode cX10_moves 5 = .ok (.aload_n 0, 1) := by decide +kernel
theorem dX10_moves_6 : decode cX10_moves 6 = .ok (.invokevirtual 263, 3) := by decide +kernel
theorem dX10_moves_9 : decode cX10_moves 9 = .ok (.iconst 0, 1) := by decide +kernel
theorem dX10_moves_10 : decode cX10_moves 10 = .ok (.istore_n 2, 1) := by decide +kernel
theorem dX10_moves_11 : decode cX10_moves 11 = .ok (.iconst 0, 1) := by decide +kernel
theorem dX10_moves_12 : decode cX10_moves 12 = .ok (.istore_n 3, 1) := by decide +kernel
theorem dX10_moves_13 : decode cX10_moves 13 = .ok (.iload_n 3, 1) := by decide +kernel
theorem dX10_moves_14 : decode cX10_moves 14 = .ok (.aload_n 0, 1) := by decide +kernel
theorem dX10_moves_15 : decode cX10_moves 15 = .ok (.getfield 245, 3) := by decide +kernel
theorem dX10_moves_18 : decode cX10_moves 18 = .ok (.if_icmp .ge 30, 3) := by decide +kernel
theorem dX10_moves_21 : decode cX10_moves 21 = .ok (.iload_n 2, 1) := by decide +kernel
theorem dX10_moves_22 : decode cX10_moves 22 = .ok (.iload_n 1, 1) := by decide +kernel
theorem dX10_moves_23 : decode cX10_moves 23 = .ok (.ifCond .eq 12, 3) := by decide +kernel
theorem dX10_moves_26 : decode cX10_moves 26 = .ok (.aload_n 0, 1) := by decide +kernel
theorem dX10_moves_27 : decode cX10_moves 27 = .ok (.getfield 83, 3) := by decide +kernel
theorem dX10_moves_30 : decode cX10_moves 30 = .ok (.iload_n 3, 1) := by decide +kernel
theorem dX10_moves_31 : decode cX10_moves 31 = .ok (.baload, 1) := by decide +kernel
theorem dX10_moves_32 : decode cX10_moves 32 = .ok (.ifCond .eq 7, 3) := by decide +kernel
theorem dX10_moves_35 : decode cX10_moves 35 = .ok (.iconst 1, 1) := by decide +kernel
theorem dX10_moves_36 : decode cX10_moves 36 = .ok (.goto 4, 3) := by decide +kernel
theorem dX10_moves_39 : decode cX10_moves 39 = .ok (.iconst 0, 1) := by decide +kernel
theorem dX10_moves_40 : decode cX10_moves 40 = .ok (.iadd, 1) := by decide +kernel
theorem dX10_moves_41 : decode cX10_moves 41 = .ok (.istore_n 2, 1) := by decide +kernel
theorem dX10_moves_42 : decode cX10_moves 42 = .ok (.iinc 3 1, 3) := by decide +kernel
theorem dX10_moves_45 : decode cX10_moves 45 = .ok (.goto (-32), 3) := by decide +kernel
theorem dX10_moves_48 : decode cX10_moves 48 = .ok (.iload_n 2, 1) := by decide +kernel
theorem dX10_moves_49 : decode cX10_moves 49 = .ok (.ireturn, 1) := by decide +kernel
theorem dX10_move_0 : decode cX10_move 0 = .ok (.aload_n 0, 1) := by decide +kernel
theorem dX10_move_1 : decode cX10_move 1 = .ok (.invokevirtual 263, 3) := by decide +kernel
theorem dX10_move_4 : decode cX10_move 4 = .ok (.iload_n 1, 1) := by decide +kernel
theorem dX10_move_5 : decode cX10_move 5 = .ok (.iconst 0, 1) := by decide +kernel
theorem dX10_move_6 : decode cX10_move 6 = .ok (.aload_n 0, 1) := by decide +kernel
theorem dX10_move_7 : decode cX10_move 7 = .ok (.getfield 245, 3) := by decide +kernel
theorem dX10_move_10 : decode cX10_move 10 = .ok (.iconst 1, 1) := by decide +kernel
theorem dX10_move_11 : decode cX10_move 11 = .ok (.isub, 1) := by decide +kernel
theorem dX10_move_12 : decode cX10_move 12 = .ok (.invokestatic 199, 3) := by decide +kernel
theorem dX10_move_15 : decode cX10_move 15 = .ok (.ifCond .ne 9, 3) := by decide +kernel
theorem dX10_move_18 : decode cX10_move 18 = .ok (.aload_n 0, 1) := by decide +kernel
theorem dX10_move_19 : decode cX10_move 19 = .ok (.iconst 1, 1) := by decide +kernel
theorem dX10_move_20 : decode cX10_move 20 = .ok (.invokevirtual 203, 3) := by decide +kernel
theorem dX10_move_23 : decode cX10_move 23 = .ok (.ireturn, 1) := by decide +kernel
theorem dX10_move_24 : decode cX10_move 24 = .ok (.iload_n 2, 1) := by decide +kernel
theorem dX10_move_25 : decode cX10_move 25 = .ok (.iconst 0, 1) := by decide +kernel
theorem dX10_move_26 : decode cX10_move 26 = .ok (.iconst 5, 1) := by decide +kernel
theorem dX10_move_27 : decode cX10_move 27 = .ok (.invokestatic 199, 3) := by decide +kernel
theorem dX10_move_30 : decode cX10_move 30 = .ok (.ifCond .ne 9, 3) := by decide +kernel
theorem dX10_move_33 : decode cX10_move 33 = .ok (.aload_n 0, 1) := by decide +kernel
theorem dX10_move_34 : decode cX10_move 34 = .ok (.iconst 2, 1) := by decide +kernel
theorem dX10_move_35 : decode cX10_move 35 = .ok (.invokevirtual 203, 3) := by decide +kernel
theorem dX10_move_38 : decode cX10_move 38 = .ok (.ireturn, 1) := by decide +kernel
theorem dX10_move_39 : decode cX10_move 39 = .ok (.aload_n 0, 1) := by decide +kernel
theorem dX10_move_40 : decode cX10_move 40 = .ok (.iconst 0, 1) := by decide +kernel
theorem dX10_move_41 : decode cX10_move 41 = .ok (.putfield 117, 3) := by decide +kernel
theorem dX10_move_44 : decode cX10_move 44 = .ok (.iload_n 2, 1) := by decide +kernel
theorem dX10_move_45 : decode cX10_move 45 = .ok (.tableswitch 70 0 4 #[35, 42, 49, 56, 63], 35) := by decide +kernel
theorem dX10_move_80 : decode cX10_move 80 = .ok (.aload_n 0, 1) := by decide +kernel
theorem dX10_move_81 : decode cX10_move 81 = .ok (.getfield 65, 3) := by decide +kernel
theorem dX10_move_84 : decode cX10_move 84 = .ok (.iload_n 1, 1) := by decide +kernel
theorem dX10_move_85 : decode cX10_move 85 = .ok (.iaload, 1) := by decide +kernel
theorem dX10_move_86 : decode cX10_move 86 = .ok (.ireturn, 1) := by decide +kernel
theorem dX10_move_87 : decode cX10_move 87 = .ok (.aload_n 0, 1) := by decide +kernel
theorem dX10_move_88 : decode cX10_move 88 = .ok (.getfield 68, 3) := by decide +kernel
theorem dX10_move_91 : decode cX10_move 91 = .ok (.iload_n 1, 1) := by decide +kernel
theorem dX10_move_92 : decode cX10_move 92 = .ok (.iaload, 1) := by decide +kernel
theorem dX10_move_93 : decode cX10_move 93 = .ok (.ireturn, 1) := by decide +kernel
theorem dX10_move_94 : decode cX10_move 94 = .ok (.aload_n 0, 1) := by decide +kernel
theorem dX10_move_95 : decode cX10_move 95 = .ok (.getfield 71, 3) := by decide +kernel
theorem dX10_move_98 : decode cX10_move 98 = .ok (.iload_n 1, 1) := by decide +kernel
theorem dX10_move_99 : decode cX10_move 99 = .ok (.iaload, 1) := by decide +kernel
theorem dX10_move_100 : decode cX10_move 100 = .ok (.ireturn, 1) := by decide +kernel
theorem dX10_move_101 : decode cX10_move 101 = .ok (.aload_n 0, 1) := by decide +kernel
theorem dX10_move_102 : decode cX10_move 102 = .ok (.getfield 74, 3) := by decide +kernel
theorem dX10_move_105 : decode cX10_move 105 = .ok (.iload_n 1, 1) := by decide +kernel
theorem dX10_move_106 : decode cX10_move 106 = .ok (.iaload, 1) := by decide +kernel
theorem dX10_move_107 : decode cX10_move 107 = .ok (.ireturn, 1) := by decide +kernel
theorem dX10_move_108 : decode cX10_move 108 = .ok (.aload_n 0, 1) := by decide +kernel
theorem dX10_move_109 : decode cX10_move 109 = .ok (.getfield 77, 3) := by decide +kernel
theorem dX10_move_112 : decode cX10_move 112 = .ok (.iload_n 1, 1) := by decide +kernel
theorem dX10_move_113 : decode cX10_move 113 = .ok (.iaload, 1) := by decide +kernel
theorem dX10_move_114 : decode cX10_move 114 = .ok (.ireturn, 1) := by decide +kernel
theorem dX10_move_115 : decode cX10_move 115 = .ok (.aload_n 0, 1) := by decide +kernel
theorem dX10_move_116 : decode cX10_move 116 = .ok (.getfield 83, 3) := by decide +kernel
theorem dX10_move_119 : decode cX10_move 119 = .ok (.iload_n 1, 1) := by decide +kernel
theorem dX10_move_120 : decode cX10_move 120 = .ok (.baload, 1) := by decide +kernel
theorem dX10_move_121 : decode cX10_move 121 = .ok (.ifCond .eq 7, 3) := by decide +kernel
theorem dX10_move_124 : decode cX10_move 124 = .ok (.iconst 1, 1) := by decide +kernel
theorem dX10_move_125 : decode cX10_move 125 = .ok (.goto 4, 3) := by decide +kernel
theorem dX10_move_128 : decode cX10_move 128 = .ok (.iconst 0, 1) := by decide +kernel
theorem dX10_move_129 : decode cX10_move 129 = .ok (.ireturn, 1) := by decide +kernel
theorem dX10_leastMove_0 : decode cX10_leastMove 0 = .ok (.aload_n 0, 1) := by decide +kernel
theorem dX10_leastMove_1 : decode cX10_leastMove 1 = .ok (.invokevirtual 263, 3) := by decide +kernel
theorem dX10_leastMove_4 : decode cX10_leastMove 4 = .ok (.iconst (-1), 1) := by decide +kernel
theorem dX10_leastMove_5 : decode cX10_leastMove 5 = .ok (.istore_n 2, 1) := by decide +kernel
theorem dX10_leastMove_6 : decode cX10_leastMove 6 = .ok (.iconst 0, 1) := by decide +kernel
theorem dX10_leastMove_7 : decode cX10_leastMove 7 = .ok (.istore_n 3, 1) := by decide +kernel
theorem dX10_leastMove_8 : decode cX10_leastMove 8 = .ok (.iload_n 3, 1) := by decide +kernel
theorem dX10_leastMove_9 : decode cX10_leastMove 9 = .ok (.aload_n 0, 1) := by decide +kernel
theorem dX10_leastMove_10 : decode cX10_leastMove 10 = .ok (.getfield 245, 3) := by decide +kernel
theorem dX10_leastMove_13 : decode cX10_leastMove 13 = .ok (.if_icmp .ge 47, 3) := by decide +kernel
theorem dX10_leastMove_16 : decode cX10_leastMove 16 = .ok (.iload_n 1, 1) := by decide +kernel
theorem dX10_leastMove_17 : decode cX10_leastMove 17 = .ok (.ifCond .ne 12, 3) := by decide +kernel
theorem dX10_leastMove_20 : decode cX10_leastMove 20 = .ok (.aload_n 0, 1) := by decide +kernel
theorem dX10_leastMove_21 : decode cX10_leastMove 21 = .ok (.getfield 83, 3) := by decide +kernel
theorem dX10_leastMove_24 : decode cX10_leastMove 24 = .ok (.iload_n 3, 1) := by decide +kernel
theorem dX10_leastMove_25 : decode cX10_leastMove 25 = .ok (.baload, 1) := by decide +kernel
theorem dX10_leastMove_26 : decode cX10_leastMove 26 = .ok (.ifCond .ne 26, 3) := by decide +kernel
theorem dX10_leastMove_29 : decode cX10_leastMove 29 = .ok (.iload_n 2, 1) := by decide +kernel
theorem dX10_leastMove_30 : decode cX10_leastMove 30 = .ok (.ifCond .lt 18, 3) := by decide +kernel
theorem dX10_leastMove_33 : decode cX10_leastMove 33 = .ok (.aload_n 0, 1) := by decide +kernel
theorem dX10_leastMove_34 : decode cX10_leastMove 34 = .ok (.getfield 77, 3) := by decide +kernel
theorem dX10_leastMove_37 : decode cX10_leastMove 37 = .ok (.iload_n 3, 1) := by decide +kernel
theorem dX10_leastMove_38 : decode cX10_leastMove 38 = .ok (.iaload, 1) := by decide +kernel
theorem dX10_leastMove_39 : decode cX10_leastMove 39 = .ok (.aload_n 0, 1) := by decide +kernel
theorem dX10_leastMove_40 : decode cX10_leastMove 40 = .ok (.getfield 77, 3) := by decide +kernel
theorem dX10_leastMove_43 : decode cX10_leastMove 43 = .ok (.iload_n 2, 1) := by decide +kernel
theorem dX10_leastMove_44 : decode cX10_leastMove 44 = .ok (.iaload, 1) := by decide +kernel
theorem dX10_leastMove_45 : decode cX10_leastMove 45 = .ok (.if_icmp .ge 7, 3) := by decide +kernel
theorem dX10_leastMove_48 : decode cX10_leastMove 48 = .ok (.iload_n 3, 1) := by decide +kernel
theorem dX10_leastMove_49 : decode cX10_leastMove 49 = .ok (.goto 4, 3) := by decide +kernel
theorem dX10_leastMove_52 : decode cX10_leastMove 52 = .ok (.iload_n 2, 1) := by decide +kernel
theorem dX10_leastMove_53 : decode cX10_leastMove 53 = .ok (.istore_n 2, 1) := by decide +kernel
theorem dX10_leastMove_54 : decode cX10_leastMove 54 = .ok (.iinc 3 1, 3) := by decide +kernel
theorem dX10_leastMove_57 : decode cX10_leastMove 57 = .ok (.goto (-49), 3) := by decide +kernel
theorem dX10_leastMove_60 : decode cX10_leastMove 60 = .ok (.iload_n 2, 1) := by decide +kernel
theorem dX10_leastMove_61 : decode cX10_leastMove 61 = .ok (.ireturn, 1) := by decide +kernel
theorem dX10_nextMove_0 : decode cX10_nextMove 0 = .ok (.aload_n 0, 1) := by decide +kernel
theorem dX10_nextMove_1 : decode cX10_nextMove 1 = .ok (.iconst 0, 1) := by decide +kernel
theorem dX10_nextMove_2 : decode cX10_nextMove 2 = .ok (.invokevirtual 266, 3) := by decide +kernel
theorem dX10_nextMove_5 : decode cX10_nextMove 5 = .ok (.istore_n 1, 1) := by decide +kernel
theorem dX10_nextMove_6 : decode cX10_nextMove 6 = .ok (.iload_n 1, 1) := by decide +kernel
theorem dX10_nextMove_7 : decode cX10_nextMove 7 = .ok (.ifCond .ge 9, 3) := by decide +kernel
theorem dX10_nextMove_10 : decode cX10_nextMove 10 = .ok (.aload_n 0, 1) := by decide +kernel
theorem dX10_nextMove_11 : decode cX10_nextMove 11 = .ok (.iconst 1, 1) := by decide +kernel
theorem dX10_nextMove_12 : decode cX10_nextMove 12 = .ok (.invokevirtual 203, 3) := by decide +kernel
theorem dX10_nextMove_15 : decode cX10_nextMove 15 = .ok (.ireturn, 1) := by decide +kernel
theorem dX10_nextMove_16 : decode cX10_nextMove 16 = .ok (.aload_n 0, 1) := by decide +kernel
theorem dX10_nextMove_17 : decode cX10_nextMove 17 = .ok (.iconst 0, 1) := by decide +kernel
theorem dX10_nextMove_18 : decode cX10_nextMove 18 = .ok (.putfield 117, 3) := by decide +kernel
theorem dX10_nextMove_21 : decode cX10_nextMove 21 = .ok (.iload_n 1, 1) := by decide +kernel
theorem dX10_nextMove_22 : decode cX10_nextMove 22 = .ok (.ireturn, 1) := by decide +kernel
theorem dX10_isForbidden_0 : decode cX10_isForbidden 0 = .ok (.aload_n 0, 1) := by decide +kernel
theorem dX10_isForbidden_1 : decode cX10_isForbidden 1 = .ok (.aload_n 0, 1) := by decide +kernel
theorem dX10_isForbidden_2 : decode cX10_isForbidden 2 = .ok (.iload_n 1, 1) := by decide +kernel
theorem dX10_isForbidden_3 : decode cX10_isForbidden 3 = .ok (.invokevirtual 214, 3) := by decide +kernel
theorem dX10_isForbidden_6 : decode cX10_isForbidden 6 = .ok (.ifCond .ne 7, 3) := by decide +kernel
theorem dX10_isForbidden_9 : decode cX10_isForbidden 9 = .ok (.iconst 1, 1) := by decide +kernel
theorem dX10_isForbidden_10 : decode cX10_isForbidden 10 = .ok (.goto 17, 3) := by decide +kernel
theorem dX10_isForbidden_13 : decode cX10_isForbidden 13 = .ok (.aload_n 0, 1) := by decide +kernel
theorem dX10_isForbidden_14 : decode cX10_isForbidden 14 = .ok (.iload_n 1, 1) := by decide +kernel
theorem dX10_isForbidden_15 : decode cX10_isForbidden 15 = .ok (.iload_n 2, 1) := by decide +kernel
theorem dX10_isForbidden_16 : decode cX10_isForbidden 16 = .ok (.invokevirtual 231, 3) := by decide +kernel
theorem dX10_isForbidden_19 : decode cX10_isForbidden 19 = .ok (.ifCond .ne 7, 3) := by decide +kernel
theorem dX10_isForbidden_22 : decode cX10_isForbidden 22 = .ok (.iconst 2, 1) := by decide +kernel
theorem dX10_isForbidden_23 : decode cX10_isForbidden 23 = .ok (.goto 4, 3) := by decide +kernel
theorem dX10_isForbidden_26 : decode cX10_isForbidden 26 = .ok (.iconst 0, 1) := by decide +kernel
theorem dX10_isForbidden_27 : decode cX10_isForbidden 27 = .ok (.putfield 117, 3) := by decide +kernel
theorem dX10_isForbidden_30 : decode cX10_isForbidden 30 = .ok (.aload_n 0, 1) := by decide +kernel
theorem dX10_isForbidden_31 : decode cX10_isForbidden 31 = .ok (.getfield 117, 3) := by decide +kernel
theorem dX10_isForbidden_34 : decode cX10_isForbidden 34 = .ok (.ifCond .ne 16, 3) := by decide +kernel
theorem dX10_isForbidden_37 : decode cX10_isForbidden 37 = .ok (.aload_n 0, 1) := by decide +kernel
theorem dX10_isForbidden_38 : decode cX10_isForbidden 38 = .ok (.iload_n 1, 1) := by decide +kernel
theorem dX10_isForbidden_39 : decode cX10_isForbidden 39 = .ok (.iload_n 2, 1) := by decide +kernel
theorem dX10_isForbidden_40 : decode cX10_isForbidden 40 = .ok (.invokevirtual 248, 3) := by decide +kernel
theorem dX10_isForbidden_43 : decode cX10_isForbidden 43 = .ok (.ifCond .eq 7, 3) := by decide +kernel
theorem dX10_isForbidden_46 : decode cX10_isForbidden 46 = .ok (.iconst 1, 1) := by decide +kernel
theorem dX10_isForbidden_47 : decode cX10_isForbidden 47 = .ok (.goto 4, 3) := by decide +kernel
theorem dX10_isForbidden_50 : decode cX10_isForbidden 50 = .ok (.iconst 0, 1) := by decide +kernel
theorem dX10_isForbidden_51 : decode cX10_isForbidden 51 = .ok (.ireturn, 1) := by decide +kernel
theorem dX10_isLocalOptimum_0 : decode cX10_isLocalOptimum 0 = .ok (.aload_n 0, 1) := by decide +kernel
theorem dX10_isLocalOptimum_1 : decode cX10_isLocalOptimum 1 = .ok (.iconst 0, 1) := by decide +kernel
theorem dX10_isLocalOptimum_2 : decode cX10_isLocalOptimum 2 = .ok (.putfield 117, 3) := by decide +kernel
theorem dX10_isLocalOptimum_5 : decode cX10_isLocalOptimum 5 = .ok (.aload_n 0, 1) := by decide +kernel
theorem dX10_isLocalOptimum_6 : decode cX10_isLocalOptimum 6 = .ok (.iconst 1, 1) := by decide +kernel
theorem dX10_isLocalOptimum_7 : decode cX10_isLocalOptimum 7 = .ok (.invokevirtual 266, 3) := by decide +kernel
theorem dX10_isLocalOptimum_10 : decode cX10_isLocalOptimum 10 = .ok (.istore_n 1, 1) := by decide +kernel
theorem dX10_isLocalOptimum_11 : decode cX10_isLocalOptimum 11 = .ok (.iload_n 1, 1) := by decide +kernel
theorem dX10_isLocalOptimum_12 : decode cX10_isLocalOptimum 12 = .ok (.ifCond .lt 16, 3) := by decide +kernel
theorem dX10_isLocalOptimum_15 : decode cX10_isLocalOptimum 15 = .ok (.aload_n 0, 1) := by decide +kernel
theorem dX10_isLocalOptimum_16 : decode cX10_isLocalOptimum 16 = .ok (.getfield 77, 3) := by decide +kernel
theorem dX10_isLocalOptimum_19 : decode cX10_isLocalOptimum 19 = .ok (.iload_n 1, 1) := by decide +kernel
theorem dX10_isLocalOptimum_20 : decode cX10_isLocalOptimum 20 = .ok (.iaload, 1) := by decide +kernel
theorem dX10_isLocalOptimum_21 : decode cX10_isLocalOptimum 21 = .ok (.aload_n 0, 1) := by decide +kernel
theorem dX10_isLocalOptimum_22 : decode cX10_isLocalOptimum 22 = .ok (.getfield 147, 3) := by decide +kernel
theorem dX10_isLocalOptimum_25 : decode cX10_isLocalOptimum 25 = .ok (.if_icmp .lt 7, 3) := by decide +kernel
theorem dX10_isLocalOptimum_28 : decode cX10_isLocalOptimum 28 = .ok (.iconst 1, 1) := by decide +kernel
theorem dX10_isLocalOptimum_29 : decode cX10_isLocalOptimum 29 = .ok (.goto 4, 3) := by decide +kernel
theorem dX10_isLocalOptimum_32 : decode cX10_isLocalOptimum 32 = .ok (.iconst 0, 1) := by decide +kernel
theorem dX10_isLocalOptimum_33 : decode cX10_isLocalOptimum 33 = .ok (.ireturn, 1) := by decide +kernel
theorem dX10_logs_0 : decode cX10_logs 0 = .ok (.aload_n 0, 1) := by decide +kernel
theorem dX10_logs_1 : decode cX10_logs 1 = .ok (.getfield 172, 3) := by decide +kernel
theorem dX10_logs_4 : decode cX10_logs 4 = .ok (.bipush 40, 2) := by decide +kernel
theorem dX10_logs_6 : decode cX10_logs 6 = .ok (.if_icmp .ne 47, 3) := by decide +kernel
theorem dX10_logs_9 : decode cX10_logs 9 = .ok (.aload_n 0, 1) := by decide +kernel
theorem dX10_logs_10 : decode cX10_logs 10 = .ok (.dup, 1) := by decide +kernel
theorem dX10_logs_11 : decode cX10_logs 11 = .ok (.getfield 172, 3) := by decide +kernel
theorem dX10_logs_14 : decode cX10_logs 14 = .ok (.iconst 1, 1) := by decide +kernel
theorem dX10_logs_15 : decode cX10_logs 15 = .ok (.isub, 1) := by decide +kernel
theorem dX10_logs_16 : decode cX10_logs 16 = .ok (.putfield 172, 3) := by decide +kernel
theorem dX10_logs_19 : decode cX10_logs 19 = .ok (.iconst 0, 1) := by decide +kernel
theorem dX10_logs_20 : decode cX10_logs 20 = .ok (.istore_n 2, 1) := by decide +kernel
theorem dX10_logs_21 : decode cX10_logs 21 = .ok (.iload_n 2, 1) := by decide +kernel
theorem dX10_logs_22 : decode cX10_logs 22 = .ok (.bipush 7, 2) := by decide +kernel
theorem dX10_logs_24 : decode cX10_logs 24 = .ok (.aload_n 0, 1) := by decide +kernel
theorem dX10_logs_25 : decode cX10_logs 25 = .ok (.getfield 172, 3) := by decide +kernel
theorem dX10_logs_28 : decode cX10_logs 28 = .ok (.imul, 1) := by decide +kernel
theorem dX10_logs_29 : decode cX10_logs 29 = .ok (.if_icmp .ge 24, 3) := by decide +kernel
theorem dX10_logs_32 : decode cX10_logs 32 = .ok (.aload_n 0, 1) := by decide +kernel
theorem dX10_logs_33 : decode cX10_logs 33 = .ok (.getfield 37, 3) := by decide +kernel
theorem dX10_logs_36 : decode cX10_logs 36 = .ok (.iload_n 2, 1) := by decide +kernel
theorem dX10_logs_37 : decode cX10_logs 37 = .ok (.aload_n 0, 1) := by decide +kernel
theorem dX10_logs_38 : decode cX10_logs 38 = .ok (.getfield 37, 3) := by decide +kernel
theorem dX10_logs_41 : decode cX10_logs 41 = .ok (.iload_n 2, 1) := by decide +kernel
theorem dX10_logs_42 : decode cX10_logs 42 = .ok (.bipush 7, 2) := by decide +kernel
theorem dX10_logs_44 : decode cX10_logs 44 = .ok (.iadd, 1) := by decide +kernel
theorem dX10_logs_45 : decode cX10_logs 45 = .ok (.iaload, 1) := by decide +kernel
theorem dX10_logs_46 : decode cX10_logs 46 = .ok (.iastore, 1) := by decide +kernel
theorem dX10_logs_47 : decode cX10_logs 47 = .ok (.iinc 2 1, 3) := by decide +kernel
theorem dX10_logs_50 : decode cX10_logs 50 = .ok (.goto (-29), 3) := by decide +kernel
theorem dX10_logs_53 : decode cX10_logs 53 = .ok (.bipush 7, 2) := by decide +kernel
theorem dX10_logs_55 : decode cX10_logs 55 = .ok (.aload_n 0, 1) := by decide +kernel
theorem dX10_logs_56 : decode cX10_logs 56 = .ok (.getfield 172, 3) := by decide +kernel
theorem dX10_logs_59 : decode cX10_logs 59 = .ok (.imul, 1) := by decide +kernel
theorem dX10_logs_60 : decode cX10_logs 60 = .ok (.istore_n 2, 1) := by decide +kernel
theorem dX10_logs_61 : decode cX10_logs 61 = .ok (.aload_n 0, 1) := by decide +kernel
theorem dX10_logs_62 : decode cX10_logs 62 = .ok (.getfield 37, 3) := by decide +kernel
theorem dX10_logs_65 : decode cX10_logs 65 = .ok (.iload_n 2, 1) := by decide +kernel
theorem dX10_logs_66 : decode cX10_logs 66 = .ok (.aload_n 0, 1) := by decide +kernel
theorem dX10_logs_67 : decode cX10_logs 67 = .ok (.getfield 65, 3) := by decide +kernel
theorem dX10_logs_70 : decode cX10_logs 70 = .ok (.iload_n 1, 1) := by decide +kernel
theorem dX10_logs_71 : decode cX10_logs 71 = .ok (.iaload, 1) := by decide +kernel
theorem dX10_logs_72 : decode cX10_logs 72 = .ok (.iastore, 1) := by decide +kernel
theorem dX10_logs_73 : decode cX10_logs 73 = .ok (.aload_n 0, 1) := by decide +kernel
theorem dX10_logs_74 : decode cX10_logs 74 = .ok (.getfield 37, 3) := by decide +kernel
theorem dX10_logs_77 : decode cX10_logs 77 = .ok (.iload_n 2, 1) := by decide +kernel
theorem dX10_logs_78 : decode cX10_logs 78 = .ok (.iconst 1, 1) := by decide +kernel
theorem dX10_logs_79 : decode cX10_logs 79 = .ok (.iadd, 1) := by decide +kernel
theorem dX10_logs_80 : decode cX10_logs 80 = .ok (.aload_n 0, 1) := by decide +kernel
theorem dX10_logs_81 : decode cX10_logs 81 = .ok (.getfield 68, 3) := by decide +kernel
theorem dX10_logs_84 : decode cX10_logs 84 = .ok (.iload_n 1, 1) := by decide +kernel
theorem dX10_logs_85 : decode cX10_logs 85 = .ok (.iaload, 1) := by decide +kernel
theorem dX10_logs_86 : decode cX10_logs 86 = .ok (.iastore, 1) := by decide +kernel
theorem dX10_logs_87 : decode cX10_logs 87 = .ok (.aload_n 0, 1) := by decide +kernel
theorem dX10_logs_88 : decode cX10_logs 88 = .ok (.getfield 37, 3) := by decide +kernel
theorem dX10_logs_91 : decode cX10_logs 91 = .ok (.iload_n 2, 1) := by decide +kernel
theorem dX10_logs_92 : decode cX10_logs 92 = .ok (.iconst 2, 1) := by decide +kernel
theorem dX10_logs_93 : decode cX10_logs 93 = .ok (.iadd, 1) := by decide +kernel
theorem dX10_logs_94 : decode cX10_logs 94 = .ok (.aload_n 0, 1) := by decide +kernel
theorem dX10_logs_95 : decode cX10_logs 95 = .ok (.getfield 71, 3) := by decide +kernel
theorem dX10_logs_98 : decode cX10_logs 98 = .ok (.iload_n 1, 1) := by decide +kernel
theorem dX10_logs_99 : decode cX10_logs 99 = .ok (.iaload, 1) := by decide +kernel
theorem dX10_logs_100 : decode cX10_logs 100 = .ok (.iastore, 1) := by decide +kernel
theorem dX10_logs_101 : decode cX10_logs 101 = .ok (.aload_n 0, 1) := by decide +kernel
theorem dX10_logs_102 : decode cX10_logs 102 = .ok (.getfield 37, 3) := by decide +kernel
theorem dX10_logs_105 : decode cX10_logs 105 = .ok (.iload_n 2, 1) := by decide +kernel
theorem dX10_logs_106 : decode cX10_logs 106 = .ok (.iconst 3, 1) := by decide +kernel
theorem dX10_logs_107 : decode cX10_logs 107 = .ok (.iadd, 1) := by decide +kernel
theorem dX10_logs_108 : decode cX10_logs 108 = .ok (.aload_n 0, 1) := by decide +kernel
theorem dX10_logs_109 : decode cX10_logs 109 = .ok (.getfield 74, 3) := by decide +kernel
theorem dX10_logs_112 : decode cX10_logs 112 = .ok (.iload_n 1, 1) := by decide +kernel
theorem dX10_logs_113 : decode cX10_logs 113 = .ok (.iaload, 1) := by decide +kernel
theorem dX10_logs_114 : decode cX10_logs 114 = .ok (.iastore, 1) := by decide +kernel
theorem dX10_logs_115 : decode cX10_logs 115 = .ok (.aload_n 0, 1) := by decide +kernel
theorem dX10_logs_116 : decode cX10_logs 116 = .ok (.getfield 37, 3) := by decide +kernel
theorem dX10_logs_119 : decode cX10_logs 119 = .ok (.iload_n 2, 1) := by decide +kernel
theorem dX10_logs_120 : decode cX10_logs 120 = .ok (.iconst 4, 1) := by decide +kernel
theorem dX10_logs_121 : decode cX10_logs 121 = .ok (.iadd, 1) := by decide +kernel
theorem dX10_logs_122 : decode cX10_logs 122 = .ok (.aload_n 0, 1) := by decide +kernel
theorem dX10_logs_123 : decode cX10_logs 123 = .ok (.getfield 77, 3) := by decide +kernel
theorem dX10_logs_126 : decode cX10_logs 126 = .ok (.iload_n 1, 1) := by decide +kernel
theorem dX10_logs_127 : decode cX10_logs 127 = .ok (.iaload, 1) := by decide +kernel
theorem dX10_logs_128 : decode cX10_logs 128 = .ok (.iastore, 1) := by decide +kernel
theorem dX10_logs_129 : decode cX10_logs 129 = .ok (.aload_n 0, 1) := by decide +kernel
theorem dX10_logs_130 : decode cX10_logs 130 = .ok (.getfield 37, 3) := by decide +kernel
theorem dX10_logs_133 : decode cX10_logs 133 = .ok (.iload_n 2, 1) := by decide +kernel
theorem dX10_logs_134 : decode cX10_logs 134 = .ok (.iconst 5, 1) := by decide +kernel
theorem dX10_logs_135 : decode cX10_logs 135 = .ok (.iadd, 1) := by decide +kernel
theorem dX10_logs_136 : decode cX10_logs 136 = .ok (.aload_n 0, 1) := by decide +kernel
theorem dX10_logs_137 : decode cX10_logs 137 = .ok (.getfield 153, 3) := by decide +kernel
theorem dX10_logs_140 : decode cX10_logs 140 = .ok (.iastore, 1) := by decide +kernel
theorem dX10_logs_141 : decode cX10_logs 141 = .ok (.aload_n 0, 1) := by decide +kernel
theorem dX10_logs_142 : decode cX10_logs 142 = .ok (.getfield 37, 3) := by decide +kernel
theorem dX10_logs_145 : decode cX10_logs 145 = .ok (.iload_n 2, 1) := by decide +kernel
theorem dX10_logs_146 : decode cX10_logs 146 = .ok (.bipush 6, 2) := by decide +kernel
theorem dX10_logs_148 : decode cX10_logs 148 = .ok (.iadd, 1) := by decide +kernel
theorem dX10_logs_149 : decode cX10_logs 149 = .ok (.aload_n 0, 1) := by decide +kernel
theorem dX10_logs_150 : decode cX10_logs 150 = .ok (.getfield 147, 3) := by decide +kernel
theorem dX10_logs_153 : decode cX10_logs 153 = .ok (.iastore, 1) := by decide +kernel
theorem dX10_logs_154 : decode cX10_logs 154 = .ok (.aload_n 0, 1) := by decide +kernel
theorem dX10_logs_155 : decode cX10_logs 155 = .ok (.dup, 1) := by decide +kernel
theorem dX10_logs_156 : decode cX10_logs 156 = .ok (.getfield 172, 3) := by decide +kernel
theorem dX10_logs_159 : decode cX10_logs 159 = .ok (.iconst 1, 1) := by decide +kernel
theorem dX10_logs_160 : decode cX10_logs 160 = .ok (.iadd, 1) := by decide +kernel
theorem dX10_logs_161 : decode cX10_logs 161 = .ok (.putfield 172, 3) := by decide +kernel
theorem dX10_logs_164 : decode cX10_logs 164 = .ok (.return_, 1) := by decide +kernel
theorem dX10_takesMove_0 : decode cX10_takesMove 0 = .ok (.aload_n 0, 1) := by decide +kernel
theorem dX10_takesMove_1 : decode cX10_takesMove 1 = .ok (.aload_n 0, 1) := by decide +kernel
theorem dX10_takesMove_2 : decode cX10_takesMove 2 = .ok (.getfield 65, 3) := by decide +kernel
theorem dX10_takesMove_5 : decode cX10_takesMove 5 = .ok (.iload_n 1, 1) := by decide +kernel
theorem dX10_takesMove_6 : decode cX10_takesMove 6 = .ok (.iaload, 1) := by decide +kernel
theorem dX10_takesMove_7 : decode cX10_takesMove 7 = .ok (.aload_n 0, 1) := by decide +kernel
theorem dX10_takesMove_8 : decode cX10_takesMove 8 = .ok (.getfield 68, 3) := by decide +kernel
theorem dX10_takesMove_11 : decode cX10_takesMove 11 = .ok (.iload_n 1, 1) := by decide +kernel
theorem dX10_takesMove_12 : decode cX10_takesMove 12 = .ok (.iaload, 1) := by decide +kernel
theorem dX10_takesMove_13 : decode cX10_takesMove 13 = .ok (.aload_n 0, 1) := by decide +kernel
theorem dX10_takesMove_14 : decode cX10_takesMove 14 = .ok (.getfield 71, 3) := by decide +kernel
theorem dX10_takesMove_17 : decode cX10_takesMove 17 = .ok (.iload_n 1, 1) := by decide +kernel
theorem dX10_takesMove_18 : decode cX10_takesMove 18 = .ok (.iaload, 1) := by decide +kernel
theorem dX10_takesMove_19 : decode cX10_takesMove 19 = .ok (.aload_n 0, 1) := by decide +kernel
theorem dX10_takesMove_20 : decode cX10_takesMove 20 = .ok (.getfield 74, 3) := by decide +kernel
theorem dX10_takesMove_23 : decode cX10_takesMove 23 = .ok (.iload_n 1, 1) := by decide +kernel
theorem dX10_takesMove_24 : decode cX10_takesMove 24 = .ok (.iaload, 1) := by decide +kernel
theorem dX10_takesMove_25 : decode cX10_takesMove 25 = .ok (.invokevirtual 242, 3) := by decide +kernel
theorem dX10_takesMove_28 : decode cX10_takesMove 28 = .ok (.iconst 0, 1) := by decide +kernel
theorem dX10_takesMove_29 : decode cX10_takesMove 29 = .ok (.istore_n 2, 1) := by decide +kernel
theorem dX10_takesMove_30 : decode cX10_takesMove 30 = .ok (.iload_n 2, 1) := by decide +kernel
theorem dX10_takesMove_31 : decode cX10_takesMove 31 = .ok (.aload_n 0, 1) := by decide +kernel
theorem dX10_takesMove_32 : decode cX10_takesMove 32 = .ok (.getfield 120, 3) := by decide +kernel
theorem dX10_takesMove_35 : decode cX10_takesMove 35 = .ok (.if_icmp .ge 21, 3) := by decide +kernel
theorem dX10_takesMove_38 : decode cX10_takesMove 38 = .ok (.aload_n 0, 1) := by decide +kernel
theorem dX10_takesMove_39 : decode cX10_takesMove 39 = .ok (.getfield 13, 3) := by decide +kernel
theorem dX10_takesMove_42 : decode cX10_takesMove 42 = .ok (.iload_n 2, 1) := by decide +kernel
theorem dX10_takesMove_43 : decode cX10_takesMove 43 = .ok (.aload_n 0, 1) := by decide +kernel
theorem dX10_takesMove_44 : decode cX10_takesMove 44 = .ok (.getfield 80, 3) := by decide +kernel
theorem dX10_takesMove_47 : decode cX10_takesMove 47 = .ok (.iload_n 2, 1) := by decide +kernel
theorem dX10_takesMove_48 : decode cX10_takesMove 48 = .ok (.iaload, 1) := by decide +kernel
theorem dX10_takesMove_49 : decode cX10_takesMove 49 = .ok (.iastore, 1) := by decide +kernel
theorem dX10_takesMove_50 : decode cX10_takesMove 50 = .ok (.iinc 2 1, 3) := by decide +kernel
theorem dX10_takesMove_53 : decode cX10_takesMove 53 = .ok (.goto (-23), 3) := by decide +kernel
theorem dX10_takesMove_56 : decode cX10_takesMove 56 = .ok (.aload_n 0, 1) := by decide +kernel
theorem dX10_takesMove_57 : decode cX10_takesMove 57 = .ok (.invokevirtual 270, 3) := by decide +kernel
theorem dX10_takesMove_60 : decode cX10_takesMove 60 = .ok (.return_, 1) := by decide +kernel
theorem dX10_restarts_0 : decode cX10_restarts 0 = .ok (.iconst 0, 1) := by decide +kernel
theorem dX10_restarts_1 : decode cX10_restarts 1 = .ok (.istore_n 1, 1) := by decide +kernel
theorem dX10_restarts_2 : decode cX10_restarts 2 = .ok (.iload_n 1, 1) := by decide +kernel
theorem dX10_restarts_3 : decode cX10_restarts 3 = .ok (.aload_n 0, 1) := by decide +kernel
theorem dX10_restarts_4 : decode cX10_restarts 4 = .ok (.getfield 120, 3) := by decide +kernel
theorem dX10_restarts_7 : decode cX10_restarts 7 = .ok (.if_icmp .ge 48, 3) := by decide +kernel
theorem dX10_restarts_10 : decode cX10_restarts 10 = .ok (.aload_n 0, 1) := by decide +kernel
theorem dX10_restarts_11 : decode cX10_restarts 11 = .ok (.aload_n 0, 1) := by decide +kernel
theorem dX10_restarts_12 : decode cX10_restarts 12 = .ok (.getfield 50, 3) := by decide +kernel
theorem dX10_restarts_15 : decode cX10_restarts 15 = .ok (.ldc_w 273, 3) := by decide +kernel
theorem dX10_restarts_18 : decode cX10_restarts 18 = .ok (.imul, 1) := by decide +kernel
theorem dX10_restarts_19 : decode cX10_restarts 19 = .ok (.sipush 12345, 3) := by decide +kernel
theorem dX10_restarts_22 : decode cX10_restarts 22 = .ok (.iadd, 1) := by decide +kernel
theorem dX10_restarts_23 : decode cX10_restarts 23 = .ok (.ldc 241, 2) := by decide +kernel
theorem dX10_restarts_25 : decode cX10_restarts 25 = .ok (.iand, 1) := by decide +kernel
theorem dX10_restarts_26 : decode cX10_restarts 26 = .ok (.putfield 50, 3) := by decide +kernel
theorem dX10_restarts_29 : decode cX10_restarts 29 = .ok (.aload_n 0, 1) := by decide +kernel
theorem dX10_restarts_30 : decode cX10_restarts 30 = .ok (.getfield 13, 3) := by decide +kernel
theorem dX10_restarts_33 : decode cX10_restarts 33 = .ok (.iload_n 1, 1) := by decide +kernel
theorem dX10_restarts_34 : decode cX10_restarts 34 = .ok (.aload_n 0, 1) := by decide +kernel
theorem dX10_restarts_35 : decode cX10_restarts 35 = .ok (.getfield 50, 3) := by decide +kernel
theorem dX10_restarts_38 : decode cX10_restarts 38 = .ok (.bipush 16, 2) := by decide +kernel
theorem dX10_restarts_40 : decode cX10_restarts 40 = .ok (.ishr, 1) := by decide +kernel
theorem dX10_restarts_41 : decode cX10_restarts 41 = .ok (.aload_n 0, 1) := by decide +kernel
theorem dX10_restarts_42 : decode cX10_restarts 42 = .ok (.getfield 7, 3) := by decide +kernel
theorem dX10_restarts_45 : decode cX10_restarts 45 = .ok (.iload_n 1, 1) := by decide +kernel
theorem dX10_restarts_46 : decode cX10_restarts 46 = .ok (.iaload, 1) := by decide +kernel
theorem dX10_restarts_47 : decode cX10_restarts 47 = .ok (.irem, 1) := by decide +kernel
theorem dX10_restarts_48 : decode cX10_restarts 48 = .ok (.iastore, 1) := by decide +kernel
theorem dX10_restarts_49 : decode cX10_restarts 49 = .ok (.iinc 1 1, 3) := by decide +kernel
theorem dX10_restarts_52 : decode cX10_restarts 52 = .ok (.goto (-50), 3) := by decide +kernel
theorem dX10_restarts_55 : decode cX10_restarts 55 = .ok (.aload_n 0, 1) := by decide +kernel
theorem dX10_restarts_56 : decode cX10_restarts 56 = .ok (.invokevirtual 175, 3) := by decide +kernel
theorem dX10_restarts_59 : decode cX10_restarts 59 = .ok (.aload_n 0, 1) := by decide +kernel
theorem dX10_restarts_60 : decode cX10_restarts 60 = .ok (.iconst 0, 1) := by decide +kernel
theorem dX10_restarts_61 : decode cX10_restarts 61 = .ok (.putfield 166, 3) := by decide +kernel
theorem dX10_restarts_64 : decode cX10_restarts 64 = .ok (.aload_n 0, 1) := by decide +kernel
theorem dX10_restarts_65 : decode cX10_restarts 65 = .ok (.dup, 1) := by decide +kernel
theorem dX10_restarts_66 : decode cX10_restarts 66 = .ok (.getfield 169, 3) := by decide +kernel
theorem dX10_restarts_69 : decode cX10_restarts 69 = .ok (.iconst 1, 1) := by decide +kernel
theorem dX10_restarts_70 : decode cX10_restarts 70 = .ok (.iadd, 1) := by decide +kernel
theorem dX10_restarts_71 : decode cX10_restarts 71 = .ok (.putfield 169, 3) := by decide +kernel
theorem dX10_restarts_74 : decode cX10_restarts 74 = .ok (.aload_n 0, 1) := by decide +kernel
theorem dX10_restarts_75 : decode cX10_restarts 75 = .ok (.invokevirtual 270, 3) := by decide +kernel
theorem dX10_restarts_78 : decode cX10_restarts 78 = .ok (.return_, 1) := by decide +kernel
theorem dX10_steps_0 : decode cX10_steps 0 = .ok (.aload_n 0, 1) := by decide +kernel
theorem dX10_steps_1 : decode cX10_steps 1 = .ok (.iconst 0, 1) := by decide +kernel
theorem dX10_steps_2 : decode cX10_steps 2 = .ok (.invokevirtual 266, 3) := by decide +kernel
theorem dX10_steps_5 : decode cX10_steps 5 = .ok (.istore_n 1, 1) := by decide +kernel
theorem dX10_steps_6 : decode cX10_steps 6 = .ok (.iload_n 1, 1) := by decide +kernel
theorem dX10_steps_7 : decode cX10_steps 7 = .ok (.ifCond .ge 5, 3) := by decide +kernel
theorem dX10_steps_10 : decode cX10_steps 10 = .ok (.iconst 0, 1) := by decide +kernel
theorem dX10_steps_11 : decode cX10_steps 11 = .ok (.ireturn, 1) := by decide +kernel
theorem dX10_steps_12 : decode cX10_steps 12 = .ok (.aload_n 0, 1) := by decide +kernel
theorem dX10_steps_13 : decode cX10_steps 13 = .ok (.dup, 1) := by decide +kernel
theorem dX10_steps_14 : decode cX10_steps 14 = .ok (.getfield 153, 3) := by decide +kernel
theorem dX10_steps_17 : decode cX10_steps 17 = .ok (.iconst 1, 1) := by decide +kernel
theorem dX10_steps_18 : decode cX10_steps 18 = .ok (.iadd, 1) := by decide +kernel
theorem dX10_steps_19 : decode cX10_steps 19 = .ok (.putfield 153, 3) := by decide +kernel
theorem dX10_steps_22 : decode cX10_steps 22 = .ok (.aload_n 0, 1) := by decide +kernel
theorem dX10_steps_23 : decode cX10_steps 23 = .ok (.iload_n 1, 1) := by decide +kernel
theorem dX10_steps_24 : decode cX10_steps 24 = .ok (.invokevirtual 274, 3) := by decide +kernel
theorem dX10_steps_27 : decode cX10_steps 27 = .ok (.aload_n 0, 1) := by decide +kernel
theorem dX10_steps_28 : decode cX10_steps 28 = .ok (.aload_n 0, 1) := by decide +kernel
theorem dX10_steps_29 : decode cX10_steps 29 = .ok (.getfield 65, 3) := by decide +kernel
theorem dX10_steps_32 : decode cX10_steps 32 = .ok (.iload_n 1, 1) := by decide +kernel
theorem dX10_steps_33 : decode cX10_steps 33 = .ok (.iaload, 1) := by decide +kernel
theorem dX10_steps_34 : decode cX10_steps 34 = .ok (.aload_n 0, 1) := by decide +kernel
theorem dX10_steps_35 : decode cX10_steps 35 = .ok (.getfield 68, 3) := by decide +kernel
theorem dX10_steps_38 : decode cX10_steps 38 = .ok (.iload_n 1, 1) := by decide +kernel
theorem dX10_steps_39 : decode cX10_steps 39 = .ok (.iaload, 1) := by decide +kernel
theorem dX10_steps_40 : decode cX10_steps 40 = .ok (.aload_n 0, 1) := by decide +kernel
theorem dX10_steps_41 : decode cX10_steps 41 = .ok (.getfield 71, 3) := by decide +kernel
theorem dX10_steps_44 : decode cX10_steps 44 = .ok (.iload_n 1, 1) := by decide +kernel
theorem dX10_steps_45 : decode cX10_steps 45 = .ok (.iaload, 1) := by decide +kernel
theorem dX10_steps_46 : decode cX10_steps 46 = .ok (.aload_n 0, 1) := by decide +kernel
theorem dX10_steps_47 : decode cX10_steps 47 = .ok (.getfield 74, 3) := by decide +kernel
theorem dX10_steps_50 : decode cX10_steps 50 = .ok (.iload_n 1, 1) := by decide +kernel
theorem dX10_steps_51 : decode cX10_steps 51 = .ok (.iaload, 1) := by decide +kernel
theorem dX10_steps_52 : decode cX10_steps 52 = .ok (.invokevirtual 242, 3) := by decide +kernel
theorem dX10_steps_55 : decode cX10_steps 55 = .ok (.iconst 0, 1) := by decide +kernel
theorem dX10_steps_56 : decode cX10_steps 56 = .ok (.istore_n 2, 1) := by decide +kernel
theorem dX10_steps_57 : decode cX10_steps 57 = .ok (.iload_n 2, 1) := by decide +kernel
theorem dX10_steps_58 : decode cX10_steps 58 = .ok (.aload_n 0, 1) := by decide +kernel
theorem dX10_steps_59 : decode cX10_steps 59 = .ok (.getfield 120, 3) := by decide +kernel
theorem dX10_steps_62 : decode cX10_steps 62 = .ok (.if_icmp .ge 69, 3) := by decide +kernel
theorem dX10_steps_65 : decode cX10_steps 65 = .ok (.bipush 8, 2) := by decide +kernel
theorem dX10_steps_67 : decode cX10_steps 67 = .ok (.iload_n 2, 1) := by decide +kernel
theorem dX10_steps_68 : decode cX10_steps 68 = .ok (.imul, 1) := by decide +kernel
theorem dX10_steps_69 : decode cX10_steps 69 = .ok (.aload_n 0, 1) := by decide +kernel
theorem dX10_steps_70 : decode cX10_steps 70 = .ok (.getfield 13, 3) := by decide +kernel
theorem dX10_steps_73 : decode cX10_steps 73 = .ok (.iload_n 2, 1) := by decide +kernel
theorem dX10_steps_74 : decode cX10_steps 74 = .ok (.iaload, 1) := by decide +kernel
theorem dX10_steps_75 : decode cX10_steps 75 = .ok (.iadd, 1) := by decide +kernel
theorem dX10_steps_76 : decode cX10_steps 76 = .ok (.istore_n 3, 1) := by decide +kernel
theorem dX10_steps_77 : decode cX10_steps 77 = .ok (.aload_n 0, 1) := by decide +kernel
theorem dX10_steps_78 : decode cX10_steps 78 = .ok (.getfield 80, 3) := by decide +kernel
theorem dX10_steps_81 : decode cX10_steps 81 = .ok (.iload_n 2, 1) := by decide +kernel
theorem dX10_steps_82 : decode cX10_steps 82 = .ok (.iaload, 1) := by decide +kernel
theorem dX10_steps_83 : decode cX10_steps 83 = .ok (.aload_n 0, 1) := by decide +kernel
theorem dX10_steps_84 : decode cX10_steps 84 = .ok (.getfield 13, 3) := by decide +kernel
theorem dX10_steps_87 : decode cX10_steps 87 = .ok (.iload_n 2, 1) := by decide +kernel
theorem dX10_steps_88 : decode cX10_steps 88 = .ok (.iaload, 1) := by decide +kernel
theorem dX10_steps_89 : decode cX10_steps 89 = .ok (.if_icmp .eq 36, 3) := by decide +kernel
theorem dX10_steps_92 : decode cX10_steps 92 = .ok (.aload_n 0, 1) := by decide +kernel
theorem dX10_steps_93 : decode cX10_steps 93 = .ok (.getfield 153, 3) := by decide +kernel
theorem dX10_steps_96 : decode cX10_steps 96 = .ok (.aload_n 0, 1) := by decide +kernel
theorem dX10_steps_97 : decode cX10_steps 97 = .ok (.getfield 44, 3) := by decide +kernel
theorem dX10_steps_100 : decode cX10_steps 100 = .ok (.iadd, 1) := by decide +kernel
theorem dX10_steps_101 : decode cX10_steps 101 = .ok (.aload_n 0, 1) := by decide +kernel
theorem dX10_steps_102 : decode cX10_steps 102 = .ok (.getfield 34, 3) := by decide +kernel
theorem dX10_steps_105 : decode cX10_steps 105 = .ok (.iload_n 3, 1) := by decide +kernel
theorem dX10_steps_106 : decode cX10_steps 106 = .ok (.iaload, 1) := by decide +kernel
theorem dX10_steps_107 : decode cX10_steps 107 = .ok (.if_icmp .le 18, 3) := by decide +kernel
theorem dX10_steps_110 : decode cX10_steps 110 = .ok (.aload_n 0, 1) := by decide +kernel
theorem dX10_steps_111 : decode cX10_steps 111 = .ok (.getfield 34, 3) := by decide +kernel
theorem dX10_steps_114 : decode cX10_steps 114 = .ok (.iload_n 3, 1) := by decide +kernel
theorem dX10_steps_115 : decode cX10_steps 115 = .ok (.aload_n 0, 1) := by decide +kernel
theorem dX10_steps_116 : decode cX10_steps 116 = .ok (.getfield 153, 3) := by decide +kernel
theorem dX10_steps_119 : decode cX10_steps 119 = .ok (.aload_n 0, 1) := by decide +kernel
theorem dX10_steps_120 : decode cX10_steps 120 = .ok (.getfield 44, 3) := by decide +kernel
theorem dX10_steps_123 : decode cX10_steps 123 = .ok (.iadd, 1) := by decide +kernel
theorem dX10_steps_124 : decode cX10_steps 124 = .ok (.iastore, 1) := by decide +kernel
theorem dX10_steps_125 : decode cX10_steps 125 = .ok (.iinc 2 1, 3) := by decide +kernel
theorem dX10_steps_128 : decode cX10_steps 128 = .ok (.goto (-71), 3) := by decide +kernel
theorem dX10_steps_131 : decode cX10_steps 131 = .ok (.aload_n 0, 1) := by decide +kernel
theorem dX10_steps_132 : decode cX10_steps 132 = .ok (.getfield 150, 3) := by decide +kernel
theorem dX10_steps_135 : decode cX10_steps 135 = .ok (.istore_n 2, 1) := by decide +kernel
theorem dX10_steps_136 : decode cX10_steps 136 = .ok (.aload_n 0, 1) := by decide +kernel
theorem dX10_steps_137 : decode cX10_steps 137 = .ok (.iload_n 1, 1) := by decide +kernel
theorem dX10_steps_138 : decode cX10_steps 138 = .ok (.invokevirtual 277, 3) := by decide +kernel
theorem dX10_steps_141 : decode cX10_steps 141 = .ok (.aload_n 0, 1) := by decide +kernel
theorem dX10_steps_142 : decode cX10_steps 142 = .ok (.aload_n 0, 1) := by decide +kernel
theorem dX10_steps_143 : decode cX10_steps 143 = .ok (.getfield 150, 3) := by decide +kernel
theorem dX10_steps_146 : decode cX10_steps 146 = .ok (.iload_n 2, 1) := by decide +kernel
theorem dX10_steps_147 : decode cX10_steps 147 = .ok (.if_icmp .ge 7, 3) := by decide +kernel
theorem dX10_steps_150 : decode cX10_steps 150 = .ok (.iconst 0, 1) := by decide +kernel
theorem dX10_steps_151 : decode cX10_steps 151 = .ok (.goto 9, 3) := by decide +kernel
theorem dX10_steps_154 : decode cX10_steps 154 = .ok (.aload_n 0, 1) := by decide +kernel
theorem dX10_steps_155 : decode cX10_steps 155 = .ok (.getfield 166, 3) := by decide +kernel
theorem dX10_steps_158 : decode cX10_steps 158 = .ok (.iconst 1, 1) := by decide +kernel
theorem dX10_steps_159 : decode cX10_steps 159 = .ok (.iadd, 1) := by decide +kernel
theorem dX10_steps_160 : decode cX10_steps 160 = .ok (.putfield 166, 3) := by decide +kernel
theorem dX10_steps_163 : decode cX10_steps 163 = .ok (.aload_n 0, 1) := by decide +kernel
theorem dX10_steps_164 : decode cX10_steps 164 = .ok (.getfield 166, 3) := by decide +kernel
theorem dX10_steps_167 : decode cX10_steps 167 = .ok (.aload_n 0, 1) := by decide +kernel
theorem dX10_steps_168 : decode cX10_steps 168 = .ok (.getfield 47, 3) := by decide +kernel
theorem dX10_steps_171 : decode cX10_steps 171 = .ok (.if_icmp .lt 7, 3) := by decide +kernel
theorem dX10_steps_174 : decode cX10_steps 174 = .ok (.aload_n 0, 1) := by decide +kernel
theorem dX10_steps_175 : decode cX10_steps 175 = .ok (.invokevirtual 280, 3) := by decide +kernel
theorem dX10_steps_178 : decode cX10_steps 178 = .ok (.iconst 1, 1) := by decide +kernel
theorem dX10_steps_179 : decode cX10_steps 179 = .ok (.ireturn, 1) := by decide +kernel
theorem dX10_step_0 : decode cX10_step 0 = .ok (.aload_n 0, 1) := by decide +kernel
theorem dX10_step_1 : decode cX10_step 1 = .ok (.invokevirtual 282, 3) := by decide +kernel
theorem dX10_step_4 : decode cX10_step 4 = .ok (.ifCond .ne 9, 3) := by decide +kernel
theorem dX10_step_7 : decode cX10_step 7 = .ok (.aload_n 0, 1) := by decide +kernel
theorem dX10_step_8 : decode cX10_step 8 = .ok (.iconst 1, 1) := by decide +kernel
theorem dX10_step_9 : decode cX10_step 9 = .ok (.invokevirtual 203, 3) := by decide +kernel
theorem dX10_step_12 : decode cX10_step 12 = .ok (.ireturn, 1) := by decide +kernel
theorem dX10_step_13 : decode cX10_step 13 = .ok (.aload_n 0, 1) := by decide +kernel
theorem dX10_step_14 : decode cX10_step 14 = .ok (.iconst 0, 1) := by decide +kernel
theorem dX10_step_15 : decode cX10_step 15 = .ok (.putfield 117, 3) := by decide +kernel
theorem dX10_step_18 : decode cX10_step 18 = .ok (.aload_n 0, 1) := by decide +kernel
theorem dX10_step_19 : decode cX10_step 19 = .ok (.getfield 147, 3) := by decide +kernel
theorem dX10_step_22 : decode cX10_step 22 = .ok (.ireturn, 1) := by decide +kernel
theorem dX10_run_0 : decode cX10_run 0 = .ok (.iload_n 1, 1) := by decide +kernel
theorem dX10_run_1 : decode cX10_run 1 = .ok (.iconst 1, 1) := by decide +kernel
theorem dX10_run_2 : decode cX10_run 2 = .ok (.bipush 30, 2) := by decide +kernel
theorem dX10_run_4 : decode cX10_run 4 = .ok (.invokestatic 199, 3) := by decide +kernel
theorem dX10_run_7 : decode cX10_run 7 = .ok (.ifCond .ne 9, 3) := by decide +kernel
theorem dX10_run_10 : decode cX10_run 10 = .ok (.aload_n 0, 1) := by decide +kernel
theorem dX10_run_11 : decode cX10_run 11 = .ok (.iconst 1, 1) := by decide +kernel
theorem dX10_run_12 : decode cX10_run 12 = .ok (.invokevirtual 203, 3) := by decide +kernel
theorem dX10_run_15 : decode cX10_run 15 = .ok (.ireturn, 1) := by decide +kernel
theorem dX10_run_16 : decode cX10_run 16 = .ok (.aload_n 0, 1) := by decide +kernel
theorem dX10_run_17 : decode cX10_run 17 = .ok (.iconst 0, 1) := by decide +kernel
theorem dX10_run_18 : decode cX10_run 18 = .ok (.putfield 117, 3) := by decide +kernel
theorem dX10_run_21 : decode cX10_run 21 = .ok (.iconst 0, 1) := by decide +kernel
theorem dX10_run_22 : decode cX10_run 22 = .ok (.istore_n 2, 1) := by decide +kernel
theorem dX10_run_23 : decode cX10_run 23 = .ok (.iload_n 2, 1) := by decide +kernel
theorem dX10_run_24 : decode cX10_run 24 = .ok (.iload_n 1, 1) := by decide +kernel
theorem dX10_run_25 : decode cX10_run 25 = .ok (.if_icmp .ge 23, 3) := by decide +kernel
theorem dX10_run_28 : decode cX10_run 28 = .ok (.aload_n 0, 1) := by decide +kernel
theorem dX10_run_29 : decode cX10_run 29 = .ok (.getfield 147, 3) := by decide +kernel
theorem dX10_run_32 : decode cX10_run 32 = .ok (.ifCond .le 16, 3) := by decide +kernel
theorem dX10_run_35 : decode cX10_run 35 = .ok (.aload_n 0, 1) := by decide +kernel
theorem dX10_run_36 : decode cX10_run 36 = .ok (.invokevirtual 282, 3) := by decide +kernel
theorem dX10_run_39 : decode cX10_run 39 = .ok (.ifCond .eq 9, 3) := by decide +kernel
theorem dX10_run_42 : decode cX10_run 42 = .ok (.iinc 2 1, 3) := by decide +kernel
theorem dX10_run_45 : decode cX10_run 45 = .ok (.goto (-22), 3) := by decide +kernel
theorem dX10_run_48 : decode cX10_run 48 = .ok (.iload_n 2, 1) := by decide +kernel
theorem dX10_run_49 : decode cX10_run 49 = .ok (.ireturn, 1) := by decide +kernel
theorem dX10_descend_0 : decode cX10_descend 0 = .ok (.aload_n 0, 1) := by decide +kernel
theorem dX10_descend_1 : decode cX10_descend 1 = .ok (.iconst 0, 1) := by decide +kernel
theorem dX10_descend_2 : decode cX10_descend 2 = .ok (.putfield 117, 3) := by decide +kernel
theorem dX10_descend_5 : decode cX10_descend 5 = .ok (.iconst 0, 1) := by decide +kernel
theorem dX10_descend_6 : decode cX10_descend 6 = .ok (.istore_n 1, 1) := by decide +kernel
theorem dX10_descend_7 : decode cX10_descend 7 = .ok (.aload_n 0, 1) := by decide +kernel
theorem dX10_descend_8 : decode cX10_descend 8 = .ok (.iconst 1, 1) := by decide +kernel
theorem dX10_descend_9 : decode cX10_descend 9 = .ok (.invokevirtual 266, 3) := by decide +kernel
theorem dX10_descend_12 : decode cX10_descend 12 = .ok (.istore_n 2, 1) := by decide +kernel
theorem dX10_descend_13 : decode cX10_descend 13 = .ok (.iload_n 2, 1) := by decide +kernel
theorem dX10_descend_14 : decode cX10_descend 14 = .ok (.ifCond .lt 33, 3) := by decide +kernel
theorem dX10_descend_17 : decode cX10_descend 17 = .ok (.aload_n 0, 1) := by decide +kernel
theorem dX10_descend_18 : decode cX10_descend 18 = .ok (.getfield 77, 3) := by decide +kernel
theorem dX10_descend_21 : decode cX10_descend 21 = .ok (.iload_n 2, 1) := by decide +kernel
theorem dX10_descend_22 : decode cX10_descend 22 = .ok (.iaload, 1) := by decide +kernel
theorem dX10_descend_23 : decode cX10_descend 23 = .ok (.aload_n 0, 1) := by decide +kernel
theorem dX10_descend_24 : decode cX10_descend 24 = .ok (.getfield 147, 3) := by decide +kernel
theorem dX10_descend_27 : decode cX10_descend 27 = .ok (.if_icmp .ge 20, 3) := by decide +kernel
theorem dX10_descend_30 : decode cX10_descend 30 = .ok (.aload_n 0, 1) := by decide +kernel
theorem dX10_descend_31 : decode cX10_descend 31 = .ok (.iload_n 2, 1) := by decide +kernel
theorem dX10_descend_32 : decode cX10_descend 32 = .ok (.invokevirtual 277, 3) := by decide +kernel
theorem dX10_descend_35 : decode cX10_descend 35 = .ok (.iinc 1 1, 3) := by decide +kernel
theorem dX10_descend_38 : decode cX10_descend 38 = .ok (.aload_n 0, 1) := by decide +kernel
theorem dX10_descend_39 : decode cX10_descend 39 = .ok (.iconst 1, 1) := by decide +kernel
theorem dX10_descend_40 : decode cX10_descend 40 = .ok (.invokevirtual 266, 3) := by decide +kernel
theorem dX10_descend_43 : decode cX10_descend 43 = .ok (.istore_n 2, 1) := by decide +kernel
theorem dX10_descend_44 : decode cX10_descend 44 = .ok (.goto (-31), 3) := by decide +kernel
theorem dX10_descend_47 : decode cX10_descend 47 = .ok (.iload_n 1, 1) := by decide +kernel
theorem dX10_descend_48 : decode cX10_descend 48 = .ok (.ireturn, 1) := by decide +kernel
theorem dX10_restart_0 : decode cX10_restart 0 = .ok (.aload_n 0, 1) := by decide +kernel
theorem dX10_restart_1 : decode cX10_restart 1 = .ok (.iconst 0, 1) := by decide +kernel
theorem dX10_restart_2 : decode cX10_restart 2 = .ok (.putfield 117, 3) := by decide +kernel
theorem dX10_restart_5 : decode cX10_restart 5 = .ok (.aload_n 0, 1) := by decide +kernel
theorem dX10_restart_6 : decode cX10_restart 6 = .ok (.invokevirtual 280, 3) := by decide +kernel
theorem dX10_restart_9 : decode cX10_restart 9 = .ok (.aload_n 0, 1) := by decide +kernel
theorem dX10_restart_10 : decode cX10_restart 10 = .ok (.getfield 147, 3) := by decide +kernel
theorem dX10_restart_13 : decode cX10_restart 13 = .ok (.ireturn, 1) := by decide +kernel
theorem dX10_search_0 : decode cX10_search 0 = .ok (.iload_n 1, 1) := by decide +kernel
theorem dX10_search_1 : decode cX10_search 1 = .ok (.iconst 0, 1) := by decide +kernel
theorem dX10_search_2 : decode cX10_search 2 = .ok (.iconst 4, 1) := by decide +kernel
theorem dX10_search_3 : decode cX10_search 3 = .ok (.invokestatic 199, 3) := by decide +kernel
theorem dX10_search_6 : decode cX10_search 6 = .ok (.ifCond .ne 9, 3) := by decide +kernel
theorem dX10_search_9 : decode cX10_search 9 = .ok (.aload_n 0, 1) := by decide +kernel
theorem dX10_search_10 : decode cX10_search 10 = .ok (.iconst 1, 1) := by decide +kernel
theorem dX10_search_11 : decode cX10_search 11 = .ok (.invokevirtual 203, 3) := by decide +kernel
theorem dX10_search_14 : decode cX10_search 14 = .ok (.ireturn, 1) := by decide +kernel
theorem dX10_search_15 : decode cX10_search 15 = .ok (.aload_n 0, 1) := by decide +kernel
theorem dX10_search_16 : decode cX10_search 16 = .ok (.iconst 0, 1) := by decide +kernel
theorem dX10_search_17 : decode cX10_search 17 = .ok (.putfield 117, 3) := by decide +kernel
theorem dX10_search_20 : decode cX10_search 20 = .ok (.iload_n 1, 1) := by decide +kernel
theorem dX10_search_21 : decode cX10_search 21 = .ok (.ifCond .ne 10, 3) := by decide +kernel
theorem dX10_search_24 : decode cX10_search 24 = .ok (.aload_n 0, 1) := by decide +kernel
theorem dX10_search_25 : decode cX10_search 25 = .ok (.getfield 153, 3) := by decide +kernel
theorem dX10_search_28 : decode cX10_search 28 = .ok (.goto 43, 3) := by decide +kernel
theorem dX10_search_31 : decode cX10_search 31 = .ok (.iload_n 1, 1) := by decide +kernel
theorem dX10_search_32 : decode cX10_search 32 = .ok (.iconst 1, 1) := by decide +kernel
theorem dX10_search_33 : decode cX10_search 33 = .ok (.if_icmp .ne 10, 3) := by decide +kernel
theorem dX10_search_36 : decode cX10_search 36 = .ok (.aload_n 0, 1) := by decide +kernel
theorem dX10_search_37 : decode cX10_search 37 = .ok (.getfield 166, 3) := by decide +kernel
theorem dX10_search_40 : decode cX10_search 40 = .ok (.goto 31, 3) := by decide +kernel
theorem dX10_search_43 : decode cX10_search 43 = .ok (.iload_n 1, 1) := by decide +kernel
theorem dX10_search_44 : decode cX10_search 44 = .ok (.iconst 2, 1) := by decide +kernel
theorem dX10_search_45 : decode cX10_search 45 = .ok (.if_icmp .ne 10, 3) := by decide +kernel
theorem dX10_search_48 : decode cX10_search 48 = .ok (.aload_n 0, 1) := by decide +kernel
theorem dX10_search_49 : decode cX10_search 49 = .ok (.getfield 169, 3) := by decide +kernel
theorem dX10_search_52 : decode cX10_search 52 = .ok (.goto 19, 3) := by decide +kernel
theorem dX10_search_55 : decode cX10_search 55 = .ok (.iload_n 1, 1) := by decide +kernel
theorem dX10_search_56 : decode cX10_search 56 = .ok (.iconst 3, 1) := by decide +kernel
theorem dX10_search_57 : decode cX10_search 57 = .ok (.if_icmp .ne 10, 3) := by decide +kernel
theorem dX10_search_60 : decode cX10_search 60 = .ok (.aload_n 0, 1) := by decide +kernel
theorem dX10_search_61 : decode cX10_search 61 = .ok (.getfield 50, 3) := by decide +kernel
theorem dX10_search_64 : decode cX10_search 64 = .ok (.goto 7, 3) := by decide +kernel
theorem dX10_search_67 : decode cX10_search 67 = .ok (.aload_n 0, 1) := by decide +kernel
theorem dX10_search_68 : decode cX10_search 68 = .ok (.getfield 156, 3) := by decide +kernel
theorem dX10_search_71 : decode cX10_search 71 = .ok (.ireturn, 1) := by decide +kernel
theorem dX10_logSize_0 : decode cX10_logSize 0 = .ok (.aload_n 0, 1) := by decide +kernel
theorem dX10_logSize_1 : decode cX10_logSize 1 = .ok (.iconst 0, 1) := by decide +kernel
theorem dX10_logSize_2 : decode cX10_logSize 2 = .ok (.putfield 117, 3) := by decide +kernel
theorem dX10_logSize_5 : decode cX10_logSize 5 = .ok (.aload_n 0, 1) := by decide +kernel
theorem dX10_logSize_6 : decode cX10_logSize 6 = .ok (.getfield 172, 3) := by decide +kernel
theorem dX10_logSize_9 : decode cX10_logSize 9 = .ok (.ireturn, 1) := by decide +kernel
theorem dX10_log_0 : decode cX10_log 0 = .ok (.iload_n 1, 1) := by decide +kernel
theorem dX10_log_1 : decode cX10_log 1 = .ok (.iconst 0, 1) := by decide +kernel
theorem dX10_log_2 : decode cX10_log 2 = .ok (.aload_n 0, 1) := by decide +kernel
theorem dX10_log_3 : decode cX10_log 3 = .ok (.getfield 172, 3) := by decide +kernel
theorem dX10_log_6 : decode cX10_log 6 = .ok (.iconst 1, 1) := by decide +kernel
theorem dX10_log_7 : decode cX10_log 7 = .ok (.isub, 1) := by decide +kernel
theorem dX10_log_8 : decode cX10_log 8 = .ok (.invokestatic 199, 3) := by decide +kernel
theorem dX10_log_11 : decode cX10_log 11 = .ok (.ifCond .ne 9, 3) := by decide +kernel
theorem dX10_log_14 : decode cX10_log 14 = .ok (.aload_n 0, 1) := by decide +kernel
theorem dX10_log_15 : decode cX10_log 15 = .ok (.iconst 1, 1) := by decide +kernel
theorem dX10_log_16 : decode cX10_log 16 = .ok (.invokevirtual 203, 3) := by decide +kernel
theorem dX10_log_19 : decode cX10_log 19 = .ok (.ireturn, 1) := by decide +kernel
theorem dX10_log_20 : decode cX10_log 20 = .ok (.iload_n 2, 1) := by decide +kernel
theorem dX10_log_21 : decode cX10_log 21 = .ok (.iconst 0, 1) := by decide +kernel
theorem dX10_log_22 : decode cX10_log 22 = .ok (.iconst 5, 1) := by decide +kernel
theorem dX10_log_23 : decode cX10_log 23 = .ok (.invokestatic 199, 3) := by decide +kernel
theorem dX10_log_26 : decode cX10_log 26 = .ok (.ifCond .ne 9, 3) := by decide +kernel
theorem dX10_log_29 : decode cX10_log 29 = .ok (.aload_n 0, 1) := by decide +kernel
theorem dX10_log_30 : decode cX10_log 30 = .ok (.iconst 2, 1) := by decide +kernel
theorem dX10_log_31 : decode cX10_log 31 = .ok (.invokevirtual 203, 3) := by decide +kernel
theorem dX10_log_34 : decode cX10_log 34 = .ok (.ireturn, 1) := by decide +kernel
theorem dX10_log_35 : decode cX10_log 35 = .ok (.aload_n 0, 1) := by decide +kernel
theorem dX10_log_36 : decode cX10_log 36 = .ok (.iconst 0, 1) := by decide +kernel
theorem dX10_log_37 : decode cX10_log 37 = .ok (.putfield 117, 3) := by decide +kernel
theorem dX10_log_40 : decode cX10_log 40 = .ok (.aload_n 0, 1) := by decide +kernel
theorem dX10_log_41 : decode cX10_log 41 = .ok (.getfield 37, 3) := by decide +kernel
theorem dX10_log_44 : decode cX10_log 44 = .ok (.bipush 7, 2) := by decide +kernel
theorem dX10_log_46 : decode cX10_log 46 = .ok (.iload_n 1, 1) := by decide +kernel
theorem dX10_log_47 : decode cX10_log 47 = .ok (.imul, 1) := by decide +kernel
theorem dX10_log_48 : decode cX10_log 48 = .ok (.iload_n 2, 1) := by decide +kernel
theorem dX10_log_49 : decode cX10_log 49 = .ok (.iadd, 1) := by decide +kernel
theorem dX10_log_50 : decode cX10_log 50 = .ok (.iaload, 1) := by decide +kernel
theorem dX10_log_51 : decode cX10_log 51 = .ok (.ireturn, 1) := by decide +kernel
theorem dX10_improvingShare_0 : decode cX10_improvingShare 0 = .ok (.iconst 0, 1) := by decide +kernel
theorem dX10_improvingShare_1 : decode cX10_improvingShare 1 = .ok (.istore_n 1, 1) := by decide +kernel
theorem dX10_improvingShare_2 : decode cX10_improvingShare 2 = .ok (.iconst 0, 1) := by decide +kernel
theorem dX10_improvingShare_3 : decode cX10_improvingShare 3 = .ok (.istore_n 2, 1) := by decide +kernel
theorem dX10_improvingShare_4 : decode cX10_improvingShare 4 = .ok (.iload_n 2, 1) := by decide +kernel
theorem dX10_improvingShare_5 : decode cX10_improvingShare 5 = .ok (.aload_n 0, 1) := by decide +kernel
theorem dX10_improvingShare_6 : decode cX10_improvingShare 6 = .ok (.getfield 172, 3) := by decide +kernel
theorem dX10_improvingShare_9 : decode cX10_improvingShare 9 = .ok (.if_icmp .ge 43, 3) := by decide +kernel
theorem dX10_improvingShare_12 : decode cX10_improvingShare 12 = .ok (.iload_n 1, 1) := by decide +kernel
theorem dX10_improvingShare_13 : decode cX10_improvingShare 13 = .ok (.aload_n 0, 1) := by decide +kernel
theorem dX10_improvingShare_14 : decode cX10_improvingShare 14 = .ok (.getfield 37, 3) := by decide +kernel
theorem dX10_improvingShare_17 : decode cX10_improvingShare 17 = .ok (.bipush 7, 2) := by decide +kernel
theorem dX10_improvingShare_19 : decode cX10_improvingShare 19 = .ok (.iload_n 2, 1) := by decide +kernel
theorem dX10_improvingShare_20 : decode cX10_improvingShare 20 = .ok (.imul, 1) := by decide +kernel
theorem dX10_improvingShare_21 : decode cX10_improvingShare 21 = .ok (.iconst 4, 1) := by decide +kernel
theorem dX10_improvingShare_22 : decode cX10_improvingShare 22 = .ok (.iadd, 1) := by decide +kernel
theorem dX10_improvingShare_23 : decode cX10_improvingShare 23 = .ok (.iaload, 1) := by decide +kernel
theorem dX10_improvingShare_24 : decode cX10_improvingShare 24 = .ok (.aload_n 0, 1) := by decide +kernel
theorem dX10_improvingShare_25 : decode cX10_improvingShare 25 = .ok (.getfield 37, 3) := by decide +kernel
theorem dX10_improvingShare_28 : decode cX10_improvingShare 28 = .ok (.bipush 7, 2) := by decide +kernel
theorem dX10_improvingShare_30 : decode cX10_improvingShare 30 = .ok (.iload_n 2, 1) := by decide +kernel
theorem dX10_improvingShare_31 : decode cX10_improvingShare 31 = .ok (.imul, 1) := by decide +kernel
theorem dX10_improvingShare_32 : decode cX10_improvingShare 32 = .ok (.bipush 6, 2) := by decide +kernel
theorem dX10_improvingShare_34 : decode cX10_improvingShare 34 = .ok (.iadd, 1) := by decide +kernel
theorem dX10_improvingShare_35 : decode cX10_improvingShare 35 = .ok (.iaload, 1) := by decide +kernel
theorem dX10_improvingShare_36 : decode cX10_improvingShare 36 = .ok (.if_icmp .ge 7, 3) := by decide +kernel
theorem dX10_improvingShare_39 : decode cX10_improvingShare 39 = .ok (.iconst 1, 1) := by decide +kernel
theorem dX10_improvingShare_40 : decode cX10_improvingShare 40 = .ok (.goto 4, 3) := by decide +kernel
theorem dX10_improvingShare_43 : decode cX10_improvingShare 43 = .ok (.iconst 0, 1) := by decide +kernel
theorem dX10_improvingShare_44 : decode cX10_improvingShare 44 = .ok (.iadd, 1) := by decide +kernel
theorem dX10_improvingShare_45 : decode cX10_improvingShare 45 = .ok (.istore_n 1, 1) := by decide +kernel
theorem dX10_improvingShare_46 : decode cX10_improvingShare 46 = .ok (.iinc 2 1, 3) := by decide +kernel
theorem dX10_improvingShare_49 : decode cX10_improvingShare 49 = .ok (.goto (-45), 3) := by decide +kernel
theorem dX10_improvingShare_52 : decode cX10_improvingShare 52 = .ok (.aload_n 0, 1) := by decide +kernel
theorem dX10_improvingShare_53 : decode cX10_improvingShare 53 = .ok (.aload_n 0, 1) := by decide +kernel
theorem dX10_improvingShare_54 : decode cX10_improvingShare 54 = .ok (.getfield 172, 3) := by decide +kernel
theorem dX10_improvingShare_57 : decode cX10_improvingShare 57 = .ok (.ifCond .ne 7, 3) := by decide +kernel
theorem dX10_improvingShare_60 : decode cX10_improvingShare 60 = .ok (.iconst 1, 1) := by decide +kernel
theorem dX10_improvingShare_61 : decode cX10_improvingShare 61 = .ok (.goto 4, 3) := by decide +kernel
theorem dX10_improvingShare_64 : decode cX10_improvingShare 64 = .ok (.iconst 0, 1) := by decide +kernel
theorem dX10_improvingShare_65 : decode cX10_improvingShare 65 = .ok (.putfield 117, 3) := by decide +kernel
theorem dX10_improvingShare_68 : decode cX10_improvingShare 68 = .ok (.aload_n 0, 1) := by decide +kernel
theorem dX10_improvingShare_69 : decode cX10_improvingShare 69 = .ok (.getfield 172, 3) := by decide +kernel
theorem dX10_improvingShare_72 : decode cX10_improvingShare 72 = .ok (.ifCond .ne 7, 3) := by decide +kernel
theorem dX10_improvingShare_75 : decode cX10_improvingShare 75 = .ok (.dconst 0, 1) := by decide +kernel
theorem dX10_improvingShare_76 : decode cX10_improvingShare 76 = .ok (.goto 11, 3) := by decide +kernel
theorem dX10_improvingShare_79 : decode cX10_improvingShare 79 = .ok (.iload_n 1, 1) := by decide +kernel
theorem dX10_improvingShare_80 : decode cX10_improvingShare 80 = .ok (.i2d, 1) := by decide +kernel
theorem dX10_improvingShare_81 : decode cX10_improvingShare 81 = .ok (.aload_n 0, 1) := by decide +kernel
theorem dX10_improvingShare_82 : decode cX10_improvingShare 82 = .ok (.getfield 172, 3) := by decide +kernel
theorem dX10_improvingShare_85 : decode cX10_improvingShare 85 = .ok (.i2d, 1) := by decide +kernel
theorem dX10_improvingShare_86 : decode cX10_improvingShare 86 = .ok (.ddiv, 1) := by decide +kernel
theorem dX10_improvingShare_87 : decode cX10_improvingShare 87 = .ok (.dreturn, 1) := by decide +kernel
theorem dX10_goesOn_0 : decode cX10_goesOn 0 = .ok (.aload_n 0, 1) := by decide +kernel
theorem dX10_goesOn_1 : decode cX10_goesOn 1 = .ok (.getfield 120, 3) := by decide +kernel
theorem dX10_goesOn_4 : decode cX10_goesOn 4 = .ok (.iconst 1, 1) := by decide +kernel
theorem dX10_goesOn_5 : decode cX10_goesOn 5 = .ok (.isub, 1) := by decide +kernel
theorem dX10_goesOn_6 : decode cX10_goesOn 6 = .ok (.istore_n 1, 1) := by decide +kernel
theorem dX10_goesOn_7 : decode cX10_goesOn 7 = .ok (.iload_n 1, 1) := by decide +kernel
theorem dX10_goesOn_8 : decode cX10_goesOn 8 = .ok (.ifCond .lt 43, 3) := by decide +kernel
theorem dX10_goesOn_11 : decode cX10_goesOn 11 = .ok (.aload_n 0, 1) := by decide +kernel
theorem dX10_goesOn_12 : decode cX10_goesOn 12 = .ok (.getfield 87, 3) := by decide +kernel
theorem dX10_goesOn_15 : decode cX10_goesOn 15 = .ok (.iload_n 1, 1) := by decide +kernel
theorem dX10_goesOn_16 : decode cX10_goesOn 16 = .ok (.dup2, 1) := by decide +kernel
theorem dX10_goesOn_17 : decode cX10_goesOn 17 = .ok (.iaload, 1) := by decide +kernel
theorem dX10_goesOn_18 : decode cX10_goesOn 18 = .ok (.iconst 1, 1) := by decide +kernel
theorem dX10_goesOn_19 : decode cX10_goesOn 19 = .ok (.iadd, 1) := by decide +kernel
theorem dX10_goesOn_20 : decode cX10_goesOn 20 = .ok (.iastore, 1) := by decide +kernel
theorem dX10_goesOn_21 : decode cX10_goesOn 21 = .ok (.aload_n 0, 1) := by decide +kernel
theorem dX10_goesOn_22 : decode cX10_goesOn 22 = .ok (.getfield 87, 3) := by decide +kernel
theorem dX10_goesOn_25 : decode cX10_goesOn 25 = .ok (.iload_n 1, 1) := by decide +kernel
theorem dX10_goesOn_26 : decode cX10_goesOn 26 = .ok (.iaload, 1) := by decide +kernel
theorem dX10_goesOn_27 : decode cX10_goesOn 27 = .ok (.aload_n 0, 1) := by decide +kernel
theorem dX10_goesOn_28 : decode cX10_goesOn 28 = .ok (.getfield 7, 3) := by decide +kernel
theorem dX10_goesOn_31 : decode cX10_goesOn 31 = .ok (.iload_n 1, 1) := by decide +kernel
theorem dX10_goesOn_32 : decode cX10_goesOn 32 = .ok (.iaload, 1) := by decide +kernel
theorem dX10_goesOn_33 : decode cX10_goesOn 33 = .ok (.if_icmp .ge 5, 3) := by decide +kernel
theorem dX10_goesOn_36 : decode cX10_goesOn 36 = .ok (.iconst 1, 1) := by decide +kernel
theorem dX10_goesOn_37 : decode cX10_goesOn 37 = .ok (.ireturn, 1) := by decide +kernel
theorem dX10_goesOn_38 : decode cX10_goesOn 38 = .ok (.aload_n 0, 1) := by decide +kernel
theorem dX10_goesOn_39 : decode cX10_goesOn 39 = .ok (.getfield 87, 3) := by decide +kernel
theorem dX10_goesOn_42 : decode cX10_goesOn 42 = .ok (.iload_n 1, 1) := by decide +kernel
theorem dX10_goesOn_43 : decode cX10_goesOn 43 = .ok (.iconst 0, 1) := by decide +kernel
theorem dX10_goesOn_44 : decode cX10_goesOn 44 = .ok (.iastore, 1) := by decide +kernel
theorem dX10_goesOn_45 : decode cX10_goesOn 45 = .ok (.iinc 1 (-1), 3) := by decide +kernel
theorem dX10_goesOn_48 : decode cX10_goesOn 48 = .ok (.goto (-41), 3) := by decide +kernel
theorem dX10_goesOn_51 : decode cX10_goesOn 51 = .ok (.iconst 0, 1) := by decide +kernel
theorem dX10_goesOn_52 : decode cX10_goesOn 52 = .ok (.ireturn, 1) := by decide +kernel
theorem dX10_violatedBy_0 : decode cX10_violatedBy 0 = .ok (.iconst 0, 1) := by decide +kernel
theorem dX10_violatedBy_1 : decode cX10_violatedBy 1 = .ok (.istore_n 2, 1) := by decide +kernel
theorem dX10_violatedBy_2 : decode cX10_violatedBy 2 = .ok (.iconst 0, 1) := by decide +kernel
theorem dX10_violatedBy_3 : decode cX10_violatedBy 3 = .ok (.istore_n 3, 1) := by decide +kernel
theorem dX10_violatedBy_4 : decode cX10_violatedBy 4 = .ok (.iload_n 3, 1) := by decide +kernel
theorem dX10_violatedBy_5 : decode cX10_violatedBy 5 = .ok (.aload_n 0, 1) := by decide +kernel
theorem dX10_violatedBy_6 : decode cX10_violatedBy 6 = .ok (.getfield 123, 3) := by decide +kernel
theorem dX10_violatedBy_9 : decode cX10_violatedBy 9 = .ok (.if_icmp .ge 28, 3) := by decide +kernel
theorem dX10_violatedBy_12 : decode cX10_violatedBy 12 = .ok (.iload_n 2, 1) := by decide +kernel
theorem dX10_violatedBy_13 : decode cX10_violatedBy 13 = .ok (.aload_n 0, 1) := by decide +kernel
theorem dX10_violatedBy_14 : decode cX10_violatedBy 14 = .ok (.iload_n 3, 1) := by decide +kernel
theorem dX10_violatedBy_15 : decode cX10_violatedBy 15 = .ok (.aload_n 1, 1) := by decide +kernel
theorem dX10_violatedBy_16 : decode cX10_violatedBy 16 = .ok (.invokevirtual 144, 3) := by decide +kernel
theorem dX10_violatedBy_19 : decode cX10_violatedBy 19 = .ok (.ifCond .le 9, 3) := by decide +kernel
theorem dX10_violatedBy_22 : decode cX10_violatedBy 22 = .ok (.iconst 1, 1) := by decide +kernel
theorem dX10_violatedBy_23 : decode cX10_violatedBy 23 = .ok (.iload_n 3, 1) := by decide +kernel
theorem dX10_violatedBy_24 : decode cX10_violatedBy 24 = .ok (.ishl, 1) := by decide +kernel
theorem dX10_violatedBy_25 : decode cX10_violatedBy 25 = .ok (.goto 4, 3) := by decide +kernel
theorem dX10_violatedBy_28 : decode cX10_violatedBy 28 = .ok (.iconst 0, 1) := by decide +kernel
theorem dX10_violatedBy_29 : decode cX10_violatedBy 29 = .ok (.ior, 1) := by decide +kernel
theorem dX10_violatedBy_30 : decode cX10_violatedBy 30 = .ok (.istore_n 2, 1) := by decide +kernel
theorem dX10_violatedBy_31 : decode cX10_violatedBy 31 = .ok (.iinc 3 1, 3) := by decide +kernel
theorem dX10_violatedBy_34 : decode cX10_violatedBy 34 = .ok (.goto (-30), 3) := by decide +kernel
theorem dX10_violatedBy_37 : decode cX10_violatedBy 37 = .ok (.iload_n 2, 1) := by decide +kernel
theorem dX10_violatedBy_38 : decode cX10_violatedBy 38 = .ok (.ireturn, 1) := by decide +kernel
theorem dX10_findsAll_0 : decode cX10_findsAll 0 = .ok (.aload_n 0, 1) := by decide +kernel
theorem dX10_findsAll_1 : decode cX10_findsAll 1 = .ok (.invokevirtual 234, 3) := by decide +kernel
theorem dX10_findsAll_4 : decode cX10_findsAll 4 = .ok (.sipush 5000, 3) := by decide +kernel
theorem dX10_findsAll_7 : decode cX10_findsAll 7 = .ok (.if_icmp .le 5, 3) := by decide +kernel
theorem dX10_findsAll_10 : decode cX10_findsAll 10 = .ok (.iconst 0, 1) := by decide +kernel
theorem dX10_findsAll_11 : decode cX10_findsAll 11 = .ok (.ireturn, 1) := by decide +kernel
theorem dX10_findsAll_12 : decode cX10_findsAll 12 = .ok (.iconst 0, 1) := by decide +kernel
theorem dX10_findsAll_13 : decode cX10_findsAll 13 = .ok (.istore_n 1, 1) := by decide +kernel
theorem dX10_findsAll_14 : decode cX10_findsAll 14 = .ok (.iload_n 1, 1) := by decide +kernel
theorem dX10_findsAll_15 : decode cX10_findsAll 15 = .ok (.bipush 10, 2) := by decide +kernel
theorem dX10_findsAll_17 : decode cX10_findsAll 17 = .ok (.if_icmp .ge 16, 3) := by decide +kernel
theorem dX10_findsAll_20 : decode cX10_findsAll 20 = .ok (.aload_n 0, 1) := by decide +kernel
theorem dX10_findsAll_21 : decode cX10_findsAll 21 = .ok (.getfield 87, 3) := by decide +kernel
theorem dX10_findsAll_24 : decode cX10_findsAll 24 = .ok (.iload_n 1, 1) := by decide +kernel
theorem dX10_findsAll_25 : decode cX10_findsAll 25 = .ok (.iconst 0, 1) := by decide +kernel
theorem dX10_findsAll_26 : decode cX10_findsAll 26 = .ok (.iastore, 1) := by decide +kernel
theorem dX10_findsAll_27 : decode cX10_findsAll 27 = .ok (.iinc 1 1, 3) := by decide +kernel
theorem dX10_findsAll_30 : decode cX10_findsAll 30 = .ok (.goto (-16), 3) := by decide +kernel
theorem dX10_findsAll_33 : decode cX10_findsAll 33 = .ok (.aload_n 0, 1) := by decide +kernel
theorem dX10_findsAll_34 : decode cX10_findsAll 34 = .ok (.ldc 241, 2) := by decide +kernel
theorem dX10_findsAll_36 : decode cX10_findsAll 36 = .ok (.putfield 286, 3) := by decide +kernel
theorem dX10_findsAll_39 : decode cX10_findsAll 39 = .ok (.aload_n 0, 1) := by decide +kernel
theorem dX10_findsAll_40 : decode cX10_findsAll 40 = .ok (.iconst 0, 1) := by decide +kernel
theorem dX10_findsAll_41 : decode cX10_findsAll 41 = .ok (.putfield 289, 3) := by decide +kernel
theorem dX10_findsAll_44 : decode cX10_findsAll 44 = .ok (.aload_n 0, 1) := by decide +kernel
theorem dX10_findsAll_45 : decode cX10_findsAll 45 = .ok (.aload_n 0, 1) := by decide +kernel
theorem dX10_findsAll_46 : decode cX10_findsAll 46 = .ok (.getfield 87, 3) := by decide +kernel
theorem dX10_findsAll_49 : decode cX10_findsAll 49 = .ok (.invokevirtual 159, 3) := by decide +kernel
theorem dX10_findsAll_52 : decode cX10_findsAll 52 = .ok (.istore_n 1, 1) := by decide +kernel
theorem dX10_findsAll_53 : decode cX10_findsAll 53 = .ok (.aload_n 0, 1) := by decide +kernel
theorem dX10_findsAll_54 : decode cX10_findsAll 54 = .ok (.iload_n 1, 1) := by decide +kernel
theorem dX10_findsAll_55 : decode cX10_findsAll 55 = .ok (.aload_n 0, 1) := by decide +kernel
theorem dX10_findsAll_56 : decode cX10_findsAll 56 = .ok (.getfield 289, 3) := by decide +kernel
theorem dX10_findsAll_59 : decode cX10_findsAll 59 = .ok (.if_icmp .le 7, 3) := by decide +kernel
theorem dX10_findsAll_62 : decode cX10_findsAll 62 = .ok (.iload_n 1, 1) := by decide +kernel
theorem dX10_findsAll_63 : decode cX10_findsAll 63 = .ok (.goto 7, 3) := by decide +kernel
theorem dX10_findsAll_66 : decode cX10_findsAll 66 = .ok (.aload_n 0, 1) := by decide +kernel
theorem dX10_findsAll_67 : decode cX10_findsAll 67 = .ok (.getfield 289, 3) := by decide +kernel
theorem dX10_findsAll_70 : decode cX10_findsAll 70 = .ok (.putfield 289, 3) := by decide +kernel
theorem dX10_findsAll_73 : decode cX10_findsAll 73 = .ok (.iload_n 1, 1) := by decide +kernel
theorem dX10_findsAll_74 : decode cX10_findsAll 74 = .ok (.aload_n 0, 1) := by decide +kernel
theorem dX10_findsAll_75 : decode cX10_findsAll 75 = .ok (.getfield 286, 3) := by decide +kernel
theorem dX10_findsAll_78 : decode cX10_findsAll 78 = .ok (.if_icmp .le 6, 3) := by decide +kernel
theorem dX10_findsAll_81 : decode cX10_findsAll 81 = .ok (.goto 102, 3) := by decide +kernel
theorem dX10_findsAll_84 : decode cX10_findsAll 84 = .ok (.aload_n 0, 1) := by decide +kernel
theorem dX10_findsAll_85 : decode cX10_findsAll 85 = .ok (.iload_n 1, 1) := by decide +kernel
theorem dX10_findsAll_86 : decode cX10_findsAll 86 = .ok (.aload_n 0, 1) := by decide +kernel
theorem dX10_findsAll_87 : decode cX10_findsAll 87 = .ok (.getfield 286, 3) := by decide +kernel
theorem dX10_findsAll_90 : decode cX10_findsAll 90 = .ok (.if_icmp .ge 7, 3) := by decide +kernel
theorem dX10_findsAll_93 : decode cX10_findsAll 93 = .ok (.iconst 1, 1) := by decide +kernel
theorem dX10_findsAll_94 : decode cX10_findsAll 94 = .ok (.goto 9, 3) := by decide +kernel
theorem dX10_findsAll_97 : decode cX10_findsAll 97 = .ok (.aload_n 0, 1) := by decide +kernel
theorem dX10_findsAll_98 : decode cX10_findsAll 98 = .ok (.getfield 292, 3) := by decide +kernel
theorem dX10_findsAll_101 : decode cX10_findsAll 101 = .ok (.iconst 1, 1) := by decide +kernel
theorem dX10_findsAll_102 : decode cX10_findsAll 102 = .ok (.iadd, 1) := by decide +kernel
theorem dX10_findsAll_103 : decode cX10_findsAll 103 = .ok (.putfield 292, 3) := by decide +kernel
theorem dX10_findsAll_106 : decode cX10_findsAll 106 = .ok (.aload_n 0, 1) := by decide +kernel
theorem dX10_findsAll_107 : decode cX10_findsAll 107 = .ok (.iload_n 1, 1) := by decide +kernel
theorem dX10_findsAll_108 : decode cX10_findsAll 108 = .ok (.aload_n 0, 1) := by decide +kernel
theorem dX10_findsAll_109 : decode cX10_findsAll 109 = .ok (.getfield 286, 3) := by decide +kernel
theorem dX10_findsAll_112 : decode cX10_findsAll 112 = .ok (.if_icmp .ge 14, 3) := by decide +kernel
theorem dX10_findsAll_115 : decode cX10_findsAll 115 = .ok (.aload_n 0, 1) := by decide +kernel
theorem dX10_findsAll_116 : decode cX10_findsAll 116 = .ok (.aload_n 0, 1) := by decide +kernel
theorem dX10_findsAll_117 : decode cX10_findsAll 117 = .ok (.getfield 87, 3) := by decide +kernel
theorem dX10_findsAll_120 : decode cX10_findsAll 120 = .ok (.invokevirtual 295, 3) := by decide +kernel
theorem dX10_findsAll_123 : decode cX10_findsAll 123 = .ok (.goto 16, 3) := by decide +kernel
theorem dX10_findsAll_126 : decode cX10_findsAll 126 = .ok (.aload_n 0, 1) := by decide +kernel
theorem dX10_findsAll_127 : decode cX10_findsAll 127 = .ok (.getfield 298, 3) := by decide +kernel
theorem dX10_findsAll_130 : decode cX10_findsAll 130 = .ok (.aload_n 0, 1) := by decide +kernel
theorem dX10_findsAll_131 : decode cX10_findsAll 131 = .ok (.aload_n 0, 1) := by decide +kernel
theorem dX10_findsAll_132 : decode cX10_findsAll 132 = .ok (.getfield 87, 3) := by decide +kernel
theorem dX10_findsAll_135 : decode cX10_findsAll 135 = .ok (.invokevirtual 295, 3) := by decide +kernel
theorem dX10_findsAll_138 : decode cX10_findsAll 138 = .ok (.iand, 1) := by decide +kernel
theorem dX10_findsAll_139 : decode cX10_findsAll 139 = .ok (.putfield 298, 3) := by decide +kernel
theorem dX10_findsAll_142 : decode cX10_findsAll 142 = .ok (.iconst 0, 1) := by decide +kernel
theorem dX10_findsAll_143 : decode cX10_findsAll 143 = .ok (.istore_n 2, 1) := by decide +kernel
theorem dX10_findsAll_144 : decode cX10_findsAll 144 = .ok (.iload_n 2, 1) := by decide +kernel
theorem dX10_findsAll_145 : decode cX10_findsAll 145 = .ok (.aload_n 0, 1) := by decide +kernel
theorem dX10_findsAll_146 : decode cX10_findsAll 146 = .ok (.getfield 120, 3) := by decide +kernel
theorem dX10_findsAll_149 : decode cX10_findsAll 149 = .ok (.if_icmp .ge 29, 3) := by decide +kernel
theorem dX10_findsAll_152 : decode cX10_findsAll 152 = .ok (.iload_n 1, 1) := by decide +kernel
theorem dX10_findsAll_153 : decode cX10_findsAll 153 = .ok (.aload_n 0, 1) := by decide +kernel
theorem dX10_findsAll_154 : decode cX10_findsAll 154 = .ok (.getfield 286, 3) := by decide +kernel
theorem dX10_findsAll_157 : decode cX10_findsAll 157 = .ok (.if_icmp .ge 21, 3) := by decide +kernel
theorem dX10_findsAll_160 : decode cX10_findsAll 160 = .ok (.aload_n 0, 1) := by decide +kernel
theorem dX10_findsAll_161 : decode cX10_findsAll 161 = .ok (.getfield 90, 3) := by decide +kernel
theorem dX10_findsAll_164 : decode cX10_findsAll 164 = .ok (.iload_n 2, 1) := by decide +kernel
theorem dX10_findsAll_165 : decode cX10_findsAll 165 = .ok (.aload_n 0, 1) := by decide +kernel
theorem dX10_findsAll_166 : decode cX10_findsAll 166 = .ok (.getfield 87, 3) := by decide +kernel
theorem dX10_findsAll_169 : decode cX10_findsAll 169 = .ok (.iload_n 2, 1) := by decide +kernel
theorem dX10_findsAll_170 : decode cX10_findsAll 170 = .ok (.iaload, 1) := by decide +kernel
theorem dX10_findsAll_171 : decode cX10_findsAll 171 = .ok (.iastore, 1) := by decide +kernel
theorem dX10_findsAll_172 : decode cX10_findsAll 172 = .ok (.iinc 2 1, 3) := by decide +kernel
theorem dX10_findsAll_175 : decode cX10_findsAll 175 = .ok (.goto (-31), 3) := by decide +kernel
theorem dX10_findsAll_178 : decode cX10_findsAll 178 = .ok (.aload_n 0, 1) := by decide +kernel
theorem dX10_findsAll_179 : decode cX10_findsAll 179 = .ok (.iload_n 1, 1) := by decide +kernel
theorem dX10_findsAll_180 : decode cX10_findsAll 180 = .ok (.putfield 286, 3) := by decide +kernel
theorem dX10_findsAll_183 : decode cX10_findsAll 183 = .ok (.aload_n 0, 1) := by decide +kernel
theorem dX10_findsAll_184 : decode cX10_findsAll 184 = .ok (.invokevirtual 301, 3) := by decide +kernel
theorem dX10_findsAll_187 : decode cX10_findsAll 187 = .ok (.ifCond .ne (-143), 3) := by decide +kernel
theorem dX10_findsAll_190 : decode cX10_findsAll 190 = .ok (.iconst 1, 1) := by decide +kernel
theorem dX10_findsAll_191 : decode cX10_findsAll 191 = .ok (.ireturn, 1) := by decide +kernel
theorem dX10_optimum_0 : decode cX10_optimum 0 = .ok (.aload_n 0, 1) := by decide +kernel
theorem dX10_optimum_1 : decode cX10_optimum 1 = .ok (.invokevirtual 304, 3) := by decide +kernel
theorem dX10_optimum_4 : decode cX10_optimum 4 = .ok (.ifCond .ne 9, 3) := by decide +kernel
theorem dX10_optimum_7 : decode cX10_optimum 7 = .ok (.aload_n 0, 1) := by decide +kernel
theorem dX10_optimum_8 : decode cX10_optimum 8 = .ok (.iconst 1, 1) := by decide +kernel
theorem dX10_optimum_9 : decode cX10_optimum 9 = .ok (.invokevirtual 203, 3) := by decide +kernel
theorem dX10_optimum_12 : decode cX10_optimum 12 = .ok (.ireturn, 1) := by decide +kernel
theorem dX10_optimum_13 : decode cX10_optimum 13 = .ok (.aload_n 0, 1) := by decide +kernel
theorem dX10_optimum_14 : decode cX10_optimum 14 = .ok (.iconst 0, 1) := by decide +kernel
theorem dX10_optimum_15 : decode cX10_optimum 15 = .ok (.putfield 117, 3) := by decide +kernel
theorem dX10_optimum_18 : decode cX10_optimum 18 = .ok (.aload_n 0, 1) := by decide +kernel
theorem dX10_optimum_19 : decode cX10_optimum 19 = .ok (.getfield 286, 3) := by decide +kernel
theorem dX10_optimum_22 : decode cX10_optimum 22 = .ok (.ireturn, 1) := by decide +kernel
theorem dX10_optima_0 : decode cX10_optima 0 = .ok (.aload_n 0, 1) := by decide +kernel
theorem dX10_optima_1 : decode cX10_optima 1 = .ok (.invokevirtual 304, 3) := by decide +kernel
theorem dX10_optima_4 : decode cX10_optima 4 = .ok (.ifCond .ne 9, 3) := by decide +kernel
theorem dX10_optima_7 : decode cX10_optima 7 = .ok (.aload_n 0, 1) := by decide +kernel
theorem dX10_optima_8 : decode cX10_optima 8 = .ok (.iconst 1, 1) := by decide +kernel
theorem dX10_optima_9 : decode cX10_optima 9 = .ok (.invokevirtual 203, 3) := by decide +kernel
theorem dX10_optima_12 : decode cX10_optima 12 = .ok (.ireturn, 1) := by decide +kernel
theorem dX10_optima_13 : decode cX10_optima 13 = .ok (.aload_n 0, 1) := by decide +kernel
theorem dX10_optima_14 : decode cX10_optima 14 = .ok (.iconst 0, 1) := by decide +kernel
theorem dX10_optima_15 : decode cX10_optima 15 = .ok (.putfield 117, 3) := by decide +kernel
theorem dX10_optima_18 : decode cX10_optima 18 = .ok (.aload_n 0, 1) := by decide +kernel
theorem dX10_optima_19 : decode cX10_optima 19 = .ok (.getfield 292, 3) := by decide +kernel
theorem dX10_optima_22 : decode cX10_optima 22 = .ok (.ireturn, 1) := by decide +kernel
theorem dX10_optimalValue_0 : decode cX10_optimalValue 0 = .ok (.aload_n 0, 1) := by decide +kernel
theorem dX10_optimalValue_1 : decode cX10_optimalValue 1 = .ok (.iload_n 1, 1) := by decide +kernel
theorem dX10_optimalValue_2 : decode cX10_optimalValue 2 = .ok (.invokevirtual 214, 3) := by decide +kernel
theorem dX10_optimalValue_5 : decode cX10_optimalValue 5 = .ok (.ifCond .ne 9, 3) := by decide +kernel
theorem dX10_optimalValue_8 : decode cX10_optimalValue 8 = .ok (.aload_n 0, 1) := by decide +kernel
theorem dX10_optimalValue_9 : decode cX10_optimalValue 9 = .ok (.iconst 1, 1) := by decide +kernel
theorem dX10_optimalValue_10 : decode cX10_optimalValue 10 = .ok (.invokevirtual 203, 3) := by decide +kernel
theorem dX10_optimalValue_13 : decode cX10_optimalValue 13 = .ok (.ireturn, 1) := by decide +kernel
theorem dX10_optimalValue_14 : decode cX10_optimalValue 14 = .ok (.aload_n 0, 1) := by decide +kernel
theorem dX10_optimalValue_15 : decode cX10_optimalValue 15 = .ok (.invokevirtual 304, 3) := by decide +kernel
theorem dX10_optimalValue_18 : decode cX10_optimalValue 18 = .ok (.ifCond .ne 9, 3) := by decide +kernel
theorem dX10_optimalValue_21 : decode cX10_optimalValue 21 = .ok (.aload_n 0, 1) := by decide +kernel
theorem dX10_optimalValue_22 : decode cX10_optimalValue 22 = .ok (.iconst 2, 1) := by decide +kernel
theorem dX10_optimalValue_23 : decode cX10_optimalValue 23 = .ok (.invokevirtual 203, 3) := by decide +kernel
theorem dX10_optimalValue_26 : decode cX10_optimalValue 26 = .ok (.ireturn, 1) := by decide +kernel
theorem dX10_optimalValue_27 : decode cX10_optimalValue 27 = .ok (.aload_n 0, 1) := by decide +kernel
theorem dX10_optimalValue_28 : decode cX10_optimalValue 28 = .ok (.iconst 0, 1) := by decide +kernel
theorem dX10_optimalValue_29 : decode cX10_optimalValue 29 = .ok (.putfield 117, 3) := by decide +kernel
theorem dX10_optimalValue_32 : decode cX10_optimalValue 32 = .ok (.aload_n 0, 1) := by decide +kernel
theorem dX10_optimalValue_33 : decode cX10_optimalValue 33 = .ok (.getfield 90, 3) := by decide +kernel
theorem dX10_optimalValue_36 : decode cX10_optimalValue 36 = .ok (.iload_n 1, 1) := by decide +kernel
theorem dX10_optimalValue_37 : decode cX10_optimalValue 37 = .ok (.iaload, 1) := by decide +kernel
theorem dX10_optimalValue_38 : decode cX10_optimalValue 38 = .ok (.ireturn, 1) := by decide +kernel
theorem dX10_worst_0 : decode cX10_worst 0 = .ok (.aload_n 0, 1) := by decide +kernel
theorem dX10_worst_1 : decode cX10_worst 1 = .ok (.invokevirtual 304, 3) := by decide +kernel
theorem dX10_worst_4 : decode cX10_worst 4 = .ok (.ifCond .ne 9, 3) := by decide +kernel
theorem dX10_worst_7 : decode cX10_worst 7 = .ok (.aload_n 0, 1) := by decide +kernel
theorem dX10_worst_8 : decode cX10_worst 8 = .ok (.iconst 1, 1) := by decide +kernel
theorem dX10_worst_9 : decode cX10_worst 9 = .ok (.invokevirtual 203, 3) := by decide +kernel
theorem dX10_worst_12 : decode cX10_worst 12 = .ok (.ireturn, 1) := by decide +kernel
theorem dX10_worst_13 : decode cX10_worst 13 = .ok (.aload_n 0, 1) := by decide +kernel
theorem dX10_worst_14 : decode cX10_worst 14 = .ok (.iconst 0, 1) := by decide +kernel
theorem dX10_worst_15 : decode cX10_worst 15 = .ok (.putfield 117, 3) := by decide +kernel
theorem dX10_worst_18 : decode cX10_worst 18 = .ok (.aload_n 0, 1) := by decide +kernel
theorem dX10_worst_19 : decode cX10_worst 19 = .ok (.getfield 289, 3) := by decide +kernel
theorem dX10_worst_22 : decode cX10_worst 22 = .ok (.ireturn, 1) := by decide +kernel
theorem dX10_unavoidable_0 : decode cX10_unavoidable 0 = .ok (.aload_n 0, 1) := by decide +kernel
theorem dX10_unavoidable_1 : decode cX10_unavoidable 1 = .ok (.invokevirtual 304, 3) := by decide +kernel
theorem dX10_unavoidable_4 : decode cX10_unavoidable 4 = .ok (.ifCond .ne 9, 3) := by decide +kernel
theorem dX10_unavoidable_7 : decode cX10_unavoidable 7 = .ok (.aload_n 0, 1) := by decide +kernel
theorem dX10_unavoidable_8 : decode cX10_unavoidable 8 = .ok (.iconst 1, 1) := by decide +kernel
theorem dX10_unavoidable_9 : decode cX10_unavoidable 9 = .ok (.invokevirtual 203, 3) := by decide +kernel
theorem dX10_unavoidable_12 : decode cX10_unavoidable 12 = .ok (.ireturn, 1) := by decide +kernel
theorem dX10_unavoidable_13 : decode cX10_unavoidable 13 = .ok (.aload_n 0, 1) := by decide +kernel
theorem dX10_unavoidable_14 : decode cX10_unavoidable 14 = .ok (.iconst 0, 1) := by decide +kernel
theorem dX10_unavoidable_15 : decode cX10_unavoidable 15 = .ok (.putfield 117, 3) := by decide +kernel
theorem dX10_unavoidable_18 : decode cX10_unavoidable 18 = .ok (.iconst 0, 1) := by decide +kernel
theorem dX10_unavoidable_19 : decode cX10_unavoidable 19 = .ok (.istore_n 1, 1) := by decide +kernel
theorem dX10_unavoidable_20 : decode cX10_unavoidable 20 = .ok (.iconst 0, 1) := by decide +kernel
theorem dX10_unavoidable_21 : decode cX10_unavoidable 21 = .ok (.istore_n 2, 1) := by decide +kernel
theorem dX10_unavoidable_22 : decode cX10_unavoidable 22 = .ok (.iload_n 2, 1) := by decide +kernel
theorem dX10_unavoidable_23 : decode cX10_unavoidable 23 = .ok (.bipush 20, 2) := by decide +kernel
theorem dX10_unavoidable_25 : decode cX10_unavoidable 25 = .ok (.if_icmp .ge 20, 3) := by decide +kernel
theorem dX10_unavoidable_28 : decode cX10_unavoidable 28 = .ok (.iload_n 1, 1) := by decide +kernel
theorem dX10_unavoidable_29 : decode cX10_unavoidable 29 = .ok (.aload_n 0, 1) := by decide +kernel
theorem dX10_unavoidable_30 : decode cX10_unavoidable 30 = .ok (.getfield 298, 3) := by decide +kernel
theorem dX10_unavoidable_33 : decode cX10_unavoidable 33 = .ok (.iload_n 2, 1) := by decide +kernel
theorem dX10_unavoidable_34 : decode cX10_unavoidable 34 = .ok (.ishr, 1) := by decide +kernel
theorem dX10_unavoidable_35 : decode cX10_unavoidable 35 = .ok (.iconst 1, 1) := by decide +kernel
theorem dX10_unavoidable_36 : decode cX10_unavoidable 36 = .ok (.iand, 1) := by decide +kernel
theorem dX10_unavoidable_37 : decode cX10_unavoidable 37 = .ok (.iadd, 1) := by decide +kernel
theorem dX10_unavoidable_38 : decode cX10_unavoidable 38 = .ok (.istore_n 1, 1) := by decide +kernel
theorem dX10_unavoidable_39 : decode cX10_unavoidable 39 = .ok (.iinc 2 1, 3) := by decide +kernel
theorem dX10_unavoidable_42 : decode cX10_unavoidable 42 = .ok (.goto (-20), 3) := by decide +kernel
theorem dX10_unavoidable_45 : decode cX10_unavoidable 45 = .ok (.iload_n 1, 1) := by decide +kernel
theorem dX10_unavoidable_46 : decode cX10_unavoidable 46 = .ok (.ireturn, 1) := by decide +kernel
theorem dX10_append_0 : decode cX10_append 0 = .ok (.iload_n 1, 1) := by decide +kernel
theorem dX10_append_1 : decode cX10_append 1 = .ok (.bipush 32, 2) := by decide +kernel
theorem dX10_append_3 : decode cX10_append 3 = .ok (.bipush 126, 2) := by decide +kernel
theorem dX10_append_5 : decode cX10_append 5 = .ok (.invokestatic 199, 3) := by decide +kernel
theorem dX10_append_8 : decode cX10_append 8 = .ok (.ifCond .ne 9, 3) := by decide +kernel
theorem dX10_append_11 : decode cX10_append 11 = .ok (.aload_n 0, 1) := by decide +kernel
theorem dX10_append_12 : decode cX10_append 12 = .ok (.iconst 1, 1) := by decide +kernel
theorem dX10_append_13 : decode cX10_append 13 = .ok (.invokevirtual 203, 3) := by decide +kernel
theorem dX10_append_16 : decode cX10_append 16 = .ok (.ireturn, 1) := by decide +kernel
theorem dX10_append_17 : decode cX10_append 17 = .ok (.aload_n 0, 1) := by decide +kernel
theorem dX10_append_18 : decode cX10_append 18 = .ok (.getfield 307, 3) := by decide +kernel
theorem dX10_append_21 : decode cX10_append 21 = .ok (.bipush 60, 2) := by decide +kernel
theorem dX10_append_23 : decode cX10_append 23 = .ok (.if_icmp .ne 9, 3) := by decide +kernel
theorem dX10_append_26 : decode cX10_append 26 = .ok (.aload_n 0, 1) := by decide +kernel
theorem dX10_append_27 : decode cX10_append 27 = .ok (.iconst 2, 1) := by decide +kernel
theorem dX10_append_28 : decode cX10_append 28 = .ok (.invokevirtual 203, 3) := by decide +kernel
theorem dX10_append_31 : decode cX10_append 31 = .ok (.ireturn, 1) := by decide +kernel
theorem dX10_append_32 : decode cX10_append 32 = .ok (.aload_n 0, 1) := by decide +kernel
theorem dX10_append_33 : decode cX10_append 33 = .ok (.iconst 0, 1) := by decide +kernel
theorem dX10_append_34 : decode cX10_append 34 = .ok (.putfield 117, 3) := by decide +kernel
theorem dX10_append_37 : decode cX10_append 37 = .ok (.aload_n 0, 1) := by decide +kernel
theorem dX10_append_38 : decode cX10_append 38 = .ok (.getfield 93, 3) := by decide +kernel
theorem dX10_append_41 : decode cX10_append 41 = .ok (.aload_n 0, 1) := by decide +kernel
theorem dX10_append_42 : decode cX10_append 42 = .ok (.getfield 307, 3) := by decide +kernel
theorem dX10_append_45 : decode cX10_append 45 = .ok (.iload_n 1, 1) := by decide +kernel
theorem dX10_append_46 : decode cX10_append 46 = .ok (.iastore, 1) := by decide +kernel
theorem dX10_append_47 : decode cX10_append 47 = .ok (.aload_n 0, 1) := by decide +kernel
theorem dX10_append_48 : decode cX10_append 48 = .ok (.dup, 1) := by decide +kernel
theorem dX10_append_49 : decode cX10_append 49 = .ok (.getfield 307, 3) := by decide +kernel
theorem dX10_append_52 : decode cX10_append 52 = .ok (.iconst 1, 1) := by decide +kernel
theorem dX10_append_53 : decode cX10_append 53 = .ok (.iadd, 1) := by decide +kernel
theorem dX10_append_54 : decode cX10_append 54 = .ok (.putfield 307, 3) := by decide +kernel
theorem dX10_append_57 : decode cX10_append 57 = .ok (.aload_n 0, 1) := by decide +kernel
theorem dX10_append_58 : decode cX10_append 58 = .ok (.getfield 307, 3) := by decide +kernel
theorem dX10_append_61 : decode cX10_append 61 = .ok (.ireturn, 1) := by decide +kernel
theorem dX10_isNext_0 : decode cX10_isNext 0 = .ok (.aload_n 0, 1) := by decide +kernel
theorem dX10_isNext_1 : decode cX10_isNext 1 = .ok (.getfield 310, 3) := by decide +kernel
theorem dX10_isNext_4 : decode cX10_isNext 4 = .ok (.aload_n 0, 1) := by decide +kernel
theorem dX10_isNext_5 : decode cX10_isNext 5 = .ok (.getfield 307, 3) := by decide +kernel
theorem dX10_isNext_8 : decode cX10_isNext 8 = .ok (.if_icmp .ge 24, 3) := by decide +kernel
theorem dX10_isNext_11 : decode cX10_isNext 11 = .ok (.aload_n 0, 1) := by decide +kernel
theorem dX10_isNext_12 : decode cX10_isNext 12 = .ok (.getfield 93, 3) := by decide +kernel
theorem dX10_isNext_15 : decode cX10_isNext 15 = .ok (.aload_n 0, 1) := by decide +kernel
theorem dX10_isNext_16 : decode cX10_isNext 16 = .ok (.getfield 310, 3) := by decide +kernel
theorem dX10_isNext_19 : decode cX10_isNext 19 = .ok (.iaload, 1) := by decide +kernel
theorem dX10_isNext_20 : decode cX10_isNext 20 = .ok (.iload_n 1, 1) := by decide +kernel
theorem dX10_isNext_21 : decode cX10_isNext 21 = .ok (.iload_n 2, 1) := by decide +kernel
theorem dX10_isNext_22 : decode cX10_isNext 22 = .ok (.invokestatic 199, 3) := by decide +kernel
theorem dX10_isNext_25 : decode cX10_isNext 25 = .ok (.ifCond .eq 7, 3) := by decide +kernel
theorem dX10_isNext_28 : decode cX10_isNext 28 = .ok (.iconst 1, 1) := by decide +kernel
theorem dX10_isNext_29 : decode cX10_isNext 29 = .ok (.goto 4, 3) := by decide +kernel
theorem dX10_isNext_32 : decode cX10_isNext 32 = .ok (.iconst 0, 1) := by decide +kernel
theorem dX10_isNext_33 : decode cX10_isNext 33 = .ok (.ireturn, 1) := by decide +kernel
theorem dX10_skips_0 : decode cX10_skips 0 = .ok (.aload_n 0, 1) := by decide +kernel
theorem dX10_skips_1 : decode cX10_skips 1 = .ok (.iload_n 1, 1) := by decide +kernel
theorem dX10_skips_2 : decode cX10_skips 2 = .ok (.iload_n 1, 1) := by decide +kernel
theorem dX10_skips_3 : decode cX10_skips 3 = .ok (.invokevirtual 313, 3) := by decide +kernel
theorem dX10_skips_6 : decode cX10_skips 6 = .ok (.ifCond .ne 5, 3) := by decide +kernel
theorem dX10_skips_9 : decode cX10_skips 9 = .ok (.iconst 0, 1) := by decide +kernel
theorem dX10_skips_10 : decode cX10_skips 10 = .ok (.ireturn, 1) := by decide +kernel
theorem dX10_skips_11 : decode cX10_skips 11 = .ok (.aload_n 0, 1) := by decide +kernel
theorem dX10_skips_12 : decode cX10_skips 12 = .ok (.dup, 1) := by decide +kernel
theorem dX10_skips_13 : decode cX10_skips 13 = .ok (.getfield 310, 3) := by decide +kernel
theorem dX10_skips_16 : decode cX10_skips 16 = .ok (.iconst 1, 1) := by decide +kernel
theorem dX10_skips_17 : decode cX10_skips 17 = .ok (.iadd, 1) := by decide +kernel
theorem dX10_skips_18 : decode cX10_skips 18 = .ok (.putfield 310, 3) := by decide +kernel
theorem dX10_skips_21 : decode cX10_skips 21 = .ok (.iconst 1, 1) := by decide +kernel
theorem dX10_skips_22 : decode cX10_skips 22 = .ok (.ireturn, 1) := by decide +kernel
theorem dX10_takesMembers_0 : decode cX10_takesMembers 0 = .ok (.aload_n 0, 1) := by decide +kernel
theorem dX10_takesMembers_1 : decode cX10_takesMembers 1 = .ok (.bipush 48, 2) := by decide +kernel
theorem dX10_takesMembers_3 : decode cX10_takesMembers 3 = .ok (.bipush 56, 2) := by decide +kernel
theorem dX10_takesMembers_5 : decode cX10_takesMembers 5 = .ok (.invokevirtual 313, 3) := by decide +kernel
theorem dX10_takesMembers_8 : decode cX10_takesMembers 8 = .ok (.ifCond .ne 5, 3) := by decide +kernel
theorem dX10_takesMembers_11 : decode cX10_takesMembers 11 = .ok (.iconst 0, 1) := by decide +kernel
theorem dX10_takesMembers_12 : decode cX10_takesMembers 12 = .ok (.ireturn, 1) := by decide +kernel
theorem dX10_takesMembers_13 : decode cX10_takesMembers 13 = .ok (.aload_n 0, 1) := by decide +kernel
theorem dX10_takesMembers_14 : decode cX10_takesMembers 14 = .ok (.getfield 93, 3) := by decide +kernel
theorem dX10_takesMembers_17 : decode cX10_takesMembers 17 = .ok (.aload_n 0, 1) := by decide +kernel
theorem dX10_takesMembers_18 : decode cX10_takesMembers 18 = .ok (.getfield 310, 3) := by decide +kernel
theorem dX10_takesMembers_21 : decode cX10_takesMembers 21 = .ok (.iaload, 1) := by decide +kernel
theorem dX10_takesMembers_22 : decode cX10_takesMembers 22 = .ok (.bipush 48, 2) := by decide +kernel
theorem dX10_takesMembers_24 : decode cX10_takesMembers 24 = .ok (.isub, 1) := by decide +kernel
theorem dX10_takesMembers_25 : decode cX10_takesMembers 25 = .ok (.istore_n 1, 1) := by decide +kernel
theorem dX10_takesMembers_26 : decode cX10_takesMembers 26 = .ok (.iconst 1, 1) := by decide +kernel
theorem dX10_takesMembers_27 : decode cX10_takesMembers 27 = .ok (.iload_n 1, 1) := by decide +kernel
theorem dX10_takesMembers_28 : decode cX10_takesMembers 28 = .ok (.ishl, 1) := by decide +kernel
theorem dX10_takesMembers_29 : decode cX10_takesMembers 29 = .ok (.istore_n 2, 1) := by decide +kernel
theorem dX10_takesMembers_30 : decode cX10_takesMembers 30 = .ok (.aload_n 0, 1) := by decide +kernel
theorem dX10_takesMembers_31 : decode cX10_takesMembers 31 = .ok (.dup, 1) := by decide +kernel
theorem dX10_takesMembers_32 : decode cX10_takesMembers 32 = .ok (.getfield 310, 3) := by decide +kernel
theorem dX10_takesMembers_35 : decode cX10_takesMembers 35 = .ok (.iconst 1, 1) := by decide +kernel
theorem dX10_takesMembers_36 : decode cX10_takesMembers 36 = .ok (.iadd, 1) := by decide +kernel
theorem dX10_takesMembers_37 : decode cX10_takesMembers 37 = .ok (.putfield 310, 3) := by decide +kernel
theorem dX10_takesMembers_40 : decode cX10_takesMembers 40 = .ok (.aload_n 0, 1) := by decide +kernel
theorem dX10_takesMembers_41 : decode cX10_takesMembers 41 = .ok (.bipush 49, 2) := by decide +kernel
theorem dX10_takesMembers_43 : decode cX10_takesMembers 43 = .ok (.iload_n 1, 1) := by decide +kernel
theorem dX10_takesMembers_44 : decode cX10_takesMembers 44 = .ok (.iadd, 1) := by decide +kernel
theorem dX10_takesMembers_45 : decode cX10_takesMembers 45 = .ok (.bipush 57, 2) := by decide +kernel
theorem dX10_takesMembers_47 : decode cX10_takesMembers 47 = .ok (.invokevirtual 313, 3) := by decide +kernel
theorem dX10_takesMembers_50 : decode cX10_takesMembers 50 = .ok (.ifCond .ne 5, 3) := by decide +kernel
theorem dX10_takesMembers_53 : decode cX10_takesMembers 53 = .ok (.iconst 0, 1) := by decide +kernel
theorem dX10_takesMembers_54 : decode cX10_takesMembers 54 = .ok (.ireturn, 1) := by decide +kernel
theorem dX10_takesMembers_55 : decode cX10_takesMembers 55 = .ok (.iload_n 1, 1) := by decide +kernel
theorem dX10_takesMembers_56 : decode cX10_takesMembers 56 = .ok (.bipush 9, 2) := by decide +kernel
theorem dX10_takesMembers_58 : decode cX10_takesMembers 58 = .ok (.if_icmp .ge 48, 3) := by decide +kernel
theorem dX10_takesMembers_61 : decode cX10_takesMembers 61 = .ok (.aload_n 0, 1) := by decide +kernel
theorem dX10_takesMembers_62 : decode cX10_takesMembers 62 = .ok (.bipush 49, 2) := by decide +kernel
theorem dX10_takesMembers_64 : decode cX10_takesMembers 64 = .ok (.iload_n 1, 1) := by decide +kernel
theorem dX10_takesMembers_65 : decode cX10_takesMembers 65 = .ok (.iadd, 1) := by decide +kernel
theorem dX10_takesMembers_66 : decode cX10_takesMembers 66 = .ok (.bipush 57, 2) := by decide +kernel
theorem dX10_takesMembers_68 : decode cX10_takesMembers 68 = .ok (.invokevirtual 313, 3) := by decide +kernel
theorem dX10_takesMembers_71 : decode cX10_takesMembers 71 = .ok (.ifCond .eq 35, 3) := by decide +kernel
theorem dX10_takesMembers_74 : decode cX10_takesMembers 74 = .ok (.aload_n 0, 1) := by decide +kernel
theorem dX10_takesMembers_75 : decode cX10_takesMembers 75 = .ok (.getfield 93, 3) := by decide +kernel
theorem dX10_takesMembers_78 : decode cX10_takesMembers 78 = .ok (.aload_n 0, 1) := by decide +kernel
theorem dX10_takesMembers_79 : decode cX10_takesMembers 79 = .ok (.getfield 310, 3) := by decide +kernel
theorem dX10_takesMembers_82 : decode cX10_takesMembers 82 = .ok (.iaload, 1) := by decide +kernel
theorem dX10_takesMembers_83 : decode cX10_takesMembers 83 = .ok (.bipush 48, 2) := by decide +kernel
theorem dX10_takesMembers_85 : decode cX10_takesMembers 85 = .ok (.isub, 1) := by decide +kernel
theorem dX10_takesMembers_86 : decode cX10_takesMembers 86 = .ok (.istore_n 1, 1) := by decide +kernel
theorem dX10_takesMembers_87 : decode cX10_takesMembers 87 = .ok (.iload_n 2, 1) := by decide +kernel
theorem dX10_takesMembers_88 : decode cX10_takesMembers 88 = .ok (.iconst 1, 1) := by decide +kernel
theorem dX10_takesMembers_89 : decode cX10_takesMembers 89 = .ok (.iload_n 1, 1) := by decide +kernel
theorem dX10_takesMembers_90 : decode cX10_takesMembers 90 = .ok (.ishl, 1) := by decide +kernel
theorem dX10_takesMembers_91 : decode cX10_takesMembers 91 = .ok (.ior, 1) := by decide +kernel
theorem dX10_takesMembers_92 : decode cX10_takesMembers 92 = .ok (.istore_n 2, 1) := by decide +kernel
theorem dX10_takesMembers_93 : decode cX10_takesMembers 93 = .ok (.aload_n 0, 1) := by decide +kernel
theorem dX10_takesMembers_94 : decode cX10_takesMembers 94 = .ok (.dup, 1) := by decide +kernel
theorem dX10_takesMembers_95 : decode cX10_takesMembers 95 = .ok (.getfield 310, 3) := by decide +kernel
theorem dX10_takesMembers_98 : decode cX10_takesMembers 98 = .ok (.iconst 1, 1) := by decide +kernel
theorem dX10_takesMembers_99 : decode cX10_takesMembers 99 = .ok (.iadd, 1) := by decide +kernel
theorem dX10_takesMembers_100 : decode cX10_takesMembers 100 = .ok (.putfield 310, 3) := by decide +kernel
theorem dX10_takesMembers_103 : decode cX10_takesMembers 103 = .ok (.goto (-48), 3) := by decide +kernel
theorem dX10_takesMembers_106 : decode cX10_takesMembers 106 = .ok (.aload_n 0, 1) := by decide +kernel
theorem dX10_takesMembers_107 : decode cX10_takesMembers 107 = .ok (.getfield 102, 3) := by decide +kernel
theorem dX10_takesMembers_110 : decode cX10_takesMembers 110 = .ok (.aload_n 0, 1) := by decide +kernel
theorem dX10_takesMembers_111 : decode cX10_takesMembers 111 = .ok (.getfield 316, 3) := by decide +kernel
theorem dX10_takesMembers_114 : decode cX10_takesMembers 114 = .ok (.iload_n 2, 1) := by decide +kernel
theorem dX10_takesMembers_115 : decode cX10_takesMembers 115 = .ok (.iastore, 1) := by decide +kernel
theorem dX10_takesMembers_116 : decode cX10_takesMembers 116 = .ok (.iconst 1, 1) := by decide +kernel
theorem dX10_takesMembers_117 : decode cX10_takesMembers 117 = .ok (.ireturn, 1) := by decide +kernel
theorem dX10_takesNumber_0 : decode cX10_takesNumber 0 = .ok (.aload_n 0, 1) := by decide +kernel
theorem dX10_takesNumber_1 : decode cX10_takesNumber 1 = .ok (.bipush 45, 2) := by decide +kernel
theorem dX10_takesNumber_3 : decode cX10_takesNumber 3 = .ok (.invokevirtual 319, 3) := by decide +kernel
theorem dX10_takesNumber_6 : decode cX10_takesNumber 6 = .ok (.istore_n 1, 1) := by decide +kernel
theorem dX10_takesNumber_7 : decode cX10_takesNumber 7 = .ok (.aload_n 0, 1) := by decide +kernel
theorem dX10_takesNumber_8 : decode cX10_takesNumber 8 = .ok (.bipush 48, 2) := by decide +kernel
theorem dX10_takesNumber_10 : decode cX10_takesNumber 10 = .ok (.bipush 57, 2) := by decide +kernel
theorem dX10_takesNumber_12 : decode cX10_takesNumber 12 = .ok (.invokevirtual 313, 3) := by decide +kernel
theorem dX10_takesNumber_15 : decode cX10_takesNumber 15 = .ok (.ifCond .ne 5, 3) := by decide +kernel
theorem dX10_takesNumber_18 : decode cX10_takesNumber 18 = .ok (.iconst 0, 1) := by decide +kernel
theorem dX10_takesNumber_19 : decode cX10_takesNumber 19 = .ok (.ireturn, 1) := by decide +kernel
theorem dX10_takesNumber_20 : decode cX10_takesNumber 20 = .ok (.aload_n 0, 1) := by decide +kernel
theorem dX10_takesNumber_21 : decode cX10_takesNumber 21 = .ok (.getfield 93, 3) := by decide +kernel
theorem dX10_takesNumber_24 : decode cX10_takesNumber 24 = .ok (.aload_n 0, 1) := by decide +kernel
theorem dX10_takesNumber_25 : decode cX10_takesNumber 25 = .ok (.getfield 310, 3) := by decide +kernel
theorem dX10_takesNumber_28 : decode cX10_takesNumber 28 = .ok (.iaload, 1) := by decide +kernel
theorem dX10_takesNumber_29 : decode cX10_takesNumber 29 = .ok (.bipush 48, 2) := by decide +kernel
theorem dX10_takesNumber_31 : decode cX10_takesNumber 31 = .ok (.isub, 1) := by decide +kernel
theorem dX10_takesNumber_32 : decode cX10_takesNumber 32 = .ok (.istore_n 2, 1) := by decide +kernel
theorem dX10_takesNumber_33 : decode cX10_takesNumber 33 = .ok (.aload_n 0, 1) := by decide +kernel
theorem dX10_takesNumber_34 : decode cX10_takesNumber 34 = .ok (.dup, 1) := by decide +kernel
theorem dX10_takesNumber_35 : decode cX10_takesNumber 35 = .ok (.getfield 310, 3) := by decide +kernel
theorem dX10_takesNumber_38 : decode cX10_takesNumber 38 = .ok (.iconst 1, 1) := by decide +kernel
theorem dX10_takesNumber_39 : decode cX10_takesNumber 39 = .ok (.iadd, 1) := by decide +kernel
theorem dX10_takesNumber_40 : decode cX10_takesNumber 40 = .ok (.putfield 310, 3) := by decide +kernel
theorem dX10_takesNumber_43 : decode cX10_takesNumber 43 = .ok (.iload_n 2, 1) := by decide +kernel
theorem dX10_takesNumber_44 : decode cX10_takesNumber 44 = .ok (.bipush 6, 2) := by decide +kernel
theorem dX10_takesNumber_46 : decode cX10_takesNumber 46 = .ok (.if_icmp .ge 52, 3) := by decide +kernel
theorem dX10_takesNumber_49 : decode cX10_takesNumber 49 = .ok (.aload_n 0, 1) := by decide +kernel
theorem dX10_takesNumber_50 : decode cX10_takesNumber 50 = .ok (.bipush 48, 2) := by decide +kernel
theorem dX10_takesNumber_52 : decode cX10_takesNumber 52 = .ok (.iload_n 2, 1) := by decide +kernel
theorem dX10_takesNumber_53 : decode cX10_takesNumber 53 = .ok (.iconst 5, 1) := by decide +kernel
theorem dX10_takesNumber_54 : decode cX10_takesNumber 54 = .ok (.if_icmp .ne 8, 3) := by decide +kernel
theorem dX10_takesNumber_57 : decode cX10_takesNumber 57 = .ok (.bipush 48, 2) := by decide +kernel
theorem dX10_takesNumber_59 : decode cX10_takesNumber 59 = .ok (.goto 5, 3) := by decide +kernel
theorem dX10_takesNumber_62 : decode cX10_takesNumber 62 = .ok (.bipush 57, 2) := by decide +kernel
theorem dX10_takesNumber_64 : decode cX10_takesNumber 64 = .ok (.invokevirtual 313, 3) := by decide +kernel
theorem dX10_takesNumber_67 : decode cX10_takesNumber 67 = .ok (.ifCond .eq 31, 3) := by decide +kernel
theorem dX10_takesNumber_70 : decode cX10_takesNumber 70 = .ok (.bipush 10, 2) := by decide +kernel
theorem dX10_takesNumber_72 : decode cX10_takesNumber 72 = .ok (.iload_n 2, 1) := by decide +kernel
theorem dX10_takesNumber_73 : decode cX10_takesNumber 73 = .ok (.imul, 1) := by decide +kernel
theorem dX10_takesNumber_74 : decode cX10_takesNumber 74 = .ok (.aload_n 0, 1) := by decide +kernel
theorem dX10_takesNumber_75 : decode cX10_takesNumber 75 = .ok (.getfield 93, 3) := by decide +kernel
theorem dX10_takesNumber_78 : decode cX10_takesNumber 78 = .ok (.aload_n 0, 1) := by decide +kernel
theorem dX10_takesNumber_79 : decode cX10_takesNumber 79 = .ok (.getfield 310, 3) := by decide +kernel
theorem dX10_takesNumber_82 : decode cX10_takesNumber 82 = .ok (.iaload, 1) := by decide +kernel
theorem dX10_takesNumber_83 : decode cX10_takesNumber 83 = .ok (.iadd, 1) := by decide +kernel
theorem dX10_takesNumber_84 : decode cX10_takesNumber 84 = .ok (.bipush 48, 2) := by decide +kernel
theorem dX10_takesNumber_86 : decode cX10_takesNumber 86 = .ok (.isub, 1) := by decide +kernel
theorem dX10_takesNumber_87 : decode cX10_takesNumber 87 = .ok (.istore_n 2, 1) := by decide +kernel
theorem dX10_takesNumber_88 : decode cX10_takesNumber 88 = .ok (.aload_n 0, 1) := by decide +kernel
theorem dX10_takesNumber_89 : decode cX10_takesNumber 89 = .ok (.dup, 1) := by decide +kernel
theorem dX10_takesNumber_90 : decode cX10_takesNumber 90 = .ok (.getfield 310, 3) := by decide +kernel
theorem dX10_takesNumber_93 : decode cX10_takesNumber 93 = .ok (.iconst 1, 1) := by decide +kernel
theorem dX10_takesNumber_94 : decode cX10_takesNumber 94 = .ok (.iadd, 1) := by decide +kernel
theorem dX10_takesNumber_95 : decode cX10_takesNumber 95 = .ok (.putfield 310, 3) := by decide +kernel
theorem dX10_takesNumber_98 : decode cX10_takesNumber 98 = .ok (.aload_n 0, 1) := by decide +kernel
theorem dX10_takesNumber_99 : decode cX10_takesNumber 99 = .ok (.getfield 105, 3) := by decide +kernel
theorem dX10_takesNumber_102 : decode cX10_takesNumber 102 = .ok (.aload_n 0, 1) := by decide +kernel
theorem dX10_takesNumber_103 : decode cX10_takesNumber 103 = .ok (.getfield 316, 3) := by decide +kernel
theorem dX10_takesNumber_106 : decode cX10_takesNumber 106 = .ok (.iload_n 1, 1) := by decide +kernel
theorem dX10_takesNumber_107 : decode cX10_takesNumber 107 = .ok (.ifCond .eq 8, 3) := by decide +kernel
theorem dX10_takesNumber_110 : decode cX10_takesNumber 110 = .ok (.iload_n 2, 1) := by decide +kernel
theorem dX10_takesNumber_111 : decode cX10_takesNumber 111 = .ok (.ineg, 1) := by decide +kernel
theorem dX10_takesNumber_112 : decode cX10_takesNumber 112 = .ok (.goto 4, 3) := by decide +kernel
theorem dX10_takesNumber_115 : decode cX10_takesNumber 115 = .ok (.iload_n 2, 1) := by decide +kernel
theorem dX10_takesNumber_116 : decode cX10_takesNumber 116 = .ok (.iastore, 1) := by decide +kernel
theorem dX10_takesNumber_117 : decode cX10_takesNumber 117 = .ok (.iconst 1, 1) := by decide +kernel
theorem dX10_takesNumber_118 : decode cX10_takesNumber 118 = .ok (.ireturn, 1) := by decide +kernel
theorem dX10_takesEntry_0 : decode cX10_takesEntry 0 = .ok (.aload_n 0, 1) := by decide +kernel
theorem dX10_takesEntry_1 : decode cX10_takesEntry 1 = .ok (.bipush 118, 2) := by decide +kernel
theorem dX10_takesEntry_3 : decode cX10_takesEntry 3 = .ok (.invokevirtual 319, 3) := by decide +kernel
theorem dX10_takesEntry_6 : decode cX10_takesEntry 6 = .ok (.ifCond .eq 40, 3) := by decide +kernel
theorem dX10_takesEntry_9 : decode cX10_takesEntry 9 = .ok (.aload_n 0, 1) := by decide +kernel
theorem dX10_takesEntry_10 : decode cX10_takesEntry 10 = .ok (.bipush 50, 2) := by decide +kernel
theorem dX10_takesEntry_12 : decode cX10_takesEntry 12 = .ok (.bipush 56, 2) := by decide +kernel
theorem dX10_takesEntry_14 : decode cX10_takesEntry 14 = .ok (.invokevirtual 313, 3) := by decide +kernel
theorem dX10_takesEntry_17 : decode cX10_takesEntry 17 = .ok (.ifCond .ne 5, 3) := by decide +kernel
theorem dX10_takesEntry_20 : decode cX10_takesEntry 20 = .ok (.iconst 0, 1) := by decide +kernel
theorem dX10_takesEntry_21 : decode cX10_takesEntry 21 = .ok (.ireturn, 1) := by decide +kernel
theorem dX10_takesEntry_22 : decode cX10_takesEntry 22 = .ok (.aload_n 0, 1) := by decide +kernel
theorem dX10_takesEntry_23 : decode cX10_takesEntry 23 = .ok (.getfield 96, 3) := by decide +kernel
theorem dX10_takesEntry_26 : decode cX10_takesEntry 26 = .ok (.aload_n 0, 1) := by decide +kernel
theorem dX10_takesEntry_27 : decode cX10_takesEntry 27 = .ok (.getfield 316, 3) := by decide +kernel
theorem dX10_takesEntry_30 : decode cX10_takesEntry 30 = .ok (.aload_n 0, 1) := by decide +kernel
theorem dX10_takesEntry_31 : decode cX10_takesEntry 31 = .ok (.getfield 93, 3) := by decide +kernel
theorem dX10_takesEntry_34 : decode cX10_takesEntry 34 = .ok (.aload_n 0, 1) := by decide +kernel
theorem dX10_takesEntry_35 : decode cX10_takesEntry 35 = .ok (.getfield 310, 3) := by decide +kernel
theorem dX10_takesEntry_38 : decode cX10_takesEntry 38 = .ok (.iaload, 1) := by decide +kernel
theorem dX10_takesEntry_39 : decode cX10_takesEntry 39 = .ok (.bipush 48, 2) := by decide +kernel
theorem dX10_takesEntry_41 : decode cX10_takesEntry 41 = .ok (.isub, 1) := by decide +kernel
theorem dX10_takesEntry_42 : decode cX10_takesEntry 42 = .ok (.iastore, 1) := by decide +kernel
theorem dX10_takesEntry_43 : decode cX10_takesEntry 43 = .ok (.goto 123, 3) := by decide +kernel
theorem dX10_takesEntry_46 : decode cX10_takesEntry 46 = .ok (.aload_n 0, 1) := by decide +kernel
theorem dX10_takesEntry_47 : decode cX10_takesEntry 47 = .ok (.bipush 97, 2) := by decide +kernel
theorem dX10_takesEntry_49 : decode cX10_takesEntry 49 = .ok (.bipush 102, 2) := by decide +kernel
theorem dX10_takesEntry_51 : decode cX10_takesEntry 51 = .ok (.invokevirtual 313, 3) := by decide +kernel
theorem dX10_takesEntry_54 : decode cX10_takesEntry 54 = .ok (.ifCond .ne 5, 3) := by decide +kernel
theorem dX10_takesEntry_57 : decode cX10_takesEntry 57 = .ok (.iconst 0, 1) := by decide +kernel
theorem dX10_takesEntry_58 : decode cX10_takesEntry 58 = .ok (.ireturn, 1) := by decide +kernel
theorem dX10_takesEntry_59 : decode cX10_takesEntry 59 = .ok (.aload_n 0, 1) := by decide +kernel
theorem dX10_takesEntry_60 : decode cX10_takesEntry 60 = .ok (.getfield 96, 3) := by decide +kernel
theorem dX10_takesEntry_63 : decode cX10_takesEntry 63 = .ok (.aload_n 0, 1) := by decide +kernel
theorem dX10_takesEntry_64 : decode cX10_takesEntry 64 = .ok (.getfield 316, 3) := by decide +kernel
theorem dX10_takesEntry_67 : decode cX10_takesEntry 67 = .ok (.iconst 0, 1) := by decide +kernel
theorem dX10_takesEntry_68 : decode cX10_takesEntry 68 = .ok (.iastore, 1) := by decide +kernel
theorem dX10_takesEntry_69 : decode cX10_takesEntry 69 = .ok (.aload_n 0, 1) := by decide +kernel
theorem dX10_takesEntry_70 : decode cX10_takesEntry 70 = .ok (.getfield 99, 3) := by decide +kernel
theorem dX10_takesEntry_73 : decode cX10_takesEntry 73 = .ok (.aload_n 0, 1) := by decide +kernel
theorem dX10_takesEntry_74 : decode cX10_takesEntry 74 = .ok (.getfield 316, 3) := by decide +kernel
theorem dX10_takesEntry_77 : decode cX10_takesEntry 77 = .ok (.aload_n 0, 1) := by decide +kernel
theorem dX10_takesEntry_78 : decode cX10_takesEntry 78 = .ok (.getfield 93, 3) := by decide +kernel
theorem dX10_takesEntry_81 : decode cX10_takesEntry 81 = .ok (.aload_n 0, 1) := by decide +kernel
theorem dX10_takesEntry_82 : decode cX10_takesEntry 82 = .ok (.getfield 310, 3) := by decide +kernel
theorem dX10_takesEntry_85 : decode cX10_takesEntry 85 = .ok (.iaload, 1) := by decide +kernel
theorem dX10_takesEntry_86 : decode cX10_takesEntry 86 = .ok (.bipush 97, 2) := by decide +kernel
theorem dX10_takesEntry_88 : decode cX10_takesEntry 88 = .ok (.isub, 1) := by decide +kernel
theorem dX10_takesEntry_89 : decode cX10_takesEntry 89 = .ok (.iastore, 1) := by decide +kernel
theorem dX10_takesEntry_90 : decode cX10_takesEntry 90 = .ok (.aload_n 0, 1) := by decide +kernel
theorem dX10_takesEntry_91 : decode cX10_takesEntry 91 = .ok (.dup, 1) := by decide +kernel
theorem dX10_takesEntry_92 : decode cX10_takesEntry 92 = .ok (.getfield 310, 3) := by decide +kernel
theorem dX10_takesEntry_95 : decode cX10_takesEntry 95 = .ok (.iconst 1, 1) := by decide +kernel
theorem dX10_takesEntry_96 : decode cX10_takesEntry 96 = .ok (.iadd, 1) := by decide +kernel
theorem dX10_takesEntry_97 : decode cX10_takesEntry 97 = .ok (.putfield 310, 3) := by decide +kernel
theorem dX10_takesEntry_100 : decode cX10_takesEntry 100 = .ok (.aload_n 0, 1) := by decide +kernel
theorem dX10_takesEntry_101 : decode cX10_takesEntry 101 = .ok (.invokevirtual 322, 3) := by decide +kernel
theorem dX10_takesEntry_104 : decode cX10_takesEntry 104 = .ok (.ifCond .eq 39, 3) := by decide +kernel
theorem dX10_takesEntry_107 : decode cX10_takesEntry 107 = .ok (.aload_n 0, 1) := by decide +kernel
theorem dX10_takesEntry_108 : decode cX10_takesEntry 108 = .ok (.bipush 58, 2) := by decide +kernel
theorem dX10_takesEntry_110 : decode cX10_takesEntry 110 = .ok (.invokevirtual 319, 3) := by decide +kernel
theorem dX10_takesEntry_113 : decode cX10_takesEntry 113 = .ok (.ifCond .eq 30, 3) := by decide +kernel
theorem dX10_takesEntry_116 : decode cX10_takesEntry 116 = .ok (.aload_n 0, 1) := by decide +kernel
theorem dX10_takesEntry_117 : decode cX10_takesEntry 117 = .ok (.invokevirtual 325, 3) := by decide +kernel
theorem dX10_takesEntry_120 : decode cX10_takesEntry 120 = .ok (.ifCond .eq 23, 3) := by decide +kernel
theorem dX10_takesEntry_123 : decode cX10_takesEntry 123 = .ok (.aload_n 0, 1) := by decide +kernel
theorem dX10_takesEntry_124 : decode cX10_takesEntry 124 = .ok (.bipush 42, 2) := by decide +kernel
theorem dX10_takesEntry_126 : decode cX10_takesEntry 126 = .ok (.invokevirtual 319, 3) := by decide +kernel
theorem dX10_takesEntry_129 : decode cX10_takesEntry 129 = .ok (.ifCond .eq 14, 3) := by decide +kernel
theorem dX10_takesEntry_132 : decode cX10_takesEntry 132 = .ok (.aload_n 0, 1) := by decide +kernel
theorem dX10_takesEntry_133 : decode cX10_takesEntry 133 = .ok (.bipush 49, 2) := by decide +kernel
theorem dX10_takesEntry_135 : decode cX10_takesEntry 135 = .ok (.bipush 57, 2) := by decide +kernel
theorem dX10_takesEntry_137 : decode cX10_takesEntry 137 = .ok (.invokevirtual 313, 3) := by decide +kernel
theorem dX10_takesEntry_140 : decode cX10_takesEntry 140 = .ok (.ifCond .ne 5, 3) := by decide +kernel
theorem dX10_takesEntry_143 : decode cX10_takesEntry 143 = .ok (.iconst 0, 1) := by decide +kernel
theorem dX10_takesEntry_144 : decode cX10_takesEntry 144 = .ok (.ireturn, 1) := by decide +kernel
theorem dX10_takesEntry_145 : decode cX10_takesEntry 145 = .ok (.aload_n 0, 1) := by decide +kernel
theorem dX10_takesEntry_146 : decode cX10_takesEntry 146 = .ok (.getfield 108, 3) := by decide +kernel
theorem dX10_takesEntry_149 : decode cX10_takesEntry 149 = .ok (.aload_n 0, 1) := by decide +kernel
theorem dX10_takesEntry_150 : decode cX10_takesEntry 150 = .ok (.getfield 316, 3) := by decide +kernel
theorem dX10_takesEntry_153 : decode cX10_takesEntry 153 = .ok (.aload_n 0, 1) := by decide +kernel
theorem dX10_takesEntry_154 : decode cX10_takesEntry 154 = .ok (.getfield 93, 3) := by decide +kernel
theorem dX10_takesEntry_157 : decode cX10_takesEntry 157 = .ok (.aload_n 0, 1) := by decide +kernel
theorem dX10_takesEntry_158 : decode cX10_takesEntry 158 = .ok (.getfield 310, 3) := by decide +kernel
theorem dX10_takesEntry_161 : decode cX10_takesEntry 161 = .ok (.iaload, 1) := by decide +kernel
theorem dX10_takesEntry_162 : decode cX10_takesEntry 162 = .ok (.bipush 48, 2) := by decide +kernel
theorem dX10_takesEntry_164 : decode cX10_takesEntry 164 = .ok (.isub, 1) := by decide +kernel
theorem dX10_takesEntry_165 : decode cX10_takesEntry 165 = .ok (.iastore, 1) := by decide +kernel
theorem dX10_takesEntry_166 : decode cX10_takesEntry 166 = .ok (.aload_n 0, 1) := by decide +kernel
theorem dX10_takesEntry_167 : decode cX10_takesEntry 167 = .ok (.dup, 1) := by decide +kernel
theorem dX10_takesEntry_168 : decode cX10_takesEntry 168 = .ok (.getfield 310, 3) := by decide +kernel
theorem dX10_takesEntry_171 : decode cX10_takesEntry 171 = .ok (.iconst 1, 1) := by decide +kernel
theorem dX10_takesEntry_172 : decode cX10_takesEntry 172 = .ok (.iadd, 1) := by decide +kernel
theorem dX10_takesEntry_173 : decode cX10_takesEntry 173 = .ok (.putfield 310, 3) := by decide +kernel
theorem dX10_takesEntry_176 : decode cX10_takesEntry 176 = .ok (.aload_n 0, 1) := by decide +kernel
theorem dX10_takesEntry_177 : decode cX10_takesEntry 177 = .ok (.dup, 1) := by decide +kernel
theorem dX10_takesEntry_178 : decode cX10_takesEntry 178 = .ok (.getfield 316, 3) := by decide +kernel
theorem dX10_takesEntry_181 : decode cX10_takesEntry 181 = .ok (.iconst 1, 1) := by decide +kernel
theorem dX10_takesEntry_182 : decode cX10_takesEntry 182 = .ok (.iadd, 1) := by decide +kernel
theorem dX10_takesEntry_183 : decode cX10_takesEntry 183 = .ok (.putfield 316, 3) := by decide +kernel
theorem dX10_takesEntry_186 : decode cX10_takesEntry 186 = .ok (.aload_n 0, 1) := by decide +kernel
theorem dX10_takesEntry_187 : decode cX10_takesEntry 187 = .ok (.bipush 59, 2) := by decide +kernel
theorem dX10_takesEntry_189 : decode cX10_takesEntry 189 = .ok (.invokevirtual 319, 3) := by decide +kernel
theorem dX10_takesEntry_192 : decode cX10_takesEntry 192 = .ok (.ireturn, 1) := by decide +kernel
theorem dX10_takesText_0 : decode cX10_takesText 0 = .ok (.aload_n 0, 1) := by decide +kernel
theorem dX10_takesText_1 : decode cX10_takesText 1 = .ok (.iconst 0, 1) := by decide +kernel
theorem dX10_takesText_2 : decode cX10_takesText 2 = .ok (.putfield 310, 3) := by decide +kernel
theorem dX10_takesText_5 : decode cX10_takesText 5 = .ok (.aload_n 0, 1) := by decide +kernel
theorem dX10_takesText_6 : decode cX10_takesText 6 = .ok (.iconst 0, 1) := by decide +kernel
theorem dX10_takesText_7 : decode cX10_takesText 7 = .ok (.putfield 316, 3) := by decide +kernel
theorem dX10_takesText_10 : decode cX10_takesText 10 = .ok (.aload_n 0, 1) := by decide +kernel
theorem dX10_takesText_11 : decode cX10_takesText 11 = .ok (.invokevirtual 328, 3) := by decide +kernel
theorem dX10_takesText_14 : decode cX10_takesText 14 = .ok (.ifCond .ne 5, 3) := by decide +kernel
theorem dX10_takesText_17 : decode cX10_takesText 17 = .ok (.iconst 0, 1) := by decide +kernel
theorem dX10_takesText_18 : decode cX10_takesText 18 = .ok (.ireturn, 1) := by decide +kernel
theorem dX10_takesText_19 : decode cX10_takesText 19 = .ok (.aload_n 0, 1) := by decide +kernel
theorem dX10_takesText_20 : decode cX10_takesText 20 = .ok (.getfield 310, 3) := by decide +kernel
theorem dX10_takesText_23 : decode cX10_takesText 23 = .ok (.aload_n 0, 1) := by decide +kernel
theorem dX10_takesText_24 : decode cX10_takesText 24 = .ok (.getfield 307, 3) := by decide +kernel
theorem dX10_takesText_27 : decode cX10_takesText 27 = .ok (.if_icmp .lt (-17), 3) := by decide +kernel
theorem dX10_takesText_30 : decode cX10_takesText 30 = .ok (.iconst 1, 1) := by decide +kernel
theorem dX10_takesText_31 : decode cX10_takesText 31 = .ok (.ireturn, 1) := by decide +kernel
theorem dX10_comesAll_0 : decode cX10_comesAll 0 = .ok (.iconst 0, 1) := by decide +kernel
theorem dX10_comesAll_1 : decode cX10_comesAll 1 = .ok (.istore_n 1, 1) := by decide +kernel
theorem dX10_comesAll_2 : decode cX10_comesAll 2 = .ok (.iload_n 1, 1) := by decide +kernel
theorem dX10_comesAll_3 : decode cX10_comesAll 3 = .ok (.aload_n 0, 1) := by decide +kernel
theorem dX10_comesAll_4 : decode cX10_comesAll 4 = .ok (.getfield 316, 3) := by decide +kernel
theorem dX10_comesAll_7 : decode cX10_comesAll 7 = .ok (.if_icmp .ge 94, 3) := by decide +kernel
theorem dX10_comesAll_10 : decode cX10_comesAll 10 = .ok (.aload_n 0, 1) := by decide +kernel
theorem dX10_comesAll_11 : decode cX10_comesAll 11 = .ok (.getfield 96, 3) := by decide +kernel
theorem dX10_comesAll_14 : decode cX10_comesAll 14 = .ok (.iload_n 1, 1) := by decide +kernel
theorem dX10_comesAll_15 : decode cX10_comesAll 15 = .ok (.iaload, 1) := by decide +kernel
theorem dX10_comesAll_16 : decode cX10_comesAll 16 = .ok (.ifCond .le 27, 3) := by decide +kernel
theorem dX10_comesAll_19 : decode cX10_comesAll 19 = .ok (.aload_n 0, 1) := by decide +kernel
theorem dX10_comesAll_20 : decode cX10_comesAll 20 = .ok (.getfield 120, 3) := by decide +kernel
theorem dX10_comesAll_23 : decode cX10_comesAll 23 = .ok (.bipush 10, 2) := by decide +kernel
theorem dX10_comesAll_25 : decode cX10_comesAll 25 = .ok (.if_icmp .ne 5, 3) := by decide +kernel
theorem dX10_comesAll_28 : decode cX10_comesAll 28 = .ok (.iconst 0, 1) := by decide +kernel
theorem dX10_comesAll_29 : decode cX10_comesAll 29 = .ok (.ireturn, 1) := by decide +kernel
theorem dX10_comesAll_30 : decode cX10_comesAll 30 = .ok (.aload_n 0, 1) := by decide +kernel
theorem dX10_comesAll_31 : decode cX10_comesAll 31 = .ok (.aload_n 0, 1) := by decide +kernel
theorem dX10_comesAll_32 : decode cX10_comesAll 32 = .ok (.getfield 96, 3) := by decide +kernel
theorem dX10_comesAll_35 : decode cX10_comesAll 35 = .ok (.iload_n 1, 1) := by decide +kernel
theorem dX10_comesAll_36 : decode cX10_comesAll 36 = .ok (.iaload, 1) := by decide +kernel
theorem dX10_comesAll_37 : decode cX10_comesAll 37 = .ok (.invokevirtual 210, 3) := by decide +kernel
theorem dX10_comesAll_40 : decode cX10_comesAll 40 = .ok (.goto 55, 3) := by decide +kernel
theorem dX10_comesAll_43 : decode cX10_comesAll 43 = .ok (.aload_n 0, 1) := by decide +kernel
theorem dX10_comesAll_44 : decode cX10_comesAll 44 = .ok (.getfield 123, 3) := by decide +kernel
theorem dX10_comesAll_47 : decode cX10_comesAll 47 = .ok (.bipush 20, 2) := by decide +kernel
theorem dX10_comesAll_49 : decode cX10_comesAll 49 = .ok (.if_icmp .eq 16, 3) := by decide +kernel
theorem dX10_comesAll_52 : decode cX10_comesAll 52 = .ok (.aload_n 0, 1) := by decide +kernel
theorem dX10_comesAll_53 : decode cX10_comesAll 53 = .ok (.aload_n 0, 1) := by decide +kernel
theorem dX10_comesAll_54 : decode cX10_comesAll 54 = .ok (.getfield 102, 3) := by decide +kernel
theorem dX10_comesAll_57 : decode cX10_comesAll 57 = .ok (.iload_n 1, 1) := by decide +kernel
theorem dX10_comesAll_58 : decode cX10_comesAll 58 = .ok (.iaload, 1) := by decide +kernel
theorem dX10_comesAll_59 : decode cX10_comesAll 59 = .ok (.invokevirtual 218, 3) := by decide +kernel
theorem dX10_comesAll_62 : decode cX10_comesAll 62 = .ok (.ifCond .ne 5, 3) := by decide +kernel
theorem dX10_comesAll_65 : decode cX10_comesAll 65 = .ok (.iconst 0, 1) := by decide +kernel
theorem dX10_comesAll_66 : decode cX10_comesAll 66 = .ok (.ireturn, 1) := by decide +kernel
theorem dX10_comesAll_67 : decode cX10_comesAll 67 = .ok (.aload_n 0, 1) := by decide +kernel
theorem dX10_comesAll_68 : decode cX10_comesAll 68 = .ok (.aload_n 0, 1) := by decide +kernel
theorem dX10_comesAll_69 : decode cX10_comesAll 69 = .ok (.getfield 99, 3) := by decide +kernel
theorem dX10_comesAll_72 : decode cX10_comesAll 72 = .ok (.iload_n 1, 1) := by decide +kernel
theorem dX10_comesAll_73 : decode cX10_comesAll 73 = .ok (.iaload, 1) := by decide +kernel
theorem dX10_comesAll_74 : decode cX10_comesAll 74 = .ok (.aload_n 0, 1) := by decide +kernel
theorem dX10_comesAll_75 : decode cX10_comesAll 75 = .ok (.getfield 102, 3) := by decide +kernel
theorem dX10_comesAll_78 : decode cX10_comesAll 78 = .ok (.iload_n 1, 1) := by decide +kernel
theorem dX10_comesAll_79 : decode cX10_comesAll 79 = .ok (.iaload, 1) := by decide +kernel
theorem dX10_comesAll_80 : decode cX10_comesAll 80 = .ok (.aload_n 0, 1) := by decide +kernel
theorem dX10_comesAll_81 : decode cX10_comesAll 81 = .ok (.getfield 105, 3) := by decide +kernel
theorem dX10_comesAll_84 : decode cX10_comesAll 84 = .ok (.iload_n 1, 1) := by decide +kernel
theorem dX10_comesAll_85 : decode cX10_comesAll 85 = .ok (.iaload, 1) := by decide +kernel
theorem dX10_comesAll_86 : decode cX10_comesAll 86 = .ok (.aload_n 0, 1) := by decide +kernel
theorem dX10_comesAll_87 : decode cX10_comesAll 87 = .ok (.getfield 108, 3) := by decide +kernel
theorem dX10_comesAll_90 : decode cX10_comesAll 90 = .ok (.iload_n 1, 1) := by decide +kernel
theorem dX10_comesAll_91 : decode cX10_comesAll 91 = .ok (.iaload, 1) := by decide +kernel
theorem dX10_comesAll_92 : decode cX10_comesAll 92 = .ok (.invokevirtual 224, 3) := by decide +kernel
theorem dX10_comesAll_95 : decode cX10_comesAll 95 = .ok (.iinc 1 1, 3) := by decide +kernel
theorem dX10_comesAll_98 : decode cX10_comesAll 98 = .ok (.goto (-96), 3) := by decide +kernel
theorem dX10_comesAll_101 : decode cX10_comesAll 101 = .ok (.iconst 1, 1) := by decide +kernel
theorem dX10_comesAll_102 : decode cX10_comesAll 102 = .ok (.ireturn, 1) := by decide +kernel
theorem dX10_read_0 : decode cX10_read 0 = .ok (.aload_n 0, 1) := by decide +kernel
theorem dX10_read_1 : decode cX10_read 1 = .ok (.invokevirtual 331, 3) := by decide +kernel
theorem dX10_read_4 : decode cX10_read 4 = .ok (.istore_n 1, 1) := by decide +kernel
theorem dX10_read_5 : decode cX10_read 5 = .ok (.aload_n 0, 1) := by decide +kernel
theorem dX10_read_6 : decode cX10_read 6 = .ok (.iconst 0, 1) := by decide +kernel
theorem dX10_read_7 : decode cX10_read 7 = .ok (.putfield 307, 3) := by decide +kernel
theorem dX10_read_10 : decode cX10_read 10 = .ok (.iload_n 1, 1) := by decide +kernel
theorem dX10_read_11 : decode cX10_read 11 = .ok (.ifCond .ne 17, 3) := by decide +kernel
theorem dX10_read_14 : decode cX10_read 14 = .ok (.aload_n 0, 1) := by decide +kernel
theorem dX10_read_15 : decode cX10_read 15 = .ok (.aload_n 0, 1) := by decide +kernel
theorem dX10_read_16 : decode cX10_read 16 = .ok (.getfield 310, 3) := by decide +kernel
theorem dX10_read_19 : decode cX10_read 19 = .ok (.putfield 111, 3) := by decide +kernel
theorem dX10_read_22 : decode cX10_read 22 = .ok (.aload_n 0, 1) := by decide +kernel
theorem dX10_read_23 : decode cX10_read 23 = .ok (.iconst 1, 1) := by decide +kernel
theorem dX10_read_24 : decode cX10_read 24 = .ok (.invokevirtual 203, 3) := by decide +kernel
theorem dX10_read_27 : decode cX10_read 27 = .ok (.ireturn, 1) := by decide +kernel
theorem dX10_read_28 : decode cX10_read 28 = .ok (.aload_n 0, 1) := by decide +kernel
theorem dX10_read_29 : decode cX10_read 29 = .ok (.aload_n 0, 1) := by decide +kernel
theorem dX10_read_30 : decode cX10_read 30 = .ok (.getfield 59, 3) := by decide +kernel
theorem dX10_read_33 : decode cX10_read 33 = .ok (.iconst 0, 1) := by decide +kernel
theorem dX10_read_34 : decode cX10_read 34 = .ok (.iconst 1, 1) := by decide +kernel
theorem dX10_read_35 : decode cX10_read 35 = .ok (.invokevirtual 192, 3) := by decide +kernel
theorem dX10_read_38 : decode cX10_read 38 = .ok (.aload_n 0, 1) := by decide +kernel
theorem dX10_read_39 : decode cX10_read 39 = .ok (.invokevirtual 334, 3) := by decide +kernel
theorem dX10_read_42 : decode cX10_read 42 = .ok (.ifCond .ne 19, 3) := by decide +kernel
theorem dX10_read_45 : decode cX10_read 45 = .ok (.aload_n 0, 1) := by decide +kernel
theorem dX10_read_46 : decode cX10_read 46 = .ok (.aload_n 0, 1) := by decide +kernel
theorem dX10_read_47 : decode cX10_read 47 = .ok (.getfield 59, 3) := by decide +kernel
theorem dX10_read_50 : decode cX10_read 50 = .ok (.iconst 0, 1) := by decide +kernel
theorem dX10_read_51 : decode cX10_read 51 = .ok (.iconst 0, 1) := by decide +kernel
theorem dX10_read_52 : decode cX10_read 52 = .ok (.invokevirtual 192, 3) := by decide +kernel
theorem dX10_read_55 : decode cX10_read 55 = .ok (.aload_n 0, 1) := by decide +kernel
theorem dX10_read_56 : decode cX10_read 56 = .ok (.iconst 2, 1) := by decide +kernel
theorem dX10_read_57 : decode cX10_read 57 = .ok (.invokevirtual 203, 3) := by decide +kernel
theorem dX10_read_60 : decode cX10_read 60 = .ok (.ireturn, 1) := by decide +kernel
theorem dX10_read_61 : decode cX10_read 61 = .ok (.aload_n 0, 1) := by decide +kernel
theorem dX10_read_62 : decode cX10_read 62 = .ok (.aload_n 0, 1) := by decide +kernel
theorem dX10_read_63 : decode cX10_read 63 = .ok (.getfield 62, 3) := by decide +kernel
theorem dX10_read_66 : decode cX10_read 66 = .ok (.iconst 0, 1) := by decide +kernel
theorem dX10_read_67 : decode cX10_read 67 = .ok (.iconst 1, 1) := by decide +kernel
theorem dX10_read_68 : decode cX10_read 68 = .ok (.invokevirtual 192, 3) := by decide +kernel
theorem dX10_read_71 : decode cX10_read 71 = .ok (.aload_n 0, 1) := by decide +kernel
theorem dX10_read_72 : decode cX10_read 72 = .ok (.aload_n 0, 1) := by decide +kernel
theorem dX10_read_73 : decode cX10_read 73 = .ok (.getfield 59, 3) := by decide +kernel
theorem dX10_read_76 : decode cX10_read 76 = .ok (.iconst 0, 1) := by decide +kernel
theorem dX10_read_77 : decode cX10_read 77 = .ok (.iconst 0, 1) := by decide +kernel
theorem dX10_read_78 : decode cX10_read 78 = .ok (.invokevirtual 192, 3) := by decide +kernel
theorem dX10_read_81 : decode cX10_read 81 = .ok (.aload_n 0, 1) := by decide +kernel
theorem dX10_read_82 : decode cX10_read 82 = .ok (.invokevirtual 207, 3) := by decide +kernel
theorem dX10_read_85 : decode cX10_read 85 = .ok (.aload_n 0, 1) := by decide +kernel
theorem dX10_read_86 : decode cX10_read 86 = .ok (.aload_n 0, 1) := by decide +kernel
theorem dX10_read_87 : decode cX10_read 87 = .ok (.getfield 62, 3) := by decide +kernel
theorem dX10_read_90 : decode cX10_read 90 = .ok (.iconst 0, 1) := by decide +kernel
theorem dX10_read_91 : decode cX10_read 91 = .ok (.iconst 0, 1) := by decide +kernel
theorem dX10_read_92 : decode cX10_read 92 = .ok (.invokevirtual 192, 3) := by decide +kernel
theorem dX10_read_95 : decode cX10_read 95 = .ok (.aload_n 0, 1) := by decide +kernel
theorem dX10_read_96 : decode cX10_read 96 = .ok (.iconst 0, 1) := by decide +kernel
theorem dX10_read_97 : decode cX10_read 97 = .ok (.putfield 117, 3) := by decide +kernel
theorem dX10_read_100 : decode cX10_read 100 = .ok (.aload_n 0, 1) := by decide +kernel
theorem dX10_read_101 : decode cX10_read 101 = .ok (.invokevirtual 196, 3) := by decide +kernel
theorem dX10_read_104 : decode cX10_read 104 = .ok (.aload_n 0, 1) := by decide +kernel
theorem dX10_read_105 : decode cX10_read 105 = .ok (.getfield 316, 3) := by decide +kernel
theorem dX10_read_108 : decode cX10_read 108 = .ok (.ireturn, 1) := by decide +kernel
theorem dX10_errorPosition_0 : decode cX10_errorPosition 0 = .ok (.aload_n 0, 1) := by decide +kernel
theorem dX10_errorPosition_1 : decode cX10_errorPosition 1 = .ok (.getfield 111, 3) := by decide +kernel
theorem dX10_errorPosition_4 : decode cX10_errorPosition 4 = .ok (.ifCond .ge 9, 3) := by decide +kernel
theorem dX10_errorPosition_7 : decode cX10_errorPosition 7 = .ok (.aload_n 0, 1) := by decide +kernel
theorem dX10_errorPosition_8 : decode cX10_errorPosition 8 = .ok (.iconst 1, 1) := by decide +kernel
theorem dX10_errorPosition_9 : decode cX10_errorPosition 9 = .ok (.invokevirtual 203, 3) := by decide +kernel
theorem dX10_errorPosition_12 : decode cX10_errorPosition 12 = .ok (.ireturn, 1) := by decide +kernel
theorem dX10_errorPosition_13 : decode cX10_errorPosition 13 = .ok (.aload_n 0, 1) := by decide +kernel
theorem dX10_errorPosition_14 : decode cX10_errorPosition 14 = .ok (.iconst 0, 1) := by decide +kernel
theorem dX10_errorPosition_15 : decode cX10_errorPosition 15 = .ok (.putfield 117, 3) := by decide +kernel
theorem dX10_errorPosition_18 : decode cX10_errorPosition 18 = .ok (.aload_n 0, 1) := by decide +kernel
theorem dX10_errorPosition_19 : decode cX10_errorPosition 19 = .ok (.getfield 111, 3) := by decide +kernel
theorem dX10_errorPosition_22 : decode cX10_errorPosition 22 = .ok (.ireturn, 1) := by decide +kernel
theorem dX10_tells_0 : decode cX10_tells 0 = .ok (.aload_n 0, 1) := by decide +kernel
theorem dX10_tells_1 : decode cX10_tells 1 = .ok (.getfield 114, 3) := by decide +kernel
theorem dX10_tells_4 : decode cX10_tells 4 = .ok (.aload_n 0, 1) := by decide +kernel
theorem dX10_tells_5 : decode cX10_tells 5 = .ok (.getfield 337, 3) := by decide +kernel
theorem dX10_tells_8 : decode cX10_tells 8 = .ok (.iload_n 1, 1) := by decide +kernel
theorem dX10_tells_9 : decode cX10_tells 9 = .ok (.iastore, 1) := by decide +kernel
theorem dX10_tells_10 : decode cX10_tells 10 = .ok (.aload_n 0, 1) := by decide +kernel
theorem dX10_tells_11 : decode cX10_tells 11 = .ok (.dup, 1) := by decide +kernel
theorem dX10_tells_12 : decode cX10_tells 12 = .ok (.getfield 337, 3) := by decide +kernel
theorem dX10_tells_15 : decode cX10_tells 15 = .ok (.iconst 1, 1) := by decide +kernel
theorem dX10_tells_16 : decode cX10_tells 16 = .ok (.iadd, 1) := by decide +kernel
theorem dX10_tells_17 : decode cX10_tells 17 = .ok (.putfield 337, 3) := by decide +kernel
theorem dX10_tells_20 : decode cX10_tells 20 = .ok (.return_, 1) := by decide +kernel
theorem dX10_findTold_0 : decode cX10_findTold 0 = .ok (.aload_n 0, 1) := by decide +kernel
theorem dX10_findTold_1 : decode cX10_findTold 1 = .ok (.iconst 0, 1) := by decide +kernel
theorem dX10_findTold_2 : decode cX10_findTold 2 = .ok (.putfield 337, 3) := by decide +kernel
theorem dX10_findTold_5 : decode cX10_findTold 5 = .ok (.aload_n 0, 1) := by decide +kernel
theorem dX10_findTold_6 : decode cX10_findTold 6 = .ok (.bipush 97, 2) := by decide +kernel
theorem dX10_findTold_8 : decode cX10_findTold 8 = .ok (.aload_n 0, 1) := by decide +kernel
theorem dX10_findTold_9 : decode cX10_findTold 9 = .ok (.getfield 16, 3) := by decide +kernel
theorem dX10_findTold_12 : decode cX10_findTold 12 = .ok (.iload_n 1, 1) := by decide +kernel
theorem dX10_findTold_13 : decode cX10_findTold 13 = .ok (.iaload, 1) := by decide +kernel
theorem dX10_findTold_14 : decode cX10_findTold 14 = .ok (.iadd, 1) := by decide +kernel
theorem dX10_findTold_15 : decode cX10_findTold 15 = .ok (.invokevirtual 340, 3) := by decide +kernel
theorem dX10_findTold_18 : decode cX10_findTold 18 = .ok (.iconst 0, 1) := by decide +kernel
theorem dX10_findTold_19 : decode cX10_findTold 19 = .ok (.istore_n 2, 1) := by decide +kernel
theorem dX10_findTold_20 : decode cX10_findTold 20 = .ok (.iload_n 2, 1) := by decide +kernel
theorem dX10_findTold_21 : decode cX10_findTold 21 = .ok (.bipush 10, 2) := by decide +kernel
theorem dX10_findTold_23 : decode cX10_findTold 23 = .ok (.if_icmp .ge 30, 3) := by decide +kernel
theorem dX10_findTold_26 : decode cX10_findTold 26 = .ok (.aload_n 0, 1) := by decide +kernel
theorem dX10_findTold_27 : decode cX10_findTold 27 = .ok (.getfield 19, 3) := by decide +kernel
theorem dX10_findTold_30 : decode cX10_findTold 30 = .ok (.iload_n 1, 1) := by decide +kernel
theorem dX10_findTold_31 : decode cX10_findTold 31 = .ok (.iaload, 1) := by decide +kernel
theorem dX10_findTold_32 : decode cX10_findTold 32 = .ok (.iload_n 2, 1) := by decide +kernel
theorem dX10_findTold_33 : decode cX10_findTold 33 = .ok (.invokestatic 126, 3) := by decide +kernel
theorem dX10_findTold_36 : decode cX10_findTold 36 = .ok (.ifCond .eq 11, 3) := by decide +kernel
theorem dX10_findTold_39 : decode cX10_findTold 39 = .ok (.aload_n 0, 1) := by decide +kernel
theorem dX10_findTold_40 : decode cX10_findTold 40 = .ok (.bipush 48, 2) := by decide +kernel
theorem dX10_findTold_42 : decode cX10_findTold 42 = .ok (.iload_n 2, 1) := by decide +kernel
theorem dX10_findTold_43 : decode cX10_findTold 43 = .ok (.iadd, 1) := by decide +kernel
theorem dX10_findTold_44 : decode cX10_findTold 44 = .ok (.invokevirtual 340, 3) := by decide +kernel
theorem dX10_findTold_47 : decode cX10_findTold 47 = .ok (.iinc 2 1, 3) := by decide +kernel
theorem dX10_findTold_50 : decode cX10_findTold 50 = .ok (.goto (-30), 3) := by decide +kernel
theorem dX10_findTold_53 : decode cX10_findTold 53 = .ok (.aload_n 0, 1) := by decide +kernel
theorem dX10_findTold_54 : decode cX10_findTold 54 = .ok (.bipush 58, 2) := by decide +kernel
theorem dX10_findTold_56 : decode cX10_findTold 56 = .ok (.invokevirtual 340, 3) := by decide +kernel
theorem dX10_findTold_59 : decode cX10_findTold 59 = .ok (.aload_n 0, 1) := by decide +kernel
theorem dX10_findTold_60 : decode cX10_findTold 60 = .ok (.getfield 22, 3) := by decide +kernel
theorem dX10_findTold_63 : decode cX10_findTold 63 = .ok (.iload_n 1, 1) := by decide +kernel
theorem dX10_findTold_64 : decode cX10_findTold 64 = .ok (.iaload, 1) := by decide +kernel
theorem dX10_findTold_65 : decode cX10_findTold 65 = .ok (.ifCond .ge 13, 3) := by decide +kernel
theorem dX10_findTold_68 : decode cX10_findTold 68 = .ok (.aload_n 0, 1) := by decide +kernel
theorem dX10_findTold_69 : decode cX10_findTold 69 = .ok (.getfield 22, 3) := by decide +kernel
theorem dX10_findTold_72 : decode cX10_findTold 72 = .ok (.iload_n 1, 1) := by decide +kernel
theorem dX10_findTold_73 : decode cX10_findTold 73 = .ok (.iaload, 1) := by decide +kernel
theorem dX10_findTold_74 : decode cX10_findTold 74 = .ok (.ineg, 1) := by decide +kernel
theorem dX10_findTold_75 : decode cX10_findTold 75 = .ok (.goto 9, 3) := by decide +kernel
theorem dX10_findTold_78 : decode cX10_findTold 78 = .ok (.aload_n 0, 1) := by decide +kernel
theorem dX10_findTold_79 : decode cX10_findTold 79 = .ok (.getfield 22, 3) := by decide +kernel
theorem dX10_findTold_82 : decode cX10_findTold 82 = .ok (.iload_n 1, 1) := by decide +kernel
theorem dX10_findTold_83 : decode cX10_findTold 83 = .ok (.iaload, 1) := by decide +kernel
theorem dX10_findTold_84 : decode cX10_findTold 84 = .ok (.istore_n 2, 1) := by decide +kernel
theorem dX10_findTold_85 : decode cX10_findTold 85 = .ok (.aload_n 0, 1) := by decide +kernel
theorem dX10_findTold_86 : decode cX10_findTold 86 = .ok (.getfield 22, 3) := by decide +kernel
theorem dX10_findTold_89 : decode cX10_findTold 89 = .ok (.iload_n 1, 1) := by decide +kernel
theorem dX10_findTold_90 : decode cX10_findTold 90 = .ok (.iaload, 1) := by decide +kernel
theorem dX10_findTold_91 : decode cX10_findTold 91 = .ok (.ifCond .ge 9, 3) := by decide +kernel
theorem dX10_findTold_94 : decode cX10_findTold 94 = .ok (.aload_n 0, 1) := by decide +kernel
theorem dX10_findTold_95 : decode cX10_findTold 95 = .ok (.bipush 45, 2) := by decide +kernel
theorem dX10_findTold_97 : decode cX10_findTold 97 = .ok (.invokevirtual 340, 3) := by decide +kernel
theorem dX10_findTold_100 : decode cX10_findTold 100 = .ok (.iload_n 2, 1) := by decide +kernel
theorem dX10_findTold_101 : decode cX10_findTold 101 = .ok (.bipush 9, 2) := by decide +kernel
theorem dX10_findTold_103 : decode cX10_findTold 103 = .ok (.if_icmp .le 14, 3) := by decide +kernel
theorem dX10_findTold_106 : decode cX10_findTold 106 = .ok (.aload_n 0, 1) := by decide +kernel
theorem dX10_findTold_107 : decode cX10_findTold 107 = .ok (.bipush 48, 2) := by decide +kernel
theorem dX10_findTold_109 : decode cX10_findTold 109 = .ok (.iload_n 2, 1) := by decide +kernel
theorem dX10_findTold_110 : decode cX10_findTold 110 = .ok (.bipush 10, 2) := by decide +kernel
theorem dX10_findTold_112 : decode cX10_findTold 112 = .ok (.idiv, 1) := by decide +kernel
theorem dX10_findTold_113 : decode cX10_findTold 113 = .ok (.iadd, 1) := by decide +kernel
theorem dX10_findTold_114 : decode cX10_findTold 114 = .ok (.invokevirtual 340, 3) := by decide +kernel
theorem dX10_findTold_117 : decode cX10_findTold 117 = .ok (.aload_n 0, 1) := by decide +kernel
theorem dX10_findTold_118 : decode cX10_findTold 118 = .ok (.bipush 48, 2) := by decide +kernel
theorem dX10_findTold_120 : decode cX10_findTold 120 = .ok (.iload_n 2, 1) := by decide +kernel
theorem dX10_findTold_121 : decode cX10_findTold 121 = .ok (.bipush 10, 2) := by decide +kernel
theorem dX10_findTold_123 : decode cX10_findTold 123 = .ok (.irem, 1) := by decide +kernel
theorem dX10_findTold_124 : decode cX10_findTold 124 = .ok (.iadd, 1) := by decide +kernel
theorem dX10_findTold_125 : decode cX10_findTold 125 = .ok (.invokevirtual 340, 3) := by decide +kernel
theorem dX10_findTold_128 : decode cX10_findTold 128 = .ok (.aload_n 0, 1) := by decide +kernel
theorem dX10_findTold_129 : decode cX10_findTold 129 = .ok (.bipush 42, 2) := by decide +kernel
theorem dX10_findTold_131 : decode cX10_findTold 131 = .ok (.invokevirtual 340, 3) := by decide +kernel
theorem dX10_findTold_134 : decode cX10_findTold 134 = .ok (.aload_n 0, 1) := by decide +kernel
theorem dX10_findTold_135 : decode cX10_findTold 135 = .ok (.bipush 48, 2) := by decide +kernel
theorem dX10_findTold_137 : decode cX10_findTold 137 = .ok (.aload_n 0, 1) := by decide +kernel
theorem dX10_findTold_138 : decode cX10_findTold 138 = .ok (.getfield 25, 3) := by decide +kernel
theorem dX10_findTold_141 : decode cX10_findTold 141 = .ok (.iload_n 1, 1) := by decide +kernel
theorem dX10_findTold_142 : decode cX10_findTold 142 = .ok (.iaload, 1) := by decide +kernel
theorem dX10_findTold_143 : decode cX10_findTold 143 = .ok (.iadd, 1) := by decide +kernel
theorem dX10_findTold_144 : decode cX10_findTold 144 = .ok (.invokevirtual 340, 3) := by decide +kernel
theorem dX10_findTold_147 : decode cX10_findTold 147 = .ok (.aload_n 0, 1) := by decide +kernel
theorem dX10_findTold_148 : decode cX10_findTold 148 = .ok (.bipush 59, 2) := by decide +kernel
theorem dX10_findTold_150 : decode cX10_findTold 150 = .ok (.invokevirtual 340, 3) := by decide +kernel
theorem dX10_findTold_153 : decode cX10_findTold 153 = .ok (.return_, 1) := by decide +kernel
theorem dX10_describe_0 : decode cX10_describe 0 = .ok (.aload_n 0, 1) := by decide +kernel
theorem dX10_describe_1 : decode cX10_describe 1 = .ok (.iload_n 1, 1) := by decide +kernel
theorem dX10_describe_2 : decode cX10_describe 2 = .ok (.invokevirtual 228, 3) := by decide +kernel
theorem dX10_describe_5 : decode cX10_describe 5 = .ok (.ifCond .ne 9, 3) := by decide +kernel
theorem dX10_describe_8 : decode cX10_describe 8 = .ok (.aload_n 0, 1) := by decide +kernel
theorem dX10_describe_9 : decode cX10_describe 9 = .ok (.iconst 1, 1) := by decide +kernel
theorem dX10_describe_10 : decode cX10_describe 10 = .ok (.invokevirtual 203, 3) := by decide +kernel
theorem dX10_describe_13 : decode cX10_describe 13 = .ok (.ireturn, 1) := by decide +kernel
theorem dX10_describe_14 : decode cX10_describe 14 = .ok (.aload_n 0, 1) := by decide +kernel
theorem dX10_describe_15 : decode cX10_describe 15 = .ok (.iload_n 1, 1) := by decide +kernel
theorem dX10_describe_16 : decode cX10_describe 16 = .ok (.invokevirtual 343, 3) := by decide +kernel
theorem dX10_describe_19 : decode cX10_describe 19 = .ok (.iload_n 2, 1) := by decide +kernel
theorem dX10_describe_20 : decode cX10_describe 20 = .ok (.iconst (-1), 1) := by decide +kernel
theorem dX10_describe_21 : decode cX10_describe 21 = .ok (.aload_n 0, 1) := by decide +kernel
theorem dX10_describe_22 : decode cX10_describe 22 = .ok (.getfield 337, 3) := by decide +kernel
theorem dX10_describe_25 : decode cX10_describe 25 = .ok (.iconst 1, 1) := by decide +kernel
theorem dX10_describe_26 : decode cX10_describe 26 = .ok (.isub, 1) := by decide +kernel
theorem dX10_describe_27 : decode cX10_describe 27 = .ok (.invokestatic 199, 3) := by decide +kernel
theorem dX10_describe_30 : decode cX10_describe 30 = .ok (.ifCond .ne 9, 3) := by decide +kernel
theorem dX10_describe_33 : decode cX10_describe 33 = .ok (.aload_n 0, 1) := by decide +kernel
theorem dX10_describe_34 : decode cX10_describe 34 = .ok (.iconst 2, 1) := by decide +kernel
theorem dX10_describe_35 : decode cX10_describe 35 = .ok (.invokevirtual 203, 3) := by decide +kernel
theorem dX10_describe_38 : decode cX10_describe 38 = .ok (.ireturn, 1) := by decide +kernel
theorem dX10_describe_39 : decode cX10_describe 39 = .ok (.aload_n 0, 1) := by decide +kernel
theorem dX10_describe_40 : decode cX10_describe 40 = .ok (.iconst 0, 1) := by decide +kernel
theorem dX10_describe_41 : decode cX10_describe 41 = .ok (.putfield 117, 3) := by decide +kernel
theorem dX10_describe_44 : decode cX10_describe 44 = .ok (.iload_n 2, 1) := by decide +kernel
theorem dX10_describe_45 : decode cX10_describe 45 = .ok (.ifCond .ge 10, 3) := by decide +kernel
theorem dX10_describe_48 : decode cX10_describe 48 = .ok (.aload_n 0, 1) := by decide +kernel
theorem dX10_describe_49 : decode cX10_describe 49 = .ok (.getfield 337, 3) := by decide +kernel
theorem dX10_describe_52 : decode cX10_describe 52 = .ok (.goto 9, 3) := by decide +kernel
theorem dX10_describe_55 : decode cX10_describe 55 = .ok (.aload_n 0, 1) := by decide +kernel
theorem dX10_describe_56 : decode cX10_describe 56 = .ok (.getfield 114, 3) := by decide +kernel
theorem dX10_describe_59 : decode cX10_describe 59 = .ok (.iload_n 2, 1) := by decide +kernel
theorem dX10_describe_60 : decode cX10_describe 60 = .ok (.iaload, 1) := by decide +kernel
theorem dX10_describe_61 : decode cX10_describe 61 = .ok (.ireturn, 1) := by decide +kernel
theorem dX10_undo_0 : decode cX10_undo 0 = .ok (.aload_n 0, 1) := by decide +kernel
theorem dX10_undo_1 : decode cX10_undo 1 = .ok (.getfield 189, 3) := by decide +kernel
theorem dX10_undo_4 : decode cX10_undo 4 = .ok (.ifCond .ne 9, 3) := by decide +kernel
theorem dX10_undo_7 : decode cX10_undo 7 = .ok (.aload_n 0, 1) := by decide +kernel
theorem dX10_undo_8 : decode cX10_undo 8 = .ok (.iconst 1, 1) := by decide +kernel
theorem dX10_undo_9 : decode cX10_undo 9 = .ok (.invokevirtual 203, 3) := by decide +kernel
theorem dX10_undo_12 : decode cX10_undo 12 = .ok (.ireturn, 1) := by decide +kernel
theorem dX10_undo_13 : decode cX10_undo 13 = .ok (.aload_n 0, 1) := by decide +kernel
theorem dX10_undo_14 : decode cX10_undo 14 = .ok (.iconst 0, 1) := by decide +kernel
theorem dX10_undo_15 : decode cX10_undo 15 = .ok (.putfield 117, 3) := by decide +kernel
theorem dX10_undo_18 : decode cX10_undo 18 = .ok (.aload_n 0, 1) := by decide +kernel
theorem dX10_undo_19 : decode cX10_undo 19 = .ok (.dup, 1) := by decide +kernel
theorem dX10_undo_20 : decode cX10_undo 20 = .ok (.getfield 189, 3) := by decide +kernel
theorem dX10_undo_23 : decode cX10_undo 23 = .ok (.iconst 1, 1) := by decide +kernel
theorem dX10_undo_24 : decode cX10_undo 24 = .ok (.isub, 1) := by decide +kernel
theorem dX10_undo_25 : decode cX10_undo 25 = .ok (.putfield 189, 3) := by decide +kernel
theorem dX10_undo_28 : decode cX10_undo 28 = .ok (.aload_n 0, 1) := by decide +kernel
theorem dX10_undo_29 : decode cX10_undo 29 = .ok (.aload_n 0, 1) := by decide +kernel
theorem dX10_undo_30 : decode cX10_undo 30 = .ok (.getfield 53, 3) := by decide +kernel
theorem dX10_undo_33 : decode cX10_undo 33 = .ok (.bipush 104, 2) := by decide +kernel
theorem dX10_undo_35 : decode cX10_undo 35 = .ok (.aload_n 0, 1) := by decide +kernel
theorem dX10_undo_36 : decode cX10_undo 36 = .ok (.getfield 189, 3) := by decide +kernel
theorem dX10_undo_39 : decode cX10_undo 39 = .ok (.imul, 1) := by decide +kernel
theorem dX10_undo_40 : decode cX10_undo 40 = .ok (.iconst 0, 1) := by decide +kernel
theorem dX10_undo_41 : decode cX10_undo 41 = .ok (.invokevirtual 192, 3) := by decide +kernel
theorem dX10_undo_44 : decode cX10_undo 44 = .ok (.aload_n 0, 1) := by decide +kernel
theorem dX10_undo_45 : decode cX10_undo 45 = .ok (.invokevirtual 196, 3) := by decide +kernel
theorem dX10_undo_48 : decode cX10_undo 48 = .ok (.aload_n 0, 1) := by decide +kernel
theorem dX10_undo_49 : decode cX10_undo 49 = .ok (.getfield 189, 3) := by decide +kernel
theorem dX10_undo_52 : decode cX10_undo 52 = .ok (.ireturn, 1) := by decide +kernel
theorem dX10_save_0 : decode cX10_save 0 = .ok (.aload_n 0, 1) := by decide +kernel
theorem dX10_save_1 : decode cX10_save 1 = .ok (.iconst 0, 1) := by decide +kernel
theorem dX10_save_2 : decode cX10_save 2 = .ok (.putfield 117, 3) := by decide +kernel
theorem dX10_save_5 : decode cX10_save 5 = .ok (.aload_n 0, 1) := by decide +kernel
theorem dX10_save_6 : decode cX10_save 6 = .ok (.iconst 1, 1) := by decide +kernel
theorem dX10_save_7 : decode cX10_save 7 = .ok (.putfield 346, 3) := by decide +kernel
theorem dX10_save_10 : decode cX10_save 10 = .ok (.aload_n 0, 1) := by decide +kernel
theorem dX10_save_11 : decode cX10_save 11 = .ok (.aload_n 0, 1) := by decide +kernel
theorem dX10_save_12 : decode cX10_save 12 = .ok (.getfield 56, 3) := by decide +kernel
theorem dX10_save_15 : decode cX10_save 15 = .ok (.iconst 0, 1) := by decide +kernel
theorem dX10_save_16 : decode cX10_save 16 = .ok (.iconst 1, 1) := by decide +kernel
theorem dX10_save_17 : decode cX10_save 17 = .ok (.invokevirtual 192, 3) := by decide +kernel
theorem dX10_save_20 : decode cX10_save 20 = .ok (.aload_n 0, 1) := by decide +kernel
theorem dX10_save_21 : decode cX10_save 21 = .ok (.getfield 120, 3) := by decide +kernel
theorem dX10_save_24 : decode cX10_save 24 = .ok (.ireturn, 1) := by decide +kernel
theorem dX10_restore_0 : decode cX10_restore 0 = .ok (.aload_n 0, 1) := by decide +kernel
theorem dX10_restore_1 : decode cX10_restore 1 = .ok (.getfield 346, 3) := by decide +kernel
theorem dX10_restore_4 : decode cX10_restore 4 = .ok (.ifCond .ne 9, 3) := by decide +kernel
theorem dX10_restore_7 : decode cX10_restore 7 = .ok (.aload_n 0, 1) := by decide +kernel
theorem dX10_restore_8 : decode cX10_restore 8 = .ok (.iconst 1, 1) := by decide +kernel
theorem dX10_restore_9 : decode cX10_restore 9 = .ok (.invokevirtual 203, 3) := by decide +kernel
theorem dX10_restore_12 : decode cX10_restore 12 = .ok (.ireturn, 1) := by decide +kernel
theorem dX10_restore_13 : decode cX10_restore 13 = .ok (.aload_n 0, 1) := by decide +kernel
theorem dX10_restore_14 : decode cX10_restore 14 = .ok (.iconst 0, 1) := by decide +kernel
theorem dX10_restore_15 : decode cX10_restore 15 = .ok (.putfield 117, 3) := by decide +kernel
theorem dX10_restore_18 : decode cX10_restore 18 = .ok (.aload_n 0, 1) := by decide +kernel
theorem dX10_restore_19 : decode cX10_restore 19 = .ok (.aload_n 0, 1) := by decide +kernel
theorem dX10_restore_20 : decode cX10_restore 20 = .ok (.getfield 56, 3) := by decide +kernel
theorem dX10_restore_23 : decode cX10_restore 23 = .ok (.iconst 0, 1) := by decide +kernel
theorem dX10_restore_24 : decode cX10_restore 24 = .ok (.iconst 0, 1) := by decide +kernel
theorem dX10_restore_25 : decode cX10_restore 25 = .ok (.invokevirtual 192, 3) := by decide +kernel
theorem dX10_restore_28 : decode cX10_restore 28 = .ok (.aload_n 0, 1) := by decide +kernel
theorem dX10_restore_29 : decode cX10_restore 29 = .ok (.iconst 0, 1) := by decide +kernel
theorem dX10_restore_30 : decode cX10_restore 30 = .ok (.putfield 189, 3) := by decide +kernel
theorem dX10_restore_33 : decode cX10_restore 33 = .ok (.aload_n 0, 1) := by decide +kernel
theorem dX10_restore_34 : decode cX10_restore 34 = .ok (.invokevirtual 196, 3) := by decide +kernel
theorem dX10_restore_37 : decode cX10_restore 37 = .ok (.aload_n 0, 1) := by decide +kernel
theorem dX10_restore_38 : decode cX10_restore 38 = .ok (.getfield 120, 3) := by decide +kernel
theorem dX10_restore_41 : decode cX10_restore 41 = .ok (.ireturn, 1) := by decide +kernel
