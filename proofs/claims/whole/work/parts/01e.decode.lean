theorem dX7_parent_10 : decode cX7_parent 10 = .ok (.aload_n 0, 1) := by decide +kernel
theorem dX7_parent_11 : decode cX7_parent 11 = .ok (.iload_n 1, 1) := by decide +kernel
theorem dX7_parent_12 : decode cX7_parent 12 = .ok (.invokevirtual 184, 3) := by decide +kernel
theorem dX7_parent_15 : decode cX7_parent 15 = .ok (.ifCond .ne 6, 3) := by decide +kernel
theorem dX7_parent_18 : decode cX7_parent 18 = .ok (.bipush (-101), 2) := by decide +kernel
theorem dX7_parent_20 : decode cX7_parent 20 = .ok (.ireturn, 1) := by decide +kernel
theorem dX7_parent_21 : decode cX7_parent 21 = .ok (.iconst 0, 1) := by decide +kernel
theorem dX7_parent_22 : decode cX7_parent 22 = .ok (.istore_n 3, 1) := by decide +kernel
theorem dX7_parent_23 : decode cX7_parent 23 = .ok (.iconst 0, 1) := by decide +kernel
theorem dX7_parent_24 : decode cX7_parent 24 = .ok (.istore 4, 2) := by decide +kernel
theorem dX7_parent_26 : decode cX7_parent 26 = .ok (.iload 4, 2) := by decide +kernel
theorem dX7_parent_28 : decode cX7_parent 28 = .ok (.aload_n 0, 1) := by decide +kernel
theorem dX7_parent_29 : decode cX7_parent 29 = .ok (.getfield 84, 3) := by decide +kernel
theorem dX7_parent_32 : decode cX7_parent 32 = .ok (.if_icmp .ge 30, 3) := by decide +kernel
theorem dX7_parent_35 : decode cX7_parent 35 = .ok (.aload_n 0, 1) := by decide +kernel
theorem dX7_parent_36 : decode cX7_parent 36 = .ok (.iload_n 1, 1) := by decide +kernel
theorem dX7_parent_37 : decode cX7_parent 37 = .ok (.iload 4, 2) := by decide +kernel
theorem dX7_parent_39 : decode cX7_parent 39 = .ok (.invokevirtual 193, 3) := by decide +kernel
theorem dX7_parent_42 : decode cX7_parent 42 = .ok (.ifCond .eq 14, 3) := by decide +kernel
theorem dX7_parent_45 : decode cX7_parent 45 = .ok (.iload_n 3, 1) := by decide +kernel
theorem dX7_parent_46 : decode cX7_parent 46 = .ok (.iload_n 2, 1) := by decide +kernel
theorem dX7_parent_47 : decode cX7_parent 47 = .ok (.if_icmp .ne 6, 3) := by decide +kernel
theorem dX7_parent_50 : decode cX7_parent 50 = .ok (.iload 4, 2) := by decide +kernel
theorem dX7_parent_52 : decode cX7_parent 52 = .ok (.ireturn, 1) := by decide +kernel
theorem dX7_parent_53 : decode cX7_parent 53 = .ok (.iinc 3 1, 3) := by decide +kernel
theorem dX7_parent_56 : decode cX7_parent 56 = .ok (.iinc 4 1, 3) := by decide +kernel
theorem dX7_parent_59 : decode cX7_parent 59 = .ok (.goto (-33), 3) := by decide +kernel
theorem dX7_parent_62 : decode cX7_parent 62 = .ok (.iconst (-1), 1) := by decide +kernel
theorem dX7_parent_63 : decode cX7_parent 63 = .ok (.ireturn, 1) := by decide +kernel
theorem dX7_broken_0 : decode cX7_broken 0 = .ok (.aload_n 0, 1) := by decide +kernel
theorem dX7_broken_1 : decode cX7_broken 1 = .ok (.getfield 92, 3) := by decide +kernel
theorem dX7_broken_4 : decode cX7_broken 4 = .ok (.ifCond .ne 8, 3) := by decide +kernel
theorem dX7_broken_7 : decode cX7_broken 7 = .ok (.bipush (-103), 2) := by decide +kernel
theorem dX7_broken_9 : decode cX7_broken 9 = .ok (.goto 18, 3) := by decide +kernel
theorem dX7_broken_12 : decode cX7_broken 12 = .ok (.aload_n 0, 1) := by decide +kernel
theorem dX7_broken_13 : decode cX7_broken 13 = .ok (.getfield 39, 3) := by decide +kernel
theorem dX7_broken_16 : decode cX7_broken 16 = .ok (.iconst 1, 1) := by decide +kernel
theorem dX7_broken_17 : decode cX7_broken 17 = .ok (.iaload, 1) := by decide +kernel
theorem dX7_broken_18 : decode cX7_broken 18 = .ok (.iconst (-1), 1) := by decide +kernel
theorem dX7_broken_19 : decode cX7_broken 19 = .ok (.if_icmp .eq 7, 3) := by decide +kernel
theorem dX7_broken_22 : decode cX7_broken 22 = .ok (.iconst 1, 1) := by decide +kernel
theorem dX7_broken_23 : decode cX7_broken 23 = .ok (.goto 4, 3) := by decide +kernel
theorem dX7_broken_26 : decode cX7_broken 26 = .ok (.iconst 0, 1) := by decide +kernel
theorem dX7_broken_27 : decode cX7_broken 27 = .ok (.ireturn, 1) := by decide +kernel
theorem dX7_makeHouse_0 : decode cX7_makeHouse 0 = .ok (.iconst 0, 1) := by decide +kernel
theorem dX7_makeHouse_1 : decode cX7_makeHouse 1 = .ok (.istore_n 1, 1) := by decide +kernel
theorem dX7_makeHouse_2 : decode cX7_makeHouse 2 = .ok (.iload_n 1, 1) := by decide +kernel
theorem dX7_makeHouse_3 : decode cX7_makeHouse 3 = .ok (.aload_n 0, 1) := by decide +kernel
theorem dX7_makeHouse_4 : decode cX7_makeHouse 4 = .ok (.getfield 84, 3) := by decide +kernel
theorem dX7_makeHouse_7 : decode cX7_makeHouse 7 = .ok (.if_icmp .ge 43, 3) := by decide +kernel
theorem dX7_makeHouse_10 : decode cX7_makeHouse 10 = .ok (.aload_n 0, 1) := by decide +kernel
theorem dX7_makeHouse_11 : decode cX7_makeHouse 11 = .ok (.getfield 75, 3) := by decide +kernel
theorem dX7_makeHouse_14 : decode cX7_makeHouse 14 = .ok (.iload_n 1, 1) := by decide +kernel
theorem dX7_makeHouse_15 : decode cX7_makeHouse 15 = .ok (.aload_n 0, 1) := by decide +kernel
theorem dX7_makeHouse_16 : decode cX7_makeHouse 16 = .ok (.iload_n 1, 1) := by decide +kernel
theorem dX7_makeHouse_17 : decode cX7_makeHouse 17 = .ok (.invokevirtual 196, 3) := by decide +kernel
theorem dX7_makeHouse_20 : decode cX7_makeHouse 20 = .ok (.ifCond .eq 22, 3) := by decide +kernel
theorem dX7_makeHouse_23 : decode cX7_makeHouse 23 = .ok (.aload_n 0, 1) := by decide +kernel
theorem dX7_makeHouse_24 : decode cX7_makeHouse 24 = .ok (.getfield 39, 3) := by decide +kernel
theorem dX7_makeHouse_27 : decode cX7_makeHouse 27 = .ok (.bipush 28, 2) := by decide +kernel
theorem dX7_makeHouse_29 : decode cX7_makeHouse 29 = .ok (.iload_n 1, 1) := by decide +kernel
theorem dX7_makeHouse_30 : decode cX7_makeHouse 30 = .ok (.imul, 1) := by decide +kernel
theorem dX7_makeHouse_31 : decode cX7_makeHouse 31 = .ok (.iconst 1, 1) := by decide +kernel
theorem dX7_makeHouse_32 : decode cX7_makeHouse 32 = .ok (.iadd, 1) := by decide +kernel
theorem dX7_makeHouse_33 : decode cX7_makeHouse 33 = .ok (.iaload, 1) := by decide +kernel
theorem dX7_makeHouse_34 : decode cX7_makeHouse 34 = .ok (.iconst (-1), 1) := by decide +kernel
theorem dX7_makeHouse_35 : decode cX7_makeHouse 35 = .ok (.if_icmp .ne 7, 3) := by decide +kernel
theorem dX7_makeHouse_38 : decode cX7_makeHouse 38 = .ok (.iconst 1, 1) := by decide +kernel
theorem dX7_makeHouse_39 : decode cX7_makeHouse 39 = .ok (.goto 4, 3) := by decide +kernel
theorem dX7_makeHouse_42 : decode cX7_makeHouse 42 = .ok (.iconst 0, 1) := by decide +kernel
theorem dX7_makeHouse_43 : decode cX7_makeHouse 43 = .ok (.bastore, 1) := by decide +kernel
theorem dX7_makeHouse_44 : decode cX7_makeHouse 44 = .ok (.iinc 1 1, 3) := by decide +kernel
theorem dX7_makeHouse_47 : decode cX7_makeHouse 47 = .ok (.goto (-45), 3) := by decide +kernel
theorem dX7_makeHouse_50 : decode cX7_makeHouse 50 = .ok (.iconst 0, 1) := by decide +kernel
theorem dX7_makeHouse_51 : decode cX7_makeHouse 51 = .ok (.istore_n 1, 1) := by decide +kernel
theorem dX7_makeHouse_52 : decode cX7_makeHouse 52 = .ok (.iload_n 1, 1) := by decide +kernel
theorem dX7_makeHouse_53 : decode cX7_makeHouse 53 = .ok (.aload_n 0, 1) := by decide +kernel
theorem dX7_makeHouse_54 : decode cX7_makeHouse 54 = .ok (.getfield 84, 3) := by decide +kernel
theorem dX7_makeHouse_57 : decode cX7_makeHouse 57 = .ok (.if_icmp .ge 147, 3) := by decide +kernel
theorem dX7_makeHouse_60 : decode cX7_makeHouse 60 = .ok (.iconst 0, 1) := by decide +kernel
theorem dX7_makeHouse_61 : decode cX7_makeHouse 61 = .ok (.istore_n 2, 1) := by decide +kernel
theorem dX7_makeHouse_62 : decode cX7_makeHouse 62 = .ok (.iload_n 2, 1) := by decide +kernel
theorem dX7_makeHouse_63 : decode cX7_makeHouse 63 = .ok (.iconst 4, 1) := by decide +kernel
theorem dX7_makeHouse_64 : decode cX7_makeHouse 64 = .ok (.if_icmp .ge 134, 3) := by decide +kernel
theorem dX7_makeHouse_67 : decode cX7_makeHouse 67 = .ok (.iconst 0, 1) := by decide +kernel
theorem dX7_makeHouse_68 : decode cX7_makeHouse 68 = .ok (.istore_n 3, 1) := by decide +kernel
theorem dX7_makeHouse_69 : decode cX7_makeHouse 69 = .ok (.iload_n 3, 1) := by decide +kernel
theorem dX7_makeHouse_70 : decode cX7_makeHouse 70 = .ok (.aload_n 0, 1) := by decide +kernel
theorem dX7_makeHouse_71 : decode cX7_makeHouse 71 = .ok (.getfield 84, 3) := by decide +kernel
theorem dX7_makeHouse_74 : decode cX7_makeHouse 74 = .ok (.if_icmp .ge 118, 3) := by decide +kernel
theorem dX7_makeHouse_77 : decode cX7_makeHouse 77 = .ok (.iconst 0, 1) := by decide +kernel
theorem dX7_makeHouse_78 : decode cX7_makeHouse 78 = .ok (.istore 4, 2) := by decide +kernel
theorem dX7_makeHouse_80 : decode cX7_makeHouse 80 = .ok (.iconst 0, 1) := by decide +kernel
theorem dX7_makeHouse_81 : decode cX7_makeHouse 81 = .ok (.istore 5, 2) := by decide +kernel
theorem dX7_makeHouse_83 : decode cX7_makeHouse 83 = .ok (.iload 5, 2) := by decide +kernel
theorem dX7_makeHouse_85 : decode cX7_makeHouse 85 = .ok (.iconst 4, 1) := by decide +kernel
theorem dX7_makeHouse_86 : decode cX7_makeHouse 86 = .ok (.if_icmp .ge 56, 3) := by decide +kernel
theorem dX7_makeHouse_89 : decode cX7_makeHouse 89 = .ok (.iload 4, 2) := by decide +kernel
theorem dX7_makeHouse_91 : decode cX7_makeHouse 91 = .ok (.ifCond .ne 38, 3) := by decide +kernel
theorem dX7_makeHouse_94 : decode cX7_makeHouse 94 = .ok (.aload_n 0, 1) := by decide +kernel
theorem dX7_makeHouse_95 : decode cX7_makeHouse 95 = .ok (.getfield 69, 3) := by decide +kernel
theorem dX7_makeHouse_98 : decode cX7_makeHouse 98 = .ok (.iconst 4, 1) := by decide +kernel
theorem dX7_makeHouse_99 : decode cX7_makeHouse 99 = .ok (.iload 5, 2) := by decide +kernel
theorem dX7_makeHouse_101 : decode cX7_makeHouse 101 = .ok (.imul, 1) := by decide +kernel
theorem dX7_makeHouse_102 : decode cX7_makeHouse 102 = .ok (.iload_n 2, 1) := by decide +kernel
theorem dX7_makeHouse_103 : decode cX7_makeHouse 103 = .ok (.iadd, 1) := by decide +kernel
theorem dX7_makeHouse_104 : decode cX7_makeHouse 104 = .ok (.baload, 1) := by decide +kernel
theorem dX7_makeHouse_105 : decode cX7_makeHouse 105 = .ok (.ifCond .eq 28, 3) := by decide +kernel
theorem dX7_makeHouse_108 : decode cX7_makeHouse 108 = .ok (.aload_n 0, 1) := by decide +kernel
theorem dX7_makeHouse_109 : decode cX7_makeHouse 109 = .ok (.getfield 42, 3) := by decide +kernel
theorem dX7_makeHouse_112 : decode cX7_makeHouse 112 = .ok (.bipush 112, 2) := by decide +kernel
theorem dX7_makeHouse_114 : decode cX7_makeHouse 114 = .ok (.iload_n 1, 1) := by decide +kernel
theorem dX7_makeHouse_115 : decode cX7_makeHouse 115 = .ok (.imul, 1) := by decide +kernel
theorem dX7_makeHouse_116 : decode cX7_makeHouse 116 = .ok (.bipush 28, 2) := by decide +kernel
theorem dX7_makeHouse_118 : decode cX7_makeHouse 118 = .ok (.iload 5, 2) := by decide +kernel
theorem dX7_makeHouse_120 : decode cX7_makeHouse 120 = .ok (.imul, 1) := by decide +kernel
theorem dX7_makeHouse_121 : decode cX7_makeHouse 121 = .ok (.iadd, 1) := by decide +kernel
theorem dX7_makeHouse_122 : decode cX7_makeHouse 122 = .ok (.iload_n 3, 1) := by decide +kernel
theorem dX7_makeHouse_123 : decode cX7_makeHouse 123 = .ok (.iadd, 1) := by decide +kernel
theorem dX7_makeHouse_124 : decode cX7_makeHouse 124 = .ok (.iaload, 1) := by decide +kernel
theorem dX7_makeHouse_125 : decode cX7_makeHouse 125 = .ok (.iconst (-1), 1) := by decide +kernel
theorem dX7_makeHouse_126 : decode cX7_makeHouse 126 = .ok (.if_icmp .eq 7, 3) := by decide +kernel
theorem dX7_makeHouse_129 : decode cX7_makeHouse 129 = .ok (.iconst 1, 1) := by decide +kernel
theorem dX7_makeHouse_130 : decode cX7_makeHouse 130 = .ok (.goto 4, 3) := by decide +kernel
theorem dX7_makeHouse_133 : decode cX7_makeHouse 133 = .ok (.iconst 0, 1) := by decide +kernel
theorem dX7_makeHouse_134 : decode cX7_makeHouse 134 = .ok (.istore 4, 2) := by decide +kernel
theorem dX7_makeHouse_136 : decode cX7_makeHouse 136 = .ok (.iinc 5 1, 3) := by decide +kernel
theorem dX7_makeHouse_139 : decode cX7_makeHouse 139 = .ok (.goto (-56), 3) := by decide +kernel
theorem dX7_makeHouse_142 : decode cX7_makeHouse 142 = .ok (.aload_n 0, 1) := by decide +kernel
theorem dX7_makeHouse_143 : decode cX7_makeHouse 143 = .ok (.getfield 78, 3) := by decide +kernel
theorem dX7_makeHouse_146 : decode cX7_makeHouse 146 = .ok (.bipush 112, 2) := by decide +kernel
theorem dX7_makeHouse_148 : decode cX7_makeHouse 148 = .ok (.iload_n 1, 1) := by decide +kernel
theorem dX7_makeHouse_149 : decode cX7_makeHouse 149 = .ok (.imul, 1) := by decide +kernel
theorem dX7_makeHouse_150 : decode cX7_makeHouse 150 = .ok (.bipush 28, 2) := by decide +kernel
theorem dX7_makeHouse_152 : decode cX7_makeHouse 152 = .ok (.iload_n 2, 1) := by decide +kernel
theorem dX7_makeHouse_153 : decode cX7_makeHouse 153 = .ok (.imul, 1) := by decide +kernel
theorem dX7_makeHouse_154 : decode cX7_makeHouse 154 = .ok (.iadd, 1) := by decide +kernel
theorem dX7_makeHouse_155 : decode cX7_makeHouse 155 = .ok (.iload_n 3, 1) := by decide +kernel
theorem dX7_makeHouse_156 : decode cX7_makeHouse 156 = .ok (.iadd, 1) := by decide +kernel
theorem dX7_makeHouse_157 : decode cX7_makeHouse 157 = .ok (.iload 4, 2) := by decide +kernel
theorem dX7_makeHouse_159 : decode cX7_makeHouse 159 = .ok (.ifCond .eq 25, 3) := by decide +kernel
theorem dX7_makeHouse_162 : decode cX7_makeHouse 162 = .ok (.aload_n 0, 1) := by decide +kernel
theorem dX7_makeHouse_163 : decode cX7_makeHouse 163 = .ok (.getfield 75, 3) := by decide +kernel
theorem dX7_makeHouse_166 : decode cX7_makeHouse 166 = .ok (.iload_n 1, 1) := by decide +kernel
theorem dX7_makeHouse_167 : decode cX7_makeHouse 167 = .ok (.baload, 1) := by decide +kernel
theorem dX7_makeHouse_168 : decode cX7_makeHouse 168 = .ok (.ifCond .eq 16, 3) := by decide +kernel
theorem dX7_makeHouse_171 : decode cX7_makeHouse 171 = .ok (.aload_n 0, 1) := by decide +kernel
theorem dX7_makeHouse_172 : decode cX7_makeHouse 172 = .ok (.getfield 75, 3) := by decide +kernel
theorem dX7_makeHouse_175 : decode cX7_makeHouse 175 = .ok (.iload_n 3, 1) := by decide +kernel
theorem dX7_makeHouse_176 : decode cX7_makeHouse 176 = .ok (.baload, 1) := by decide +kernel
theorem dX7_makeHouse_177 : decode cX7_makeHouse 177 = .ok (.ifCond .eq 7, 3) := by decide +kernel
theorem dX7_makeHouse_180 : decode cX7_makeHouse 180 = .ok (.iconst 1, 1) := by decide +kernel
theorem dX7_makeHouse_181 : decode cX7_makeHouse 181 = .ok (.goto 4, 3) := by decide +kernel
theorem dX7_makeHouse_184 : decode cX7_makeHouse 184 = .ok (.iconst 0, 1) := by decide +kernel
theorem dX7_makeHouse_185 : decode cX7_makeHouse 185 = .ok (.bastore, 1) := by decide +kernel
theorem dX7_makeHouse_186 : decode cX7_makeHouse 186 = .ok (.iinc 3 1, 3) := by decide +kernel
theorem dX7_makeHouse_189 : decode cX7_makeHouse 189 = .ok (.goto (-120), 3) := by decide +kernel
theorem dX7_makeHouse_192 : decode cX7_makeHouse 192 = .ok (.iinc 2 1, 3) := by decide +kernel
theorem dX7_makeHouse_195 : decode cX7_makeHouse 195 = .ok (.goto (-133), 3) := by decide +kernel
theorem dX7_makeHouse_198 : decode cX7_makeHouse 198 = .ok (.iinc 1 1, 3) := by decide +kernel
theorem dX7_makeHouse_201 : decode cX7_makeHouse 201 = .ok (.goto (-149), 3) := by decide +kernel
theorem dX7_makeHouse_204 : decode cX7_makeHouse 204 = .ok (.iconst 0, 1) := by decide +kernel
theorem dX7_makeHouse_205 : decode cX7_makeHouse 205 = .ok (.istore_n 1, 1) := by decide +kernel
theorem dX7_makeHouse_206 : decode cX7_makeHouse 206 = .ok (.iload_n 1, 1) := by decide +kernel
theorem dX7_makeHouse_207 : decode cX7_makeHouse 207 = .ok (.aload_n 0, 1) := by decide +kernel
theorem dX7_makeHouse_208 : decode cX7_makeHouse 208 = .ok (.getfield 84, 3) := by decide +kernel
theorem dX7_makeHouse_211 : decode cX7_makeHouse 211 = .ok (.if_icmp .ge 244, 3) := by decide +kernel
theorem dX7_makeHouse_214 : decode cX7_makeHouse 214 = .ok (.iconst 0, 1) := by decide +kernel
theorem dX7_makeHouse_215 : decode cX7_makeHouse 215 = .ok (.istore_n 2, 1) := by decide +kernel
theorem dX7_makeHouse_216 : decode cX7_makeHouse 216 = .ok (.iload_n 2, 1) := by decide +kernel
theorem dX7_makeHouse_217 : decode cX7_makeHouse 217 = .ok (.aload_n 0, 1) := by decide +kernel
theorem dX7_makeHouse_218 : decode cX7_makeHouse 218 = .ok (.getfield 84, 3) := by decide +kernel
theorem dX7_makeHouse_221 : decode cX7_makeHouse 221 = .ok (.if_icmp .ge 228, 3) := by decide +kernel
theorem dX7_makeHouse_224 : decode cX7_makeHouse 224 = .ok (.iconst 0, 1) := by decide +kernel
theorem dX7_makeHouse_225 : decode cX7_makeHouse 225 = .ok (.istore_n 3, 1) := by decide +kernel
theorem dX7_makeHouse_226 : decode cX7_makeHouse 226 = .ok (.aload_n 0, 1) := by decide +kernel
theorem dX7_makeHouse_227 : decode cX7_makeHouse 227 = .ok (.getfield 7, 3) := by decide +kernel
theorem dX7_makeHouse_230 : decode cX7_makeHouse 230 = .ok (.iload_n 1, 1) := by decide +kernel
theorem dX7_makeHouse_231 : decode cX7_makeHouse 231 = .ok (.iaload, 1) := by decide +kernel
theorem dX7_makeHouse_232 : decode cX7_makeHouse 232 = .ok (.ifCond .ne 8, 3) := by decide +kernel
theorem dX7_makeHouse_235 : decode cX7_makeHouse 235 = .ok (.iconst 1, 1) := by decide +kernel
theorem dX7_makeHouse_236 : decode cX7_makeHouse 236 = .ok (.istore_n 3, 1) := by decide +kernel
theorem dX7_makeHouse_237 : decode cX7_makeHouse 237 = .ok (.goto 177, 3) := by decide +kernel
theorem dX7_makeHouse_240 : decode cX7_makeHouse 240 = .ok (.aload_n 0, 1) := by decide +kernel
theorem dX7_makeHouse_241 : decode cX7_makeHouse 241 = .ok (.getfield 7, 3) := by decide +kernel
theorem dX7_makeHouse_244 : decode cX7_makeHouse 244 = .ok (.iload_n 1, 1) := by decide +kernel
theorem dX7_makeHouse_245 : decode cX7_makeHouse 245 = .ok (.iaload, 1) := by decide +kernel
theorem dX7_makeHouse_246 : decode cX7_makeHouse 246 = .ok (.iconst 2, 1) := by decide +kernel
theorem dX7_makeHouse_247 : decode cX7_makeHouse 247 = .ok (.if_icmp .ne 27, 3) := by decide +kernel
theorem dX7_makeHouse_250 : decode cX7_makeHouse 250 = .ok (.aload_n 0, 1) := by decide +kernel
theorem dX7_makeHouse_251 : decode cX7_makeHouse 251 = .ok (.getfield 39, 3) := by decide +kernel
theorem dX7_makeHouse_254 : decode cX7_makeHouse 254 = .ok (.bipush 28, 2) := by decide +kernel
theorem dX7_makeHouse_256 : decode cX7_makeHouse 256 = .ok (.iload_n 2, 1) := by decide +kernel
theorem dX7_makeHouse_257 : decode cX7_makeHouse 257 = .ok (.imul, 1) := by decide +kernel
theorem dX7_makeHouse_258 : decode cX7_makeHouse 258 = .ok (.iload_n 1, 1) := by decide +kernel
theorem dX7_makeHouse_259 : decode cX7_makeHouse 259 = .ok (.iadd, 1) := by decide +kernel
theorem dX7_makeHouse_260 : decode cX7_makeHouse 260 = .ok (.iaload, 1) := by decide +kernel
theorem dX7_makeHouse_261 : decode cX7_makeHouse 261 = .ok (.iconst (-1), 1) := by decide +kernel
theorem dX7_makeHouse_262 : decode cX7_makeHouse 262 = .ok (.if_icmp .eq 7, 3) := by decide +kernel
theorem dX7_makeHouse_265 : decode cX7_makeHouse 265 = .ok (.iconst 1, 1) := by decide +kernel
theorem dX7_makeHouse_266 : decode cX7_makeHouse 266 = .ok (.goto 4, 3) := by decide +kernel
theorem dX7_makeHouse_269 : decode cX7_makeHouse 269 = .ok (.iconst 0, 1) := by decide +kernel
theorem dX7_makeHouse_270 : decode cX7_makeHouse 270 = .ok (.istore_n 3, 1) := by decide +kernel
theorem dX7_makeHouse_271 : decode cX7_makeHouse 271 = .ok (.goto 143, 3) := by decide +kernel
theorem dX7_makeHouse_274 : decode cX7_makeHouse 274 = .ok (.aload_n 0, 1) := by decide +kernel
theorem dX7_makeHouse_275 : decode cX7_makeHouse 275 = .ok (.getfield 7, 3) := by decide +kernel
theorem dX7_makeHouse_278 : decode cX7_makeHouse 278 = .ok (.iload_n 1, 1) := by decide +kernel
theorem dX7_makeHouse_279 : decode cX7_makeHouse 279 = .ok (.iaload, 1) := by decide +kernel
theorem dX7_makeHouse_280 : decode cX7_makeHouse 280 = .ok (.iconst 3, 1) := by decide +kernel
theorem dX7_makeHouse_281 : decode cX7_makeHouse 281 = .ok (.if_icmp .ne 50, 3) := by decide +kernel
theorem dX7_makeHouse_284 : decode cX7_makeHouse 284 = .ok (.aload_n 0, 1) := by decide +kernel
theorem dX7_makeHouse_285 : decode cX7_makeHouse 285 = .ok (.getfield 81, 3) := by decide +kernel
theorem dX7_makeHouse_288 : decode cX7_makeHouse 288 = .ok (.bipush 28, 2) := by decide +kernel
theorem dX7_makeHouse_290 : decode cX7_makeHouse 290 = .ok (.iload_n 2, 1) := by decide +kernel
theorem dX7_makeHouse_291 : decode cX7_makeHouse 291 = .ok (.imul, 1) := by decide +kernel
theorem dX7_makeHouse_292 : decode cX7_makeHouse 292 = .ok (.aload_n 0, 1) := by decide +kernel
theorem dX7_makeHouse_293 : decode cX7_makeHouse 293 = .ok (.getfield 13, 3) := by decide +kernel
theorem dX7_makeHouse_296 : decode cX7_makeHouse 296 = .ok (.iload_n 1, 1) := by decide +kernel
theorem dX7_makeHouse_297 : decode cX7_makeHouse 297 = .ok (.iaload, 1) := by decide +kernel
theorem dX7_makeHouse_298 : decode cX7_makeHouse 298 = .ok (.iadd, 1) := by decide +kernel
theorem dX7_makeHouse_299 : decode cX7_makeHouse 299 = .ok (.baload, 1) := by decide +kernel
theorem dX7_makeHouse_300 : decode cX7_makeHouse 300 = .ok (.ifCond .eq 26, 3) := by decide +kernel
theorem dX7_makeHouse_303 : decode cX7_makeHouse 303 = .ok (.aload_n 0, 1) := by decide +kernel
theorem dX7_makeHouse_304 : decode cX7_makeHouse 304 = .ok (.getfield 81, 3) := by decide +kernel
theorem dX7_makeHouse_307 : decode cX7_makeHouse 307 = .ok (.bipush 28, 2) := by decide +kernel
theorem dX7_makeHouse_309 : decode cX7_makeHouse 309 = .ok (.iload_n 2, 1) := by decide +kernel
theorem dX7_makeHouse_310 : decode cX7_makeHouse 310 = .ok (.imul, 1) := by decide +kernel
theorem dX7_makeHouse_311 : decode cX7_makeHouse 311 = .ok (.aload_n 0, 1) := by decide +kernel
theorem dX7_makeHouse_312 : decode cX7_makeHouse 312 = .ok (.getfield 16, 3) := by decide +kernel
theorem dX7_makeHouse_315 : decode cX7_makeHouse 315 = .ok (.iload_n 1, 1) := by decide +kernel
theorem dX7_makeHouse_316 : decode cX7_makeHouse 316 = .ok (.iaload, 1) := by decide +kernel
theorem dX7_makeHouse_317 : decode cX7_makeHouse 317 = .ok (.iadd, 1) := by decide +kernel
theorem dX7_makeHouse_318 : decode cX7_makeHouse 318 = .ok (.baload, 1) := by decide +kernel
theorem dX7_makeHouse_319 : decode cX7_makeHouse 319 = .ok (.ifCond .eq 7, 3) := by decide +kernel
theorem dX7_makeHouse_322 : decode cX7_makeHouse 322 = .ok (.iconst 1, 1) := by decide +kernel
theorem dX7_makeHouse_323 : decode cX7_makeHouse 323 = .ok (.goto 4, 3) := by decide +kernel
theorem dX7_makeHouse_326 : decode cX7_makeHouse 326 = .ok (.iconst 0, 1) := by decide +kernel
theorem dX7_makeHouse_327 : decode cX7_makeHouse 327 = .ok (.istore_n 3, 1) := by decide +kernel
theorem dX7_makeHouse_328 : decode cX7_makeHouse 328 = .ok (.goto 86, 3) := by decide +kernel
theorem dX7_makeHouse_331 : decode cX7_makeHouse 331 = .ok (.aload_n 0, 1) := by decide +kernel
theorem dX7_makeHouse_332 : decode cX7_makeHouse 332 = .ok (.getfield 7, 3) := by decide +kernel
theorem dX7_makeHouse_335 : decode cX7_makeHouse 335 = .ok (.iload_n 1, 1) := by decide +kernel
theorem dX7_makeHouse_336 : decode cX7_makeHouse 336 = .ok (.iaload, 1) := by decide +kernel
theorem dX7_makeHouse_337 : decode cX7_makeHouse 337 = .ok (.iconst 4, 1) := by decide +kernel
theorem dX7_makeHouse_338 : decode cX7_makeHouse 338 = .ok (.if_icmp .ne 76, 3) := by decide +kernel
theorem dX7_makeHouse_341 : decode cX7_makeHouse 341 = .ok (.iconst 0, 1) := by decide +kernel
theorem dX7_makeHouse_342 : decode cX7_makeHouse 342 = .ok (.istore 4, 2) := by decide +kernel
theorem dX7_makeHouse_344 : decode cX7_makeHouse 344 = .ok (.iload 4, 2) := by decide +kernel
theorem dX7_makeHouse_346 : decode cX7_makeHouse 346 = .ok (.aload_n 0, 1) := by decide +kernel
theorem dX7_makeHouse_347 : decode cX7_makeHouse 347 = .ok (.getfield 84, 3) := by decide +kernel
theorem dX7_makeHouse_350 : decode cX7_makeHouse 350 = .ok (.if_icmp .ge 64, 3) := by decide +kernel
theorem dX7_makeHouse_353 : decode cX7_makeHouse 353 = .ok (.iload_n 3, 1) := by decide +kernel
theorem dX7_makeHouse_354 : decode cX7_makeHouse 354 = .ok (.ifCond .ne 48, 3) := by decide +kernel
theorem dX7_makeHouse_357 : decode cX7_makeHouse 357 = .ok (.aload_n 0, 1) := by decide +kernel
theorem dX7_makeHouse_358 : decode cX7_makeHouse 358 = .ok (.getfield 78, 3) := by decide +kernel
theorem dX7_makeHouse_361 : decode cX7_makeHouse 361 = .ok (.bipush 112, 2) := by decide +kernel
theorem dX7_makeHouse_363 : decode cX7_makeHouse 363 = .ok (.iload_n 2, 1) := by decide +kernel
theorem dX7_makeHouse_364 : decode cX7_makeHouse 364 = .ok (.imul, 1) := by decide +kernel
theorem dX7_makeHouse_365 : decode cX7_makeHouse 365 = .ok (.bipush 28, 2) := by decide +kernel
theorem dX7_makeHouse_367 : decode cX7_makeHouse 367 = .ok (.aload_n 0, 1) := by decide +kernel
theorem dX7_makeHouse_368 : decode cX7_makeHouse 368 = .ok (.getfield 13, 3) := by decide +kernel
theorem dX7_makeHouse_371 : decode cX7_makeHouse 371 = .ok (.iload_n 1, 1) := by decide +kernel
theorem dX7_makeHouse_372 : decode cX7_makeHouse 372 = .ok (.iaload, 1) := by decide +kernel
theorem dX7_makeHouse_373 : decode cX7_makeHouse 373 = .ok (.imul, 1) := by decide +kernel
theorem dX7_makeHouse_374 : decode cX7_makeHouse 374 = .ok (.iadd, 1) := by decide +kernel
theorem dX7_makeHouse_375 : decode cX7_makeHouse 375 = .ok (.iload 4, 2) := by decide +kernel
theorem dX7_makeHouse_377 : decode cX7_makeHouse 377 = .ok (.iadd, 1) := by decide +kernel
theorem dX7_makeHouse_378 : decode cX7_makeHouse 378 = .ok (.baload, 1) := by decide +kernel
theorem dX7_makeHouse_379 : decode cX7_makeHouse 379 = .ok (.ifCond .eq 27, 3) := by decide +kernel
theorem dX7_makeHouse_382 : decode cX7_makeHouse 382 = .ok (.aload_n 0, 1) := by decide +kernel
theorem dX7_makeHouse_383 : decode cX7_makeHouse 383 = .ok (.getfield 81, 3) := by decide +kernel
theorem dX7_makeHouse_386 : decode cX7_makeHouse 386 = .ok (.bipush 28, 2) := by decide +kernel
theorem dX7_makeHouse_388 : decode cX7_makeHouse 388 = .ok (.iload 4, 2) := by decide +kernel
theorem dX7_makeHouse_390 : decode cX7_makeHouse 390 = .ok (.imul, 1) := by decide +kernel
theorem dX7_makeHouse_391 : decode cX7_makeHouse 391 = .ok (.aload_n 0, 1) := by decide +kernel
theorem dX7_makeHouse_392 : decode cX7_makeHouse 392 = .ok (.getfield 16, 3) := by decide +kernel
theorem dX7_makeHouse_395 : decode cX7_makeHouse 395 = .ok (.iload_n 1, 1) := by decide +kernel
theorem dX7_makeHouse_396 : decode cX7_makeHouse 396 = .ok (.iaload, 1) := by decide +kernel
theorem dX7_makeHouse_397 : decode cX7_makeHouse 397 = .ok (.iadd, 1) := by decide +kernel
theorem dX7_makeHouse_398 : decode cX7_makeHouse 398 = .ok (.baload, 1) := by decide +kernel
theorem dX7_makeHouse_399 : decode cX7_makeHouse 399 = .ok (.ifCond .eq 7, 3) := by decide +kernel
theorem dX7_makeHouse_402 : decode cX7_makeHouse 402 = .ok (.iconst 1, 1) := by decide +kernel
theorem dX7_makeHouse_403 : decode cX7_makeHouse 403 = .ok (.goto 4, 3) := by decide +kernel
theorem dX7_makeHouse_406 : decode cX7_makeHouse 406 = .ok (.iconst 0, 1) := by decide +kernel
theorem dX7_makeHouse_407 : decode cX7_makeHouse 407 = .ok (.istore_n 3, 1) := by decide +kernel
theorem dX7_makeHouse_408 : decode cX7_makeHouse 408 = .ok (.iinc 4 1, 3) := by decide +kernel
theorem dX7_makeHouse_411 : decode cX7_makeHouse 411 = .ok (.goto (-67), 3) := by decide +kernel
theorem dX7_makeHouse_414 : decode cX7_makeHouse 414 = .ok (.aload_n 0, 1) := by decide +kernel
theorem dX7_makeHouse_415 : decode cX7_makeHouse 415 = .ok (.getfield 81, 3) := by decide +kernel
theorem dX7_makeHouse_418 : decode cX7_makeHouse 418 = .ok (.bipush 28, 2) := by decide +kernel
theorem dX7_makeHouse_420 : decode cX7_makeHouse 420 = .ok (.iload_n 2, 1) := by decide +kernel
theorem dX7_makeHouse_421 : decode cX7_makeHouse 421 = .ok (.imul, 1) := by decide +kernel
theorem dX7_makeHouse_422 : decode cX7_makeHouse 422 = .ok (.iload_n 1, 1) := by decide +kernel
theorem dX7_makeHouse_423 : decode cX7_makeHouse 423 = .ok (.iadd, 1) := by decide +kernel
theorem dX7_makeHouse_424 : decode cX7_makeHouse 424 = .ok (.iload_n 3, 1) := by decide +kernel
theorem dX7_makeHouse_425 : decode cX7_makeHouse 425 = .ok (.ifCond .eq 16, 3) := by decide +kernel
theorem dX7_makeHouse_428 : decode cX7_makeHouse 428 = .ok (.aload_n 0, 1) := by decide +kernel
theorem dX7_makeHouse_429 : decode cX7_makeHouse 429 = .ok (.getfield 75, 3) := by decide +kernel
theorem dX7_makeHouse_432 : decode cX7_makeHouse 432 = .ok (.iload_n 2, 1) := by decide +kernel
theorem dX7_makeHouse_433 : decode cX7_makeHouse 433 = .ok (.baload, 1) := by decide +kernel
theorem dX7_makeHouse_434 : decode cX7_makeHouse 434 = .ok (.ifCond .eq 7, 3) := by decide +kernel
theorem dX7_makeHouse_437 : decode cX7_makeHouse 437 = .ok (.iconst 1, 1) := by decide +kernel
theorem dX7_makeHouse_438 : decode cX7_makeHouse 438 = .ok (.goto 4, 3) := by decide +kernel
theorem dX7_makeHouse_441 : decode cX7_makeHouse 441 = .ok (.iconst 0, 1) := by decide +kernel
theorem dX7_makeHouse_442 : decode cX7_makeHouse 442 = .ok (.bastore, 1) := by decide +kernel
theorem dX7_makeHouse_443 : decode cX7_makeHouse 443 = .ok (.iinc 2 1, 3) := by decide +kernel
theorem dX7_makeHouse_446 : decode cX7_makeHouse 446 = .ok (.goto (-230), 3) := by decide +kernel
theorem dX7_makeHouse_449 : decode cX7_makeHouse 449 = .ok (.iinc 1 1, 3) := by decide +kernel
theorem dX7_makeHouse_452 : decode cX7_makeHouse 452 = .ok (.goto (-246), 3) := by decide +kernel
theorem dX7_makeHouse_455 : decode cX7_makeHouse 455 = .ok (.return_, 1) := by decide +kernel
theorem dX7_things_0 : decode cX7_things 0 = .ok (.aload_n 0, 1) := by decide +kernel
theorem dX7_things_1 : decode cX7_things 1 = .ok (.getfield 92, 3) := by decide +kernel
theorem dX7_things_4 : decode cX7_things 4 = .ok (.ifCond .ne 6, 3) := by decide +kernel
theorem dX7_things_7 : decode cX7_things 7 = .ok (.bipush (-103), 2) := by decide +kernel
theorem dX7_things_9 : decode cX7_things 9 = .ok (.ireturn, 1) := by decide +kernel
theorem dX7_things_10 : decode cX7_things 10 = .ok (.iconst 0, 1) := by decide +kernel
theorem dX7_things_11 : decode cX7_things 11 = .ok (.istore_n 1, 1) := by decide +kernel
theorem dX7_things_12 : decode cX7_things 12 = .ok (.iconst 0, 1) := by decide +kernel
theorem dX7_things_13 : decode cX7_things 13 = .ok (.istore_n 2, 1) := by decide +kernel
theorem dX7_things_14 : decode cX7_things 14 = .ok (.iload_n 2, 1) := by decide +kernel
theorem dX7_things_15 : decode cX7_things 15 = .ok (.aload_n 0, 1) := by decide +kernel
theorem dX7_things_16 : decode cX7_things 16 = .ok (.getfield 84, 3) := by decide +kernel
theorem dX7_things_19 : decode cX7_things 19 = .ok (.if_icmp .ge 26, 3) := by decide +kernel
theorem dX7_things_22 : decode cX7_things 22 = .ok (.iload_n 1, 1) := by decide +kernel
theorem dX7_things_23 : decode cX7_things 23 = .ok (.aload_n 0, 1) := by decide +kernel
theorem dX7_things_24 : decode cX7_things 24 = .ok (.getfield 75, 3) := by decide +kernel
theorem dX7_things_27 : decode cX7_things 27 = .ok (.iload_n 2, 1) := by decide +kernel
theorem dX7_things_28 : decode cX7_things 28 = .ok (.baload, 1) := by decide +kernel
theorem dX7_things_29 : decode cX7_things 29 = .ok (.ifCond .eq 7, 3) := by decide +kernel
theorem dX7_things_32 : decode cX7_things 32 = .ok (.iconst 1, 1) := by decide +kernel
theorem dX7_things_33 : decode cX7_things 33 = .ok (.goto 4, 3) := by decide +kernel
theorem dX7_things_36 : decode cX7_things 36 = .ok (.iconst 0, 1) := by decide +kernel
theorem dX7_things_37 : decode cX7_things 37 = .ok (.iadd, 1) := by decide +kernel
theorem dX7_things_38 : decode cX7_things 38 = .ok (.istore_n 1, 1) := by decide +kernel
theorem dX7_things_39 : decode cX7_things 39 = .ok (.iinc 2 1, 3) := by decide +kernel
theorem dX7_things_42 : decode cX7_things 42 = .ok (.goto (-28), 3) := by decide +kernel
theorem dX7_things_45 : decode cX7_things 45 = .ok (.iload_n 1, 1) := by decide +kernel
theorem dX7_things_46 : decode cX7_things 46 = .ok (.ireturn, 1) := by decide +kernel
theorem dX7_isOf_0 : decode cX7_isOf 0 = .ok (.aload_n 0, 1) := by decide +kernel
theorem dX7_isOf_1 : decode cX7_isOf 1 = .ok (.getfield 92, 3) := by decide +kernel
theorem dX7_isOf_4 : decode cX7_isOf 4 = .ok (.ifCond .ne 6, 3) := by decide +kernel
theorem dX7_isOf_7 : decode cX7_isOf 7 = .ok (.bipush (-103), 2) := by decide +kernel
theorem dX7_isOf_9 : decode cX7_isOf 9 = .ok (.ireturn, 1) := by decide +kernel
theorem dX7_isOf_10 : decode cX7_isOf 10 = .ok (.aload_n 0, 1) := by decide +kernel
theorem dX7_isOf_11 : decode cX7_isOf 11 = .ok (.iload_n 1, 1) := by decide +kernel
theorem dX7_isOf_12 : decode cX7_isOf 12 = .ok (.invokevirtual 103, 3) := by decide +kernel
theorem dX7_isOf_15 : decode cX7_isOf 15 = .ok (.ifCond .eq 11, 3) := by decide +kernel
theorem dX7_isOf_18 : decode cX7_isOf 18 = .ok (.aload_n 0, 1) := by decide +kernel
theorem dX7_isOf_19 : decode cX7_isOf 19 = .ok (.iload_n 2, 1) := by decide +kernel
theorem dX7_isOf_20 : decode cX7_isOf 20 = .ok (.invokevirtual 103, 3) := by decide +kernel
theorem dX7_isOf_23 : decode cX7_isOf 23 = .ok (.ifCond .ne 6, 3) := by decide +kernel
theorem dX7_isOf_26 : decode cX7_isOf 26 = .ok (.bipush (-101), 2) := by decide +kernel
theorem dX7_isOf_28 : decode cX7_isOf 28 = .ok (.ireturn, 1) := by decide +kernel
theorem dX7_isOf_29 : decode cX7_isOf 29 = .ok (.aload_n 0, 1) := by decide +kernel
theorem dX7_isOf_30 : decode cX7_isOf 30 = .ok (.getfield 75, 3) := by decide +kernel
theorem dX7_isOf_33 : decode cX7_isOf 33 = .ok (.iload_n 1, 1) := by decide +kernel
theorem dX7_isOf_34 : decode cX7_isOf 34 = .ok (.baload, 1) := by decide +kernel
theorem dX7_isOf_35 : decode cX7_isOf 35 = .ok (.ifCond .ne 7, 3) := by decide +kernel
theorem dX7_isOf_38 : decode cX7_isOf 38 = .ok (.iconst (-1), 1) := by decide +kernel
theorem dX7_isOf_39 : decode cX7_isOf 39 = .ok (.goto 22, 3) := by decide +kernel
theorem dX7_isOf_42 : decode cX7_isOf 42 = .ok (.aload_n 0, 1) := by decide +kernel
theorem dX7_isOf_43 : decode cX7_isOf 43 = .ok (.getfield 81, 3) := by decide +kernel
theorem dX7_isOf_46 : decode cX7_isOf 46 = .ok (.bipush 28, 2) := by decide +kernel
theorem dX7_isOf_48 : decode cX7_isOf 48 = .ok (.iload_n 1, 1) := by decide +kernel
theorem dX7_isOf_49 : decode cX7_isOf 49 = .ok (.imul, 1) := by decide +kernel
theorem dX7_isOf_50 : decode cX7_isOf 50 = .ok (.iload_n 2, 1) := by decide +kernel
theorem dX7_isOf_51 : decode cX7_isOf 51 = .ok (.iadd, 1) := by decide +kernel
theorem dX7_isOf_52 : decode cX7_isOf 52 = .ok (.baload, 1) := by decide +kernel
theorem dX7_isOf_53 : decode cX7_isOf 53 = .ok (.ifCond .eq 7, 3) := by decide +kernel
theorem dX7_isOf_56 : decode cX7_isOf 56 = .ok (.iconst 1, 1) := by decide +kernel
theorem dX7_isOf_57 : decode cX7_isOf 57 = .ok (.goto 4, 3) := by decide +kernel
theorem dX7_isOf_60 : decode cX7_isOf 60 = .ok (.iconst 0, 1) := by decide +kernel
theorem dX7_isOf_61 : decode cX7_isOf 61 = .ok (.ireturn, 1) := by decide +kernel
theorem dX7_pair_0 : decode cX7_pair 0 = .ok (.aload_n 0, 1) := by decide +kernel
theorem dX7_pair_1 : decode cX7_pair 1 = .ok (.getfield 92, 3) := by decide +kernel
theorem dX7_pair_4 : decode cX7_pair 4 = .ok (.ifCond .ne 6, 3) := by decide +kernel
theorem dX7_pair_7 : decode cX7_pair 7 = .ok (.bipush (-103), 2) := by decide +kernel
theorem dX7_pair_9 : decode cX7_pair 9 = .ok (.ireturn, 1) := by decide +kernel
theorem dX7_pair_10 : decode cX7_pair 10 = .ok (.aload_n 0, 1) := by decide +kernel
theorem dX7_pair_11 : decode cX7_pair 11 = .ok (.iload_n 1, 1) := by decide +kernel
theorem dX7_pair_12 : decode cX7_pair 12 = .ok (.invokevirtual 103, 3) := by decide +kernel
theorem dX7_pair_15 : decode cX7_pair 15 = .ok (.ifCond .eq 11, 3) := by decide +kernel
theorem dX7_pair_18 : decode cX7_pair 18 = .ok (.aload_n 0, 1) := by decide +kernel
theorem dX7_pair_19 : decode cX7_pair 19 = .ok (.iload_n 3, 1) := by decide +kernel
theorem dX7_pair_20 : decode cX7_pair 20 = .ok (.invokevirtual 103, 3) := by decide +kernel
theorem dX7_pair_23 : decode cX7_pair 23 = .ok (.ifCond .ne 6, 3) := by decide +kernel
theorem dX7_pair_26 : decode cX7_pair 26 = .ok (.bipush (-101), 2) := by decide +kernel
theorem dX7_pair_28 : decode cX7_pair 28 = .ok (.ireturn, 1) := by decide +kernel
theorem dX7_pair_29 : decode cX7_pair 29 = .ok (.iload_n 2, 1) := by decide +kernel
theorem dX7_pair_30 : decode cX7_pair 30 = .ok (.invokestatic 110, 3) := by decide +kernel
theorem dX7_pair_33 : decode cX7_pair 33 = .ok (.ifCond .ne 8, 3) := by decide +kernel
theorem dX7_pair_36 : decode cX7_pair 36 = .ok (.bipush (-102), 2) := by decide +kernel
theorem dX7_pair_38 : decode cX7_pair 38 = .ok (.goto 27, 3) := by decide +kernel
theorem dX7_pair_41 : decode cX7_pair 41 = .ok (.aload_n 0, 1) := by decide +kernel
theorem dX7_pair_42 : decode cX7_pair 42 = .ok (.getfield 78, 3) := by decide +kernel
theorem dX7_pair_45 : decode cX7_pair 45 = .ok (.bipush 112, 2) := by decide +kernel
theorem dX7_pair_47 : decode cX7_pair 47 = .ok (.iload_n 1, 1) := by decide +kernel
theorem dX7_pair_48 : decode cX7_pair 48 = .ok (.imul, 1) := by decide +kernel
theorem dX7_pair_49 : decode cX7_pair 49 = .ok (.bipush 28, 2) := by decide +kernel
theorem dX7_pair_51 : decode cX7_pair 51 = .ok (.iload_n 2, 1) := by decide +kernel
theorem dX7_pair_52 : decode cX7_pair 52 = .ok (.imul, 1) := by decide +kernel
theorem dX7_pair_53 : decode cX7_pair 53 = .ok (.iadd, 1) := by decide +kernel
theorem dX7_pair_54 : decode cX7_pair 54 = .ok (.iload_n 3, 1) := by decide +kernel
theorem dX7_pair_55 : decode cX7_pair 55 = .ok (.iadd, 1) := by decide +kernel
theorem dX7_pair_56 : decode cX7_pair 56 = .ok (.baload, 1) := by decide +kernel
theorem dX7_pair_57 : decode cX7_pair 57 = .ok (.ifCond .eq 7, 3) := by decide +kernel
theorem dX7_pair_60 : decode cX7_pair 60 = .ok (.iconst 1, 1) := by decide +kernel
theorem dX7_pair_61 : decode cX7_pair 61 = .ok (.goto 4, 3) := by decide +kernel
theorem dX7_pair_64 : decode cX7_pair 64 = .ok (.iconst 0, 1) := by decide +kernel
theorem dX7_pair_65 : decode cX7_pair 65 = .ok (.ireturn, 1) := by decide +kernel
theorem dX7_isSo_0 : decode cX7_isSo 0 = .ok (.iconst 1, 1) := by decide +kernel
theorem dX7_isSo_1 : decode cX7_isSo 1 = .ok (.istore_n 2, 1) := by decide +kernel
theorem dX7_isSo_2 : decode cX7_isSo 2 = .ok (.aload_n 0, 1) := by decide +kernel
theorem dX7_isSo_3 : decode cX7_isSo 3 = .ok (.getfield 22, 3) := by decide +kernel
theorem dX7_isSo_6 : decode cX7_isSo 6 = .ok (.iload_n 1, 1) := by decide +kernel
theorem dX7_isSo_7 : decode cX7_isSo 7 = .ok (.iaload, 1) := by decide +kernel
theorem dX7_isSo_8 : decode cX7_isSo 8 = .ok (.istore_n 3, 1) := by decide +kernel
theorem dX7_isSo_9 : decode cX7_isSo 9 = .ok (.aload_n 0, 1) := by decide +kernel
theorem dX7_isSo_10 : decode cX7_isSo 10 = .ok (.getfield 25, 3) := by decide +kernel
theorem dX7_isSo_13 : decode cX7_isSo 13 = .ok (.iload_n 1, 1) := by decide +kernel
theorem dX7_isSo_14 : decode cX7_isSo 14 = .ok (.iaload, 1) := by decide +kernel
theorem dX7_isSo_15 : decode cX7_isSo 15 = .ok (.istore 4, 2) := by decide +kernel
theorem dX7_isSo_17 : decode cX7_isSo 17 = .ok (.iconst 0, 1) := by decide +kernel
theorem dX7_isSo_18 : decode cX7_isSo 18 = .ok (.istore 5, 2) := by decide +kernel
theorem dX7_isSo_20 : decode cX7_isSo 20 = .ok (.iload 5, 2) := by decide +kernel
theorem dX7_isSo_22 : decode cX7_isSo 22 = .ok (.aload_n 0, 1) := by decide +kernel
theorem dX7_isSo_23 : decode cX7_isSo 23 = .ok (.getfield 84, 3) := by decide +kernel
theorem dX7_isSo_26 : decode cX7_isSo 26 = .ok (.if_icmp .ge 243, 3) := by decide +kernel
theorem dX7_isSo_29 : decode cX7_isSo 29 = .ok (.aload_n 0, 1) := by decide +kernel
theorem dX7_isSo_30 : decode cX7_isSo 30 = .ok (.getfield 19, 3) := by decide +kernel
theorem dX7_isSo_33 : decode cX7_isSo 33 = .ok (.iload_n 1, 1) := by decide +kernel
theorem dX7_isSo_34 : decode cX7_isSo 34 = .ok (.iaload, 1) := by decide +kernel
theorem dX7_isSo_35 : decode cX7_isSo 35 = .ok (.ifCond .ne 47, 3) := by decide +kernel
theorem dX7_isSo_38 : decode cX7_isSo 38 = .ok (.iload_n 2, 1) := by decide +kernel
theorem dX7_isSo_39 : decode cX7_isSo 39 = .ok (.ifCond .eq 38, 3) := by decide +kernel
theorem dX7_isSo_42 : decode cX7_isSo 42 = .ok (.aload_n 0, 1) := by decide +kernel
theorem dX7_isSo_43 : decode cX7_isSo 43 = .ok (.getfield 81, 3) := by decide +kernel
theorem dX7_isSo_46 : decode cX7_isSo 46 = .ok (.bipush 28, 2) := by decide +kernel
theorem dX7_isSo_48 : decode cX7_isSo 48 = .ok (.iload 5, 2) := by decide +kernel
theorem dX7_isSo_50 : decode cX7_isSo 50 = .ok (.imul, 1) := by decide +kernel
theorem dX7_isSo_51 : decode cX7_isSo 51 = .ok (.iload_n 3, 1) := by decide +kernel
theorem dX7_isSo_52 : decode cX7_isSo 52 = .ok (.iadd, 1) := by decide +kernel
theorem dX7_isSo_53 : decode cX7_isSo 53 = .ok (.baload, 1) := by decide +kernel
theorem dX7_isSo_54 : decode cX7_isSo 54 = .ok (.ifCond .eq 19, 3) := by decide +kernel
theorem dX7_isSo_57 : decode cX7_isSo 57 = .ok (.aload_n 0, 1) := by decide +kernel
theorem dX7_isSo_58 : decode cX7_isSo 58 = .ok (.getfield 81, 3) := by decide +kernel
theorem dX7_isSo_61 : decode cX7_isSo 61 = .ok (.bipush 28, 2) := by decide +kernel
theorem dX7_isSo_63 : decode cX7_isSo 63 = .ok (.iload 5, 2) := by decide +kernel
theorem dX7_isSo_65 : decode cX7_isSo 65 = .ok (.imul, 1) := by decide +kernel
theorem dX7_isSo_66 : decode cX7_isSo 66 = .ok (.iload 4, 2) := by decide +kernel
theorem dX7_isSo_68 : decode cX7_isSo 68 = .ok (.iadd, 1) := by decide +kernel
theorem dX7_isSo_69 : decode cX7_isSo 69 = .ok (.baload, 1) := by decide +kernel
theorem dX7_isSo_70 : decode cX7_isSo 70 = .ok (.ifCond .eq 7, 3) := by decide +kernel
theorem dX7_isSo_73 : decode cX7_isSo 73 = .ok (.iconst 1, 1) := by decide +kernel
theorem dX7_isSo_74 : decode cX7_isSo 74 = .ok (.goto 4, 3) := by decide +kernel
theorem dX7_isSo_77 : decode cX7_isSo 77 = .ok (.iconst 0, 1) := by decide +kernel
theorem dX7_isSo_78 : decode cX7_isSo 78 = .ok (.istore_n 2, 1) := by decide +kernel
theorem dX7_isSo_79 : decode cX7_isSo 79 = .ok (.goto 184, 3) := by decide +kernel
theorem dX7_isSo_82 : decode cX7_isSo 82 = .ok (.iconst 0, 1) := by decide +kernel
theorem dX7_isSo_83 : decode cX7_isSo 83 = .ok (.istore 6, 2) := by decide +kernel
theorem dX7_isSo_85 : decode cX7_isSo 85 = .ok (.iload 6, 2) := by decide +kernel
theorem dX7_isSo_87 : decode cX7_isSo 87 = .ok (.aload_n 0, 1) := by decide +kernel
theorem dX7_isSo_88 : decode cX7_isSo 88 = .ok (.getfield 84, 3) := by decide +kernel
theorem dX7_isSo_91 : decode cX7_isSo 91 = .ok (.if_icmp .ge 172, 3) := by decide +kernel
theorem dX7_isSo_94 : decode cX7_isSo 94 = .ok (.aload_n 0, 1) := by decide +kernel
theorem dX7_isSo_95 : decode cX7_isSo 95 = .ok (.getfield 19, 3) := by decide +kernel
theorem dX7_isSo_98 : decode cX7_isSo 98 = .ok (.iload_n 1, 1) := by decide +kernel
theorem dX7_isSo_99 : decode cX7_isSo 99 = .ok (.iaload, 1) := by decide +kernel
theorem dX7_isSo_100 : decode cX7_isSo 100 = .ok (.iconst 1, 1) := by decide +kernel
theorem dX7_isSo_101 : decode cX7_isSo 101 = .ok (.if_icmp .ne 59, 3) := by decide +kernel
theorem dX7_isSo_104 : decode cX7_isSo 104 = .ok (.iload_n 2, 1) := by decide +kernel
theorem dX7_isSo_105 : decode cX7_isSo 105 = .ok (.ifCond .eq 50, 3) := by decide +kernel
theorem dX7_isSo_108 : decode cX7_isSo 108 = .ok (.aload_n 0, 1) := by decide +kernel
theorem dX7_isSo_109 : decode cX7_isSo 109 = .ok (.getfield 78, 3) := by decide +kernel
theorem dX7_isSo_112 : decode cX7_isSo 112 = .ok (.bipush 112, 2) := by decide +kernel
theorem dX7_isSo_114 : decode cX7_isSo 114 = .ok (.iload 5, 2) := by decide +kernel
theorem dX7_isSo_116 : decode cX7_isSo 116 = .ok (.imul, 1) := by decide +kernel
theorem dX7_isSo_117 : decode cX7_isSo 117 = .ok (.bipush 28, 2) := by decide +kernel
theorem dX7_isSo_119 : decode cX7_isSo 119 = .ok (.iload_n 3, 1) := by decide +kernel
theorem dX7_isSo_120 : decode cX7_isSo 120 = .ok (.imul, 1) := by decide +kernel
theorem dX7_isSo_121 : decode cX7_isSo 121 = .ok (.iadd, 1) := by decide +kernel
theorem dX7_isSo_122 : decode cX7_isSo 122 = .ok (.iload 6, 2) := by decide +kernel
theorem dX7_isSo_124 : decode cX7_isSo 124 = .ok (.iadd, 1) := by decide +kernel
theorem dX7_isSo_125 : decode cX7_isSo 125 = .ok (.baload, 1) := by decide +kernel
theorem dX7_isSo_126 : decode cX7_isSo 126 = .ok (.ifCond .eq 25, 3) := by decide +kernel
theorem dX7_isSo_129 : decode cX7_isSo 129 = .ok (.aload_n 0, 1) := by decide +kernel
theorem dX7_isSo_130 : decode cX7_isSo 130 = .ok (.getfield 78, 3) := by decide +kernel
theorem dX7_isSo_133 : decode cX7_isSo 133 = .ok (.bipush 112, 2) := by decide +kernel
theorem dX7_isSo_135 : decode cX7_isSo 135 = .ok (.iload 5, 2) := by decide +kernel
theorem dX7_isSo_137 : decode cX7_isSo 137 = .ok (.imul, 1) := by decide +kernel
theorem dX7_isSo_138 : decode cX7_isSo 138 = .ok (.bipush 28, 2) := by decide +kernel
theorem dX7_isSo_140 : decode cX7_isSo 140 = .ok (.iload 4, 2) := by decide +kernel
theorem dX7_isSo_142 : decode cX7_isSo 142 = .ok (.imul, 1) := by decide +kernel
theorem dX7_isSo_143 : decode cX7_isSo 143 = .ok (.iadd, 1) := by decide +kernel
theorem dX7_isSo_144 : decode cX7_isSo 144 = .ok (.iload 6, 2) := by decide +kernel
theorem dX7_isSo_146 : decode cX7_isSo 146 = .ok (.iadd, 1) := by decide +kernel
theorem dX7_isSo_147 : decode cX7_isSo 147 = .ok (.baload, 1) := by decide +kernel
theorem dX7_isSo_148 : decode cX7_isSo 148 = .ok (.ifCond .eq 7, 3) := by decide +kernel
theorem dX7_isSo_151 : decode cX7_isSo 151 = .ok (.iconst 1, 1) := by decide +kernel
theorem dX7_isSo_152 : decode cX7_isSo 152 = .ok (.goto 4, 3) := by decide +kernel
theorem dX7_isSo_155 : decode cX7_isSo 155 = .ok (.iconst 0, 1) := by decide +kernel
theorem dX7_isSo_156 : decode cX7_isSo 156 = .ok (.istore_n 2, 1) := by decide +kernel
theorem dX7_isSo_157 : decode cX7_isSo 157 = .ok (.goto 100, 3) := by decide +kernel
theorem dX7_isSo_160 : decode cX7_isSo 160 = .ok (.iconst 0, 1) := by decide +kernel
theorem dX7_isSo_161 : decode cX7_isSo 161 = .ok (.istore 7, 2) := by decide +kernel
theorem dX7_isSo_163 : decode cX7_isSo 163 = .ok (.iload 7, 2) := by decide +kernel
theorem dX7_isSo_165 : decode cX7_isSo 165 = .ok (.aload_n 0, 1) := by decide +kernel
theorem dX7_isSo_166 : decode cX7_isSo 166 = .ok (.getfield 84, 3) := by decide +kernel
theorem dX7_isSo_169 : decode cX7_isSo 169 = .ok (.if_icmp .ge 88, 3) := by decide +kernel
theorem dX7_isSo_172 : decode cX7_isSo 172 = .ok (.iload_n 2, 1) := by decide +kernel
theorem dX7_isSo_173 : decode cX7_isSo 173 = .ok (.ifCond .eq 76, 3) := by decide +kernel
theorem dX7_isSo_176 : decode cX7_isSo 176 = .ok (.aload_n 0, 1) := by decide +kernel
theorem dX7_isSo_177 : decode cX7_isSo 177 = .ok (.getfield 78, 3) := by decide +kernel
theorem dX7_isSo_180 : decode cX7_isSo 180 = .ok (.bipush 112, 2) := by decide +kernel
theorem dX7_isSo_182 : decode cX7_isSo 182 = .ok (.iload 5, 2) := by decide +kernel
theorem dX7_isSo_184 : decode cX7_isSo 184 = .ok (.imul, 1) := by decide +kernel
theorem dX7_isSo_185 : decode cX7_isSo 185 = .ok (.bipush 28, 2) := by decide +kernel
theorem dX7_isSo_187 : decode cX7_isSo 187 = .ok (.iload_n 3, 1) := by decide +kernel
theorem dX7_isSo_188 : decode cX7_isSo 188 = .ok (.imul, 1) := by decide +kernel
theorem dX7_isSo_189 : decode cX7_isSo 189 = .ok (.iadd, 1) := by decide +kernel
theorem dX7_isSo_190 : decode cX7_isSo 190 = .ok (.iload 6, 2) := by decide +kernel
theorem dX7_isSo_192 : decode cX7_isSo 192 = .ok (.iadd, 1) := by decide +kernel
theorem dX7_isSo_193 : decode cX7_isSo 193 = .ok (.baload, 1) := by decide +kernel
theorem dX7_isSo_194 : decode cX7_isSo 194 = .ok (.ifCond .eq 51, 3) := by decide +kernel
theorem dX7_isSo_197 : decode cX7_isSo 197 = .ok (.aload_n 0, 1) := by decide +kernel
theorem dX7_isSo_198 : decode cX7_isSo 198 = .ok (.getfield 78, 3) := by decide +kernel
theorem dX7_isSo_201 : decode cX7_isSo 201 = .ok (.bipush 112, 2) := by decide +kernel
theorem dX7_isSo_203 : decode cX7_isSo 203 = .ok (.iload 6, 2) := by decide +kernel
theorem dX7_isSo_205 : decode cX7_isSo 205 = .ok (.imul, 1) := by decide +kernel
theorem dX7_isSo_206 : decode cX7_isSo 206 = .ok (.bipush 28, 2) := by decide +kernel
theorem dX7_isSo_208 : decode cX7_isSo 208 = .ok (.iload 4, 2) := by decide +kernel
theorem dX7_isSo_210 : decode cX7_isSo 210 = .ok (.imul, 1) := by decide +kernel
theorem dX7_isSo_211 : decode cX7_isSo 211 = .ok (.iadd, 1) := by decide +kernel
theorem dX7_isSo_212 : decode cX7_isSo 212 = .ok (.iload 7, 2) := by decide +kernel
theorem dX7_isSo_214 : decode cX7_isSo 214 = .ok (.iadd, 1) := by decide +kernel
theorem dX7_isSo_215 : decode cX7_isSo 215 = .ok (.baload, 1) := by decide +kernel
theorem dX7_isSo_216 : decode cX7_isSo 216 = .ok (.ifCond .eq 29, 3) := by decide +kernel
theorem dX7_isSo_219 : decode cX7_isSo 219 = .ok (.aload_n 0, 1) := by decide +kernel
theorem dX7_isSo_220 : decode cX7_isSo 220 = .ok (.getfield 78, 3) := by decide +kernel
theorem dX7_isSo_223 : decode cX7_isSo 223 = .ok (.bipush 112, 2) := by decide +kernel
theorem dX7_isSo_225 : decode cX7_isSo 225 = .ok (.iload 5, 2) := by decide +kernel
theorem dX7_isSo_227 : decode cX7_isSo 227 = .ok (.imul, 1) := by decide +kernel
theorem dX7_isSo_228 : decode cX7_isSo 228 = .ok (.bipush 28, 2) := by decide +kernel
theorem dX7_isSo_230 : decode cX7_isSo 230 = .ok (.aload_n 0, 1) := by decide +kernel
theorem dX7_isSo_231 : decode cX7_isSo 231 = .ok (.getfield 28, 3) := by decide +kernel
theorem dX7_isSo_234 : decode cX7_isSo 234 = .ok (.iload_n 1, 1) := by decide +kernel
theorem dX7_isSo_235 : decode cX7_isSo 235 = .ok (.iaload, 1) := by decide +kernel
theorem dX7_isSo_236 : decode cX7_isSo 236 = .ok (.imul, 1) := by decide +kernel
theorem dX7_isSo_237 : decode cX7_isSo 237 = .ok (.iadd, 1) := by decide +kernel
theorem dX7_isSo_238 : decode cX7_isSo 238 = .ok (.iload 7, 2) := by decide +kernel
theorem dX7_isSo_240 : decode cX7_isSo 240 = .ok (.iadd, 1) := by decide +kernel
theorem dX7_isSo_241 : decode cX7_isSo 241 = .ok (.baload, 1) := by decide +kernel
theorem dX7_isSo_242 : decode cX7_isSo 242 = .ok (.ifCond .eq 7, 3) := by decide +kernel
theorem dX7_isSo_245 : decode cX7_isSo 245 = .ok (.iconst 1, 1) := by decide +kernel
theorem dX7_isSo_246 : decode cX7_isSo 246 = .ok (.goto 4, 3) := by decide +kernel
theorem dX7_isSo_249 : decode cX7_isSo 249 = .ok (.iconst 0, 1) := by decide +kernel
theorem dX7_isSo_250 : decode cX7_isSo 250 = .ok (.istore_n 2, 1) := by decide +kernel
theorem dX7_isSo_251 : decode cX7_isSo 251 = .ok (.iinc 7 1, 3) := by decide +kernel
theorem dX7_isSo_254 : decode cX7_isSo 254 = .ok (.goto (-91), 3) := by decide +kernel
theorem dX7_isSo_257 : decode cX7_isSo 257 = .ok (.iinc 6 1, 3) := by decide +kernel
theorem dX7_isSo_260 : decode cX7_isSo 260 = .ok (.goto (-175), 3) := by decide +kernel
theorem dX7_isSo_263 : decode cX7_isSo 263 = .ok (.iinc 5 1, 3) := by decide +kernel
theorem dX7_isSo_266 : decode cX7_isSo 266 = .ok (.goto (-246), 3) := by decide +kernel
theorem dX7_isSo_269 : decode cX7_isSo 269 = .ok (.iload_n 2, 1) := by decide +kernel
theorem dX7_isSo_270 : decode cX7_isSo 270 = .ok (.ireturn, 1) := by decide +kernel
theorem dX7_holds_0 : decode cX7_holds 0 = .ok (.aload_n 0, 1) := by decide +kernel
theorem dX7_holds_1 : decode cX7_holds 1 = .ok (.getfield 92, 3) := by decide +kernel
theorem dX7_holds_4 : decode cX7_holds 4 = .ok (.ifCond .ne 6, 3) := by decide +kernel
theorem dX7_holds_7 : decode cX7_holds 7 = .ok (.bipush (-103), 2) := by decide +kernel
theorem dX7_holds_9 : decode cX7_holds 9 = .ok (.ireturn, 1) := by decide +kernel
theorem dX7_holds_10 : decode cX7_holds 10 = .ok (.iload_n 1, 1) := by decide +kernel
theorem dX7_holds_11 : decode cX7_holds 11 = .ok (.iconst 0, 1) := by decide +kernel
theorem dX7_holds_12 : decode cX7_holds 12 = .ok (.aload_n 0, 1) := by decide +kernel
theorem dX7_holds_13 : decode cX7_holds 13 = .ok (.getfield 113, 3) := by decide +kernel
theorem dX7_holds_16 : decode cX7_holds 16 = .ok (.iconst 1, 1) := by decide +kernel
theorem dX7_holds_17 : decode cX7_holds 17 = .ok (.isub, 1) := by decide +kernel
theorem dX7_holds_18 : decode cX7_holds 18 = .ok (.invokestatic 88, 3) := by decide +kernel
theorem dX7_holds_21 : decode cX7_holds 21 = .ok (.ifCond .ne 6, 3) := by decide +kernel
theorem dX7_holds_24 : decode cX7_holds 24 = .ok (.bipush (-101), 2) := by decide +kernel
theorem dX7_holds_26 : decode cX7_holds 26 = .ok (.ireturn, 1) := by decide +kernel
theorem dX7_holds_27 : decode cX7_holds 27 = .ok (.aload_n 0, 1) := by decide +kernel
theorem dX7_holds_28 : decode cX7_holds 28 = .ok (.iload_n 1, 1) := by decide +kernel
theorem dX7_holds_29 : decode cX7_holds 29 = .ok (.invokevirtual 199, 3) := by decide +kernel
theorem dX7_holds_32 : decode cX7_holds 32 = .ok (.ifCond .eq 7, 3) := by decide +kernel
theorem dX7_holds_35 : decode cX7_holds 35 = .ok (.iconst 1, 1) := by decide +kernel
theorem dX7_holds_36 : decode cX7_holds 36 = .ok (.goto 4, 3) := by decide +kernel
theorem dX7_holds_39 : decode cX7_holds 39 = .ok (.iconst 0, 1) := by decide +kernel
theorem dX7_holds_40 : decode cX7_holds 40 = .ok (.ireturn, 1) := by decide +kernel
theorem dX7_count_0 : decode cX7_count 0 = .ok (.iconst 0, 1) := by decide +kernel
theorem dX7_count_1 : decode cX7_count 1 = .ok (.istore_n 2, 1) := by decide +kernel
theorem dX7_count_2 : decode cX7_count 2 = .ok (.iconst 0, 1) := by decide +kernel
theorem dX7_count_3 : decode cX7_count 3 = .ok (.istore_n 3, 1) := by decide +kernel
theorem dX7_count_4 : decode cX7_count 4 = .ok (.iload_n 3, 1) := by decide +kernel
theorem dX7_count_5 : decode cX7_count 5 = .ok (.aload_n 0, 1) := by decide +kernel
theorem dX7_count_6 : decode cX7_count 6 = .ok (.getfield 113, 3) := by decide +kernel
theorem dX7_count_9 : decode cX7_count 9 = .ok (.if_icmp .ge 26, 3) := by decide +kernel
theorem dX7_count_12 : decode cX7_count 12 = .ok (.iload_n 2, 1) := by decide +kernel
theorem dX7_count_13 : decode cX7_count 13 = .ok (.aload_n 0, 1) := by decide +kernel
theorem dX7_count_14 : decode cX7_count 14 = .ok (.getfield 31, 3) := by decide +kernel
theorem dX7_count_17 : decode cX7_count 17 = .ok (.iload_n 3, 1) := by decide +kernel
theorem dX7_count_18 : decode cX7_count 18 = .ok (.baload, 1) := by decide +kernel
theorem dX7_count_19 : decode cX7_count 19 = .ok (.ifCond .eq 7, 3) := by decide +kernel
theorem dX7_count_22 : decode cX7_count 22 = .ok (.iconst 1, 1) := by decide +kernel
theorem dX7_count_23 : decode cX7_count 23 = .ok (.goto 4, 3) := by decide +kernel
theorem dX7_count_26 : decode cX7_count 26 = .ok (.iconst 0, 1) := by decide +kernel
theorem dX7_count_27 : decode cX7_count 27 = .ok (.iadd, 1) := by decide +kernel
theorem dX7_count_28 : decode cX7_count 28 = .ok (.istore_n 2, 1) := by decide +kernel
theorem dX7_count_29 : decode cX7_count 29 = .ok (.iinc 3 1, 3) := by decide +kernel
theorem dX7_count_32 : decode cX7_count 32 = .ok (.goto (-28), 3) := by decide +kernel
theorem dX7_count_35 : decode cX7_count 35 = .ok (.iload_n 1, 1) := by decide +kernel
theorem dX7_count_36 : decode cX7_count 36 = .ok (.ifCond .ne 10, 3) := by decide +kernel
theorem dX7_count_39 : decode cX7_count 39 = .ok (.aload_n 0, 1) := by decide +kernel
theorem dX7_count_40 : decode cX7_count 40 = .ok (.getfield 84, 3) := by decide +kernel
theorem dX7_count_43 : decode cX7_count 43 = .ok (.goto 50, 3) := by decide +kernel
theorem dX7_count_46 : decode cX7_count 46 = .ok (.iload_n 1, 1) := by decide +kernel
theorem dX7_count_47 : decode cX7_count 47 = .ok (.iconst 1, 1) := by decide +kernel
theorem dX7_count_48 : decode cX7_count 48 = .ok (.if_icmp .ne 10, 3) := by decide +kernel
theorem dX7_count_51 : decode cX7_count 51 = .ok (.aload_n 0, 1) := by decide +kernel
theorem dX7_count_52 : decode cX7_count 52 = .ok (.getfield 96, 3) := by decide +kernel
theorem dX7_count_55 : decode cX7_count 55 = .ok (.goto 38, 3) := by decide +kernel
theorem dX7_count_58 : decode cX7_count 58 = .ok (.iload_n 1, 1) := by decide +kernel
theorem dX7_count_59 : decode cX7_count 59 = .ok (.iconst 2, 1) := by decide +kernel
theorem dX7_count_60 : decode cX7_count 60 = .ok (.if_icmp .ne 10, 3) := by decide +kernel
theorem dX7_count_63 : decode cX7_count 63 = .ok (.aload_n 0, 1) := by decide +kernel
theorem dX7_count_64 : decode cX7_count 64 = .ok (.getfield 113, 3) := by decide +kernel
theorem dX7_count_67 : decode cX7_count 67 = .ok (.goto 26, 3) := by decide +kernel
theorem dX7_count_70 : decode cX7_count 70 = .ok (.iload_n 1, 1) := by decide +kernel
theorem dX7_count_71 : decode cX7_count 71 = .ok (.iconst 3, 1) := by decide +kernel
theorem dX7_count_72 : decode cX7_count 72 = .ok (.if_icmp .ne 7, 3) := by decide +kernel
theorem dX7_count_75 : decode cX7_count 75 = .ok (.iload_n 2, 1) := by decide +kernel
theorem dX7_count_76 : decode cX7_count 76 = .ok (.goto 17, 3) := by decide +kernel
theorem dX7_count_79 : decode cX7_count 79 = .ok (.iload_n 1, 1) := by decide +kernel
theorem dX7_count_80 : decode cX7_count 80 = .ok (.iconst 4, 1) := by decide +kernel
theorem dX7_count_81 : decode cX7_count 81 = .ok (.if_icmp .ne 10, 3) := by decide +kernel
theorem dX7_count_84 : decode cX7_count 84 = .ok (.aload_n 0, 1) := by decide +kernel
theorem dX7_count_85 : decode cX7_count 85 = .ok (.getfield 167, 3) := by decide +kernel
theorem dX7_count_88 : decode cX7_count 88 = .ok (.goto 5, 3) := by decide +kernel
theorem dX7_count_91 : decode cX7_count 91 = .ok (.bipush (-102), 2) := by decide +kernel
theorem dX7_count_93 : decode cX7_count 93 = .ok (.ireturn, 1) := by decide +kernel
theorem dX7_digest_0 : decode cX7_digest 0 = .ok (.ldc2_w 202, 3) := by decide +kernel
theorem dX7_digest_3 : decode cX7_digest 3 = .ok (.lstore_n 1, 1) := by decide +kernel
theorem dX7_digest_4 : decode cX7_digest 4 = .ok (.iconst 0, 1) := by decide +kernel
theorem dX7_digest_5 : decode cX7_digest 5 = .ok (.istore_n 3, 1) := by decide +kernel
theorem dX7_digest_6 : decode cX7_digest 6 = .ok (.iload_n 3, 1) := by decide +kernel
theorem dX7_digest_7 : decode cX7_digest 7 = .ok (.aload_n 0, 1) := by decide +kernel
theorem dX7_digest_8 : decode cX7_digest 8 = .ok (.getfield 84, 3) := by decide +kernel
theorem dX7_digest_11 : decode cX7_digest 11 = .ok (.if_icmp .ge 51, 3) := by decide +kernel
theorem dX7_digest_14 : decode cX7_digest 14 = .ok (.ldc2_w 204, 3) := by decide +kernel
theorem dX7_digest_17 : decode cX7_digest 17 = .ok (.lload_n 1, 1) := by decide +kernel
theorem dX7_digest_18 : decode cX7_digest 18 = .ok (.lmul, 1) := by decide +kernel
theorem dX7_digest_19 : decode cX7_digest 19 = .ok (.aload_n 0, 1) := by decide +kernel
theorem dX7_digest_20 : decode cX7_digest 20 = .ok (.getfield 7, 3) := by decide +kernel
theorem dX7_digest_23 : decode cX7_digest 23 = .ok (.iload_n 3, 1) := by decide +kernel
theorem dX7_digest_24 : decode cX7_digest 24 = .ok (.iaload, 1) := by decide +kernel
theorem dX7_digest_25 : decode cX7_digest 25 = .ok (.i2l, 1) := by decide +kernel
theorem dX7_digest_26 : decode cX7_digest 26 = .ok (.ladd, 1) := by decide +kernel
theorem dX7_digest_27 : decode cX7_digest 27 = .ok (.lstore_n 1, 1) := by decide +kernel
theorem dX7_digest_28 : decode cX7_digest 28 = .ok (.ldc2_w 204, 3) := by decide +kernel
theorem dX7_digest_31 : decode cX7_digest 31 = .ok (.lload_n 1, 1) := by decide +kernel
theorem dX7_digest_32 : decode cX7_digest 32 = .ok (.lmul, 1) := by decide +kernel
theorem dX7_digest_33 : decode cX7_digest 33 = .ok (.aload_n 0, 1) := by decide +kernel
theorem dX7_digest_34 : decode cX7_digest 34 = .ok (.getfield 13, 3) := by decide +kernel
theorem dX7_digest_37 : decode cX7_digest 37 = .ok (.iload_n 3, 1) := by decide +kernel
theorem dX7_digest_38 : decode cX7_digest 38 = .ok (.iaload, 1) := by decide +kernel
theorem dX7_digest_39 : decode cX7_digest 39 = .ok (.i2l, 1) := by decide +kernel
theorem dX7_digest_40 : decode cX7_digest 40 = .ok (.ladd, 1) := by decide +kernel
theorem dX7_digest_41 : decode cX7_digest 41 = .ok (.lstore_n 1, 1) := by decide +kernel
theorem dX7_digest_42 : decode cX7_digest 42 = .ok (.ldc2_w 204, 3) := by decide +kernel
theorem dX7_digest_45 : decode cX7_digest 45 = .ok (.lload_n 1, 1) := by decide +kernel
theorem dX7_digest_46 : decode cX7_digest 46 = .ok (.lmul, 1) := by decide +kernel
theorem dX7_digest_47 : decode cX7_digest 47 = .ok (.aload_n 0, 1) := by decide +kernel
theorem dX7_digest_48 : decode cX7_digest 48 = .ok (.getfield 16, 3) := by decide +kernel
theorem dX7_digest_51 : decode cX7_digest 51 = .ok (.iload_n 3, 1) := by decide +kernel
theorem dX7_digest_52 : decode cX7_digest 52 = .ok (.iaload, 1) := by decide +kernel
theorem dX7_digest_53 : decode cX7_digest 53 = .ok (.i2l, 1) := by decide +kernel
theorem dX7_digest_54 : decode cX7_digest 54 = .ok (.ladd, 1) := by decide +kernel
theorem dX7_digest_55 : decode cX7_digest 55 = .ok (.lstore_n 1, 1) := by decide +kernel
theorem dX7_digest_56 : decode cX7_digest 56 = .ok (.iinc 3 1, 3) := by decide +kernel
theorem dX7_digest_59 : decode cX7_digest 59 = .ok (.goto (-53), 3) := by decide +kernel
theorem dX7_digest_62 : decode cX7_digest 62 = .ok (.iconst 0, 1) := by decide +kernel
theorem dX7_digest_63 : decode cX7_digest 63 = .ok (.istore_n 3, 1) := by decide +kernel
theorem dX7_digest_64 : decode cX7_digest 64 = .ok (.iload_n 3, 1) := by decide +kernel
theorem dX7_digest_65 : decode cX7_digest 65 = .ok (.aload_n 0, 1) := by decide +kernel
theorem dX7_digest_66 : decode cX7_digest 66 = .ok (.getfield 113, 3) := by decide +kernel
theorem dX7_digest_69 : decode cX7_digest 69 = .ok (.if_icmp .ge 39, 3) := by decide +kernel
theorem dX7_digest_72 : decode cX7_digest 72 = .ok (.iconst 0, 1) := by decide +kernel
theorem dX7_digest_73 : decode cX7_digest 73 = .ok (.istore 4, 2) := by decide +kernel
theorem dX7_digest_75 : decode cX7_digest 75 = .ok (.iload 4, 2) := by decide +kernel
theorem dX7_digest_77 : decode cX7_digest 77 = .ok (.iconst 5, 1) := by decide +kernel
theorem dX7_digest_78 : decode cX7_digest 78 = .ok (.if_icmp .ge 24, 3) := by decide +kernel
theorem dX7_digest_81 : decode cX7_digest 81 = .ok (.ldc2_w 204, 3) := by decide +kernel
theorem dX7_digest_84 : decode cX7_digest 84 = .ok (.lload_n 1, 1) := by decide +kernel
theorem dX7_digest_85 : decode cX7_digest 85 = .ok (.lmul, 1) := by decide +kernel
theorem dX7_digest_86 : decode cX7_digest 86 = .ok (.aload_n 0, 1) := by decide +kernel
theorem dX7_digest_87 : decode cX7_digest 87 = .ok (.iload_n 3, 1) := by decide +kernel
theorem dX7_digest_88 : decode cX7_digest 88 = .ok (.iload 4, 2) := by decide +kernel
theorem dX7_digest_90 : decode cX7_digest 90 = .ok (.invokevirtual 206, 3) := by decide +kernel
theorem dX7_digest_93 : decode cX7_digest 93 = .ok (.i2l, 1) := by decide +kernel
theorem dX7_digest_94 : decode cX7_digest 94 = .ok (.ladd, 1) := by decide +kernel
theorem dX7_digest_95 : decode cX7_digest 95 = .ok (.lstore_n 1, 1) := by decide +kernel
theorem dX7_digest_96 : decode cX7_digest 96 = .ok (.iinc 4 1, 3) := by decide +kernel
theorem dX7_digest_99 : decode cX7_digest 99 = .ok (.goto (-24), 3) := by decide +kernel
theorem dX7_digest_102 : decode cX7_digest 102 = .ok (.iinc 3 1, 3) := by decide +kernel
theorem dX7_digest_105 : decode cX7_digest 105 = .ok (.goto (-41), 3) := by decide +kernel
theorem dX7_digest_108 : decode cX7_digest 108 = .ok (.iconst 0, 1) := by decide +kernel
theorem dX7_digest_109 : decode cX7_digest 109 = .ok (.istore_n 3, 1) := by decide +kernel
theorem dX7_digest_110 : decode cX7_digest 110 = .ok (.iload_n 3, 1) := by decide +kernel
theorem dX7_digest_111 : decode cX7_digest 111 = .ok (.aload_n 0, 1) := by decide +kernel
theorem dX7_digest_112 : decode cX7_digest 112 = .ok (.getfield 120, 3) := by decide +kernel
theorem dX7_digest_115 : decode cX7_digest 115 = .ok (.if_icmp .ge 47, 3) := by decide +kernel
theorem dX7_digest_118 : decode cX7_digest 118 = .ok (.aload_n 0, 1) := by decide +kernel
theorem dX7_digest_119 : decode cX7_digest 119 = .ok (.getfield 92, 3) := by decide +kernel
theorem dX7_digest_122 : decode cX7_digest 122 = .ok (.ifCond .eq 40, 3) := by decide +kernel
theorem dX7_digest_125 : decode cX7_digest 125 = .ok (.iconst 0, 1) := by decide +kernel
theorem dX7_digest_126 : decode cX7_digest 126 = .ok (.istore 4, 2) := by decide +kernel
theorem dX7_digest_128 : decode cX7_digest 128 = .ok (.iload 4, 2) := by decide +kernel
theorem dX7_digest_130 : decode cX7_digest 130 = .ok (.bipush 9, 2) := by decide +kernel
theorem dX7_digest_132 : decode cX7_digest 132 = .ok (.if_icmp .ge 24, 3) := by decide +kernel
theorem dX7_digest_135 : decode cX7_digest 135 = .ok (.ldc2_w 204, 3) := by decide +kernel
theorem dX7_digest_138 : decode cX7_digest 138 = .ok (.lload_n 1, 1) := by decide +kernel
theorem dX7_digest_139 : decode cX7_digest 139 = .ok (.lmul, 1) := by decide +kernel
theorem dX7_digest_140 : decode cX7_digest 140 = .ok (.aload_n 0, 1) := by decide +kernel
theorem dX7_digest_141 : decode cX7_digest 141 = .ok (.iload_n 3, 1) := by decide +kernel
theorem dX7_digest_142 : decode cX7_digest 142 = .ok (.iload 4, 2) := by decide +kernel
theorem dX7_digest_144 : decode cX7_digest 144 = .ok (.invokevirtual 123, 3) := by decide +kernel
theorem dX7_digest_147 : decode cX7_digest 147 = .ok (.i2l, 1) := by decide +kernel
theorem dX7_digest_148 : decode cX7_digest 148 = .ok (.ladd, 1) := by decide +kernel
theorem dX7_digest_149 : decode cX7_digest 149 = .ok (.lstore_n 1, 1) := by decide +kernel
theorem dX7_digest_150 : decode cX7_digest 150 = .ok (.iinc 4 1, 3) := by decide +kernel
theorem dX7_digest_153 : decode cX7_digest 153 = .ok (.goto (-25), 3) := by decide +kernel
theorem dX7_digest_156 : decode cX7_digest 156 = .ok (.iinc 3 1, 3) := by decide +kernel
theorem dX7_digest_159 : decode cX7_digest 159 = .ok (.goto (-49), 3) := by decide +kernel
theorem dX7_digest_162 : decode cX7_digest 162 = .ok (.lload_n 1, 1) := by decide +kernel
theorem dX7_digest_163 : decode cX7_digest 163 = .ok (.lreturn, 1) := by decide +kernel
theorem dJ6_bitCount_0f7a4_0 : decode cJ6_bitCount_0f7a4 0 = .ok (.iload_n 0, 1) := by decide +kernel
theorem dJ6_bitCount_0f7a4_1 : decode cJ6_bitCount_0f7a4 1 = .ok (.iload_n 0, 1) := by decide +kernel
theorem dJ6_bitCount_0f7a4_2 : decode cJ6_bitCount_0f7a4 2 = .ok (.iconst 1, 1) := by decide +kernel
theorem dJ6_bitCount_0f7a4_3 : decode cJ6_bitCount_0f7a4 3 = .ok (.iushr, 1) := by decide +kernel
theorem dJ6_bitCount_0f7a4_4 : decode cJ6_bitCount_0f7a4 4 = .ok (.ldc_w 265, 3) := by decide +kernel
theorem dJ6_bitCount_0f7a4_7 : decode cJ6_bitCount_0f7a4 7 = .ok (.iand, 1) := by decide +kernel
theorem dJ6_bitCount_0f7a4_8 : decode cJ6_bitCount_0f7a4 8 = .ok (.isub, 1) := by decide +kernel
theorem dJ6_bitCount_0f7a4_9 : decode cJ6_bitCount_0f7a4 9 = .ok (.istore_n 0, 1) := by decide +kernel
theorem dJ6_bitCount_0f7a4_10 : decode cJ6_bitCount_0f7a4 10 = .ok (.iload_n 0, 1) := by decide +kernel
theorem dJ6_bitCount_0f7a4_11 : decode cJ6_bitCount_0f7a4 11 = .ok (.ldc_w 266, 3) := by decide +kernel
theorem dJ6_bitCount_0f7a4_14 : decode cJ6_bitCount_0f7a4 14 = .ok (.iand, 1) := by decide +kernel
theorem dJ6_bitCount_0f7a4_15 : decode cJ6_bitCount_0f7a4 15 = .ok (.iload_n 0, 1) := by decide +kernel
theorem dJ6_bitCount_0f7a4_16 : decode cJ6_bitCount_0f7a4 16 = .ok (.iconst 2, 1) := by decide +kernel
theorem dJ6_bitCount_0f7a4_17 : decode cJ6_bitCount_0f7a4 17 = .ok (.iushr, 1) := by decide +kernel
theorem dJ6_bitCount_0f7a4_18 : decode cJ6_bitCount_0f7a4 18 = .ok (.ldc_w 266, 3) := by decide +kernel
theorem dJ6_bitCount_0f7a4_21 : decode cJ6_bitCount_0f7a4 21 = .ok (.iand, 1) := by decide +kernel
theorem dJ6_bitCount_0f7a4_22 : decode cJ6_bitCount_0f7a4 22 = .ok (.iadd, 1) := by decide +kernel
theorem dJ6_bitCount_0f7a4_23 : decode cJ6_bitCount_0f7a4 23 = .ok (.istore_n 0, 1) := by decide +kernel
theorem dJ6_bitCount_0f7a4_24 : decode cJ6_bitCount_0f7a4 24 = .ok (.iload_n 0, 1) := by decide +kernel
theorem dJ6_bitCount_0f7a4_25 : decode cJ6_bitCount_0f7a4 25 = .ok (.iload_n 0, 1) := by decide +kernel
theorem dJ6_bitCount_0f7a4_26 : decode cJ6_bitCount_0f7a4 26 = .ok (.iconst 4, 1) := by decide +kernel
theorem dJ6_bitCount_0f7a4_27 : decode cJ6_bitCount_0f7a4 27 = .ok (.iushr, 1) := by decide +kernel
theorem dJ6_bitCount_0f7a4_28 : decode cJ6_bitCount_0f7a4 28 = .ok (.iadd, 1) := by decide +kernel
theorem dJ6_bitCount_0f7a4_29 : decode cJ6_bitCount_0f7a4 29 = .ok (.ldc_w 267, 3) := by decide +kernel
theorem dJ6_bitCount_0f7a4_32 : decode cJ6_bitCount_0f7a4 32 = .ok (.iand, 1) := by decide +kernel
theorem dJ6_bitCount_0f7a4_33 : decode cJ6_bitCount_0f7a4 33 = .ok (.istore_n 0, 1) := by decide +kernel
theorem dJ6_bitCount_0f7a4_34 : decode cJ6_bitCount_0f7a4 34 = .ok (.iload_n 0, 1) := by decide +kernel
theorem dJ6_bitCount_0f7a4_35 : decode cJ6_bitCount_0f7a4 35 = .ok (.iload_n 0, 1) := by decide +kernel
theorem dJ6_bitCount_0f7a4_36 : decode cJ6_bitCount_0f7a4 36 = .ok (.bipush 8, 2) := by decide +kernel
theorem dJ6_bitCount_0f7a4_38 : decode cJ6_bitCount_0f7a4 38 = .ok (.iushr, 1) := by decide +kernel
theorem dJ6_bitCount_0f7a4_39 : decode cJ6_bitCount_0f7a4 39 = .ok (.iadd, 1) := by decide +kernel
theorem dJ6_bitCount_0f7a4_40 : decode cJ6_bitCount_0f7a4 40 = .ok (.istore_n 0, 1) := by decide +kernel
theorem dJ6_bitCount_0f7a4_41 : decode cJ6_bitCount_0f7a4 41 = .ok (.iload_n 0, 1) := by decide +kernel
theorem dJ6_bitCount_0f7a4_42 : decode cJ6_bitCount_0f7a4 42 = .ok (.iload_n 0, 1) := by decide +kernel
theorem dJ6_bitCount_0f7a4_43 : decode cJ6_bitCount_0f7a4 43 = .ok (.bipush 16, 2) := by decide +kernel
theorem dJ6_bitCount_0f7a4_45 : decode cJ6_bitCount_0f7a4 45 = .ok (.iushr, 1) := by decide +kernel
theorem dJ6_bitCount_0f7a4_46 : decode cJ6_bitCount_0f7a4 46 = .ok (.iadd, 1) := by decide +kernel
theorem dJ6_bitCount_0f7a4_47 : decode cJ6_bitCount_0f7a4 47 = .ok (.istore_n 0, 1) := by decide +kernel
theorem dJ6_bitCount_0f7a4_48 : decode cJ6_bitCount_0f7a4 48 = .ok (.iload_n 0, 1) := by decide +kernel
theorem dJ6_bitCount_0f7a4_49 : decode cJ6_bitCount_0f7a4 49 = .ok (.bipush 63, 2) := by decide +kernel
theorem dJ6_bitCount_0f7a4_51 : decode cJ6_bitCount_0f7a4 51 = .ok (.iand, 1) := by decide +kernel
theorem dJ6_bitCount_0f7a4_52 : decode cJ6_bitCount_0f7a4 52 = .ok (.ireturn, 1) := by decide +kernel
theorem dJ9_max_7cf53_0 : decode cJ9_max_7cf53 0 = .ok (.iload_n 0, 1) := by decide +kernel
theorem dJ9_max_7cf53_1 : decode cJ9_max_7cf53 1 = .ok (.iload_n 1, 1) := by decide +kernel
theorem dJ9_max_7cf53_2 : decode cJ9_max_7cf53 2 = .ok (.if_icmp .lt 7, 3) := by decide +kernel
theorem dJ9_max_7cf53_5 : decode cJ9_max_7cf53 5 = .ok (.iload_n 0, 1) := by decide +kernel
theorem dJ9_max_7cf53_6 : decode cJ9_max_7cf53 6 = .ok (.goto 4, 3) := by decide +kernel
theorem dJ9_max_7cf53_9 : decode cJ9_max_7cf53 9 = .ok (.iload_n 1, 1) := by decide +kernel
theorem dJ9_max_7cf53_10 : decode cJ9_max_7cf53 10 = .ok (.ireturn, 1) := by decide +kernel
theorem dJ9_min_7cf53_0 : decode cJ9_min_7cf53 0 = .ok (.iload_n 0, 1) := by decide +kernel
theorem dJ9_min_7cf53_1 : decode cJ9_min_7cf53 1 = .ok (.iload_n 1, 1) := by decide +kernel
theorem dJ9_min_7cf53_2 : decode cJ9_min_7cf53 2 = .ok (.if_icmp .gt 7, 3) := by decide +kernel
theorem dJ9_min_7cf53_5 : decode cJ9_min_7cf53 5 = .ok (.iload_n 0, 1) := by decide +kernel
theorem dJ9_min_7cf53_6 : decode cJ9_min_7cf53 6 = .ok (.goto 4, 3) := by decide +kernel
theorem dJ9_min_7cf53_9 : decode cJ9_min_7cf53 9 = .ok (.iload_n 1, 1) := by decide +kernel
theorem dJ9_min_7cf53_10 : decode cJ9_min_7cf53 10 = .ok (.ireturn, 1) := by decide +kernel
theorem dL_law_0 : decode cL_law 0 = .ok (.new 7, 3) := by decide +kernel
theorem dL_law_3 : decode cL_law 3 = .ok (.dup, 1) := by decide +kernel
theorem dL_law_4 : decode cL_law 4 = .ok (.invokespecial 9, 3) := by decide +kernel
theorem dL_law_7 : decode cL_law 7 = .ok (.astore_n 1, 1) := by decide +kernel
theorem dL_law_8 : decode cL_law 8 = .ok (.new 10, 3) := by decide +kernel
theorem dL_law_11 : decode cL_law 11 = .ok (.dup, 1) := by decide +kernel
theorem dL_law_12 : decode cL_law 12 = .ok (.invokespecial 12, 3) := by decide +kernel
theorem dL_law_15 : decode cL_law 15 = .ok (.astore_n 2, 1) := by decide +kernel
theorem dL_law_16 : decode cL_law 16 = .ok (.iconst 0, 1) := by decide +kernel
theorem dL_law_17 : decode cL_law 17 = .ok (.istore_n 3, 1) := by decide +kernel
theorem dL_law_18 : decode cL_law 18 = .ok (.iload_n 3, 1) := by decide +kernel
theorem dL_law_19 : decode cL_law 19 = .ok (.aload_n 0, 1) := by decide +kernel
theorem dL_law_20 : decode cL_law 20 = .ok (.arraylength, 1) := by decide +kernel
theorem dL_law_21 : decode cL_law 21 = .ok (.iconst 4, 1) := by decide +kernel
theorem dL_law_22 : decode cL_law 22 = .ok (.isub, 1) := by decide +kernel
theorem dL_law_23 : decode cL_law 23 = .ok (.if_icmp .gt 817, 3) := by decide +kernel
theorem dL_law_26 : decode cL_law 26 = .ok (.aload_n 0, 1) := by decide +kernel
theorem dL_law_27 : decode cL_law 27 = .ok (.iload_n 3, 1) := by decide +kernel
theorem dL_law_28 : decode cL_law 28 = .ok (.iaload, 1) := by decide +kernel
theorem dL_law_29 : decode cL_law 29 = .ok (.bipush 31, 2) := by decide +kernel
theorem dL_law_31 : decode cL_law 31 = .ok (.iand, 1) := by decide +kernel
theorem dL_law_32 : decode cL_law 32 = .ok (.tableswitch 802 0 24 #[116, 129, 162, 195, 228, 261, 304, 327, 360, 393, 406, 419, 452, 485, 528, 551, 584, 607, 640, 653, 666, 699, 742, 765, 788], 116) := by decide +kernel
theorem dL_law_148 : decode cL_law 148 = .ok (.aload_n 1, 1) := by decide +kernel
theorem dL_law_149 : decode cL_law 149 = .ok (.invokevirtual 13, 3) := by decide +kernel
theorem dL_law_152 : decode cL_law 152 = .ok (.aload_n 2, 1) := by decide +kernel
theorem dL_law_153 : decode cL_law 153 = .ok (.invokevirtual 17, 3) := by decide +kernel
theorem dL_law_156 : decode cL_law 156 = .ok (.if_icmp .eq 678, 3) := by decide +kernel
theorem dL_law_159 : decode cL_law 159 = .ok (.iconst 0, 1) := by decide +kernel
theorem dL_law_160 : decode cL_law 160 = .ok (.ireturn, 1) := by decide +kernel
theorem dL_law_161 : decode cL_law 161 = .ok (.aload_n 1, 1) := by decide +kernel
theorem dL_law_162 : decode cL_law 162 = .ok (.aload_n 0, 1) := by decide +kernel
theorem dL_law_163 : decode cL_law 163 = .ok (.iload_n 3, 1) := by decide +kernel
theorem dL_law_164 : decode cL_law 164 = .ok (.iconst 1, 1) := by decide +kernel
theorem dL_law_165 : decode cL_law 165 = .ok (.iadd, 1) := by decide +kernel
theorem dL_law_166 : decode cL_law 166 = .ok (.iaload, 1) := by decide +kernel
theorem dL_law_167 : decode cL_law 167 = .ok (.aload_n 0, 1) := by decide +kernel
theorem dL_law_168 : decode cL_law 168 = .ok (.iload_n 3, 1) := by decide +kernel
theorem dL_law_169 : decode cL_law 169 = .ok (.iconst 2, 1) := by decide +kernel
theorem dL_law_170 : decode cL_law 170 = .ok (.iadd, 1) := by decide +kernel
theorem dL_law_171 : decode cL_law 171 = .ok (.iaload, 1) := by decide +kernel
theorem dL_law_172 : decode cL_law 172 = .ok (.invokevirtual 18, 3) := by decide +kernel
theorem dL_law_175 : decode cL_law 175 = .ok (.aload_n 2, 1) := by decide +kernel
theorem dL_law_176 : decode cL_law 176 = .ok (.aload_n 0, 1) := by decide +kernel
theorem dL_law_177 : decode cL_law 177 = .ok (.iload_n 3, 1) := by decide +kernel
theorem dL_law_178 : decode cL_law 178 = .ok (.iconst 1, 1) := by decide +kernel
theorem dL_law_179 : decode cL_law 179 = .ok (.iadd, 1) := by decide +kernel
theorem dL_law_180 : decode cL_law 180 = .ok (.iaload, 1) := by decide +kernel
theorem dL_law_181 : decode cL_law 181 = .ok (.aload_n 0, 1) := by decide +kernel
theorem dL_law_182 : decode cL_law 182 = .ok (.iload_n 3, 1) := by decide +kernel
theorem dL_law_183 : decode cL_law 183 = .ok (.iconst 2, 1) := by decide +kernel
theorem dL_law_184 : decode cL_law 184 = .ok (.iadd, 1) := by decide +kernel
theorem dL_law_185 : decode cL_law 185 = .ok (.iaload, 1) := by decide +kernel
theorem dL_law_186 : decode cL_law 186 = .ok (.invokevirtual 22, 3) := by decide +kernel
theorem dL_law_189 : decode cL_law 189 = .ok (.if_icmp .eq 645, 3) := by decide +kernel
theorem dL_law_192 : decode cL_law 192 = .ok (.iconst 0, 1) := by decide +kernel
theorem dL_law_193 : decode cL_law 193 = .ok (.ireturn, 1) := by decide +kernel
theorem dL_law_194 : decode cL_law 194 = .ok (.aload_n 1, 1) := by decide +kernel
theorem dL_law_195 : decode cL_law 195 = .ok (.aload_n 0, 1) := by decide +kernel
theorem dL_law_196 : decode cL_law 196 = .ok (.iload_n 3, 1) := by decide +kernel
theorem dL_law_197 : decode cL_law 197 = .ok (.iconst 1, 1) := by decide +kernel
theorem dL_law_198 : decode cL_law 198 = .ok (.iadd, 1) := by decide +kernel
theorem dL_law_199 : decode cL_law 199 = .ok (.iaload, 1) := by decide +kernel
theorem dL_law_200 : decode cL_law 200 = .ok (.aload_n 0, 1) := by decide +kernel
theorem dL_law_201 : decode cL_law 201 = .ok (.iload_n 3, 1) := by decide +kernel
theorem dL_law_202 : decode cL_law 202 = .ok (.iconst 2, 1) := by decide +kernel
theorem dL_law_203 : decode cL_law 203 = .ok (.iadd, 1) := by decide +kernel
theorem dL_law_204 : decode cL_law 204 = .ok (.iaload, 1) := by decide +kernel
theorem dL_law_205 : decode cL_law 205 = .ok (.invokevirtual 23, 3) := by decide +kernel
theorem dL_law_208 : decode cL_law 208 = .ok (.aload_n 2, 1) := by decide +kernel
theorem dL_law_209 : decode cL_law 209 = .ok (.aload_n 0, 1) := by decide +kernel
theorem dL_law_210 : decode cL_law 210 = .ok (.iload_n 3, 1) := by decide +kernel
theorem dL_law_211 : decode cL_law 211 = .ok (.iconst 1, 1) := by decide +kernel
theorem dL_law_212 : decode cL_law 212 = .ok (.iadd, 1) := by decide +kernel
theorem dL_law_213 : decode cL_law 213 = .ok (.iaload, 1) := by decide +kernel
theorem dL_law_214 : decode cL_law 214 = .ok (.aload_n 0, 1) := by decide +kernel
theorem dL_law_215 : decode cL_law 215 = .ok (.iload_n 3, 1) := by decide +kernel
theorem dL_law_216 : decode cL_law 216 = .ok (.iconst 2, 1) := by decide +kernel
theorem dL_law_217 : decode cL_law 217 = .ok (.iadd, 1) := by decide +kernel
theorem dL_law_218 : decode cL_law 218 = .ok (.iaload, 1) := by decide +kernel
theorem dL_law_219 : decode cL_law 219 = .ok (.invokevirtual 26, 3) := by decide +kernel
theorem dL_law_222 : decode cL_law 222 = .ok (.if_icmp .eq 612, 3) := by decide +kernel
theorem dL_law_225 : decode cL_law 225 = .ok (.iconst 0, 1) := by decide +kernel
theorem dL_law_226 : decode cL_law 226 = .ok (.ireturn, 1) := by decide +kernel
theorem dL_law_227 : decode cL_law 227 = .ok (.aload_n 1, 1) := by decide +kernel
theorem dL_law_228 : decode cL_law 228 = .ok (.aload_n 0, 1) := by decide +kernel
theorem dL_law_229 : decode cL_law 229 = .ok (.iload_n 3, 1) := by decide +kernel
theorem dL_law_230 : decode cL_law 230 = .ok (.iconst 1, 1) := by decide +kernel
theorem dL_law_231 : decode cL_law 231 = .ok (.iadd, 1) := by decide +kernel
theorem dL_law_232 : decode cL_law 232 = .ok (.iaload, 1) := by decide +kernel
theorem dL_law_233 : decode cL_law 233 = .ok (.aload_n 0, 1) := by decide +kernel
theorem dL_law_234 : decode cL_law 234 = .ok (.iload_n 3, 1) := by decide +kernel
theorem dL_law_235 : decode cL_law 235 = .ok (.iconst 2, 1) := by decide +kernel
theorem dL_law_236 : decode cL_law 236 = .ok (.iadd, 1) := by decide +kernel
theorem dL_law_237 : decode cL_law 237 = .ok (.iaload, 1) := by decide +kernel
theorem dL_law_238 : decode cL_law 238 = .ok (.invokevirtual 27, 3) := by decide +kernel
theorem dL_law_241 : decode cL_law 241 = .ok (.aload_n 2, 1) := by decide +kernel
theorem dL_law_242 : decode cL_law 242 = .ok (.aload_n 0, 1) := by decide +kernel
theorem dL_law_243 : decode cL_law 243 = .ok (.iload_n 3, 1) := by decide +kernel
theorem dL_law_244 : decode cL_law 244 = .ok (.iconst 1, 1) := by decide +kernel
theorem dL_law_245 : decode cL_law 245 = .ok (.iadd, 1) := by decide +kernel
theorem dL_law_246 : decode cL_law 246 = .ok (.iaload, 1) := by decide +kernel
theorem dL_law_247 : decode cL_law 247 = .ok (.aload_n 0, 1) := by decide +kernel
theorem dL_law_248 : decode cL_law 248 = .ok (.iload_n 3, 1) := by decide +kernel
theorem dL_law_249 : decode cL_law 249 = .ok (.iconst 2, 1) := by decide +kernel
theorem dL_law_250 : decode cL_law 250 = .ok (.iadd, 1) := by decide +kernel
theorem dL_law_251 : decode cL_law 251 = .ok (.iaload, 1) := by decide +kernel
theorem dL_law_252 : decode cL_law 252 = .ok (.invokevirtual 30, 3) := by decide +kernel
theorem dL_law_255 : decode cL_law 255 = .ok (.if_icmp .eq 579, 3) := by decide +kernel
theorem dL_law_258 : decode cL_law 258 = .ok (.iconst 0, 1) := by decide +kernel
theorem dL_law_259 : decode cL_law 259 = .ok (.ireturn, 1) := by decide +kernel
theorem dL_law_260 : decode cL_law 260 = .ok (.aload_n 1, 1) := by decide +kernel
theorem dL_law_261 : decode cL_law 261 = .ok (.aload_n 0, 1) := by decide +kernel
theorem dL_law_262 : decode cL_law 262 = .ok (.iload_n 3, 1) := by decide +kernel
theorem dL_law_263 : decode cL_law 263 = .ok (.iconst 1, 1) := by decide +kernel
theorem dL_law_264 : decode cL_law 264 = .ok (.iadd, 1) := by decide +kernel
theorem dL_law_265 : decode cL_law 265 = .ok (.iaload, 1) := by decide +kernel
theorem dL_law_266 : decode cL_law 266 = .ok (.aload_n 0, 1) := by decide +kernel
theorem dL_law_267 : decode cL_law 267 = .ok (.iload_n 3, 1) := by decide +kernel
theorem dL_law_268 : decode cL_law 268 = .ok (.iconst 2, 1) := by decide +kernel
theorem dL_law_269 : decode cL_law 269 = .ok (.iadd, 1) := by decide +kernel
theorem dL_law_270 : decode cL_law 270 = .ok (.iaload, 1) := by decide +kernel
theorem dL_law_271 : decode cL_law 271 = .ok (.invokevirtual 31, 3) := by decide +kernel
theorem dL_law_274 : decode cL_law 274 = .ok (.aload_n 2, 1) := by decide +kernel
theorem dL_law_275 : decode cL_law 275 = .ok (.aload_n 0, 1) := by decide +kernel
theorem dL_law_276 : decode cL_law 276 = .ok (.iload_n 3, 1) := by decide +kernel
theorem dL_law_277 : decode cL_law 277 = .ok (.iconst 1, 1) := by decide +kernel
theorem dL_law_278 : decode cL_law 278 = .ok (.iadd, 1) := by decide +kernel
theorem dL_law_279 : decode cL_law 279 = .ok (.iaload, 1) := by decide +kernel
theorem dL_law_280 : decode cL_law 280 = .ok (.aload_n 0, 1) := by decide +kernel
theorem dL_law_281 : decode cL_law 281 = .ok (.iload_n 3, 1) := by decide +kernel
theorem dL_law_282 : decode cL_law 282 = .ok (.iconst 2, 1) := by decide +kernel
theorem dL_law_283 : decode cL_law 283 = .ok (.iadd, 1) := by decide +kernel
theorem dL_law_284 : decode cL_law 284 = .ok (.iaload, 1) := by decide +kernel
theorem dL_law_285 : decode cL_law 285 = .ok (.invokevirtual 34, 3) := by decide +kernel
theorem dL_law_288 : decode cL_law 288 = .ok (.if_icmp .eq 546, 3) := by decide +kernel
theorem dL_law_291 : decode cL_law 291 = .ok (.iconst 0, 1) := by decide +kernel
theorem dL_law_292 : decode cL_law 292 = .ok (.ireturn, 1) := by decide +kernel
theorem dL_law_293 : decode cL_law 293 = .ok (.aload_n 1, 1) := by decide +kernel
theorem dL_law_294 : decode cL_law 294 = .ok (.aload_n 0, 1) := by decide +kernel
theorem dL_law_295 : decode cL_law 295 = .ok (.iload_n 3, 1) := by decide +kernel
theorem dL_law_296 : decode cL_law 296 = .ok (.iconst 1, 1) := by decide +kernel
theorem dL_law_297 : decode cL_law 297 = .ok (.iadd, 1) := by decide +kernel
theorem dL_law_298 : decode cL_law 298 = .ok (.iaload, 1) := by decide +kernel
theorem dL_law_299 : decode cL_law 299 = .ok (.aload_n 0, 1) := by decide +kernel
theorem dL_law_300 : decode cL_law 300 = .ok (.iload_n 3, 1) := by decide +kernel
theorem dL_law_301 : decode cL_law 301 = .ok (.iconst 2, 1) := by decide +kernel
theorem dL_law_302 : decode cL_law 302 = .ok (.iadd, 1) := by decide +kernel
theorem dL_law_303 : decode cL_law 303 = .ok (.iaload, 1) := by decide +kernel
theorem dL_law_304 : decode cL_law 304 = .ok (.aload_n 0, 1) := by decide +kernel
theorem dL_law_305 : decode cL_law 305 = .ok (.iload_n 3, 1) := by decide +kernel
theorem dL_law_306 : decode cL_law 306 = .ok (.iconst 3, 1) := by decide +kernel
theorem dL_law_307 : decode cL_law 307 = .ok (.iadd, 1) := by decide +kernel
theorem dL_law_308 : decode cL_law 308 = .ok (.iaload, 1) := by decide +kernel
theorem dL_law_309 : decode cL_law 309 = .ok (.invokevirtual 35, 3) := by decide +kernel
theorem dL_law_312 : decode cL_law 312 = .ok (.aload_n 2, 1) := by decide +kernel
theorem dL_law_313 : decode cL_law 313 = .ok (.aload_n 0, 1) := by decide +kernel
theorem dL_law_314 : decode cL_law 314 = .ok (.iload_n 3, 1) := by decide +kernel
theorem dL_law_315 : decode cL_law 315 = .ok (.iconst 1, 1) := by decide +kernel
theorem dL_law_316 : decode cL_law 316 = .ok (.iadd, 1) := by decide +kernel
theorem dL_law_317 : decode cL_law 317 = .ok (.iaload, 1) := by decide +kernel
theorem dL_law_318 : decode cL_law 318 = .ok (.aload_n 0, 1) := by decide +kernel
theorem dL_law_319 : decode cL_law 319 = .ok (.iload_n 3, 1) := by decide +kernel
theorem dL_law_320 : decode cL_law 320 = .ok (.iconst 2, 1) := by decide +kernel
theorem dL_law_321 : decode cL_law 321 = .ok (.iadd, 1) := by decide +kernel
theorem dL_law_322 : decode cL_law 322 = .ok (.iaload, 1) := by decide +kernel
theorem dL_law_323 : decode cL_law 323 = .ok (.aload_n 0, 1) := by decide +kernel
theorem dL_law_324 : decode cL_law 324 = .ok (.iload_n 3, 1) := by decide +kernel
theorem dL_law_325 : decode cL_law 325 = .ok (.iconst 3, 1) := by decide +kernel
theorem dL_law_326 : decode cL_law 326 = .ok (.iadd, 1) := by decide +kernel
theorem dL_law_327 : decode cL_law 327 = .ok (.iaload, 1) := by decide +kernel
theorem dL_law_328 : decode cL_law 328 = .ok (.invokevirtual 39, 3) := by decide +kernel
theorem dL_law_331 : decode cL_law 331 = .ok (.if_icmp .eq 503, 3) := by decide +kernel
theorem dL_law_334 : decode cL_law 334 = .ok (.iconst 0, 1) := by decide +kernel
theorem dL_law_335 : decode cL_law 335 = .ok (.ireturn, 1) := by decide +kernel
theorem dL_law_336 : decode cL_law 336 = .ok (.aload_n 1, 1) := by decide +kernel
theorem dL_law_337 : decode cL_law 337 = .ok (.aload_n 0, 1) := by decide +kernel
theorem dL_law_338 : decode cL_law 338 = .ok (.iload_n 3, 1) := by decide +kernel
theorem dL_law_339 : decode cL_law 339 = .ok (.iconst 1, 1) := by decide +kernel
theorem dL_law_340 : decode cL_law 340 = .ok (.iadd, 1) := by decide +kernel
theorem dL_law_341 : decode cL_law 341 = .ok (.iaload, 1) := by decide +kernel
theorem dL_law_342 : decode cL_law 342 = .ok (.invokevirtual 40, 3) := by decide +kernel
theorem dL_law_345 : decode cL_law 345 = .ok (.aload_n 2, 1) := by decide +kernel
theorem dL_law_346 : decode cL_law 346 = .ok (.aload_n 0, 1) := by decide +kernel
theorem dL_law_347 : decode cL_law 347 = .ok (.iload_n 3, 1) := by decide +kernel
theorem dL_law_348 : decode cL_law 348 = .ok (.iconst 1, 1) := by decide +kernel
theorem dL_law_349 : decode cL_law 349 = .ok (.iadd, 1) := by decide +kernel
theorem dL_law_350 : decode cL_law 350 = .ok (.iaload, 1) := by decide +kernel
theorem dL_law_351 : decode cL_law 351 = .ok (.invokevirtual 44, 3) := by decide +kernel
theorem dL_law_354 : decode cL_law 354 = .ok (.if_icmp .eq 480, 3) := by decide +kernel
theorem dL_law_357 : decode cL_law 357 = .ok (.iconst 0, 1) := by decide +kernel
theorem dL_law_358 : decode cL_law 358 = .ok (.ireturn, 1) := by decide +kernel
theorem dL_law_359 : decode cL_law 359 = .ok (.aload_n 1, 1) := by decide +kernel
theorem dL_law_360 : decode cL_law 360 = .ok (.aload_n 0, 1) := by decide +kernel
theorem dL_law_361 : decode cL_law 361 = .ok (.iload_n 3, 1) := by decide +kernel
theorem dL_law_362 : decode cL_law 362 = .ok (.iconst 1, 1) := by decide +kernel
theorem dL_law_363 : decode cL_law 363 = .ok (.iadd, 1) := by decide +kernel
theorem dL_law_364 : decode cL_law 364 = .ok (.iaload, 1) := by decide +kernel
theorem dL_law_365 : decode cL_law 365 = .ok (.aload_n 0, 1) := by decide +kernel
theorem dL_law_366 : decode cL_law 366 = .ok (.iload_n 3, 1) := by decide +kernel
theorem dL_law_367 : decode cL_law 367 = .ok (.iconst 2, 1) := by decide +kernel
theorem dL_law_368 : decode cL_law 368 = .ok (.iadd, 1) := by decide +kernel
theorem dL_law_369 : decode cL_law 369 = .ok (.iaload, 1) := by decide +kernel
theorem dL_law_370 : decode cL_law 370 = .ok (.invokevirtual 45, 3) := by decide +kernel
theorem dL_law_373 : decode cL_law 373 = .ok (.aload_n 2, 1) := by decide +kernel
theorem dL_law_374 : decode cL_law 374 = .ok (.aload_n 0, 1) := by decide +kernel
theorem dL_law_375 : decode cL_law 375 = .ok (.iload_n 3, 1) := by decide +kernel
theorem dL_law_376 : decode cL_law 376 = .ok (.iconst 1, 1) := by decide +kernel
theorem dL_law_377 : decode cL_law 377 = .ok (.iadd, 1) := by decide +kernel
theorem dL_law_378 : decode cL_law 378 = .ok (.iaload, 1) := by decide +kernel
theorem dL_law_379 : decode cL_law 379 = .ok (.aload_n 0, 1) := by decide +kernel
theorem dL_law_380 : decode cL_law 380 = .ok (.iload_n 3, 1) := by decide +kernel
theorem dL_law_381 : decode cL_law 381 = .ok (.iconst 2, 1) := by decide +kernel
theorem dL_law_382 : decode cL_law 382 = .ok (.iadd, 1) := by decide +kernel
theorem dL_law_383 : decode cL_law 383 = .ok (.iaload, 1) := by decide +kernel
theorem dL_law_384 : decode cL_law 384 = .ok (.invokevirtual 48, 3) := by decide +kernel
theorem dL_law_387 : decode cL_law 387 = .ok (.if_icmp .eq 447, 3) := by decide +kernel
theorem dL_law_390 : decode cL_law 390 = .ok (.iconst 0, 1) := by decide +kernel
theorem dL_law_391 : decode cL_law 391 = .ok (.ireturn, 1) := by decide +kernel
theorem dL_law_392 : decode cL_law 392 = .ok (.aload_n 1, 1) := by decide +kernel
theorem dL_law_393 : decode cL_law 393 = .ok (.aload_n 0, 1) := by decide +kernel
theorem dL_law_394 : decode cL_law 394 = .ok (.iload_n 3, 1) := by decide +kernel
theorem dL_law_395 : decode cL_law 395 = .ok (.iconst 1, 1) := by decide +kernel
theorem dL_law_396 : decode cL_law 396 = .ok (.iadd, 1) := by decide +kernel
theorem dL_law_397 : decode cL_law 397 = .ok (.iaload, 1) := by decide +kernel
theorem dL_law_398 : decode cL_law 398 = .ok (.aload_n 0, 1) := by decide +kernel
theorem dL_law_399 : decode cL_law 399 = .ok (.iload_n 3, 1) := by decide +kernel
theorem dL_law_400 : decode cL_law 400 = .ok (.iconst 2, 1) := by decide +kernel
theorem dL_law_401 : decode cL_law 401 = .ok (.iadd, 1) := by decide +kernel
theorem dL_law_402 : decode cL_law 402 = .ok (.iaload, 1) := by decide +kernel
theorem dL_law_403 : decode cL_law 403 = .ok (.invokevirtual 49, 3) := by decide +kernel
theorem dL_law_406 : decode cL_law 406 = .ok (.aload_n 2, 1) := by decide +kernel
theorem dL_law_407 : decode cL_law 407 = .ok (.aload_n 0, 1) := by decide +kernel
theorem dL_law_408 : decode cL_law 408 = .ok (.iload_n 3, 1) := by decide +kernel
theorem dL_law_409 : decode cL_law 409 = .ok (.iconst 1, 1) := by decide +kernel
theorem dL_law_410 : decode cL_law 410 = .ok (.iadd, 1) := by decide +kernel
theorem dL_law_411 : decode cL_law 411 = .ok (.iaload, 1) := by decide +kernel
theorem dL_law_412 : decode cL_law 412 = .ok (.aload_n 0, 1) := by decide +kernel
theorem dL_law_413 : decode cL_law 413 = .ok (.iload_n 3, 1) := by decide +kernel
theorem dL_law_414 : decode cL_law 414 = .ok (.iconst 2, 1) := by decide +kernel
theorem dL_law_415 : decode cL_law 415 = .ok (.iadd, 1) := by decide +kernel
theorem dL_law_416 : decode cL_law 416 = .ok (.iaload, 1) := by decide +kernel
theorem dL_law_417 : decode cL_law 417 = .ok (.invokevirtual 52, 3) := by decide +kernel
theorem dL_law_420 : decode cL_law 420 = .ok (.if_icmp .eq 414, 3) := by decide +kernel
theorem dL_law_423 : decode cL_law 423 = .ok (.iconst 0, 1) := by decide +kernel
theorem dL_law_424 : decode cL_law 424 = .ok (.ireturn, 1) := by decide +kernel
theorem dL_law_425 : decode cL_law 425 = .ok (.aload_n 1, 1) := by decide +kernel
theorem dL_law_426 : decode cL_law 426 = .ok (.invokevirtual 53, 3) := by decide +kernel
theorem dL_law_429 : decode cL_law 429 = .ok (.aload_n 2, 1) := by decide +kernel
theorem dL_law_430 : decode cL_law 430 = .ok (.invokevirtual 56, 3) := by decide +kernel
theorem dL_law_433 : decode cL_law 433 = .ok (.if_icmp .eq 401, 3) := by decide +kernel
theorem dL_law_436 : decode cL_law 436 = .ok (.iconst 0, 1) := by decide +kernel
theorem dL_law_437 : decode cL_law 437 = .ok (.ireturn, 1) := by decide +kernel
theorem dL_law_438 : decode cL_law 438 = .ok (.aload_n 1, 1) := by decide +kernel
theorem dL_law_439 : decode cL_law 439 = .ok (.invokevirtual 57, 3) := by decide +kernel
theorem dL_law_442 : decode cL_law 442 = .ok (.aload_n 2, 1) := by decide +kernel
theorem dL_law_443 : decode cL_law 443 = .ok (.invokevirtual 60, 3) := by decide +kernel
theorem dL_law_446 : decode cL_law 446 = .ok (.if_icmp .eq 388, 3) := by decide +kernel
theorem dL_law_449 : decode cL_law 449 = .ok (.iconst 0, 1) := by decide +kernel
theorem dL_law_450 : decode cL_law 450 = .ok (.ireturn, 1) := by decide +kernel
theorem dL_law_451 : decode cL_law 451 = .ok (.aload_n 1, 1) := by decide +kernel
theorem dL_law_452 : decode cL_law 452 = .ok (.aload_n 0, 1) := by decide +kernel
theorem dL_law_453 : decode cL_law 453 = .ok (.iload_n 3, 1) := by decide +kernel
theorem dL_law_454 : decode cL_law 454 = .ok (.iconst 1, 1) := by decide +kernel
theorem dL_law_455 : decode cL_law 455 = .ok (.iadd, 1) := by decide +kernel
theorem dL_law_456 : decode cL_law 456 = .ok (.iaload, 1) := by decide +kernel
theorem dL_law_457 : decode cL_law 457 = .ok (.aload_n 0, 1) := by decide +kernel
theorem dL_law_458 : decode cL_law 458 = .ok (.iload_n 3, 1) := by decide +kernel
theorem dL_law_459 : decode cL_law 459 = .ok (.iconst 2, 1) := by decide +kernel
theorem dL_law_460 : decode cL_law 460 = .ok (.iadd, 1) := by decide +kernel
theorem dL_law_461 : decode cL_law 461 = .ok (.iaload, 1) := by decide +kernel
theorem dL_law_462 : decode cL_law 462 = .ok (.invokevirtual 61, 3) := by decide +kernel
theorem dL_law_465 : decode cL_law 465 = .ok (.aload_n 2, 1) := by decide +kernel
theorem dL_law_466 : decode cL_law 466 = .ok (.aload_n 0, 1) := by decide +kernel
theorem dL_law_467 : decode cL_law 467 = .ok (.iload_n 3, 1) := by decide +kernel
theorem dL_law_468 : decode cL_law 468 = .ok (.iconst 1, 1) := by decide +kernel
theorem dL_law_469 : decode cL_law 469 = .ok (.iadd, 1) := by decide +kernel
theorem dL_law_470 : decode cL_law 470 = .ok (.iaload, 1) := by decide +kernel
theorem dL_law_471 : decode cL_law 471 = .ok (.aload_n 0, 1) := by decide +kernel
theorem dL_law_472 : decode cL_law 472 = .ok (.iload_n 3, 1) := by decide +kernel
theorem dL_law_473 : decode cL_law 473 = .ok (.iconst 2, 1) := by decide +kernel
theorem dL_law_474 : decode cL_law 474 = .ok (.iadd, 1) := by decide +kernel
theorem dL_law_475 : decode cL_law 475 = .ok (.iaload, 1) := by decide +kernel
theorem dL_law_476 : decode cL_law 476 = .ok (.invokevirtual 64, 3) := by decide +kernel
theorem dL_law_479 : decode cL_law 479 = .ok (.if_icmp .eq 355, 3) := by decide +kernel
theorem dL_law_482 : decode cL_law 482 = .ok (.iconst 0, 1) := by decide +kernel
theorem dL_law_483 : decode cL_law 483 = .ok (.ireturn, 1) := by decide +kernel
theorem dL_law_484 : decode cL_law 484 = .ok (.aload_n 1, 1) := by decide +kernel
theorem dL_law_485 : decode cL_law 485 = .ok (.aload_n 0, 1) := by decide +kernel
theorem dL_law_486 : decode cL_law 486 = .ok (.iload_n 3, 1) := by decide +kernel
theorem dL_law_487 : decode cL_law 487 = .ok (.iconst 1, 1) := by decide +kernel
theorem dL_law_488 : decode cL_law 488 = .ok (.iadd, 1) := by decide +kernel
theorem dL_law_489 : decode cL_law 489 = .ok (.iaload, 1) := by decide +kernel
theorem dL_law_490 : decode cL_law 490 = .ok (.aload_n 0, 1) := by decide +kernel
theorem dL_law_491 : decode cL_law 491 = .ok (.iload_n 3, 1) := by decide +kernel
theorem dL_law_492 : decode cL_law 492 = .ok (.iconst 2, 1) := by decide +kernel
theorem dL_law_493 : decode cL_law 493 = .ok (.iadd, 1) := by decide +kernel
theorem dL_law_494 : decode cL_law 494 = .ok (.iaload, 1) := by decide +kernel
theorem dL_law_495 : decode cL_law 495 = .ok (.invokevirtual 65, 3) := by decide +kernel
theorem dL_law_498 : decode cL_law 498 = .ok (.aload_n 2, 1) := by decide +kernel
theorem dL_law_499 : decode cL_law 499 = .ok (.aload_n 0, 1) := by decide +kernel
theorem dL_law_500 : decode cL_law 500 = .ok (.iload_n 3, 1) := by decide +kernel
theorem dL_law_501 : decode cL_law 501 = .ok (.iconst 1, 1) := by decide +kernel
theorem dL_law_502 : decode cL_law 502 = .ok (.iadd, 1) := by decide +kernel
theorem dL_law_503 : decode cL_law 503 = .ok (.iaload, 1) := by decide +kernel
theorem dL_law_504 : decode cL_law 504 = .ok (.aload_n 0, 1) := by decide +kernel
theorem dL_law_505 : decode cL_law 505 = .ok (.iload_n 3, 1) := by decide +kernel
theorem dL_law_506 : decode cL_law 506 = .ok (.iconst 2, 1) := by decide +kernel
theorem dL_law_507 : decode cL_law 507 = .ok (.iadd, 1) := by decide +kernel
theorem dL_law_508 : decode cL_law 508 = .ok (.iaload, 1) := by decide +kernel
theorem dL_law_509 : decode cL_law 509 = .ok (.invokevirtual 68, 3) := by decide +kernel
theorem dL_law_512 : decode cL_law 512 = .ok (.if_icmp .eq 322, 3) := by decide +kernel
theorem dL_law_515 : decode cL_law 515 = .ok (.iconst 0, 1) := by decide +kernel
theorem dL_law_516 : decode cL_law 516 = .ok (.ireturn, 1) := by decide +kernel
theorem dL_law_517 : decode cL_law 517 = .ok (.aload_n 1, 1) := by decide +kernel
theorem dL_law_518 : decode cL_law 518 = .ok (.aload_n 0, 1) := by decide +kernel
theorem dL_law_519 : decode cL_law 519 = .ok (.iload_n 3, 1) := by decide +kernel
theorem dL_law_520 : decode cL_law 520 = .ok (.iconst 1, 1) := by decide +kernel
theorem dL_law_521 : decode cL_law 521 = .ok (.iadd, 1) := by decide +kernel
theorem dL_law_522 : decode cL_law 522 = .ok (.iaload, 1) := by decide +kernel
theorem dL_law_523 : decode cL_law 523 = .ok (.aload_n 0, 1) := by decide +kernel
theorem dL_law_524 : decode cL_law 524 = .ok (.iload_n 3, 1) := by decide +kernel
theorem dL_law_525 : decode cL_law 525 = .ok (.iconst 2, 1) := by decide +kernel
theorem dL_law_526 : decode cL_law 526 = .ok (.iadd, 1) := by decide +kernel
theorem dL_law_527 : decode cL_law 527 = .ok (.iaload, 1) := by decide +kernel
theorem dL_law_528 : decode cL_law 528 = .ok (.aload_n 0, 1) := by decide +kernel
theorem dL_law_529 : decode cL_law 529 = .ok (.iload_n 3, 1) := by decide +kernel
theorem dL_law_530 : decode cL_law 530 = .ok (.iconst 3, 1) := by decide +kernel
theorem dL_law_531 : decode cL_law 531 = .ok (.iadd, 1) := by decide +kernel
theorem dL_law_532 : decode cL_law 532 = .ok (.iaload, 1) := by decide +kernel
theorem dL_law_533 : decode cL_law 533 = .ok (.invokevirtual 69, 3) := by decide +kernel
theorem dL_law_536 : decode cL_law 536 = .ok (.aload_n 2, 1) := by decide +kernel
theorem dL_law_537 : decode cL_law 537 = .ok (.aload_n 0, 1) := by decide +kernel
theorem dL_law_538 : decode cL_law 538 = .ok (.iload_n 3, 1) := by decide +kernel
theorem dL_law_539 : decode cL_law 539 = .ok (.iconst 1, 1) := by decide +kernel
theorem dL_law_540 : decode cL_law 540 = .ok (.iadd, 1) := by decide +kernel
theorem dL_law_541 : decode cL_law 541 = .ok (.iaload, 1) := by decide +kernel
theorem dL_law_542 : decode cL_law 542 = .ok (.aload_n 0, 1) := by decide +kernel
theorem dL_law_543 : decode cL_law 543 = .ok (.iload_n 3, 1) := by decide +kernel
theorem dL_law_544 : decode cL_law 544 = .ok (.iconst 2, 1) := by decide +kernel
theorem dL_law_545 : decode cL_law 545 = .ok (.iadd, 1) := by decide +kernel
theorem dL_law_546 : decode cL_law 546 = .ok (.iaload, 1) := by decide +kernel
theorem dL_law_547 : decode cL_law 547 = .ok (.aload_n 0, 1) := by decide +kernel
theorem dL_law_548 : decode cL_law 548 = .ok (.iload_n 3, 1) := by decide +kernel
theorem dL_law_549 : decode cL_law 549 = .ok (.iconst 3, 1) := by decide +kernel
theorem dL_law_550 : decode cL_law 550 = .ok (.iadd, 1) := by decide +kernel
theorem dL_law_551 : decode cL_law 551 = .ok (.iaload, 1) := by decide +kernel
theorem dL_law_552 : decode cL_law 552 = .ok (.invokevirtual 72, 3) := by decide +kernel
theorem dL_law_555 : decode cL_law 555 = .ok (.if_icmp .eq 279, 3) := by decide +kernel
theorem dL_law_558 : decode cL_law 558 = .ok (.iconst 0, 1) := by decide +kernel
theorem dL_law_559 : decode cL_law 559 = .ok (.ireturn, 1) := by decide +kernel
theorem dL_law_560 : decode cL_law 560 = .ok (.aload_n 1, 1) := by decide +kernel
theorem dL_law_561 : decode cL_law 561 = .ok (.aload_n 0, 1) := by decide +kernel
theorem dL_law_562 : decode cL_law 562 = .ok (.iload_n 3, 1) := by decide +kernel
theorem dL_law_563 : decode cL_law 563 = .ok (.iconst 1, 1) := by decide +kernel
theorem dL_law_564 : decode cL_law 564 = .ok (.iadd, 1) := by decide +kernel
theorem dL_law_565 : decode cL_law 565 = .ok (.iaload, 1) := by decide +kernel
theorem dL_law_566 : decode cL_law 566 = .ok (.invokevirtual 73, 3) := by decide +kernel
theorem dL_law_569 : decode cL_law 569 = .ok (.aload_n 2, 1) := by decide +kernel
theorem dL_law_570 : decode cL_law 570 = .ok (.aload_n 0, 1) := by decide +kernel
theorem dL_law_571 : decode cL_law 571 = .ok (.iload_n 3, 1) := by decide +kernel
theorem dL_law_572 : decode cL_law 572 = .ok (.iconst 1, 1) := by decide +kernel
theorem dL_law_573 : decode cL_law 573 = .ok (.iadd, 1) := by decide +kernel
theorem dL_law_574 : decode cL_law 574 = .ok (.iaload, 1) := by decide +kernel
theorem dL_law_575 : decode cL_law 575 = .ok (.invokevirtual 76, 3) := by decide +kernel
theorem dL_law_578 : decode cL_law 578 = .ok (.if_icmp .eq 256, 3) := by decide +kernel
theorem dL_law_581 : decode cL_law 581 = .ok (.iconst 0, 1) := by decide +kernel
theorem dL_law_582 : decode cL_law 582 = .ok (.ireturn, 1) := by decide +kernel
theorem dL_law_583 : decode cL_law 583 = .ok (.aload_n 1, 1) := by decide +kernel
theorem dL_law_584 : decode cL_law 584 = .ok (.aload_n 0, 1) := by decide +kernel
theorem dL_law_585 : decode cL_law 585 = .ok (.iload_n 3, 1) := by decide +kernel
theorem dL_law_586 : decode cL_law 586 = .ok (.iconst 1, 1) := by decide +kernel
theorem dL_law_587 : decode cL_law 587 = .ok (.iadd, 1) := by decide +kernel
theorem dL_law_588 : decode cL_law 588 = .ok (.iaload, 1) := by decide +kernel
theorem dL_law_589 : decode cL_law 589 = .ok (.aload_n 0, 1) := by decide +kernel
theorem dL_law_590 : decode cL_law 590 = .ok (.iload_n 3, 1) := by decide +kernel
theorem dL_law_591 : decode cL_law 591 = .ok (.iconst 2, 1) := by decide +kernel
theorem dL_law_592 : decode cL_law 592 = .ok (.iadd, 1) := by decide +kernel
theorem dL_law_593 : decode cL_law 593 = .ok (.iaload, 1) := by decide +kernel
theorem dL_law_594 : decode cL_law 594 = .ok (.invokevirtual 77, 3) := by decide +kernel
theorem dL_law_597 : decode cL_law 597 = .ok (.aload_n 2, 1) := by decide +kernel
theorem dL_law_598 : decode cL_law 598 = .ok (.aload_n 0, 1) := by decide +kernel
theorem dL_law_599 : decode cL_law 599 = .ok (.iload_n 3, 1) := by decide +kernel
theorem dL_law_600 : decode cL_law 600 = .ok (.iconst 1, 1) := by decide +kernel
theorem dL_law_601 : decode cL_law 601 = .ok (.iadd, 1) := by decide +kernel
theorem dL_law_602 : decode cL_law 602 = .ok (.iaload, 1) := by decide +kernel
theorem dL_law_603 : decode cL_law 603 = .ok (.aload_n 0, 1) := by decide +kernel
theorem dL_law_604 : decode cL_law 604 = .ok (.iload_n 3, 1) := by decide +kernel
theorem dL_law_605 : decode cL_law 605 = .ok (.iconst 2, 1) := by decide +kernel
theorem dL_law_606 : decode cL_law 606 = .ok (.iadd, 1) := by decide +kernel
theorem dL_law_607 : decode cL_law 607 = .ok (.iaload, 1) := by decide +kernel
theorem dL_law_608 : decode cL_law 608 = .ok (.invokevirtual 80, 3) := by decide +kernel
theorem dL_law_611 : decode cL_law 611 = .ok (.if_icmp .eq 223, 3) := by decide +kernel
theorem dL_law_614 : decode cL_law 614 = .ok (.iconst 0, 1) := by decide +kernel
theorem dL_law_615 : decode cL_law 615 = .ok (.ireturn, 1) := by decide +kernel
theorem dL_law_616 : decode cL_law 616 = .ok (.aload_n 1, 1) := by decide +kernel
theorem dL_law_617 : decode cL_law 617 = .ok (.aload_n 0, 1) := by decide +kernel
theorem dL_law_618 : decode cL_law 618 = .ok (.iload_n 3, 1) := by decide +kernel
theorem dL_law_619 : decode cL_law 619 = .ok (.iconst 1, 1) := by decide +kernel
theorem dL_law_620 : decode cL_law 620 = .ok (.iadd, 1) := by decide +kernel
theorem dL_law_621 : decode cL_law 621 = .ok (.iaload, 1) := by decide +kernel
theorem dL_law_622 : decode cL_law 622 = .ok (.invokevirtual 81, 3) := by decide +kernel
theorem dL_law_625 : decode cL_law 625 = .ok (.aload_n 2, 1) := by decide +kernel
theorem dL_law_626 : decode cL_law 626 = .ok (.aload_n 0, 1) := by decide +kernel
theorem dL_law_627 : decode cL_law 627 = .ok (.iload_n 3, 1) := by decide +kernel
theorem dL_law_628 : decode cL_law 628 = .ok (.iconst 1, 1) := by decide +kernel
theorem dL_law_629 : decode cL_law 629 = .ok (.iadd, 1) := by decide +kernel
theorem dL_law_630 : decode cL_law 630 = .ok (.iaload, 1) := by decide +kernel
theorem dL_law_631 : decode cL_law 631 = .ok (.invokevirtual 84, 3) := by decide +kernel
theorem dL_law_634 : decode cL_law 634 = .ok (.if_icmp .eq 200, 3) := by decide +kernel
theorem dL_law_637 : decode cL_law 637 = .ok (.iconst 0, 1) := by decide +kernel
theorem dL_law_638 : decode cL_law 638 = .ok (.ireturn, 1) := by decide +kernel
theorem dL_law_639 : decode cL_law 639 = .ok (.aload_n 1, 1) := by decide +kernel
theorem dL_law_640 : decode cL_law 640 = .ok (.aload_n 0, 1) := by decide +kernel
theorem dL_law_641 : decode cL_law 641 = .ok (.iload_n 3, 1) := by decide +kernel
theorem dL_law_642 : decode cL_law 642 = .ok (.iconst 1, 1) := by decide +kernel
theorem dL_law_643 : decode cL_law 643 = .ok (.iadd, 1) := by decide +kernel
theorem dL_law_644 : decode cL_law 644 = .ok (.iaload, 1) := by decide +kernel
theorem dL_law_645 : decode cL_law 645 = .ok (.aload_n 0, 1) := by decide +kernel
theorem dL_law_646 : decode cL_law 646 = .ok (.iload_n 3, 1) := by decide +kernel
theorem dL_law_647 : decode cL_law 647 = .ok (.iconst 2, 1) := by decide +kernel
theorem dL_law_648 : decode cL_law 648 = .ok (.iadd, 1) := by decide +kernel
theorem dL_law_649 : decode cL_law 649 = .ok (.iaload, 1) := by decide +kernel
theorem dL_law_650 : decode cL_law 650 = .ok (.invokevirtual 85, 3) := by decide +kernel
theorem dL_law_653 : decode cL_law 653 = .ok (.aload_n 2, 1) := by decide +kernel
theorem dL_law_654 : decode cL_law 654 = .ok (.aload_n 0, 1) := by decide +kernel
theorem dL_law_655 : decode cL_law 655 = .ok (.iload_n 3, 1) := by decide +kernel
theorem dL_law_656 : decode cL_law 656 = .ok (.iconst 1, 1) := by decide +kernel
theorem dL_law_657 : decode cL_law 657 = .ok (.iadd, 1) := by decide +kernel
theorem dL_law_658 : decode cL_law 658 = .ok (.iaload, 1) := by decide +kernel
theorem dL_law_659 : decode cL_law 659 = .ok (.aload_n 0, 1) := by decide +kernel
theorem dL_law_660 : decode cL_law 660 = .ok (.iload_n 3, 1) := by decide +kernel
theorem dL_law_661 : decode cL_law 661 = .ok (.iconst 2, 1) := by decide +kernel
theorem dL_law_662 : decode cL_law 662 = .ok (.iadd, 1) := by decide +kernel
theorem dL_law_663 : decode cL_law 663 = .ok (.iaload, 1) := by decide +kernel
theorem dL_law_664 : decode cL_law 664 = .ok (.invokevirtual 88, 3) := by decide +kernel
theorem dL_law_667 : decode cL_law 667 = .ok (.if_icmp .eq 167, 3) := by decide +kernel
theorem dL_law_670 : decode cL_law 670 = .ok (.iconst 0, 1) := by decide +kernel
theorem dL_law_671 : decode cL_law 671 = .ok (.ireturn, 1) := by decide +kernel
theorem dL_law_672 : decode cL_law 672 = .ok (.aload_n 1, 1) := by decide +kernel
theorem dL_law_673 : decode cL_law 673 = .ok (.invokevirtual 89, 3) := by decide +kernel
theorem dL_law_676 : decode cL_law 676 = .ok (.aload_n 2, 1) := by decide +kernel
theorem dL_law_677 : decode cL_law 677 = .ok (.invokevirtual 92, 3) := by decide +kernel
theorem dL_law_680 : decode cL_law 680 = .ok (.if_icmp .eq 154, 3) := by decide +kernel
theorem dL_law_683 : decode cL_law 683 = .ok (.iconst 0, 1) := by decide +kernel
theorem dL_law_684 : decode cL_law 684 = .ok (.ireturn, 1) := by decide +kernel
theorem dL_law_685 : decode cL_law 685 = .ok (.aload_n 1, 1) := by decide +kernel
theorem dL_law_686 : decode cL_law 686 = .ok (.invokevirtual 93, 3) := by decide +kernel
theorem dL_law_689 : decode cL_law 689 = .ok (.aload_n 2, 1) := by decide +kernel
theorem dL_law_690 : decode cL_law 690 = .ok (.invokevirtual 96, 3) := by decide +kernel
theorem dL_law_693 : decode cL_law 693 = .ok (.if_icmp .eq 141, 3) := by decide +kernel
theorem dL_law_696 : decode cL_law 696 = .ok (.iconst 0, 1) := by decide +kernel
theorem dL_law_697 : decode cL_law 697 = .ok (.ireturn, 1) := by decide +kernel
theorem dL_law_698 : decode cL_law 698 = .ok (.aload_n 1, 1) := by decide +kernel
theorem dL_law_699 : decode cL_law 699 = .ok (.aload_n 0, 1) := by decide +kernel
theorem dL_law_700 : decode cL_law 700 = .ok (.iload_n 3, 1) := by decide +kernel
theorem dL_law_701 : decode cL_law 701 = .ok (.iconst 1, 1) := by decide +kernel
theorem dL_law_702 : decode cL_law 702 = .ok (.iadd, 1) := by decide +kernel
theorem dL_law_703 : decode cL_law 703 = .ok (.iaload, 1) := by decide +kernel
theorem dL_law_704 : decode cL_law 704 = .ok (.aload_n 0, 1) := by decide +kernel
theorem dL_law_705 : decode cL_law 705 = .ok (.iload_n 3, 1) := by decide +kernel
theorem dL_law_706 : decode cL_law 706 = .ok (.iconst 2, 1) := by decide +kernel
theorem dL_law_707 : decode cL_law 707 = .ok (.iadd, 1) := by decide +kernel
theorem dL_law_708 : decode cL_law 708 = .ok (.iaload, 1) := by decide +kernel
theorem dL_law_709 : decode cL_law 709 = .ok (.invokevirtual 97, 3) := by decide +kernel
theorem dL_law_712 : decode cL_law 712 = .ok (.aload_n 2, 1) := by decide +kernel
theorem dL_law_713 : decode cL_law 713 = .ok (.aload_n 0, 1) := by decide +kernel
theorem dL_law_714 : decode cL_law 714 = .ok (.iload_n 3, 1) := by decide +kernel
theorem dL_law_715 : decode cL_law 715 = .ok (.iconst 1, 1) := by decide +kernel
theorem dL_law_716 : decode cL_law 716 = .ok (.iadd, 1) := by decide +kernel
theorem dL_law_717 : decode cL_law 717 = .ok (.iaload, 1) := by decide +kernel
theorem dL_law_718 : decode cL_law 718 = .ok (.aload_n 0, 1) := by decide +kernel
theorem dL_law_719 : decode cL_law 719 = .ok (.iload_n 3, 1) := by decide +kernel
theorem dL_law_720 : decode cL_law 720 = .ok (.iconst 2, 1) := by decide +kernel
theorem dL_law_721 : decode cL_law 721 = .ok (.iadd, 1) := by decide +kernel
theorem dL_law_722 : decode cL_law 722 = .ok (.iaload, 1) := by decide +kernel
theorem dL_law_723 : decode cL_law 723 = .ok (.invokevirtual 100, 3) := by decide +kernel
theorem dL_law_726 : decode cL_law 726 = .ok (.if_icmp .eq 108, 3) := by decide +kernel
theorem dL_law_729 : decode cL_law 729 = .ok (.iconst 0, 1) := by decide +kernel
theorem dL_law_730 : decode cL_law 730 = .ok (.ireturn, 1) := by decide +kernel
theorem dL_law_731 : decode cL_law 731 = .ok (.aload_n 1, 1) := by decide +kernel
theorem dL_law_732 : decode cL_law 732 = .ok (.aload_n 0, 1) := by decide +kernel
theorem dL_law_733 : decode cL_law 733 = .ok (.iload_n 3, 1) := by decide +kernel
theorem dL_law_734 : decode cL_law 734 = .ok (.iconst 1, 1) := by decide +kernel
theorem dL_law_735 : decode cL_law 735 = .ok (.iadd, 1) := by decide +kernel
theorem dL_law_736 : decode cL_law 736 = .ok (.iaload, 1) := by decide +kernel
theorem dL_law_737 : decode cL_law 737 = .ok (.aload_n 0, 1) := by decide +kernel
theorem dL_law_738 : decode cL_law 738 = .ok (.iload_n 3, 1) := by decide +kernel
theorem dL_law_739 : decode cL_law 739 = .ok (.iconst 2, 1) := by decide +kernel
theorem dL_law_740 : decode cL_law 740 = .ok (.iadd, 1) := by decide +kernel
theorem dL_law_741 : decode cL_law 741 = .ok (.iaload, 1) := by decide +kernel
theorem dL_law_742 : decode cL_law 742 = .ok (.aload_n 0, 1) := by decide +kernel
theorem dL_law_743 : decode cL_law 743 = .ok (.iload_n 3, 1) := by decide +kernel
theorem dL_law_744 : decode cL_law 744 = .ok (.iconst 3, 1) := by decide +kernel
theorem dL_law_745 : decode cL_law 745 = .ok (.iadd, 1) := by decide +kernel
theorem dL_law_746 : decode cL_law 746 = .ok (.iaload, 1) := by decide +kernel
theorem dL_law_747 : decode cL_law 747 = .ok (.invokevirtual 101, 3) := by decide +kernel
theorem dL_law_750 : decode cL_law 750 = .ok (.aload_n 2, 1) := by decide +kernel
theorem dL_law_751 : decode cL_law 751 = .ok (.aload_n 0, 1) := by decide +kernel
theorem dL_law_752 : decode cL_law 752 = .ok (.iload_n 3, 1) := by decide +kernel
theorem dL_law_753 : decode cL_law 753 = .ok (.iconst 1, 1) := by decide +kernel
theorem dL_law_754 : decode cL_law 754 = .ok (.iadd, 1) := by decide +kernel
theorem dL_law_755 : decode cL_law 755 = .ok (.iaload, 1) := by decide +kernel
theorem dL_law_756 : decode cL_law 756 = .ok (.aload_n 0, 1) := by decide +kernel
theorem dL_law_757 : decode cL_law 757 = .ok (.iload_n 3, 1) := by decide +kernel
theorem dL_law_758 : decode cL_law 758 = .ok (.iconst 2, 1) := by decide +kernel
theorem dL_law_759 : decode cL_law 759 = .ok (.iadd, 1) := by decide +kernel
theorem dL_law_760 : decode cL_law 760 = .ok (.iaload, 1) := by decide +kernel
theorem dL_law_761 : decode cL_law 761 = .ok (.aload_n 0, 1) := by decide +kernel
theorem dL_law_762 : decode cL_law 762 = .ok (.iload_n 3, 1) := by decide +kernel
theorem dL_law_763 : decode cL_law 763 = .ok (.iconst 3, 1) := by decide +kernel
theorem dL_law_764 : decode cL_law 764 = .ok (.iadd, 1) := by decide +kernel
theorem dL_law_765 : decode cL_law 765 = .ok (.iaload, 1) := by decide +kernel
theorem dL_law_766 : decode cL_law 766 = .ok (.invokevirtual 104, 3) := by decide +kernel
theorem dL_law_769 : decode cL_law 769 = .ok (.if_icmp .eq 65, 3) := by decide +kernel
theorem dL_law_772 : decode cL_law 772 = .ok (.iconst 0, 1) := by decide +kernel
theorem dL_law_773 : decode cL_law 773 = .ok (.ireturn, 1) := by decide +kernel
theorem dL_law_774 : decode cL_law 774 = .ok (.aload_n 1, 1) := by decide +kernel
theorem dL_law_775 : decode cL_law 775 = .ok (.aload_n 0, 1) := by decide +kernel
theorem dL_law_776 : decode cL_law 776 = .ok (.iload_n 3, 1) := by decide +kernel
theorem dL_law_777 : decode cL_law 777 = .ok (.iconst 1, 1) := by decide +kernel
theorem dL_law_778 : decode cL_law 778 = .ok (.iadd, 1) := by decide +kernel
theorem dL_law_779 : decode cL_law 779 = .ok (.iaload, 1) := by decide +kernel
theorem dL_law_780 : decode cL_law 780 = .ok (.invokevirtual 105, 3) := by decide +kernel
theorem dL_law_783 : decode cL_law 783 = .ok (.aload_n 2, 1) := by decide +kernel
theorem dL_law_784 : decode cL_law 784 = .ok (.aload_n 0, 1) := by decide +kernel
theorem dL_law_785 : decode cL_law 785 = .ok (.iload_n 3, 1) := by decide +kernel
theorem dL_law_786 : decode cL_law 786 = .ok (.iconst 1, 1) := by decide +kernel
theorem dL_law_787 : decode cL_law 787 = .ok (.iadd, 1) := by decide +kernel
theorem dL_law_788 : decode cL_law 788 = .ok (.iaload, 1) := by decide +kernel
theorem dL_law_789 : decode cL_law 789 = .ok (.invokevirtual 108, 3) := by decide +kernel
theorem dL_law_792 : decode cL_law 792 = .ok (.if_icmp .eq 42, 3) := by decide +kernel
theorem dL_law_795 : decode cL_law 795 = .ok (.iconst 0, 1) := by decide +kernel
theorem dL_law_796 : decode cL_law 796 = .ok (.ireturn, 1) := by decide +kernel
theorem dL_law_797 : decode cL_law 797 = .ok (.aload_n 1, 1) := by decide +kernel
theorem dL_law_798 : decode cL_law 798 = .ok (.aload_n 0, 1) := by decide +kernel
theorem dL_law_799 : decode cL_law 799 = .ok (.iload_n 3, 1) := by decide +kernel
theorem dL_law_800 : decode cL_law 800 = .ok (.iconst 1, 1) := by decide +kernel
theorem dL_law_801 : decode cL_law 801 = .ok (.iadd, 1) := by decide +kernel
theorem dL_law_802 : decode cL_law 802 = .ok (.iaload, 1) := by decide +kernel
theorem dL_law_803 : decode cL_law 803 = .ok (.invokevirtual 109, 3) := by decide +kernel
theorem dL_law_806 : decode cL_law 806 = .ok (.aload_n 2, 1) := by decide +kernel
theorem dL_law_807 : decode cL_law 807 = .ok (.aload_n 0, 1) := by decide +kernel
theorem dL_law_808 : decode cL_law 808 = .ok (.iload_n 3, 1) := by decide +kernel
theorem dL_law_809 : decode cL_law 809 = .ok (.iconst 1, 1) := by decide +kernel
theorem dL_law_810 : decode cL_law 810 = .ok (.iadd, 1) := by decide +kernel
theorem dL_law_811 : decode cL_law 811 = .ok (.iaload, 1) := by decide +kernel
theorem dL_law_812 : decode cL_law 812 = .ok (.invokevirtual 112, 3) := by decide +kernel
theorem dL_law_815 : decode cL_law 815 = .ok (.if_icmp .eq 19, 3) := by decide +kernel
theorem dL_law_818 : decode cL_law 818 = .ok (.iconst 0, 1) := by decide +kernel
theorem dL_law_819 : decode cL_law 819 = .ok (.ireturn, 1) := by decide +kernel
theorem dL_law_820 : decode cL_law 820 = .ok (.aload_n 1, 1) := by decide +kernel
theorem dL_law_821 : decode cL_law 821 = .ok (.invokevirtual 113, 3) := by decide +kernel
theorem dL_law_824 : decode cL_law 824 = .ok (.aload_n 2, 1) := by decide +kernel
theorem dL_law_825 : decode cL_law 825 = .ok (.invokevirtual 117, 3) := by decide +kernel
theorem dL_law_828 : decode cL_law 828 = .ok (.lcmp, 1) := by decide +kernel
theorem dL_law_829 : decode cL_law 829 = .ok (.ifCond .eq 5, 3) := by decide +kernel
theorem dL_law_832 : decode cL_law 832 = .ok (.iconst 0, 1) := by decide +kernel
theorem dL_law_833 : decode cL_law 833 = .ok (.ireturn, 1) := by decide +kernel
theorem dL_law_834 : decode cL_law 834 = .ok (.iinc 3 4, 3) := by decide +kernel
theorem dL_law_837 : decode cL_law 837 = .ok (.goto (-819), 3) := by decide +kernel
theorem dL_law_840 : decode cL_law 840 = .ok (.iconst 1, 1) := by decide +kernel
theorem dL_law_841 : decode cL_law 841 = .ok (.ireturn, 1) := by decide +kernel
