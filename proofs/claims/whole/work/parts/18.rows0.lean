theorem dX0_init_0 : decode cX0_init 0 = .ok (.aload_n 0, 1) := by decide +kernel
theorem dX0_init_1 : decode cX0_init 1 = .ok (.invokespecial 3, 3) := by decide +kernel
theorem dX0_init_4 : decode cX0_init 4 = .ok (.aload_n 0, 1) := by decide +kernel
theorem dX0_init_5 : decode cX0_init 5 = .ok (.bipush 8, 2) := by decide +kernel
theorem dX0_init_7 : decode cX0_init 7 = .ok (.newarray .boolean, 2) := by decide +kernel
theorem dX0_init_9 : decode cX0_init 9 = .ok (.putfield 9, 3) := by decide +kernel
theorem dX0_init_12 : decode cX0_init 12 = .ok (.return_, 1) := by decide +kernel
theorem dX0_goThrough_0 : decode cX0_goThrough 0 = .ok (.iconst 0, 1) := by decide +kernel
theorem dX0_goThrough_1 : decode cX0_goThrough 1 = .ok (.istore 4, 2) := by decide +kernel
theorem dX0_goThrough_3 : decode cX0_goThrough 3 = .ok (.iload 4, 2) := by decide +kernel
theorem dX0_goThrough_5 : decode cX0_goThrough 5 = .ok (.bipush 8, 2) := by decide +kernel
theorem dX0_goThrough_7 : decode cX0_goThrough 7 = .ok (.if_icmp .ge 17, 3) := by decide +kernel
theorem dX0_goThrough_10 : decode cX0_goThrough 10 = .ok (.aload_n 0, 1) := by decide +kernel
theorem dX0_goThrough_11 : decode cX0_goThrough 11 = .ok (.getfield 9, 3) := by decide +kernel
theorem dX0_goThrough_14 : decode cX0_goThrough 14 = .ok (.iload 4, 2) := by decide +kernel
theorem dX0_goThrough_16 : decode cX0_goThrough 16 = .ok (.iconst 0, 1) := by decide +kernel
theorem dX0_goThrough_17 : decode cX0_goThrough 17 = .ok (.bastore, 1) := by decide +kernel
theorem dX0_goThrough_18 : decode cX0_goThrough 18 = .ok (.iinc 4 1, 3) := by decide +kernel
theorem dX0_goThrough_21 : decode cX0_goThrough 21 = .ok (.goto (-18), 3) := by decide +kernel
theorem dX0_goThrough_24 : decode cX0_goThrough 24 = .ok (.iconst 0, 1) := by decide +kernel
theorem dX0_goThrough_25 : decode cX0_goThrough 25 = .ok (.istore 4, 2) := by decide +kernel
theorem dX0_goThrough_27 : decode cX0_goThrough 27 = .ok (.iconst 0, 1) := by decide +kernel
theorem dX0_goThrough_28 : decode cX0_goThrough 28 = .ok (.istore 5, 2) := by decide +kernel
theorem dX0_goThrough_30 : decode cX0_goThrough 30 = .ok (.iload 5, 2) := by decide +kernel
theorem dX0_goThrough_32 : decode cX0_goThrough 32 = .ok (.aload_n 1, 1) := by decide +kernel
theorem dX0_goThrough_33 : decode cX0_goThrough 33 = .ok (.getfield 15, 3) := by decide +kernel
theorem dX0_goThrough_36 : decode cX0_goThrough 36 = .ok (.if_icmp .ge 22, 3) := by decide +kernel
theorem dX0_goThrough_39 : decode cX0_goThrough 39 = .ok (.aload_n 0, 1) := by decide +kernel
theorem dX0_goThrough_40 : decode cX0_goThrough 40 = .ok (.aload_n 1, 1) := by decide +kernel
theorem dX0_goThrough_41 : decode cX0_goThrough 41 = .ok (.aload_n 2, 1) := by decide +kernel
theorem dX0_goThrough_42 : decode cX0_goThrough 42 = .ok (.aload_n 3, 1) := by decide +kernel
theorem dX0_goThrough_43 : decode cX0_goThrough 43 = .ok (.iload 5, 2) := by decide +kernel
theorem dX0_goThrough_45 : decode cX0_goThrough 45 = .ok (.iload 4, 2) := by decide +kernel
theorem dX0_goThrough_47 : decode cX0_goThrough 47 = .ok (.invokevirtual 21, 3) := by decide +kernel
theorem dX0_goThrough_50 : decode cX0_goThrough 50 = .ok (.istore 4, 2) := by decide +kernel
theorem dX0_goThrough_52 : decode cX0_goThrough 52 = .ok (.iinc 5 1, 3) := by decide +kernel
theorem dX0_goThrough_55 : decode cX0_goThrough 55 = .ok (.goto (-25), 3) := by decide +kernel
theorem dX0_goThrough_58 : decode cX0_goThrough 58 = .ok (.iconst 0, 1) := by decide +kernel
theorem dX0_goThrough_59 : decode cX0_goThrough 59 = .ok (.istore 5, 2) := by decide +kernel
theorem dX0_goThrough_61 : decode cX0_goThrough 61 = .ok (.iload 5, 2) := by decide +kernel
theorem dX0_goThrough_63 : decode cX0_goThrough 63 = .ok (.aload_n 1, 1) := by decide +kernel
theorem dX0_goThrough_64 : decode cX0_goThrough 64 = .ok (.getfield 25, 3) := by decide +kernel
theorem dX0_goThrough_67 : decode cX0_goThrough 67 = .ok (.if_icmp .ge 46, 3) := by decide +kernel
theorem dX0_goThrough_70 : decode cX0_goThrough 70 = .ok (.aload_n 0, 1) := by decide +kernel
theorem dX0_goThrough_71 : decode cX0_goThrough 71 = .ok (.getfield 9, 3) := by decide +kernel
theorem dX0_goThrough_74 : decode cX0_goThrough 74 = .ok (.iload 5, 2) := by decide +kernel
theorem dX0_goThrough_76 : decode cX0_goThrough 76 = .ok (.baload, 1) := by decide +kernel
theorem dX0_goThrough_77 : decode cX0_goThrough 77 = .ok (.ifCond .eq 30, 3) := by decide +kernel
theorem dX0_goThrough_80 : decode cX0_goThrough 80 = .ok (.aload_n 2, 1) := by decide +kernel
theorem dX0_goThrough_81 : decode cX0_goThrough 81 = .ok (.getfield 28, 3) := by decide +kernel
theorem dX0_goThrough_84 : decode cX0_goThrough 84 = .ok (.iload 5, 2) := by decide +kernel
theorem dX0_goThrough_86 : decode cX0_goThrough 86 = .ok (.dup2, 1) := by decide +kernel
theorem dX0_goThrough_87 : decode cX0_goThrough 87 = .ok (.iaload, 1) := by decide +kernel
theorem dX0_goThrough_88 : decode cX0_goThrough 88 = .ok (.iconst 1, 1) := by decide +kernel
theorem dX0_goThrough_89 : decode cX0_goThrough 89 = .ok (.iadd, 1) := by decide +kernel
theorem dX0_goThrough_90 : decode cX0_goThrough 90 = .ok (.iastore, 1) := by decide +kernel
theorem dX0_goThrough_91 : decode cX0_goThrough 91 = .ok (.aload_n 2, 1) := by decide +kernel
theorem dX0_goThrough_92 : decode cX0_goThrough 92 = .ok (.dup, 1) := by decide +kernel
theorem dX0_goThrough_93 : decode cX0_goThrough 93 = .ok (.getfield 34, 3) := by decide +kernel
theorem dX0_goThrough_96 : decode cX0_goThrough 96 = .ok (.aload_n 1, 1) := by decide +kernel
theorem dX0_goThrough_97 : decode cX0_goThrough 97 = .ok (.iload 5, 2) := by decide +kernel
theorem dX0_goThrough_99 : decode cX0_goThrough 99 = .ok (.iconst 0, 1) := by decide +kernel
theorem dX0_goThrough_100 : decode cX0_goThrough 100 = .ok (.invokevirtual 37, 3) := by decide +kernel
theorem dX0_goThrough_103 : decode cX0_goThrough 103 = .ok (.iadd, 1) := by decide +kernel
theorem dX0_goThrough_104 : decode cX0_goThrough 104 = .ok (.putfield 34, 3) := by decide +kernel
theorem dX0_goThrough_107 : decode cX0_goThrough 107 = .ok (.iinc 5 1, 3) := by decide +kernel
theorem dX0_goThrough_110 : decode cX0_goThrough 110 = .ok (.goto (-49), 3) := by decide +kernel
theorem dX0_goThrough_113 : decode cX0_goThrough 113 = .ok (.aload_n 2, 1) := by decide +kernel
theorem dX0_goThrough_114 : decode cX0_goThrough 114 = .ok (.dup, 1) := by decide +kernel
theorem dX0_goThrough_115 : decode cX0_goThrough 115 = .ok (.getfield 41, 3) := by decide +kernel
theorem dX0_goThrough_118 : decode cX0_goThrough 118 = .ok (.iconst 1, 1) := by decide +kernel
theorem dX0_goThrough_119 : decode cX0_goThrough 119 = .ok (.iadd, 1) := by decide +kernel
theorem dX0_goThrough_120 : decode cX0_goThrough 120 = .ok (.putfield 41, 3) := by decide +kernel
theorem dX0_goThrough_123 : decode cX0_goThrough 123 = .ok (.aload_n 2, 1) := by decide +kernel
theorem dX0_goThrough_124 : decode cX0_goThrough 124 = .ok (.iconst 1, 1) := by decide +kernel
theorem dX0_goThrough_125 : decode cX0_goThrough 125 = .ok (.putfield 44, 3) := by decide +kernel
theorem dX0_goThrough_128 : decode cX0_goThrough 128 = .ok (.return_, 1) := by decide +kernel
theorem dX0_serve_0 : decode cX0_serve 0 = .ok (.aload_n 1, 1) := by decide +kernel
theorem dX0_serve_1 : decode cX0_serve 1 = .ok (.iload 4, 2) := by decide +kernel
theorem dX0_serve_3 : decode cX0_serve 3 = .ok (.invokevirtual 48, 3) := by decide +kernel
theorem dX0_serve_6 : decode cX0_serve 6 = .ok (.ifCond .ne 6, 3) := by decide +kernel
theorem dX0_serve_9 : decode cX0_serve 9 = .ok (.iload 5, 2) := by decide +kernel
theorem dX0_serve_11 : decode cX0_serve 11 = .ok (.ireturn, 1) := by decide +kernel
theorem dX0_serve_12 : decode cX0_serve 12 = .ok (.aload_n 1, 1) := by decide +kernel
theorem dX0_serve_13 : decode cX0_serve 13 = .ok (.getfield 52, 3) := by decide +kernel
theorem dX0_serve_16 : decode cX0_serve 16 = .ok (.iload 4, 2) := by decide +kernel
theorem dX0_serve_18 : decode cX0_serve 18 = .ok (.iaload, 1) := by decide +kernel
theorem dX0_serve_19 : decode cX0_serve 19 = .ok (.aload_n 3, 1) := by decide +kernel
theorem dX0_serve_20 : decode cX0_serve 20 = .ok (.getfield 55, 3) := by decide +kernel
theorem dX0_serve_23 : decode cX0_serve 23 = .ok (.iload 4, 2) := by decide +kernel
theorem dX0_serve_25 : decode cX0_serve 25 = .ok (.iaload, 1) := by decide +kernel
theorem dX0_serve_26 : decode cX0_serve 26 = .ok (.iadd, 1) := by decide +kernel
theorem dX0_serve_27 : decode cX0_serve 27 = .ok (.istore 6, 2) := by decide +kernel
theorem dX0_serve_29 : decode cX0_serve 29 = .ok (.aload_n 2, 1) := by decide +kernel
theorem dX0_serve_30 : decode cX0_serve 30 = .ok (.getfield 60, 3) := by decide +kernel
theorem dX0_serve_33 : decode cX0_serve 33 = .ok (.iload 4, 2) := by decide +kernel
theorem dX0_serve_35 : decode cX0_serve 35 = .ok (.iload 6, 2) := by decide +kernel
theorem dX0_serve_37 : decode cX0_serve 37 = .ok (.iload 5, 2) := by decide +kernel
theorem dX0_serve_39 : decode cX0_serve 39 = .ok (.invokestatic 63, 3) := by decide +kernel
theorem dX0_serve_42 : decode cX0_serve 42 = .ok (.iastore, 1) := by decide +kernel
theorem dX0_serve_43 : decode cX0_serve 43 = .ok (.aload_n 2, 1) := by decide +kernel
theorem dX0_serve_44 : decode cX0_serve 44 = .ok (.getfield 68, 3) := by decide +kernel
theorem dX0_serve_47 : decode cX0_serve 47 = .ok (.iload 4, 2) := by decide +kernel
theorem dX0_serve_49 : decode cX0_serve 49 = .ok (.aload_n 2, 1) := by decide +kernel
theorem dX0_serve_50 : decode cX0_serve 50 = .ok (.getfield 60, 3) := by decide +kernel
theorem dX0_serve_53 : decode cX0_serve 53 = .ok (.iload 4, 2) := by decide +kernel
theorem dX0_serve_55 : decode cX0_serve 55 = .ok (.iaload, 1) := by decide +kernel
theorem dX0_serve_56 : decode cX0_serve 56 = .ok (.iload 6, 2) := by decide +kernel
theorem dX0_serve_58 : decode cX0_serve 58 = .ok (.isub, 1) := by decide +kernel
theorem dX0_serve_59 : decode cX0_serve 59 = .ok (.iastore, 1) := by decide +kernel
theorem dX0_serve_60 : decode cX0_serve 60 = .ok (.aload_n 2, 1) := by decide +kernel
theorem dX0_serve_61 : decode cX0_serve 61 = .ok (.getfield 71, 3) := by decide +kernel
theorem dX0_serve_64 : decode cX0_serve 64 = .ok (.iload 4, 2) := by decide +kernel
theorem dX0_serve_66 : decode cX0_serve 66 = .ok (.iconst 0, 1) := by decide +kernel
theorem dX0_serve_67 : decode cX0_serve 67 = .ok (.iastore, 1) := by decide +kernel
theorem dX0_serve_68 : decode cX0_serve 68 = .ok (.aload_n 2, 1) := by decide +kernel
theorem dX0_serve_69 : decode cX0_serve 69 = .ok (.getfield 74, 3) := by decide +kernel
theorem dX0_serve_72 : decode cX0_serve 72 = .ok (.iload 4, 2) := by decide +kernel
theorem dX0_serve_74 : decode cX0_serve 74 = .ok (.aload_n 2, 1) := by decide +kernel
theorem dX0_serve_75 : decode cX0_serve 75 = .ok (.getfield 60, 3) := by decide +kernel
theorem dX0_serve_78 : decode cX0_serve 78 = .ok (.iload 4, 2) := by decide +kernel
theorem dX0_serve_80 : decode cX0_serve 80 = .ok (.iaload, 1) := by decide +kernel
theorem dX0_serve_81 : decode cX0_serve 81 = .ok (.iastore, 1) := by decide +kernel
theorem dX0_serve_82 : decode cX0_serve 82 = .ok (.iconst 0, 1) := by decide +kernel
theorem dX0_serve_83 : decode cX0_serve 83 = .ok (.istore 7, 2) := by decide +kernel
theorem dX0_serve_85 : decode cX0_serve 85 = .ok (.iload 7, 2) := by decide +kernel
theorem dX0_serve_87 : decode cX0_serve 87 = .ok (.aload_n 1, 1) := by decide +kernel
theorem dX0_serve_88 : decode cX0_serve 88 = .ok (.getfield 25, 3) := by decide +kernel
theorem dX0_serve_91 : decode cX0_serve 91 = .ok (.if_icmp .ge 44, 3) := by decide +kernel
theorem dX0_serve_94 : decode cX0_serve 94 = .ok (.aload_n 0, 1) := by decide +kernel
theorem dX0_serve_95 : decode cX0_serve 95 = .ok (.getfield 9, 3) := by decide +kernel
theorem dX0_serve_98 : decode cX0_serve 98 = .ok (.iload 7, 2) := by decide +kernel
theorem dX0_serve_100 : decode cX0_serve 100 = .ok (.baload, 1) := by decide +kernel
theorem dX0_serve_101 : decode cX0_serve 101 = .ok (.ifCond .eq 28, 3) := by decide +kernel
theorem dX0_serve_104 : decode cX0_serve 104 = .ok (.aload_n 0, 1) := by decide +kernel
theorem dX0_serve_105 : decode cX0_serve 105 = .ok (.getfield 9, 3) := by decide +kernel
theorem dX0_serve_108 : decode cX0_serve 108 = .ok (.iload 7, 2) := by decide +kernel
theorem dX0_serve_110 : decode cX0_serve 110 = .ok (.aload_n 1, 1) := by decide +kernel
theorem dX0_serve_111 : decode cX0_serve 111 = .ok (.aload_n 2, 1) := by decide +kernel
theorem dX0_serve_112 : decode cX0_serve 112 = .ok (.aload_n 3, 1) := by decide +kernel
theorem dX0_serve_113 : decode cX0_serve 113 = .ok (.iload 7, 2) := by decide +kernel
theorem dX0_serve_115 : decode cX0_serve 115 = .ok (.iload 4, 2) := by decide +kernel
theorem dX0_serve_117 : decode cX0_serve 117 = .ok (.invokestatic 77, 3) := by decide +kernel
theorem dX0_serve_120 : decode cX0_serve 120 = .ok (.ifCond .ne 7, 3) := by decide +kernel
theorem dX0_serve_123 : decode cX0_serve 123 = .ok (.iconst 1, 1) := by decide +kernel
theorem dX0_serve_124 : decode cX0_serve 124 = .ok (.goto 4, 3) := by decide +kernel
theorem dX0_serve_127 : decode cX0_serve 127 = .ok (.iconst 0, 1) := by decide +kernel
theorem dX0_serve_128 : decode cX0_serve 128 = .ok (.bastore, 1) := by decide +kernel
theorem dX0_serve_129 : decode cX0_serve 129 = .ok (.iinc 7 1, 3) := by decide +kernel
theorem dX0_serve_132 : decode cX0_serve 132 = .ok (.goto (-47), 3) := by decide +kernel
theorem dX0_serve_135 : decode cX0_serve 135 = .ok (.iconst 0, 1) := by decide +kernel
theorem dX0_serve_136 : decode cX0_serve 136 = .ok (.istore 7, 2) := by decide +kernel
theorem dX0_serve_138 : decode cX0_serve 138 = .ok (.iload 7, 2) := by decide +kernel
theorem dX0_serve_140 : decode cX0_serve 140 = .ok (.aload_n 1, 1) := by decide +kernel
theorem dX0_serve_141 : decode cX0_serve 141 = .ok (.getfield 25, 3) := by decide +kernel
theorem dX0_serve_144 : decode cX0_serve 144 = .ok (.if_icmp .ge 73, 3) := by decide +kernel
theorem dX0_serve_147 : decode cX0_serve 147 = .ok (.aload_n 2, 1) := by decide +kernel
theorem dX0_serve_148 : decode cX0_serve 148 = .ok (.getfield 81, 3) := by decide +kernel
theorem dX0_serve_151 : decode cX0_serve 151 = .ok (.iload 7, 2) := by decide +kernel
theorem dX0_serve_153 : decode cX0_serve 153 = .ok (.iaload, 1) := by decide +kernel
theorem dX0_serve_154 : decode cX0_serve 154 = .ok (.iload 4, 2) := by decide +kernel
theorem dX0_serve_156 : decode cX0_serve 156 = .ok (.if_icmp .ne 55, 3) := by decide +kernel
theorem dX0_serve_159 : decode cX0_serve 159 = .ok (.aload_n 1, 1) := by decide +kernel
theorem dX0_serve_160 : decode cX0_serve 160 = .ok (.aload_n 2, 1) := by decide +kernel
theorem dX0_serve_161 : decode cX0_serve 161 = .ok (.aload_n 3, 1) := by decide +kernel
theorem dX0_serve_162 : decode cX0_serve 162 = .ok (.iload 7, 2) := by decide +kernel
theorem dX0_serve_164 : decode cX0_serve 164 = .ok (.iload 4, 2) := by decide +kernel
theorem dX0_serve_166 : decode cX0_serve 166 = .ok (.invokestatic 84, 3) := by decide +kernel
theorem dX0_serve_169 : decode cX0_serve 169 = .ok (.ifCond .eq 31, 3) := by decide +kernel
theorem dX0_serve_172 : decode cX0_serve 172 = .ok (.aload_n 0, 1) := by decide +kernel
theorem dX0_serve_173 : decode cX0_serve 173 = .ok (.getfield 9, 3) := by decide +kernel
theorem dX0_serve_176 : decode cX0_serve 176 = .ok (.iload 7, 2) := by decide +kernel
theorem dX0_serve_178 : decode cX0_serve 178 = .ok (.aload_n 1, 1) := by decide +kernel
theorem dX0_serve_179 : decode cX0_serve 179 = .ok (.aload_n 2, 1) := by decide +kernel
theorem dX0_serve_180 : decode cX0_serve 180 = .ok (.aload_n 3, 1) := by decide +kernel
theorem dX0_serve_181 : decode cX0_serve 181 = .ok (.iload 7, 2) := by decide +kernel
theorem dX0_serve_183 : decode cX0_serve 183 = .ok (.iload 4, 2) := by decide +kernel
theorem dX0_serve_185 : decode cX0_serve 185 = .ok (.invokestatic 77, 3) := by decide +kernel
theorem dX0_serve_188 : decode cX0_serve 188 = .ok (.ifCond .ne 7, 3) := by decide +kernel
theorem dX0_serve_191 : decode cX0_serve 191 = .ok (.iconst 1, 1) := by decide +kernel
theorem dX0_serve_192 : decode cX0_serve 192 = .ok (.goto 4, 3) := by decide +kernel
theorem dX0_serve_195 : decode cX0_serve 195 = .ok (.iconst 0, 1) := by decide +kernel
theorem dX0_serve_196 : decode cX0_serve 196 = .ok (.bastore, 1) := by decide +kernel
theorem dX0_serve_197 : decode cX0_serve 197 = .ok (.goto 14, 3) := by decide +kernel
theorem dX0_serve_200 : decode cX0_serve 200 = .ok (.aload_n 2, 1) := by decide +kernel
theorem dX0_serve_201 : decode cX0_serve 201 = .ok (.getfield 87, 3) := by decide +kernel
theorem dX0_serve_204 : decode cX0_serve 204 = .ok (.iload 7, 2) := by decide +kernel
theorem dX0_serve_206 : decode cX0_serve 206 = .ok (.dup2, 1) := by decide +kernel
theorem dX0_serve_207 : decode cX0_serve 207 = .ok (.iaload, 1) := by decide +kernel
theorem dX0_serve_208 : decode cX0_serve 208 = .ok (.iconst 1, 1) := by decide +kernel
theorem dX0_serve_209 : decode cX0_serve 209 = .ok (.iadd, 1) := by decide +kernel
theorem dX0_serve_210 : decode cX0_serve 210 = .ok (.iastore, 1) := by decide +kernel
theorem dX0_serve_211 : decode cX0_serve 211 = .ok (.iinc 7 1, 3) := by decide +kernel
theorem dX0_serve_214 : decode cX0_serve 214 = .ok (.goto (-76), 3) := by decide +kernel
theorem dX0_serve_217 : decode cX0_serve 217 = .ok (.aload_n 2, 1) := by decide +kernel
theorem dX0_serve_218 : decode cX0_serve 218 = .ok (.getfield 90, 3) := by decide +kernel
theorem dX0_serve_221 : decode cX0_serve 221 = .ok (.iload 4, 2) := by decide +kernel
theorem dX0_serve_223 : decode cX0_serve 223 = .ok (.aload_n 0, 1) := by decide +kernel
theorem dX0_serve_224 : decode cX0_serve 224 = .ok (.aload_n 1, 1) := by decide +kernel
theorem dX0_serve_225 : decode cX0_serve 225 = .ok (.invokevirtual 93, 3) := by decide +kernel
theorem dX0_serve_228 : decode cX0_serve 228 = .ok (.iastore, 1) := by decide +kernel
theorem dX0_serve_229 : decode cX0_serve 229 = .ok (.aload_n 2, 1) := by decide +kernel
theorem dX0_serve_230 : decode cX0_serve 230 = .ok (.getfield 74, 3) := by decide +kernel
theorem dX0_serve_233 : decode cX0_serve 233 = .ok (.iload 4, 2) := by decide +kernel
theorem dX0_serve_235 : decode cX0_serve 235 = .ok (.iaload, 1) := by decide +kernel
theorem dX0_serve_236 : decode cX0_serve 236 = .ok (.aload_n 2, 1) := by decide +kernel
theorem dX0_serve_237 : decode cX0_serve 237 = .ok (.getfield 71, 3) := by decide +kernel
theorem dX0_serve_240 : decode cX0_serve 240 = .ok (.iload 4, 2) := by decide +kernel
theorem dX0_serve_242 : decode cX0_serve 242 = .ok (.iaload, 1) := by decide +kernel
theorem dX0_serve_243 : decode cX0_serve 243 = .ok (.ifCond .le 11, 3) := by decide +kernel
theorem dX0_serve_246 : decode cX0_serve 246 = .ok (.aload_n 1, 1) := by decide +kernel
theorem dX0_serve_247 : decode cX0_serve 247 = .ok (.aload_n 3, 1) := by decide +kernel
theorem dX0_serve_248 : decode cX0_serve 248 = .ok (.invokestatic 97, 3) := by decide +kernel
theorem dX0_serve_251 : decode cX0_serve 251 = .ok (.goto 4, 3) := by decide +kernel
theorem dX0_serve_254 : decode cX0_serve 254 = .ok (.iconst 0, 1) := by decide +kernel
theorem dX0_serve_255 : decode cX0_serve 255 = .ok (.iadd, 1) := by decide +kernel
theorem dX0_serve_256 : decode cX0_serve 256 = .ok (.ireturn, 1) := by decide +kernel
theorem dX0_standing_0 : decode cX0_standing 0 = .ok (.iconst 0, 1) := by decide +kernel
theorem dX0_standing_1 : decode cX0_standing 1 = .ok (.istore_n 2, 1) := by decide +kernel
theorem dX0_standing_2 : decode cX0_standing 2 = .ok (.iconst 0, 1) := by decide +kernel
theorem dX0_standing_3 : decode cX0_standing 3 = .ok (.istore_n 3, 1) := by decide +kernel
theorem dX0_standing_4 : decode cX0_standing 4 = .ok (.iload_n 3, 1) := by decide +kernel
theorem dX0_standing_5 : decode cX0_standing 5 = .ok (.aload_n 1, 1) := by decide +kernel
theorem dX0_standing_6 : decode cX0_standing 6 = .ok (.getfield 25, 3) := by decide +kernel
theorem dX0_standing_9 : decode cX0_standing 9 = .ok (.if_icmp .ge 27, 3) := by decide +kernel
theorem dX0_standing_12 : decode cX0_standing 12 = .ok (.aload_n 0, 1) := by decide +kernel
theorem dX0_standing_13 : decode cX0_standing 13 = .ok (.getfield 9, 3) := by decide +kernel
theorem dX0_standing_16 : decode cX0_standing 16 = .ok (.iload_n 3, 1) := by decide +kernel
theorem dX0_standing_17 : decode cX0_standing 17 = .ok (.baload, 1) := by decide +kernel
theorem dX0_standing_18 : decode cX0_standing 18 = .ok (.ifCond .eq 12, 3) := by decide +kernel
theorem dX0_standing_21 : decode cX0_standing 21 = .ok (.iload_n 2, 1) := by decide +kernel
theorem dX0_standing_22 : decode cX0_standing 22 = .ok (.aload_n 1, 1) := by decide +kernel
theorem dX0_standing_23 : decode cX0_standing 23 = .ok (.iload_n 3, 1) := by decide +kernel
theorem dX0_standing_24 : decode cX0_standing 24 = .ok (.iconst 0, 1) := by decide +kernel
theorem dX0_standing_25 : decode cX0_standing 25 = .ok (.invokevirtual 37, 3) := by decide +kernel
theorem dX0_standing_28 : decode cX0_standing 28 = .ok (.iadd, 1) := by decide +kernel
theorem dX0_standing_29 : decode cX0_standing 29 = .ok (.istore_n 2, 1) := by decide +kernel
theorem dX0_standing_30 : decode cX0_standing 30 = .ok (.iinc 3 1, 3) := by decide +kernel
theorem dX0_standing_33 : decode cX0_standing 33 = .ok (.goto (-29), 3) := by decide +kernel
theorem dX0_standing_36 : decode cX0_standing 36 = .ok (.iload_n 2, 1) := by decide +kernel
theorem dX0_standing_37 : decode cX0_standing 37 = .ok (.ireturn, 1) := by decide +kernel
theorem dX0_laying_0 : decode cX0_laying 0 = .ok (.aload_n 1, 1) := by decide +kernel
theorem dX0_laying_1 : decode cX0_laying 1 = .ok (.getfield 101, 3) := by decide +kernel
theorem dX0_laying_4 : decode cX0_laying 4 = .ok (.ifCond .le 10, 3) := by decide +kernel
theorem dX0_laying_7 : decode cX0_laying 7 = .ok (.aload_n 1, 1) := by decide +kernel
theorem dX0_laying_8 : decode cX0_laying 8 = .ok (.getfield 101, 3) := by decide +kernel
theorem dX0_laying_11 : decode cX0_laying 11 = .ok (.goto 9, 3) := by decide +kernel
theorem dX0_laying_14 : decode cX0_laying 14 = .ok (.aload_n 0, 1) := by decide +kernel
theorem dX0_laying_15 : decode cX0_laying 15 = .ok (.getfield 104, 3) := by decide +kernel
theorem dX0_laying_18 : decode cX0_laying 18 = .ok (.iconst 3, 1) := by decide +kernel
theorem dX0_laying_19 : decode cX0_laying 19 = .ok (.iaload, 1) := by decide +kernel
theorem dX0_laying_20 : decode cX0_laying 20 = .ok (.iconst 1, 1) := by decide +kernel
theorem dX0_laying_21 : decode cX0_laying 21 = .ok (.invokestatic 63, 3) := by decide +kernel
theorem dX0_laying_24 : decode cX0_laying 24 = .ok (.istore_n 2, 1) := by decide +kernel
theorem dX0_laying_25 : decode cX0_laying 25 = .ok (.aload_n 0, 1) := by decide +kernel
theorem dX0_laying_26 : decode cX0_laying 26 = .ok (.getfield 104, 3) := by decide +kernel
theorem dX0_laying_29 : decode cX0_laying 29 = .ok (.iconst 2, 1) := by decide +kernel
theorem dX0_laying_30 : decode cX0_laying 30 = .ok (.iaload, 1) := by decide +kernel
theorem dX0_laying_31 : decode cX0_laying 31 = .ok (.iload_n 2, 1) := by decide +kernel
theorem dX0_laying_32 : decode cX0_laying 32 = .ok (.iadd, 1) := by decide +kernel
theorem dX0_laying_33 : decode cX0_laying 33 = .ok (.iconst 1, 1) := by decide +kernel
theorem dX0_laying_34 : decode cX0_laying 34 = .ok (.isub, 1) := by decide +kernel
theorem dX0_laying_35 : decode cX0_laying 35 = .ok (.iload_n 2, 1) := by decide +kernel
theorem dX0_laying_36 : decode cX0_laying 36 = .ok (.idiv, 1) := by decide +kernel
theorem dX0_laying_37 : decode cX0_laying 37 = .ok (.ireturn, 1) := by decide +kernel
theorem dX0_comes_0 : decode cX0_comes 0 = .ok (.aload_n 2, 1) := by decide +kernel
theorem dX0_comes_1 : decode cX0_comes 1 = .ok (.getfield 107, 3) := by decide +kernel
theorem dX0_comes_4 : decode cX0_comes 4 = .ok (.iload_n 3, 1) := by decide +kernel
theorem dX0_comes_5 : decode cX0_comes 5 = .ok (.if_icmp .ne 5, 3) := by decide +kernel
theorem dX0_comes_8 : decode cX0_comes 8 = .ok (.iconst 0, 1) := by decide +kernel
theorem dX0_comes_9 : decode cX0_comes 9 = .ok (.ireturn, 1) := by decide +kernel
theorem dX0_comes_10 : decode cX0_comes 10 = .ok (.aload_n 2, 1) := by decide +kernel
theorem dX0_comes_11 : decode cX0_comes 11 = .ok (.getfield 110, 3) := by decide +kernel
theorem dX0_comes_14 : decode cX0_comes 14 = .ok (.ifCond .ne 12, 3) := by decide +kernel
theorem dX0_comes_17 : decode cX0_comes 17 = .ok (.aload_n 0, 1) := by decide +kernel
theorem dX0_comes_18 : decode cX0_comes 18 = .ok (.iload 4, 2) := by decide +kernel
theorem dX0_comes_20 : decode cX0_comes 20 = .ok (.invokevirtual 48, 3) := by decide +kernel
theorem dX0_comes_23 : decode cX0_comes 23 = .ok (.ifCond .ne 5, 3) := by decide +kernel
theorem dX0_comes_26 : decode cX0_comes 26 = .ok (.iconst 1, 1) := by decide +kernel
theorem dX0_comes_27 : decode cX0_comes 27 = .ok (.ireturn, 1) := by decide +kernel
theorem dX0_comes_28 : decode cX0_comes 28 = .ok (.iconst 2, 1) := by decide +kernel
theorem dX0_comes_29 : decode cX0_comes 29 = .ok (.aload_n 0, 1) := by decide +kernel
theorem dX0_comes_30 : decode cX0_comes 30 = .ok (.aload_n 1, 1) := by decide +kernel
theorem dX0_comes_31 : decode cX0_comes 31 = .ok (.aload_n 2, 1) := by decide +kernel
theorem dX0_comes_32 : decode cX0_comes 32 = .ok (.iload_n 3, 1) := by decide +kernel
theorem dX0_comes_33 : decode cX0_comes 33 = .ok (.iload 4, 2) := by decide +kernel
theorem dX0_comes_35 : decode cX0_comes 35 = .ok (.aload_n 1, 1) := by decide +kernel
theorem dX0_comes_36 : decode cX0_comes 36 = .ok (.getfield 68, 3) := by decide +kernel
theorem dX0_comes_39 : decode cX0_comes 39 = .ok (.iload 4, 2) := by decide +kernel
theorem dX0_comes_41 : decode cX0_comes 41 = .ok (.iaload, 1) := by decide +kernel
theorem dX0_comes_42 : decode cX0_comes 42 = .ok (.invokestatic 113, 3) := by decide +kernel
theorem dX0_comes_45 : decode cX0_comes 45 = .ok (.istore 5, 2) := by decide +kernel
theorem dX0_comes_47 : decode cX0_comes 47 = .ok (.aload_n 2, 1) := by decide +kernel
theorem dX0_comes_48 : decode cX0_comes 48 = .ok (.getfield 117, 3) := by decide +kernel
theorem dX0_comes_51 : decode cX0_comes 51 = .ok (.ifCond .ne 16, 3) := by decide +kernel
theorem dX0_comes_54 : decode cX0_comes 54 = .ok (.iload 5, 2) := by decide +kernel
theorem dX0_comes_56 : decode cX0_comes 56 = .ok (.bipush 50, 2) := by decide +kernel
theorem dX0_comes_58 : decode cX0_comes 58 = .ok (.if_icmp .ge 7, 3) := by decide +kernel
theorem dX0_comes_61 : decode cX0_comes 61 = .ok (.iconst 1, 1) := by decide +kernel
theorem dX0_comes_62 : decode cX0_comes 62 = .ok (.goto 4, 3) := by decide +kernel
theorem dX0_comes_65 : decode cX0_comes 65 = .ok (.iconst 0, 1) := by decide +kernel
theorem dX0_comes_66 : decode cX0_comes 66 = .ok (.ireturn, 1) := by decide +kernel
theorem dX0_comes_67 : decode cX0_comes 67 = .ok (.iload 5, 2) := by decide +kernel
theorem dX0_comes_69 : decode cX0_comes 69 = .ok (.ifCond .eq 15, 3) := by decide +kernel
theorem dX0_comes_72 : decode cX0_comes 72 = .ok (.aload_n 1, 1) := by decide +kernel
theorem dX0_comes_73 : decode cX0_comes 73 = .ok (.invokevirtual 120, 3) := by decide +kernel
theorem dX0_comes_76 : decode cX0_comes 76 = .ok (.bipush 100, 2) := by decide +kernel
theorem dX0_comes_78 : decode cX0_comes 78 = .ok (.irem, 1) := by decide +kernel
theorem dX0_comes_79 : decode cX0_comes 79 = .ok (.iload 5, 2) := by decide +kernel
theorem dX0_comes_81 : decode cX0_comes 81 = .ok (.if_icmp .lt 7, 3) := by decide +kernel
theorem dX0_comes_84 : decode cX0_comes 84 = .ok (.iconst 1, 1) := by decide +kernel
theorem dX0_comes_85 : decode cX0_comes 85 = .ok (.goto 4, 3) := by decide +kernel
theorem dX0_comes_88 : decode cX0_comes 88 = .ok (.iconst 0, 1) := by decide +kernel
theorem dX0_comes_89 : decode cX0_comes 89 = .ok (.ireturn, 1) := by decide +kernel
theorem dX0_sitDown_0 : decode cX0_sitDown 0 = .ok (.aload_n 0, 1) := by decide +kernel
theorem dX0_sitDown_1 : decode cX0_sitDown 1 = .ok (.iload_n 3, 1) := by decide +kernel
theorem dX0_sitDown_2 : decode cX0_sitDown 2 = .ok (.iconst 0, 1) := by decide +kernel
theorem dX0_sitDown_3 : decode cX0_sitDown 3 = .ok (.invokevirtual 37, 3) := by decide +kernel
theorem dX0_sitDown_6 : decode cX0_sitDown 6 = .ok (.istore 5, 2) := by decide +kernel
theorem dX0_sitDown_8 : decode cX0_sitDown 8 = .ok (.aload_n 0, 1) := by decide +kernel
theorem dX0_sitDown_9 : decode cX0_sitDown 9 = .ok (.iload_n 3, 1) := by decide +kernel
theorem dX0_sitDown_10 : decode cX0_sitDown 10 = .ok (.invokevirtual 124, 3) := by decide +kernel
theorem dX0_sitDown_13 : decode cX0_sitDown 13 = .ok (.ifCond .eq 36, 3) := by decide +kernel
theorem dX0_sitDown_16 : decode cX0_sitDown 16 = .ok (.aload_n 0, 1) := by decide +kernel
theorem dX0_sitDown_17 : decode cX0_sitDown 17 = .ok (.iload 4, 2) := by decide +kernel
theorem dX0_sitDown_19 : decode cX0_sitDown 19 = .ok (.invokevirtual 48, 3) := by decide +kernel
theorem dX0_sitDown_22 : decode cX0_sitDown 22 = .ok (.ifCond .eq 27, 3) := by decide +kernel
theorem dX0_sitDown_25 : decode cX0_sitDown 25 = .ok (.aload_n 0, 1) := by decide +kernel
theorem dX0_sitDown_26 : decode cX0_sitDown 26 = .ok (.getfield 104, 3) := by decide +kernel
theorem dX0_sitDown_29 : decode cX0_sitDown 29 = .ok (.iconst 0, 1) := by decide +kernel
theorem dX0_sitDown_30 : decode cX0_sitDown 30 = .ok (.iaload, 1) := by decide +kernel
theorem dX0_sitDown_31 : decode cX0_sitDown 31 = .ok (.aload_n 2, 1) := by decide +kernel
theorem dX0_sitDown_32 : decode cX0_sitDown 32 = .ok (.getfield 127, 3) := by decide +kernel
theorem dX0_sitDown_35 : decode cX0_sitDown 35 = .ok (.iadd, 1) := by decide +kernel
theorem dX0_sitDown_36 : decode cX0_sitDown 36 = .ok (.aload_n 1, 1) := by decide +kernel
theorem dX0_sitDown_37 : decode cX0_sitDown 37 = .ok (.getfield 71, 3) := by decide +kernel
theorem dX0_sitDown_40 : decode cX0_sitDown 40 = .ok (.iload 4, 2) := by decide +kernel
theorem dX0_sitDown_42 : decode cX0_sitDown 42 = .ok (.iaload, 1) := by decide +kernel
theorem dX0_sitDown_43 : decode cX0_sitDown 43 = .ok (.isub, 1) := by decide +kernel
theorem dX0_sitDown_44 : decode cX0_sitDown 44 = .ok (.iload 5, 2) := by decide +kernel
theorem dX0_sitDown_46 : decode cX0_sitDown 46 = .ok (.if_icmp .ge 5, 3) := by decide +kernel
theorem dX0_sitDown_49 : decode cX0_sitDown 49 = .ok (.iconst 0, 1) := by decide +kernel
theorem dX0_sitDown_50 : decode cX0_sitDown 50 = .ok (.ireturn, 1) := by decide +kernel
theorem dX0_sitDown_51 : decode cX0_sitDown 51 = .ok (.aload_n 1, 1) := by decide +kernel
theorem dX0_sitDown_52 : decode cX0_sitDown 52 = .ok (.getfield 68, 3) := by decide +kernel
theorem dX0_sitDown_55 : decode cX0_sitDown 55 = .ok (.iload 4, 2) := by decide +kernel
theorem dX0_sitDown_57 : decode cX0_sitDown 57 = .ok (.iaload, 1) := by decide +kernel
theorem dX0_sitDown_58 : decode cX0_sitDown 58 = .ok (.istore 6, 2) := by decide +kernel
theorem dX0_sitDown_60 : decode cX0_sitDown 60 = .ok (.aload_n 1, 1) := by decide +kernel
theorem dX0_sitDown_61 : decode cX0_sitDown 61 = .ok (.getfield 60, 3) := by decide +kernel
theorem dX0_sitDown_64 : decode cX0_sitDown 64 = .ok (.iload 4, 2) := by decide +kernel
theorem dX0_sitDown_66 : decode cX0_sitDown 66 = .ok (.iaload, 1) := by decide +kernel
theorem dX0_sitDown_67 : decode cX0_sitDown 67 = .ok (.aload_n 0, 1) := by decide +kernel
theorem dX0_sitDown_68 : decode cX0_sitDown 68 = .ok (.getfield 104, 3) := by decide +kernel
theorem dX0_sitDown_71 : decode cX0_sitDown 71 = .ok (.iconst 1, 1) := by decide +kernel
theorem dX0_sitDown_72 : decode cX0_sitDown 72 = .ok (.iaload, 1) := by decide +kernel
theorem dX0_sitDown_73 : decode cX0_sitDown 73 = .ok (.iadd, 1) := by decide +kernel
theorem dX0_sitDown_74 : decode cX0_sitDown 74 = .ok (.istore 7, 2) := by decide +kernel
theorem dX0_sitDown_76 : decode cX0_sitDown 76 = .ok (.aload_n 1, 1) := by decide +kernel
theorem dX0_sitDown_77 : decode cX0_sitDown 77 = .ok (.getfield 71, 3) := by decide +kernel
theorem dX0_sitDown_80 : decode cX0_sitDown 80 = .ok (.iload 4, 2) := by decide +kernel
theorem dX0_sitDown_82 : decode cX0_sitDown 82 = .ok (.dup2, 1) := by decide +kernel
theorem dX0_sitDown_83 : decode cX0_sitDown 83 = .ok (.iaload, 1) := by decide +kernel
theorem dX0_sitDown_84 : decode cX0_sitDown 84 = .ok (.iload 5, 2) := by decide +kernel
theorem dX0_sitDown_86 : decode cX0_sitDown 86 = .ok (.iadd, 1) := by decide +kernel
theorem dX0_sitDown_87 : decode cX0_sitDown 87 = .ok (.iastore, 1) := by decide +kernel
theorem dX0_sitDown_88 : decode cX0_sitDown 88 = .ok (.aload_n 1, 1) := by decide +kernel
theorem dX0_sitDown_89 : decode cX0_sitDown 89 = .ok (.getfield 130, 3) := by decide +kernel
theorem dX0_sitDown_92 : decode cX0_sitDown 92 = .ok (.iload_n 3, 1) := by decide +kernel
theorem dX0_sitDown_93 : decode cX0_sitDown 93 = .ok (.dup2, 1) := by decide +kernel
theorem dX0_sitDown_94 : decode cX0_sitDown 94 = .ok (.iaload, 1) := by decide +kernel
theorem dX0_sitDown_95 : decode cX0_sitDown 95 = .ok (.iconst 1, 1) := by decide +kernel
theorem dX0_sitDown_96 : decode cX0_sitDown 96 = .ok (.iadd, 1) := by decide +kernel
theorem dX0_sitDown_97 : decode cX0_sitDown 97 = .ok (.iastore, 1) := by decide +kernel
theorem dX0_sitDown_98 : decode cX0_sitDown 98 = .ok (.aload_n 1, 1) := by decide +kernel
theorem dX0_sitDown_99 : decode cX0_sitDown 99 = .ok (.dup, 1) := by decide +kernel
theorem dX0_sitDown_100 : decode cX0_sitDown 100 = .ok (.getfield 133, 3) := by decide +kernel
theorem dX0_sitDown_103 : decode cX0_sitDown 103 = .ok (.iload 5, 2) := by decide +kernel
theorem dX0_sitDown_105 : decode cX0_sitDown 105 = .ok (.aload_n 1, 1) := by decide +kernel
theorem dX0_sitDown_106 : decode cX0_sitDown 106 = .ok (.getfield 136, 3) := by decide +kernel
theorem dX0_sitDown_109 : decode cX0_sitDown 109 = .ok (.iload 4, 2) := by decide +kernel
theorem dX0_sitDown_111 : decode cX0_sitDown 111 = .ok (.iaload, 1) := by decide +kernel
theorem dX0_sitDown_112 : decode cX0_sitDown 112 = .ok (.imul, 1) := by decide +kernel
theorem dX0_sitDown_113 : decode cX0_sitDown 113 = .ok (.iadd, 1) := by decide +kernel
theorem dX0_sitDown_114 : decode cX0_sitDown 114 = .ok (.putfield 133, 3) := by decide +kernel
theorem dX0_sitDown_117 : decode cX0_sitDown 117 = .ok (.aload_n 1, 1) := by decide +kernel
theorem dX0_sitDown_118 : decode cX0_sitDown 118 = .ok (.dup, 1) := by decide +kernel
theorem dX0_sitDown_119 : decode cX0_sitDown 119 = .ok (.getfield 139, 3) := by decide +kernel
theorem dX0_sitDown_122 : decode cX0_sitDown 122 = .ok (.iload 5, 2) := by decide +kernel
theorem dX0_sitDown_124 : decode cX0_sitDown 124 = .ok (.iconst 0, 1) := by decide +kernel
theorem dX0_sitDown_125 : decode cX0_sitDown 125 = .ok (.aload_n 0, 1) := by decide +kernel
theorem dX0_sitDown_126 : decode cX0_sitDown 126 = .ok (.aload_n 1, 1) := by decide +kernel
theorem dX0_sitDown_127 : decode cX0_sitDown 127 = .ok (.aload_n 2, 1) := by decide +kernel
theorem dX0_sitDown_128 : decode cX0_sitDown 128 = .ok (.iload_n 3, 1) := by decide +kernel
theorem dX0_sitDown_129 : decode cX0_sitDown 129 = .ok (.iload 4, 2) := by decide +kernel
theorem dX0_sitDown_131 : decode cX0_sitDown 131 = .ok (.iload 6, 2) := by decide +kernel
theorem dX0_sitDown_133 : decode cX0_sitDown 133 = .ok (.invokestatic 113, 3) := by decide +kernel
theorem dX0_sitDown_136 : decode cX0_sitDown 136 = .ok (.imul, 1) := by decide +kernel
theorem dX0_sitDown_137 : decode cX0_sitDown 137 = .ok (.iadd, 1) := by decide +kernel
theorem dX0_sitDown_138 : decode cX0_sitDown 138 = .ok (.putfield 139, 3) := by decide +kernel
theorem dX0_sitDown_141 : decode cX0_sitDown 141 = .ok (.iload 7, 2) := by decide +kernel
theorem dX0_sitDown_143 : decode cX0_sitDown 143 = .ok (.aload_n 0, 1) := by decide +kernel
theorem dX0_sitDown_144 : decode cX0_sitDown 144 = .ok (.iload_n 3, 1) := by decide +kernel
theorem dX0_sitDown_145 : decode cX0_sitDown 145 = .ok (.iconst 4, 1) := by decide +kernel
theorem dX0_sitDown_146 : decode cX0_sitDown 146 = .ok (.invokevirtual 37, 3) := by decide +kernel
theorem dX0_sitDown_149 : decode cX0_sitDown 149 = .ok (.if_icmp .le 13, 3) := by decide +kernel
theorem dX0_sitDown_152 : decode cX0_sitDown 152 = .ok (.aload_n 1, 1) := by decide +kernel
theorem dX0_sitDown_153 : decode cX0_sitDown 153 = .ok (.getfield 142, 3) := by decide +kernel
theorem dX0_sitDown_156 : decode cX0_sitDown 156 = .ok (.iload_n 3, 1) := by decide +kernel
theorem dX0_sitDown_157 : decode cX0_sitDown 157 = .ok (.dup2, 1) := by decide +kernel
theorem dX0_sitDown_158 : decode cX0_sitDown 158 = .ok (.iaload, 1) := by decide +kernel
theorem dX0_sitDown_159 : decode cX0_sitDown 159 = .ok (.iconst 1, 1) := by decide +kernel
theorem dX0_sitDown_160 : decode cX0_sitDown 160 = .ok (.iadd, 1) := by decide +kernel
theorem dX0_sitDown_161 : decode cX0_sitDown 161 = .ok (.iastore, 1) := by decide +kernel
theorem dX0_sitDown_162 : decode cX0_sitDown 162 = .ok (.aload_n 2, 1) := by decide +kernel
theorem dX0_sitDown_163 : decode cX0_sitDown 163 = .ok (.getfield 145, 3) := by decide +kernel
theorem dX0_sitDown_166 : decode cX0_sitDown 166 = .ok (.ifCond .eq 7, 3) := by decide +kernel
theorem dX0_sitDown_169 : decode cX0_sitDown 169 = .ok (.iconst 0, 1) := by decide +kernel
theorem dX0_sitDown_170 : decode cX0_sitDown 170 = .ok (.goto 15, 3) := by decide +kernel
theorem dX0_sitDown_173 : decode cX0_sitDown 173 = .ok (.iconst 1, 1) := by decide +kernel
theorem dX0_sitDown_174 : decode cX0_sitDown 174 = .ok (.aload_n 0, 1) := by decide +kernel
theorem dX0_sitDown_175 : decode cX0_sitDown 175 = .ok (.aload_n 1, 1) := by decide +kernel
theorem dX0_sitDown_176 : decode cX0_sitDown 176 = .ok (.aload_n 2, 1) := by decide +kernel
theorem dX0_sitDown_177 : decode cX0_sitDown 177 = .ok (.iload_n 3, 1) := by decide +kernel
theorem dX0_sitDown_178 : decode cX0_sitDown 178 = .ok (.iload 4, 2) := by decide +kernel
theorem dX0_sitDown_180 : decode cX0_sitDown 180 = .ok (.iload 6, 2) := by decide +kernel
theorem dX0_sitDown_182 : decode cX0_sitDown 182 = .ok (.invokestatic 113, 3) := by decide +kernel
theorem dX0_sitDown_185 : decode cX0_sitDown 185 = .ok (.istore 8, 2) := by decide +kernel
theorem dX0_sitDown_187 : decode cX0_sitDown 187 = .ok (.aload_n 1, 1) := by decide +kernel
theorem dX0_sitDown_188 : decode cX0_sitDown 188 = .ok (.getfield 148, 3) := by decide +kernel
theorem dX0_sitDown_191 : decode cX0_sitDown 191 = .ok (.iload 4, 2) := by decide +kernel
theorem dX0_sitDown_193 : decode cX0_sitDown 193 = .ok (.iaload, 1) := by decide +kernel
theorem dX0_sitDown_194 : decode cX0_sitDown 194 = .ok (.istore 9, 2) := by decide +kernel
theorem dX0_sitDown_196 : decode cX0_sitDown 196 = .ok (.iload 8, 2) := by decide +kernel
theorem dX0_sitDown_198 : decode cX0_sitDown 198 = .ok (.ifCond .le 14, 3) := by decide +kernel
theorem dX0_sitDown_201 : decode cX0_sitDown 201 = .ok (.aload_n 1, 1) := by decide +kernel
theorem dX0_sitDown_202 : decode cX0_sitDown 202 = .ok (.getfield 142, 3) := by decide +kernel
theorem dX0_sitDown_205 : decode cX0_sitDown 205 = .ok (.iload_n 3, 1) := by decide +kernel
theorem dX0_sitDown_206 : decode cX0_sitDown 206 = .ok (.dup2, 1) := by decide +kernel
theorem dX0_sitDown_207 : decode cX0_sitDown 207 = .ok (.iaload, 1) := by decide +kernel
theorem dX0_sitDown_208 : decode cX0_sitDown 208 = .ok (.iload 9, 2) := by decide +kernel
theorem dX0_sitDown_210 : decode cX0_sitDown 210 = .ok (.iadd, 1) := by decide +kernel
theorem dX0_sitDown_211 : decode cX0_sitDown 211 = .ok (.iastore, 1) := by decide +kernel
theorem dX0_sitDown_212 : decode cX0_sitDown 212 = .ok (.iload 9, 2) := by decide +kernel
theorem dX0_sitDown_214 : decode cX0_sitDown 214 = .ok (.iconst 3, 1) := by decide +kernel
theorem dX0_sitDown_215 : decode cX0_sitDown 215 = .ok (.if_icmp .lt 7, 3) := by decide +kernel
theorem dX0_sitDown_218 : decode cX0_sitDown 218 = .ok (.iconst 0, 1) := by decide +kernel
theorem dX0_sitDown_219 : decode cX0_sitDown 219 = .ok (.goto 13, 3) := by decide +kernel
theorem dX0_sitDown_222 : decode cX0_sitDown 222 = .ok (.iload 8, 2) := by decide +kernel
theorem dX0_sitDown_224 : decode cX0_sitDown 224 = .ok (.iload 8, 2) := by decide +kernel
theorem dX0_sitDown_226 : decode cX0_sitDown 226 = .ok (.iload 9, 2) := by decide +kernel
theorem dX0_sitDown_228 : decode cX0_sitDown 228 = .ok (.imul, 1) := by decide +kernel
theorem dX0_sitDown_229 : decode cX0_sitDown 229 = .ok (.iconst 4, 1) := by decide +kernel
theorem dX0_sitDown_230 : decode cX0_sitDown 230 = .ok (.idiv, 1) := by decide +kernel
theorem dX0_sitDown_231 : decode cX0_sitDown 231 = .ok (.isub, 1) := by decide +kernel
theorem dX0_sitDown_232 : decode cX0_sitDown 232 = .ok (.istore 10, 2) := by decide +kernel
theorem dX0_sitDown_234 : decode cX0_sitDown 234 = .ok (.aload_n 1, 1) := by decide +kernel
theorem dX0_sitDown_235 : decode cX0_sitDown 235 = .ok (.getfield 74, 3) := by decide +kernel
theorem dX0_sitDown_238 : decode cX0_sitDown 238 = .ok (.iload 4, 2) := by decide +kernel
theorem dX0_sitDown_240 : decode cX0_sitDown 240 = .ok (.aload_n 1, 1) := by decide +kernel
theorem dX0_sitDown_241 : decode cX0_sitDown 241 = .ok (.getfield 74, 3) := by decide +kernel
theorem dX0_sitDown_244 : decode cX0_sitDown 244 = .ok (.iload 4, 2) := by decide +kernel
theorem dX0_sitDown_246 : decode cX0_sitDown 246 = .ok (.iaload, 1) := by decide +kernel
theorem dX0_sitDown_247 : decode cX0_sitDown 247 = .ok (.iload 7, 2) := by decide +kernel
theorem dX0_sitDown_249 : decode cX0_sitDown 249 = .ok (.iload 10, 2) := by decide +kernel
theorem dX0_sitDown_251 : decode cX0_sitDown 251 = .ok (.iadd, 1) := by decide +kernel
theorem dX0_sitDown_252 : decode cX0_sitDown 252 = .ok (.invokestatic 63, 3) := by decide +kernel
theorem dX0_sitDown_255 : decode cX0_sitDown 255 = .ok (.iastore, 1) := by decide +kernel
theorem dX0_sitDown_256 : decode cX0_sitDown 256 = .ok (.iconst 1, 1) := by decide +kernel
theorem dX0_sitDown_257 : decode cX0_sitDown 257 = .ok (.ireturn, 1) := by decide +kernel
theorem dX0_manner_0 : decode cX0_manner 0 = .ok (.iload_n 0, 1) := by decide +kernel
theorem dX0_manner_1 : decode cX0_manner 1 = .ok (.ifCond .lt 17, 3) := by decide +kernel
theorem dX0_manner_4 : decode cX0_manner 4 = .ok (.iload_n 0, 1) := by decide +kernel
theorem dX0_manner_5 : decode cX0_manner 5 = .ok (.iconst 3, 1) := by decide +kernel
theorem dX0_manner_6 : decode cX0_manner 6 = .ok (.if_icmp .ge 12, 3) := by decide +kernel
theorem dX0_manner_9 : decode cX0_manner 9 = .ok (.aload_n 1, 1) := by decide +kernel
theorem dX0_manner_10 : decode cX0_manner 10 = .ok (.iload 5, 2) := by decide +kernel
theorem dX0_manner_12 : decode cX0_manner 12 = .ok (.invokevirtual 48, 3) := by decide +kernel
theorem dX0_manner_15 : decode cX0_manner 15 = .ok (.ifCond .ne 5, 3) := by decide +kernel
theorem dX0_manner_18 : decode cX0_manner 18 = .ok (.iconst 0, 1) := by decide +kernel
theorem dX0_manner_19 : decode cX0_manner 19 = .ok (.ireturn, 1) := by decide +kernel
theorem dX0_manner_20 : decode cX0_manner 20 = .ok (.aload_n 1, 1) := by decide +kernel
theorem dX0_manner_21 : decode cX0_manner 21 = .ok (.aload_n 2, 1) := by decide +kernel
theorem dX0_manner_22 : decode cX0_manner 22 = .ok (.aload_n 3, 1) := by decide +kernel
theorem dX0_manner_23 : decode cX0_manner 23 = .ok (.iload 4, 2) := by decide +kernel
theorem dX0_manner_25 : decode cX0_manner 25 = .ok (.iload 5, 2) := by decide +kernel
theorem dX0_manner_27 : decode cX0_manner 27 = .ok (.iload 6, 2) := by decide +kernel
theorem dX0_manner_29 : decode cX0_manner 29 = .ok (.invokestatic 151, 3) := by decide +kernel
theorem dX0_manner_32 : decode cX0_manner 32 = .ok (.aload_n 1, 1) := by decide +kernel
theorem dX0_manner_33 : decode cX0_manner 33 = .ok (.getfield 155, 3) := by decide +kernel
theorem dX0_manner_36 : decode cX0_manner 36 = .ok (.iload_n 0, 1) := by decide +kernel
theorem dX0_manner_37 : decode cX0_manner 37 = .ok (.invokevirtual 159, 3) := by decide +kernel
theorem dX0_manner_40 : decode cX0_manner 40 = .ok (.lstore 7, 2) := by decide +kernel
theorem dX0_manner_42 : decode cX0_manner 42 = .ok (.lload 7, 2) := by decide +kernel
theorem dX0_manner_44 : decode cX0_manner 44 = .ok (.ldc2_w 165, 3) := by decide +kernel
theorem dX0_manner_47 : decode cX0_manner 47 = .ok (.lcmp, 1) := by decide +kernel
theorem dX0_manner_48 : decode cX0_manner 48 = .ok (.ifCond .ne 34, 3) := by decide +kernel
theorem dX0_manner_51 : decode cX0_manner 51 = .ok (.iload_n 0, 1) := by decide +kernel
theorem dX0_manner_52 : decode cX0_manner 52 = .ok (.ifCond .ne 7, 3) := by decide +kernel
theorem dX0_manner_55 : decode cX0_manner 55 = .ok (.iconst 1, 1) := by decide +kernel
theorem dX0_manner_56 : decode cX0_manner 56 = .ok (.goto 13, 3) := by decide +kernel
theorem dX0_manner_59 : decode cX0_manner 59 = .ok (.iload_n 0, 1) := by decide +kernel
theorem dX0_manner_60 : decode cX0_manner 60 = .ok (.iconst 1, 1) := by decide +kernel
theorem dX0_manner_61 : decode cX0_manner 61 = .ok (.if_icmp .ne 7, 3) := by decide +kernel
theorem dX0_manner_64 : decode cX0_manner 64 = .ok (.iconst 4, 1) := by decide +kernel
theorem dX0_manner_65 : decode cX0_manner 65 = .ok (.goto 4, 3) := by decide +kernel
theorem dX0_manner_68 : decode cX0_manner 68 = .ok (.iconst 5, 1) := by decide +kernel
theorem dX0_manner_69 : decode cX0_manner 69 = .ok (.istore 9, 2) := by decide +kernel
theorem dX0_manner_71 : decode cX0_manner 71 = .ok (.aload_n 1, 1) := by decide +kernel
theorem dX0_manner_72 : decode cX0_manner 72 = .ok (.getfield 155, 3) := by decide +kernel
theorem dX0_manner_75 : decode cX0_manner 75 = .ok (.getfield 167, 3) := by decide +kernel
theorem dX0_manner_78 : decode cX0_manner 78 = .ok (.iload 9, 2) := by decide +kernel
theorem dX0_manner_80 : decode cX0_manner 80 = .ok (.iaload, 1) := by decide +kernel
theorem dX0_manner_81 : decode cX0_manner 81 = .ok (.ireturn, 1) := by decide +kernel
theorem dX0_manner_82 : decode cX0_manner 82 = .ok (.lload 7, 2) := by decide +kernel
theorem dX0_manner_84 : decode cX0_manner 84 = .ok (.lconst 0, 1) := by decide +kernel
theorem dX0_manner_85 : decode cX0_manner 85 = .ok (.invokestatic 170, 3) := by decide +kernel
theorem dX0_manner_88 : decode cX0_manner 88 = .ok (.getstatic 173, 3) := by decide +kernel
theorem dX0_manner_91 : decode cX0_manner 91 = .ok (.iload_n 0, 1) := by decide +kernel
theorem dX0_manner_92 : decode cX0_manner 92 = .ok (.iaload, 1) := by decide +kernel
theorem dX0_manner_93 : decode cX0_manner 93 = .ok (.i2l, 1) := by decide +kernel
theorem dX0_manner_94 : decode cX0_manner 94 = .ok (.invokestatic 176, 3) := by decide +kernel
theorem dX0_manner_97 : decode cX0_manner 97 = .ok (.l2i, 1) := by decide +kernel
theorem dX0_manner_98 : decode cX0_manner 98 = .ok (.ireturn, 1) := by decide +kernel
theorem dX0_look_0 : decode cX0_look 0 = .ok (.aload_n 0, 1) := by decide +kernel
theorem dX0_look_1 : decode cX0_look 1 = .ok (.iload 4, 2) := by decide +kernel
theorem dX0_look_3 : decode cX0_look 3 = .ok (.invokevirtual 48, 3) := by decide +kernel
theorem dX0_look_6 : decode cX0_look 6 = .ok (.ifCond .ne 4, 3) := by decide +kernel
theorem dX0_look_9 : decode cX0_look 9 = .ok (.return_, 1) := by decide +kernel
theorem dX0_look_10 : decode cX0_look 10 = .ok (.aload_n 0, 1) := by decide +kernel
theorem dX0_look_11 : decode cX0_look 11 = .ok (.iload_n 3, 1) := by decide +kernel
theorem dX0_look_12 : decode cX0_look 12 = .ok (.iconst 5, 1) := by decide +kernel
theorem dX0_look_13 : decode cX0_look 13 = .ok (.invokevirtual 37, 3) := by decide +kernel
theorem dX0_look_16 : decode cX0_look 16 = .ok (.istore 6, 2) := by decide +kernel
theorem dX0_look_18 : decode cX0_look 18 = .ok (.iload_n 3, 1) := by decide +kernel
theorem dX0_look_19 : decode cX0_look 19 = .ok (.aload_n 2, 1) := by decide +kernel
theorem dX0_look_20 : decode cX0_look 20 = .ok (.getfield 179, 3) := by decide +kernel
theorem dX0_look_23 : decode cX0_look 23 = .ok (.if_icmp .ne 18, 3) := by decide +kernel
theorem dX0_look_26 : decode cX0_look 26 = .ok (.iload 6, 2) := by decide +kernel
theorem dX0_look_28 : decode cX0_look 28 = .ok (.bipush 20, 2) := by decide +kernel
theorem dX0_look_30 : decode cX0_look 30 = .ok (.iadd, 1) := by decide +kernel
theorem dX0_look_31 : decode cX0_look 31 = .ok (.getstatic 182, 3) := by decide +kernel
theorem dX0_look_34 : decode cX0_look 34 = .ok (.iconst 5, 1) := by decide +kernel
theorem dX0_look_35 : decode cX0_look 35 = .ok (.iaload, 1) := by decide +kernel
theorem dX0_look_36 : decode cX0_look 36 = .ok (.invokestatic 185, 3) := by decide +kernel
theorem dX0_look_39 : decode cX0_look 39 = .ok (.istore 6, 2) := by decide +kernel
theorem dX0_look_41 : decode cX0_look 41 = .ok (.aload_n 0, 1) := by decide +kernel
theorem dX0_look_42 : decode cX0_look 42 = .ok (.getfield 155, 3) := by decide +kernel
theorem dX0_look_45 : decode cX0_look 45 = .ok (.getfield 167, 3) := by decide +kernel
theorem dX0_look_48 : decode cX0_look 48 = .ok (.astore 7, 2) := by decide +kernel
theorem dX0_look_50 : decode cX0_look 50 = .ok (.aload 7, 2) := by decide +kernel
theorem dX0_look_52 : decode cX0_look 52 = .ok (.iconst 0, 1) := by decide +kernel
theorem dX0_look_53 : decode cX0_look 53 = .ok (.aload_n 0, 1) := by decide +kernel
theorem dX0_look_54 : decode cX0_look 54 = .ok (.iload_n 3, 1) := by decide +kernel
theorem dX0_look_55 : decode cX0_look 55 = .ok (.iconst 0, 1) := by decide +kernel
theorem dX0_look_56 : decode cX0_look 56 = .ok (.invokevirtual 37, 3) := by decide +kernel
theorem dX0_look_59 : decode cX0_look 59 = .ok (.iastore, 1) := by decide +kernel
theorem dX0_look_60 : decode cX0_look 60 = .ok (.aload 7, 2) := by decide +kernel
theorem dX0_look_62 : decode cX0_look 62 = .ok (.iconst 1, 1) := by decide +kernel
theorem dX0_look_63 : decode cX0_look 63 = .ok (.aload_n 0, 1) := by decide +kernel
theorem dX0_look_64 : decode cX0_look 64 = .ok (.iload_n 3, 1) := by decide +kernel
theorem dX0_look_65 : decode cX0_look 65 = .ok (.iconst 1, 1) := by decide +kernel
theorem dX0_look_66 : decode cX0_look 66 = .ok (.iload 4, 2) := by decide +kernel
theorem dX0_look_68 : decode cX0_look 68 = .ok (.iadd, 1) := by decide +kernel
theorem dX0_look_69 : decode cX0_look 69 = .ok (.invokevirtual 37, 3) := by decide +kernel
theorem dX0_look_72 : decode cX0_look 72 = .ok (.iastore, 1) := by decide +kernel
theorem dX0_look_73 : decode cX0_look 73 = .ok (.aload 7, 2) := by decide +kernel
theorem dX0_look_75 : decode cX0_look 75 = .ok (.iconst 2, 1) := by decide +kernel
theorem dX0_look_76 : decode cX0_look 76 = .ok (.iload 5, 2) := by decide +kernel
theorem dX0_look_78 : decode cX0_look 78 = .ok (.iastore, 1) := by decide +kernel
theorem dX0_look_79 : decode cX0_look 79 = .ok (.aload 7, 2) := by decide +kernel
theorem dX0_look_81 : decode cX0_look 81 = .ok (.iconst 3, 1) := by decide +kernel
theorem dX0_look_82 : decode cX0_look 82 = .ok (.aload_n 1, 1) := by decide +kernel
theorem dX0_look_83 : decode cX0_look 83 = .ok (.getfield 136, 3) := by decide +kernel
theorem dX0_look_86 : decode cX0_look 86 = .ok (.iload 4, 2) := by decide +kernel
theorem dX0_look_88 : decode cX0_look 88 = .ok (.iaload, 1) := by decide +kernel
theorem dX0_look_89 : decode cX0_look 89 = .ok (.iastore, 1) := by decide +kernel
theorem dX0_look_90 : decode cX0_look 90 = .ok (.aload 7, 2) := by decide +kernel
theorem dX0_look_92 : decode cX0_look 92 = .ok (.iconst 4, 1) := by decide +kernel
theorem dX0_look_93 : decode cX0_look 93 = .ok (.iload 6, 2) := by decide +kernel
theorem dX0_look_95 : decode cX0_look 95 = .ok (.iastore, 1) := by decide +kernel
theorem dX0_look_96 : decode cX0_look 96 = .ok (.aload 7, 2) := by decide +kernel
theorem dX0_look_98 : decode cX0_look 98 = .ok (.iconst 5, 1) := by decide +kernel
theorem dX0_look_99 : decode cX0_look 99 = .ok (.aload_n 0, 1) := by decide +kernel
theorem dX0_look_100 : decode cX0_look 100 = .ok (.iload_n 3, 1) := by decide +kernel
theorem dX0_look_101 : decode cX0_look 101 = .ok (.bipush 6, 2) := by decide +kernel
theorem dX0_look_103 : decode cX0_look 103 = .ok (.invokevirtual 37, 3) := by decide +kernel
theorem dX0_look_106 : decode cX0_look 106 = .ok (.iastore, 1) := by decide +kernel
theorem dX0_look_107 : decode cX0_look 107 = .ok (.aload 7, 2) := by decide +kernel
theorem dX0_look_109 : decode cX0_look 109 = .ok (.bipush 6, 2) := by decide +kernel
theorem dX0_look_111 : decode cX0_look 111 = .ok (.aload_n 1, 1) := by decide +kernel
theorem dX0_look_112 : decode cX0_look 112 = .ok (.getfield 41, 3) := by decide +kernel
theorem dX0_look_115 : decode cX0_look 115 = .ok (.iastore, 1) := by decide +kernel
theorem dX0_look_116 : decode cX0_look 116 = .ok (.return_, 1) := by decide +kernel
theorem dX1_init_0 : decode cX1_init 0 = .ok (.aload_n 0, 1) := by decide +kernel
theorem dX1_init_1 : decode cX1_init 1 = .ok (.invokespecial 3, 3) := by decide +kernel
theorem dX1_init_4 : decode cX1_init 4 = .ok (.aload_n 0, 1) := by decide +kernel
theorem dX1_init_5 : decode cX1_init 5 = .ok (.bipush 8, 2) := by decide +kernel
theorem dX1_init_7 : decode cX1_init 7 = .ok (.iconst 3, 1) := by decide +kernel
theorem dX1_init_8 : decode cX1_init 8 = .ok (.multianewarray 9 2, 4) := by decide +kernel
theorem dX1_init_12 : decode cX1_init 12 = .ok (.putfield 11, 3) := by decide +kernel
theorem dX1_init_15 : decode cX1_init 15 = .ok (.aload_n 0, 1) := by decide +kernel
theorem dX1_init_16 : decode cX1_init 16 = .ok (.iconst 3, 1) := by decide +kernel
theorem dX1_init_17 : decode cX1_init 17 = .ok (.newarray .int, 2) := by decide +kernel
theorem dX1_init_19 : decode cX1_init 19 = .ok (.putfield 16, 3) := by decide +kernel
theorem dX1_init_22 : decode cX1_init 22 = .ok (.aload_n 0, 1) := by decide +kernel
theorem dX1_init_23 : decode cX1_init 23 = .ok (.bipush 8, 2) := by decide +kernel
theorem dX1_init_25 : decode cX1_init 25 = .ok (.newarray .int, 2) := by decide +kernel
theorem dX1_init_27 : decode cX1_init 27 = .ok (.putfield 20, 3) := by decide +kernel
theorem dX1_init_30 : decode cX1_init 30 = .ok (.aload_n 0, 1) := by decide +kernel
theorem dX1_init_31 : decode cX1_init 31 = .ok (.bipush 8, 2) := by decide +kernel
theorem dX1_init_33 : decode cX1_init 33 = .ok (.newarray .int, 2) := by decide +kernel
theorem dX1_init_35 : decode cX1_init 35 = .ok (.putfield 23, 3) := by decide +kernel
theorem dX1_init_38 : decode cX1_init 38 = .ok (.aload_n 0, 1) := by decide +kernel
theorem dX1_init_39 : decode cX1_init 39 = .ok (.bipush 9, 2) := by decide +kernel
theorem dX1_init_41 : decode cX1_init 41 = .ok (.newarray .int, 2) := by decide +kernel
theorem dX1_init_43 : decode cX1_init 43 = .ok (.putfield 26, 3) := by decide +kernel
theorem dX1_init_46 : decode cX1_init 46 = .ok (.aload_n 0, 1) := by decide +kernel
theorem dX1_init_47 : decode cX1_init 47 = .ok (.iconst 0, 1) := by decide +kernel
theorem dX1_init_48 : decode cX1_init 48 = .ok (.putfield 29, 3) := by decide +kernel
theorem dX1_init_51 : decode cX1_init 51 = .ok (.aload_n 0, 1) := by decide +kernel
theorem dX1_init_52 : decode cX1_init 52 = .ok (.iconst 0, 1) := by decide +kernel
theorem dX1_init_53 : decode cX1_init 53 = .ok (.putfield 33, 3) := by decide +kernel
theorem dX1_init_56 : decode cX1_init 56 = .ok (.return_, 1) := by decide +kernel
theorem dX1_tell_0 : decode cX1_tell 0 = .ok (.iload_n 1, 1) := by decide +kernel
theorem dX1_tell_1 : decode cX1_tell 1 = .ok (.ifCond .lt 18, 3) := by decide +kernel
theorem dX1_tell_4 : decode cX1_tell 4 = .ok (.iload_n 1, 1) := by decide +kernel
theorem dX1_tell_5 : decode cX1_tell 5 = .ok (.bipush 8, 2) := by decide +kernel
theorem dX1_tell_7 : decode cX1_tell 7 = .ok (.if_icmp .ge 12, 3) := by decide +kernel
theorem dX1_tell_10 : decode cX1_tell 10 = .ok (.iload_n 2, 1) := by decide +kernel
theorem dX1_tell_11 : decode cX1_tell 11 = .ok (.ifCond .lt 8, 3) := by decide +kernel
theorem dX1_tell_14 : decode cX1_tell 14 = .ok (.iload_n 2, 1) := by decide +kernel
theorem dX1_tell_15 : decode cX1_tell 15 = .ok (.iconst 3, 1) := by decide +kernel
theorem dX1_tell_16 : decode cX1_tell 16 = .ok (.if_icmp .lt 4, 3) := by decide +kernel
theorem dX1_tell_19 : decode cX1_tell 19 = .ok (.return_, 1) := by decide +kernel
theorem dX1_tell_20 : decode cX1_tell 20 = .ok (.aload_n 0, 1) := by decide +kernel
theorem dX1_tell_21 : decode cX1_tell 21 = .ok (.aload_n 0, 1) := by decide +kernel
theorem dX1_tell_22 : decode cX1_tell 22 = .ok (.getfield 33, 3) := by decide +kernel
theorem dX1_tell_25 : decode cX1_tell 25 = .ok (.ifCond .eq 19, 3) := by decide +kernel
theorem dX1_tell_28 : decode cX1_tell 28 = .ok (.aload_n 0, 1) := by decide +kernel
theorem dX1_tell_29 : decode cX1_tell 29 = .ok (.getfield 11, 3) := by decide +kernel
theorem dX1_tell_32 : decode cX1_tell 32 = .ok (.iload_n 1, 1) := by decide +kernel
theorem dX1_tell_33 : decode cX1_tell 33 = .ok (.aaload, 1) := by decide +kernel
theorem dX1_tell_34 : decode cX1_tell 34 = .ok (.iload_n 2, 1) := by decide +kernel
theorem dX1_tell_35 : decode cX1_tell 35 = .ok (.iaload, 1) := by decide +kernel
theorem dX1_tell_36 : decode cX1_tell 36 = .ok (.iload_n 3, 1) := by decide +kernel
theorem dX1_tell_37 : decode cX1_tell 37 = .ok (.if_icmp .ne 7, 3) := by decide +kernel
theorem dX1_tell_40 : decode cX1_tell 40 = .ok (.iconst 1, 1) := by decide +kernel
theorem dX1_tell_41 : decode cX1_tell 41 = .ok (.goto 4, 3) := by decide +kernel
theorem dX1_tell_44 : decode cX1_tell 44 = .ok (.iconst 0, 1) := by decide +kernel
theorem dX1_tell_45 : decode cX1_tell 45 = .ok (.putfield 33, 3) := by decide +kernel
theorem dX1_tell_48 : decode cX1_tell 48 = .ok (.aload_n 0, 1) := by decide +kernel
theorem dX1_tell_49 : decode cX1_tell 49 = .ok (.getfield 11, 3) := by decide +kernel
theorem dX1_tell_52 : decode cX1_tell 52 = .ok (.iload_n 1, 1) := by decide +kernel
theorem dX1_tell_53 : decode cX1_tell 53 = .ok (.aaload, 1) := by decide +kernel
theorem dX1_tell_54 : decode cX1_tell 54 = .ok (.iload_n 2, 1) := by decide +kernel
theorem dX1_tell_55 : decode cX1_tell 55 = .ok (.iload_n 3, 1) := by decide +kernel
theorem dX1_tell_56 : decode cX1_tell 56 = .ok (.iastore, 1) := by decide +kernel
theorem dX1_tell_57 : decode cX1_tell 57 = .ok (.return_, 1) := by decide +kernel
theorem dX1_find_0 : decode cX1_find 0 = .ok (.aload_n 0, 1) := by decide +kernel
theorem dX1_find_1 : decode cX1_find 1 = .ok (.getfield 33, 3) := by decide +kernel
theorem dX1_find_4 : decode cX1_find 4 = .ok (.ifCond .eq 4, 3) := by decide +kernel
theorem dX1_find_7 : decode cX1_find 7 = .ok (.return_, 1) := by decide +kernel
theorem dX1_find_8 : decode cX1_find 8 = .ok (.aload_n 0, 1) := by decide +kernel
theorem dX1_find_9 : decode cX1_find 9 = .ok (.getfield 26, 3) := by decide +kernel
theorem dX1_find_12 : decode cX1_find 12 = .ok (.aload_n 1, 1) := by decide +kernel
theorem dX1_find_13 : decode cX1_find 13 = .ok (.getfield 37, 3) := by decide +kernel
theorem dX1_find_16 : decode cX1_find 16 = .ok (.iconst 0, 1) := by decide +kernel
theorem dX1_find_17 : decode cX1_find 17 = .ok (.iastore, 1) := by decide +kernel
theorem dX1_find_18 : decode cX1_find 18 = .ok (.aload_n 1, 1) := by decide +kernel
theorem dX1_find_19 : decode cX1_find 19 = .ok (.getfield 37, 3) := by decide +kernel
theorem dX1_find_22 : decode cX1_find 22 = .ok (.iconst 1, 1) := by decide +kernel
theorem dX1_find_23 : decode cX1_find 23 = .ok (.isub, 1) := by decide +kernel
theorem dX1_find_24 : decode cX1_find 24 = .ok (.istore_n 2, 1) := by decide +kernel
theorem dX1_find_25 : decode cX1_find 25 = .ok (.iload_n 2, 1) := by decide +kernel
theorem dX1_find_26 : decode cX1_find 26 = .ok (.ifCond .lt 59, 3) := by decide +kernel
theorem dX1_find_29 : decode cX1_find 29 = .ok (.iconst 0, 1) := by decide +kernel
theorem dX1_find_30 : decode cX1_find 30 = .ok (.istore_n 3, 1) := by decide +kernel
theorem dX1_find_31 : decode cX1_find 31 = .ok (.iconst 0, 1) := by decide +kernel
theorem dX1_find_32 : decode cX1_find 32 = .ok (.istore 4, 2) := by decide +kernel
theorem dX1_find_34 : decode cX1_find 34 = .ok (.iload 4, 2) := by decide +kernel
theorem dX1_find_36 : decode cX1_find 36 = .ok (.aload_n 1, 1) := by decide +kernel
theorem dX1_find_37 : decode cX1_find 37 = .ok (.getfield 42, 3) := by decide +kernel
theorem dX1_find_40 : decode cX1_find 40 = .ok (.if_icmp .ge 23, 3) := by decide +kernel
theorem dX1_find_43 : decode cX1_find 43 = .ok (.iload_n 3, 1) := by decide +kernel
theorem dX1_find_44 : decode cX1_find 44 = .ok (.aload_n 0, 1) := by decide +kernel
theorem dX1_find_45 : decode cX1_find 45 = .ok (.getfield 11, 3) := by decide +kernel
theorem dX1_find_48 : decode cX1_find 48 = .ok (.iload_n 2, 1) := by decide +kernel
theorem dX1_find_49 : decode cX1_find 49 = .ok (.aaload, 1) := by decide +kernel
theorem dX1_find_50 : decode cX1_find 50 = .ok (.iload 4, 2) := by decide +kernel
theorem dX1_find_52 : decode cX1_find 52 = .ok (.iaload, 1) := by decide +kernel
theorem dX1_find_53 : decode cX1_find 53 = .ok (.invokestatic 45, 3) := by decide +kernel
theorem dX1_find_56 : decode cX1_find 56 = .ok (.istore_n 3, 1) := by decide +kernel
theorem dX1_find_57 : decode cX1_find 57 = .ok (.iinc 4 1, 3) := by decide +kernel
theorem dX1_find_60 : decode cX1_find 60 = .ok (.goto (-26), 3) := by decide +kernel
theorem dX1_find_63 : decode cX1_find 63 = .ok (.aload_n 0, 1) := by decide +kernel
theorem dX1_find_64 : decode cX1_find 64 = .ok (.getfield 26, 3) := by decide +kernel
theorem dX1_find_67 : decode cX1_find 67 = .ok (.iload_n 2, 1) := by decide +kernel
theorem dX1_find_68 : decode cX1_find 68 = .ok (.aload_n 0, 1) := by decide +kernel
theorem dX1_find_69 : decode cX1_find 69 = .ok (.getfield 26, 3) := by decide +kernel
theorem dX1_find_72 : decode cX1_find 72 = .ok (.iload_n 2, 1) := by decide +kernel
theorem dX1_find_73 : decode cX1_find 73 = .ok (.iconst 1, 1) := by decide +kernel
theorem dX1_find_74 : decode cX1_find 74 = .ok (.iadd, 1) := by decide +kernel
theorem dX1_find_75 : decode cX1_find 75 = .ok (.iaload, 1) := by decide +kernel
theorem dX1_find_76 : decode cX1_find 76 = .ok (.iload_n 3, 1) := by decide +kernel
theorem dX1_find_77 : decode cX1_find 77 = .ok (.iadd, 1) := by decide +kernel
theorem dX1_find_78 : decode cX1_find 78 = .ok (.iastore, 1) := by decide +kernel
theorem dX1_find_79 : decode cX1_find 79 = .ok (.iinc 2 (-1), 3) := by decide +kernel
theorem dX1_find_82 : decode cX1_find 82 = .ok (.goto (-57), 3) := by decide +kernel
theorem dX1_find_85 : decode cX1_find 85 = .ok (.iconst 0, 1) := by decide +kernel
theorem dX1_find_86 : decode cX1_find 86 = .ok (.istore_n 2, 1) := by decide +kernel
theorem dX1_find_87 : decode cX1_find 87 = .ok (.iload_n 2, 1) := by decide +kernel
theorem dX1_find_88 : decode cX1_find 88 = .ok (.iconst 3, 1) := by decide +kernel
theorem dX1_find_89 : decode cX1_find 89 = .ok (.if_icmp .ge 19, 3) := by decide +kernel
theorem dX1_find_92 : decode cX1_find 92 = .ok (.aload_n 0, 1) := by decide +kernel
theorem dX1_find_93 : decode cX1_find 93 = .ok (.getfield 16, 3) := by decide +kernel
theorem dX1_find_96 : decode cX1_find 96 = .ok (.iload_n 2, 1) := by decide +kernel
theorem dX1_find_97 : decode cX1_find 97 = .ok (.aload_n 1, 1) := by decide +kernel
theorem dX1_find_98 : decode cX1_find 98 = .ok (.invokevirtual 51, 3) := by decide +kernel
theorem dX1_find_101 : decode cX1_find 101 = .ok (.iastore, 1) := by decide +kernel
theorem dX1_find_102 : decode cX1_find 102 = .ok (.iinc 2 1, 3) := by decide +kernel
theorem dX1_find_105 : decode cX1_find 105 = .ok (.goto (-18), 3) := by decide +kernel
theorem dX1_find_108 : decode cX1_find 108 = .ok (.aload_n 0, 1) := by decide +kernel
theorem dX1_find_109 : decode cX1_find 109 = .ok (.iconst (-1), 1) := by decide +kernel
theorem dX1_find_110 : decode cX1_find 110 = .ok (.putfield 29, 3) := by decide +kernel
theorem dX1_find_113 : decode cX1_find 113 = .ok (.aload_n 0, 1) := by decide +kernel
theorem dX1_find_114 : decode cX1_find 114 = .ok (.aload_n 1, 1) := by decide +kernel
theorem dX1_find_115 : decode cX1_find 115 = .ok (.iconst 0, 1) := by decide +kernel
theorem dX1_find_116 : decode cX1_find 116 = .ok (.iconst 0, 1) := by decide +kernel
theorem dX1_find_117 : decode cX1_find 117 = .ok (.invokevirtual 55, 3) := by decide +kernel
theorem dX1_find_120 : decode cX1_find 120 = .ok (.aload_n 0, 1) := by decide +kernel
theorem dX1_find_121 : decode cX1_find 121 = .ok (.iconst 1, 1) := by decide +kernel
theorem dX1_find_122 : decode cX1_find 122 = .ok (.putfield 33, 3) := by decide +kernel
theorem dX1_find_125 : decode cX1_find 125 = .ok (.return_, 1) := by decide +kernel
theorem dX1_search_0 : decode cX1_search 0 = .ok (.iload_n 2, 1) := by decide +kernel
theorem dX1_search_1 : decode cX1_search 1 = .ok (.aload_n 1, 1) := by decide +kernel
theorem dX1_search_2 : decode cX1_search 2 = .ok (.getfield 37, 3) := by decide +kernel
theorem dX1_search_5 : decode cX1_search 5 = .ok (.if_icmp .ge 9, 3) := by decide +kernel
theorem dX1_search_8 : decode cX1_search 8 = .ok (.iload_n 2, 1) := by decide +kernel
theorem dX1_search_9 : decode cX1_search 9 = .ok (.bipush 8, 2) := by decide +kernel
theorem dX1_search_11 : decode cX1_search 11 = .ok (.if_icmp .lt 32, 3) := by decide +kernel
theorem dX1_search_14 : decode cX1_search 14 = .ok (.iload_n 3, 1) := by decide +kernel
theorem dX1_search_15 : decode cX1_search 15 = .ok (.aload_n 0, 1) := by decide +kernel
theorem dX1_search_16 : decode cX1_search 16 = .ok (.getfield 29, 3) := by decide +kernel
theorem dX1_search_19 : decode cX1_search 19 = .ok (.if_icmp .le 23, 3) := by decide +kernel
theorem dX1_search_22 : decode cX1_search 22 = .ok (.aload_n 0, 1) := by decide +kernel
theorem dX1_search_23 : decode cX1_search 23 = .ok (.iload_n 3, 1) := by decide +kernel
theorem dX1_search_24 : decode cX1_search 24 = .ok (.putfield 29, 3) := by decide +kernel
theorem dX1_search_27 : decode cX1_search 27 = .ok (.aload_n 0, 1) := by decide +kernel
theorem dX1_search_28 : decode cX1_search 28 = .ok (.getfield 20, 3) := by decide +kernel
theorem dX1_search_31 : decode cX1_search 31 = .ok (.iconst 0, 1) := by decide +kernel
theorem dX1_search_32 : decode cX1_search 32 = .ok (.aload_n 0, 1) := by decide +kernel
theorem dX1_search_33 : decode cX1_search 33 = .ok (.getfield 23, 3) := by decide +kernel
theorem dX1_search_36 : decode cX1_search 36 = .ok (.iconst 0, 1) := by decide +kernel
theorem dX1_search_37 : decode cX1_search 37 = .ok (.bipush 8, 2) := by decide +kernel
theorem dX1_search_39 : decode cX1_search 39 = .ok (.invokestatic 59, 3) := by decide +kernel
theorem dX1_search_42 : decode cX1_search 42 = .ok (.return_, 1) := by decide +kernel
theorem dX1_search_43 : decode cX1_search 43 = .ok (.iload_n 2, 1) := by decide +kernel
theorem dX1_search_44 : decode cX1_search 44 = .ok (.ifCond .lt 18, 3) := by decide +kernel
theorem dX1_search_47 : decode cX1_search 47 = .ok (.iload_n 3, 1) := by decide +kernel
theorem dX1_search_48 : decode cX1_search 48 = .ok (.aload_n 0, 1) := by decide +kernel
theorem dX1_search_49 : decode cX1_search 49 = .ok (.getfield 26, 3) := by decide +kernel
theorem dX1_search_52 : decode cX1_search 52 = .ok (.iload_n 2, 1) := by decide +kernel
theorem dX1_search_53 : decode cX1_search 53 = .ok (.iaload, 1) := by decide +kernel
theorem dX1_search_54 : decode cX1_search 54 = .ok (.iadd, 1) := by decide +kernel
theorem dX1_search_55 : decode cX1_search 55 = .ok (.aload_n 0, 1) := by decide +kernel
theorem dX1_search_56 : decode cX1_search 56 = .ok (.getfield 29, 3) := by decide +kernel
theorem dX1_search_59 : decode cX1_search 59 = .ok (.if_icmp .gt 4, 3) := by decide +kernel
theorem dX1_search_62 : decode cX1_search 62 = .ok (.return_, 1) := by decide +kernel
theorem dX1_search_63 : decode cX1_search 63 = .ok (.aload_n 1, 1) := by decide +kernel
theorem dX1_search_64 : decode cX1_search 64 = .ok (.iload_n 2, 1) := by decide +kernel
theorem dX1_search_65 : decode cX1_search 65 = .ok (.iconst 0, 1) := by decide +kernel
theorem dX1_search_66 : decode cX1_search 66 = .ok (.invokevirtual 65, 3) := by decide +kernel
theorem dX1_search_69 : decode cX1_search 69 = .ok (.istore 4, 2) := by decide +kernel
theorem dX1_search_71 : decode cX1_search 71 = .ok (.aload_n 0, 1) := by decide +kernel
theorem dX1_search_72 : decode cX1_search 72 = .ok (.getfield 20, 3) := by decide +kernel
theorem dX1_search_75 : decode cX1_search 75 = .ok (.iload_n 2, 1) := by decide +kernel
theorem dX1_search_76 : decode cX1_search 76 = .ok (.iconst (-1), 1) := by decide +kernel
theorem dX1_search_77 : decode cX1_search 77 = .ok (.iastore, 1) := by decide +kernel
theorem dX1_search_78 : decode cX1_search 78 = .ok (.aload_n 0, 1) := by decide +kernel
theorem dX1_search_79 : decode cX1_search 79 = .ok (.aload_n 1, 1) := by decide +kernel
theorem dX1_search_80 : decode cX1_search 80 = .ok (.iload_n 2, 1) := by decide +kernel
theorem dX1_search_81 : decode cX1_search 81 = .ok (.iconst 1, 1) := by decide +kernel
theorem dX1_search_82 : decode cX1_search 82 = .ok (.iadd, 1) := by decide +kernel
theorem dX1_search_83 : decode cX1_search 83 = .ok (.iload_n 3, 1) := by decide +kernel
theorem dX1_search_84 : decode cX1_search 84 = .ok (.invokevirtual 55, 3) := by decide +kernel
theorem dX1_search_87 : decode cX1_search 87 = .ok (.iconst 0, 1) := by decide +kernel
theorem dX1_search_88 : decode cX1_search 88 = .ok (.istore 5, 2) := by decide +kernel
theorem dX1_search_90 : decode cX1_search 90 = .ok (.iload 5, 2) := by decide +kernel
theorem dX1_search_92 : decode cX1_search 92 = .ok (.aload_n 1, 1) := by decide +kernel
theorem dX1_search_93 : decode cX1_search 93 = .ok (.getfield 42, 3) := by decide +kernel
theorem dX1_search_96 : decode cX1_search 96 = .ok (.if_icmp .ge 84, 3) := by decide +kernel
theorem dX1_search_99 : decode cX1_search 99 = .ok (.aload_n 0, 1) := by decide +kernel
theorem dX1_search_100 : decode cX1_search 100 = .ok (.getfield 11, 3) := by decide +kernel
theorem dX1_search_103 : decode cX1_search 103 = .ok (.iload_n 2, 1) := by decide +kernel
theorem dX1_search_104 : decode cX1_search 104 = .ok (.aaload, 1) := by decide +kernel
theorem dX1_search_105 : decode cX1_search 105 = .ok (.iload 5, 2) := by decide +kernel
theorem dX1_search_107 : decode cX1_search 107 = .ok (.iaload, 1) := by decide +kernel
theorem dX1_search_108 : decode cX1_search 108 = .ok (.ifCond .lt 66, 3) := by decide +kernel
theorem dX1_search_111 : decode cX1_search 111 = .ok (.aload_n 0, 1) := by decide +kernel
theorem dX1_search_112 : decode cX1_search 112 = .ok (.getfield 16, 3) := by decide +kernel
theorem dX1_search_115 : decode cX1_search 115 = .ok (.iload 5, 2) := by decide +kernel
theorem dX1_search_117 : decode cX1_search 117 = .ok (.iaload, 1) := by decide +kernel
theorem dX1_search_118 : decode cX1_search 118 = .ok (.iload 4, 2) := by decide +kernel
theorem dX1_search_120 : decode cX1_search 120 = .ok (.if_icmp .lt 54, 3) := by decide +kernel
theorem dX1_search_123 : decode cX1_search 123 = .ok (.aload_n 0, 1) := by decide +kernel
theorem dX1_search_124 : decode cX1_search 124 = .ok (.getfield 20, 3) := by decide +kernel
theorem dX1_search_127 : decode cX1_search 127 = .ok (.iload_n 2, 1) := by decide +kernel
theorem dX1_search_128 : decode cX1_search 128 = .ok (.iload 5, 2) := by decide +kernel
theorem dX1_search_130 : decode cX1_search 130 = .ok (.iastore, 1) := by decide +kernel
theorem dX1_search_131 : decode cX1_search 131 = .ok (.aload_n 0, 1) := by decide +kernel
theorem dX1_search_132 : decode cX1_search 132 = .ok (.getfield 16, 3) := by decide +kernel
theorem dX1_search_135 : decode cX1_search 135 = .ok (.iload 5, 2) := by decide +kernel
theorem dX1_search_137 : decode cX1_search 137 = .ok (.dup2, 1) := by decide +kernel
theorem dX1_search_138 : decode cX1_search 138 = .ok (.iaload, 1) := by decide +kernel
theorem dX1_search_139 : decode cX1_search 139 = .ok (.iload 4, 2) := by decide +kernel
theorem dX1_search_141 : decode cX1_search 141 = .ok (.isub, 1) := by decide +kernel
theorem dX1_search_142 : decode cX1_search 142 = .ok (.iastore, 1) := by decide +kernel
theorem dX1_search_143 : decode cX1_search 143 = .ok (.aload_n 0, 1) := by decide +kernel
theorem dX1_search_144 : decode cX1_search 144 = .ok (.aload_n 1, 1) := by decide +kernel
theorem dX1_search_145 : decode cX1_search 145 = .ok (.iload_n 2, 1) := by decide +kernel
theorem dX1_search_146 : decode cX1_search 146 = .ok (.iconst 1, 1) := by decide +kernel
theorem dX1_search_147 : decode cX1_search 147 = .ok (.iadd, 1) := by decide +kernel
theorem dX1_search_148 : decode cX1_search 148 = .ok (.iload_n 3, 1) := by decide +kernel
theorem dX1_search_149 : decode cX1_search 149 = .ok (.aload_n 0, 1) := by decide +kernel
theorem dX1_search_150 : decode cX1_search 150 = .ok (.getfield 11, 3) := by decide +kernel
theorem dX1_search_153 : decode cX1_search 153 = .ok (.iload_n 2, 1) := by decide +kernel
theorem dX1_search_154 : decode cX1_search 154 = .ok (.aaload, 1) := by decide +kernel
theorem dX1_search_155 : decode cX1_search 155 = .ok (.iload 5, 2) := by decide +kernel
theorem dX1_search_157 : decode cX1_search 157 = .ok (.iaload, 1) := by decide +kernel
theorem dX1_search_158 : decode cX1_search 158 = .ok (.iadd, 1) := by decide +kernel
theorem dX1_search_159 : decode cX1_search 159 = .ok (.invokevirtual 55, 3) := by decide +kernel
theorem dX1_search_162 : decode cX1_search 162 = .ok (.aload_n 0, 1) := by decide +kernel
theorem dX1_search_163 : decode cX1_search 163 = .ok (.getfield 16, 3) := by decide +kernel
theorem dX1_search_166 : decode cX1_search 166 = .ok (.iload 5, 2) := by decide +kernel
theorem dX1_search_168 : decode cX1_search 168 = .ok (.dup2, 1) := by decide +kernel
theorem dX1_search_169 : decode cX1_search 169 = .ok (.iaload, 1) := by decide +kernel
theorem dX1_search_170 : decode cX1_search 170 = .ok (.iload 4, 2) := by decide +kernel
theorem dX1_search_172 : decode cX1_search 172 = .ok (.iadd, 1) := by decide +kernel
theorem dX1_search_173 : decode cX1_search 173 = .ok (.iastore, 1) := by decide +kernel
theorem dX1_search_174 : decode cX1_search 174 = .ok (.iinc 5 1, 3) := by decide +kernel
theorem dX1_search_177 : decode cX1_search 177 = .ok (.goto (-87), 3) := by decide +kernel
theorem dX1_search_180 : decode cX1_search 180 = .ok (.return_, 1) := by decide +kernel
theorem dX2_init_0 : decode cX2_init 0 = .ok (.aload_n 0, 1) := by decide +kernel
theorem dX2_init_1 : decode cX2_init 1 = .ok (.invokespecial 3, 3) := by decide +kernel
theorem dX2_init_4 : decode cX2_init 4 = .ok (.aload_n 0, 1) := by decide +kernel
theorem dX2_init_5 : decode cX2_init 5 = .ok (.bipush 20, 2) := by decide +kernel
theorem dX2_init_7 : decode cX2_init 7 = .ok (.newarray .int, 2) := by decide +kernel
theorem dX2_init_9 : decode cX2_init 9 = .ok (.putfield 9, 3) := by decide +kernel
theorem dX2_init_12 : decode cX2_init 12 = .ok (.aload_n 0, 1) := by decide +kernel
theorem dX2_init_13 : decode cX2_init 13 = .ok (.bipush 20, 2) := by decide +kernel
theorem dX2_init_15 : decode cX2_init 15 = .ok (.newarray .int, 2) := by decide +kernel
theorem dX2_init_17 : decode cX2_init 17 = .ok (.putfield 15, 3) := by decide +kernel
theorem dX2_init_20 : decode cX2_init 20 = .ok (.aload_n 0, 1) := by decide +kernel
theorem dX2_init_21 : decode cX2_init 21 = .ok (.bipush 20, 2) := by decide +kernel
theorem dX2_init_23 : decode cX2_init 23 = .ok (.newarray .int, 2) := by decide +kernel
theorem dX2_init_25 : decode cX2_init 25 = .ok (.putfield 18, 3) := by decide +kernel
theorem dX2_init_28 : decode cX2_init 28 = .ok (.aload_n 0, 1) := by decide +kernel
theorem dX2_init_29 : decode cX2_init 29 = .ok (.iconst 0, 1) := by decide +kernel
theorem dX2_init_30 : decode cX2_init 30 = .ok (.putfield 21, 3) := by decide +kernel
theorem dX2_init_33 : decode cX2_init 33 = .ok (.return_, 1) := by decide +kernel
theorem dX2_add_0 : decode cX2_add 0 = .ok (.aload_n 0, 1) := by decide +kernel
theorem dX2_add_1 : decode cX2_add 1 = .ok (.getfield 21, 3) := by decide +kernel
theorem dX2_add_4 : decode cX2_add 4 = .ok (.bipush 20, 2) := by decide +kernel
theorem dX2_add_6 : decode cX2_add 6 = .ok (.if_icmp .lt 54, 3) := by decide +kernel
theorem dX2_add_9 : decode cX2_add 9 = .ok (.aload_n 0, 1) := by decide +kernel
theorem dX2_add_10 : decode cX2_add 10 = .ok (.getfield 9, 3) := by decide +kernel
theorem dX2_add_13 : decode cX2_add 13 = .ok (.iconst 1, 1) := by decide +kernel
theorem dX2_add_14 : decode cX2_add 14 = .ok (.aload_n 0, 1) := by decide +kernel
theorem dX2_add_15 : decode cX2_add 15 = .ok (.getfield 9, 3) := by decide +kernel
theorem dX2_add_18 : decode cX2_add 18 = .ok (.iconst 0, 1) := by decide +kernel
theorem dX2_add_19 : decode cX2_add 19 = .ok (.bipush 19, 2) := by decide +kernel
theorem dX2_add_21 : decode cX2_add 21 = .ok (.invokestatic 25, 3) := by decide +kernel
theorem dX2_add_24 : decode cX2_add 24 = .ok (.aload_n 0, 1) := by decide +kernel
theorem dX2_add_25 : decode cX2_add 25 = .ok (.getfield 15, 3) := by decide +kernel
theorem dX2_add_28 : decode cX2_add 28 = .ok (.iconst 1, 1) := by decide +kernel
theorem dX2_add_29 : decode cX2_add 29 = .ok (.aload_n 0, 1) := by decide +kernel
theorem dX2_add_30 : decode cX2_add 30 = .ok (.getfield 15, 3) := by decide +kernel
theorem dX2_add_33 : decode cX2_add 33 = .ok (.iconst 0, 1) := by decide +kernel
theorem dX2_add_34 : decode cX2_add 34 = .ok (.bipush 19, 2) := by decide +kernel
theorem dX2_add_36 : decode cX2_add 36 = .ok (.invokestatic 25, 3) := by decide +kernel
theorem dX2_add_39 : decode cX2_add 39 = .ok (.aload_n 0, 1) := by decide +kernel
theorem dX2_add_40 : decode cX2_add 40 = .ok (.getfield 18, 3) := by decide +kernel
theorem dX2_add_43 : decode cX2_add 43 = .ok (.iconst 1, 1) := by decide +kernel
theorem dX2_add_44 : decode cX2_add 44 = .ok (.aload_n 0, 1) := by decide +kernel
theorem dX2_add_45 : decode cX2_add 45 = .ok (.getfield 18, 3) := by decide +kernel
theorem dX2_add_48 : decode cX2_add 48 = .ok (.iconst 0, 1) := by decide +kernel
theorem dX2_add_49 : decode cX2_add 49 = .ok (.bipush 19, 2) := by decide +kernel
theorem dX2_add_51 : decode cX2_add 51 = .ok (.invokestatic 25, 3) := by decide +kernel
theorem dX2_add_54 : decode cX2_add 54 = .ok (.aload_n 0, 1) := by decide +kernel
theorem dX2_add_55 : decode cX2_add 55 = .ok (.bipush 19, 2) := by decide +kernel
theorem dX2_add_57 : decode cX2_add 57 = .ok (.putfield 21, 3) := by decide +kernel
theorem dX2_add_60 : decode cX2_add 60 = .ok (.aload_n 0, 1) := by decide +kernel
theorem dX2_add_61 : decode cX2_add 61 = .ok (.getfield 9, 3) := by decide +kernel
theorem dX2_add_64 : decode cX2_add 64 = .ok (.aload_n 0, 1) := by decide +kernel
theorem dX2_add_65 : decode cX2_add 65 = .ok (.getfield 21, 3) := by decide +kernel
theorem dX2_add_68 : decode cX2_add 68 = .ok (.iload_n 1, 1) := by decide +kernel
theorem dX2_add_69 : decode cX2_add 69 = .ok (.iastore, 1) := by decide +kernel
theorem dX2_add_70 : decode cX2_add 70 = .ok (.aload_n 0, 1) := by decide +kernel
theorem dX2_add_71 : decode cX2_add 71 = .ok (.getfield 15, 3) := by decide +kernel
theorem dX2_add_74 : decode cX2_add 74 = .ok (.aload_n 0, 1) := by decide +kernel
theorem dX2_add_75 : decode cX2_add 75 = .ok (.getfield 21, 3) := by decide +kernel
theorem dX2_add_78 : decode cX2_add 78 = .ok (.iload_n 2, 1) := by decide +kernel
theorem dX2_add_79 : decode cX2_add 79 = .ok (.iastore, 1) := by decide +kernel
theorem dX2_add_80 : decode cX2_add 80 = .ok (.aload_n 0, 1) := by decide +kernel
theorem dX2_add_81 : decode cX2_add 81 = .ok (.getfield 18, 3) := by decide +kernel
theorem dX2_add_84 : decode cX2_add 84 = .ok (.aload_n 0, 1) := by decide +kernel
theorem dX2_add_85 : decode cX2_add 85 = .ok (.getfield 21, 3) := by decide +kernel
theorem dX2_add_88 : decode cX2_add 88 = .ok (.iload_n 3, 1) := by decide +kernel
theorem dX2_add_89 : decode cX2_add 89 = .ok (.iastore, 1) := by decide +kernel
theorem dX2_add_90 : decode cX2_add 90 = .ok (.aload_n 0, 1) := by decide +kernel
theorem dX2_add_91 : decode cX2_add 91 = .ok (.dup, 1) := by decide +kernel
theorem dX2_add_92 : decode cX2_add 92 = .ok (.getfield 21, 3) := by decide +kernel
theorem dX2_add_95 : decode cX2_add 95 = .ok (.iconst 1, 1) := by decide +kernel
theorem dX2_add_96 : decode cX2_add 96 = .ok (.iadd, 1) := by decide +kernel
theorem dX2_add_97 : decode cX2_add 97 = .ok (.putfield 21, 3) := by decide +kernel
theorem dX2_add_100 : decode cX2_add 100 = .ok (.return_, 1) := by decide +kernel
theorem dX2_takeBack_0 : decode cX2_takeBack 0 = .ok (.aload_n 0, 1) := by decide +kernel
theorem dX2_takeBack_1 : decode cX2_takeBack 1 = .ok (.getfield 21, 3) := by decide +kernel
theorem dX2_takeBack_4 : decode cX2_takeBack 4 = .ok (.iconst 1, 1) := by decide +kernel
theorem dX2_takeBack_5 : decode cX2_takeBack 5 = .ok (.if_icmp .ge 4, 3) := by decide +kernel
theorem dX2_takeBack_8 : decode cX2_takeBack 8 = .ok (.return_, 1) := by decide +kernel
theorem dX2_takeBack_9 : decode cX2_takeBack 9 = .ok (.aload_n 0, 1) := by decide +kernel
theorem dX2_takeBack_10 : decode cX2_takeBack 10 = .ok (.dup, 1) := by decide +kernel
theorem dX2_takeBack_11 : decode cX2_takeBack 11 = .ok (.getfield 21, 3) := by decide +kernel
theorem dX2_takeBack_14 : decode cX2_takeBack 14 = .ok (.iconst 1, 1) := by decide +kernel
theorem dX2_takeBack_15 : decode cX2_takeBack 15 = .ok (.isub, 1) := by decide +kernel
theorem dX2_takeBack_16 : decode cX2_takeBack 16 = .ok (.putfield 21, 3) := by decide +kernel
theorem dX2_takeBack_19 : decode cX2_takeBack 19 = .ok (.aload_n 0, 1) := by decide +kernel
theorem dX2_takeBack_20 : decode cX2_takeBack 20 = .ok (.getfield 9, 3) := by decide +kernel
theorem dX2_takeBack_23 : decode cX2_takeBack 23 = .ok (.aload_n 0, 1) := by decide +kernel
theorem dX2_takeBack_24 : decode cX2_takeBack 24 = .ok (.getfield 21, 3) := by decide +kernel
theorem dX2_takeBack_27 : decode cX2_takeBack 27 = .ok (.iaload, 1) := by decide +kernel
theorem dX2_takeBack_28 : decode cX2_takeBack 28 = .ok (.ifCond .ne 10, 3) := by decide +kernel
theorem dX2_takeBack_31 : decode cX2_takeBack 31 = .ok (.aload_n 1, 1) := by decide +kernel
theorem dX2_takeBack_32 : decode cX2_takeBack 32 = .ok (.getfield 31, 3) := by decide +kernel
theorem dX2_takeBack_35 : decode cX2_takeBack 35 = .ok (.goto 27, 3) := by decide +kernel
theorem dX2_takeBack_38 : decode cX2_takeBack 38 = .ok (.aload_n 0, 1) := by decide +kernel
theorem dX2_takeBack_39 : decode cX2_takeBack 39 = .ok (.getfield 9, 3) := by decide +kernel
theorem dX2_takeBack_42 : decode cX2_takeBack 42 = .ok (.aload_n 0, 1) := by decide +kernel
theorem dX2_takeBack_43 : decode cX2_takeBack 43 = .ok (.getfield 21, 3) := by decide +kernel
theorem dX2_takeBack_46 : decode cX2_takeBack 46 = .ok (.iaload, 1) := by decide +kernel
theorem dX2_takeBack_47 : decode cX2_takeBack 47 = .ok (.iconst 1, 1) := by decide +kernel
theorem dX2_takeBack_48 : decode cX2_takeBack 48 = .ok (.if_icmp .ne 10, 3) := by decide +kernel
theorem dX2_takeBack_51 : decode cX2_takeBack 51 = .ok (.aload_n 1, 1) := by decide +kernel
theorem dX2_takeBack_52 : decode cX2_takeBack 52 = .ok (.getfield 36, 3) := by decide +kernel
theorem dX2_takeBack_55 : decode cX2_takeBack 55 = .ok (.goto 7, 3) := by decide +kernel
theorem dX2_takeBack_58 : decode cX2_takeBack 58 = .ok (.aload_n 1, 1) := by decide +kernel
theorem dX2_takeBack_59 : decode cX2_takeBack 59 = .ok (.getfield 39, 3) := by decide +kernel
theorem dX2_takeBack_62 : decode cX2_takeBack 62 = .ok (.astore_n 2, 1) := by decide +kernel
theorem dX2_takeBack_63 : decode cX2_takeBack 63 = .ok (.aload_n 0, 1) := by decide +kernel
theorem dX2_takeBack_64 : decode cX2_takeBack 64 = .ok (.getfield 15, 3) := by decide +kernel
theorem dX2_takeBack_67 : decode cX2_takeBack 67 = .ok (.aload_n 0, 1) := by decide +kernel
theorem dX2_takeBack_68 : decode cX2_takeBack 68 = .ok (.getfield 21, 3) := by decide +kernel
theorem dX2_takeBack_71 : decode cX2_takeBack 71 = .ok (.iaload, 1) := by decide +kernel
theorem dX2_takeBack_72 : decode cX2_takeBack 72 = .ok (.ifCond .lt 37, 3) := by decide +kernel
theorem dX2_takeBack_75 : decode cX2_takeBack 75 = .ok (.aload_n 0, 1) := by decide +kernel
theorem dX2_takeBack_76 : decode cX2_takeBack 76 = .ok (.getfield 15, 3) := by decide +kernel
theorem dX2_takeBack_79 : decode cX2_takeBack 79 = .ok (.aload_n 0, 1) := by decide +kernel
theorem dX2_takeBack_80 : decode cX2_takeBack 80 = .ok (.getfield 21, 3) := by decide +kernel
theorem dX2_takeBack_83 : decode cX2_takeBack 83 = .ok (.iaload, 1) := by decide +kernel
theorem dX2_takeBack_84 : decode cX2_takeBack 84 = .ok (.aload_n 2, 1) := by decide +kernel
theorem dX2_takeBack_85 : decode cX2_takeBack 85 = .ok (.arraylength, 1) := by decide +kernel
theorem dX2_takeBack_86 : decode cX2_takeBack 86 = .ok (.if_icmp .ge 23, 3) := by decide +kernel
theorem dX2_takeBack_89 : decode cX2_takeBack 89 = .ok (.aload_n 2, 1) := by decide +kernel
theorem dX2_takeBack_90 : decode cX2_takeBack 90 = .ok (.aload_n 0, 1) := by decide +kernel
theorem dX2_takeBack_91 : decode cX2_takeBack 91 = .ok (.getfield 15, 3) := by decide +kernel
theorem dX2_takeBack_94 : decode cX2_takeBack 94 = .ok (.aload_n 0, 1) := by decide +kernel
theorem dX2_takeBack_95 : decode cX2_takeBack 95 = .ok (.getfield 21, 3) := by decide +kernel
theorem dX2_takeBack_98 : decode cX2_takeBack 98 = .ok (.iaload, 1) := by decide +kernel
theorem dX2_takeBack_99 : decode cX2_takeBack 99 = .ok (.aload_n 0, 1) := by decide +kernel
theorem dX2_takeBack_100 : decode cX2_takeBack 100 = .ok (.getfield 18, 3) := by decide +kernel
theorem dX2_takeBack_103 : decode cX2_takeBack 103 = .ok (.aload_n 0, 1) := by decide +kernel
theorem dX2_takeBack_104 : decode cX2_takeBack 104 = .ok (.getfield 21, 3) := by decide +kernel
theorem dX2_takeBack_107 : decode cX2_takeBack 107 = .ok (.iaload, 1) := by decide +kernel
theorem dX2_takeBack_108 : decode cX2_takeBack 108 = .ok (.iastore, 1) := by decide +kernel
theorem dX2_takeBack_109 : decode cX2_takeBack 109 = .ok (.return_, 1) := by decide +kernel
theorem dX3_init_0 : decode cX3_init 0 = .ok (.aload_n 0, 1) := by decide +kernel
theorem dX3_init_1 : decode cX3_init 1 = .ok (.invokespecial 3, 3) := by decide +kernel
theorem dX3_init_4 : decode cX3_init 4 = .ok (.aload_n 0, 1) := by decide +kernel
theorem dX3_init_5 : decode cX3_init 5 = .ok (.bipush 64, 2) := by decide +kernel
theorem dX3_init_7 : decode cX3_init 7 = .ok (.newarray .int, 2) := by decide +kernel
theorem dX3_init_9 : decode cX3_init 9 = .ok (.putfield 9, 3) := by decide +kernel
theorem dX3_init_12 : decode cX3_init 12 = .ok (.aload_n 0, 1) := by decide +kernel
theorem dX3_init_13 : decode cX3_init 13 = .ok (.bipush 64, 2) := by decide +kernel
theorem dX3_init_15 : decode cX3_init 15 = .ok (.newarray .int, 2) := by decide +kernel
theorem dX3_init_17 : decode cX3_init 17 = .ok (.putfield 15, 3) := by decide +kernel
theorem dX3_init_20 : decode cX3_init 20 = .ok (.aload_n 0, 1) := by decide +kernel
theorem dX3_init_21 : decode cX3_init 21 = .ok (.iconst 0, 1) := by decide +kernel
theorem dX3_init_22 : decode cX3_init 22 = .ok (.putfield 18, 3) := by decide +kernel
theorem dX3_init_25 : decode cX3_init 25 = .ok (.aload_n 0, 1) := by decide +kernel
theorem dX3_init_26 : decode cX3_init 26 = .ok (.iconst 0, 1) := by decide +kernel
theorem dX3_init_27 : decode cX3_init 27 = .ok (.putfield 22, 3) := by decide +kernel
theorem dX3_init_30 : decode cX3_init 30 = .ok (.aload_n 0, 1) := by decide +kernel
theorem dX3_init_31 : decode cX3_init 31 = .ok (.iconst 3, 1) := by decide +kernel
theorem dX3_init_32 : decode cX3_init 32 = .ok (.newarray .int, 2) := by decide +kernel
theorem dX3_init_34 : decode cX3_init 34 = .ok (.putfield 25, 3) := by decide +kernel
theorem dX3_init_37 : decode cX3_init 37 = .ok (.aload_n 0, 1) := by decide +kernel
theorem dX3_init_38 : decode cX3_init 38 = .ok (.iconst 3, 1) := by decide +kernel
theorem dX3_init_39 : decode cX3_init 39 = .ok (.newarray .int, 2) := by decide +kernel
theorem dX3_init_41 : decode cX3_init 41 = .ok (.putfield 28, 3) := by decide +kernel
theorem dX3_init_44 : decode cX3_init 44 = .ok (.aload_n 0, 1) := by decide +kernel
theorem dX3_init_45 : decode cX3_init 45 = .ok (.bipush 7, 2) := by decide +kernel
theorem dX3_init_47 : decode cX3_init 47 = .ok (.newarray .int, 2) := by decide +kernel
theorem dX3_init_49 : decode cX3_init 49 = .ok (.putfield 31, 3) := by decide +kernel
theorem dX3_init_52 : decode cX3_init 52 = .ok (.aload_n 0, 1) := by decide +kernel
theorem dX3_init_53 : decode cX3_init 53 = .ok (.bipush 64, 2) := by decide +kernel
theorem dX3_init_55 : decode cX3_init 55 = .ok (.newarray .long, 2) := by decide +kernel
theorem dX3_init_57 : decode cX3_init 57 = .ok (.putfield 34, 3) := by decide +kernel
theorem dX3_init_60 : decode cX3_init 60 = .ok (.return_, 1) := by decide +kernel
theorem dX3_clear_0 : decode cX3_clear 0 = .ok (.aload_n 0, 1) := by decide +kernel
theorem dX3_clear_1 : decode cX3_clear 1 = .ok (.iconst 0, 1) := by decide +kernel
theorem dX3_clear_2 : decode cX3_clear 2 = .ok (.putfield 18, 3) := by decide +kernel
theorem dX3_clear_5 : decode cX3_clear 5 = .ok (.aload_n 0, 1) := by decide +kernel
theorem dX3_clear_6 : decode cX3_clear 6 = .ok (.iconst 0, 1) := by decide +kernel
theorem dX3_clear_7 : decode cX3_clear 7 = .ok (.putfield 22, 3) := by decide +kernel
theorem dX3_clear_10 : decode cX3_clear 10 = .ok (.iconst 0, 1) := by decide +kernel
theorem dX3_clear_11 : decode cX3_clear 11 = .ok (.istore_n 1, 1) := by decide +kernel
theorem dX3_clear_12 : decode cX3_clear 12 = .ok (.iload_n 1, 1) := by decide +kernel
theorem dX3_clear_13 : decode cX3_clear 13 = .ok (.iconst 3, 1) := by decide +kernel
theorem dX3_clear_14 : decode cX3_clear 14 = .ok (.if_icmp .ge 23, 3) := by decide +kernel
theorem dX3_clear_17 : decode cX3_clear 17 = .ok (.aload_n 0, 1) := by decide +kernel
theorem dX3_clear_18 : decode cX3_clear 18 = .ok (.getfield 25, 3) := by decide +kernel
theorem dX3_clear_21 : decode cX3_clear 21 = .ok (.iload_n 1, 1) := by decide +kernel
theorem dX3_clear_22 : decode cX3_clear 22 = .ok (.iconst 0, 1) := by decide +kernel
theorem dX3_clear_23 : decode cX3_clear 23 = .ok (.iastore, 1) := by decide +kernel
theorem dX3_clear_24 : decode cX3_clear 24 = .ok (.aload_n 0, 1) := by decide +kernel
theorem dX3_clear_25 : decode cX3_clear 25 = .ok (.getfield 28, 3) := by decide +kernel
theorem dX3_clear_28 : decode cX3_clear 28 = .ok (.iload_n 1, 1) := by decide +kernel
theorem dX3_clear_29 : decode cX3_clear 29 = .ok (.iconst 0, 1) := by decide +kernel
theorem dX3_clear_30 : decode cX3_clear 30 = .ok (.iastore, 1) := by decide +kernel
theorem dX3_clear_31 : decode cX3_clear 31 = .ok (.iinc 1 1, 3) := by decide +kernel
theorem dX3_clear_34 : decode cX3_clear 34 = .ok (.goto (-22), 3) := by decide +kernel
theorem dX3_clear_37 : decode cX3_clear 37 = .ok (.return_, 1) := by decide +kernel
theorem dX3_isTold_0 : decode cX3_isTold 0 = .ok (.iload_n 1, 1) := by decide +kernel
theorem dX3_isTold_1 : decode cX3_isTold 1 = .ok (.ifCond .lt 27, 3) := by decide +kernel
theorem dX3_isTold_4 : decode cX3_isTold 4 = .ok (.iload_n 1, 1) := by decide +kernel
theorem dX3_isTold_5 : decode cX3_isTold 5 = .ok (.iconst 3, 1) := by decide +kernel
theorem dX3_isTold_6 : decode cX3_isTold 6 = .ok (.if_icmp .ge 22, 3) := by decide +kernel
theorem dX3_isTold_9 : decode cX3_isTold 9 = .ok (.aload_n 0, 1) := by decide +kernel
theorem dX3_isTold_10 : decode cX3_isTold 10 = .ok (.getfield 28, 3) := by decide +kernel
theorem dX3_isTold_13 : decode cX3_isTold 13 = .ok (.iload_n 1, 1) := by decide +kernel
theorem dX3_isTold_14 : decode cX3_isTold 14 = .ok (.iaload, 1) := by decide +kernel
theorem dX3_isTold_15 : decode cX3_isTold 15 = .ok (.aload_n 0, 1) := by decide +kernel
theorem dX3_isTold_16 : decode cX3_isTold 16 = .ok (.getfield 25, 3) := by decide +kernel
theorem dX3_isTold_19 : decode cX3_isTold 19 = .ok (.iload_n 1, 1) := by decide +kernel
theorem dX3_isTold_20 : decode cX3_isTold 20 = .ok (.iaload, 1) := by decide +kernel
theorem dX3_isTold_21 : decode cX3_isTold 21 = .ok (.if_icmp .le 7, 3) := by decide +kernel
theorem dX3_isTold_24 : decode cX3_isTold 24 = .ok (.iconst 1, 1) := by decide +kernel
theorem dX3_isTold_25 : decode cX3_isTold 25 = .ok (.goto 4, 3) := by decide +kernel
theorem dX3_isTold_28 : decode cX3_isTold 28 = .ok (.iconst 0, 1) := by decide +kernel
theorem dX3_isTold_29 : decode cX3_isTold 29 = .ok (.ireturn, 1) := by decide +kernel
theorem dX3_tell_0 : decode cX3_tell 0 = .ok (.iload_n 1, 1) := by decide +kernel
theorem dX3_tell_1 : decode cX3_tell 1 = .ok (.ifCond .lt 25, 3) := by decide +kernel
theorem dX3_tell_4 : decode cX3_tell 4 = .ok (.iload_n 1, 1) := by decide +kernel
theorem dX3_tell_5 : decode cX3_tell 5 = .ok (.iconst 3, 1) := by decide +kernel
theorem dX3_tell_6 : decode cX3_tell 6 = .ok (.if_icmp .ge 20, 3) := by decide +kernel
theorem dX3_tell_9 : decode cX3_tell 9 = .ok (.aload_n 0, 1) := by decide +kernel
theorem dX3_tell_10 : decode cX3_tell 10 = .ok (.getfield 25, 3) := by decide +kernel
theorem dX3_tell_13 : decode cX3_tell 13 = .ok (.iload_n 1, 1) := by decide +kernel
theorem dX3_tell_14 : decode cX3_tell 14 = .ok (.iload_n 2, 1) := by decide +kernel
theorem dX3_tell_15 : decode cX3_tell 15 = .ok (.iastore, 1) := by decide +kernel
theorem dX3_tell_16 : decode cX3_tell 16 = .ok (.aload_n 0, 1) := by decide +kernel
theorem dX3_tell_17 : decode cX3_tell 17 = .ok (.getfield 28, 3) := by decide +kernel
theorem dX3_tell_20 : decode cX3_tell 20 = .ok (.iload_n 1, 1) := by decide +kernel
theorem dX3_tell_21 : decode cX3_tell 21 = .ok (.aload_n 0, 1) := by decide +kernel
theorem dX3_tell_22 : decode cX3_tell 22 = .ok (.getfield 18, 3) := by decide +kernel
theorem dX3_tell_25 : decode cX3_tell 25 = .ok (.iastore, 1) := by decide +kernel
theorem dX3_tell_26 : decode cX3_tell 26 = .ok (.return_, 1) := by decide +kernel
theorem dX3_put_0 : decode cX3_put 0 = .ok (.aload_n 0, 1) := by decide +kernel
theorem dX3_put_1 : decode cX3_put 1 = .ok (.getfield 18, 3) := by decide +kernel
theorem dX3_put_4 : decode cX3_put 4 = .ok (.bipush 64, 2) := by decide +kernel
theorem dX3_put_6 : decode cX3_put 6 = .ok (.if_icmp .ge 33, 3) := by decide +kernel
theorem dX3_put_9 : decode cX3_put 9 = .ok (.aload_n 0, 1) := by decide +kernel
theorem dX3_put_10 : decode cX3_put 10 = .ok (.getfield 9, 3) := by decide +kernel
theorem dX3_put_13 : decode cX3_put 13 = .ok (.aload_n 0, 1) := by decide +kernel
theorem dX3_put_14 : decode cX3_put 14 = .ok (.getfield 18, 3) := by decide +kernel
theorem dX3_put_17 : decode cX3_put 17 = .ok (.iload_n 1, 1) := by decide +kernel
theorem dX3_put_18 : decode cX3_put 18 = .ok (.iastore, 1) := by decide +kernel
theorem dX3_put_19 : decode cX3_put 19 = .ok (.aload_n 0, 1) := by decide +kernel
theorem dX3_put_20 : decode cX3_put 20 = .ok (.getfield 15, 3) := by decide +kernel
theorem dX3_put_23 : decode cX3_put 23 = .ok (.aload_n 0, 1) := by decide +kernel
theorem dX3_put_24 : decode cX3_put 24 = .ok (.getfield 18, 3) := by decide +kernel
theorem dX3_put_27 : decode cX3_put 27 = .ok (.iload_n 2, 1) := by decide +kernel
theorem dX3_put_28 : decode cX3_put 28 = .ok (.iastore, 1) := by decide +kernel
theorem dX3_put_29 : decode cX3_put 29 = .ok (.aload_n 0, 1) := by decide +kernel
theorem dX3_put_30 : decode cX3_put 30 = .ok (.dup, 1) := by decide +kernel
theorem dX3_put_31 : decode cX3_put 31 = .ok (.getfield 18, 3) := by decide +kernel
theorem dX3_put_34 : decode cX3_put 34 = .ok (.iconst 1, 1) := by decide +kernel
theorem dX3_put_35 : decode cX3_put 35 = .ok (.iadd, 1) := by decide +kernel
theorem dX3_put_36 : decode cX3_put 36 = .ok (.putfield 18, 3) := by decide +kernel
theorem dX3_put_39 : decode cX3_put 39 = .ok (.return_, 1) := by decide +kernel
theorem dX3_work_0 : decode cX3_work 0 = .ok (.aload_n 0, 1) := by decide +kernel
theorem dX3_work_1 : decode cX3_work 1 = .ok (.iload_n 1, 1) := by decide +kernel
theorem dX3_work_2 : decode cX3_work 2 = .ok (.invokevirtual 38, 3) := by decide +kernel
theorem dX3_work_5 : decode cX3_work 5 = .ok (.ifCond .ne 7, 3) := by decide +kernel
theorem dX3_work_8 : decode cX3_work 8 = .ok (.ldc2_w 42, 3) := by decide +kernel
theorem dX3_work_11 : decode cX3_work 11 = .ok (.lreturn, 1) := by decide +kernel
theorem dX3_work_12 : decode cX3_work 12 = .ok (.iconst 0, 1) := by decide +kernel
theorem dX3_work_13 : decode cX3_work 13 = .ok (.istore_n 2, 1) := by decide +kernel
theorem dX3_work_14 : decode cX3_work 14 = .ok (.aload_n 0, 1) := by decide +kernel
theorem dX3_work_15 : decode cX3_work 15 = .ok (.getfield 25, 3) := by decide +kernel
theorem dX3_work_18 : decode cX3_work 18 = .ok (.iload_n 1, 1) := by decide +kernel
theorem dX3_work_19 : decode cX3_work 19 = .ok (.iaload, 1) := by decide +kernel
theorem dX3_work_20 : decode cX3_work 20 = .ok (.iconst 0, 1) := by decide +kernel
theorem dX3_work_21 : decode cX3_work 21 = .ok (.invokestatic 44, 3) := by decide +kernel
theorem dX3_work_24 : decode cX3_work 24 = .ok (.istore_n 3, 1) := by decide +kernel
theorem dX3_work_25 : decode cX3_work 25 = .ok (.iload_n 3, 1) := by decide +kernel
theorem dX3_work_26 : decode cX3_work 26 = .ok (.aload_n 0, 1) := by decide +kernel
theorem dX3_work_27 : decode cX3_work 27 = .ok (.getfield 28, 3) := by decide +kernel
theorem dX3_work_30 : decode cX3_work 30 = .ok (.iload_n 1, 1) := by decide +kernel
theorem dX3_work_31 : decode cX3_work 31 = .ok (.iaload, 1) := by decide +kernel
theorem dX3_work_32 : decode cX3_work 32 = .ok (.if_icmp .ge 174, 3) := by decide +kernel
theorem dX3_work_35 : decode cX3_work 35 = .ok (.iload_n 3, 1) := by decide +kernel
theorem dX3_work_36 : decode cX3_work 36 = .ok (.bipush 64, 2) := by decide +kernel
theorem dX3_work_38 : decode cX3_work 38 = .ok (.if_icmp .ge 168, 3) := by decide +kernel
theorem dX3_work_41 : decode cX3_work 41 = .ok (.aload_n 0, 1) := by decide +kernel
theorem dX3_work_42 : decode cX3_work 42 = .ok (.getfield 9, 3) := by decide +kernel
theorem dX3_work_45 : decode cX3_work 45 = .ok (.iload_n 3, 1) := by decide +kernel
theorem dX3_work_46 : decode cX3_work 46 = .ok (.iaload, 1) := by decide +kernel
theorem dX3_work_47 : decode cX3_work 47 = .ok (.istore 4, 2) := by decide +kernel
theorem dX3_work_49 : decode cX3_work 49 = .ok (.iload 4, 2) := by decide +kernel
theorem dX3_work_51 : decode cX3_work 51 = .ok (.bipush 46, 2) := by decide +kernel
theorem dX3_work_53 : decode cX3_work 53 = .ok (.if_icmp .ne 7, 3) := by decide +kernel
theorem dX3_work_56 : decode cX3_work 56 = .ok (.iconst 1, 1) := by decide +kernel
theorem dX3_work_57 : decode cX3_work 57 = .ok (.goto 16, 3) := by decide +kernel
theorem dX3_work_60 : decode cX3_work 60 = .ok (.iload 4, 2) := by decide +kernel
theorem dX3_work_62 : decode cX3_work 62 = .ok (.invokestatic 50, 3) := by decide +kernel
theorem dX3_work_65 : decode cX3_work 65 = .ok (.ifCond .eq 7, 3) := by decide +kernel
theorem dX3_work_68 : decode cX3_work 68 = .ok (.iconst 0, 1) := by decide +kernel
theorem dX3_work_69 : decode cX3_work 69 = .ok (.goto 4, 3) := by decide +kernel
theorem dX3_work_72 : decode cX3_work 72 = .ok (.iconst 2, 1) := by decide +kernel
theorem dX3_work_73 : decode cX3_work 73 = .ok (.istore 5, 2) := by decide +kernel
theorem dX3_work_75 : decode cX3_work 75 = .ok (.iload_n 2, 1) := by decide +kernel
theorem dX3_work_76 : decode cX3_work 76 = .ok (.iload 5, 2) := by decide +kernel
theorem dX3_work_78 : decode cX3_work 78 = .ok (.isub, 1) := by decide +kernel
theorem dX3_work_79 : decode cX3_work 79 = .ok (.istore_n 2, 1) := by decide +kernel
theorem dX3_work_80 : decode cX3_work 80 = .ok (.iload_n 2, 1) := by decide +kernel
theorem dX3_work_81 : decode cX3_work 81 = .ok (.ifCond .lt 11, 3) := by decide +kernel
theorem dX3_work_84 : decode cX3_work 84 = .ok (.iload_n 2, 1) := by decide +kernel
theorem dX3_work_85 : decode cX3_work 85 = .ok (.iconst 1, 1) := by decide +kernel
theorem dX3_work_86 : decode cX3_work 86 = .ok (.iadd, 1) := by decide +kernel
theorem dX3_work_87 : decode cX3_work 87 = .ok (.bipush 64, 2) := by decide +kernel
theorem dX3_work_89 : decode cX3_work 89 = .ok (.if_icmp .lt 7, 3) := by decide +kernel
theorem dX3_work_92 : decode cX3_work 92 = .ok (.ldc2_w 42, 3) := by decide +kernel
theorem dX3_work_95 : decode cX3_work 95 = .ok (.lreturn, 1) := by decide +kernel
theorem dX3_work_96 : decode cX3_work 96 = .ok (.iload 5, 2) := by decide +kernel
theorem dX3_work_98 : decode cX3_work 98 = .ok (.iconst 2, 1) := by decide +kernel
theorem dX3_work_99 : decode cX3_work 99 = .ok (.if_icmp .ne 27, 3) := by decide +kernel
theorem dX3_work_102 : decode cX3_work 102 = .ok (.iload 4, 2) := by decide +kernel
theorem dX3_work_104 : decode cX3_work 104 = .ok (.aload_n 0, 1) := by decide +kernel
theorem dX3_work_105 : decode cX3_work 105 = .ok (.getfield 34, 3) := by decide +kernel
theorem dX3_work_108 : decode cX3_work 108 = .ok (.iload_n 2, 1) := by decide +kernel
theorem dX3_work_109 : decode cX3_work 109 = .ok (.laload, 1) := by decide +kernel
theorem dX3_work_110 : decode cX3_work 110 = .ok (.aload_n 0, 1) := by decide +kernel
theorem dX3_work_111 : decode cX3_work 111 = .ok (.getfield 34, 3) := by decide +kernel
theorem dX3_work_114 : decode cX3_work 114 = .ok (.iload_n 2, 1) := by decide +kernel
theorem dX3_work_115 : decode cX3_work 115 = .ok (.iconst 1, 1) := by decide +kernel
theorem dX3_work_116 : decode cX3_work 116 = .ok (.iadd, 1) := by decide +kernel
theorem dX3_work_117 : decode cX3_work 117 = .ok (.laload, 1) := by decide +kernel
theorem dX3_work_118 : decode cX3_work 118 = .ok (.invokestatic 53, 3) := by decide +kernel
theorem dX3_work_121 : decode cX3_work 121 = .ok (.lstore 6, 2) := by decide +kernel
theorem dX3_work_123 : decode cX3_work 123 = .ok (.goto 44, 3) := by decide +kernel
theorem dX3_work_126 : decode cX3_work 126 = .ok (.iload 5, 2) := by decide +kernel
theorem dX3_work_128 : decode cX3_work 128 = .ok (.iconst 1, 1) := by decide +kernel
theorem dX3_work_129 : decode cX3_work 129 = .ok (.if_icmp .ne 24, 3) := by decide +kernel
theorem dX3_work_132 : decode cX3_work 132 = .ok (.aload_n 0, 1) := by decide +kernel
theorem dX3_work_133 : decode cX3_work 133 = .ok (.getfield 34, 3) := by decide +kernel
theorem dX3_work_136 : decode cX3_work 136 = .ok (.iload_n 2, 1) := by decide +kernel
theorem dX3_work_137 : decode cX3_work 137 = .ok (.laload, 1) := by decide +kernel
theorem dX3_work_138 : decode cX3_work 138 = .ok (.lconst 0, 1) := by decide +kernel
theorem dX3_work_139 : decode cX3_work 139 = .ok (.lcmp, 1) := by decide +kernel
theorem dX3_work_140 : decode cX3_work 140 = .ok (.ifCond .ne 7, 3) := by decide +kernel
theorem dX3_work_143 : decode cX3_work 143 = .ok (.lconst 1, 1) := by decide +kernel
theorem dX3_work_144 : decode cX3_work 144 = .ok (.goto 4, 3) := by decide +kernel
theorem dX3_work_147 : decode cX3_work 147 = .ok (.lconst 0, 1) := by decide +kernel
theorem dX3_work_148 : decode cX3_work 148 = .ok (.lstore 6, 2) := by decide +kernel
theorem dX3_work_150 : decode cX3_work 150 = .ok (.goto 17, 3) := by decide +kernel
theorem dX3_work_153 : decode cX3_work 153 = .ok (.aload_n 0, 1) := by decide +kernel
theorem dX3_work_154 : decode cX3_work 154 = .ok (.iload 4, 2) := by decide +kernel
theorem dX3_work_156 : decode cX3_work 156 = .ok (.aload_n 0, 1) := by decide +kernel
theorem dX3_work_157 : decode cX3_work 157 = .ok (.getfield 15, 3) := by decide +kernel
theorem dX3_work_160 : decode cX3_work 160 = .ok (.iload_n 3, 1) := by decide +kernel
theorem dX3_work_161 : decode cX3_work 161 = .ok (.iaload, 1) := by decide +kernel
theorem dX3_work_162 : decode cX3_work 162 = .ok (.invokevirtual 57, 3) := by decide +kernel
theorem dX3_work_165 : decode cX3_work 165 = .ok (.lstore 6, 2) := by decide +kernel
theorem dX3_work_167 : decode cX3_work 167 = .ok (.lload 6, 2) := by decide +kernel
theorem dX3_work_169 : decode cX3_work 169 = .ok (.ldc2_w 61, 3) := by decide +kernel
theorem dX3_work_172 : decode cX3_work 172 = .ok (.lcmp, 1) := by decide +kernel
theorem dX3_work_173 : decode cX3_work 173 = .ok (.ifCond .gt 12, 3) := by decide +kernel
theorem dX3_work_176 : decode cX3_work 176 = .ok (.lload 6, 2) := by decide +kernel
theorem dX3_work_178 : decode cX3_work 178 = .ok (.ldc2_w 63, 3) := by decide +kernel
theorem dX3_work_181 : decode cX3_work 181 = .ok (.lcmp, 1) := by decide +kernel
theorem dX3_work_182 : decode cX3_work 182 = .ok (.ifCond .ge 7, 3) := by decide +kernel
theorem dX3_work_185 : decode cX3_work 185 = .ok (.ldc2_w 42, 3) := by decide +kernel
theorem dX3_work_188 : decode cX3_work 188 = .ok (.lreturn, 1) := by decide +kernel
theorem dX3_work_189 : decode cX3_work 189 = .ok (.aload_n 0, 1) := by decide +kernel
theorem dX3_work_190 : decode cX3_work 190 = .ok (.getfield 34, 3) := by decide +kernel
theorem dX3_work_193 : decode cX3_work 193 = .ok (.iload_n 2, 1) := by decide +kernel
theorem dX3_work_194 : decode cX3_work 194 = .ok (.lload 6, 2) := by decide +kernel
theorem dX3_work_196 : decode cX3_work 196 = .ok (.lastore, 1) := by decide +kernel
theorem dX3_work_197 : decode cX3_work 197 = .ok (.iinc 2 1, 3) := by decide +kernel
theorem dX3_work_200 : decode cX3_work 200 = .ok (.iinc 3 1, 3) := by decide +kernel
theorem dX3_work_203 : decode cX3_work 203 = .ok (.goto (-178), 3) := by decide +kernel
theorem dX3_work_206 : decode cX3_work 206 = .ok (.iload_n 2, 1) := by decide +kernel
theorem dX3_work_207 : decode cX3_work 207 = .ok (.iconst 1, 1) := by decide +kernel
theorem dX3_work_208 : decode cX3_work 208 = .ok (.if_icmp .ne 12, 3) := by decide +kernel
theorem dX3_work_211 : decode cX3_work 211 = .ok (.aload_n 0, 1) := by decide +kernel
theorem dX3_work_212 : decode cX3_work 212 = .ok (.getfield 34, 3) := by decide +kernel
theorem dX3_work_215 : decode cX3_work 215 = .ok (.iconst 0, 1) := by decide +kernel
theorem dX3_work_216 : decode cX3_work 216 = .ok (.laload, 1) := by decide +kernel
theorem dX3_work_217 : decode cX3_work 217 = .ok (.goto 6, 3) := by decide +kernel
theorem dX3_work_220 : decode cX3_work 220 = .ok (.ldc2_w 42, 3) := by decide +kernel
theorem dX3_work_223 : decode cX3_work 223 = .ok (.lreturn, 1) := by decide +kernel
theorem dX3_isLeaf_0 : decode cX3_isLeaf 0 = .ok (.iload_n 0, 1) := by decide +kernel
theorem dX3_isLeaf_1 : decode cX3_isLeaf 1 = .ok (.iconst 2, 1) := by decide +kernel
theorem dX3_isLeaf_2 : decode cX3_isLeaf 2 = .ok (.if_icmp .eq 9, 3) := by decide +kernel
theorem dX3_isLeaf_5 : decode cX3_isLeaf 5 = .ok (.iload_n 0, 1) := by decide +kernel
theorem dX3_isLeaf_6 : decode cX3_isLeaf 6 = .ok (.bipush 47, 2) := by decide +kernel
theorem dX3_isLeaf_8 : decode cX3_isLeaf 8 = .ok (.if_icmp .lt 7, 3) := by decide +kernel
theorem dX3_isLeaf_11 : decode cX3_isLeaf 11 = .ok (.iconst 1, 1) := by decide +kernel
theorem dX3_isLeaf_12 : decode cX3_isLeaf 12 = .ok (.goto 4, 3) := by decide +kernel
theorem dX3_isLeaf_15 : decode cX3_isLeaf 15 = .ok (.iconst 0, 1) := by decide +kernel
theorem dX3_isLeaf_16 : decode cX3_isLeaf 16 = .ok (.ireturn, 1) := by decide +kernel
theorem dX3_leaf_0 : decode cX3_leaf 0 = .ok (.iload_n 1, 1) := by decide +kernel
theorem dX3_leaf_1 : decode cX3_leaf 1 = .ok (.bipush 47, 2) := by decide +kernel
theorem dX3_leaf_3 : decode cX3_leaf 3 = .ok (.isub, 1) := by decide +kernel
theorem dX3_leaf_4 : decode cX3_leaf 4 = .ok (.istore_n 3, 1) := by decide +kernel
theorem dX3_leaf_5 : decode cX3_leaf 5 = .ok (.iload_n 3, 1) := by decide +kernel
theorem dX3_leaf_6 : decode cX3_leaf 6 = .ok (.ifCond .lt 19, 3) := by decide +kernel
theorem dX3_leaf_9 : decode cX3_leaf 9 = .ok (.iload_n 3, 1) := by decide +kernel
theorem dX3_leaf_10 : decode cX3_leaf 10 = .ok (.bipush 7, 2) := by decide +kernel
theorem dX3_leaf_12 : decode cX3_leaf 12 = .ok (.if_icmp .ge 13, 3) := by decide +kernel
theorem dX3_leaf_15 : decode cX3_leaf 15 = .ok (.aload_n 0, 1) := by decide +kernel
theorem dX3_leaf_16 : decode cX3_leaf 16 = .ok (.getfield 31, 3) := by decide +kernel
theorem dX3_leaf_19 : decode cX3_leaf 19 = .ok (.iload_n 3, 1) := by decide +kernel
theorem dX3_leaf_20 : decode cX3_leaf 20 = .ok (.iaload, 1) := by decide +kernel
theorem dX3_leaf_21 : decode cX3_leaf 21 = .ok (.i2l, 1) := by decide +kernel
theorem dX3_leaf_22 : decode cX3_leaf 22 = .ok (.goto 5, 3) := by decide +kernel
theorem dX3_leaf_25 : decode cX3_leaf 25 = .ok (.iload_n 2, 1) := by decide +kernel
theorem dX3_leaf_26 : decode cX3_leaf 26 = .ok (.i2l, 1) := by decide +kernel
theorem dX3_leaf_27 : decode cX3_leaf 27 = .ok (.lreturn, 1) := by decide +kernel
theorem dX3_join_0 : decode cX3_join 0 = .ok (.iload_n 0, 1) := by decide +kernel
theorem dX3_join_1 : decode cX3_join 1 = .ok (.tableswitch 360 7 45 #[171, 175, 179, 236, 252, 264, 276, 288, 300, 312, 360, 360, 360, 360, 360, 360, 360, 360, 360, 360, 360, 360, 360, 360, 360, 360, 360, 360, 360, 360, 360, 360, 360, 360, 360, 360, 360, 342, 324], 171) := by decide +kernel
theorem dX3_join_172 : decode cX3_join 172 = .ok (.lload_n 1, 1) := by decide +kernel
theorem dX3_join_173 : decode cX3_join 173 = .ok (.lload_n 3, 1) := by decide +kernel
theorem dX3_join_174 : decode cX3_join 174 = .ok (.ladd, 1) := by decide +kernel
theorem dX3_join_175 : decode cX3_join 175 = .ok (.lreturn, 1) := by decide +kernel
theorem dX3_join_176 : decode cX3_join 176 = .ok (.lload_n 1, 1) := by decide +kernel
theorem dX3_join_177 : decode cX3_join 177 = .ok (.lload_n 3, 1) := by decide +kernel
theorem dX3_join_178 : decode cX3_join 178 = .ok (.lsub, 1) := by decide +kernel
theorem dX3_join_179 : decode cX3_join 179 = .ok (.lreturn, 1) := by decide +kernel
theorem dX3_join_180 : decode cX3_join 180 = .ok (.lload_n 1, 1) := by decide +kernel
theorem dX3_join_181 : decode cX3_join 181 = .ok (.lconst 0, 1) := by decide +kernel
theorem dX3_join_182 : decode cX3_join 182 = .ok (.lcmp, 1) := by decide +kernel
theorem dX3_join_183 : decode cX3_join 183 = .ok (.ifCond .ge 8, 3) := by decide +kernel
theorem dX3_join_186 : decode cX3_join 186 = .ok (.lload_n 1, 1) := by decide +kernel
theorem dX3_join_187 : decode cX3_join 187 = .ok (.lneg, 1) := by decide +kernel
theorem dX3_join_188 : decode cX3_join 188 = .ok (.goto 4, 3) := by decide +kernel
theorem dX3_join_191 : decode cX3_join 191 = .ok (.lload_n 1, 1) := by decide +kernel
theorem dX3_join_192 : decode cX3_join 192 = .ok (.lstore 5, 2) := by decide +kernel
theorem dX3_join_194 : decode cX3_join 194 = .ok (.lload_n 3, 1) := by decide +kernel
theorem dX3_join_195 : decode cX3_join 195 = .ok (.lconst 0, 1) := by decide +kernel
theorem dX3_join_196 : decode cX3_join 196 = .ok (.lcmp, 1) := by decide +kernel
theorem dX3_join_197 : decode cX3_join 197 = .ok (.ifCond .ge 8, 3) := by decide +kernel
theorem dX3_join_200 : decode cX3_join 200 = .ok (.lload_n 3, 1) := by decide +kernel
theorem dX3_join_201 : decode cX3_join 201 = .ok (.lneg, 1) := by decide +kernel
theorem dX3_join_202 : decode cX3_join 202 = .ok (.goto 4, 3) := by decide +kernel
theorem dX3_join_205 : decode cX3_join 205 = .ok (.lload_n 3, 1) := by decide +kernel
theorem dX3_join_206 : decode cX3_join 206 = .ok (.lstore 7, 2) := by decide +kernel
theorem dX3_join_208 : decode cX3_join 208 = .ok (.lload 5, 2) := by decide +kernel
theorem dX3_join_210 : decode cX3_join 210 = .ok (.lconst 0, 1) := by decide +kernel
theorem dX3_join_211 : decode cX3_join 211 = .ok (.lcmp, 1) := by decide +kernel
theorem dX3_join_212 : decode cX3_join 212 = .ok (.ifCond .eq 21, 3) := by decide +kernel
theorem dX3_join_215 : decode cX3_join 215 = .ok (.lload 7, 2) := by decide +kernel
theorem dX3_join_217 : decode cX3_join 217 = .ok (.ldc2_w 61, 3) := by decide +kernel
theorem dX3_join_220 : decode cX3_join 220 = .ok (.lload 5, 2) := by decide +kernel
theorem dX3_join_222 : decode cX3_join 222 = .ok (.ldiv, 1) := by decide +kernel
theorem dX3_join_223 : decode cX3_join 223 = .ok (.lcmp, 1) := by decide +kernel
theorem dX3_join_224 : decode cX3_join 224 = .ok (.ifCond .le 9, 3) := by decide +kernel
theorem dX3_join_227 : decode cX3_join 227 = .ok (.ldc2_w 42, 3) := by decide +kernel
theorem dX3_join_230 : decode cX3_join 230 = .ok (.goto 6, 3) := by decide +kernel
theorem dX3_join_233 : decode cX3_join 233 = .ok (.lload_n 1, 1) := by decide +kernel
theorem dX3_join_234 : decode cX3_join 234 = .ok (.lload_n 3, 1) := by decide +kernel
theorem dX3_join_235 : decode cX3_join 235 = .ok (.lmul, 1) := by decide +kernel
theorem dX3_join_236 : decode cX3_join 236 = .ok (.lreturn, 1) := by decide +kernel
theorem dX3_join_237 : decode cX3_join 237 = .ok (.lload_n 3, 1) := by decide +kernel
theorem dX3_join_238 : decode cX3_join 238 = .ok (.lconst 0, 1) := by decide +kernel
theorem dX3_join_239 : decode cX3_join 239 = .ok (.lcmp, 1) := by decide +kernel
theorem dX3_join_240 : decode cX3_join 240 = .ok (.ifCond .ne 9, 3) := by decide +kernel
theorem dX3_join_243 : decode cX3_join 243 = .ok (.ldc2_w 42, 3) := by decide +kernel
theorem dX3_join_246 : decode cX3_join 246 = .ok (.goto 6, 3) := by decide +kernel
theorem dX3_join_249 : decode cX3_join 249 = .ok (.lload_n 1, 1) := by decide +kernel
theorem dX3_join_250 : decode cX3_join 250 = .ok (.lload_n 3, 1) := by decide +kernel
theorem dX3_join_251 : decode cX3_join 251 = .ok (.ldiv, 1) := by decide +kernel
theorem dX3_join_252 : decode cX3_join 252 = .ok (.lreturn, 1) := by decide +kernel
theorem dX3_join_253 : decode cX3_join 253 = .ok (.lload_n 1, 1) := by decide +kernel
theorem dX3_join_254 : decode cX3_join 254 = .ok (.lload_n 3, 1) := by decide +kernel
theorem dX3_join_255 : decode cX3_join 255 = .ok (.lcmp, 1) := by decide +kernel
theorem dX3_join_256 : decode cX3_join 256 = .ok (.ifCond .ge 7, 3) := by decide +kernel
theorem dX3_join_259 : decode cX3_join 259 = .ok (.lconst 1, 1) := by decide +kernel
theorem dX3_join_260 : decode cX3_join 260 = .ok (.goto 4, 3) := by decide +kernel
theorem dX3_join_263 : decode cX3_join 263 = .ok (.lconst 0, 1) := by decide +kernel
theorem dX3_join_264 : decode cX3_join 264 = .ok (.lreturn, 1) := by decide +kernel
theorem dX3_join_265 : decode cX3_join 265 = .ok (.lload_n 1, 1) := by decide +kernel
theorem dX3_join_266 : decode cX3_join 266 = .ok (.lload_n 3, 1) := by decide +kernel
theorem dX3_join_267 : decode cX3_join 267 = .ok (.lcmp, 1) := by decide +kernel
theorem dX3_join_268 : decode cX3_join 268 = .ok (.ifCond .gt 7, 3) := by decide +kernel
theorem dX3_join_271 : decode cX3_join 271 = .ok (.lconst 1, 1) := by decide +kernel
theorem dX3_join_272 : decode cX3_join 272 = .ok (.goto 4, 3) := by decide +kernel
theorem dX3_join_275 : decode cX3_join 275 = .ok (.lconst 0, 1) := by decide +kernel
theorem dX3_join_276 : decode cX3_join 276 = .ok (.lreturn, 1) := by decide +kernel
theorem dX3_join_277 : decode cX3_join 277 = .ok (.lload_n 1, 1) := by decide +kernel
theorem dX3_join_278 : decode cX3_join 278 = .ok (.lload_n 3, 1) := by decide +kernel
theorem dX3_join_279 : decode cX3_join 279 = .ok (.lcmp, 1) := by decide +kernel
theorem dX3_join_280 : decode cX3_join 280 = .ok (.ifCond .ne 7, 3) := by decide +kernel
theorem dX3_join_283 : decode cX3_join 283 = .ok (.lconst 1, 1) := by decide +kernel
theorem dX3_join_284 : decode cX3_join 284 = .ok (.goto 4, 3) := by decide +kernel
theorem dX3_join_287 : decode cX3_join 287 = .ok (.lconst 0, 1) := by decide +kernel
theorem dX3_join_288 : decode cX3_join 288 = .ok (.lreturn, 1) := by decide +kernel
theorem dX3_join_289 : decode cX3_join 289 = .ok (.lload_n 1, 1) := by decide +kernel
theorem dX3_join_290 : decode cX3_join 290 = .ok (.lload_n 3, 1) := by decide +kernel
theorem dX3_join_291 : decode cX3_join 291 = .ok (.lcmp, 1) := by decide +kernel
theorem dX3_join_292 : decode cX3_join 292 = .ok (.ifCond .eq 7, 3) := by decide +kernel
theorem dX3_join_295 : decode cX3_join 295 = .ok (.lconst 1, 1) := by decide +kernel
theorem dX3_join_296 : decode cX3_join 296 = .ok (.goto 4, 3) := by decide +kernel
theorem dX3_join_299 : decode cX3_join 299 = .ok (.lconst 0, 1) := by decide +kernel
theorem dX3_join_300 : decode cX3_join 300 = .ok (.lreturn, 1) := by decide +kernel
theorem dX3_join_301 : decode cX3_join 301 = .ok (.lload_n 1, 1) := by decide +kernel
theorem dX3_join_302 : decode cX3_join 302 = .ok (.lload_n 3, 1) := by decide +kernel
theorem dX3_join_303 : decode cX3_join 303 = .ok (.lcmp, 1) := by decide +kernel
theorem dX3_join_304 : decode cX3_join 304 = .ok (.ifCond .lt 7, 3) := by decide +kernel
theorem dX3_join_307 : decode cX3_join 307 = .ok (.lconst 1, 1) := by decide +kernel
theorem dX3_join_308 : decode cX3_join 308 = .ok (.goto 4, 3) := by decide +kernel
theorem dX3_join_311 : decode cX3_join 311 = .ok (.lconst 0, 1) := by decide +kernel
theorem dX3_join_312 : decode cX3_join 312 = .ok (.lreturn, 1) := by decide +kernel
theorem dX3_join_313 : decode cX3_join 313 = .ok (.lload_n 1, 1) := by decide +kernel
theorem dX3_join_314 : decode cX3_join 314 = .ok (.lload_n 3, 1) := by decide +kernel
theorem dX3_join_315 : decode cX3_join 315 = .ok (.lcmp, 1) := by decide +kernel
theorem dX3_join_316 : decode cX3_join 316 = .ok (.ifCond .le 7, 3) := by decide +kernel
theorem dX3_join_319 : decode cX3_join 319 = .ok (.lconst 1, 1) := by decide +kernel
theorem dX3_join_320 : decode cX3_join 320 = .ok (.goto 4, 3) := by decide +kernel
theorem dX3_join_323 : decode cX3_join 323 = .ok (.lconst 0, 1) := by decide +kernel
theorem dX3_join_324 : decode cX3_join 324 = .ok (.lreturn, 1) := by decide +kernel
theorem dX3_join_325 : decode cX3_join 325 = .ok (.lload_n 1, 1) := by decide +kernel
theorem dX3_join_326 : decode cX3_join 326 = .ok (.lconst 0, 1) := by decide +kernel
theorem dX3_join_327 : decode cX3_join 327 = .ok (.lcmp, 1) := by decide +kernel
theorem dX3_join_328 : decode cX3_join 328 = .ok (.ifCond .eq 13, 3) := by decide +kernel
theorem dX3_join_331 : decode cX3_join 331 = .ok (.lload_n 3, 1) := by decide +kernel
theorem dX3_join_332 : decode cX3_join 332 = .ok (.lconst 0, 1) := by decide +kernel
theorem dX3_join_333 : decode cX3_join 333 = .ok (.lcmp, 1) := by decide +kernel
theorem dX3_join_334 : decode cX3_join 334 = .ok (.ifCond .eq 7, 3) := by decide +kernel
theorem dX3_join_337 : decode cX3_join 337 = .ok (.lconst 1, 1) := by decide +kernel
theorem dX3_join_338 : decode cX3_join 338 = .ok (.goto 4, 3) := by decide +kernel
theorem dX3_join_341 : decode cX3_join 341 = .ok (.lconst 0, 1) := by decide +kernel
theorem dX3_join_342 : decode cX3_join 342 = .ok (.lreturn, 1) := by decide +kernel
theorem dX3_join_343 : decode cX3_join 343 = .ok (.lload_n 1, 1) := by decide +kernel
theorem dX3_join_344 : decode cX3_join 344 = .ok (.lconst 0, 1) := by decide +kernel
theorem dX3_join_345 : decode cX3_join 345 = .ok (.lcmp, 1) := by decide +kernel
theorem dX3_join_346 : decode cX3_join 346 = .ok (.ifCond .ne 9, 3) := by decide +kernel
theorem dX3_join_349 : decode cX3_join 349 = .ok (.lload_n 3, 1) := by decide +kernel
theorem dX3_join_350 : decode cX3_join 350 = .ok (.lconst 0, 1) := by decide +kernel
theorem dX3_join_351 : decode cX3_join 351 = .ok (.lcmp, 1) := by decide +kernel
theorem dX3_join_352 : decode cX3_join 352 = .ok (.ifCond .eq 7, 3) := by decide +kernel
theorem dX3_join_355 : decode cX3_join 355 = .ok (.lconst 1, 1) := by decide +kernel
theorem dX3_join_356 : decode cX3_join 356 = .ok (.goto 4, 3) := by decide +kernel
theorem dX3_join_359 : decode cX3_join 359 = .ok (.lconst 0, 1) := by decide +kernel
theorem dX3_join_360 : decode cX3_join 360 = .ok (.lreturn, 1) := by decide +kernel
theorem dX3_join_361 : decode cX3_join 361 = .ok (.ldc2_w 42, 3) := by decide +kernel
theorem dX3_join_364 : decode cX3_join 364 = .ok (.lreturn, 1) := by decide +kernel
theorem dX4_init_0 : decode cX4_init 0 = .ok (.aload_n 0, 1) := by decide +kernel
theorem dX4_init_1 : decode cX4_init 1 = .ok (.invokespecial 3, 3) := by decide +kernel
theorem dX4_init_4 : decode cX4_init 4 = .ok (.aload_n 0, 1) := by decide +kernel
theorem dX4_init_5 : decode cX4_init 5 = .ok (.iconst 3, 1) := by decide +kernel
theorem dX4_init_6 : decode cX4_init 6 = .ok (.newarray .int, 2) := by decide +kernel
theorem dX4_init_8 : decode cX4_init 8 = .ok (.putfield 9, 3) := by decide +kernel
theorem dX4_init_11 : decode cX4_init 11 = .ok (.aload_n 0, 1) := by decide +kernel
theorem dX4_init_12 : decode cX4_init 12 = .ok (.iconst 3, 1) := by decide +kernel
theorem dX4_init_13 : decode cX4_init 13 = .ok (.newarray .int, 2) := by decide +kernel
theorem dX4_init_15 : decode cX4_init 15 = .ok (.putfield 15, 3) := by decide +kernel
theorem dX4_init_18 : decode cX4_init 18 = .ok (.aload_n 0, 1) := by decide +kernel
theorem dX4_init_19 : decode cX4_init 19 = .ok (.iconst 0, 1) := by decide +kernel
theorem dX4_init_20 : decode cX4_init 20 = .ok (.putfield 18, 3) := by decide +kernel
theorem dX4_init_23 : decode cX4_init 23 = .ok (.aload_n 0, 1) := by decide +kernel
theorem dX4_init_24 : decode cX4_init 24 = .ok (.iconst 0, 1) := by decide +kernel
theorem dX4_init_25 : decode cX4_init 25 = .ok (.putfield 22, 3) := by decide +kernel
theorem dX4_init_28 : decode cX4_init 28 = .ok (.return_, 1) := by decide +kernel
theorem dX4_priceOf_0 : decode cX4_priceOf 0 = .ok (.aload_n 0, 1) := by decide +kernel
theorem dX4_priceOf_1 : decode cX4_priceOf 1 = .ok (.getfield 22, 3) := by decide +kernel
theorem dX4_priceOf_4 : decode cX4_priceOf 4 = .ok (.ifCond .ne 13, 3) := by decide +kernel
theorem dX4_priceOf_7 : decode cX4_priceOf 7 = .ok (.aload_n 0, 1) := by decide +kernel
theorem dX4_priceOf_8 : decode cX4_priceOf 8 = .ok (.aload_n 2, 1) := by decide +kernel
theorem dX4_priceOf_9 : decode cX4_priceOf 9 = .ok (.invokevirtual 25, 3) := by decide +kernel
theorem dX4_priceOf_12 : decode cX4_priceOf 12 = .ok (.aload_n 0, 1) := by decide +kernel
theorem dX4_priceOf_13 : decode cX4_priceOf 13 = .ok (.iconst 1, 1) := by decide +kernel
theorem dX4_priceOf_14 : decode cX4_priceOf 14 = .ok (.putfield 22, 3) := by decide +kernel
theorem dX4_priceOf_17 : decode cX4_priceOf 17 = .ok (.aload_n 0, 1) := by decide +kernel
theorem dX4_priceOf_18 : decode cX4_priceOf 18 = .ok (.getfield 18, 3) := by decide +kernel
theorem dX4_priceOf_21 : decode cX4_priceOf 21 = .ok (.ifCond .eq 21, 3) := by decide +kernel
theorem dX4_priceOf_24 : decode cX4_priceOf 24 = .ok (.iload_n 1, 1) := by decide +kernel
theorem dX4_priceOf_25 : decode cX4_priceOf 25 = .ok (.ifCond .lt 17, 3) := by decide +kernel
theorem dX4_priceOf_28 : decode cX4_priceOf 28 = .ok (.iload_n 1, 1) := by decide +kernel
theorem dX4_priceOf_29 : decode cX4_priceOf 29 = .ok (.iconst 3, 1) := by decide +kernel
theorem dX4_priceOf_30 : decode cX4_priceOf 30 = .ok (.if_icmp .ge 12, 3) := by decide +kernel
theorem dX4_priceOf_33 : decode cX4_priceOf 33 = .ok (.aload_n 0, 1) := by decide +kernel
theorem dX4_priceOf_34 : decode cX4_priceOf 34 = .ok (.getfield 9, 3) := by decide +kernel
theorem dX4_priceOf_37 : decode cX4_priceOf 37 = .ok (.iload_n 1, 1) := by decide +kernel
theorem dX4_priceOf_38 : decode cX4_priceOf 38 = .ok (.iaload, 1) := by decide +kernel
theorem dX4_priceOf_39 : decode cX4_priceOf 39 = .ok (.goto 5, 3) := by decide +kernel
theorem dX4_priceOf_42 : decode cX4_priceOf 42 = .ok (.bipush (-2), 2) := by decide +kernel
theorem dX4_priceOf_44 : decode cX4_priceOf 44 = .ok (.ireturn, 1) := by decide +kernel
theorem dX4_find_0 : decode cX4_find 0 = .ok (.aload_n 0, 1) := by decide +kernel
theorem dX4_find_1 : decode cX4_find 1 = .ok (.iconst 0, 1) := by decide +kernel
theorem dX4_find_2 : decode cX4_find 2 = .ok (.putfield 18, 3) := by decide +kernel
theorem dX4_find_5 : decode cX4_find 5 = .ok (.iconst 0, 1) := by decide +kernel
theorem dX4_find_6 : decode cX4_find 6 = .ok (.istore_n 2, 1) := by decide +kernel
theorem dX4_find_7 : decode cX4_find 7 = .ok (.iload_n 2, 1) := by decide +kernel
theorem dX4_find_8 : decode cX4_find 8 = .ok (.iconst 3, 1) := by decide +kernel
theorem dX4_find_9 : decode cX4_find 9 = .ok (.if_icmp .ge 16, 3) := by decide +kernel
theorem dX4_find_12 : decode cX4_find 12 = .ok (.aload_n 0, 1) := by decide +kernel
theorem dX4_find_13 : decode cX4_find 13 = .ok (.getfield 9, 3) := by decide +kernel
theorem dX4_find_16 : decode cX4_find 16 = .ok (.iload_n 2, 1) := by decide +kernel
theorem dX4_find_17 : decode cX4_find 17 = .ok (.iconst 0, 1) := by decide +kernel
theorem dX4_find_18 : decode cX4_find 18 = .ok (.iastore, 1) := by decide +kernel
theorem dX4_find_19 : decode cX4_find 19 = .ok (.iinc 2 1, 3) := by decide +kernel
theorem dX4_find_22 : decode cX4_find 22 = .ok (.goto (-15), 3) := by decide +kernel
theorem dX4_find_25 : decode cX4_find 25 = .ok (.iconst 0, 1) := by decide +kernel
theorem dX4_find_26 : decode cX4_find 26 = .ok (.istore_n 2, 1) := by decide +kernel
theorem dX4_find_27 : decode cX4_find 27 = .ok (.iload_n 2, 1) := by decide +kernel
theorem dX4_find_28 : decode cX4_find 28 = .ok (.bipush 27, 2) := by decide +kernel
theorem dX4_find_30 : decode cX4_find 30 = .ok (.if_icmp .gt 52, 3) := by decide +kernel
theorem dX4_find_33 : decode cX4_find 33 = .ok (.aload_n 0, 1) := by decide +kernel
theorem dX4_find_34 : decode cX4_find 34 = .ok (.aload_n 1, 1) := by decide +kernel
theorem dX4_find_35 : decode cX4_find 35 = .ok (.invokevirtual 29, 3) := by decide +kernel
theorem dX4_find_38 : decode cX4_find 38 = .ok (.istore_n 3, 1) := by decide +kernel
theorem dX4_find_39 : decode cX4_find 39 = .ok (.iload_n 3, 1) := by decide +kernel
theorem dX4_find_40 : decode cX4_find 40 = .ok (.ifCond .lt 8, 3) := by decide +kernel
theorem dX4_find_43 : decode cX4_find 43 = .ok (.iload_n 3, 1) := by decide +kernel
theorem dX4_find_44 : decode cX4_find 44 = .ok (.iconst 3, 1) := by decide +kernel
theorem dX4_find_45 : decode cX4_find 45 = .ok (.if_icmp .lt 9, 3) := by decide +kernel
theorem dX4_find_48 : decode cX4_find 48 = .ok (.aload_n 0, 1) := by decide +kernel
theorem dX4_find_49 : decode cX4_find 49 = .ok (.iconst 1, 1) := by decide +kernel
theorem dX4_find_50 : decode cX4_find 50 = .ok (.putfield 18, 3) := by decide +kernel
theorem dX4_find_53 : decode cX4_find 53 = .ok (.return_, 1) := by decide +kernel
theorem dX4_find_54 : decode cX4_find 54 = .ok (.aload_n 0, 1) := by decide +kernel
theorem dX4_find_55 : decode cX4_find 55 = .ok (.getfield 9, 3) := by decide +kernel
theorem dX4_find_58 : decode cX4_find 58 = .ok (.iload_n 3, 1) := by decide +kernel
theorem dX4_find_59 : decode cX4_find 59 = .ok (.iaload, 1) := by decide +kernel
theorem dX4_find_60 : decode cX4_find 60 = .ok (.bipush 9, 2) := by decide +kernel
theorem dX4_find_62 : decode cX4_find 62 = .ok (.if_icmp .lt 4, 3) := by decide +kernel
theorem dX4_find_65 : decode cX4_find 65 = .ok (.return_, 1) := by decide +kernel
theorem dX4_find_66 : decode cX4_find 66 = .ok (.aload_n 0, 1) := by decide +kernel
theorem dX4_find_67 : decode cX4_find 67 = .ok (.getfield 9, 3) := by decide +kernel
theorem dX4_find_70 : decode cX4_find 70 = .ok (.iload_n 3, 1) := by decide +kernel
theorem dX4_find_71 : decode cX4_find 71 = .ok (.dup2, 1) := by decide +kernel
theorem dX4_find_72 : decode cX4_find 72 = .ok (.iaload, 1) := by decide +kernel
theorem dX4_find_73 : decode cX4_find 73 = .ok (.iconst 1, 1) := by decide +kernel
theorem dX4_find_74 : decode cX4_find 74 = .ok (.iadd, 1) := by decide +kernel
theorem dX4_find_75 : decode cX4_find 75 = .ok (.iastore, 1) := by decide +kernel
theorem dX4_find_76 : decode cX4_find 76 = .ok (.iinc 2 1, 3) := by decide +kernel
theorem dX4_find_79 : decode cX4_find 79 = .ok (.goto (-52), 3) := by decide +kernel
theorem dX4_find_82 : decode cX4_find 82 = .ok (.return_, 1) := by decide +kernel
theorem dX4_tooFull_0 : decode cX4_tooFull 0 = .ok (.iconst 0, 1) := by decide +kernel
theorem dX4_tooFull_1 : decode cX4_tooFull 1 = .ok (.istore_n 2, 1) := by decide +kernel
theorem dX4_tooFull_2 : decode cX4_tooFull 2 = .ok (.iload_n 2, 1) := by decide +kernel
theorem dX4_tooFull_3 : decode cX4_tooFull 3 = .ok (.iconst 3, 1) := by decide +kernel
theorem dX4_tooFull_4 : decode cX4_tooFull 4 = .ok (.if_icmp .ge 16, 3) := by decide +kernel
theorem dX4_tooFull_7 : decode cX4_tooFull 7 = .ok (.aload_n 0, 1) := by decide +kernel
theorem dX4_tooFull_8 : decode cX4_tooFull 8 = .ok (.getfield 15, 3) := by decide +kernel
theorem dX4_tooFull_11 : decode cX4_tooFull 11 = .ok (.iload_n 2, 1) := by decide +kernel
theorem dX4_tooFull_12 : decode cX4_tooFull 12 = .ok (.iconst 0, 1) := by decide +kernel
theorem dX4_tooFull_13 : decode cX4_tooFull 13 = .ok (.iastore, 1) := by decide +kernel
theorem dX4_tooFull_14 : decode cX4_tooFull 14 = .ok (.iinc 2 1, 3) := by decide +kernel
theorem dX4_tooFull_17 : decode cX4_tooFull 17 = .ok (.goto (-15), 3) := by decide +kernel
theorem dX4_tooFull_20 : decode cX4_tooFull 20 = .ok (.iconst 0, 1) := by decide +kernel
theorem dX4_tooFull_21 : decode cX4_tooFull 21 = .ok (.istore_n 2, 1) := by decide +kernel
theorem dX4_tooFull_22 : decode cX4_tooFull 22 = .ok (.iload_n 2, 1) := by decide +kernel
theorem dX4_tooFull_23 : decode cX4_tooFull 23 = .ok (.aload_n 1, 1) := by decide +kernel
theorem dX4_tooFull_24 : decode cX4_tooFull 24 = .ok (.getfield 33, 3) := by decide +kernel
theorem dX4_tooFull_27 : decode cX4_tooFull 27 = .ok (.if_icmp .ge 43, 3) := by decide +kernel
theorem dX4_tooFull_30 : decode cX4_tooFull 30 = .ok (.aload_n 1, 1) := by decide +kernel
theorem dX4_tooFull_31 : decode cX4_tooFull 31 = .ok (.iload_n 2, 1) := by decide +kernel
theorem dX4_tooFull_32 : decode cX4_tooFull 32 = .ok (.aload_n 0, 1) := by decide +kernel
theorem dX4_tooFull_33 : decode cX4_tooFull 33 = .ok (.getfield 9, 3) := by decide +kernel
theorem dX4_tooFull_36 : decode cX4_tooFull 36 = .ok (.invokevirtual 39, 3) := by decide +kernel
theorem dX4_tooFull_39 : decode cX4_tooFull 39 = .ok (.istore_n 3, 1) := by decide +kernel
theorem dX4_tooFull_40 : decode cX4_tooFull 40 = .ok (.iload_n 3, 1) := by decide +kernel
theorem dX4_tooFull_41 : decode cX4_tooFull 41 = .ok (.ifCond .lt 23, 3) := by decide +kernel
theorem dX4_tooFull_44 : decode cX4_tooFull 44 = .ok (.iload_n 3, 1) := by decide +kernel
theorem dX4_tooFull_45 : decode cX4_tooFull 45 = .ok (.iconst 3, 1) := by decide +kernel
theorem dX4_tooFull_46 : decode cX4_tooFull 46 = .ok (.if_icmp .ge 18, 3) := by decide +kernel
theorem dX4_tooFull_49 : decode cX4_tooFull 49 = .ok (.aload_n 0, 1) := by decide +kernel
theorem dX4_tooFull_50 : decode cX4_tooFull 50 = .ok (.getfield 15, 3) := by decide +kernel
theorem dX4_tooFull_53 : decode cX4_tooFull 53 = .ok (.iload_n 3, 1) := by decide +kernel
theorem dX4_tooFull_54 : decode cX4_tooFull 54 = .ok (.dup2, 1) := by decide +kernel
theorem dX4_tooFull_55 : decode cX4_tooFull 55 = .ok (.iaload, 1) := by decide +kernel
theorem dX4_tooFull_56 : decode cX4_tooFull 56 = .ok (.aload_n 1, 1) := by decide +kernel
theorem dX4_tooFull_57 : decode cX4_tooFull 57 = .ok (.iload_n 2, 1) := by decide +kernel
theorem dX4_tooFull_58 : decode cX4_tooFull 58 = .ok (.iconst 0, 1) := by decide +kernel
theorem dX4_tooFull_59 : decode cX4_tooFull 59 = .ok (.invokevirtual 43, 3) := by decide +kernel
theorem dX4_tooFull_62 : decode cX4_tooFull 62 = .ok (.iadd, 1) := by decide +kernel
theorem dX4_tooFull_63 : decode cX4_tooFull 63 = .ok (.iastore, 1) := by decide +kernel
theorem dX4_tooFull_64 : decode cX4_tooFull 64 = .ok (.iinc 2 1, 3) := by decide +kernel
theorem dX4_tooFull_67 : decode cX4_tooFull 67 = .ok (.goto (-45), 3) := by decide +kernel
theorem dX4_tooFull_70 : decode cX4_tooFull 70 = .ok (.iconst 0, 1) := by decide +kernel
theorem dX4_tooFull_71 : decode cX4_tooFull 71 = .ok (.istore_n 2, 1) := by decide +kernel
theorem dX4_tooFull_72 : decode cX4_tooFull 72 = .ok (.iload_n 2, 1) := by decide +kernel
theorem dX4_tooFull_73 : decode cX4_tooFull 73 = .ok (.iconst 3, 1) := by decide +kernel
theorem dX4_tooFull_74 : decode cX4_tooFull 74 = .ok (.if_icmp .ge 26, 3) := by decide +kernel
theorem dX4_tooFull_77 : decode cX4_tooFull 77 = .ok (.aload_n 0, 1) := by decide +kernel
theorem dX4_tooFull_78 : decode cX4_tooFull 78 = .ok (.getfield 15, 3) := by decide +kernel
theorem dX4_tooFull_81 : decode cX4_tooFull 81 = .ok (.iload_n 2, 1) := by decide +kernel
theorem dX4_tooFull_82 : decode cX4_tooFull 82 = .ok (.iaload, 1) := by decide +kernel
theorem dX4_tooFull_83 : decode cX4_tooFull 83 = .ok (.aload_n 1, 1) := by decide +kernel
theorem dX4_tooFull_84 : decode cX4_tooFull 84 = .ok (.getfield 47, 3) := by decide +kernel
theorem dX4_tooFull_87 : decode cX4_tooFull 87 = .ok (.iconst 0, 1) := by decide +kernel
theorem dX4_tooFull_88 : decode cX4_tooFull 88 = .ok (.iaload, 1) := by decide +kernel
theorem dX4_tooFull_89 : decode cX4_tooFull 89 = .ok (.if_icmp .le 5, 3) := by decide +kernel
theorem dX4_tooFull_92 : decode cX4_tooFull 92 = .ok (.iload_n 2, 1) := by decide +kernel
theorem dX4_tooFull_93 : decode cX4_tooFull 93 = .ok (.ireturn, 1) := by decide +kernel
theorem dX4_tooFull_94 : decode cX4_tooFull 94 = .ok (.iinc 2 1, 3) := by decide +kernel
theorem dX4_tooFull_97 : decode cX4_tooFull 97 = .ok (.goto (-25), 3) := by decide +kernel
theorem dX4_tooFull_100 : decode cX4_tooFull 100 = .ok (.iconst (-1), 1) := by decide +kernel
theorem dX4_tooFull_101 : decode cX4_tooFull 101 = .ok (.ireturn, 1) := by decide +kernel
theorem dX5_init_0 : decode cX5_init 0 = .ok (.aload_n 0, 1) := by decide +kernel
theorem dX5_init_1 : decode cX5_init 1 = .ok (.invokespecial 3, 3) := by decide +kernel
theorem dX5_init_4 : decode cX5_init 4 = .ok (.aload_n 0, 1) := by decide +kernel
theorem dX5_init_5 : decode cX5_init 5 = .ok (.bipush 24, 2) := by decide +kernel
theorem dX5_init_7 : decode cX5_init 7 = .ok (.newarray .int, 2) := by decide +kernel
theorem dX5_init_9 : decode cX5_init 9 = .ok (.putfield 9, 3) := by decide +kernel
theorem dX5_init_12 : decode cX5_init 12 = .ok (.aload_n 0, 1) := by decide +kernel
theorem dX5_init_13 : decode cX5_init 13 = .ok (.bipush 24, 2) := by decide +kernel
theorem dX5_init_15 : decode cX5_init 15 = .ok (.newarray .int, 2) := by decide +kernel
theorem dX5_init_17 : decode cX5_init 17 = .ok (.putfield 15, 3) := by decide +kernel
theorem dX5_init_20 : decode cX5_init 20 = .ok (.aload_n 0, 1) := by decide +kernel
theorem dX5_init_21 : decode cX5_init 21 = .ok (.bipush 24, 2) := by decide +kernel
theorem dX5_init_23 : decode cX5_init 23 = .ok (.newarray .int, 2) := by decide +kernel
theorem dX5_init_25 : decode cX5_init 25 = .ok (.putfield 18, 3) := by decide +kernel
theorem dX5_init_28 : decode cX5_init 28 = .ok (.aload_n 0, 1) := by decide +kernel
theorem dX5_init_29 : decode cX5_init 29 = .ok (.bipush 24, 2) := by decide +kernel
theorem dX5_init_31 : decode cX5_init 31 = .ok (.newarray .boolean, 2) := by decide +kernel
theorem dX5_init_33 : decode cX5_init 33 = .ok (.putfield 21, 3) := by decide +kernel
theorem dX5_init_36 : decode cX5_init 36 = .ok (.aload_n 0, 1) := by decide +kernel
theorem dX5_init_37 : decode cX5_init 37 = .ok (.iconst 0, 1) := by decide +kernel
theorem dX5_init_38 : decode cX5_init 38 = .ok (.putfield 25, 3) := by decide +kernel
theorem dX5_init_41 : decode cX5_init 41 = .ok (.aload_n 0, 1) := by decide +kernel
theorem dX5_init_42 : decode cX5_init 42 = .ok (.iconst (-1), 1) := by decide +kernel
theorem dX5_init_43 : decode cX5_init 43 = .ok (.putfield 29, 3) := by decide +kernel
theorem dX5_init_46 : decode cX5_init 46 = .ok (.return_, 1) := by decide +kernel
theorem dX5_clear_0 : decode cX5_clear 0 = .ok (.aload_n 0, 1) := by decide +kernel
theorem dX5_clear_1 : decode cX5_clear 1 = .ok (.iconst 0, 1) := by decide +kernel
theorem dX5_clear_2 : decode cX5_clear 2 = .ok (.putfield 25, 3) := by decide +kernel
theorem dX5_clear_5 : decode cX5_clear 5 = .ok (.aload_n 0, 1) := by decide +kernel
theorem dX5_clear_6 : decode cX5_clear 6 = .ok (.iconst (-1), 1) := by decide +kernel
theorem dX5_clear_7 : decode cX5_clear 7 = .ok (.putfield 29, 3) := by decide +kernel
theorem dX5_clear_10 : decode cX5_clear 10 = .ok (.return_, 1) := by decide +kernel
theorem dX5_has_0 : decode cX5_has 0 = .ok (.iload_n 1, 1) := by decide +kernel
theorem dX5_has_1 : decode cX5_has 1 = .ok (.ifCond .lt 15, 3) := by decide +kernel
theorem dX5_has_4 : decode cX5_has 4 = .ok (.iload_n 1, 1) := by decide +kernel
theorem dX5_has_5 : decode cX5_has 5 = .ok (.aload_n 0, 1) := by decide +kernel
theorem dX5_has_6 : decode cX5_has 6 = .ok (.getfield 25, 3) := by decide +kernel
theorem dX5_has_9 : decode cX5_has 9 = .ok (.if_icmp .ge 7, 3) := by decide +kernel
theorem dX5_has_12 : decode cX5_has 12 = .ok (.iconst 1, 1) := by decide +kernel
theorem dX5_has_13 : decode cX5_has 13 = .ok (.goto 4, 3) := by decide +kernel
theorem dX5_has_16 : decode cX5_has 16 = .ok (.iconst 0, 1) := by decide +kernel
theorem dX5_has_17 : decode cX5_has 17 = .ok (.ireturn, 1) := by decide +kernel
theorem dX5_add_0 : decode cX5_add 0 = .ok (.aload_n 0, 1) := by decide +kernel
theorem dX5_add_1 : decode cX5_add 1 = .ok (.getfield 25, 3) := by decide +kernel
theorem dX5_add_4 : decode cX5_add 4 = .ok (.bipush 24, 2) := by decide +kernel
theorem dX5_add_6 : decode cX5_add 6 = .ok (.if_icmp .lt 5, 3) := by decide +kernel
theorem dX5_add_9 : decode cX5_add 9 = .ok (.iconst (-1), 1) := by decide +kernel
theorem dX5_add_10 : decode cX5_add 10 = .ok (.ireturn, 1) := by decide +kernel
theorem dX5_add_11 : decode cX5_add 11 = .ok (.aload_n 0, 1) := by decide +kernel
theorem dX5_add_12 : decode cX5_add 12 = .ok (.getfield 9, 3) := by decide +kernel
theorem dX5_add_15 : decode cX5_add 15 = .ok (.aload_n 0, 1) := by decide +kernel
theorem dX5_add_16 : decode cX5_add 16 = .ok (.getfield 25, 3) := by decide +kernel
theorem dX5_add_19 : decode cX5_add 19 = .ok (.iload_n 1, 1) := by decide +kernel
theorem dX5_add_20 : decode cX5_add 20 = .ok (.iastore, 1) := by decide +kernel
theorem dX5_add_21 : decode cX5_add 21 = .ok (.aload_n 0, 1) := by decide +kernel
theorem dX5_add_22 : decode cX5_add 22 = .ok (.getfield 15, 3) := by decide +kernel
theorem dX5_add_25 : decode cX5_add 25 = .ok (.aload_n 0, 1) := by decide +kernel
theorem dX5_add_26 : decode cX5_add 26 = .ok (.getfield 25, 3) := by decide +kernel
theorem dX5_add_29 : decode cX5_add 29 = .ok (.iload_n 2, 1) := by decide +kernel
theorem dX5_add_30 : decode cX5_add 30 = .ok (.iastore, 1) := by decide +kernel
theorem dX5_add_31 : decode cX5_add 31 = .ok (.aload_n 0, 1) := by decide +kernel
theorem dX5_add_32 : decode cX5_add 32 = .ok (.getfield 18, 3) := by decide +kernel
theorem dX5_add_35 : decode cX5_add 35 = .ok (.aload_n 0, 1) := by decide +kernel
theorem dX5_add_36 : decode cX5_add 36 = .ok (.getfield 25, 3) := by decide +kernel
theorem dX5_add_39 : decode cX5_add 39 = .ok (.iload_n 3, 1) := by decide +kernel
theorem dX5_add_40 : decode cX5_add 40 = .ok (.iastore, 1) := by decide +kernel
theorem dX5_add_41 : decode cX5_add 41 = .ok (.aload_n 0, 1) := by decide +kernel
theorem dX5_add_42 : decode cX5_add 42 = .ok (.dup, 1) := by decide +kernel
theorem dX5_add_43 : decode cX5_add 43 = .ok (.getfield 25, 3) := by decide +kernel
theorem dX5_add_46 : decode cX5_add 46 = .ok (.iconst 1, 1) := by decide +kernel
theorem dX5_add_47 : decode cX5_add 47 = .ok (.iadd, 1) := by decide +kernel
theorem dX5_add_48 : decode cX5_add 48 = .ok (.putfield 25, 3) := by decide +kernel
theorem dX5_add_51 : decode cX5_add 51 = .ok (.aload_n 0, 1) := by decide +kernel
theorem dX5_add_52 : decode cX5_add 52 = .ok (.getfield 25, 3) := by decide +kernel
theorem dX5_add_55 : decode cX5_add 55 = .ok (.iconst 1, 1) := by decide +kernel
theorem dX5_add_56 : decode cX5_add 56 = .ok (.isub, 1) := by decide +kernel
theorem dX5_add_57 : decode cX5_add 57 = .ok (.ireturn, 1) := by decide +kernel
theorem dX5_knownCount_0 : decode cX5_knownCount 0 = .ok (.aload_n 0, 1) := by decide +kernel
theorem dX5_knownCount_1 : decode cX5_knownCount 1 = .ok (.getfield 29, 3) := by decide +kernel
theorem dX5_knownCount_4 : decode cX5_knownCount 4 = .ok (.iconst (-1), 1) := by decide +kernel
theorem dX5_knownCount_5 : decode cX5_knownCount 5 = .ok (.if_icmp .ne 10, 3) := by decide +kernel
theorem dX5_knownCount_8 : decode cX5_knownCount 8 = .ok (.aload_n 0, 1) := by decide +kernel
theorem dX5_knownCount_9 : decode cX5_knownCount 9 = .ok (.getfield 25, 3) := by decide +kernel
theorem dX5_knownCount_12 : decode cX5_knownCount 12 = .ok (.goto 14, 3) := by decide +kernel
theorem dX5_knownCount_15 : decode cX5_knownCount 15 = .ok (.aload_n 0, 1) := by decide +kernel
theorem dX5_knownCount_16 : decode cX5_knownCount 16 = .ok (.getfield 29, 3) := by decide +kernel
theorem dX5_knownCount_19 : decode cX5_knownCount 19 = .ok (.aload_n 0, 1) := by decide +kernel
theorem dX5_knownCount_20 : decode cX5_knownCount 20 = .ok (.getfield 25, 3) := by decide +kernel
theorem dX5_knownCount_23 : decode cX5_knownCount 23 = .ok (.invokestatic 32, 3) := by decide +kernel
theorem dX5_knownCount_26 : decode cX5_knownCount 26 = .ok (.ireturn, 1) := by decide +kernel
theorem dX5_strike_0 : decode cX5_strike 0 = .ok (.iconst 0, 1) := by decide +kernel
theorem dX5_strike_1 : decode cX5_strike 1 = .ok (.istore_n 1, 1) := by decide +kernel
theorem dX5_strike_2 : decode cX5_strike 2 = .ok (.iload_n 1, 1) := by decide +kernel
theorem dX5_strike_3 : decode cX5_strike 3 = .ok (.bipush 24, 2) := by decide +kernel
theorem dX5_strike_5 : decode cX5_strike 5 = .ok (.if_icmp .ge 16, 3) := by decide +kernel
theorem dX5_strike_8 : decode cX5_strike 8 = .ok (.aload_n 0, 1) := by decide +kernel
theorem dX5_strike_9 : decode cX5_strike 9 = .ok (.getfield 21, 3) := by decide +kernel
theorem dX5_strike_12 : decode cX5_strike 12 = .ok (.iload_n 1, 1) := by decide +kernel
theorem dX5_strike_13 : decode cX5_strike 13 = .ok (.iconst 0, 1) := by decide +kernel
theorem dX5_strike_14 : decode cX5_strike 14 = .ok (.bastore, 1) := by decide +kernel
theorem dX5_strike_15 : decode cX5_strike 15 = .ok (.iinc 1 1, 3) := by decide +kernel
theorem dX5_strike_18 : decode cX5_strike 18 = .ok (.goto (-16), 3) := by decide +kernel
theorem dX5_strike_21 : decode cX5_strike 21 = .ok (.aload_n 0, 1) := by decide +kernel
theorem dX5_strike_22 : decode cX5_strike 22 = .ok (.invokevirtual 38, 3) := by decide +kernel
theorem dX5_strike_25 : decode cX5_strike 25 = .ok (.iconst 1, 1) := by decide +kernel
theorem dX5_strike_26 : decode cX5_strike 26 = .ok (.isub, 1) := by decide +kernel
theorem dX5_strike_27 : decode cX5_strike 27 = .ok (.istore_n 1, 1) := by decide +kernel
theorem dX5_strike_28 : decode cX5_strike 28 = .ok (.iload_n 1, 1) := by decide +kernel
theorem dX5_strike_29 : decode cX5_strike 29 = .ok (.ifCond .lt 53, 3) := by decide +kernel
theorem dX5_strike_32 : decode cX5_strike 32 = .ok (.aload_n 0, 1) := by decide +kernel
theorem dX5_strike_33 : decode cX5_strike 33 = .ok (.getfield 9, 3) := by decide +kernel
theorem dX5_strike_36 : decode cX5_strike 36 = .ok (.iload_n 1, 1) := by decide +kernel
theorem dX5_strike_37 : decode cX5_strike 37 = .ok (.iaload, 1) := by decide +kernel
theorem dX5_strike_38 : decode cX5_strike 38 = .ok (.iconst 2, 1) := by decide +kernel
theorem dX5_strike_39 : decode cX5_strike 39 = .ok (.if_icmp .ne 37, 3) := by decide +kernel
theorem dX5_strike_42 : decode cX5_strike 42 = .ok (.aload_n 0, 1) := by decide +kernel
theorem dX5_strike_43 : decode cX5_strike 43 = .ok (.getfield 21, 3) := by decide +kernel
theorem dX5_strike_46 : decode cX5_strike 46 = .ok (.iload_n 1, 1) := by decide +kernel
theorem dX5_strike_47 : decode cX5_strike 47 = .ok (.baload, 1) := by decide +kernel
theorem dX5_strike_48 : decode cX5_strike 48 = .ok (.ifCond .ne 28, 3) := by decide +kernel
theorem dX5_strike_51 : decode cX5_strike 51 = .ok (.aload_n 0, 1) := by decide +kernel
theorem dX5_strike_52 : decode cX5_strike 52 = .ok (.aload_n 0, 1) := by decide +kernel
theorem dX5_strike_53 : decode cX5_strike 53 = .ok (.getfield 15, 3) := by decide +kernel
theorem dX5_strike_56 : decode cX5_strike 56 = .ok (.iload_n 1, 1) := by decide +kernel
theorem dX5_strike_57 : decode cX5_strike 57 = .ok (.iaload, 1) := by decide +kernel
theorem dX5_strike_58 : decode cX5_strike 58 = .ok (.invokevirtual 42, 3) := by decide +kernel
theorem dX5_strike_61 : decode cX5_strike 61 = .ok (.ifCond .eq 15, 3) := by decide +kernel
theorem dX5_strike_64 : decode cX5_strike 64 = .ok (.aload_n 0, 1) := by decide +kernel
theorem dX5_strike_65 : decode cX5_strike 65 = .ok (.getfield 21, 3) := by decide +kernel
theorem dX5_strike_68 : decode cX5_strike 68 = .ok (.aload_n 0, 1) := by decide +kernel
theorem dX5_strike_69 : decode cX5_strike 69 = .ok (.getfield 15, 3) := by decide +kernel
theorem dX5_strike_72 : decode cX5_strike 72 = .ok (.iload_n 1, 1) := by decide +kernel
theorem dX5_strike_73 : decode cX5_strike 73 = .ok (.iaload, 1) := by decide +kernel
theorem dX5_strike_74 : decode cX5_strike 74 = .ok (.iconst 1, 1) := by decide +kernel
theorem dX5_strike_75 : decode cX5_strike 75 = .ok (.bastore, 1) := by decide +kernel
theorem dX5_strike_76 : decode cX5_strike 76 = .ok (.iinc 1 (-1), 3) := by decide +kernel
theorem dX5_strike_79 : decode cX5_strike 79 = .ok (.goto (-51), 3) := by decide +kernel
theorem dX5_strike_82 : decode cX5_strike 82 = .ok (.return_, 1) := by decide +kernel
theorem dX5_holdFor_0 : decode cX5_holdFor 0 = .ok (.iconst 0, 1) := by decide +kernel
theorem dX5_holdFor_1 : decode cX5_holdFor 1 = .ok (.istore_n 2, 1) := by decide +kernel
theorem dX5_holdFor_2 : decode cX5_holdFor 2 = .ok (.iload_n 2, 1) := by decide +kernel
theorem dX5_holdFor_3 : decode cX5_holdFor 3 = .ok (.aload_n 0, 1) := by decide +kernel
theorem dX5_holdFor_4 : decode cX5_holdFor 4 = .ok (.invokevirtual 38, 3) := by decide +kernel
theorem dX5_holdFor_7 : decode cX5_holdFor 7 = .ok (.if_icmp .ge 90, 3) := by decide +kernel
theorem dX5_holdFor_10 : decode cX5_holdFor 10 = .ok (.aload_n 0, 1) := by decide +kernel
theorem dX5_holdFor_11 : decode cX5_holdFor 11 = .ok (.getfield 9, 3) := by decide +kernel
theorem dX5_holdFor_14 : decode cX5_holdFor 14 = .ok (.iload_n 2, 1) := by decide +kernel
theorem dX5_holdFor_15 : decode cX5_holdFor 15 = .ok (.iaload, 1) := by decide +kernel
theorem dX5_holdFor_16 : decode cX5_holdFor 16 = .ok (.iconst 2, 1) := by decide +kernel
theorem dX5_holdFor_17 : decode cX5_holdFor 17 = .ok (.if_icmp .eq 74, 3) := by decide +kernel
theorem dX5_holdFor_20 : decode cX5_holdFor 20 = .ok (.aload_n 0, 1) := by decide +kernel
theorem dX5_holdFor_21 : decode cX5_holdFor 21 = .ok (.getfield 21, 3) := by decide +kernel
theorem dX5_holdFor_24 : decode cX5_holdFor 24 = .ok (.iload_n 2, 1) := by decide +kernel
theorem dX5_holdFor_25 : decode cX5_holdFor 25 = .ok (.baload, 1) := by decide +kernel
theorem dX5_holdFor_26 : decode cX5_holdFor 26 = .ok (.ifCond .ne 65, 3) := by decide +kernel
theorem dX5_holdFor_29 : decode cX5_holdFor 29 = .ok (.aload_n 0, 1) := by decide +kernel
theorem dX5_holdFor_30 : decode cX5_holdFor 30 = .ok (.getfield 15, 3) := by decide +kernel
theorem dX5_holdFor_33 : decode cX5_holdFor 33 = .ok (.iload_n 2, 1) := by decide +kernel
theorem dX5_holdFor_34 : decode cX5_holdFor 34 = .ok (.iaload, 1) := by decide +kernel
theorem dX5_holdFor_35 : decode cX5_holdFor 35 = .ok (.ifCond .lt 56, 3) := by decide +kernel
theorem dX5_holdFor_38 : decode cX5_holdFor 38 = .ok (.aload_n 0, 1) := by decide +kernel
theorem dX5_holdFor_39 : decode cX5_holdFor 39 = .ok (.getfield 15, 3) := by decide +kernel
theorem dX5_holdFor_42 : decode cX5_holdFor 42 = .ok (.iload_n 2, 1) := by decide +kernel
theorem dX5_holdFor_43 : decode cX5_holdFor 43 = .ok (.iaload, 1) := by decide +kernel
theorem dX5_holdFor_44 : decode cX5_holdFor 44 = .ok (.aload_n 1, 1) := by decide +kernel
theorem dX5_holdFor_45 : decode cX5_holdFor 45 = .ok (.arraylength, 1) := by decide +kernel
theorem dX5_holdFor_46 : decode cX5_holdFor 46 = .ok (.if_icmp .ge 45, 3) := by decide +kernel
theorem dX5_holdFor_49 : decode cX5_holdFor 49 = .ok (.aload_n 1, 1) := by decide +kernel
theorem dX5_holdFor_50 : decode cX5_holdFor 50 = .ok (.aload_n 0, 1) := by decide +kernel
theorem dX5_holdFor_51 : decode cX5_holdFor 51 = .ok (.getfield 15, 3) := by decide +kernel
theorem dX5_holdFor_54 : decode cX5_holdFor 54 = .ok (.iload_n 2, 1) := by decide +kernel
theorem dX5_holdFor_55 : decode cX5_holdFor 55 = .ok (.iaload, 1) := by decide +kernel
theorem dX5_holdFor_56 : decode cX5_holdFor 56 = .ok (.iaload, 1) := by decide +kernel
theorem dX5_holdFor_57 : decode cX5_holdFor 57 = .ok (.aload_n 0, 1) := by decide +kernel
theorem dX5_holdFor_58 : decode cX5_holdFor 58 = .ok (.getfield 18, 3) := by decide +kernel
theorem dX5_holdFor_61 : decode cX5_holdFor 61 = .ok (.iload_n 2, 1) := by decide +kernel
theorem dX5_holdFor_62 : decode cX5_holdFor 62 = .ok (.iaload, 1) := by decide +kernel
theorem dX5_holdFor_63 : decode cX5_holdFor 63 = .ok (.if_icmp .lt 7, 3) := by decide +kernel
theorem dX5_holdFor_66 : decode cX5_holdFor 66 = .ok (.iconst 1, 1) := by decide +kernel
theorem dX5_holdFor_67 : decode cX5_holdFor 67 = .ok (.goto 4, 3) := by decide +kernel
theorem dX5_holdFor_70 : decode cX5_holdFor 70 = .ok (.iconst 0, 1) := by decide +kernel
theorem dX5_holdFor_71 : decode cX5_holdFor 71 = .ok (.aload_n 0, 1) := by decide +kernel
theorem dX5_holdFor_72 : decode cX5_holdFor 72 = .ok (.getfield 9, 3) := by decide +kernel
theorem dX5_holdFor_75 : decode cX5_holdFor 75 = .ok (.iload_n 2, 1) := by decide +kernel
theorem dX5_holdFor_76 : decode cX5_holdFor 76 = .ok (.iaload, 1) := by decide +kernel
theorem dX5_holdFor_77 : decode cX5_holdFor 77 = .ok (.iconst 1, 1) := by decide +kernel
theorem dX5_holdFor_78 : decode cX5_holdFor 78 = .ok (.if_icmp .ne 7, 3) := by decide +kernel
theorem dX5_holdFor_81 : decode cX5_holdFor 81 = .ok (.iconst 1, 1) := by decide +kernel
theorem dX5_holdFor_82 : decode cX5_holdFor 82 = .ok (.goto 4, 3) := by decide +kernel
theorem dX5_holdFor_85 : decode cX5_holdFor 85 = .ok (.iconst 0, 1) := by decide +kernel
theorem dX5_holdFor_86 : decode cX5_holdFor 86 = .ok (.if_icmp .eq 5, 3) := by decide +kernel
theorem dX5_holdFor_89 : decode cX5_holdFor 89 = .ok (.iconst 0, 1) := by decide +kernel
theorem dX5_holdFor_90 : decode cX5_holdFor 90 = .ok (.ireturn, 1) := by decide +kernel
theorem dX5_holdFor_91 : decode cX5_holdFor 91 = .ok (.iinc 2 1, 3) := by decide +kernel
theorem dX5_holdFor_94 : decode cX5_holdFor 94 = .ok (.goto (-92), 3) := by decide +kernel
theorem dX5_holdFor_97 : decode cX5_holdFor 97 = .ok (.iconst 1, 1) := by decide +kernel
theorem dX5_holdFor_98 : decode cX5_holdFor 98 = .ok (.ireturn, 1) := by decide +kernel
theorem dX6_init_0 : decode cX6_init 0 = .ok (.aload_n 0, 1) := by decide +kernel
theorem dX6_init_1 : decode cX6_init 1 = .ok (.invokespecial 3, 3) := by decide +kernel
theorem dX6_init_4 : decode cX6_init 4 = .ok (.aload_n 0, 1) := by decide +kernel
theorem dX6_init_5 : decode cX6_init 5 = .ok (.iconst 0, 1) := by decide +kernel
theorem dX6_init_6 : decode cX6_init 6 = .ok (.putfield 9, 3) := by decide +kernel
theorem dX6_init_9 : decode cX6_init 9 = .ok (.aload_n 0, 1) := by decide +kernel
theorem dX6_init_10 : decode cX6_init 10 = .ok (.bipush 8, 2) := by decide +kernel
theorem dX6_init_12 : decode cX6_init 12 = .ok (.newarray .int, 2) := by decide +kernel
theorem dX6_init_14 : decode cX6_init 14 = .ok (.putfield 15, 3) := by decide +kernel
theorem dX6_init_17 : decode cX6_init 17 = .ok (.aload_n 0, 1) := by decide +kernel
theorem dX6_init_18 : decode cX6_init 18 = .ok (.bipush 8, 2) := by decide +kernel
theorem dX6_init_20 : decode cX6_init 20 = .ok (.bipush 7, 2) := by decide +kernel
theorem dX6_init_22 : decode cX6_init 22 = .ok (.multianewarray 19 2, 4) := by decide +kernel
theorem dX6_init_26 : decode cX6_init 26 = .ok (.putfield 21, 3) := by decide +kernel
theorem dX6_init_29 : decode cX6_init 29 = .ok (.aload_n 0, 1) := by decide +kernel
theorem dX6_init_30 : decode cX6_init 30 = .ok (.iconst 0, 1) := by decide +kernel
theorem dX6_init_31 : decode cX6_init 31 = .ok (.putfield 24, 3) := by decide +kernel
theorem dX6_init_34 : decode cX6_init 34 = .ok (.aload_n 0, 1) := by decide +kernel
theorem dX6_init_35 : decode cX6_init 35 = .ok (.iconst 3, 1) := by decide +kernel
theorem dX6_init_36 : decode cX6_init 36 = .ok (.newarray .int, 2) := by decide +kernel
theorem dX6_init_38 : decode cX6_init 38 = .ok (.putfield 27, 3) := by decide +kernel
theorem dX6_init_41 : decode cX6_init 41 = .ok (.aload_n 0, 1) := by decide +kernel
theorem dX6_init_42 : decode cX6_init 42 = .ok (.iconst 3, 1) := by decide +kernel
theorem dX6_init_43 : decode cX6_init 43 = .ok (.newarray .int, 2) := by decide +kernel
theorem dX6_init_45 : decode cX6_init 45 = .ok (.putfield 30, 3) := by decide +kernel
theorem dX6_init_48 : decode cX6_init 48 = .ok (.aload_n 0, 1) := by decide +kernel
theorem dX6_init_49 : decode cX6_init 49 = .ok (.bipush 6, 2) := by decide +kernel
theorem dX6_init_51 : decode cX6_init 51 = .ok (.newarray .int, 2) := by decide +kernel
theorem dX6_init_53 : decode cX6_init 53 = .ok (.putfield 33, 3) := by decide +kernel
theorem dX6_init_56 : decode cX6_init 56 = .ok (.aload_n 0, 1) := by decide +kernel
theorem dX6_init_57 : decode cX6_init 57 = .ok (.bipush 6, 2) := by decide +kernel
theorem dX6_init_59 : decode cX6_init 59 = .ok (.newarray .boolean, 2) := by decide +kernel
theorem dX6_init_61 : decode cX6_init 61 = .ok (.putfield 36, 3) := by decide +kernel
theorem dX6_init_64 : decode cX6_init 64 = .ok (.aload_n 0, 1) := by decide +kernel
theorem dX6_init_65 : decode cX6_init 65 = .ok (.new 40, 3) := by decide +kernel
theorem dX6_init_68 : decode cX6_init 68 = .ok (.dup, 1) := by decide +kernel
theorem dX6_init_69 : decode cX6_init 69 = .ok (.invokespecial 42, 3) := by decide +kernel
theorem dX6_init_72 : decode cX6_init 72 = .ok (.putfield 43, 3) := by decide +kernel
theorem dX6_init_75 : decode cX6_init 75 = .ok (.getstatic 47, 3) := by decide +kernel
theorem dX6_init_78 : decode cX6_init 78 = .ok (.iconst 0, 1) := by decide +kernel
theorem dX6_init_79 : decode cX6_init 79 = .ok (.aload_n 0, 1) := by decide +kernel
theorem dX6_init_80 : decode cX6_init 80 = .ok (.getfield 33, 3) := by decide +kernel
theorem dX6_init_83 : decode cX6_init 83 = .ok (.iconst 0, 1) := by decide +kernel
theorem dX6_init_84 : decode cX6_init 84 = .ok (.bipush 6, 2) := by decide +kernel
theorem dX6_init_86 : decode cX6_init 86 = .ok (.invokestatic 50, 3) := by decide +kernel
theorem dX6_init_89 : decode cX6_init 89 = .ok (.return_, 1) := by decide +kernel
theorem dX6_clear_0 : decode cX6_clear 0 = .ok (.aload_n 0, 1) := by decide +kernel
theorem dX6_clear_1 : decode cX6_clear 1 = .ok (.iconst 0, 1) := by decide +kernel
theorem dX6_clear_2 : decode cX6_clear 2 = .ok (.putfield 9, 3) := by decide +kernel
theorem dX6_clear_5 : decode cX6_clear 5 = .ok (.aload_n 0, 1) := by decide +kernel
theorem dX6_clear_6 : decode cX6_clear 6 = .ok (.iconst 0, 1) := by decide +kernel
theorem dX6_clear_7 : decode cX6_clear 7 = .ok (.putfield 24, 3) := by decide +kernel
theorem dX6_clear_10 : decode cX6_clear 10 = .ok (.iconst 0, 1) := by decide +kernel
theorem dX6_clear_11 : decode cX6_clear 11 = .ok (.istore_n 1, 1) := by decide +kernel
theorem dX6_clear_12 : decode cX6_clear 12 = .ok (.iload_n 1, 1) := by decide +kernel
theorem dX6_clear_13 : decode cX6_clear 13 = .ok (.bipush 6, 2) := by decide +kernel
theorem dX6_clear_15 : decode cX6_clear 15 = .ok (.if_icmp .ge 27, 3) := by decide +kernel
theorem dX6_clear_18 : decode cX6_clear 18 = .ok (.aload_n 0, 1) := by decide +kernel
theorem dX6_clear_19 : decode cX6_clear 19 = .ok (.getfield 33, 3) := by decide +kernel
theorem dX6_clear_22 : decode cX6_clear 22 = .ok (.iload_n 1, 1) := by decide +kernel
theorem dX6_clear_23 : decode cX6_clear 23 = .ok (.getstatic 47, 3) := by decide +kernel
theorem dX6_clear_26 : decode cX6_clear 26 = .ok (.iload_n 1, 1) := by decide +kernel
theorem dX6_clear_27 : decode cX6_clear 27 = .ok (.iaload, 1) := by decide +kernel
theorem dX6_clear_28 : decode cX6_clear 28 = .ok (.iastore, 1) := by decide +kernel
theorem dX6_clear_29 : decode cX6_clear 29 = .ok (.aload_n 0, 1) := by decide +kernel
theorem dX6_clear_30 : decode cX6_clear 30 = .ok (.getfield 36, 3) := by decide +kernel
theorem dX6_clear_33 : decode cX6_clear 33 = .ok (.iload_n 1, 1) := by decide +kernel
theorem dX6_clear_34 : decode cX6_clear 34 = .ok (.iconst 0, 1) := by decide +kernel
theorem dX6_clear_35 : decode cX6_clear 35 = .ok (.bastore, 1) := by decide +kernel
theorem dX6_clear_36 : decode cX6_clear 36 = .ok (.iinc 1 1, 3) := by decide +kernel
theorem dX6_clear_39 : decode cX6_clear 39 = .ok (.goto (-27), 3) := by decide +kernel
theorem dX6_clear_42 : decode cX6_clear 42 = .ok (.iconst 0, 1) := by decide +kernel
theorem dX6_clear_43 : decode cX6_clear 43 = .ok (.istore_n 1, 1) := by decide +kernel
theorem dX6_clear_44 : decode cX6_clear 44 = .ok (.iload_n 1, 1) := by decide +kernel
theorem dX6_clear_45 : decode cX6_clear 45 = .ok (.iconst 3, 1) := by decide +kernel
theorem dX6_clear_46 : decode cX6_clear 46 = .ok (.if_icmp .ge 23, 3) := by decide +kernel
theorem dX6_clear_49 : decode cX6_clear 49 = .ok (.aload_n 0, 1) := by decide +kernel
theorem dX6_clear_50 : decode cX6_clear 50 = .ok (.getfield 27, 3) := by decide +kernel
theorem dX6_clear_53 : decode cX6_clear 53 = .ok (.iload_n 1, 1) := by decide +kernel
theorem dX6_clear_54 : decode cX6_clear 54 = .ok (.iconst 0, 1) := by decide +kernel
theorem dX6_clear_55 : decode cX6_clear 55 = .ok (.iastore, 1) := by decide +kernel
theorem dX6_clear_56 : decode cX6_clear 56 = .ok (.aload_n 0, 1) := by decide +kernel
theorem dX6_clear_57 : decode cX6_clear 57 = .ok (.getfield 30, 3) := by decide +kernel
theorem dX6_clear_60 : decode cX6_clear 60 = .ok (.iload_n 1, 1) := by decide +kernel
theorem dX6_clear_61 : decode cX6_clear 61 = .ok (.iconst 0, 1) := by decide +kernel
theorem dX6_clear_62 : decode cX6_clear 62 = .ok (.iastore, 1) := by decide +kernel
theorem dX6_clear_63 : decode cX6_clear 63 = .ok (.iinc 1 1, 3) := by decide +kernel
theorem dX6_clear_66 : decode cX6_clear 66 = .ok (.goto (-22), 3) := by decide +kernel
theorem dX6_clear_69 : decode cX6_clear 69 = .ok (.aload_n 0, 1) := by decide +kernel
theorem dX6_clear_70 : decode cX6_clear 70 = .ok (.getfield 43, 3) := by decide +kernel
theorem dX6_clear_73 : decode cX6_clear 73 = .ok (.invokevirtual 56, 3) := by decide +kernel
theorem dX6_clear_76 : decode cX6_clear 76 = .ok (.return_, 1) := by decide +kernel
theorem dX6_hasParty_0 : decode cX6_hasParty 0 = .ok (.iload_n 1, 1) := by decide +kernel
theorem dX6_hasParty_1 : decode cX6_hasParty 1 = .ok (.ifCond .lt 15, 3) := by decide +kernel
theorem dX6_hasParty_4 : decode cX6_hasParty 4 = .ok (.iload_n 1, 1) := by decide +kernel
theorem dX6_hasParty_5 : decode cX6_hasParty 5 = .ok (.aload_n 0, 1) := by decide +kernel
theorem dX6_hasParty_6 : decode cX6_hasParty 6 = .ok (.getfield 9, 3) := by decide +kernel
theorem dX6_hasParty_9 : decode cX6_hasParty 9 = .ok (.if_icmp .ge 7, 3) := by decide +kernel
theorem dX6_hasParty_12 : decode cX6_hasParty 12 = .ok (.iconst 1, 1) := by decide +kernel
theorem dX6_hasParty_13 : decode cX6_hasParty 13 = .ok (.goto 4, 3) := by decide +kernel
theorem dX6_hasParty_16 : decode cX6_hasParty 16 = .ok (.iconst 0, 1) := by decide +kernel
theorem dX6_hasParty_17 : decode cX6_hasParty 17 = .ok (.ireturn, 1) := by decide +kernel
theorem dX6_hasSitting_0 : decode cX6_hasSitting 0 = .ok (.iload_n 1, 1) := by decide +kernel
theorem dX6_hasSitting_1 : decode cX6_hasSitting 1 = .ok (.ifCond .lt 15, 3) := by decide +kernel
theorem dX6_hasSitting_4 : decode cX6_hasSitting 4 = .ok (.iload_n 1, 1) := by decide +kernel
theorem dX6_hasSitting_5 : decode cX6_hasSitting 5 = .ok (.aload_n 0, 1) := by decide +kernel
theorem dX6_hasSitting_6 : decode cX6_hasSitting 6 = .ok (.getfield 24, 3) := by decide +kernel
theorem dX6_hasSitting_9 : decode cX6_hasSitting 9 = .ok (.if_icmp .ge 7, 3) := by decide +kernel
theorem dX6_hasSitting_12 : decode cX6_hasSitting 12 = .ok (.iconst 1, 1) := by decide +kernel
theorem dX6_hasSitting_13 : decode cX6_hasSitting 13 = .ok (.goto 4, 3) := by decide +kernel
theorem dX6_hasSitting_16 : decode cX6_hasSitting 16 = .ok (.iconst 0, 1) := by decide +kernel
theorem dX6_hasSitting_17 : decode cX6_hasSitting 17 = .ok (.ireturn, 1) := by decide +kernel
theorem dX6_numberOf_0 : decode cX6_numberOf 0 = .ok (.iconst 0, 1) := by decide +kernel
theorem dX6_numberOf_1 : decode cX6_numberOf 1 = .ok (.istore_n 2, 1) := by decide +kernel
theorem dX6_numberOf_2 : decode cX6_numberOf 2 = .ok (.iload_n 2, 1) := by decide +kernel
theorem dX6_numberOf_3 : decode cX6_numberOf 3 = .ok (.aload_n 0, 1) := by decide +kernel
theorem dX6_numberOf_4 : decode cX6_numberOf 4 = .ok (.getfield 9, 3) := by decide +kernel
theorem dX6_numberOf_7 : decode cX6_numberOf 7 = .ok (.if_icmp .ge 21, 3) := by decide +kernel
theorem dX6_numberOf_10 : decode cX6_numberOf 10 = .ok (.aload_n 0, 1) := by decide +kernel
theorem dX6_numberOf_11 : decode cX6_numberOf 11 = .ok (.getfield 15, 3) := by decide +kernel
theorem dX6_numberOf_14 : decode cX6_numberOf 14 = .ok (.iload_n 2, 1) := by decide +kernel
theorem dX6_numberOf_15 : decode cX6_numberOf 15 = .ok (.iaload, 1) := by decide +kernel
theorem dX6_numberOf_16 : decode cX6_numberOf 16 = .ok (.iload_n 1, 1) := by decide +kernel
theorem dX6_numberOf_17 : decode cX6_numberOf 17 = .ok (.if_icmp .ne 5, 3) := by decide +kernel
theorem dX6_numberOf_20 : decode cX6_numberOf 20 = .ok (.iload_n 2, 1) := by decide +kernel
theorem dX6_numberOf_21 : decode cX6_numberOf 21 = .ok (.ireturn, 1) := by decide +kernel
theorem dX6_numberOf_22 : decode cX6_numberOf 22 = .ok (.iinc 2 1, 3) := by decide +kernel
theorem dX6_numberOf_25 : decode cX6_numberOf 25 = .ok (.goto (-23), 3) := by decide +kernel
theorem dX6_numberOf_28 : decode cX6_numberOf 28 = .ok (.iconst (-1), 1) := by decide +kernel
theorem dX6_numberOf_29 : decode cX6_numberOf 29 = .ok (.ireturn, 1) := by decide +kernel
theorem dX6_trait_0 : decode cX6_trait 0 = .ok (.iload_n 1, 1) := by decide +kernel
theorem dX6_trait_1 : decode cX6_trait 1 = .ok (.ifCond .lt 32, 3) := by decide +kernel
theorem dX6_trait_4 : decode cX6_trait 4 = .ok (.iload_n 1, 1) := by decide +kernel
theorem dX6_trait_5 : decode cX6_trait 5 = .ok (.aload_n 0, 1) := by decide +kernel
theorem dX6_trait_6 : decode cX6_trait 6 = .ok (.getfield 9, 3) := by decide +kernel
theorem dX6_trait_9 : decode cX6_trait 9 = .ok (.if_icmp .ge 24, 3) := by decide +kernel
theorem dX6_trait_12 : decode cX6_trait 12 = .ok (.iload_n 2, 1) := by decide +kernel
theorem dX6_trait_13 : decode cX6_trait 13 = .ok (.ifCond .lt 20, 3) := by decide +kernel
theorem dX6_trait_16 : decode cX6_trait 16 = .ok (.iload_n 2, 1) := by decide +kernel
theorem dX6_trait_17 : decode cX6_trait 17 = .ok (.bipush 7, 2) := by decide +kernel
theorem dX6_trait_19 : decode cX6_trait 19 = .ok (.if_icmp .ge 14, 3) := by decide +kernel
theorem dX6_trait_22 : decode cX6_trait 22 = .ok (.aload_n 0, 1) := by decide +kernel
theorem dX6_trait_23 : decode cX6_trait 23 = .ok (.getfield 21, 3) := by decide +kernel
theorem dX6_trait_26 : decode cX6_trait 26 = .ok (.iload_n 1, 1) := by decide +kernel
theorem dX6_trait_27 : decode cX6_trait 27 = .ok (.aaload, 1) := by decide +kernel
theorem dX6_trait_28 : decode cX6_trait 28 = .ok (.iload_n 2, 1) := by decide +kernel
theorem dX6_trait_29 : decode cX6_trait 29 = .ok (.iaload, 1) := by decide +kernel
theorem dX6_trait_30 : decode cX6_trait 30 = .ok (.goto 4, 3) := by decide +kernel
theorem dX6_trait_33 : decode cX6_trait 33 = .ok (.iconst 0, 1) := by decide +kernel
theorem dX6_trait_34 : decode cX6_trait 34 = .ok (.ireturn, 1) := by decide +kernel
theorem dX6_mostTickets_0 : decode cX6_mostTickets 0 = .ok (.aload_n 0, 1) := by decide +kernel
theorem dX6_mostTickets_1 : decode cX6_mostTickets 1 = .ok (.getfield 33, 3) := by decide +kernel
theorem dX6_mostTickets_4 : decode cX6_mostTickets 4 = .ok (.iconst 0, 1) := by decide +kernel
theorem dX6_mostTickets_5 : decode cX6_mostTickets 5 = .ok (.iaload, 1) := by decide +kernel
theorem dX6_mostTickets_6 : decode cX6_mostTickets 6 = .ok (.aload_n 0, 1) := by decide +kernel
theorem dX6_mostTickets_7 : decode cX6_mostTickets 7 = .ok (.getfield 33, 3) := by decide +kernel
theorem dX6_mostTickets_10 : decode cX6_mostTickets 10 = .ok (.iconst 4, 1) := by decide +kernel
theorem dX6_mostTickets_11 : decode cX6_mostTickets 11 = .ok (.iaload, 1) := by decide +kernel
theorem dX6_mostTickets_12 : decode cX6_mostTickets 12 = .ok (.iadd, 1) := by decide +kernel
theorem dX6_mostTickets_13 : decode cX6_mostTickets 13 = .ok (.ireturn, 1) := by decide +kernel
theorem dX6_persons_0 : decode cX6_persons 0 = .ok (.iconst 0, 1) := by decide +kernel
theorem dX6_persons_1 : decode cX6_persons 1 = .ok (.istore_n 1, 1) := by decide +kernel
theorem dX6_persons_2 : decode cX6_persons 2 = .ok (.iconst 0, 1) := by decide +kernel
theorem dX6_persons_3 : decode cX6_persons 3 = .ok (.istore_n 2, 1) := by decide +kernel
theorem dX6_persons_4 : decode cX6_persons 4 = .ok (.iload_n 2, 1) := by decide +kernel
theorem dX6_persons_5 : decode cX6_persons 5 = .ok (.aload_n 0, 1) := by decide +kernel
theorem dX6_persons_6 : decode cX6_persons 6 = .ok (.getfield 9, 3) := by decide +kernel
theorem dX6_persons_9 : decode cX6_persons 9 = .ok (.if_icmp .ge 20, 3) := by decide +kernel
theorem dX6_persons_12 : decode cX6_persons 12 = .ok (.iload_n 1, 1) := by decide +kernel
theorem dX6_persons_13 : decode cX6_persons 13 = .ok (.aload_n 0, 1) := by decide +kernel
theorem dX6_persons_14 : decode cX6_persons 14 = .ok (.getfield 21, 3) := by decide +kernel
theorem dX6_persons_17 : decode cX6_persons 17 = .ok (.iload_n 2, 1) := by decide +kernel
theorem dX6_persons_18 : decode cX6_persons 18 = .ok (.aaload, 1) := by decide +kernel
theorem dX6_persons_19 : decode cX6_persons 19 = .ok (.iconst 0, 1) := by decide +kernel
theorem dX6_persons_20 : decode cX6_persons 20 = .ok (.iaload, 1) := by decide +kernel
theorem dX6_persons_21 : decode cX6_persons 21 = .ok (.iadd, 1) := by decide +kernel
theorem dX6_persons_22 : decode cX6_persons 22 = .ok (.istore_n 1, 1) := by decide +kernel
theorem dX6_persons_23 : decode cX6_persons 23 = .ok (.iinc 2 1, 3) := by decide +kernel
theorem dX6_persons_26 : decode cX6_persons 26 = .ok (.goto (-22), 3) := by decide +kernel
theorem dX6_persons_29 : decode cX6_persons 29 = .ok (.iload_n 1, 1) := by decide +kernel
theorem dX6_persons_30 : decode cX6_persons 30 = .ok (.ireturn, 1) := by decide +kernel
theorem dX6_chosen_0 : decode cX6_chosen 0 = .ok (.iconst (-1), 1) := by decide +kernel
theorem dX6_chosen_1 : decode cX6_chosen 1 = .ok (.istore_n 3, 1) := by decide +kernel
theorem dX6_chosen_2 : decode cX6_chosen 2 = .ok (.iconst (-1), 1) := by decide +kernel
theorem dX6_chosen_3 : decode cX6_chosen 3 = .ok (.istore 4, 2) := by decide +kernel
theorem dX6_chosen_5 : decode cX6_chosen 5 = .ok (.iconst 0, 1) := by decide +kernel
theorem dX6_chosen_6 : decode cX6_chosen 6 = .ok (.istore 5, 2) := by decide +kernel
theorem dX6_chosen_8 : decode cX6_chosen 8 = .ok (.iload 5, 2) := by decide +kernel
theorem dX6_chosen_10 : decode cX6_chosen 10 = .ok (.aload_n 0, 1) := by decide +kernel
theorem dX6_chosen_11 : decode cX6_chosen 11 = .ok (.getfield 24, 3) := by decide +kernel
theorem dX6_chosen_14 : decode cX6_chosen 14 = .ok (.if_icmp .ge 46, 3) := by decide +kernel
theorem dX6_chosen_17 : decode cX6_chosen 17 = .ok (.iload 5, 2) := by decide +kernel
theorem dX6_chosen_19 : decode cX6_chosen 19 = .ok (.aload_n 2, 1) := by decide +kernel
theorem dX6_chosen_20 : decode cX6_chosen 20 = .ok (.arraylength, 1) := by decide +kernel
theorem dX6_chosen_21 : decode cX6_chosen 21 = .ok (.if_icmp .ge 39, 3) := by decide +kernel
theorem dX6_chosen_24 : decode cX6_chosen 24 = .ok (.aload_n 0, 1) := by decide +kernel
theorem dX6_chosen_25 : decode cX6_chosen 25 = .ok (.iload_n 1, 1) := by decide +kernel
theorem dX6_chosen_26 : decode cX6_chosen 26 = .ok (.iconst 1, 1) := by decide +kernel
theorem dX6_chosen_27 : decode cX6_chosen 27 = .ok (.iload 5, 2) := by decide +kernel
theorem dX6_chosen_29 : decode cX6_chosen 29 = .ok (.iadd, 1) := by decide +kernel
theorem dX6_chosen_30 : decode cX6_chosen 30 = .ok (.invokevirtual 59, 3) := by decide +kernel
theorem dX6_chosen_33 : decode cX6_chosen 33 = .ok (.aload_n 2, 1) := by decide +kernel
theorem dX6_chosen_34 : decode cX6_chosen 34 = .ok (.iload 5, 2) := by decide +kernel
theorem dX6_chosen_36 : decode cX6_chosen 36 = .ok (.iaload, 1) := by decide +kernel
theorem dX6_chosen_37 : decode cX6_chosen 37 = .ok (.isub, 1) := by decide +kernel
theorem dX6_chosen_38 : decode cX6_chosen 38 = .ok (.istore 6, 2) := by decide +kernel
theorem dX6_chosen_40 : decode cX6_chosen 40 = .ok (.iload 6, 2) := by decide +kernel
theorem dX6_chosen_42 : decode cX6_chosen 42 = .ok (.iload 4, 2) := by decide +kernel
theorem dX6_chosen_44 : decode cX6_chosen 44 = .ok (.if_icmp .le 10, 3) := by decide +kernel
theorem dX6_chosen_47 : decode cX6_chosen 47 = .ok (.iload 6, 2) := by decide +kernel
theorem dX6_chosen_49 : decode cX6_chosen 49 = .ok (.istore 4, 2) := by decide +kernel
theorem dX6_chosen_51 : decode cX6_chosen 51 = .ok (.iload 5, 2) := by decide +kernel
theorem dX6_chosen_53 : decode cX6_chosen 53 = .ok (.istore_n 3, 1) := by decide +kernel
theorem dX6_chosen_54 : decode cX6_chosen 54 = .ok (.iinc 5 1, 3) := by decide +kernel
theorem dX6_chosen_57 : decode cX6_chosen 57 = .ok (.goto (-49), 3) := by decide +kernel
theorem dX6_chosen_60 : decode cX6_chosen 60 = .ok (.iload_n 3, 1) := by decide +kernel
theorem dX6_chosen_61 : decode cX6_chosen 61 = .ok (.ireturn, 1) := by decide +kernel
