theorem dX12_ways_14 : decode cX12_ways 14 = .ok (.iconst (-1), 1) := by decide +kernel
theorem dX12_ways_15 : decode cX12_ways 15 = .ok (.ireturn, 1) := by decide +kernel
theorem dX12_ways_16 : decode cX12_ways 16 = .ok (.iload_n 1, 1) := by decide +kernel
theorem dX12_ways_17 : decode cX12_ways 17 = .ok (.istore_n 3, 1) := by decide +kernel
theorem dX12_ways_18 : decode cX12_ways 18 = .ok (.iload_n 3, 1) := by decide +kernel
theorem dX12_ways_19 : decode cX12_ways 19 = .ok (.iload_n 2, 1) := by decide +kernel
theorem dX12_ways_20 : decode cX12_ways 20 = .ok (.if_icmp .gt 41, 3) := by decide +kernel
theorem dX12_ways_23 : decode cX12_ways 23 = .ok (.aload_n 0, 1) := by decide +kernel
theorem dX12_ways_24 : decode cX12_ways 24 = .ok (.getfield 98, 3) := by decide +kernel
theorem dX12_ways_27 : decode cX12_ways 27 = .ok (.iload_n 3, 1) := by decide +kernel
theorem dX12_ways_28 : decode cX12_ways 28 = .ok (.iload_n 3, 1) := by decide +kernel
theorem dX12_ways_29 : decode cX12_ways 29 = .ok (.iload_n 1, 1) := by decide +kernel
theorem dX12_ways_30 : decode cX12_ways 30 = .ok (.if_icmp .ne 7, 3) := by decide +kernel
theorem dX12_ways_33 : decode cX12_ways 33 = .ok (.iconst 1, 1) := by decide +kernel
theorem dX12_ways_34 : decode cX12_ways 34 = .ok (.goto 4, 3) := by decide +kernel
theorem dX12_ways_37 : decode cX12_ways 37 = .ok (.iconst 0, 1) := by decide +kernel
theorem dX12_ways_38 : decode cX12_ways 38 = .ok (.iastore, 1) := by decide +kernel
theorem dX12_ways_39 : decode cX12_ways 39 = .ok (.aload_n 0, 1) := by decide +kernel
theorem dX12_ways_40 : decode cX12_ways 40 = .ok (.getfield 101, 3) := by decide +kernel
theorem dX12_ways_43 : decode cX12_ways 43 = .ok (.iload_n 3, 1) := by decide +kernel
theorem dX12_ways_44 : decode cX12_ways 44 = .ok (.iload_n 3, 1) := by decide +kernel
theorem dX12_ways_45 : decode cX12_ways 45 = .ok (.iload_n 1, 1) := by decide +kernel
theorem dX12_ways_46 : decode cX12_ways 46 = .ok (.if_icmp .ne 7, 3) := by decide +kernel
theorem dX12_ways_49 : decode cX12_ways 49 = .ok (.iconst 0, 1) := by decide +kernel
theorem dX12_ways_50 : decode cX12_ways 50 = .ok (.goto 4, 3) := by decide +kernel
theorem dX12_ways_53 : decode cX12_ways 53 = .ok (.iconst (-1), 1) := by decide +kernel
theorem dX12_ways_54 : decode cX12_ways 54 = .ok (.iastore, 1) := by decide +kernel
theorem dX12_ways_55 : decode cX12_ways 55 = .ok (.iinc 3 1, 3) := by decide +kernel
theorem dX12_ways_58 : decode cX12_ways 58 = .ok (.goto (-40), 3) := by decide +kernel
theorem dX12_ways_61 : decode cX12_ways 61 = .ok (.iload_n 1, 1) := by decide +kernel
theorem dX12_ways_62 : decode cX12_ways 62 = .ok (.istore_n 3, 1) := by decide +kernel
theorem dX12_ways_63 : decode cX12_ways 63 = .ok (.iload_n 3, 1) := by decide +kernel
theorem dX12_ways_64 : decode cX12_ways 64 = .ok (.iload_n 2, 1) := by decide +kernel
theorem dX12_ways_65 : decode cX12_ways 65 = .ok (.if_icmp .ge 172, 3) := by decide +kernel
theorem dX12_ways_68 : decode cX12_ways 68 = .ok (.iconst 0, 1) := by decide +kernel
theorem dX12_ways_69 : decode cX12_ways 69 = .ok (.istore 4, 2) := by decide +kernel
theorem dX12_ways_71 : decode cX12_ways 71 = .ok (.iload_n 3, 1) := by decide +kernel
theorem dX12_ways_72 : decode cX12_ways 72 = .ok (.istore 5, 2) := by decide +kernel
theorem dX12_ways_74 : decode cX12_ways 74 = .ok (.iload 5, 2) := by decide +kernel
theorem dX12_ways_76 : decode cX12_ways 76 = .ok (.iload_n 2, 1) := by decide +kernel
theorem dX12_ways_77 : decode cX12_ways 77 = .ok (.if_icmp .ge 154, 3) := by decide +kernel
theorem dX12_ways_80 : decode cX12_ways 80 = .ok (.aload_n 0, 1) := by decide +kernel
theorem dX12_ways_81 : decode cX12_ways 81 = .ok (.getfield 98, 3) := by decide +kernel
theorem dX12_ways_84 : decode cX12_ways 84 = .ok (.iload_n 3, 1) := by decide +kernel
theorem dX12_ways_85 : decode cX12_ways 85 = .ok (.iaload, 1) := by decide +kernel
theorem dX12_ways_86 : decode cX12_ways 86 = .ok (.ifCond .le 145, 3) := by decide +kernel
theorem dX12_ways_89 : decode cX12_ways 89 = .ok (.iload 5, 2) := by decide +kernel
theorem dX12_ways_91 : decode cX12_ways 91 = .ok (.iload_n 3, 1) := by decide +kernel
theorem dX12_ways_92 : decode cX12_ways 92 = .ok (.if_icmp .eq 8, 3) := by decide +kernel
theorem dX12_ways_95 : decode cX12_ways 95 = .ok (.iload 4, 2) := by decide +kernel
theorem dX12_ways_97 : decode cX12_ways 97 = .ok (.ifCond .eq 134, 3) := by decide +kernel
theorem dX12_ways_100 : decode cX12_ways 100 = .ok (.aload_n 0, 1) := by decide +kernel
theorem dX12_ways_101 : decode cX12_ways 101 = .ok (.iconst 0, 1) := by decide +kernel
theorem dX12_ways_102 : decode cX12_ways 102 = .ok (.iload 4, 2) := by decide +kernel
theorem dX12_ways_104 : decode cX12_ways 104 = .ok (.iload 5, 2) := by decide +kernel
theorem dX12_ways_106 : decode cX12_ways 106 = .ok (.iload_n 3, 1) := by decide +kernel
theorem dX12_ways_107 : decode cX12_ways 107 = .ok (.if_icmp .ne 7, 3) := by decide +kernel
theorem dX12_ways_110 : decode cX12_ways 110 = .ok (.iconst 1, 1) := by decide +kernel
theorem dX12_ways_111 : decode cX12_ways 111 = .ok (.goto 4, 3) := by decide +kernel
theorem dX12_ways_114 : decode cX12_ways 114 = .ok (.iconst 0, 1) := by decide +kernel
theorem dX12_ways_115 : decode cX12_ways 115 = .ok (.aload_n 0, 1) := by decide +kernel
theorem dX12_ways_116 : decode cX12_ways 116 = .ok (.getfield 9, 3) := by decide +kernel
theorem dX12_ways_119 : decode cX12_ways 119 = .ok (.bipush 82, 2) := by decide +kernel
theorem dX12_ways_121 : decode cX12_ways 121 = .ok (.iload 5, 2) := by decide +kernel
theorem dX12_ways_123 : decode cX12_ways 123 = .ok (.iadd, 1) := by decide +kernel
theorem dX12_ways_124 : decode cX12_ways 124 = .ok (.iaload, 1) := by decide +kernel
theorem dX12_ways_125 : decode cX12_ways 125 = .ok (.invokevirtual 250, 3) := by decide +kernel
theorem dX12_ways_128 : decode cX12_ways 128 = .ok (.istore 4, 2) := by decide +kernel
theorem dX12_ways_130 : decode cX12_ways 130 = .ok (.aload_n 0, 1) := by decide +kernel
theorem dX12_ways_131 : decode cX12_ways 131 = .ok (.iconst 0, 1) := by decide +kernel
theorem dX12_ways_132 : decode cX12_ways 132 = .ok (.iload 4, 2) := by decide +kernel
theorem dX12_ways_134 : decode cX12_ways 134 = .ok (.invokevirtual 258, 3) := by decide +kernel
theorem dX12_ways_137 : decode cX12_ways 137 = .ok (.iconst (-1), 1) := by decide +kernel
theorem dX12_ways_138 : decode cX12_ways 138 = .ok (.if_icmp .ne 6, 3) := by decide +kernel
theorem dX12_ways_141 : decode cX12_ways 141 = .ok (.goto 84, 3) := by decide +kernel
theorem dX12_ways_144 : decode cX12_ways 144 = .ok (.aload_n 0, 1) := by decide +kernel
theorem dX12_ways_145 : decode cX12_ways 145 = .ok (.getfield 98, 3) := by decide +kernel
theorem dX12_ways_148 : decode cX12_ways 148 = .ok (.iload 5, 2) := by decide +kernel
theorem dX12_ways_150 : decode cX12_ways 150 = .ok (.iconst 1, 1) := by decide +kernel
theorem dX12_ways_151 : decode cX12_ways 151 = .ok (.iadd, 1) := by decide +kernel
theorem dX12_ways_152 : decode cX12_ways 152 = .ok (.ldc_w 334, 3) := by decide +kernel
theorem dX12_ways_155 : decode cX12_ways 155 = .ok (.aload_n 0, 1) := by decide +kernel
theorem dX12_ways_156 : decode cX12_ways 156 = .ok (.getfield 98, 3) := by decide +kernel
theorem dX12_ways_159 : decode cX12_ways 159 = .ok (.iload 5, 2) := by decide +kernel
theorem dX12_ways_161 : decode cX12_ways 161 = .ok (.iconst 1, 1) := by decide +kernel
theorem dX12_ways_162 : decode cX12_ways 162 = .ok (.iadd, 1) := by decide +kernel
theorem dX12_ways_163 : decode cX12_ways 163 = .ok (.iaload, 1) := by decide +kernel
theorem dX12_ways_164 : decode cX12_ways 164 = .ok (.aload_n 0, 1) := by decide +kernel
theorem dX12_ways_165 : decode cX12_ways 165 = .ok (.getfield 98, 3) := by decide +kernel
theorem dX12_ways_168 : decode cX12_ways 168 = .ok (.iload_n 3, 1) := by decide +kernel
theorem dX12_ways_169 : decode cX12_ways 169 = .ok (.iaload, 1) := by decide +kernel
theorem dX12_ways_170 : decode cX12_ways 170 = .ok (.iadd, 1) := by decide +kernel
theorem dX12_ways_171 : decode cX12_ways 171 = .ok (.invokestatic 297, 3) := by decide +kernel
theorem dX12_ways_174 : decode cX12_ways 174 = .ok (.iastore, 1) := by decide +kernel
theorem dX12_ways_175 : decode cX12_ways 175 = .ok (.aload_n 0, 1) := by decide +kernel
theorem dX12_ways_176 : decode cX12_ways 176 = .ok (.getfield 101, 3) := by decide +kernel
theorem dX12_ways_179 : decode cX12_ways 179 = .ok (.iload 5, 2) := by decide +kernel
theorem dX12_ways_181 : decode cX12_ways 181 = .ok (.iconst 1, 1) := by decide +kernel
theorem dX12_ways_182 : decode cX12_ways 182 = .ok (.iadd, 1) := by decide +kernel
theorem dX12_ways_183 : decode cX12_ways 183 = .ok (.iaload, 1) := by decide +kernel
theorem dX12_ways_184 : decode cX12_ways 184 = .ok (.iconst (-1), 1) := by decide +kernel
theorem dX12_ways_185 : decode cX12_ways 185 = .ok (.if_icmp .eq 23, 3) := by decide +kernel
theorem dX12_ways_188 : decode cX12_ways 188 = .ok (.aload_n 0, 1) := by decide +kernel
theorem dX12_ways_189 : decode cX12_ways 189 = .ok (.getfield 101, 3) := by decide +kernel
theorem dX12_ways_192 : decode cX12_ways 192 = .ok (.iload_n 3, 1) := by decide +kernel
theorem dX12_ways_193 : decode cX12_ways 193 = .ok (.iaload, 1) := by decide +kernel
theorem dX12_ways_194 : decode cX12_ways 194 = .ok (.iconst 1, 1) := by decide +kernel
theorem dX12_ways_195 : decode cX12_ways 195 = .ok (.iadd, 1) := by decide +kernel
theorem dX12_ways_196 : decode cX12_ways 196 = .ok (.aload_n 0, 1) := by decide +kernel
theorem dX12_ways_197 : decode cX12_ways 197 = .ok (.getfield 101, 3) := by decide +kernel
theorem dX12_ways_200 : decode cX12_ways 200 = .ok (.iload 5, 2) := by decide +kernel
theorem dX12_ways_202 : decode cX12_ways 202 = .ok (.iconst 1, 1) := by decide +kernel
theorem dX12_ways_203 : decode cX12_ways 203 = .ok (.iadd, 1) := by decide +kernel
theorem dX12_ways_204 : decode cX12_ways 204 = .ok (.iaload, 1) := by decide +kernel
theorem dX12_ways_205 : decode cX12_ways 205 = .ok (.if_icmp .ge 20, 3) := by decide +kernel
theorem dX12_ways_208 : decode cX12_ways 208 = .ok (.aload_n 0, 1) := by decide +kernel
theorem dX12_ways_209 : decode cX12_ways 209 = .ok (.getfield 101, 3) := by decide +kernel
theorem dX12_ways_212 : decode cX12_ways 212 = .ok (.iload 5, 2) := by decide +kernel
theorem dX12_ways_214 : decode cX12_ways 214 = .ok (.iconst 1, 1) := by decide +kernel
theorem dX12_ways_215 : decode cX12_ways 215 = .ok (.iadd, 1) := by decide +kernel
theorem dX12_ways_216 : decode cX12_ways 216 = .ok (.aload_n 0, 1) := by decide +kernel
theorem dX12_ways_217 : decode cX12_ways 217 = .ok (.getfield 101, 3) := by decide +kernel
theorem dX12_ways_220 : decode cX12_ways 220 = .ok (.iload_n 3, 1) := by decide +kernel
theorem dX12_ways_221 : decode cX12_ways 221 = .ok (.iaload, 1) := by decide +kernel
theorem dX12_ways_222 : decode cX12_ways 222 = .ok (.iconst 1, 1) := by decide +kernel
theorem dX12_ways_223 : decode cX12_ways 223 = .ok (.iadd, 1) := by decide +kernel
theorem dX12_ways_224 : decode cX12_ways 224 = .ok (.iastore, 1) := by decide +kernel
theorem dX12_ways_225 : decode cX12_ways 225 = .ok (.iinc 5 1, 3) := by decide +kernel
theorem dX12_ways_228 : decode cX12_ways 228 = .ok (.goto (-154), 3) := by decide +kernel
theorem dX12_ways_231 : decode cX12_ways 231 = .ok (.iinc 3 1, 3) := by decide +kernel
theorem dX12_ways_234 : decode cX12_ways 234 = .ok (.goto (-171), 3) := by decide +kernel
theorem dX12_ways_237 : decode cX12_ways 237 = .ok (.aload_n 0, 1) := by decide +kernel
theorem dX12_ways_238 : decode cX12_ways 238 = .ok (.iconst 0, 1) := by decide +kernel
theorem dX12_ways_239 : decode cX12_ways 239 = .ok (.putfield 127, 3) := by decide +kernel
theorem dX12_ways_242 : decode cX12_ways 242 = .ok (.aload_n 0, 1) := by decide +kernel
theorem dX12_ways_243 : decode cX12_ways 243 = .ok (.aload_n 0, 1) := by decide +kernel
theorem dX12_ways_244 : decode cX12_ways 244 = .ok (.getfield 101, 3) := by decide +kernel
theorem dX12_ways_247 : decode cX12_ways 247 = .ok (.iload_n 2, 1) := by decide +kernel
theorem dX12_ways_248 : decode cX12_ways 248 = .ok (.iaload, 1) := by decide +kernel
theorem dX12_ways_249 : decode cX12_ways 249 = .ok (.i2l, 1) := by decide +kernel
theorem dX12_ways_250 : decode cX12_ways 250 = .ok (.invokevirtual 280, 3) := by decide +kernel
theorem dX12_ways_253 : decode cX12_ways 253 = .ok (.aload_n 0, 1) := by decide +kernel
theorem dX12_ways_254 : decode cX12_ways 254 = .ok (.getfield 98, 3) := by decide +kernel
theorem dX12_ways_257 : decode cX12_ways 257 = .ok (.iload_n 2, 1) := by decide +kernel
theorem dX12_ways_258 : decode cX12_ways 258 = .ok (.iaload, 1) := by decide +kernel
theorem dX12_ways_259 : decode cX12_ways 259 = .ok (.ireturn, 1) := by decide +kernel
theorem dX12_fewest_0 : decode cX12_fewest 0 = .ok (.aload_n 0, 1) := by decide +kernel
theorem dX12_fewest_1 : decode cX12_fewest 1 = .ok (.iconst 0, 1) := by decide +kernel
theorem dX12_fewest_2 : decode cX12_fewest 2 = .ok (.putfield 123, 3) := by decide +kernel
theorem dX12_fewest_5 : decode cX12_fewest 5 = .ok (.aload_n 0, 1) := by decide +kernel
theorem dX12_fewest_6 : decode cX12_fewest 6 = .ok (.iload_n 1, 1) := by decide +kernel
theorem dX12_fewest_7 : decode cX12_fewest 7 = .ok (.iload_n 2, 1) := by decide +kernel
theorem dX12_fewest_8 : decode cX12_fewest 8 = .ok (.invokevirtual 306, 3) := by decide +kernel
theorem dX12_fewest_11 : decode cX12_fewest 11 = .ok (.ifCond .ne 5, 3) := by decide +kernel
theorem dX12_fewest_14 : decode cX12_fewest 14 = .ok (.iconst (-1), 1) := by decide +kernel
theorem dX12_fewest_15 : decode cX12_fewest 15 = .ok (.ireturn, 1) := by decide +kernel
theorem dX12_fewest_16 : decode cX12_fewest 16 = .ok (.iload_n 2, 1) := by decide +kernel
theorem dX12_fewest_17 : decode cX12_fewest 17 = .ok (.istore_n 3, 1) := by decide +kernel
theorem dX12_fewest_18 : decode cX12_fewest 18 = .ok (.iload_n 3, 1) := by decide +kernel
theorem dX12_fewest_19 : decode cX12_fewest 19 = .ok (.iload_n 1, 1) := by decide +kernel
theorem dX12_fewest_20 : decode cX12_fewest 20 = .ok (.if_icmp .lt 158, 3) := by decide +kernel
theorem dX12_fewest_23 : decode cX12_fewest 23 = .ok (.aload_n 0, 1) := by decide +kernel
theorem dX12_fewest_24 : decode cX12_fewest 24 = .ok (.getfield 104, 3) := by decide +kernel
theorem dX12_fewest_27 : decode cX12_fewest 27 = .ok (.iload_n 3, 1) := by decide +kernel
theorem dX12_fewest_28 : decode cX12_fewest 28 = .ok (.iload_n 3, 1) := by decide +kernel
theorem dX12_fewest_29 : decode cX12_fewest 29 = .ok (.iload_n 2, 1) := by decide +kernel
theorem dX12_fewest_30 : decode cX12_fewest 30 = .ok (.if_icmp .ne 7, 3) := by decide +kernel
theorem dX12_fewest_33 : decode cX12_fewest 33 = .ok (.iconst 0, 1) := by decide +kernel
theorem dX12_fewest_34 : decode cX12_fewest 34 = .ok (.goto 4, 3) := by decide +kernel
theorem dX12_fewest_37 : decode cX12_fewest 37 = .ok (.iconst (-1), 1) := by decide +kernel
theorem dX12_fewest_38 : decode cX12_fewest 38 = .ok (.iastore, 1) := by decide +kernel
theorem dX12_fewest_39 : decode cX12_fewest 39 = .ok (.iconst 0, 1) := by decide +kernel
theorem dX12_fewest_40 : decode cX12_fewest 40 = .ok (.istore 4, 2) := by decide +kernel
theorem dX12_fewest_42 : decode cX12_fewest 42 = .ok (.iload_n 3, 1) := by decide +kernel
theorem dX12_fewest_43 : decode cX12_fewest 43 = .ok (.istore 5, 2) := by decide +kernel
theorem dX12_fewest_45 : decode cX12_fewest 45 = .ok (.iload 5, 2) := by decide +kernel
theorem dX12_fewest_47 : decode cX12_fewest 47 = .ok (.iload_n 2, 1) := by decide +kernel
theorem dX12_fewest_48 : decode cX12_fewest 48 = .ok (.if_icmp .ge 124, 3) := by decide +kernel
theorem dX12_fewest_51 : decode cX12_fewest 51 = .ok (.iload 5, 2) := by decide +kernel
theorem dX12_fewest_53 : decode cX12_fewest 53 = .ok (.iload_n 3, 1) := by decide +kernel
theorem dX12_fewest_54 : decode cX12_fewest 54 = .ok (.if_icmp .eq 8, 3) := by decide +kernel
theorem dX12_fewest_57 : decode cX12_fewest 57 = .ok (.iload 4, 2) := by decide +kernel
theorem dX12_fewest_59 : decode cX12_fewest 59 = .ok (.ifCond .eq 113, 3) := by decide +kernel
theorem dX12_fewest_62 : decode cX12_fewest 62 = .ok (.aload_n 0, 1) := by decide +kernel
theorem dX12_fewest_63 : decode cX12_fewest 63 = .ok (.iconst 0, 1) := by decide +kernel
theorem dX12_fewest_64 : decode cX12_fewest 64 = .ok (.iload 4, 2) := by decide +kernel
theorem dX12_fewest_66 : decode cX12_fewest 66 = .ok (.iload 5, 2) := by decide +kernel
theorem dX12_fewest_68 : decode cX12_fewest 68 = .ok (.iload_n 3, 1) := by decide +kernel
theorem dX12_fewest_69 : decode cX12_fewest 69 = .ok (.if_icmp .ne 7, 3) := by decide +kernel
theorem dX12_fewest_72 : decode cX12_fewest 72 = .ok (.iconst 1, 1) := by decide +kernel
theorem dX12_fewest_73 : decode cX12_fewest 73 = .ok (.goto 4, 3) := by decide +kernel
theorem dX12_fewest_76 : decode cX12_fewest 76 = .ok (.iconst 0, 1) := by decide +kernel
theorem dX12_fewest_77 : decode cX12_fewest 77 = .ok (.aload_n 0, 1) := by decide +kernel
theorem dX12_fewest_78 : decode cX12_fewest 78 = .ok (.getfield 9, 3) := by decide +kernel
theorem dX12_fewest_81 : decode cX12_fewest 81 = .ok (.bipush 82, 2) := by decide +kernel
theorem dX12_fewest_83 : decode cX12_fewest 83 = .ok (.iload 5, 2) := by decide +kernel
theorem dX12_fewest_85 : decode cX12_fewest 85 = .ok (.iadd, 1) := by decide +kernel
theorem dX12_fewest_86 : decode cX12_fewest 86 = .ok (.iaload, 1) := by decide +kernel
theorem dX12_fewest_87 : decode cX12_fewest 87 = .ok (.invokevirtual 250, 3) := by decide +kernel
theorem dX12_fewest_90 : decode cX12_fewest 90 = .ok (.istore 4, 2) := by decide +kernel
theorem dX12_fewest_92 : decode cX12_fewest 92 = .ok (.aload_n 0, 1) := by decide +kernel
theorem dX12_fewest_93 : decode cX12_fewest 93 = .ok (.getfield 104, 3) := by decide +kernel
theorem dX12_fewest_96 : decode cX12_fewest 96 = .ok (.iload 5, 2) := by decide +kernel
theorem dX12_fewest_98 : decode cX12_fewest 98 = .ok (.iconst 1, 1) := by decide +kernel
theorem dX12_fewest_99 : decode cX12_fewest 99 = .ok (.iadd, 1) := by decide +kernel
theorem dX12_fewest_100 : decode cX12_fewest 100 = .ok (.iaload, 1) := by decide +kernel
theorem dX12_fewest_101 : decode cX12_fewest 101 = .ok (.istore 6, 2) := by decide +kernel
theorem dX12_fewest_103 : decode cX12_fewest 103 = .ok (.aload_n 0, 1) := by decide +kernel
theorem dX12_fewest_104 : decode cX12_fewest 104 = .ok (.iconst 0, 1) := by decide +kernel
theorem dX12_fewest_105 : decode cX12_fewest 105 = .ok (.iload 4, 2) := by decide +kernel
theorem dX12_fewest_107 : decode cX12_fewest 107 = .ok (.invokevirtual 258, 3) := by decide +kernel
theorem dX12_fewest_110 : decode cX12_fewest 110 = .ok (.iconst (-1), 1) := by decide +kernel
theorem dX12_fewest_111 : decode cX12_fewest 111 = .ok (.if_icmp .eq 55, 3) := by decide +kernel
theorem dX12_fewest_114 : decode cX12_fewest 114 = .ok (.iload 6, 2) := by decide +kernel
theorem dX12_fewest_116 : decode cX12_fewest 116 = .ok (.iconst (-1), 1) := by decide +kernel
theorem dX12_fewest_117 : decode cX12_fewest 117 = .ok (.if_icmp .eq 49, 3) := by decide +kernel
theorem dX12_fewest_120 : decode cX12_fewest 120 = .ok (.aload_n 0, 1) := by decide +kernel
theorem dX12_fewest_121 : decode cX12_fewest 121 = .ok (.getfield 104, 3) := by decide +kernel
theorem dX12_fewest_124 : decode cX12_fewest 124 = .ok (.iload_n 3, 1) := by decide +kernel
theorem dX12_fewest_125 : decode cX12_fewest 125 = .ok (.iaload, 1) := by decide +kernel
theorem dX12_fewest_126 : decode cX12_fewest 126 = .ok (.iconst (-1), 1) := by decide +kernel
theorem dX12_fewest_127 : decode cX12_fewest 127 = .ok (.if_icmp .eq 19, 3) := by decide +kernel
theorem dX12_fewest_130 : decode cX12_fewest 130 = .ok (.aload_n 0, 1) := by decide +kernel
theorem dX12_fewest_131 : decode cX12_fewest 131 = .ok (.getfield 104, 3) := by decide +kernel
theorem dX12_fewest_134 : decode cX12_fewest 134 = .ok (.iload_n 3, 1) := by decide +kernel
theorem dX12_fewest_135 : decode cX12_fewest 135 = .ok (.iaload, 1) := by decide +kernel
theorem dX12_fewest_136 : decode cX12_fewest 136 = .ok (.iload 6, 2) := by decide +kernel
theorem dX12_fewest_138 : decode cX12_fewest 138 = .ok (.iconst 1, 1) := by decide +kernel
theorem dX12_fewest_139 : decode cX12_fewest 139 = .ok (.iadd, 1) := by decide +kernel
theorem dX12_fewest_140 : decode cX12_fewest 140 = .ok (.if_icmp .gt 6, 3) := by decide +kernel
theorem dX12_fewest_143 : decode cX12_fewest 143 = .ok (.goto 23, 3) := by decide +kernel
theorem dX12_fewest_146 : decode cX12_fewest 146 = .ok (.aload_n 0, 1) := by decide +kernel
theorem dX12_fewest_147 : decode cX12_fewest 147 = .ok (.getfield 104, 3) := by decide +kernel
theorem dX12_fewest_150 : decode cX12_fewest 150 = .ok (.iload_n 3, 1) := by decide +kernel
theorem dX12_fewest_151 : decode cX12_fewest 151 = .ok (.iload 6, 2) := by decide +kernel
theorem dX12_fewest_153 : decode cX12_fewest 153 = .ok (.iconst 1, 1) := by decide +kernel
theorem dX12_fewest_154 : decode cX12_fewest 154 = .ok (.iadd, 1) := by decide +kernel
theorem dX12_fewest_155 : decode cX12_fewest 155 = .ok (.iastore, 1) := by decide +kernel
theorem dX12_fewest_156 : decode cX12_fewest 156 = .ok (.aload_n 0, 1) := by decide +kernel
theorem dX12_fewest_157 : decode cX12_fewest 157 = .ok (.getfield 107, 3) := by decide +kernel
theorem dX12_fewest_160 : decode cX12_fewest 160 = .ok (.iload_n 3, 1) := by decide +kernel
theorem dX12_fewest_161 : decode cX12_fewest 161 = .ok (.iload 5, 2) := by decide +kernel
theorem dX12_fewest_163 : decode cX12_fewest 163 = .ok (.iconst 1, 1) := by decide +kernel
theorem dX12_fewest_164 : decode cX12_fewest 164 = .ok (.iadd, 1) := by decide +kernel
theorem dX12_fewest_165 : decode cX12_fewest 165 = .ok (.iastore, 1) := by decide +kernel
theorem dX12_fewest_166 : decode cX12_fewest 166 = .ok (.iinc 5 1, 3) := by decide +kernel
theorem dX12_fewest_169 : decode cX12_fewest 169 = .ok (.goto (-124), 3) := by decide +kernel
theorem dX12_fewest_172 : decode cX12_fewest 172 = .ok (.iinc 3 (-1), 3) := by decide +kernel
theorem dX12_fewest_175 : decode cX12_fewest 175 = .ok (.goto (-157), 3) := by decide +kernel
theorem dX12_fewest_178 : decode cX12_fewest 178 = .ok (.aload_n 0, 1) := by decide +kernel
theorem dX12_fewest_179 : decode cX12_fewest 179 = .ok (.getfield 104, 3) := by decide +kernel
theorem dX12_fewest_182 : decode cX12_fewest 182 = .ok (.iload_n 1, 1) := by decide +kernel
theorem dX12_fewest_183 : decode cX12_fewest 183 = .ok (.iaload, 1) := by decide +kernel
theorem dX12_fewest_184 : decode cX12_fewest 184 = .ok (.iconst (-1), 1) := by decide +kernel
theorem dX12_fewest_185 : decode cX12_fewest 185 = .ok (.if_icmp .ne 6, 3) := by decide +kernel
theorem dX12_fewest_188 : decode cX12_fewest 188 = .ok (.bipush (-2), 2) := by decide +kernel
theorem dX12_fewest_190 : decode cX12_fewest 190 = .ok (.ireturn, 1) := by decide +kernel
theorem dX12_fewest_191 : decode cX12_fewest 191 = .ok (.aload_n 0, 1) := by decide +kernel
theorem dX12_fewest_192 : decode cX12_fewest 192 = .ok (.iconst 0, 1) := by decide +kernel
theorem dX12_fewest_193 : decode cX12_fewest 193 = .ok (.putfield 127, 3) := by decide +kernel
theorem dX12_fewest_196 : decode cX12_fewest 196 = .ok (.iload_n 1, 1) := by decide +kernel
theorem dX12_fewest_197 : decode cX12_fewest 197 = .ok (.istore_n 3, 1) := by decide +kernel
theorem dX12_fewest_198 : decode cX12_fewest 198 = .ok (.iload_n 3, 1) := by decide +kernel
theorem dX12_fewest_199 : decode cX12_fewest 199 = .ok (.iload_n 2, 1) := by decide +kernel
theorem dX12_fewest_200 : decode cX12_fewest 200 = .ok (.if_icmp .ge 24, 3) := by decide +kernel
theorem dX12_fewest_203 : decode cX12_fewest 203 = .ok (.aload_n 0, 1) := by decide +kernel
theorem dX12_fewest_204 : decode cX12_fewest 204 = .ok (.aload_n 0, 1) := by decide +kernel
theorem dX12_fewest_205 : decode cX12_fewest 205 = .ok (.getfield 107, 3) := by decide +kernel
theorem dX12_fewest_208 : decode cX12_fewest 208 = .ok (.iload_n 3, 1) := by decide +kernel
theorem dX12_fewest_209 : decode cX12_fewest 209 = .ok (.iaload, 1) := by decide +kernel
theorem dX12_fewest_210 : decode cX12_fewest 210 = .ok (.i2l, 1) := by decide +kernel
theorem dX12_fewest_211 : decode cX12_fewest 211 = .ok (.invokevirtual 280, 3) := by decide +kernel
theorem dX12_fewest_214 : decode cX12_fewest 214 = .ok (.aload_n 0, 1) := by decide +kernel
theorem dX12_fewest_215 : decode cX12_fewest 215 = .ok (.getfield 107, 3) := by decide +kernel
theorem dX12_fewest_218 : decode cX12_fewest 218 = .ok (.iload_n 3, 1) := by decide +kernel
theorem dX12_fewest_219 : decode cX12_fewest 219 = .ok (.iaload, 1) := by decide +kernel
theorem dX12_fewest_220 : decode cX12_fewest 220 = .ok (.istore_n 3, 1) := by decide +kernel
theorem dX12_fewest_221 : decode cX12_fewest 221 = .ok (.goto (-23), 3) := by decide +kernel
theorem dX12_fewest_224 : decode cX12_fewest 224 = .ok (.aload_n 0, 1) := by decide +kernel
theorem dX12_fewest_225 : decode cX12_fewest 225 = .ok (.getfield 104, 3) := by decide +kernel
theorem dX12_fewest_228 : decode cX12_fewest 228 = .ok (.iload_n 1, 1) := by decide +kernel
theorem dX12_fewest_229 : decode cX12_fewest 229 = .ok (.iaload, 1) := by decide +kernel
theorem dX12_fewest_230 : decode cX12_fewest 230 = .ok (.ireturn, 1) := by decide +kernel
theorem dX12_touched_0 : decode cX12_touched 0 = .ok (.aload_n 0, 1) := by decide +kernel
theorem dX12_touched_1 : decode cX12_touched 1 = .ok (.iconst 0, 1) := by decide +kernel
theorem dX12_touched_2 : decode cX12_touched 2 = .ok (.putfield 123, 3) := by decide +kernel
theorem dX12_touched_5 : decode cX12_touched 5 = .ok (.iload_n 1, 1) := by decide +kernel
theorem dX12_touched_6 : decode cX12_touched 6 = .ok (.iconst 0, 1) := by decide +kernel
theorem dX12_touched_7 : decode cX12_touched 7 = .ok (.aload_n 0, 1) := by decide +kernel
theorem dX12_touched_8 : decode cX12_touched 8 = .ok (.getfield 9, 3) := by decide +kernel
theorem dX12_touched_11 : decode cX12_touched 11 = .ok (.bipush 81, 2) := by decide +kernel
theorem dX12_touched_13 : decode cX12_touched 13 = .ok (.iaload, 1) := by decide +kernel
theorem dX12_touched_14 : decode cX12_touched 14 = .ok (.iconst 1, 1) := by decide +kernel
theorem dX12_touched_15 : decode cX12_touched 15 = .ok (.isub, 1) := by decide +kernel
theorem dX12_touched_16 : decode cX12_touched 16 = .ok (.invokestatic 133, 3) := by decide +kernel
theorem dX12_touched_19 : decode cX12_touched 19 = .ok (.ifCond .ne 5, 3) := by decide +kernel
theorem dX12_touched_22 : decode cX12_touched 22 = .ok (.iconst (-1), 1) := by decide +kernel
theorem dX12_touched_23 : decode cX12_touched 23 = .ok (.ireturn, 1) := by decide +kernel
theorem dX12_touched_24 : decode cX12_touched 24 = .ok (.aload_n 0, 1) := by decide +kernel
theorem dX12_touched_25 : decode cX12_touched 25 = .ok (.iconst 0, 1) := by decide +kernel
theorem dX12_touched_26 : decode cX12_touched 26 = .ok (.invokevirtual 274, 3) := by decide +kernel
theorem dX12_touched_29 : decode cX12_touched 29 = .ok (.iconst 0, 1) := by decide +kernel
theorem dX12_touched_30 : decode cX12_touched 30 = .ok (.istore_n 2, 1) := by decide +kernel
theorem dX12_touched_31 : decode cX12_touched 31 = .ok (.aload_n 0, 1) := by decide +kernel
theorem dX12_touched_32 : decode cX12_touched 32 = .ok (.iload_n 2, 1) := by decide +kernel
theorem dX12_touched_33 : decode cX12_touched 33 = .ok (.iconst 3, 1) := by decide +kernel
theorem dX12_touched_34 : decode cX12_touched 34 = .ok (.invokevirtual 277, 3) := by decide +kernel
theorem dX12_touched_37 : decode cX12_touched 37 = .ok (.iload_n 1, 1) := by decide +kernel
theorem dX12_touched_38 : decode cX12_touched 38 = .ok (.if_icmp .gt 9, 3) := by decide +kernel
theorem dX12_touched_41 : decode cX12_touched 41 = .ok (.iinc 2 1, 3) := by decide +kernel
theorem dX12_touched_44 : decode cX12_touched 44 = .ok (.goto (-13), 3) := by decide +kernel
theorem dX12_touched_47 : decode cX12_touched 47 = .ok (.aload_n 0, 1) := by decide +kernel
theorem dX12_touched_48 : decode cX12_touched 48 = .ok (.iconst 0, 1) := by decide +kernel
theorem dX12_touched_49 : decode cX12_touched 49 = .ok (.putfield 127, 3) := by decide +kernel
theorem dX12_touched_52 : decode cX12_touched 52 = .ok (.aload_n 0, 1) := by decide +kernel
theorem dX12_touched_53 : decode cX12_touched 53 = .ok (.iload_n 2, 1) := by decide +kernel
theorem dX12_touched_54 : decode cX12_touched 54 = .ok (.i2l, 1) := by decide +kernel
theorem dX12_touched_55 : decode cX12_touched 55 = .ok (.invokevirtual 280, 3) := by decide +kernel
theorem dX12_touched_58 : decode cX12_touched 58 = .ok (.aload_n 0, 1) := by decide +kernel
theorem dX12_touched_59 : decode cX12_touched 59 = .ok (.aload_n 0, 1) := by decide +kernel
theorem dX12_touched_60 : decode cX12_touched 60 = .ok (.iload_n 2, 1) := by decide +kernel
theorem dX12_touched_61 : decode cX12_touched 61 = .ok (.iconst 1, 1) := by decide +kernel
theorem dX12_touched_62 : decode cX12_touched 62 = .ok (.invokevirtual 277, 3) := by decide +kernel
theorem dX12_touched_65 : decode cX12_touched 65 = .ok (.i2l, 1) := by decide +kernel
theorem dX12_touched_66 : decode cX12_touched 66 = .ok (.invokevirtual 280, 3) := by decide +kernel
theorem dX12_touched_69 : decode cX12_touched 69 = .ok (.aload_n 0, 1) := by decide +kernel
theorem dX12_touched_70 : decode cX12_touched 70 = .ok (.getfield 238, 3) := by decide +kernel
theorem dX12_touched_73 : decode cX12_touched 73 = .ok (.iload_n 2, 1) := by decide +kernel
theorem dX12_touched_74 : decode cX12_touched 74 = .ok (.isub, 1) := by decide +kernel
theorem dX12_touched_75 : decode cX12_touched 75 = .ok (.ireturn, 1) := by decide +kernel
theorem dX12_same_0 : decode cX12_same 0 = .ok (.aload_n 0, 1) := by decide +kernel
theorem dX12_same_1 : decode cX12_same 1 = .ok (.iconst 0, 1) := by decide +kernel
theorem dX12_same_2 : decode cX12_same 2 = .ok (.putfield 123, 3) := by decide +kernel
theorem dX12_same_5 : decode cX12_same 5 = .ok (.iload_n 1, 1) := by decide +kernel
theorem dX12_same_6 : decode cX12_same 6 = .ok (.invokestatic 293, 3) := by decide +kernel
theorem dX12_same_9 : decode cX12_same 9 = .ok (.ifCond .eq 35, 3) := by decide +kernel
theorem dX12_same_12 : decode cX12_same 12 = .ok (.aload_n 0, 1) := by decide +kernel
theorem dX12_same_13 : decode cX12_same 13 = .ok (.iload_n 2, 1) := by decide +kernel
theorem dX12_same_14 : decode cX12_same 14 = .ok (.iload_n 3, 1) := by decide +kernel
theorem dX12_same_15 : decode cX12_same 15 = .ok (.invokevirtual 306, 3) := by decide +kernel
theorem dX12_same_18 : decode cX12_same 18 = .ok (.ifCond .eq 26, 3) := by decide +kernel
theorem dX12_same_21 : decode cX12_same 21 = .ok (.aload_n 0, 1) := by decide +kernel
theorem dX12_same_22 : decode cX12_same 22 = .ok (.iload 4, 2) := by decide +kernel
theorem dX12_same_24 : decode cX12_same 24 = .ok (.iload 5, 2) := by decide +kernel
theorem dX12_same_26 : decode cX12_same 26 = .ok (.invokevirtual 306, 3) := by decide +kernel
theorem dX12_same_29 : decode cX12_same 29 = .ok (.ifCond .eq 15, 3) := by decide +kernel
theorem dX12_same_32 : decode cX12_same 32 = .ok (.iload_n 2, 1) := by decide +kernel
theorem dX12_same_33 : decode cX12_same 33 = .ok (.iload_n 3, 1) := by decide +kernel
theorem dX12_same_34 : decode cX12_same 34 = .ok (.if_icmp .eq 10, 3) := by decide +kernel
theorem dX12_same_37 : decode cX12_same 37 = .ok (.iload 4, 2) := by decide +kernel
theorem dX12_same_39 : decode cX12_same 39 = .ok (.iload 5, 2) := by decide +kernel
theorem dX12_same_41 : decode cX12_same 41 = .ok (.if_icmp .ne 5, 3) := by decide +kernel
theorem dX12_same_44 : decode cX12_same 44 = .ok (.iconst (-1), 1) := by decide +kernel
theorem dX12_same_45 : decode cX12_same 45 = .ok (.ireturn, 1) := by decide +kernel
theorem dX12_same_46 : decode cX12_same 46 = .ok (.aload_n 0, 1) := by decide +kernel
theorem dX12_same_47 : decode cX12_same 47 = .ok (.iload_n 1, 1) := by decide +kernel
theorem dX12_same_48 : decode cX12_same 48 = .ok (.iload_n 2, 1) := by decide +kernel
theorem dX12_same_49 : decode cX12_same 49 = .ok (.iload_n 3, 1) := by decide +kernel
theorem dX12_same_50 : decode cX12_same 50 = .ok (.invokevirtual 303, 3) := by decide +kernel
theorem dX12_same_53 : decode cX12_same 53 = .ok (.istore 6, 2) := by decide +kernel
theorem dX12_same_55 : decode cX12_same 55 = .ok (.aload_n 0, 1) := by decide +kernel
theorem dX12_same_56 : decode cX12_same 56 = .ok (.iload_n 1, 1) := by decide +kernel
theorem dX12_same_57 : decode cX12_same 57 = .ok (.iload 4, 2) := by decide +kernel
theorem dX12_same_59 : decode cX12_same 59 = .ok (.iload 5, 2) := by decide +kernel
theorem dX12_same_61 : decode cX12_same 61 = .ok (.invokevirtual 303, 3) := by decide +kernel
theorem dX12_same_64 : decode cX12_same 64 = .ok (.istore 7, 2) := by decide +kernel
theorem dX12_same_66 : decode cX12_same 66 = .ok (.aload_n 0, 1) := by decide +kernel
theorem dX12_same_67 : decode cX12_same 67 = .ok (.iconst 0, 1) := by decide +kernel
theorem dX12_same_68 : decode cX12_same 68 = .ok (.putfield 127, 3) := by decide +kernel
theorem dX12_same_71 : decode cX12_same 71 = .ok (.aload_n 0, 1) := by decide +kernel
theorem dX12_same_72 : decode cX12_same 72 = .ok (.iload 6, 2) := by decide +kernel
theorem dX12_same_74 : decode cX12_same 74 = .ok (.iload 7, 2) := by decide +kernel
theorem dX12_same_76 : decode cX12_same 76 = .ok (.iand, 1) := by decide +kernel
theorem dX12_same_77 : decode cX12_same 77 = .ok (.invokestatic 313, 3) := by decide +kernel
theorem dX12_same_80 : decode cX12_same 80 = .ok (.i2l, 1) := by decide +kernel
theorem dX12_same_81 : decode cX12_same 81 = .ok (.invokevirtual 280, 3) := by decide +kernel
theorem dX12_same_84 : decode cX12_same 84 = .ok (.iload 6, 2) := by decide +kernel
theorem dX12_same_86 : decode cX12_same 86 = .ok (.iload 7, 2) := by decide +kernel
theorem dX12_same_88 : decode cX12_same 88 = .ok (.if_icmp .ne 7, 3) := by decide +kernel
theorem dX12_same_91 : decode cX12_same 91 = .ok (.iconst 1, 1) := by decide +kernel
theorem dX12_same_92 : decode cX12_same 92 = .ok (.goto 4, 3) := by decide +kernel
theorem dX12_same_95 : decode cX12_same 95 = .ok (.iconst 0, 1) := by decide +kernel
theorem dX12_same_96 : decode cX12_same 96 = .ok (.ireturn, 1) := by decide +kernel
theorem dX12_change_0 : decode cX12_change 0 = .ok (.iconst 0, 1) := by decide +kernel
theorem dX12_change_1 : decode cX12_change 1 = .ok (.istore_n 1, 1) := by decide +kernel
theorem dX12_change_2 : decode cX12_change 2 = .ok (.iload_n 1, 1) := by decide +kernel
theorem dX12_change_3 : decode cX12_change 3 = .ok (.bipush 106, 2) := by decide +kernel
theorem dX12_change_5 : decode cX12_change 5 = .ok (.if_icmp .ge 21, 3) := by decide +kernel
theorem dX12_change_8 : decode cX12_change 8 = .ok (.aload_n 0, 1) := by decide +kernel
theorem dX12_change_9 : decode cX12_change 9 = .ok (.getfield 113, 3) := by decide +kernel
theorem dX12_change_12 : decode cX12_change 12 = .ok (.iload_n 1, 1) := by decide +kernel
theorem dX12_change_13 : decode cX12_change 13 = .ok (.aload_n 0, 1) := by decide +kernel
theorem dX12_change_14 : decode cX12_change 14 = .ok (.getfield 9, 3) := by decide +kernel
theorem dX12_change_17 : decode cX12_change 17 = .ok (.iload_n 1, 1) := by decide +kernel
theorem dX12_change_18 : decode cX12_change 18 = .ok (.iaload, 1) := by decide +kernel
theorem dX12_change_19 : decode cX12_change 19 = .ok (.iastore, 1) := by decide +kernel
theorem dX12_change_20 : decode cX12_change 20 = .ok (.iinc 1 1, 3) := by decide +kernel
theorem dX12_change_23 : decode cX12_change 23 = .ok (.goto (-21), 3) := by decide +kernel
theorem dX12_change_26 : decode cX12_change 26 = .ok (.aload_n 0, 1) := by decide +kernel
theorem dX12_change_27 : decode cX12_change 27 = .ok (.invokevirtual 335, 3) := by decide +kernel
theorem dX12_change_30 : decode cX12_change 30 = .ok (.return_, 1) := by decide +kernel
theorem dX12_note_0 : decode cX12_note 0 = .ok (.aload_n 0, 1) := by decide +kernel
theorem dX12_note_1 : decode cX12_note 1 = .ok (.getfield 338, 3) := by decide +kernel
theorem dX12_note_4 : decode cX12_note 4 = .ok (.bipush 10, 2) := by decide +kernel
theorem dX12_note_6 : decode cX12_note 6 = .ok (.if_icmp .ne 43, 3) := by decide +kernel
theorem dX12_note_9 : decode cX12_note 9 = .ok (.iconst 0, 1) := by decide +kernel
theorem dX12_note_10 : decode cX12_note 10 = .ok (.istore_n 1, 1) := by decide +kernel
theorem dX12_note_11 : decode cX12_note 11 = .ok (.iload_n 1, 1) := by decide +kernel
theorem dX12_note_12 : decode cX12_note 12 = .ok (.sipush 954, 3) := by decide +kernel
theorem dX12_note_15 : decode cX12_note 15 = .ok (.if_icmp .ge 24, 3) := by decide +kernel
theorem dX12_note_18 : decode cX12_note 18 = .ok (.aload_n 0, 1) := by decide +kernel
theorem dX12_note_19 : decode cX12_note 19 = .ok (.getfield 110, 3) := by decide +kernel
theorem dX12_note_22 : decode cX12_note 22 = .ok (.iload_n 1, 1) := by decide +kernel
theorem dX12_note_23 : decode cX12_note 23 = .ok (.aload_n 0, 1) := by decide +kernel
theorem dX12_note_24 : decode cX12_note 24 = .ok (.getfield 110, 3) := by decide +kernel
theorem dX12_note_27 : decode cX12_note 27 = .ok (.iload_n 1, 1) := by decide +kernel
theorem dX12_note_28 : decode cX12_note 28 = .ok (.bipush 106, 2) := by decide +kernel
theorem dX12_note_30 : decode cX12_note 30 = .ok (.iadd, 1) := by decide +kernel
theorem dX12_note_31 : decode cX12_note 31 = .ok (.iaload, 1) := by decide +kernel
theorem dX12_note_32 : decode cX12_note 32 = .ok (.iastore, 1) := by decide +kernel
theorem dX12_note_33 : decode cX12_note 33 = .ok (.iinc 1 1, 3) := by decide +kernel
theorem dX12_note_36 : decode cX12_note 36 = .ok (.goto (-25), 3) := by decide +kernel
theorem dX12_note_39 : decode cX12_note 39 = .ok (.aload_n 0, 1) := by decide +kernel
theorem dX12_note_40 : decode cX12_note 40 = .ok (.dup, 1) := by decide +kernel
theorem dX12_note_41 : decode cX12_note 41 = .ok (.getfield 338, 3) := by decide +kernel
theorem dX12_note_44 : decode cX12_note 44 = .ok (.iconst 1, 1) := by decide +kernel
theorem dX12_note_45 : decode cX12_note 45 = .ok (.isub, 1) := by decide +kernel
theorem dX12_note_46 : decode cX12_note 46 = .ok (.putfield 338, 3) := by decide +kernel
theorem dX12_note_49 : decode cX12_note 49 = .ok (.iconst 0, 1) := by decide +kernel
theorem dX12_note_50 : decode cX12_note 50 = .ok (.istore_n 1, 1) := by decide +kernel
theorem dX12_note_51 : decode cX12_note 51 = .ok (.iload_n 1, 1) := by decide +kernel
theorem dX12_note_52 : decode cX12_note 52 = .ok (.bipush 106, 2) := by decide +kernel
theorem dX12_note_54 : decode cX12_note 54 = .ok (.if_icmp .ge 29, 3) := by decide +kernel
theorem dX12_note_57 : decode cX12_note 57 = .ok (.aload_n 0, 1) := by decide +kernel
theorem dX12_note_58 : decode cX12_note 58 = .ok (.getfield 110, 3) := by decide +kernel
theorem dX12_note_61 : decode cX12_note 61 = .ok (.bipush 106, 2) := by decide +kernel
theorem dX12_note_63 : decode cX12_note 63 = .ok (.aload_n 0, 1) := by decide +kernel
theorem dX12_note_64 : decode cX12_note 64 = .ok (.getfield 338, 3) := by decide +kernel
theorem dX12_note_67 : decode cX12_note 67 = .ok (.imul, 1) := by decide +kernel
theorem dX12_note_68 : decode cX12_note 68 = .ok (.iload_n 1, 1) := by decide +kernel
theorem dX12_note_69 : decode cX12_note 69 = .ok (.iadd, 1) := by decide +kernel
theorem dX12_note_70 : decode cX12_note 70 = .ok (.aload_n 0, 1) := by decide +kernel
theorem dX12_note_71 : decode cX12_note 71 = .ok (.getfield 113, 3) := by decide +kernel
theorem dX12_note_74 : decode cX12_note 74 = .ok (.iload_n 1, 1) := by decide +kernel
theorem dX12_note_75 : decode cX12_note 75 = .ok (.iaload, 1) := by decide +kernel
theorem dX12_note_76 : decode cX12_note 76 = .ok (.iastore, 1) := by decide +kernel
theorem dX12_note_77 : decode cX12_note 77 = .ok (.iinc 1 1, 3) := by decide +kernel
theorem dX12_note_80 : decode cX12_note 80 = .ok (.goto (-29), 3) := by decide +kernel
theorem dX12_note_83 : decode cX12_note 83 = .ok (.aload_n 0, 1) := by decide +kernel
theorem dX12_note_84 : decode cX12_note 84 = .ok (.dup, 1) := by decide +kernel
theorem dX12_note_85 : decode cX12_note 85 = .ok (.getfield 338, 3) := by decide +kernel
theorem dX12_note_88 : decode cX12_note 88 = .ok (.iconst 1, 1) := by decide +kernel
theorem dX12_note_89 : decode cX12_note 89 = .ok (.iadd, 1) := by decide +kernel
theorem dX12_note_90 : decode cX12_note 90 = .ok (.putfield 338, 3) := by decide +kernel
theorem dX12_note_93 : decode cX12_note 93 = .ok (.return_, 1) := by decide +kernel
theorem dX12_refusesBecome_0 : decode cX12_refusesBecome 0 = .ok (.iload_n 1, 1) := by decide +kernel
theorem dX12_refusesBecome_1 : decode cX12_refusesBecome 1 = .ok (.iconst 0, 1) := by decide +kernel
theorem dX12_refusesBecome_2 : decode cX12_refusesBecome 2 = .ok (.aload_n 0, 1) := by decide +kernel
theorem dX12_refusesBecome_3 : decode cX12_refusesBecome 3 = .ok (.getfield 9, 3) := by decide +kernel
theorem dX12_refusesBecome_6 : decode cX12_refusesBecome 6 = .ok (.bipush 81, 2) := by decide +kernel
theorem dX12_refusesBecome_8 : decode cX12_refusesBecome 8 = .ok (.iaload, 1) := by decide +kernel
theorem dX12_refusesBecome_9 : decode cX12_refusesBecome 9 = .ok (.iconst 1, 1) := by decide +kernel
theorem dX12_refusesBecome_10 : decode cX12_refusesBecome 10 = .ok (.isub, 1) := by decide +kernel
theorem dX12_refusesBecome_11 : decode cX12_refusesBecome 11 = .ok (.invokestatic 133, 3) := by decide +kernel
theorem dX12_refusesBecome_14 : decode cX12_refusesBecome 14 = .ok (.ifCond .eq 13, 3) := by decide +kernel
theorem dX12_refusesBecome_17 : decode cX12_refusesBecome 17 = .ok (.iload_n 2, 1) := by decide +kernel
theorem dX12_refusesBecome_18 : decode cX12_refusesBecome 18 = .ok (.iconst 0, 1) := by decide +kernel
theorem dX12_refusesBecome_19 : decode cX12_refusesBecome 19 = .ok (.bipush 7, 2) := by decide +kernel
theorem dX12_refusesBecome_21 : decode cX12_refusesBecome 21 = .ok (.invokestatic 133, 3) := by decide +kernel
theorem dX12_refusesBecome_24 : decode cX12_refusesBecome 24 = .ok (.ifCond .ne 5, 3) := by decide +kernel
theorem dX12_refusesBecome_27 : decode cX12_refusesBecome 27 = .ok (.iconst (-1), 1) := by decide +kernel
theorem dX12_refusesBecome_28 : decode cX12_refusesBecome 28 = .ok (.ireturn, 1) := by decide +kernel
theorem dX12_refusesBecome_29 : decode cX12_refusesBecome 29 = .ok (.aload_n 0, 1) := by decide +kernel
theorem dX12_refusesBecome_30 : decode cX12_refusesBecome 30 = .ok (.getfield 9, 3) := by decide +kernel
theorem dX12_refusesBecome_33 : decode cX12_refusesBecome 33 = .ok (.bipush 82, 2) := by decide +kernel
theorem dX12_refusesBecome_35 : decode cX12_refusesBecome 35 = .ok (.iload_n 1, 1) := by decide +kernel
theorem dX12_refusesBecome_36 : decode cX12_refusesBecome 36 = .ok (.iadd, 1) := by decide +kernel
theorem dX12_refusesBecome_37 : decode cX12_refusesBecome 37 = .ok (.iaload, 1) := by decide +kernel
theorem dX12_refusesBecome_38 : decode cX12_refusesBecome 38 = .ok (.iload_n 2, 1) := by decide +kernel
theorem dX12_refusesBecome_39 : decode cX12_refusesBecome 39 = .ok (.if_icmp .ne 8, 3) := by decide +kernel
theorem dX12_refusesBecome_42 : decode cX12_refusesBecome 42 = .ok (.bipush (-2), 2) := by decide +kernel
theorem dX12_refusesBecome_44 : decode cX12_refusesBecome 44 = .ok (.goto 4, 3) := by decide +kernel
theorem dX12_refusesBecome_47 : decode cX12_refusesBecome 47 = .ok (.iconst 0, 1) := by decide +kernel
theorem dX12_refusesBecome_48 : decode cX12_refusesBecome 48 = .ok (.ireturn, 1) := by decide +kernel
theorem dX12_refusesCome_0 : decode cX12_refusesCome 0 = .ok (.iload_n 1, 1) := by decide +kernel
theorem dX12_refusesCome_1 : decode cX12_refusesCome 1 = .ok (.iconst 0, 1) := by decide +kernel
theorem dX12_refusesCome_2 : decode cX12_refusesCome 2 = .ok (.aload_n 0, 1) := by decide +kernel
theorem dX12_refusesCome_3 : decode cX12_refusesCome 3 = .ok (.getfield 9, 3) := by decide +kernel
theorem dX12_refusesCome_6 : decode cX12_refusesCome 6 = .ok (.bipush 81, 2) := by decide +kernel
theorem dX12_refusesCome_8 : decode cX12_refusesCome 8 = .ok (.iaload, 1) := by decide +kernel
theorem dX12_refusesCome_9 : decode cX12_refusesCome 9 = .ok (.invokestatic 133, 3) := by decide +kernel
theorem dX12_refusesCome_12 : decode cX12_refusesCome 12 = .ok (.ifCond .eq 13, 3) := by decide +kernel
theorem dX12_refusesCome_15 : decode cX12_refusesCome 15 = .ok (.iload_n 2, 1) := by decide +kernel
theorem dX12_refusesCome_16 : decode cX12_refusesCome 16 = .ok (.iconst 0, 1) := by decide +kernel
theorem dX12_refusesCome_17 : decode cX12_refusesCome 17 = .ok (.bipush 7, 2) := by decide +kernel
theorem dX12_refusesCome_19 : decode cX12_refusesCome 19 = .ok (.invokestatic 133, 3) := by decide +kernel
theorem dX12_refusesCome_22 : decode cX12_refusesCome 22 = .ok (.ifCond .ne 5, 3) := by decide +kernel
theorem dX12_refusesCome_25 : decode cX12_refusesCome 25 = .ok (.iconst (-1), 1) := by decide +kernel
theorem dX12_refusesCome_26 : decode cX12_refusesCome 26 = .ok (.ireturn, 1) := by decide +kernel
theorem dX12_refusesCome_27 : decode cX12_refusesCome 27 = .ok (.aload_n 0, 1) := by decide +kernel
theorem dX12_refusesCome_28 : decode cX12_refusesCome 28 = .ok (.getfield 9, 3) := by decide +kernel
theorem dX12_refusesCome_31 : decode cX12_refusesCome 31 = .ok (.bipush 81, 2) := by decide +kernel
theorem dX12_refusesCome_33 : decode cX12_refusesCome 33 = .ok (.iaload, 1) := by decide +kernel
theorem dX12_refusesCome_34 : decode cX12_refusesCome 34 = .ok (.bipush 24, 2) := by decide +kernel
theorem dX12_refusesCome_36 : decode cX12_refusesCome 36 = .ok (.if_icmp .ne 8, 3) := by decide +kernel
theorem dX12_refusesCome_39 : decode cX12_refusesCome 39 = .ok (.bipush (-3), 2) := by decide +kernel
theorem dX12_refusesCome_41 : decode cX12_refusesCome 41 = .ok (.goto 4, 3) := by decide +kernel
theorem dX12_refusesCome_44 : decode cX12_refusesCome 44 = .ok (.iconst 0, 1) := by decide +kernel
theorem dX12_refusesCome_45 : decode cX12_refusesCome 45 = .ok (.ireturn, 1) := by decide +kernel
theorem dX12_refuses_0 : decode cX12_refuses 0 = .ok (.iload_n 1, 1) := by decide +kernel
theorem dX12_refuses_1 : decode cX12_refuses 1 = .ok (.ifCond .ne 12, 3) := by decide +kernel
theorem dX12_refuses_4 : decode cX12_refuses 4 = .ok (.aload_n 0, 1) := by decide +kernel
theorem dX12_refuses_5 : decode cX12_refuses 5 = .ok (.iload_n 2, 1) := by decide +kernel
theorem dX12_refuses_6 : decode cX12_refuses 6 = .ok (.iload_n 3, 1) := by decide +kernel
theorem dX12_refuses_7 : decode cX12_refuses 7 = .ok (.invokevirtual 341, 3) := by decide +kernel
theorem dX12_refuses_10 : decode cX12_refuses 10 = .ok (.goto 39, 3) := by decide +kernel
theorem dX12_refuses_13 : decode cX12_refuses 13 = .ok (.iload_n 1, 1) := by decide +kernel
theorem dX12_refuses_14 : decode cX12_refuses 14 = .ok (.iconst 1, 1) := by decide +kernel
theorem dX12_refuses_15 : decode cX12_refuses 15 = .ok (.if_icmp .ne 12, 3) := by decide +kernel
theorem dX12_refuses_18 : decode cX12_refuses 18 = .ok (.aload_n 0, 1) := by decide +kernel
theorem dX12_refuses_19 : decode cX12_refuses 19 = .ok (.iload_n 2, 1) := by decide +kernel
theorem dX12_refuses_20 : decode cX12_refuses 20 = .ok (.iload_n 3, 1) := by decide +kernel
theorem dX12_refuses_21 : decode cX12_refuses 21 = .ok (.invokevirtual 344, 3) := by decide +kernel
theorem dX12_refuses_24 : decode cX12_refuses 24 = .ok (.goto 25, 3) := by decide +kernel
theorem dX12_refuses_27 : decode cX12_refuses 27 = .ok (.iload_n 2, 1) := by decide +kernel
theorem dX12_refuses_28 : decode cX12_refuses 28 = .ok (.iconst 0, 1) := by decide +kernel
theorem dX12_refuses_29 : decode cX12_refuses 29 = .ok (.aload_n 0, 1) := by decide +kernel
theorem dX12_refuses_30 : decode cX12_refuses 30 = .ok (.getfield 9, 3) := by decide +kernel
theorem dX12_refuses_33 : decode cX12_refuses 33 = .ok (.bipush 81, 2) := by decide +kernel
theorem dX12_refuses_35 : decode cX12_refuses 35 = .ok (.iaload, 1) := by decide +kernel
theorem dX12_refuses_36 : decode cX12_refuses 36 = .ok (.iconst 1, 1) := by decide +kernel
theorem dX12_refuses_37 : decode cX12_refuses 37 = .ok (.isub, 1) := by decide +kernel
theorem dX12_refuses_38 : decode cX12_refuses 38 = .ok (.invokestatic 133, 3) := by decide +kernel
theorem dX12_refuses_41 : decode cX12_refuses 41 = .ok (.ifCond .eq 7, 3) := by decide +kernel
theorem dX12_refuses_44 : decode cX12_refuses 44 = .ok (.iconst 0, 1) := by decide +kernel
theorem dX12_refuses_45 : decode cX12_refuses 45 = .ok (.goto 4, 3) := by decide +kernel
theorem dX12_refuses_48 : decode cX12_refuses 48 = .ok (.iconst (-1), 1) := by decide +kernel
theorem dX12_refuses_49 : decode cX12_refuses 49 = .ok (.ireturn, 1) := by decide +kernel
theorem dX12_doChange_0 : decode cX12_doChange 0 = .ok (.iload_n 1, 1) := by decide +kernel
theorem dX12_doChange_1 : decode cX12_doChange 1 = .ok (.ifCond .ne 13, 3) := by decide +kernel
theorem dX12_doChange_4 : decode cX12_doChange 4 = .ok (.aload_n 0, 1) := by decide +kernel
theorem dX12_doChange_5 : decode cX12_doChange 5 = .ok (.getfield 9, 3) := by decide +kernel
theorem dX12_doChange_8 : decode cX12_doChange 8 = .ok (.bipush 82, 2) := by decide +kernel
theorem dX12_doChange_10 : decode cX12_doChange 10 = .ok (.iload_n 2, 1) := by decide +kernel
theorem dX12_doChange_11 : decode cX12_doChange 11 = .ok (.iadd, 1) := by decide +kernel
theorem dX12_doChange_12 : decode cX12_doChange 12 = .ok (.iload_n 3, 1) := by decide +kernel
theorem dX12_doChange_13 : decode cX12_doChange 13 = .ok (.iastore, 1) := by decide +kernel
theorem dX12_doChange_14 : decode cX12_doChange 14 = .ok (.iload_n 1, 1) := by decide +kernel
theorem dX12_doChange_15 : decode cX12_doChange 15 = .ok (.iconst 1, 1) := by decide +kernel
theorem dX12_doChange_16 : decode cX12_doChange 16 = .ok (.if_icmp .ne 67, 3) := by decide +kernel
theorem dX12_doChange_19 : decode cX12_doChange 19 = .ok (.aload_n 0, 1) := by decide +kernel
theorem dX12_doChange_20 : decode cX12_doChange 20 = .ok (.getfield 9, 3) := by decide +kernel
theorem dX12_doChange_23 : decode cX12_doChange 23 = .ok (.bipush 81, 2) := by decide +kernel
theorem dX12_doChange_25 : decode cX12_doChange 25 = .ok (.iaload, 1) := by decide +kernel
theorem dX12_doChange_26 : decode cX12_doChange 26 = .ok (.istore 4, 2) := by decide +kernel
theorem dX12_doChange_28 : decode cX12_doChange 28 = .ok (.iload 4, 2) := by decide +kernel
theorem dX12_doChange_30 : decode cX12_doChange 30 = .ok (.iload_n 2, 1) := by decide +kernel
theorem dX12_doChange_31 : decode cX12_doChange 31 = .ok (.if_icmp .le 31, 3) := by decide +kernel
theorem dX12_doChange_34 : decode cX12_doChange 34 = .ok (.aload_n 0, 1) := by decide +kernel
theorem dX12_doChange_35 : decode cX12_doChange 35 = .ok (.getfield 9, 3) := by decide +kernel
theorem dX12_doChange_38 : decode cX12_doChange 38 = .ok (.bipush 82, 2) := by decide +kernel
theorem dX12_doChange_40 : decode cX12_doChange 40 = .ok (.iload 4, 2) := by decide +kernel
theorem dX12_doChange_42 : decode cX12_doChange 42 = .ok (.iadd, 1) := by decide +kernel
theorem dX12_doChange_43 : decode cX12_doChange 43 = .ok (.aload_n 0, 1) := by decide +kernel
theorem dX12_doChange_44 : decode cX12_doChange 44 = .ok (.getfield 9, 3) := by decide +kernel
theorem dX12_doChange_47 : decode cX12_doChange 47 = .ok (.bipush 82, 2) := by decide +kernel
theorem dX12_doChange_49 : decode cX12_doChange 49 = .ok (.iload 4, 2) := by decide +kernel
theorem dX12_doChange_51 : decode cX12_doChange 51 = .ok (.iadd, 1) := by decide +kernel
theorem dX12_doChange_52 : decode cX12_doChange 52 = .ok (.iconst 1, 1) := by decide +kernel
theorem dX12_doChange_53 : decode cX12_doChange 53 = .ok (.isub, 1) := by decide +kernel
theorem dX12_doChange_54 : decode cX12_doChange 54 = .ok (.iaload, 1) := by decide +kernel
theorem dX12_doChange_55 : decode cX12_doChange 55 = .ok (.iastore, 1) := by decide +kernel
theorem dX12_doChange_56 : decode cX12_doChange 56 = .ok (.iinc 4 (-1), 3) := by decide +kernel
theorem dX12_doChange_59 : decode cX12_doChange 59 = .ok (.goto (-31), 3) := by decide +kernel
theorem dX12_doChange_62 : decode cX12_doChange 62 = .ok (.aload_n 0, 1) := by decide +kernel
theorem dX12_doChange_63 : decode cX12_doChange 63 = .ok (.getfield 9, 3) := by decide +kernel
theorem dX12_doChange_66 : decode cX12_doChange 66 = .ok (.bipush 82, 2) := by decide +kernel
theorem dX12_doChange_68 : decode cX12_doChange 68 = .ok (.iload_n 2, 1) := by decide +kernel
theorem dX12_doChange_69 : decode cX12_doChange 69 = .ok (.iadd, 1) := by decide +kernel
theorem dX12_doChange_70 : decode cX12_doChange 70 = .ok (.iload_n 3, 1) := by decide +kernel
theorem dX12_doChange_71 : decode cX12_doChange 71 = .ok (.iastore, 1) := by decide +kernel
theorem dX12_doChange_72 : decode cX12_doChange 72 = .ok (.aload_n 0, 1) := by decide +kernel
theorem dX12_doChange_73 : decode cX12_doChange 73 = .ok (.getfield 9, 3) := by decide +kernel
theorem dX12_doChange_76 : decode cX12_doChange 76 = .ok (.bipush 81, 2) := by decide +kernel
theorem dX12_doChange_78 : decode cX12_doChange 78 = .ok (.dup2, 1) := by decide +kernel
theorem dX12_doChange_79 : decode cX12_doChange 79 = .ok (.iaload, 1) := by decide +kernel
theorem dX12_doChange_80 : decode cX12_doChange 80 = .ok (.iconst 1, 1) := by decide +kernel
theorem dX12_doChange_81 : decode cX12_doChange 81 = .ok (.iadd, 1) := by decide +kernel
theorem dX12_doChange_82 : decode cX12_doChange 82 = .ok (.iastore, 1) := by decide +kernel
theorem dX12_doChange_83 : decode cX12_doChange 83 = .ok (.iload_n 1, 1) := by decide +kernel
theorem dX12_doChange_84 : decode cX12_doChange 84 = .ok (.iconst 2, 1) := by decide +kernel
theorem dX12_doChange_85 : decode cX12_doChange 85 = .ok (.if_icmp .eq 4, 3) := by decide +kernel
theorem dX12_doChange_88 : decode cX12_doChange 88 = .ok (.return_, 1) := by decide +kernel
theorem dX12_doChange_89 : decode cX12_doChange 89 = .ok (.iload_n 2, 1) := by decide +kernel
theorem dX12_doChange_90 : decode cX12_doChange 90 = .ok (.istore 4, 2) := by decide +kernel
theorem dX12_doChange_92 : decode cX12_doChange 92 = .ok (.iload 4, 2) := by decide +kernel
theorem dX12_doChange_94 : decode cX12_doChange 94 = .ok (.aload_n 0, 1) := by decide +kernel
theorem dX12_doChange_95 : decode cX12_doChange 95 = .ok (.getfield 9, 3) := by decide +kernel
theorem dX12_doChange_98 : decode cX12_doChange 98 = .ok (.bipush 81, 2) := by decide +kernel
theorem dX12_doChange_100 : decode cX12_doChange 100 = .ok (.iaload, 1) := by decide +kernel
theorem dX12_doChange_101 : decode cX12_doChange 101 = .ok (.iconst 1, 1) := by decide +kernel
theorem dX12_doChange_102 : decode cX12_doChange 102 = .ok (.isub, 1) := by decide +kernel
theorem dX12_doChange_103 : decode cX12_doChange 103 = .ok (.if_icmp .ge 31, 3) := by decide +kernel
theorem dX12_doChange_106 : decode cX12_doChange 106 = .ok (.aload_n 0, 1) := by decide +kernel
theorem dX12_doChange_107 : decode cX12_doChange 107 = .ok (.getfield 9, 3) := by decide +kernel
theorem dX12_doChange_110 : decode cX12_doChange 110 = .ok (.bipush 82, 2) := by decide +kernel
theorem dX12_doChange_112 : decode cX12_doChange 112 = .ok (.iload 4, 2) := by decide +kernel
theorem dX12_doChange_114 : decode cX12_doChange 114 = .ok (.iadd, 1) := by decide +kernel
theorem dX12_doChange_115 : decode cX12_doChange 115 = .ok (.aload_n 0, 1) := by decide +kernel
theorem dX12_doChange_116 : decode cX12_doChange 116 = .ok (.getfield 9, 3) := by decide +kernel
theorem dX12_doChange_119 : decode cX12_doChange 119 = .ok (.bipush 82, 2) := by decide +kernel
theorem dX12_doChange_121 : decode cX12_doChange 121 = .ok (.iload 4, 2) := by decide +kernel
theorem dX12_doChange_123 : decode cX12_doChange 123 = .ok (.iadd, 1) := by decide +kernel
theorem dX12_doChange_124 : decode cX12_doChange 124 = .ok (.iconst 1, 1) := by decide +kernel
theorem dX12_doChange_125 : decode cX12_doChange 125 = .ok (.iadd, 1) := by decide +kernel
theorem dX12_doChange_126 : decode cX12_doChange 126 = .ok (.iaload, 1) := by decide +kernel
theorem dX12_doChange_127 : decode cX12_doChange 127 = .ok (.iastore, 1) := by decide +kernel
theorem dX12_doChange_128 : decode cX12_doChange 128 = .ok (.iinc 4 1, 3) := by decide +kernel
theorem dX12_doChange_131 : decode cX12_doChange 131 = .ok (.goto (-39), 3) := by decide +kernel
theorem dX12_doChange_134 : decode cX12_doChange 134 = .ok (.aload_n 0, 1) := by decide +kernel
theorem dX12_doChange_135 : decode cX12_doChange 135 = .ok (.getfield 9, 3) := by decide +kernel
theorem dX12_doChange_138 : decode cX12_doChange 138 = .ok (.bipush 81, 2) := by decide +kernel
theorem dX12_doChange_140 : decode cX12_doChange 140 = .ok (.dup2, 1) := by decide +kernel
theorem dX12_doChange_141 : decode cX12_doChange 141 = .ok (.iaload, 1) := by decide +kernel
theorem dX12_doChange_142 : decode cX12_doChange 142 = .ok (.iconst 1, 1) := by decide +kernel
theorem dX12_doChange_143 : decode cX12_doChange 143 = .ok (.isub, 1) := by decide +kernel
theorem dX12_doChange_144 : decode cX12_doChange 144 = .ok (.iastore, 1) := by decide +kernel
theorem dX12_doChange_145 : decode cX12_doChange 145 = .ok (.aload_n 0, 1) := by decide +kernel
theorem dX12_doChange_146 : decode cX12_doChange 146 = .ok (.getfield 9, 3) := by decide +kernel
theorem dX12_doChange_149 : decode cX12_doChange 149 = .ok (.bipush 82, 2) := by decide +kernel
theorem dX12_doChange_151 : decode cX12_doChange 151 = .ok (.aload_n 0, 1) := by decide +kernel
theorem dX12_doChange_152 : decode cX12_doChange 152 = .ok (.getfield 9, 3) := by decide +kernel
theorem dX12_doChange_155 : decode cX12_doChange 155 = .ok (.bipush 81, 2) := by decide +kernel
theorem dX12_doChange_157 : decode cX12_doChange 157 = .ok (.iaload, 1) := by decide +kernel
theorem dX12_doChange_158 : decode cX12_doChange 158 = .ok (.iadd, 1) := by decide +kernel
theorem dX12_doChange_159 : decode cX12_doChange 159 = .ok (.iconst 0, 1) := by decide +kernel
theorem dX12_doChange_160 : decode cX12_doChange 160 = .ok (.iastore, 1) := by decide +kernel
theorem dX12_doChange_161 : decode cX12_doChange 161 = .ok (.return_, 1) := by decide +kernel
theorem dX12_oldAt_0 : decode cX12_oldAt 0 = .ok (.iconst 0, 1) := by decide +kernel
theorem dX12_oldAt_1 : decode cX12_oldAt 1 = .ok (.istore_n 2, 1) := by decide +kernel
theorem dX12_oldAt_2 : decode cX12_oldAt 2 = .ok (.iload_n 2, 1) := by decide +kernel
theorem dX12_oldAt_3 : decode cX12_oldAt 3 = .ok (.aload_n 0, 1) := by decide +kernel
theorem dX12_oldAt_4 : decode cX12_oldAt 4 = .ok (.getfield 287, 3) := by decide +kernel
theorem dX12_oldAt_7 : decode cX12_oldAt 7 = .ok (.if_icmp .ge 110, 3) := by decide +kernel
theorem dX12_oldAt_10 : decode cX12_oldAt 10 = .ok (.aload_n 0, 1) := by decide +kernel
theorem dX12_oldAt_11 : decode cX12_oldAt 11 = .ok (.getfield 80, 3) := by decide +kernel
theorem dX12_oldAt_14 : decode cX12_oldAt 14 = .ok (.bipush 12, 2) := by decide +kernel
theorem dX12_oldAt_16 : decode cX12_oldAt 16 = .ok (.iload_n 2, 1) := by decide +kernel
theorem dX12_oldAt_17 : decode cX12_oldAt 17 = .ok (.imul, 1) := by decide +kernel
theorem dX12_oldAt_18 : decode cX12_oldAt 18 = .ok (.iconst 2, 1) := by decide +kernel
theorem dX12_oldAt_19 : decode cX12_oldAt 19 = .ok (.iadd, 1) := by decide +kernel
theorem dX12_oldAt_20 : decode cX12_oldAt 20 = .ok (.iaload, 1) := by decide +kernel
theorem dX12_oldAt_21 : decode cX12_oldAt 21 = .ok (.iload_n 1, 1) := by decide +kernel
theorem dX12_oldAt_22 : decode cX12_oldAt 22 = .ok (.if_icmp .ne 89, 3) := by decide +kernel
theorem dX12_oldAt_25 : decode cX12_oldAt 25 = .ok (.aload_n 0, 1) := by decide +kernel
theorem dX12_oldAt_26 : decode cX12_oldAt 26 = .ok (.getfield 80, 3) := by decide +kernel
theorem dX12_oldAt_29 : decode cX12_oldAt 29 = .ok (.bipush 12, 2) := by decide +kernel
theorem dX12_oldAt_31 : decode cX12_oldAt 31 = .ok (.iload_n 2, 1) := by decide +kernel
theorem dX12_oldAt_32 : decode cX12_oldAt 32 = .ok (.imul, 1) := by decide +kernel
theorem dX12_oldAt_33 : decode cX12_oldAt 33 = .ok (.iconst 5, 1) := by decide +kernel
theorem dX12_oldAt_34 : decode cX12_oldAt 34 = .ok (.iadd, 1) := by decide +kernel
theorem dX12_oldAt_35 : decode cX12_oldAt 35 = .ok (.iaload, 1) := by decide +kernel
theorem dX12_oldAt_36 : decode cX12_oldAt 36 = .ok (.aload_n 0, 1) := by decide +kernel
theorem dX12_oldAt_37 : decode cX12_oldAt 37 = .ok (.getfield 232, 3) := by decide +kernel
theorem dX12_oldAt_40 : decode cX12_oldAt 40 = .ok (.if_icmp .eq 6, 3) := by decide +kernel
theorem dX12_oldAt_43 : decode cX12_oldAt 43 = .ok (.goto 68, 3) := by decide +kernel
theorem dX12_oldAt_46 : decode cX12_oldAt 46 = .ok (.iconst 1, 1) := by decide +kernel
theorem dX12_oldAt_47 : decode cX12_oldAt 47 = .ok (.istore_n 3, 1) := by decide +kernel
theorem dX12_oldAt_48 : decode cX12_oldAt 48 = .ok (.iconst 0, 1) := by decide +kernel
theorem dX12_oldAt_49 : decode cX12_oldAt 49 = .ok (.istore 4, 2) := by decide +kernel
theorem dX12_oldAt_51 : decode cX12_oldAt 51 = .ok (.iload 4, 2) := by decide +kernel
theorem dX12_oldAt_53 : decode cX12_oldAt 53 = .ok (.aload_n 0, 1) := by decide +kernel
theorem dX12_oldAt_54 : decode cX12_oldAt 54 = .ok (.getfield 232, 3) := by decide +kernel
theorem dX12_oldAt_57 : decode cX12_oldAt 57 = .ok (.if_icmp .ge 44, 3) := by decide +kernel
theorem dX12_oldAt_60 : decode cX12_oldAt 60 = .ok (.iload_n 3, 1) := by decide +kernel
theorem dX12_oldAt_61 : decode cX12_oldAt 61 = .ok (.ifCond .eq 32, 3) := by decide +kernel
theorem dX12_oldAt_64 : decode cX12_oldAt 64 = .ok (.aload_n 0, 1) := by decide +kernel
theorem dX12_oldAt_65 : decode cX12_oldAt 65 = .ok (.getfield 80, 3) := by decide +kernel
theorem dX12_oldAt_68 : decode cX12_oldAt 68 = .ok (.bipush 12, 2) := by decide +kernel
theorem dX12_oldAt_70 : decode cX12_oldAt 70 = .ok (.iload_n 2, 1) := by decide +kernel
theorem dX12_oldAt_71 : decode cX12_oldAt 71 = .ok (.imul, 1) := by decide +kernel
theorem dX12_oldAt_72 : decode cX12_oldAt 72 = .ok (.bipush 7, 2) := by decide +kernel
theorem dX12_oldAt_74 : decode cX12_oldAt 74 = .ok (.iadd, 1) := by decide +kernel
theorem dX12_oldAt_75 : decode cX12_oldAt 75 = .ok (.iload 4, 2) := by decide +kernel
theorem dX12_oldAt_77 : decode cX12_oldAt 77 = .ok (.iadd, 1) := by decide +kernel
theorem dX12_oldAt_78 : decode cX12_oldAt 78 = .ok (.iaload, 1) := by decide +kernel
theorem dX12_oldAt_79 : decode cX12_oldAt 79 = .ok (.aload_n 0, 1) := by decide +kernel
theorem dX12_oldAt_80 : decode cX12_oldAt 80 = .ok (.getfield 58, 3) := by decide +kernel
theorem dX12_oldAt_83 : decode cX12_oldAt 83 = .ok (.iload 4, 2) := by decide +kernel
theorem dX12_oldAt_85 : decode cX12_oldAt 85 = .ok (.iaload, 1) := by decide +kernel
theorem dX12_oldAt_86 : decode cX12_oldAt 86 = .ok (.if_icmp .ne 7, 3) := by decide +kernel
theorem dX12_oldAt_89 : decode cX12_oldAt 89 = .ok (.iconst 1, 1) := by decide +kernel
theorem dX12_oldAt_90 : decode cX12_oldAt 90 = .ok (.goto 4, 3) := by decide +kernel
theorem dX12_oldAt_93 : decode cX12_oldAt 93 = .ok (.iconst 0, 1) := by decide +kernel
theorem dX12_oldAt_94 : decode cX12_oldAt 94 = .ok (.istore_n 3, 1) := by decide +kernel
theorem dX12_oldAt_95 : decode cX12_oldAt 95 = .ok (.iinc 4 1, 3) := by decide +kernel
theorem dX12_oldAt_98 : decode cX12_oldAt 98 = .ok (.goto (-47), 3) := by decide +kernel
theorem dX12_oldAt_101 : decode cX12_oldAt 101 = .ok (.iload_n 3, 1) := by decide +kernel
theorem dX12_oldAt_102 : decode cX12_oldAt 102 = .ok (.ifCond .eq 7, 3) := by decide +kernel
theorem dX12_oldAt_105 : decode cX12_oldAt 105 = .ok (.iload_n 2, 1) := by decide +kernel
theorem dX12_oldAt_106 : decode cX12_oldAt 106 = .ok (.goto 4, 3) := by decide +kernel
theorem dX12_oldAt_109 : decode cX12_oldAt 109 = .ok (.iconst (-1), 1) := by decide +kernel
theorem dX12_oldAt_110 : decode cX12_oldAt 110 = .ok (.ireturn, 1) := by decide +kernel
theorem dX12_oldAt_111 : decode cX12_oldAt 111 = .ok (.iinc 2 1, 3) := by decide +kernel
theorem dX12_oldAt_114 : decode cX12_oldAt 114 = .ok (.goto (-112), 3) := by decide +kernel
theorem dX12_oldAt_117 : decode cX12_oldAt 117 = .ok (.iconst (-1), 1) := by decide +kernel
theorem dX12_oldAt_118 : decode cX12_oldAt 118 = .ok (.ireturn, 1) := by decide +kernel
theorem dX12_changed_0 : decode cX12_changed 0 = .ok (.aload_n 0, 1) := by decide +kernel
theorem dX12_changed_1 : decode cX12_changed 1 = .ok (.iconst 0, 1) := by decide +kernel
theorem dX12_changed_2 : decode cX12_changed 2 = .ok (.putfield 123, 3) := by decide +kernel
theorem dX12_changed_5 : decode cX12_changed 5 = .ok (.aload_n 0, 1) := by decide +kernel
theorem dX12_changed_6 : decode cX12_changed 6 = .ok (.iload_n 1, 1) := by decide +kernel
theorem dX12_changed_7 : decode cX12_changed 7 = .ok (.iload_n 2, 1) := by decide +kernel
theorem dX12_changed_8 : decode cX12_changed 8 = .ok (.iload_n 3, 1) := by decide +kernel
theorem dX12_changed_9 : decode cX12_changed 9 = .ok (.invokevirtual 347, 3) := by decide +kernel
theorem dX12_changed_12 : decode cX12_changed 12 = .ok (.istore 4, 2) := by decide +kernel
theorem dX12_changed_14 : decode cX12_changed 14 = .ok (.iload 4, 2) := by decide +kernel
theorem dX12_changed_16 : decode cX12_changed 16 = .ok (.ifCond .ge 6, 3) := by decide +kernel
theorem dX12_changed_19 : decode cX12_changed 19 = .ok (.iload 4, 2) := by decide +kernel
theorem dX12_changed_21 : decode cX12_changed 21 = .ok (.ireturn, 1) := by decide +kernel
theorem dX12_changed_22 : decode cX12_changed 22 = .ok (.aload_n 0, 1) := by decide +kernel
theorem dX12_changed_23 : decode cX12_changed 23 = .ok (.iconst 0, 1) := by decide +kernel
theorem dX12_changed_24 : decode cX12_changed 24 = .ok (.invokevirtual 274, 3) := by decide +kernel
theorem dX12_changed_27 : decode cX12_changed 27 = .ok (.aload_n 0, 1) := by decide +kernel
theorem dX12_changed_28 : decode cX12_changed 28 = .ok (.invokevirtual 290, 3) := by decide +kernel
theorem dX12_changed_31 : decode cX12_changed 31 = .ok (.aload_n 0, 1) := by decide +kernel
theorem dX12_changed_32 : decode cX12_changed 32 = .ok (.invokevirtual 220, 3) := by decide +kernel
theorem dX12_changed_35 : decode cX12_changed 35 = .ok (.aload_n 0, 1) := by decide +kernel
theorem dX12_changed_36 : decode cX12_changed 36 = .ok (.iload_n 1, 1) := by decide +kernel
theorem dX12_changed_37 : decode cX12_changed 37 = .ok (.iload_n 2, 1) := by decide +kernel
theorem dX12_changed_38 : decode cX12_changed 38 = .ok (.iload_n 3, 1) := by decide +kernel
theorem dX12_changed_39 : decode cX12_changed 39 = .ok (.invokevirtual 350, 3) := by decide +kernel
theorem dX12_changed_42 : decode cX12_changed 42 = .ok (.iconst 0, 1) := by decide +kernel
theorem dX12_changed_43 : decode cX12_changed 43 = .ok (.istore 5, 2) := by decide +kernel
theorem dX12_changed_45 : decode cX12_changed 45 = .ok (.iload 5, 2) := by decide +kernel
theorem dX12_changed_47 : decode cX12_changed 47 = .ok (.aload_n 0, 1) := by decide +kernel
theorem dX12_changed_48 : decode cX12_changed 48 = .ok (.getfield 287, 3) := by decide +kernel
theorem dX12_changed_51 : decode cX12_changed 51 = .ok (.if_icmp .ge 25, 3) := by decide +kernel
theorem dX12_changed_54 : decode cX12_changed 54 = .ok (.aload_n 0, 1) := by decide +kernel
theorem dX12_changed_55 : decode cX12_changed 55 = .ok (.getfield 80, 3) := by decide +kernel
theorem dX12_changed_58 : decode cX12_changed 58 = .ok (.bipush 12, 2) := by decide +kernel
theorem dX12_changed_60 : decode cX12_changed 60 = .ok (.iload 5, 2) := by decide +kernel
theorem dX12_changed_62 : decode cX12_changed 62 = .ok (.imul, 1) := by decide +kernel
theorem dX12_changed_63 : decode cX12_changed 63 = .ok (.iconst 3, 1) := by decide +kernel
theorem dX12_changed_64 : decode cX12_changed 64 = .ok (.iadd, 1) := by decide +kernel
theorem dX12_changed_65 : decode cX12_changed 65 = .ok (.iaload, 1) := by decide +kernel
theorem dX12_changed_66 : decode cX12_changed 66 = .ok (.iload_n 2, 1) := by decide +kernel
theorem dX12_changed_67 : decode cX12_changed 67 = .ok (.if_icmp .gt 9, 3) := by decide +kernel
theorem dX12_changed_70 : decode cX12_changed 70 = .ok (.iinc 5 1, 3) := by decide +kernel
theorem dX12_changed_73 : decode cX12_changed 73 = .ok (.goto (-28), 3) := by decide +kernel
theorem dX12_changed_76 : decode cX12_changed 76 = .ok (.aload_n 0, 1) := by decide +kernel
theorem dX12_changed_77 : decode cX12_changed 77 = .ok (.invokevirtual 264, 3) := by decide +kernel
theorem dX12_changed_80 : decode cX12_changed 80 = .ok (.iload 5, 2) := by decide +kernel
theorem dX12_changed_82 : decode cX12_changed 82 = .ok (.ifCond .le 76, 3) := by decide +kernel
theorem dX12_changed_85 : decode cX12_changed 85 = .ok (.bipush 12, 2) := by decide +kernel
theorem dX12_changed_87 : decode cX12_changed 87 = .ok (.iload 5, 2) := by decide +kernel
theorem dX12_changed_89 : decode cX12_changed 89 = .ok (.iconst 1, 1) := by decide +kernel
theorem dX12_changed_90 : decode cX12_changed 90 = .ok (.isub, 1) := by decide +kernel
theorem dX12_changed_91 : decode cX12_changed 91 = .ok (.imul, 1) := by decide +kernel
theorem dX12_changed_92 : decode cX12_changed 92 = .ok (.istore 6, 2) := by decide +kernel
theorem dX12_changed_94 : decode cX12_changed 94 = .ok (.aload_n 0, 1) := by decide +kernel
theorem dX12_changed_95 : decode cX12_changed 95 = .ok (.aload_n 0, 1) := by decide +kernel
theorem dX12_changed_96 : decode cX12_changed 96 = .ok (.getfield 80, 3) := by decide +kernel
theorem dX12_changed_99 : decode cX12_changed 99 = .ok (.iload 6, 2) := by decide +kernel
theorem dX12_changed_101 : decode cX12_changed 101 = .ok (.iconst 2, 1) := by decide +kernel
theorem dX12_changed_102 : decode cX12_changed 102 = .ok (.iadd, 1) := by decide +kernel
theorem dX12_changed_103 : decode cX12_changed 103 = .ok (.iaload, 1) := by decide +kernel
theorem dX12_changed_104 : decode cX12_changed 104 = .ok (.putfield 229, 3) := by decide +kernel
theorem dX12_changed_107 : decode cX12_changed 107 = .ok (.aload_n 0, 1) := by decide +kernel
theorem dX12_changed_108 : decode cX12_changed 108 = .ok (.aload_n 0, 1) := by decide +kernel
theorem dX12_changed_109 : decode cX12_changed 109 = .ok (.getfield 80, 3) := by decide +kernel
theorem dX12_changed_112 : decode cX12_changed 112 = .ok (.iload 6, 2) := by decide +kernel
theorem dX12_changed_114 : decode cX12_changed 114 = .ok (.iconst 5, 1) := by decide +kernel
theorem dX12_changed_115 : decode cX12_changed 115 = .ok (.iadd, 1) := by decide +kernel
theorem dX12_changed_116 : decode cX12_changed 116 = .ok (.iaload, 1) := by decide +kernel
theorem dX12_changed_117 : decode cX12_changed 117 = .ok (.putfield 232, 3) := by decide +kernel
theorem dX12_changed_120 : decode cX12_changed 120 = .ok (.iconst 0, 1) := by decide +kernel
theorem dX12_changed_121 : decode cX12_changed 121 = .ok (.istore 7, 2) := by decide +kernel
theorem dX12_changed_123 : decode cX12_changed 123 = .ok (.iload 7, 2) := by decide +kernel
theorem dX12_changed_125 : decode cX12_changed 125 = .ok (.aload_n 0, 1) := by decide +kernel
theorem dX12_changed_126 : decode cX12_changed 126 = .ok (.getfield 232, 3) := by decide +kernel
theorem dX12_changed_129 : decode cX12_changed 129 = .ok (.if_icmp .ge 29, 3) := by decide +kernel
theorem dX12_changed_132 : decode cX12_changed 132 = .ok (.aload_n 0, 1) := by decide +kernel
theorem dX12_changed_133 : decode cX12_changed 133 = .ok (.getfield 58, 3) := by decide +kernel
theorem dX12_changed_136 : decode cX12_changed 136 = .ok (.iload 7, 2) := by decide +kernel
theorem dX12_changed_138 : decode cX12_changed 138 = .ok (.aload_n 0, 1) := by decide +kernel
theorem dX12_changed_139 : decode cX12_changed 139 = .ok (.getfield 80, 3) := by decide +kernel
theorem dX12_changed_142 : decode cX12_changed 142 = .ok (.iload 6, 2) := by decide +kernel
theorem dX12_changed_144 : decode cX12_changed 144 = .ok (.bipush 7, 2) := by decide +kernel
theorem dX12_changed_146 : decode cX12_changed 146 = .ok (.iadd, 1) := by decide +kernel
theorem dX12_changed_147 : decode cX12_changed 147 = .ok (.iload 7, 2) := by decide +kernel
theorem dX12_changed_149 : decode cX12_changed 149 = .ok (.iadd, 1) := by decide +kernel
theorem dX12_changed_150 : decode cX12_changed 150 = .ok (.iaload, 1) := by decide +kernel
theorem dX12_changed_151 : decode cX12_changed 151 = .ok (.iastore, 1) := by decide +kernel
theorem dX12_changed_152 : decode cX12_changed 152 = .ok (.iinc 7 1, 3) := by decide +kernel
theorem dX12_changed_155 : decode cX12_changed 155 = .ok (.goto (-32), 3) := by decide +kernel
theorem dX12_changed_158 : decode cX12_changed 158 = .ok (.iconst 0, 1) := by decide +kernel
theorem dX12_changed_159 : decode cX12_changed 159 = .ok (.istore 6, 2) := by decide +kernel
theorem dX12_changed_161 : decode cX12_changed 161 = .ok (.iconst (-1), 1) := by decide +kernel
theorem dX12_changed_162 : decode cX12_changed 162 = .ok (.istore 7, 2) := by decide +kernel
theorem dX12_changed_164 : decode cX12_changed 164 = .ok (.iload 7, 2) := by decide +kernel
theorem dX12_changed_166 : decode cX12_changed 166 = .ok (.iconst (-1), 1) := by decide +kernel
theorem dX12_changed_167 : decode cX12_changed 167 = .ok (.if_icmp .ne 90, 3) := by decide +kernel
theorem dX12_changed_170 : decode cX12_changed 170 = .ok (.aload_n 0, 1) := by decide +kernel
theorem dX12_changed_171 : decode cX12_changed 171 = .ok (.getfield 229, 3) := by decide +kernel
theorem dX12_changed_174 : decode cX12_changed 174 = .ok (.aload_n 0, 1) := by decide +kernel
theorem dX12_changed_175 : decode cX12_changed 175 = .ok (.getfield 9, 3) := by decide +kernel
theorem dX12_changed_178 : decode cX12_changed 178 = .ok (.bipush 81, 2) := by decide +kernel
theorem dX12_changed_180 : decode cX12_changed 180 = .ok (.iaload, 1) := by decide +kernel
theorem dX12_changed_181 : decode cX12_changed 181 = .ok (.if_icmp .ge 76, 3) := by decide +kernel
theorem dX12_changed_184 : decode cX12_changed 184 = .ok (.aload_n 0, 1) := by decide +kernel
theorem dX12_changed_185 : decode cX12_changed 185 = .ok (.iconst 0, 1) := by decide +kernel
theorem dX12_changed_186 : decode cX12_changed 186 = .ok (.invokevirtual 270, 3) := by decide +kernel
theorem dX12_changed_189 : decode cX12_changed 189 = .ok (.iinc 6 1, 3) := by decide +kernel
theorem dX12_changed_192 : decode cX12_changed 192 = .ok (.iload_n 1, 1) := by decide +kernel
theorem dX12_changed_193 : decode cX12_changed 193 = .ok (.ifCond .ne 10, 3) := by decide +kernel
theorem dX12_changed_196 : decode cX12_changed 196 = .ok (.aload_n 0, 1) := by decide +kernel
theorem dX12_changed_197 : decode cX12_changed 197 = .ok (.getfield 229, 3) := by decide +kernel
theorem dX12_changed_200 : decode cX12_changed 200 = .ok (.goto 23, 3) := by decide +kernel
theorem dX12_changed_203 : decode cX12_changed 203 = .ok (.iload_n 1, 1) := by decide +kernel
theorem dX12_changed_204 : decode cX12_changed 204 = .ok (.iconst 1, 1) := by decide +kernel
theorem dX12_changed_205 : decode cX12_changed 205 = .ok (.if_icmp .ne 12, 3) := by decide +kernel
theorem dX12_changed_208 : decode cX12_changed 208 = .ok (.aload_n 0, 1) := by decide +kernel
theorem dX12_changed_209 : decode cX12_changed 209 = .ok (.getfield 229, 3) := by decide +kernel
theorem dX12_changed_212 : decode cX12_changed 212 = .ok (.iconst 1, 1) := by decide +kernel
theorem dX12_changed_213 : decode cX12_changed 213 = .ok (.isub, 1) := by decide +kernel
theorem dX12_changed_214 : decode cX12_changed 214 = .ok (.goto 9, 3) := by decide +kernel
theorem dX12_changed_217 : decode cX12_changed 217 = .ok (.aload_n 0, 1) := by decide +kernel
theorem dX12_changed_218 : decode cX12_changed 218 = .ok (.getfield 229, 3) := by decide +kernel
theorem dX12_changed_221 : decode cX12_changed 221 = .ok (.iconst 1, 1) := by decide +kernel
theorem dX12_changed_222 : decode cX12_changed 222 = .ok (.iadd, 1) := by decide +kernel
theorem dX12_changed_223 : decode cX12_changed 223 = .ok (.istore 8, 2) := by decide +kernel
theorem dX12_changed_225 : decode cX12_changed 225 = .ok (.iload_n 2, 1) := by decide +kernel
theorem dX12_changed_226 : decode cX12_changed 226 = .ok (.aload_n 0, 1) := by decide +kernel
theorem dX12_changed_227 : decode cX12_changed 227 = .ok (.getfield 229, 3) := by decide +kernel
theorem dX12_changed_230 : decode cX12_changed 230 = .ok (.if_icmp .lt 16, 3) := by decide +kernel
theorem dX12_changed_233 : decode cX12_changed 233 = .ok (.iload_n 1, 1) := by decide +kernel
theorem dX12_changed_234 : decode cX12_changed 234 = .ok (.iconst 2, 1) := by decide +kernel
theorem dX12_changed_235 : decode cX12_changed 235 = .ok (.if_icmp .ne 19, 3) := by decide +kernel
theorem dX12_changed_238 : decode cX12_changed 238 = .ok (.iload_n 2, 1) := by decide +kernel
theorem dX12_changed_239 : decode cX12_changed 239 = .ok (.aload_n 0, 1) := by decide +kernel
theorem dX12_changed_240 : decode cX12_changed 240 = .ok (.getfield 229, 3) := by decide +kernel
theorem dX12_changed_243 : decode cX12_changed 243 = .ok (.if_icmp .ne 11, 3) := by decide +kernel
theorem dX12_changed_246 : decode cX12_changed 246 = .ok (.aload_n 0, 1) := by decide +kernel
theorem dX12_changed_247 : decode cX12_changed 247 = .ok (.iload 8, 2) := by decide +kernel
theorem dX12_changed_249 : decode cX12_changed 249 = .ok (.invokevirtual 353, 3) := by decide +kernel
theorem dX12_changed_252 : decode cX12_changed 252 = .ok (.istore 7, 2) := by decide +kernel
theorem dX12_changed_254 : decode cX12_changed 254 = .ok (.goto (-90), 3) := by decide +kernel
theorem dX12_changed_257 : decode cX12_changed 257 = .ok (.iload 7, 2) := by decide +kernel
theorem dX12_changed_259 : decode cX12_changed 259 = .ok (.iconst (-1), 1) := by decide +kernel
theorem dX12_changed_260 : decode cX12_changed 260 = .ok (.if_icmp .ne 7, 3) := by decide +kernel
theorem dX12_changed_263 : decode cX12_changed 263 = .ok (.iconst 0, 1) := by decide +kernel
theorem dX12_changed_264 : decode cX12_changed 264 = .ok (.goto 12, 3) := by decide +kernel
theorem dX12_changed_267 : decode cX12_changed 267 = .ok (.aload_n 0, 1) := by decide +kernel
theorem dX12_changed_268 : decode cX12_changed 268 = .ok (.getfield 287, 3) := by decide +kernel
theorem dX12_changed_271 : decode cX12_changed 271 = .ok (.iconst 1, 1) := by decide +kernel
theorem dX12_changed_272 : decode cX12_changed 272 = .ok (.isub, 1) := by decide +kernel
theorem dX12_changed_273 : decode cX12_changed 273 = .ok (.iload 7, 2) := by decide +kernel
theorem dX12_changed_275 : decode cX12_changed 275 = .ok (.isub, 1) := by decide +kernel
theorem dX12_changed_276 : decode cX12_changed 276 = .ok (.istore 8, 2) := by decide +kernel
theorem dX12_changed_278 : decode cX12_changed 278 = .ok (.aload_n 0, 1) := by decide +kernel
theorem dX12_changed_279 : decode cX12_changed 279 = .ok (.iconst 0, 1) := by decide +kernel
theorem dX12_changed_280 : decode cX12_changed 280 = .ok (.putfield 127, 3) := by decide +kernel
theorem dX12_changed_283 : decode cX12_changed 283 = .ok (.aload_n 0, 1) := by decide +kernel
theorem dX12_changed_284 : decode cX12_changed 284 = .ok (.iload 5, 2) := by decide +kernel
theorem dX12_changed_286 : decode cX12_changed 286 = .ok (.i2l, 1) := by decide +kernel
theorem dX12_changed_287 : decode cX12_changed 287 = .ok (.invokevirtual 280, 3) := by decide +kernel
theorem dX12_changed_290 : decode cX12_changed 290 = .ok (.aload_n 0, 1) := by decide +kernel
theorem dX12_changed_291 : decode cX12_changed 291 = .ok (.iload 6, 2) := by decide +kernel
theorem dX12_changed_293 : decode cX12_changed 293 = .ok (.i2l, 1) := by decide +kernel
theorem dX12_changed_294 : decode cX12_changed 294 = .ok (.invokevirtual 280, 3) := by decide +kernel
theorem dX12_changed_297 : decode cX12_changed 297 = .ok (.aload_n 0, 1) := by decide +kernel
theorem dX12_changed_298 : decode cX12_changed 298 = .ok (.iload 8, 2) := by decide +kernel
theorem dX12_changed_300 : decode cX12_changed 300 = .ok (.i2l, 1) := by decide +kernel
theorem dX12_changed_301 : decode cX12_changed 301 = .ok (.invokevirtual 280, 3) := by decide +kernel
theorem dX12_changed_304 : decode cX12_changed 304 = .ok (.aload_n 0, 1) := by decide +kernel
theorem dX12_changed_305 : decode cX12_changed 305 = .ok (.iconst 0, 1) := by decide +kernel
theorem dX12_changed_306 : decode cX12_changed 306 = .ok (.invokevirtual 274, 3) := by decide +kernel
theorem dX12_changed_309 : decode cX12_changed 309 = .ok (.aload_n 0, 1) := by decide +kernel
theorem dX12_changed_310 : decode cX12_changed 310 = .ok (.getfield 238, 3) := by decide +kernel
theorem dX12_changed_313 : decode cX12_changed 313 = .ok (.ireturn, 1) := by decide +kernel
theorem dX12_becomes_0 : decode cX12_becomes 0 = .ok (.aload_n 0, 1) := by decide +kernel
theorem dX12_becomes_1 : decode cX12_becomes 1 = .ok (.iconst 0, 1) := by decide +kernel
theorem dX12_becomes_2 : decode cX12_becomes 2 = .ok (.iload_n 1, 1) := by decide +kernel
theorem dX12_becomes_3 : decode cX12_becomes 3 = .ok (.iload_n 2, 1) := by decide +kernel
theorem dX12_becomes_4 : decode cX12_becomes 4 = .ok (.invokevirtual 356, 3) := by decide +kernel
theorem dX12_becomes_7 : decode cX12_becomes 7 = .ok (.ireturn, 1) := by decide +kernel
theorem dX12_comes_0 : decode cX12_comes 0 = .ok (.aload_n 0, 1) := by decide +kernel
theorem dX12_comes_1 : decode cX12_comes 1 = .ok (.iconst 1, 1) := by decide +kernel
theorem dX12_comes_2 : decode cX12_comes 2 = .ok (.iload_n 1, 1) := by decide +kernel
theorem dX12_comes_3 : decode cX12_comes 3 = .ok (.iload_n 2, 1) := by decide +kernel
theorem dX12_comes_4 : decode cX12_comes 4 = .ok (.invokevirtual 356, 3) := by decide +kernel
theorem dX12_comes_7 : decode cX12_comes 7 = .ok (.ireturn, 1) := by decide +kernel
theorem dX12_goes_0 : decode cX12_goes 0 = .ok (.aload_n 0, 1) := by decide +kernel
theorem dX12_goes_1 : decode cX12_goes 1 = .ok (.iconst 2, 1) := by decide +kernel
theorem dX12_goes_2 : decode cX12_goes 2 = .ok (.iload_n 1, 1) := by decide +kernel
theorem dX12_goes_3 : decode cX12_goes 3 = .ok (.iconst 0, 1) := by decide +kernel
theorem dX12_goes_4 : decode cX12_goes 4 = .ok (.invokevirtual 356, 3) := by decide +kernel
theorem dX12_goes_7 : decode cX12_goes 7 = .ok (.ireturn, 1) := by decide +kernel
theorem dX12_mends_0 : decode cX12_mends 0 = .ok (.aload_n 0, 1) := by decide +kernel
theorem dX12_mends_1 : decode cX12_mends 1 = .ok (.iconst 0, 1) := by decide +kernel
theorem dX12_mends_2 : decode cX12_mends 2 = .ok (.putfield 123, 3) := by decide +kernel
theorem dX12_mends_5 : decode cX12_mends 5 = .ok (.iload_n 1, 1) := by decide +kernel
theorem dX12_mends_6 : decode cX12_mends 6 = .ok (.iconst 0, 1) := by decide +kernel
theorem dX12_mends_7 : decode cX12_mends 7 = .ok (.aload_n 0, 1) := by decide +kernel
theorem dX12_mends_8 : decode cX12_mends 8 = .ok (.getfield 9, 3) := by decide +kernel
theorem dX12_mends_11 : decode cX12_mends 11 = .ok (.bipush 81, 2) := by decide +kernel
theorem dX12_mends_13 : decode cX12_mends 13 = .ok (.iaload, 1) := by decide +kernel
theorem dX12_mends_14 : decode cX12_mends 14 = .ok (.iconst 1, 1) := by decide +kernel
theorem dX12_mends_15 : decode cX12_mends 15 = .ok (.isub, 1) := by decide +kernel
theorem dX12_mends_16 : decode cX12_mends 16 = .ok (.invokestatic 133, 3) := by decide +kernel
theorem dX12_mends_19 : decode cX12_mends 19 = .ok (.ifCond .ne 5, 3) := by decide +kernel
theorem dX12_mends_22 : decode cX12_mends 22 = .ok (.iconst (-1), 1) := by decide +kernel
theorem dX12_mends_23 : decode cX12_mends 23 = .ok (.ireturn, 1) := by decide +kernel
theorem dX12_mends_24 : decode cX12_mends 24 = .ok (.aload_n 0, 1) := by decide +kernel
theorem dX12_mends_25 : decode cX12_mends 25 = .ok (.getfield 9, 3) := by decide +kernel
theorem dX12_mends_28 : decode cX12_mends 28 = .ok (.bipush 82, 2) := by decide +kernel
theorem dX12_mends_30 : decode cX12_mends 30 = .ok (.iload_n 1, 1) := by decide +kernel
theorem dX12_mends_31 : decode cX12_mends 31 = .ok (.iadd, 1) := by decide +kernel
theorem dX12_mends_32 : decode cX12_mends 32 = .ok (.iaload, 1) := by decide +kernel
theorem dX12_mends_33 : decode cX12_mends 33 = .ok (.istore_n 2, 1) := by decide +kernel
theorem dX12_mends_34 : decode cX12_mends 34 = .ok (.iconst (-1), 1) := by decide +kernel
theorem dX12_mends_35 : decode cX12_mends 35 = .ok (.istore_n 3, 1) := by decide +kernel
theorem dX12_mends_36 : decode cX12_mends 36 = .ok (.iconst 0, 1) := by decide +kernel
theorem dX12_mends_37 : decode cX12_mends 37 = .ok (.istore 4, 2) := by decide +kernel
theorem dX12_mends_39 : decode cX12_mends 39 = .ok (.iconst 0, 1) := by decide +kernel
theorem dX12_mends_40 : decode cX12_mends 40 = .ok (.istore 5, 2) := by decide +kernel
theorem dX12_mends_42 : decode cX12_mends 42 = .ok (.iload 5, 2) := by decide +kernel
theorem dX12_mends_44 : decode cX12_mends 44 = .ok (.bipush 8, 2) := by decide +kernel
theorem dX12_mends_46 : decode cX12_mends 46 = .ok (.if_icmp .ge 51, 3) := by decide +kernel
theorem dX12_mends_49 : decode cX12_mends 49 = .ok (.aload_n 0, 1) := by decide +kernel
theorem dX12_mends_50 : decode cX12_mends 50 = .ok (.getfield 9, 3) := by decide +kernel
theorem dX12_mends_53 : decode cX12_mends 53 = .ok (.bipush 82, 2) := by decide +kernel
theorem dX12_mends_55 : decode cX12_mends 55 = .ok (.iload_n 1, 1) := by decide +kernel
theorem dX12_mends_56 : decode cX12_mends 56 = .ok (.iadd, 1) := by decide +kernel
theorem dX12_mends_57 : decode cX12_mends 57 = .ok (.iload 5, 2) := by decide +kernel
theorem dX12_mends_59 : decode cX12_mends 59 = .ok (.iastore, 1) := by decide +kernel
theorem dX12_mends_60 : decode cX12_mends 60 = .ok (.aload_n 0, 1) := by decide +kernel
theorem dX12_mends_61 : decode cX12_mends 61 = .ok (.iconst 0, 1) := by decide +kernel
theorem dX12_mends_62 : decode cX12_mends 62 = .ok (.invokevirtual 274, 3) := by decide +kernel
theorem dX12_mends_65 : decode cX12_mends 65 = .ok (.iload_n 3, 1) := by decide +kernel
theorem dX12_mends_66 : decode cX12_mends 66 = .ok (.iconst (-1), 1) := by decide +kernel
theorem dX12_mends_67 : decode cX12_mends 67 = .ok (.if_icmp .eq 15, 3) := by decide +kernel
theorem dX12_mends_70 : decode cX12_mends 70 = .ok (.aload_n 0, 1) := by decide +kernel
theorem dX12_mends_71 : decode cX12_mends 71 = .ok (.invokevirtual 284, 3) := by decide +kernel
theorem dX12_mends_74 : decode cX12_mends 74 = .ok (.iload 4, 2) := by decide +kernel
theorem dX12_mends_76 : decode cX12_mends 76 = .ok (.if_icmp .lt 6, 3) := by decide +kernel
theorem dX12_mends_79 : decode cX12_mends 79 = .ok (.goto 12, 3) := by decide +kernel
theorem dX12_mends_82 : decode cX12_mends 82 = .ok (.iload 5, 2) := by decide +kernel
theorem dX12_mends_84 : decode cX12_mends 84 = .ok (.istore_n 3, 1) := by decide +kernel
theorem dX12_mends_85 : decode cX12_mends 85 = .ok (.aload_n 0, 1) := by decide +kernel
theorem dX12_mends_86 : decode cX12_mends 86 = .ok (.invokevirtual 284, 3) := by decide +kernel
theorem dX12_mends_89 : decode cX12_mends 89 = .ok (.istore 4, 2) := by decide +kernel
theorem dX12_mends_91 : decode cX12_mends 91 = .ok (.iinc 5 1, 3) := by decide +kernel
theorem dX12_mends_94 : decode cX12_mends 94 = .ok (.goto (-52), 3) := by decide +kernel
theorem dX12_mends_97 : decode cX12_mends 97 = .ok (.aload_n 0, 1) := by decide +kernel
theorem dX12_mends_98 : decode cX12_mends 98 = .ok (.getfield 9, 3) := by decide +kernel
theorem dX12_mends_101 : decode cX12_mends 101 = .ok (.bipush 82, 2) := by decide +kernel
theorem dX12_mends_103 : decode cX12_mends 103 = .ok (.iload_n 1, 1) := by decide +kernel
theorem dX12_mends_104 : decode cX12_mends 104 = .ok (.iadd, 1) := by decide +kernel
theorem dX12_mends_105 : decode cX12_mends 105 = .ok (.iload_n 2, 1) := by decide +kernel
theorem dX12_mends_106 : decode cX12_mends 106 = .ok (.iastore, 1) := by decide +kernel
theorem dX12_mends_107 : decode cX12_mends 107 = .ok (.aload_n 0, 1) := by decide +kernel
theorem dX12_mends_108 : decode cX12_mends 108 = .ok (.iconst 0, 1) := by decide +kernel
theorem dX12_mends_109 : decode cX12_mends 109 = .ok (.putfield 127, 3) := by decide +kernel
theorem dX12_mends_112 : decode cX12_mends 112 = .ok (.aload_n 0, 1) := by decide +kernel
theorem dX12_mends_113 : decode cX12_mends 113 = .ok (.iload 4, 2) := by decide +kernel
theorem dX12_mends_115 : decode cX12_mends 115 = .ok (.i2l, 1) := by decide +kernel
theorem dX12_mends_116 : decode cX12_mends 116 = .ok (.invokevirtual 280, 3) := by decide +kernel
theorem dX12_mends_119 : decode cX12_mends 119 = .ok (.iload_n 3, 1) := by decide +kernel
theorem dX12_mends_120 : decode cX12_mends 120 = .ok (.ireturn, 1) := by decide +kernel
theorem dX12_readAct_0 : decode cX12_readAct 0 = .ok (.aload_n 0, 1) := by decide +kernel
theorem dX12_readAct_1 : decode cX12_readAct 1 = .ok (.invokevirtual 150, 3) := by decide +kernel
theorem dX12_readAct_4 : decode cX12_readAct 4 = .ok (.istore_n 2, 1) := by decide +kernel
theorem dX12_readAct_5 : decode cX12_readAct 5 = .ok (.iload_n 2, 1) := by decide +kernel
theorem dX12_readAct_6 : decode cX12_readAct 6 = .ok (.bipush 114, 2) := by decide +kernel
theorem dX12_readAct_8 : decode cX12_readAct 8 = .ok (.if_icmp .ne 7, 3) := by decide +kernel
theorem dX12_readAct_11 : decode cX12_readAct 11 = .ok (.iconst 0, 1) := by decide +kernel
theorem dX12_readAct_12 : decode cX12_readAct 12 = .ok (.goto 24, 3) := by decide +kernel
theorem dX12_readAct_15 : decode cX12_readAct 15 = .ok (.iload_n 2, 1) := by decide +kernel
theorem dX12_readAct_16 : decode cX12_readAct 16 = .ok (.bipush 105, 2) := by decide +kernel
theorem dX12_readAct_18 : decode cX12_readAct 18 = .ok (.if_icmp .ne 7, 3) := by decide +kernel
theorem dX12_readAct_21 : decode cX12_readAct 21 = .ok (.iconst 1, 1) := by decide +kernel
theorem dX12_readAct_22 : decode cX12_readAct 22 = .ok (.goto 14, 3) := by decide +kernel
theorem dX12_readAct_25 : decode cX12_readAct 25 = .ok (.iload_n 2, 1) := by decide +kernel
theorem dX12_readAct_26 : decode cX12_readAct 26 = .ok (.bipush 100, 2) := by decide +kernel
theorem dX12_readAct_28 : decode cX12_readAct 28 = .ok (.if_icmp .ne 7, 3) := by decide +kernel
theorem dX12_readAct_31 : decode cX12_readAct 31 = .ok (.iconst 2, 1) := by decide +kernel
theorem dX12_readAct_32 : decode cX12_readAct 32 = .ok (.goto 4, 3) := by decide +kernel
theorem dX12_readAct_35 : decode cX12_readAct 35 = .ok (.iconst (-1), 1) := by decide +kernel
theorem dX12_readAct_36 : decode cX12_readAct 36 = .ok (.istore_n 3, 1) := by decide +kernel
theorem dX12_readAct_37 : decode cX12_readAct 37 = .ok (.iload_n 3, 1) := by decide +kernel
theorem dX12_readAct_38 : decode cX12_readAct 38 = .ok (.iconst (-1), 1) := by decide +kernel
theorem dX12_readAct_39 : decode cX12_readAct 39 = .ok (.if_icmp .ne 12, 3) := by decide +kernel
theorem dX12_readAct_42 : decode cX12_readAct 42 = .ok (.aload_n 0, 1) := by decide +kernel
theorem dX12_readAct_43 : decode cX12_readAct 43 = .ok (.aload_n 0, 1) := by decide +kernel
theorem dX12_readAct_44 : decode cX12_readAct 44 = .ok (.getfield 140, 3) := by decide +kernel
theorem dX12_readAct_47 : decode cX12_readAct 47 = .ok (.invokevirtual 158, 3) := by decide +kernel
theorem dX12_readAct_50 : decode cX12_readAct 50 = .ok (.return_, 1) := by decide +kernel
theorem dX12_readAct_51 : decode cX12_readAct 51 = .ok (.aload_n 0, 1) := by decide +kernel
theorem dX12_readAct_52 : decode cX12_readAct 52 = .ok (.dup, 1) := by decide +kernel
theorem dX12_readAct_53 : decode cX12_readAct 53 = .ok (.getfield 140, 3) := by decide +kernel
theorem dX12_readAct_56 : decode cX12_readAct 56 = .ok (.iconst 1, 1) := by decide +kernel
theorem dX12_readAct_57 : decode cX12_readAct 57 = .ok (.iadd, 1) := by decide +kernel
theorem dX12_readAct_58 : decode cX12_readAct 58 = .ok (.putfield 140, 3) := by decide +kernel
theorem dX12_readAct_61 : decode cX12_readAct 61 = .ok (.aload_n 0, 1) := by decide +kernel
theorem dX12_readAct_62 : decode cX12_readAct 62 = .ok (.getfield 116, 3) := by decide +kernel
theorem dX12_readAct_65 : decode cX12_readAct 65 = .ok (.iload_n 1, 1) := by decide +kernel
theorem dX12_readAct_66 : decode cX12_readAct 66 = .ok (.iload_n 3, 1) := by decide +kernel
theorem dX12_readAct_67 : decode cX12_readAct 67 = .ok (.iastore, 1) := by decide +kernel
theorem dX12_readAct_68 : decode cX12_readAct 68 = .ok (.aload_n 0, 1) := by decide +kernel
theorem dX12_readAct_69 : decode cX12_readAct 69 = .ok (.getfield 116, 3) := by decide +kernel
theorem dX12_readAct_72 : decode cX12_readAct 72 = .ok (.iload_n 1, 1) := by decide +kernel
theorem dX12_readAct_73 : decode cX12_readAct 73 = .ok (.iconst 1, 1) := by decide +kernel
theorem dX12_readAct_74 : decode cX12_readAct 74 = .ok (.iadd, 1) := by decide +kernel
theorem dX12_readAct_75 : decode cX12_readAct 75 = .ok (.aload_n 0, 1) := by decide +kernel
theorem dX12_readAct_76 : decode cX12_readAct 76 = .ok (.invokevirtual 359, 3) := by decide +kernel
theorem dX12_readAct_79 : decode cX12_readAct 79 = .ok (.iastore, 1) := by decide +kernel
theorem dX12_readAct_80 : decode cX12_readAct 80 = .ok (.aload_n 0, 1) := by decide +kernel
theorem dX12_readAct_81 : decode cX12_readAct 81 = .ok (.getfield 116, 3) := by decide +kernel
theorem dX12_readAct_84 : decode cX12_readAct 84 = .ok (.iload_n 1, 1) := by decide +kernel
theorem dX12_readAct_85 : decode cX12_readAct 85 = .ok (.iconst 2, 1) := by decide +kernel
theorem dX12_readAct_86 : decode cX12_readAct 86 = .ok (.iadd, 1) := by decide +kernel
theorem dX12_readAct_87 : decode cX12_readAct 87 = .ok (.iload_n 3, 1) := by decide +kernel
theorem dX12_readAct_88 : decode cX12_readAct 88 = .ok (.iconst 2, 1) := by decide +kernel
theorem dX12_readAct_89 : decode cX12_readAct 89 = .ok (.if_icmp .ne 7, 3) := by decide +kernel
theorem dX12_readAct_92 : decode cX12_readAct 92 = .ok (.iconst 0, 1) := by decide +kernel
theorem dX12_readAct_93 : decode cX12_readAct 93 = .ok (.goto 11, 3) := by decide +kernel
theorem dX12_readAct_96 : decode cX12_readAct 96 = .ok (.aload_n 0, 1) := by decide +kernel
theorem dX12_readAct_97 : decode cX12_readAct 97 = .ok (.bipush 97, 2) := by decide +kernel
theorem dX12_readAct_99 : decode cX12_readAct 99 = .ok (.bipush 8, 2) := by decide +kernel
theorem dX12_readAct_101 : decode cX12_readAct 101 = .ok (.invokevirtual 162, 3) := by decide +kernel
theorem dX12_readAct_104 : decode cX12_readAct 104 = .ok (.iastore, 1) := by decide +kernel
theorem dX12_readAct_105 : decode cX12_readAct 105 = .ok (.return_, 1) := by decide +kernel
theorem dX12_day_0 : decode cX12_day 0 = .ok (.aload_n 0, 1) := by decide +kernel
theorem dX12_day_1 : decode cX12_day 1 = .ok (.iconst 0, 1) := by decide +kernel
theorem dX12_day_2 : decode cX12_day 2 = .ok (.putfield 123, 3) := by decide +kernel
theorem dX12_day_5 : decode cX12_day 5 = .ok (.aload_n 0, 1) := by decide +kernel
theorem dX12_day_6 : decode cX12_day 6 = .ok (.invokevirtual 214, 3) := by decide +kernel
theorem dX12_day_9 : decode cX12_day 9 = .ok (.iconst 0, 1) := by decide +kernel
theorem dX12_day_10 : decode cX12_day 10 = .ok (.istore_n 1, 1) := by decide +kernel
theorem dX12_day_11 : decode cX12_day 11 = .ok (.aload_n 0, 1) := by decide +kernel
theorem dX12_day_12 : decode cX12_day 12 = .ok (.invokevirtual 146, 3) := by decide +kernel
theorem dX12_day_15 : decode cX12_day 15 = .ok (.ifCond .eq 27, 3) := by decide +kernel
theorem dX12_day_18 : decode cX12_day 18 = .ok (.aload_n 0, 1) := by decide +kernel
theorem dX12_day_19 : decode cX12_day 19 = .ok (.getfield 140, 3) := by decide +kernel
theorem dX12_day_22 : decode cX12_day 22 = .ok (.aload_n 0, 1) := by decide +kernel
theorem dX12_day_23 : decode cX12_day 23 = .ok (.getfield 137, 3) := by decide +kernel
theorem dX12_day_26 : decode cX12_day 26 = .ok (.if_icmp .ge 16, 3) := by decide +kernel
theorem dX12_day_29 : decode cX12_day 29 = .ok (.aload_n 0, 1) := by decide +kernel
theorem dX12_day_30 : decode cX12_day 30 = .ok (.iconst 3, 1) := by decide +kernel
theorem dX12_day_31 : decode cX12_day 31 = .ok (.iload_n 1, 1) := by decide +kernel
theorem dX12_day_32 : decode cX12_day 32 = .ok (.imul, 1) := by decide +kernel
theorem dX12_day_33 : decode cX12_day 33 = .ok (.invokevirtual 362, 3) := by decide +kernel
theorem dX12_day_36 : decode cX12_day 36 = .ok (.iinc 1 1, 3) := by decide +kernel
theorem dX12_day_39 : decode cX12_day 39 = .ok (.goto (-28), 3) := by decide +kernel
theorem dX12_day_42 : decode cX12_day 42 = .ok (.aload_n 0, 1) := by decide +kernel
theorem dX12_day_43 : decode cX12_day 43 = .ok (.invokevirtual 208, 3) := by decide +kernel
theorem dX12_day_46 : decode cX12_day 46 = .ok (.ifCond .ne 10, 3) := by decide +kernel
theorem dX12_day_49 : decode cX12_day 49 = .ok (.iconst (-1), 1) := by decide +kernel
theorem dX12_day_50 : decode cX12_day 50 = .ok (.aload_n 0, 1) := by decide +kernel
theorem dX12_day_51 : decode cX12_day 51 = .ok (.getfield 143, 3) := by decide +kernel
theorem dX12_day_54 : decode cX12_day 54 = .ok (.isub, 1) := by decide +kernel
theorem dX12_day_55 : decode cX12_day 55 = .ok (.ireturn, 1) := by decide +kernel
theorem dX12_day_56 : decode cX12_day 56 = .ok (.iconst 0, 1) := by decide +kernel
theorem dX12_day_57 : decode cX12_day 57 = .ok (.istore_n 2, 1) := by decide +kernel
theorem dX12_day_58 : decode cX12_day 58 = .ok (.iload_n 2, 1) := by decide +kernel
theorem dX12_day_59 : decode cX12_day 59 = .ok (.bipush 106, 2) := by decide +kernel
theorem dX12_day_61 : decode cX12_day 61 = .ok (.if_icmp .ge 21, 3) := by decide +kernel
theorem dX12_day_64 : decode cX12_day 64 = .ok (.aload_n 0, 1) := by decide +kernel
theorem dX12_day_65 : decode cX12_day 65 = .ok (.getfield 113, 3) := by decide +kernel
theorem dX12_day_68 : decode cX12_day 68 = .ok (.iload_n 2, 1) := by decide +kernel
theorem dX12_day_69 : decode cX12_day 69 = .ok (.aload_n 0, 1) := by decide +kernel
theorem dX12_day_70 : decode cX12_day 70 = .ok (.getfield 9, 3) := by decide +kernel
theorem dX12_day_73 : decode cX12_day 73 = .ok (.iload_n 2, 1) := by decide +kernel
theorem dX12_day_74 : decode cX12_day 74 = .ok (.iaload, 1) := by decide +kernel
theorem dX12_day_75 : decode cX12_day 75 = .ok (.iastore, 1) := by decide +kernel
theorem dX12_day_76 : decode cX12_day 76 = .ok (.iinc 2 1, 3) := by decide +kernel
theorem dX12_day_79 : decode cX12_day 79 = .ok (.goto (-21), 3) := by decide +kernel
theorem dX12_day_82 : decode cX12_day 82 = .ok (.iconst 0, 1) := by decide +kernel
theorem dX12_day_83 : decode cX12_day 83 = .ok (.istore_n 2, 1) := by decide +kernel
theorem dX12_day_84 : decode cX12_day 84 = .ok (.iload_n 2, 1) := by decide +kernel
theorem dX12_day_85 : decode cX12_day 85 = .ok (.iload_n 1, 1) := by decide +kernel
theorem dX12_day_86 : decode cX12_day 86 = .ok (.if_icmp .ge 76, 3) := by decide +kernel
theorem dX12_day_89 : decode cX12_day 89 = .ok (.aload_n 0, 1) := by decide +kernel
theorem dX12_day_90 : decode cX12_day 90 = .ok (.aload_n 0, 1) := by decide +kernel
theorem dX12_day_91 : decode cX12_day 91 = .ok (.getfield 116, 3) := by decide +kernel
theorem dX12_day_94 : decode cX12_day 94 = .ok (.iconst 3, 1) := by decide +kernel
theorem dX12_day_95 : decode cX12_day 95 = .ok (.iload_n 2, 1) := by decide +kernel
theorem dX12_day_96 : decode cX12_day 96 = .ok (.imul, 1) := by decide +kernel
theorem dX12_day_97 : decode cX12_day 97 = .ok (.iaload, 1) := by decide +kernel
theorem dX12_day_98 : decode cX12_day 98 = .ok (.aload_n 0, 1) := by decide +kernel
theorem dX12_day_99 : decode cX12_day 99 = .ok (.getfield 116, 3) := by decide +kernel
theorem dX12_day_102 : decode cX12_day 102 = .ok (.iconst 3, 1) := by decide +kernel
theorem dX12_day_103 : decode cX12_day 103 = .ok (.iload_n 2, 1) := by decide +kernel
theorem dX12_day_104 : decode cX12_day 104 = .ok (.imul, 1) := by decide +kernel
theorem dX12_day_105 : decode cX12_day 105 = .ok (.iconst 1, 1) := by decide +kernel
theorem dX12_day_106 : decode cX12_day 106 = .ok (.iadd, 1) := by decide +kernel
theorem dX12_day_107 : decode cX12_day 107 = .ok (.iaload, 1) := by decide +kernel
theorem dX12_day_108 : decode cX12_day 108 = .ok (.aload_n 0, 1) := by decide +kernel
theorem dX12_day_109 : decode cX12_day 109 = .ok (.getfield 116, 3) := by decide +kernel
theorem dX12_day_112 : decode cX12_day 112 = .ok (.iconst 3, 1) := by decide +kernel
theorem dX12_day_113 : decode cX12_day 113 = .ok (.iload_n 2, 1) := by decide +kernel
theorem dX12_day_114 : decode cX12_day 114 = .ok (.imul, 1) := by decide +kernel
theorem dX12_day_115 : decode cX12_day 115 = .ok (.iconst 2, 1) := by decide +kernel
theorem dX12_day_116 : decode cX12_day 116 = .ok (.iadd, 1) := by decide +kernel
theorem dX12_day_117 : decode cX12_day 117 = .ok (.iaload, 1) := by decide +kernel
theorem dX12_day_118 : decode cX12_day 118 = .ok (.invokevirtual 347, 3) := by decide +kernel
theorem dX12_day_121 : decode cX12_day 121 = .ok (.ifCond .ne 41, 3) := by decide +kernel
theorem dX12_day_124 : decode cX12_day 124 = .ok (.aload_n 0, 1) := by decide +kernel
theorem dX12_day_125 : decode cX12_day 125 = .ok (.aload_n 0, 1) := by decide +kernel
theorem dX12_day_126 : decode cX12_day 126 = .ok (.getfield 116, 3) := by decide +kernel
theorem dX12_day_129 : decode cX12_day 129 = .ok (.iconst 3, 1) := by decide +kernel
theorem dX12_day_130 : decode cX12_day 130 = .ok (.iload_n 2, 1) := by decide +kernel
theorem dX12_day_131 : decode cX12_day 131 = .ok (.imul, 1) := by decide +kernel
theorem dX12_day_132 : decode cX12_day 132 = .ok (.iaload, 1) := by decide +kernel
theorem dX12_day_133 : decode cX12_day 133 = .ok (.aload_n 0, 1) := by decide +kernel
theorem dX12_day_134 : decode cX12_day 134 = .ok (.getfield 116, 3) := by decide +kernel
theorem dX12_day_137 : decode cX12_day 137 = .ok (.iconst 3, 1) := by decide +kernel
theorem dX12_day_138 : decode cX12_day 138 = .ok (.iload_n 2, 1) := by decide +kernel
theorem dX12_day_139 : decode cX12_day 139 = .ok (.imul, 1) := by decide +kernel
theorem dX12_day_140 : decode cX12_day 140 = .ok (.iconst 1, 1) := by decide +kernel
theorem dX12_day_141 : decode cX12_day 141 = .ok (.iadd, 1) := by decide +kernel
theorem dX12_day_142 : decode cX12_day 142 = .ok (.iaload, 1) := by decide +kernel
theorem dX12_day_143 : decode cX12_day 143 = .ok (.aload_n 0, 1) := by decide +kernel
theorem dX12_day_144 : decode cX12_day 144 = .ok (.getfield 116, 3) := by decide +kernel
theorem dX12_day_147 : decode cX12_day 147 = .ok (.iconst 3, 1) := by decide +kernel
theorem dX12_day_148 : decode cX12_day 148 = .ok (.iload_n 2, 1) := by decide +kernel
theorem dX12_day_149 : decode cX12_day 149 = .ok (.imul, 1) := by decide +kernel
theorem dX12_day_150 : decode cX12_day 150 = .ok (.iconst 2, 1) := by decide +kernel
theorem dX12_day_151 : decode cX12_day 151 = .ok (.iadd, 1) := by decide +kernel
theorem dX12_day_152 : decode cX12_day 152 = .ok (.iaload, 1) := by decide +kernel
theorem dX12_day_153 : decode cX12_day 153 = .ok (.invokevirtual 350, 3) := by decide +kernel
theorem dX12_day_156 : decode cX12_day 156 = .ok (.iinc 2 1, 3) := by decide +kernel
theorem dX12_day_159 : decode cX12_day 159 = .ok (.goto (-75), 3) := by decide +kernel
theorem dX12_day_162 : decode cX12_day 162 = .ok (.iload_n 2, 1) := by decide +kernel
theorem dX12_day_163 : decode cX12_day 163 = .ok (.ifCond .le 7, 3) := by decide +kernel
theorem dX12_day_166 : decode cX12_day 166 = .ok (.aload_n 0, 1) := by decide +kernel
theorem dX12_day_167 : decode cX12_day 167 = .ok (.invokevirtual 335, 3) := by decide +kernel
theorem dX12_day_170 : decode cX12_day 170 = .ok (.aload_n 0, 1) := by decide +kernel
theorem dX12_day_171 : decode cX12_day 171 = .ok (.iconst 0, 1) := by decide +kernel
theorem dX12_day_172 : decode cX12_day 172 = .ok (.invokevirtual 274, 3) := by decide +kernel
theorem dX12_day_175 : decode cX12_day 175 = .ok (.aload_n 0, 1) := by decide +kernel
theorem dX12_day_176 : decode cX12_day 176 = .ok (.iconst 0, 1) := by decide +kernel
theorem dX12_day_177 : decode cX12_day 177 = .ok (.putfield 127, 3) := by decide +kernel
theorem dX12_day_180 : decode cX12_day 180 = .ok (.aload_n 0, 1) := by decide +kernel
theorem dX12_day_181 : decode cX12_day 181 = .ok (.iload_n 2, 1) := by decide +kernel
theorem dX12_day_182 : decode cX12_day 182 = .ok (.iload_n 1, 1) := by decide +kernel
theorem dX12_day_183 : decode cX12_day 183 = .ok (.if_icmp .ge 7, 3) := by decide +kernel
theorem dX12_day_186 : decode cX12_day 186 = .ok (.lconst 1, 1) := by decide +kernel
theorem dX12_day_187 : decode cX12_day 187 = .ok (.goto 4, 3) := by decide +kernel
theorem dX12_day_190 : decode cX12_day 190 = .ok (.lconst 0, 1) := by decide +kernel
theorem dX12_day_191 : decode cX12_day 191 = .ok (.invokevirtual 280, 3) := by decide +kernel
theorem dX12_day_194 : decode cX12_day 194 = .ok (.aload_n 0, 1) := by decide +kernel
theorem dX12_day_195 : decode cX12_day 195 = .ok (.aload_n 0, 1) := by decide +kernel
theorem dX12_day_196 : decode cX12_day 196 = .ok (.getfield 238, 3) := by decide +kernel
theorem dX12_day_199 : decode cX12_day 199 = .ok (.i2l, 1) := by decide +kernel
theorem dX12_day_200 : decode cX12_day 200 = .ok (.invokevirtual 280, 3) := by decide +kernel
theorem dX12_day_203 : decode cX12_day 203 = .ok (.iload_n 2, 1) := by decide +kernel
theorem dX12_day_204 : decode cX12_day 204 = .ok (.ireturn, 1) := by decide +kernel
theorem dX12_undo_0 : decode cX12_undo 0 = .ok (.aload_n 0, 1) := by decide +kernel
theorem dX12_undo_1 : decode cX12_undo 1 = .ok (.iconst 0, 1) := by decide +kernel
theorem dX12_undo_2 : decode cX12_undo 2 = .ok (.putfield 123, 3) := by decide +kernel
theorem dX12_undo_5 : decode cX12_undo 5 = .ok (.aload_n 0, 1) := by decide +kernel
theorem dX12_undo_6 : decode cX12_undo 6 = .ok (.getfield 338, 3) := by decide +kernel
theorem dX12_undo_9 : decode cX12_undo 9 = .ok (.ifCond .ne 5, 3) := by decide +kernel
theorem dX12_undo_12 : decode cX12_undo 12 = .ok (.iconst (-1), 1) := by decide +kernel
theorem dX12_undo_13 : decode cX12_undo 13 = .ok (.ireturn, 1) := by decide +kernel
theorem dX12_undo_14 : decode cX12_undo 14 = .ok (.aload_n 0, 1) := by decide +kernel
theorem dX12_undo_15 : decode cX12_undo 15 = .ok (.dup, 1) := by decide +kernel
theorem dX12_undo_16 : decode cX12_undo 16 = .ok (.getfield 338, 3) := by decide +kernel
theorem dX12_undo_19 : decode cX12_undo 19 = .ok (.iconst 1, 1) := by decide +kernel
theorem dX12_undo_20 : decode cX12_undo 20 = .ok (.isub, 1) := by decide +kernel
theorem dX12_undo_21 : decode cX12_undo 21 = .ok (.putfield 338, 3) := by decide +kernel
theorem dX12_undo_24 : decode cX12_undo 24 = .ok (.iconst 0, 1) := by decide +kernel
theorem dX12_undo_25 : decode cX12_undo 25 = .ok (.istore_n 1, 1) := by decide +kernel
theorem dX12_undo_26 : decode cX12_undo 26 = .ok (.iload_n 1, 1) := by decide +kernel
theorem dX12_undo_27 : decode cX12_undo 27 = .ok (.bipush 106, 2) := by decide +kernel
theorem dX12_undo_29 : decode cX12_undo 29 = .ok (.if_icmp .ge 29, 3) := by decide +kernel
theorem dX12_undo_32 : decode cX12_undo 32 = .ok (.aload_n 0, 1) := by decide +kernel
theorem dX12_undo_33 : decode cX12_undo 33 = .ok (.getfield 9, 3) := by decide +kernel
theorem dX12_undo_36 : decode cX12_undo 36 = .ok (.iload_n 1, 1) := by decide +kernel
theorem dX12_undo_37 : decode cX12_undo 37 = .ok (.aload_n 0, 1) := by decide +kernel
theorem dX12_undo_38 : decode cX12_undo 38 = .ok (.getfield 110, 3) := by decide +kernel
theorem dX12_undo_41 : decode cX12_undo 41 = .ok (.bipush 106, 2) := by decide +kernel
theorem dX12_undo_43 : decode cX12_undo 43 = .ok (.aload_n 0, 1) := by decide +kernel
theorem dX12_undo_44 : decode cX12_undo 44 = .ok (.getfield 338, 3) := by decide +kernel
theorem dX12_undo_47 : decode cX12_undo 47 = .ok (.imul, 1) := by decide +kernel
theorem dX12_undo_48 : decode cX12_undo 48 = .ok (.iload_n 1, 1) := by decide +kernel
theorem dX12_undo_49 : decode cX12_undo 49 = .ok (.iadd, 1) := by decide +kernel
theorem dX12_undo_50 : decode cX12_undo 50 = .ok (.iaload, 1) := by decide +kernel
theorem dX12_undo_51 : decode cX12_undo 51 = .ok (.iastore, 1) := by decide +kernel
theorem dX12_undo_52 : decode cX12_undo 52 = .ok (.iinc 1 1, 3) := by decide +kernel
theorem dX12_undo_55 : decode cX12_undo 55 = .ok (.goto (-29), 3) := by decide +kernel
theorem dX12_undo_58 : decode cX12_undo 58 = .ok (.aload_n 0, 1) := by decide +kernel
theorem dX12_undo_59 : decode cX12_undo 59 = .ok (.aload_n 0, 1) := by decide +kernel
theorem dX12_undo_60 : decode cX12_undo 60 = .ok (.getfield 9, 3) := by decide +kernel
theorem dX12_undo_63 : decode cX12_undo 63 = .ok (.invokevirtual 119, 3) := by decide +kernel
theorem dX12_undo_66 : decode cX12_undo 66 = .ok (.aload_n 0, 1) := by decide +kernel
theorem dX12_undo_67 : decode cX12_undo 67 = .ok (.getfield 338, 3) := by decide +kernel
theorem dX12_undo_70 : decode cX12_undo 70 = .ok (.ireturn, 1) := by decide +kernel
theorem dX12_draw_0 : decode cX12_draw 0 = .ok (.aload_n 0, 1) := by decide +kernel
theorem dX12_draw_1 : decode cX12_draw 1 = .ok (.aload_n 0, 1) := by decide +kernel
theorem dX12_draw_2 : decode cX12_draw 2 = .ok (.getfield 365, 3) := by decide +kernel
theorem dX12_draw_5 : decode cX12_draw 5 = .ok (.ldc_w 368, 3) := by decide +kernel
theorem dX12_draw_8 : decode cX12_draw 8 = .ok (.imul, 1) := by decide +kernel
theorem dX12_draw_9 : decode cX12_draw 9 = .ok (.sipush 12345, 3) := by decide +kernel
theorem dX12_draw_12 : decode cX12_draw 12 = .ok (.iadd, 1) := by decide +kernel
theorem dX12_draw_13 : decode cX12_draw 13 = .ok (.putfield 365, 3) := by decide +kernel
theorem dX12_draw_16 : decode cX12_draw 16 = .ok (.aload_n 0, 1) := by decide +kernel
theorem dX12_draw_17 : decode cX12_draw 17 = .ok (.getfield 365, 3) := by decide +kernel
theorem dX12_draw_20 : decode cX12_draw 20 = .ok (.bipush 16, 2) := by decide +kernel
theorem dX12_draw_22 : decode cX12_draw 22 = .ok (.iushr, 1) := by decide +kernel
theorem dX12_draw_23 : decode cX12_draw 23 = .ok (.iload_n 1, 1) := by decide +kernel
theorem dX12_draw_24 : decode cX12_draw 24 = .ok (.irem, 1) := by decide +kernel
theorem dX12_draw_25 : decode cX12_draw 25 = .ok (.ireturn, 1) := by decide +kernel
theorem dX12_years_0 : decode cX12_years 0 = .ok (.aload_n 0, 1) := by decide +kernel
theorem dX12_years_1 : decode cX12_years 1 = .ok (.iconst 0, 1) := by decide +kernel
theorem dX12_years_2 : decode cX12_years 2 = .ok (.putfield 123, 3) := by decide +kernel
theorem dX12_years_5 : decode cX12_years 5 = .ok (.iload_n 2, 1) := by decide +kernel
theorem dX12_years_6 : decode cX12_years 6 = .ok (.iconst 1, 1) := by decide +kernel
theorem dX12_years_7 : decode cX12_years 7 = .ok (.bipush 20, 2) := by decide +kernel
theorem dX12_years_9 : decode cX12_years 9 = .ok (.invokestatic 133, 3) := by decide +kernel
theorem dX12_years_12 : decode cX12_years 12 = .ok (.ifCond .ne 5, 3) := by decide +kernel
theorem dX12_years_15 : decode cX12_years 15 = .ok (.iconst (-1), 1) := by decide +kernel
theorem dX12_years_16 : decode cX12_years 16 = .ok (.ireturn, 1) := by decide +kernel
theorem dX12_years_17 : decode cX12_years 17 = .ok (.aload_n 0, 1) := by decide +kernel
theorem dX12_years_18 : decode cX12_years 18 = .ok (.iload_n 1, 1) := by decide +kernel
theorem dX12_years_19 : decode cX12_years 19 = .ok (.putfield 365, 3) := by decide +kernel
theorem dX12_years_22 : decode cX12_years 22 = .ok (.iconst 0, 1) := by decide +kernel
theorem dX12_years_23 : decode cX12_years 23 = .ok (.istore_n 3, 1) := by decide +kernel
theorem dX12_years_24 : decode cX12_years 24 = .ok (.iload_n 3, 1) := by decide +kernel
theorem dX12_years_25 : decode cX12_years 25 = .ok (.bipush 106, 2) := by decide +kernel
theorem dX12_years_27 : decode cX12_years 27 = .ok (.if_icmp .ge 21, 3) := by decide +kernel
theorem dX12_years_30 : decode cX12_years 30 = .ok (.aload_n 0, 1) := by decide +kernel
theorem dX12_years_31 : decode cX12_years 31 = .ok (.getfield 113, 3) := by decide +kernel
theorem dX12_years_34 : decode cX12_years 34 = .ok (.iload_n 3, 1) := by decide +kernel
theorem dX12_years_35 : decode cX12_years 35 = .ok (.aload_n 0, 1) := by decide +kernel
theorem dX12_years_36 : decode cX12_years 36 = .ok (.getfield 9, 3) := by decide +kernel
theorem dX12_years_39 : decode cX12_years 39 = .ok (.iload_n 3, 1) := by decide +kernel
theorem dX12_years_40 : decode cX12_years 40 = .ok (.iaload, 1) := by decide +kernel
theorem dX12_years_41 : decode cX12_years 41 = .ok (.iastore, 1) := by decide +kernel
theorem dX12_years_42 : decode cX12_years 42 = .ok (.iinc 3 1, 3) := by decide +kernel
theorem dX12_years_45 : decode cX12_years 45 = .ok (.goto (-21), 3) := by decide +kernel
theorem dX12_years_48 : decode cX12_years 48 = .ok (.iconst 0, 1) := by decide +kernel
theorem dX12_years_49 : decode cX12_years 49 = .ok (.istore_n 3, 1) := by decide +kernel
theorem dX12_years_50 : decode cX12_years 50 = .ok (.iload_n 3, 1) := by decide +kernel
theorem dX12_years_51 : decode cX12_years 51 = .ok (.iload_n 2, 1) := by decide +kernel
theorem dX12_years_52 : decode cX12_years 52 = .ok (.if_icmp .ge 65, 3) := by decide +kernel
theorem dX12_years_55 : decode cX12_years 55 = .ok (.aload_n 0, 1) := by decide +kernel
theorem dX12_years_56 : decode cX12_years 56 = .ok (.iconst 3, 1) := by decide +kernel
theorem dX12_years_57 : decode cX12_years 57 = .ok (.invokevirtual 369, 3) := by decide +kernel
theorem dX12_years_60 : decode cX12_years 60 = .ok (.istore 4, 2) := by decide +kernel
theorem dX12_years_62 : decode cX12_years 62 = .ok (.aload_n 0, 1) := by decide +kernel
theorem dX12_years_63 : decode cX12_years 63 = .ok (.bipush 24, 2) := by decide +kernel
theorem dX12_years_65 : decode cX12_years 65 = .ok (.invokevirtual 369, 3) := by decide +kernel
theorem dX12_years_68 : decode cX12_years 68 = .ok (.istore 5, 2) := by decide +kernel
theorem dX12_years_70 : decode cX12_years 70 = .ok (.iload 4, 2) := by decide +kernel
theorem dX12_years_72 : decode cX12_years 72 = .ok (.iconst 2, 1) := by decide +kernel
theorem dX12_years_73 : decode cX12_years 73 = .ok (.if_icmp .ne 7, 3) := by decide +kernel
theorem dX12_years_76 : decode cX12_years 76 = .ok (.iconst 0, 1) := by decide +kernel
theorem dX12_years_77 : decode cX12_years 77 = .ok (.goto 9, 3) := by decide +kernel
theorem dX12_years_80 : decode cX12_years 80 = .ok (.aload_n 0, 1) := by decide +kernel
theorem dX12_years_81 : decode cX12_years 81 = .ok (.bipush 8, 2) := by decide +kernel
theorem dX12_years_83 : decode cX12_years 83 = .ok (.invokevirtual 369, 3) := by decide +kernel
theorem dX12_years_86 : decode cX12_years 86 = .ok (.istore 6, 2) := by decide +kernel
theorem dX12_years_88 : decode cX12_years 88 = .ok (.aload_n 0, 1) := by decide +kernel
theorem dX12_years_89 : decode cX12_years 89 = .ok (.iload 4, 2) := by decide +kernel
theorem dX12_years_91 : decode cX12_years 91 = .ok (.iload 5, 2) := by decide +kernel
theorem dX12_years_93 : decode cX12_years 93 = .ok (.iload 6, 2) := by decide +kernel
theorem dX12_years_95 : decode cX12_years 95 = .ok (.invokevirtual 347, 3) := by decide +kernel
theorem dX12_years_98 : decode cX12_years 98 = .ok (.ifCond .ne 13, 3) := by decide +kernel
theorem dX12_years_101 : decode cX12_years 101 = .ok (.aload_n 0, 1) := by decide +kernel
theorem dX12_years_102 : decode cX12_years 102 = .ok (.iload 4, 2) := by decide +kernel
theorem dX12_years_104 : decode cX12_years 104 = .ok (.iload 5, 2) := by decide +kernel
theorem dX12_years_106 : decode cX12_years 106 = .ok (.iload 6, 2) := by decide +kernel
theorem dX12_years_108 : decode cX12_years 108 = .ok (.invokevirtual 350, 3) := by decide +kernel
theorem dX12_years_111 : decode cX12_years 111 = .ok (.iinc 3 1, 3) := by decide +kernel
theorem dX12_years_114 : decode cX12_years 114 = .ok (.goto (-64), 3) := by decide +kernel
theorem dX12_years_117 : decode cX12_years 117 = .ok (.aload_n 0, 1) := by decide +kernel
theorem dX12_years_118 : decode cX12_years 118 = .ok (.invokevirtual 300, 3) := by decide +kernel
theorem dX12_years_121 : decode cX12_years 121 = .ok (.istore_n 3, 1) := by decide +kernel
theorem dX12_years_122 : decode cX12_years 122 = .ok (.aload_n 0, 1) := by decide +kernel
theorem dX12_years_123 : decode cX12_years 123 = .ok (.getfield 9, 3) := by decide +kernel
theorem dX12_years_126 : decode cX12_years 126 = .ok (.bipush 81, 2) := by decide +kernel
theorem dX12_years_128 : decode cX12_years 128 = .ok (.iaload, 1) := by decide +kernel
theorem dX12_years_129 : decode cX12_years 129 = .ok (.istore 4, 2) := by decide +kernel
theorem dX12_years_131 : decode cX12_years 131 = .ok (.aload_n 0, 1) := by decide +kernel
theorem dX12_years_132 : decode cX12_years 132 = .ok (.getfield 238, 3) := by decide +kernel
theorem dX12_years_135 : decode cX12_years 135 = .ok (.istore 5, 2) := by decide +kernel
theorem dX12_years_137 : decode cX12_years 137 = .ok (.aload_n 0, 1) := by decide +kernel
theorem dX12_years_138 : decode cX12_years 138 = .ok (.invokevirtual 284, 3) := by decide +kernel
theorem dX12_years_141 : decode cX12_years 141 = .ok (.istore 6, 2) := by decide +kernel
theorem dX12_years_143 : decode cX12_years 143 = .ok (.iconst 0, 1) := by decide +kernel
theorem dX12_years_144 : decode cX12_years 144 = .ok (.istore 7, 2) := by decide +kernel
theorem dX12_years_146 : decode cX12_years 146 = .ok (.iload 7, 2) := by decide +kernel
theorem dX12_years_148 : decode cX12_years 148 = .ok (.bipush 106, 2) := by decide +kernel
theorem dX12_years_150 : decode cX12_years 150 = .ok (.if_icmp .ge 23, 3) := by decide +kernel
theorem dX12_years_153 : decode cX12_years 153 = .ok (.aload_n 0, 1) := by decide +kernel
theorem dX12_years_154 : decode cX12_years 154 = .ok (.getfield 9, 3) := by decide +kernel
theorem dX12_years_157 : decode cX12_years 157 = .ok (.iload 7, 2) := by decide +kernel
theorem dX12_years_159 : decode cX12_years 159 = .ok (.aload_n 0, 1) := by decide +kernel
theorem dX12_years_160 : decode cX12_years 160 = .ok (.getfield 113, 3) := by decide +kernel
theorem dX12_years_163 : decode cX12_years 163 = .ok (.iload 7, 2) := by decide +kernel
theorem dX12_years_165 : decode cX12_years 165 = .ok (.iaload, 1) := by decide +kernel
theorem dX12_years_166 : decode cX12_years 166 = .ok (.iastore, 1) := by decide +kernel
theorem dX12_years_167 : decode cX12_years 167 = .ok (.iinc 7 1, 3) := by decide +kernel
theorem dX12_years_170 : decode cX12_years 170 = .ok (.goto (-24), 3) := by decide +kernel
theorem dX12_years_173 : decode cX12_years 173 = .ok (.aload_n 0, 1) := by decide +kernel
theorem dX12_years_174 : decode cX12_years 174 = .ok (.iconst 0, 1) := by decide +kernel
theorem dX12_years_175 : decode cX12_years 175 = .ok (.putfield 127, 3) := by decide +kernel
theorem dX12_years_178 : decode cX12_years 178 = .ok (.aload_n 0, 1) := by decide +kernel
theorem dX12_years_179 : decode cX12_years 179 = .ok (.iload 6, 2) := by decide +kernel
theorem dX12_years_181 : decode cX12_years 181 = .ok (.i2l, 1) := by decide +kernel
theorem dX12_years_182 : decode cX12_years 182 = .ok (.invokevirtual 280, 3) := by decide +kernel
theorem dX12_years_185 : decode cX12_years 185 = .ok (.aload_n 0, 1) := by decide +kernel
theorem dX12_years_186 : decode cX12_years 186 = .ok (.iload 4, 2) := by decide +kernel
theorem dX12_years_188 : decode cX12_years 188 = .ok (.i2l, 1) := by decide +kernel
theorem dX12_years_189 : decode cX12_years 189 = .ok (.invokevirtual 280, 3) := by decide +kernel
theorem dX12_years_192 : decode cX12_years 192 = .ok (.aload_n 0, 1) := by decide +kernel
theorem dX12_years_193 : decode cX12_years 193 = .ok (.iload_n 3, 1) := by decide +kernel
theorem dX12_years_194 : decode cX12_years 194 = .ok (.i2l, 1) := by decide +kernel
theorem dX12_years_195 : decode cX12_years 195 = .ok (.invokevirtual 280, 3) := by decide +kernel
theorem dX12_years_198 : decode cX12_years 198 = .ok (.iload 5, 2) := by decide +kernel
theorem dX12_years_200 : decode cX12_years 200 = .ok (.ireturn, 1) := by decide +kernel
theorem dX12_keep_0 : decode cX12_keep 0 = .ok (.aload_n 0, 1) := by decide +kernel
theorem dX12_keep_1 : decode cX12_keep 1 = .ok (.iconst 0, 1) := by decide +kernel
theorem dX12_keep_2 : decode cX12_keep 2 = .ok (.putfield 123, 3) := by decide +kernel
theorem dX12_keep_5 : decode cX12_keep 5 = .ok (.iload_n 1, 1) := by decide +kernel
theorem dX12_keep_6 : decode cX12_keep 6 = .ok (.iconst 0, 1) := by decide +kernel
theorem dX12_keep_7 : decode cX12_keep 7 = .ok (.iconst 1, 1) := by decide +kernel
theorem dX12_keep_8 : decode cX12_keep 8 = .ok (.invokestatic 133, 3) := by decide +kernel
theorem dX12_keep_11 : decode cX12_keep 11 = .ok (.ifCond .ne 5, 3) := by decide +kernel
theorem dX12_keep_14 : decode cX12_keep 14 = .ok (.iconst 0, 1) := by decide +kernel
theorem dX12_keep_15 : decode cX12_keep 15 = .ok (.ireturn, 1) := by decide +kernel
theorem dX12_keep_16 : decode cX12_keep 16 = .ok (.aload_n 0, 1) := by decide +kernel
theorem dX12_keep_17 : decode cX12_keep 17 = .ok (.getfield 77, 3) := by decide +kernel
theorem dX12_keep_20 : decode cX12_keep 20 = .ok (.iload_n 1, 1) := by decide +kernel
theorem dX12_keep_21 : decode cX12_keep 21 = .ok (.iconst 1, 1) := by decide +kernel
theorem dX12_keep_22 : decode cX12_keep 22 = .ok (.bastore, 1) := by decide +kernel
theorem dX12_keep_23 : decode cX12_keep 23 = .ok (.iconst 0, 1) := by decide +kernel
theorem dX12_keep_24 : decode cX12_keep 24 = .ok (.istore_n 2, 1) := by decide +kernel
theorem dX12_keep_25 : decode cX12_keep 25 = .ok (.iload_n 2, 1) := by decide +kernel
theorem dX12_keep_26 : decode cX12_keep 26 = .ok (.bipush 106, 2) := by decide +kernel
theorem dX12_keep_28 : decode cX12_keep 28 = .ok (.if_icmp .ge 26, 3) := by decide +kernel
theorem dX12_keep_31 : decode cX12_keep 31 = .ok (.aload_n 0, 1) := by decide +kernel
theorem dX12_keep_32 : decode cX12_keep 32 = .ok (.getfield 74, 3) := by decide +kernel
theorem dX12_keep_35 : decode cX12_keep 35 = .ok (.bipush 106, 2) := by decide +kernel
theorem dX12_keep_37 : decode cX12_keep 37 = .ok (.iload_n 1, 1) := by decide +kernel
theorem dX12_keep_38 : decode cX12_keep 38 = .ok (.imul, 1) := by decide +kernel
theorem dX12_keep_39 : decode cX12_keep 39 = .ok (.iload_n 2, 1) := by decide +kernel
theorem dX12_keep_40 : decode cX12_keep 40 = .ok (.iadd, 1) := by decide +kernel
theorem dX12_keep_41 : decode cX12_keep 41 = .ok (.aload_n 0, 1) := by decide +kernel
theorem dX12_keep_42 : decode cX12_keep 42 = .ok (.getfield 9, 3) := by decide +kernel
theorem dX12_keep_45 : decode cX12_keep 45 = .ok (.iload_n 2, 1) := by decide +kernel
theorem dX12_keep_46 : decode cX12_keep 46 = .ok (.iaload, 1) := by decide +kernel
theorem dX12_keep_47 : decode cX12_keep 47 = .ok (.iastore, 1) := by decide +kernel
theorem dX12_keep_48 : decode cX12_keep 48 = .ok (.iinc 2 1, 3) := by decide +kernel
theorem dX12_keep_51 : decode cX12_keep 51 = .ok (.goto (-26), 3) := by decide +kernel
theorem dX12_keep_54 : decode cX12_keep 54 = .ok (.iconst 1, 1) := by decide +kernel
theorem dX12_keep_55 : decode cX12_keep 55 = .ok (.ireturn, 1) := by decide +kernel
theorem dX12_again_0 : decode cX12_again 0 = .ok (.aload_n 0, 1) := by decide +kernel
theorem dX12_again_1 : decode cX12_again 1 = .ok (.iconst 0, 1) := by decide +kernel
theorem dX12_again_2 : decode cX12_again 2 = .ok (.putfield 123, 3) := by decide +kernel
theorem dX12_again_5 : decode cX12_again 5 = .ok (.iload_n 1, 1) := by decide +kernel
theorem dX12_again_6 : decode cX12_again 6 = .ok (.iconst 0, 1) := by decide +kernel
theorem dX12_again_7 : decode cX12_again 7 = .ok (.iconst 1, 1) := by decide +kernel
theorem dX12_again_8 : decode cX12_again 8 = .ok (.invokestatic 133, 3) := by decide +kernel
theorem dX12_again_11 : decode cX12_again 11 = .ok (.ifCond .eq 12, 3) := by decide +kernel
theorem dX12_again_14 : decode cX12_again 14 = .ok (.aload_n 0, 1) := by decide +kernel
theorem dX12_again_15 : decode cX12_again 15 = .ok (.getfield 77, 3) := by decide +kernel
theorem dX12_again_18 : decode cX12_again 18 = .ok (.iload_n 1, 1) := by decide +kernel
theorem dX12_again_19 : decode cX12_again 19 = .ok (.baload, 1) := by decide +kernel
theorem dX12_again_20 : decode cX12_again 20 = .ok (.ifCond .ne 5, 3) := by decide +kernel
theorem dX12_again_23 : decode cX12_again 23 = .ok (.iconst 0, 1) := by decide +kernel
theorem dX12_again_24 : decode cX12_again 24 = .ok (.ireturn, 1) := by decide +kernel
theorem dX12_again_25 : decode cX12_again 25 = .ok (.iconst 0, 1) := by decide +kernel
theorem dX12_again_26 : decode cX12_again 26 = .ok (.istore_n 2, 1) := by decide +kernel
theorem dX12_again_27 : decode cX12_again 27 = .ok (.iload_n 2, 1) := by decide +kernel
theorem dX12_again_28 : decode cX12_again 28 = .ok (.bipush 106, 2) := by decide +kernel
theorem dX12_again_30 : decode cX12_again 30 = .ok (.if_icmp .ge 26, 3) := by decide +kernel
theorem dX12_again_33 : decode cX12_again 33 = .ok (.aload_n 0, 1) := by decide +kernel
theorem dX12_again_34 : decode cX12_again 34 = .ok (.getfield 9, 3) := by decide +kernel
theorem dX12_again_37 : decode cX12_again 37 = .ok (.iload_n 2, 1) := by decide +kernel
theorem dX12_again_38 : decode cX12_again 38 = .ok (.aload_n 0, 1) := by decide +kernel
theorem dX12_again_39 : decode cX12_again 39 = .ok (.getfield 74, 3) := by decide +kernel
theorem dX12_again_42 : decode cX12_again 42 = .ok (.bipush 106, 2) := by decide +kernel
theorem dX12_again_44 : decode cX12_again 44 = .ok (.iload_n 1, 1) := by decide +kernel
theorem dX12_again_45 : decode cX12_again 45 = .ok (.imul, 1) := by decide +kernel
theorem dX12_again_46 : decode cX12_again 46 = .ok (.iload_n 2, 1) := by decide +kernel
theorem dX12_again_47 : decode cX12_again 47 = .ok (.iadd, 1) := by decide +kernel
theorem dX12_again_48 : decode cX12_again 48 = .ok (.iaload, 1) := by decide +kernel
theorem dX12_again_49 : decode cX12_again 49 = .ok (.iastore, 1) := by decide +kernel
theorem dX12_again_50 : decode cX12_again 50 = .ok (.iinc 2 1, 3) := by decide +kernel
theorem dX12_again_53 : decode cX12_again 53 = .ok (.goto (-26), 3) := by decide +kernel
theorem dX12_again_56 : decode cX12_again 56 = .ok (.aload_n 0, 1) := by decide +kernel
theorem dX12_again_57 : decode cX12_again 57 = .ok (.iconst 0, 1) := by decide +kernel
theorem dX12_again_58 : decode cX12_again 58 = .ok (.putfield 338, 3) := by decide +kernel
theorem dX12_again_61 : decode cX12_again 61 = .ok (.aload_n 0, 1) := by decide +kernel
theorem dX12_again_62 : decode cX12_again 62 = .ok (.aload_n 0, 1) := by decide +kernel
theorem dX12_again_63 : decode cX12_again 63 = .ok (.getfield 9, 3) := by decide +kernel
theorem dX12_again_66 : decode cX12_again 66 = .ok (.invokevirtual 119, 3) := by decide +kernel
theorem dX12_again_69 : decode cX12_again 69 = .ok (.iconst 1, 1) := by decide +kernel
theorem dX12_again_70 : decode cX12_again 70 = .ok (.ireturn, 1) := by decide +kernel
theorem dX12_allLetters_0 : decode cX12_allLetters 0 = .ok (.iconst 0, 1) := by decide +kernel
theorem dX12_allLetters_1 : decode cX12_allLetters 1 = .ok (.istore_n 1, 1) := by decide +kernel
theorem dX12_allLetters_2 : decode cX12_allLetters 2 = .ok (.iconst 0, 1) := by decide +kernel
theorem dX12_allLetters_3 : decode cX12_allLetters 3 = .ok (.istore_n 2, 1) := by decide +kernel
theorem dX12_allLetters_4 : decode cX12_allLetters 4 = .ok (.iload_n 2, 1) := by decide +kernel
theorem dX12_allLetters_5 : decode cX12_allLetters 5 = .ok (.aload_n 0, 1) := by decide +kernel
theorem dX12_allLetters_6 : decode cX12_allLetters 6 = .ok (.getfield 202, 3) := by decide +kernel
theorem dX12_allLetters_9 : decode cX12_allLetters 9 = .ok (.if_icmp .ge 18, 3) := by decide +kernel
theorem dX12_allLetters_12 : decode cX12_allLetters 12 = .ok (.iload_n 1, 1) := by decide +kernel
theorem dX12_allLetters_13 : decode cX12_allLetters 13 = .ok (.aload_n 0, 1) := by decide +kernel
theorem dX12_allLetters_14 : decode cX12_allLetters 14 = .ok (.getfield 27, 3) := by decide +kernel
theorem dX12_allLetters_17 : decode cX12_allLetters 17 = .ok (.iload_n 2, 1) := by decide +kernel
theorem dX12_allLetters_18 : decode cX12_allLetters 18 = .ok (.iaload, 1) := by decide +kernel
theorem dX12_allLetters_19 : decode cX12_allLetters 19 = .ok (.iadd, 1) := by decide +kernel
theorem dX12_allLetters_20 : decode cX12_allLetters 20 = .ok (.istore_n 1, 1) := by decide +kernel
theorem dX12_allLetters_21 : decode cX12_allLetters 21 = .ok (.iinc 2 1, 3) := by decide +kernel
theorem dX12_allLetters_24 : decode cX12_allLetters 24 = .ok (.goto (-20), 3) := by decide +kernel
theorem dX12_allLetters_27 : decode cX12_allLetters 27 = .ok (.iload_n 1, 1) := by decide +kernel
theorem dX12_allLetters_28 : decode cX12_allLetters 28 = .ok (.ireturn, 1) := by decide +kernel
theorem dX12_ruledModes_0 : decode cX12_ruledModes 0 = .ok (.iconst 0, 1) := by decide +kernel
theorem dX12_ruledModes_1 : decode cX12_ruledModes 1 = .ok (.istore_n 1, 1) := by decide +kernel
theorem dX12_ruledModes_2 : decode cX12_ruledModes 2 = .ok (.iconst 0, 1) := by decide +kernel
theorem dX12_ruledModes_3 : decode cX12_ruledModes 3 = .ok (.istore_n 2, 1) := by decide +kernel
theorem dX12_ruledModes_4 : decode cX12_ruledModes 4 = .ok (.iload_n 2, 1) := by decide +kernel
theorem dX12_ruledModes_5 : decode cX12_ruledModes 5 = .ok (.aload_n 0, 1) := by decide +kernel
theorem dX12_ruledModes_6 : decode cX12_ruledModes 6 = .ok (.getfield 202, 3) := by decide +kernel
theorem dX12_ruledModes_9 : decode cX12_ruledModes 9 = .ok (.if_icmp .ge 20, 3) := by decide +kernel
theorem dX12_ruledModes_12 : decode cX12_ruledModes 12 = .ok (.iload_n 1, 1) := by decide +kernel
theorem dX12_ruledModes_13 : decode cX12_ruledModes 13 = .ok (.iconst 1, 1) := by decide +kernel
theorem dX12_ruledModes_14 : decode cX12_ruledModes 14 = .ok (.aload_n 0, 1) := by decide +kernel
theorem dX12_ruledModes_15 : decode cX12_ruledModes 15 = .ok (.getfield 24, 3) := by decide +kernel
theorem dX12_ruledModes_18 : decode cX12_ruledModes 18 = .ok (.iload_n 2, 1) := by decide +kernel
theorem dX12_ruledModes_19 : decode cX12_ruledModes 19 = .ok (.iaload, 1) := by decide +kernel
theorem dX12_ruledModes_20 : decode cX12_ruledModes 20 = .ok (.ishl, 1) := by decide +kernel
theorem dX12_ruledModes_21 : decode cX12_ruledModes 21 = .ok (.ior, 1) := by decide +kernel
theorem dX12_ruledModes_22 : decode cX12_ruledModes 22 = .ok (.istore_n 1, 1) := by decide +kernel
theorem dX12_ruledModes_23 : decode cX12_ruledModes 23 = .ok (.iinc 2 1, 3) := by decide +kernel
theorem dX12_ruledModes_26 : decode cX12_ruledModes 26 = .ok (.goto (-22), 3) := by decide +kernel
theorem dX12_ruledModes_29 : decode cX12_ruledModes 29 = .ok (.iload_n 1, 1) := by decide +kernel
theorem dX12_ruledModes_30 : decode cX12_ruledModes 30 = .ok (.ireturn, 1) := by decide +kernel
theorem dX12_count_0 : decode cX12_count 0 = .ok (.aload_n 0, 1) := by decide +kernel
theorem dX12_count_1 : decode cX12_count 1 = .ok (.iconst 0, 1) := by decide +kernel
theorem dX12_count_2 : decode cX12_count 2 = .ok (.putfield 123, 3) := by decide +kernel
theorem dX12_count_5 : decode cX12_count 5 = .ok (.iload_n 1, 1) := by decide +kernel
theorem dX12_count_6 : decode cX12_count 6 = .ok (.tableswitch 108 0 8 #[50, 55, 63, 73, 78, 83, 88, 98, 103], 50) := by decide +kernel
theorem dX12_count_56 : decode cX12_count 56 = .ok (.aload_n 0, 1) := by decide +kernel
theorem dX12_count_57 : decode cX12_count 57 = .ok (.getfield 202, 3) := by decide +kernel
theorem dX12_count_60 : decode cX12_count 60 = .ok (.ireturn, 1) := by decide +kernel
theorem dX12_count_61 : decode cX12_count 61 = .ok (.aload_n 0, 1) := by decide +kernel
theorem dX12_count_62 : decode cX12_count 62 = .ok (.getfield 9, 3) := by decide +kernel
theorem dX12_count_65 : decode cX12_count 65 = .ok (.bipush 81, 2) := by decide +kernel
theorem dX12_count_67 : decode cX12_count 67 = .ok (.iaload, 1) := by decide +kernel
theorem dX12_count_68 : decode cX12_count 68 = .ok (.ireturn, 1) := by decide +kernel
theorem dX12_count_69 : decode cX12_count 69 = .ok (.aload_n 0, 1) := by decide +kernel
theorem dX12_count_70 : decode cX12_count 70 = .ok (.iconst 0, 1) := by decide +kernel
theorem dX12_count_71 : decode cX12_count 71 = .ok (.invokevirtual 274, 3) := by decide +kernel
theorem dX12_count_74 : decode cX12_count 74 = .ok (.aload_n 0, 1) := by decide +kernel
theorem dX12_count_75 : decode cX12_count 75 = .ok (.getfield 238, 3) := by decide +kernel
theorem dX12_count_78 : decode cX12_count 78 = .ok (.ireturn, 1) := by decide +kernel
theorem dX12_count_79 : decode cX12_count 79 = .ok (.aload_n 0, 1) := by decide +kernel
theorem dX12_count_80 : decode cX12_count 80 = .ok (.getfield 338, 3) := by decide +kernel
theorem dX12_count_83 : decode cX12_count 83 = .ok (.ireturn, 1) := by decide +kernel
theorem dX12_count_84 : decode cX12_count 84 = .ok (.aload_n 0, 1) := by decide +kernel
theorem dX12_count_85 : decode cX12_count 85 = .ok (.getfield 127, 3) := by decide +kernel
theorem dX12_count_88 : decode cX12_count 88 = .ok (.ireturn, 1) := by decide +kernel
theorem dX12_count_89 : decode cX12_count 89 = .ok (.aload_n 0, 1) := by decide +kernel
theorem dX12_count_90 : decode cX12_count 90 = .ok (.getfield 130, 3) := by decide +kernel
theorem dX12_count_93 : decode cX12_count 93 = .ok (.ireturn, 1) := by decide +kernel
theorem dX12_count_94 : decode cX12_count 94 = .ok (.aload_n 0, 1) := by decide +kernel
theorem dX12_count_95 : decode cX12_count 95 = .ok (.iconst 0, 1) := by decide +kernel
theorem dX12_count_96 : decode cX12_count 96 = .ok (.invokevirtual 274, 3) := by decide +kernel
theorem dX12_count_99 : decode cX12_count 99 = .ok (.aload_n 0, 1) := by decide +kernel
theorem dX12_count_100 : decode cX12_count 100 = .ok (.getfield 235, 3) := by decide +kernel
theorem dX12_count_103 : decode cX12_count 103 = .ok (.ireturn, 1) := by decide +kernel
theorem dX12_count_104 : decode cX12_count 104 = .ok (.aload_n 0, 1) := by decide +kernel
theorem dX12_count_105 : decode cX12_count 105 = .ok (.invokevirtual 372, 3) := by decide +kernel
theorem dX12_count_108 : decode cX12_count 108 = .ok (.ireturn, 1) := by decide +kernel
theorem dX12_count_109 : decode cX12_count 109 = .ok (.aload_n 0, 1) := by decide +kernel
theorem dX12_count_110 : decode cX12_count 110 = .ok (.invokevirtual 375, 3) := by decide +kernel
theorem dX12_count_113 : decode cX12_count 113 = .ok (.ireturn, 1) := by decide +kernel
theorem dX12_count_114 : decode cX12_count 114 = .ok (.iconst (-1), 1) := by decide +kernel
theorem dX12_count_115 : decode cX12_count 115 = .ok (.ireturn, 1) := by decide +kernel
theorem dX12_row_0 : decode cX12_row 0 = .ok (.aload_n 0, 1) := by decide +kernel
theorem dX12_row_1 : decode cX12_row 1 = .ok (.iconst 0, 1) := by decide +kernel
theorem dX12_row_2 : decode cX12_row 2 = .ok (.putfield 123, 3) := by decide +kernel
theorem dX12_row_5 : decode cX12_row 5 = .ok (.iload_n 1, 1) := by decide +kernel
theorem dX12_row_6 : decode cX12_row 6 = .ok (.iconst 0, 1) := by decide +kernel
theorem dX12_row_7 : decode cX12_row 7 = .ok (.aload_n 0, 1) := by decide +kernel
theorem dX12_row_8 : decode cX12_row 8 = .ok (.getfield 127, 3) := by decide +kernel
theorem dX12_row_11 : decode cX12_row 11 = .ok (.iconst 1, 1) := by decide +kernel
theorem dX12_row_12 : decode cX12_row 12 = .ok (.isub, 1) := by decide +kernel
theorem dX12_row_13 : decode cX12_row 13 = .ok (.invokestatic 133, 3) := by decide +kernel
theorem dX12_row_16 : decode cX12_row 16 = .ok (.ifCond .eq 12, 3) := by decide +kernel
theorem dX12_row_19 : decode cX12_row 19 = .ok (.aload_n 0, 1) := by decide +kernel
theorem dX12_row_20 : decode cX12_row 20 = .ok (.getfield 17, 3) := by decide +kernel
theorem dX12_row_23 : decode cX12_row 23 = .ok (.iload_n 1, 1) := by decide +kernel
theorem dX12_row_24 : decode cX12_row 24 = .ok (.laload, 1) := by decide +kernel
theorem dX12_row_25 : decode cX12_row 25 = .ok (.goto 8, 3) := by decide +kernel
theorem dX12_row_28 : decode cX12_row 28 = .ok (.aload_n 0, 1) := by decide +kernel
theorem dX12_row_29 : decode cX12_row 29 = .ok (.invokevirtual 226, 3) := by decide +kernel
theorem dX12_row_32 : decode cX12_row 32 = .ok (.i2l, 1) := by decide +kernel
theorem dX12_row_33 : decode cX12_row 33 = .ok (.lreturn, 1) := by decide +kernel
theorem dJ6_bitCount_0f7a4_0 : decode cJ6_bitCount_0f7a4 0 = .ok (.iload_n 0, 1) := by decide +kernel
theorem dJ6_bitCount_0f7a4_1 : decode cJ6_bitCount_0f7a4 1 = .ok (.iload_n 0, 1) := by decide +kernel
theorem dJ6_bitCount_0f7a4_2 : decode cJ6_bitCount_0f7a4 2 = .ok (.iconst 1, 1) := by decide +kernel
theorem dJ6_bitCount_0f7a4_3 : decode cJ6_bitCount_0f7a4 3 = .ok (.iushr, 1) := by decide +kernel
theorem dJ6_bitCount_0f7a4_4 : decode cJ6_bitCount_0f7a4 4 = .ok (.ldc_w 265, 3) := by decide +kernel
theorem dJ6_bitCount_0f7a4_7 : decode cJ6_bitCount_0f7a4 7 = .ok (.iand, 1) := by decide +kernel
theorem dJ6_bitCount_0f7a4_8 : decode cJ6_bitCount_0f7a4 8 = .ok (.isub, 1) := by decide +kernel
theorem dJ6_bitCount_0f7a4_9 : decode cJ6_bitCount_0f7a4 9 = .ok (.istore_n 0, 1) := by decide +kernel
theorem dJ6_bitCount_0f7a4_10 : decode cJ6_bitCount_0f7a4 10 = .ok (.iload_n 0, 1) := by decide +kernel
theorem dJ6_bitCount_0f7a4_11 : decode cJ6_bitCount_0f7a4 11 = .ok (.ldc_w 266, 3) := by decide +kernel
theorem dJ6_bitCount_0f7a4_14 : decode cJ6_bitCount_0f7a4 14 = .ok (.iand, 1) := by decide +kernel
theorem dJ6_bitCount_0f7a4_15 : decode cJ6_bitCount_0f7a4 15 = .ok (.iload_n 0, 1) := by decide +kernel
theorem dJ6_bitCount_0f7a4_16 : decode cJ6_bitCount_0f7a4 16 = .ok (.iconst 2, 1) := by decide +kernel
theorem dJ6_bitCount_0f7a4_17 : decode cJ6_bitCount_0f7a4 17 = .ok (.iushr, 1) := by decide +kernel
theorem dJ6_bitCount_0f7a4_18 : decode cJ6_bitCount_0f7a4 18 = .ok (.ldc_w 266, 3) := by decide +kernel
theorem dJ6_bitCount_0f7a4_21 : decode cJ6_bitCount_0f7a4 21 = .ok (.iand, 1) := by decide +kernel
theorem dJ6_bitCount_0f7a4_22 : decode cJ6_bitCount_0f7a4 22 = .ok (.iadd, 1) := by decide +kernel
theorem dJ6_bitCount_0f7a4_23 : decode cJ6_bitCount_0f7a4 23 = .ok (.istore_n 0, 1) := by decide +kernel
theorem dJ6_bitCount_0f7a4_24 : decode cJ6_bitCount_0f7a4 24 = .ok (.iload_n 0, 1) := by decide +kernel
theorem dJ6_bitCount_0f7a4_25 : decode cJ6_bitCount_0f7a4 25 = .ok (.iload_n 0, 1) := by decide +kernel
theorem dJ6_bitCount_0f7a4_26 : decode cJ6_bitCount_0f7a4 26 = .ok (.iconst 4, 1) := by decide +kernel
theorem dJ6_bitCount_0f7a4_27 : decode cJ6_bitCount_0f7a4 27 = .ok (.iushr, 1) := by decide +kernel
theorem dJ6_bitCount_0f7a4_28 : decode cJ6_bitCount_0f7a4 28 = .ok (.iadd, 1) := by decide +kernel
theorem dJ6_bitCount_0f7a4_29 : decode cJ6_bitCount_0f7a4 29 = .ok (.ldc_w 267, 3) := by decide +kernel
theorem dJ6_bitCount_0f7a4_32 : decode cJ6_bitCount_0f7a4 32 = .ok (.iand, 1) := by decide +kernel
theorem dJ6_bitCount_0f7a4_33 : decode cJ6_bitCount_0f7a4 33 = .ok (.istore_n 0, 1) := by decide +kernel
theorem dJ6_bitCount_0f7a4_34 : decode cJ6_bitCount_0f7a4 34 = .ok (.iload_n 0, 1) := by decide +kernel
theorem dJ6_bitCount_0f7a4_35 : decode cJ6_bitCount_0f7a4 35 = .ok (.iload_n 0, 1) := by decide +kernel
theorem dJ6_bitCount_0f7a4_36 : decode cJ6_bitCount_0f7a4 36 = .ok (.bipush 8, 2) := by decide +kernel
theorem dJ6_bitCount_0f7a4_38 : decode cJ6_bitCount_0f7a4 38 = .ok (.iushr, 1) := by decide +kernel
theorem dJ6_bitCount_0f7a4_39 : decode cJ6_bitCount_0f7a4 39 = .ok (.iadd, 1) := by decide +kernel
theorem dJ6_bitCount_0f7a4_40 : decode cJ6_bitCount_0f7a4 40 = .ok (.istore_n 0, 1) := by decide +kernel
theorem dJ6_bitCount_0f7a4_41 : decode cJ6_bitCount_0f7a4 41 = .ok (.iload_n 0, 1) := by decide +kernel
theorem dJ6_bitCount_0f7a4_42 : decode cJ6_bitCount_0f7a4 42 = .ok (.iload_n 0, 1) := by decide +kernel
theorem dJ6_bitCount_0f7a4_43 : decode cJ6_bitCount_0f7a4 43 = .ok (.bipush 16, 2) := by decide +kernel
theorem dJ6_bitCount_0f7a4_45 : decode cJ6_bitCount_0f7a4 45 = .ok (.iushr, 1) := by decide +kernel
theorem dJ6_bitCount_0f7a4_46 : decode cJ6_bitCount_0f7a4 46 = .ok (.iadd, 1) := by decide +kernel
theorem dJ6_bitCount_0f7a4_47 : decode cJ6_bitCount_0f7a4 47 = .ok (.istore_n 0, 1) := by decide +kernel
theorem dJ6_bitCount_0f7a4_48 : decode cJ6_bitCount_0f7a4 48 = .ok (.iload_n 0, 1) := by decide +kernel
theorem dJ6_bitCount_0f7a4_49 : decode cJ6_bitCount_0f7a4 49 = .ok (.bipush 63, 2) := by decide +kernel
theorem dJ6_bitCount_0f7a4_51 : decode cJ6_bitCount_0f7a4 51 = .ok (.iand, 1) := by decide +kernel
theorem dJ6_bitCount_0f7a4_52 : decode cJ6_bitCount_0f7a4 52 = .ok (.ireturn, 1) := by decide +kernel
theorem dJ9_floorMod_7cf53_0 : decode cJ9_floorMod_7cf53 0 = .ok (.iload_n 0, 1) := by decide +kernel
theorem dJ9_floorMod_7cf53_1 : decode cJ9_floorMod_7cf53 1 = .ok (.iload_n 1, 1) := by decide +kernel
theorem dJ9_floorMod_7cf53_2 : decode cJ9_floorMod_7cf53 2 = .ok (.irem, 1) := by decide +kernel
theorem dJ9_floorMod_7cf53_3 : decode cJ9_floorMod_7cf53 3 = .ok (.istore_n 2, 1) := by decide +kernel
theorem dJ9_floorMod_7cf53_4 : decode cJ9_floorMod_7cf53 4 = .ok (.iload_n 0, 1) := by decide +kernel
theorem dJ9_floorMod_7cf53_5 : decode cJ9_floorMod_7cf53 5 = .ok (.iload_n 1, 1) := by decide +kernel
theorem dJ9_floorMod_7cf53_6 : decode cJ9_floorMod_7cf53 6 = .ok (.ixor, 1) := by decide +kernel
theorem dJ9_floorMod_7cf53_7 : decode cJ9_floorMod_7cf53 7 = .ok (.ifCond .ge 11, 3) := by decide +kernel
theorem dJ9_floorMod_7cf53_10 : decode cJ9_floorMod_7cf53 10 = .ok (.iload_n 2, 1) := by decide +kernel
theorem dJ9_floorMod_7cf53_11 : decode cJ9_floorMod_7cf53 11 = .ok (.ifCond .eq 7, 3) := by decide +kernel
theorem dJ9_floorMod_7cf53_14 : decode cJ9_floorMod_7cf53 14 = .ok (.iload_n 2, 1) := by decide +kernel
theorem dJ9_floorMod_7cf53_15 : decode cJ9_floorMod_7cf53 15 = .ok (.iload_n 1, 1) := by decide +kernel
theorem dJ9_floorMod_7cf53_16 : decode cJ9_floorMod_7cf53 16 = .ok (.iadd, 1) := by decide +kernel
theorem dJ9_floorMod_7cf53_17 : decode cJ9_floorMod_7cf53 17 = .ok (.ireturn, 1) := by decide +kernel
theorem dJ9_floorMod_7cf53_18 : decode cJ9_floorMod_7cf53 18 = .ok (.iload_n 2, 1) := by decide +kernel
theorem dJ9_floorMod_7cf53_19 : decode cJ9_floorMod_7cf53 19 = .ok (.ireturn, 1) := by decide +kernel
theorem dJ9_max_7cf53_0 : decode cJ9_max_7cf53 0 = .ok (.iload_n 0, 1) := by decide +kernel
theorem dJ9_max_7cf53_1 : decode cJ9_max_7cf53 1 = .ok (.iload_n 1, 1) := by decide +kernel
theorem dJ9_max_7cf53_2 : decode cJ9_max_7cf53 2 = .ok (.if_icmp .lt 7, 3) := by decide +kernel
theorem dJ9_max_7cf53_5 : decode cJ9_max_7cf53 5 = .ok (.iload_n 0, 1) := by decide +kernel
theorem dJ9_max_7cf53_6 : decode cJ9_max_7cf53 6 = .ok (.goto 4, 3) := by decide +kernel
theorem dJ9_max_7cf53_9 : decode cJ9_max_7cf53 9 = .ok (.iload_n 1, 1) := by decide +kernel
theorem dJ9_max_7cf53_10 : decode cJ9_max_7cf53 10 = .ok (.ireturn, 1) := by decide +kernel
theorem dJ9_min_7cf53_0 : decode cJ9_min_7cf53 0 = .ok (.iload_n 0, 1) := by decide +kernel
theorem dJ9_min_7cf53_1 : decode cJ9_min_7cf53 1 = .ok (.iload_n 1, 1) := by decide +kernel
theorem dJ9_min_7cf53_2 : decode cJ9_min_7cf53 2 = .ok (.if_icmp .gt 7, 3) := by decide +kernel
theorem dJ9_min_7cf53_5 : decode cJ9_min_7cf53 5 = .ok (.iload_n 0, 1) := by decide +kernel
theorem dJ9_min_7cf53_6 : decode cJ9_min_7cf53 6 = .ok (.goto 4, 3) := by decide +kernel
theorem dJ9_min_7cf53_9 : decode cJ9_min_7cf53 9 = .ok (.iload_n 1, 1) := by decide +kernel
theorem dJ9_min_7cf53_10 : decode cJ9_min_7cf53 10 = .ok (.ireturn, 1) := by decide +kernel
theorem dJ7_fill_53178_0 : decode cJ7_fill_53178 0 = .ok (.iconst 0, 1) := by decide +kernel
theorem dJ7_fill_53178_1 : decode cJ7_fill_53178 1 = .ok (.istore_n 2, 1) := by decide +kernel
theorem dJ7_fill_53178_2 : decode cJ7_fill_53178 2 = .ok (.aload_n 0, 1) := by decide +kernel
theorem dJ7_fill_53178_3 : decode cJ7_fill_53178 3 = .ok (.arraylength, 1) := by decide +kernel
theorem dJ7_fill_53178_4 : decode cJ7_fill_53178 4 = .ok (.istore_n 3, 1) := by decide +kernel
theorem dJ7_fill_53178_5 : decode cJ7_fill_53178 5 = .ok (.iload_n 2, 1) := by decide +kernel
theorem dJ7_fill_53178_6 : decode cJ7_fill_53178 6 = .ok (.iload_n 3, 1) := by decide +kernel
theorem dJ7_fill_53178_7 : decode cJ7_fill_53178 7 = .ok (.if_icmp .ge 13, 3) := by decide +kernel
theorem dJ7_fill_53178_10 : decode cJ7_fill_53178 10 = .ok (.aload_n 0, 1) := by decide +kernel
theorem dJ7_fill_53178_11 : decode cJ7_fill_53178 11 = .ok (.iload_n 2, 1) := by decide +kernel
theorem dJ7_fill_53178_12 : decode cJ7_fill_53178 12 = .ok (.iload_n 1, 1) := by decide +kernel
theorem dJ7_fill_53178_13 : decode cJ7_fill_53178 13 = .ok (.iastore, 1) := by decide +kernel
theorem dJ7_fill_53178_14 : decode cJ7_fill_53178 14 = .ok (.iinc 2 1, 3) := by decide +kernel
theorem dJ7_fill_53178_17 : decode cJ7_fill_53178 17 = .ok (.goto (-12), 3) := by decide +kernel
theorem dJ7_fill_53178_20 : decode cJ7_fill_53178 20 = .ok (.return_, 1) := by decide +kernel
theorem dL_rule_0 : decode cL_rule 0 = .ok (.aload_n 3, 1) := by decide +kernel
theorem dL_rule_1 : decode cL_rule 1 = .ok (.iconst 0, 1) := by decide +kernel
theorem dL_rule_2 : decode cL_rule 2 = .ok (.aload_n 0, 1) := by decide +kernel
theorem dL_rule_3 : decode cL_rule 3 = .ok (.iload_n 1, 1) := by decide +kernel
theorem dL_rule_4 : decode cL_rule 4 = .ok (.iload_n 2, 1) := by decide +kernel
theorem dL_rule_5 : decode cL_rule 5 = .ok (.invokevirtual 7, 3) := by decide +kernel
theorem dL_rule_8 : decode cL_rule 8 = .ok (.i2l, 1) := by decide +kernel
theorem dL_rule_9 : decode cL_rule 9 = .ok (.lastore, 1) := by decide +kernel
theorem dL_rule_10 : decode cL_rule 10 = .ok (.goto 7, 3) := by decide +kernel
theorem dL_rule_13 : decode cL_rule 13 = .ok (.astore 4, 2) := by decide +kernel
theorem dL_rule_15 : decode cL_rule 15 = .ok (.iconst 1, 1) := by decide +kernel
theorem dL_rule_16 : decode cL_rule 16 = .ok (.ireturn, 1) := by decide +kernel
theorem dL_rule_17 : decode cL_rule 17 = .ok (.iconst 0, 1) := by decide +kernel
theorem dL_rule_18 : decode cL_rule 18 = .ok (.ireturn, 1) := by decide +kernel
theorem dL_at_0 : decode cL_at 0 = .ok (.aload_n 2, 1) := by decide +kernel
theorem dL_at_1 : decode cL_at 1 = .ok (.iconst 0, 1) := by decide +kernel
theorem dL_at_2 : decode cL_at 2 = .ok (.aload_n 0, 1) := by decide +kernel
theorem dL_at_3 : decode cL_at 3 = .ok (.iload_n 1, 1) := by decide +kernel
theorem dL_at_4 : decode cL_at 4 = .ok (.invokevirtual 15, 3) := by decide +kernel
theorem dL_at_7 : decode cL_at 7 = .ok (.i2l, 1) := by decide +kernel
theorem dL_at_8 : decode cL_at 8 = .ok (.lastore, 1) := by decide +kernel
theorem dL_at_9 : decode cL_at 9 = .ok (.goto 6, 3) := by decide +kernel
theorem dL_at_12 : decode cL_at 12 = .ok (.astore_n 3, 1) := by decide +kernel
theorem dL_at_13 : decode cL_at 13 = .ok (.iconst 1, 1) := by decide +kernel
theorem dL_at_14 : decode cL_at 14 = .ok (.ireturn, 1) := by decide +kernel
theorem dL_at_15 : decode cL_at 15 = .ok (.iconst 0, 1) := by decide +kernel
theorem dL_at_16 : decode cL_at 16 = .ok (.ireturn, 1) := by decide +kernel
theorem dL_token_0 : decode cL_token 0 = .ok (.aload_n 3, 1) := by decide +kernel
theorem dL_token_1 : decode cL_token 1 = .ok (.iconst 0, 1) := by decide +kernel
theorem dL_token_2 : decode cL_token 2 = .ok (.aload_n 0, 1) := by decide +kernel
theorem dL_token_3 : decode cL_token 3 = .ok (.iload_n 1, 1) := by decide +kernel
theorem dL_token_4 : decode cL_token 4 = .ok (.iload_n 2, 1) := by decide +kernel
theorem dL_token_5 : decode cL_token 5 = .ok (.invokevirtual 19, 3) := by decide +kernel
theorem dL_token_8 : decode cL_token 8 = .ok (.i2l, 1) := by decide +kernel
theorem dL_token_9 : decode cL_token 9 = .ok (.lastore, 1) := by decide +kernel
theorem dL_token_10 : decode cL_token 10 = .ok (.goto 7, 3) := by decide +kernel
theorem dL_token_13 : decode cL_token 13 = .ok (.astore 4, 2) := by decide +kernel
theorem dL_token_15 : decode cL_token 15 = .ok (.iconst 1, 1) := by decide +kernel
theorem dL_token_16 : decode cL_token 16 = .ok (.ireturn, 1) := by decide +kernel
theorem dL_token_17 : decode cL_token 17 = .ok (.iconst 0, 1) := by decide +kernel
theorem dL_token_18 : decode cL_token 18 = .ok (.ireturn, 1) := by decide +kernel
theorem dL_row_0 : decode cL_row 0 = .ok (.aload_n 2, 1) := by decide +kernel
theorem dL_row_1 : decode cL_row 1 = .ok (.iconst 0, 1) := by decide +kernel
theorem dL_row_2 : decode cL_row 2 = .ok (.aload_n 0, 1) := by decide +kernel
theorem dL_row_3 : decode cL_row 3 = .ok (.iload_n 1, 1) := by decide +kernel
theorem dL_row_4 : decode cL_row 4 = .ok (.invokevirtual 22, 3) := by decide +kernel
theorem dL_row_7 : decode cL_row 7 = .ok (.lastore, 1) := by decide +kernel
theorem dL_row_8 : decode cL_row 8 = .ok (.goto 6, 3) := by decide +kernel
theorem dL_row_11 : decode cL_row 11 = .ok (.astore_n 3, 1) := by decide +kernel
theorem dL_row_12 : decode cL_row 12 = .ok (.iconst 1, 1) := by decide +kernel
theorem dL_row_13 : decode cL_row 13 = .ok (.ireturn, 1) := by decide +kernel
theorem dL_row_14 : decode cL_row 14 = .ok (.iconst 0, 1) := by decide +kernel
theorem dL_row_15 : decode cL_row 15 = .ok (.ireturn, 1) := by decide +kernel
theorem dL_law_0 : decode cL_law 0 = .ok (.new 8, 3) := by decide +kernel
theorem dL_law_3 : decode cL_law 3 = .ok (.dup, 1) := by decide +kernel
theorem dL_law_4 : decode cL_law 4 = .ok (.invokespecial 26, 3) := by decide +kernel
theorem dL_law_7 : decode cL_law 7 = .ok (.astore_n 1, 1) := by decide +kernel
theorem dL_law_8 : decode cL_law 8 = .ok (.new 27, 3) := by decide +kernel
theorem dL_law_11 : decode cL_law 11 = .ok (.dup, 1) := by decide +kernel
theorem dL_law_12 : decode cL_law 12 = .ok (.invokespecial 29, 3) := by decide +kernel
theorem dL_law_15 : decode cL_law 15 = .ok (.astore_n 2, 1) := by decide +kernel
theorem dL_law_16 : decode cL_law 16 = .ok (.iconst 1, 1) := by decide +kernel
theorem dL_law_17 : decode cL_law 17 = .ok (.newarray .long, 2) := by decide +kernel
theorem dL_law_19 : decode cL_law 19 = .ok (.astore_n 3, 1) := by decide +kernel
theorem dL_law_20 : decode cL_law 20 = .ok (.iconst 0, 1) := by decide +kernel
theorem dL_law_21 : decode cL_law 21 = .ok (.istore 4, 2) := by decide +kernel
theorem dL_law_23 : decode cL_law 23 = .ok (.iload 4, 2) := by decide +kernel
theorem dL_law_25 : decode cL_law 25 = .ok (.aload_n 0, 1) := by decide +kernel
theorem dL_law_26 : decode cL_law 26 = .ok (.arraylength, 1) := by decide +kernel
theorem dL_law_27 : decode cL_law 27 = .ok (.bipush 6, 2) := by decide +kernel
theorem dL_law_29 : decode cL_law 29 = .ok (.isub, 1) := by decide +kernel
theorem dL_law_30 : decode cL_law 30 = .ok (.if_icmp .gt 1324, 3) := by decide +kernel
theorem dL_law_33 : decode cL_law 33 = .ok (.aload_n 0, 1) := by decide +kernel
theorem dL_law_34 : decode cL_law 34 = .ok (.iload 4, 2) := by decide +kernel
theorem dL_law_36 : decode cL_law 36 = .ok (.iaload, 1) := by decide +kernel
theorem dL_law_37 : decode cL_law 37 = .ok (.bipush 63, 2) := by decide +kernel
theorem dL_law_39 : decode cL_law 39 = .ok (.iand, 1) := by decide +kernel
theorem dL_law_40 : decode cL_law 40 = .ok (.tableswitch 1308 0 39 #[176, 201, 226, 239, 252, 292, 320, 381, 394, 434, 459, 484, 497, 522, 547, 572, 597, 610, 623, 660, 697, 746, 771, 796, 809, 846, 883, 920, 945, 1018, 1055, 1092, 1117, 1142, 1155, 1168, 1205, 1230, 1255, 1280], 176) := by decide +kernel
theorem dL_law_216 : decode cL_law 216 = .ok (.aload_n 1, 1) := by decide +kernel
theorem dL_law_217 : decode cL_law 217 = .ok (.aload_n 0, 1) := by decide +kernel
theorem dL_law_218 : decode cL_law 218 = .ok (.iload 4, 2) := by decide +kernel
theorem dL_law_220 : decode cL_law 220 = .ok (.iconst 1, 1) := by decide +kernel
theorem dL_law_221 : decode cL_law 221 = .ok (.iadd, 1) := by decide +kernel
theorem dL_law_222 : decode cL_law 222 = .ok (.iaload, 1) := by decide +kernel
theorem dL_law_223 : decode cL_law 223 = .ok (.invokevirtual 30, 3) := by decide +kernel
theorem dL_law_226 : decode cL_law 226 = .ok (.pop, 1) := by decide +kernel
theorem dL_law_227 : decode cL_law 227 = .ok (.aload_n 2, 1) := by decide +kernel
theorem dL_law_228 : decode cL_law 228 = .ok (.aload_n 0, 1) := by decide +kernel
theorem dL_law_229 : decode cL_law 229 = .ok (.iload 4, 2) := by decide +kernel
theorem dL_law_231 : decode cL_law 231 = .ok (.iconst 1, 1) := by decide +kernel
theorem dL_law_232 : decode cL_law 232 = .ok (.iadd, 1) := by decide +kernel
theorem dL_law_233 : decode cL_law 233 = .ok (.iaload, 1) := by decide +kernel
theorem dL_law_234 : decode cL_law 234 = .ok (.invokevirtual 33, 3) := by decide +kernel
theorem dL_law_237 : decode cL_law 237 = .ok (.pop, 1) := by decide +kernel
theorem dL_law_238 : decode cL_law 238 = .ok (.goto 1110, 3) := by decide +kernel
theorem dL_law_241 : decode cL_law 241 = .ok (.aload_n 1, 1) := by decide +kernel
theorem dL_law_242 : decode cL_law 242 = .ok (.aload_n 0, 1) := by decide +kernel
theorem dL_law_243 : decode cL_law 243 = .ok (.iload 4, 2) := by decide +kernel
theorem dL_law_245 : decode cL_law 245 = .ok (.iconst 1, 1) := by decide +kernel
theorem dL_law_246 : decode cL_law 246 = .ok (.iadd, 1) := by decide +kernel
theorem dL_law_247 : decode cL_law 247 = .ok (.iaload, 1) := by decide +kernel
theorem dL_law_248 : decode cL_law 248 = .ok (.invokevirtual 34, 3) := by decide +kernel
theorem dL_law_251 : decode cL_law 251 = .ok (.pop, 1) := by decide +kernel
theorem dL_law_252 : decode cL_law 252 = .ok (.aload_n 2, 1) := by decide +kernel
theorem dL_law_253 : decode cL_law 253 = .ok (.aload_n 0, 1) := by decide +kernel
theorem dL_law_254 : decode cL_law 254 = .ok (.iload 4, 2) := by decide +kernel
theorem dL_law_256 : decode cL_law 256 = .ok (.iconst 1, 1) := by decide +kernel
theorem dL_law_257 : decode cL_law 257 = .ok (.iadd, 1) := by decide +kernel
theorem dL_law_258 : decode cL_law 258 = .ok (.iaload, 1) := by decide +kernel
theorem dL_law_259 : decode cL_law 259 = .ok (.invokevirtual 38, 3) := by decide +kernel
theorem dL_law_262 : decode cL_law 262 = .ok (.pop, 1) := by decide +kernel
theorem dL_law_263 : decode cL_law 263 = .ok (.goto 1085, 3) := by decide +kernel
theorem dL_law_266 : decode cL_law 266 = .ok (.aload_n 1, 1) := by decide +kernel
theorem dL_law_267 : decode cL_law 267 = .ok (.invokevirtual 39, 3) := by decide +kernel
theorem dL_law_270 : decode cL_law 270 = .ok (.pop, 1) := by decide +kernel
theorem dL_law_271 : decode cL_law 271 = .ok (.aload_n 2, 1) := by decide +kernel
theorem dL_law_272 : decode cL_law 272 = .ok (.invokevirtual 43, 3) := by decide +kernel
theorem dL_law_275 : decode cL_law 275 = .ok (.pop, 1) := by decide +kernel
theorem dL_law_276 : decode cL_law 276 = .ok (.goto 1072, 3) := by decide +kernel
theorem dL_law_279 : decode cL_law 279 = .ok (.aload_n 1, 1) := by decide +kernel
theorem dL_law_280 : decode cL_law 280 = .ok (.invokevirtual 44, 3) := by decide +kernel
theorem dL_law_283 : decode cL_law 283 = .ok (.pop, 1) := by decide +kernel
theorem dL_law_284 : decode cL_law 284 = .ok (.aload_n 2, 1) := by decide +kernel
theorem dL_law_285 : decode cL_law 285 = .ok (.invokevirtual 47, 3) := by decide +kernel
theorem dL_law_288 : decode cL_law 288 = .ok (.pop, 1) := by decide +kernel
theorem dL_law_289 : decode cL_law 289 = .ok (.goto 1059, 3) := by decide +kernel
theorem dL_law_292 : decode cL_law 292 = .ok (.aload_n 1, 1) := by decide +kernel
theorem dL_law_293 : decode cL_law 293 = .ok (.aload_n 0, 1) := by decide +kernel
theorem dL_law_294 : decode cL_law 294 = .ok (.iload 4, 2) := by decide +kernel
theorem dL_law_296 : decode cL_law 296 = .ok (.iconst 1, 1) := by decide +kernel
theorem dL_law_297 : decode cL_law 297 = .ok (.iadd, 1) := by decide +kernel
theorem dL_law_298 : decode cL_law 298 = .ok (.iaload, 1) := by decide +kernel
theorem dL_law_299 : decode cL_law 299 = .ok (.aload_n 0, 1) := by decide +kernel
theorem dL_law_300 : decode cL_law 300 = .ok (.iload 4, 2) := by decide +kernel
theorem dL_law_302 : decode cL_law 302 = .ok (.iconst 2, 1) := by decide +kernel
theorem dL_law_303 : decode cL_law 303 = .ok (.iadd, 1) := by decide +kernel
theorem dL_law_304 : decode cL_law 304 = .ok (.iaload, 1) := by decide +kernel
theorem dL_law_305 : decode cL_law 305 = .ok (.aload_n 3, 1) := by decide +kernel
theorem dL_law_306 : decode cL_law 306 = .ok (.invokestatic 48, 3) := by decide +kernel
theorem dL_law_309 : decode cL_law 309 = .ok (.istore 5, 2) := by decide +kernel
theorem dL_law_311 : decode cL_law 311 = .ok (.aload_n 2, 1) := by decide +kernel
theorem dL_law_312 : decode cL_law 312 = .ok (.aload_n 0, 1) := by decide +kernel
theorem dL_law_313 : decode cL_law 313 = .ok (.iload 4, 2) := by decide +kernel
theorem dL_law_315 : decode cL_law 315 = .ok (.iconst 1, 1) := by decide +kernel
theorem dL_law_316 : decode cL_law 316 = .ok (.iadd, 1) := by decide +kernel
theorem dL_law_317 : decode cL_law 317 = .ok (.iaload, 1) := by decide +kernel
theorem dL_law_318 : decode cL_law 318 = .ok (.aload_n 0, 1) := by decide +kernel
theorem dL_law_319 : decode cL_law 319 = .ok (.iload 4, 2) := by decide +kernel
theorem dL_law_321 : decode cL_law 321 = .ok (.iconst 2, 1) := by decide +kernel
theorem dL_law_322 : decode cL_law 322 = .ok (.iadd, 1) := by decide +kernel
theorem dL_law_323 : decode cL_law 323 = .ok (.iaload, 1) := by decide +kernel
theorem dL_law_324 : decode cL_law 324 = .ok (.invokevirtual 53, 3) := by decide +kernel
theorem dL_law_327 : decode cL_law 327 = .ok (.istore 6, 2) := by decide +kernel
theorem dL_law_329 : decode cL_law 329 = .ok (.goto 1019, 3) := by decide +kernel
theorem dL_law_332 : decode cL_law 332 = .ok (.aload_n 1, 1) := by decide +kernel
theorem dL_law_333 : decode cL_law 333 = .ok (.aload_n 0, 1) := by decide +kernel
theorem dL_law_334 : decode cL_law 334 = .ok (.iload 4, 2) := by decide +kernel
theorem dL_law_336 : decode cL_law 336 = .ok (.iconst 1, 1) := by decide +kernel
theorem dL_law_337 : decode cL_law 337 = .ok (.iadd, 1) := by decide +kernel
theorem dL_law_338 : decode cL_law 338 = .ok (.iaload, 1) := by decide +kernel
theorem dL_law_339 : decode cL_law 339 = .ok (.aload_n 3, 1) := by decide +kernel
theorem dL_law_340 : decode cL_law 340 = .ok (.invokestatic 54, 3) := by decide +kernel
theorem dL_law_343 : decode cL_law 343 = .ok (.istore 5, 2) := by decide +kernel
theorem dL_law_345 : decode cL_law 345 = .ok (.aload_n 2, 1) := by decide +kernel
theorem dL_law_346 : decode cL_law 346 = .ok (.aload_n 0, 1) := by decide +kernel
theorem dL_law_347 : decode cL_law 347 = .ok (.iload 4, 2) := by decide +kernel
theorem dL_law_349 : decode cL_law 349 = .ok (.iconst 1, 1) := by decide +kernel
theorem dL_law_350 : decode cL_law 350 = .ok (.iadd, 1) := by decide +kernel
theorem dL_law_351 : decode cL_law 351 = .ok (.iaload, 1) := by decide +kernel
theorem dL_law_352 : decode cL_law 352 = .ok (.invokevirtual 57, 3) := by decide +kernel
theorem dL_law_355 : decode cL_law 355 = .ok (.istore 6, 2) := by decide +kernel
theorem dL_law_357 : decode cL_law 357 = .ok (.goto 991, 3) := by decide +kernel
theorem dL_law_360 : decode cL_law 360 = .ok (.aload_n 1, 1) := by decide +kernel
theorem dL_law_361 : decode cL_law 361 = .ok (.aload_n 0, 1) := by decide +kernel
theorem dL_law_362 : decode cL_law 362 = .ok (.iload 4, 2) := by decide +kernel
theorem dL_law_364 : decode cL_law 364 = .ok (.iconst 1, 1) := by decide +kernel
theorem dL_law_365 : decode cL_law 365 = .ok (.iadd, 1) := by decide +kernel
theorem dL_law_366 : decode cL_law 366 = .ok (.iaload, 1) := by decide +kernel
theorem dL_law_367 : decode cL_law 367 = .ok (.aload_n 0, 1) := by decide +kernel
theorem dL_law_368 : decode cL_law 368 = .ok (.iload 4, 2) := by decide +kernel
theorem dL_law_370 : decode cL_law 370 = .ok (.iconst 2, 1) := by decide +kernel
theorem dL_law_371 : decode cL_law 371 = .ok (.iadd, 1) := by decide +kernel
theorem dL_law_372 : decode cL_law 372 = .ok (.iaload, 1) := by decide +kernel
theorem dL_law_373 : decode cL_law 373 = .ok (.aload_n 0, 1) := by decide +kernel
theorem dL_law_374 : decode cL_law 374 = .ok (.iload 4, 2) := by decide +kernel
theorem dL_law_376 : decode cL_law 376 = .ok (.iconst 3, 1) := by decide +kernel
theorem dL_law_377 : decode cL_law 377 = .ok (.iadd, 1) := by decide +kernel
theorem dL_law_378 : decode cL_law 378 = .ok (.iaload, 1) := by decide +kernel
theorem dL_law_379 : decode cL_law 379 = .ok (.aload_n 0, 1) := by decide +kernel
theorem dL_law_380 : decode cL_law 380 = .ok (.iload 4, 2) := by decide +kernel
theorem dL_law_382 : decode cL_law 382 = .ok (.iconst 4, 1) := by decide +kernel
theorem dL_law_383 : decode cL_law 383 = .ok (.iadd, 1) := by decide +kernel
theorem dL_law_384 : decode cL_law 384 = .ok (.iaload, 1) := by decide +kernel
theorem dL_law_385 : decode cL_law 385 = .ok (.invokevirtual 58, 3) := by decide +kernel
theorem dL_law_388 : decode cL_law 388 = .ok (.pop, 1) := by decide +kernel
theorem dL_law_389 : decode cL_law 389 = .ok (.aload_n 2, 1) := by decide +kernel
theorem dL_law_390 : decode cL_law 390 = .ok (.aload_n 0, 1) := by decide +kernel
theorem dL_law_391 : decode cL_law 391 = .ok (.iload 4, 2) := by decide +kernel
theorem dL_law_393 : decode cL_law 393 = .ok (.iconst 1, 1) := by decide +kernel
theorem dL_law_394 : decode cL_law 394 = .ok (.iadd, 1) := by decide +kernel
theorem dL_law_395 : decode cL_law 395 = .ok (.iaload, 1) := by decide +kernel
theorem dL_law_396 : decode cL_law 396 = .ok (.aload_n 0, 1) := by decide +kernel
theorem dL_law_397 : decode cL_law 397 = .ok (.iload 4, 2) := by decide +kernel
theorem dL_law_399 : decode cL_law 399 = .ok (.iconst 2, 1) := by decide +kernel
theorem dL_law_400 : decode cL_law 400 = .ok (.iadd, 1) := by decide +kernel
theorem dL_law_401 : decode cL_law 401 = .ok (.iaload, 1) := by decide +kernel
theorem dL_law_402 : decode cL_law 402 = .ok (.aload_n 0, 1) := by decide +kernel
theorem dL_law_403 : decode cL_law 403 = .ok (.iload 4, 2) := by decide +kernel
theorem dL_law_405 : decode cL_law 405 = .ok (.iconst 3, 1) := by decide +kernel
theorem dL_law_406 : decode cL_law 406 = .ok (.iadd, 1) := by decide +kernel
theorem dL_law_407 : decode cL_law 407 = .ok (.iaload, 1) := by decide +kernel
theorem dL_law_408 : decode cL_law 408 = .ok (.aload_n 0, 1) := by decide +kernel
theorem dL_law_409 : decode cL_law 409 = .ok (.iload 4, 2) := by decide +kernel
theorem dL_law_411 : decode cL_law 411 = .ok (.iconst 4, 1) := by decide +kernel
theorem dL_law_412 : decode cL_law 412 = .ok (.iadd, 1) := by decide +kernel
theorem dL_law_413 : decode cL_law 413 = .ok (.iaload, 1) := by decide +kernel
theorem dL_law_414 : decode cL_law 414 = .ok (.invokevirtual 62, 3) := by decide +kernel
theorem dL_law_417 : decode cL_law 417 = .ok (.pop, 1) := by decide +kernel
theorem dL_law_418 : decode cL_law 418 = .ok (.goto 930, 3) := by decide +kernel
theorem dL_law_421 : decode cL_law 421 = .ok (.aload_n 1, 1) := by decide +kernel
theorem dL_law_422 : decode cL_law 422 = .ok (.invokevirtual 63, 3) := by decide +kernel
theorem dL_law_425 : decode cL_law 425 = .ok (.pop, 1) := by decide +kernel
theorem dL_law_426 : decode cL_law 426 = .ok (.aload_n 2, 1) := by decide +kernel
theorem dL_law_427 : decode cL_law 427 = .ok (.invokevirtual 66, 3) := by decide +kernel
theorem dL_law_430 : decode cL_law 430 = .ok (.pop, 1) := by decide +kernel
theorem dL_law_431 : decode cL_law 431 = .ok (.goto 917, 3) := by decide +kernel
theorem dL_law_434 : decode cL_law 434 = .ok (.aload_n 1, 1) := by decide +kernel
theorem dL_law_435 : decode cL_law 435 = .ok (.aload_n 0, 1) := by decide +kernel
theorem dL_law_436 : decode cL_law 436 = .ok (.iload 4, 2) := by decide +kernel
theorem dL_law_438 : decode cL_law 438 = .ok (.iconst 1, 1) := by decide +kernel
theorem dL_law_439 : decode cL_law 439 = .ok (.iadd, 1) := by decide +kernel
theorem dL_law_440 : decode cL_law 440 = .ok (.iaload, 1) := by decide +kernel
theorem dL_law_441 : decode cL_law 441 = .ok (.aload_n 0, 1) := by decide +kernel
theorem dL_law_442 : decode cL_law 442 = .ok (.iload 4, 2) := by decide +kernel
theorem dL_law_444 : decode cL_law 444 = .ok (.iconst 2, 1) := by decide +kernel
theorem dL_law_445 : decode cL_law 445 = .ok (.iadd, 1) := by decide +kernel
theorem dL_law_446 : decode cL_law 446 = .ok (.iaload, 1) := by decide +kernel
theorem dL_law_447 : decode cL_law 447 = .ok (.aload_n 3, 1) := by decide +kernel
theorem dL_law_448 : decode cL_law 448 = .ok (.invokestatic 67, 3) := by decide +kernel
theorem dL_law_451 : decode cL_law 451 = .ok (.istore 5, 2) := by decide +kernel
theorem dL_law_453 : decode cL_law 453 = .ok (.aload_n 2, 1) := by decide +kernel
theorem dL_law_454 : decode cL_law 454 = .ok (.aload_n 0, 1) := by decide +kernel
theorem dL_law_455 : decode cL_law 455 = .ok (.iload 4, 2) := by decide +kernel
theorem dL_law_457 : decode cL_law 457 = .ok (.iconst 1, 1) := by decide +kernel
theorem dL_law_458 : decode cL_law 458 = .ok (.iadd, 1) := by decide +kernel
theorem dL_law_459 : decode cL_law 459 = .ok (.iaload, 1) := by decide +kernel
theorem dL_law_460 : decode cL_law 460 = .ok (.aload_n 0, 1) := by decide +kernel
theorem dL_law_461 : decode cL_law 461 = .ok (.iload 4, 2) := by decide +kernel
theorem dL_law_463 : decode cL_law 463 = .ok (.iconst 2, 1) := by decide +kernel
theorem dL_law_464 : decode cL_law 464 = .ok (.iadd, 1) := by decide +kernel
theorem dL_law_465 : decode cL_law 465 = .ok (.iaload, 1) := by decide +kernel
theorem dL_law_466 : decode cL_law 466 = .ok (.invokevirtual 69, 3) := by decide +kernel
theorem dL_law_469 : decode cL_law 469 = .ok (.istore 6, 2) := by decide +kernel
theorem dL_law_471 : decode cL_law 471 = .ok (.goto 877, 3) := by decide +kernel
theorem dL_law_474 : decode cL_law 474 = .ok (.aload_n 1, 1) := by decide +kernel
theorem dL_law_475 : decode cL_law 475 = .ok (.aload_n 0, 1) := by decide +kernel
theorem dL_law_476 : decode cL_law 476 = .ok (.iload 4, 2) := by decide +kernel
theorem dL_law_478 : decode cL_law 478 = .ok (.iconst 1, 1) := by decide +kernel
theorem dL_law_479 : decode cL_law 479 = .ok (.iadd, 1) := by decide +kernel
theorem dL_law_480 : decode cL_law 480 = .ok (.iaload, 1) := by decide +kernel
theorem dL_law_481 : decode cL_law 481 = .ok (.invokevirtual 70, 3) := by decide +kernel
theorem dL_law_484 : decode cL_law 484 = .ok (.pop, 1) := by decide +kernel
theorem dL_law_485 : decode cL_law 485 = .ok (.aload_n 2, 1) := by decide +kernel
theorem dL_law_486 : decode cL_law 486 = .ok (.aload_n 0, 1) := by decide +kernel
theorem dL_law_487 : decode cL_law 487 = .ok (.iload 4, 2) := by decide +kernel
theorem dL_law_489 : decode cL_law 489 = .ok (.iconst 1, 1) := by decide +kernel
theorem dL_law_490 : decode cL_law 490 = .ok (.iadd, 1) := by decide +kernel
theorem dL_law_491 : decode cL_law 491 = .ok (.iaload, 1) := by decide +kernel
theorem dL_law_492 : decode cL_law 492 = .ok (.invokevirtual 73, 3) := by decide +kernel
theorem dL_law_495 : decode cL_law 495 = .ok (.pop, 1) := by decide +kernel
theorem dL_law_496 : decode cL_law 496 = .ok (.goto 852, 3) := by decide +kernel
theorem dL_law_499 : decode cL_law 499 = .ok (.aload_n 1, 1) := by decide +kernel
theorem dL_law_500 : decode cL_law 500 = .ok (.aload_n 0, 1) := by decide +kernel
theorem dL_law_501 : decode cL_law 501 = .ok (.iload 4, 2) := by decide +kernel
theorem dL_law_503 : decode cL_law 503 = .ok (.iconst 1, 1) := by decide +kernel
theorem dL_law_504 : decode cL_law 504 = .ok (.iadd, 1) := by decide +kernel
theorem dL_law_505 : decode cL_law 505 = .ok (.iaload, 1) := by decide +kernel
theorem dL_law_506 : decode cL_law 506 = .ok (.invokevirtual 74, 3) := by decide +kernel
theorem dL_law_509 : decode cL_law 509 = .ok (.pop, 1) := by decide +kernel
theorem dL_law_510 : decode cL_law 510 = .ok (.aload_n 2, 1) := by decide +kernel
theorem dL_law_511 : decode cL_law 511 = .ok (.aload_n 0, 1) := by decide +kernel
theorem dL_law_512 : decode cL_law 512 = .ok (.iload 4, 2) := by decide +kernel
theorem dL_law_514 : decode cL_law 514 = .ok (.iconst 1, 1) := by decide +kernel
theorem dL_law_515 : decode cL_law 515 = .ok (.iadd, 1) := by decide +kernel
theorem dL_law_516 : decode cL_law 516 = .ok (.iaload, 1) := by decide +kernel
theorem dL_law_517 : decode cL_law 517 = .ok (.invokevirtual 77, 3) := by decide +kernel
theorem dL_law_520 : decode cL_law 520 = .ok (.pop, 1) := by decide +kernel
theorem dL_law_521 : decode cL_law 521 = .ok (.goto 827, 3) := by decide +kernel
theorem dL_law_524 : decode cL_law 524 = .ok (.aload_n 1, 1) := by decide +kernel
theorem dL_law_525 : decode cL_law 525 = .ok (.invokevirtual 78, 3) := by decide +kernel
theorem dL_law_528 : decode cL_law 528 = .ok (.pop, 1) := by decide +kernel
theorem dL_law_529 : decode cL_law 529 = .ok (.aload_n 2, 1) := by decide +kernel
theorem dL_law_530 : decode cL_law 530 = .ok (.invokevirtual 81, 3) := by decide +kernel
theorem dL_law_533 : decode cL_law 533 = .ok (.pop, 1) := by decide +kernel
theorem dL_law_534 : decode cL_law 534 = .ok (.goto 814, 3) := by decide +kernel
theorem dL_law_537 : decode cL_law 537 = .ok (.aload_n 1, 1) := by decide +kernel
theorem dL_law_538 : decode cL_law 538 = .ok (.aload_n 0, 1) := by decide +kernel
theorem dL_law_539 : decode cL_law 539 = .ok (.iload 4, 2) := by decide +kernel
theorem dL_law_541 : decode cL_law 541 = .ok (.iconst 1, 1) := by decide +kernel
theorem dL_law_542 : decode cL_law 542 = .ok (.iadd, 1) := by decide +kernel
theorem dL_law_543 : decode cL_law 543 = .ok (.iaload, 1) := by decide +kernel
theorem dL_law_544 : decode cL_law 544 = .ok (.invokevirtual 82, 3) := by decide +kernel
theorem dL_law_547 : decode cL_law 547 = .ok (.pop, 1) := by decide +kernel
theorem dL_law_548 : decode cL_law 548 = .ok (.aload_n 2, 1) := by decide +kernel
theorem dL_law_549 : decode cL_law 549 = .ok (.aload_n 0, 1) := by decide +kernel
theorem dL_law_550 : decode cL_law 550 = .ok (.iload 4, 2) := by decide +kernel
theorem dL_law_552 : decode cL_law 552 = .ok (.iconst 1, 1) := by decide +kernel
theorem dL_law_553 : decode cL_law 553 = .ok (.iadd, 1) := by decide +kernel
theorem dL_law_554 : decode cL_law 554 = .ok (.iaload, 1) := by decide +kernel
theorem dL_law_555 : decode cL_law 555 = .ok (.invokevirtual 85, 3) := by decide +kernel
theorem dL_law_558 : decode cL_law 558 = .ok (.pop, 1) := by decide +kernel
theorem dL_law_559 : decode cL_law 559 = .ok (.goto 789, 3) := by decide +kernel
theorem dL_law_562 : decode cL_law 562 = .ok (.aload_n 1, 1) := by decide +kernel
theorem dL_law_563 : decode cL_law 563 = .ok (.aload_n 0, 1) := by decide +kernel
theorem dL_law_564 : decode cL_law 564 = .ok (.iload 4, 2) := by decide +kernel
theorem dL_law_566 : decode cL_law 566 = .ok (.iconst 1, 1) := by decide +kernel
theorem dL_law_567 : decode cL_law 567 = .ok (.iadd, 1) := by decide +kernel
theorem dL_law_568 : decode cL_law 568 = .ok (.iaload, 1) := by decide +kernel
theorem dL_law_569 : decode cL_law 569 = .ok (.invokevirtual 86, 3) := by decide +kernel
theorem dL_law_572 : decode cL_law 572 = .ok (.pop, 1) := by decide +kernel
theorem dL_law_573 : decode cL_law 573 = .ok (.aload_n 2, 1) := by decide +kernel
theorem dL_law_574 : decode cL_law 574 = .ok (.aload_n 0, 1) := by decide +kernel
theorem dL_law_575 : decode cL_law 575 = .ok (.iload 4, 2) := by decide +kernel
theorem dL_law_577 : decode cL_law 577 = .ok (.iconst 1, 1) := by decide +kernel
theorem dL_law_578 : decode cL_law 578 = .ok (.iadd, 1) := by decide +kernel
theorem dL_law_579 : decode cL_law 579 = .ok (.iaload, 1) := by decide +kernel
theorem dL_law_580 : decode cL_law 580 = .ok (.invokevirtual 89, 3) := by decide +kernel
theorem dL_law_583 : decode cL_law 583 = .ok (.pop, 1) := by decide +kernel
theorem dL_law_584 : decode cL_law 584 = .ok (.goto 764, 3) := by decide +kernel
theorem dL_law_587 : decode cL_law 587 = .ok (.aload_n 1, 1) := by decide +kernel
theorem dL_law_588 : decode cL_law 588 = .ok (.aload_n 0, 1) := by decide +kernel
theorem dL_law_589 : decode cL_law 589 = .ok (.iload 4, 2) := by decide +kernel
theorem dL_law_591 : decode cL_law 591 = .ok (.iconst 1, 1) := by decide +kernel
theorem dL_law_592 : decode cL_law 592 = .ok (.iadd, 1) := by decide +kernel
theorem dL_law_593 : decode cL_law 593 = .ok (.iaload, 1) := by decide +kernel
theorem dL_law_594 : decode cL_law 594 = .ok (.invokevirtual 90, 3) := by decide +kernel
theorem dL_law_597 : decode cL_law 597 = .ok (.pop, 1) := by decide +kernel
theorem dL_law_598 : decode cL_law 598 = .ok (.aload_n 2, 1) := by decide +kernel
theorem dL_law_599 : decode cL_law 599 = .ok (.aload_n 0, 1) := by decide +kernel
theorem dL_law_600 : decode cL_law 600 = .ok (.iload 4, 2) := by decide +kernel
theorem dL_law_602 : decode cL_law 602 = .ok (.iconst 1, 1) := by decide +kernel
theorem dL_law_603 : decode cL_law 603 = .ok (.iadd, 1) := by decide +kernel
theorem dL_law_604 : decode cL_law 604 = .ok (.iaload, 1) := by decide +kernel
theorem dL_law_605 : decode cL_law 605 = .ok (.invokevirtual 93, 3) := by decide +kernel
theorem dL_law_608 : decode cL_law 608 = .ok (.pop, 1) := by decide +kernel
theorem dL_law_609 : decode cL_law 609 = .ok (.goto 739, 3) := by decide +kernel
theorem dL_law_612 : decode cL_law 612 = .ok (.aload_n 1, 1) := by decide +kernel
theorem dL_law_613 : decode cL_law 613 = .ok (.aload_n 0, 1) := by decide +kernel
theorem dL_law_614 : decode cL_law 614 = .ok (.iload 4, 2) := by decide +kernel
theorem dL_law_616 : decode cL_law 616 = .ok (.iconst 1, 1) := by decide +kernel
theorem dL_law_617 : decode cL_law 617 = .ok (.iadd, 1) := by decide +kernel
theorem dL_law_618 : decode cL_law 618 = .ok (.iaload, 1) := by decide +kernel
theorem dL_law_619 : decode cL_law 619 = .ok (.invokevirtual 94, 3) := by decide +kernel
theorem dL_law_622 : decode cL_law 622 = .ok (.pop, 1) := by decide +kernel
theorem dL_law_623 : decode cL_law 623 = .ok (.aload_n 2, 1) := by decide +kernel
theorem dL_law_624 : decode cL_law 624 = .ok (.aload_n 0, 1) := by decide +kernel
theorem dL_law_625 : decode cL_law 625 = .ok (.iload 4, 2) := by decide +kernel
theorem dL_law_627 : decode cL_law 627 = .ok (.iconst 1, 1) := by decide +kernel
theorem dL_law_628 : decode cL_law 628 = .ok (.iadd, 1) := by decide +kernel
theorem dL_law_629 : decode cL_law 629 = .ok (.iaload, 1) := by decide +kernel
theorem dL_law_630 : decode cL_law 630 = .ok (.invokevirtual 97, 3) := by decide +kernel
theorem dL_law_633 : decode cL_law 633 = .ok (.pop, 1) := by decide +kernel
theorem dL_law_634 : decode cL_law 634 = .ok (.goto 714, 3) := by decide +kernel
theorem dL_law_637 : decode cL_law 637 = .ok (.aload_n 1, 1) := by decide +kernel
theorem dL_law_638 : decode cL_law 638 = .ok (.invokevirtual 98, 3) := by decide +kernel
theorem dL_law_641 : decode cL_law 641 = .ok (.pop, 1) := by decide +kernel
theorem dL_law_642 : decode cL_law 642 = .ok (.aload_n 2, 1) := by decide +kernel
theorem dL_law_643 : decode cL_law 643 = .ok (.invokevirtual 101, 3) := by decide +kernel
theorem dL_law_646 : decode cL_law 646 = .ok (.pop, 1) := by decide +kernel
theorem dL_law_647 : decode cL_law 647 = .ok (.goto 701, 3) := by decide +kernel
theorem dL_law_650 : decode cL_law 650 = .ok (.aload_n 1, 1) := by decide +kernel
theorem dL_law_651 : decode cL_law 651 = .ok (.invokevirtual 102, 3) := by decide +kernel
theorem dL_law_654 : decode cL_law 654 = .ok (.pop, 1) := by decide +kernel
theorem dL_law_655 : decode cL_law 655 = .ok (.aload_n 2, 1) := by decide +kernel
theorem dL_law_656 : decode cL_law 656 = .ok (.invokevirtual 105, 3) := by decide +kernel
theorem dL_law_659 : decode cL_law 659 = .ok (.pop, 1) := by decide +kernel
theorem dL_law_660 : decode cL_law 660 = .ok (.goto 688, 3) := by decide +kernel
theorem dL_law_663 : decode cL_law 663 = .ok (.aload_n 1, 1) := by decide +kernel
theorem dL_law_664 : decode cL_law 664 = .ok (.aload_n 0, 1) := by decide +kernel
theorem dL_law_665 : decode cL_law 665 = .ok (.iload 4, 2) := by decide +kernel
theorem dL_law_667 : decode cL_law 667 = .ok (.iconst 1, 1) := by decide +kernel
theorem dL_law_668 : decode cL_law 668 = .ok (.iadd, 1) := by decide +kernel
theorem dL_law_669 : decode cL_law 669 = .ok (.iaload, 1) := by decide +kernel
theorem dL_law_670 : decode cL_law 670 = .ok (.aload_n 0, 1) := by decide +kernel
theorem dL_law_671 : decode cL_law 671 = .ok (.iload 4, 2) := by decide +kernel
theorem dL_law_673 : decode cL_law 673 = .ok (.iconst 2, 1) := by decide +kernel
theorem dL_law_674 : decode cL_law 674 = .ok (.iadd, 1) := by decide +kernel
theorem dL_law_675 : decode cL_law 675 = .ok (.iaload, 1) := by decide +kernel
theorem dL_law_676 : decode cL_law 676 = .ok (.invokevirtual 106, 3) := by decide +kernel
theorem dL_law_679 : decode cL_law 679 = .ok (.pop, 1) := by decide +kernel
theorem dL_law_680 : decode cL_law 680 = .ok (.aload_n 2, 1) := by decide +kernel
theorem dL_law_681 : decode cL_law 681 = .ok (.aload_n 0, 1) := by decide +kernel
theorem dL_law_682 : decode cL_law 682 = .ok (.iload 4, 2) := by decide +kernel
theorem dL_law_684 : decode cL_law 684 = .ok (.iconst 1, 1) := by decide +kernel
theorem dL_law_685 : decode cL_law 685 = .ok (.iadd, 1) := by decide +kernel
theorem dL_law_686 : decode cL_law 686 = .ok (.iaload, 1) := by decide +kernel
theorem dL_law_687 : decode cL_law 687 = .ok (.aload_n 0, 1) := by decide +kernel
theorem dL_law_688 : decode cL_law 688 = .ok (.iload 4, 2) := by decide +kernel
theorem dL_law_690 : decode cL_law 690 = .ok (.iconst 2, 1) := by decide +kernel
theorem dL_law_691 : decode cL_law 691 = .ok (.iadd, 1) := by decide +kernel
theorem dL_law_692 : decode cL_law 692 = .ok (.iaload, 1) := by decide +kernel
theorem dL_law_693 : decode cL_law 693 = .ok (.invokevirtual 109, 3) := by decide +kernel
theorem dL_law_696 : decode cL_law 696 = .ok (.pop, 1) := by decide +kernel
theorem dL_law_697 : decode cL_law 697 = .ok (.goto 651, 3) := by decide +kernel
theorem dL_law_700 : decode cL_law 700 = .ok (.aload_n 1, 1) := by decide +kernel
theorem dL_law_701 : decode cL_law 701 = .ok (.aload_n 0, 1) := by decide +kernel
theorem dL_law_702 : decode cL_law 702 = .ok (.iload 4, 2) := by decide +kernel
theorem dL_law_704 : decode cL_law 704 = .ok (.iconst 1, 1) := by decide +kernel
theorem dL_law_705 : decode cL_law 705 = .ok (.iadd, 1) := by decide +kernel
theorem dL_law_706 : decode cL_law 706 = .ok (.iaload, 1) := by decide +kernel
theorem dL_law_707 : decode cL_law 707 = .ok (.aload_n 0, 1) := by decide +kernel
theorem dL_law_708 : decode cL_law 708 = .ok (.iload 4, 2) := by decide +kernel
theorem dL_law_710 : decode cL_law 710 = .ok (.iconst 2, 1) := by decide +kernel
theorem dL_law_711 : decode cL_law 711 = .ok (.iadd, 1) := by decide +kernel
theorem dL_law_712 : decode cL_law 712 = .ok (.iaload, 1) := by decide +kernel
theorem dL_law_713 : decode cL_law 713 = .ok (.invokevirtual 110, 3) := by decide +kernel
theorem dL_law_716 : decode cL_law 716 = .ok (.pop, 1) := by decide +kernel
theorem dL_law_717 : decode cL_law 717 = .ok (.aload_n 2, 1) := by decide +kernel
theorem dL_law_718 : decode cL_law 718 = .ok (.aload_n 0, 1) := by decide +kernel
theorem dL_law_719 : decode cL_law 719 = .ok (.iload 4, 2) := by decide +kernel
theorem dL_law_721 : decode cL_law 721 = .ok (.iconst 1, 1) := by decide +kernel
theorem dL_law_722 : decode cL_law 722 = .ok (.iadd, 1) := by decide +kernel
theorem dL_law_723 : decode cL_law 723 = .ok (.iaload, 1) := by decide +kernel
theorem dL_law_724 : decode cL_law 724 = .ok (.aload_n 0, 1) := by decide +kernel
theorem dL_law_725 : decode cL_law 725 = .ok (.iload 4, 2) := by decide +kernel
theorem dL_law_727 : decode cL_law 727 = .ok (.iconst 2, 1) := by decide +kernel
theorem dL_law_728 : decode cL_law 728 = .ok (.iadd, 1) := by decide +kernel
theorem dL_law_729 : decode cL_law 729 = .ok (.iaload, 1) := by decide +kernel
theorem dL_law_730 : decode cL_law 730 = .ok (.invokevirtual 113, 3) := by decide +kernel
theorem dL_law_733 : decode cL_law 733 = .ok (.pop, 1) := by decide +kernel
theorem dL_law_734 : decode cL_law 734 = .ok (.goto 614, 3) := by decide +kernel
theorem dL_law_737 : decode cL_law 737 = .ok (.aload_n 1, 1) := by decide +kernel
theorem dL_law_738 : decode cL_law 738 = .ok (.aload_n 0, 1) := by decide +kernel
theorem dL_law_739 : decode cL_law 739 = .ok (.iload 4, 2) := by decide +kernel
theorem dL_law_741 : decode cL_law 741 = .ok (.iconst 1, 1) := by decide +kernel
theorem dL_law_742 : decode cL_law 742 = .ok (.iadd, 1) := by decide +kernel
theorem dL_law_743 : decode cL_law 743 = .ok (.iaload, 1) := by decide +kernel
theorem dL_law_744 : decode cL_law 744 = .ok (.aload_n 0, 1) := by decide +kernel
theorem dL_law_745 : decode cL_law 745 = .ok (.iload 4, 2) := by decide +kernel
theorem dL_law_747 : decode cL_law 747 = .ok (.iconst 2, 1) := by decide +kernel
theorem dL_law_748 : decode cL_law 748 = .ok (.iadd, 1) := by decide +kernel
theorem dL_law_749 : decode cL_law 749 = .ok (.iaload, 1) := by decide +kernel
theorem dL_law_750 : decode cL_law 750 = .ok (.aload_n 0, 1) := by decide +kernel
theorem dL_law_751 : decode cL_law 751 = .ok (.iload 4, 2) := by decide +kernel
theorem dL_law_753 : decode cL_law 753 = .ok (.iconst 3, 1) := by decide +kernel
theorem dL_law_754 : decode cL_law 754 = .ok (.iadd, 1) := by decide +kernel
theorem dL_law_755 : decode cL_law 755 = .ok (.iaload, 1) := by decide +kernel
theorem dL_law_756 : decode cL_law 756 = .ok (.invokevirtual 114, 3) := by decide +kernel
theorem dL_law_759 : decode cL_law 759 = .ok (.pop, 1) := by decide +kernel
theorem dL_law_760 : decode cL_law 760 = .ok (.aload_n 2, 1) := by decide +kernel
theorem dL_law_761 : decode cL_law 761 = .ok (.aload_n 0, 1) := by decide +kernel
theorem dL_law_762 : decode cL_law 762 = .ok (.iload 4, 2) := by decide +kernel
theorem dL_law_764 : decode cL_law 764 = .ok (.iconst 1, 1) := by decide +kernel
theorem dL_law_765 : decode cL_law 765 = .ok (.iadd, 1) := by decide +kernel
theorem dL_law_766 : decode cL_law 766 = .ok (.iaload, 1) := by decide +kernel
theorem dL_law_767 : decode cL_law 767 = .ok (.aload_n 0, 1) := by decide +kernel
theorem dL_law_768 : decode cL_law 768 = .ok (.iload 4, 2) := by decide +kernel
theorem dL_law_770 : decode cL_law 770 = .ok (.iconst 2, 1) := by decide +kernel
theorem dL_law_771 : decode cL_law 771 = .ok (.iadd, 1) := by decide +kernel
theorem dL_law_772 : decode cL_law 772 = .ok (.iaload, 1) := by decide +kernel
theorem dL_law_773 : decode cL_law 773 = .ok (.aload_n 0, 1) := by decide +kernel
theorem dL_law_774 : decode cL_law 774 = .ok (.iload 4, 2) := by decide +kernel
theorem dL_law_776 : decode cL_law 776 = .ok (.iconst 3, 1) := by decide +kernel
theorem dL_law_777 : decode cL_law 777 = .ok (.iadd, 1) := by decide +kernel
theorem dL_law_778 : decode cL_law 778 = .ok (.iaload, 1) := by decide +kernel
theorem dL_law_779 : decode cL_law 779 = .ok (.invokevirtual 118, 3) := by decide +kernel
theorem dL_law_782 : decode cL_law 782 = .ok (.pop, 1) := by decide +kernel
theorem dL_law_783 : decode cL_law 783 = .ok (.goto 565, 3) := by decide +kernel
theorem dL_law_786 : decode cL_law 786 = .ok (.aload_n 1, 1) := by decide +kernel
theorem dL_law_787 : decode cL_law 787 = .ok (.aload_n 0, 1) := by decide +kernel
theorem dL_law_788 : decode cL_law 788 = .ok (.iload 4, 2) := by decide +kernel
theorem dL_law_790 : decode cL_law 790 = .ok (.iconst 1, 1) := by decide +kernel
theorem dL_law_791 : decode cL_law 791 = .ok (.iadd, 1) := by decide +kernel
theorem dL_law_792 : decode cL_law 792 = .ok (.iaload, 1) := by decide +kernel
theorem dL_law_793 : decode cL_law 793 = .ok (.invokevirtual 119, 3) := by decide +kernel
theorem dL_law_796 : decode cL_law 796 = .ok (.pop, 1) := by decide +kernel
theorem dL_law_797 : decode cL_law 797 = .ok (.aload_n 2, 1) := by decide +kernel
theorem dL_law_798 : decode cL_law 798 = .ok (.aload_n 0, 1) := by decide +kernel
theorem dL_law_799 : decode cL_law 799 = .ok (.iload 4, 2) := by decide +kernel
theorem dL_law_801 : decode cL_law 801 = .ok (.iconst 1, 1) := by decide +kernel
theorem dL_law_802 : decode cL_law 802 = .ok (.iadd, 1) := by decide +kernel
theorem dL_law_803 : decode cL_law 803 = .ok (.iaload, 1) := by decide +kernel
theorem dL_law_804 : decode cL_law 804 = .ok (.invokevirtual 122, 3) := by decide +kernel
theorem dL_law_807 : decode cL_law 807 = .ok (.pop, 1) := by decide +kernel
theorem dL_law_808 : decode cL_law 808 = .ok (.goto 540, 3) := by decide +kernel
theorem dL_law_811 : decode cL_law 811 = .ok (.aload_n 1, 1) := by decide +kernel
theorem dL_law_812 : decode cL_law 812 = .ok (.aload_n 0, 1) := by decide +kernel
theorem dL_law_813 : decode cL_law 813 = .ok (.iload 4, 2) := by decide +kernel
theorem dL_law_815 : decode cL_law 815 = .ok (.iconst 1, 1) := by decide +kernel
theorem dL_law_816 : decode cL_law 816 = .ok (.iadd, 1) := by decide +kernel
theorem dL_law_817 : decode cL_law 817 = .ok (.iaload, 1) := by decide +kernel
theorem dL_law_818 : decode cL_law 818 = .ok (.invokevirtual 123, 3) := by decide +kernel
theorem dL_law_821 : decode cL_law 821 = .ok (.pop, 1) := by decide +kernel
theorem dL_law_822 : decode cL_law 822 = .ok (.aload_n 2, 1) := by decide +kernel
theorem dL_law_823 : decode cL_law 823 = .ok (.aload_n 0, 1) := by decide +kernel
theorem dL_law_824 : decode cL_law 824 = .ok (.iload 4, 2) := by decide +kernel
theorem dL_law_826 : decode cL_law 826 = .ok (.iconst 1, 1) := by decide +kernel
theorem dL_law_827 : decode cL_law 827 = .ok (.iadd, 1) := by decide +kernel
theorem dL_law_828 : decode cL_law 828 = .ok (.iaload, 1) := by decide +kernel
theorem dL_law_829 : decode cL_law 829 = .ok (.invokevirtual 126, 3) := by decide +kernel
theorem dL_law_832 : decode cL_law 832 = .ok (.pop, 1) := by decide +kernel
theorem dL_law_833 : decode cL_law 833 = .ok (.goto 515, 3) := by decide +kernel
theorem dL_law_836 : decode cL_law 836 = .ok (.aload_n 1, 1) := by decide +kernel
theorem dL_law_837 : decode cL_law 837 = .ok (.invokevirtual 127, 3) := by decide +kernel
theorem dL_law_840 : decode cL_law 840 = .ok (.pop, 1) := by decide +kernel
theorem dL_law_841 : decode cL_law 841 = .ok (.aload_n 2, 1) := by decide +kernel
theorem dL_law_842 : decode cL_law 842 = .ok (.invokevirtual 130, 3) := by decide +kernel
theorem dL_law_845 : decode cL_law 845 = .ok (.pop, 1) := by decide +kernel
theorem dL_law_846 : decode cL_law 846 = .ok (.goto 502, 3) := by decide +kernel
theorem dL_law_849 : decode cL_law 849 = .ok (.aload_n 1, 1) := by decide +kernel
theorem dL_law_850 : decode cL_law 850 = .ok (.aload_n 0, 1) := by decide +kernel
theorem dL_law_851 : decode cL_law 851 = .ok (.iload 4, 2) := by decide +kernel
theorem dL_law_853 : decode cL_law 853 = .ok (.iconst 1, 1) := by decide +kernel
theorem dL_law_854 : decode cL_law 854 = .ok (.iadd, 1) := by decide +kernel
theorem dL_law_855 : decode cL_law 855 = .ok (.iaload, 1) := by decide +kernel
theorem dL_law_856 : decode cL_law 856 = .ok (.aload_n 0, 1) := by decide +kernel
theorem dL_law_857 : decode cL_law 857 = .ok (.iload 4, 2) := by decide +kernel
theorem dL_law_859 : decode cL_law 859 = .ok (.iconst 2, 1) := by decide +kernel
theorem dL_law_860 : decode cL_law 860 = .ok (.iadd, 1) := by decide +kernel
theorem dL_law_861 : decode cL_law 861 = .ok (.iaload, 1) := by decide +kernel
theorem dL_law_862 : decode cL_law 862 = .ok (.invokevirtual 131, 3) := by decide +kernel
theorem dL_law_865 : decode cL_law 865 = .ok (.pop, 1) := by decide +kernel
theorem dL_law_866 : decode cL_law 866 = .ok (.aload_n 2, 1) := by decide +kernel
theorem dL_law_867 : decode cL_law 867 = .ok (.aload_n 0, 1) := by decide +kernel
theorem dL_law_868 : decode cL_law 868 = .ok (.iload 4, 2) := by decide +kernel
theorem dL_law_870 : decode cL_law 870 = .ok (.iconst 1, 1) := by decide +kernel
theorem dL_law_871 : decode cL_law 871 = .ok (.iadd, 1) := by decide +kernel
theorem dL_law_872 : decode cL_law 872 = .ok (.iaload, 1) := by decide +kernel
theorem dL_law_873 : decode cL_law 873 = .ok (.aload_n 0, 1) := by decide +kernel
theorem dL_law_874 : decode cL_law 874 = .ok (.iload 4, 2) := by decide +kernel
theorem dL_law_876 : decode cL_law 876 = .ok (.iconst 2, 1) := by decide +kernel
theorem dL_law_877 : decode cL_law 877 = .ok (.iadd, 1) := by decide +kernel
theorem dL_law_878 : decode cL_law 878 = .ok (.iaload, 1) := by decide +kernel
theorem dL_law_879 : decode cL_law 879 = .ok (.invokevirtual 134, 3) := by decide +kernel
theorem dL_law_882 : decode cL_law 882 = .ok (.pop, 1) := by decide +kernel
theorem dL_law_883 : decode cL_law 883 = .ok (.goto 465, 3) := by decide +kernel
theorem dL_law_886 : decode cL_law 886 = .ok (.aload_n 1, 1) := by decide +kernel
theorem dL_law_887 : decode cL_law 887 = .ok (.aload_n 0, 1) := by decide +kernel
theorem dL_law_888 : decode cL_law 888 = .ok (.iload 4, 2) := by decide +kernel
theorem dL_law_890 : decode cL_law 890 = .ok (.iconst 1, 1) := by decide +kernel
theorem dL_law_891 : decode cL_law 891 = .ok (.iadd, 1) := by decide +kernel
theorem dL_law_892 : decode cL_law 892 = .ok (.iaload, 1) := by decide +kernel
theorem dL_law_893 : decode cL_law 893 = .ok (.aload_n 0, 1) := by decide +kernel
theorem dL_law_894 : decode cL_law 894 = .ok (.iload 4, 2) := by decide +kernel
theorem dL_law_896 : decode cL_law 896 = .ok (.iconst 2, 1) := by decide +kernel
theorem dL_law_897 : decode cL_law 897 = .ok (.iadd, 1) := by decide +kernel
theorem dL_law_898 : decode cL_law 898 = .ok (.iaload, 1) := by decide +kernel
theorem dL_law_899 : decode cL_law 899 = .ok (.invokevirtual 135, 3) := by decide +kernel
theorem dL_law_902 : decode cL_law 902 = .ok (.pop, 1) := by decide +kernel
theorem dL_law_903 : decode cL_law 903 = .ok (.aload_n 2, 1) := by decide +kernel
theorem dL_law_904 : decode cL_law 904 = .ok (.aload_n 0, 1) := by decide +kernel
theorem dL_law_905 : decode cL_law 905 = .ok (.iload 4, 2) := by decide +kernel
theorem dL_law_907 : decode cL_law 907 = .ok (.iconst 1, 1) := by decide +kernel
theorem dL_law_908 : decode cL_law 908 = .ok (.iadd, 1) := by decide +kernel
theorem dL_law_909 : decode cL_law 909 = .ok (.iaload, 1) := by decide +kernel
theorem dL_law_910 : decode cL_law 910 = .ok (.aload_n 0, 1) := by decide +kernel
theorem dL_law_911 : decode cL_law 911 = .ok (.iload 4, 2) := by decide +kernel
theorem dL_law_913 : decode cL_law 913 = .ok (.iconst 2, 1) := by decide +kernel
theorem dL_law_914 : decode cL_law 914 = .ok (.iadd, 1) := by decide +kernel
theorem dL_law_915 : decode cL_law 915 = .ok (.iaload, 1) := by decide +kernel
theorem dL_law_916 : decode cL_law 916 = .ok (.invokevirtual 138, 3) := by decide +kernel
theorem dL_law_919 : decode cL_law 919 = .ok (.pop, 1) := by decide +kernel
theorem dL_law_920 : decode cL_law 920 = .ok (.goto 428, 3) := by decide +kernel
theorem dL_law_923 : decode cL_law 923 = .ok (.aload_n 1, 1) := by decide +kernel
theorem dL_law_924 : decode cL_law 924 = .ok (.aload_n 0, 1) := by decide +kernel
theorem dL_law_925 : decode cL_law 925 = .ok (.iload 4, 2) := by decide +kernel
theorem dL_law_927 : decode cL_law 927 = .ok (.iconst 1, 1) := by decide +kernel
theorem dL_law_928 : decode cL_law 928 = .ok (.iadd, 1) := by decide +kernel
theorem dL_law_929 : decode cL_law 929 = .ok (.iaload, 1) := by decide +kernel
theorem dL_law_930 : decode cL_law 930 = .ok (.aload_n 0, 1) := by decide +kernel
theorem dL_law_931 : decode cL_law 931 = .ok (.iload 4, 2) := by decide +kernel
theorem dL_law_933 : decode cL_law 933 = .ok (.iconst 2, 1) := by decide +kernel
theorem dL_law_934 : decode cL_law 934 = .ok (.iadd, 1) := by decide +kernel
theorem dL_law_935 : decode cL_law 935 = .ok (.iaload, 1) := by decide +kernel
theorem dL_law_936 : decode cL_law 936 = .ok (.invokevirtual 139, 3) := by decide +kernel
theorem dL_law_939 : decode cL_law 939 = .ok (.pop, 1) := by decide +kernel
theorem dL_law_940 : decode cL_law 940 = .ok (.aload_n 2, 1) := by decide +kernel
theorem dL_law_941 : decode cL_law 941 = .ok (.aload_n 0, 1) := by decide +kernel
theorem dL_law_942 : decode cL_law 942 = .ok (.iload 4, 2) := by decide +kernel
theorem dL_law_944 : decode cL_law 944 = .ok (.iconst 1, 1) := by decide +kernel
theorem dL_law_945 : decode cL_law 945 = .ok (.iadd, 1) := by decide +kernel
theorem dL_law_946 : decode cL_law 946 = .ok (.iaload, 1) := by decide +kernel
theorem dL_law_947 : decode cL_law 947 = .ok (.aload_n 0, 1) := by decide +kernel
theorem dL_law_948 : decode cL_law 948 = .ok (.iload 4, 2) := by decide +kernel
theorem dL_law_950 : decode cL_law 950 = .ok (.iconst 2, 1) := by decide +kernel
theorem dL_law_951 : decode cL_law 951 = .ok (.iadd, 1) := by decide +kernel
theorem dL_law_952 : decode cL_law 952 = .ok (.iaload, 1) := by decide +kernel
theorem dL_law_953 : decode cL_law 953 = .ok (.invokevirtual 142, 3) := by decide +kernel
theorem dL_law_956 : decode cL_law 956 = .ok (.pop, 1) := by decide +kernel
theorem dL_law_957 : decode cL_law 957 = .ok (.goto 391, 3) := by decide +kernel
theorem dL_law_960 : decode cL_law 960 = .ok (.aload_n 1, 1) := by decide +kernel
theorem dL_law_961 : decode cL_law 961 = .ok (.aload_n 0, 1) := by decide +kernel
theorem dL_law_962 : decode cL_law 962 = .ok (.iload 4, 2) := by decide +kernel
theorem dL_law_964 : decode cL_law 964 = .ok (.iconst 1, 1) := by decide +kernel
theorem dL_law_965 : decode cL_law 965 = .ok (.iadd, 1) := by decide +kernel
theorem dL_law_966 : decode cL_law 966 = .ok (.iaload, 1) := by decide +kernel
theorem dL_law_967 : decode cL_law 967 = .ok (.invokevirtual 143, 3) := by decide +kernel
theorem dL_law_970 : decode cL_law 970 = .ok (.pop, 1) := by decide +kernel
theorem dL_law_971 : decode cL_law 971 = .ok (.aload_n 2, 1) := by decide +kernel
theorem dL_law_972 : decode cL_law 972 = .ok (.aload_n 0, 1) := by decide +kernel
theorem dL_law_973 : decode cL_law 973 = .ok (.iload 4, 2) := by decide +kernel
theorem dL_law_975 : decode cL_law 975 = .ok (.iconst 1, 1) := by decide +kernel
theorem dL_law_976 : decode cL_law 976 = .ok (.iadd, 1) := by decide +kernel
theorem dL_law_977 : decode cL_law 977 = .ok (.iaload, 1) := by decide +kernel
theorem dL_law_978 : decode cL_law 978 = .ok (.invokevirtual 146, 3) := by decide +kernel
theorem dL_law_981 : decode cL_law 981 = .ok (.pop, 1) := by decide +kernel
theorem dL_law_982 : decode cL_law 982 = .ok (.goto 366, 3) := by decide +kernel
theorem dL_law_985 : decode cL_law 985 = .ok (.aload_n 1, 1) := by decide +kernel
theorem dL_law_986 : decode cL_law 986 = .ok (.aload_n 0, 1) := by decide +kernel
theorem dL_law_987 : decode cL_law 987 = .ok (.iload 4, 2) := by decide +kernel
theorem dL_law_989 : decode cL_law 989 = .ok (.iconst 1, 1) := by decide +kernel
theorem dL_law_990 : decode cL_law 990 = .ok (.iadd, 1) := by decide +kernel
theorem dL_law_991 : decode cL_law 991 = .ok (.iaload, 1) := by decide +kernel
theorem dL_law_992 : decode cL_law 992 = .ok (.aload_n 0, 1) := by decide +kernel
theorem dL_law_993 : decode cL_law 993 = .ok (.iload 4, 2) := by decide +kernel
theorem dL_law_995 : decode cL_law 995 = .ok (.iconst 2, 1) := by decide +kernel
theorem dL_law_996 : decode cL_law 996 = .ok (.iadd, 1) := by decide +kernel
theorem dL_law_997 : decode cL_law 997 = .ok (.iaload, 1) := by decide +kernel
theorem dL_law_998 : decode cL_law 998 = .ok (.aload_n 0, 1) := by decide +kernel
theorem dL_law_999 : decode cL_law 999 = .ok (.iload 4, 2) := by decide +kernel
theorem dL_law_1001 : decode cL_law 1001 = .ok (.iconst 3, 1) := by decide +kernel
theorem dL_law_1002 : decode cL_law 1002 = .ok (.iadd, 1) := by decide +kernel
theorem dL_law_1003 : decode cL_law 1003 = .ok (.iaload, 1) := by decide +kernel
theorem dL_law_1004 : decode cL_law 1004 = .ok (.aload_n 0, 1) := by decide +kernel
theorem dL_law_1005 : decode cL_law 1005 = .ok (.iload 4, 2) := by decide +kernel
theorem dL_law_1007 : decode cL_law 1007 = .ok (.iconst 4, 1) := by decide +kernel
theorem dL_law_1008 : decode cL_law 1008 = .ok (.iadd, 1) := by decide +kernel
theorem dL_law_1009 : decode cL_law 1009 = .ok (.iaload, 1) := by decide +kernel
theorem dL_law_1010 : decode cL_law 1010 = .ok (.aload_n 0, 1) := by decide +kernel
theorem dL_law_1011 : decode cL_law 1011 = .ok (.iload 4, 2) := by decide +kernel
theorem dL_law_1013 : decode cL_law 1013 = .ok (.iconst 5, 1) := by decide +kernel
theorem dL_law_1014 : decode cL_law 1014 = .ok (.iadd, 1) := by decide +kernel
theorem dL_law_1015 : decode cL_law 1015 = .ok (.iaload, 1) := by decide +kernel
theorem dL_law_1016 : decode cL_law 1016 = .ok (.invokevirtual 147, 3) := by decide +kernel
theorem dL_law_1019 : decode cL_law 1019 = .ok (.pop, 1) := by decide +kernel
theorem dL_law_1020 : decode cL_law 1020 = .ok (.aload_n 2, 1) := by decide +kernel
theorem dL_law_1021 : decode cL_law 1021 = .ok (.aload_n 0, 1) := by decide +kernel
theorem dL_law_1022 : decode cL_law 1022 = .ok (.iload 4, 2) := by decide +kernel
theorem dL_law_1024 : decode cL_law 1024 = .ok (.iconst 1, 1) := by decide +kernel
theorem dL_law_1025 : decode cL_law 1025 = .ok (.iadd, 1) := by decide +kernel
theorem dL_law_1026 : decode cL_law 1026 = .ok (.iaload, 1) := by decide +kernel
theorem dL_law_1027 : decode cL_law 1027 = .ok (.aload_n 0, 1) := by decide +kernel
theorem dL_law_1028 : decode cL_law 1028 = .ok (.iload 4, 2) := by decide +kernel
theorem dL_law_1030 : decode cL_law 1030 = .ok (.iconst 2, 1) := by decide +kernel
theorem dL_law_1031 : decode cL_law 1031 = .ok (.iadd, 1) := by decide +kernel
theorem dL_law_1032 : decode cL_law 1032 = .ok (.iaload, 1) := by decide +kernel
theorem dL_law_1033 : decode cL_law 1033 = .ok (.aload_n 0, 1) := by decide +kernel
theorem dL_law_1034 : decode cL_law 1034 = .ok (.iload 4, 2) := by decide +kernel
theorem dL_law_1036 : decode cL_law 1036 = .ok (.iconst 3, 1) := by decide +kernel
theorem dL_law_1037 : decode cL_law 1037 = .ok (.iadd, 1) := by decide +kernel
theorem dL_law_1038 : decode cL_law 1038 = .ok (.iaload, 1) := by decide +kernel
theorem dL_law_1039 : decode cL_law 1039 = .ok (.aload_n 0, 1) := by decide +kernel
theorem dL_law_1040 : decode cL_law 1040 = .ok (.iload 4, 2) := by decide +kernel
theorem dL_law_1042 : decode cL_law 1042 = .ok (.iconst 4, 1) := by decide +kernel
theorem dL_law_1043 : decode cL_law 1043 = .ok (.iadd, 1) := by decide +kernel
theorem dL_law_1044 : decode cL_law 1044 = .ok (.iaload, 1) := by decide +kernel
theorem dL_law_1045 : decode cL_law 1045 = .ok (.aload_n 0, 1) := by decide +kernel
theorem dL_law_1046 : decode cL_law 1046 = .ok (.iload 4, 2) := by decide +kernel
theorem dL_law_1048 : decode cL_law 1048 = .ok (.iconst 5, 1) := by decide +kernel
theorem dL_law_1049 : decode cL_law 1049 = .ok (.iadd, 1) := by decide +kernel
theorem dL_law_1050 : decode cL_law 1050 = .ok (.iaload, 1) := by decide +kernel
theorem dL_law_1051 : decode cL_law 1051 = .ok (.invokevirtual 151, 3) := by decide +kernel
theorem dL_law_1054 : decode cL_law 1054 = .ok (.pop, 1) := by decide +kernel
theorem dL_law_1055 : decode cL_law 1055 = .ok (.goto 293, 3) := by decide +kernel
theorem dL_law_1058 : decode cL_law 1058 = .ok (.aload_n 1, 1) := by decide +kernel
theorem dL_law_1059 : decode cL_law 1059 = .ok (.aload_n 0, 1) := by decide +kernel
theorem dL_law_1060 : decode cL_law 1060 = .ok (.iload 4, 2) := by decide +kernel
theorem dL_law_1062 : decode cL_law 1062 = .ok (.iconst 1, 1) := by decide +kernel
theorem dL_law_1063 : decode cL_law 1063 = .ok (.iadd, 1) := by decide +kernel
theorem dL_law_1064 : decode cL_law 1064 = .ok (.iaload, 1) := by decide +kernel
theorem dL_law_1065 : decode cL_law 1065 = .ok (.aload_n 0, 1) := by decide +kernel
theorem dL_law_1066 : decode cL_law 1066 = .ok (.iload 4, 2) := by decide +kernel
theorem dL_law_1068 : decode cL_law 1068 = .ok (.iconst 2, 1) := by decide +kernel
theorem dL_law_1069 : decode cL_law 1069 = .ok (.iadd, 1) := by decide +kernel
theorem dL_law_1070 : decode cL_law 1070 = .ok (.iaload, 1) := by decide +kernel
theorem dL_law_1071 : decode cL_law 1071 = .ok (.invokevirtual 152, 3) := by decide +kernel
theorem dL_law_1074 : decode cL_law 1074 = .ok (.pop, 1) := by decide +kernel
theorem dL_law_1075 : decode cL_law 1075 = .ok (.aload_n 2, 1) := by decide +kernel
theorem dL_law_1076 : decode cL_law 1076 = .ok (.aload_n 0, 1) := by decide +kernel
theorem dL_law_1077 : decode cL_law 1077 = .ok (.iload 4, 2) := by decide +kernel
theorem dL_law_1079 : decode cL_law 1079 = .ok (.iconst 1, 1) := by decide +kernel
theorem dL_law_1080 : decode cL_law 1080 = .ok (.iadd, 1) := by decide +kernel
theorem dL_law_1081 : decode cL_law 1081 = .ok (.iaload, 1) := by decide +kernel
theorem dL_law_1082 : decode cL_law 1082 = .ok (.aload_n 0, 1) := by decide +kernel
theorem dL_law_1083 : decode cL_law 1083 = .ok (.iload 4, 2) := by decide +kernel
theorem dL_law_1085 : decode cL_law 1085 = .ok (.iconst 2, 1) := by decide +kernel
theorem dL_law_1086 : decode cL_law 1086 = .ok (.iadd, 1) := by decide +kernel
theorem dL_law_1087 : decode cL_law 1087 = .ok (.iaload, 1) := by decide +kernel
theorem dL_law_1088 : decode cL_law 1088 = .ok (.invokevirtual 155, 3) := by decide +kernel
theorem dL_law_1091 : decode cL_law 1091 = .ok (.pop, 1) := by decide +kernel
theorem dL_law_1092 : decode cL_law 1092 = .ok (.goto 256, 3) := by decide +kernel
theorem dL_law_1095 : decode cL_law 1095 = .ok (.aload_n 1, 1) := by decide +kernel
theorem dL_law_1096 : decode cL_law 1096 = .ok (.aload_n 0, 1) := by decide +kernel
theorem dL_law_1097 : decode cL_law 1097 = .ok (.iload 4, 2) := by decide +kernel
theorem dL_law_1099 : decode cL_law 1099 = .ok (.iconst 1, 1) := by decide +kernel
theorem dL_law_1100 : decode cL_law 1100 = .ok (.iadd, 1) := by decide +kernel
theorem dL_law_1101 : decode cL_law 1101 = .ok (.iaload, 1) := by decide +kernel
theorem dL_law_1102 : decode cL_law 1102 = .ok (.aload_n 0, 1) := by decide +kernel
theorem dL_law_1103 : decode cL_law 1103 = .ok (.iload 4, 2) := by decide +kernel
theorem dL_law_1105 : decode cL_law 1105 = .ok (.iconst 2, 1) := by decide +kernel
theorem dL_law_1106 : decode cL_law 1106 = .ok (.iadd, 1) := by decide +kernel
theorem dL_law_1107 : decode cL_law 1107 = .ok (.iaload, 1) := by decide +kernel
theorem dL_law_1108 : decode cL_law 1108 = .ok (.invokevirtual 156, 3) := by decide +kernel
theorem dL_law_1111 : decode cL_law 1111 = .ok (.pop, 1) := by decide +kernel
theorem dL_law_1112 : decode cL_law 1112 = .ok (.aload_n 2, 1) := by decide +kernel
theorem dL_law_1113 : decode cL_law 1113 = .ok (.aload_n 0, 1) := by decide +kernel
theorem dL_law_1114 : decode cL_law 1114 = .ok (.iload 4, 2) := by decide +kernel
theorem dL_law_1116 : decode cL_law 1116 = .ok (.iconst 1, 1) := by decide +kernel
theorem dL_law_1117 : decode cL_law 1117 = .ok (.iadd, 1) := by decide +kernel
theorem dL_law_1118 : decode cL_law 1118 = .ok (.iaload, 1) := by decide +kernel
theorem dL_law_1119 : decode cL_law 1119 = .ok (.aload_n 0, 1) := by decide +kernel
theorem dL_law_1120 : decode cL_law 1120 = .ok (.iload 4, 2) := by decide +kernel
theorem dL_law_1122 : decode cL_law 1122 = .ok (.iconst 2, 1) := by decide +kernel
theorem dL_law_1123 : decode cL_law 1123 = .ok (.iadd, 1) := by decide +kernel
theorem dL_law_1124 : decode cL_law 1124 = .ok (.iaload, 1) := by decide +kernel
theorem dL_law_1125 : decode cL_law 1125 = .ok (.invokevirtual 159, 3) := by decide +kernel
theorem dL_law_1128 : decode cL_law 1128 = .ok (.pop, 1) := by decide +kernel
theorem dL_law_1129 : decode cL_law 1129 = .ok (.goto 219, 3) := by decide +kernel
theorem dL_law_1132 : decode cL_law 1132 = .ok (.aload_n 1, 1) := by decide +kernel
theorem dL_law_1133 : decode cL_law 1133 = .ok (.aload_n 0, 1) := by decide +kernel
theorem dL_law_1134 : decode cL_law 1134 = .ok (.iload 4, 2) := by decide +kernel
theorem dL_law_1136 : decode cL_law 1136 = .ok (.iconst 1, 1) := by decide +kernel
theorem dL_law_1137 : decode cL_law 1137 = .ok (.iadd, 1) := by decide +kernel
theorem dL_law_1138 : decode cL_law 1138 = .ok (.iaload, 1) := by decide +kernel
theorem dL_law_1139 : decode cL_law 1139 = .ok (.invokevirtual 160, 3) := by decide +kernel
theorem dL_law_1142 : decode cL_law 1142 = .ok (.pop, 1) := by decide +kernel
theorem dL_law_1143 : decode cL_law 1143 = .ok (.aload_n 2, 1) := by decide +kernel
theorem dL_law_1144 : decode cL_law 1144 = .ok (.aload_n 0, 1) := by decide +kernel
theorem dL_law_1145 : decode cL_law 1145 = .ok (.iload 4, 2) := by decide +kernel
theorem dL_law_1147 : decode cL_law 1147 = .ok (.iconst 1, 1) := by decide +kernel
theorem dL_law_1148 : decode cL_law 1148 = .ok (.iadd, 1) := by decide +kernel
theorem dL_law_1149 : decode cL_law 1149 = .ok (.iaload, 1) := by decide +kernel
theorem dL_law_1150 : decode cL_law 1150 = .ok (.invokevirtual 163, 3) := by decide +kernel
theorem dL_law_1153 : decode cL_law 1153 = .ok (.pop, 1) := by decide +kernel
theorem dL_law_1154 : decode cL_law 1154 = .ok (.goto 194, 3) := by decide +kernel
theorem dL_law_1157 : decode cL_law 1157 = .ok (.aload_n 1, 1) := by decide +kernel
theorem dL_law_1158 : decode cL_law 1158 = .ok (.aload_n 0, 1) := by decide +kernel
theorem dL_law_1159 : decode cL_law 1159 = .ok (.iload 4, 2) := by decide +kernel
theorem dL_law_1161 : decode cL_law 1161 = .ok (.iconst 1, 1) := by decide +kernel
theorem dL_law_1162 : decode cL_law 1162 = .ok (.iadd, 1) := by decide +kernel
theorem dL_law_1163 : decode cL_law 1163 = .ok (.iaload, 1) := by decide +kernel
theorem dL_law_1164 : decode cL_law 1164 = .ok (.invokevirtual 164, 3) := by decide +kernel
theorem dL_law_1167 : decode cL_law 1167 = .ok (.pop, 1) := by decide +kernel
theorem dL_law_1168 : decode cL_law 1168 = .ok (.aload_n 2, 1) := by decide +kernel
theorem dL_law_1169 : decode cL_law 1169 = .ok (.aload_n 0, 1) := by decide +kernel
theorem dL_law_1170 : decode cL_law 1170 = .ok (.iload 4, 2) := by decide +kernel
theorem dL_law_1172 : decode cL_law 1172 = .ok (.iconst 1, 1) := by decide +kernel
theorem dL_law_1173 : decode cL_law 1173 = .ok (.iadd, 1) := by decide +kernel
theorem dL_law_1174 : decode cL_law 1174 = .ok (.iaload, 1) := by decide +kernel
theorem dL_law_1175 : decode cL_law 1175 = .ok (.invokevirtual 167, 3) := by decide +kernel
theorem dL_law_1178 : decode cL_law 1178 = .ok (.pop, 1) := by decide +kernel
theorem dL_law_1179 : decode cL_law 1179 = .ok (.goto 169, 3) := by decide +kernel
theorem dL_law_1182 : decode cL_law 1182 = .ok (.aload_n 1, 1) := by decide +kernel
theorem dL_law_1183 : decode cL_law 1183 = .ok (.invokevirtual 168, 3) := by decide +kernel
theorem dL_law_1186 : decode cL_law 1186 = .ok (.pop, 1) := by decide +kernel
theorem dL_law_1187 : decode cL_law 1187 = .ok (.aload_n 2, 1) := by decide +kernel
theorem dL_law_1188 : decode cL_law 1188 = .ok (.invokevirtual 171, 3) := by decide +kernel
theorem dL_law_1191 : decode cL_law 1191 = .ok (.pop, 1) := by decide +kernel
theorem dL_law_1192 : decode cL_law 1192 = .ok (.goto 156, 3) := by decide +kernel
theorem dL_law_1195 : decode cL_law 1195 = .ok (.aload_n 1, 1) := by decide +kernel
theorem dL_law_1196 : decode cL_law 1196 = .ok (.invokevirtual 172, 3) := by decide +kernel
theorem dL_law_1199 : decode cL_law 1199 = .ok (.pop, 1) := by decide +kernel
theorem dL_law_1200 : decode cL_law 1200 = .ok (.aload_n 2, 1) := by decide +kernel
theorem dL_law_1201 : decode cL_law 1201 = .ok (.invokevirtual 175, 3) := by decide +kernel
theorem dL_law_1204 : decode cL_law 1204 = .ok (.pop, 1) := by decide +kernel
theorem dL_law_1205 : decode cL_law 1205 = .ok (.goto 143, 3) := by decide +kernel
theorem dL_law_1208 : decode cL_law 1208 = .ok (.aload_n 1, 1) := by decide +kernel
theorem dL_law_1209 : decode cL_law 1209 = .ok (.aload_n 0, 1) := by decide +kernel
theorem dL_law_1210 : decode cL_law 1210 = .ok (.iload 4, 2) := by decide +kernel
theorem dL_law_1212 : decode cL_law 1212 = .ok (.iconst 1, 1) := by decide +kernel
theorem dL_law_1213 : decode cL_law 1213 = .ok (.iadd, 1) := by decide +kernel
theorem dL_law_1214 : decode cL_law 1214 = .ok (.iaload, 1) := by decide +kernel
theorem dL_law_1215 : decode cL_law 1215 = .ok (.aload_n 0, 1) := by decide +kernel
theorem dL_law_1216 : decode cL_law 1216 = .ok (.iload 4, 2) := by decide +kernel
theorem dL_law_1218 : decode cL_law 1218 = .ok (.iconst 2, 1) := by decide +kernel
theorem dL_law_1219 : decode cL_law 1219 = .ok (.iadd, 1) := by decide +kernel
theorem dL_law_1220 : decode cL_law 1220 = .ok (.iaload, 1) := by decide +kernel
theorem dL_law_1221 : decode cL_law 1221 = .ok (.invokevirtual 176, 3) := by decide +kernel
theorem dL_law_1224 : decode cL_law 1224 = .ok (.pop, 1) := by decide +kernel
theorem dL_law_1225 : decode cL_law 1225 = .ok (.aload_n 2, 1) := by decide +kernel
theorem dL_law_1226 : decode cL_law 1226 = .ok (.aload_n 0, 1) := by decide +kernel
theorem dL_law_1227 : decode cL_law 1227 = .ok (.iload 4, 2) := by decide +kernel
theorem dL_law_1229 : decode cL_law 1229 = .ok (.iconst 1, 1) := by decide +kernel
theorem dL_law_1230 : decode cL_law 1230 = .ok (.iadd, 1) := by decide +kernel
theorem dL_law_1231 : decode cL_law 1231 = .ok (.iaload, 1) := by decide +kernel
theorem dL_law_1232 : decode cL_law 1232 = .ok (.aload_n 0, 1) := by decide +kernel
theorem dL_law_1233 : decode cL_law 1233 = .ok (.iload 4, 2) := by decide +kernel
theorem dL_law_1235 : decode cL_law 1235 = .ok (.iconst 2, 1) := by decide +kernel
theorem dL_law_1236 : decode cL_law 1236 = .ok (.iadd, 1) := by decide +kernel
theorem dL_law_1237 : decode cL_law 1237 = .ok (.iaload, 1) := by decide +kernel
theorem dL_law_1238 : decode cL_law 1238 = .ok (.invokevirtual 179, 3) := by decide +kernel
theorem dL_law_1241 : decode cL_law 1241 = .ok (.pop, 1) := by decide +kernel
theorem dL_law_1242 : decode cL_law 1242 = .ok (.goto 106, 3) := by decide +kernel
theorem dL_law_1245 : decode cL_law 1245 = .ok (.aload_n 1, 1) := by decide +kernel
theorem dL_law_1246 : decode cL_law 1246 = .ok (.aload_n 0, 1) := by decide +kernel
theorem dL_law_1247 : decode cL_law 1247 = .ok (.iload 4, 2) := by decide +kernel
theorem dL_law_1249 : decode cL_law 1249 = .ok (.iconst 1, 1) := by decide +kernel
theorem dL_law_1250 : decode cL_law 1250 = .ok (.iadd, 1) := by decide +kernel
theorem dL_law_1251 : decode cL_law 1251 = .ok (.iaload, 1) := by decide +kernel
theorem dL_law_1252 : decode cL_law 1252 = .ok (.invokevirtual 180, 3) := by decide +kernel
theorem dL_law_1255 : decode cL_law 1255 = .ok (.pop, 1) := by decide +kernel
theorem dL_law_1256 : decode cL_law 1256 = .ok (.aload_n 2, 1) := by decide +kernel
theorem dL_law_1257 : decode cL_law 1257 = .ok (.aload_n 0, 1) := by decide +kernel
theorem dL_law_1258 : decode cL_law 1258 = .ok (.iload 4, 2) := by decide +kernel
theorem dL_law_1260 : decode cL_law 1260 = .ok (.iconst 1, 1) := by decide +kernel
theorem dL_law_1261 : decode cL_law 1261 = .ok (.iadd, 1) := by decide +kernel
theorem dL_law_1262 : decode cL_law 1262 = .ok (.iaload, 1) := by decide +kernel
theorem dL_law_1263 : decode cL_law 1263 = .ok (.invokevirtual 183, 3) := by decide +kernel
theorem dL_law_1266 : decode cL_law 1266 = .ok (.pop, 1) := by decide +kernel
theorem dL_law_1267 : decode cL_law 1267 = .ok (.goto 81, 3) := by decide +kernel
theorem dL_law_1270 : decode cL_law 1270 = .ok (.aload_n 1, 1) := by decide +kernel
theorem dL_law_1271 : decode cL_law 1271 = .ok (.aload_n 0, 1) := by decide +kernel
theorem dL_law_1272 : decode cL_law 1272 = .ok (.iload 4, 2) := by decide +kernel
theorem dL_law_1274 : decode cL_law 1274 = .ok (.iconst 1, 1) := by decide +kernel
theorem dL_law_1275 : decode cL_law 1275 = .ok (.iadd, 1) := by decide +kernel
theorem dL_law_1276 : decode cL_law 1276 = .ok (.iaload, 1) := by decide +kernel
theorem dL_law_1277 : decode cL_law 1277 = .ok (.invokevirtual 184, 3) := by decide +kernel
theorem dL_law_1280 : decode cL_law 1280 = .ok (.aload_n 2, 1) := by decide +kernel
theorem dL_law_1281 : decode cL_law 1281 = .ok (.aload_n 0, 1) := by decide +kernel
theorem dL_law_1282 : decode cL_law 1282 = .ok (.iload 4, 2) := by decide +kernel
theorem dL_law_1284 : decode cL_law 1284 = .ok (.iconst 1, 1) := by decide +kernel
theorem dL_law_1285 : decode cL_law 1285 = .ok (.iadd, 1) := by decide +kernel
theorem dL_law_1286 : decode cL_law 1286 = .ok (.iaload, 1) := by decide +kernel
theorem dL_law_1287 : decode cL_law 1287 = .ok (.invokevirtual 187, 3) := by decide +kernel
theorem dL_law_1290 : decode cL_law 1290 = .ok (.if_icmp .eq 58, 3) := by decide +kernel
theorem dL_law_1293 : decode cL_law 1293 = .ok (.iconst 0, 1) := by decide +kernel
theorem dL_law_1294 : decode cL_law 1294 = .ok (.ireturn, 1) := by decide +kernel
theorem dL_law_1295 : decode cL_law 1295 = .ok (.aload_n 1, 1) := by decide +kernel
theorem dL_law_1296 : decode cL_law 1296 = .ok (.aload_n 0, 1) := by decide +kernel
theorem dL_law_1297 : decode cL_law 1297 = .ok (.iload 4, 2) := by decide +kernel
theorem dL_law_1299 : decode cL_law 1299 = .ok (.iconst 1, 1) := by decide +kernel
theorem dL_law_1300 : decode cL_law 1300 = .ok (.iadd, 1) := by decide +kernel
theorem dL_law_1301 : decode cL_law 1301 = .ok (.iaload, 1) := by decide +kernel
theorem dL_law_1302 : decode cL_law 1302 = .ok (.invokevirtual 188, 3) := by decide +kernel
theorem dL_law_1305 : decode cL_law 1305 = .ok (.pop, 1) := by decide +kernel
theorem dL_law_1306 : decode cL_law 1306 = .ok (.aload_n 2, 1) := by decide +kernel
theorem dL_law_1307 : decode cL_law 1307 = .ok (.aload_n 0, 1) := by decide +kernel
theorem dL_law_1308 : decode cL_law 1308 = .ok (.iload 4, 2) := by decide +kernel
theorem dL_law_1310 : decode cL_law 1310 = .ok (.iconst 1, 1) := by decide +kernel
theorem dL_law_1311 : decode cL_law 1311 = .ok (.iadd, 1) := by decide +kernel
theorem dL_law_1312 : decode cL_law 1312 = .ok (.iaload, 1) := by decide +kernel
theorem dL_law_1313 : decode cL_law 1313 = .ok (.invokevirtual 191, 3) := by decide +kernel
theorem dL_law_1316 : decode cL_law 1316 = .ok (.pop, 1) := by decide +kernel
theorem dL_law_1317 : decode cL_law 1317 = .ok (.goto 31, 3) := by decide +kernel
theorem dL_law_1320 : decode cL_law 1320 = .ok (.aload_n 1, 1) := by decide +kernel
theorem dL_law_1321 : decode cL_law 1321 = .ok (.aload_n 0, 1) := by decide +kernel
theorem dL_law_1322 : decode cL_law 1322 = .ok (.iload 4, 2) := by decide +kernel
theorem dL_law_1324 : decode cL_law 1324 = .ok (.iconst 1, 1) := by decide +kernel
theorem dL_law_1325 : decode cL_law 1325 = .ok (.iadd, 1) := by decide +kernel
theorem dL_law_1326 : decode cL_law 1326 = .ok (.iaload, 1) := by decide +kernel
theorem dL_law_1327 : decode cL_law 1327 = .ok (.aload_n 3, 1) := by decide +kernel
theorem dL_law_1328 : decode cL_law 1328 = .ok (.invokestatic 192, 3) := by decide +kernel
theorem dL_law_1331 : decode cL_law 1331 = .ok (.istore 5, 2) := by decide +kernel
theorem dL_law_1333 : decode cL_law 1333 = .ok (.aload_n 2, 1) := by decide +kernel
theorem dL_law_1334 : decode cL_law 1334 = .ok (.aload_n 0, 1) := by decide +kernel
theorem dL_law_1335 : decode cL_law 1335 = .ok (.iload 4, 2) := by decide +kernel
theorem dL_law_1337 : decode cL_law 1337 = .ok (.iconst 1, 1) := by decide +kernel
theorem dL_law_1338 : decode cL_law 1338 = .ok (.iadd, 1) := by decide +kernel
theorem dL_law_1339 : decode cL_law 1339 = .ok (.iaload, 1) := by decide +kernel
theorem dL_law_1340 : decode cL_law 1340 = .ok (.invokevirtual 194, 3) := by decide +kernel
theorem dL_law_1343 : decode cL_law 1343 = .ok (.lstore 6, 2) := by decide +kernel
theorem dL_law_1345 : decode cL_law 1345 = .ok (.goto 3, 3) := by decide +kernel
theorem dL_law_1348 : decode cL_law 1348 = .ok (.iinc 4 6, 3) := by decide +kernel
theorem dL_law_1351 : decode cL_law 1351 = .ok (.goto (-1328), 3) := by decide +kernel
theorem dL_law_1354 : decode cL_law 1354 = .ok (.iconst 1, 1) := by decide +kernel
theorem dL_law_1355 : decode cL_law 1355 = .ok (.ireturn, 1) := by decide +kernel
