theorem dX12_worthOf_34 : decode cX12_worthOf 34 = .ok (.iadd, 1) := by decide +kernel
theorem dX12_worthOf_35 : decode cX12_worthOf 35 = .ok (.istore_n 2, 1) := by decide +kernel
theorem dX12_worthOf_36 : decode cX12_worthOf 36 = .ok (.iinc 3 1, 3) := by decide +kernel
theorem dX12_worthOf_39 : decode cX12_worthOf 39 = .ok (.goto (-35), 3) := by decide +kernel
theorem dX12_worthOf_42 : decode cX12_worthOf 42 = .ok (.iload_n 2, 1) := by decide +kernel
theorem dX12_worthOf_43 : decode cX12_worthOf 43 = .ok (.ireturn, 1) := by decide +kernel
theorem dX12_soonestDone_0 : decode cX12_soonestDone 0 = .ok (.ldc 188, 2) := by decide +kernel
theorem dX12_soonestDone_2 : decode cX12_soonestDone 2 = .ok (.istore_n 2, 1) := by decide +kernel
theorem dX12_soonestDone_3 : decode cX12_soonestDone 3 = .ok (.iconst 0, 1) := by decide +kernel
theorem dX12_soonestDone_4 : decode cX12_soonestDone 4 = .ok (.istore_n 3, 1) := by decide +kernel
theorem dX12_soonestDone_5 : decode cX12_soonestDone 5 = .ok (.iload_n 3, 1) := by decide +kernel
theorem dX12_soonestDone_6 : decode cX12_soonestDone 6 = .ok (.bipush 20, 2) := by decide +kernel
theorem dX12_soonestDone_8 : decode cX12_soonestDone 8 = .ok (.if_icmp .ge 40, 3) := by decide +kernel
theorem dX12_soonestDone_11 : decode cX12_soonestDone 11 = .ok (.aload_n 0, 1) := by decide +kernel
theorem dX12_soonestDone_12 : decode cX12_soonestDone 12 = .ok (.getfield 67, 3) := by decide +kernel
theorem dX12_soonestDone_15 : decode cX12_soonestDone 15 = .ok (.bipush 20, 2) := by decide +kernel
theorem dX12_soonestDone_17 : decode cX12_soonestDone 17 = .ok (.iload_n 1, 1) := by decide +kernel
theorem dX12_soonestDone_18 : decode cX12_soonestDone 18 = .ok (.imul, 1) := by decide +kernel
theorem dX12_soonestDone_19 : decode cX12_soonestDone 19 = .ok (.iload_n 3, 1) := by decide +kernel
theorem dX12_soonestDone_20 : decode cX12_soonestDone 20 = .ok (.iadd, 1) := by decide +kernel
theorem dX12_soonestDone_21 : decode cX12_soonestDone 21 = .ok (.iaload, 1) := by decide +kernel
theorem dX12_soonestDone_22 : decode cX12_soonestDone 22 = .ok (.iload_n 2, 1) := by decide +kernel
theorem dX12_soonestDone_23 : decode cX12_soonestDone 23 = .ok (.if_icmp .ge 17, 3) := by decide +kernel
theorem dX12_soonestDone_26 : decode cX12_soonestDone 26 = .ok (.aload_n 0, 1) := by decide +kernel
theorem dX12_soonestDone_27 : decode cX12_soonestDone 27 = .ok (.getfield 67, 3) := by decide +kernel
theorem dX12_soonestDone_30 : decode cX12_soonestDone 30 = .ok (.bipush 20, 2) := by decide +kernel
theorem dX12_soonestDone_32 : decode cX12_soonestDone 32 = .ok (.iload_n 1, 1) := by decide +kernel
theorem dX12_soonestDone_33 : decode cX12_soonestDone 33 = .ok (.imul, 1) := by decide +kernel
theorem dX12_soonestDone_34 : decode cX12_soonestDone 34 = .ok (.iload_n 3, 1) := by decide +kernel
theorem dX12_soonestDone_35 : decode cX12_soonestDone 35 = .ok (.iadd, 1) := by decide +kernel
theorem dX12_soonestDone_36 : decode cX12_soonestDone 36 = .ok (.iaload, 1) := by decide +kernel
theorem dX12_soonestDone_37 : decode cX12_soonestDone 37 = .ok (.goto 4, 3) := by decide +kernel
theorem dX12_soonestDone_40 : decode cX12_soonestDone 40 = .ok (.iload_n 2, 1) := by decide +kernel
theorem dX12_soonestDone_41 : decode cX12_soonestDone 41 = .ok (.istore_n 2, 1) := by decide +kernel
theorem dX12_soonestDone_42 : decode cX12_soonestDone 42 = .ok (.iinc 3 1, 3) := by decide +kernel
theorem dX12_soonestDone_45 : decode cX12_soonestDone 45 = .ok (.goto (-40), 3) := by decide +kernel
theorem dX12_soonestDone_48 : decode cX12_soonestDone 48 = .ok (.iload_n 2, 1) := by decide +kernel
theorem dX12_soonestDone_49 : decode cX12_soonestDone 49 = .ok (.ireturn, 1) := by decide +kernel
theorem dX12_best_0 : decode cX12_best 0 = .ok (.aload_n 0, 1) := by decide +kernel
theorem dX12_best_1 : decode cX12_best 1 = .ok (.iload_n 1, 1) := by decide +kernel
theorem dX12_best_2 : decode cX12_best 2 = .ok (.invokevirtual 325, 3) := by decide +kernel
theorem dX12_best_5 : decode cX12_best 5 = .ok (.ifCond .eq 23, 3) := by decide +kernel
theorem dX12_best_8 : decode cX12_best 8 = .ok (.iload_n 2, 1) := by decide +kernel
theorem dX12_best_9 : decode cX12_best 9 = .ok (.invokestatic 415, 3) := by decide +kernel
theorem dX12_best_12 : decode cX12_best 12 = .ok (.ifCond .eq 16, 3) := by decide +kernel
theorem dX12_best_15 : decode cX12_best 15 = .ok (.iload 4, 2) := by decide +kernel
theorem dX12_best_17 : decode cX12_best 17 = .ok (.i2l, 1) := by decide +kernel
theorem dX12_best_18 : decode cX12_best 18 = .ok (.lconst 0, 1) := by decide +kernel
theorem dX12_best_19 : decode cX12_best 19 = .ok (.ldc2_w 328, 3) := by decide +kernel
theorem dX12_best_22 : decode cX12_best 22 = .ok (.invokestatic 148, 3) := by decide +kernel
theorem dX12_best_25 : decode cX12_best 25 = .ok (.ifCond .ne 5, 3) := by decide +kernel
theorem dX12_best_28 : decode cX12_best 28 = .ok (.iconst (-1), 1) := by decide +kernel
theorem dX12_best_29 : decode cX12_best 29 = .ok (.ireturn, 1) := by decide +kernel
theorem dX12_best_30 : decode cX12_best 30 = .ok (.iconst 0, 1) := by decide +kernel
theorem dX12_best_31 : decode cX12_best 31 = .ok (.istore 5, 2) := by decide +kernel
theorem dX12_best_33 : decode cX12_best 33 = .ok (.iload 5, 2) := by decide +kernel
theorem dX12_best_35 : decode cX12_best 35 = .ok (.sipush 20480, 3) := by decide +kernel
theorem dX12_best_38 : decode cX12_best 38 = .ok (.if_icmp .ge 18, 3) := by decide +kernel
theorem dX12_best_41 : decode cX12_best 41 = .ok (.aload_n 0, 1) := by decide +kernel
theorem dX12_best_42 : decode cX12_best 42 = .ok (.getfield 67, 3) := by decide +kernel
theorem dX12_best_45 : decode cX12_best 45 = .ok (.iload 5, 2) := by decide +kernel
theorem dX12_best_47 : decode cX12_best 47 = .ok (.ldc 188, 2) := by decide +kernel
theorem dX12_best_49 : decode cX12_best 49 = .ok (.iastore, 1) := by decide +kernel
theorem dX12_best_50 : decode cX12_best 50 = .ok (.iinc 5 1, 3) := by decide +kernel
theorem dX12_best_53 : decode cX12_best 53 = .ok (.goto (-20), 3) := by decide +kernel
theorem dX12_best_56 : decode cX12_best 56 = .ok (.aload_n 0, 1) := by decide +kernel
theorem dX12_best_57 : decode cX12_best 57 = .ok (.iload_n 1, 1) := by decide +kernel
theorem dX12_best_58 : decode cX12_best 58 = .ok (.iload_n 2, 1) := by decide +kernel
theorem dX12_best_59 : decode cX12_best 59 = .ok (.iload_n 3, 1) := by decide +kernel
theorem dX12_best_60 : decode cX12_best 60 = .ok (.invokevirtual 418, 3) := by decide +kernel
theorem dX12_best_63 : decode cX12_best 63 = .ok (.aload_n 0, 1) := by decide +kernel
theorem dX12_best_64 : decode cX12_best 64 = .ok (.iconst 0, 1) := by decide +kernel
theorem dX12_best_65 : decode cX12_best 65 = .ok (.invokevirtual 439, 3) := by decide +kernel
theorem dX12_best_68 : decode cX12_best 68 = .ok (.iconst 0, 1) := by decide +kernel
theorem dX12_best_69 : decode cX12_best 69 = .ok (.istore 5, 2) := by decide +kernel
theorem dX12_best_71 : decode cX12_best 71 = .ok (.iload_n 2, 1) := by decide +kernel
theorem dX12_best_72 : decode cX12_best 72 = .ok (.istore 6, 2) := by decide +kernel
theorem dX12_best_74 : decode cX12_best 74 = .ok (.iconst 1, 1) := by decide +kernel
theorem dX12_best_75 : decode cX12_best 75 = .ok (.istore 7, 2) := by decide +kernel
theorem dX12_best_77 : decode cX12_best 77 = .ok (.iload 7, 2) := by decide +kernel
theorem dX12_best_79 : decode cX12_best 79 = .ok (.iconst 1, 1) := by decide +kernel
theorem dX12_best_80 : decode cX12_best 80 = .ok (.aload_n 0, 1) := by decide +kernel
theorem dX12_best_81 : decode cX12_best 81 = .ok (.getfield 48, 3) := by decide +kernel
theorem dX12_best_84 : decode cX12_best 84 = .ok (.bipush 7, 2) := by decide +kernel
theorem dX12_best_86 : decode cX12_best 86 = .ok (.iaload, 1) := by decide +kernel
theorem dX12_best_87 : decode cX12_best 87 = .ok (.ishl, 1) := by decide +kernel
theorem dX12_best_88 : decode cX12_best 88 = .ok (.if_icmp .ge 153, 3) := by decide +kernel
theorem dX12_best_91 : decode cX12_best 91 = .ok (.iconst 0, 1) := by decide +kernel
theorem dX12_best_92 : decode cX12_best 92 = .ok (.istore 8, 2) := by decide +kernel
theorem dX12_best_94 : decode cX12_best 94 = .ok (.iload 8, 2) := by decide +kernel
theorem dX12_best_96 : decode cX12_best 96 = .ok (.bipush 20, 2) := by decide +kernel
theorem dX12_best_98 : decode cX12_best 98 = .ok (.if_icmp .ge 74, 3) := by decide +kernel
theorem dX12_best_101 : decode cX12_best 101 = .ok (.aload_n 0, 1) := by decide +kernel
theorem dX12_best_102 : decode cX12_best 102 = .ok (.getfield 67, 3) := by decide +kernel
theorem dX12_best_105 : decode cX12_best 105 = .ok (.bipush 20, 2) := by decide +kernel
theorem dX12_best_107 : decode cX12_best 107 = .ok (.iload 7, 2) := by decide +kernel
theorem dX12_best_109 : decode cX12_best 109 = .ok (.imul, 1) := by decide +kernel
theorem dX12_best_110 : decode cX12_best 110 = .ok (.iload 8, 2) := by decide +kernel
theorem dX12_best_112 : decode cX12_best 112 = .ok (.iadd, 1) := by decide +kernel
theorem dX12_best_113 : decode cX12_best 113 = .ok (.iaload, 1) := by decide +kernel
theorem dX12_best_114 : decode cX12_best 114 = .ok (.ldc 188, 2) := by decide +kernel
theorem dX12_best_116 : decode cX12_best 116 = .ok (.if_icmp .ne 6, 3) := by decide +kernel
theorem dX12_best_119 : decode cX12_best 119 = .ok (.goto 47, 3) := by decide +kernel
theorem dX12_best_122 : decode cX12_best 122 = .ok (.aload_n 0, 1) := by decide +kernel
theorem dX12_best_123 : decode cX12_best 123 = .ok (.aload_n 0, 1) := by decide +kernel
theorem dX12_best_124 : decode cX12_best 124 = .ok (.iload 8, 2) := by decide +kernel
theorem dX12_best_126 : decode cX12_best 126 = .ok (.iconst 2, 1) := by decide +kernel
theorem dX12_best_127 : decode cX12_best 127 = .ok (.idiv, 1) := by decide +kernel
theorem dX12_best_128 : decode cX12_best 128 = .ok (.iconst 0, 1) := by decide +kernel
theorem dX12_best_129 : decode cX12_best 129 = .ok (.invokevirtual 436, 3) := by decide +kernel
theorem dX12_best_132 : decode cX12_best 132 = .ok (.aload_n 0, 1) := by decide +kernel
theorem dX12_best_133 : decode cX12_best 133 = .ok (.getfield 67, 3) := by decide +kernel
theorem dX12_best_136 : decode cX12_best 136 = .ok (.bipush 20, 2) := by decide +kernel
theorem dX12_best_138 : decode cX12_best 138 = .ok (.iload 7, 2) := by decide +kernel
theorem dX12_best_140 : decode cX12_best 140 = .ok (.imul, 1) := by decide +kernel
theorem dX12_best_141 : decode cX12_best 141 = .ok (.iload 8, 2) := by decide +kernel
theorem dX12_best_143 : decode cX12_best 143 = .ok (.iadd, 1) := by decide +kernel
theorem dX12_best_144 : decode cX12_best 144 = .ok (.iaload, 1) := by decide +kernel
theorem dX12_best_145 : decode cX12_best 145 = .ok (.iload 8, 2) := by decide +kernel
theorem dX12_best_147 : decode cX12_best 147 = .ok (.iconst 2, 1) := by decide +kernel
theorem dX12_best_148 : decode cX12_best 148 = .ok (.irem, 1) := by decide +kernel
theorem dX12_best_149 : decode cX12_best 149 = .ok (.ifCond .ne 7, 3) := by decide +kernel
theorem dX12_best_152 : decode cX12_best 152 = .ok (.iconst 1, 1) := by decide +kernel
theorem dX12_best_153 : decode cX12_best 153 = .ok (.goto 4, 3) := by decide +kernel
theorem dX12_best_156 : decode cX12_best 156 = .ok (.iconst 0, 1) := by decide +kernel
theorem dX12_best_157 : decode cX12_best 157 = .ok (.invokevirtual 418, 3) := by decide +kernel
theorem dX12_best_160 : decode cX12_best 160 = .ok (.aload_n 0, 1) := by decide +kernel
theorem dX12_best_161 : decode cX12_best 161 = .ok (.iload 7, 2) := by decide +kernel
theorem dX12_best_163 : decode cX12_best 163 = .ok (.invokevirtual 439, 3) := by decide +kernel
theorem dX12_best_166 : decode cX12_best 166 = .ok (.iinc 8 1, 3) := by decide +kernel
theorem dX12_best_169 : decode cX12_best 169 = .ok (.goto (-75), 3) := by decide +kernel
theorem dX12_best_172 : decode cX12_best 172 = .ok (.aload_n 0, 1) := by decide +kernel
theorem dX12_best_173 : decode cX12_best 173 = .ok (.iload 7, 2) := by decide +kernel
theorem dX12_best_175 : decode cX12_best 175 = .ok (.invokevirtual 442, 3) := by decide +kernel
theorem dX12_best_178 : decode cX12_best 178 = .ok (.istore 8, 2) := by decide +kernel
theorem dX12_best_180 : decode cX12_best 180 = .ok (.iload 8, 2) := by decide +kernel
theorem dX12_best_182 : decode cX12_best 182 = .ok (.ldc 188, 2) := by decide +kernel
theorem dX12_best_184 : decode cX12_best 184 = .ok (.if_icmp .eq 51, 3) := by decide +kernel
theorem dX12_best_187 : decode cX12_best 187 = .ok (.aload_n 0, 1) := by decide +kernel
theorem dX12_best_188 : decode cX12_best 188 = .ok (.iload 7, 2) := by decide +kernel
theorem dX12_best_190 : decode cX12_best 190 = .ok (.invokevirtual 445, 3) := by decide +kernel
theorem dX12_best_193 : decode cX12_best 193 = .ok (.aload_n 0, 1) := by decide +kernel
theorem dX12_best_194 : decode cX12_best 194 = .ok (.iload 5, 2) := by decide +kernel
theorem dX12_best_196 : decode cX12_best 196 = .ok (.invokevirtual 445, 3) := by decide +kernel
theorem dX12_best_199 : decode cX12_best 199 = .ok (.if_icmp .lt 36, 3) := by decide +kernel
theorem dX12_best_202 : decode cX12_best 202 = .ok (.aload_n 0, 1) := by decide +kernel
theorem dX12_best_203 : decode cX12_best 203 = .ok (.iload 7, 2) := by decide +kernel
theorem dX12_best_205 : decode cX12_best 205 = .ok (.invokevirtual 445, 3) := by decide +kernel
theorem dX12_best_208 : decode cX12_best 208 = .ok (.aload_n 0, 1) := by decide +kernel
theorem dX12_best_209 : decode cX12_best 209 = .ok (.iload 5, 2) := by decide +kernel
theorem dX12_best_211 : decode cX12_best 211 = .ok (.invokevirtual 445, 3) := by decide +kernel
theorem dX12_best_214 : decode cX12_best 214 = .ok (.if_icmp .ne 13, 3) := by decide +kernel
theorem dX12_best_217 : decode cX12_best 217 = .ok (.iload 8, 2) := by decide +kernel
theorem dX12_best_219 : decode cX12_best 219 = .ok (.iload 6, 2) := by decide +kernel
theorem dX12_best_221 : decode cX12_best 221 = .ok (.if_icmp .lt 6, 3) := by decide +kernel
theorem dX12_best_224 : decode cX12_best 224 = .ok (.goto 11, 3) := by decide +kernel
theorem dX12_best_227 : decode cX12_best 227 = .ok (.iload 7, 2) := by decide +kernel
theorem dX12_best_229 : decode cX12_best 229 = .ok (.istore 5, 2) := by decide +kernel
theorem dX12_best_231 : decode cX12_best 231 = .ok (.iload 8, 2) := by decide +kernel
theorem dX12_best_233 : decode cX12_best 233 = .ok (.istore 6, 2) := by decide +kernel
theorem dX12_best_235 : decode cX12_best 235 = .ok (.iinc 7 1, 3) := by decide +kernel
theorem dX12_best_238 : decode cX12_best 238 = .ok (.goto (-161), 3) := by decide +kernel
theorem dX12_best_241 : decode cX12_best 241 = .ok (.iload 4, 2) := by decide +kernel
theorem dX12_best_243 : decode cX12_best 243 = .ok (.ifCond .ne 12, 3) := by decide +kernel
theorem dX12_best_246 : decode cX12_best 246 = .ok (.aload_n 0, 1) := by decide +kernel
theorem dX12_best_247 : decode cX12_best 247 = .ok (.iload 5, 2) := by decide +kernel
theorem dX12_best_249 : decode cX12_best 249 = .ok (.invokevirtual 445, 3) := by decide +kernel
theorem dX12_best_252 : decode cX12_best 252 = .ok (.goto 16, 3) := by decide +kernel
theorem dX12_best_255 : decode cX12_best 255 = .ok (.iload 4, 2) := by decide +kernel
theorem dX12_best_257 : decode cX12_best 257 = .ok (.iconst 1, 1) := by decide +kernel
theorem dX12_best_258 : decode cX12_best 258 = .ok (.if_icmp .ne 8, 3) := by decide +kernel
theorem dX12_best_261 : decode cX12_best 261 = .ok (.iload 5, 2) := by decide +kernel
theorem dX12_best_263 : decode cX12_best 263 = .ok (.goto 5, 3) := by decide +kernel
theorem dX12_best_266 : decode cX12_best 266 = .ok (.iload 6, 2) := by decide +kernel
theorem dX12_best_268 : decode cX12_best 268 = .ok (.ireturn, 1) := by decide +kernel
theorem dX12_meeting_0 : decode cX12_meeting 0 = .ok (.aload_n 0, 1) := by decide +kernel
theorem dX12_meeting_1 : decode cX12_meeting 1 = .ok (.iload_n 1, 1) := by decide +kernel
theorem dX12_meeting_2 : decode cX12_meeting 2 = .ok (.invokevirtual 325, 3) := by decide +kernel
theorem dX12_meeting_5 : decode cX12_meeting 5 = .ok (.ifCond .eq 39, 3) := by decide +kernel
theorem dX12_meeting_8 : decode cX12_meeting 8 = .ok (.iload_n 2, 1) := by decide +kernel
theorem dX12_meeting_9 : decode cX12_meeting 9 = .ok (.invokestatic 415, 3) := by decide +kernel
theorem dX12_meeting_12 : decode cX12_meeting 12 = .ok (.ifCond .eq 32, 3) := by decide +kernel
theorem dX12_meeting_15 : decode cX12_meeting 15 = .ok (.aload_n 0, 1) := by decide +kernel
theorem dX12_meeting_16 : decode cX12_meeting 16 = .ok (.iload_n 3, 1) := by decide +kernel
theorem dX12_meeting_17 : decode cX12_meeting 17 = .ok (.invokevirtual 325, 3) := by decide +kernel
theorem dX12_meeting_20 : decode cX12_meeting 20 = .ok (.ifCond .eq 24, 3) := by decide +kernel
theorem dX12_meeting_23 : decode cX12_meeting 23 = .ok (.iload 4, 2) := by decide +kernel
theorem dX12_meeting_25 : decode cX12_meeting 25 = .ok (.invokestatic 415, 3) := by decide +kernel
theorem dX12_meeting_28 : decode cX12_meeting 28 = .ok (.ifCond .eq 16, 3) := by decide +kernel
theorem dX12_meeting_31 : decode cX12_meeting 31 = .ok (.iload 6, 2) := by decide +kernel
theorem dX12_meeting_33 : decode cX12_meeting 33 = .ok (.i2l, 1) := by decide +kernel
theorem dX12_meeting_34 : decode cX12_meeting 34 = .ok (.lconst 0, 1) := by decide +kernel
theorem dX12_meeting_35 : decode cX12_meeting 35 = .ok (.ldc2_w 328, 3) := by decide +kernel
theorem dX12_meeting_38 : decode cX12_meeting 38 = .ok (.invokestatic 148, 3) := by decide +kernel
theorem dX12_meeting_41 : decode cX12_meeting 41 = .ok (.ifCond .ne 5, 3) := by decide +kernel
theorem dX12_meeting_44 : decode cX12_meeting 44 = .ok (.iconst (-1), 1) := by decide +kernel
theorem dX12_meeting_45 : decode cX12_meeting 45 = .ok (.ireturn, 1) := by decide +kernel
theorem dX12_meeting_46 : decode cX12_meeting 46 = .ok (.aload_n 0, 1) := by decide +kernel
theorem dX12_meeting_47 : decode cX12_meeting 47 = .ok (.iload_n 1, 1) := by decide +kernel
theorem dX12_meeting_48 : decode cX12_meeting 48 = .ok (.iload_n 2, 1) := by decide +kernel
theorem dX12_meeting_49 : decode cX12_meeting 49 = .ok (.iload 5, 2) := by decide +kernel
theorem dX12_meeting_51 : decode cX12_meeting 51 = .ok (.invokevirtual 418, 3) := by decide +kernel
theorem dX12_meeting_54 : decode cX12_meeting 54 = .ok (.iconst 0, 1) := by decide +kernel
theorem dX12_meeting_55 : decode cX12_meeting 55 = .ok (.istore 7, 2) := by decide +kernel
theorem dX12_meeting_57 : decode cX12_meeting 57 = .ok (.iload 7, 2) := by decide +kernel
theorem dX12_meeting_59 : decode cX12_meeting 59 = .ok (.aload_n 0, 1) := by decide +kernel
theorem dX12_meeting_60 : decode cX12_meeting 60 = .ok (.getfield 48, 3) := by decide +kernel
theorem dX12_meeting_63 : decode cX12_meeting 63 = .ok (.iconst 0, 1) := by decide +kernel
theorem dX12_meeting_64 : decode cX12_meeting 64 = .ok (.iaload, 1) := by decide +kernel
theorem dX12_meeting_65 : decode cX12_meeting 65 = .ok (.if_icmp .ge 22, 3) := by decide +kernel
theorem dX12_meeting_68 : decode cX12_meeting 68 = .ok (.aload_n 0, 1) := by decide +kernel
theorem dX12_meeting_69 : decode cX12_meeting 69 = .ok (.getfield 70, 3) := by decide +kernel
theorem dX12_meeting_72 : decode cX12_meeting 72 = .ok (.iload 7, 2) := by decide +kernel
theorem dX12_meeting_74 : decode cX12_meeting 74 = .ok (.aload_n 0, 1) := by decide +kernel
theorem dX12_meeting_75 : decode cX12_meeting 75 = .ok (.iload 7, 2) := by decide +kernel
theorem dX12_meeting_77 : decode cX12_meeting 77 = .ok (.invokevirtual 422, 3) := by decide +kernel
theorem dX12_meeting_80 : decode cX12_meeting 80 = .ok (.iastore, 1) := by decide +kernel
theorem dX12_meeting_81 : decode cX12_meeting 81 = .ok (.iinc 7 1, 3) := by decide +kernel
theorem dX12_meeting_84 : decode cX12_meeting 84 = .ok (.goto (-27), 3) := by decide +kernel
theorem dX12_meeting_87 : decode cX12_meeting 87 = .ok (.aload_n 0, 1) := by decide +kernel
theorem dX12_meeting_88 : decode cX12_meeting 88 = .ok (.iload_n 3, 1) := by decide +kernel
theorem dX12_meeting_89 : decode cX12_meeting 89 = .ok (.iload 4, 2) := by decide +kernel
theorem dX12_meeting_91 : decode cX12_meeting 91 = .ok (.iload 5, 2) := by decide +kernel
theorem dX12_meeting_93 : decode cX12_meeting 93 = .ok (.invokevirtual 418, 3) := by decide +kernel
theorem dX12_meeting_96 : decode cX12_meeting 96 = .ok (.iconst 0, 1) := by decide +kernel
theorem dX12_meeting_97 : decode cX12_meeting 97 = .ok (.istore 7, 2) := by decide +kernel
theorem dX12_meeting_99 : decode cX12_meeting 99 = .ok (.iconst (-1), 1) := by decide +kernel
theorem dX12_meeting_100 : decode cX12_meeting 100 = .ok (.istore 8, 2) := by decide +kernel
theorem dX12_meeting_102 : decode cX12_meeting 102 = .ok (.iconst 0, 1) := by decide +kernel
theorem dX12_meeting_103 : decode cX12_meeting 103 = .ok (.istore 9, 2) := by decide +kernel
theorem dX12_meeting_105 : decode cX12_meeting 105 = .ok (.iload 9, 2) := by decide +kernel
theorem dX12_meeting_107 : decode cX12_meeting 107 = .ok (.aload_n 0, 1) := by decide +kernel
theorem dX12_meeting_108 : decode cX12_meeting 108 = .ok (.getfield 48, 3) := by decide +kernel
theorem dX12_meeting_111 : decode cX12_meeting 111 = .ok (.iconst 0, 1) := by decide +kernel
theorem dX12_meeting_112 : decode cX12_meeting 112 = .ok (.iaload, 1) := by decide +kernel
theorem dX12_meeting_113 : decode cX12_meeting 113 = .ok (.if_icmp .ge 76, 3) := by decide +kernel
theorem dX12_meeting_116 : decode cX12_meeting 116 = .ok (.aload_n 0, 1) := by decide +kernel
theorem dX12_meeting_117 : decode cX12_meeting 117 = .ok (.getfield 70, 3) := by decide +kernel
theorem dX12_meeting_120 : decode cX12_meeting 120 = .ok (.iload 9, 2) := by decide +kernel
theorem dX12_meeting_122 : decode cX12_meeting 122 = .ok (.aload_n 0, 1) := by decide +kernel
theorem dX12_meeting_123 : decode cX12_meeting 123 = .ok (.getfield 70, 3) := by decide +kernel
theorem dX12_meeting_126 : decode cX12_meeting 126 = .ok (.iload 9, 2) := by decide +kernel
theorem dX12_meeting_128 : decode cX12_meeting 128 = .ok (.iaload, 1) := by decide +kernel
theorem dX12_meeting_129 : decode cX12_meeting 129 = .ok (.aload_n 0, 1) := by decide +kernel
theorem dX12_meeting_130 : decode cX12_meeting 130 = .ok (.iload 9, 2) := by decide +kernel
theorem dX12_meeting_132 : decode cX12_meeting 132 = .ok (.invokevirtual 422, 3) := by decide +kernel
theorem dX12_meeting_135 : decode cX12_meeting 135 = .ok (.invokestatic 404, 3) := by decide +kernel
theorem dX12_meeting_138 : decode cX12_meeting 138 = .ok (.iastore, 1) := by decide +kernel
theorem dX12_meeting_139 : decode cX12_meeting 139 = .ok (.aload_n 0, 1) := by decide +kernel
theorem dX12_meeting_140 : decode cX12_meeting 140 = .ok (.getfield 70, 3) := by decide +kernel
theorem dX12_meeting_143 : decode cX12_meeting 143 = .ok (.iload 9, 2) := by decide +kernel
theorem dX12_meeting_145 : decode cX12_meeting 145 = .ok (.iaload, 1) := by decide +kernel
theorem dX12_meeting_146 : decode cX12_meeting 146 = .ok (.ldc 188, 2) := by decide +kernel
theorem dX12_meeting_148 : decode cX12_meeting 148 = .ok (.if_icmp .ne 6, 3) := by decide +kernel
theorem dX12_meeting_151 : decode cX12_meeting 151 = .ok (.goto 32, 3) := by decide +kernel
theorem dX12_meeting_154 : decode cX12_meeting 154 = .ok (.iinc 7 1, 3) := by decide +kernel
theorem dX12_meeting_157 : decode cX12_meeting 157 = .ok (.iload 8, 2) := by decide +kernel
theorem dX12_meeting_159 : decode cX12_meeting 159 = .ok (.ifCond .lt 20, 3) := by decide +kernel
theorem dX12_meeting_162 : decode cX12_meeting 162 = .ok (.aload_n 0, 1) := by decide +kernel
theorem dX12_meeting_163 : decode cX12_meeting 163 = .ok (.getfield 70, 3) := by decide +kernel
theorem dX12_meeting_166 : decode cX12_meeting 166 = .ok (.iload 9, 2) := by decide +kernel
theorem dX12_meeting_168 : decode cX12_meeting 168 = .ok (.iaload, 1) := by decide +kernel
theorem dX12_meeting_169 : decode cX12_meeting 169 = .ok (.aload_n 0, 1) := by decide +kernel
theorem dX12_meeting_170 : decode cX12_meeting 170 = .ok (.getfield 70, 3) := by decide +kernel
theorem dX12_meeting_173 : decode cX12_meeting 173 = .ok (.iload 8, 2) := by decide +kernel
theorem dX12_meeting_175 : decode cX12_meeting 175 = .ok (.iaload, 1) := by decide +kernel
theorem dX12_meeting_176 : decode cX12_meeting 176 = .ok (.if_icmp .ge 7, 3) := by decide +kernel
theorem dX12_meeting_179 : decode cX12_meeting 179 = .ok (.iload 9, 2) := by decide +kernel
theorem dX12_meeting_181 : decode cX12_meeting 181 = .ok (.istore 8, 2) := by decide +kernel
theorem dX12_meeting_183 : decode cX12_meeting 183 = .ok (.iinc 9 1, 3) := by decide +kernel
theorem dX12_meeting_186 : decode cX12_meeting 186 = .ok (.goto (-81), 3) := by decide +kernel
theorem dX12_meeting_189 : decode cX12_meeting 189 = .ok (.iload 6, 2) := by decide +kernel
theorem dX12_meeting_191 : decode cX12_meeting 191 = .ok (.iconst 2, 1) := by decide +kernel
theorem dX12_meeting_192 : decode cX12_meeting 192 = .ok (.if_icmp .ne 6, 3) := by decide +kernel
theorem dX12_meeting_195 : decode cX12_meeting 195 = .ok (.iload 7, 2) := by decide +kernel
theorem dX12_meeting_197 : decode cX12_meeting 197 = .ok (.ireturn, 1) := by decide +kernel
theorem dX12_meeting_198 : decode cX12_meeting 198 = .ok (.iload 8, 2) := by decide +kernel
theorem dX12_meeting_200 : decode cX12_meeting 200 = .ok (.ifCond .ge 8, 3) := by decide +kernel
theorem dX12_meeting_203 : decode cX12_meeting 203 = .ok (.bipush (-2), 2) := by decide +kernel
theorem dX12_meeting_205 : decode cX12_meeting 205 = .ok (.goto 20, 3) := by decide +kernel
theorem dX12_meeting_208 : decode cX12_meeting 208 = .ok (.iload 6, 2) := by decide +kernel
theorem dX12_meeting_210 : decode cX12_meeting 210 = .ok (.ifCond .ne 13, 3) := by decide +kernel
theorem dX12_meeting_213 : decode cX12_meeting 213 = .ok (.aload_n 0, 1) := by decide +kernel
theorem dX12_meeting_214 : decode cX12_meeting 214 = .ok (.getfield 70, 3) := by decide +kernel
theorem dX12_meeting_217 : decode cX12_meeting 217 = .ok (.iload 8, 2) := by decide +kernel
theorem dX12_meeting_219 : decode cX12_meeting 219 = .ok (.iaload, 1) := by decide +kernel
theorem dX12_meeting_220 : decode cX12_meeting 220 = .ok (.goto 5, 3) := by decide +kernel
theorem dX12_meeting_223 : decode cX12_meeting 223 = .ok (.iload 8, 2) := by decide +kernel
theorem dX12_meeting_225 : decode cX12_meeting 225 = .ok (.ireturn, 1) := by decide +kernel
theorem dX12_wayBy_0 : decode cX12_wayBy 0 = .ok (.iconst 0, 1) := by decide +kernel
theorem dX12_wayBy_1 : decode cX12_wayBy 1 = .ok (.istore 5, 2) := by decide +kernel
theorem dX12_wayBy_3 : decode cX12_wayBy 3 = .ok (.iload 5, 2) := by decide +kernel
theorem dX12_wayBy_5 : decode cX12_wayBy 5 = .ok (.aload_n 0, 1) := by decide +kernel
theorem dX12_wayBy_6 : decode cX12_wayBy 6 = .ok (.getfield 48, 3) := by decide +kernel
theorem dX12_wayBy_9 : decode cX12_wayBy 9 = .ok (.iconst 1, 1) := by decide +kernel
theorem dX12_wayBy_10 : decode cX12_wayBy 10 = .ok (.iaload, 1) := by decide +kernel
theorem dX12_wayBy_11 : decode cX12_wayBy 11 = .ok (.if_icmp .ge 88, 3) := by decide +kernel
theorem dX12_wayBy_14 : decode cX12_wayBy 14 = .ok (.aload_n 0, 1) := by decide +kernel
theorem dX12_wayBy_15 : decode cX12_wayBy 15 = .ok (.iload 5, 2) := by decide +kernel
theorem dX12_wayBy_17 : decode cX12_wayBy 17 = .ok (.iload_n 1, 1) := by decide +kernel
theorem dX12_wayBy_18 : decode cX12_wayBy 18 = .ok (.invokevirtual 349, 3) := by decide +kernel
theorem dX12_wayBy_21 : decode cX12_wayBy 21 = .ok (.istore 6, 2) := by decide +kernel
theorem dX12_wayBy_23 : decode cX12_wayBy 23 = .ok (.iload 6, 2) := by decide +kernel
theorem dX12_wayBy_25 : decode cX12_wayBy 25 = .ok (.ifCond .lt 68, 3) := by decide +kernel
theorem dX12_wayBy_28 : decode cX12_wayBy 28 = .ok (.aload_n 0, 1) := by decide +kernel
theorem dX12_wayBy_29 : decode cX12_wayBy 29 = .ok (.iload 5, 2) := by decide +kernel
theorem dX12_wayBy_31 : decode cX12_wayBy 31 = .ok (.iload_n 2, 1) := by decide +kernel
theorem dX12_wayBy_32 : decode cX12_wayBy 32 = .ok (.invokevirtual 410, 3) := by decide +kernel
theorem dX12_wayBy_35 : decode cX12_wayBy 35 = .ok (.sipush 1439, 3) := by decide +kernel
theorem dX12_wayBy_38 : decode cX12_wayBy 38 = .ok (.if_icmp .le 6, 3) := by decide +kernel
theorem dX12_wayBy_41 : decode cX12_wayBy 41 = .ok (.goto 52, 3) := by decide +kernel
theorem dX12_wayBy_44 : decode cX12_wayBy 44 = .ok (.aload_n 0, 1) := by decide +kernel
theorem dX12_wayBy_45 : decode cX12_wayBy 45 = .ok (.iload 5, 2) := by decide +kernel
theorem dX12_wayBy_47 : decode cX12_wayBy 47 = .ok (.iload_n 2, 1) := by decide +kernel
theorem dX12_wayBy_48 : decode cX12_wayBy 48 = .ok (.invokevirtual 410, 3) := by decide +kernel
theorem dX12_wayBy_51 : decode cX12_wayBy 51 = .ok (.aload_n 0, 1) := by decide +kernel
theorem dX12_wayBy_52 : decode cX12_wayBy 52 = .ok (.iload 5, 2) := by decide +kernel
theorem dX12_wayBy_54 : decode cX12_wayBy 54 = .ok (.iconst 2, 1) := by decide +kernel
theorem dX12_wayBy_55 : decode cX12_wayBy 55 = .ok (.invokevirtual 322, 3) := by decide +kernel
theorem dX12_wayBy_58 : decode cX12_wayBy 58 = .ok (.iadd, 1) := by decide +kernel
theorem dX12_wayBy_59 : decode cX12_wayBy 59 = .ok (.istore 7, 2) := by decide +kernel
theorem dX12_wayBy_61 : decode cX12_wayBy 61 = .ok (.iload 7, 2) := by decide +kernel
theorem dX12_wayBy_63 : decode cX12_wayBy 63 = .ok (.iload 4, 2) := by decide +kernel
theorem dX12_wayBy_65 : decode cX12_wayBy 65 = .ok (.if_icmp .le 6, 3) := by decide +kernel
theorem dX12_wayBy_68 : decode cX12_wayBy 68 = .ok (.goto 25, 3) := by decide +kernel
theorem dX12_wayBy_71 : decode cX12_wayBy 71 = .ok (.aload_n 0, 1) := by decide +kernel
theorem dX12_wayBy_72 : decode cX12_wayBy 72 = .ok (.iload 6, 2) := by decide +kernel
theorem dX12_wayBy_74 : decode cX12_wayBy 74 = .ok (.iload 7, 2) := by decide +kernel
theorem dX12_wayBy_76 : decode cX12_wayBy 76 = .ok (.iconst 0, 1) := by decide +kernel
theorem dX12_wayBy_77 : decode cX12_wayBy 77 = .ok (.invokevirtual 418, 3) := by decide +kernel
theorem dX12_wayBy_80 : decode cX12_wayBy 80 = .ok (.aload_n 0, 1) := by decide +kernel
theorem dX12_wayBy_81 : decode cX12_wayBy 81 = .ok (.iload_n 3, 1) := by decide +kernel
theorem dX12_wayBy_82 : decode cX12_wayBy 82 = .ok (.invokevirtual 422, 3) := by decide +kernel
theorem dX12_wayBy_85 : decode cX12_wayBy 85 = .ok (.iload 4, 2) := by decide +kernel
theorem dX12_wayBy_87 : decode cX12_wayBy 87 = .ok (.if_icmp .ne 6, 3) := by decide +kernel
theorem dX12_wayBy_90 : decode cX12_wayBy 90 = .ok (.iload 5, 2) := by decide +kernel
theorem dX12_wayBy_92 : decode cX12_wayBy 92 = .ok (.ireturn, 1) := by decide +kernel
theorem dX12_wayBy_93 : decode cX12_wayBy 93 = .ok (.iinc 5 1, 3) := by decide +kernel
theorem dX12_wayBy_96 : decode cX12_wayBy 96 = .ok (.goto (-93), 3) := by decide +kernel
theorem dX12_wayBy_99 : decode cX12_wayBy 99 = .ok (.iconst (-1), 1) := by decide +kernel
theorem dX12_wayBy_100 : decode cX12_wayBy 100 = .ok (.ireturn, 1) := by decide +kernel
theorem dX12_travels_0 : decode cX12_travels 0 = .ok (.aload_n 0, 1) := by decide +kernel
theorem dX12_travels_1 : decode cX12_travels 1 = .ok (.iload_n 1, 1) := by decide +kernel
theorem dX12_travels_2 : decode cX12_travels 2 = .ok (.iload_n 2, 1) := by decide +kernel
theorem dX12_travels_3 : decode cX12_travels 3 = .ok (.iconst 0, 1) := by decide +kernel
theorem dX12_travels_4 : decode cX12_travels 4 = .ok (.invokevirtual 418, 3) := by decide +kernel
theorem dX12_travels_7 : decode cX12_travels 7 = .ok (.aload_n 0, 1) := by decide +kernel
theorem dX12_travels_8 : decode cX12_travels 8 = .ok (.iload_n 3, 1) := by decide +kernel
theorem dX12_travels_9 : decode cX12_travels 9 = .ok (.invokevirtual 422, 3) := by decide +kernel
theorem dX12_travels_12 : decode cX12_travels 12 = .ok (.istore 4, 2) := by decide +kernel
theorem dX12_travels_14 : decode cX12_travels 14 = .ok (.iload_n 1, 1) := by decide +kernel
theorem dX12_travels_15 : decode cX12_travels 15 = .ok (.istore 5, 2) := by decide +kernel
theorem dX12_travels_17 : decode cX12_travels 17 = .ok (.iload_n 2, 1) := by decide +kernel
theorem dX12_travels_18 : decode cX12_travels 18 = .ok (.istore 6, 2) := by decide +kernel
theorem dX12_travels_20 : decode cX12_travels 20 = .ok (.aload_n 0, 1) := by decide +kernel
theorem dX12_travels_21 : decode cX12_travels 21 = .ok (.iconst 0, 1) := by decide +kernel
theorem dX12_travels_22 : decode cX12_travels 22 = .ok (.putfield 448, 3) := by decide +kernel
theorem dX12_travels_25 : decode cX12_travels 25 = .ok (.iload 4, 2) := by decide +kernel
theorem dX12_travels_27 : decode cX12_travels 27 = .ok (.ldc 188, 2) := by decide +kernel
theorem dX12_travels_29 : decode cX12_travels 29 = .ok (.if_icmp .ge 125, 3) := by decide +kernel
theorem dX12_travels_32 : decode cX12_travels 32 = .ok (.iload 5, 2) := by decide +kernel
theorem dX12_travels_34 : decode cX12_travels 34 = .ok (.iload_n 3, 1) := by decide +kernel
theorem dX12_travels_35 : decode cX12_travels 35 = .ok (.if_icmp .eq 119, 3) := by decide +kernel
theorem dX12_travels_38 : decode cX12_travels 38 = .ok (.aload_n 0, 1) := by decide +kernel
theorem dX12_travels_39 : decode cX12_travels 39 = .ok (.iload 5, 2) := by decide +kernel
theorem dX12_travels_41 : decode cX12_travels 41 = .ok (.iload 6, 2) := by decide +kernel
theorem dX12_travels_43 : decode cX12_travels 43 = .ok (.iload_n 3, 1) := by decide +kernel
theorem dX12_travels_44 : decode cX12_travels 44 = .ok (.iload 4, 2) := by decide +kernel
theorem dX12_travels_46 : decode cX12_travels 46 = .ok (.invokevirtual 451, 3) := by decide +kernel
theorem dX12_travels_49 : decode cX12_travels 49 = .ok (.istore 7, 2) := by decide +kernel
theorem dX12_travels_51 : decode cX12_travels 51 = .ok (.aload_n 0, 1) := by decide +kernel
theorem dX12_travels_52 : decode cX12_travels 52 = .ok (.getfield 73, 3) := by decide +kernel
theorem dX12_travels_55 : decode cX12_travels 55 = .ok (.aload_n 0, 1) := by decide +kernel
theorem dX12_travels_56 : decode cX12_travels 56 = .ok (.getfield 448, 3) := by decide +kernel
theorem dX12_travels_59 : decode cX12_travels 59 = .ok (.iload 7, 2) := by decide +kernel
theorem dX12_travels_61 : decode cX12_travels 61 = .ok (.iastore, 1) := by decide +kernel
theorem dX12_travels_62 : decode cX12_travels 62 = .ok (.aload_n 0, 1) := by decide +kernel
theorem dX12_travels_63 : decode cX12_travels 63 = .ok (.getfield 79, 3) := by decide +kernel
theorem dX12_travels_66 : decode cX12_travels 66 = .ok (.aload_n 0, 1) := by decide +kernel
theorem dX12_travels_67 : decode cX12_travels 67 = .ok (.getfield 448, 3) := by decide +kernel
theorem dX12_travels_70 : decode cX12_travels 70 = .ok (.iload 5, 2) := by decide +kernel
theorem dX12_travels_72 : decode cX12_travels 72 = .ok (.iastore, 1) := by decide +kernel
theorem dX12_travels_73 : decode cX12_travels 73 = .ok (.aload_n 0, 1) := by decide +kernel
theorem dX12_travels_74 : decode cX12_travels 74 = .ok (.getfield 76, 3) := by decide +kernel
theorem dX12_travels_77 : decode cX12_travels 77 = .ok (.aload_n 0, 1) := by decide +kernel
theorem dX12_travels_78 : decode cX12_travels 78 = .ok (.getfield 448, 3) := by decide +kernel
theorem dX12_travels_81 : decode cX12_travels 81 = .ok (.aload_n 0, 1) := by decide +kernel
theorem dX12_travels_82 : decode cX12_travels 82 = .ok (.iload 7, 2) := by decide +kernel
theorem dX12_travels_84 : decode cX12_travels 84 = .ok (.iload 6, 2) := by decide +kernel
theorem dX12_travels_86 : decode cX12_travels 86 = .ok (.invokevirtual 410, 3) := by decide +kernel
theorem dX12_travels_89 : decode cX12_travels 89 = .ok (.iastore, 1) := by decide +kernel
theorem dX12_travels_90 : decode cX12_travels 90 = .ok (.aload_n 0, 1) := by decide +kernel
theorem dX12_travels_91 : decode cX12_travels 91 = .ok (.iload 7, 2) := by decide +kernel
theorem dX12_travels_93 : decode cX12_travels 93 = .ok (.iload 5, 2) := by decide +kernel
theorem dX12_travels_95 : decode cX12_travels 95 = .ok (.invokevirtual 349, 3) := by decide +kernel
theorem dX12_travels_98 : decode cX12_travels 98 = .ok (.istore 5, 2) := by decide +kernel
theorem dX12_travels_100 : decode cX12_travels 100 = .ok (.aload_n 0, 1) := by decide +kernel
theorem dX12_travels_101 : decode cX12_travels 101 = .ok (.getfield 76, 3) := by decide +kernel
theorem dX12_travels_104 : decode cX12_travels 104 = .ok (.aload_n 0, 1) := by decide +kernel
theorem dX12_travels_105 : decode cX12_travels 105 = .ok (.getfield 448, 3) := by decide +kernel
theorem dX12_travels_108 : decode cX12_travels 108 = .ok (.iaload, 1) := by decide +kernel
theorem dX12_travels_109 : decode cX12_travels 109 = .ok (.aload_n 0, 1) := by decide +kernel
theorem dX12_travels_110 : decode cX12_travels 110 = .ok (.iload 7, 2) := by decide +kernel
theorem dX12_travels_112 : decode cX12_travels 112 = .ok (.iconst 2, 1) := by decide +kernel
theorem dX12_travels_113 : decode cX12_travels 113 = .ok (.invokevirtual 322, 3) := by decide +kernel
theorem dX12_travels_116 : decode cX12_travels 116 = .ok (.iadd, 1) := by decide +kernel
theorem dX12_travels_117 : decode cX12_travels 117 = .ok (.istore 6, 2) := by decide +kernel
theorem dX12_travels_119 : decode cX12_travels 119 = .ok (.aload_n 0, 1) := by decide +kernel
theorem dX12_travels_120 : decode cX12_travels 120 = .ok (.getfield 82, 3) := by decide +kernel
theorem dX12_travels_123 : decode cX12_travels 123 = .ok (.aload_n 0, 1) := by decide +kernel
theorem dX12_travels_124 : decode cX12_travels 124 = .ok (.getfield 448, 3) := by decide +kernel
theorem dX12_travels_127 : decode cX12_travels 127 = .ok (.iload 5, 2) := by decide +kernel
theorem dX12_travels_129 : decode cX12_travels 129 = .ok (.iastore, 1) := by decide +kernel
theorem dX12_travels_130 : decode cX12_travels 130 = .ok (.aload_n 0, 1) := by decide +kernel
theorem dX12_travels_131 : decode cX12_travels 131 = .ok (.getfield 85, 3) := by decide +kernel
theorem dX12_travels_134 : decode cX12_travels 134 = .ok (.aload_n 0, 1) := by decide +kernel
theorem dX12_travels_135 : decode cX12_travels 135 = .ok (.getfield 448, 3) := by decide +kernel
theorem dX12_travels_138 : decode cX12_travels 138 = .ok (.iload 6, 2) := by decide +kernel
theorem dX12_travels_140 : decode cX12_travels 140 = .ok (.iastore, 1) := by decide +kernel
theorem dX12_travels_141 : decode cX12_travels 141 = .ok (.aload_n 0, 1) := by decide +kernel
theorem dX12_travels_142 : decode cX12_travels 142 = .ok (.dup, 1) := by decide +kernel
theorem dX12_travels_143 : decode cX12_travels 143 = .ok (.getfield 448, 3) := by decide +kernel
theorem dX12_travels_146 : decode cX12_travels 146 = .ok (.iconst 1, 1) := by decide +kernel
theorem dX12_travels_147 : decode cX12_travels 147 = .ok (.iadd, 1) := by decide +kernel
theorem dX12_travels_148 : decode cX12_travels 148 = .ok (.putfield 448, 3) := by decide +kernel
theorem dX12_travels_151 : decode cX12_travels 151 = .ok (.goto (-126), 3) := by decide +kernel
theorem dX12_travels_154 : decode cX12_travels 154 = .ok (.iload 4, 2) := by decide +kernel
theorem dX12_travels_156 : decode cX12_travels 156 = .ok (.ireturn, 1) := by decide +kernel
theorem dX12_trip_0 : decode cX12_trip 0 = .ok (.iload_n 1, 1) := by decide +kernel
theorem dX12_trip_1 : decode cX12_trip 1 = .ok (.iconst (-1), 1) := by decide +kernel
theorem dX12_trip_2 : decode cX12_trip 2 = .ok (.if_icmp .ne 13, 3) := by decide +kernel
theorem dX12_trip_5 : decode cX12_trip 5 = .ok (.aload_n 0, 1) := by decide +kernel
theorem dX12_trip_6 : decode cX12_trip 6 = .ok (.getfield 48, 3) := by decide +kernel
theorem dX12_trip_9 : decode cX12_trip 9 = .ok (.bipush 8, 2) := by decide +kernel
theorem dX12_trip_11 : decode cX12_trip 11 = .ok (.iconst 0, 1) := by decide +kernel
theorem dX12_trip_12 : decode cX12_trip 12 = .ok (.iastore, 1) := by decide +kernel
theorem dX12_trip_13 : decode cX12_trip 13 = .ok (.iconst 0, 1) := by decide +kernel
theorem dX12_trip_14 : decode cX12_trip 14 = .ok (.ireturn, 1) := by decide +kernel
theorem dX12_trip_15 : decode cX12_trip 15 = .ok (.aload_n 0, 1) := by decide +kernel
theorem dX12_trip_16 : decode cX12_trip 16 = .ok (.getfield 48, 3) := by decide +kernel
theorem dX12_trip_19 : decode cX12_trip 19 = .ok (.bipush 8, 2) := by decide +kernel
theorem dX12_trip_21 : decode cX12_trip 21 = .ok (.iaload, 1) := by decide +kernel
theorem dX12_trip_22 : decode cX12_trip 22 = .ok (.bipush 12, 2) := by decide +kernel
theorem dX12_trip_24 : decode cX12_trip 24 = .ok (.if_icmp .eq 38, 3) := by decide +kernel
theorem dX12_trip_27 : decode cX12_trip 27 = .ok (.aload_n 0, 1) := by decide +kernel
theorem dX12_trip_28 : decode cX12_trip 28 = .ok (.iload_n 1, 1) := by decide +kernel
theorem dX12_trip_29 : decode cX12_trip 29 = .ok (.invokevirtual 325, 3) := by decide +kernel
theorem dX12_trip_32 : decode cX12_trip 32 = .ok (.ifCond .eq 30, 3) := by decide +kernel
theorem dX12_trip_35 : decode cX12_trip 35 = .ok (.iload_n 2, 1) := by decide +kernel
theorem dX12_trip_36 : decode cX12_trip 36 = .ok (.invokestatic 415, 3) := by decide +kernel
theorem dX12_trip_39 : decode cX12_trip 39 = .ok (.ifCond .eq 23, 3) := by decide +kernel
theorem dX12_trip_42 : decode cX12_trip 42 = .ok (.aload_n 0, 1) := by decide +kernel
theorem dX12_trip_43 : decode cX12_trip 43 = .ok (.iload_n 3, 1) := by decide +kernel
theorem dX12_trip_44 : decode cX12_trip 44 = .ok (.invokevirtual 325, 3) := by decide +kernel
theorem dX12_trip_47 : decode cX12_trip 47 = .ok (.ifCond .eq 15, 3) := by decide +kernel
theorem dX12_trip_50 : decode cX12_trip 50 = .ok (.aload_n 0, 1) := by decide +kernel
theorem dX12_trip_51 : decode cX12_trip 51 = .ok (.iload_n 1, 1) := by decide +kernel
theorem dX12_trip_52 : decode cX12_trip 52 = .ok (.iload_n 2, 1) := by decide +kernel
theorem dX12_trip_53 : decode cX12_trip 53 = .ok (.iload_n 3, 1) := by decide +kernel
theorem dX12_trip_54 : decode cX12_trip 54 = .ok (.invokevirtual 455, 3) := by decide +kernel
theorem dX12_trip_57 : decode cX12_trip 57 = .ok (.ldc 188, 2) := by decide +kernel
theorem dX12_trip_59 : decode cX12_trip 59 = .ok (.if_icmp .ne 6, 3) := by decide +kernel
theorem dX12_trip_62 : decode cX12_trip 62 = .ok (.bipush (-2), 2) := by decide +kernel
theorem dX12_trip_64 : decode cX12_trip 64 = .ok (.ireturn, 1) := by decide +kernel
theorem dX12_trip_65 : decode cX12_trip 65 = .ok (.sipush 252, 3) := by decide +kernel
theorem dX12_trip_68 : decode cX12_trip 68 = .ok (.iconst 3, 1) := by decide +kernel
theorem dX12_trip_69 : decode cX12_trip 69 = .ok (.aload_n 0, 1) := by decide +kernel
theorem dX12_trip_70 : decode cX12_trip 70 = .ok (.getfield 48, 3) := by decide +kernel
theorem dX12_trip_73 : decode cX12_trip 73 = .ok (.bipush 8, 2) := by decide +kernel
theorem dX12_trip_75 : decode cX12_trip 75 = .ok (.iaload, 1) := by decide +kernel
theorem dX12_trip_76 : decode cX12_trip 76 = .ok (.imul, 1) := by decide +kernel
theorem dX12_trip_77 : decode cX12_trip 77 = .ok (.iadd, 1) := by decide +kernel
theorem dX12_trip_78 : decode cX12_trip 78 = .ok (.istore 4, 2) := by decide +kernel
theorem dX12_trip_80 : decode cX12_trip 80 = .ok (.aload_n 0, 1) := by decide +kernel
theorem dX12_trip_81 : decode cX12_trip 81 = .ok (.getfield 48, 3) := by decide +kernel
theorem dX12_trip_84 : decode cX12_trip 84 = .ok (.iload 4, 2) := by decide +kernel
theorem dX12_trip_86 : decode cX12_trip 86 = .ok (.iload_n 1, 1) := by decide +kernel
theorem dX12_trip_87 : decode cX12_trip 87 = .ok (.iastore, 1) := by decide +kernel
theorem dX12_trip_88 : decode cX12_trip 88 = .ok (.aload_n 0, 1) := by decide +kernel
theorem dX12_trip_89 : decode cX12_trip 89 = .ok (.getfield 48, 3) := by decide +kernel
theorem dX12_trip_92 : decode cX12_trip 92 = .ok (.iload 4, 2) := by decide +kernel
theorem dX12_trip_94 : decode cX12_trip 94 = .ok (.iconst 1, 1) := by decide +kernel
theorem dX12_trip_95 : decode cX12_trip 95 = .ok (.iadd, 1) := by decide +kernel
theorem dX12_trip_96 : decode cX12_trip 96 = .ok (.iload_n 2, 1) := by decide +kernel
theorem dX12_trip_97 : decode cX12_trip 97 = .ok (.iastore, 1) := by decide +kernel
theorem dX12_trip_98 : decode cX12_trip 98 = .ok (.aload_n 0, 1) := by decide +kernel
theorem dX12_trip_99 : decode cX12_trip 99 = .ok (.getfield 48, 3) := by decide +kernel
theorem dX12_trip_102 : decode cX12_trip 102 = .ok (.iload 4, 2) := by decide +kernel
theorem dX12_trip_104 : decode cX12_trip 104 = .ok (.iconst 2, 1) := by decide +kernel
theorem dX12_trip_105 : decode cX12_trip 105 = .ok (.iadd, 1) := by decide +kernel
theorem dX12_trip_106 : decode cX12_trip 106 = .ok (.iload_n 3, 1) := by decide +kernel
theorem dX12_trip_107 : decode cX12_trip 107 = .ok (.iastore, 1) := by decide +kernel
theorem dX12_trip_108 : decode cX12_trip 108 = .ok (.aload_n 0, 1) := by decide +kernel
theorem dX12_trip_109 : decode cX12_trip 109 = .ok (.getfield 48, 3) := by decide +kernel
theorem dX12_trip_112 : decode cX12_trip 112 = .ok (.bipush 8, 2) := by decide +kernel
theorem dX12_trip_114 : decode cX12_trip 114 = .ok (.dup2, 1) := by decide +kernel
theorem dX12_trip_115 : decode cX12_trip 115 = .ok (.iaload, 1) := by decide +kernel
theorem dX12_trip_116 : decode cX12_trip 116 = .ok (.iconst 1, 1) := by decide +kernel
theorem dX12_trip_117 : decode cX12_trip 117 = .ok (.iadd, 1) := by decide +kernel
theorem dX12_trip_118 : decode cX12_trip 118 = .ok (.iastore, 1) := by decide +kernel
theorem dX12_trip_119 : decode cX12_trip 119 = .ok (.aload_n 0, 1) := by decide +kernel
theorem dX12_trip_120 : decode cX12_trip 120 = .ok (.getfield 48, 3) := by decide +kernel
theorem dX12_trip_123 : decode cX12_trip 123 = .ok (.bipush 8, 2) := by decide +kernel
theorem dX12_trip_125 : decode cX12_trip 125 = .ok (.iaload, 1) := by decide +kernel
theorem dX12_trip_126 : decode cX12_trip 126 = .ok (.ireturn, 1) := by decide +kernel
theorem dX12_goesTrip_0 : decode cX12_goesTrip 0 = .ok (.aload_n 0, 1) := by decide +kernel
theorem dX12_goesTrip_1 : decode cX12_goesTrip 1 = .ok (.aload_n 0, 1) := by decide +kernel
theorem dX12_goesTrip_2 : decode cX12_goesTrip 2 = .ok (.getfield 48, 3) := by decide +kernel
theorem dX12_goesTrip_5 : decode cX12_goesTrip 5 = .ok (.sipush 252, 3) := by decide +kernel
theorem dX12_goesTrip_8 : decode cX12_goesTrip 8 = .ok (.iconst 3, 1) := by decide +kernel
theorem dX12_goesTrip_9 : decode cX12_goesTrip 9 = .ok (.iload_n 1, 1) := by decide +kernel
theorem dX12_goesTrip_10 : decode cX12_goesTrip 10 = .ok (.imul, 1) := by decide +kernel
theorem dX12_goesTrip_11 : decode cX12_goesTrip 11 = .ok (.iadd, 1) := by decide +kernel
theorem dX12_goesTrip_12 : decode cX12_goesTrip 12 = .ok (.iaload, 1) := by decide +kernel
theorem dX12_goesTrip_13 : decode cX12_goesTrip 13 = .ok (.aload_n 0, 1) := by decide +kernel
theorem dX12_goesTrip_14 : decode cX12_goesTrip 14 = .ok (.getfield 48, 3) := by decide +kernel
theorem dX12_goesTrip_17 : decode cX12_goesTrip 17 = .ok (.sipush 252, 3) := by decide +kernel
theorem dX12_goesTrip_20 : decode cX12_goesTrip 20 = .ok (.iconst 3, 1) := by decide +kernel
theorem dX12_goesTrip_21 : decode cX12_goesTrip 21 = .ok (.iload_n 1, 1) := by decide +kernel
theorem dX12_goesTrip_22 : decode cX12_goesTrip 22 = .ok (.imul, 1) := by decide +kernel
theorem dX12_goesTrip_23 : decode cX12_goesTrip 23 = .ok (.iadd, 1) := by decide +kernel
theorem dX12_goesTrip_24 : decode cX12_goesTrip 24 = .ok (.iconst 1, 1) := by decide +kernel
theorem dX12_goesTrip_25 : decode cX12_goesTrip 25 = .ok (.iadd, 1) := by decide +kernel
theorem dX12_goesTrip_26 : decode cX12_goesTrip 26 = .ok (.iaload, 1) := by decide +kernel
theorem dX12_goesTrip_27 : decode cX12_goesTrip 27 = .ok (.aload_n 0, 1) := by decide +kernel
theorem dX12_goesTrip_28 : decode cX12_goesTrip 28 = .ok (.getfield 48, 3) := by decide +kernel
theorem dX12_goesTrip_31 : decode cX12_goesTrip 31 = .ok (.sipush 252, 3) := by decide +kernel
theorem dX12_goesTrip_34 : decode cX12_goesTrip 34 = .ok (.iconst 3, 1) := by decide +kernel
theorem dX12_goesTrip_35 : decode cX12_goesTrip 35 = .ok (.iload_n 1, 1) := by decide +kernel
theorem dX12_goesTrip_36 : decode cX12_goesTrip 36 = .ok (.imul, 1) := by decide +kernel
theorem dX12_goesTrip_37 : decode cX12_goesTrip 37 = .ok (.iadd, 1) := by decide +kernel
theorem dX12_goesTrip_38 : decode cX12_goesTrip 38 = .ok (.iconst 2, 1) := by decide +kernel
theorem dX12_goesTrip_39 : decode cX12_goesTrip 39 = .ok (.iadd, 1) := by decide +kernel
theorem dX12_goesTrip_40 : decode cX12_goesTrip 40 = .ok (.iaload, 1) := by decide +kernel
theorem dX12_goesTrip_41 : decode cX12_goesTrip 41 = .ok (.invokevirtual 455, 3) := by decide +kernel
theorem dX12_goesTrip_44 : decode cX12_goesTrip 44 = .ok (.ireturn, 1) := by decide +kernel
theorem dX12_trips_0 : decode cX12_trips 0 = .ok (.iload_n 1, 1) := by decide +kernel
theorem dX12_trips_1 : decode cX12_trips 1 = .ok (.i2l, 1) := by decide +kernel
theorem dX12_trips_2 : decode cX12_trips 2 = .ok (.lconst 0, 1) := by decide +kernel
theorem dX12_trips_3 : decode cX12_trips 3 = .ok (.aload_n 0, 1) := by decide +kernel
theorem dX12_trips_4 : decode cX12_trips 4 = .ok (.getfield 48, 3) := by decide +kernel
theorem dX12_trips_7 : decode cX12_trips 7 = .ok (.bipush 8, 2) := by decide +kernel
theorem dX12_trips_9 : decode cX12_trips 9 = .ok (.iaload, 1) := by decide +kernel
theorem dX12_trips_10 : decode cX12_trips 10 = .ok (.iconst 1, 1) := by decide +kernel
theorem dX12_trips_11 : decode cX12_trips 11 = .ok (.isub, 1) := by decide +kernel
theorem dX12_trips_12 : decode cX12_trips 12 = .ok (.i2l, 1) := by decide +kernel
theorem dX12_trips_13 : decode cX12_trips 13 = .ok (.invokestatic 148, 3) := by decide +kernel
theorem dX12_trips_16 : decode cX12_trips 16 = .ok (.ifCond .eq 8, 3) := by decide +kernel
theorem dX12_trips_19 : decode cX12_trips 19 = .ok (.iload_n 2, 1) := by decide +kernel
theorem dX12_trips_20 : decode cX12_trips 20 = .ok (.iconst (-1), 1) := by decide +kernel
theorem dX12_trips_21 : decode cX12_trips 21 = .ok (.if_icmp .ge 5, 3) := by decide +kernel
theorem dX12_trips_24 : decode cX12_trips 24 = .ok (.iconst (-1), 1) := by decide +kernel
theorem dX12_trips_25 : decode cX12_trips 25 = .ok (.ireturn, 1) := by decide +kernel
theorem dX12_trips_26 : decode cX12_trips 26 = .ok (.aload_n 0, 1) := by decide +kernel
theorem dX12_trips_27 : decode cX12_trips 27 = .ok (.iload_n 1, 1) := by decide +kernel
theorem dX12_trips_28 : decode cX12_trips 28 = .ok (.invokevirtual 459, 3) := by decide +kernel
theorem dX12_trips_31 : decode cX12_trips 31 = .ok (.istore_n 3, 1) := by decide +kernel
theorem dX12_trips_32 : decode cX12_trips 32 = .ok (.iload_n 2, 1) := by decide +kernel
theorem dX12_trips_33 : decode cX12_trips 33 = .ok (.ifCond .ge 7, 3) := by decide +kernel
theorem dX12_trips_36 : decode cX12_trips 36 = .ok (.iload_n 3, 1) := by decide +kernel
theorem dX12_trips_37 : decode cX12_trips 37 = .ok (.goto 22, 3) := by decide +kernel
theorem dX12_trips_40 : decode cX12_trips 40 = .ok (.iload_n 2, 1) := by decide +kernel
theorem dX12_trips_41 : decode cX12_trips 41 = .ok (.aload_n 0, 1) := by decide +kernel
theorem dX12_trips_42 : decode cX12_trips 42 = .ok (.getfield 448, 3) := by decide +kernel
theorem dX12_trips_45 : decode cX12_trips 45 = .ok (.if_icmp .ge 12, 3) := by decide +kernel
theorem dX12_trips_48 : decode cX12_trips 48 = .ok (.aload_n 0, 1) := by decide +kernel
theorem dX12_trips_49 : decode cX12_trips 49 = .ok (.getfield 73, 3) := by decide +kernel
theorem dX12_trips_52 : decode cX12_trips 52 = .ok (.iload_n 2, 1) := by decide +kernel
theorem dX12_trips_53 : decode cX12_trips 53 = .ok (.iaload, 1) := by decide +kernel
theorem dX12_trips_54 : decode cX12_trips 54 = .ok (.goto 5, 3) := by decide +kernel
theorem dX12_trips_57 : decode cX12_trips 57 = .ok (.bipush (-2), 2) := by decide +kernel
theorem dX12_trips_59 : decode cX12_trips 59 = .ok (.ireturn, 1) := by decide +kernel
theorem dX12_carries_0 : decode cX12_carries 0 = .ok (.aload_n 0, 1) := by decide +kernel
theorem dX12_carries_1 : decode cX12_carries 1 = .ok (.iload_n 1, 1) := by decide +kernel
theorem dX12_carries_2 : decode cX12_carries 2 = .ok (.invokevirtual 459, 3) := by decide +kernel
theorem dX12_carries_5 : decode cX12_carries 5 = .ok (.pop, 1) := by decide +kernel
theorem dX12_carries_6 : decode cX12_carries 6 = .ok (.iconst 0, 1) := by decide +kernel
theorem dX12_carries_7 : decode cX12_carries 7 = .ok (.istore_n 2, 1) := by decide +kernel
theorem dX12_carries_8 : decode cX12_carries 8 = .ok (.iconst 0, 1) := by decide +kernel
theorem dX12_carries_9 : decode cX12_carries 9 = .ok (.istore_n 3, 1) := by decide +kernel
theorem dX12_carries_10 : decode cX12_carries 10 = .ok (.iconst 0, 1) := by decide +kernel
theorem dX12_carries_11 : decode cX12_carries 11 = .ok (.istore 4, 2) := by decide +kernel
theorem dX12_carries_13 : decode cX12_carries 13 = .ok (.iload 4, 2) := by decide +kernel
theorem dX12_carries_15 : decode cX12_carries 15 = .ok (.aload_n 0, 1) := by decide +kernel
theorem dX12_carries_16 : decode cX12_carries 16 = .ok (.getfield 448, 3) := by decide +kernel
theorem dX12_carries_19 : decode cX12_carries 19 = .ok (.if_icmp .ge 89, 3) := by decide +kernel
theorem dX12_carries_22 : decode cX12_carries 22 = .ok (.iload_n 2, 1) := by decide +kernel
theorem dX12_carries_23 : decode cX12_carries 23 = .ok (.aload_n 0, 1) := by decide +kernel
theorem dX12_carries_24 : decode cX12_carries 24 = .ok (.getfield 88, 3) := by decide +kernel
theorem dX12_carries_27 : decode cX12_carries 27 = .ok (.aload_n 0, 1) := by decide +kernel
theorem dX12_carries_28 : decode cX12_carries 28 = .ok (.getfield 79, 3) := by decide +kernel
theorem dX12_carries_31 : decode cX12_carries 31 = .ok (.iload 4, 2) := by decide +kernel
theorem dX12_carries_33 : decode cX12_carries 33 = .ok (.iaload, 1) := by decide +kernel
theorem dX12_carries_34 : decode cX12_carries 34 = .ok (.iaload, 1) := by decide +kernel
theorem dX12_carries_35 : decode cX12_carries 35 = .ok (.aload_n 0, 1) := by decide +kernel
theorem dX12_carries_36 : decode cX12_carries 36 = .ok (.getfield 76, 3) := by decide +kernel
theorem dX12_carries_39 : decode cX12_carries 39 = .ok (.iload 4, 2) := by decide +kernel
theorem dX12_carries_41 : decode cX12_carries 41 = .ok (.iaload, 1) := by decide +kernel
theorem dX12_carries_42 : decode cX12_carries 42 = .ok (.if_icmp .gt 7, 3) := by decide +kernel
theorem dX12_carries_45 : decode cX12_carries 45 = .ok (.iconst 1, 1) := by decide +kernel
theorem dX12_carries_46 : decode cX12_carries 46 = .ok (.goto 4, 3) := by decide +kernel
theorem dX12_carries_49 : decode cX12_carries 49 = .ok (.iconst 0, 1) := by decide +kernel
theorem dX12_carries_50 : decode cX12_carries 50 = .ok (.ior, 1) := by decide +kernel
theorem dX12_carries_51 : decode cX12_carries 51 = .ok (.istore_n 2, 1) := by decide +kernel
theorem dX12_carries_52 : decode cX12_carries 52 = .ok (.iload_n 2, 1) := by decide +kernel
theorem dX12_carries_53 : decode cX12_carries 53 = .ok (.ifCond .eq 49, 3) := by decide +kernel
theorem dX12_carries_56 : decode cX12_carries 56 = .ok (.aload_n 0, 1) := by decide +kernel
theorem dX12_carries_57 : decode cX12_carries 57 = .ok (.getfield 85, 3) := by decide +kernel
theorem dX12_carries_60 : decode cX12_carries 60 = .ok (.iload 4, 2) := by decide +kernel
theorem dX12_carries_62 : decode cX12_carries 62 = .ok (.iaload, 1) := by decide +kernel
theorem dX12_carries_63 : decode cX12_carries 63 = .ok (.aload_n 0, 1) := by decide +kernel
theorem dX12_carries_64 : decode cX12_carries 64 = .ok (.getfield 88, 3) := by decide +kernel
theorem dX12_carries_67 : decode cX12_carries 67 = .ok (.aload_n 0, 1) := by decide +kernel
theorem dX12_carries_68 : decode cX12_carries 68 = .ok (.getfield 82, 3) := by decide +kernel
theorem dX12_carries_71 : decode cX12_carries 71 = .ok (.iload 4, 2) := by decide +kernel
theorem dX12_carries_73 : decode cX12_carries 73 = .ok (.iaload, 1) := by decide +kernel
theorem dX12_carries_74 : decode cX12_carries 74 = .ok (.iaload, 1) := by decide +kernel
theorem dX12_carries_75 : decode cX12_carries 75 = .ok (.if_icmp .lt 6, 3) := by decide +kernel
theorem dX12_carries_78 : decode cX12_carries 78 = .ok (.goto 24, 3) := by decide +kernel
theorem dX12_carries_81 : decode cX12_carries 81 = .ok (.aload_n 0, 1) := by decide +kernel
theorem dX12_carries_82 : decode cX12_carries 82 = .ok (.getfield 88, 3) := by decide +kernel
theorem dX12_carries_85 : decode cX12_carries 85 = .ok (.aload_n 0, 1) := by decide +kernel
theorem dX12_carries_86 : decode cX12_carries 86 = .ok (.getfield 82, 3) := by decide +kernel
theorem dX12_carries_89 : decode cX12_carries 89 = .ok (.iload 4, 2) := by decide +kernel
theorem dX12_carries_91 : decode cX12_carries 91 = .ok (.iaload, 1) := by decide +kernel
theorem dX12_carries_92 : decode cX12_carries 92 = .ok (.aload_n 0, 1) := by decide +kernel
theorem dX12_carries_93 : decode cX12_carries 93 = .ok (.getfield 85, 3) := by decide +kernel
theorem dX12_carries_96 : decode cX12_carries 96 = .ok (.iload 4, 2) := by decide +kernel
theorem dX12_carries_98 : decode cX12_carries 98 = .ok (.iaload, 1) := by decide +kernel
theorem dX12_carries_99 : decode cX12_carries 99 = .ok (.iastore, 1) := by decide +kernel
theorem dX12_carries_100 : decode cX12_carries 100 = .ok (.iconst 1, 1) := by decide +kernel
theorem dX12_carries_101 : decode cX12_carries 101 = .ok (.istore_n 3, 1) := by decide +kernel
theorem dX12_carries_102 : decode cX12_carries 102 = .ok (.iinc 4 1, 3) := by decide +kernel
theorem dX12_carries_105 : decode cX12_carries 105 = .ok (.goto (-92), 3) := by decide +kernel
theorem dX12_carries_108 : decode cX12_carries 108 = .ok (.iload_n 3, 1) := by decide +kernel
theorem dX12_carries_109 : decode cX12_carries 109 = .ok (.ireturn, 1) := by decide +kernel
theorem dX12_brought_0 : decode cX12_brought 0 = .ok (.aload_n 0, 1) := by decide +kernel
theorem dX12_brought_1 : decode cX12_brought 1 = .ok (.iload_n 1, 1) := by decide +kernel
theorem dX12_brought_2 : decode cX12_brought 2 = .ok (.invokevirtual 325, 3) := by decide +kernel
theorem dX12_brought_5 : decode cX12_brought 5 = .ok (.ifCond .eq 18, 3) := by decide +kernel
theorem dX12_brought_8 : decode cX12_brought 8 = .ok (.iload_n 2, 1) := by decide +kernel
theorem dX12_brought_9 : decode cX12_brought 9 = .ok (.invokestatic 415, 3) := by decide +kernel
theorem dX12_brought_12 : decode cX12_brought 12 = .ok (.ifCond .eq 11, 3) := by decide +kernel
theorem dX12_brought_15 : decode cX12_brought 15 = .ok (.aload_n 0, 1) := by decide +kernel
theorem dX12_brought_16 : decode cX12_brought 16 = .ok (.iload_n 3, 1) := by decide +kernel
theorem dX12_brought_17 : decode cX12_brought 17 = .ok (.invokevirtual 325, 3) := by decide +kernel
theorem dX12_brought_20 : decode cX12_brought 20 = .ok (.ifCond .ne 5, 3) := by decide +kernel
theorem dX12_brought_23 : decode cX12_brought 23 = .ok (.iconst (-1), 1) := by decide +kernel
theorem dX12_brought_24 : decode cX12_brought 24 = .ok (.ireturn, 1) := by decide +kernel
theorem dX12_brought_25 : decode cX12_brought 25 = .ok (.iconst 0, 1) := by decide +kernel
theorem dX12_brought_26 : decode cX12_brought 26 = .ok (.istore 4, 2) := by decide +kernel
theorem dX12_brought_28 : decode cX12_brought 28 = .ok (.iload 4, 2) := by decide +kernel
theorem dX12_brought_30 : decode cX12_brought 30 = .ok (.bipush 16, 2) := by decide +kernel
theorem dX12_brought_32 : decode cX12_brought 32 = .ok (.if_icmp .ge 28, 3) := by decide +kernel
theorem dX12_brought_35 : decode cX12_brought 35 = .ok (.aload_n 0, 1) := by decide +kernel
theorem dX12_brought_36 : decode cX12_brought 36 = .ok (.getfield 88, 3) := by decide +kernel
theorem dX12_brought_39 : decode cX12_brought 39 = .ok (.iload 4, 2) := by decide +kernel
theorem dX12_brought_41 : decode cX12_brought 41 = .ok (.iload 4, 2) := by decide +kernel
theorem dX12_brought_43 : decode cX12_brought 43 = .ok (.iload_n 1, 1) := by decide +kernel
theorem dX12_brought_44 : decode cX12_brought 44 = .ok (.if_icmp .ne 7, 3) := by decide +kernel
theorem dX12_brought_47 : decode cX12_brought 47 = .ok (.iload_n 2, 1) := by decide +kernel
theorem dX12_brought_48 : decode cX12_brought 48 = .ok (.goto 5, 3) := by decide +kernel
theorem dX12_brought_51 : decode cX12_brought 51 = .ok (.ldc 188, 2) := by decide +kernel
theorem dX12_brought_53 : decode cX12_brought 53 = .ok (.iastore, 1) := by decide +kernel
theorem dX12_brought_54 : decode cX12_brought 54 = .ok (.iinc 4 1, 3) := by decide +kernel
theorem dX12_brought_57 : decode cX12_brought 57 = .ok (.goto (-29), 3) := by decide +kernel
theorem dX12_brought_60 : decode cX12_brought 60 = .ok (.iconst 1, 1) := by decide +kernel
theorem dX12_brought_61 : decode cX12_brought 61 = .ok (.istore 4, 2) := by decide +kernel
theorem dX12_brought_63 : decode cX12_brought 63 = .ok (.iload 4, 2) := by decide +kernel
theorem dX12_brought_65 : decode cX12_brought 65 = .ok (.ifCond .eq 41, 3) := by decide +kernel
theorem dX12_brought_68 : decode cX12_brought 68 = .ok (.iconst 0, 1) := by decide +kernel
theorem dX12_brought_69 : decode cX12_brought 69 = .ok (.istore 4, 2) := by decide +kernel
theorem dX12_brought_71 : decode cX12_brought 71 = .ok (.iconst 0, 1) := by decide +kernel
theorem dX12_brought_72 : decode cX12_brought 72 = .ok (.istore 5, 2) := by decide +kernel
theorem dX12_brought_74 : decode cX12_brought 74 = .ok (.iload 5, 2) := by decide +kernel
theorem dX12_brought_76 : decode cX12_brought 76 = .ok (.aload_n 0, 1) := by decide +kernel
theorem dX12_brought_77 : decode cX12_brought 77 = .ok (.getfield 48, 3) := by decide +kernel
theorem dX12_brought_80 : decode cX12_brought 80 = .ok (.bipush 8, 2) := by decide +kernel
theorem dX12_brought_82 : decode cX12_brought 82 = .ok (.iaload, 1) := by decide +kernel
theorem dX12_brought_83 : decode cX12_brought 83 = .ok (.if_icmp .ge 20, 3) := by decide +kernel
theorem dX12_brought_86 : decode cX12_brought 86 = .ok (.iload 4, 2) := by decide +kernel
theorem dX12_brought_88 : decode cX12_brought 88 = .ok (.aload_n 0, 1) := by decide +kernel
theorem dX12_brought_89 : decode cX12_brought 89 = .ok (.iload 5, 2) := by decide +kernel
theorem dX12_brought_91 : decode cX12_brought 91 = .ok (.invokevirtual 462, 3) := by decide +kernel
theorem dX12_brought_94 : decode cX12_brought 94 = .ok (.ior, 1) := by decide +kernel
theorem dX12_brought_95 : decode cX12_brought 95 = .ok (.istore 4, 2) := by decide +kernel
theorem dX12_brought_97 : decode cX12_brought 97 = .ok (.iinc 5 1, 3) := by decide +kernel
theorem dX12_brought_100 : decode cX12_brought 100 = .ok (.goto (-26), 3) := by decide +kernel
theorem dX12_brought_103 : decode cX12_brought 103 = .ok (.goto (-40), 3) := by decide +kernel
theorem dX12_brought_106 : decode cX12_brought 106 = .ok (.aload_n 0, 1) := by decide +kernel
theorem dX12_brought_107 : decode cX12_brought 107 = .ok (.getfield 88, 3) := by decide +kernel
theorem dX12_brought_110 : decode cX12_brought 110 = .ok (.iload_n 3, 1) := by decide +kernel
theorem dX12_brought_111 : decode cX12_brought 111 = .ok (.iaload, 1) := by decide +kernel
theorem dX12_brought_112 : decode cX12_brought 112 = .ok (.ldc 188, 2) := by decide +kernel
theorem dX12_brought_114 : decode cX12_brought 114 = .ok (.if_icmp .ne 8, 3) := by decide +kernel
theorem dX12_brought_117 : decode cX12_brought 117 = .ok (.bipush (-2), 2) := by decide +kernel
theorem dX12_brought_119 : decode cX12_brought 119 = .ok (.goto 9, 3) := by decide +kernel
theorem dX12_brought_122 : decode cX12_brought 122 = .ok (.aload_n 0, 1) := by decide +kernel
theorem dX12_brought_123 : decode cX12_brought 123 = .ok (.getfield 88, 3) := by decide +kernel
theorem dX12_brought_126 : decode cX12_brought 126 = .ok (.iload_n 3, 1) := by decide +kernel
theorem dX12_brought_127 : decode cX12_brought 127 = .ok (.iaload, 1) := by decide +kernel
theorem dX12_brought_128 : decode cX12_brought 128 = .ok (.ireturn, 1) := by decide +kernel
theorem dX12_rider_0 : decode cX12_rider 0 = .ok (.iload_n 1, 1) := by decide +kernel
theorem dX12_rider_1 : decode cX12_rider 1 = .ok (.iconst (-1), 1) := by decide +kernel
theorem dX12_rider_2 : decode cX12_rider 2 = .ok (.if_icmp .ne 13, 3) := by decide +kernel
theorem dX12_rider_5 : decode cX12_rider 5 = .ok (.aload_n 0, 1) := by decide +kernel
theorem dX12_rider_6 : decode cX12_rider 6 = .ok (.getfield 48, 3) := by decide +kernel
theorem dX12_rider_9 : decode cX12_rider 9 = .ok (.bipush 9, 2) := by decide +kernel
theorem dX12_rider_11 : decode cX12_rider 11 = .ok (.iconst 0, 1) := by decide +kernel
theorem dX12_rider_12 : decode cX12_rider 12 = .ok (.iastore, 1) := by decide +kernel
theorem dX12_rider_13 : decode cX12_rider 13 = .ok (.iconst 0, 1) := by decide +kernel
theorem dX12_rider_14 : decode cX12_rider 14 = .ok (.ireturn, 1) := by decide +kernel
theorem dX12_rider_15 : decode cX12_rider 15 = .ok (.iload_n 1, 1) := by decide +kernel
theorem dX12_rider_16 : decode cX12_rider 16 = .ok (.invokestatic 415, 3) := by decide +kernel
theorem dX12_rider_19 : decode cX12_rider 19 = .ok (.ifCond .eq 15, 3) := by decide +kernel
theorem dX12_rider_22 : decode cX12_rider 22 = .ok (.aload_n 0, 1) := by decide +kernel
theorem dX12_rider_23 : decode cX12_rider 23 = .ok (.getfield 48, 3) := by decide +kernel
theorem dX12_rider_26 : decode cX12_rider 26 = .ok (.bipush 9, 2) := by decide +kernel
theorem dX12_rider_28 : decode cX12_rider 28 = .ok (.iaload, 1) := by decide +kernel
theorem dX12_rider_29 : decode cX12_rider 29 = .ok (.bipush 20, 2) := by decide +kernel
theorem dX12_rider_31 : decode cX12_rider 31 = .ok (.if_icmp .ne 6, 3) := by decide +kernel
theorem dX12_rider_34 : decode cX12_rider 34 = .ok (.bipush (-2), 2) := by decide +kernel
theorem dX12_rider_36 : decode cX12_rider 36 = .ok (.ireturn, 1) := by decide +kernel
theorem dX12_rider_37 : decode cX12_rider 37 = .ok (.aload_n 0, 1) := by decide +kernel
theorem dX12_rider_38 : decode cX12_rider 38 = .ok (.getfield 48, 3) := by decide +kernel
theorem dX12_rider_41 : decode cX12_rider 41 = .ok (.sipush 288, 3) := by decide +kernel
theorem dX12_rider_44 : decode cX12_rider 44 = .ok (.aload_n 0, 1) := by decide +kernel
theorem dX12_rider_45 : decode cX12_rider 45 = .ok (.getfield 48, 3) := by decide +kernel
theorem dX12_rider_48 : decode cX12_rider 48 = .ok (.bipush 9, 2) := by decide +kernel
theorem dX12_rider_50 : decode cX12_rider 50 = .ok (.iaload, 1) := by decide +kernel
theorem dX12_rider_51 : decode cX12_rider 51 = .ok (.iadd, 1) := by decide +kernel
theorem dX12_rider_52 : decode cX12_rider 52 = .ok (.iload_n 1, 1) := by decide +kernel
theorem dX12_rider_53 : decode cX12_rider 53 = .ok (.iastore, 1) := by decide +kernel
theorem dX12_rider_54 : decode cX12_rider 54 = .ok (.aload_n 0, 1) := by decide +kernel
theorem dX12_rider_55 : decode cX12_rider 55 = .ok (.getfield 48, 3) := by decide +kernel
theorem dX12_rider_58 : decode cX12_rider 58 = .ok (.bipush 9, 2) := by decide +kernel
theorem dX12_rider_60 : decode cX12_rider 60 = .ok (.dup2, 1) := by decide +kernel
theorem dX12_rider_61 : decode cX12_rider 61 = .ok (.iaload, 1) := by decide +kernel
theorem dX12_rider_62 : decode cX12_rider 62 = .ok (.iconst 1, 1) := by decide +kernel
theorem dX12_rider_63 : decode cX12_rider 63 = .ok (.iadd, 1) := by decide +kernel
theorem dX12_rider_64 : decode cX12_rider 64 = .ok (.iastore, 1) := by decide +kernel
theorem dX12_rider_65 : decode cX12_rider 65 = .ok (.aload_n 0, 1) := by decide +kernel
theorem dX12_rider_66 : decode cX12_rider 66 = .ok (.getfield 48, 3) := by decide +kernel
theorem dX12_rider_69 : decode cX12_rider 69 = .ok (.bipush 9, 2) := by decide +kernel
theorem dX12_rider_71 : decode cX12_rider 71 = .ok (.iaload, 1) := by decide +kernel
theorem dX12_rider_72 : decode cX12_rider 72 = .ok (.ireturn, 1) := by decide +kernel
theorem dX12_nextRider_0 : decode cX12_nextRider 0 = .ok (.iconst (-1), 1) := by decide +kernel
theorem dX12_nextRider_1 : decode cX12_nextRider 1 = .ok (.istore_n 1, 1) := by decide +kernel
theorem dX12_nextRider_2 : decode cX12_nextRider 2 = .ok (.iconst 0, 1) := by decide +kernel
theorem dX12_nextRider_3 : decode cX12_nextRider 3 = .ok (.istore_n 2, 1) := by decide +kernel
theorem dX12_nextRider_4 : decode cX12_nextRider 4 = .ok (.iload_n 2, 1) := by decide +kernel
theorem dX12_nextRider_5 : decode cX12_nextRider 5 = .ok (.aload_n 0, 1) := by decide +kernel
theorem dX12_nextRider_6 : decode cX12_nextRider 6 = .ok (.getfield 48, 3) := by decide +kernel
theorem dX12_nextRider_9 : decode cX12_nextRider 9 = .ok (.bipush 9, 2) := by decide +kernel
theorem dX12_nextRider_11 : decode cX12_nextRider 11 = .ok (.iaload, 1) := by decide +kernel
theorem dX12_nextRider_12 : decode cX12_nextRider 12 = .ok (.if_icmp .ge 48, 3) := by decide +kernel
theorem dX12_nextRider_15 : decode cX12_nextRider 15 = .ok (.aload_n 0, 1) := by decide +kernel
theorem dX12_nextRider_16 : decode cX12_nextRider 16 = .ok (.getfield 91, 3) := by decide +kernel
theorem dX12_nextRider_19 : decode cX12_nextRider 19 = .ok (.iload_n 2, 1) := by decide +kernel
theorem dX12_nextRider_20 : decode cX12_nextRider 20 = .ok (.iaload, 1) := by decide +kernel
theorem dX12_nextRider_21 : decode cX12_nextRider 21 = .ok (.iconst (-1), 1) := by decide +kernel
theorem dX12_nextRider_22 : decode cX12_nextRider 22 = .ok (.if_icmp .ne 32, 3) := by decide +kernel
theorem dX12_nextRider_25 : decode cX12_nextRider 25 = .ok (.iload_n 1, 1) := by decide +kernel
theorem dX12_nextRider_26 : decode cX12_nextRider 26 = .ok (.ifCond .lt 26, 3) := by decide +kernel
theorem dX12_nextRider_29 : decode cX12_nextRider 29 = .ok (.aload_n 0, 1) := by decide +kernel
theorem dX12_nextRider_30 : decode cX12_nextRider 30 = .ok (.getfield 48, 3) := by decide +kernel
theorem dX12_nextRider_33 : decode cX12_nextRider 33 = .ok (.sipush 288, 3) := by decide +kernel
theorem dX12_nextRider_36 : decode cX12_nextRider 36 = .ok (.iload_n 2, 1) := by decide +kernel
theorem dX12_nextRider_37 : decode cX12_nextRider 37 = .ok (.iadd, 1) := by decide +kernel
theorem dX12_nextRider_38 : decode cX12_nextRider 38 = .ok (.iaload, 1) := by decide +kernel
theorem dX12_nextRider_39 : decode cX12_nextRider 39 = .ok (.aload_n 0, 1) := by decide +kernel
theorem dX12_nextRider_40 : decode cX12_nextRider 40 = .ok (.getfield 48, 3) := by decide +kernel
theorem dX12_nextRider_43 : decode cX12_nextRider 43 = .ok (.sipush 288, 3) := by decide +kernel
theorem dX12_nextRider_46 : decode cX12_nextRider 46 = .ok (.iload_n 1, 1) := by decide +kernel
theorem dX12_nextRider_47 : decode cX12_nextRider 47 = .ok (.iadd, 1) := by decide +kernel
theorem dX12_nextRider_48 : decode cX12_nextRider 48 = .ok (.iaload, 1) := by decide +kernel
theorem dX12_nextRider_49 : decode cX12_nextRider 49 = .ok (.if_icmp .ge 5, 3) := by decide +kernel
theorem dX12_nextRider_52 : decode cX12_nextRider 52 = .ok (.iload_n 2, 1) := by decide +kernel
theorem dX12_nextRider_53 : decode cX12_nextRider 53 = .ok (.istore_n 1, 1) := by decide +kernel
theorem dX12_nextRider_54 : decode cX12_nextRider 54 = .ok (.iinc 2 1, 3) := by decide +kernel
theorem dX12_nextRider_57 : decode cX12_nextRider 57 = .ok (.goto (-53), 3) := by decide +kernel
theorem dX12_nextRider_60 : decode cX12_nextRider 60 = .ok (.iload_n 1, 1) := by decide +kernel
theorem dX12_nextRider_61 : decode cX12_nextRider 61 = .ok (.ireturn, 1) := by decide +kernel
theorem dX12_ridesIn_0 : decode cX12_ridesIn 0 = .ok (.iconst 0, 1) := by decide +kernel
theorem dX12_ridesIn_1 : decode cX12_ridesIn 1 = .ok (.istore_n 2, 1) := by decide +kernel
theorem dX12_ridesIn_2 : decode cX12_ridesIn 2 = .ok (.iconst 0, 1) := by decide +kernel
theorem dX12_ridesIn_3 : decode cX12_ridesIn 3 = .ok (.istore_n 3, 1) := by decide +kernel
theorem dX12_ridesIn_4 : decode cX12_ridesIn 4 = .ok (.iload_n 3, 1) := by decide +kernel
theorem dX12_ridesIn_5 : decode cX12_ridesIn 5 = .ok (.aload_n 0, 1) := by decide +kernel
theorem dX12_ridesIn_6 : decode cX12_ridesIn 6 = .ok (.getfield 48, 3) := by decide +kernel
theorem dX12_ridesIn_9 : decode cX12_ridesIn 9 = .ok (.bipush 9, 2) := by decide +kernel
theorem dX12_ridesIn_11 : decode cX12_ridesIn 11 = .ok (.iaload, 1) := by decide +kernel
theorem dX12_ridesIn_12 : decode cX12_ridesIn 12 = .ok (.if_icmp .ge 27, 3) := by decide +kernel
theorem dX12_ridesIn_15 : decode cX12_ridesIn 15 = .ok (.iload_n 2, 1) := by decide +kernel
theorem dX12_ridesIn_16 : decode cX12_ridesIn 16 = .ok (.aload_n 0, 1) := by decide +kernel
theorem dX12_ridesIn_17 : decode cX12_ridesIn 17 = .ok (.getfield 91, 3) := by decide +kernel
theorem dX12_ridesIn_20 : decode cX12_ridesIn 20 = .ok (.iload_n 3, 1) := by decide +kernel
theorem dX12_ridesIn_21 : decode cX12_ridesIn 21 = .ok (.iaload, 1) := by decide +kernel
theorem dX12_ridesIn_22 : decode cX12_ridesIn 22 = .ok (.iload_n 1, 1) := by decide +kernel
theorem dX12_ridesIn_23 : decode cX12_ridesIn 23 = .ok (.if_icmp .ne 7, 3) := by decide +kernel
theorem dX12_ridesIn_26 : decode cX12_ridesIn 26 = .ok (.iconst 1, 1) := by decide +kernel
theorem dX12_ridesIn_27 : decode cX12_ridesIn 27 = .ok (.goto 4, 3) := by decide +kernel
theorem dX12_ridesIn_30 : decode cX12_ridesIn 30 = .ok (.iconst 0, 1) := by decide +kernel
theorem dX12_ridesIn_31 : decode cX12_ridesIn 31 = .ok (.iadd, 1) := by decide +kernel
theorem dX12_ridesIn_32 : decode cX12_ridesIn 32 = .ok (.istore_n 2, 1) := by decide +kernel
theorem dX12_ridesIn_33 : decode cX12_ridesIn 33 = .ok (.iinc 3 1, 3) := by decide +kernel
theorem dX12_ridesIn_36 : decode cX12_ridesIn 36 = .ok (.goto (-32), 3) := by decide +kernel
theorem dX12_ridesIn_39 : decode cX12_ridesIn 39 = .ok (.iload_n 2, 1) := by decide +kernel
theorem dX12_ridesIn_40 : decode cX12_ridesIn 40 = .ok (.ireturn, 1) := by decide +kernel
theorem dX12_rides_0 : decode cX12_rides 0 = .ok (.aload_n 0, 1) := by decide +kernel
theorem dX12_rides_1 : decode cX12_rides 1 = .ok (.getfield 48, 3) := by decide +kernel
theorem dX12_rides_4 : decode cX12_rides 4 = .ok (.iconst 4, 1) := by decide +kernel
theorem dX12_rides_5 : decode cX12_rides 5 = .ok (.iaload, 1) := by decide +kernel
theorem dX12_rides_6 : decode cX12_rides 6 = .ok (.ifCond .eq 32, 3) := by decide +kernel
theorem dX12_rides_9 : decode cX12_rides 9 = .ok (.iload_n 1, 1) := by decide +kernel
theorem dX12_rides_10 : decode cX12_rides 10 = .ok (.i2l, 1) := by decide +kernel
theorem dX12_rides_11 : decode cX12_rides 11 = .ok (.lconst 0, 1) := by decide +kernel
theorem dX12_rides_12 : decode cX12_rides 12 = .ok (.ldc2_w 465, 3) := by decide +kernel
theorem dX12_rides_15 : decode cX12_rides 15 = .ok (.invokestatic 148, 3) := by decide +kernel
theorem dX12_rides_18 : decode cX12_rides 18 = .ok (.ifCond .eq 20, 3) := by decide +kernel
theorem dX12_rides_21 : decode cX12_rides 21 = .ok (.iload_n 1, 1) := by decide +kernel
theorem dX12_rides_22 : decode cX12_rides 22 = .ok (.bipush 20, 2) := by decide +kernel
theorem dX12_rides_24 : decode cX12_rides 24 = .ok (.if_icmp .ge 16, 3) := by decide +kernel
theorem dX12_rides_27 : decode cX12_rides 27 = .ok (.iload_n 1, 1) := by decide +kernel
theorem dX12_rides_28 : decode cX12_rides 28 = .ok (.aload_n 0, 1) := by decide +kernel
theorem dX12_rides_29 : decode cX12_rides 29 = .ok (.getfield 48, 3) := by decide +kernel
theorem dX12_rides_32 : decode cX12_rides 32 = .ok (.bipush 9, 2) := by decide +kernel
theorem dX12_rides_34 : decode cX12_rides 34 = .ok (.iaload, 1) := by decide +kernel
theorem dX12_rides_35 : decode cX12_rides 35 = .ok (.if_icmp .lt 5, 3) := by decide +kernel
theorem dX12_rides_38 : decode cX12_rides 38 = .ok (.iconst (-1), 1) := by decide +kernel
theorem dX12_rides_39 : decode cX12_rides 39 = .ok (.ireturn, 1) := by decide +kernel
theorem dX12_rides_40 : decode cX12_rides 40 = .ok (.iconst 0, 1) := by decide +kernel
theorem dX12_rides_41 : decode cX12_rides 41 = .ok (.istore_n 2, 1) := by decide +kernel
theorem dX12_rides_42 : decode cX12_rides 42 = .ok (.iload_n 2, 1) := by decide +kernel
theorem dX12_rides_43 : decode cX12_rides 43 = .ok (.aload_n 0, 1) := by decide +kernel
theorem dX12_rides_44 : decode cX12_rides 44 = .ok (.getfield 48, 3) := by decide +kernel
theorem dX12_rides_47 : decode cX12_rides 47 = .ok (.bipush 9, 2) := by decide +kernel
theorem dX12_rides_49 : decode cX12_rides 49 = .ok (.iaload, 1) := by decide +kernel
theorem dX12_rides_50 : decode cX12_rides 50 = .ok (.if_icmp .ge 16, 3) := by decide +kernel
theorem dX12_rides_53 : decode cX12_rides 53 = .ok (.aload_n 0, 1) := by decide +kernel
theorem dX12_rides_54 : decode cX12_rides 54 = .ok (.getfield 91, 3) := by decide +kernel
theorem dX12_rides_57 : decode cX12_rides 57 = .ok (.iload_n 2, 1) := by decide +kernel
theorem dX12_rides_58 : decode cX12_rides 58 = .ok (.iconst (-1), 1) := by decide +kernel
theorem dX12_rides_59 : decode cX12_rides 59 = .ok (.iastore, 1) := by decide +kernel
theorem dX12_rides_60 : decode cX12_rides 60 = .ok (.iinc 2 1, 3) := by decide +kernel
theorem dX12_rides_63 : decode cX12_rides 63 = .ok (.goto (-21), 3) := by decide +kernel
theorem dX12_rides_66 : decode cX12_rides 66 = .ok (.bipush (-2), 2) := by decide +kernel
theorem dX12_rides_68 : decode cX12_rides 68 = .ok (.istore_n 2, 1) := by decide +kernel
theorem dX12_rides_69 : decode cX12_rides 69 = .ok (.iconst 0, 1) := by decide +kernel
theorem dX12_rides_70 : decode cX12_rides 70 = .ok (.istore_n 3, 1) := by decide +kernel
theorem dX12_rides_71 : decode cX12_rides 71 = .ok (.iload_n 3, 1) := by decide +kernel
theorem dX12_rides_72 : decode cX12_rides 72 = .ok (.aload_n 0, 1) := by decide +kernel
theorem dX12_rides_73 : decode cX12_rides 73 = .ok (.getfield 48, 3) := by decide +kernel
theorem dX12_rides_76 : decode cX12_rides 76 = .ok (.bipush 9, 2) := by decide +kernel
theorem dX12_rides_78 : decode cX12_rides 78 = .ok (.iaload, 1) := by decide +kernel
theorem dX12_rides_79 : decode cX12_rides 79 = .ok (.if_icmp .ge 120, 3) := by decide +kernel
theorem dX12_rides_82 : decode cX12_rides 82 = .ok (.aload_n 0, 1) := by decide +kernel
theorem dX12_rides_83 : decode cX12_rides 83 = .ok (.invokevirtual 467, 3) := by decide +kernel
theorem dX12_rides_86 : decode cX12_rides 86 = .ok (.istore 4, 2) := by decide +kernel
theorem dX12_rides_88 : decode cX12_rides 88 = .ok (.aload_n 0, 1) := by decide +kernel
theorem dX12_rides_89 : decode cX12_rides 89 = .ok (.getfield 48, 3) := by decide +kernel
theorem dX12_rides_92 : decode cX12_rides 92 = .ok (.sipush 288, 3) := by decide +kernel
theorem dX12_rides_95 : decode cX12_rides 95 = .ok (.iload 4, 2) := by decide +kernel
theorem dX12_rides_97 : decode cX12_rides 97 = .ok (.iadd, 1) := by decide +kernel
theorem dX12_rides_98 : decode cX12_rides 98 = .ok (.iaload, 1) := by decide +kernel
theorem dX12_rides_99 : decode cX12_rides 99 = .ok (.aload_n 0, 1) := by decide +kernel
theorem dX12_rides_100 : decode cX12_rides 100 = .ok (.getfield 48, 3) := by decide +kernel
theorem dX12_rides_103 : decode cX12_rides 103 = .ok (.bipush 6, 2) := by decide +kernel
theorem dX12_rides_105 : decode cX12_rides 105 = .ok (.iaload, 1) := by decide +kernel
theorem dX12_rides_106 : decode cX12_rides 106 = .ok (.iadd, 1) := by decide +kernel
theorem dX12_rides_107 : decode cX12_rides 107 = .ok (.iconst 1, 1) := by decide +kernel
theorem dX12_rides_108 : decode cX12_rides 108 = .ok (.isub, 1) := by decide +kernel
theorem dX12_rides_109 : decode cX12_rides 109 = .ok (.aload_n 0, 1) := by decide +kernel
theorem dX12_rides_110 : decode cX12_rides 110 = .ok (.getfield 48, 3) := by decide +kernel
theorem dX12_rides_113 : decode cX12_rides 113 = .ok (.bipush 6, 2) := by decide +kernel
theorem dX12_rides_115 : decode cX12_rides 115 = .ok (.iaload, 1) := by decide +kernel
theorem dX12_rides_116 : decode cX12_rides 116 = .ok (.idiv, 1) := by decide +kernel
theorem dX12_rides_117 : decode cX12_rides 117 = .ok (.aload_n 0, 1) := by decide +kernel
theorem dX12_rides_118 : decode cX12_rides 118 = .ok (.getfield 48, 3) := by decide +kernel
theorem dX12_rides_121 : decode cX12_rides 121 = .ok (.bipush 6, 2) := by decide +kernel
theorem dX12_rides_123 : decode cX12_rides 123 = .ok (.iaload, 1) := by decide +kernel
theorem dX12_rides_124 : decode cX12_rides 124 = .ok (.imul, 1) := by decide +kernel
theorem dX12_rides_125 : decode cX12_rides 125 = .ok (.istore 5, 2) := by decide +kernel
theorem dX12_rides_127 : decode cX12_rides 127 = .ok (.aload_n 0, 1) := by decide +kernel
theorem dX12_rides_128 : decode cX12_rides 128 = .ok (.iload 5, 2) := by decide +kernel
theorem dX12_rides_130 : decode cX12_rides 130 = .ok (.invokevirtual 470, 3) := by decide +kernel
theorem dX12_rides_133 : decode cX12_rides 133 = .ok (.aload_n 0, 1) := by decide +kernel
theorem dX12_rides_134 : decode cX12_rides 134 = .ok (.getfield 48, 3) := by decide +kernel
theorem dX12_rides_137 : decode cX12_rides 137 = .ok (.iconst 5, 1) := by decide +kernel
theorem dX12_rides_138 : decode cX12_rides 138 = .ok (.iaload, 1) := by decide +kernel
theorem dX12_rides_139 : decode cX12_rides 139 = .ok (.if_icmp .ne 18, 3) := by decide +kernel
theorem dX12_rides_142 : decode cX12_rides 142 = .ok (.iload 5, 2) := by decide +kernel
theorem dX12_rides_144 : decode cX12_rides 144 = .ok (.aload_n 0, 1) := by decide +kernel
theorem dX12_rides_145 : decode cX12_rides 145 = .ok (.getfield 48, 3) := by decide +kernel
theorem dX12_rides_148 : decode cX12_rides 148 = .ok (.bipush 6, 2) := by decide +kernel
theorem dX12_rides_150 : decode cX12_rides 150 = .ok (.iaload, 1) := by decide +kernel
theorem dX12_rides_151 : decode cX12_rides 151 = .ok (.iadd, 1) := by decide +kernel
theorem dX12_rides_152 : decode cX12_rides 152 = .ok (.istore 5, 2) := by decide +kernel
theorem dX12_rides_154 : decode cX12_rides 154 = .ok (.goto (-27), 3) := by decide +kernel
theorem dX12_rides_157 : decode cX12_rides 157 = .ok (.aload_n 0, 1) := by decide +kernel
theorem dX12_rides_158 : decode cX12_rides 158 = .ok (.getfield 91, 3) := by decide +kernel
theorem dX12_rides_161 : decode cX12_rides 161 = .ok (.iload 4, 2) := by decide +kernel
theorem dX12_rides_163 : decode cX12_rides 163 = .ok (.iload 5, 2) := by decide +kernel
theorem dX12_rides_165 : decode cX12_rides 165 = .ok (.iastore, 1) := by decide +kernel
theorem dX12_rides_166 : decode cX12_rides 166 = .ok (.iload 5, 2) := by decide +kernel
theorem dX12_rides_168 : decode cX12_rides 168 = .ok (.sipush 1439, 3) := by decide +kernel
theorem dX12_rides_171 : decode cX12_rides 171 = .ok (.if_icmp .gt 22, 3) := by decide +kernel
theorem dX12_rides_174 : decode cX12_rides 174 = .ok (.iload_n 2, 1) := by decide +kernel
theorem dX12_rides_175 : decode cX12_rides 175 = .ok (.iload 5, 2) := by decide +kernel
theorem dX12_rides_177 : decode cX12_rides 177 = .ok (.aload_n 0, 1) := by decide +kernel
theorem dX12_rides_178 : decode cX12_rides 178 = .ok (.getfield 48, 3) := by decide +kernel
theorem dX12_rides_181 : decode cX12_rides 181 = .ok (.sipush 288, 3) := by decide +kernel
theorem dX12_rides_184 : decode cX12_rides 184 = .ok (.iload 4, 2) := by decide +kernel
theorem dX12_rides_186 : decode cX12_rides 186 = .ok (.iadd, 1) := by decide +kernel
theorem dX12_rides_187 : decode cX12_rides 187 = .ok (.iaload, 1) := by decide +kernel
theorem dX12_rides_188 : decode cX12_rides 188 = .ok (.isub, 1) := by decide +kernel
theorem dX12_rides_189 : decode cX12_rides 189 = .ok (.invokestatic 404, 3) := by decide +kernel
theorem dX12_rides_192 : decode cX12_rides 192 = .ok (.istore_n 2, 1) := by decide +kernel
theorem dX12_rides_193 : decode cX12_rides 193 = .ok (.iinc 3 1, 3) := by decide +kernel
theorem dX12_rides_196 : decode cX12_rides 196 = .ok (.goto (-125), 3) := by decide +kernel
theorem dX12_rides_199 : decode cX12_rides 199 = .ok (.iload_n 1, 1) := by decide +kernel
theorem dX12_rides_200 : decode cX12_rides 200 = .ok (.bipush 20, 2) := by decide +kernel
theorem dX12_rides_202 : decode cX12_rides 202 = .ok (.if_icmp .ne 7, 3) := by decide +kernel
theorem dX12_rides_205 : decode cX12_rides 205 = .ok (.iload_n 2, 1) := by decide +kernel
theorem dX12_rides_206 : decode cX12_rides 206 = .ok (.goto 26, 3) := by decide +kernel
theorem dX12_rides_209 : decode cX12_rides 209 = .ok (.aload_n 0, 1) := by decide +kernel
theorem dX12_rides_210 : decode cX12_rides 210 = .ok (.getfield 91, 3) := by decide +kernel
theorem dX12_rides_213 : decode cX12_rides 213 = .ok (.iload_n 1, 1) := by decide +kernel
theorem dX12_rides_214 : decode cX12_rides 214 = .ok (.iaload, 1) := by decide +kernel
theorem dX12_rides_215 : decode cX12_rides 215 = .ok (.sipush 1439, 3) := by decide +kernel
theorem dX12_rides_218 : decode cX12_rides 218 = .ok (.if_icmp .le 8, 3) := by decide +kernel
theorem dX12_rides_221 : decode cX12_rides 221 = .ok (.bipush (-2), 2) := by decide +kernel
theorem dX12_rides_223 : decode cX12_rides 223 = .ok (.goto 9, 3) := by decide +kernel
theorem dX12_rides_226 : decode cX12_rides 226 = .ok (.aload_n 0, 1) := by decide +kernel
theorem dX12_rides_227 : decode cX12_rides 227 = .ok (.getfield 91, 3) := by decide +kernel
theorem dX12_rides_230 : decode cX12_rides 230 = .ok (.iload_n 1, 1) := by decide +kernel
theorem dX12_rides_231 : decode cX12_rides 231 = .ok (.iaload, 1) := by decide +kernel
theorem dX12_rides_232 : decode cX12_rides 232 = .ok (.ireturn, 1) := by decide +kernel
theorem dX12_customer_0 : decode cX12_customer 0 = .ok (.iload_n 1, 1) := by decide +kernel
theorem dX12_customer_1 : decode cX12_customer 1 = .ok (.iconst (-1), 1) := by decide +kernel
theorem dX12_customer_2 : decode cX12_customer 2 = .ok (.if_icmp .ne 13, 3) := by decide +kernel
theorem dX12_customer_5 : decode cX12_customer 5 = .ok (.aload_n 0, 1) := by decide +kernel
theorem dX12_customer_6 : decode cX12_customer 6 = .ok (.getfield 48, 3) := by decide +kernel
theorem dX12_customer_9 : decode cX12_customer 9 = .ok (.bipush 10, 2) := by decide +kernel
theorem dX12_customer_11 : decode cX12_customer 11 = .ok (.iconst 0, 1) := by decide +kernel
theorem dX12_customer_12 : decode cX12_customer 12 = .ok (.iastore, 1) := by decide +kernel
theorem dX12_customer_13 : decode cX12_customer 13 = .ok (.iconst 0, 1) := by decide +kernel
theorem dX12_customer_14 : decode cX12_customer 14 = .ok (.ireturn, 1) := by decide +kernel
theorem dX12_customer_15 : decode cX12_customer 15 = .ok (.aload_n 0, 1) := by decide +kernel
theorem dX12_customer_16 : decode cX12_customer 16 = .ok (.getfield 48, 3) := by decide +kernel
theorem dX12_customer_19 : decode cX12_customer 19 = .ok (.bipush 10, 2) := by decide +kernel
theorem dX12_customer_21 : decode cX12_customer 21 = .ok (.iaload, 1) := by decide +kernel
theorem dX12_customer_22 : decode cX12_customer 22 = .ok (.bipush 10, 2) := by decide +kernel
theorem dX12_customer_24 : decode cX12_customer 24 = .ok (.if_icmp .eq 32, 3) := by decide +kernel
theorem dX12_customer_27 : decode cX12_customer 27 = .ok (.iload_n 1, 1) := by decide +kernel
theorem dX12_customer_28 : decode cX12_customer 28 = .ok (.i2l, 1) := by decide +kernel
theorem dX12_customer_29 : decode cX12_customer 29 = .ok (.lconst 0, 1) := by decide +kernel
theorem dX12_customer_30 : decode cX12_customer 30 = .ok (.ldc2_w 339, 3) := by decide +kernel
theorem dX12_customer_33 : decode cX12_customer 33 = .ok (.invokestatic 148, 3) := by decide +kernel
theorem dX12_customer_36 : decode cX12_customer 36 = .ok (.ifCond .eq 20, 3) := by decide +kernel
theorem dX12_customer_39 : decode cX12_customer 39 = .ok (.iload_n 2, 1) := by decide +kernel
theorem dX12_customer_40 : decode cX12_customer 40 = .ok (.i2l, 1) := by decide +kernel
theorem dX12_customer_41 : decode cX12_customer 41 = .ok (.lconst 0, 1) := by decide +kernel
theorem dX12_customer_42 : decode cX12_customer 42 = .ok (.ldc2_w 339, 3) := by decide +kernel
theorem dX12_customer_45 : decode cX12_customer 45 = .ok (.invokestatic 148, 3) := by decide +kernel
theorem dX12_customer_48 : decode cX12_customer 48 = .ok (.ifCond .eq 8, 3) := by decide +kernel
theorem dX12_customer_51 : decode cX12_customer 51 = .ok (.iload_n 1, 1) := by decide +kernel
theorem dX12_customer_52 : decode cX12_customer 52 = .ok (.iload_n 2, 1) := by decide +kernel
theorem dX12_customer_53 : decode cX12_customer 53 = .ok (.if_icmp .ne 6, 3) := by decide +kernel
theorem dX12_customer_56 : decode cX12_customer 56 = .ok (.bipush (-2), 2) := by decide +kernel
theorem dX12_customer_58 : decode cX12_customer 58 = .ok (.ireturn, 1) := by decide +kernel
theorem dX12_customer_59 : decode cX12_customer 59 = .ok (.aload_n 0, 1) := by decide +kernel
theorem dX12_customer_60 : decode cX12_customer 60 = .ok (.getfield 48, 3) := by decide +kernel
theorem dX12_customer_63 : decode cX12_customer 63 = .ok (.sipush 308, 3) := by decide +kernel
theorem dX12_customer_66 : decode cX12_customer 66 = .ok (.iconst 2, 1) := by decide +kernel
theorem dX12_customer_67 : decode cX12_customer 67 = .ok (.aload_n 0, 1) := by decide +kernel
theorem dX12_customer_68 : decode cX12_customer 68 = .ok (.getfield 48, 3) := by decide +kernel
theorem dX12_customer_71 : decode cX12_customer 71 = .ok (.bipush 10, 2) := by decide +kernel
theorem dX12_customer_73 : decode cX12_customer 73 = .ok (.iaload, 1) := by decide +kernel
theorem dX12_customer_74 : decode cX12_customer 74 = .ok (.imul, 1) := by decide +kernel
theorem dX12_customer_75 : decode cX12_customer 75 = .ok (.iadd, 1) := by decide +kernel
theorem dX12_customer_76 : decode cX12_customer 76 = .ok (.iload_n 1, 1) := by decide +kernel
theorem dX12_customer_77 : decode cX12_customer 77 = .ok (.iastore, 1) := by decide +kernel
theorem dX12_customer_78 : decode cX12_customer 78 = .ok (.aload_n 0, 1) := by decide +kernel
theorem dX12_customer_79 : decode cX12_customer 79 = .ok (.getfield 48, 3) := by decide +kernel
theorem dX12_customer_82 : decode cX12_customer 82 = .ok (.sipush 308, 3) := by decide +kernel
theorem dX12_customer_85 : decode cX12_customer 85 = .ok (.iconst 2, 1) := by decide +kernel
theorem dX12_customer_86 : decode cX12_customer 86 = .ok (.aload_n 0, 1) := by decide +kernel
theorem dX12_customer_87 : decode cX12_customer 87 = .ok (.getfield 48, 3) := by decide +kernel
theorem dX12_customer_90 : decode cX12_customer 90 = .ok (.bipush 10, 2) := by decide +kernel
theorem dX12_customer_92 : decode cX12_customer 92 = .ok (.iaload, 1) := by decide +kernel
theorem dX12_customer_93 : decode cX12_customer 93 = .ok (.imul, 1) := by decide +kernel
theorem dX12_customer_94 : decode cX12_customer 94 = .ok (.iadd, 1) := by decide +kernel
theorem dX12_customer_95 : decode cX12_customer 95 = .ok (.iconst 1, 1) := by decide +kernel
theorem dX12_customer_96 : decode cX12_customer 96 = .ok (.iadd, 1) := by decide +kernel
theorem dX12_customer_97 : decode cX12_customer 97 = .ok (.iload_n 2, 1) := by decide +kernel
theorem dX12_customer_98 : decode cX12_customer 98 = .ok (.iastore, 1) := by decide +kernel
theorem dX12_customer_99 : decode cX12_customer 99 = .ok (.aload_n 0, 1) := by decide +kernel
theorem dX12_customer_100 : decode cX12_customer 100 = .ok (.getfield 48, 3) := by decide +kernel
theorem dX12_customer_103 : decode cX12_customer 103 = .ok (.bipush 10, 2) := by decide +kernel
theorem dX12_customer_105 : decode cX12_customer 105 = .ok (.dup2, 1) := by decide +kernel
theorem dX12_customer_106 : decode cX12_customer 106 = .ok (.iaload, 1) := by decide +kernel
theorem dX12_customer_107 : decode cX12_customer 107 = .ok (.iconst 1, 1) := by decide +kernel
theorem dX12_customer_108 : decode cX12_customer 108 = .ok (.iadd, 1) := by decide +kernel
theorem dX12_customer_109 : decode cX12_customer 109 = .ok (.iastore, 1) := by decide +kernel
theorem dX12_customer_110 : decode cX12_customer 110 = .ok (.aload_n 0, 1) := by decide +kernel
theorem dX12_customer_111 : decode cX12_customer 111 = .ok (.getfield 48, 3) := by decide +kernel
theorem dX12_customer_114 : decode cX12_customer 114 = .ok (.bipush 10, 2) := by decide +kernel
theorem dX12_customer_116 : decode cX12_customer 116 = .ok (.iaload, 1) := by decide +kernel
theorem dX12_customer_117 : decode cX12_customer 117 = .ok (.ireturn, 1) := by decide +kernel
theorem dX12_isOrder_0 : decode cX12_isOrder 0 = .ok (.iload_n 1, 1) := by decide +kernel
theorem dX12_isOrder_1 : decode cX12_isOrder 1 = .ok (.istore_n 3, 1) := by decide +kernel
theorem dX12_isOrder_2 : decode cX12_isOrder 2 = .ok (.iconst 0, 1) := by decide +kernel
theorem dX12_isOrder_3 : decode cX12_isOrder 3 = .ok (.istore 4, 2) := by decide +kernel
theorem dX12_isOrder_5 : decode cX12_isOrder 5 = .ok (.iload_n 2, 1) := by decide +kernel
theorem dX12_isOrder_6 : decode cX12_isOrder 6 = .ok (.iconst 1, 1) := by decide +kernel
theorem dX12_isOrder_7 : decode cX12_isOrder 7 = .ok (.isub, 1) := by decide +kernel
theorem dX12_isOrder_8 : decode cX12_isOrder 8 = .ok (.istore 5, 2) := by decide +kernel
theorem dX12_isOrder_10 : decode cX12_isOrder 10 = .ok (.iload 5, 2) := by decide +kernel
theorem dX12_isOrder_12 : decode cX12_isOrder 12 = .ok (.ifCond .lt 37, 3) := by decide +kernel
theorem dX12_isOrder_15 : decode cX12_isOrder 15 = .ok (.aload_n 0, 1) := by decide +kernel
theorem dX12_isOrder_16 : decode cX12_isOrder 16 = .ok (.getfield 94, 3) := by decide +kernel
theorem dX12_isOrder_19 : decode cX12_isOrder 19 = .ok (.iload 5, 2) := by decide +kernel
theorem dX12_isOrder_21 : decode cX12_isOrder 21 = .ok (.iload_n 3, 1) := by decide +kernel
theorem dX12_isOrder_22 : decode cX12_isOrder 22 = .ok (.iload_n 2, 1) := by decide +kernel
theorem dX12_isOrder_23 : decode cX12_isOrder 23 = .ok (.irem, 1) := by decide +kernel
theorem dX12_isOrder_24 : decode cX12_isOrder 24 = .ok (.iastore, 1) := by decide +kernel
theorem dX12_isOrder_25 : decode cX12_isOrder 25 = .ok (.iload_n 3, 1) := by decide +kernel
theorem dX12_isOrder_26 : decode cX12_isOrder 26 = .ok (.iload_n 2, 1) := by decide +kernel
theorem dX12_isOrder_27 : decode cX12_isOrder 27 = .ok (.idiv, 1) := by decide +kernel
theorem dX12_isOrder_28 : decode cX12_isOrder 28 = .ok (.istore_n 3, 1) := by decide +kernel
theorem dX12_isOrder_29 : decode cX12_isOrder 29 = .ok (.iload 4, 2) := by decide +kernel
theorem dX12_isOrder_31 : decode cX12_isOrder 31 = .ok (.iconst 1, 1) := by decide +kernel
theorem dX12_isOrder_32 : decode cX12_isOrder 32 = .ok (.aload_n 0, 1) := by decide +kernel
theorem dX12_isOrder_33 : decode cX12_isOrder 33 = .ok (.getfield 94, 3) := by decide +kernel
theorem dX12_isOrder_36 : decode cX12_isOrder 36 = .ok (.iload 5, 2) := by decide +kernel
theorem dX12_isOrder_38 : decode cX12_isOrder 38 = .ok (.iaload, 1) := by decide +kernel
theorem dX12_isOrder_39 : decode cX12_isOrder 39 = .ok (.ishl, 1) := by decide +kernel
theorem dX12_isOrder_40 : decode cX12_isOrder 40 = .ok (.ior, 1) := by decide +kernel
theorem dX12_isOrder_41 : decode cX12_isOrder 41 = .ok (.istore 4, 2) := by decide +kernel
theorem dX12_isOrder_43 : decode cX12_isOrder 43 = .ok (.iinc 5 (-1), 3) := by decide +kernel
theorem dX12_isOrder_46 : decode cX12_isOrder 46 = .ok (.goto (-36), 3) := by decide +kernel
theorem dX12_isOrder_49 : decode cX12_isOrder 49 = .ok (.iload 4, 2) := by decide +kernel
theorem dX12_isOrder_51 : decode cX12_isOrder 51 = .ok (.iconst 1, 1) := by decide +kernel
theorem dX12_isOrder_52 : decode cX12_isOrder 52 = .ok (.iload_n 2, 1) := by decide +kernel
theorem dX12_isOrder_53 : decode cX12_isOrder 53 = .ok (.ishl, 1) := by decide +kernel
theorem dX12_isOrder_54 : decode cX12_isOrder 54 = .ok (.iconst 1, 1) := by decide +kernel
theorem dX12_isOrder_55 : decode cX12_isOrder 55 = .ok (.isub, 1) := by decide +kernel
theorem dX12_isOrder_56 : decode cX12_isOrder 56 = .ok (.if_icmp .ne 7, 3) := by decide +kernel
theorem dX12_isOrder_59 : decode cX12_isOrder 59 = .ok (.iconst 1, 1) := by decide +kernel
theorem dX12_isOrder_60 : decode cX12_isOrder 60 = .ok (.goto 4, 3) := by decide +kernel
theorem dX12_isOrder_63 : decode cX12_isOrder 63 = .ok (.iconst 0, 1) := by decide +kernel
theorem dX12_isOrder_64 : decode cX12_isOrder 64 = .ok (.ireturn, 1) := by decide +kernel
theorem dX12_goDown_0 : decode cX12_goDown 0 = .ok (.iconst 0, 1) := by decide +kernel
theorem dX12_goDown_1 : decode cX12_goDown 1 = .ok (.istore_n 2, 1) := by decide +kernel
theorem dX12_goDown_2 : decode cX12_goDown 2 = .ok (.iconst 0, 1) := by decide +kernel
theorem dX12_goDown_3 : decode cX12_goDown 3 = .ok (.istore_n 3, 1) := by decide +kernel
theorem dX12_goDown_4 : decode cX12_goDown 4 = .ok (.iload_n 3, 1) := by decide +kernel
theorem dX12_goDown_5 : decode cX12_goDown 5 = .ok (.aload_n 0, 1) := by decide +kernel
theorem dX12_goDown_6 : decode cX12_goDown 6 = .ok (.getfield 48, 3) := by decide +kernel
theorem dX12_goDown_9 : decode cX12_goDown 9 = .ok (.bipush 10, 2) := by decide +kernel
theorem dX12_goDown_11 : decode cX12_goDown 11 = .ok (.iaload, 1) := by decide +kernel
theorem dX12_goDown_12 : decode cX12_goDown 12 = .ok (.if_icmp .ge 104, 3) := by decide +kernel
theorem dX12_goDown_15 : decode cX12_goDown 15 = .ok (.iconst (-1), 1) := by decide +kernel
theorem dX12_goDown_16 : decode cX12_goDown 16 = .ok (.istore 4, 2) := by decide +kernel
theorem dX12_goDown_18 : decode cX12_goDown 18 = .ok (.iconst (-1), 1) := by decide +kernel
theorem dX12_goDown_19 : decode cX12_goDown 19 = .ok (.istore 5, 2) := by decide +kernel
theorem dX12_goDown_21 : decode cX12_goDown 21 = .ok (.iconst 0, 1) := by decide +kernel
theorem dX12_goDown_22 : decode cX12_goDown 22 = .ok (.istore 6, 2) := by decide +kernel
theorem dX12_goDown_24 : decode cX12_goDown 24 = .ok (.iload 6, 2) := by decide +kernel
theorem dX12_goDown_26 : decode cX12_goDown 26 = .ok (.iload_n 1, 1) := by decide +kernel
theorem dX12_goDown_27 : decode cX12_goDown 27 = .ok (.if_icmp .ge 63, 3) := by decide +kernel
theorem dX12_goDown_30 : decode cX12_goDown 30 = .ok (.aload_n 0, 1) := by decide +kernel
theorem dX12_goDown_31 : decode cX12_goDown 31 = .ok (.getfield 94, 3) := by decide +kernel
theorem dX12_goDown_34 : decode cX12_goDown 34 = .ok (.iload 6, 2) := by decide +kernel
theorem dX12_goDown_36 : decode cX12_goDown 36 = .ok (.iaload, 1) := by decide +kernel
theorem dX12_goDown_37 : decode cX12_goDown 37 = .ok (.aload_n 0, 1) := by decide +kernel
theorem dX12_goDown_38 : decode cX12_goDown 38 = .ok (.getfield 48, 3) := by decide +kernel
theorem dX12_goDown_41 : decode cX12_goDown 41 = .ok (.sipush 308, 3) := by decide +kernel
theorem dX12_goDown_44 : decode cX12_goDown 44 = .ok (.iconst 2, 1) := by decide +kernel
theorem dX12_goDown_45 : decode cX12_goDown 45 = .ok (.iload_n 3, 1) := by decide +kernel
theorem dX12_goDown_46 : decode cX12_goDown 46 = .ok (.imul, 1) := by decide +kernel
theorem dX12_goDown_47 : decode cX12_goDown 47 = .ok (.iadd, 1) := by decide +kernel
theorem dX12_goDown_48 : decode cX12_goDown 48 = .ok (.iaload, 1) := by decide +kernel
theorem dX12_goDown_49 : decode cX12_goDown 49 = .ok (.if_icmp .ne 7, 3) := by decide +kernel
theorem dX12_goDown_52 : decode cX12_goDown 52 = .ok (.iload 6, 2) := by decide +kernel
theorem dX12_goDown_54 : decode cX12_goDown 54 = .ok (.istore 4, 2) := by decide +kernel
theorem dX12_goDown_56 : decode cX12_goDown 56 = .ok (.aload_n 0, 1) := by decide +kernel
theorem dX12_goDown_57 : decode cX12_goDown 57 = .ok (.getfield 94, 3) := by decide +kernel
theorem dX12_goDown_60 : decode cX12_goDown 60 = .ok (.iload 6, 2) := by decide +kernel
theorem dX12_goDown_62 : decode cX12_goDown 62 = .ok (.iaload, 1) := by decide +kernel
theorem dX12_goDown_63 : decode cX12_goDown 63 = .ok (.aload_n 0, 1) := by decide +kernel
theorem dX12_goDown_64 : decode cX12_goDown 64 = .ok (.getfield 48, 3) := by decide +kernel
theorem dX12_goDown_67 : decode cX12_goDown 67 = .ok (.sipush 308, 3) := by decide +kernel
theorem dX12_goDown_70 : decode cX12_goDown 70 = .ok (.iconst 2, 1) := by decide +kernel
theorem dX12_goDown_71 : decode cX12_goDown 71 = .ok (.iload_n 3, 1) := by decide +kernel
theorem dX12_goDown_72 : decode cX12_goDown 72 = .ok (.imul, 1) := by decide +kernel
theorem dX12_goDown_73 : decode cX12_goDown 73 = .ok (.iadd, 1) := by decide +kernel
theorem dX12_goDown_74 : decode cX12_goDown 74 = .ok (.iconst 1, 1) := by decide +kernel
theorem dX12_goDown_75 : decode cX12_goDown 75 = .ok (.iadd, 1) := by decide +kernel
theorem dX12_goDown_76 : decode cX12_goDown 76 = .ok (.iaload, 1) := by decide +kernel
theorem dX12_goDown_77 : decode cX12_goDown 77 = .ok (.if_icmp .ne 7, 3) := by decide +kernel
theorem dX12_goDown_80 : decode cX12_goDown 80 = .ok (.iload 6, 2) := by decide +kernel
theorem dX12_goDown_82 : decode cX12_goDown 82 = .ok (.istore 5, 2) := by decide +kernel
theorem dX12_goDown_84 : decode cX12_goDown 84 = .ok (.iinc 6 1, 3) := by decide +kernel
theorem dX12_goDown_87 : decode cX12_goDown 87 = .ok (.goto (-63), 3) := by decide +kernel
theorem dX12_goDown_90 : decode cX12_goDown 90 = .ok (.iload_n 2, 1) := by decide +kernel
theorem dX12_goDown_91 : decode cX12_goDown 91 = .ok (.iload 4, 2) := by decide +kernel
theorem dX12_goDown_93 : decode cX12_goDown 93 = .ok (.ifCond .lt 14, 3) := by decide +kernel
theorem dX12_goDown_96 : decode cX12_goDown 96 = .ok (.iload 5, 2) := by decide +kernel
theorem dX12_goDown_98 : decode cX12_goDown 98 = .ok (.iload 4, 2) := by decide +kernel
theorem dX12_goDown_100 : decode cX12_goDown 100 = .ok (.if_icmp .le 7, 3) := by decide +kernel
theorem dX12_goDown_103 : decode cX12_goDown 103 = .ok (.iconst 1, 1) := by decide +kernel
theorem dX12_goDown_104 : decode cX12_goDown 104 = .ok (.goto 4, 3) := by decide +kernel
theorem dX12_goDown_107 : decode cX12_goDown 107 = .ok (.iconst 0, 1) := by decide +kernel
theorem dX12_goDown_108 : decode cX12_goDown 108 = .ok (.iadd, 1) := by decide +kernel
theorem dX12_goDown_109 : decode cX12_goDown 109 = .ok (.istore_n 2, 1) := by decide +kernel
theorem dX12_goDown_110 : decode cX12_goDown 110 = .ok (.iinc 3 1, 3) := by decide +kernel
theorem dX12_goDown_113 : decode cX12_goDown 113 = .ok (.goto (-109), 3) := by decide +kernel
theorem dX12_goDown_116 : decode cX12_goDown 116 = .ok (.iload_n 2, 1) := by decide +kernel
theorem dX12_goDown_117 : decode cX12_goDown 117 = .ok (.ireturn, 1) := by decide +kernel
theorem dX12_order_0 : decode cX12_order 0 = .ok (.iload_n 1, 1) := by decide +kernel
theorem dX12_order_1 : decode cX12_order 1 = .ok (.i2l, 1) := by decide +kernel
theorem dX12_order_2 : decode cX12_order 2 = .ok (.lconst 1, 1) := by decide +kernel
theorem dX12_order_3 : decode cX12_order 3 = .ok (.ldc2_w 473, 3) := by decide +kernel
theorem dX12_order_6 : decode cX12_order 6 = .ok (.invokestatic 148, 3) := by decide +kernel
theorem dX12_order_9 : decode cX12_order 9 = .ok (.ifCond .eq 26, 3) := by decide +kernel
theorem dX12_order_12 : decode cX12_order 12 = .ok (.iload_n 2, 1) := by decide +kernel
theorem dX12_order_13 : decode cX12_order 13 = .ok (.i2l, 1) := by decide +kernel
theorem dX12_order_14 : decode cX12_order 14 = .ok (.lconst 0, 1) := by decide +kernel
theorem dX12_order_15 : decode cX12_order 15 = .ok (.ldc2_w 473, 3) := by decide +kernel
theorem dX12_order_18 : decode cX12_order 18 = .ok (.invokestatic 148, 3) := by decide +kernel
theorem dX12_order_21 : decode cX12_order 21 = .ok (.ifCond .eq 14, 3) := by decide +kernel
theorem dX12_order_24 : decode cX12_order 24 = .ok (.iload_n 2, 1) := by decide +kernel
theorem dX12_order_25 : decode cX12_order 25 = .ok (.bipush 6, 2) := by decide +kernel
theorem dX12_order_27 : decode cX12_order 27 = .ok (.if_icmp .ge 10, 3) := by decide +kernel
theorem dX12_order_30 : decode cX12_order 30 = .ok (.iload_n 2, 1) := by decide +kernel
theorem dX12_order_31 : decode cX12_order 31 = .ok (.iload_n 1, 1) := by decide +kernel
theorem dX12_order_32 : decode cX12_order 32 = .ok (.if_icmp .lt 5, 3) := by decide +kernel
theorem dX12_order_35 : decode cX12_order 35 = .ok (.iconst (-1), 1) := by decide +kernel
theorem dX12_order_36 : decode cX12_order 36 = .ok (.ireturn, 1) := by decide +kernel
theorem dX12_order_37 : decode cX12_order 37 = .ok (.iconst 1, 1) := by decide +kernel
theorem dX12_order_38 : decode cX12_order 38 = .ok (.istore_n 3, 1) := by decide +kernel
theorem dX12_order_39 : decode cX12_order 39 = .ok (.iconst 0, 1) := by decide +kernel
theorem dX12_order_40 : decode cX12_order 40 = .ok (.istore 4, 2) := by decide +kernel
theorem dX12_order_42 : decode cX12_order 42 = .ok (.iload 4, 2) := by decide +kernel
theorem dX12_order_44 : decode cX12_order 44 = .ok (.iload_n 1, 1) := by decide +kernel
theorem dX12_order_45 : decode cX12_order 45 = .ok (.if_icmp .ge 13, 3) := by decide +kernel
theorem dX12_order_48 : decode cX12_order 48 = .ok (.iload_n 3, 1) := by decide +kernel
theorem dX12_order_49 : decode cX12_order 49 = .ok (.iload_n 1, 1) := by decide +kernel
theorem dX12_order_50 : decode cX12_order 50 = .ok (.imul, 1) := by decide +kernel
theorem dX12_order_51 : decode cX12_order 51 = .ok (.istore_n 3, 1) := by decide +kernel
theorem dX12_order_52 : decode cX12_order 52 = .ok (.iinc 4 1, 3) := by decide +kernel
theorem dX12_order_55 : decode cX12_order 55 = .ok (.goto (-13), 3) := by decide +kernel
theorem dX12_order_58 : decode cX12_order 58 = .ok (.iconst (-1), 1) := by decide +kernel
theorem dX12_order_59 : decode cX12_order 59 = .ok (.istore 4, 2) := by decide +kernel
theorem dX12_order_61 : decode cX12_order 61 = .ok (.iconst 0, 1) := by decide +kernel
theorem dX12_order_62 : decode cX12_order 62 = .ok (.istore 5, 2) := by decide +kernel
theorem dX12_order_64 : decode cX12_order 64 = .ok (.iload 5, 2) := by decide +kernel
theorem dX12_order_66 : decode cX12_order 66 = .ok (.iload_n 3, 1) := by decide +kernel
theorem dX12_order_67 : decode cX12_order 67 = .ok (.if_icmp .ge 72, 3) := by decide +kernel
theorem dX12_order_70 : decode cX12_order 70 = .ok (.aload_n 0, 1) := by decide +kernel
theorem dX12_order_71 : decode cX12_order 71 = .ok (.iload 5, 2) := by decide +kernel
theorem dX12_order_73 : decode cX12_order 73 = .ok (.iload_n 1, 1) := by decide +kernel
theorem dX12_order_74 : decode cX12_order 74 = .ok (.invokevirtual 475, 3) := by decide +kernel
theorem dX12_order_77 : decode cX12_order 77 = .ok (.ifCond .ne 6, 3) := by decide +kernel
theorem dX12_order_80 : decode cX12_order 80 = .ok (.goto 53, 3) := by decide +kernel
theorem dX12_order_83 : decode cX12_order 83 = .ok (.aload_n 0, 1) := by decide +kernel
theorem dX12_order_84 : decode cX12_order 84 = .ok (.iload_n 1, 1) := by decide +kernel
theorem dX12_order_85 : decode cX12_order 85 = .ok (.invokevirtual 478, 3) := by decide +kernel
theorem dX12_order_88 : decode cX12_order 88 = .ok (.istore 6, 2) := by decide +kernel
theorem dX12_order_90 : decode cX12_order 90 = .ok (.iload 6, 2) := by decide +kernel
theorem dX12_order_92 : decode cX12_order 92 = .ok (.iload 4, 2) := by decide +kernel
theorem dX12_order_94 : decode cX12_order 94 = .ok (.if_icmp .gt 6, 3) := by decide +kernel
theorem dX12_order_97 : decode cX12_order 97 = .ok (.goto 36, 3) := by decide +kernel
theorem dX12_order_100 : decode cX12_order 100 = .ok (.iload 6, 2) := by decide +kernel
theorem dX12_order_102 : decode cX12_order 102 = .ok (.istore 4, 2) := by decide +kernel
theorem dX12_order_104 : decode cX12_order 104 = .ok (.iconst 0, 1) := by decide +kernel
theorem dX12_order_105 : decode cX12_order 105 = .ok (.istore 7, 2) := by decide +kernel
theorem dX12_order_107 : decode cX12_order 107 = .ok (.iload 7, 2) := by decide +kernel
theorem dX12_order_109 : decode cX12_order 109 = .ok (.iload_n 1, 1) := by decide +kernel
theorem dX12_order_110 : decode cX12_order 110 = .ok (.if_icmp .ge 23, 3) := by decide +kernel
theorem dX12_order_113 : decode cX12_order 113 = .ok (.aload_n 0, 1) := by decide +kernel
theorem dX12_order_114 : decode cX12_order 114 = .ok (.getfield 97, 3) := by decide +kernel
theorem dX12_order_117 : decode cX12_order 117 = .ok (.iload 7, 2) := by decide +kernel
theorem dX12_order_119 : decode cX12_order 119 = .ok (.aload_n 0, 1) := by decide +kernel
theorem dX12_order_120 : decode cX12_order 120 = .ok (.getfield 94, 3) := by decide +kernel
theorem dX12_order_123 : decode cX12_order 123 = .ok (.iload 7, 2) := by decide +kernel
theorem dX12_order_125 : decode cX12_order 125 = .ok (.iaload, 1) := by decide +kernel
theorem dX12_order_126 : decode cX12_order 126 = .ok (.iastore, 1) := by decide +kernel
theorem dX12_order_127 : decode cX12_order 127 = .ok (.iinc 7 1, 3) := by decide +kernel
theorem dX12_order_130 : decode cX12_order 130 = .ok (.goto (-23), 3) := by decide +kernel
theorem dX12_order_133 : decode cX12_order 133 = .ok (.iinc 5 1, 3) := by decide +kernel
theorem dX12_order_136 : decode cX12_order 136 = .ok (.goto (-72), 3) := by decide +kernel
theorem dX12_order_139 : decode cX12_order 139 = .ok (.iload_n 2, 1) := by decide +kernel
theorem dX12_order_140 : decode cX12_order 140 = .ok (.bipush 6, 2) := by decide +kernel
theorem dX12_order_142 : decode cX12_order 142 = .ok (.if_icmp .ne 8, 3) := by decide +kernel
theorem dX12_order_145 : decode cX12_order 145 = .ok (.iload 4, 2) := by decide +kernel
theorem dX12_order_147 : decode cX12_order 147 = .ok (.goto 9, 3) := by decide +kernel
theorem dX12_order_150 : decode cX12_order 150 = .ok (.aload_n 0, 1) := by decide +kernel
theorem dX12_order_151 : decode cX12_order 151 = .ok (.getfield 97, 3) := by decide +kernel
theorem dX12_order_154 : decode cX12_order 154 = .ok (.iload_n 2, 1) := by decide +kernel
theorem dX12_order_155 : decode cX12_order 155 = .ok (.iaload, 1) := by decide +kernel
theorem dX12_order_156 : decode cX12_order 156 = .ok (.ireturn, 1) := by decide +kernel
theorem dX12_comesHome_0 : decode cX12_comesHome 0 = .ok (.aload_n 0, 1) := by decide +kernel
theorem dX12_comesHome_1 : decode cX12_comesHome 1 = .ok (.getfield 48, 3) := by decide +kernel
theorem dX12_comesHome_4 : decode cX12_comesHome 4 = .ok (.iconst 3, 1) := by decide +kernel
theorem dX12_comesHome_5 : decode cX12_comesHome 5 = .ok (.iaload, 1) := by decide +kernel
theorem dX12_comesHome_6 : decode cX12_comesHome 6 = .ok (.sipush 1440, 3) := by decide +kernel
theorem dX12_comesHome_9 : decode cX12_comesHome 9 = .ok (.if_icmp .ne 24, 3) := by decide +kernel
theorem dX12_comesHome_12 : decode cX12_comesHome 12 = .ok (.aload_n 0, 1) := by decide +kernel
theorem dX12_comesHome_13 : decode cX12_comesHome 13 = .ok (.iload_n 1, 1) := by decide +kernel
theorem dX12_comesHome_14 : decode cX12_comesHome 14 = .ok (.iconst 0, 1) := by decide +kernel
theorem dX12_comesHome_15 : decode cX12_comesHome 15 = .ok (.invokevirtual 318, 3) := by decide +kernel
theorem dX12_comesHome_18 : decode cX12_comesHome 18 = .ok (.aload_n 0, 1) := by decide +kernel
theorem dX12_comesHome_19 : decode cX12_comesHome 19 = .ok (.iload_n 1, 1) := by decide +kernel
theorem dX12_comesHome_20 : decode cX12_comesHome 20 = .ok (.iconst 1, 1) := by decide +kernel
theorem dX12_comesHome_21 : decode cX12_comesHome 21 = .ok (.invokevirtual 318, 3) := by decide +kernel
theorem dX12_comesHome_24 : decode cX12_comesHome 24 = .ok (.if_icmp .ne 7, 3) := by decide +kernel
theorem dX12_comesHome_27 : decode cX12_comesHome 27 = .ok (.iconst 1, 1) := by decide +kernel
theorem dX12_comesHome_28 : decode cX12_comesHome 28 = .ok (.goto 4, 3) := by decide +kernel
theorem dX12_comesHome_31 : decode cX12_comesHome 31 = .ok (.iconst 0, 1) := by decide +kernel
theorem dX12_comesHome_32 : decode cX12_comesHome 32 = .ok (.ireturn, 1) := by decide +kernel
theorem dX12_comesHome_33 : decode cX12_comesHome 33 = .ok (.aload_n 0, 1) := by decide +kernel
theorem dX12_comesHome_34 : decode cX12_comesHome 34 = .ok (.iload_n 1, 1) := by decide +kernel
theorem dX12_comesHome_35 : decode cX12_comesHome 35 = .ok (.iconst 0, 1) := by decide +kernel
theorem dX12_comesHome_36 : decode cX12_comesHome 36 = .ok (.invokevirtual 318, 3) := by decide +kernel
theorem dX12_comesHome_39 : decode cX12_comesHome 39 = .ok (.ifCond .lt 12, 3) := by decide +kernel
theorem dX12_comesHome_42 : decode cX12_comesHome 42 = .ok (.aload_n 0, 1) := by decide +kernel
theorem dX12_comesHome_43 : decode cX12_comesHome 43 = .ok (.iload_n 1, 1) := by decide +kernel
theorem dX12_comesHome_44 : decode cX12_comesHome 44 = .ok (.iconst 0, 1) := by decide +kernel
theorem dX12_comesHome_45 : decode cX12_comesHome 45 = .ok (.invokevirtual 318, 3) := by decide +kernel
theorem dX12_comesHome_48 : decode cX12_comesHome 48 = .ok (.goto 9, 3) := by decide +kernel
theorem dX12_comesHome_51 : decode cX12_comesHome 51 = .ok (.aload_n 0, 1) := by decide +kernel
theorem dX12_comesHome_52 : decode cX12_comesHome 52 = .ok (.iload_n 1, 1) := by decide +kernel
theorem dX12_comesHome_53 : decode cX12_comesHome 53 = .ok (.iconst 3, 1) := by decide +kernel
theorem dX12_comesHome_54 : decode cX12_comesHome 54 = .ok (.invokevirtual 318, 3) := by decide +kernel
theorem dX12_comesHome_57 : decode cX12_comesHome 57 = .ok (.istore_n 2, 1) := by decide +kernel
theorem dX12_comesHome_58 : decode cX12_comesHome 58 = .ok (.aload_n 0, 1) := by decide +kernel
theorem dX12_comesHome_59 : decode cX12_comesHome 59 = .ok (.iload_n 1, 1) := by decide +kernel
theorem dX12_comesHome_60 : decode cX12_comesHome 60 = .ok (.iconst 0, 1) := by decide +kernel
theorem dX12_comesHome_61 : decode cX12_comesHome 61 = .ok (.invokevirtual 318, 3) := by decide +kernel
theorem dX12_comesHome_64 : decode cX12_comesHome 64 = .ok (.ifCond .lt 12, 3) := by decide +kernel
theorem dX12_comesHome_67 : decode cX12_comesHome 67 = .ok (.aload_n 0, 1) := by decide +kernel
theorem dX12_comesHome_68 : decode cX12_comesHome 68 = .ok (.getfield 48, 3) := by decide +kernel
theorem dX12_comesHome_71 : decode cX12_comesHome 71 = .ok (.iconst 3, 1) := by decide +kernel
theorem dX12_comesHome_72 : decode cX12_comesHome 72 = .ok (.iaload, 1) := by decide +kernel
theorem dX12_comesHome_73 : decode cX12_comesHome 73 = .ok (.goto 9, 3) := by decide +kernel
theorem dX12_comesHome_76 : decode cX12_comesHome 76 = .ok (.aload_n 0, 1) := by decide +kernel
theorem dX12_comesHome_77 : decode cX12_comesHome 77 = .ok (.iload_n 1, 1) := by decide +kernel
theorem dX12_comesHome_78 : decode cX12_comesHome 78 = .ok (.iconst 4, 1) := by decide +kernel
theorem dX12_comesHome_79 : decode cX12_comesHome 79 = .ok (.invokevirtual 318, 3) := by decide +kernel
theorem dX12_comesHome_82 : decode cX12_comesHome 82 = .ok (.istore_n 3, 1) := by decide +kernel
theorem dX12_comesHome_83 : decode cX12_comesHome 83 = .ok (.iload_n 3, 1) := by decide +kernel
theorem dX12_comesHome_84 : decode cX12_comesHome 84 = .ok (.sipush 1439, 3) := by decide +kernel
theorem dX12_comesHome_87 : decode cX12_comesHome 87 = .ok (.if_icmp .le 5, 3) := by decide +kernel
theorem dX12_comesHome_90 : decode cX12_comesHome 90 = .ok (.iconst 0, 1) := by decide +kernel
theorem dX12_comesHome_91 : decode cX12_comesHome 91 = .ok (.ireturn, 1) := by decide +kernel
theorem dX12_comesHome_92 : decode cX12_comesHome 92 = .ok (.aload_n 0, 1) := by decide +kernel
theorem dX12_comesHome_93 : decode cX12_comesHome 93 = .ok (.iload_n 2, 1) := by decide +kernel
theorem dX12_comesHome_94 : decode cX12_comesHome 94 = .ok (.iload_n 3, 1) := by decide +kernel
theorem dX12_comesHome_95 : decode cX12_comesHome 95 = .ok (.aload_n 0, 1) := by decide +kernel
theorem dX12_comesHome_96 : decode cX12_comesHome 96 = .ok (.iload_n 1, 1) := by decide +kernel
theorem dX12_comesHome_97 : decode cX12_comesHome 97 = .ok (.invokevirtual 346, 3) := by decide +kernel
theorem dX12_comesHome_100 : decode cX12_comesHome 100 = .ok (.ifCond .ne 7, 3) := by decide +kernel
theorem dX12_comesHome_103 : decode cX12_comesHome 103 = .ok (.iconst 1, 1) := by decide +kernel
theorem dX12_comesHome_104 : decode cX12_comesHome 104 = .ok (.goto 4, 3) := by decide +kernel
theorem dX12_comesHome_107 : decode cX12_comesHome 107 = .ok (.iconst 0, 1) := by decide +kernel
theorem dX12_comesHome_108 : decode cX12_comesHome 108 = .ok (.invokevirtual 418, 3) := by decide +kernel
theorem dX12_comesHome_111 : decode cX12_comesHome 111 = .ok (.aload_n 0, 1) := by decide +kernel
theorem dX12_comesHome_112 : decode cX12_comesHome 112 = .ok (.aload_n 0, 1) := by decide +kernel
theorem dX12_comesHome_113 : decode cX12_comesHome 113 = .ok (.iload_n 1, 1) := by decide +kernel
theorem dX12_comesHome_114 : decode cX12_comesHome 114 = .ok (.iconst 1, 1) := by decide +kernel
theorem dX12_comesHome_115 : decode cX12_comesHome 115 = .ok (.invokevirtual 318, 3) := by decide +kernel
theorem dX12_comesHome_118 : decode cX12_comesHome 118 = .ok (.invokevirtual 422, 3) := by decide +kernel
theorem dX12_comesHome_121 : decode cX12_comesHome 121 = .ok (.ldc 188, 2) := by decide +kernel
theorem dX12_comesHome_123 : decode cX12_comesHome 123 = .ok (.if_icmp .ge 7, 3) := by decide +kernel
theorem dX12_comesHome_126 : decode cX12_comesHome 126 = .ok (.iconst 1, 1) := by decide +kernel
theorem dX12_comesHome_127 : decode cX12_comesHome 127 = .ok (.goto 4, 3) := by decide +kernel
theorem dX12_comesHome_130 : decode cX12_comesHome 130 = .ok (.iconst 0, 1) := by decide +kernel
theorem dX12_comesHome_131 : decode cX12_comesHome 131 = .ok (.ireturn, 1) := by decide +kernel
theorem dX12_beds_0 : decode cX12_beds 0 = .ok (.aload_n 0, 1) := by decide +kernel
theorem dX12_beds_1 : decode cX12_beds 1 = .ok (.getfield 48, 3) := by decide +kernel
theorem dX12_beds_4 : decode cX12_beds 4 = .ok (.iconst 0, 1) := by decide +kernel
theorem dX12_beds_5 : decode cX12_beds 5 = .ok (.iaload, 1) := by decide +kernel
theorem dX12_beds_6 : decode cX12_beds 6 = .ok (.ifCond .ne 5, 3) := by decide +kernel
theorem dX12_beds_9 : decode cX12_beds 9 = .ok (.iconst (-1), 1) := by decide +kernel
theorem dX12_beds_10 : decode cX12_beds 10 = .ok (.ireturn, 1) := by decide +kernel
theorem dX12_beds_11 : decode cX12_beds 11 = .ok (.iconst 0, 1) := by decide +kernel
theorem dX12_beds_12 : decode cX12_beds 12 = .ok (.istore_n 1, 1) := by decide +kernel
theorem dX12_beds_13 : decode cX12_beds 13 = .ok (.iconst 0, 1) := by decide +kernel
theorem dX12_beds_14 : decode cX12_beds 14 = .ok (.istore_n 2, 1) := by decide +kernel
theorem dX12_beds_15 : decode cX12_beds 15 = .ok (.iload_n 2, 1) := by decide +kernel
theorem dX12_beds_16 : decode cX12_beds 16 = .ok (.aload_n 0, 1) := by decide +kernel
theorem dX12_beds_17 : decode cX12_beds 17 = .ok (.getfield 48, 3) := by decide +kernel
theorem dX12_beds_20 : decode cX12_beds 20 = .ok (.iconst 2, 1) := by decide +kernel
theorem dX12_beds_21 : decode cX12_beds 21 = .ok (.iaload, 1) := by decide +kernel
theorem dX12_beds_22 : decode cX12_beds 22 = .ok (.if_icmp .ge 27, 3) := by decide +kernel
theorem dX12_beds_25 : decode cX12_beds 25 = .ok (.iload_n 1, 1) := by decide +kernel
theorem dX12_beds_26 : decode cX12_beds 26 = .ok (.aload_n 0, 1) := by decide +kernel
theorem dX12_beds_27 : decode cX12_beds 27 = .ok (.iload_n 2, 1) := by decide +kernel
theorem dX12_beds_28 : decode cX12_beds 28 = .ok (.invokevirtual 481, 3) := by decide +kernel
theorem dX12_beds_31 : decode cX12_beds 31 = .ok (.ifCond .eq 7, 3) := by decide +kernel
theorem dX12_beds_34 : decode cX12_beds 34 = .ok (.iconst 0, 1) := by decide +kernel
theorem dX12_beds_35 : decode cX12_beds 35 = .ok (.goto 6, 3) := by decide +kernel
theorem dX12_beds_38 : decode cX12_beds 38 = .ok (.iconst 1, 1) := by decide +kernel
theorem dX12_beds_39 : decode cX12_beds 39 = .ok (.iload_n 2, 1) := by decide +kernel
theorem dX12_beds_40 : decode cX12_beds 40 = .ok (.ishl, 1) := by decide +kernel
theorem dX12_beds_41 : decode cX12_beds 41 = .ok (.ior, 1) := by decide +kernel
theorem dX12_beds_42 : decode cX12_beds 42 = .ok (.istore_n 1, 1) := by decide +kernel
theorem dX12_beds_43 : decode cX12_beds 43 = .ok (.iinc 2 1, 3) := by decide +kernel
theorem dX12_beds_46 : decode cX12_beds 46 = .ok (.goto (-31), 3) := by decide +kernel
theorem dX12_beds_49 : decode cX12_beds 49 = .ok (.iload_n 1, 1) := by decide +kernel
theorem dX12_beds_50 : decode cX12_beds 50 = .ok (.ireturn, 1) := by decide +kernel
theorem dX12_twos_0 : decode cX12_twos 0 = .ok (.iconst 0, 1) := by decide +kernel
theorem dX12_twos_1 : decode cX12_twos 1 = .ok (.istore_n 2, 1) := by decide +kernel
theorem dX12_twos_2 : decode cX12_twos 2 = .ok (.iload_n 2, 1) := by decide +kernel
theorem dX12_twos_3 : decode cX12_twos 3 = .ok (.aload_n 0, 1) := by decide +kernel
theorem dX12_twos_4 : decode cX12_twos 4 = .ok (.getfield 48, 3) := by decide +kernel
theorem dX12_twos_7 : decode cX12_twos 7 = .ok (.iconst 0, 1) := by decide +kernel
theorem dX12_twos_8 : decode cX12_twos 8 = .ok (.iaload, 1) := by decide +kernel
theorem dX12_twos_9 : decode cX12_twos 9 = .ok (.if_icmp .ge 18, 3) := by decide +kernel
theorem dX12_twos_12 : decode cX12_twos 12 = .ok (.aload_n 0, 1) := by decide +kernel
theorem dX12_twos_13 : decode cX12_twos 13 = .ok (.getfield 100, 3) := by decide +kernel
theorem dX12_twos_16 : decode cX12_twos 16 = .ok (.iload_n 2, 1) := by decide +kernel
theorem dX12_twos_17 : decode cX12_twos 17 = .ok (.iconst 1, 1) := by decide +kernel
theorem dX12_twos_18 : decode cX12_twos 18 = .ok (.iload_n 2, 1) := by decide +kernel
theorem dX12_twos_19 : decode cX12_twos 19 = .ok (.ishl, 1) := by decide +kernel
theorem dX12_twos_20 : decode cX12_twos 20 = .ok (.iastore, 1) := by decide +kernel
theorem dX12_twos_21 : decode cX12_twos 21 = .ok (.iinc 2 1, 3) := by decide +kernel
theorem dX12_twos_24 : decode cX12_twos 24 = .ok (.goto (-22), 3) := by decide +kernel
theorem dX12_twos_27 : decode cX12_twos 27 = .ok (.iconst 1, 1) := by decide +kernel
theorem dX12_twos_28 : decode cX12_twos 28 = .ok (.istore_n 2, 1) := by decide +kernel
theorem dX12_twos_29 : decode cX12_twos 29 = .ok (.iload_n 2, 1) := by decide +kernel
theorem dX12_twos_30 : decode cX12_twos 30 = .ok (.ifCond .eq 141, 3) := by decide +kernel
theorem dX12_twos_33 : decode cX12_twos 33 = .ok (.iconst 0, 1) := by decide +kernel
theorem dX12_twos_34 : decode cX12_twos 34 = .ok (.istore_n 2, 1) := by decide +kernel
theorem dX12_twos_35 : decode cX12_twos 35 = .ok (.iconst 0, 1) := by decide +kernel
theorem dX12_twos_36 : decode cX12_twos 36 = .ok (.istore_n 3, 1) := by decide +kernel
theorem dX12_twos_37 : decode cX12_twos 37 = .ok (.iload_n 3, 1) := by decide +kernel
theorem dX12_twos_38 : decode cX12_twos 38 = .ok (.aload_n 0, 1) := by decide +kernel
theorem dX12_twos_39 : decode cX12_twos 39 = .ok (.getfield 48, 3) := by decide +kernel
theorem dX12_twos_42 : decode cX12_twos 42 = .ok (.iconst 1, 1) := by decide +kernel
theorem dX12_twos_43 : decode cX12_twos 43 = .ok (.iaload, 1) := by decide +kernel
theorem dX12_twos_44 : decode cX12_twos 44 = .ok (.if_icmp .ge 124, 3) := by decide +kernel
theorem dX12_twos_47 : decode cX12_twos 47 = .ok (.aload_n 0, 1) := by decide +kernel
theorem dX12_twos_48 : decode cX12_twos 48 = .ok (.iload_n 3, 1) := by decide +kernel
theorem dX12_twos_49 : decode cX12_twos 49 = .ok (.iconst 0, 1) := by decide +kernel
theorem dX12_twos_50 : decode cX12_twos 50 = .ok (.invokevirtual 322, 3) := by decide +kernel
theorem dX12_twos_53 : decode cX12_twos 53 = .ok (.istore 4, 2) := by decide +kernel
theorem dX12_twos_55 : decode cX12_twos 55 = .ok (.aload_n 0, 1) := by decide +kernel
theorem dX12_twos_56 : decode cX12_twos 56 = .ok (.iload_n 3, 1) := by decide +kernel
theorem dX12_twos_57 : decode cX12_twos 57 = .ok (.iconst 1, 1) := by decide +kernel
theorem dX12_twos_58 : decode cX12_twos 58 = .ok (.invokevirtual 322, 3) := by decide +kernel
theorem dX12_twos_61 : decode cX12_twos 61 = .ok (.istore 5, 2) := by decide +kernel
theorem dX12_twos_63 : decode cX12_twos 63 = .ok (.aload_n 0, 1) := by decide +kernel
theorem dX12_twos_64 : decode cX12_twos 64 = .ok (.getfield 100, 3) := by decide +kernel
theorem dX12_twos_67 : decode cX12_twos 67 = .ok (.iload 4, 2) := by decide +kernel
theorem dX12_twos_69 : decode cX12_twos 69 = .ok (.iaload, 1) := by decide +kernel
theorem dX12_twos_70 : decode cX12_twos 70 = .ok (.istore 6, 2) := by decide +kernel
theorem dX12_twos_72 : decode cX12_twos 72 = .ok (.aload_n 0, 1) := by decide +kernel
theorem dX12_twos_73 : decode cX12_twos 73 = .ok (.getfield 100, 3) := by decide +kernel
theorem dX12_twos_76 : decode cX12_twos 76 = .ok (.iload 5, 2) := by decide +kernel
theorem dX12_twos_78 : decode cX12_twos 78 = .ok (.iaload, 1) := by decide +kernel
theorem dX12_twos_79 : decode cX12_twos 79 = .ok (.istore 7, 2) := by decide +kernel
theorem dX12_twos_81 : decode cX12_twos 81 = .ok (.aload_n 0, 1) := by decide +kernel
theorem dX12_twos_82 : decode cX12_twos 82 = .ok (.getfield 100, 3) := by decide +kernel
theorem dX12_twos_85 : decode cX12_twos 85 = .ok (.iload 4, 2) := by decide +kernel
theorem dX12_twos_87 : decode cX12_twos 87 = .ok (.dup2, 1) := by decide +kernel
theorem dX12_twos_88 : decode cX12_twos 88 = .ok (.iaload, 1) := by decide +kernel
theorem dX12_twos_89 : decode cX12_twos 89 = .ok (.aload_n 0, 1) := by decide +kernel
theorem dX12_twos_90 : decode cX12_twos 90 = .ok (.getfield 100, 3) := by decide +kernel
theorem dX12_twos_93 : decode cX12_twos 93 = .ok (.iload 5, 2) := by decide +kernel
theorem dX12_twos_95 : decode cX12_twos 95 = .ok (.iaload, 1) := by decide +kernel
theorem dX12_twos_96 : decode cX12_twos 96 = .ok (.ior, 1) := by decide +kernel
theorem dX12_twos_97 : decode cX12_twos 97 = .ok (.iastore, 1) := by decide +kernel
theorem dX12_twos_98 : decode cX12_twos 98 = .ok (.iload_n 3, 1) := by decide +kernel
theorem dX12_twos_99 : decode cX12_twos 99 = .ok (.iload_n 1, 1) := by decide +kernel
theorem dX12_twos_100 : decode cX12_twos 100 = .ok (.if_icmp .eq 13, 3) := by decide +kernel
theorem dX12_twos_103 : decode cX12_twos 103 = .ok (.aload_n 0, 1) := by decide +kernel
theorem dX12_twos_104 : decode cX12_twos 104 = .ok (.iload_n 3, 1) := by decide +kernel
theorem dX12_twos_105 : decode cX12_twos 105 = .ok (.iconst 3, 1) := by decide +kernel
theorem dX12_twos_106 : decode cX12_twos 106 = .ok (.invokevirtual 322, 3) := by decide +kernel
theorem dX12_twos_109 : decode cX12_twos 109 = .ok (.iconst 1, 1) := by decide +kernel
theorem dX12_twos_110 : decode cX12_twos 110 = .ok (.if_icmp .ne 20, 3) := by decide +kernel
theorem dX12_twos_113 : decode cX12_twos 113 = .ok (.aload_n 0, 1) := by decide +kernel
theorem dX12_twos_114 : decode cX12_twos 114 = .ok (.getfield 100, 3) := by decide +kernel
theorem dX12_twos_117 : decode cX12_twos 117 = .ok (.iload 5, 2) := by decide +kernel
theorem dX12_twos_119 : decode cX12_twos 119 = .ok (.dup2, 1) := by decide +kernel
theorem dX12_twos_120 : decode cX12_twos 120 = .ok (.iaload, 1) := by decide +kernel
theorem dX12_twos_121 : decode cX12_twos 121 = .ok (.aload_n 0, 1) := by decide +kernel
theorem dX12_twos_122 : decode cX12_twos 122 = .ok (.getfield 100, 3) := by decide +kernel
theorem dX12_twos_125 : decode cX12_twos 125 = .ok (.iload 4, 2) := by decide +kernel
theorem dX12_twos_127 : decode cX12_twos 127 = .ok (.iaload, 1) := by decide +kernel
theorem dX12_twos_128 : decode cX12_twos 128 = .ok (.ior, 1) := by decide +kernel
theorem dX12_twos_129 : decode cX12_twos 129 = .ok (.iastore, 1) := by decide +kernel
theorem dX12_twos_130 : decode cX12_twos 130 = .ok (.iload_n 2, 1) := by decide +kernel
theorem dX12_twos_131 : decode cX12_twos 131 = .ok (.aload_n 0, 1) := by decide +kernel
theorem dX12_twos_132 : decode cX12_twos 132 = .ok (.getfield 100, 3) := by decide +kernel
theorem dX12_twos_135 : decode cX12_twos 135 = .ok (.iload 4, 2) := by decide +kernel
theorem dX12_twos_137 : decode cX12_twos 137 = .ok (.iaload, 1) := by decide +kernel
theorem dX12_twos_138 : decode cX12_twos 138 = .ok (.iload 6, 2) := by decide +kernel
theorem dX12_twos_140 : decode cX12_twos 140 = .ok (.if_icmp .ne 15, 3) := by decide +kernel
theorem dX12_twos_143 : decode cX12_twos 143 = .ok (.aload_n 0, 1) := by decide +kernel
theorem dX12_twos_144 : decode cX12_twos 144 = .ok (.getfield 100, 3) := by decide +kernel
theorem dX12_twos_147 : decode cX12_twos 147 = .ok (.iload 5, 2) := by decide +kernel
theorem dX12_twos_149 : decode cX12_twos 149 = .ok (.iaload, 1) := by decide +kernel
theorem dX12_twos_150 : decode cX12_twos 150 = .ok (.iload 7, 2) := by decide +kernel
theorem dX12_twos_152 : decode cX12_twos 152 = .ok (.if_icmp .eq 7, 3) := by decide +kernel
theorem dX12_twos_155 : decode cX12_twos 155 = .ok (.iconst 1, 1) := by decide +kernel
theorem dX12_twos_156 : decode cX12_twos 156 = .ok (.goto 4, 3) := by decide +kernel
theorem dX12_twos_159 : decode cX12_twos 159 = .ok (.iconst 0, 1) := by decide +kernel
theorem dX12_twos_160 : decode cX12_twos 160 = .ok (.ior, 1) := by decide +kernel
theorem dX12_twos_161 : decode cX12_twos 161 = .ok (.istore_n 2, 1) := by decide +kernel
theorem dX12_twos_162 : decode cX12_twos 162 = .ok (.iinc 3 1, 3) := by decide +kernel
theorem dX12_twos_165 : decode cX12_twos 165 = .ok (.goto (-128), 3) := by decide +kernel
theorem dX12_twos_168 : decode cX12_twos 168 = .ok (.goto (-139), 3) := by decide +kernel
theorem dX12_twos_171 : decode cX12_twos 171 = .ok (.iconst 0, 1) := by decide +kernel
theorem dX12_twos_172 : decode cX12_twos 172 = .ok (.istore_n 3, 1) := by decide +kernel
theorem dX12_twos_173 : decode cX12_twos 173 = .ok (.iconst 0, 1) := by decide +kernel
theorem dX12_twos_174 : decode cX12_twos 174 = .ok (.istore 4, 2) := by decide +kernel
theorem dX12_twos_176 : decode cX12_twos 176 = .ok (.iload 4, 2) := by decide +kernel
theorem dX12_twos_178 : decode cX12_twos 178 = .ok (.aload_n 0, 1) := by decide +kernel
theorem dX12_twos_179 : decode cX12_twos 179 = .ok (.getfield 48, 3) := by decide +kernel
theorem dX12_twos_182 : decode cX12_twos 182 = .ok (.iconst 0, 1) := by decide +kernel
theorem dX12_twos_183 : decode cX12_twos 183 = .ok (.iaload, 1) := by decide +kernel
theorem dX12_twos_184 : decode cX12_twos 184 = .ok (.if_icmp .ge 24, 3) := by decide +kernel
theorem dX12_twos_187 : decode cX12_twos 187 = .ok (.iload_n 3, 1) := by decide +kernel
theorem dX12_twos_188 : decode cX12_twos 188 = .ok (.aload_n 0, 1) := by decide +kernel
theorem dX12_twos_189 : decode cX12_twos 189 = .ok (.getfield 100, 3) := by decide +kernel
theorem dX12_twos_192 : decode cX12_twos 192 = .ok (.iload 4, 2) := by decide +kernel
theorem dX12_twos_194 : decode cX12_twos 194 = .ok (.iaload, 1) := by decide +kernel
theorem dX12_twos_195 : decode cX12_twos 195 = .ok (.invokestatic 368, 3) := by decide +kernel
theorem dX12_twos_198 : decode cX12_twos 198 = .ok (.iconst 1, 1) := by decide +kernel
theorem dX12_twos_199 : decode cX12_twos 199 = .ok (.isub, 1) := by decide +kernel
theorem dX12_twos_200 : decode cX12_twos 200 = .ok (.iadd, 1) := by decide +kernel
theorem dX12_twos_201 : decode cX12_twos 201 = .ok (.istore_n 3, 1) := by decide +kernel
theorem dX12_twos_202 : decode cX12_twos 202 = .ok (.iinc 4 1, 3) := by decide +kernel
theorem dX12_twos_205 : decode cX12_twos 205 = .ok (.goto (-29), 3) := by decide +kernel
theorem dX12_twos_208 : decode cX12_twos 208 = .ok (.iload_n 3, 1) := by decide +kernel
theorem dX12_twos_209 : decode cX12_twos 209 = .ok (.ireturn, 1) := by decide +kernel
theorem dX12_upward_0 : decode cX12_upward 0 = .ok (.aload_n 0, 1) := by decide +kernel
theorem dX12_upward_1 : decode cX12_upward 1 = .ok (.getfield 48, 3) := by decide +kernel
theorem dX12_upward_4 : decode cX12_upward 4 = .ok (.iconst 0, 1) := by decide +kernel
theorem dX12_upward_5 : decode cX12_upward 5 = .ok (.iaload, 1) := by decide +kernel
theorem dX12_upward_6 : decode cX12_upward 6 = .ok (.ifCond .eq 15, 3) := by decide +kernel
theorem dX12_upward_9 : decode cX12_upward 9 = .ok (.iload_n 1, 1) := by decide +kernel
theorem dX12_upward_10 : decode cX12_upward 10 = .ok (.i2l, 1) := by decide +kernel
theorem dX12_upward_11 : decode cX12_upward 11 = .ok (.lconst 0, 1) := by decide +kernel
theorem dX12_upward_12 : decode cX12_upward 12 = .ok (.ldc2_w 328, 3) := by decide +kernel
theorem dX12_upward_15 : decode cX12_upward 15 = .ok (.invokestatic 148, 3) := by decide +kernel
theorem dX12_upward_18 : decode cX12_upward 18 = .ok (.ifCond .ne 5, 3) := by decide +kernel
theorem dX12_upward_21 : decode cX12_upward 21 = .ok (.iconst (-1), 1) := by decide +kernel
theorem dX12_upward_22 : decode cX12_upward 22 = .ok (.ireturn, 1) := by decide +kernel
theorem dX12_upward_23 : decode cX12_upward 23 = .ok (.iload_n 1, 1) := by decide +kernel
theorem dX12_upward_24 : decode cX12_upward 24 = .ok (.iconst 2, 1) := by decide +kernel
theorem dX12_upward_25 : decode cX12_upward 25 = .ok (.if_icmp .ne 9, 3) := by decide +kernel
theorem dX12_upward_28 : decode cX12_upward 28 = .ok (.aload_n 0, 1) := by decide +kernel
theorem dX12_upward_29 : decode cX12_upward 29 = .ok (.iconst (-1), 1) := by decide +kernel
theorem dX12_upward_30 : decode cX12_upward 30 = .ok (.invokevirtual 484, 3) := by decide +kernel
theorem dX12_upward_33 : decode cX12_upward 33 = .ok (.ireturn, 1) := by decide +kernel
theorem dX12_upward_34 : decode cX12_upward 34 = .ok (.bipush (-2), 2) := by decide +kernel
theorem dX12_upward_36 : decode cX12_upward 36 = .ok (.istore_n 2, 1) := by decide +kernel
theorem dX12_upward_37 : decode cX12_upward 37 = .ok (.bipush (-2), 2) := by decide +kernel
theorem dX12_upward_39 : decode cX12_upward 39 = .ok (.istore_n 3, 1) := by decide +kernel
theorem dX12_upward_40 : decode cX12_upward 40 = .ok (.iconst 0, 1) := by decide +kernel
theorem dX12_upward_41 : decode cX12_upward 41 = .ok (.istore 4, 2) := by decide +kernel
theorem dX12_upward_43 : decode cX12_upward 43 = .ok (.iload 4, 2) := by decide +kernel
theorem dX12_upward_45 : decode cX12_upward 45 = .ok (.aload_n 0, 1) := by decide +kernel
theorem dX12_upward_46 : decode cX12_upward 46 = .ok (.getfield 48, 3) := by decide +kernel
theorem dX12_upward_49 : decode cX12_upward 49 = .ok (.iconst 1, 1) := by decide +kernel
theorem dX12_upward_50 : decode cX12_upward 50 = .ok (.iaload, 1) := by decide +kernel
theorem dX12_upward_51 : decode cX12_upward 51 = .ok (.if_icmp .ge 46, 3) := by decide +kernel
theorem dX12_upward_54 : decode cX12_upward 54 = .ok (.aload_n 0, 1) := by decide +kernel
theorem dX12_upward_55 : decode cX12_upward 55 = .ok (.iload 4, 2) := by decide +kernel
theorem dX12_upward_57 : decode cX12_upward 57 = .ok (.iconst 3, 1) := by decide +kernel
theorem dX12_upward_58 : decode cX12_upward 58 = .ok (.invokevirtual 322, 3) := by decide +kernel
theorem dX12_upward_61 : decode cX12_upward 61 = .ok (.iconst 1, 1) := by decide +kernel
theorem dX12_upward_62 : decode cX12_upward 62 = .ok (.if_icmp .ne 6, 3) := by decide +kernel
theorem dX12_upward_65 : decode cX12_upward 65 = .ok (.goto 26, 3) := by decide +kernel
theorem dX12_upward_68 : decode cX12_upward 68 = .ok (.aload_n 0, 1) := by decide +kernel
theorem dX12_upward_69 : decode cX12_upward 69 = .ok (.iload 4, 2) := by decide +kernel
theorem dX12_upward_71 : decode cX12_upward 71 = .ok (.invokevirtual 484, 3) := by decide +kernel
theorem dX12_upward_74 : decode cX12_upward 74 = .ok (.istore 5, 2) := by decide +kernel
theorem dX12_upward_76 : decode cX12_upward 76 = .ok (.iload 5, 2) := by decide +kernel
theorem dX12_upward_78 : decode cX12_upward 78 = .ok (.iload_n 3, 1) := by decide +kernel
theorem dX12_upward_79 : decode cX12_upward 79 = .ok (.if_icmp .gt 6, 3) := by decide +kernel
theorem dX12_upward_82 : decode cX12_upward 82 = .ok (.goto 9, 3) := by decide +kernel
theorem dX12_upward_85 : decode cX12_upward 85 = .ok (.iload 4, 2) := by decide +kernel
theorem dX12_upward_87 : decode cX12_upward 87 = .ok (.istore_n 2, 1) := by decide +kernel
theorem dX12_upward_88 : decode cX12_upward 88 = .ok (.iload 5, 2) := by decide +kernel
theorem dX12_upward_90 : decode cX12_upward 90 = .ok (.istore_n 3, 1) := by decide +kernel
theorem dX12_upward_91 : decode cX12_upward 91 = .ok (.iinc 4 1, 3) := by decide +kernel
theorem dX12_upward_94 : decode cX12_upward 94 = .ok (.goto (-51), 3) := by decide +kernel
theorem dX12_upward_97 : decode cX12_upward 97 = .ok (.iload_n 1, 1) := by decide +kernel
theorem dX12_upward_98 : decode cX12_upward 98 = .ok (.ifCond .ne 7, 3) := by decide +kernel
theorem dX12_upward_101 : decode cX12_upward 101 = .ok (.iload_n 2, 1) := by decide +kernel
theorem dX12_upward_102 : decode cX12_upward 102 = .ok (.goto 4, 3) := by decide +kernel
theorem dX12_upward_105 : decode cX12_upward 105 = .ok (.iload_n 3, 1) := by decide +kernel
theorem dX12_upward_106 : decode cX12_upward 106 = .ok (.ireturn, 1) := by decide +kernel
theorem dX12_seed_0 : decode cX12_seed 0 = .ok (.iload_n 1, 1) := by decide +kernel
theorem dX12_seed_1 : decode cX12_seed 1 = .ok (.ifCond .ge 5, 3) := by decide +kernel
theorem dX12_seed_4 : decode cX12_seed 4 = .ok (.iconst (-1), 1) := by decide +kernel
theorem dX12_seed_5 : decode cX12_seed 5 = .ok (.ireturn, 1) := by decide +kernel
theorem dX12_seed_6 : decode cX12_seed 6 = .ok (.aload_n 0, 1) := by decide +kernel
theorem dX12_seed_7 : decode cX12_seed 7 = .ok (.getfield 48, 3) := by decide +kernel
theorem dX12_seed_10 : decode cX12_seed 10 = .ok (.bipush 11, 2) := by decide +kernel
theorem dX12_seed_12 : decode cX12_seed 12 = .ok (.iaload, 1) := by decide +kernel
theorem dX12_seed_13 : decode cX12_seed 13 = .ok (.istore_n 2, 1) := by decide +kernel
theorem dX12_seed_14 : decode cX12_seed 14 = .ok (.aload_n 0, 1) := by decide +kernel
theorem dX12_seed_15 : decode cX12_seed 15 = .ok (.getfield 48, 3) := by decide +kernel
theorem dX12_seed_18 : decode cX12_seed 18 = .ok (.bipush 11, 2) := by decide +kernel
theorem dX12_seed_20 : decode cX12_seed 20 = .ok (.iload_n 1, 1) := by decide +kernel
theorem dX12_seed_21 : decode cX12_seed 21 = .ok (.iastore, 1) := by decide +kernel
theorem dX12_seed_22 : decode cX12_seed 22 = .ok (.iload_n 2, 1) := by decide +kernel
theorem dX12_seed_23 : decode cX12_seed 23 = .ok (.ireturn, 1) := by decide +kernel
theorem dX12_drawn_0 : decode cX12_drawn 0 = .ok (.aload_n 0, 1) := by decide +kernel
theorem dX12_drawn_1 : decode cX12_drawn 1 = .ok (.iload_n 1, 1) := by decide +kernel
theorem dX12_drawn_2 : decode cX12_drawn 2 = .ok (.invokevirtual 381, 3) := by decide +kernel
theorem dX12_drawn_5 : decode cX12_drawn 5 = .ok (.ifCond .eq 34, 3) := by decide +kernel
theorem dX12_drawn_8 : decode cX12_drawn 8 = .ok (.aload_n 0, 1) := by decide +kernel
theorem dX12_drawn_9 : decode cX12_drawn 9 = .ok (.getfield 48, 3) := by decide +kernel
theorem dX12_drawn_12 : decode cX12_drawn 12 = .ok (.iconst 0, 1) := by decide +kernel
theorem dX12_drawn_13 : decode cX12_drawn 13 = .ok (.iaload, 1) := by decide +kernel
theorem dX12_drawn_14 : decode cX12_drawn 14 = .ok (.ifCond .eq 25, 3) := by decide +kernel
theorem dX12_drawn_17 : decode cX12_drawn 17 = .ok (.iload_n 2, 1) := by decide +kernel
theorem dX12_drawn_18 : decode cX12_drawn 18 = .ok (.i2l, 1) := by decide +kernel
theorem dX12_drawn_19 : decode cX12_drawn 19 = .ok (.lconst 1, 1) := by decide +kernel
theorem dX12_drawn_20 : decode cX12_drawn 20 = .ok (.ldc2_w 465, 3) := by decide +kernel
theorem dX12_drawn_23 : decode cX12_drawn 23 = .ok (.invokestatic 148, 3) := by decide +kernel
theorem dX12_drawn_26 : decode cX12_drawn 26 = .ok (.ifCond .eq 13, 3) := by decide +kernel
theorem dX12_drawn_29 : decode cX12_drawn 29 = .ok (.iload_n 3, 1) := by decide +kernel
theorem dX12_drawn_30 : decode cX12_drawn 30 = .ok (.i2l, 1) := by decide +kernel
theorem dX12_drawn_31 : decode cX12_drawn 31 = .ok (.lconst 0, 1) := by decide +kernel
theorem dX12_drawn_32 : decode cX12_drawn 32 = .ok (.lconst 1, 1) := by decide +kernel
theorem dX12_drawn_33 : decode cX12_drawn 33 = .ok (.invokestatic 148, 3) := by decide +kernel
theorem dX12_drawn_36 : decode cX12_drawn 36 = .ok (.ifCond .ne 5, 3) := by decide +kernel
theorem dX12_drawn_39 : decode cX12_drawn 39 = .ok (.iconst (-1), 1) := by decide +kernel
theorem dX12_drawn_40 : decode cX12_drawn 40 = .ok (.ireturn, 1) := by decide +kernel
theorem dX12_drawn_41 : decode cX12_drawn 41 = .ok (.aload_n 0, 1) := by decide +kernel
theorem dX12_drawn_42 : decode cX12_drawn 42 = .ok (.invokevirtual 389, 3) := by decide +kernel
theorem dX12_drawn_45 : decode cX12_drawn 45 = .ok (.aload_n 0, 1) := by decide +kernel
theorem dX12_drawn_46 : decode cX12_drawn 46 = .ok (.getfield 48, 3) := by decide +kernel
theorem dX12_drawn_49 : decode cX12_drawn 49 = .ok (.bipush 11, 2) := by decide +kernel
theorem dX12_drawn_51 : decode cX12_drawn 51 = .ok (.iaload, 1) := by decide +kernel
theorem dX12_drawn_52 : decode cX12_drawn 52 = .ok (.i2l, 1) := by decide +kernel
theorem dX12_drawn_53 : decode cX12_drawn 53 = .ok (.lstore 4, 2) := by decide +kernel
theorem dX12_drawn_55 : decode cX12_drawn 55 = .ok (.iconst 0, 1) := by decide +kernel
theorem dX12_drawn_56 : decode cX12_drawn 56 = .ok (.istore 6, 2) := by decide +kernel
theorem dX12_drawn_58 : decode cX12_drawn 58 = .ok (.iconst 0, 1) := by decide +kernel
theorem dX12_drawn_59 : decode cX12_drawn 59 = .ok (.istore 7, 2) := by decide +kernel
theorem dX12_drawn_61 : decode cX12_drawn 61 = .ok (.iload 7, 2) := by decide +kernel
theorem dX12_drawn_63 : decode cX12_drawn 63 = .ok (.iload_n 2, 1) := by decide +kernel
theorem dX12_drawn_64 : decode cX12_drawn 64 = .ok (.if_icmp .ge 113, 3) := by decide +kernel
theorem dX12_drawn_67 : decode cX12_drawn 67 = .ok (.aload_n 0, 1) := by decide +kernel
theorem dX12_drawn_68 : decode cX12_drawn 68 = .ok (.getfield 48, 3) := by decide +kernel
theorem dX12_drawn_71 : decode cX12_drawn 71 = .ok (.iconst 3, 1) := by decide +kernel
theorem dX12_drawn_72 : decode cX12_drawn 72 = .ok (.iconst 0, 1) := by decide +kernel
theorem dX12_drawn_73 : decode cX12_drawn 73 = .ok (.iastore, 1) := by decide +kernel
theorem dX12_drawn_74 : decode cX12_drawn 74 = .ok (.iconst 0, 1) := by decide +kernel
theorem dX12_drawn_75 : decode cX12_drawn 75 = .ok (.istore 8, 2) := by decide +kernel
theorem dX12_drawn_77 : decode cX12_drawn 77 = .ok (.iload 8, 2) := by decide +kernel
theorem dX12_drawn_79 : decode cX12_drawn 79 = .ok (.aload_n 0, 1) := by decide +kernel
theorem dX12_drawn_80 : decode cX12_drawn 80 = .ok (.getfield 48, 3) := by decide +kernel
theorem dX12_drawn_83 : decode cX12_drawn 83 = .ok (.iconst 2, 1) := by decide +kernel
theorem dX12_drawn_84 : decode cX12_drawn 84 = .ok (.iaload, 1) := by decide +kernel
theorem dX12_drawn_85 : decode cX12_drawn 85 = .ok (.if_icmp .ge 46, 3) := by decide +kernel
theorem dX12_drawn_88 : decode cX12_drawn 88 = .ok (.lload 4, 2) := by decide +kernel
theorem dX12_drawn_90 : decode cX12_drawn 90 = .ok (.ldc2_w 487, 3) := by decide +kernel
theorem dX12_drawn_93 : decode cX12_drawn 93 = .ok (.lmul, 1) := by decide +kernel
theorem dX12_drawn_94 : decode cX12_drawn 94 = .ok (.ldc2_w 489, 3) := by decide +kernel
theorem dX12_drawn_97 : decode cX12_drawn 97 = .ok (.ladd, 1) := by decide +kernel
theorem dX12_drawn_98 : decode cX12_drawn 98 = .ok (.ldc2_w 491, 3) := by decide +kernel
theorem dX12_drawn_101 : decode cX12_drawn 101 = .ok (.lrem, 1) := by decide +kernel
theorem dX12_drawn_102 : decode cX12_drawn 102 = .ok (.lstore 4, 2) := by decide +kernel
theorem dX12_drawn_104 : decode cX12_drawn 104 = .ok (.aload_n 0, 1) := by decide +kernel
theorem dX12_drawn_105 : decode cX12_drawn 105 = .ok (.iload 8, 2) := by decide +kernel
theorem dX12_drawn_107 : decode cX12_drawn 107 = .ok (.lload 4, 2) := by decide +kernel
theorem dX12_drawn_109 : decode cX12_drawn 109 = .ok (.ldc2_w 493, 3) := by decide +kernel
theorem dX12_drawn_112 : decode cX12_drawn 112 = .ok (.ldiv, 1) := by decide +kernel
theorem dX12_drawn_113 : decode cX12_drawn 113 = .ok (.aload_n 0, 1) := by decide +kernel
theorem dX12_drawn_114 : decode cX12_drawn 114 = .ok (.getfield 48, 3) := by decide +kernel
theorem dX12_drawn_117 : decode cX12_drawn 117 = .ok (.iconst 0, 1) := by decide +kernel
theorem dX12_drawn_118 : decode cX12_drawn 118 = .ok (.iaload, 1) := by decide +kernel
theorem dX12_drawn_119 : decode cX12_drawn 119 = .ok (.i2l, 1) := by decide +kernel
theorem dX12_drawn_120 : decode cX12_drawn 120 = .ok (.lrem, 1) := by decide +kernel
theorem dX12_drawn_121 : decode cX12_drawn 121 = .ok (.l2i, 1) := by decide +kernel
theorem dX12_drawn_122 : decode cX12_drawn 122 = .ok (.invokevirtual 300, 3) := by decide +kernel
theorem dX12_drawn_125 : decode cX12_drawn 125 = .ok (.iinc 8 1, 3) := by decide +kernel
theorem dX12_drawn_128 : decode cX12_drawn 128 = .ok (.goto (-51), 3) := by decide +kernel
theorem dX12_drawn_131 : decode cX12_drawn 131 = .ok (.aload_n 0, 1) := by decide +kernel
theorem dX12_drawn_132 : decode cX12_drawn 132 = .ok (.getfield 48, 3) := by decide +kernel
theorem dX12_drawn_135 : decode cX12_drawn 135 = .ok (.iconst 3, 1) := by decide +kernel
theorem dX12_drawn_136 : decode cX12_drawn 136 = .ok (.iaload, 1) := by decide +kernel
theorem dX12_drawn_137 : decode cX12_drawn 137 = .ok (.sipush 1440, 3) := by decide +kernel
theorem dX12_drawn_140 : decode cX12_drawn 140 = .ok (.if_icmp .ge 11, 3) := by decide +kernel
theorem dX12_drawn_143 : decode cX12_drawn 143 = .ok (.aload_n 0, 1) := by decide +kernel
theorem dX12_drawn_144 : decode cX12_drawn 144 = .ok (.iload_n 1, 1) := by decide +kernel
theorem dX12_drawn_145 : decode cX12_drawn 145 = .ok (.invokevirtual 386, 3) := by decide +kernel
theorem dX12_drawn_148 : decode cX12_drawn 148 = .ok (.goto (-17), 3) := by decide +kernel
