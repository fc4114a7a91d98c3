theorem dX11_pull_114 : decode cX11_pull 114 = .ok (.lload 4, 2) := by decide +kernel
theorem dX11_pull_116 : decode cX11_pull 116 = .ok (.ldc2_w 275, 3) := by decide +kernel
theorem dX11_pull_119 : decode cX11_pull 119 = .ok (.lcmp, 1) := by decide +kernel
theorem dX11_pull_120 : decode cX11_pull 120 = .ok (.ifCond .gt 12, 3) := by decide +kernel
theorem dX11_pull_123 : decode cX11_pull 123 = .ok (.lload 6, 2) := by decide +kernel
theorem dX11_pull_125 : decode cX11_pull 125 = .ok (.ldc2_w 277, 3) := by decide +kernel
theorem dX11_pull_128 : decode cX11_pull 128 = .ok (.lcmp, 1) := by decide +kernel
theorem dX11_pull_129 : decode cX11_pull 129 = .ok (.ifCond .le 7, 3) := by decide +kernel
theorem dX11_pull_132 : decode cX11_pull 132 = .ok (.iconst 3, 1) := by decide +kernel
theorem dX11_pull_133 : decode cX11_pull 133 = .ok (.goto 4, 3) := by decide +kernel
theorem dX11_pull_136 : decode cX11_pull 136 = .ok (.iconst 0, 1) := by decide +kernel
theorem dX11_pull_137 : decode cX11_pull 137 = .ok (.putfield 87, 3) := by decide +kernel
theorem dX11_pull_140 : decode cX11_pull 140 = .ok (.aload_n 0, 1) := by decide +kernel
theorem dX11_pull_141 : decode cX11_pull 141 = .ok (.getfield 87, 3) := by decide +kernel
theorem dX11_pull_144 : decode cX11_pull 144 = .ok (.ifCond .le 5, 3) := by decide +kernel
theorem dX11_pull_147 : decode cX11_pull 147 = .ok (.iconst 0, 1) := by decide +kernel
theorem dX11_pull_148 : decode cX11_pull 148 = .ok (.ireturn, 1) := by decide +kernel
theorem dX11_pull_149 : decode cX11_pull 149 = .ok (.aload_n 0, 1) := by decide +kernel
theorem dX11_pull_150 : decode cX11_pull 150 = .ok (.getfield 81, 3) := by decide +kernel
theorem dX11_pull_153 : decode cX11_pull 153 = .ok (.iload_n 1, 1) := by decide +kernel
theorem dX11_pull_154 : decode cX11_pull 154 = .ok (.lload 4, 2) := by decide +kernel
theorem dX11_pull_156 : decode cX11_pull 156 = .ok (.l2i, 1) := by decide +kernel
theorem dX11_pull_157 : decode cX11_pull 157 = .ok (.iastore, 1) := by decide +kernel
theorem dX11_pull_158 : decode cX11_pull 158 = .ok (.aload_n 0, 1) := by decide +kernel
theorem dX11_pull_159 : decode cX11_pull 159 = .ok (.getfield 75, 3) := by decide +kernel
theorem dX11_pull_162 : decode cX11_pull 162 = .ok (.iload_n 1, 1) := by decide +kernel
theorem dX11_pull_163 : decode cX11_pull 163 = .ok (.dup2, 1) := by decide +kernel
theorem dX11_pull_164 : decode cX11_pull 164 = .ok (.iaload, 1) := by decide +kernel
theorem dX11_pull_165 : decode cX11_pull 165 = .ok (.iload_n 3, 1) := by decide +kernel
theorem dX11_pull_166 : decode cX11_pull 166 = .ok (.aload_n 0, 1) := by decide +kernel
theorem dX11_pull_167 : decode cX11_pull 167 = .ok (.getfield 223, 3) := by decide +kernel
theorem dX11_pull_170 : decode cX11_pull 170 = .ok (.iconst 4, 1) := by decide +kernel
theorem dX11_pull_171 : decode cX11_pull 171 = .ok (.idiv, 1) := by decide +kernel
theorem dX11_pull_172 : decode cX11_pull 172 = .ok (.if_icmp .le 7, 3) := by decide +kernel
theorem dX11_pull_175 : decode cX11_pull 175 = .ok (.iconst 1, 1) := by decide +kernel
theorem dX11_pull_176 : decode cX11_pull 176 = .ok (.goto 4, 3) := by decide +kernel
theorem dX11_pull_179 : decode cX11_pull 179 = .ok (.iconst 0, 1) := by decide +kernel
theorem dX11_pull_180 : decode cX11_pull 180 = .ok (.iadd, 1) := by decide +kernel
theorem dX11_pull_181 : decode cX11_pull 181 = .ok (.iastore, 1) := by decide +kernel
theorem dX11_pull_182 : decode cX11_pull 182 = .ok (.aload_n 0, 1) := by decide +kernel
theorem dX11_pull_183 : decode cX11_pull 183 = .ok (.getfield 78, 3) := by decide +kernel
theorem dX11_pull_186 : decode cX11_pull 186 = .ok (.iload_n 1, 1) := by decide +kernel
theorem dX11_pull_187 : decode cX11_pull 187 = .ok (.dup2, 1) := by decide +kernel
theorem dX11_pull_188 : decode cX11_pull 188 = .ok (.iaload, 1) := by decide +kernel
theorem dX11_pull_189 : decode cX11_pull 189 = .ok (.iload_n 3, 1) := by decide +kernel
theorem dX11_pull_190 : decode cX11_pull 190 = .ok (.aload_n 0, 1) := by decide +kernel
theorem dX11_pull_191 : decode cX11_pull 191 = .ok (.getfield 223, 3) := by decide +kernel
theorem dX11_pull_194 : decode cX11_pull 194 = .ok (.iconst 4, 1) := by decide +kernel
theorem dX11_pull_195 : decode cX11_pull 195 = .ok (.idiv, 1) := by decide +kernel
theorem dX11_pull_196 : decode cX11_pull 196 = .ok (.ineg, 1) := by decide +kernel
theorem dX11_pull_197 : decode cX11_pull 197 = .ok (.if_icmp .ge 7, 3) := by decide +kernel
theorem dX11_pull_200 : decode cX11_pull 200 = .ok (.iconst 1, 1) := by decide +kernel
theorem dX11_pull_201 : decode cX11_pull 201 = .ok (.goto 4, 3) := by decide +kernel
theorem dX11_pull_204 : decode cX11_pull 204 = .ok (.iconst 0, 1) := by decide +kernel
theorem dX11_pull_205 : decode cX11_pull 205 = .ok (.iadd, 1) := by decide +kernel
theorem dX11_pull_206 : decode cX11_pull 206 = .ok (.iastore, 1) := by decide +kernel
theorem dX11_pull_207 : decode cX11_pull 207 = .ok (.aload_n 0, 1) := by decide +kernel
theorem dX11_pull_208 : decode cX11_pull 208 = .ok (.lload 6, 2) := by decide +kernel
theorem dX11_pull_210 : decode cX11_pull 210 = .ok (.l2i, 1) := by decide +kernel
theorem dX11_pull_211 : decode cX11_pull 211 = .ok (.putfield 229, 3) := by decide +kernel
theorem dX11_pull_214 : decode cX11_pull 214 = .ok (.aload_n 0, 1) := by decide +kernel
theorem dX11_pull_215 : decode cX11_pull 215 = .ok (.getfield 72, 3) := by decide +kernel
theorem dX11_pull_218 : decode cX11_pull 218 = .ok (.sipush 240, 3) := by decide +kernel
theorem dX11_pull_221 : decode cX11_pull 221 = .ok (.iload_n 1, 1) := by decide +kernel
theorem dX11_pull_222 : decode cX11_pull 222 = .ok (.imul, 1) := by decide +kernel
theorem dX11_pull_223 : decode cX11_pull 223 = .ok (.aload_n 0, 1) := by decide +kernel
theorem dX11_pull_224 : decode cX11_pull 224 = .ok (.getfield 69, 3) := by decide +kernel
theorem dX11_pull_227 : decode cX11_pull 227 = .ok (.iload_n 1, 1) := by decide +kernel
theorem dX11_pull_228 : decode cX11_pull 228 = .ok (.iaload, 1) := by decide +kernel
theorem dX11_pull_229 : decode cX11_pull 229 = .ok (.iadd, 1) := by decide +kernel
theorem dX11_pull_230 : decode cX11_pull 230 = .ok (.iload_n 2, 1) := by decide +kernel
theorem dX11_pull_231 : decode cX11_pull 231 = .ok (.iastore, 1) := by decide +kernel
theorem dX11_pull_232 : decode cX11_pull 232 = .ok (.aload_n 0, 1) := by decide +kernel
theorem dX11_pull_233 : decode cX11_pull 233 = .ok (.iload_n 1, 1) := by decide +kernel
theorem dX11_pull_234 : decode cX11_pull 234 = .ok (.aload_n 0, 1) := by decide +kernel
theorem dX11_pull_235 : decode cX11_pull 235 = .ok (.getfield 69, 3) := by decide +kernel
theorem dX11_pull_238 : decode cX11_pull 238 = .ok (.iload_n 1, 1) := by decide +kernel
theorem dX11_pull_239 : decode cX11_pull 239 = .ok (.iaload, 1) := by decide +kernel
theorem dX11_pull_240 : decode cX11_pull 240 = .ok (.invokevirtual 241, 3) := by decide +kernel
theorem dX11_pull_243 : decode cX11_pull 243 = .ok (.aload_n 0, 1) := by decide +kernel
theorem dX11_pull_244 : decode cX11_pull 244 = .ok (.getfield 69, 3) := by decide +kernel
theorem dX11_pull_247 : decode cX11_pull 247 = .ok (.iload_n 1, 1) := by decide +kernel
theorem dX11_pull_248 : decode cX11_pull 248 = .ok (.dup2, 1) := by decide +kernel
theorem dX11_pull_249 : decode cX11_pull 249 = .ok (.iaload, 1) := by decide +kernel
theorem dX11_pull_250 : decode cX11_pull 250 = .ok (.iconst 1, 1) := by decide +kernel
theorem dX11_pull_251 : decode cX11_pull 251 = .ok (.iadd, 1) := by decide +kernel
theorem dX11_pull_252 : decode cX11_pull 252 = .ok (.iastore, 1) := by decide +kernel
theorem dX11_pull_253 : decode cX11_pull 253 = .ok (.aload_n 0, 1) := by decide +kernel
theorem dX11_pull_254 : decode cX11_pull 254 = .ok (.invokevirtual 260, 3) := by decide +kernel
theorem dX11_pull_257 : decode cX11_pull 257 = .ok (.istore 8, 2) := by decide +kernel
theorem dX11_pull_259 : decode cX11_pull 259 = .ok (.iload 8, 2) := by decide +kernel
theorem dX11_pull_261 : decode cX11_pull 261 = .ok (.ifCond .ge 7, 3) := by decide +kernel
theorem dX11_pull_264 : decode cX11_pull 264 = .ok (.iconst 0, 1) := by decide +kernel
theorem dX11_pull_265 : decode cX11_pull 265 = .ok (.goto 4, 3) := by decide +kernel
theorem dX11_pull_268 : decode cX11_pull 268 = .ok (.iload_n 3, 1) := by decide +kernel
theorem dX11_pull_269 : decode cX11_pull 269 = .ok (.ireturn, 1) := by decide +kernel
theorem dX11_due_0 : decode cX11_due 0 = .ok (.aload_n 0, 1) := by decide +kernel
theorem dX11_due_1 : decode cX11_due 1 = .ok (.iload_n 1, 1) := by decide +kernel
theorem dX11_due_2 : decode cX11_due 2 = .ok (.invokestatic 202, 3) := by decide +kernel
theorem dX11_due_5 : decode cX11_due 5 = .ok (.ifCond .ne 7, 3) := by decide +kernel
theorem dX11_due_8 : decode cX11_due 8 = .ok (.iconst 1, 1) := by decide +kernel
theorem dX11_due_9 : decode cX11_due 9 = .ok (.goto 16, 3) := by decide +kernel
theorem dX11_due_12 : decode cX11_due 12 = .ok (.aload_n 0, 1) := by decide +kernel
theorem dX11_due_13 : decode cX11_due 13 = .ok (.iload_n 1, 1) := by decide +kernel
theorem dX11_due_14 : decode cX11_due 14 = .ok (.invokevirtual 267, 3) := by decide +kernel
theorem dX11_due_17 : decode cX11_due 17 = .ok (.ifCond .eq 7, 3) := by decide +kernel
theorem dX11_due_20 : decode cX11_due 20 = .ok (.iconst 0, 1) := by decide +kernel
theorem dX11_due_21 : decode cX11_due 21 = .ok (.goto 4, 3) := by decide +kernel
theorem dX11_due_24 : decode cX11_due 24 = .ok (.iconst 2, 1) := by decide +kernel
theorem dX11_due_25 : decode cX11_due 25 = .ok (.putfield 87, 3) := by decide +kernel
theorem dX11_due_28 : decode cX11_due 28 = .ok (.aload_n 0, 1) := by decide +kernel
theorem dX11_due_29 : decode cX11_due 29 = .ok (.getfield 87, 3) := by decide +kernel
theorem dX11_due_32 : decode cX11_due 32 = .ok (.ifCond .le 7, 3) := by decide +kernel
theorem dX11_due_35 : decode cX11_due 35 = .ok (.iconst 0, 1) := by decide +kernel
theorem dX11_due_36 : decode cX11_due 36 = .ok (.goto 8, 3) := by decide +kernel
theorem dX11_due_39 : decode cX11_due 39 = .ok (.aload_n 0, 1) := by decide +kernel
theorem dX11_due_40 : decode cX11_due 40 = .ok (.iload_n 1, 1) := by decide +kernel
theorem dX11_due_41 : decode cX11_due 41 = .ok (.invokevirtual 270, 3) := by decide +kernel
theorem dX11_due_44 : decode cX11_due 44 = .ok (.ireturn, 1) := by decide +kernel
theorem dX11_setPatience_0 : decode cX11_setPatience 0 = .ok (.aload_n 0, 1) := by decide +kernel
theorem dX11_setPatience_1 : decode cX11_setPatience 1 = .ok (.iload_n 1, 1) := by decide +kernel
theorem dX11_setPatience_2 : decode cX11_setPatience 2 = .ok (.iconst 0, 1) := by decide +kernel
theorem dX11_setPatience_3 : decode cX11_setPatience 3 = .ok (.sipush 1000, 3) := by decide +kernel
theorem dX11_setPatience_6 : decode cX11_setPatience 6 = .ok (.invokestatic 90, 3) := by decide +kernel
theorem dX11_setPatience_9 : decode cX11_setPatience 9 = .ok (.ifCond .eq 7, 3) := by decide +kernel
theorem dX11_setPatience_12 : decode cX11_setPatience 12 = .ok (.iconst 0, 1) := by decide +kernel
theorem dX11_setPatience_13 : decode cX11_setPatience 13 = .ok (.goto 4, 3) := by decide +kernel
theorem dX11_setPatience_16 : decode cX11_setPatience 16 = .ok (.iconst 1, 1) := by decide +kernel
theorem dX11_setPatience_17 : decode cX11_setPatience 17 = .ok (.putfield 87, 3) := by decide +kernel
theorem dX11_setPatience_20 : decode cX11_setPatience 20 = .ok (.aload_n 0, 1) := by decide +kernel
theorem dX11_setPatience_21 : decode cX11_setPatience 21 = .ok (.getfield 87, 3) := by decide +kernel
theorem dX11_setPatience_24 : decode cX11_setPatience 24 = .ok (.ifCond .le 5, 3) := by decide +kernel
theorem dX11_setPatience_27 : decode cX11_setPatience 27 = .ok (.iconst 0, 1) := by decide +kernel
theorem dX11_setPatience_28 : decode cX11_setPatience 28 = .ok (.ireturn, 1) := by decide +kernel
theorem dX11_setPatience_29 : decode cX11_setPatience 29 = .ok (.aload_n 0, 1) := by decide +kernel
theorem dX11_setPatience_30 : decode cX11_setPatience 30 = .ok (.getfield 66, 3) := by decide +kernel
theorem dX11_setPatience_33 : decode cX11_setPatience 33 = .ok (.istore_n 2, 1) := by decide +kernel
theorem dX11_setPatience_34 : decode cX11_setPatience 34 = .ok (.aload_n 0, 1) := by decide +kernel
theorem dX11_setPatience_35 : decode cX11_setPatience 35 = .ok (.iload_n 1, 1) := by decide +kernel
theorem dX11_setPatience_36 : decode cX11_setPatience 36 = .ok (.putfield 66, 3) := by decide +kernel
theorem dX11_setPatience_39 : decode cX11_setPatience 39 = .ok (.iload_n 2, 1) := by decide +kernel
theorem dX11_setPatience_40 : decode cX11_setPatience 40 = .ok (.ireturn, 1) := by decide +kernel
theorem dX11_done_0 : decode cX11_done 0 = .ok (.aload_n 0, 1) := by decide +kernel
theorem dX11_done_1 : decode cX11_done 1 = .ok (.iconst 0, 1) := by decide +kernel
theorem dX11_done_2 : decode cX11_done 2 = .ok (.putfield 87, 3) := by decide +kernel
theorem dX11_done_5 : decode cX11_done 5 = .ok (.aload_n 0, 1) := by decide +kernel
theorem dX11_done_6 : decode cX11_done 6 = .ok (.getfield 112, 3) := by decide +kernel
theorem dX11_done_9 : decode cX11_done 9 = .ok (.ifCond .eq 10, 3) := by decide +kernel
theorem dX11_done_12 : decode cX11_done 12 = .ok (.aload_n 0, 1) := by decide +kernel
theorem dX11_done_13 : decode cX11_done 13 = .ok (.getfield 232, 3) := by decide +kernel
theorem dX11_done_16 : decode cX11_done 16 = .ok (.goto 4, 3) := by decide +kernel
theorem dX11_done_19 : decode cX11_done 19 = .ok (.iconst (-1), 1) := by decide +kernel
theorem dX11_done_20 : decode cX11_done 20 = .ok (.ireturn, 1) := by decide +kernel
theorem dX11_delay_0 : decode cX11_delay 0 = .ok (.aload_n 0, 1) := by decide +kernel
theorem dX11_delay_1 : decode cX11_delay 1 = .ok (.iconst 0, 1) := by decide +kernel
theorem dX11_delay_2 : decode cX11_delay 2 = .ok (.putfield 87, 3) := by decide +kernel
theorem dX11_delay_5 : decode cX11_delay 5 = .ok (.aload_n 0, 1) := by decide +kernel
theorem dX11_delay_6 : decode cX11_delay 6 = .ok (.getfield 112, 3) := by decide +kernel
theorem dX11_delay_9 : decode cX11_delay 9 = .ok (.ifCond .eq 10, 3) := by decide +kernel
theorem dX11_delay_12 : decode cX11_delay 12 = .ok (.aload_n 0, 1) := by decide +kernel
theorem dX11_delay_13 : decode cX11_delay 13 = .ok (.getfield 229, 3) := by decide +kernel
theorem dX11_delay_16 : decode cX11_delay 16 = .ok (.goto 4, 3) := by decide +kernel
theorem dX11_delay_19 : decode cX11_delay 19 = .ok (.iconst 0, 1) := by decide +kernel
theorem dX11_delay_20 : decode cX11_delay 20 = .ok (.ireturn, 1) := by decide +kernel
theorem dX11_asksBell_0 : decode cX11_asksBell 0 = .ok (.aload_n 0, 1) := by decide +kernel
theorem dX11_asksBell_1 : decode cX11_asksBell 1 = .ok (.iload_n 1, 1) := by decide +kernel
theorem dX11_asksBell_2 : decode cX11_asksBell 2 = .ok (.invokestatic 202, 3) := by decide +kernel
theorem dX11_asksBell_5 : decode cX11_asksBell 5 = .ok (.ifCond .eq 7, 3) := by decide +kernel
theorem dX11_asksBell_8 : decode cX11_asksBell 8 = .ok (.iconst 0, 1) := by decide +kernel
theorem dX11_asksBell_9 : decode cX11_asksBell 9 = .ok (.goto 4, 3) := by decide +kernel
theorem dX11_asksBell_12 : decode cX11_asksBell 12 = .ok (.iconst 1, 1) := by decide +kernel
theorem dX11_asksBell_13 : decode cX11_asksBell 13 = .ok (.putfield 87, 3) := by decide +kernel
theorem dX11_asksBell_16 : decode cX11_asksBell 16 = .ok (.aload_n 0, 1) := by decide +kernel
theorem dX11_asksBell_17 : decode cX11_asksBell 17 = .ok (.getfield 87, 3) := by decide +kernel
theorem dX11_asksBell_20 : decode cX11_asksBell 20 = .ok (.ifCond .ne 7, 3) := by decide +kernel
theorem dX11_asksBell_23 : decode cX11_asksBell 23 = .ok (.iconst 1, 1) := by decide +kernel
theorem dX11_asksBell_24 : decode cX11_asksBell 24 = .ok (.goto 4, 3) := by decide +kernel
theorem dX11_asksBell_27 : decode cX11_asksBell 27 = .ok (.iconst 0, 1) := by decide +kernel
theorem dX11_asksBell_28 : decode cX11_asksBell 28 = .ok (.ireturn, 1) := by decide +kernel
theorem dX11_late_0 : decode cX11_late 0 = .ok (.aload_n 0, 1) := by decide +kernel
theorem dX11_late_1 : decode cX11_late 1 = .ok (.iload_n 1, 1) := by decide +kernel
theorem dX11_late_2 : decode cX11_late 2 = .ok (.invokevirtual 279, 3) := by decide +kernel
theorem dX11_late_5 : decode cX11_late 5 = .ok (.ifCond .eq 12, 3) := by decide +kernel
theorem dX11_late_8 : decode cX11_late 8 = .ok (.aload_n 0, 1) := by decide +kernel
theorem dX11_late_9 : decode cX11_late 9 = .ok (.getfield 75, 3) := by decide +kernel
theorem dX11_late_12 : decode cX11_late 12 = .ok (.iload_n 1, 1) := by decide +kernel
theorem dX11_late_13 : decode cX11_late 13 = .ok (.iaload, 1) := by decide +kernel
theorem dX11_late_14 : decode cX11_late 14 = .ok (.goto 4, 3) := by decide +kernel
theorem dX11_late_17 : decode cX11_late 17 = .ok (.iconst 0, 1) := by decide +kernel
theorem dX11_late_18 : decode cX11_late 18 = .ok (.ireturn, 1) := by decide +kernel
theorem dX11_early_0 : decode cX11_early 0 = .ok (.aload_n 0, 1) := by decide +kernel
theorem dX11_early_1 : decode cX11_early 1 = .ok (.iload_n 1, 1) := by decide +kernel
theorem dX11_early_2 : decode cX11_early 2 = .ok (.invokevirtual 279, 3) := by decide +kernel
theorem dX11_early_5 : decode cX11_early 5 = .ok (.ifCond .eq 12, 3) := by decide +kernel
theorem dX11_early_8 : decode cX11_early 8 = .ok (.aload_n 0, 1) := by decide +kernel
theorem dX11_early_9 : decode cX11_early 9 = .ok (.getfield 78, 3) := by decide +kernel
theorem dX11_early_12 : decode cX11_early 12 = .ok (.iload_n 1, 1) := by decide +kernel
theorem dX11_early_13 : decode cX11_early 13 = .ok (.iaload, 1) := by decide +kernel
theorem dX11_early_14 : decode cX11_early 14 = .ok (.goto 4, 3) := by decide +kernel
theorem dX11_early_17 : decode cX11_early 17 = .ok (.iconst 0, 1) := by decide +kernel
theorem dX11_early_18 : decode cX11_early 18 = .ok (.ireturn, 1) := by decide +kernel
theorem dX11_errors_0 : decode cX11_errors 0 = .ok (.aload_n 0, 1) := by decide +kernel
theorem dX11_errors_1 : decode cX11_errors 1 = .ok (.iload_n 1, 1) := by decide +kernel
theorem dX11_errors_2 : decode cX11_errors 2 = .ok (.invokevirtual 279, 3) := by decide +kernel
theorem dX11_errors_5 : decode cX11_errors 5 = .ok (.ifCond .eq 12, 3) := by decide +kernel
theorem dX11_errors_8 : decode cX11_errors 8 = .ok (.aload_n 0, 1) := by decide +kernel
theorem dX11_errors_9 : decode cX11_errors 9 = .ok (.getfield 81, 3) := by decide +kernel
theorem dX11_errors_12 : decode cX11_errors 12 = .ok (.iload_n 1, 1) := by decide +kernel
theorem dX11_errors_13 : decode cX11_errors 13 = .ok (.iaload, 1) := by decide +kernel
theorem dX11_errors_14 : decode cX11_errors 14 = .ok (.goto 4, 3) := by decide +kernel
theorem dX11_errors_17 : decode cX11_errors 17 = .ok (.iconst 0, 1) := by decide +kernel
theorem dX11_errors_18 : decode cX11_errors 18 = .ok (.ireturn, 1) := by decide +kernel
theorem dX11_wrong_0 : decode cX11_wrong 0 = .ok (.aload_n 0, 1) := by decide +kernel
theorem dX11_wrong_1 : decode cX11_wrong 1 = .ok (.iconst 0, 1) := by decide +kernel
theorem dX11_wrong_2 : decode cX11_wrong 2 = .ok (.putfield 87, 3) := by decide +kernel
theorem dX11_wrong_5 : decode cX11_wrong 5 = .ok (.aload_n 0, 1) := by decide +kernel
theorem dX11_wrong_6 : decode cX11_wrong 6 = .ok (.getfield 244, 3) := by decide +kernel
theorem dX11_wrong_9 : decode cX11_wrong 9 = .ok (.ireturn, 1) := by decide +kernel
theorem dX11_rung_0 : decode cX11_rung 0 = .ok (.aload_n 0, 1) := by decide +kernel
theorem dX11_rung_1 : decode cX11_rung 1 = .ok (.iconst 0, 1) := by decide +kernel
theorem dX11_rung_2 : decode cX11_rung 2 = .ok (.putfield 87, 3) := by decide +kernel
theorem dX11_rung_5 : decode cX11_rung 5 = .ok (.aload_n 0, 1) := by decide +kernel
theorem dX11_rung_6 : decode cX11_rung 6 = .ok (.getfield 250, 3) := by decide +kernel
theorem dX11_rung_9 : decode cX11_rung 9 = .ok (.ireturn, 1) := by decide +kernel
theorem dX11_latest_0 : decode cX11_latest 0 = .ok (.aload_n 0, 1) := by decide +kernel
theorem dX11_latest_1 : decode cX11_latest 1 = .ok (.iconst 0, 1) := by decide +kernel
theorem dX11_latest_2 : decode cX11_latest 2 = .ok (.putfield 87, 3) := by decide +kernel
theorem dX11_latest_5 : decode cX11_latest 5 = .ok (.aload_n 0, 1) := by decide +kernel
theorem dX11_latest_6 : decode cX11_latest 6 = .ok (.getfield 84, 3) := by decide +kernel
theorem dX11_latest_9 : decode cX11_latest 9 = .ok (.ireturn, 1) := by decide +kernel
theorem dJ6_bitCount_0f7a4_0 : decode cJ6_bitCount_0f7a4 0 = .ok (.iload_n 0, 1) := by decide +kernel
theorem dJ6_bitCount_0f7a4_1 : decode cJ6_bitCount_0f7a4 1 = .ok (.iload_n 0, 1) := by decide +kernel
theorem dJ6_bitCount_0f7a4_2 : decode cJ6_bitCount_0f7a4 2 = .ok (.iconst 1, 1) := by decide +kernel
theorem dJ6_bitCount_0f7a4_3 : decode cJ6_bitCount_0f7a4 3 = .ok (.iushr, 1) := by decide +kernel
theorem dJ6_bitCount_0f7a4_4 : decode cJ6_bitCount_0f7a4 4 = .ok (.ldc_w 265, 3) := by decide +kernel
theorem dJ6_bitCount_0f7a4_7 : decode cJ6_bitCount_0f7a4 7 = .ok (.iand, 1) := by decide +kernel
theorem dJ6_bitCount_0f7a4_8 : decode cJ6_bitCount_0f7a4 8 = .ok (.isub, 1) := by decide +kernel
theorem dJ6_bitCount_0f7a4_9 : decode cJ6_bitCount_0f7a4 9 = .ok (.istore_n 0, 1) := by decide +kernel
theorem dJ6_bitCount_0f7a4_10 : decode cJ6_bitCount_0f7a4 10 = .ok (.iload_n 0, 1) := by decide +kernel
theorem dJ6_bitCount_0f7a4_11 : decode cJ6_bitCount_0f7a4 11 = .ok (.ldc_w 266, 3) := by decide +kernel
theorem dJ6_bitCount_0f7a4_14 : decode cJ6_bitCount_0f7a4 14 = .ok (.iand, 1) := by decide +kernel
theorem dJ6_bitCount_0f7a4_15 : decode cJ6_bitCount_0f7a4 15 = .ok (.iload_n 0, 1) := by decide +kernel
theorem dJ6_bitCount_0f7a4_16 : decode cJ6_bitCount_0f7a4 16 = .ok (.iconst 2, 1) := by decide +kernel
theorem dJ6_bitCount_0f7a4_17 : decode cJ6_bitCount_0f7a4 17 = .ok (.iushr, 1) := by decide +kernel
theorem dJ6_bitCount_0f7a4_18 : decode cJ6_bitCount_0f7a4 18 = .ok (.ldc_w 266, 3) := by decide +kernel
theorem dJ6_bitCount_0f7a4_21 : decode cJ6_bitCount_0f7a4 21 = .ok (.iand, 1) := by decide +kernel
theorem dJ6_bitCount_0f7a4_22 : decode cJ6_bitCount_0f7a4 22 = .ok (.iadd, 1) := by decide +kernel
theorem dJ6_bitCount_0f7a4_23 : decode cJ6_bitCount_0f7a4 23 = .ok (.istore_n 0, 1) := by decide +kernel
theorem dJ6_bitCount_0f7a4_24 : decode cJ6_bitCount_0f7a4 24 = .ok (.iload_n 0, 1) := by decide +kernel
theorem dJ6_bitCount_0f7a4_25 : decode cJ6_bitCount_0f7a4 25 = .ok (.iload_n 0, 1) := by decide +kernel
theorem dJ6_bitCount_0f7a4_26 : decode cJ6_bitCount_0f7a4 26 = .ok (.iconst 4, 1) := by decide +kernel
theorem dJ6_bitCount_0f7a4_27 : decode cJ6_bitCount_0f7a4 27 = .ok (.iushr, 1) := by decide +kernel
theorem dJ6_bitCount_0f7a4_28 : decode cJ6_bitCount_0f7a4 28 = .ok (.iadd, 1) := by decide +kernel
theorem dJ6_bitCount_0f7a4_29 : decode cJ6_bitCount_0f7a4 29 = .ok (.ldc_w 267, 3) := by decide +kernel
theorem dJ6_bitCount_0f7a4_32 : decode cJ6_bitCount_0f7a4 32 = .ok (.iand, 1) := by decide +kernel
theorem dJ6_bitCount_0f7a4_33 : decode cJ6_bitCount_0f7a4 33 = .ok (.istore_n 0, 1) := by decide +kernel
theorem dJ6_bitCount_0f7a4_34 : decode cJ6_bitCount_0f7a4 34 = .ok (.iload_n 0, 1) := by decide +kernel
theorem dJ6_bitCount_0f7a4_35 : decode cJ6_bitCount_0f7a4 35 = .ok (.iload_n 0, 1) := by decide +kernel
theorem dJ6_bitCount_0f7a4_36 : decode cJ6_bitCount_0f7a4 36 = .ok (.bipush 8, 2) := by decide +kernel
theorem dJ6_bitCount_0f7a4_38 : decode cJ6_bitCount_0f7a4 38 = .ok (.iushr, 1) := by decide +kernel
theorem dJ6_bitCount_0f7a4_39 : decode cJ6_bitCount_0f7a4 39 = .ok (.iadd, 1) := by decide +kernel
theorem dJ6_bitCount_0f7a4_40 : decode cJ6_bitCount_0f7a4 40 = .ok (.istore_n 0, 1) := by decide +kernel
theorem dJ6_bitCount_0f7a4_41 : decode cJ6_bitCount_0f7a4 41 = .ok (.iload_n 0, 1) := by decide +kernel
theorem dJ6_bitCount_0f7a4_42 : decode cJ6_bitCount_0f7a4 42 = .ok (.iload_n 0, 1) := by decide +kernel
theorem dJ6_bitCount_0f7a4_43 : decode cJ6_bitCount_0f7a4 43 = .ok (.bipush 16, 2) := by decide +kernel
theorem dJ6_bitCount_0f7a4_45 : decode cJ6_bitCount_0f7a4 45 = .ok (.iushr, 1) := by decide +kernel
theorem dJ6_bitCount_0f7a4_46 : decode cJ6_bitCount_0f7a4 46 = .ok (.iadd, 1) := by decide +kernel
theorem dJ6_bitCount_0f7a4_47 : decode cJ6_bitCount_0f7a4 47 = .ok (.istore_n 0, 1) := by decide +kernel
theorem dJ6_bitCount_0f7a4_48 : decode cJ6_bitCount_0f7a4 48 = .ok (.iload_n 0, 1) := by decide +kernel
theorem dJ6_bitCount_0f7a4_49 : decode cJ6_bitCount_0f7a4 49 = .ok (.bipush 63, 2) := by decide +kernel
theorem dJ6_bitCount_0f7a4_51 : decode cJ6_bitCount_0f7a4 51 = .ok (.iand, 1) := by decide +kernel
theorem dJ6_bitCount_0f7a4_52 : decode cJ6_bitCount_0f7a4 52 = .ok (.ireturn, 1) := by decide +kernel
theorem dJ9_max_7cf53_0 : decode cJ9_max_7cf53 0 = .ok (.iload_n 0, 1) := by decide +kernel
theorem dJ9_max_7cf53_1 : decode cJ9_max_7cf53 1 = .ok (.iload_n 1, 1) := by decide +kernel
theorem dJ9_max_7cf53_2 : decode cJ9_max_7cf53 2 = .ok (.if_icmp .lt 7, 3) := by decide +kernel
theorem dJ9_max_7cf53_5 : decode cJ9_max_7cf53 5 = .ok (.iload_n 0, 1) := by decide +kernel
theorem dJ9_max_7cf53_6 : decode cJ9_max_7cf53 6 = .ok (.goto 4, 3) := by decide +kernel
theorem dJ9_max_7cf53_9 : decode cJ9_max_7cf53 9 = .ok (.iload_n 1, 1) := by decide +kernel
theorem dJ9_max_7cf53_10 : decode cJ9_max_7cf53 10 = .ok (.ireturn, 1) := by decide +kernel
theorem dJ9_min_7cf53_0 : decode cJ9_min_7cf53 0 = .ok (.iload_n 0, 1) := by decide +kernel
theorem dJ9_min_7cf53_1 : decode cJ9_min_7cf53 1 = .ok (.iload_n 1, 1) := by decide +kernel
theorem dJ9_min_7cf53_2 : decode cJ9_min_7cf53 2 = .ok (.if_icmp .gt 7, 3) := by decide +kernel
theorem dJ9_min_7cf53_5 : decode cJ9_min_7cf53 5 = .ok (.iload_n 0, 1) := by decide +kernel
theorem dJ9_min_7cf53_6 : decode cJ9_min_7cf53 6 = .ok (.goto 4, 3) := by decide +kernel
theorem dJ9_min_7cf53_9 : decode cJ9_min_7cf53 9 = .ok (.iload_n 1, 1) := by decide +kernel
theorem dJ9_min_7cf53_10 : decode cJ9_min_7cf53 10 = .ok (.ireturn, 1) := by decide +kernel
theorem dJxa1e45_init_da8c8_0 : decode cJxa1e45_init_da8c8 0 = .ok (.aload_n 0, 1) := by decide +kernel
theorem dJxa1e45_init_da8c8_1 : decode cJxa1e45_init_da8c8 1 = .ok (.invokespecial 1, 3) := by decide +kernel
theorem dJxa1e45_init_da8c8_4 : decode cJxa1e45_init_da8c8 4 = .ok (.return_, 1) := by decide +kernel
theorem dJxc12de_init_da8c8_0 : decode cJxc12de_init_da8c8 0 = .ok (.aload_n 0, 1) := by decide +kernel
theorem dJxc12de_init_da8c8_1 : decode cJxc12de_init_da8c8 1 = .ok (.invokespecial 1, 3) := by decide +kernel
theorem dJxc12de_init_da8c8_4 : decode cJxc12de_init_da8c8 4 = .ok (.aload_n 0, 1) := by decide +kernel
theorem dJxc12de_init_da8c8_5 : decode cJxc12de_init_da8c8 5 = .ok (.iconst 0, 1) := by decide +kernel
theorem dJxc12de_init_da8c8_6 : decode cJxc12de_init_da8c8 6 = .ok (.putfield 7, 3) := by decide +kernel
theorem dJxc12de_init_da8c8_9 : decode cJxc12de_init_da8c8 9 = .ok (.return_, 1) := by decide +kernel
theorem dJx4a65c_init_da8c8_0 : decode cJx4a65c_init_da8c8 0 = .ok (.aload_n 0, 1) := by decide +kernel
theorem dJx4a65c_init_da8c8_1 : decode cJx4a65c_init_da8c8 1 = .ok (.invokespecial 1, 3) := by decide +kernel
theorem dJx4a65c_init_da8c8_4 : decode cJx4a65c_init_da8c8 4 = .ok (.aload_n 0, 1) := by decide +kernel
theorem dJx4a65c_init_da8c8_5 : decode cJx4a65c_init_da8c8 5 = .ok (.getstatic 39, 3) := by decide +kernel
theorem dJx4a65c_init_da8c8_8 : decode cJx4a65c_init_da8c8 8 = .ok (.putfield 9, 3) := by decide +kernel
theorem dJx4a65c_init_da8c8_11 : decode cJx4a65c_init_da8c8 11 = .ok (.return_, 1) := by decide +kernel
theorem dJx4a65c_grow_92f84_0 : decode cJx4a65c_grow_92f84 0 = .ok (.aload_n 0, 1) := by decide +kernel
theorem dJx4a65c_grow_92f84_1 : decode cJx4a65c_grow_92f84 1 = .ok (.getfield 9, 3) := by decide +kernel
theorem dJx4a65c_grow_92f84_4 : decode cJx4a65c_grow_92f84 4 = .ok (.arraylength, 1) := by decide +kernel
theorem dJx4a65c_grow_92f84_5 : decode cJx4a65c_grow_92f84 5 = .ok (.istore_n 2, 1) := by decide +kernel
theorem dJx4a65c_grow_92f84_6 : decode cJx4a65c_grow_92f84 6 = .ok (.iload_n 2, 1) := by decide +kernel
theorem dJx4a65c_grow_92f84_7 : decode cJx4a65c_grow_92f84 7 = .ok (.ifCond .gt 13, 3) := by decide +kernel
theorem dJx4a65c_grow_92f84_10 : decode cJx4a65c_grow_92f84 10 = .ok (.aload_n 0, 1) := by decide +kernel
theorem dJx4a65c_grow_92f84_11 : decode cJx4a65c_grow_92f84 11 = .ok (.getfield 9, 3) := by decide +kernel
theorem dJx4a65c_grow_92f84_14 : decode cJx4a65c_grow_92f84 14 = .ok (.getstatic 39, 3) := by decide +kernel
theorem dJx4a65c_grow_92f84_17 : decode cJx4a65c_grow_92f84 17 = .ok (.if_acmp .eq 28, 3) := by decide +kernel
theorem dJx4a65c_grow_92f84_20 : decode cJx4a65c_grow_92f84 20 = .ok (.iload_n 2, 1) := by decide +kernel
theorem dJx4a65c_grow_92f84_21 : decode cJx4a65c_grow_92f84 21 = .ok (.iload_n 1, 1) := by decide +kernel
theorem dJx4a65c_grow_92f84_22 : decode cJx4a65c_grow_92f84 22 = .ok (.iload_n 2, 1) := by decide +kernel
theorem dJx4a65c_grow_92f84_23 : decode cJx4a65c_grow_92f84 23 = .ok (.isub, 1) := by decide +kernel
theorem dJx4a65c_grow_92f84_24 : decode cJx4a65c_grow_92f84 24 = .ok (.iload_n 2, 1) := by decide +kernel
theorem dJx4a65c_grow_92f84_25 : decode cJx4a65c_grow_92f84 25 = .ok (.iconst 1, 1) := by decide +kernel
theorem dJx4a65c_grow_92f84_26 : decode cJx4a65c_grow_92f84 26 = .ok (.ishr, 1) := by decide +kernel
theorem dJx4a65c_grow_92f84_27 : decode cJx4a65c_grow_92f84 27 = .ok (.invokestatic 73, 3) := by decide +kernel
theorem dJx4a65c_grow_92f84_30 : decode cJx4a65c_grow_92f84 30 = .ok (.istore_n 3, 1) := by decide +kernel
theorem dJx4a65c_grow_92f84_31 : decode cJx4a65c_grow_92f84 31 = .ok (.aload_n 0, 1) := by decide +kernel
theorem dJx4a65c_grow_92f84_32 : decode cJx4a65c_grow_92f84 32 = .ok (.aload_n 0, 1) := by decide +kernel
theorem dJx4a65c_grow_92f84_33 : decode cJx4a65c_grow_92f84 33 = .ok (.getfield 9, 3) := by decide +kernel
theorem dJx4a65c_grow_92f84_36 : decode cJx4a65c_grow_92f84 36 = .ok (.iload_n 3, 1) := by decide +kernel
theorem dJx4a65c_grow_92f84_37 : decode cJx4a65c_grow_92f84 37 = .ok (.invokestatic 66, 3) := by decide +kernel
theorem dJx4a65c_grow_92f84_40 : decode cJx4a65c_grow_92f84 40 = .ok (.dup_x1, 1) := by decide +kernel
theorem dJx4a65c_grow_92f84_41 : decode cJx4a65c_grow_92f84 41 = .ok (.putfield 9, 3) := by decide +kernel
theorem dJx4a65c_grow_92f84_44 : decode cJx4a65c_grow_92f84 44 = .ok (.areturn, 1) := by decide +kernel
theorem dJx4a65c_grow_92f84_45 : decode cJx4a65c_grow_92f84 45 = .ok (.aload_n 0, 1) := by decide +kernel
theorem dJx4a65c_grow_92f84_46 : decode cJx4a65c_grow_92f84 46 = .ok (.bipush 10, 2) := by decide +kernel
theorem dJx4a65c_grow_92f84_48 : decode cJx4a65c_grow_92f84 48 = .ok (.iload_n 1, 1) := by decide +kernel
theorem dJx4a65c_grow_92f84_49 : decode cJx4a65c_grow_92f84 49 = .ok (.invokestatic 79, 3) := by decide +kernel
theorem dJx4a65c_grow_92f84_52 : decode cJx4a65c_grow_92f84 52 = .ok (.anewarray 7, 3) := by decide +kernel
theorem dJx4a65c_grow_92f84_55 : decode cJx4a65c_grow_92f84 55 = .ok (.dup_x1, 1) := by decide +kernel
theorem dJx4a65c_grow_92f84_56 : decode cJx4a65c_grow_92f84 56 = .ok (.putfield 9, 3) := by decide +kernel
theorem dJx4a65c_grow_92f84_59 : decode cJx4a65c_grow_92f84 59 = .ok (.areturn, 1) := by decide +kernel
theorem dJx4a65c_grow_d5877_0 : decode cJx4a65c_grow_d5877 0 = .ok (.aload_n 0, 1) := by decide +kernel
theorem dJx4a65c_grow_d5877_1 : decode cJx4a65c_grow_d5877 1 = .ok (.aload_n 0, 1) := by decide +kernel
theorem dJx4a65c_grow_d5877_2 : decode cJx4a65c_grow_d5877 2 = .ok (.getfield 48, 3) := by decide +kernel
theorem dJx4a65c_grow_d5877_5 : decode cJx4a65c_grow_d5877 5 = .ok (.iconst 1, 1) := by decide +kernel
theorem dJx4a65c_grow_d5877_6 : decode cJx4a65c_grow_d5877 6 = .ok (.iadd, 1) := by decide +kernel
theorem dJx4a65c_grow_d5877_7 : decode cJx4a65c_grow_d5877 7 = .ok (.invokevirtual 69, 3) := by decide +kernel
theorem dJx4a65c_grow_d5877_10 : decode cJx4a65c_grow_d5877 10 = .ok (.areturn, 1) := by decide +kernel
theorem dJx4a65c_size_8abf5_0 : decode cJx4a65c_size_8abf5 0 = .ok (.aload_n 0, 1) := by decide +kernel
theorem dJx4a65c_size_8abf5_1 : decode cJx4a65c_size_8abf5 1 = .ok (.getfield 48, 3) := by decide +kernel
theorem dJx4a65c_size_8abf5_4 : decode cJx4a65c_size_8abf5 4 = .ok (.ireturn, 1) := by decide +kernel
theorem dJx4a65c_isEmpty_aae02_0 : decode cJx4a65c_isEmpty_aae02 0 = .ok (.aload_n 0, 1) := by decide +kernel
theorem dJx4a65c_isEmpty_aae02_1 : decode cJx4a65c_isEmpty_aae02 1 = .ok (.getfield 48, 3) := by decide +kernel
theorem dJx4a65c_isEmpty_aae02_4 : decode cJx4a65c_isEmpty_aae02 4 = .ok (.ifCond .ne 7, 3) := by decide +kernel
theorem dJx4a65c_isEmpty_aae02_7 : decode cJx4a65c_isEmpty_aae02 7 = .ok (.iconst 1, 1) := by decide +kernel
theorem dJx4a65c_isEmpty_aae02_8 : decode cJx4a65c_isEmpty_aae02 8 = .ok (.goto 4, 3) := by decide +kernel
theorem dJx4a65c_isEmpty_aae02_11 : decode cJx4a65c_isEmpty_aae02 11 = .ok (.iconst 0, 1) := by decide +kernel
theorem dJx4a65c_isEmpty_aae02_12 : decode cJx4a65c_isEmpty_aae02 12 = .ok (.ireturn, 1) := by decide +kernel
theorem dJx4a65c_elementData_915e3_0 : decode cJx4a65c_elementData_915e3 0 = .ok (.aload_n 0, 1) := by decide +kernel
theorem dJx4a65c_elementData_915e3_1 : decode cJx4a65c_elementData_915e3 1 = .ok (.getfield 9, 3) := by decide +kernel
theorem dJx4a65c_elementData_915e3_4 : decode cJx4a65c_elementData_915e3 4 = .ok (.iload_n 1, 1) := by decide +kernel
theorem dJx4a65c_elementData_915e3_5 : decode cJx4a65c_elementData_915e3 5 = .ok (.aaload, 1) := by decide +kernel
theorem dJx4a65c_elementData_915e3_6 : decode cJx4a65c_elementData_915e3 6 = .ok (.areturn, 1) := by decide +kernel
theorem dJx4a65c_get_915e3_0 : decode cJx4a65c_get_915e3 0 = .ok (.iload_n 1, 1) := by decide +kernel
theorem dJx4a65c_get_915e3_1 : decode cJx4a65c_get_915e3 1 = .ok (.aload_n 0, 1) := by decide +kernel
theorem dJx4a65c_get_915e3_2 : decode cJx4a65c_get_915e3 2 = .ok (.getfield 48, 3) := by decide +kernel
theorem dJx4a65c_get_915e3_5 : decode cJx4a65c_get_915e3 5 = .ok (.invokestatic 118, 3) := by decide +kernel
theorem dJx4a65c_get_915e3_8 : decode cJx4a65c_get_915e3 8 = .ok (.pop, 1) := by decide +kernel
theorem dJx4a65c_get_915e3_9 : decode cJx4a65c_get_915e3 9 = .ok (.aload_n 0, 1) := by decide +kernel
theorem dJx4a65c_get_915e3_10 : decode cJx4a65c_get_915e3 10 = .ok (.iload_n 1, 1) := by decide +kernel
theorem dJx4a65c_get_915e3_11 : decode cJx4a65c_get_915e3 11 = .ok (.invokevirtual 123, 3) := by decide +kernel
theorem dJx4a65c_get_915e3_14 : decode cJx4a65c_get_915e3 14 = .ok (.areturn, 1) := by decide +kernel
theorem dJx4a65c_add_72be8_0 : decode cJx4a65c_add_72be8 0 = .ok (.iload_n 3, 1) := by decide +kernel
theorem dJx4a65c_add_72be8_1 : decode cJx4a65c_add_72be8 1 = .ok (.aload_n 2, 1) := by decide +kernel
theorem dJx4a65c_add_72be8_2 : decode cJx4a65c_add_72be8 2 = .ok (.arraylength, 1) := by decide +kernel
theorem dJx4a65c_add_72be8_3 : decode cJx4a65c_add_72be8 3 = .ok (.if_icmp .ne 8, 3) := by decide +kernel
theorem dJx4a65c_add_72be8_6 : decode cJx4a65c_add_72be8 6 = .ok (.aload_n 0, 1) := by decide +kernel
theorem dJx4a65c_add_72be8_7 : decode cJx4a65c_add_72be8 7 = .ok (.invokevirtual 129, 3) := by decide +kernel
theorem dJx4a65c_add_72be8_10 : decode cJx4a65c_add_72be8 10 = .ok (.astore_n 2, 1) := by decide +kernel
theorem dJx4a65c_add_72be8_11 : decode cJx4a65c_add_72be8 11 = .ok (.aload_n 2, 1) := by decide +kernel
theorem dJx4a65c_add_72be8_12 : decode cJx4a65c_add_72be8 12 = .ok (.iload_n 3, 1) := by decide +kernel
theorem dJx4a65c_add_72be8_13 : decode cJx4a65c_add_72be8 13 = .ok (.aload_n 1, 1) := by decide +kernel
theorem dJx4a65c_add_72be8_14 : decode cJx4a65c_add_72be8 14 = .ok (.aastore, 1) := by decide +kernel
theorem dJx4a65c_add_72be8_15 : decode cJx4a65c_add_72be8 15 = .ok (.aload_n 0, 1) := by decide +kernel
theorem dJx4a65c_add_72be8_16 : decode cJx4a65c_add_72be8 16 = .ok (.iload_n 3, 1) := by decide +kernel
theorem dJx4a65c_add_72be8_17 : decode cJx4a65c_add_72be8 17 = .ok (.iconst 1, 1) := by decide +kernel
theorem dJx4a65c_add_72be8_18 : decode cJx4a65c_add_72be8 18 = .ok (.iadd, 1) := by decide +kernel
theorem dJx4a65c_add_72be8_19 : decode cJx4a65c_add_72be8 19 = .ok (.putfield 48, 3) := by decide +kernel
theorem dJx4a65c_add_72be8_22 : decode cJx4a65c_add_72be8 22 = .ok (.return_, 1) := by decide +kernel
theorem dJx4a65c_add_9ea2d_0 : decode cJx4a65c_add_9ea2d 0 = .ok (.aload_n 0, 1) := by decide +kernel
theorem dJx4a65c_add_9ea2d_1 : decode cJx4a65c_add_9ea2d 1 = .ok (.dup, 1) := by decide +kernel
theorem dJx4a65c_add_9ea2d_2 : decode cJx4a65c_add_9ea2d 2 = .ok (.getfield 63, 3) := by decide +kernel
theorem dJx4a65c_add_9ea2d_5 : decode cJx4a65c_add_9ea2d 5 = .ok (.iconst 1, 1) := by decide +kernel
theorem dJx4a65c_add_9ea2d_6 : decode cJx4a65c_add_9ea2d 6 = .ok (.iadd, 1) := by decide +kernel
theorem dJx4a65c_add_9ea2d_7 : decode cJx4a65c_add_9ea2d 7 = .ok (.putfield 63, 3) := by decide +kernel
theorem dJx4a65c_add_9ea2d_10 : decode cJx4a65c_add_9ea2d 10 = .ok (.aload_n 0, 1) := by decide +kernel
theorem dJx4a65c_add_9ea2d_11 : decode cJx4a65c_add_9ea2d 11 = .ok (.aload_n 1, 1) := by decide +kernel
theorem dJx4a65c_add_9ea2d_12 : decode cJx4a65c_add_9ea2d 12 = .ok (.aload_n 0, 1) := by decide +kernel
theorem dJx4a65c_add_9ea2d_13 : decode cJx4a65c_add_9ea2d 13 = .ok (.getfield 9, 3) := by decide +kernel
theorem dJx4a65c_add_9ea2d_16 : decode cJx4a65c_add_9ea2d 16 = .ok (.aload_n 0, 1) := by decide +kernel
theorem dJx4a65c_add_9ea2d_17 : decode cJx4a65c_add_9ea2d 17 = .ok (.getfield 48, 3) := by decide +kernel
theorem dJx4a65c_add_9ea2d_20 : decode cJx4a65c_add_9ea2d 20 = .ok (.invokevirtual 131, 3) := by decide +kernel
theorem dJx4a65c_add_9ea2d_23 : decode cJx4a65c_add_9ea2d 23 = .ok (.iconst 1, 1) := by decide +kernel
theorem dJx4a65c_add_9ea2d_24 : decode cJx4a65c_add_9ea2d 24 = .ok (.ireturn, 1) := by decide +kernel
theorem dJx4a65c_remove_915e3_0 : decode cJx4a65c_remove_915e3 0 = .ok (.iload_n 1, 1) := by decide +kernel
theorem dJx4a65c_remove_915e3_1 : decode cJx4a65c_remove_915e3 1 = .ok (.aload_n 0, 1) := by decide +kernel
theorem dJx4a65c_remove_915e3_2 : decode cJx4a65c_remove_915e3 2 = .ok (.getfield 48, 3) := by decide +kernel
theorem dJx4a65c_remove_915e3_5 : decode cJx4a65c_remove_915e3 5 = .ok (.invokestatic 118, 3) := by decide +kernel
theorem dJx4a65c_remove_915e3_8 : decode cJx4a65c_remove_915e3 8 = .ok (.pop, 1) := by decide +kernel
theorem dJx4a65c_remove_915e3_9 : decode cJx4a65c_remove_915e3 9 = .ok (.aload_n 0, 1) := by decide +kernel
theorem dJx4a65c_remove_915e3_10 : decode cJx4a65c_remove_915e3 10 = .ok (.getfield 9, 3) := by decide +kernel
theorem dJx4a65c_remove_915e3_13 : decode cJx4a65c_remove_915e3 13 = .ok (.astore_n 2, 1) := by decide +kernel
theorem dJx4a65c_remove_915e3_14 : decode cJx4a65c_remove_915e3 14 = .ok (.aload_n 2, 1) := by decide +kernel
theorem dJx4a65c_remove_915e3_15 : decode cJx4a65c_remove_915e3 15 = .ok (.iload_n 1, 1) := by decide +kernel
theorem dJx4a65c_remove_915e3_16 : decode cJx4a65c_remove_915e3 16 = .ok (.aaload, 1) := by decide +kernel
theorem dJx4a65c_remove_915e3_17 : decode cJx4a65c_remove_915e3 17 = .ok (.astore_n 3, 1) := by decide +kernel
theorem dJx4a65c_remove_915e3_18 : decode cJx4a65c_remove_915e3 18 = .ok (.aload_n 0, 1) := by decide +kernel
theorem dJx4a65c_remove_915e3_19 : decode cJx4a65c_remove_915e3 19 = .ok (.aload_n 2, 1) := by decide +kernel
theorem dJx4a65c_remove_915e3_20 : decode cJx4a65c_remove_915e3 20 = .ok (.iload_n 1, 1) := by decide +kernel
theorem dJx4a65c_remove_915e3_21 : decode cJx4a65c_remove_915e3 21 = .ok (.invokevirtual 144, 3) := by decide +kernel
theorem dJx4a65c_remove_915e3_24 : decode cJx4a65c_remove_915e3 24 = .ok (.aload_n 3, 1) := by decide +kernel
theorem dJx4a65c_remove_915e3_25 : decode cJx4a65c_remove_915e3 25 = .ok (.areturn, 1) := by decide +kernel
theorem dJx4a65c_fastRemove_b59b0_0 : decode cJx4a65c_fastRemove_b59b0 0 = .ok (.aload_n 0, 1) := by decide +kernel
theorem dJx4a65c_fastRemove_b59b0_1 : decode cJx4a65c_fastRemove_b59b0 1 = .ok (.dup, 1) := by decide +kernel
theorem dJx4a65c_fastRemove_b59b0_2 : decode cJx4a65c_fastRemove_b59b0 2 = .ok (.getfield 63, 3) := by decide +kernel
theorem dJx4a65c_fastRemove_b59b0_5 : decode cJx4a65c_fastRemove_b59b0 5 = .ok (.iconst 1, 1) := by decide +kernel
theorem dJx4a65c_fastRemove_b59b0_6 : decode cJx4a65c_fastRemove_b59b0 6 = .ok (.iadd, 1) := by decide +kernel
theorem dJx4a65c_fastRemove_b59b0_7 : decode cJx4a65c_fastRemove_b59b0 7 = .ok (.putfield 63, 3) := by decide +kernel
theorem dJx4a65c_fastRemove_b59b0_10 : decode cJx4a65c_fastRemove_b59b0 10 = .ok (.aload_n 0, 1) := by decide +kernel
theorem dJx4a65c_fastRemove_b59b0_11 : decode cJx4a65c_fastRemove_b59b0 11 = .ok (.getfield 48, 3) := by decide +kernel
theorem dJx4a65c_fastRemove_b59b0_14 : decode cJx4a65c_fastRemove_b59b0 14 = .ok (.iconst 1, 1) := by decide +kernel
theorem dJx4a65c_fastRemove_b59b0_15 : decode cJx4a65c_fastRemove_b59b0 15 = .ok (.isub, 1) := by decide +kernel
theorem dJx4a65c_fastRemove_b59b0_16 : decode cJx4a65c_fastRemove_b59b0 16 = .ok (.dup, 1) := by decide +kernel
theorem dJx4a65c_fastRemove_b59b0_17 : decode cJx4a65c_fastRemove_b59b0 17 = .ok (.istore_n 3, 1) := by decide +kernel
theorem dJx4a65c_fastRemove_b59b0_18 : decode cJx4a65c_fastRemove_b59b0 18 = .ok (.iload_n 2, 1) := by decide +kernel
theorem dJx4a65c_fastRemove_b59b0_19 : decode cJx4a65c_fastRemove_b59b0 19 = .ok (.if_icmp .le 15, 3) := by decide +kernel
theorem dJx4a65c_fastRemove_b59b0_22 : decode cJx4a65c_fastRemove_b59b0 22 = .ok (.aload_n 1, 1) := by decide +kernel
theorem dJx4a65c_fastRemove_b59b0_23 : decode cJx4a65c_fastRemove_b59b0 23 = .ok (.iload_n 2, 1) := by decide +kernel
theorem dJx4a65c_fastRemove_b59b0_24 : decode cJx4a65c_fastRemove_b59b0 24 = .ok (.iconst 1, 1) := by decide +kernel
theorem dJx4a65c_fastRemove_b59b0_25 : decode cJx4a65c_fastRemove_b59b0 25 = .ok (.iadd, 1) := by decide +kernel
theorem dJx4a65c_fastRemove_b59b0_26 : decode cJx4a65c_fastRemove_b59b0 26 = .ok (.aload_n 1, 1) := by decide +kernel
theorem dJx4a65c_fastRemove_b59b0_27 : decode cJx4a65c_fastRemove_b59b0 27 = .ok (.iload_n 2, 1) := by decide +kernel
theorem dJx4a65c_fastRemove_b59b0_28 : decode cJx4a65c_fastRemove_b59b0 28 = .ok (.iload_n 3, 1) := by decide +kernel
theorem dJx4a65c_fastRemove_b59b0_29 : decode cJx4a65c_fastRemove_b59b0 29 = .ok (.iload_n 2, 1) := by decide +kernel
theorem dJx4a65c_fastRemove_b59b0_30 : decode cJx4a65c_fastRemove_b59b0 30 = .ok (.isub, 1) := by decide +kernel
theorem dJx4a65c_fastRemove_b59b0_31 : decode cJx4a65c_fastRemove_b59b0 31 = .ok (.invokestatic 112, 3) := by decide +kernel
theorem dJx4a65c_fastRemove_b59b0_34 : decode cJx4a65c_fastRemove_b59b0 34 = .ok (.aload_n 1, 1) := by decide +kernel
theorem dJx4a65c_fastRemove_b59b0_35 : decode cJx4a65c_fastRemove_b59b0 35 = .ok (.aload_n 0, 1) := by decide +kernel
theorem dJx4a65c_fastRemove_b59b0_36 : decode cJx4a65c_fastRemove_b59b0 36 = .ok (.iload_n 3, 1) := by decide +kernel
theorem dJx4a65c_fastRemove_b59b0_37 : decode cJx4a65c_fastRemove_b59b0 37 = .ok (.dup_x1, 1) := by decide +kernel
theorem dJx4a65c_fastRemove_b59b0_38 : decode cJx4a65c_fastRemove_b59b0 38 = .ok (.putfield 48, 3) := by decide +kernel
theorem dJx4a65c_fastRemove_b59b0_41 : decode cJx4a65c_fastRemove_b59b0 41 = .ok (.aconst_null, 1) := by decide +kernel
theorem dJx4a65c_fastRemove_b59b0_42 : decode cJx4a65c_fastRemove_b59b0 42 = .ok (.aastore, 1) := by decide +kernel
theorem dJx4a65c_fastRemove_b59b0_43 : decode cJx4a65c_fastRemove_b59b0 43 = .ok (.return_, 1) := by decide +kernel
theorem dJx4a65c_clear_da8c8_0 : decode cJx4a65c_clear_da8c8 0 = .ok (.aload_n 0, 1) := by decide +kernel
theorem dJx4a65c_clear_da8c8_1 : decode cJx4a65c_clear_da8c8 1 = .ok (.dup, 1) := by decide +kernel
theorem dJx4a65c_clear_da8c8_2 : decode cJx4a65c_clear_da8c8 2 = .ok (.getfield 63, 3) := by decide +kernel
theorem dJx4a65c_clear_da8c8_5 : decode cJx4a65c_clear_da8c8 5 = .ok (.iconst 1, 1) := by decide +kernel
theorem dJx4a65c_clear_da8c8_6 : decode cJx4a65c_clear_da8c8 6 = .ok (.iadd, 1) := by decide +kernel
theorem dJx4a65c_clear_da8c8_7 : decode cJx4a65c_clear_da8c8 7 = .ok (.putfield 63, 3) := by decide +kernel
theorem dJx4a65c_clear_da8c8_10 : decode cJx4a65c_clear_da8c8 10 = .ok (.aload_n 0, 1) := by decide +kernel
theorem dJx4a65c_clear_da8c8_11 : decode cJx4a65c_clear_da8c8 11 = .ok (.getfield 9, 3) := by decide +kernel
theorem dJx4a65c_clear_da8c8_14 : decode cJx4a65c_clear_da8c8 14 = .ok (.astore_n 1, 1) := by decide +kernel
theorem dJx4a65c_clear_da8c8_15 : decode cJx4a65c_clear_da8c8 15 = .ok (.aload_n 0, 1) := by decide +kernel
theorem dJx4a65c_clear_da8c8_16 : decode cJx4a65c_clear_da8c8 16 = .ok (.getfield 48, 3) := by decide +kernel
theorem dJx4a65c_clear_da8c8_19 : decode cJx4a65c_clear_da8c8 19 = .ok (.istore_n 2, 1) := by decide +kernel
theorem dJx4a65c_clear_da8c8_20 : decode cJx4a65c_clear_da8c8 20 = .ok (.aload_n 0, 1) := by decide +kernel
theorem dJx4a65c_clear_da8c8_21 : decode cJx4a65c_clear_da8c8 21 = .ok (.iconst 0, 1) := by decide +kernel
theorem dJx4a65c_clear_da8c8_22 : decode cJx4a65c_clear_da8c8 22 = .ok (.dup_x1, 1) := by decide +kernel
theorem dJx4a65c_clear_da8c8_23 : decode cJx4a65c_clear_da8c8 23 = .ok (.putfield 48, 3) := by decide +kernel
theorem dJx4a65c_clear_da8c8_26 : decode cJx4a65c_clear_da8c8 26 = .ok (.istore_n 3, 1) := by decide +kernel
theorem dJx4a65c_clear_da8c8_27 : decode cJx4a65c_clear_da8c8 27 = .ok (.iload_n 3, 1) := by decide +kernel
theorem dJx4a65c_clear_da8c8_28 : decode cJx4a65c_clear_da8c8 28 = .ok (.iload_n 2, 1) := by decide +kernel
theorem dJx4a65c_clear_da8c8_29 : decode cJx4a65c_clear_da8c8 29 = .ok (.if_icmp .ge 13, 3) := by decide +kernel
theorem dJx4a65c_clear_da8c8_32 : decode cJx4a65c_clear_da8c8 32 = .ok (.aload_n 1, 1) := by decide +kernel
theorem dJx4a65c_clear_da8c8_33 : decode cJx4a65c_clear_da8c8 33 = .ok (.iload_n 3, 1) := by decide +kernel
theorem dJx4a65c_clear_da8c8_34 : decode cJx4a65c_clear_da8c8 34 = .ok (.aconst_null, 1) := by decide +kernel
theorem dJx4a65c_clear_da8c8_35 : decode cJx4a65c_clear_da8c8 35 = .ok (.aastore, 1) := by decide +kernel
theorem dJx4a65c_clear_da8c8_36 : decode cJx4a65c_clear_da8c8 36 = .ok (.iinc 3 1, 3) := by decide +kernel
theorem dJx4a65c_clear_da8c8_39 : decode cJx4a65c_clear_da8c8 39 = .ok (.goto (-12), 3) := by decide +kernel
theorem dJx4a65c_clear_da8c8_42 : decode cJx4a65c_clear_da8c8 42 = .ok (.return_, 1) := by decide +kernel
theorem dJ7_copyOf_1904c_0 : decode cJ7_copyOf_1904c 0 = .ok (.aload_n 0, 1) := by decide +kernel
theorem dJ7_copyOf_1904c_1 : decode cJ7_copyOf_1904c 1 = .ok (.iload_n 1, 1) := by decide +kernel
theorem dJ7_copyOf_1904c_2 : decode cJ7_copyOf_1904c 2 = .ok (.aload_n 0, 1) := by decide +kernel
theorem dJ7_copyOf_1904c_3 : decode cJ7_copyOf_1904c 3 = .ok (.invokevirtual 86, 3) := by decide +kernel
theorem dJ7_copyOf_1904c_6 : decode cJ7_copyOf_1904c 6 = .ok (.invokestatic 300, 3) := by decide +kernel
theorem dJ7_copyOf_1904c_9 : decode cJ7_copyOf_1904c 9 = .ok (.areturn, 1) := by decide +kernel
theorem dJ7_copyOf_6403c_0 : decode cJ7_copyOf_6403c 0 = .ok (.aload_n 2, 1) := by decide +kernel
theorem dJ7_copyOf_6403c_1 : decode cJ7_copyOf_6403c 1 = .ok (.ldc 110, 2) := by decide +kernel
theorem dJ7_copyOf_6403c_3 : decode cJ7_copyOf_6403c 3 = .ok (.if_acmp .ne 10, 3) := by decide +kernel
theorem dJ7_copyOf_6403c_6 : decode cJ7_copyOf_6403c 6 = .ok (.iload_n 1, 1) := by decide +kernel
theorem dJ7_copyOf_6403c_7 : decode cJ7_copyOf_6403c 7 = .ok (.anewarray 2, 3) := by decide +kernel
theorem dJ7_copyOf_6403c_10 : decode cJ7_copyOf_6403c 10 = .ok (.goto 14, 3) := by decide +kernel
theorem dJ7_copyOf_6403c_13 : decode cJ7_copyOf_6403c 13 = .ok (.aload_n 2, 1) := by decide +kernel
theorem dJ7_copyOf_6403c_14 : decode cJ7_copyOf_6403c 14 = .ok (.invokevirtual 90, 3) := by decide +kernel
theorem dJ7_copyOf_6403c_17 : decode cJ7_copyOf_6403c 17 = .ok (.iload_n 1, 1) := by decide +kernel
theorem dJ7_copyOf_6403c_18 : decode cJ7_copyOf_6403c 18 = .ok (.invokestatic 95, 3) := by decide +kernel
theorem dJ7_copyOf_6403c_21 : decode cJ7_copyOf_6403c 21 = .ok (.checkcast 110, 3) := by decide +kernel
theorem dJ7_copyOf_6403c_24 : decode cJ7_copyOf_6403c 24 = .ok (.astore_n 3, 1) := by decide +kernel
theorem dJ7_copyOf_6403c_25 : decode cJ7_copyOf_6403c 25 = .ok (.aload_n 0, 1) := by decide +kernel
theorem dJ7_copyOf_6403c_26 : decode cJ7_copyOf_6403c 26 = .ok (.iconst 0, 1) := by decide +kernel
theorem dJ7_copyOf_6403c_27 : decode cJ7_copyOf_6403c 27 = .ok (.aload_n 3, 1) := by decide +kernel
theorem dJ7_copyOf_6403c_28 : decode cJ7_copyOf_6403c 28 = .ok (.iconst 0, 1) := by decide +kernel
theorem dJ7_copyOf_6403c_29 : decode cJ7_copyOf_6403c 29 = .ok (.aload_n 0, 1) := by decide +kernel
theorem dJ7_copyOf_6403c_30 : decode cJ7_copyOf_6403c 30 = .ok (.arraylength, 1) := by decide +kernel
theorem dJ7_copyOf_6403c_31 : decode cJ7_copyOf_6403c 31 = .ok (.iload_n 1, 1) := by decide +kernel
theorem dJ7_copyOf_6403c_32 : decode cJ7_copyOf_6403c 32 = .ok (.invokestatic 304, 3) := by decide +kernel
theorem dJ7_copyOf_6403c_35 : decode cJ7_copyOf_6403c 35 = .ok (.invokestatic 150, 3) := by decide +kernel
theorem dJ7_copyOf_6403c_38 : decode cJ7_copyOf_6403c 38 = .ok (.aload_n 3, 1) := by decide +kernel
theorem dJ7_copyOf_6403c_39 : decode cJ7_copyOf_6403c 39 = .ok (.areturn, 1) := by decide +kernel
theorem dJ15_checkIndex_7cf53_0 : decode cJ15_checkIndex_7cf53 0 = .ok (.iload_n 0, 1) := by decide +kernel
theorem dJ15_checkIndex_7cf53_1 : decode cJ15_checkIndex_7cf53 1 = .ok (.iload_n 1, 1) := by decide +kernel
theorem dJ15_checkIndex_7cf53_2 : decode cJ15_checkIndex_7cf53 2 = .ok (.aconst_null, 1) := by decide +kernel
theorem dJ15_checkIndex_7cf53_3 : decode cJ15_checkIndex_7cf53 3 = .ok (.invokestatic 105, 3) := by decide +kernel
theorem dJ15_checkIndex_7cf53_6 : decode cJ15_checkIndex_7cf53 6 = .ok (.ireturn, 1) := by decide +kernel
theorem dJ8_newLength_cabcc_0 : decode cJ8_newLength_cabcc 0 = .ok (.iload_n 0, 1) := by decide +kernel
theorem dJ8_newLength_cabcc_1 : decode cJ8_newLength_cabcc 1 = .ok (.iload_n 1, 1) := by decide +kernel
theorem dJ8_newLength_cabcc_2 : decode cJ8_newLength_cabcc 2 = .ok (.iload_n 2, 1) := by decide +kernel
theorem dJ8_newLength_cabcc_3 : decode cJ8_newLength_cabcc 3 = .ok (.invokestatic 194, 3) := by decide +kernel
theorem dJ8_newLength_cabcc_6 : decode cJ8_newLength_cabcc 6 = .ok (.iadd, 1) := by decide +kernel
theorem dJ8_newLength_cabcc_7 : decode cJ8_newLength_cabcc 7 = .ok (.istore_n 3, 1) := by decide +kernel
theorem dJ8_newLength_cabcc_8 : decode cJ8_newLength_cabcc 8 = .ok (.iconst 0, 1) := by decide +kernel
theorem dJ8_newLength_cabcc_9 : decode cJ8_newLength_cabcc 9 = .ok (.iload_n 3, 1) := by decide +kernel
theorem dJ8_newLength_cabcc_10 : decode cJ8_newLength_cabcc 10 = .ok (.if_icmp .ge 11, 3) := by decide +kernel
theorem dJ8_newLength_cabcc_13 : decode cJ8_newLength_cabcc 13 = .ok (.iload_n 3, 1) := by decide +kernel
theorem dJ8_newLength_cabcc_14 : decode cJ8_newLength_cabcc 14 = .ok (.ldc 200, 2) := by decide +kernel
theorem dJ8_newLength_cabcc_16 : decode cJ8_newLength_cabcc 16 = .ok (.if_icmp .gt 5, 3) := by decide +kernel
theorem dJ8_newLength_cabcc_19 : decode cJ8_newLength_cabcc 19 = .ok (.iload_n 3, 1) := by decide +kernel
theorem dJ8_newLength_cabcc_20 : decode cJ8_newLength_cabcc 20 = .ok (.ireturn, 1) := by decide +kernel
theorem dJ8_newLength_cabcc_21 : decode cJ8_newLength_cabcc 21 = .ok (.iload_n 0, 1) := by decide +kernel
theorem dJ8_newLength_cabcc_22 : decode cJ8_newLength_cabcc 22 = .ok (.iload_n 1, 1) := by decide +kernel
theorem dJ8_newLength_cabcc_23 : decode cJ8_newLength_cabcc 23 = .ok (.invokestatic 201, 3) := by decide +kernel
theorem dJ8_newLength_cabcc_26 : decode cJ8_newLength_cabcc 26 = .ok (.ireturn, 1) := by decide +kernel
theorem dJ8_hugeLength_7cf53_0 : decode cJ8_hugeLength_7cf53 0 = .ok (.iload_n 0, 1) := by decide +kernel
theorem dJ8_hugeLength_7cf53_1 : decode cJ8_hugeLength_7cf53 1 = .ok (.iload_n 1, 1) := by decide +kernel
theorem dJ8_hugeLength_7cf53_2 : decode cJ8_hugeLength_7cf53 2 = .ok (.iadd, 1) := by decide +kernel
theorem dJ8_hugeLength_7cf53_3 : decode cJ8_hugeLength_7cf53 3 = .ok (.istore_n 2, 1) := by decide +kernel
theorem dJ8_hugeLength_7cf53_4 : decode cJ8_hugeLength_7cf53 4 = .ok (.iload_n 2, 1) := by decide +kernel
theorem dJ8_hugeLength_7cf53_5 : decode cJ8_hugeLength_7cf53 5 = .ok (.ifCond .ge 44, 3) := by decide +kernel
theorem dJ8_hugeLength_7cf53_8 : decode cJ8_hugeLength_7cf53 8 = .ok (.new 204, 3) := by decide +kernel
theorem dJ8_hugeLength_7cf53_11 : decode cJ8_hugeLength_7cf53 11 = .ok (.dup, 1) := by decide +kernel
theorem dJ8_hugeLength_7cf53_12 : decode cJ8_hugeLength_7cf53 12 = .ok (.new 89, 3) := by decide +kernel
theorem dJ8_hugeLength_7cf53_15 : decode cJ8_hugeLength_7cf53 15 = .ok (.dup, 1) := by decide +kernel
theorem dJ8_hugeLength_7cf53_16 : decode cJ8_hugeLength_7cf53 16 = .ok (.invokespecial 91, 3) := by decide +kernel
theorem dJ8_hugeLength_7cf53_19 : decode cJ8_hugeLength_7cf53 19 = .ok (.ldc 206, 2) := by decide +kernel
theorem dJ8_hugeLength_7cf53_21 : decode cJ8_hugeLength_7cf53 21 = .ok (.invokevirtual 94, 3) := by decide +kernel
theorem dJ8_hugeLength_7cf53_24 : decode cJ8_hugeLength_7cf53 24 = .ok (.iload_n 0, 1) := by decide +kernel
theorem dJ8_hugeLength_7cf53_25 : decode cJ8_hugeLength_7cf53 25 = .ok (.invokevirtual 98, 3) := by decide +kernel
theorem dJ8_hugeLength_7cf53_28 : decode cJ8_hugeLength_7cf53 28 = .ok (.ldc 208, 2) := by decide +kernel
theorem dJ8_hugeLength_7cf53_30 : decode cJ8_hugeLength_7cf53 30 = .ok (.invokevirtual 94, 3) := by decide +kernel
theorem dJ8_hugeLength_7cf53_33 : decode cJ8_hugeLength_7cf53 33 = .ok (.iload_n 1, 1) := by decide +kernel
theorem dJ8_hugeLength_7cf53_34 : decode cJ8_hugeLength_7cf53 34 = .ok (.invokevirtual 98, 3) := by decide +kernel
theorem dJ8_hugeLength_7cf53_37 : decode cJ8_hugeLength_7cf53 37 = .ok (.ldc 210, 2) := by decide +kernel
theorem dJ8_hugeLength_7cf53_39 : decode cJ8_hugeLength_7cf53 39 = .ok (.invokevirtual 94, 3) := by decide +kernel
theorem dJ8_hugeLength_7cf53_42 : decode cJ8_hugeLength_7cf53 42 = .ok (.invokevirtual 101, 3) := by decide +kernel
theorem dJ8_hugeLength_7cf53_45 : decode cJ8_hugeLength_7cf53 45 = .ok (.invokespecial 212, 3) := by decide +kernel
theorem dJ8_hugeLength_7cf53_48 : decode cJ8_hugeLength_7cf53 48 = .ok (.athrow, 1) := by decide +kernel
theorem dJ8_hugeLength_7cf53_49 : decode cJ8_hugeLength_7cf53 49 = .ok (.iload_n 2, 1) := by decide +kernel
theorem dJ8_hugeLength_7cf53_50 : decode cJ8_hugeLength_7cf53 50 = .ok (.ldc 200, 2) := by decide +kernel
theorem dJ8_hugeLength_7cf53_52 : decode cJ8_hugeLength_7cf53 52 = .ok (.if_icmp .gt 6, 3) := by decide +kernel
theorem dJ8_hugeLength_7cf53_55 : decode cJ8_hugeLength_7cf53 55 = .ok (.ldc 200, 2) := by decide +kernel
theorem dJ8_hugeLength_7cf53_57 : decode cJ8_hugeLength_7cf53 57 = .ok (.ireturn, 1) := by decide +kernel
theorem dJ8_hugeLength_7cf53_58 : decode cJ8_hugeLength_7cf53 58 = .ok (.iload_n 2, 1) := by decide +kernel
theorem dJ8_hugeLength_7cf53_59 : decode cJ8_hugeLength_7cf53 59 = .ok (.ireturn, 1) := by decide +kernel
theorem dJ3_checkIndex_8e157_0 : decode cJ3_checkIndex_8e157 0 = .ok (.iload_n 0, 1) := by decide +kernel
theorem dJ3_checkIndex_8e157_1 : decode cJ3_checkIndex_8e157 1 = .ok (.ifCond .lt 8, 3) := by decide +kernel
theorem dJ3_checkIndex_8e157_4 : decode cJ3_checkIndex_8e157 4 = .ok (.iload_n 0, 1) := by decide +kernel
theorem dJ3_checkIndex_8e157_5 : decode cJ3_checkIndex_8e157 5 = .ok (.iload_n 1, 1) := by decide +kernel
theorem dJ3_checkIndex_8e157_6 : decode cJ3_checkIndex_8e157 6 = .ok (.if_icmp .lt 10, 3) := by decide +kernel
theorem dJ3_checkIndex_8e157_9 : decode cJ3_checkIndex_8e157 9 = .ok (.aload_n 2, 1) := by decide +kernel
theorem dJ3_checkIndex_8e157_10 : decode cJ3_checkIndex_8e157 10 = .ok (.iload_n 0, 1) := by decide +kernel
theorem dJ3_checkIndex_8e157_11 : decode cJ3_checkIndex_8e157 11 = .ok (.iload_n 1, 1) := by decide +kernel
theorem dJ3_checkIndex_8e157_12 : decode cJ3_checkIndex_8e157 12 = .ok (.invokestatic 95, 3) := by decide +kernel
theorem dJ3_checkIndex_8e157_15 : decode cJ3_checkIndex_8e157 15 = .ok (.athrow, 1) := by decide +kernel
theorem dJ3_checkIndex_8e157_16 : decode cJ3_checkIndex_8e157 16 = .ok (.iload_n 0, 1) := by decide +kernel
theorem dJ3_checkIndex_8e157_17 : decode cJ3_checkIndex_8e157 17 = .ok (.ireturn, 1) := by decide +kernel
theorem dL_change_0 : decode cL_change 0 = .ok (.aload_n 2, 1) := by decide +kernel
theorem dL_change_1 : decode cL_change 1 = .ok (.iconst 0, 1) := by decide +kernel
theorem dL_change_2 : decode cL_change 2 = .ok (.aload_n 0, 1) := by decide +kernel
theorem dL_change_3 : decode cL_change 3 = .ok (.iload_n 1, 1) := by decide +kernel
theorem dL_change_4 : decode cL_change 4 = .ok (.invokevirtual 7, 3) := by decide +kernel
theorem dL_change_7 : decode cL_change 7 = .ok (.i2l, 1) := by decide +kernel
theorem dL_change_8 : decode cL_change 8 = .ok (.lastore, 1) := by decide +kernel
theorem dL_change_9 : decode cL_change 9 = .ok (.goto 9, 3) := by decide +kernel
theorem dL_change_12 : decode cL_change 12 = .ok (.astore_n 3, 1) := by decide +kernel
theorem dL_change_13 : decode cL_change 13 = .ok (.iconst 1, 1) := by decide +kernel
theorem dL_change_14 : decode cL_change 14 = .ok (.ireturn, 1) := by decide +kernel
theorem dL_change_15 : decode cL_change 15 = .ok (.astore_n 3, 1) := by decide +kernel
theorem dL_change_16 : decode cL_change 16 = .ok (.iconst 2, 1) := by decide +kernel
theorem dL_change_17 : decode cL_change 17 = .ok (.ireturn, 1) := by decide +kernel
theorem dL_change_18 : decode cL_change 18 = .ok (.iconst 0, 1) := by decide +kernel
theorem dL_change_19 : decode cL_change 19 = .ok (.ireturn, 1) := by decide +kernel
theorem dL_method_0 : decode cL_method 0 = .ok (.aload_n 2, 1) := by decide +kernel
theorem dL_method_1 : decode cL_method 1 = .ok (.iconst 0, 1) := by decide +kernel
theorem dL_method_2 : decode cL_method 2 = .ok (.aload_n 0, 1) := by decide +kernel
theorem dL_method_3 : decode cL_method 3 = .ok (.iload_n 1, 1) := by decide +kernel
theorem dL_method_4 : decode cL_method 4 = .ok (.invokevirtual 17, 3) := by decide +kernel
theorem dL_method_7 : decode cL_method 7 = .ok (.i2l, 1) := by decide +kernel
theorem dL_method_8 : decode cL_method 8 = .ok (.lastore, 1) := by decide +kernel
theorem dL_method_9 : decode cL_method 9 = .ok (.goto 9, 3) := by decide +kernel
theorem dL_method_12 : decode cL_method 12 = .ok (.astore_n 3, 1) := by decide +kernel
theorem dL_method_13 : decode cL_method 13 = .ok (.iconst 1, 1) := by decide +kernel
theorem dL_method_14 : decode cL_method 14 = .ok (.ireturn, 1) := by decide +kernel
theorem dL_method_15 : decode cL_method 15 = .ok (.astore_n 3, 1) := by decide +kernel
theorem dL_method_16 : decode cL_method 16 = .ok (.iconst 2, 1) := by decide +kernel
theorem dL_method_17 : decode cL_method 17 = .ok (.ireturn, 1) := by decide +kernel
theorem dL_method_18 : decode cL_method 18 = .ok (.iconst 0, 1) := by decide +kernel
theorem dL_method_19 : decode cL_method 19 = .ok (.ireturn, 1) := by decide +kernel
theorem dL_setCall_0 : decode cL_setCall 0 = .ok (.aload 4, 2) := by decide +kernel
theorem dL_setCall_2 : decode cL_setCall 2 = .ok (.iconst 0, 1) := by decide +kernel
theorem dL_setCall_3 : decode cL_setCall 3 = .ok (.aload_n 0, 1) := by decide +kernel
theorem dL_setCall_4 : decode cL_setCall 4 = .ok (.iload_n 1, 1) := by decide +kernel
theorem dL_setCall_5 : decode cL_setCall 5 = .ok (.iload_n 2, 1) := by decide +kernel
theorem dL_setCall_6 : decode cL_setCall 6 = .ok (.iload_n 3, 1) := by decide +kernel
theorem dL_setCall_7 : decode cL_setCall 7 = .ok (.invokevirtual 20, 3) := by decide +kernel
theorem dL_setCall_10 : decode cL_setCall 10 = .ok (.i2l, 1) := by decide +kernel
theorem dL_setCall_11 : decode cL_setCall 11 = .ok (.lastore, 1) := by decide +kernel
theorem dL_setCall_12 : decode cL_setCall 12 = .ok (.goto 15, 3) := by decide +kernel
theorem dL_setCall_15 : decode cL_setCall 15 = .ok (.astore 5, 2) := by decide +kernel
theorem dL_setCall_17 : decode cL_setCall 17 = .ok (.iconst 1, 1) := by decide +kernel
theorem dL_setCall_18 : decode cL_setCall 18 = .ok (.ireturn, 1) := by decide +kernel
theorem dL_setCall_19 : decode cL_setCall 19 = .ok (.astore 5, 2) := by decide +kernel
theorem dL_setCall_21 : decode cL_setCall 21 = .ok (.iconst 2, 1) := by decide +kernel
theorem dL_setCall_22 : decode cL_setCall 22 = .ok (.ireturn, 1) := by decide +kernel
theorem dL_setCall_23 : decode cL_setCall 23 = .ok (.astore 5, 2) := by decide +kernel
theorem dL_setCall_25 : decode cL_setCall 25 = .ok (.iconst 3, 1) := by decide +kernel
theorem dL_setCall_26 : decode cL_setCall 26 = .ok (.ireturn, 1) := by decide +kernel
theorem dL_setCall_27 : decode cL_setCall 27 = .ok (.iconst 0, 1) := by decide +kernel
theorem dL_setCall_28 : decode cL_setCall 28 = .ok (.ireturn, 1) := by decide +kernel
theorem dL_stage_0 : decode cL_stage 0 = .ok (.aload_n 2, 1) := by decide +kernel
theorem dL_stage_1 : decode cL_stage 1 = .ok (.iconst 0, 1) := by decide +kernel
theorem dL_stage_2 : decode cL_stage 2 = .ok (.aload_n 0, 1) := by decide +kernel
theorem dL_stage_3 : decode cL_stage 3 = .ok (.iload_n 1, 1) := by decide +kernel
theorem dL_stage_4 : decode cL_stage 4 = .ok (.invokevirtual 26, 3) := by decide +kernel
theorem dL_stage_7 : decode cL_stage 7 = .ok (.i2l, 1) := by decide +kernel
theorem dL_stage_8 : decode cL_stage 8 = .ok (.lastore, 1) := by decide +kernel
theorem dL_stage_9 : decode cL_stage 9 = .ok (.goto 6, 3) := by decide +kernel
theorem dL_stage_12 : decode cL_stage 12 = .ok (.astore_n 3, 1) := by decide +kernel
theorem dL_stage_13 : decode cL_stage 13 = .ok (.iconst 1, 1) := by decide +kernel
theorem dL_stage_14 : decode cL_stage 14 = .ok (.ireturn, 1) := by decide +kernel
theorem dL_stage_15 : decode cL_stage 15 = .ok (.iconst 0, 1) := by decide +kernel
theorem dL_stage_16 : decode cL_stage 16 = .ok (.ireturn, 1) := by decide +kernel
theorem dL_changeAt_0 : decode cL_changeAt 0 = .ok (.aload 4, 2) := by decide +kernel
theorem dL_changeAt_2 : decode cL_changeAt 2 = .ok (.iconst 0, 1) := by decide +kernel
theorem dL_changeAt_3 : decode cL_changeAt 3 = .ok (.aload_n 0, 1) := by decide +kernel
theorem dL_changeAt_4 : decode cL_changeAt 4 = .ok (.iload_n 1, 1) := by decide +kernel
theorem dL_changeAt_5 : decode cL_changeAt 5 = .ok (.iload_n 2, 1) := by decide +kernel
theorem dL_changeAt_6 : decode cL_changeAt 6 = .ok (.iload_n 3, 1) := by decide +kernel
theorem dL_changeAt_7 : decode cL_changeAt 7 = .ok (.invokevirtual 29, 3) := by decide +kernel
theorem dL_changeAt_10 : decode cL_changeAt 10 = .ok (.i2l, 1) := by decide +kernel
theorem dL_changeAt_11 : decode cL_changeAt 11 = .ok (.lastore, 1) := by decide +kernel
theorem dL_changeAt_12 : decode cL_changeAt 12 = .ok (.goto 11, 3) := by decide +kernel
theorem dL_changeAt_15 : decode cL_changeAt 15 = .ok (.astore 5, 2) := by decide +kernel
theorem dL_changeAt_17 : decode cL_changeAt 17 = .ok (.iconst 1, 1) := by decide +kernel
theorem dL_changeAt_18 : decode cL_changeAt 18 = .ok (.ireturn, 1) := by decide +kernel
theorem dL_changeAt_19 : decode cL_changeAt 19 = .ok (.astore 5, 2) := by decide +kernel
theorem dL_changeAt_21 : decode cL_changeAt 21 = .ok (.iconst 2, 1) := by decide +kernel
theorem dL_changeAt_22 : decode cL_changeAt 22 = .ok (.ireturn, 1) := by decide +kernel
theorem dL_changeAt_23 : decode cL_changeAt 23 = .ok (.iconst 0, 1) := by decide +kernel
theorem dL_changeAt_24 : decode cL_changeAt 24 = .ok (.ireturn, 1) := by decide +kernel
theorem dL_head_0 : decode cL_head 0 = .ok (.aload_n 3, 1) := by decide +kernel
theorem dL_head_1 : decode cL_head 1 = .ok (.iconst 0, 1) := by decide +kernel
theorem dL_head_2 : decode cL_head 2 = .ok (.aload_n 0, 1) := by decide +kernel
theorem dL_head_3 : decode cL_head 3 = .ok (.iload_n 1, 1) := by decide +kernel
theorem dL_head_4 : decode cL_head 4 = .ok (.iload_n 2, 1) := by decide +kernel
theorem dL_head_5 : decode cL_head 5 = .ok (.invokevirtual 32, 3) := by decide +kernel
theorem dL_head_8 : decode cL_head 8 = .ok (.i2l, 1) := by decide +kernel
theorem dL_head_9 : decode cL_head 9 = .ok (.lastore, 1) := by decide +kernel
theorem dL_head_10 : decode cL_head 10 = .ok (.goto 11, 3) := by decide +kernel
theorem dL_head_13 : decode cL_head 13 = .ok (.astore 4, 2) := by decide +kernel
theorem dL_head_15 : decode cL_head 15 = .ok (.iconst 1, 1) := by decide +kernel
theorem dL_head_16 : decode cL_head 16 = .ok (.ireturn, 1) := by decide +kernel
theorem dL_head_17 : decode cL_head 17 = .ok (.astore 4, 2) := by decide +kernel
theorem dL_head_19 : decode cL_head 19 = .ok (.iconst 2, 1) := by decide +kernel
theorem dL_head_20 : decode cL_head 20 = .ok (.ireturn, 1) := by decide +kernel
theorem dL_head_21 : decode cL_head 21 = .ok (.iconst 0, 1) := by decide +kernel
theorem dL_head_22 : decode cL_head 22 = .ok (.ireturn, 1) := by decide +kernel
theorem dL_course_0 : decode cL_course 0 = .ok (.aload_n 2, 1) := by decide +kernel
theorem dL_course_1 : decode cL_course 1 = .ok (.iconst 0, 1) := by decide +kernel
theorem dL_course_2 : decode cL_course 2 = .ok (.aload_n 0, 1) := by decide +kernel
theorem dL_course_3 : decode cL_course 3 = .ok (.iload_n 1, 1) := by decide +kernel
theorem dL_course_4 : decode cL_course 4 = .ok (.invokevirtual 36, 3) := by decide +kernel
theorem dL_course_7 : decode cL_course 7 = .ok (.i2l, 1) := by decide +kernel
theorem dL_course_8 : decode cL_course 8 = .ok (.lastore, 1) := by decide +kernel
theorem dL_course_9 : decode cL_course 9 = .ok (.goto 6, 3) := by decide +kernel
theorem dL_course_12 : decode cL_course 12 = .ok (.astore_n 3, 1) := by decide +kernel
theorem dL_course_13 : decode cL_course 13 = .ok (.iconst 1, 1) := by decide +kernel
theorem dL_course_14 : decode cL_course 14 = .ok (.ireturn, 1) := by decide +kernel
theorem dL_course_15 : decode cL_course 15 = .ok (.iconst 0, 1) := by decide +kernel
theorem dL_course_16 : decode cL_course 16 = .ok (.ireturn, 1) := by decide +kernel
theorem dL_isFalse_0 : decode cL_isFalse 0 = .ok (.aload_n 3, 1) := by decide +kernel
theorem dL_isFalse_1 : decode cL_isFalse 1 = .ok (.iconst 0, 1) := by decide +kernel
theorem dL_isFalse_2 : decode cL_isFalse 2 = .ok (.aload_n 0, 1) := by decide +kernel
theorem dL_isFalse_3 : decode cL_isFalse 3 = .ok (.iload_n 1, 1) := by decide +kernel
theorem dL_isFalse_4 : decode cL_isFalse 4 = .ok (.iload_n 2, 1) := by decide +kernel
theorem dL_isFalse_5 : decode cL_isFalse 5 = .ok (.invokevirtual 39, 3) := by decide +kernel
theorem dL_isFalse_8 : decode cL_isFalse 8 = .ok (.ifCond .eq 7, 3) := by decide +kernel
theorem dL_isFalse_11 : decode cL_isFalse 11 = .ok (.lconst 1, 1) := by decide +kernel
theorem dL_isFalse_12 : decode cL_isFalse 12 = .ok (.goto 4, 3) := by decide +kernel
theorem dL_isFalse_15 : decode cL_isFalse 15 = .ok (.lconst 0, 1) := by decide +kernel
theorem dL_isFalse_16 : decode cL_isFalse 16 = .ok (.lastore, 1) := by decide +kernel
theorem dL_isFalse_17 : decode cL_isFalse 17 = .ok (.goto 7, 3) := by decide +kernel
theorem dL_isFalse_20 : decode cL_isFalse 20 = .ok (.astore 4, 2) := by decide +kernel
theorem dL_isFalse_22 : decode cL_isFalse 22 = .ok (.iconst 1, 1) := by decide +kernel
theorem dL_isFalse_23 : decode cL_isFalse 23 = .ok (.ireturn, 1) := by decide +kernel
theorem dL_isFalse_24 : decode cL_isFalse 24 = .ok (.iconst 0, 1) := by decide +kernel
theorem dL_isFalse_25 : decode cL_isFalse 25 = .ok (.ireturn, 1) := by decide +kernel
theorem dL_falseRows_0 : decode cL_falseRows 0 = .ok (.aload_n 2, 1) := by decide +kernel
theorem dL_falseRows_1 : decode cL_falseRows 1 = .ok (.iconst 0, 1) := by decide +kernel
theorem dL_falseRows_2 : decode cL_falseRows 2 = .ok (.aload_n 0, 1) := by decide +kernel
theorem dL_falseRows_3 : decode cL_falseRows 3 = .ok (.iload_n 1, 1) := by decide +kernel
theorem dL_falseRows_4 : decode cL_falseRows 4 = .ok (.invokevirtual 43, 3) := by decide +kernel
theorem dL_falseRows_7 : decode cL_falseRows 7 = .ok (.i2l, 1) := by decide +kernel
theorem dL_falseRows_8 : decode cL_falseRows 8 = .ok (.lastore, 1) := by decide +kernel
theorem dL_falseRows_9 : decode cL_falseRows 9 = .ok (.goto 6, 3) := by decide +kernel
theorem dL_falseRows_12 : decode cL_falseRows 12 = .ok (.astore_n 3, 1) := by decide +kernel
theorem dL_falseRows_13 : decode cL_falseRows 13 = .ok (.iconst 1, 1) := by decide +kernel
theorem dL_falseRows_14 : decode cL_falseRows 14 = .ok (.ireturn, 1) := by decide +kernel
theorem dL_falseRows_15 : decode cL_falseRows 15 = .ok (.iconst 0, 1) := by decide +kernel
theorem dL_falseRows_16 : decode cL_falseRows 16 = .ok (.ireturn, 1) := by decide +kernel
theorem dL_lead_0 : decode cL_lead 0 = .ok (.aload_n 3, 1) := by decide +kernel
theorem dL_lead_1 : decode cL_lead 1 = .ok (.iconst 0, 1) := by decide +kernel
theorem dL_lead_2 : decode cL_lead 2 = .ok (.aload_n 0, 1) := by decide +kernel
theorem dL_lead_3 : decode cL_lead 3 = .ok (.iload_n 1, 1) := by decide +kernel
theorem dL_lead_4 : decode cL_lead 4 = .ok (.iload_n 2, 1) := by decide +kernel
theorem dL_lead_5 : decode cL_lead 5 = .ok (.invokevirtual 46, 3) := by decide +kernel
theorem dL_lead_8 : decode cL_lead 8 = .ok (.i2l, 1) := by decide +kernel
theorem dL_lead_9 : decode cL_lead 9 = .ok (.lastore, 1) := by decide +kernel
theorem dL_lead_10 : decode cL_lead 10 = .ok (.goto 15, 3) := by decide +kernel
theorem dL_lead_13 : decode cL_lead 13 = .ok (.astore 4, 2) := by decide +kernel
theorem dL_lead_15 : decode cL_lead 15 = .ok (.iconst 1, 1) := by decide +kernel
theorem dL_lead_16 : decode cL_lead 16 = .ok (.ireturn, 1) := by decide +kernel
theorem dL_lead_17 : decode cL_lead 17 = .ok (.astore 4, 2) := by decide +kernel
theorem dL_lead_19 : decode cL_lead 19 = .ok (.iconst 2, 1) := by decide +kernel
theorem dL_lead_20 : decode cL_lead 20 = .ok (.ireturn, 1) := by decide +kernel
theorem dL_lead_21 : decode cL_lead 21 = .ok (.astore 4, 2) := by decide +kernel
theorem dL_lead_23 : decode cL_lead 23 = .ok (.iconst 3, 1) := by decide +kernel
theorem dL_lead_24 : decode cL_lead 24 = .ok (.ireturn, 1) := by decide +kernel
theorem dL_lead_25 : decode cL_lead 25 = .ok (.iconst 0, 1) := by decide +kernel
theorem dL_lead_26 : decode cL_lead 26 = .ok (.ireturn, 1) := by decide +kernel
theorem dL_touch_0 : decode cL_touch 0 = .ok (.aload_n 1, 1) := by decide +kernel
theorem dL_touch_1 : decode cL_touch 1 = .ok (.iconst 0, 1) := by decide +kernel
theorem dL_touch_2 : decode cL_touch 2 = .ok (.aload_n 0, 1) := by decide +kernel
theorem dL_touch_3 : decode cL_touch 3 = .ok (.invokevirtual 49, 3) := by decide +kernel
theorem dL_touch_6 : decode cL_touch 6 = .ok (.i2l, 1) := by decide +kernel
theorem dL_touch_7 : decode cL_touch 7 = .ok (.lastore, 1) := by decide +kernel
theorem dL_touch_8 : decode cL_touch 8 = .ok (.goto 6, 3) := by decide +kernel
theorem dL_touch_11 : decode cL_touch 11 = .ok (.astore_n 2, 1) := by decide +kernel
theorem dL_touch_12 : decode cL_touch 12 = .ok (.iconst 1, 1) := by decide +kernel
theorem dL_touch_13 : decode cL_touch 13 = .ok (.ireturn, 1) := by decide +kernel
theorem dL_touch_14 : decode cL_touch 14 = .ok (.iconst 0, 1) := by decide +kernel
theorem dL_touch_15 : decode cL_touch 15 = .ok (.ireturn, 1) := by decide +kernel
theorem dL_compose_0 : decode cL_compose 0 = .ok (.aload_n 3, 1) := by decide +kernel
theorem dL_compose_1 : decode cL_compose 1 = .ok (.iconst 0, 1) := by decide +kernel
theorem dL_compose_2 : decode cL_compose 2 = .ok (.aload_n 0, 1) := by decide +kernel
theorem dL_compose_3 : decode cL_compose 3 = .ok (.iload_n 1, 1) := by decide +kernel
theorem dL_compose_4 : decode cL_compose 4 = .ok (.iload_n 2, 1) := by decide +kernel
theorem dL_compose_5 : decode cL_compose 5 = .ok (.invokevirtual 53, 3) := by decide +kernel
theorem dL_compose_8 : decode cL_compose 8 = .ok (.i2l, 1) := by decide +kernel
theorem dL_compose_9 : decode cL_compose 9 = .ok (.lastore, 1) := by decide +kernel
theorem dL_compose_10 : decode cL_compose 10 = .ok (.goto 15, 3) := by decide +kernel
theorem dL_compose_13 : decode cL_compose 13 = .ok (.astore 4, 2) := by decide +kernel
theorem dL_compose_15 : decode cL_compose 15 = .ok (.iconst 1, 1) := by decide +kernel
theorem dL_compose_16 : decode cL_compose 16 = .ok (.ireturn, 1) := by decide +kernel
theorem dL_compose_17 : decode cL_compose 17 = .ok (.astore 4, 2) := by decide +kernel
theorem dL_compose_19 : decode cL_compose 19 = .ok (.iconst 2, 1) := by decide +kernel
theorem dL_compose_20 : decode cL_compose 20 = .ok (.ireturn, 1) := by decide +kernel
theorem dL_compose_21 : decode cL_compose 21 = .ok (.astore 4, 2) := by decide +kernel
theorem dL_compose_23 : decode cL_compose 23 = .ok (.iconst 3, 1) := by decide +kernel
theorem dL_compose_24 : decode cL_compose 24 = .ok (.ireturn, 1) := by decide +kernel
theorem dL_compose_25 : decode cL_compose 25 = .ok (.iconst 0, 1) := by decide +kernel
theorem dL_compose_26 : decode cL_compose 26 = .ok (.ireturn, 1) := by decide +kernel
theorem dL_leads_0 : decode cL_leads 0 = .ok (.aload_n 2, 1) := by decide +kernel
theorem dL_leads_1 : decode cL_leads 1 = .ok (.iconst 0, 1) := by decide +kernel
theorem dL_leads_2 : decode cL_leads 2 = .ok (.aload_n 0, 1) := by decide +kernel
theorem dL_leads_3 : decode cL_leads 3 = .ok (.iload_n 1, 1) := by decide +kernel
theorem dL_leads_4 : decode cL_leads 4 = .ok (.invokevirtual 56, 3) := by decide +kernel
theorem dL_leads_7 : decode cL_leads 7 = .ok (.i2l, 1) := by decide +kernel
theorem dL_leads_8 : decode cL_leads 8 = .ok (.lastore, 1) := by decide +kernel
theorem dL_leads_9 : decode cL_leads 9 = .ok (.goto 6, 3) := by decide +kernel
theorem dL_leads_12 : decode cL_leads 12 = .ok (.astore_n 3, 1) := by decide +kernel
theorem dL_leads_13 : decode cL_leads 13 = .ok (.iconst 1, 1) := by decide +kernel
theorem dL_leads_14 : decode cL_leads 14 = .ok (.ireturn, 1) := by decide +kernel
theorem dL_leads_15 : decode cL_leads 15 = .ok (.iconst 0, 1) := by decide +kernel
theorem dL_leads_16 : decode cL_leads 16 = .ok (.ireturn, 1) := by decide +kernel
theorem dL_leadAt_0 : decode cL_leadAt 0 = .ok (.aload_n 3, 1) := by decide +kernel
theorem dL_leadAt_1 : decode cL_leadAt 1 = .ok (.iconst 0, 1) := by decide +kernel
theorem dL_leadAt_2 : decode cL_leadAt 2 = .ok (.aload_n 0, 1) := by decide +kernel
theorem dL_leadAt_3 : decode cL_leadAt 3 = .ok (.iload_n 1, 1) := by decide +kernel
theorem dL_leadAt_4 : decode cL_leadAt 4 = .ok (.iload_n 2, 1) := by decide +kernel
theorem dL_leadAt_5 : decode cL_leadAt 5 = .ok (.invokevirtual 59, 3) := by decide +kernel
theorem dL_leadAt_8 : decode cL_leadAt 8 = .ok (.i2l, 1) := by decide +kernel
theorem dL_leadAt_9 : decode cL_leadAt 9 = .ok (.lastore, 1) := by decide +kernel
theorem dL_leadAt_10 : decode cL_leadAt 10 = .ok (.goto 7, 3) := by decide +kernel
theorem dL_leadAt_13 : decode cL_leadAt 13 = .ok (.astore 4, 2) := by decide +kernel
theorem dL_leadAt_15 : decode cL_leadAt 15 = .ok (.iconst 1, 1) := by decide +kernel
theorem dL_leadAt_16 : decode cL_leadAt 16 = .ok (.ireturn, 1) := by decide +kernel
theorem dL_leadAt_17 : decode cL_leadAt 17 = .ok (.iconst 0, 1) := by decide +kernel
theorem dL_leadAt_18 : decode cL_leadAt 18 = .ok (.ireturn, 1) := by decide +kernel
theorem dL_rows_0 : decode cL_rows 0 = .ok (.aload_n 2, 1) := by decide +kernel
theorem dL_rows_1 : decode cL_rows 1 = .ok (.iconst 0, 1) := by decide +kernel
theorem dL_rows_2 : decode cL_rows 2 = .ok (.aload_n 0, 1) := by decide +kernel
theorem dL_rows_3 : decode cL_rows 3 = .ok (.iload_n 1, 1) := by decide +kernel
theorem dL_rows_4 : decode cL_rows 4 = .ok (.invokevirtual 62, 3) := by decide +kernel
theorem dL_rows_7 : decode cL_rows 7 = .ok (.i2l, 1) := by decide +kernel
theorem dL_rows_8 : decode cL_rows 8 = .ok (.lastore, 1) := by decide +kernel
theorem dL_rows_9 : decode cL_rows 9 = .ok (.goto 6, 3) := by decide +kernel
theorem dL_rows_12 : decode cL_rows 12 = .ok (.astore_n 3, 1) := by decide +kernel
theorem dL_rows_13 : decode cL_rows 13 = .ok (.iconst 1, 1) := by decide +kernel
theorem dL_rows_14 : decode cL_rows 14 = .ok (.ireturn, 1) := by decide +kernel
theorem dL_rows_15 : decode cL_rows 15 = .ok (.iconst 0, 1) := by decide +kernel
theorem dL_rows_16 : decode cL_rows 16 = .ok (.ireturn, 1) := by decide +kernel
theorem dL_rowAt_0 : decode cL_rowAt 0 = .ok (.aload_n 3, 1) := by decide +kernel
theorem dL_rowAt_1 : decode cL_rowAt 1 = .ok (.iconst 0, 1) := by decide +kernel
theorem dL_rowAt_2 : decode cL_rowAt 2 = .ok (.aload_n 0, 1) := by decide +kernel
theorem dL_rowAt_3 : decode cL_rowAt 3 = .ok (.iload_n 1, 1) := by decide +kernel
theorem dL_rowAt_4 : decode cL_rowAt 4 = .ok (.iload_n 2, 1) := by decide +kernel
theorem dL_rowAt_5 : decode cL_rowAt 5 = .ok (.invokevirtual 65, 3) := by decide +kernel
theorem dL_rowAt_8 : decode cL_rowAt 8 = .ok (.i2l, 1) := by decide +kernel
theorem dL_rowAt_9 : decode cL_rowAt 9 = .ok (.lastore, 1) := by decide +kernel
theorem dL_rowAt_10 : decode cL_rowAt 10 = .ok (.goto 7, 3) := by decide +kernel
theorem dL_rowAt_13 : decode cL_rowAt 13 = .ok (.astore 4, 2) := by decide +kernel
theorem dL_rowAt_15 : decode cL_rowAt 15 = .ok (.iconst 1, 1) := by decide +kernel
theorem dL_rowAt_16 : decode cL_rowAt 16 = .ok (.ireturn, 1) := by decide +kernel
theorem dL_rowAt_17 : decode cL_rowAt 17 = .ok (.iconst 0, 1) := by decide +kernel
theorem dL_rowAt_18 : decode cL_rowAt 18 = .ok (.ireturn, 1) := by decide +kernel
theorem dL_bellAt_0 : decode cL_bellAt 0 = .ok (.aload 4, 2) := by decide +kernel
theorem dL_bellAt_2 : decode cL_bellAt 2 = .ok (.iconst 0, 1) := by decide +kernel
theorem dL_bellAt_3 : decode cL_bellAt 3 = .ok (.aload_n 0, 1) := by decide +kernel
theorem dL_bellAt_4 : decode cL_bellAt 4 = .ok (.iload_n 1, 1) := by decide +kernel
theorem dL_bellAt_5 : decode cL_bellAt 5 = .ok (.iload_n 2, 1) := by decide +kernel
theorem dL_bellAt_6 : decode cL_bellAt 6 = .ok (.iload_n 3, 1) := by decide +kernel
theorem dL_bellAt_7 : decode cL_bellAt 7 = .ok (.invokevirtual 68, 3) := by decide +kernel
theorem dL_bellAt_10 : decode cL_bellAt 10 = .ok (.i2l, 1) := by decide +kernel
theorem dL_bellAt_11 : decode cL_bellAt 11 = .ok (.lastore, 1) := by decide +kernel
theorem dL_bellAt_12 : decode cL_bellAt 12 = .ok (.goto 7, 3) := by decide +kernel
theorem dL_bellAt_15 : decode cL_bellAt 15 = .ok (.astore 5, 2) := by decide +kernel
theorem dL_bellAt_17 : decode cL_bellAt 17 = .ok (.iconst 1, 1) := by decide +kernel
theorem dL_bellAt_18 : decode cL_bellAt 18 = .ok (.ireturn, 1) := by decide +kernel
theorem dL_bellAt_19 : decode cL_bellAt 19 = .ok (.iconst 0, 1) := by decide +kernel
theorem dL_bellAt_20 : decode cL_bellAt 20 = .ok (.ireturn, 1) := by decide +kernel
theorem dL_isTrue_0 : decode cL_isTrue 0 = .ok (.aload_n 2, 1) := by decide +kernel
theorem dL_isTrue_1 : decode cL_isTrue 1 = .ok (.iconst 0, 1) := by decide +kernel
theorem dL_isTrue_2 : decode cL_isTrue 2 = .ok (.aload_n 0, 1) := by decide +kernel
theorem dL_isTrue_3 : decode cL_isTrue 3 = .ok (.iload_n 1, 1) := by decide +kernel
theorem dL_isTrue_4 : decode cL_isTrue 4 = .ok (.invokevirtual 71, 3) := by decide +kernel
theorem dL_isTrue_7 : decode cL_isTrue 7 = .ok (.ifCond .eq 7, 3) := by decide +kernel
theorem dL_isTrue_10 : decode cL_isTrue 10 = .ok (.lconst 1, 1) := by decide +kernel
theorem dL_isTrue_11 : decode cL_isTrue 11 = .ok (.goto 4, 3) := by decide +kernel
theorem dL_isTrue_14 : decode cL_isTrue 14 = .ok (.lconst 0, 1) := by decide +kernel
theorem dL_isTrue_15 : decode cL_isTrue 15 = .ok (.lastore, 1) := by decide +kernel
theorem dL_isTrue_16 : decode cL_isTrue 16 = .ok (.goto 6, 3) := by decide +kernel
theorem dL_isTrue_19 : decode cL_isTrue 19 = .ok (.astore_n 3, 1) := by decide +kernel
theorem dL_isTrue_20 : decode cL_isTrue 20 = .ok (.iconst 1, 1) := by decide +kernel
theorem dL_isTrue_21 : decode cL_isTrue 21 = .ok (.ireturn, 1) := by decide +kernel
theorem dL_isTrue_22 : decode cL_isTrue 22 = .ok (.iconst 0, 1) := by decide +kernel
theorem dL_isTrue_23 : decode cL_isTrue 23 = .ok (.ireturn, 1) := by decide +kernel
theorem dL_comesRound_0 : decode cL_comesRound 0 = .ok (.aload_n 2, 1) := by decide +kernel
theorem dL_comesRound_1 : decode cL_comesRound 1 = .ok (.iconst 0, 1) := by decide +kernel
theorem dL_comesRound_2 : decode cL_comesRound 2 = .ok (.aload_n 0, 1) := by decide +kernel
theorem dL_comesRound_3 : decode cL_comesRound 3 = .ok (.iload_n 1, 1) := by decide +kernel
theorem dL_comesRound_4 : decode cL_comesRound 4 = .ok (.invokevirtual 75, 3) := by decide +kernel
theorem dL_comesRound_7 : decode cL_comesRound 7 = .ok (.ifCond .eq 7, 3) := by decide +kernel
theorem dL_comesRound_10 : decode cL_comesRound 10 = .ok (.lconst 1, 1) := by decide +kernel
theorem dL_comesRound_11 : decode cL_comesRound 11 = .ok (.goto 4, 3) := by decide +kernel
theorem dL_comesRound_14 : decode cL_comesRound 14 = .ok (.lconst 0, 1) := by decide +kernel
theorem dL_comesRound_15 : decode cL_comesRound 15 = .ok (.lastore, 1) := by decide +kernel
theorem dL_comesRound_16 : decode cL_comesRound 16 = .ok (.goto 6, 3) := by decide +kernel
theorem dL_comesRound_19 : decode cL_comesRound 19 = .ok (.astore_n 3, 1) := by decide +kernel
theorem dL_comesRound_20 : decode cL_comesRound 20 = .ok (.iconst 1, 1) := by decide +kernel
theorem dL_comesRound_21 : decode cL_comesRound 21 = .ok (.ireturn, 1) := by decide +kernel
theorem dL_comesRound_22 : decode cL_comesRound 22 = .ok (.iconst 0, 1) := by decide +kernel
theorem dL_comesRound_23 : decode cL_comesRound 23 = .ok (.ireturn, 1) := by decide +kernel
theorem dL_firstRepeat_0 : decode cL_firstRepeat 0 = .ok (.aload_n 2, 1) := by decide +kernel
theorem dL_firstRepeat_1 : decode cL_firstRepeat 1 = .ok (.iconst 0, 1) := by decide +kernel
theorem dL_firstRepeat_2 : decode cL_firstRepeat 2 = .ok (.aload_n 0, 1) := by decide +kernel
theorem dL_firstRepeat_3 : decode cL_firstRepeat 3 = .ok (.iload_n 1, 1) := by decide +kernel
theorem dL_firstRepeat_4 : decode cL_firstRepeat 4 = .ok (.invokevirtual 78, 3) := by decide +kernel
theorem dL_firstRepeat_7 : decode cL_firstRepeat 7 = .ok (.i2l, 1) := by decide +kernel
theorem dL_firstRepeat_8 : decode cL_firstRepeat 8 = .ok (.lastore, 1) := by decide +kernel
theorem dL_firstRepeat_9 : decode cL_firstRepeat 9 = .ok (.goto 6, 3) := by decide +kernel
theorem dL_firstRepeat_12 : decode cL_firstRepeat 12 = .ok (.astore_n 3, 1) := by decide +kernel
theorem dL_firstRepeat_13 : decode cL_firstRepeat 13 = .ok (.iconst 1, 1) := by decide +kernel
theorem dL_firstRepeat_14 : decode cL_firstRepeat 14 = .ok (.ireturn, 1) := by decide +kernel
theorem dL_firstRepeat_15 : decode cL_firstRepeat 15 = .ok (.iconst 0, 1) := by decide +kernel
theorem dL_firstRepeat_16 : decode cL_firstRepeat 16 = .ok (.ireturn, 1) := by decide +kernel
theorem dL_takeOut_0 : decode cL_takeOut 0 = .ok (.aload_n 2, 1) := by decide +kernel
theorem dL_takeOut_1 : decode cL_takeOut 1 = .ok (.iconst 0, 1) := by decide +kernel
theorem dL_takeOut_2 : decode cL_takeOut 2 = .ok (.aload_n 0, 1) := by decide +kernel
theorem dL_takeOut_3 : decode cL_takeOut 3 = .ok (.iload_n 1, 1) := by decide +kernel
theorem dL_takeOut_4 : decode cL_takeOut 4 = .ok (.invokevirtual 81, 3) := by decide +kernel
theorem dL_takeOut_7 : decode cL_takeOut 7 = .ok (.i2l, 1) := by decide +kernel
theorem dL_takeOut_8 : decode cL_takeOut 8 = .ok (.lastore, 1) := by decide +kernel
theorem dL_takeOut_9 : decode cL_takeOut 9 = .ok (.goto 9, 3) := by decide +kernel
theorem dL_takeOut_12 : decode cL_takeOut 12 = .ok (.astore_n 3, 1) := by decide +kernel
theorem dL_takeOut_13 : decode cL_takeOut 13 = .ok (.iconst 1, 1) := by decide +kernel
theorem dL_takeOut_14 : decode cL_takeOut 14 = .ok (.ireturn, 1) := by decide +kernel
theorem dL_takeOut_15 : decode cL_takeOut 15 = .ok (.astore_n 3, 1) := by decide +kernel
theorem dL_takeOut_16 : decode cL_takeOut 16 = .ok (.iconst 2, 1) := by decide +kernel
theorem dL_takeOut_17 : decode cL_takeOut 17 = .ok (.ireturn, 1) := by decide +kernel
theorem dL_takeOut_18 : decode cL_takeOut 18 = .ok (.iconst 0, 1) := by decide +kernel
theorem dL_takeOut_19 : decode cL_takeOut 19 = .ok (.ireturn, 1) := by decide +kernel
theorem dL_bringIn_0 : decode cL_bringIn 0 = .ok (.aload_n 2, 1) := by decide +kernel
theorem dL_bringIn_1 : decode cL_bringIn 1 = .ok (.iconst 0, 1) := by decide +kernel
theorem dL_bringIn_2 : decode cL_bringIn 2 = .ok (.aload_n 0, 1) := by decide +kernel
theorem dL_bringIn_3 : decode cL_bringIn 3 = .ok (.iload_n 1, 1) := by decide +kernel
theorem dL_bringIn_4 : decode cL_bringIn 4 = .ok (.invokevirtual 84, 3) := by decide +kernel
theorem dL_bringIn_7 : decode cL_bringIn 7 = .ok (.ifCond .eq 7, 3) := by decide +kernel
theorem dL_bringIn_10 : decode cL_bringIn 10 = .ok (.lconst 1, 1) := by decide +kernel
theorem dL_bringIn_11 : decode cL_bringIn 11 = .ok (.goto 4, 3) := by decide +kernel
theorem dL_bringIn_14 : decode cL_bringIn 14 = .ok (.lconst 0, 1) := by decide +kernel
theorem dL_bringIn_15 : decode cL_bringIn 15 = .ok (.lastore, 1) := by decide +kernel
theorem dL_bringIn_16 : decode cL_bringIn 16 = .ok (.goto 9, 3) := by decide +kernel
theorem dL_bringIn_19 : decode cL_bringIn 19 = .ok (.astore_n 3, 1) := by decide +kernel
theorem dL_bringIn_20 : decode cL_bringIn 20 = .ok (.iconst 1, 1) := by decide +kernel
theorem dL_bringIn_21 : decode cL_bringIn 21 = .ok (.ireturn, 1) := by decide +kernel
theorem dL_bringIn_22 : decode cL_bringIn 22 = .ok (.astore_n 3, 1) := by decide +kernel
theorem dL_bringIn_23 : decode cL_bringIn 23 = .ok (.iconst 2, 1) := by decide +kernel
theorem dL_bringIn_24 : decode cL_bringIn 24 = .ok (.ireturn, 1) := by decide +kernel
theorem dL_bringIn_25 : decode cL_bringIn 25 = .ok (.iconst 0, 1) := by decide +kernel
theorem dL_bringIn_26 : decode cL_bringIn 26 = .ok (.ireturn, 1) := by decide +kernel
theorem dL_mend_0 : decode cL_mend 0 = .ok (.aload_n 3, 1) := by decide +kernel
theorem dL_mend_1 : decode cL_mend 1 = .ok (.iconst 0, 1) := by decide +kernel
theorem dL_mend_2 : decode cL_mend 2 = .ok (.aload_n 0, 1) := by decide +kernel
theorem dL_mend_3 : decode cL_mend 3 = .ok (.iload_n 1, 1) := by decide +kernel
theorem dL_mend_4 : decode cL_mend 4 = .ok (.iload_n 2, 1) := by decide +kernel
theorem dL_mend_5 : decode cL_mend 5 = .ok (.invokevirtual 87, 3) := by decide +kernel
theorem dL_mend_8 : decode cL_mend 8 = .ok (.i2l, 1) := by decide +kernel
theorem dL_mend_9 : decode cL_mend 9 = .ok (.lastore, 1) := by decide +kernel
theorem dL_mend_10 : decode cL_mend 10 = .ok (.goto 15, 3) := by decide +kernel
theorem dL_mend_13 : decode cL_mend 13 = .ok (.astore 4, 2) := by decide +kernel
theorem dL_mend_15 : decode cL_mend 15 = .ok (.iconst 1, 1) := by decide +kernel
theorem dL_mend_16 : decode cL_mend 16 = .ok (.ireturn, 1) := by decide +kernel
theorem dL_mend_17 : decode cL_mend 17 = .ok (.astore 4, 2) := by decide +kernel
theorem dL_mend_19 : decode cL_mend 19 = .ok (.iconst 2, 1) := by decide +kernel
theorem dL_mend_20 : decode cL_mend 20 = .ok (.ireturn, 1) := by decide +kernel
theorem dL_mend_21 : decode cL_mend 21 = .ok (.astore 4, 2) := by decide +kernel
theorem dL_mend_23 : decode cL_mend 23 = .ok (.iconst 3, 1) := by decide +kernel
theorem dL_mend_24 : decode cL_mend 24 = .ok (.ireturn, 1) := by decide +kernel
theorem dL_mend_25 : decode cL_mend 25 = .ok (.iconst 0, 1) := by decide +kernel
theorem dL_mend_26 : decode cL_mend 26 = .ok (.ireturn, 1) := by decide +kernel
theorem dL_wear_0 : decode cL_wear 0 = .ok (.aload_n 3, 1) := by decide +kernel
theorem dL_wear_1 : decode cL_wear 1 = .ok (.iconst 0, 1) := by decide +kernel
theorem dL_wear_2 : decode cL_wear 2 = .ok (.aload_n 0, 1) := by decide +kernel
theorem dL_wear_3 : decode cL_wear 3 = .ok (.iload_n 1, 1) := by decide +kernel
theorem dL_wear_4 : decode cL_wear 4 = .ok (.iload_n 2, 1) := by decide +kernel
theorem dL_wear_5 : decode cL_wear 5 = .ok (.invokevirtual 90, 3) := by decide +kernel
theorem dL_wear_8 : decode cL_wear 8 = .ok (.i2l, 1) := by decide +kernel
theorem dL_wear_9 : decode cL_wear 9 = .ok (.lastore, 1) := by decide +kernel
theorem dL_wear_10 : decode cL_wear 10 = .ok (.goto 11, 3) := by decide +kernel
theorem dL_wear_13 : decode cL_wear 13 = .ok (.astore 4, 2) := by decide +kernel
theorem dL_wear_15 : decode cL_wear 15 = .ok (.iconst 1, 1) := by decide +kernel
theorem dL_wear_16 : decode cL_wear 16 = .ok (.ireturn, 1) := by decide +kernel
theorem dL_wear_17 : decode cL_wear 17 = .ok (.astore 4, 2) := by decide +kernel
theorem dL_wear_19 : decode cL_wear 19 = .ok (.iconst 2, 1) := by decide +kernel
theorem dL_wear_20 : decode cL_wear 20 = .ok (.ireturn, 1) := by decide +kernel
theorem dL_wear_21 : decode cL_wear 21 = .ok (.iconst 0, 1) := by decide +kernel
theorem dL_wear_22 : decode cL_wear 22 = .ok (.ireturn, 1) := by decide +kernel
theorem dL_isIn_0 : decode cL_isIn 0 = .ok (.aload_n 2, 1) := by decide +kernel
theorem dL_isIn_1 : decode cL_isIn 1 = .ok (.iconst 0, 1) := by decide +kernel
theorem dL_isIn_2 : decode cL_isIn 2 = .ok (.aload_n 0, 1) := by decide +kernel
theorem dL_isIn_3 : decode cL_isIn 3 = .ok (.iload_n 1, 1) := by decide +kernel
theorem dL_isIn_4 : decode cL_isIn 4 = .ok (.invokevirtual 93, 3) := by decide +kernel
theorem dL_isIn_7 : decode cL_isIn 7 = .ok (.ifCond .eq 7, 3) := by decide +kernel
theorem dL_isIn_10 : decode cL_isIn 10 = .ok (.lconst 1, 1) := by decide +kernel
theorem dL_isIn_11 : decode cL_isIn 11 = .ok (.goto 4, 3) := by decide +kernel
theorem dL_isIn_14 : decode cL_isIn 14 = .ok (.lconst 0, 1) := by decide +kernel
theorem dL_isIn_15 : decode cL_isIn 15 = .ok (.lastore, 1) := by decide +kernel
theorem dL_isIn_16 : decode cL_isIn 16 = .ok (.goto 6, 3) := by decide +kernel
theorem dL_isIn_19 : decode cL_isIn 19 = .ok (.astore_n 3, 1) := by decide +kernel
theorem dL_isIn_20 : decode cL_isIn 20 = .ok (.iconst 1, 1) := by decide +kernel
theorem dL_isIn_21 : decode cL_isIn 21 = .ok (.ireturn, 1) := by decide +kernel
theorem dL_isIn_22 : decode cL_isIn 22 = .ok (.iconst 0, 1) := by decide +kernel
theorem dL_isIn_23 : decode cL_isIn 23 = .ok (.ireturn, 1) := by decide +kernel
theorem dL_setBand_0 : decode cL_setBand 0 = .ok (.aload_n 3, 1) := by decide +kernel
theorem dL_setBand_1 : decode cL_setBand 1 = .ok (.iconst 0, 1) := by decide +kernel
theorem dL_setBand_2 : decode cL_setBand 2 = .ok (.aload_n 0, 1) := by decide +kernel
theorem dL_setBand_3 : decode cL_setBand 3 = .ok (.iload_n 1, 1) := by decide +kernel
theorem dL_setBand_4 : decode cL_setBand 4 = .ok (.iload_n 2, 1) := by decide +kernel
theorem dL_setBand_5 : decode cL_setBand 5 = .ok (.invokevirtual 96, 3) := by decide +kernel
theorem dL_setBand_8 : decode cL_setBand 8 = .ok (.i2l, 1) := by decide +kernel
theorem dL_setBand_9 : decode cL_setBand 9 = .ok (.lastore, 1) := by decide +kernel
theorem dL_setBand_10 : decode cL_setBand 10 = .ok (.goto 11, 3) := by decide +kernel
theorem dL_setBand_13 : decode cL_setBand 13 = .ok (.astore 4, 2) := by decide +kernel
theorem dL_setBand_15 : decode cL_setBand 15 = .ok (.iconst 1, 1) := by decide +kernel
theorem dL_setBand_16 : decode cL_setBand 16 = .ok (.ireturn, 1) := by decide +kernel
theorem dL_setBand_17 : decode cL_setBand 17 = .ok (.astore 4, 2) := by decide +kernel
theorem dL_setBand_19 : decode cL_setBand 19 = .ok (.iconst 2, 1) := by decide +kernel
theorem dL_setBand_20 : decode cL_setBand 20 = .ok (.ireturn, 1) := by decide +kernel
theorem dL_setBand_21 : decode cL_setBand 21 = .ok (.iconst 0, 1) := by decide +kernel
theorem dL_setBand_22 : decode cL_setBand 22 = .ok (.ireturn, 1) := by decide +kernel
theorem dL_plan_0 : decode cL_plan 0 = .ok (.aload_n 3, 1) := by decide +kernel
theorem dL_plan_1 : decode cL_plan 1 = .ok (.iconst 0, 1) := by decide +kernel
theorem dL_plan_2 : decode cL_plan 2 = .ok (.aload_n 0, 1) := by decide +kernel
theorem dL_plan_3 : decode cL_plan 3 = .ok (.iload_n 1, 1) := by decide +kernel
theorem dL_plan_4 : decode cL_plan 4 = .ok (.iload_n 2, 1) := by decide +kernel
theorem dL_plan_5 : decode cL_plan 5 = .ok (.invokevirtual 99, 3) := by decide +kernel
theorem dL_plan_8 : decode cL_plan 8 = .ok (.i2l, 1) := by decide +kernel
theorem dL_plan_9 : decode cL_plan 9 = .ok (.lastore, 1) := by decide +kernel
theorem dL_plan_10 : decode cL_plan 10 = .ok (.goto 15, 3) := by decide +kernel
theorem dL_plan_13 : decode cL_plan 13 = .ok (.astore 4, 2) := by decide +kernel
theorem dL_plan_15 : decode cL_plan 15 = .ok (.iconst 1, 1) := by decide +kernel
theorem dL_plan_16 : decode cL_plan 16 = .ok (.ireturn, 1) := by decide +kernel
theorem dL_plan_17 : decode cL_plan 17 = .ok (.astore 4, 2) := by decide +kernel
theorem dL_plan_19 : decode cL_plan 19 = .ok (.iconst 2, 1) := by decide +kernel
theorem dL_plan_20 : decode cL_plan 20 = .ok (.ireturn, 1) := by decide +kernel
theorem dL_plan_21 : decode cL_plan 21 = .ok (.astore 4, 2) := by decide +kernel
theorem dL_plan_23 : decode cL_plan 23 = .ok (.iconst 3, 1) := by decide +kernel
theorem dL_plan_24 : decode cL_plan 24 = .ok (.ireturn, 1) := by decide +kernel
theorem dL_plan_25 : decode cL_plan 25 = .ok (.iconst 0, 1) := by decide +kernel
theorem dL_plan_26 : decode cL_plan 26 = .ok (.ireturn, 1) := by decide +kernel
theorem dL_planned_0 : decode cL_planned 0 = .ok (.aload_n 2, 1) := by decide +kernel
theorem dL_planned_1 : decode cL_planned 1 = .ok (.iconst 0, 1) := by decide +kernel
theorem dL_planned_2 : decode cL_planned 2 = .ok (.aload_n 0, 1) := by decide +kernel
theorem dL_planned_3 : decode cL_planned 3 = .ok (.iload_n 1, 1) := by decide +kernel
theorem dL_planned_4 : decode cL_planned 4 = .ok (.invokevirtual 102, 3) := by decide +kernel
theorem dL_planned_7 : decode cL_planned 7 = .ok (.i2l, 1) := by decide +kernel
theorem dL_planned_8 : decode cL_planned 8 = .ok (.lastore, 1) := by decide +kernel
theorem dL_planned_9 : decode cL_planned 9 = .ok (.goto 6, 3) := by decide +kernel
theorem dL_planned_12 : decode cL_planned 12 = .ok (.astore_n 3, 1) := by decide +kernel
theorem dL_planned_13 : decode cL_planned 13 = .ok (.iconst 1, 1) := by decide +kernel
theorem dL_planned_14 : decode cL_planned 14 = .ok (.ireturn, 1) := by decide +kernel
theorem dL_planned_15 : decode cL_planned 15 = .ok (.iconst 0, 1) := by decide +kernel
theorem dL_planned_16 : decode cL_planned 16 = .ok (.ireturn, 1) := by decide +kernel
theorem dL_plannedAt_0 : decode cL_plannedAt 0 = .ok (.aload_n 3, 1) := by decide +kernel
theorem dL_plannedAt_1 : decode cL_plannedAt 1 = .ok (.iconst 0, 1) := by decide +kernel
theorem dL_plannedAt_2 : decode cL_plannedAt 2 = .ok (.aload_n 0, 1) := by decide +kernel
theorem dL_plannedAt_3 : decode cL_plannedAt 3 = .ok (.iload_n 1, 1) := by decide +kernel
theorem dL_plannedAt_4 : decode cL_plannedAt 4 = .ok (.iload_n 2, 1) := by decide +kernel
theorem dL_plannedAt_5 : decode cL_plannedAt 5 = .ok (.invokevirtual 105, 3) := by decide +kernel
theorem dL_plannedAt_8 : decode cL_plannedAt 8 = .ok (.i2l, 1) := by decide +kernel
theorem dL_plannedAt_9 : decode cL_plannedAt 9 = .ok (.lastore, 1) := by decide +kernel
theorem dL_plannedAt_10 : decode cL_plannedAt 10 = .ok (.goto 11, 3) := by decide +kernel
theorem dL_plannedAt_13 : decode cL_plannedAt 13 = .ok (.astore 4, 2) := by decide +kernel
theorem dL_plannedAt_15 : decode cL_plannedAt 15 = .ok (.iconst 1, 1) := by decide +kernel
theorem dL_plannedAt_16 : decode cL_plannedAt 16 = .ok (.ireturn, 1) := by decide +kernel
theorem dL_plannedAt_17 : decode cL_plannedAt 17 = .ok (.astore 4, 2) := by decide +kernel
theorem dL_plannedAt_19 : decode cL_plannedAt 19 = .ok (.iconst 2, 1) := by decide +kernel
theorem dL_plannedAt_20 : decode cL_plannedAt 20 = .ok (.ireturn, 1) := by decide +kernel
theorem dL_plannedAt_21 : decode cL_plannedAt 21 = .ok (.iconst 0, 1) := by decide +kernel
theorem dL_plannedAt_22 : decode cL_plannedAt 22 = .ok (.ireturn, 1) := by decide +kernel
theorem dL_rota_0 : decode cL_rota 0 = .ok (.aload_n 2, 1) := by decide +kernel
theorem dL_rota_1 : decode cL_rota 1 = .ok (.iconst 0, 1) := by decide +kernel
theorem dL_rota_2 : decode cL_rota 2 = .ok (.aload_n 0, 1) := by decide +kernel
theorem dL_rota_3 : decode cL_rota 3 = .ok (.iload_n 1, 1) := by decide +kernel
theorem dL_rota_4 : decode cL_rota 4 = .ok (.invokevirtual 108, 3) := by decide +kernel
theorem dL_rota_7 : decode cL_rota 7 = .ok (.i2l, 1) := by decide +kernel
theorem dL_rota_8 : decode cL_rota 8 = .ok (.lastore, 1) := by decide +kernel
theorem dL_rota_9 : decode cL_rota 9 = .ok (.goto 6, 3) := by decide +kernel
theorem dL_rota_12 : decode cL_rota 12 = .ok (.astore_n 3, 1) := by decide +kernel
theorem dL_rota_13 : decode cL_rota 13 = .ok (.iconst 1, 1) := by decide +kernel
theorem dL_rota_14 : decode cL_rota 14 = .ok (.ireturn, 1) := by decide +kernel
theorem dL_rota_15 : decode cL_rota 15 = .ok (.iconst 0, 1) := by decide +kernel
theorem dL_rota_16 : decode cL_rota 16 = .ok (.ireturn, 1) := by decide +kernel
theorem dL_pass_0 : decode cL_pass 0 = .ok (.aload_n 1, 1) := by decide +kernel
theorem dL_pass_1 : decode cL_pass 1 = .ok (.iconst 0, 1) := by decide +kernel
theorem dL_pass_2 : decode cL_pass 2 = .ok (.aload_n 0, 1) := by decide +kernel
theorem dL_pass_3 : decode cL_pass 3 = .ok (.invokevirtual 111, 3) := by decide +kernel
theorem dL_pass_6 : decode cL_pass 6 = .ok (.i2l, 1) := by decide +kernel
theorem dL_pass_7 : decode cL_pass 7 = .ok (.lastore, 1) := by decide +kernel
theorem dL_pass_8 : decode cL_pass 8 = .ok (.goto 6, 3) := by decide +kernel
theorem dL_pass_11 : decode cL_pass 11 = .ok (.astore_n 2, 1) := by decide +kernel
theorem dL_pass_12 : decode cL_pass 12 = .ok (.iconst 1, 1) := by decide +kernel
theorem dL_pass_13 : decode cL_pass 13 = .ok (.ireturn, 1) := by decide +kernel
theorem dL_pass_14 : decode cL_pass 14 = .ok (.iconst 0, 1) := by decide +kernel
theorem dL_pass_15 : decode cL_pass 15 = .ok (.ireturn, 1) := by decide +kernel
theorem dL_ring_0 : decode cL_ring 0 = .ok (.aload 4, 2) := by decide +kernel
theorem dL_ring_2 : decode cL_ring 2 = .ok (.iconst 0, 1) := by decide +kernel
theorem dL_ring_3 : decode cL_ring 3 = .ok (.aload_n 0, 1) := by decide +kernel
theorem dL_ring_4 : decode cL_ring 4 = .ok (.iload_n 1, 1) := by decide +kernel
theorem dL_ring_5 : decode cL_ring 5 = .ok (.iload_n 2, 1) := by decide +kernel
theorem dL_ring_6 : decode cL_ring 6 = .ok (.iload_n 3, 1) := by decide +kernel
theorem dL_ring_7 : decode cL_ring 7 = .ok (.invokevirtual 114, 3) := by decide +kernel
theorem dL_ring_10 : decode cL_ring 10 = .ok (.i2l, 1) := by decide +kernel
theorem dL_ring_11 : decode cL_ring 11 = .ok (.lastore, 1) := by decide +kernel
theorem dL_ring_12 : decode cL_ring 12 = .ok (.goto 15, 3) := by decide +kernel
theorem dL_ring_15 : decode cL_ring 15 = .ok (.astore 5, 2) := by decide +kernel
theorem dL_ring_17 : decode cL_ring 17 = .ok (.iconst 1, 1) := by decide +kernel
theorem dL_ring_18 : decode cL_ring 18 = .ok (.ireturn, 1) := by decide +kernel
theorem dL_ring_19 : decode cL_ring 19 = .ok (.astore 5, 2) := by decide +kernel
theorem dL_ring_21 : decode cL_ring 21 = .ok (.iconst 2, 1) := by decide +kernel
theorem dL_ring_22 : decode cL_ring 22 = .ok (.ireturn, 1) := by decide +kernel
theorem dL_ring_23 : decode cL_ring 23 = .ok (.astore 5, 2) := by decide +kernel
theorem dL_ring_25 : decode cL_ring 25 = .ok (.iconst 3, 1) := by decide +kernel
theorem dL_ring_26 : decode cL_ring 26 = .ok (.ireturn, 1) := by decide +kernel
theorem dL_ring_27 : decode cL_ring 27 = .ok (.iconst 0, 1) := by decide +kernel
theorem dL_ring_28 : decode cL_ring 28 = .ok (.ireturn, 1) := by decide +kernel
theorem dL_stand_0 : decode cL_stand 0 = .ok (.aload_n 1, 1) := by decide +kernel
theorem dL_stand_1 : decode cL_stand 1 = .ok (.iconst 0, 1) := by decide +kernel
theorem dL_stand_2 : decode cL_stand 2 = .ok (.aload_n 0, 1) := by decide +kernel
theorem dL_stand_3 : decode cL_stand 3 = .ok (.invokevirtual 117, 3) := by decide +kernel
theorem dL_stand_6 : decode cL_stand 6 = .ok (.i2l, 1) := by decide +kernel
theorem dL_stand_7 : decode cL_stand 7 = .ok (.lastore, 1) := by decide +kernel
theorem dL_stand_8 : decode cL_stand 8 = .ok (.goto 6, 3) := by decide +kernel
theorem dL_stand_11 : decode cL_stand 11 = .ok (.astore_n 2, 1) := by decide +kernel
theorem dL_stand_12 : decode cL_stand 12 = .ok (.iconst 1, 1) := by decide +kernel
theorem dL_stand_13 : decode cL_stand 13 = .ok (.ireturn, 1) := by decide +kernel
theorem dL_stand_14 : decode cL_stand 14 = .ok (.iconst 0, 1) := by decide +kernel
theorem dL_stand_15 : decode cL_stand 15 = .ok (.ireturn, 1) := by decide +kernel
theorem dL_pull_0 : decode cL_pull 0 = .ok (.aload_n 3, 1) := by decide +kernel
theorem dL_pull_1 : decode cL_pull 1 = .ok (.iconst 0, 1) := by decide +kernel
theorem dL_pull_2 : decode cL_pull 2 = .ok (.aload_n 0, 1) := by decide +kernel
theorem dL_pull_3 : decode cL_pull 3 = .ok (.iload_n 1, 1) := by decide +kernel
theorem dL_pull_4 : decode cL_pull 4 = .ok (.iload_n 2, 1) := by decide +kernel
theorem dL_pull_5 : decode cL_pull 5 = .ok (.invokevirtual 120, 3) := by decide +kernel
theorem dL_pull_8 : decode cL_pull 8 = .ok (.i2l, 1) := by decide +kernel
theorem dL_pull_9 : decode cL_pull 9 = .ok (.lastore, 1) := by decide +kernel
theorem dL_pull_10 : decode cL_pull 10 = .ok (.goto 15, 3) := by decide +kernel
theorem dL_pull_13 : decode cL_pull 13 = .ok (.astore 4, 2) := by decide +kernel
theorem dL_pull_15 : decode cL_pull 15 = .ok (.iconst 1, 1) := by decide +kernel
theorem dL_pull_16 : decode cL_pull 16 = .ok (.ireturn, 1) := by decide +kernel
theorem dL_pull_17 : decode cL_pull 17 = .ok (.astore 4, 2) := by decide +kernel
theorem dL_pull_19 : decode cL_pull 19 = .ok (.iconst 2, 1) := by decide +kernel
theorem dL_pull_20 : decode cL_pull 20 = .ok (.ireturn, 1) := by decide +kernel
theorem dL_pull_21 : decode cL_pull 21 = .ok (.astore 4, 2) := by decide +kernel
theorem dL_pull_23 : decode cL_pull 23 = .ok (.iconst 3, 1) := by decide +kernel
theorem dL_pull_24 : decode cL_pull 24 = .ok (.ireturn, 1) := by decide +kernel
theorem dL_pull_25 : decode cL_pull 25 = .ok (.iconst 0, 1) := by decide +kernel
theorem dL_pull_26 : decode cL_pull 26 = .ok (.ireturn, 1) := by decide +kernel
theorem dL_due_0 : decode cL_due 0 = .ok (.aload_n 2, 1) := by decide +kernel
theorem dL_due_1 : decode cL_due 1 = .ok (.iconst 0, 1) := by decide +kernel
theorem dL_due_2 : decode cL_due 2 = .ok (.aload_n 0, 1) := by decide +kernel
theorem dL_due_3 : decode cL_due 3 = .ok (.iload_n 1, 1) := by decide +kernel
theorem dL_due_4 : decode cL_due 4 = .ok (.invokevirtual 123, 3) := by decide +kernel
theorem dL_due_7 : decode cL_due 7 = .ok (.i2l, 1) := by decide +kernel
theorem dL_due_8 : decode cL_due 8 = .ok (.lastore, 1) := by decide +kernel
theorem dL_due_9 : decode cL_due 9 = .ok (.goto 9, 3) := by decide +kernel
theorem dL_due_12 : decode cL_due 12 = .ok (.astore_n 3, 1) := by decide +kernel
theorem dL_due_13 : decode cL_due 13 = .ok (.iconst 1, 1) := by decide +kernel
theorem dL_due_14 : decode cL_due 14 = .ok (.ireturn, 1) := by decide +kernel
theorem dL_due_15 : decode cL_due 15 = .ok (.astore_n 3, 1) := by decide +kernel
theorem dL_due_16 : decode cL_due 16 = .ok (.iconst 2, 1) := by decide +kernel
theorem dL_due_17 : decode cL_due 17 = .ok (.ireturn, 1) := by decide +kernel
theorem dL_due_18 : decode cL_due 18 = .ok (.iconst 0, 1) := by decide +kernel
theorem dL_due_19 : decode cL_due 19 = .ok (.ireturn, 1) := by decide +kernel
theorem dL_setPatience_0 : decode cL_setPatience 0 = .ok (.aload_n 2, 1) := by decide +kernel
theorem dL_setPatience_1 : decode cL_setPatience 1 = .ok (.iconst 0, 1) := by decide +kernel
theorem dL_setPatience_2 : decode cL_setPatience 2 = .ok (.aload_n 0, 1) := by decide +kernel
theorem dL_setPatience_3 : decode cL_setPatience 3 = .ok (.iload_n 1, 1) := by decide +kernel
theorem dL_setPatience_4 : decode cL_setPatience 4 = .ok (.invokevirtual 126, 3) := by decide +kernel
theorem dL_setPatience_7 : decode cL_setPatience 7 = .ok (.i2l, 1) := by decide +kernel
theorem dL_setPatience_8 : decode cL_setPatience 8 = .ok (.lastore, 1) := by decide +kernel
theorem dL_setPatience_9 : decode cL_setPatience 9 = .ok (.goto 6, 3) := by decide +kernel
theorem dL_setPatience_12 : decode cL_setPatience 12 = .ok (.astore_n 3, 1) := by decide +kernel
theorem dL_setPatience_13 : decode cL_setPatience 13 = .ok (.iconst 1, 1) := by decide +kernel
theorem dL_setPatience_14 : decode cL_setPatience 14 = .ok (.ireturn, 1) := by decide +kernel
theorem dL_setPatience_15 : decode cL_setPatience 15 = .ok (.iconst 0, 1) := by decide +kernel
theorem dL_setPatience_16 : decode cL_setPatience 16 = .ok (.ireturn, 1) := by decide +kernel
theorem dL_late_0 : decode cL_late 0 = .ok (.aload_n 2, 1) := by decide +kernel
theorem dL_late_1 : decode cL_late 1 = .ok (.iconst 0, 1) := by decide +kernel
theorem dL_late_2 : decode cL_late 2 = .ok (.aload_n 0, 1) := by decide +kernel
theorem dL_late_3 : decode cL_late 3 = .ok (.iload_n 1, 1) := by decide +kernel
theorem dL_late_4 : decode cL_late 4 = .ok (.invokevirtual 129, 3) := by decide +kernel
theorem dL_late_7 : decode cL_late 7 = .ok (.i2l, 1) := by decide +kernel
theorem dL_late_8 : decode cL_late 8 = .ok (.lastore, 1) := by decide +kernel
theorem dL_late_9 : decode cL_late 9 = .ok (.goto 6, 3) := by decide +kernel
theorem dL_late_12 : decode cL_late 12 = .ok (.astore_n 3, 1) := by decide +kernel
theorem dL_late_13 : decode cL_late 13 = .ok (.iconst 1, 1) := by decide +kernel
theorem dL_late_14 : decode cL_late 14 = .ok (.ireturn, 1) := by decide +kernel
theorem dL_late_15 : decode cL_late 15 = .ok (.iconst 0, 1) := by decide +kernel
theorem dL_late_16 : decode cL_late 16 = .ok (.ireturn, 1) := by decide +kernel
theorem dL_early_0 : decode cL_early 0 = .ok (.aload_n 2, 1) := by decide +kernel
theorem dL_early_1 : decode cL_early 1 = .ok (.iconst 0, 1) := by decide +kernel
theorem dL_early_2 : decode cL_early 2 = .ok (.aload_n 0, 1) := by decide +kernel
theorem dL_early_3 : decode cL_early 3 = .ok (.iload_n 1, 1) := by decide +kernel
theorem dL_early_4 : decode cL_early 4 = .ok (.invokevirtual 132, 3) := by decide +kernel
theorem dL_early_7 : decode cL_early 7 = .ok (.i2l, 1) := by decide +kernel
theorem dL_early_8 : decode cL_early 8 = .ok (.lastore, 1) := by decide +kernel
theorem dL_early_9 : decode cL_early 9 = .ok (.goto 6, 3) := by decide +kernel
theorem dL_early_12 : decode cL_early 12 = .ok (.astore_n 3, 1) := by decide +kernel
theorem dL_early_13 : decode cL_early 13 = .ok (.iconst 1, 1) := by decide +kernel
theorem dL_early_14 : decode cL_early 14 = .ok (.ireturn, 1) := by decide +kernel
theorem dL_early_15 : decode cL_early 15 = .ok (.iconst 0, 1) := by decide +kernel
theorem dL_early_16 : decode cL_early 16 = .ok (.ireturn, 1) := by decide +kernel
theorem dL_errors_0 : decode cL_errors 0 = .ok (.aload_n 2, 1) := by decide +kernel
theorem dL_errors_1 : decode cL_errors 1 = .ok (.iconst 0, 1) := by decide +kernel
theorem dL_errors_2 : decode cL_errors 2 = .ok (.aload_n 0, 1) := by decide +kernel
theorem dL_errors_3 : decode cL_errors 3 = .ok (.iload_n 1, 1) := by decide +kernel
theorem dL_errors_4 : decode cL_errors 4 = .ok (.invokevirtual 135, 3) := by decide +kernel
theorem dL_errors_7 : decode cL_errors 7 = .ok (.i2l, 1) := by decide +kernel
theorem dL_errors_8 : decode cL_errors 8 = .ok (.lastore, 1) := by decide +kernel
theorem dL_errors_9 : decode cL_errors 9 = .ok (.goto 6, 3) := by decide +kernel
theorem dL_errors_12 : decode cL_errors 12 = .ok (.astore_n 3, 1) := by decide +kernel
theorem dL_errors_13 : decode cL_errors 13 = .ok (.iconst 1, 1) := by decide +kernel
theorem dL_errors_14 : decode cL_errors 14 = .ok (.ireturn, 1) := by decide +kernel
theorem dL_errors_15 : decode cL_errors 15 = .ok (.iconst 0, 1) := by decide +kernel
theorem dL_errors_16 : decode cL_errors 16 = .ok (.ireturn, 1) := by decide +kernel
theorem dL_law_0 : decode cL_law 0 = .ok (.new 8, 3) := by decide +kernel
theorem dL_law_3 : decode cL_law 3 = .ok (.dup, 1) := by decide +kernel
theorem dL_law_4 : decode cL_law 4 = .ok (.invokespecial 138, 3) := by decide +kernel
theorem dL_law_7 : decode cL_law 7 = .ok (.astore_n 1, 1) := by decide +kernel
theorem dL_law_8 : decode cL_law 8 = .ok (.new 139, 3) := by decide +kernel
theorem dL_law_11 : decode cL_law 11 = .ok (.dup, 1) := by decide +kernel
theorem dL_law_12 : decode cL_law 12 = .ok (.invokespecial 141, 3) := by decide +kernel
theorem dL_law_15 : decode cL_law 15 = .ok (.astore_n 2, 1) := by decide +kernel
theorem dL_law_16 : decode cL_law 16 = .ok (.iconst 1, 1) := by decide +kernel
theorem dL_law_17 : decode cL_law 17 = .ok (.newarray .long, 2) := by decide +kernel
theorem dL_law_19 : decode cL_law 19 = .ok (.astore_n 3, 1) := by decide +kernel
theorem dL_law_20 : decode cL_law 20 = .ok (.iconst 0, 1) := by decide +kernel
theorem dL_law_21 : decode cL_law 21 = .ok (.istore 4, 2) := by decide +kernel
theorem dL_law_23 : decode cL_law 23 = .ok (.iload 4, 2) := by decide +kernel
theorem dL_law_25 : decode cL_law 25 = .ok (.aload_n 0, 1) := by decide +kernel
theorem dL_law_26 : decode cL_law 26 = .ok (.arraylength, 1) := by decide +kernel
theorem dL_law_27 : decode cL_law 27 = .ok (.iconst 4, 1) := by decide +kernel
theorem dL_law_28 : decode cL_law 28 = .ok (.isub, 1) := by decide +kernel
theorem dL_law_29 : decode cL_law 29 = .ok (.if_icmp .gt 2795, 3) := by decide +kernel
theorem dL_law_32 : decode cL_law 32 = .ok (.aload_n 0, 1) := by decide +kernel
theorem dL_law_33 : decode cL_law 33 = .ok (.iload 4, 2) := by decide +kernel
theorem dL_law_35 : decode cL_law 35 = .ok (.iaload, 1) := by decide +kernel
theorem dL_law_36 : decode cL_law 36 = .ok (.bipush 63, 2) := by decide +kernel
theorem dL_law_38 : decode cL_law 38 = .ok (.iand, 1) := by decide +kernel
theorem dL_law_39 : decode cL_law 39 = .ok (.tableswitch 2779 0 49 #[213, 269, 282, 338, 418, 474, 554, 622, 678, 753, 809, 877, 890, 934, 1002, 1015, 1071, 1139, 1195, 1263, 1343, 1406, 1469, 1525, 1581, 1644, 1712, 1780, 1843, 1911, 1979, 2035, 2103, 2159, 2203, 2216, 2229, 2309, 2353, 2366, 2434, 2490, 2546, 2559, 2572, 2628, 2684, 2740, 2753, 2766], 213) := by decide +kernel
theorem dL_law_252 : decode cL_law 252 = .ok (.aload_n 1, 1) := by decide +kernel
theorem dL_law_253 : decode cL_law 253 = .ok (.aload_n 0, 1) := by decide +kernel
theorem dL_law_254 : decode cL_law 254 = .ok (.iload 4, 2) := by decide +kernel
theorem dL_law_256 : decode cL_law 256 = .ok (.iconst 1, 1) := by decide +kernel
theorem dL_law_257 : decode cL_law 257 = .ok (.iadd, 1) := by decide +kernel
theorem dL_law_258 : decode cL_law 258 = .ok (.iaload, 1) := by decide +kernel
theorem dL_law_259 : decode cL_law 259 = .ok (.aload_n 3, 1) := by decide +kernel
theorem dL_law_260 : decode cL_law 260 = .ok (.invokestatic 142, 3) := by decide +kernel
theorem dL_law_263 : decode cL_law 263 = .ok (.istore 5, 2) := by decide +kernel
theorem dL_law_265 : decode cL_law 265 = .ok (.aload_n 2, 1) := by decide +kernel
theorem dL_law_266 : decode cL_law 266 = .ok (.aload_n 0, 1) := by decide +kernel
theorem dL_law_267 : decode cL_law 267 = .ok (.iload 4, 2) := by decide +kernel
theorem dL_law_269 : decode cL_law 269 = .ok (.iconst 1, 1) := by decide +kernel
theorem dL_law_270 : decode cL_law 270 = .ok (.iadd, 1) := by decide +kernel
theorem dL_law_271 : decode cL_law 271 = .ok (.iaload, 1) := by decide +kernel
theorem dL_law_272 : decode cL_law 272 = .ok (.invokevirtual 147, 3) := by decide +kernel
theorem dL_law_275 : decode cL_law 275 = .ok (.istore 6, 2) := by decide +kernel
theorem dL_law_277 : decode cL_law 277 = .ok (.aload_n 2, 1) := by decide +kernel
theorem dL_law_278 : decode cL_law 278 = .ok (.invokevirtual 148, 3) := by decide +kernel
theorem dL_law_281 : decode cL_law 281 = .ok (.iload 5, 2) := by decide +kernel
theorem dL_law_283 : decode cL_law 283 = .ok (.if_icmp .eq 5, 3) := by decide +kernel
theorem dL_law_286 : decode cL_law 286 = .ok (.iconst 0, 1) := by decide +kernel
theorem dL_law_287 : decode cL_law 287 = .ok (.ireturn, 1) := by decide +kernel
theorem dL_law_288 : decode cL_law 288 = .ok (.iload 5, 2) := by decide +kernel
theorem dL_law_290 : decode cL_law 290 = .ok (.ifCond .ne 15, 3) := by decide +kernel
theorem dL_law_293 : decode cL_law 293 = .ok (.aload_n 3, 1) := by decide +kernel
theorem dL_law_294 : decode cL_law 294 = .ok (.iconst 0, 1) := by decide +kernel
theorem dL_law_295 : decode cL_law 295 = .ok (.laload, 1) := by decide +kernel
theorem dL_law_296 : decode cL_law 296 = .ok (.iload 6, 2) := by decide +kernel
theorem dL_law_298 : decode cL_law 298 = .ok (.i2l, 1) := by decide +kernel
theorem dL_law_299 : decode cL_law 299 = .ok (.lcmp, 1) := by decide +kernel
theorem dL_law_300 : decode cL_law 300 = .ok (.ifCond .eq 5, 3) := by decide +kernel
theorem dL_law_303 : decode cL_law 303 = .ok (.iconst 0, 1) := by decide +kernel
theorem dL_law_304 : decode cL_law 304 = .ok (.ireturn, 1) := by decide +kernel
theorem dL_law_305 : decode cL_law 305 = .ok (.goto 2513, 3) := by decide +kernel
theorem dL_law_308 : decode cL_law 308 = .ok (.aload_n 1, 1) := by decide +kernel
theorem dL_law_309 : decode cL_law 309 = .ok (.invokevirtual 151, 3) := by decide +kernel
theorem dL_law_312 : decode cL_law 312 = .ok (.aload_n 2, 1) := by decide +kernel
theorem dL_law_313 : decode cL_law 313 = .ok (.invokevirtual 154, 3) := by decide +kernel
theorem dL_law_316 : decode cL_law 316 = .ok (.if_icmp .eq 2502, 3) := by decide +kernel
theorem dL_law_319 : decode cL_law 319 = .ok (.iconst 0, 1) := by decide +kernel
theorem dL_law_320 : decode cL_law 320 = .ok (.ireturn, 1) := by decide +kernel
theorem dL_law_321 : decode cL_law 321 = .ok (.aload_n 1, 1) := by decide +kernel
theorem dL_law_322 : decode cL_law 322 = .ok (.aload_n 0, 1) := by decide +kernel
theorem dL_law_323 : decode cL_law 323 = .ok (.iload 4, 2) := by decide +kernel
theorem dL_law_325 : decode cL_law 325 = .ok (.iconst 1, 1) := by decide +kernel
theorem dL_law_326 : decode cL_law 326 = .ok (.iadd, 1) := by decide +kernel
theorem dL_law_327 : decode cL_law 327 = .ok (.iaload, 1) := by decide +kernel
theorem dL_law_328 : decode cL_law 328 = .ok (.aload_n 3, 1) := by decide +kernel
theorem dL_law_329 : decode cL_law 329 = .ok (.invokestatic 155, 3) := by decide +kernel
theorem dL_law_332 : decode cL_law 332 = .ok (.istore 5, 2) := by decide +kernel
theorem dL_law_334 : decode cL_law 334 = .ok (.aload_n 2, 1) := by decide +kernel
theorem dL_law_335 : decode cL_law 335 = .ok (.aload_n 0, 1) := by decide +kernel
theorem dL_law_336 : decode cL_law 336 = .ok (.iload 4, 2) := by decide +kernel
theorem dL_law_338 : decode cL_law 338 = .ok (.iconst 1, 1) := by decide +kernel
theorem dL_law_339 : decode cL_law 339 = .ok (.iadd, 1) := by decide +kernel
theorem dL_law_340 : decode cL_law 340 = .ok (.iaload, 1) := by decide +kernel
theorem dL_law_341 : decode cL_law 341 = .ok (.invokevirtual 157, 3) := by decide +kernel
theorem dL_law_344 : decode cL_law 344 = .ok (.istore 6, 2) := by decide +kernel
theorem dL_law_346 : decode cL_law 346 = .ok (.aload_n 2, 1) := by decide +kernel
theorem dL_law_347 : decode cL_law 347 = .ok (.invokevirtual 148, 3) := by decide +kernel
theorem dL_law_350 : decode cL_law 350 = .ok (.iload 5, 2) := by decide +kernel
theorem dL_law_352 : decode cL_law 352 = .ok (.if_icmp .eq 5, 3) := by decide +kernel
theorem dL_law_355 : decode cL_law 355 = .ok (.iconst 0, 1) := by decide +kernel
theorem dL_law_356 : decode cL_law 356 = .ok (.ireturn, 1) := by decide +kernel
theorem dL_law_357 : decode cL_law 357 = .ok (.iload 5, 2) := by decide +kernel
theorem dL_law_359 : decode cL_law 359 = .ok (.ifCond .ne 15, 3) := by decide +kernel
theorem dL_law_362 : decode cL_law 362 = .ok (.aload_n 3, 1) := by decide +kernel
theorem dL_law_363 : decode cL_law 363 = .ok (.iconst 0, 1) := by decide +kernel
theorem dL_law_364 : decode cL_law 364 = .ok (.laload, 1) := by decide +kernel
theorem dL_law_365 : decode cL_law 365 = .ok (.iload 6, 2) := by decide +kernel
theorem dL_law_367 : decode cL_law 367 = .ok (.i2l, 1) := by decide +kernel
theorem dL_law_368 : decode cL_law 368 = .ok (.lcmp, 1) := by decide +kernel
theorem dL_law_369 : decode cL_law 369 = .ok (.ifCond .eq 5, 3) := by decide +kernel
theorem dL_law_372 : decode cL_law 372 = .ok (.iconst 0, 1) := by decide +kernel
theorem dL_law_373 : decode cL_law 373 = .ok (.ireturn, 1) := by decide +kernel
theorem dL_law_374 : decode cL_law 374 = .ok (.goto 2444, 3) := by decide +kernel
theorem dL_law_377 : decode cL_law 377 = .ok (.aload_n 1, 1) := by decide +kernel
theorem dL_law_378 : decode cL_law 378 = .ok (.aload_n 0, 1) := by decide +kernel
theorem dL_law_379 : decode cL_law 379 = .ok (.iload 4, 2) := by decide +kernel
theorem dL_law_381 : decode cL_law 381 = .ok (.iconst 1, 1) := by decide +kernel
theorem dL_law_382 : decode cL_law 382 = .ok (.iadd, 1) := by decide +kernel
theorem dL_law_383 : decode cL_law 383 = .ok (.iaload, 1) := by decide +kernel
theorem dL_law_384 : decode cL_law 384 = .ok (.aload_n 0, 1) := by decide +kernel
theorem dL_law_385 : decode cL_law 385 = .ok (.iload 4, 2) := by decide +kernel
theorem dL_law_387 : decode cL_law 387 = .ok (.iconst 2, 1) := by decide +kernel
theorem dL_law_388 : decode cL_law 388 = .ok (.iadd, 1) := by decide +kernel
theorem dL_law_389 : decode cL_law 389 = .ok (.iaload, 1) := by decide +kernel
theorem dL_law_390 : decode cL_law 390 = .ok (.aload_n 0, 1) := by decide +kernel
theorem dL_law_391 : decode cL_law 391 = .ok (.iload 4, 2) := by decide +kernel
theorem dL_law_393 : decode cL_law 393 = .ok (.iconst 3, 1) := by decide +kernel
theorem dL_law_394 : decode cL_law 394 = .ok (.iadd, 1) := by decide +kernel
theorem dL_law_395 : decode cL_law 395 = .ok (.iaload, 1) := by decide +kernel
theorem dL_law_396 : decode cL_law 396 = .ok (.aload_n 3, 1) := by decide +kernel
theorem dL_law_397 : decode cL_law 397 = .ok (.invokestatic 158, 3) := by decide +kernel
theorem dL_law_400 : decode cL_law 400 = .ok (.istore 5, 2) := by decide +kernel
theorem dL_law_402 : decode cL_law 402 = .ok (.aload_n 2, 1) := by decide +kernel
theorem dL_law_403 : decode cL_law 403 = .ok (.aload_n 0, 1) := by decide +kernel
theorem dL_law_404 : decode cL_law 404 = .ok (.iload 4, 2) := by decide +kernel
theorem dL_law_406 : decode cL_law 406 = .ok (.iconst 1, 1) := by decide +kernel
theorem dL_law_407 : decode cL_law 407 = .ok (.iadd, 1) := by decide +kernel
theorem dL_law_408 : decode cL_law 408 = .ok (.iaload, 1) := by decide +kernel
theorem dL_law_409 : decode cL_law 409 = .ok (.aload_n 0, 1) := by decide +kernel
theorem dL_law_410 : decode cL_law 410 = .ok (.iload 4, 2) := by decide +kernel
theorem dL_law_412 : decode cL_law 412 = .ok (.iconst 2, 1) := by decide +kernel
theorem dL_law_413 : decode cL_law 413 = .ok (.iadd, 1) := by decide +kernel
theorem dL_law_414 : decode cL_law 414 = .ok (.iaload, 1) := by decide +kernel
theorem dL_law_415 : decode cL_law 415 = .ok (.aload_n 0, 1) := by decide +kernel
theorem dL_law_416 : decode cL_law 416 = .ok (.iload 4, 2) := by decide +kernel
theorem dL_law_418 : decode cL_law 418 = .ok (.iconst 3, 1) := by decide +kernel
theorem dL_law_419 : decode cL_law 419 = .ok (.iadd, 1) := by decide +kernel
theorem dL_law_420 : decode cL_law 420 = .ok (.iaload, 1) := by decide +kernel
theorem dL_law_421 : decode cL_law 421 = .ok (.invokevirtual 161, 3) := by decide +kernel
theorem dL_law_424 : decode cL_law 424 = .ok (.istore 6, 2) := by decide +kernel
theorem dL_law_426 : decode cL_law 426 = .ok (.aload_n 2, 1) := by decide +kernel
theorem dL_law_427 : decode cL_law 427 = .ok (.invokevirtual 148, 3) := by decide +kernel
theorem dL_law_430 : decode cL_law 430 = .ok (.iload 5, 2) := by decide +kernel
theorem dL_law_432 : decode cL_law 432 = .ok (.if_icmp .eq 5, 3) := by decide +kernel
theorem dL_law_435 : decode cL_law 435 = .ok (.iconst 0, 1) := by decide +kernel
theorem dL_law_436 : decode cL_law 436 = .ok (.ireturn, 1) := by decide +kernel
theorem dL_law_437 : decode cL_law 437 = .ok (.iload 5, 2) := by decide +kernel
theorem dL_law_439 : decode cL_law 439 = .ok (.ifCond .ne 15, 3) := by decide +kernel
theorem dL_law_442 : decode cL_law 442 = .ok (.aload_n 3, 1) := by decide +kernel
theorem dL_law_443 : decode cL_law 443 = .ok (.iconst 0, 1) := by decide +kernel
theorem dL_law_444 : decode cL_law 444 = .ok (.laload, 1) := by decide +kernel
theorem dL_law_445 : decode cL_law 445 = .ok (.iload 6, 2) := by decide +kernel
theorem dL_law_447 : decode cL_law 447 = .ok (.i2l, 1) := by decide +kernel
theorem dL_law_448 : decode cL_law 448 = .ok (.lcmp, 1) := by decide +kernel
theorem dL_law_449 : decode cL_law 449 = .ok (.ifCond .eq 5, 3) := by decide +kernel
theorem dL_law_452 : decode cL_law 452 = .ok (.iconst 0, 1) := by decide +kernel
theorem dL_law_453 : decode cL_law 453 = .ok (.ireturn, 1) := by decide +kernel
theorem dL_law_454 : decode cL_law 454 = .ok (.goto 2364, 3) := by decide +kernel
theorem dL_law_457 : decode cL_law 457 = .ok (.aload_n 1, 1) := by decide +kernel
theorem dL_law_458 : decode cL_law 458 = .ok (.aload_n 0, 1) := by decide +kernel
theorem dL_law_459 : decode cL_law 459 = .ok (.iload 4, 2) := by decide +kernel
theorem dL_law_461 : decode cL_law 461 = .ok (.iconst 1, 1) := by decide +kernel
theorem dL_law_462 : decode cL_law 462 = .ok (.iadd, 1) := by decide +kernel
theorem dL_law_463 : decode cL_law 463 = .ok (.iaload, 1) := by decide +kernel
theorem dL_law_464 : decode cL_law 464 = .ok (.aload_n 3, 1) := by decide +kernel
theorem dL_law_465 : decode cL_law 465 = .ok (.invokestatic 162, 3) := by decide +kernel
theorem dL_law_468 : decode cL_law 468 = .ok (.istore 5, 2) := by decide +kernel
theorem dL_law_470 : decode cL_law 470 = .ok (.aload_n 2, 1) := by decide +kernel
theorem dL_law_471 : decode cL_law 471 = .ok (.aload_n 0, 1) := by decide +kernel
theorem dL_law_472 : decode cL_law 472 = .ok (.iload 4, 2) := by decide +kernel
theorem dL_law_474 : decode cL_law 474 = .ok (.iconst 1, 1) := by decide +kernel
theorem dL_law_475 : decode cL_law 475 = .ok (.iadd, 1) := by decide +kernel
theorem dL_law_476 : decode cL_law 476 = .ok (.iaload, 1) := by decide +kernel
theorem dL_law_477 : decode cL_law 477 = .ok (.invokevirtual 164, 3) := by decide +kernel
theorem dL_law_480 : decode cL_law 480 = .ok (.istore 6, 2) := by decide +kernel
theorem dL_law_482 : decode cL_law 482 = .ok (.aload_n 2, 1) := by decide +kernel
theorem dL_law_483 : decode cL_law 483 = .ok (.invokevirtual 148, 3) := by decide +kernel
theorem dL_law_486 : decode cL_law 486 = .ok (.iload 5, 2) := by decide +kernel
theorem dL_law_488 : decode cL_law 488 = .ok (.if_icmp .eq 5, 3) := by decide +kernel
theorem dL_law_491 : decode cL_law 491 = .ok (.iconst 0, 1) := by decide +kernel
theorem dL_law_492 : decode cL_law 492 = .ok (.ireturn, 1) := by decide +kernel
theorem dL_law_493 : decode cL_law 493 = .ok (.iload 5, 2) := by decide +kernel
theorem dL_law_495 : decode cL_law 495 = .ok (.ifCond .ne 15, 3) := by decide +kernel
theorem dL_law_498 : decode cL_law 498 = .ok (.aload_n 3, 1) := by decide +kernel
theorem dL_law_499 : decode cL_law 499 = .ok (.iconst 0, 1) := by decide +kernel
theorem dL_law_500 : decode cL_law 500 = .ok (.laload, 1) := by decide +kernel
theorem dL_law_501 : decode cL_law 501 = .ok (.iload 6, 2) := by decide +kernel
theorem dL_law_503 : decode cL_law 503 = .ok (.i2l, 1) := by decide +kernel
theorem dL_law_504 : decode cL_law 504 = .ok (.lcmp, 1) := by decide +kernel
theorem dL_law_505 : decode cL_law 505 = .ok (.ifCond .eq 5, 3) := by decide +kernel
theorem dL_law_508 : decode cL_law 508 = .ok (.iconst 0, 1) := by decide +kernel
theorem dL_law_509 : decode cL_law 509 = .ok (.ireturn, 1) := by decide +kernel
theorem dL_law_510 : decode cL_law 510 = .ok (.goto 2308, 3) := by decide +kernel
theorem dL_law_513 : decode cL_law 513 = .ok (.aload_n 1, 1) := by decide +kernel
theorem dL_law_514 : decode cL_law 514 = .ok (.aload_n 0, 1) := by decide +kernel
theorem dL_law_515 : decode cL_law 515 = .ok (.iload 4, 2) := by decide +kernel
theorem dL_law_517 : decode cL_law 517 = .ok (.iconst 1, 1) := by decide +kernel
theorem dL_law_518 : decode cL_law 518 = .ok (.iadd, 1) := by decide +kernel
theorem dL_law_519 : decode cL_law 519 = .ok (.iaload, 1) := by decide +kernel
theorem dL_law_520 : decode cL_law 520 = .ok (.aload_n 0, 1) := by decide +kernel
theorem dL_law_521 : decode cL_law 521 = .ok (.iload 4, 2) := by decide +kernel
theorem dL_law_523 : decode cL_law 523 = .ok (.iconst 2, 1) := by decide +kernel
theorem dL_law_524 : decode cL_law 524 = .ok (.iadd, 1) := by decide +kernel
theorem dL_law_525 : decode cL_law 525 = .ok (.iaload, 1) := by decide +kernel
theorem dL_law_526 : decode cL_law 526 = .ok (.aload_n 0, 1) := by decide +kernel
theorem dL_law_527 : decode cL_law 527 = .ok (.iload 4, 2) := by decide +kernel
theorem dL_law_529 : decode cL_law 529 = .ok (.iconst 3, 1) := by decide +kernel
theorem dL_law_530 : decode cL_law 530 = .ok (.iadd, 1) := by decide +kernel
theorem dL_law_531 : decode cL_law 531 = .ok (.iaload, 1) := by decide +kernel
theorem dL_law_532 : decode cL_law 532 = .ok (.aload_n 3, 1) := by decide +kernel
theorem dL_law_533 : decode cL_law 533 = .ok (.invokestatic 165, 3) := by decide +kernel
theorem dL_law_536 : decode cL_law 536 = .ok (.istore 5, 2) := by decide +kernel
theorem dL_law_538 : decode cL_law 538 = .ok (.aload_n 2, 1) := by decide +kernel
theorem dL_law_539 : decode cL_law 539 = .ok (.aload_n 0, 1) := by decide +kernel
theorem dL_law_540 : decode cL_law 540 = .ok (.iload 4, 2) := by decide +kernel
theorem dL_law_542 : decode cL_law 542 = .ok (.iconst 1, 1) := by decide +kernel
theorem dL_law_543 : decode cL_law 543 = .ok (.iadd, 1) := by decide +kernel
theorem dL_law_544 : decode cL_law 544 = .ok (.iaload, 1) := by decide +kernel
theorem dL_law_545 : decode cL_law 545 = .ok (.aload_n 0, 1) := by decide +kernel
theorem dL_law_546 : decode cL_law 546 = .ok (.iload 4, 2) := by decide +kernel
theorem dL_law_548 : decode cL_law 548 = .ok (.iconst 2, 1) := by decide +kernel
theorem dL_law_549 : decode cL_law 549 = .ok (.iadd, 1) := by decide +kernel
theorem dL_law_550 : decode cL_law 550 = .ok (.iaload, 1) := by decide +kernel
theorem dL_law_551 : decode cL_law 551 = .ok (.aload_n 0, 1) := by decide +kernel
theorem dL_law_552 : decode cL_law 552 = .ok (.iload 4, 2) := by decide +kernel
theorem dL_law_554 : decode cL_law 554 = .ok (.iconst 3, 1) := by decide +kernel
theorem dL_law_555 : decode cL_law 555 = .ok (.iadd, 1) := by decide +kernel
theorem dL_law_556 : decode cL_law 556 = .ok (.iaload, 1) := by decide +kernel
theorem dL_law_557 : decode cL_law 557 = .ok (.invokevirtual 167, 3) := by decide +kernel
theorem dL_law_560 : decode cL_law 560 = .ok (.istore 6, 2) := by decide +kernel
theorem dL_law_562 : decode cL_law 562 = .ok (.aload_n 2, 1) := by decide +kernel
theorem dL_law_563 : decode cL_law 563 = .ok (.invokevirtual 148, 3) := by decide +kernel
theorem dL_law_566 : decode cL_law 566 = .ok (.iload 5, 2) := by decide +kernel
theorem dL_law_568 : decode cL_law 568 = .ok (.if_icmp .eq 5, 3) := by decide +kernel
theorem dL_law_571 : decode cL_law 571 = .ok (.iconst 0, 1) := by decide +kernel
theorem dL_law_572 : decode cL_law 572 = .ok (.ireturn, 1) := by decide +kernel
theorem dL_law_573 : decode cL_law 573 = .ok (.iload 5, 2) := by decide +kernel
theorem dL_law_575 : decode cL_law 575 = .ok (.ifCond .ne 15, 3) := by decide +kernel
theorem dL_law_578 : decode cL_law 578 = .ok (.aload_n 3, 1) := by decide +kernel
theorem dL_law_579 : decode cL_law 579 = .ok (.iconst 0, 1) := by decide +kernel
theorem dL_law_580 : decode cL_law 580 = .ok (.laload, 1) := by decide +kernel
theorem dL_law_581 : decode cL_law 581 = .ok (.iload 6, 2) := by decide +kernel
theorem dL_law_583 : decode cL_law 583 = .ok (.i2l, 1) := by decide +kernel
theorem dL_law_584 : decode cL_law 584 = .ok (.lcmp, 1) := by decide +kernel
theorem dL_law_585 : decode cL_law 585 = .ok (.ifCond .eq 5, 3) := by decide +kernel
theorem dL_law_588 : decode cL_law 588 = .ok (.iconst 0, 1) := by decide +kernel
theorem dL_law_589 : decode cL_law 589 = .ok (.ireturn, 1) := by decide +kernel
theorem dL_law_590 : decode cL_law 590 = .ok (.goto 2228, 3) := by decide +kernel
theorem dL_law_593 : decode cL_law 593 = .ok (.aload_n 1, 1) := by decide +kernel
theorem dL_law_594 : decode cL_law 594 = .ok (.aload_n 0, 1) := by decide +kernel
theorem dL_law_595 : decode cL_law 595 = .ok (.iload 4, 2) := by decide +kernel
theorem dL_law_597 : decode cL_law 597 = .ok (.iconst 1, 1) := by decide +kernel
theorem dL_law_598 : decode cL_law 598 = .ok (.iadd, 1) := by decide +kernel
theorem dL_law_599 : decode cL_law 599 = .ok (.iaload, 1) := by decide +kernel
theorem dL_law_600 : decode cL_law 600 = .ok (.aload_n 0, 1) := by decide +kernel
theorem dL_law_601 : decode cL_law 601 = .ok (.iload 4, 2) := by decide +kernel
theorem dL_law_603 : decode cL_law 603 = .ok (.iconst 2, 1) := by decide +kernel
theorem dL_law_604 : decode cL_law 604 = .ok (.iadd, 1) := by decide +kernel
theorem dL_law_605 : decode cL_law 605 = .ok (.iaload, 1) := by decide +kernel
theorem dL_law_606 : decode cL_law 606 = .ok (.aload_n 3, 1) := by decide +kernel
theorem dL_law_607 : decode cL_law 607 = .ok (.invokestatic 168, 3) := by decide +kernel
theorem dL_law_610 : decode cL_law 610 = .ok (.istore 5, 2) := by decide +kernel
theorem dL_law_612 : decode cL_law 612 = .ok (.aload_n 2, 1) := by decide +kernel
theorem dL_law_613 : decode cL_law 613 = .ok (.aload_n 0, 1) := by decide +kernel
theorem dL_law_614 : decode cL_law 614 = .ok (.iload 4, 2) := by decide +kernel
theorem dL_law_616 : decode cL_law 616 = .ok (.iconst 1, 1) := by decide +kernel
theorem dL_law_617 : decode cL_law 617 = .ok (.iadd, 1) := by decide +kernel
theorem dL_law_618 : decode cL_law 618 = .ok (.iaload, 1) := by decide +kernel
theorem dL_law_619 : decode cL_law 619 = .ok (.aload_n 0, 1) := by decide +kernel
theorem dL_law_620 : decode cL_law 620 = .ok (.iload 4, 2) := by decide +kernel
theorem dL_law_622 : decode cL_law 622 = .ok (.iconst 2, 1) := by decide +kernel
theorem dL_law_623 : decode cL_law 623 = .ok (.iadd, 1) := by decide +kernel
theorem dL_law_624 : decode cL_law 624 = .ok (.iaload, 1) := by decide +kernel
theorem dL_law_625 : decode cL_law 625 = .ok (.invokevirtual 171, 3) := by decide +kernel
theorem dL_law_628 : decode cL_law 628 = .ok (.istore 6, 2) := by decide +kernel
theorem dL_law_630 : decode cL_law 630 = .ok (.aload_n 2, 1) := by decide +kernel
theorem dL_law_631 : decode cL_law 631 = .ok (.invokevirtual 148, 3) := by decide +kernel
theorem dL_law_634 : decode cL_law 634 = .ok (.iload 5, 2) := by decide +kernel
theorem dL_law_636 : decode cL_law 636 = .ok (.if_icmp .eq 5, 3) := by decide +kernel
theorem dL_law_639 : decode cL_law 639 = .ok (.iconst 0, 1) := by decide +kernel
theorem dL_law_640 : decode cL_law 640 = .ok (.ireturn, 1) := by decide +kernel
theorem dL_law_641 : decode cL_law 641 = .ok (.iload 5, 2) := by decide +kernel
theorem dL_law_643 : decode cL_law 643 = .ok (.ifCond .ne 15, 3) := by decide +kernel
theorem dL_law_646 : decode cL_law 646 = .ok (.aload_n 3, 1) := by decide +kernel
theorem dL_law_647 : decode cL_law 647 = .ok (.iconst 0, 1) := by decide +kernel
theorem dL_law_648 : decode cL_law 648 = .ok (.laload, 1) := by decide +kernel
theorem dL_law_649 : decode cL_law 649 = .ok (.iload 6, 2) := by decide +kernel
theorem dL_law_651 : decode cL_law 651 = .ok (.i2l, 1) := by decide +kernel
theorem dL_law_652 : decode cL_law 652 = .ok (.lcmp, 1) := by decide +kernel
theorem dL_law_653 : decode cL_law 653 = .ok (.ifCond .eq 5, 3) := by decide +kernel
theorem dL_law_656 : decode cL_law 656 = .ok (.iconst 0, 1) := by decide +kernel
theorem dL_law_657 : decode cL_law 657 = .ok (.ireturn, 1) := by decide +kernel
theorem dL_law_658 : decode cL_law 658 = .ok (.goto 2160, 3) := by decide +kernel
theorem dL_law_661 : decode cL_law 661 = .ok (.aload_n 1, 1) := by decide +kernel
theorem dL_law_662 : decode cL_law 662 = .ok (.aload_n 0, 1) := by decide +kernel
theorem dL_law_663 : decode cL_law 663 = .ok (.iload 4, 2) := by decide +kernel
theorem dL_law_665 : decode cL_law 665 = .ok (.iconst 1, 1) := by decide +kernel
theorem dL_law_666 : decode cL_law 666 = .ok (.iadd, 1) := by decide +kernel
theorem dL_law_667 : decode cL_law 667 = .ok (.iaload, 1) := by decide +kernel
theorem dL_law_668 : decode cL_law 668 = .ok (.aload_n 3, 1) := by decide +kernel
theorem dL_law_669 : decode cL_law 669 = .ok (.invokestatic 172, 3) := by decide +kernel
theorem dL_law_672 : decode cL_law 672 = .ok (.istore 5, 2) := by decide +kernel
theorem dL_law_674 : decode cL_law 674 = .ok (.aload_n 2, 1) := by decide +kernel
theorem dL_law_675 : decode cL_law 675 = .ok (.aload_n 0, 1) := by decide +kernel
theorem dL_law_676 : decode cL_law 676 = .ok (.iload 4, 2) := by decide +kernel
theorem dL_law_678 : decode cL_law 678 = .ok (.iconst 1, 1) := by decide +kernel
theorem dL_law_679 : decode cL_law 679 = .ok (.iadd, 1) := by decide +kernel
theorem dL_law_680 : decode cL_law 680 = .ok (.iaload, 1) := by decide +kernel
theorem dL_law_681 : decode cL_law 681 = .ok (.invokevirtual 174, 3) := by decide +kernel
theorem dL_law_684 : decode cL_law 684 = .ok (.istore 6, 2) := by decide +kernel
theorem dL_law_686 : decode cL_law 686 = .ok (.aload_n 2, 1) := by decide +kernel
theorem dL_law_687 : decode cL_law 687 = .ok (.invokevirtual 148, 3) := by decide +kernel
theorem dL_law_690 : decode cL_law 690 = .ok (.iload 5, 2) := by decide +kernel
theorem dL_law_692 : decode cL_law 692 = .ok (.if_icmp .eq 5, 3) := by decide +kernel
theorem dL_law_695 : decode cL_law 695 = .ok (.iconst 0, 1) := by decide +kernel
theorem dL_law_696 : decode cL_law 696 = .ok (.ireturn, 1) := by decide +kernel
theorem dL_law_697 : decode cL_law 697 = .ok (.iload 5, 2) := by decide +kernel
theorem dL_law_699 : decode cL_law 699 = .ok (.ifCond .ne 15, 3) := by decide +kernel
theorem dL_law_702 : decode cL_law 702 = .ok (.aload_n 3, 1) := by decide +kernel
theorem dL_law_703 : decode cL_law 703 = .ok (.iconst 0, 1) := by decide +kernel
theorem dL_law_704 : decode cL_law 704 = .ok (.laload, 1) := by decide +kernel
theorem dL_law_705 : decode cL_law 705 = .ok (.iload 6, 2) := by decide +kernel
theorem dL_law_707 : decode cL_law 707 = .ok (.i2l, 1) := by decide +kernel
theorem dL_law_708 : decode cL_law 708 = .ok (.lcmp, 1) := by decide +kernel
theorem dL_law_709 : decode cL_law 709 = .ok (.ifCond .eq 5, 3) := by decide +kernel
theorem dL_law_712 : decode cL_law 712 = .ok (.iconst 0, 1) := by decide +kernel
theorem dL_law_713 : decode cL_law 713 = .ok (.ireturn, 1) := by decide +kernel
theorem dL_law_714 : decode cL_law 714 = .ok (.goto 2104, 3) := by decide +kernel
theorem dL_law_717 : decode cL_law 717 = .ok (.aload_n 1, 1) := by decide +kernel
theorem dL_law_718 : decode cL_law 718 = .ok (.aload_n 0, 1) := by decide +kernel
theorem dL_law_719 : decode cL_law 719 = .ok (.iload 4, 2) := by decide +kernel
theorem dL_law_721 : decode cL_law 721 = .ok (.iconst 1, 1) := by decide +kernel
theorem dL_law_722 : decode cL_law 722 = .ok (.iadd, 1) := by decide +kernel
theorem dL_law_723 : decode cL_law 723 = .ok (.iaload, 1) := by decide +kernel
theorem dL_law_724 : decode cL_law 724 = .ok (.aload_n 0, 1) := by decide +kernel
theorem dL_law_725 : decode cL_law 725 = .ok (.iload 4, 2) := by decide +kernel
theorem dL_law_727 : decode cL_law 727 = .ok (.iconst 2, 1) := by decide +kernel
theorem dL_law_728 : decode cL_law 728 = .ok (.iadd, 1) := by decide +kernel
theorem dL_law_729 : decode cL_law 729 = .ok (.iaload, 1) := by decide +kernel
theorem dL_law_730 : decode cL_law 730 = .ok (.aload_n 3, 1) := by decide +kernel
theorem dL_law_731 : decode cL_law 731 = .ok (.invokestatic 175, 3) := by decide +kernel
theorem dL_law_734 : decode cL_law 734 = .ok (.istore 5, 2) := by decide +kernel
theorem dL_law_736 : decode cL_law 736 = .ok (.aload_n 2, 1) := by decide +kernel
theorem dL_law_737 : decode cL_law 737 = .ok (.aload_n 0, 1) := by decide +kernel
theorem dL_law_738 : decode cL_law 738 = .ok (.iload 4, 2) := by decide +kernel
theorem dL_law_740 : decode cL_law 740 = .ok (.iconst 1, 1) := by decide +kernel
theorem dL_law_741 : decode cL_law 741 = .ok (.iadd, 1) := by decide +kernel
theorem dL_law_742 : decode cL_law 742 = .ok (.iaload, 1) := by decide +kernel
theorem dL_law_743 : decode cL_law 743 = .ok (.aload_n 0, 1) := by decide +kernel
theorem dL_law_744 : decode cL_law 744 = .ok (.iload 4, 2) := by decide +kernel
theorem dL_law_746 : decode cL_law 746 = .ok (.iconst 2, 1) := by decide +kernel
theorem dL_law_747 : decode cL_law 747 = .ok (.iadd, 1) := by decide +kernel
theorem dL_law_748 : decode cL_law 748 = .ok (.iaload, 1) := by decide +kernel
theorem dL_law_749 : decode cL_law 749 = .ok (.invokevirtual 177, 3) := by decide +kernel
theorem dL_law_752 : decode cL_law 752 = .ok (.istore 6, 2) := by decide +kernel
theorem dL_law_754 : decode cL_law 754 = .ok (.aload_n 2, 1) := by decide +kernel
theorem dL_law_755 : decode cL_law 755 = .ok (.invokevirtual 148, 3) := by decide +kernel
theorem dL_law_758 : decode cL_law 758 = .ok (.iload 5, 2) := by decide +kernel
theorem dL_law_760 : decode cL_law 760 = .ok (.if_icmp .eq 5, 3) := by decide +kernel
theorem dL_law_763 : decode cL_law 763 = .ok (.iconst 0, 1) := by decide +kernel
theorem dL_law_764 : decode cL_law 764 = .ok (.ireturn, 1) := by decide +kernel
theorem dL_law_765 : decode cL_law 765 = .ok (.iload 5, 2) := by decide +kernel
theorem dL_law_767 : decode cL_law 767 = .ok (.ifCond .ne 22, 3) := by decide +kernel
theorem dL_law_770 : decode cL_law 770 = .ok (.aload_n 3, 1) := by decide +kernel
theorem dL_law_771 : decode cL_law 771 = .ok (.iconst 0, 1) := by decide +kernel
theorem dL_law_772 : decode cL_law 772 = .ok (.laload, 1) := by decide +kernel
theorem dL_law_773 : decode cL_law 773 = .ok (.iload 6, 2) := by decide +kernel
theorem dL_law_775 : decode cL_law 775 = .ok (.ifCond .eq 7, 3) := by decide +kernel
theorem dL_law_778 : decode cL_law 778 = .ok (.lconst 1, 1) := by decide +kernel
theorem dL_law_779 : decode cL_law 779 = .ok (.goto 4, 3) := by decide +kernel
theorem dL_law_782 : decode cL_law 782 = .ok (.lconst 0, 1) := by decide +kernel
theorem dL_law_783 : decode cL_law 783 = .ok (.lcmp, 1) := by decide +kernel
theorem dL_law_784 : decode cL_law 784 = .ok (.ifCond .eq 5, 3) := by decide +kernel
theorem dL_law_787 : decode cL_law 787 = .ok (.iconst 0, 1) := by decide +kernel
theorem dL_law_788 : decode cL_law 788 = .ok (.ireturn, 1) := by decide +kernel
theorem dL_law_789 : decode cL_law 789 = .ok (.goto 2029, 3) := by decide +kernel
theorem dL_law_792 : decode cL_law 792 = .ok (.aload_n 1, 1) := by decide +kernel
theorem dL_law_793 : decode cL_law 793 = .ok (.aload_n 0, 1) := by decide +kernel
theorem dL_law_794 : decode cL_law 794 = .ok (.iload 4, 2) := by decide +kernel
theorem dL_law_796 : decode cL_law 796 = .ok (.iconst 1, 1) := by decide +kernel
theorem dL_law_797 : decode cL_law 797 = .ok (.iadd, 1) := by decide +kernel
theorem dL_law_798 : decode cL_law 798 = .ok (.iaload, 1) := by decide +kernel
theorem dL_law_799 : decode cL_law 799 = .ok (.aload_n 3, 1) := by decide +kernel
theorem dL_law_800 : decode cL_law 800 = .ok (.invokestatic 178, 3) := by decide +kernel
theorem dL_law_803 : decode cL_law 803 = .ok (.istore 5, 2) := by decide +kernel
theorem dL_law_805 : decode cL_law 805 = .ok (.aload_n 2, 1) := by decide +kernel
theorem dL_law_806 : decode cL_law 806 = .ok (.aload_n 0, 1) := by decide +kernel
theorem dL_law_807 : decode cL_law 807 = .ok (.iload 4, 2) := by decide +kernel
theorem dL_law_809 : decode cL_law 809 = .ok (.iconst 1, 1) := by decide +kernel
theorem dL_law_810 : decode cL_law 810 = .ok (.iadd, 1) := by decide +kernel
theorem dL_law_811 : decode cL_law 811 = .ok (.iaload, 1) := by decide +kernel
theorem dL_law_812 : decode cL_law 812 = .ok (.invokevirtual 180, 3) := by decide +kernel
theorem dL_law_815 : decode cL_law 815 = .ok (.istore 6, 2) := by decide +kernel
theorem dL_law_817 : decode cL_law 817 = .ok (.aload_n 2, 1) := by decide +kernel
theorem dL_law_818 : decode cL_law 818 = .ok (.invokevirtual 148, 3) := by decide +kernel
theorem dL_law_821 : decode cL_law 821 = .ok (.iload 5, 2) := by decide +kernel
theorem dL_law_823 : decode cL_law 823 = .ok (.if_icmp .eq 5, 3) := by decide +kernel
theorem dL_law_826 : decode cL_law 826 = .ok (.iconst 0, 1) := by decide +kernel
theorem dL_law_827 : decode cL_law 827 = .ok (.ireturn, 1) := by decide +kernel
theorem dL_law_828 : decode cL_law 828 = .ok (.iload 5, 2) := by decide +kernel
theorem dL_law_830 : decode cL_law 830 = .ok (.ifCond .ne 15, 3) := by decide +kernel
theorem dL_law_833 : decode cL_law 833 = .ok (.aload_n 3, 1) := by decide +kernel
theorem dL_law_834 : decode cL_law 834 = .ok (.iconst 0, 1) := by decide +kernel
theorem dL_law_835 : decode cL_law 835 = .ok (.laload, 1) := by decide +kernel
theorem dL_law_836 : decode cL_law 836 = .ok (.iload 6, 2) := by decide +kernel
theorem dL_law_838 : decode cL_law 838 = .ok (.i2l, 1) := by decide +kernel
theorem dL_law_839 : decode cL_law 839 = .ok (.lcmp, 1) := by decide +kernel
theorem dL_law_840 : decode cL_law 840 = .ok (.ifCond .eq 5, 3) := by decide +kernel
theorem dL_law_843 : decode cL_law 843 = .ok (.iconst 0, 1) := by decide +kernel
theorem dL_law_844 : decode cL_law 844 = .ok (.ireturn, 1) := by decide +kernel
theorem dL_law_845 : decode cL_law 845 = .ok (.goto 1973, 3) := by decide +kernel
theorem dL_law_848 : decode cL_law 848 = .ok (.aload_n 1, 1) := by decide +kernel
theorem dL_law_849 : decode cL_law 849 = .ok (.aload_n 0, 1) := by decide +kernel
theorem dL_law_850 : decode cL_law 850 = .ok (.iload 4, 2) := by decide +kernel
theorem dL_law_852 : decode cL_law 852 = .ok (.iconst 1, 1) := by decide +kernel
theorem dL_law_853 : decode cL_law 853 = .ok (.iadd, 1) := by decide +kernel
theorem dL_law_854 : decode cL_law 854 = .ok (.iaload, 1) := by decide +kernel
theorem dL_law_855 : decode cL_law 855 = .ok (.aload_n 0, 1) := by decide +kernel
theorem dL_law_856 : decode cL_law 856 = .ok (.iload 4, 2) := by decide +kernel
theorem dL_law_858 : decode cL_law 858 = .ok (.iconst 2, 1) := by decide +kernel
theorem dL_law_859 : decode cL_law 859 = .ok (.iadd, 1) := by decide +kernel
theorem dL_law_860 : decode cL_law 860 = .ok (.iaload, 1) := by decide +kernel
theorem dL_law_861 : decode cL_law 861 = .ok (.aload_n 3, 1) := by decide +kernel
theorem dL_law_862 : decode cL_law 862 = .ok (.invokestatic 181, 3) := by decide +kernel
theorem dL_law_865 : decode cL_law 865 = .ok (.istore 5, 2) := by decide +kernel
theorem dL_law_867 : decode cL_law 867 = .ok (.aload_n 2, 1) := by decide +kernel
theorem dL_law_868 : decode cL_law 868 = .ok (.aload_n 0, 1) := by decide +kernel
theorem dL_law_869 : decode cL_law 869 = .ok (.iload 4, 2) := by decide +kernel
theorem dL_law_871 : decode cL_law 871 = .ok (.iconst 1, 1) := by decide +kernel
theorem dL_law_872 : decode cL_law 872 = .ok (.iadd, 1) := by decide +kernel
theorem dL_law_873 : decode cL_law 873 = .ok (.iaload, 1) := by decide +kernel
theorem dL_law_874 : decode cL_law 874 = .ok (.aload_n 0, 1) := by decide +kernel
theorem dL_law_875 : decode cL_law 875 = .ok (.iload 4, 2) := by decide +kernel
theorem dL_law_877 : decode cL_law 877 = .ok (.iconst 2, 1) := by decide +kernel
theorem dL_law_878 : decode cL_law 878 = .ok (.iadd, 1) := by decide +kernel
theorem dL_law_879 : decode cL_law 879 = .ok (.iaload, 1) := by decide +kernel
theorem dL_law_880 : decode cL_law 880 = .ok (.invokevirtual 183, 3) := by decide +kernel
theorem dL_law_883 : decode cL_law 883 = .ok (.istore 6, 2) := by decide +kernel
theorem dL_law_885 : decode cL_law 885 = .ok (.aload_n 2, 1) := by decide +kernel
theorem dL_law_886 : decode cL_law 886 = .ok (.invokevirtual 148, 3) := by decide +kernel
theorem dL_law_889 : decode cL_law 889 = .ok (.iload 5, 2) := by decide +kernel
theorem dL_law_891 : decode cL_law 891 = .ok (.if_icmp .eq 5, 3) := by decide +kernel
theorem dL_law_894 : decode cL_law 894 = .ok (.iconst 0, 1) := by decide +kernel
theorem dL_law_895 : decode cL_law 895 = .ok (.ireturn, 1) := by decide +kernel
theorem dL_law_896 : decode cL_law 896 = .ok (.iload 5, 2) := by decide +kernel
theorem dL_law_898 : decode cL_law 898 = .ok (.ifCond .ne 15, 3) := by decide +kernel
theorem dL_law_901 : decode cL_law 901 = .ok (.aload_n 3, 1) := by decide +kernel
theorem dL_law_902 : decode cL_law 902 = .ok (.iconst 0, 1) := by decide +kernel
theorem dL_law_903 : decode cL_law 903 = .ok (.laload, 1) := by decide +kernel
theorem dL_law_904 : decode cL_law 904 = .ok (.iload 6, 2) := by decide +kernel
theorem dL_law_906 : decode cL_law 906 = .ok (.i2l, 1) := by decide +kernel
theorem dL_law_907 : decode cL_law 907 = .ok (.lcmp, 1) := by decide +kernel
theorem dL_law_908 : decode cL_law 908 = .ok (.ifCond .eq 5, 3) := by decide +kernel
theorem dL_law_911 : decode cL_law 911 = .ok (.iconst 0, 1) := by decide +kernel
theorem dL_law_912 : decode cL_law 912 = .ok (.ireturn, 1) := by decide +kernel
theorem dL_law_913 : decode cL_law 913 = .ok (.goto 1905, 3) := by decide +kernel
theorem dL_law_916 : decode cL_law 916 = .ok (.aload_n 1, 1) := by decide +kernel
theorem dL_law_917 : decode cL_law 917 = .ok (.invokevirtual 184, 3) := by decide +kernel
theorem dL_law_920 : decode cL_law 920 = .ok (.aload_n 2, 1) := by decide +kernel
theorem dL_law_921 : decode cL_law 921 = .ok (.invokevirtual 187, 3) := by decide +kernel
theorem dL_law_924 : decode cL_law 924 = .ok (.if_icmp .eq 1894, 3) := by decide +kernel
theorem dL_law_927 : decode cL_law 927 = .ok (.iconst 0, 1) := by decide +kernel
theorem dL_law_928 : decode cL_law 928 = .ok (.ireturn, 1) := by decide +kernel
theorem dL_law_929 : decode cL_law 929 = .ok (.aload_n 1, 1) := by decide +kernel
theorem dL_law_930 : decode cL_law 930 = .ok (.aload_n 3, 1) := by decide +kernel
theorem dL_law_931 : decode cL_law 931 = .ok (.invokestatic 188, 3) := by decide +kernel
theorem dL_law_934 : decode cL_law 934 = .ok (.istore 5, 2) := by decide +kernel
theorem dL_law_936 : decode cL_law 936 = .ok (.aload_n 2, 1) := by decide +kernel
theorem dL_law_937 : decode cL_law 937 = .ok (.invokevirtual 191, 3) := by decide +kernel
theorem dL_law_940 : decode cL_law 940 = .ok (.istore 6, 2) := by decide +kernel
theorem dL_law_942 : decode cL_law 942 = .ok (.aload_n 2, 1) := by decide +kernel
theorem dL_law_943 : decode cL_law 943 = .ok (.invokevirtual 148, 3) := by decide +kernel
theorem dL_law_946 : decode cL_law 946 = .ok (.iload 5, 2) := by decide +kernel
theorem dL_law_948 : decode cL_law 948 = .ok (.if_icmp .eq 5, 3) := by decide +kernel
theorem dL_law_951 : decode cL_law 951 = .ok (.iconst 0, 1) := by decide +kernel
theorem dL_law_952 : decode cL_law 952 = .ok (.ireturn, 1) := by decide +kernel
theorem dL_law_953 : decode cL_law 953 = .ok (.iload 5, 2) := by decide +kernel
theorem dL_law_955 : decode cL_law 955 = .ok (.ifCond .ne 15, 3) := by decide +kernel
theorem dL_law_958 : decode cL_law 958 = .ok (.aload_n 3, 1) := by decide +kernel
theorem dL_law_959 : decode cL_law 959 = .ok (.iconst 0, 1) := by decide +kernel
theorem dL_law_960 : decode cL_law 960 = .ok (.laload, 1) := by decide +kernel
theorem dL_law_961 : decode cL_law 961 = .ok (.iload 6, 2) := by decide +kernel
theorem dL_law_963 : decode cL_law 963 = .ok (.i2l, 1) := by decide +kernel
theorem dL_law_964 : decode cL_law 964 = .ok (.lcmp, 1) := by decide +kernel
theorem dL_law_965 : decode cL_law 965 = .ok (.ifCond .eq 5, 3) := by decide +kernel
theorem dL_law_968 : decode cL_law 968 = .ok (.iconst 0, 1) := by decide +kernel
theorem dL_law_969 : decode cL_law 969 = .ok (.ireturn, 1) := by decide +kernel
theorem dL_law_970 : decode cL_law 970 = .ok (.goto 1848, 3) := by decide +kernel
theorem dL_law_973 : decode cL_law 973 = .ok (.aload_n 1, 1) := by decide +kernel
theorem dL_law_974 : decode cL_law 974 = .ok (.aload_n 0, 1) := by decide +kernel
theorem dL_law_975 : decode cL_law 975 = .ok (.iload 4, 2) := by decide +kernel
theorem dL_law_977 : decode cL_law 977 = .ok (.iconst 1, 1) := by decide +kernel
theorem dL_law_978 : decode cL_law 978 = .ok (.iadd, 1) := by decide +kernel
theorem dL_law_979 : decode cL_law 979 = .ok (.iaload, 1) := by decide +kernel
theorem dL_law_980 : decode cL_law 980 = .ok (.aload_n 0, 1) := by decide +kernel
theorem dL_law_981 : decode cL_law 981 = .ok (.iload 4, 2) := by decide +kernel
theorem dL_law_983 : decode cL_law 983 = .ok (.iconst 2, 1) := by decide +kernel
theorem dL_law_984 : decode cL_law 984 = .ok (.iadd, 1) := by decide +kernel
theorem dL_law_985 : decode cL_law 985 = .ok (.iaload, 1) := by decide +kernel
theorem dL_law_986 : decode cL_law 986 = .ok (.aload_n 3, 1) := by decide +kernel
theorem dL_law_987 : decode cL_law 987 = .ok (.invokestatic 192, 3) := by decide +kernel
theorem dL_law_990 : decode cL_law 990 = .ok (.istore 5, 2) := by decide +kernel
theorem dL_law_992 : decode cL_law 992 = .ok (.aload_n 2, 1) := by decide +kernel
theorem dL_law_993 : decode cL_law 993 = .ok (.aload_n 0, 1) := by decide +kernel
theorem dL_law_994 : decode cL_law 994 = .ok (.iload 4, 2) := by decide +kernel
theorem dL_law_996 : decode cL_law 996 = .ok (.iconst 1, 1) := by decide +kernel
theorem dL_law_997 : decode cL_law 997 = .ok (.iadd, 1) := by decide +kernel
theorem dL_law_998 : decode cL_law 998 = .ok (.iaload, 1) := by decide +kernel
theorem dL_law_999 : decode cL_law 999 = .ok (.aload_n 0, 1) := by decide +kernel
theorem dL_law_1000 : decode cL_law 1000 = .ok (.iload 4, 2) := by decide +kernel
theorem dL_law_1002 : decode cL_law 1002 = .ok (.iconst 2, 1) := by decide +kernel
theorem dL_law_1003 : decode cL_law 1003 = .ok (.iadd, 1) := by decide +kernel
theorem dL_law_1004 : decode cL_law 1004 = .ok (.iaload, 1) := by decide +kernel
theorem dL_law_1005 : decode cL_law 1005 = .ok (.invokevirtual 194, 3) := by decide +kernel
theorem dL_law_1008 : decode cL_law 1008 = .ok (.istore 6, 2) := by decide +kernel
theorem dL_law_1010 : decode cL_law 1010 = .ok (.aload_n 2, 1) := by decide +kernel
theorem dL_law_1011 : decode cL_law 1011 = .ok (.invokevirtual 148, 3) := by decide +kernel
theorem dL_law_1014 : decode cL_law 1014 = .ok (.iload 5, 2) := by decide +kernel
theorem dL_law_1016 : decode cL_law 1016 = .ok (.if_icmp .eq 5, 3) := by decide +kernel
theorem dL_law_1019 : decode cL_law 1019 = .ok (.iconst 0, 1) := by decide +kernel
theorem dL_law_1020 : decode cL_law 1020 = .ok (.ireturn, 1) := by decide +kernel
theorem dL_law_1021 : decode cL_law 1021 = .ok (.iload 5, 2) := by decide +kernel
theorem dL_law_1023 : decode cL_law 1023 = .ok (.ifCond .ne 15, 3) := by decide +kernel
theorem dL_law_1026 : decode cL_law 1026 = .ok (.aload_n 3, 1) := by decide +kernel
theorem dL_law_1027 : decode cL_law 1027 = .ok (.iconst 0, 1) := by decide +kernel
theorem dL_law_1028 : decode cL_law 1028 = .ok (.laload, 1) := by decide +kernel
theorem dL_law_1029 : decode cL_law 1029 = .ok (.iload 6, 2) := by decide +kernel
theorem dL_law_1031 : decode cL_law 1031 = .ok (.i2l, 1) := by decide +kernel
theorem dL_law_1032 : decode cL_law 1032 = .ok (.lcmp, 1) := by decide +kernel
theorem dL_law_1033 : decode cL_law 1033 = .ok (.ifCond .eq 5, 3) := by decide +kernel
theorem dL_law_1036 : decode cL_law 1036 = .ok (.iconst 0, 1) := by decide +kernel
theorem dL_law_1037 : decode cL_law 1037 = .ok (.ireturn, 1) := by decide +kernel
theorem dL_law_1038 : decode cL_law 1038 = .ok (.goto 1780, 3) := by decide +kernel
theorem dL_law_1041 : decode cL_law 1041 = .ok (.aload_n 1, 1) := by decide +kernel
theorem dL_law_1042 : decode cL_law 1042 = .ok (.invokevirtual 195, 3) := by decide +kernel
theorem dL_law_1045 : decode cL_law 1045 = .ok (.aload_n 2, 1) := by decide +kernel
theorem dL_law_1046 : decode cL_law 1046 = .ok (.invokevirtual 198, 3) := by decide +kernel
theorem dL_law_1049 : decode cL_law 1049 = .ok (.if_icmp .eq 1769, 3) := by decide +kernel
theorem dL_law_1052 : decode cL_law 1052 = .ok (.iconst 0, 1) := by decide +kernel
theorem dL_law_1053 : decode cL_law 1053 = .ok (.ireturn, 1) := by decide +kernel
theorem dL_law_1054 : decode cL_law 1054 = .ok (.aload_n 1, 1) := by decide +kernel
theorem dL_law_1055 : decode cL_law 1055 = .ok (.aload_n 0, 1) := by decide +kernel
theorem dL_law_1056 : decode cL_law 1056 = .ok (.iload 4, 2) := by decide +kernel
theorem dL_law_1058 : decode cL_law 1058 = .ok (.iconst 1, 1) := by decide +kernel
theorem dL_law_1059 : decode cL_law 1059 = .ok (.iadd, 1) := by decide +kernel
theorem dL_law_1060 : decode cL_law 1060 = .ok (.iaload, 1) := by decide +kernel
theorem dL_law_1061 : decode cL_law 1061 = .ok (.aload_n 3, 1) := by decide +kernel
theorem dL_law_1062 : decode cL_law 1062 = .ok (.invokestatic 199, 3) := by decide +kernel
theorem dL_law_1065 : decode cL_law 1065 = .ok (.istore 5, 2) := by decide +kernel
theorem dL_law_1067 : decode cL_law 1067 = .ok (.aload_n 2, 1) := by decide +kernel
theorem dL_law_1068 : decode cL_law 1068 = .ok (.aload_n 0, 1) := by decide +kernel
theorem dL_law_1069 : decode cL_law 1069 = .ok (.iload 4, 2) := by decide +kernel
theorem dL_law_1071 : decode cL_law 1071 = .ok (.iconst 1, 1) := by decide +kernel
theorem dL_law_1072 : decode cL_law 1072 = .ok (.iadd, 1) := by decide +kernel
theorem dL_law_1073 : decode cL_law 1073 = .ok (.iaload, 1) := by decide +kernel
theorem dL_law_1074 : decode cL_law 1074 = .ok (.invokevirtual 201, 3) := by decide +kernel
theorem dL_law_1077 : decode cL_law 1077 = .ok (.istore 6, 2) := by decide +kernel
theorem dL_law_1079 : decode cL_law 1079 = .ok (.aload_n 2, 1) := by decide +kernel
theorem dL_law_1080 : decode cL_law 1080 = .ok (.invokevirtual 148, 3) := by decide +kernel
theorem dL_law_1083 : decode cL_law 1083 = .ok (.iload 5, 2) := by decide +kernel
theorem dL_law_1085 : decode cL_law 1085 = .ok (.if_icmp .eq 5, 3) := by decide +kernel
theorem dL_law_1088 : decode cL_law 1088 = .ok (.iconst 0, 1) := by decide +kernel
theorem dL_law_1089 : decode cL_law 1089 = .ok (.ireturn, 1) := by decide +kernel
theorem dL_law_1090 : decode cL_law 1090 = .ok (.iload 5, 2) := by decide +kernel
theorem dL_law_1092 : decode cL_law 1092 = .ok (.ifCond .ne 15, 3) := by decide +kernel
theorem dL_law_1095 : decode cL_law 1095 = .ok (.aload_n 3, 1) := by decide +kernel
theorem dL_law_1096 : decode cL_law 1096 = .ok (.iconst 0, 1) := by decide +kernel
theorem dL_law_1097 : decode cL_law 1097 = .ok (.laload, 1) := by decide +kernel
theorem dL_law_1098 : decode cL_law 1098 = .ok (.iload 6, 2) := by decide +kernel
theorem dL_law_1100 : decode cL_law 1100 = .ok (.i2l, 1) := by decide +kernel
theorem dL_law_1101 : decode cL_law 1101 = .ok (.lcmp, 1) := by decide +kernel
theorem dL_law_1102 : decode cL_law 1102 = .ok (.ifCond .eq 5, 3) := by decide +kernel
theorem dL_law_1105 : decode cL_law 1105 = .ok (.iconst 0, 1) := by decide +kernel
theorem dL_law_1106 : decode cL_law 1106 = .ok (.ireturn, 1) := by decide +kernel
theorem dL_law_1107 : decode cL_law 1107 = .ok (.goto 1711, 3) := by decide +kernel
theorem dL_law_1110 : decode cL_law 1110 = .ok (.aload_n 1, 1) := by decide +kernel
theorem dL_law_1111 : decode cL_law 1111 = .ok (.aload_n 0, 1) := by decide +kernel
theorem dL_law_1112 : decode cL_law 1112 = .ok (.iload 4, 2) := by decide +kernel
theorem dL_law_1114 : decode cL_law 1114 = .ok (.iconst 1, 1) := by decide +kernel
theorem dL_law_1115 : decode cL_law 1115 = .ok (.iadd, 1) := by decide +kernel
theorem dL_law_1116 : decode cL_law 1116 = .ok (.iaload, 1) := by decide +kernel
theorem dL_law_1117 : decode cL_law 1117 = .ok (.aload_n 0, 1) := by decide +kernel
theorem dL_law_1118 : decode cL_law 1118 = .ok (.iload 4, 2) := by decide +kernel
theorem dL_law_1120 : decode cL_law 1120 = .ok (.iconst 2, 1) := by decide +kernel
theorem dL_law_1121 : decode cL_law 1121 = .ok (.iadd, 1) := by decide +kernel
theorem dL_law_1122 : decode cL_law 1122 = .ok (.iaload, 1) := by decide +kernel
theorem dL_law_1123 : decode cL_law 1123 = .ok (.aload_n 3, 1) := by decide +kernel
theorem dL_law_1124 : decode cL_law 1124 = .ok (.invokestatic 202, 3) := by decide +kernel
theorem dL_law_1127 : decode cL_law 1127 = .ok (.istore 5, 2) := by decide +kernel
theorem dL_law_1129 : decode cL_law 1129 = .ok (.aload_n 2, 1) := by decide +kernel
theorem dL_law_1130 : decode cL_law 1130 = .ok (.aload_n 0, 1) := by decide +kernel
theorem dL_law_1131 : decode cL_law 1131 = .ok (.iload 4, 2) := by decide +kernel
theorem dL_law_1133 : decode cL_law 1133 = .ok (.iconst 1, 1) := by decide +kernel
theorem dL_law_1134 : decode cL_law 1134 = .ok (.iadd, 1) := by decide +kernel
theorem dL_law_1135 : decode cL_law 1135 = .ok (.iaload, 1) := by decide +kernel
theorem dL_law_1136 : decode cL_law 1136 = .ok (.aload_n 0, 1) := by decide +kernel
theorem dL_law_1137 : decode cL_law 1137 = .ok (.iload 4, 2) := by decide +kernel
theorem dL_law_1139 : decode cL_law 1139 = .ok (.iconst 2, 1) := by decide +kernel
theorem dL_law_1140 : decode cL_law 1140 = .ok (.iadd, 1) := by decide +kernel
theorem dL_law_1141 : decode cL_law 1141 = .ok (.iaload, 1) := by decide +kernel
theorem dL_law_1142 : decode cL_law 1142 = .ok (.invokevirtual 204, 3) := by decide +kernel
theorem dL_law_1145 : decode cL_law 1145 = .ok (.istore 6, 2) := by decide +kernel
theorem dL_law_1147 : decode cL_law 1147 = .ok (.aload_n 2, 1) := by decide +kernel
theorem dL_law_1148 : decode cL_law 1148 = .ok (.invokevirtual 148, 3) := by decide +kernel
theorem dL_law_1151 : decode cL_law 1151 = .ok (.iload 5, 2) := by decide +kernel
theorem dL_law_1153 : decode cL_law 1153 = .ok (.if_icmp .eq 5, 3) := by decide +kernel
theorem dL_law_1156 : decode cL_law 1156 = .ok (.iconst 0, 1) := by decide +kernel
theorem dL_law_1157 : decode cL_law 1157 = .ok (.ireturn, 1) := by decide +kernel
theorem dL_law_1158 : decode cL_law 1158 = .ok (.iload 5, 2) := by decide +kernel
theorem dL_law_1160 : decode cL_law 1160 = .ok (.ifCond .ne 15, 3) := by decide +kernel
theorem dL_law_1163 : decode cL_law 1163 = .ok (.aload_n 3, 1) := by decide +kernel
theorem dL_law_1164 : decode cL_law 1164 = .ok (.iconst 0, 1) := by decide +kernel
theorem dL_law_1165 : decode cL_law 1165 = .ok (.laload, 1) := by decide +kernel
theorem dL_law_1166 : decode cL_law 1166 = .ok (.iload 6, 2) := by decide +kernel
theorem dL_law_1168 : decode cL_law 1168 = .ok (.i2l, 1) := by decide +kernel
theorem dL_law_1169 : decode cL_law 1169 = .ok (.lcmp, 1) := by decide +kernel
theorem dL_law_1170 : decode cL_law 1170 = .ok (.ifCond .eq 5, 3) := by decide +kernel
theorem dL_law_1173 : decode cL_law 1173 = .ok (.iconst 0, 1) := by decide +kernel
theorem dL_law_1174 : decode cL_law 1174 = .ok (.ireturn, 1) := by decide +kernel
theorem dL_law_1175 : decode cL_law 1175 = .ok (.goto 1643, 3) := by decide +kernel
theorem dL_law_1178 : decode cL_law 1178 = .ok (.aload_n 1, 1) := by decide +kernel
theorem dL_law_1179 : decode cL_law 1179 = .ok (.aload_n 0, 1) := by decide +kernel
theorem dL_law_1180 : decode cL_law 1180 = .ok (.iload 4, 2) := by decide +kernel
theorem dL_law_1182 : decode cL_law 1182 = .ok (.iconst 1, 1) := by decide +kernel
theorem dL_law_1183 : decode cL_law 1183 = .ok (.iadd, 1) := by decide +kernel
theorem dL_law_1184 : decode cL_law 1184 = .ok (.iaload, 1) := by decide +kernel
theorem dL_law_1185 : decode cL_law 1185 = .ok (.aload_n 3, 1) := by decide +kernel
theorem dL_law_1186 : decode cL_law 1186 = .ok (.invokestatic 205, 3) := by decide +kernel
theorem dL_law_1189 : decode cL_law 1189 = .ok (.istore 5, 2) := by decide +kernel
theorem dL_law_1191 : decode cL_law 1191 = .ok (.aload_n 2, 1) := by decide +kernel
theorem dL_law_1192 : decode cL_law 1192 = .ok (.aload_n 0, 1) := by decide +kernel
theorem dL_law_1193 : decode cL_law 1193 = .ok (.iload 4, 2) := by decide +kernel
theorem dL_law_1195 : decode cL_law 1195 = .ok (.iconst 1, 1) := by decide +kernel
theorem dL_law_1196 : decode cL_law 1196 = .ok (.iadd, 1) := by decide +kernel
theorem dL_law_1197 : decode cL_law 1197 = .ok (.iaload, 1) := by decide +kernel
theorem dL_law_1198 : decode cL_law 1198 = .ok (.invokevirtual 207, 3) := by decide +kernel
theorem dL_law_1201 : decode cL_law 1201 = .ok (.istore 6, 2) := by decide +kernel
theorem dL_law_1203 : decode cL_law 1203 = .ok (.aload_n 2, 1) := by decide +kernel
theorem dL_law_1204 : decode cL_law 1204 = .ok (.invokevirtual 148, 3) := by decide +kernel
theorem dL_law_1207 : decode cL_law 1207 = .ok (.iload 5, 2) := by decide +kernel
theorem dL_law_1209 : decode cL_law 1209 = .ok (.if_icmp .eq 5, 3) := by decide +kernel
theorem dL_law_1212 : decode cL_law 1212 = .ok (.iconst 0, 1) := by decide +kernel
theorem dL_law_1213 : decode cL_law 1213 = .ok (.ireturn, 1) := by decide +kernel
theorem dL_law_1214 : decode cL_law 1214 = .ok (.iload 5, 2) := by decide +kernel
theorem dL_law_1216 : decode cL_law 1216 = .ok (.ifCond .ne 15, 3) := by decide +kernel
theorem dL_law_1219 : decode cL_law 1219 = .ok (.aload_n 3, 1) := by decide +kernel
theorem dL_law_1220 : decode cL_law 1220 = .ok (.iconst 0, 1) := by decide +kernel
theorem dL_law_1221 : decode cL_law 1221 = .ok (.laload, 1) := by decide +kernel
theorem dL_law_1222 : decode cL_law 1222 = .ok (.iload 6, 2) := by decide +kernel
theorem dL_law_1224 : decode cL_law 1224 = .ok (.i2l, 1) := by decide +kernel
theorem dL_law_1225 : decode cL_law 1225 = .ok (.lcmp, 1) := by decide +kernel
theorem dL_law_1226 : decode cL_law 1226 = .ok (.ifCond .eq 5, 3) := by decide +kernel
theorem dL_law_1229 : decode cL_law 1229 = .ok (.iconst 0, 1) := by decide +kernel
theorem dL_law_1230 : decode cL_law 1230 = .ok (.ireturn, 1) := by decide +kernel
theorem dL_law_1231 : decode cL_law 1231 = .ok (.goto 1587, 3) := by decide +kernel
theorem dL_law_1234 : decode cL_law 1234 = .ok (.aload_n 1, 1) := by decide +kernel
theorem dL_law_1235 : decode cL_law 1235 = .ok (.aload_n 0, 1) := by decide +kernel
theorem dL_law_1236 : decode cL_law 1236 = .ok (.iload 4, 2) := by decide +kernel
theorem dL_law_1238 : decode cL_law 1238 = .ok (.iconst 1, 1) := by decide +kernel
theorem dL_law_1239 : decode cL_law 1239 = .ok (.iadd, 1) := by decide +kernel
theorem dL_law_1240 : decode cL_law 1240 = .ok (.iaload, 1) := by decide +kernel
theorem dL_law_1241 : decode cL_law 1241 = .ok (.aload_n 0, 1) := by decide +kernel
theorem dL_law_1242 : decode cL_law 1242 = .ok (.iload 4, 2) := by decide +kernel
theorem dL_law_1244 : decode cL_law 1244 = .ok (.iconst 2, 1) := by decide +kernel
theorem dL_law_1245 : decode cL_law 1245 = .ok (.iadd, 1) := by decide +kernel
theorem dL_law_1246 : decode cL_law 1246 = .ok (.iaload, 1) := by decide +kernel
theorem dL_law_1247 : decode cL_law 1247 = .ok (.aload_n 3, 1) := by decide +kernel
theorem dL_law_1248 : decode cL_law 1248 = .ok (.invokestatic 208, 3) := by decide +kernel
theorem dL_law_1251 : decode cL_law 1251 = .ok (.istore 5, 2) := by decide +kernel
theorem dL_law_1253 : decode cL_law 1253 = .ok (.aload_n 2, 1) := by decide +kernel
theorem dL_law_1254 : decode cL_law 1254 = .ok (.aload_n 0, 1) := by decide +kernel
theorem dL_law_1255 : decode cL_law 1255 = .ok (.iload 4, 2) := by decide +kernel
theorem dL_law_1257 : decode cL_law 1257 = .ok (.iconst 1, 1) := by decide +kernel
theorem dL_law_1258 : decode cL_law 1258 = .ok (.iadd, 1) := by decide +kernel
theorem dL_law_1259 : decode cL_law 1259 = .ok (.iaload, 1) := by decide +kernel
theorem dL_law_1260 : decode cL_law 1260 = .ok (.aload_n 0, 1) := by decide +kernel
theorem dL_law_1261 : decode cL_law 1261 = .ok (.iload 4, 2) := by decide +kernel
theorem dL_law_1263 : decode cL_law 1263 = .ok (.iconst 2, 1) := by decide +kernel
theorem dL_law_1264 : decode cL_law 1264 = .ok (.iadd, 1) := by decide +kernel
theorem dL_law_1265 : decode cL_law 1265 = .ok (.iaload, 1) := by decide +kernel
theorem dL_law_1266 : decode cL_law 1266 = .ok (.invokevirtual 210, 3) := by decide +kernel
theorem dL_law_1269 : decode cL_law 1269 = .ok (.istore 6, 2) := by decide +kernel
theorem dL_law_1271 : decode cL_law 1271 = .ok (.aload_n 2, 1) := by decide +kernel
theorem dL_law_1272 : decode cL_law 1272 = .ok (.invokevirtual 148, 3) := by decide +kernel
theorem dL_law_1275 : decode cL_law 1275 = .ok (.iload 5, 2) := by decide +kernel
theorem dL_law_1277 : decode cL_law 1277 = .ok (.if_icmp .eq 5, 3) := by decide +kernel
theorem dL_law_1280 : decode cL_law 1280 = .ok (.iconst 0, 1) := by decide +kernel
theorem dL_law_1281 : decode cL_law 1281 = .ok (.ireturn, 1) := by decide +kernel
theorem dL_law_1282 : decode cL_law 1282 = .ok (.iload 5, 2) := by decide +kernel
theorem dL_law_1284 : decode cL_law 1284 = .ok (.ifCond .ne 15, 3) := by decide +kernel
theorem dL_law_1287 : decode cL_law 1287 = .ok (.aload_n 3, 1) := by decide +kernel
theorem dL_law_1288 : decode cL_law 1288 = .ok (.iconst 0, 1) := by decide +kernel
theorem dL_law_1289 : decode cL_law 1289 = .ok (.laload, 1) := by decide +kernel
theorem dL_law_1290 : decode cL_law 1290 = .ok (.iload 6, 2) := by decide +kernel
theorem dL_law_1292 : decode cL_law 1292 = .ok (.i2l, 1) := by decide +kernel
theorem dL_law_1293 : decode cL_law 1293 = .ok (.lcmp, 1) := by decide +kernel
theorem dL_law_1294 : decode cL_law 1294 = .ok (.ifCond .eq 5, 3) := by decide +kernel
theorem dL_law_1297 : decode cL_law 1297 = .ok (.iconst 0, 1) := by decide +kernel
theorem dL_law_1298 : decode cL_law 1298 = .ok (.ireturn, 1) := by decide +kernel
theorem dL_law_1299 : decode cL_law 1299 = .ok (.goto 1519, 3) := by decide +kernel
theorem dL_law_1302 : decode cL_law 1302 = .ok (.aload_n 1, 1) := by decide +kernel
theorem dL_law_1303 : decode cL_law 1303 = .ok (.aload_n 0, 1) := by decide +kernel
theorem dL_law_1304 : decode cL_law 1304 = .ok (.iload 4, 2) := by decide +kernel
theorem dL_law_1306 : decode cL_law 1306 = .ok (.iconst 1, 1) := by decide +kernel
theorem dL_law_1307 : decode cL_law 1307 = .ok (.iadd, 1) := by decide +kernel
theorem dL_law_1308 : decode cL_law 1308 = .ok (.iaload, 1) := by decide +kernel
theorem dL_law_1309 : decode cL_law 1309 = .ok (.aload_n 0, 1) := by decide +kernel
theorem dL_law_1310 : decode cL_law 1310 = .ok (.iload 4, 2) := by decide +kernel
theorem dL_law_1312 : decode cL_law 1312 = .ok (.iconst 2, 1) := by decide +kernel
theorem dL_law_1313 : decode cL_law 1313 = .ok (.iadd, 1) := by decide +kernel
theorem dL_law_1314 : decode cL_law 1314 = .ok (.iaload, 1) := by decide +kernel
theorem dL_law_1315 : decode cL_law 1315 = .ok (.aload_n 0, 1) := by decide +kernel
theorem dL_law_1316 : decode cL_law 1316 = .ok (.iload 4, 2) := by decide +kernel
theorem dL_law_1318 : decode cL_law 1318 = .ok (.iconst 3, 1) := by decide +kernel
theorem dL_law_1319 : decode cL_law 1319 = .ok (.iadd, 1) := by decide +kernel
theorem dL_law_1320 : decode cL_law 1320 = .ok (.iaload, 1) := by decide +kernel
theorem dL_law_1321 : decode cL_law 1321 = .ok (.aload_n 3, 1) := by decide +kernel
theorem dL_law_1322 : decode cL_law 1322 = .ok (.invokestatic 211, 3) := by decide +kernel
theorem dL_law_1325 : decode cL_law 1325 = .ok (.istore 5, 2) := by decide +kernel
theorem dL_law_1327 : decode cL_law 1327 = .ok (.aload_n 2, 1) := by decide +kernel
theorem dL_law_1328 : decode cL_law 1328 = .ok (.aload_n 0, 1) := by decide +kernel
theorem dL_law_1329 : decode cL_law 1329 = .ok (.iload 4, 2) := by decide +kernel
theorem dL_law_1331 : decode cL_law 1331 = .ok (.iconst 1, 1) := by decide +kernel
theorem dL_law_1332 : decode cL_law 1332 = .ok (.iadd, 1) := by decide +kernel
theorem dL_law_1333 : decode cL_law 1333 = .ok (.iaload, 1) := by decide +kernel
theorem dL_law_1334 : decode cL_law 1334 = .ok (.aload_n 0, 1) := by decide +kernel
theorem dL_law_1335 : decode cL_law 1335 = .ok (.iload 4, 2) := by decide +kernel
theorem dL_law_1337 : decode cL_law 1337 = .ok (.iconst 2, 1) := by decide +kernel
theorem dL_law_1338 : decode cL_law 1338 = .ok (.iadd, 1) := by decide +kernel
theorem dL_law_1339 : decode cL_law 1339 = .ok (.iaload, 1) := by decide +kernel
theorem dL_law_1340 : decode cL_law 1340 = .ok (.aload_n 0, 1) := by decide +kernel
theorem dL_law_1341 : decode cL_law 1341 = .ok (.iload 4, 2) := by decide +kernel
theorem dL_law_1343 : decode cL_law 1343 = .ok (.iconst 3, 1) := by decide +kernel
theorem dL_law_1344 : decode cL_law 1344 = .ok (.iadd, 1) := by decide +kernel
theorem dL_law_1345 : decode cL_law 1345 = .ok (.iaload, 1) := by decide +kernel
theorem dL_law_1346 : decode cL_law 1346 = .ok (.invokevirtual 213, 3) := by decide +kernel
theorem dL_law_1349 : decode cL_law 1349 = .ok (.istore 6, 2) := by decide +kernel
theorem dL_law_1351 : decode cL_law 1351 = .ok (.aload_n 2, 1) := by decide +kernel
theorem dL_law_1352 : decode cL_law 1352 = .ok (.invokevirtual 148, 3) := by decide +kernel
theorem dL_law_1355 : decode cL_law 1355 = .ok (.iload 5, 2) := by decide +kernel
theorem dL_law_1357 : decode cL_law 1357 = .ok (.if_icmp .eq 5, 3) := by decide +kernel
theorem dL_law_1360 : decode cL_law 1360 = .ok (.iconst 0, 1) := by decide +kernel
theorem dL_law_1361 : decode cL_law 1361 = .ok (.ireturn, 1) := by decide +kernel
theorem dL_law_1362 : decode cL_law 1362 = .ok (.iload 5, 2) := by decide +kernel
theorem dL_law_1364 : decode cL_law 1364 = .ok (.ifCond .ne 15, 3) := by decide +kernel
theorem dL_law_1367 : decode cL_law 1367 = .ok (.aload_n 3, 1) := by decide +kernel
theorem dL_law_1368 : decode cL_law 1368 = .ok (.iconst 0, 1) := by decide +kernel
theorem dL_law_1369 : decode cL_law 1369 = .ok (.laload, 1) := by decide +kernel
theorem dL_law_1370 : decode cL_law 1370 = .ok (.iload 6, 2) := by decide +kernel
theorem dL_law_1372 : decode cL_law 1372 = .ok (.i2l, 1) := by decide +kernel
theorem dL_law_1373 : decode cL_law 1373 = .ok (.lcmp, 1) := by decide +kernel
theorem dL_law_1374 : decode cL_law 1374 = .ok (.ifCond .eq 5, 3) := by decide +kernel
theorem dL_law_1377 : decode cL_law 1377 = .ok (.iconst 0, 1) := by decide +kernel
theorem dL_law_1378 : decode cL_law 1378 = .ok (.ireturn, 1) := by decide +kernel
theorem dL_law_1379 : decode cL_law 1379 = .ok (.goto 1439, 3) := by decide +kernel
theorem dL_law_1382 : decode cL_law 1382 = .ok (.aload_n 1, 1) := by decide +kernel
theorem dL_law_1383 : decode cL_law 1383 = .ok (.aload_n 0, 1) := by decide +kernel
theorem dL_law_1384 : decode cL_law 1384 = .ok (.iload 4, 2) := by decide +kernel
theorem dL_law_1386 : decode cL_law 1386 = .ok (.iconst 1, 1) := by decide +kernel
theorem dL_law_1387 : decode cL_law 1387 = .ok (.iadd, 1) := by decide +kernel
theorem dL_law_1388 : decode cL_law 1388 = .ok (.iaload, 1) := by decide +kernel
theorem dL_law_1389 : decode cL_law 1389 = .ok (.aload_n 3, 1) := by decide +kernel
theorem dL_law_1390 : decode cL_law 1390 = .ok (.invokestatic 214, 3) := by decide +kernel
theorem dL_law_1393 : decode cL_law 1393 = .ok (.istore 5, 2) := by decide +kernel
theorem dL_law_1395 : decode cL_law 1395 = .ok (.aload_n 2, 1) := by decide +kernel
theorem dL_law_1396 : decode cL_law 1396 = .ok (.aload_n 0, 1) := by decide +kernel
theorem dL_law_1397 : decode cL_law 1397 = .ok (.iload 4, 2) := by decide +kernel
theorem dL_law_1399 : decode cL_law 1399 = .ok (.iconst 1, 1) := by decide +kernel
theorem dL_law_1400 : decode cL_law 1400 = .ok (.iadd, 1) := by decide +kernel
theorem dL_law_1401 : decode cL_law 1401 = .ok (.iaload, 1) := by decide +kernel
theorem dL_law_1402 : decode cL_law 1402 = .ok (.invokevirtual 216, 3) := by decide +kernel
theorem dL_law_1405 : decode cL_law 1405 = .ok (.istore 6, 2) := by decide +kernel
theorem dL_law_1407 : decode cL_law 1407 = .ok (.aload_n 2, 1) := by decide +kernel
theorem dL_law_1408 : decode cL_law 1408 = .ok (.invokevirtual 148, 3) := by decide +kernel
theorem dL_law_1411 : decode cL_law 1411 = .ok (.iload 5, 2) := by decide +kernel
theorem dL_law_1413 : decode cL_law 1413 = .ok (.if_icmp .eq 5, 3) := by decide +kernel
theorem dL_law_1416 : decode cL_law 1416 = .ok (.iconst 0, 1) := by decide +kernel
theorem dL_law_1417 : decode cL_law 1417 = .ok (.ireturn, 1) := by decide +kernel
theorem dL_law_1418 : decode cL_law 1418 = .ok (.iload 5, 2) := by decide +kernel
theorem dL_law_1420 : decode cL_law 1420 = .ok (.ifCond .ne 22, 3) := by decide +kernel
theorem dL_law_1423 : decode cL_law 1423 = .ok (.aload_n 3, 1) := by decide +kernel
theorem dL_law_1424 : decode cL_law 1424 = .ok (.iconst 0, 1) := by decide +kernel
theorem dL_law_1425 : decode cL_law 1425 = .ok (.laload, 1) := by decide +kernel
theorem dL_law_1426 : decode cL_law 1426 = .ok (.iload 6, 2) := by decide +kernel
theorem dL_law_1428 : decode cL_law 1428 = .ok (.ifCond .eq 7, 3) := by decide +kernel
theorem dL_law_1431 : decode cL_law 1431 = .ok (.lconst 1, 1) := by decide +kernel
theorem dL_law_1432 : decode cL_law 1432 = .ok (.goto 4, 3) := by decide +kernel
theorem dL_law_1435 : decode cL_law 1435 = .ok (.lconst 0, 1) := by decide +kernel
theorem dL_law_1436 : decode cL_law 1436 = .ok (.lcmp, 1) := by decide +kernel
theorem dL_law_1437 : decode cL_law 1437 = .ok (.ifCond .eq 5, 3) := by decide +kernel
theorem dL_law_1440 : decode cL_law 1440 = .ok (.iconst 0, 1) := by decide +kernel
theorem dL_law_1441 : decode cL_law 1441 = .ok (.ireturn, 1) := by decide +kernel
theorem dL_law_1442 : decode cL_law 1442 = .ok (.goto 1376, 3) := by decide +kernel
theorem dL_law_1445 : decode cL_law 1445 = .ok (.aload_n 1, 1) := by decide +kernel
theorem dL_law_1446 : decode cL_law 1446 = .ok (.aload_n 0, 1) := by decide +kernel
theorem dL_law_1447 : decode cL_law 1447 = .ok (.iload 4, 2) := by decide +kernel
theorem dL_law_1449 : decode cL_law 1449 = .ok (.iconst 1, 1) := by decide +kernel
theorem dL_law_1450 : decode cL_law 1450 = .ok (.iadd, 1) := by decide +kernel
theorem dL_law_1451 : decode cL_law 1451 = .ok (.iaload, 1) := by decide +kernel
theorem dL_law_1452 : decode cL_law 1452 = .ok (.aload_n 3, 1) := by decide +kernel
theorem dL_law_1453 : decode cL_law 1453 = .ok (.invokestatic 217, 3) := by decide +kernel
theorem dL_law_1456 : decode cL_law 1456 = .ok (.istore 5, 2) := by decide +kernel
theorem dL_law_1458 : decode cL_law 1458 = .ok (.aload_n 2, 1) := by decide +kernel
theorem dL_law_1459 : decode cL_law 1459 = .ok (.aload_n 0, 1) := by decide +kernel
theorem dL_law_1460 : decode cL_law 1460 = .ok (.iload 4, 2) := by decide +kernel
theorem dL_law_1462 : decode cL_law 1462 = .ok (.iconst 1, 1) := by decide +kernel
theorem dL_law_1463 : decode cL_law 1463 = .ok (.iadd, 1) := by decide +kernel
theorem dL_law_1464 : decode cL_law 1464 = .ok (.iaload, 1) := by decide +kernel
theorem dL_law_1465 : decode cL_law 1465 = .ok (.invokevirtual 219, 3) := by decide +kernel
theorem dL_law_1468 : decode cL_law 1468 = .ok (.istore 6, 2) := by decide +kernel
theorem dL_law_1470 : decode cL_law 1470 = .ok (.aload_n 2, 1) := by decide +kernel
theorem dL_law_1471 : decode cL_law 1471 = .ok (.invokevirtual 148, 3) := by decide +kernel
theorem dL_law_1474 : decode cL_law 1474 = .ok (.iload 5, 2) := by decide +kernel
theorem dL_law_1476 : decode cL_law 1476 = .ok (.if_icmp .eq 5, 3) := by decide +kernel
theorem dL_law_1479 : decode cL_law 1479 = .ok (.iconst 0, 1) := by decide +kernel
theorem dL_law_1480 : decode cL_law 1480 = .ok (.ireturn, 1) := by decide +kernel
theorem dL_law_1481 : decode cL_law 1481 = .ok (.iload 5, 2) := by decide +kernel
theorem dL_law_1483 : decode cL_law 1483 = .ok (.ifCond .ne 22, 3) := by decide +kernel
theorem dL_law_1486 : decode cL_law 1486 = .ok (.aload_n 3, 1) := by decide +kernel
theorem dL_law_1487 : decode cL_law 1487 = .ok (.iconst 0, 1) := by decide +kernel
theorem dL_law_1488 : decode cL_law 1488 = .ok (.laload, 1) := by decide +kernel
theorem dL_law_1489 : decode cL_law 1489 = .ok (.iload 6, 2) := by decide +kernel
theorem dL_law_1491 : decode cL_law 1491 = .ok (.ifCond .eq 7, 3) := by decide +kernel
theorem dL_law_1494 : decode cL_law 1494 = .ok (.lconst 1, 1) := by decide +kernel
theorem dL_law_1495 : decode cL_law 1495 = .ok (.goto 4, 3) := by decide +kernel
theorem dL_law_1498 : decode cL_law 1498 = .ok (.lconst 0, 1) := by decide +kernel
theorem dL_law_1499 : decode cL_law 1499 = .ok (.lcmp, 1) := by decide +kernel
theorem dL_law_1500 : decode cL_law 1500 = .ok (.ifCond .eq 5, 3) := by decide +kernel
theorem dL_law_1503 : decode cL_law 1503 = .ok (.iconst 0, 1) := by decide +kernel
theorem dL_law_1504 : decode cL_law 1504 = .ok (.ireturn, 1) := by decide +kernel
theorem dL_law_1505 : decode cL_law 1505 = .ok (.goto 1313, 3) := by decide +kernel
theorem dL_law_1508 : decode cL_law 1508 = .ok (.aload_n 1, 1) := by decide +kernel
theorem dL_law_1509 : decode cL_law 1509 = .ok (.aload_n 0, 1) := by decide +kernel
theorem dL_law_1510 : decode cL_law 1510 = .ok (.iload 4, 2) := by decide +kernel
theorem dL_law_1512 : decode cL_law 1512 = .ok (.iconst 1, 1) := by decide +kernel
theorem dL_law_1513 : decode cL_law 1513 = .ok (.iadd, 1) := by decide +kernel
theorem dL_law_1514 : decode cL_law 1514 = .ok (.iaload, 1) := by decide +kernel
theorem dL_law_1515 : decode cL_law 1515 = .ok (.aload_n 3, 1) := by decide +kernel
theorem dL_law_1516 : decode cL_law 1516 = .ok (.invokestatic 220, 3) := by decide +kernel
theorem dL_law_1519 : decode cL_law 1519 = .ok (.istore 5, 2) := by decide +kernel
theorem dL_law_1521 : decode cL_law 1521 = .ok (.aload_n 2, 1) := by decide +kernel
theorem dL_law_1522 : decode cL_law 1522 = .ok (.aload_n 0, 1) := by decide +kernel
theorem dL_law_1523 : decode cL_law 1523 = .ok (.iload 4, 2) := by decide +kernel
theorem dL_law_1525 : decode cL_law 1525 = .ok (.iconst 1, 1) := by decide +kernel
theorem dL_law_1526 : decode cL_law 1526 = .ok (.iadd, 1) := by decide +kernel
theorem dL_law_1527 : decode cL_law 1527 = .ok (.iaload, 1) := by decide +kernel
theorem dL_law_1528 : decode cL_law 1528 = .ok (.invokevirtual 222, 3) := by decide +kernel
theorem dL_law_1531 : decode cL_law 1531 = .ok (.istore 6, 2) := by decide +kernel
theorem dL_law_1533 : decode cL_law 1533 = .ok (.aload_n 2, 1) := by decide +kernel
theorem dL_law_1534 : decode cL_law 1534 = .ok (.invokevirtual 148, 3) := by decide +kernel
theorem dL_law_1537 : decode cL_law 1537 = .ok (.iload 5, 2) := by decide +kernel
theorem dL_law_1539 : decode cL_law 1539 = .ok (.if_icmp .eq 5, 3) := by decide +kernel
theorem dL_law_1542 : decode cL_law 1542 = .ok (.iconst 0, 1) := by decide +kernel
theorem dL_law_1543 : decode cL_law 1543 = .ok (.ireturn, 1) := by decide +kernel
theorem dL_law_1544 : decode cL_law 1544 = .ok (.iload 5, 2) := by decide +kernel
theorem dL_law_1546 : decode cL_law 1546 = .ok (.ifCond .ne 15, 3) := by decide +kernel
theorem dL_law_1549 : decode cL_law 1549 = .ok (.aload_n 3, 1) := by decide +kernel
theorem dL_law_1550 : decode cL_law 1550 = .ok (.iconst 0, 1) := by decide +kernel
theorem dL_law_1551 : decode cL_law 1551 = .ok (.laload, 1) := by decide +kernel
theorem dL_law_1552 : decode cL_law 1552 = .ok (.iload 6, 2) := by decide +kernel
theorem dL_law_1554 : decode cL_law 1554 = .ok (.i2l, 1) := by decide +kernel
theorem dL_law_1555 : decode cL_law 1555 = .ok (.lcmp, 1) := by decide +kernel
theorem dL_law_1556 : decode cL_law 1556 = .ok (.ifCond .eq 5, 3) := by decide +kernel
theorem dL_law_1559 : decode cL_law 1559 = .ok (.iconst 0, 1) := by decide +kernel
theorem dL_law_1560 : decode cL_law 1560 = .ok (.ireturn, 1) := by decide +kernel
theorem dL_law_1561 : decode cL_law 1561 = .ok (.goto 1257, 3) := by decide +kernel
theorem dL_law_1564 : decode cL_law 1564 = .ok (.aload_n 1, 1) := by decide +kernel
theorem dL_law_1565 : decode cL_law 1565 = .ok (.aload_n 0, 1) := by decide +kernel
theorem dL_law_1566 : decode cL_law 1566 = .ok (.iload 4, 2) := by decide +kernel
theorem dL_law_1568 : decode cL_law 1568 = .ok (.iconst 1, 1) := by decide +kernel
theorem dL_law_1569 : decode cL_law 1569 = .ok (.iadd, 1) := by decide +kernel
theorem dL_law_1570 : decode cL_law 1570 = .ok (.iaload, 1) := by decide +kernel
theorem dL_law_1571 : decode cL_law 1571 = .ok (.aload_n 3, 1) := by decide +kernel
theorem dL_law_1572 : decode cL_law 1572 = .ok (.invokestatic 223, 3) := by decide +kernel
theorem dL_law_1575 : decode cL_law 1575 = .ok (.istore 5, 2) := by decide +kernel
theorem dL_law_1577 : decode cL_law 1577 = .ok (.aload_n 2, 1) := by decide +kernel
theorem dL_law_1578 : decode cL_law 1578 = .ok (.aload_n 0, 1) := by decide +kernel
theorem dL_law_1579 : decode cL_law 1579 = .ok (.iload 4, 2) := by decide +kernel
theorem dL_law_1581 : decode cL_law 1581 = .ok (.iconst 1, 1) := by decide +kernel
theorem dL_law_1582 : decode cL_law 1582 = .ok (.iadd, 1) := by decide +kernel
theorem dL_law_1583 : decode cL_law 1583 = .ok (.iaload, 1) := by decide +kernel
theorem dL_law_1584 : decode cL_law 1584 = .ok (.invokevirtual 225, 3) := by decide +kernel
theorem dL_law_1587 : decode cL_law 1587 = .ok (.istore 6, 2) := by decide +kernel
theorem dL_law_1589 : decode cL_law 1589 = .ok (.aload_n 2, 1) := by decide +kernel
theorem dL_law_1590 : decode cL_law 1590 = .ok (.invokevirtual 148, 3) := by decide +kernel
theorem dL_law_1593 : decode cL_law 1593 = .ok (.iload 5, 2) := by decide +kernel
theorem dL_law_1595 : decode cL_law 1595 = .ok (.if_icmp .eq 5, 3) := by decide +kernel
theorem dL_law_1598 : decode cL_law 1598 = .ok (.iconst 0, 1) := by decide +kernel
theorem dL_law_1599 : decode cL_law 1599 = .ok (.ireturn, 1) := by decide +kernel
theorem dL_law_1600 : decode cL_law 1600 = .ok (.iload 5, 2) := by decide +kernel
theorem dL_law_1602 : decode cL_law 1602 = .ok (.ifCond .ne 15, 3) := by decide +kernel
theorem dL_law_1605 : decode cL_law 1605 = .ok (.aload_n 3, 1) := by decide +kernel
theorem dL_law_1606 : decode cL_law 1606 = .ok (.iconst 0, 1) := by decide +kernel
theorem dL_law_1607 : decode cL_law 1607 = .ok (.laload, 1) := by decide +kernel
theorem dL_law_1608 : decode cL_law 1608 = .ok (.iload 6, 2) := by decide +kernel
theorem dL_law_1610 : decode cL_law 1610 = .ok (.i2l, 1) := by decide +kernel
theorem dL_law_1611 : decode cL_law 1611 = .ok (.lcmp, 1) := by decide +kernel
theorem dL_law_1612 : decode cL_law 1612 = .ok (.ifCond .eq 5, 3) := by decide +kernel
theorem dL_law_1615 : decode cL_law 1615 = .ok (.iconst 0, 1) := by decide +kernel
theorem dL_law_1616 : decode cL_law 1616 = .ok (.ireturn, 1) := by decide +kernel
theorem dL_law_1617 : decode cL_law 1617 = .ok (.goto 1201, 3) := by decide +kernel
theorem dL_law_1620 : decode cL_law 1620 = .ok (.aload_n 1, 1) := by decide +kernel
theorem dL_law_1621 : decode cL_law 1621 = .ok (.aload_n 0, 1) := by decide +kernel
theorem dL_law_1622 : decode cL_law 1622 = .ok (.iload 4, 2) := by decide +kernel
theorem dL_law_1624 : decode cL_law 1624 = .ok (.iconst 1, 1) := by decide +kernel
theorem dL_law_1625 : decode cL_law 1625 = .ok (.iadd, 1) := by decide +kernel
theorem dL_law_1626 : decode cL_law 1626 = .ok (.iaload, 1) := by decide +kernel
theorem dL_law_1627 : decode cL_law 1627 = .ok (.aload_n 3, 1) := by decide +kernel
theorem dL_law_1628 : decode cL_law 1628 = .ok (.invokestatic 226, 3) := by decide +kernel
theorem dL_law_1631 : decode cL_law 1631 = .ok (.istore 5, 2) := by decide +kernel
theorem dL_law_1633 : decode cL_law 1633 = .ok (.aload_n 2, 1) := by decide +kernel
theorem dL_law_1634 : decode cL_law 1634 = .ok (.aload_n 0, 1) := by decide +kernel
theorem dL_law_1635 : decode cL_law 1635 = .ok (.iload 4, 2) := by decide +kernel
theorem dL_law_1637 : decode cL_law 1637 = .ok (.iconst 1, 1) := by decide +kernel
theorem dL_law_1638 : decode cL_law 1638 = .ok (.iadd, 1) := by decide +kernel
theorem dL_law_1639 : decode cL_law 1639 = .ok (.iaload, 1) := by decide +kernel
theorem dL_law_1640 : decode cL_law 1640 = .ok (.invokevirtual 228, 3) := by decide +kernel
theorem dL_law_1643 : decode cL_law 1643 = .ok (.istore 6, 2) := by decide +kernel
theorem dL_law_1645 : decode cL_law 1645 = .ok (.aload_n 2, 1) := by decide +kernel
theorem dL_law_1646 : decode cL_law 1646 = .ok (.invokevirtual 148, 3) := by decide +kernel
theorem dL_law_1649 : decode cL_law 1649 = .ok (.iload 5, 2) := by decide +kernel
theorem dL_law_1651 : decode cL_law 1651 = .ok (.if_icmp .eq 5, 3) := by decide +kernel
theorem dL_law_1654 : decode cL_law 1654 = .ok (.iconst 0, 1) := by decide +kernel
theorem dL_law_1655 : decode cL_law 1655 = .ok (.ireturn, 1) := by decide +kernel
theorem dL_law_1656 : decode cL_law 1656 = .ok (.iload 5, 2) := by decide +kernel
theorem dL_law_1658 : decode cL_law 1658 = .ok (.ifCond .ne 22, 3) := by decide +kernel
theorem dL_law_1661 : decode cL_law 1661 = .ok (.aload_n 3, 1) := by decide +kernel
theorem dL_law_1662 : decode cL_law 1662 = .ok (.iconst 0, 1) := by decide +kernel
theorem dL_law_1663 : decode cL_law 1663 = .ok (.laload, 1) := by decide +kernel
theorem dL_law_1664 : decode cL_law 1664 = .ok (.iload 6, 2) := by decide +kernel
theorem dL_law_1666 : decode cL_law 1666 = .ok (.ifCond .eq 7, 3) := by decide +kernel
theorem dL_law_1669 : decode cL_law 1669 = .ok (.lconst 1, 1) := by decide +kernel
theorem dL_law_1670 : decode cL_law 1670 = .ok (.goto 4, 3) := by decide +kernel
theorem dL_law_1673 : decode cL_law 1673 = .ok (.lconst 0, 1) := by decide +kernel
theorem dL_law_1674 : decode cL_law 1674 = .ok (.lcmp, 1) := by decide +kernel
theorem dL_law_1675 : decode cL_law 1675 = .ok (.ifCond .eq 5, 3) := by decide +kernel
theorem dL_law_1678 : decode cL_law 1678 = .ok (.iconst 0, 1) := by decide +kernel
theorem dL_law_1679 : decode cL_law 1679 = .ok (.ireturn, 1) := by decide +kernel
theorem dL_law_1680 : decode cL_law 1680 = .ok (.goto 1138, 3) := by decide +kernel
theorem dL_law_1683 : decode cL_law 1683 = .ok (.aload_n 1, 1) := by decide +kernel
theorem dL_law_1684 : decode cL_law 1684 = .ok (.aload_n 0, 1) := by decide +kernel
theorem dL_law_1685 : decode cL_law 1685 = .ok (.iload 4, 2) := by decide +kernel
theorem dL_law_1687 : decode cL_law 1687 = .ok (.iconst 1, 1) := by decide +kernel
theorem dL_law_1688 : decode cL_law 1688 = .ok (.iadd, 1) := by decide +kernel
theorem dL_law_1689 : decode cL_law 1689 = .ok (.iaload, 1) := by decide +kernel
theorem dL_law_1690 : decode cL_law 1690 = .ok (.aload_n 0, 1) := by decide +kernel
theorem dL_law_1691 : decode cL_law 1691 = .ok (.iload 4, 2) := by decide +kernel
theorem dL_law_1693 : decode cL_law 1693 = .ok (.iconst 2, 1) := by decide +kernel
theorem dL_law_1694 : decode cL_law 1694 = .ok (.iadd, 1) := by decide +kernel
theorem dL_law_1695 : decode cL_law 1695 = .ok (.iaload, 1) := by decide +kernel
theorem dL_law_1696 : decode cL_law 1696 = .ok (.aload_n 3, 1) := by decide +kernel
theorem dL_law_1697 : decode cL_law 1697 = .ok (.invokestatic 229, 3) := by decide +kernel
theorem dL_law_1700 : decode cL_law 1700 = .ok (.istore 5, 2) := by decide +kernel
theorem dL_law_1702 : decode cL_law 1702 = .ok (.aload_n 2, 1) := by decide +kernel
theorem dL_law_1703 : decode cL_law 1703 = .ok (.aload_n 0, 1) := by decide +kernel
theorem dL_law_1704 : decode cL_law 1704 = .ok (.iload 4, 2) := by decide +kernel
theorem dL_law_1706 : decode cL_law 1706 = .ok (.iconst 1, 1) := by decide +kernel
theorem dL_law_1707 : decode cL_law 1707 = .ok (.iadd, 1) := by decide +kernel
theorem dL_law_1708 : decode cL_law 1708 = .ok (.iaload, 1) := by decide +kernel
theorem dL_law_1709 : decode cL_law 1709 = .ok (.aload_n 0, 1) := by decide +kernel
theorem dL_law_1710 : decode cL_law 1710 = .ok (.iload 4, 2) := by decide +kernel
theorem dL_law_1712 : decode cL_law 1712 = .ok (.iconst 2, 1) := by decide +kernel
theorem dL_law_1713 : decode cL_law 1713 = .ok (.iadd, 1) := by decide +kernel
theorem dL_law_1714 : decode cL_law 1714 = .ok (.iaload, 1) := by decide +kernel
theorem dL_law_1715 : decode cL_law 1715 = .ok (.invokevirtual 231, 3) := by decide +kernel
theorem dL_law_1718 : decode cL_law 1718 = .ok (.istore 6, 2) := by decide +kernel
theorem dL_law_1720 : decode cL_law 1720 = .ok (.aload_n 2, 1) := by decide +kernel
theorem dL_law_1721 : decode cL_law 1721 = .ok (.invokevirtual 148, 3) := by decide +kernel
theorem dL_law_1724 : decode cL_law 1724 = .ok (.iload 5, 2) := by decide +kernel
theorem dL_law_1726 : decode cL_law 1726 = .ok (.if_icmp .eq 5, 3) := by decide +kernel
theorem dL_law_1729 : decode cL_law 1729 = .ok (.iconst 0, 1) := by decide +kernel
theorem dL_law_1730 : decode cL_law 1730 = .ok (.ireturn, 1) := by decide +kernel
theorem dL_law_1731 : decode cL_law 1731 = .ok (.iload 5, 2) := by decide +kernel
theorem dL_law_1733 : decode cL_law 1733 = .ok (.ifCond .ne 15, 3) := by decide +kernel
theorem dL_law_1736 : decode cL_law 1736 = .ok (.aload_n 3, 1) := by decide +kernel
theorem dL_law_1737 : decode cL_law 1737 = .ok (.iconst 0, 1) := by decide +kernel
theorem dL_law_1738 : decode cL_law 1738 = .ok (.laload, 1) := by decide +kernel
theorem dL_law_1739 : decode cL_law 1739 = .ok (.iload 6, 2) := by decide +kernel
theorem dL_law_1741 : decode cL_law 1741 = .ok (.i2l, 1) := by decide +kernel
theorem dL_law_1742 : decode cL_law 1742 = .ok (.lcmp, 1) := by decide +kernel
theorem dL_law_1743 : decode cL_law 1743 = .ok (.ifCond .eq 5, 3) := by decide +kernel
theorem dL_law_1746 : decode cL_law 1746 = .ok (.iconst 0, 1) := by decide +kernel
theorem dL_law_1747 : decode cL_law 1747 = .ok (.ireturn, 1) := by decide +kernel
theorem dL_law_1748 : decode cL_law 1748 = .ok (.goto 1070, 3) := by decide +kernel
theorem dL_law_1751 : decode cL_law 1751 = .ok (.aload_n 1, 1) := by decide +kernel
theorem dL_law_1752 : decode cL_law 1752 = .ok (.aload_n 0, 1) := by decide +kernel
theorem dL_law_1753 : decode cL_law 1753 = .ok (.iload 4, 2) := by decide +kernel
theorem dL_law_1755 : decode cL_law 1755 = .ok (.iconst 1, 1) := by decide +kernel
theorem dL_law_1756 : decode cL_law 1756 = .ok (.iadd, 1) := by decide +kernel
theorem dL_law_1757 : decode cL_law 1757 = .ok (.iaload, 1) := by decide +kernel
theorem dL_law_1758 : decode cL_law 1758 = .ok (.aload_n 0, 1) := by decide +kernel
theorem dL_law_1759 : decode cL_law 1759 = .ok (.iload 4, 2) := by decide +kernel
theorem dL_law_1761 : decode cL_law 1761 = .ok (.iconst 2, 1) := by decide +kernel
theorem dL_law_1762 : decode cL_law 1762 = .ok (.iadd, 1) := by decide +kernel
theorem dL_law_1763 : decode cL_law 1763 = .ok (.iaload, 1) := by decide +kernel
theorem dL_law_1764 : decode cL_law 1764 = .ok (.aload_n 3, 1) := by decide +kernel
theorem dL_law_1765 : decode cL_law 1765 = .ok (.invokestatic 232, 3) := by decide +kernel
theorem dL_law_1768 : decode cL_law 1768 = .ok (.istore 5, 2) := by decide +kernel
theorem dL_law_1770 : decode cL_law 1770 = .ok (.aload_n 2, 1) := by decide +kernel
theorem dL_law_1771 : decode cL_law 1771 = .ok (.aload_n 0, 1) := by decide +kernel
theorem dL_law_1772 : decode cL_law 1772 = .ok (.iload 4, 2) := by decide +kernel
theorem dL_law_1774 : decode cL_law 1774 = .ok (.iconst 1, 1) := by decide +kernel
theorem dL_law_1775 : decode cL_law 1775 = .ok (.iadd, 1) := by decide +kernel
theorem dL_law_1776 : decode cL_law 1776 = .ok (.iaload, 1) := by decide +kernel
theorem dL_law_1777 : decode cL_law 1777 = .ok (.aload_n 0, 1) := by decide +kernel
theorem dL_law_1778 : decode cL_law 1778 = .ok (.iload 4, 2) := by decide +kernel
theorem dL_law_1780 : decode cL_law 1780 = .ok (.iconst 2, 1) := by decide +kernel
theorem dL_law_1781 : decode cL_law 1781 = .ok (.iadd, 1) := by decide +kernel
theorem dL_law_1782 : decode cL_law 1782 = .ok (.iaload, 1) := by decide +kernel
theorem dL_law_1783 : decode cL_law 1783 = .ok (.invokevirtual 234, 3) := by decide +kernel
theorem dL_law_1786 : decode cL_law 1786 = .ok (.istore 6, 2) := by decide +kernel
theorem dL_law_1788 : decode cL_law 1788 = .ok (.aload_n 2, 1) := by decide +kernel
theorem dL_law_1789 : decode cL_law 1789 = .ok (.invokevirtual 148, 3) := by decide +kernel
theorem dL_law_1792 : decode cL_law 1792 = .ok (.iload 5, 2) := by decide +kernel
theorem dL_law_1794 : decode cL_law 1794 = .ok (.if_icmp .eq 5, 3) := by decide +kernel
theorem dL_law_1797 : decode cL_law 1797 = .ok (.iconst 0, 1) := by decide +kernel
theorem dL_law_1798 : decode cL_law 1798 = .ok (.ireturn, 1) := by decide +kernel
theorem dL_law_1799 : decode cL_law 1799 = .ok (.iload 5, 2) := by decide +kernel
theorem dL_law_1801 : decode cL_law 1801 = .ok (.ifCond .ne 15, 3) := by decide +kernel
theorem dL_law_1804 : decode cL_law 1804 = .ok (.aload_n 3, 1) := by decide +kernel
theorem dL_law_1805 : decode cL_law 1805 = .ok (.iconst 0, 1) := by decide +kernel
theorem dL_law_1806 : decode cL_law 1806 = .ok (.laload, 1) := by decide +kernel
theorem dL_law_1807 : decode cL_law 1807 = .ok (.iload 6, 2) := by decide +kernel
theorem dL_law_1809 : decode cL_law 1809 = .ok (.i2l, 1) := by decide +kernel
theorem dL_law_1810 : decode cL_law 1810 = .ok (.lcmp, 1) := by decide +kernel
theorem dL_law_1811 : decode cL_law 1811 = .ok (.ifCond .eq 5, 3) := by decide +kernel
theorem dL_law_1814 : decode cL_law 1814 = .ok (.iconst 0, 1) := by decide +kernel
theorem dL_law_1815 : decode cL_law 1815 = .ok (.ireturn, 1) := by decide +kernel
theorem dL_law_1816 : decode cL_law 1816 = .ok (.goto 1002, 3) := by decide +kernel
theorem dL_law_1819 : decode cL_law 1819 = .ok (.aload_n 1, 1) := by decide +kernel
theorem dL_law_1820 : decode cL_law 1820 = .ok (.aload_n 0, 1) := by decide +kernel
theorem dL_law_1821 : decode cL_law 1821 = .ok (.iload 4, 2) := by decide +kernel
theorem dL_law_1823 : decode cL_law 1823 = .ok (.iconst 1, 1) := by decide +kernel
theorem dL_law_1824 : decode cL_law 1824 = .ok (.iadd, 1) := by decide +kernel
theorem dL_law_1825 : decode cL_law 1825 = .ok (.iaload, 1) := by decide +kernel
theorem dL_law_1826 : decode cL_law 1826 = .ok (.aload_n 3, 1) := by decide +kernel
theorem dL_law_1827 : decode cL_law 1827 = .ok (.invokestatic 235, 3) := by decide +kernel
theorem dL_law_1830 : decode cL_law 1830 = .ok (.istore 5, 2) := by decide +kernel
theorem dL_law_1832 : decode cL_law 1832 = .ok (.aload_n 2, 1) := by decide +kernel
theorem dL_law_1833 : decode cL_law 1833 = .ok (.aload_n 0, 1) := by decide +kernel
theorem dL_law_1834 : decode cL_law 1834 = .ok (.iload 4, 2) := by decide +kernel
theorem dL_law_1836 : decode cL_law 1836 = .ok (.iconst 1, 1) := by decide +kernel
theorem dL_law_1837 : decode cL_law 1837 = .ok (.iadd, 1) := by decide +kernel
theorem dL_law_1838 : decode cL_law 1838 = .ok (.iaload, 1) := by decide +kernel
theorem dL_law_1839 : decode cL_law 1839 = .ok (.invokevirtual 237, 3) := by decide +kernel
theorem dL_law_1842 : decode cL_law 1842 = .ok (.istore 6, 2) := by decide +kernel
theorem dL_law_1844 : decode cL_law 1844 = .ok (.aload_n 2, 1) := by decide +kernel
theorem dL_law_1845 : decode cL_law 1845 = .ok (.invokevirtual 148, 3) := by decide +kernel
theorem dL_law_1848 : decode cL_law 1848 = .ok (.iload 5, 2) := by decide +kernel
theorem dL_law_1850 : decode cL_law 1850 = .ok (.if_icmp .eq 5, 3) := by decide +kernel
theorem dL_law_1853 : decode cL_law 1853 = .ok (.iconst 0, 1) := by decide +kernel
theorem dL_law_1854 : decode cL_law 1854 = .ok (.ireturn, 1) := by decide +kernel
theorem dL_law_1855 : decode cL_law 1855 = .ok (.iload 5, 2) := by decide +kernel
theorem dL_law_1857 : decode cL_law 1857 = .ok (.ifCond .ne 22, 3) := by decide +kernel
theorem dL_law_1860 : decode cL_law 1860 = .ok (.aload_n 3, 1) := by decide +kernel
theorem dL_law_1861 : decode cL_law 1861 = .ok (.iconst 0, 1) := by decide +kernel
theorem dL_law_1862 : decode cL_law 1862 = .ok (.laload, 1) := by decide +kernel
theorem dL_law_1863 : decode cL_law 1863 = .ok (.iload 6, 2) := by decide +kernel
theorem dL_law_1865 : decode cL_law 1865 = .ok (.ifCond .eq 7, 3) := by decide +kernel
theorem dL_law_1868 : decode cL_law 1868 = .ok (.lconst 1, 1) := by decide +kernel
theorem dL_law_1869 : decode cL_law 1869 = .ok (.goto 4, 3) := by decide +kernel
theorem dL_law_1872 : decode cL_law 1872 = .ok (.lconst 0, 1) := by decide +kernel
theorem dL_law_1873 : decode cL_law 1873 = .ok (.lcmp, 1) := by decide +kernel
theorem dL_law_1874 : decode cL_law 1874 = .ok (.ifCond .eq 5, 3) := by decide +kernel
theorem dL_law_1877 : decode cL_law 1877 = .ok (.iconst 0, 1) := by decide +kernel
theorem dL_law_1878 : decode cL_law 1878 = .ok (.ireturn, 1) := by decide +kernel
theorem dL_law_1879 : decode cL_law 1879 = .ok (.goto 939, 3) := by decide +kernel
theorem dL_law_1882 : decode cL_law 1882 = .ok (.aload_n 1, 1) := by decide +kernel
theorem dL_law_1883 : decode cL_law 1883 = .ok (.aload_n 0, 1) := by decide +kernel
theorem dL_law_1884 : decode cL_law 1884 = .ok (.iload 4, 2) := by decide +kernel
theorem dL_law_1886 : decode cL_law 1886 = .ok (.iconst 1, 1) := by decide +kernel
theorem dL_law_1887 : decode cL_law 1887 = .ok (.iadd, 1) := by decide +kernel
theorem dL_law_1888 : decode cL_law 1888 = .ok (.iaload, 1) := by decide +kernel
theorem dL_law_1889 : decode cL_law 1889 = .ok (.aload_n 0, 1) := by decide +kernel
theorem dL_law_1890 : decode cL_law 1890 = .ok (.iload 4, 2) := by decide +kernel
theorem dL_law_1892 : decode cL_law 1892 = .ok (.iconst 2, 1) := by decide +kernel
theorem dL_law_1893 : decode cL_law 1893 = .ok (.iadd, 1) := by decide +kernel
theorem dL_law_1894 : decode cL_law 1894 = .ok (.iaload, 1) := by decide +kernel
theorem dL_law_1895 : decode cL_law 1895 = .ok (.aload_n 3, 1) := by decide +kernel
theorem dL_law_1896 : decode cL_law 1896 = .ok (.invokestatic 238, 3) := by decide +kernel
theorem dL_law_1899 : decode cL_law 1899 = .ok (.istore 5, 2) := by decide +kernel
theorem dL_law_1901 : decode cL_law 1901 = .ok (.aload_n 2, 1) := by decide +kernel
theorem dL_law_1902 : decode cL_law 1902 = .ok (.aload_n 0, 1) := by decide +kernel
theorem dL_law_1903 : decode cL_law 1903 = .ok (.iload 4, 2) := by decide +kernel
theorem dL_law_1905 : decode cL_law 1905 = .ok (.iconst 1, 1) := by decide +kernel
theorem dL_law_1906 : decode cL_law 1906 = .ok (.iadd, 1) := by decide +kernel
theorem dL_law_1907 : decode cL_law 1907 = .ok (.iaload, 1) := by decide +kernel
theorem dL_law_1908 : decode cL_law 1908 = .ok (.aload_n 0, 1) := by decide +kernel
theorem dL_law_1909 : decode cL_law 1909 = .ok (.iload 4, 2) := by decide +kernel
theorem dL_law_1911 : decode cL_law 1911 = .ok (.iconst 2, 1) := by decide +kernel
theorem dL_law_1912 : decode cL_law 1912 = .ok (.iadd, 1) := by decide +kernel
theorem dL_law_1913 : decode cL_law 1913 = .ok (.iaload, 1) := by decide +kernel
theorem dL_law_1914 : decode cL_law 1914 = .ok (.invokevirtual 240, 3) := by decide +kernel
theorem dL_law_1917 : decode cL_law 1917 = .ok (.istore 6, 2) := by decide +kernel
theorem dL_law_1919 : decode cL_law 1919 = .ok (.aload_n 2, 1) := by decide +kernel
theorem dL_law_1920 : decode cL_law 1920 = .ok (.invokevirtual 148, 3) := by decide +kernel
theorem dL_law_1923 : decode cL_law 1923 = .ok (.iload 5, 2) := by decide +kernel
theorem dL_law_1925 : decode cL_law 1925 = .ok (.if_icmp .eq 5, 3) := by decide +kernel
theorem dL_law_1928 : decode cL_law 1928 = .ok (.iconst 0, 1) := by decide +kernel
theorem dL_law_1929 : decode cL_law 1929 = .ok (.ireturn, 1) := by decide +kernel
theorem dL_law_1930 : decode cL_law 1930 = .ok (.iload 5, 2) := by decide +kernel
theorem dL_law_1932 : decode cL_law 1932 = .ok (.ifCond .ne 15, 3) := by decide +kernel
theorem dL_law_1935 : decode cL_law 1935 = .ok (.aload_n 3, 1) := by decide +kernel
theorem dL_law_1936 : decode cL_law 1936 = .ok (.iconst 0, 1) := by decide +kernel
theorem dL_law_1937 : decode cL_law 1937 = .ok (.laload, 1) := by decide +kernel
theorem dL_law_1938 : decode cL_law 1938 = .ok (.iload 6, 2) := by decide +kernel
theorem dL_law_1940 : decode cL_law 1940 = .ok (.i2l, 1) := by decide +kernel
theorem dL_law_1941 : decode cL_law 1941 = .ok (.lcmp, 1) := by decide +kernel
theorem dL_law_1942 : decode cL_law 1942 = .ok (.ifCond .eq 5, 3) := by decide +kernel
theorem dL_law_1945 : decode cL_law 1945 = .ok (.iconst 0, 1) := by decide +kernel
theorem dL_law_1946 : decode cL_law 1946 = .ok (.ireturn, 1) := by decide +kernel
theorem dL_law_1947 : decode cL_law 1947 = .ok (.goto 871, 3) := by decide +kernel
theorem dL_law_1950 : decode cL_law 1950 = .ok (.aload_n 1, 1) := by decide +kernel
theorem dL_law_1951 : decode cL_law 1951 = .ok (.aload_n 0, 1) := by decide +kernel
theorem dL_law_1952 : decode cL_law 1952 = .ok (.iload 4, 2) := by decide +kernel
theorem dL_law_1954 : decode cL_law 1954 = .ok (.iconst 1, 1) := by decide +kernel
theorem dL_law_1955 : decode cL_law 1955 = .ok (.iadd, 1) := by decide +kernel
theorem dL_law_1956 : decode cL_law 1956 = .ok (.iaload, 1) := by decide +kernel
theorem dL_law_1957 : decode cL_law 1957 = .ok (.aload_n 0, 1) := by decide +kernel
theorem dL_law_1958 : decode cL_law 1958 = .ok (.iload 4, 2) := by decide +kernel
theorem dL_law_1960 : decode cL_law 1960 = .ok (.iconst 2, 1) := by decide +kernel
theorem dL_law_1961 : decode cL_law 1961 = .ok (.iadd, 1) := by decide +kernel
theorem dL_law_1962 : decode cL_law 1962 = .ok (.iaload, 1) := by decide +kernel
theorem dL_law_1963 : decode cL_law 1963 = .ok (.aload_n 3, 1) := by decide +kernel
theorem dL_law_1964 : decode cL_law 1964 = .ok (.invokestatic 241, 3) := by decide +kernel
theorem dL_law_1967 : decode cL_law 1967 = .ok (.istore 5, 2) := by decide +kernel
theorem dL_law_1969 : decode cL_law 1969 = .ok (.aload_n 2, 1) := by decide +kernel
theorem dL_law_1970 : decode cL_law 1970 = .ok (.aload_n 0, 1) := by decide +kernel
theorem dL_law_1971 : decode cL_law 1971 = .ok (.iload 4, 2) := by decide +kernel
theorem dL_law_1973 : decode cL_law 1973 = .ok (.iconst 1, 1) := by decide +kernel
theorem dL_law_1974 : decode cL_law 1974 = .ok (.iadd, 1) := by decide +kernel
theorem dL_law_1975 : decode cL_law 1975 = .ok (.iaload, 1) := by decide +kernel
theorem dL_law_1976 : decode cL_law 1976 = .ok (.aload_n 0, 1) := by decide +kernel
theorem dL_law_1977 : decode cL_law 1977 = .ok (.iload 4, 2) := by decide +kernel
theorem dL_law_1979 : decode cL_law 1979 = .ok (.iconst 2, 1) := by decide +kernel
theorem dL_law_1980 : decode cL_law 1980 = .ok (.iadd, 1) := by decide +kernel
theorem dL_law_1981 : decode cL_law 1981 = .ok (.iaload, 1) := by decide +kernel
theorem dL_law_1982 : decode cL_law 1982 = .ok (.invokevirtual 243, 3) := by decide +kernel
theorem dL_law_1985 : decode cL_law 1985 = .ok (.istore 6, 2) := by decide +kernel
theorem dL_law_1987 : decode cL_law 1987 = .ok (.aload_n 2, 1) := by decide +kernel
theorem dL_law_1988 : decode cL_law 1988 = .ok (.invokevirtual 148, 3) := by decide +kernel
theorem dL_law_1991 : decode cL_law 1991 = .ok (.iload 5, 2) := by decide +kernel
theorem dL_law_1993 : decode cL_law 1993 = .ok (.if_icmp .eq 5, 3) := by decide +kernel
theorem dL_law_1996 : decode cL_law 1996 = .ok (.iconst 0, 1) := by decide +kernel
theorem dL_law_1997 : decode cL_law 1997 = .ok (.ireturn, 1) := by decide +kernel
theorem dL_law_1998 : decode cL_law 1998 = .ok (.iload 5, 2) := by decide +kernel
theorem dL_law_2000 : decode cL_law 2000 = .ok (.ifCond .ne 15, 3) := by decide +kernel
theorem dL_law_2003 : decode cL_law 2003 = .ok (.aload_n 3, 1) := by decide +kernel
theorem dL_law_2004 : decode cL_law 2004 = .ok (.iconst 0, 1) := by decide +kernel
theorem dL_law_2005 : decode cL_law 2005 = .ok (.laload, 1) := by decide +kernel
theorem dL_law_2006 : decode cL_law 2006 = .ok (.iload 6, 2) := by decide +kernel
theorem dL_law_2008 : decode cL_law 2008 = .ok (.i2l, 1) := by decide +kernel
theorem dL_law_2009 : decode cL_law 2009 = .ok (.lcmp, 1) := by decide +kernel
theorem dL_law_2010 : decode cL_law 2010 = .ok (.ifCond .eq 5, 3) := by decide +kernel
theorem dL_law_2013 : decode cL_law 2013 = .ok (.iconst 0, 1) := by decide +kernel
theorem dL_law_2014 : decode cL_law 2014 = .ok (.ireturn, 1) := by decide +kernel
theorem dL_law_2015 : decode cL_law 2015 = .ok (.goto 803, 3) := by decide +kernel
theorem dL_law_2018 : decode cL_law 2018 = .ok (.aload_n 1, 1) := by decide +kernel
theorem dL_law_2019 : decode cL_law 2019 = .ok (.aload_n 0, 1) := by decide +kernel
theorem dL_law_2020 : decode cL_law 2020 = .ok (.iload 4, 2) := by decide +kernel
theorem dL_law_2022 : decode cL_law 2022 = .ok (.iconst 1, 1) := by decide +kernel
theorem dL_law_2023 : decode cL_law 2023 = .ok (.iadd, 1) := by decide +kernel
theorem dL_law_2024 : decode cL_law 2024 = .ok (.iaload, 1) := by decide +kernel
theorem dL_law_2025 : decode cL_law 2025 = .ok (.aload_n 3, 1) := by decide +kernel
theorem dL_law_2026 : decode cL_law 2026 = .ok (.invokestatic 244, 3) := by decide +kernel
theorem dL_law_2029 : decode cL_law 2029 = .ok (.istore 5, 2) := by decide +kernel
theorem dL_law_2031 : decode cL_law 2031 = .ok (.aload_n 2, 1) := by decide +kernel
theorem dL_law_2032 : decode cL_law 2032 = .ok (.aload_n 0, 1) := by decide +kernel
theorem dL_law_2033 : decode cL_law 2033 = .ok (.iload 4, 2) := by decide +kernel
theorem dL_law_2035 : decode cL_law 2035 = .ok (.iconst 1, 1) := by decide +kernel
theorem dL_law_2036 : decode cL_law 2036 = .ok (.iadd, 1) := by decide +kernel
theorem dL_law_2037 : decode cL_law 2037 = .ok (.iaload, 1) := by decide +kernel
theorem dL_law_2038 : decode cL_law 2038 = .ok (.invokevirtual 246, 3) := by decide +kernel
theorem dL_law_2041 : decode cL_law 2041 = .ok (.istore 6, 2) := by decide +kernel
theorem dL_law_2043 : decode cL_law 2043 = .ok (.aload_n 2, 1) := by decide +kernel
theorem dL_law_2044 : decode cL_law 2044 = .ok (.invokevirtual 148, 3) := by decide +kernel
theorem dL_law_2047 : decode cL_law 2047 = .ok (.iload 5, 2) := by decide +kernel
theorem dL_law_2049 : decode cL_law 2049 = .ok (.if_icmp .eq 5, 3) := by decide +kernel
theorem dL_law_2052 : decode cL_law 2052 = .ok (.iconst 0, 1) := by decide +kernel
theorem dL_law_2053 : decode cL_law 2053 = .ok (.ireturn, 1) := by decide +kernel
theorem dL_law_2054 : decode cL_law 2054 = .ok (.iload 5, 2) := by decide +kernel
theorem dL_law_2056 : decode cL_law 2056 = .ok (.ifCond .ne 15, 3) := by decide +kernel
theorem dL_law_2059 : decode cL_law 2059 = .ok (.aload_n 3, 1) := by decide +kernel
theorem dL_law_2060 : decode cL_law 2060 = .ok (.iconst 0, 1) := by decide +kernel
theorem dL_law_2061 : decode cL_law 2061 = .ok (.laload, 1) := by decide +kernel
theorem dL_law_2062 : decode cL_law 2062 = .ok (.iload 6, 2) := by decide +kernel
theorem dL_law_2064 : decode cL_law 2064 = .ok (.i2l, 1) := by decide +kernel
theorem dL_law_2065 : decode cL_law 2065 = .ok (.lcmp, 1) := by decide +kernel
theorem dL_law_2066 : decode cL_law 2066 = .ok (.ifCond .eq 5, 3) := by decide +kernel
theorem dL_law_2069 : decode cL_law 2069 = .ok (.iconst 0, 1) := by decide +kernel
theorem dL_law_2070 : decode cL_law 2070 = .ok (.ireturn, 1) := by decide +kernel
theorem dL_law_2071 : decode cL_law 2071 = .ok (.goto 747, 3) := by decide +kernel
theorem dL_law_2074 : decode cL_law 2074 = .ok (.aload_n 1, 1) := by decide +kernel
theorem dL_law_2075 : decode cL_law 2075 = .ok (.aload_n 0, 1) := by decide +kernel
theorem dL_law_2076 : decode cL_law 2076 = .ok (.iload 4, 2) := by decide +kernel
theorem dL_law_2078 : decode cL_law 2078 = .ok (.iconst 1, 1) := by decide +kernel
theorem dL_law_2079 : decode cL_law 2079 = .ok (.iadd, 1) := by decide +kernel
theorem dL_law_2080 : decode cL_law 2080 = .ok (.iaload, 1) := by decide +kernel
theorem dL_law_2081 : decode cL_law 2081 = .ok (.aload_n 0, 1) := by decide +kernel
theorem dL_law_2082 : decode cL_law 2082 = .ok (.iload 4, 2) := by decide +kernel
theorem dL_law_2084 : decode cL_law 2084 = .ok (.iconst 2, 1) := by decide +kernel
theorem dL_law_2085 : decode cL_law 2085 = .ok (.iadd, 1) := by decide +kernel
theorem dL_law_2086 : decode cL_law 2086 = .ok (.iaload, 1) := by decide +kernel
theorem dL_law_2087 : decode cL_law 2087 = .ok (.aload_n 3, 1) := by decide +kernel
theorem dL_law_2088 : decode cL_law 2088 = .ok (.invokestatic 247, 3) := by decide +kernel
theorem dL_law_2091 : decode cL_law 2091 = .ok (.istore 5, 2) := by decide +kernel
theorem dL_law_2093 : decode cL_law 2093 = .ok (.aload_n 2, 1) := by decide +kernel
theorem dL_law_2094 : decode cL_law 2094 = .ok (.aload_n 0, 1) := by decide +kernel
theorem dL_law_2095 : decode cL_law 2095 = .ok (.iload 4, 2) := by decide +kernel
theorem dL_law_2097 : decode cL_law 2097 = .ok (.iconst 1, 1) := by decide +kernel
theorem dL_law_2098 : decode cL_law 2098 = .ok (.iadd, 1) := by decide +kernel
theorem dL_law_2099 : decode cL_law 2099 = .ok (.iaload, 1) := by decide +kernel
theorem dL_law_2100 : decode cL_law 2100 = .ok (.aload_n 0, 1) := by decide +kernel
theorem dL_law_2101 : decode cL_law 2101 = .ok (.iload 4, 2) := by decide +kernel
theorem dL_law_2103 : decode cL_law 2103 = .ok (.iconst 2, 1) := by decide +kernel
theorem dL_law_2104 : decode cL_law 2104 = .ok (.iadd, 1) := by decide +kernel
theorem dL_law_2105 : decode cL_law 2105 = .ok (.iaload, 1) := by decide +kernel
theorem dL_law_2106 : decode cL_law 2106 = .ok (.invokevirtual 249, 3) := by decide +kernel
theorem dL_law_2109 : decode cL_law 2109 = .ok (.istore 6, 2) := by decide +kernel
theorem dL_law_2111 : decode cL_law 2111 = .ok (.aload_n 2, 1) := by decide +kernel
theorem dL_law_2112 : decode cL_law 2112 = .ok (.invokevirtual 148, 3) := by decide +kernel
theorem dL_law_2115 : decode cL_law 2115 = .ok (.iload 5, 2) := by decide +kernel
theorem dL_law_2117 : decode cL_law 2117 = .ok (.if_icmp .eq 5, 3) := by decide +kernel
theorem dL_law_2120 : decode cL_law 2120 = .ok (.iconst 0, 1) := by decide +kernel
theorem dL_law_2121 : decode cL_law 2121 = .ok (.ireturn, 1) := by decide +kernel
theorem dL_law_2122 : decode cL_law 2122 = .ok (.iload 5, 2) := by decide +kernel
theorem dL_law_2124 : decode cL_law 2124 = .ok (.ifCond .ne 15, 3) := by decide +kernel
theorem dL_law_2127 : decode cL_law 2127 = .ok (.aload_n 3, 1) := by decide +kernel
theorem dL_law_2128 : decode cL_law 2128 = .ok (.iconst 0, 1) := by decide +kernel
theorem dL_law_2129 : decode cL_law 2129 = .ok (.laload, 1) := by decide +kernel
theorem dL_law_2130 : decode cL_law 2130 = .ok (.iload 6, 2) := by decide +kernel
theorem dL_law_2132 : decode cL_law 2132 = .ok (.i2l, 1) := by decide +kernel
theorem dL_law_2133 : decode cL_law 2133 = .ok (.lcmp, 1) := by decide +kernel
theorem dL_law_2134 : decode cL_law 2134 = .ok (.ifCond .eq 5, 3) := by decide +kernel
theorem dL_law_2137 : decode cL_law 2137 = .ok (.iconst 0, 1) := by decide +kernel
theorem dL_law_2138 : decode cL_law 2138 = .ok (.ireturn, 1) := by decide +kernel
theorem dL_law_2139 : decode cL_law 2139 = .ok (.goto 679, 3) := by decide +kernel
theorem dL_law_2142 : decode cL_law 2142 = .ok (.aload_n 1, 1) := by decide +kernel
theorem dL_law_2143 : decode cL_law 2143 = .ok (.aload_n 0, 1) := by decide +kernel
theorem dL_law_2144 : decode cL_law 2144 = .ok (.iload 4, 2) := by decide +kernel
theorem dL_law_2146 : decode cL_law 2146 = .ok (.iconst 1, 1) := by decide +kernel
theorem dL_law_2147 : decode cL_law 2147 = .ok (.iadd, 1) := by decide +kernel
theorem dL_law_2148 : decode cL_law 2148 = .ok (.iaload, 1) := by decide +kernel
theorem dL_law_2149 : decode cL_law 2149 = .ok (.aload_n 3, 1) := by decide +kernel
theorem dL_law_2150 : decode cL_law 2150 = .ok (.invokestatic 250, 3) := by decide +kernel
theorem dL_law_2153 : decode cL_law 2153 = .ok (.istore 5, 2) := by decide +kernel
theorem dL_law_2155 : decode cL_law 2155 = .ok (.aload_n 2, 1) := by decide +kernel
theorem dL_law_2156 : decode cL_law 2156 = .ok (.aload_n 0, 1) := by decide +kernel
theorem dL_law_2157 : decode cL_law 2157 = .ok (.iload 4, 2) := by decide +kernel
theorem dL_law_2159 : decode cL_law 2159 = .ok (.iconst 1, 1) := by decide +kernel
theorem dL_law_2160 : decode cL_law 2160 = .ok (.iadd, 1) := by decide +kernel
theorem dL_law_2161 : decode cL_law 2161 = .ok (.iaload, 1) := by decide +kernel
theorem dL_law_2162 : decode cL_law 2162 = .ok (.invokevirtual 252, 3) := by decide +kernel
theorem dL_law_2165 : decode cL_law 2165 = .ok (.istore 6, 2) := by decide +kernel
theorem dL_law_2167 : decode cL_law 2167 = .ok (.aload_n 2, 1) := by decide +kernel
theorem dL_law_2168 : decode cL_law 2168 = .ok (.invokevirtual 148, 3) := by decide +kernel
theorem dL_law_2171 : decode cL_law 2171 = .ok (.iload 5, 2) := by decide +kernel
theorem dL_law_2173 : decode cL_law 2173 = .ok (.if_icmp .eq 5, 3) := by decide +kernel
theorem dL_law_2176 : decode cL_law 2176 = .ok (.iconst 0, 1) := by decide +kernel
theorem dL_law_2177 : decode cL_law 2177 = .ok (.ireturn, 1) := by decide +kernel
theorem dL_law_2178 : decode cL_law 2178 = .ok (.iload 5, 2) := by decide +kernel
theorem dL_law_2180 : decode cL_law 2180 = .ok (.ifCond .ne 15, 3) := by decide +kernel
theorem dL_law_2183 : decode cL_law 2183 = .ok (.aload_n 3, 1) := by decide +kernel
theorem dL_law_2184 : decode cL_law 2184 = .ok (.iconst 0, 1) := by decide +kernel
theorem dL_law_2185 : decode cL_law 2185 = .ok (.laload, 1) := by decide +kernel
theorem dL_law_2186 : decode cL_law 2186 = .ok (.iload 6, 2) := by decide +kernel
theorem dL_law_2188 : decode cL_law 2188 = .ok (.i2l, 1) := by decide +kernel
theorem dL_law_2189 : decode cL_law 2189 = .ok (.lcmp, 1) := by decide +kernel
theorem dL_law_2190 : decode cL_law 2190 = .ok (.ifCond .eq 5, 3) := by decide +kernel
theorem dL_law_2193 : decode cL_law 2193 = .ok (.iconst 0, 1) := by decide +kernel
theorem dL_law_2194 : decode cL_law 2194 = .ok (.ireturn, 1) := by decide +kernel
theorem dL_law_2195 : decode cL_law 2195 = .ok (.goto 623, 3) := by decide +kernel
theorem dL_law_2198 : decode cL_law 2198 = .ok (.aload_n 1, 1) := by decide +kernel
theorem dL_law_2199 : decode cL_law 2199 = .ok (.aload_n 3, 1) := by decide +kernel
theorem dL_law_2200 : decode cL_law 2200 = .ok (.invokestatic 253, 3) := by decide +kernel
theorem dL_law_2203 : decode cL_law 2203 = .ok (.istore 5, 2) := by decide +kernel
theorem dL_law_2205 : decode cL_law 2205 = .ok (.aload_n 2, 1) := by decide +kernel
theorem dL_law_2206 : decode cL_law 2206 = .ok (.invokevirtual 255, 3) := by decide +kernel
theorem dL_law_2209 : decode cL_law 2209 = .ok (.istore 6, 2) := by decide +kernel
theorem dL_law_2211 : decode cL_law 2211 = .ok (.aload_n 2, 1) := by decide +kernel
theorem dL_law_2212 : decode cL_law 2212 = .ok (.invokevirtual 148, 3) := by decide +kernel
theorem dL_law_2215 : decode cL_law 2215 = .ok (.iload 5, 2) := by decide +kernel
theorem dL_law_2217 : decode cL_law 2217 = .ok (.if_icmp .eq 5, 3) := by decide +kernel
theorem dL_law_2220 : decode cL_law 2220 = .ok (.iconst 0, 1) := by decide +kernel
theorem dL_law_2221 : decode cL_law 2221 = .ok (.ireturn, 1) := by decide +kernel
theorem dL_law_2222 : decode cL_law 2222 = .ok (.iload 5, 2) := by decide +kernel
theorem dL_law_2224 : decode cL_law 2224 = .ok (.ifCond .ne 15, 3) := by decide +kernel
theorem dL_law_2227 : decode cL_law 2227 = .ok (.aload_n 3, 1) := by decide +kernel
theorem dL_law_2228 : decode cL_law 2228 = .ok (.iconst 0, 1) := by decide +kernel
theorem dL_law_2229 : decode cL_law 2229 = .ok (.laload, 1) := by decide +kernel
theorem dL_law_2230 : decode cL_law 2230 = .ok (.iload 6, 2) := by decide +kernel
theorem dL_law_2232 : decode cL_law 2232 = .ok (.i2l, 1) := by decide +kernel
theorem dL_law_2233 : decode cL_law 2233 = .ok (.lcmp, 1) := by decide +kernel
theorem dL_law_2234 : decode cL_law 2234 = .ok (.ifCond .eq 5, 3) := by decide +kernel
theorem dL_law_2237 : decode cL_law 2237 = .ok (.iconst 0, 1) := by decide +kernel
theorem dL_law_2238 : decode cL_law 2238 = .ok (.ireturn, 1) := by decide +kernel
theorem dL_law_2239 : decode cL_law 2239 = .ok (.goto 579, 3) := by decide +kernel
theorem dL_law_2242 : decode cL_law 2242 = .ok (.aload_n 1, 1) := by decide +kernel
theorem dL_law_2243 : decode cL_law 2243 = .ok (.invokevirtual 256, 3) := by decide +kernel
theorem dL_law_2246 : decode cL_law 2246 = .ok (.aload_n 2, 1) := by decide +kernel
theorem dL_law_2247 : decode cL_law 2247 = .ok (.invokevirtual 259, 3) := by decide +kernel
theorem dL_law_2250 : decode cL_law 2250 = .ok (.if_icmp .eq 568, 3) := by decide +kernel
theorem dL_law_2253 : decode cL_law 2253 = .ok (.iconst 0, 1) := by decide +kernel
theorem dL_law_2254 : decode cL_law 2254 = .ok (.ireturn, 1) := by decide +kernel
theorem dL_law_2255 : decode cL_law 2255 = .ok (.aload_n 1, 1) := by decide +kernel
theorem dL_law_2256 : decode cL_law 2256 = .ok (.invokevirtual 260, 3) := by decide +kernel
theorem dL_law_2259 : decode cL_law 2259 = .ok (.aload_n 2, 1) := by decide +kernel
theorem dL_law_2260 : decode cL_law 2260 = .ok (.invokevirtual 263, 3) := by decide +kernel
theorem dL_law_2263 : decode cL_law 2263 = .ok (.if_icmp .eq 555, 3) := by decide +kernel
theorem dL_law_2266 : decode cL_law 2266 = .ok (.iconst 0, 1) := by decide +kernel
theorem dL_law_2267 : decode cL_law 2267 = .ok (.ireturn, 1) := by decide +kernel
theorem dL_law_2268 : decode cL_law 2268 = .ok (.aload_n 1, 1) := by decide +kernel
theorem dL_law_2269 : decode cL_law 2269 = .ok (.aload_n 0, 1) := by decide +kernel
theorem dL_law_2270 : decode cL_law 2270 = .ok (.iload 4, 2) := by decide +kernel
theorem dL_law_2272 : decode cL_law 2272 = .ok (.iconst 1, 1) := by decide +kernel
theorem dL_law_2273 : decode cL_law 2273 = .ok (.iadd, 1) := by decide +kernel
theorem dL_law_2274 : decode cL_law 2274 = .ok (.iaload, 1) := by decide +kernel
theorem dL_law_2275 : decode cL_law 2275 = .ok (.aload_n 0, 1) := by decide +kernel
theorem dL_law_2276 : decode cL_law 2276 = .ok (.iload 4, 2) := by decide +kernel
theorem dL_law_2278 : decode cL_law 2278 = .ok (.iconst 2, 1) := by decide +kernel
theorem dL_law_2279 : decode cL_law 2279 = .ok (.iadd, 1) := by decide +kernel
theorem dL_law_2280 : decode cL_law 2280 = .ok (.iaload, 1) := by decide +kernel
theorem dL_law_2281 : decode cL_law 2281 = .ok (.aload_n 0, 1) := by decide +kernel
theorem dL_law_2282 : decode cL_law 2282 = .ok (.iload 4, 2) := by decide +kernel
theorem dL_law_2284 : decode cL_law 2284 = .ok (.iconst 3, 1) := by decide +kernel
theorem dL_law_2285 : decode cL_law 2285 = .ok (.iadd, 1) := by decide +kernel
theorem dL_law_2286 : decode cL_law 2286 = .ok (.iaload, 1) := by decide +kernel
theorem dL_law_2287 : decode cL_law 2287 = .ok (.aload_n 3, 1) := by decide +kernel
theorem dL_law_2288 : decode cL_law 2288 = .ok (.invokestatic 264, 3) := by decide +kernel
theorem dL_law_2291 : decode cL_law 2291 = .ok (.istore 5, 2) := by decide +kernel
theorem dL_law_2293 : decode cL_law 2293 = .ok (.aload_n 2, 1) := by decide +kernel
theorem dL_law_2294 : decode cL_law 2294 = .ok (.aload_n 0, 1) := by decide +kernel
theorem dL_law_2295 : decode cL_law 2295 = .ok (.iload 4, 2) := by decide +kernel
theorem dL_law_2297 : decode cL_law 2297 = .ok (.iconst 1, 1) := by decide +kernel
theorem dL_law_2298 : decode cL_law 2298 = .ok (.iadd, 1) := by decide +kernel
theorem dL_law_2299 : decode cL_law 2299 = .ok (.iaload, 1) := by decide +kernel
theorem dL_law_2300 : decode cL_law 2300 = .ok (.aload_n 0, 1) := by decide +kernel
theorem dL_law_2301 : decode cL_law 2301 = .ok (.iload 4, 2) := by decide +kernel
theorem dL_law_2303 : decode cL_law 2303 = .ok (.iconst 2, 1) := by decide +kernel
theorem dL_law_2304 : decode cL_law 2304 = .ok (.iadd, 1) := by decide +kernel
theorem dL_law_2305 : decode cL_law 2305 = .ok (.iaload, 1) := by decide +kernel
theorem dL_law_2306 : decode cL_law 2306 = .ok (.aload_n 0, 1) := by decide +kernel
theorem dL_law_2307 : decode cL_law 2307 = .ok (.iload 4, 2) := by decide +kernel
theorem dL_law_2309 : decode cL_law 2309 = .ok (.iconst 3, 1) := by decide +kernel
theorem dL_law_2310 : decode cL_law 2310 = .ok (.iadd, 1) := by decide +kernel
theorem dL_law_2311 : decode cL_law 2311 = .ok (.iaload, 1) := by decide +kernel
theorem dL_law_2312 : decode cL_law 2312 = .ok (.invokevirtual 266, 3) := by decide +kernel
theorem dL_law_2315 : decode cL_law 2315 = .ok (.istore 6, 2) := by decide +kernel
theorem dL_law_2317 : decode cL_law 2317 = .ok (.aload_n 2, 1) := by decide +kernel
theorem dL_law_2318 : decode cL_law 2318 = .ok (.invokevirtual 148, 3) := by decide +kernel
theorem dL_law_2321 : decode cL_law 2321 = .ok (.iload 5, 2) := by decide +kernel
theorem dL_law_2323 : decode cL_law 2323 = .ok (.if_icmp .eq 5, 3) := by decide +kernel
theorem dL_law_2326 : decode cL_law 2326 = .ok (.iconst 0, 1) := by decide +kernel
theorem dL_law_2327 : decode cL_law 2327 = .ok (.ireturn, 1) := by decide +kernel
theorem dL_law_2328 : decode cL_law 2328 = .ok (.iload 5, 2) := by decide +kernel
theorem dL_law_2330 : decode cL_law 2330 = .ok (.ifCond .ne 15, 3) := by decide +kernel
theorem dL_law_2333 : decode cL_law 2333 = .ok (.aload_n 3, 1) := by decide +kernel
theorem dL_law_2334 : decode cL_law 2334 = .ok (.iconst 0, 1) := by decide +kernel
theorem dL_law_2335 : decode cL_law 2335 = .ok (.laload, 1) := by decide +kernel
theorem dL_law_2336 : decode cL_law 2336 = .ok (.iload 6, 2) := by decide +kernel
theorem dL_law_2338 : decode cL_law 2338 = .ok (.i2l, 1) := by decide +kernel
theorem dL_law_2339 : decode cL_law 2339 = .ok (.lcmp, 1) := by decide +kernel
theorem dL_law_2340 : decode cL_law 2340 = .ok (.ifCond .eq 5, 3) := by decide +kernel
theorem dL_law_2343 : decode cL_law 2343 = .ok (.iconst 0, 1) := by decide +kernel
theorem dL_law_2344 : decode cL_law 2344 = .ok (.ireturn, 1) := by decide +kernel
theorem dL_law_2345 : decode cL_law 2345 = .ok (.goto 473, 3) := by decide +kernel
theorem dL_law_2348 : decode cL_law 2348 = .ok (.aload_n 1, 1) := by decide +kernel
theorem dL_law_2349 : decode cL_law 2349 = .ok (.aload_n 3, 1) := by decide +kernel
theorem dL_law_2350 : decode cL_law 2350 = .ok (.invokestatic 267, 3) := by decide +kernel
theorem dL_law_2353 : decode cL_law 2353 = .ok (.istore 5, 2) := by decide +kernel
theorem dL_law_2355 : decode cL_law 2355 = .ok (.aload_n 2, 1) := by decide +kernel
theorem dL_law_2356 : decode cL_law 2356 = .ok (.invokevirtual 269, 3) := by decide +kernel
theorem dL_law_2359 : decode cL_law 2359 = .ok (.istore 6, 2) := by decide +kernel
theorem dL_law_2361 : decode cL_law 2361 = .ok (.aload_n 2, 1) := by decide +kernel
theorem dL_law_2362 : decode cL_law 2362 = .ok (.invokevirtual 148, 3) := by decide +kernel
theorem dL_law_2365 : decode cL_law 2365 = .ok (.iload 5, 2) := by decide +kernel
theorem dL_law_2367 : decode cL_law 2367 = .ok (.if_icmp .eq 5, 3) := by decide +kernel
theorem dL_law_2370 : decode cL_law 2370 = .ok (.iconst 0, 1) := by decide +kernel
theorem dL_law_2371 : decode cL_law 2371 = .ok (.ireturn, 1) := by decide +kernel
theorem dL_law_2372 : decode cL_law 2372 = .ok (.iload 5, 2) := by decide +kernel
theorem dL_law_2374 : decode cL_law 2374 = .ok (.ifCond .ne 15, 3) := by decide +kernel
theorem dL_law_2377 : decode cL_law 2377 = .ok (.aload_n 3, 1) := by decide +kernel
theorem dL_law_2378 : decode cL_law 2378 = .ok (.iconst 0, 1) := by decide +kernel
theorem dL_law_2379 : decode cL_law 2379 = .ok (.laload, 1) := by decide +kernel
theorem dL_law_2380 : decode cL_law 2380 = .ok (.iload 6, 2) := by decide +kernel
theorem dL_law_2382 : decode cL_law 2382 = .ok (.i2l, 1) := by decide +kernel
theorem dL_law_2383 : decode cL_law 2383 = .ok (.lcmp, 1) := by decide +kernel
theorem dL_law_2384 : decode cL_law 2384 = .ok (.ifCond .eq 5, 3) := by decide +kernel
theorem dL_law_2387 : decode cL_law 2387 = .ok (.iconst 0, 1) := by decide +kernel
theorem dL_law_2388 : decode cL_law 2388 = .ok (.ireturn, 1) := by decide +kernel
theorem dL_law_2389 : decode cL_law 2389 = .ok (.goto 429, 3) := by decide +kernel
theorem dL_law_2392 : decode cL_law 2392 = .ok (.aload_n 1, 1) := by decide +kernel
theorem dL_law_2393 : decode cL_law 2393 = .ok (.invokevirtual 270, 3) := by decide +kernel
theorem dL_law_2396 : decode cL_law 2396 = .ok (.aload_n 2, 1) := by decide +kernel
theorem dL_law_2397 : decode cL_law 2397 = .ok (.invokevirtual 274, 3) := by decide +kernel
theorem dL_law_2400 : decode cL_law 2400 = .ok (.if_icmp .eq 418, 3) := by decide +kernel
theorem dL_law_2403 : decode cL_law 2403 = .ok (.iconst 0, 1) := by decide +kernel
theorem dL_law_2404 : decode cL_law 2404 = .ok (.ireturn, 1) := by decide +kernel
theorem dL_law_2405 : decode cL_law 2405 = .ok (.aload_n 1, 1) := by decide +kernel
theorem dL_law_2406 : decode cL_law 2406 = .ok (.aload_n 0, 1) := by decide +kernel
theorem dL_law_2407 : decode cL_law 2407 = .ok (.iload 4, 2) := by decide +kernel
theorem dL_law_2409 : decode cL_law 2409 = .ok (.iconst 1, 1) := by decide +kernel
theorem dL_law_2410 : decode cL_law 2410 = .ok (.iadd, 1) := by decide +kernel
theorem dL_law_2411 : decode cL_law 2411 = .ok (.iaload, 1) := by decide +kernel
theorem dL_law_2412 : decode cL_law 2412 = .ok (.aload_n 0, 1) := by decide +kernel
theorem dL_law_2413 : decode cL_law 2413 = .ok (.iload 4, 2) := by decide +kernel
theorem dL_law_2415 : decode cL_law 2415 = .ok (.iconst 2, 1) := by decide +kernel
theorem dL_law_2416 : decode cL_law 2416 = .ok (.iadd, 1) := by decide +kernel
theorem dL_law_2417 : decode cL_law 2417 = .ok (.iaload, 1) := by decide +kernel
theorem dL_law_2418 : decode cL_law 2418 = .ok (.aload_n 3, 1) := by decide +kernel
theorem dL_law_2419 : decode cL_law 2419 = .ok (.invokestatic 275, 3) := by decide +kernel
theorem dL_law_2422 : decode cL_law 2422 = .ok (.istore 5, 2) := by decide +kernel
theorem dL_law_2424 : decode cL_law 2424 = .ok (.aload_n 2, 1) := by decide +kernel
theorem dL_law_2425 : decode cL_law 2425 = .ok (.aload_n 0, 1) := by decide +kernel
theorem dL_law_2426 : decode cL_law 2426 = .ok (.iload 4, 2) := by decide +kernel
theorem dL_law_2428 : decode cL_law 2428 = .ok (.iconst 1, 1) := by decide +kernel
theorem dL_law_2429 : decode cL_law 2429 = .ok (.iadd, 1) := by decide +kernel
theorem dL_law_2430 : decode cL_law 2430 = .ok (.iaload, 1) := by decide +kernel
theorem dL_law_2431 : decode cL_law 2431 = .ok (.aload_n 0, 1) := by decide +kernel
theorem dL_law_2432 : decode cL_law 2432 = .ok (.iload 4, 2) := by decide +kernel
theorem dL_law_2434 : decode cL_law 2434 = .ok (.iconst 2, 1) := by decide +kernel
theorem dL_law_2435 : decode cL_law 2435 = .ok (.iadd, 1) := by decide +kernel
theorem dL_law_2436 : decode cL_law 2436 = .ok (.iaload, 1) := by decide +kernel
theorem dL_law_2437 : decode cL_law 2437 = .ok (.invokevirtual 277, 3) := by decide +kernel
theorem dL_law_2440 : decode cL_law 2440 = .ok (.istore 6, 2) := by decide +kernel
theorem dL_law_2442 : decode cL_law 2442 = .ok (.aload_n 2, 1) := by decide +kernel
theorem dL_law_2443 : decode cL_law 2443 = .ok (.invokevirtual 148, 3) := by decide +kernel
theorem dL_law_2446 : decode cL_law 2446 = .ok (.iload 5, 2) := by decide +kernel
theorem dL_law_2448 : decode cL_law 2448 = .ok (.if_icmp .eq 5, 3) := by decide +kernel
theorem dL_law_2451 : decode cL_law 2451 = .ok (.iconst 0, 1) := by decide +kernel
theorem dL_law_2452 : decode cL_law 2452 = .ok (.ireturn, 1) := by decide +kernel
theorem dL_law_2453 : decode cL_law 2453 = .ok (.iload 5, 2) := by decide +kernel
theorem dL_law_2455 : decode cL_law 2455 = .ok (.ifCond .ne 15, 3) := by decide +kernel
theorem dL_law_2458 : decode cL_law 2458 = .ok (.aload_n 3, 1) := by decide +kernel
theorem dL_law_2459 : decode cL_law 2459 = .ok (.iconst 0, 1) := by decide +kernel
theorem dL_law_2460 : decode cL_law 2460 = .ok (.laload, 1) := by decide +kernel
theorem dL_law_2461 : decode cL_law 2461 = .ok (.iload 6, 2) := by decide +kernel
theorem dL_law_2463 : decode cL_law 2463 = .ok (.i2l, 1) := by decide +kernel
theorem dL_law_2464 : decode cL_law 2464 = .ok (.lcmp, 1) := by decide +kernel
theorem dL_law_2465 : decode cL_law 2465 = .ok (.ifCond .eq 5, 3) := by decide +kernel
theorem dL_law_2468 : decode cL_law 2468 = .ok (.iconst 0, 1) := by decide +kernel
theorem dL_law_2469 : decode cL_law 2469 = .ok (.ireturn, 1) := by decide +kernel
theorem dL_law_2470 : decode cL_law 2470 = .ok (.goto 348, 3) := by decide +kernel
theorem dL_law_2473 : decode cL_law 2473 = .ok (.aload_n 1, 1) := by decide +kernel
theorem dL_law_2474 : decode cL_law 2474 = .ok (.aload_n 0, 1) := by decide +kernel
theorem dL_law_2475 : decode cL_law 2475 = .ok (.iload 4, 2) := by decide +kernel
theorem dL_law_2477 : decode cL_law 2477 = .ok (.iconst 1, 1) := by decide +kernel
theorem dL_law_2478 : decode cL_law 2478 = .ok (.iadd, 1) := by decide +kernel
theorem dL_law_2479 : decode cL_law 2479 = .ok (.iaload, 1) := by decide +kernel
theorem dL_law_2480 : decode cL_law 2480 = .ok (.aload_n 3, 1) := by decide +kernel
theorem dL_law_2481 : decode cL_law 2481 = .ok (.invokestatic 278, 3) := by decide +kernel
theorem dL_law_2484 : decode cL_law 2484 = .ok (.istore 5, 2) := by decide +kernel
theorem dL_law_2486 : decode cL_law 2486 = .ok (.aload_n 2, 1) := by decide +kernel
theorem dL_law_2487 : decode cL_law 2487 = .ok (.aload_n 0, 1) := by decide +kernel
theorem dL_law_2488 : decode cL_law 2488 = .ok (.iload 4, 2) := by decide +kernel
theorem dL_law_2490 : decode cL_law 2490 = .ok (.iconst 1, 1) := by decide +kernel
theorem dL_law_2491 : decode cL_law 2491 = .ok (.iadd, 1) := by decide +kernel
theorem dL_law_2492 : decode cL_law 2492 = .ok (.iaload, 1) := by decide +kernel
theorem dL_law_2493 : decode cL_law 2493 = .ok (.invokevirtual 280, 3) := by decide +kernel
theorem dL_law_2496 : decode cL_law 2496 = .ok (.istore 6, 2) := by decide +kernel
theorem dL_law_2498 : decode cL_law 2498 = .ok (.aload_n 2, 1) := by decide +kernel
theorem dL_law_2499 : decode cL_law 2499 = .ok (.invokevirtual 148, 3) := by decide +kernel
theorem dL_law_2502 : decode cL_law 2502 = .ok (.iload 5, 2) := by decide +kernel
theorem dL_law_2504 : decode cL_law 2504 = .ok (.if_icmp .eq 5, 3) := by decide +kernel
theorem dL_law_2507 : decode cL_law 2507 = .ok (.iconst 0, 1) := by decide +kernel
theorem dL_law_2508 : decode cL_law 2508 = .ok (.ireturn, 1) := by decide +kernel
theorem dL_law_2509 : decode cL_law 2509 = .ok (.iload 5, 2) := by decide +kernel
theorem dL_law_2511 : decode cL_law 2511 = .ok (.ifCond .ne 15, 3) := by decide +kernel
theorem dL_law_2514 : decode cL_law 2514 = .ok (.aload_n 3, 1) := by decide +kernel
theorem dL_law_2515 : decode cL_law 2515 = .ok (.iconst 0, 1) := by decide +kernel
theorem dL_law_2516 : decode cL_law 2516 = .ok (.laload, 1) := by decide +kernel
theorem dL_law_2517 : decode cL_law 2517 = .ok (.iload 6, 2) := by decide +kernel
theorem dL_law_2519 : decode cL_law 2519 = .ok (.i2l, 1) := by decide +kernel
theorem dL_law_2520 : decode cL_law 2520 = .ok (.lcmp, 1) := by decide +kernel
theorem dL_law_2521 : decode cL_law 2521 = .ok (.ifCond .eq 5, 3) := by decide +kernel
theorem dL_law_2524 : decode cL_law 2524 = .ok (.iconst 0, 1) := by decide +kernel
theorem dL_law_2525 : decode cL_law 2525 = .ok (.ireturn, 1) := by decide +kernel
theorem dL_law_2526 : decode cL_law 2526 = .ok (.goto 292, 3) := by decide +kernel
theorem dL_law_2529 : decode cL_law 2529 = .ok (.aload_n 1, 1) := by decide +kernel
theorem dL_law_2530 : decode cL_law 2530 = .ok (.aload_n 0, 1) := by decide +kernel
theorem dL_law_2531 : decode cL_law 2531 = .ok (.iload 4, 2) := by decide +kernel
theorem dL_law_2533 : decode cL_law 2533 = .ok (.iconst 1, 1) := by decide +kernel
theorem dL_law_2534 : decode cL_law 2534 = .ok (.iadd, 1) := by decide +kernel
theorem dL_law_2535 : decode cL_law 2535 = .ok (.iaload, 1) := by decide +kernel
theorem dL_law_2536 : decode cL_law 2536 = .ok (.aload_n 3, 1) := by decide +kernel
theorem dL_law_2537 : decode cL_law 2537 = .ok (.invokestatic 281, 3) := by decide +kernel
theorem dL_law_2540 : decode cL_law 2540 = .ok (.istore 5, 2) := by decide +kernel
theorem dL_law_2542 : decode cL_law 2542 = .ok (.aload_n 2, 1) := by decide +kernel
theorem dL_law_2543 : decode cL_law 2543 = .ok (.aload_n 0, 1) := by decide +kernel
theorem dL_law_2544 : decode cL_law 2544 = .ok (.iload 4, 2) := by decide +kernel
theorem dL_law_2546 : decode cL_law 2546 = .ok (.iconst 1, 1) := by decide +kernel
theorem dL_law_2547 : decode cL_law 2547 = .ok (.iadd, 1) := by decide +kernel
theorem dL_law_2548 : decode cL_law 2548 = .ok (.iaload, 1) := by decide +kernel
theorem dL_law_2549 : decode cL_law 2549 = .ok (.invokevirtual 283, 3) := by decide +kernel
theorem dL_law_2552 : decode cL_law 2552 = .ok (.istore 6, 2) := by decide +kernel
theorem dL_law_2554 : decode cL_law 2554 = .ok (.aload_n 2, 1) := by decide +kernel
theorem dL_law_2555 : decode cL_law 2555 = .ok (.invokevirtual 148, 3) := by decide +kernel
theorem dL_law_2558 : decode cL_law 2558 = .ok (.iload 5, 2) := by decide +kernel
theorem dL_law_2560 : decode cL_law 2560 = .ok (.if_icmp .eq 5, 3) := by decide +kernel
theorem dL_law_2563 : decode cL_law 2563 = .ok (.iconst 0, 1) := by decide +kernel
theorem dL_law_2564 : decode cL_law 2564 = .ok (.ireturn, 1) := by decide +kernel
theorem dL_law_2565 : decode cL_law 2565 = .ok (.iload 5, 2) := by decide +kernel
theorem dL_law_2567 : decode cL_law 2567 = .ok (.ifCond .ne 15, 3) := by decide +kernel
theorem dL_law_2570 : decode cL_law 2570 = .ok (.aload_n 3, 1) := by decide +kernel
theorem dL_law_2571 : decode cL_law 2571 = .ok (.iconst 0, 1) := by decide +kernel
theorem dL_law_2572 : decode cL_law 2572 = .ok (.laload, 1) := by decide +kernel
theorem dL_law_2573 : decode cL_law 2573 = .ok (.iload 6, 2) := by decide +kernel
theorem dL_law_2575 : decode cL_law 2575 = .ok (.i2l, 1) := by decide +kernel
theorem dL_law_2576 : decode cL_law 2576 = .ok (.lcmp, 1) := by decide +kernel
theorem dL_law_2577 : decode cL_law 2577 = .ok (.ifCond .eq 5, 3) := by decide +kernel
theorem dL_law_2580 : decode cL_law 2580 = .ok (.iconst 0, 1) := by decide +kernel
theorem dL_law_2581 : decode cL_law 2581 = .ok (.ireturn, 1) := by decide +kernel
theorem dL_law_2582 : decode cL_law 2582 = .ok (.goto 236, 3) := by decide +kernel
theorem dL_law_2585 : decode cL_law 2585 = .ok (.aload_n 1, 1) := by decide +kernel
theorem dL_law_2586 : decode cL_law 2586 = .ok (.invokevirtual 284, 3) := by decide +kernel
theorem dL_law_2589 : decode cL_law 2589 = .ok (.aload_n 2, 1) := by decide +kernel
theorem dL_law_2590 : decode cL_law 2590 = .ok (.invokevirtual 287, 3) := by decide +kernel
theorem dL_law_2593 : decode cL_law 2593 = .ok (.if_icmp .eq 225, 3) := by decide +kernel
theorem dL_law_2596 : decode cL_law 2596 = .ok (.iconst 0, 1) := by decide +kernel
theorem dL_law_2597 : decode cL_law 2597 = .ok (.ireturn, 1) := by decide +kernel
theorem dL_law_2598 : decode cL_law 2598 = .ok (.aload_n 1, 1) := by decide +kernel
theorem dL_law_2599 : decode cL_law 2599 = .ok (.invokevirtual 288, 3) := by decide +kernel
theorem dL_law_2602 : decode cL_law 2602 = .ok (.aload_n 2, 1) := by decide +kernel
theorem dL_law_2603 : decode cL_law 2603 = .ok (.invokevirtual 291, 3) := by decide +kernel
theorem dL_law_2606 : decode cL_law 2606 = .ok (.if_icmp .eq 212, 3) := by decide +kernel
theorem dL_law_2609 : decode cL_law 2609 = .ok (.iconst 0, 1) := by decide +kernel
theorem dL_law_2610 : decode cL_law 2610 = .ok (.ireturn, 1) := by decide +kernel
theorem dL_law_2611 : decode cL_law 2611 = .ok (.aload_n 1, 1) := by decide +kernel
theorem dL_law_2612 : decode cL_law 2612 = .ok (.aload_n 0, 1) := by decide +kernel
theorem dL_law_2613 : decode cL_law 2613 = .ok (.iload 4, 2) := by decide +kernel
theorem dL_law_2615 : decode cL_law 2615 = .ok (.iconst 1, 1) := by decide +kernel
theorem dL_law_2616 : decode cL_law 2616 = .ok (.iadd, 1) := by decide +kernel
theorem dL_law_2617 : decode cL_law 2617 = .ok (.iaload, 1) := by decide +kernel
theorem dL_law_2618 : decode cL_law 2618 = .ok (.aload_n 3, 1) := by decide +kernel
theorem dL_law_2619 : decode cL_law 2619 = .ok (.invokestatic 292, 3) := by decide +kernel
theorem dL_law_2622 : decode cL_law 2622 = .ok (.istore 5, 2) := by decide +kernel
theorem dL_law_2624 : decode cL_law 2624 = .ok (.aload_n 2, 1) := by decide +kernel
theorem dL_law_2625 : decode cL_law 2625 = .ok (.aload_n 0, 1) := by decide +kernel
theorem dL_law_2626 : decode cL_law 2626 = .ok (.iload 4, 2) := by decide +kernel
theorem dL_law_2628 : decode cL_law 2628 = .ok (.iconst 1, 1) := by decide +kernel
theorem dL_law_2629 : decode cL_law 2629 = .ok (.iadd, 1) := by decide +kernel
theorem dL_law_2630 : decode cL_law 2630 = .ok (.iaload, 1) := by decide +kernel
theorem dL_law_2631 : decode cL_law 2631 = .ok (.invokevirtual 294, 3) := by decide +kernel
theorem dL_law_2634 : decode cL_law 2634 = .ok (.istore 6, 2) := by decide +kernel
theorem dL_law_2636 : decode cL_law 2636 = .ok (.aload_n 2, 1) := by decide +kernel
theorem dL_law_2637 : decode cL_law 2637 = .ok (.invokevirtual 148, 3) := by decide +kernel
theorem dL_law_2640 : decode cL_law 2640 = .ok (.iload 5, 2) := by decide +kernel
theorem dL_law_2642 : decode cL_law 2642 = .ok (.if_icmp .eq 5, 3) := by decide +kernel
theorem dL_law_2645 : decode cL_law 2645 = .ok (.iconst 0, 1) := by decide +kernel
theorem dL_law_2646 : decode cL_law 2646 = .ok (.ireturn, 1) := by decide +kernel
theorem dL_law_2647 : decode cL_law 2647 = .ok (.iload 5, 2) := by decide +kernel
theorem dL_law_2649 : decode cL_law 2649 = .ok (.ifCond .ne 15, 3) := by decide +kernel
theorem dL_law_2652 : decode cL_law 2652 = .ok (.aload_n 3, 1) := by decide +kernel
theorem dL_law_2653 : decode cL_law 2653 = .ok (.iconst 0, 1) := by decide +kernel
theorem dL_law_2654 : decode cL_law 2654 = .ok (.laload, 1) := by decide +kernel
theorem dL_law_2655 : decode cL_law 2655 = .ok (.iload 6, 2) := by decide +kernel
theorem dL_law_2657 : decode cL_law 2657 = .ok (.i2l, 1) := by decide +kernel
theorem dL_law_2658 : decode cL_law 2658 = .ok (.lcmp, 1) := by decide +kernel
theorem dL_law_2659 : decode cL_law 2659 = .ok (.ifCond .eq 5, 3) := by decide +kernel
theorem dL_law_2662 : decode cL_law 2662 = .ok (.iconst 0, 1) := by decide +kernel
theorem dL_law_2663 : decode cL_law 2663 = .ok (.ireturn, 1) := by decide +kernel
theorem dL_law_2664 : decode cL_law 2664 = .ok (.goto 154, 3) := by decide +kernel
theorem dL_law_2667 : decode cL_law 2667 = .ok (.aload_n 1, 1) := by decide +kernel
theorem dL_law_2668 : decode cL_law 2668 = .ok (.aload_n 0, 1) := by decide +kernel
theorem dL_law_2669 : decode cL_law 2669 = .ok (.iload 4, 2) := by decide +kernel
theorem dL_law_2671 : decode cL_law 2671 = .ok (.iconst 1, 1) := by decide +kernel
theorem dL_law_2672 : decode cL_law 2672 = .ok (.iadd, 1) := by decide +kernel
theorem dL_law_2673 : decode cL_law 2673 = .ok (.iaload, 1) := by decide +kernel
theorem dL_law_2674 : decode cL_law 2674 = .ok (.aload_n 3, 1) := by decide +kernel
theorem dL_law_2675 : decode cL_law 2675 = .ok (.invokestatic 295, 3) := by decide +kernel
theorem dL_law_2678 : decode cL_law 2678 = .ok (.istore 5, 2) := by decide +kernel
theorem dL_law_2680 : decode cL_law 2680 = .ok (.aload_n 2, 1) := by decide +kernel
theorem dL_law_2681 : decode cL_law 2681 = .ok (.aload_n 0, 1) := by decide +kernel
theorem dL_law_2682 : decode cL_law 2682 = .ok (.iload 4, 2) := by decide +kernel
theorem dL_law_2684 : decode cL_law 2684 = .ok (.iconst 1, 1) := by decide +kernel
theorem dL_law_2685 : decode cL_law 2685 = .ok (.iadd, 1) := by decide +kernel
theorem dL_law_2686 : decode cL_law 2686 = .ok (.iaload, 1) := by decide +kernel
theorem dL_law_2687 : decode cL_law 2687 = .ok (.invokevirtual 297, 3) := by decide +kernel
theorem dL_law_2690 : decode cL_law 2690 = .ok (.istore 6, 2) := by decide +kernel
theorem dL_law_2692 : decode cL_law 2692 = .ok (.aload_n 2, 1) := by decide +kernel
theorem dL_law_2693 : decode cL_law 2693 = .ok (.invokevirtual 148, 3) := by decide +kernel
theorem dL_law_2696 : decode cL_law 2696 = .ok (.iload 5, 2) := by decide +kernel
theorem dL_law_2698 : decode cL_law 2698 = .ok (.if_icmp .eq 5, 3) := by decide +kernel
theorem dL_law_2701 : decode cL_law 2701 = .ok (.iconst 0, 1) := by decide +kernel
theorem dL_law_2702 : decode cL_law 2702 = .ok (.ireturn, 1) := by decide +kernel
theorem dL_law_2703 : decode cL_law 2703 = .ok (.iload 5, 2) := by decide +kernel
theorem dL_law_2705 : decode cL_law 2705 = .ok (.ifCond .ne 15, 3) := by decide +kernel
theorem dL_law_2708 : decode cL_law 2708 = .ok (.aload_n 3, 1) := by decide +kernel
theorem dL_law_2709 : decode cL_law 2709 = .ok (.iconst 0, 1) := by decide +kernel
theorem dL_law_2710 : decode cL_law 2710 = .ok (.laload, 1) := by decide +kernel
theorem dL_law_2711 : decode cL_law 2711 = .ok (.iload 6, 2) := by decide +kernel
theorem dL_law_2713 : decode cL_law 2713 = .ok (.i2l, 1) := by decide +kernel
theorem dL_law_2714 : decode cL_law 2714 = .ok (.lcmp, 1) := by decide +kernel
theorem dL_law_2715 : decode cL_law 2715 = .ok (.ifCond .eq 5, 3) := by decide +kernel
theorem dL_law_2718 : decode cL_law 2718 = .ok (.iconst 0, 1) := by decide +kernel
theorem dL_law_2719 : decode cL_law 2719 = .ok (.ireturn, 1) := by decide +kernel
theorem dL_law_2720 : decode cL_law 2720 = .ok (.goto 98, 3) := by decide +kernel
theorem dL_law_2723 : decode cL_law 2723 = .ok (.aload_n 1, 1) := by decide +kernel
theorem dL_law_2724 : decode cL_law 2724 = .ok (.aload_n 0, 1) := by decide +kernel
theorem dL_law_2725 : decode cL_law 2725 = .ok (.iload 4, 2) := by decide +kernel
theorem dL_law_2727 : decode cL_law 2727 = .ok (.iconst 1, 1) := by decide +kernel
theorem dL_law_2728 : decode cL_law 2728 = .ok (.iadd, 1) := by decide +kernel
theorem dL_law_2729 : decode cL_law 2729 = .ok (.iaload, 1) := by decide +kernel
theorem dL_law_2730 : decode cL_law 2730 = .ok (.aload_n 3, 1) := by decide +kernel
theorem dL_law_2731 : decode cL_law 2731 = .ok (.invokestatic 298, 3) := by decide +kernel
theorem dL_law_2734 : decode cL_law 2734 = .ok (.istore 5, 2) := by decide +kernel
theorem dL_law_2736 : decode cL_law 2736 = .ok (.aload_n 2, 1) := by decide +kernel
theorem dL_law_2737 : decode cL_law 2737 = .ok (.aload_n 0, 1) := by decide +kernel
theorem dL_law_2738 : decode cL_law 2738 = .ok (.iload 4, 2) := by decide +kernel
theorem dL_law_2740 : decode cL_law 2740 = .ok (.iconst 1, 1) := by decide +kernel
theorem dL_law_2741 : decode cL_law 2741 = .ok (.iadd, 1) := by decide +kernel
theorem dL_law_2742 : decode cL_law 2742 = .ok (.iaload, 1) := by decide +kernel
theorem dL_law_2743 : decode cL_law 2743 = .ok (.invokevirtual 300, 3) := by decide +kernel
theorem dL_law_2746 : decode cL_law 2746 = .ok (.istore 6, 2) := by decide +kernel
theorem dL_law_2748 : decode cL_law 2748 = .ok (.aload_n 2, 1) := by decide +kernel
theorem dL_law_2749 : decode cL_law 2749 = .ok (.invokevirtual 148, 3) := by decide +kernel
theorem dL_law_2752 : decode cL_law 2752 = .ok (.iload 5, 2) := by decide +kernel
theorem dL_law_2754 : decode cL_law 2754 = .ok (.if_icmp .eq 5, 3) := by decide +kernel
theorem dL_law_2757 : decode cL_law 2757 = .ok (.iconst 0, 1) := by decide +kernel
theorem dL_law_2758 : decode cL_law 2758 = .ok (.ireturn, 1) := by decide +kernel
theorem dL_law_2759 : decode cL_law 2759 = .ok (.iload 5, 2) := by decide +kernel
theorem dL_law_2761 : decode cL_law 2761 = .ok (.ifCond .ne 15, 3) := by decide +kernel
theorem dL_law_2764 : decode cL_law 2764 = .ok (.aload_n 3, 1) := by decide +kernel
theorem dL_law_2765 : decode cL_law 2765 = .ok (.iconst 0, 1) := by decide +kernel
theorem dL_law_2766 : decode cL_law 2766 = .ok (.laload, 1) := by decide +kernel
theorem dL_law_2767 : decode cL_law 2767 = .ok (.iload 6, 2) := by decide +kernel
theorem dL_law_2769 : decode cL_law 2769 = .ok (.i2l, 1) := by decide +kernel
theorem dL_law_2770 : decode cL_law 2770 = .ok (.lcmp, 1) := by decide +kernel
theorem dL_law_2771 : decode cL_law 2771 = .ok (.ifCond .eq 5, 3) := by decide +kernel
theorem dL_law_2774 : decode cL_law 2774 = .ok (.iconst 0, 1) := by decide +kernel
theorem dL_law_2775 : decode cL_law 2775 = .ok (.ireturn, 1) := by decide +kernel
theorem dL_law_2776 : decode cL_law 2776 = .ok (.goto 42, 3) := by decide +kernel
theorem dL_law_2779 : decode cL_law 2779 = .ok (.aload_n 1, 1) := by decide +kernel
theorem dL_law_2780 : decode cL_law 2780 = .ok (.invokevirtual 301, 3) := by decide +kernel
theorem dL_law_2783 : decode cL_law 2783 = .ok (.aload_n 2, 1) := by decide +kernel
theorem dL_law_2784 : decode cL_law 2784 = .ok (.invokevirtual 304, 3) := by decide +kernel
theorem dL_law_2787 : decode cL_law 2787 = .ok (.if_icmp .eq 31, 3) := by decide +kernel
theorem dL_law_2790 : decode cL_law 2790 = .ok (.iconst 0, 1) := by decide +kernel
theorem dL_law_2791 : decode cL_law 2791 = .ok (.ireturn, 1) := by decide +kernel
theorem dL_law_2792 : decode cL_law 2792 = .ok (.aload_n 1, 1) := by decide +kernel
theorem dL_law_2793 : decode cL_law 2793 = .ok (.invokevirtual 305, 3) := by decide +kernel
theorem dL_law_2796 : decode cL_law 2796 = .ok (.aload_n 2, 1) := by decide +kernel
theorem dL_law_2797 : decode cL_law 2797 = .ok (.invokevirtual 308, 3) := by decide +kernel
theorem dL_law_2800 : decode cL_law 2800 = .ok (.if_icmp .eq 18, 3) := by decide +kernel
theorem dL_law_2803 : decode cL_law 2803 = .ok (.iconst 0, 1) := by decide +kernel
theorem dL_law_2804 : decode cL_law 2804 = .ok (.ireturn, 1) := by decide +kernel
theorem dL_law_2805 : decode cL_law 2805 = .ok (.aload_n 1, 1) := by decide +kernel
theorem dL_law_2806 : decode cL_law 2806 = .ok (.invokevirtual 309, 3) := by decide +kernel
theorem dL_law_2809 : decode cL_law 2809 = .ok (.aload_n 2, 1) := by decide +kernel
theorem dL_law_2810 : decode cL_law 2810 = .ok (.invokevirtual 312, 3) := by decide +kernel
theorem dL_law_2813 : decode cL_law 2813 = .ok (.if_icmp .eq 5, 3) := by decide +kernel
theorem dL_law_2816 : decode cL_law 2816 = .ok (.iconst 0, 1) := by decide +kernel
theorem dL_law_2817 : decode cL_law 2817 = .ok (.ireturn, 1) := by decide +kernel
theorem dL_law_2818 : decode cL_law 2818 = .ok (.iinc 4 4, 3) := by decide +kernel
theorem dL_law_2821 : decode cL_law 2821 = .ok (.goto (-2798), 3) := by decide +kernel
theorem dL_law_2824 : decode cL_law 2824 = .ok (.iconst 1, 1) := by decide +kernel
theorem dL_law_2825 : decode cL_law 2825 = .ok (.ireturn, 1) := by decide +kernel
