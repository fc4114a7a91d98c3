theorem dX11_init_126 : decode cX11_init 126 = .ok (.aload_n 0, 1) := by decide +kernel
theorem dX11_init_127 : decode cX11_init 127 = .ok (.sipush 244, 3) := by decide +kernel
theorem dX11_init_130 : decode cX11_init 130 = .ok (.newarray .int, 2) := by decide +kernel
theorem dX11_init_132 : decode cX11_init 132 = .ok (.putfield 56, 3) := by decide +kernel
theorem dX11_init_135 : decode cX11_init 135 = .ok (.aload_n 0, 1) := by decide +kernel
theorem dX11_init_136 : decode cX11_init 136 = .ok (.iconst 4, 1) := by decide +kernel
theorem dX11_init_137 : decode cX11_init 137 = .ok (.newarray .int, 2) := by decide +kernel
theorem dX11_init_139 : decode cX11_init 139 = .ok (.dup, 1) := by decide +kernel
theorem dX11_init_140 : decode cX11_init 140 = .ok (.iconst 0, 1) := by decide +kernel
theorem dX11_init_141 : decode cX11_init 141 = .ok (.bipush 6, 2) := by decide +kernel
theorem dX11_init_143 : decode cX11_init 143 = .ok (.iastore, 1) := by decide +kernel
theorem dX11_init_144 : decode cX11_init 144 = .ok (.dup, 1) := by decide +kernel
theorem dX11_init_145 : decode cX11_init 145 = .ok (.iconst 1, 1) := by decide +kernel
theorem dX11_init_146 : decode cX11_init 146 = .ok (.bipush 6, 2) := by decide +kernel
theorem dX11_init_148 : decode cX11_init 148 = .ok (.iastore, 1) := by decide +kernel
theorem dX11_init_149 : decode cX11_init 149 = .ok (.dup, 1) := by decide +kernel
theorem dX11_init_150 : decode cX11_init 150 = .ok (.iconst 2, 1) := by decide +kernel
theorem dX11_init_151 : decode cX11_init 151 = .ok (.bipush 6, 2) := by decide +kernel
theorem dX11_init_153 : decode cX11_init 153 = .ok (.iastore, 1) := by decide +kernel
theorem dX11_init_154 : decode cX11_init 154 = .ok (.dup, 1) := by decide +kernel
theorem dX11_init_155 : decode cX11_init 155 = .ok (.iconst 3, 1) := by decide +kernel
theorem dX11_init_156 : decode cX11_init 156 = .ok (.bipush 6, 2) := by decide +kernel
theorem dX11_init_158 : decode cX11_init 158 = .ok (.iastore, 1) := by decide +kernel
theorem dX11_init_159 : decode cX11_init 159 = .ok (.putfield 59, 3) := by decide +kernel
theorem dX11_init_162 : decode cX11_init 162 = .ok (.aload_n 0, 1) := by decide +kernel
theorem dX11_init_163 : decode cX11_init 163 = .ok (.iconst (-1), 1) := by decide +kernel
theorem dX11_init_164 : decode cX11_init 164 = .ok (.putfield 62, 3) := by decide +kernel
theorem dX11_init_167 : decode cX11_init 167 = .ok (.aload_n 0, 1) := by decide +kernel
theorem dX11_init_168 : decode cX11_init 168 = .ok (.sipush 200, 3) := by decide +kernel
theorem dX11_init_171 : decode cX11_init 171 = .ok (.putfield 66, 3) := by decide +kernel
theorem dX11_init_174 : decode cX11_init 174 = .ok (.aload_n 0, 1) := by decide +kernel
theorem dX11_init_175 : decode cX11_init 175 = .ok (.bipush 6, 2) := by decide +kernel
theorem dX11_init_177 : decode cX11_init 177 = .ok (.newarray .int, 2) := by decide +kernel
theorem dX11_init_179 : decode cX11_init 179 = .ok (.putfield 69, 3) := by decide +kernel
theorem dX11_init_182 : decode cX11_init 182 = .ok (.aload_n 0, 1) := by decide +kernel
theorem dX11_init_183 : decode cX11_init 183 = .ok (.sipush 1440, 3) := by decide +kernel
theorem dX11_init_186 : decode cX11_init 186 = .ok (.newarray .int, 2) := by decide +kernel
theorem dX11_init_188 : decode cX11_init 188 = .ok (.putfield 72, 3) := by decide +kernel
theorem dX11_init_191 : decode cX11_init 191 = .ok (.aload_n 0, 1) := by decide +kernel
theorem dX11_init_192 : decode cX11_init 192 = .ok (.bipush 6, 2) := by decide +kernel
theorem dX11_init_194 : decode cX11_init 194 = .ok (.newarray .int, 2) := by decide +kernel
theorem dX11_init_196 : decode cX11_init 196 = .ok (.putfield 75, 3) := by decide +kernel
theorem dX11_init_199 : decode cX11_init 199 = .ok (.aload_n 0, 1) := by decide +kernel
theorem dX11_init_200 : decode cX11_init 200 = .ok (.bipush 6, 2) := by decide +kernel
theorem dX11_init_202 : decode cX11_init 202 = .ok (.newarray .int, 2) := by decide +kernel
theorem dX11_init_204 : decode cX11_init 204 = .ok (.putfield 78, 3) := by decide +kernel
theorem dX11_init_207 : decode cX11_init 207 = .ok (.aload_n 0, 1) := by decide +kernel
theorem dX11_init_208 : decode cX11_init 208 = .ok (.bipush 6, 2) := by decide +kernel
theorem dX11_init_210 : decode cX11_init 210 = .ok (.newarray .int, 2) := by decide +kernel
theorem dX11_init_212 : decode cX11_init 212 = .ok (.putfield 81, 3) := by decide +kernel
theorem dX11_init_215 : decode cX11_init 215 = .ok (.aload_n 0, 1) := by decide +kernel
theorem dX11_init_216 : decode cX11_init 216 = .ok (.iconst (-1), 1) := by decide +kernel
theorem dX11_init_217 : decode cX11_init 217 = .ok (.putfield 84, 3) := by decide +kernel
theorem dX11_init_220 : decode cX11_init 220 = .ok (.return_, 1) := by decide +kernel
theorem dX11_thrown_0 : decode cX11_thrown 0 = .ok (.aload_n 0, 1) := by decide +kernel
theorem dX11_thrown_1 : decode cX11_thrown 1 = .ok (.getfield 87, 3) := by decide +kernel
theorem dX11_thrown_4 : decode cX11_thrown 4 = .ok (.ireturn, 1) := by decide +kernel
theorem dX11_in_0 : decode cX11_in 0 = .ok (.iload_n 0, 1) := by decide +kernel
theorem dX11_in_1 : decode cX11_in 1 = .ok (.iload_n 1, 1) := by decide +kernel
theorem dX11_in_2 : decode cX11_in 2 = .ok (.if_icmp .lt 12, 3) := by decide +kernel
theorem dX11_in_5 : decode cX11_in 5 = .ok (.iload_n 0, 1) := by decide +kernel
theorem dX11_in_6 : decode cX11_in 6 = .ok (.iload_n 2, 1) := by decide +kernel
theorem dX11_in_7 : decode cX11_in 7 = .ok (.if_icmp .gt 7, 3) := by decide +kernel
theorem dX11_in_10 : decode cX11_in 10 = .ok (.iconst 1, 1) := by decide +kernel
theorem dX11_in_11 : decode cX11_in 11 = .ok (.goto 4, 3) := by decide +kernel
theorem dX11_in_14 : decode cX11_in 14 = .ok (.iconst 0, 1) := by decide +kernel
theorem dX11_in_15 : decode cX11_in 15 = .ok (.ireturn, 1) := by decide +kernel
theorem dX11_isChange_0 : decode cX11_isChange 0 = .ok (.iload_n 1, 1) := by decide +kernel
theorem dX11_isChange_1 : decode cX11_isChange 1 = .ok (.iconst 0, 1) := by decide +kernel
theorem dX11_isChange_2 : decode cX11_isChange 2 = .ok (.iconst 1, 1) := by decide +kernel
theorem dX11_isChange_3 : decode cX11_isChange 3 = .ok (.iload_n 0, 1) := by decide +kernel
theorem dX11_isChange_4 : decode cX11_isChange 4 = .ok (.ishl, 1) := by decide +kernel
theorem dX11_isChange_5 : decode cX11_isChange 5 = .ok (.iconst 2, 1) := by decide +kernel
theorem dX11_isChange_6 : decode cX11_isChange 6 = .ok (.isub, 1) := by decide +kernel
theorem dX11_isChange_7 : decode cX11_isChange 7 = .ok (.invokestatic 90, 3) := by decide +kernel
theorem dX11_isChange_10 : decode cX11_isChange 10 = .ok (.istore_n 2, 1) := by decide +kernel
theorem dX11_isChange_11 : decode cX11_isChange 11 = .ok (.iconst 0, 1) := by decide +kernel
theorem dX11_isChange_12 : decode cX11_isChange 12 = .ok (.istore_n 3, 1) := by decide +kernel
theorem dX11_isChange_13 : decode cX11_isChange 13 = .ok (.iconst 0, 1) := by decide +kernel
theorem dX11_isChange_14 : decode cX11_isChange 14 = .ok (.istore 4, 2) := by decide +kernel
theorem dX11_isChange_16 : decode cX11_isChange 16 = .ok (.iload 4, 2) := by decide +kernel
theorem dX11_isChange_18 : decode cX11_isChange 18 = .ok (.iload_n 0, 1) := by decide +kernel
theorem dX11_isChange_19 : decode cX11_isChange 19 = .ok (.if_icmp .ge 60, 3) := by decide +kernel
theorem dX11_isChange_22 : decode cX11_isChange 22 = .ok (.iload_n 1, 1) := by decide +kernel
theorem dX11_isChange_23 : decode cX11_isChange 23 = .ok (.iload 4, 2) := by decide +kernel
theorem dX11_isChange_25 : decode cX11_isChange 25 = .ok (.ishr, 1) := by decide +kernel
theorem dX11_isChange_26 : decode cX11_isChange 26 = .ok (.iconst 1, 1) := by decide +kernel
theorem dX11_isChange_27 : decode cX11_isChange 27 = .ok (.iand, 1) := by decide +kernel
theorem dX11_isChange_28 : decode cX11_isChange 28 = .ok (.iconst 1, 1) := by decide +kernel
theorem dX11_isChange_29 : decode cX11_isChange 29 = .ok (.if_icmp .ne 7, 3) := by decide +kernel
theorem dX11_isChange_32 : decode cX11_isChange 32 = .ok (.iconst 1, 1) := by decide +kernel
theorem dX11_isChange_33 : decode cX11_isChange 33 = .ok (.goto 4, 3) := by decide +kernel
theorem dX11_isChange_36 : decode cX11_isChange 36 = .ok (.iconst 0, 1) := by decide +kernel
theorem dX11_isChange_37 : decode cX11_isChange 37 = .ok (.istore 5, 2) := by decide +kernel
theorem dX11_isChange_39 : decode cX11_isChange 39 = .ok (.iload_n 2, 1) := by decide +kernel
theorem dX11_isChange_40 : decode cX11_isChange 40 = .ok (.ifCond .eq 18, 3) := by decide +kernel
theorem dX11_isChange_43 : decode cX11_isChange 43 = .ok (.iload 5, 2) := by decide +kernel
theorem dX11_isChange_45 : decode cX11_isChange 45 = .ok (.ifCond .eq 9, 3) := by decide +kernel
theorem dX11_isChange_48 : decode cX11_isChange 48 = .ok (.iload_n 3, 1) := by decide +kernel
theorem dX11_isChange_49 : decode cX11_isChange 49 = .ok (.iconst 2, 1) := by decide +kernel
theorem dX11_isChange_50 : decode cX11_isChange 50 = .ok (.irem, 1) := by decide +kernel
theorem dX11_isChange_51 : decode cX11_isChange 51 = .ok (.ifCond .ne 7, 3) := by decide +kernel
theorem dX11_isChange_54 : decode cX11_isChange 54 = .ok (.iconst 1, 1) := by decide +kernel
theorem dX11_isChange_55 : decode cX11_isChange 55 = .ok (.goto 4, 3) := by decide +kernel
theorem dX11_isChange_58 : decode cX11_isChange 58 = .ok (.iconst 0, 1) := by decide +kernel
theorem dX11_isChange_59 : decode cX11_isChange 59 = .ok (.istore_n 2, 1) := by decide +kernel
theorem dX11_isChange_60 : decode cX11_isChange 60 = .ok (.iload 5, 2) := by decide +kernel
theorem dX11_isChange_62 : decode cX11_isChange 62 = .ok (.ifCond .eq 7, 3) := by decide +kernel
theorem dX11_isChange_65 : decode cX11_isChange 65 = .ok (.iconst 0, 1) := by decide +kernel
theorem dX11_isChange_66 : decode cX11_isChange 66 = .ok (.goto 6, 3) := by decide +kernel
theorem dX11_isChange_69 : decode cX11_isChange 69 = .ok (.iload_n 3, 1) := by decide +kernel
theorem dX11_isChange_70 : decode cX11_isChange 70 = .ok (.iconst 1, 1) := by decide +kernel
theorem dX11_isChange_71 : decode cX11_isChange 71 = .ok (.iadd, 1) := by decide +kernel
theorem dX11_isChange_72 : decode cX11_isChange 72 = .ok (.istore_n 3, 1) := by decide +kernel
theorem dX11_isChange_73 : decode cX11_isChange 73 = .ok (.iinc 4 1, 3) := by decide +kernel
theorem dX11_isChange_76 : decode cX11_isChange 76 = .ok (.goto (-60), 3) := by decide +kernel
theorem dX11_isChange_79 : decode cX11_isChange 79 = .ok (.iload_n 2, 1) := by decide +kernel
theorem dX11_isChange_80 : decode cX11_isChange 80 = .ok (.ifCond .eq 13, 3) := by decide +kernel
theorem dX11_isChange_83 : decode cX11_isChange 83 = .ok (.iload_n 3, 1) := by decide +kernel
theorem dX11_isChange_84 : decode cX11_isChange 84 = .ok (.iconst 2, 1) := by decide +kernel
theorem dX11_isChange_85 : decode cX11_isChange 85 = .ok (.irem, 1) := by decide +kernel
theorem dX11_isChange_86 : decode cX11_isChange 86 = .ok (.ifCond .ne 7, 3) := by decide +kernel
theorem dX11_isChange_89 : decode cX11_isChange 89 = .ok (.iconst 1, 1) := by decide +kernel
theorem dX11_isChange_90 : decode cX11_isChange 90 = .ok (.goto 4, 3) := by decide +kernel
theorem dX11_isChange_93 : decode cX11_isChange 93 = .ok (.iconst 0, 1) := by decide +kernel
theorem dX11_isChange_94 : decode cX11_isChange 94 = .ok (.ireturn, 1) := by decide +kernel
theorem dX11_bell_0 : decode cX11_bell 0 = .ok (.iload_n 0, 1) := by decide +kernel
theorem dX11_bell_1 : decode cX11_bell 1 = .ok (.iconst 3, 1) := by decide +kernel
theorem dX11_bell_2 : decode cX11_bell 2 = .ok (.iload_n 1, 1) := by decide +kernel
theorem dX11_bell_3 : decode cX11_bell 3 = .ok (.imul, 1) := by decide +kernel
theorem dX11_bell_4 : decode cX11_bell 4 = .ok (.ishr, 1) := by decide +kernel
theorem dX11_bell_5 : decode cX11_bell 5 = .ok (.bipush 7, 2) := by decide +kernel
theorem dX11_bell_7 : decode cX11_bell 7 = .ok (.iand, 1) := by decide +kernel
theorem dX11_bell_8 : decode cX11_bell 8 = .ok (.ireturn, 1) := by decide +kernel
theorem dX11_rounds_0 : decode cX11_rounds 0 = .ok (.iconst 0, 1) := by decide +kernel
theorem dX11_rounds_1 : decode cX11_rounds 1 = .ok (.istore_n 1, 1) := by decide +kernel
theorem dX11_rounds_2 : decode cX11_rounds 2 = .ok (.iconst 0, 1) := by decide +kernel
theorem dX11_rounds_3 : decode cX11_rounds 3 = .ok (.istore_n 2, 1) := by decide +kernel
theorem dX11_rounds_4 : decode cX11_rounds 4 = .ok (.iload_n 2, 1) := by decide +kernel
theorem dX11_rounds_5 : decode cX11_rounds 5 = .ok (.iload_n 0, 1) := by decide +kernel
theorem dX11_rounds_6 : decode cX11_rounds 6 = .ok (.if_icmp .ge 17, 3) := by decide +kernel
theorem dX11_rounds_9 : decode cX11_rounds 9 = .ok (.iload_n 1, 1) := by decide +kernel
theorem dX11_rounds_10 : decode cX11_rounds 10 = .ok (.iload_n 2, 1) := by decide +kernel
theorem dX11_rounds_11 : decode cX11_rounds 11 = .ok (.iconst 3, 1) := by decide +kernel
theorem dX11_rounds_12 : decode cX11_rounds 12 = .ok (.iload_n 2, 1) := by decide +kernel
theorem dX11_rounds_13 : decode cX11_rounds 13 = .ok (.imul, 1) := by decide +kernel
theorem dX11_rounds_14 : decode cX11_rounds 14 = .ok (.ishl, 1) := by decide +kernel
theorem dX11_rounds_15 : decode cX11_rounds 15 = .ok (.ior, 1) := by decide +kernel
theorem dX11_rounds_16 : decode cX11_rounds 16 = .ok (.istore_n 1, 1) := by decide +kernel
theorem dX11_rounds_17 : decode cX11_rounds 17 = .ok (.iinc 2 1, 3) := by decide +kernel
theorem dX11_rounds_20 : decode cX11_rounds 20 = .ok (.goto (-16), 3) := by decide +kernel
theorem dX11_rounds_23 : decode cX11_rounds 23 = .ok (.iload_n 1, 1) := by decide +kernel
theorem dX11_rounds_24 : decode cX11_rounds 24 = .ok (.ireturn, 1) := by decide +kernel
theorem dX11_changed_0 : decode cX11_changed 0 = .ok (.iconst 0, 1) := by decide +kernel
theorem dX11_changed_1 : decode cX11_changed 1 = .ok (.istore_n 3, 1) := by decide +kernel
theorem dX11_changed_2 : decode cX11_changed 2 = .ok (.iconst 0, 1) := by decide +kernel
theorem dX11_changed_3 : decode cX11_changed 3 = .ok (.istore 4, 2) := by decide +kernel
theorem dX11_changed_5 : decode cX11_changed 5 = .ok (.iload 4, 2) := by decide +kernel
theorem dX11_changed_7 : decode cX11_changed 7 = .ok (.iload_n 1, 1) := by decide +kernel
theorem dX11_changed_8 : decode cX11_changed 8 = .ok (.if_icmp .ge 69, 3) := by decide +kernel
theorem dX11_changed_11 : decode cX11_changed 11 = .ok (.iload_n 2, 1) := by decide +kernel
theorem dX11_changed_12 : decode cX11_changed 12 = .ok (.iload 4, 2) := by decide +kernel
theorem dX11_changed_14 : decode cX11_changed 14 = .ok (.ishr, 1) := by decide +kernel
theorem dX11_changed_15 : decode cX11_changed 15 = .ok (.iconst 1, 1) := by decide +kernel
theorem dX11_changed_16 : decode cX11_changed 16 = .ok (.iand, 1) := by decide +kernel
theorem dX11_changed_17 : decode cX11_changed 17 = .ok (.iconst 1, 1) := by decide +kernel
theorem dX11_changed_18 : decode cX11_changed 18 = .ok (.if_icmp .ne 23, 3) := by decide +kernel
theorem dX11_changed_21 : decode cX11_changed 21 = .ok (.iload_n 3, 1) := by decide +kernel
theorem dX11_changed_22 : decode cX11_changed 22 = .ok (.iload_n 0, 1) := by decide +kernel
theorem dX11_changed_23 : decode cX11_changed 23 = .ok (.iload 4, 2) := by decide +kernel
theorem dX11_changed_25 : decode cX11_changed 25 = .ok (.invokestatic 94, 3) := by decide +kernel
theorem dX11_changed_28 : decode cX11_changed 28 = .ok (.iconst 3, 1) := by decide +kernel
theorem dX11_changed_29 : decode cX11_changed 29 = .ok (.iload 4, 2) := by decide +kernel
theorem dX11_changed_31 : decode cX11_changed 31 = .ok (.imul, 1) := by decide +kernel
theorem dX11_changed_32 : decode cX11_changed 32 = .ok (.ishl, 1) := by decide +kernel
theorem dX11_changed_33 : decode cX11_changed 33 = .ok (.ior, 1) := by decide +kernel
theorem dX11_changed_34 : decode cX11_changed 34 = .ok (.istore_n 3, 1) := by decide +kernel
theorem dX11_changed_35 : decode cX11_changed 35 = .ok (.iinc 4 1, 3) := by decide +kernel
theorem dX11_changed_38 : decode cX11_changed 38 = .ok (.goto (-33), 3) := by decide +kernel
theorem dX11_changed_41 : decode cX11_changed 41 = .ok (.iload_n 3, 1) := by decide +kernel
theorem dX11_changed_42 : decode cX11_changed 42 = .ok (.iload_n 0, 1) := by decide +kernel
theorem dX11_changed_43 : decode cX11_changed 43 = .ok (.iload 4, 2) := by decide +kernel
theorem dX11_changed_45 : decode cX11_changed 45 = .ok (.iconst 1, 1) := by decide +kernel
theorem dX11_changed_46 : decode cX11_changed 46 = .ok (.iadd, 1) := by decide +kernel
theorem dX11_changed_47 : decode cX11_changed 47 = .ok (.invokestatic 94, 3) := by decide +kernel
theorem dX11_changed_50 : decode cX11_changed 50 = .ok (.iconst 3, 1) := by decide +kernel
theorem dX11_changed_51 : decode cX11_changed 51 = .ok (.iload 4, 2) := by decide +kernel
theorem dX11_changed_53 : decode cX11_changed 53 = .ok (.imul, 1) := by decide +kernel
theorem dX11_changed_54 : decode cX11_changed 54 = .ok (.ishl, 1) := by decide +kernel
theorem dX11_changed_55 : decode cX11_changed 55 = .ok (.iload_n 0, 1) := by decide +kernel
theorem dX11_changed_56 : decode cX11_changed 56 = .ok (.iload 4, 2) := by decide +kernel
theorem dX11_changed_58 : decode cX11_changed 58 = .ok (.invokestatic 94, 3) := by decide +kernel
theorem dX11_changed_61 : decode cX11_changed 61 = .ok (.iconst 3, 1) := by decide +kernel
theorem dX11_changed_62 : decode cX11_changed 62 = .ok (.iload 4, 2) := by decide +kernel
theorem dX11_changed_64 : decode cX11_changed 64 = .ok (.imul, 1) := by decide +kernel
theorem dX11_changed_65 : decode cX11_changed 65 = .ok (.iconst 3, 1) := by decide +kernel
theorem dX11_changed_66 : decode cX11_changed 66 = .ok (.iadd, 1) := by decide +kernel
theorem dX11_changed_67 : decode cX11_changed 67 = .ok (.ishl, 1) := by decide +kernel
theorem dX11_changed_68 : decode cX11_changed 68 = .ok (.ior, 1) := by decide +kernel
theorem dX11_changed_69 : decode cX11_changed 69 = .ok (.ior, 1) := by decide +kernel
theorem dX11_changed_70 : decode cX11_changed 70 = .ok (.istore_n 3, 1) := by decide +kernel
theorem dX11_changed_71 : decode cX11_changed 71 = .ok (.iinc 4 2, 3) := by decide +kernel
theorem dX11_changed_74 : decode cX11_changed 74 = .ok (.goto (-69), 3) := by decide +kernel
theorem dX11_changed_77 : decode cX11_changed 77 = .ok (.iload_n 3, 1) := by decide +kernel
theorem dX11_changed_78 : decode cX11_changed 78 = .ok (.ireturn, 1) := by decide +kernel
theorem dX11_number_0 : decode cX11_number 0 = .ok (.iconst 0, 1) := by decide +kernel
theorem dX11_number_1 : decode cX11_number 1 = .ok (.istore_n 2, 1) := by decide +kernel
theorem dX11_number_2 : decode cX11_number 2 = .ok (.iconst 0, 1) := by decide +kernel
theorem dX11_number_3 : decode cX11_number 3 = .ok (.istore_n 3, 1) := by decide +kernel
theorem dX11_number_4 : decode cX11_number 4 = .ok (.iload_n 3, 1) := by decide +kernel
theorem dX11_number_5 : decode cX11_number 5 = .ok (.iload_n 1, 1) := by decide +kernel
theorem dX11_number_6 : decode cX11_number 6 = .ok (.if_icmp .ge 62, 3) := by decide +kernel
theorem dX11_number_9 : decode cX11_number 9 = .ok (.iconst 0, 1) := by decide +kernel
theorem dX11_number_10 : decode cX11_number 10 = .ok (.istore 4, 2) := by decide +kernel
theorem dX11_number_12 : decode cX11_number 12 = .ok (.iload_n 3, 1) := by decide +kernel
theorem dX11_number_13 : decode cX11_number 13 = .ok (.iconst 1, 1) := by decide +kernel
theorem dX11_number_14 : decode cX11_number 14 = .ok (.iadd, 1) := by decide +kernel
theorem dX11_number_15 : decode cX11_number 15 = .ok (.istore 5, 2) := by decide +kernel
theorem dX11_number_17 : decode cX11_number 17 = .ok (.iload 5, 2) := by decide +kernel
theorem dX11_number_19 : decode cX11_number 19 = .ok (.iload_n 1, 1) := by decide +kernel
theorem dX11_number_20 : decode cX11_number 20 = .ok (.if_icmp .ge 33, 3) := by decide +kernel
theorem dX11_number_23 : decode cX11_number 23 = .ok (.iload 4, 2) := by decide +kernel
theorem dX11_number_25 : decode cX11_number 25 = .ok (.iload_n 0, 1) := by decide +kernel
theorem dX11_number_26 : decode cX11_number 26 = .ok (.iload 5, 2) := by decide +kernel
theorem dX11_number_28 : decode cX11_number 28 = .ok (.invokestatic 94, 3) := by decide +kernel
theorem dX11_number_31 : decode cX11_number 31 = .ok (.iload_n 0, 1) := by decide +kernel
theorem dX11_number_32 : decode cX11_number 32 = .ok (.iload_n 3, 1) := by decide +kernel
theorem dX11_number_33 : decode cX11_number 33 = .ok (.invokestatic 94, 3) := by decide +kernel
theorem dX11_number_36 : decode cX11_number 36 = .ok (.if_icmp .ge 7, 3) := by decide +kernel
theorem dX11_number_39 : decode cX11_number 39 = .ok (.iconst 1, 1) := by decide +kernel
theorem dX11_number_40 : decode cX11_number 40 = .ok (.goto 4, 3) := by decide +kernel
theorem dX11_number_43 : decode cX11_number 43 = .ok (.iconst 0, 1) := by decide +kernel
theorem dX11_number_44 : decode cX11_number 44 = .ok (.iadd, 1) := by decide +kernel
theorem dX11_number_45 : decode cX11_number 45 = .ok (.istore 4, 2) := by decide +kernel
theorem dX11_number_47 : decode cX11_number 47 = .ok (.iinc 5 1, 3) := by decide +kernel
theorem dX11_number_50 : decode cX11_number 50 = .ok (.goto (-33), 3) := by decide +kernel
theorem dX11_number_53 : decode cX11_number 53 = .ok (.iload_n 2, 1) := by decide +kernel
theorem dX11_number_54 : decode cX11_number 54 = .ok (.iload_n 1, 1) := by decide +kernel
theorem dX11_number_55 : decode cX11_number 55 = .ok (.iload_n 3, 1) := by decide +kernel
theorem dX11_number_56 : decode cX11_number 56 = .ok (.isub, 1) := by decide +kernel
theorem dX11_number_57 : decode cX11_number 57 = .ok (.imul, 1) := by decide +kernel
theorem dX11_number_58 : decode cX11_number 58 = .ok (.iload 4, 2) := by decide +kernel
theorem dX11_number_60 : decode cX11_number 60 = .ok (.iadd, 1) := by decide +kernel
theorem dX11_number_61 : decode cX11_number 61 = .ok (.istore_n 2, 1) := by decide +kernel
theorem dX11_number_62 : decode cX11_number 62 = .ok (.iinc 3 1, 3) := by decide +kernel
theorem dX11_number_65 : decode cX11_number 65 = .ok (.goto (-61), 3) := by decide +kernel
theorem dX11_number_68 : decode cX11_number 68 = .ok (.iload_n 2, 1) := by decide +kernel
theorem dX11_number_69 : decode cX11_number 69 = .ok (.ireturn, 1) := by decide +kernel
theorem dX11_all_0 : decode cX11_all 0 = .ok (.iload_n 0, 1) := by decide +kernel
theorem dX11_all_1 : decode cX11_all 1 = .ok (.iconst 4, 1) := by decide +kernel
theorem dX11_all_2 : decode cX11_all 2 = .ok (.if_icmp .ne 8, 3) := by decide +kernel
theorem dX11_all_5 : decode cX11_all 5 = .ok (.bipush 24, 2) := by decide +kernel
theorem dX11_all_7 : decode cX11_all 7 = .ok (.goto 16, 3) := by decide +kernel
theorem dX11_all_10 : decode cX11_all 10 = .ok (.iload_n 0, 1) := by decide +kernel
theorem dX11_all_11 : decode cX11_all 11 = .ok (.iconst 5, 1) := by decide +kernel
theorem dX11_all_12 : decode cX11_all 12 = .ok (.if_icmp .ne 8, 3) := by decide +kernel
theorem dX11_all_15 : decode cX11_all 15 = .ok (.bipush 120, 2) := by decide +kernel
theorem dX11_all_17 : decode cX11_all 17 = .ok (.goto 6, 3) := by decide +kernel
theorem dX11_all_20 : decode cX11_all 20 = .ok (.sipush 720, 3) := by decide +kernel
theorem dX11_all_23 : decode cX11_all 23 = .ok (.ireturn, 1) := by decide +kernel
theorem dX11_rowOf_0 : decode cX11_rowOf 0 = .ok (.iload_n 1, 1) := by decide +kernel
theorem dX11_rowOf_1 : decode cX11_rowOf 1 = .ok (.istore_n 3, 1) := by decide +kernel
theorem dX11_rowOf_2 : decode cX11_rowOf 2 = .ok (.iload_n 2, 1) := by decide +kernel
theorem dX11_rowOf_3 : decode cX11_rowOf 3 = .ok (.iconst 1, 1) := by decide +kernel
theorem dX11_rowOf_4 : decode cX11_rowOf 4 = .ok (.isub, 1) := by decide +kernel
theorem dX11_rowOf_5 : decode cX11_rowOf 5 = .ok (.istore 4, 2) := by decide +kernel
theorem dX11_rowOf_7 : decode cX11_rowOf 7 = .ok (.iload 4, 2) := by decide +kernel
theorem dX11_rowOf_9 : decode cX11_rowOf 9 = .ok (.ifCond .lt 29, 3) := by decide +kernel
theorem dX11_rowOf_12 : decode cX11_rowOf 12 = .ok (.aload_n 0, 1) := by decide +kernel
theorem dX11_rowOf_13 : decode cX11_rowOf 13 = .ok (.getfield 40, 3) := by decide +kernel
theorem dX11_rowOf_16 : decode cX11_rowOf 16 = .ok (.iload 4, 2) := by decide +kernel
theorem dX11_rowOf_18 : decode cX11_rowOf 18 = .ok (.iload_n 3, 1) := by decide +kernel
theorem dX11_rowOf_19 : decode cX11_rowOf 19 = .ok (.iload_n 2, 1) := by decide +kernel
theorem dX11_rowOf_20 : decode cX11_rowOf 20 = .ok (.iload 4, 2) := by decide +kernel
theorem dX11_rowOf_22 : decode cX11_rowOf 22 = .ok (.isub, 1) := by decide +kernel
theorem dX11_rowOf_23 : decode cX11_rowOf 23 = .ok (.irem, 1) := by decide +kernel
theorem dX11_rowOf_24 : decode cX11_rowOf 24 = .ok (.iastore, 1) := by decide +kernel
theorem dX11_rowOf_25 : decode cX11_rowOf 25 = .ok (.iload_n 3, 1) := by decide +kernel
theorem dX11_rowOf_26 : decode cX11_rowOf 26 = .ok (.iload_n 2, 1) := by decide +kernel
theorem dX11_rowOf_27 : decode cX11_rowOf 27 = .ok (.iload 4, 2) := by decide +kernel
theorem dX11_rowOf_29 : decode cX11_rowOf 29 = .ok (.isub, 1) := by decide +kernel
theorem dX11_rowOf_30 : decode cX11_rowOf 30 = .ok (.idiv, 1) := by decide +kernel
theorem dX11_rowOf_31 : decode cX11_rowOf 31 = .ok (.istore_n 3, 1) := by decide +kernel
theorem dX11_rowOf_32 : decode cX11_rowOf 32 = .ok (.iinc 4 (-1), 3) := by decide +kernel
theorem dX11_rowOf_35 : decode cX11_rowOf 35 = .ok (.goto (-28), 3) := by decide +kernel
theorem dX11_rowOf_38 : decode cX11_rowOf 38 = .ok (.iconst 0, 1) := by decide +kernel
theorem dX11_rowOf_39 : decode cX11_rowOf 39 = .ok (.istore 4, 2) := by decide +kernel
theorem dX11_rowOf_41 : decode cX11_rowOf 41 = .ok (.iconst 0, 1) := by decide +kernel
theorem dX11_rowOf_42 : decode cX11_rowOf 42 = .ok (.istore 5, 2) := by decide +kernel
theorem dX11_rowOf_44 : decode cX11_rowOf 44 = .ok (.iconst 0, 1) := by decide +kernel
theorem dX11_rowOf_45 : decode cX11_rowOf 45 = .ok (.istore 6, 2) := by decide +kernel
theorem dX11_rowOf_47 : decode cX11_rowOf 47 = .ok (.iload 6, 2) := by decide +kernel
theorem dX11_rowOf_49 : decode cX11_rowOf 49 = .ok (.iload_n 2, 1) := by decide +kernel
theorem dX11_rowOf_50 : decode cX11_rowOf 50 = .ok (.if_icmp .ge 85, 3) := by decide +kernel
theorem dX11_rowOf_53 : decode cX11_rowOf 53 = .ok (.iconst 0, 1) := by decide +kernel
theorem dX11_rowOf_54 : decode cX11_rowOf 54 = .ok (.istore 7, 2) := by decide +kernel
theorem dX11_rowOf_56 : decode cX11_rowOf 56 = .ok (.aload_n 0, 1) := by decide +kernel
theorem dX11_rowOf_57 : decode cX11_rowOf 57 = .ok (.getfield 40, 3) := by decide +kernel
theorem dX11_rowOf_60 : decode cX11_rowOf 60 = .ok (.iload 6, 2) := by decide +kernel
theorem dX11_rowOf_62 : decode cX11_rowOf 62 = .ok (.iaload, 1) := by decide +kernel
theorem dX11_rowOf_63 : decode cX11_rowOf 63 = .ok (.istore 8, 2) := by decide +kernel
theorem dX11_rowOf_65 : decode cX11_rowOf 65 = .ok (.iload 8, 2) := by decide +kernel
theorem dX11_rowOf_67 : decode cX11_rowOf 67 = .ok (.ifCond .gt 14, 3) := by decide +kernel
theorem dX11_rowOf_70 : decode cX11_rowOf 70 = .ok (.iload 5, 2) := by decide +kernel
theorem dX11_rowOf_72 : decode cX11_rowOf 72 = .ok (.iload 7, 2) := by decide +kernel
theorem dX11_rowOf_74 : decode cX11_rowOf 74 = .ok (.ishr, 1) := by decide +kernel
theorem dX11_rowOf_75 : decode cX11_rowOf 75 = .ok (.iconst 1, 1) := by decide +kernel
theorem dX11_rowOf_76 : decode cX11_rowOf 76 = .ok (.iand, 1) := by decide +kernel
theorem dX11_rowOf_77 : decode cX11_rowOf 77 = .ok (.iconst 1, 1) := by decide +kernel
theorem dX11_rowOf_78 : decode cX11_rowOf 78 = .ok (.if_icmp .ne 30, 3) := by decide +kernel
theorem dX11_rowOf_81 : decode cX11_rowOf 81 = .ok (.iload 8, 2) := by decide +kernel
theorem dX11_rowOf_83 : decode cX11_rowOf 83 = .ok (.iload 5, 2) := by decide +kernel
theorem dX11_rowOf_85 : decode cX11_rowOf 85 = .ok (.iload 7, 2) := by decide +kernel
theorem dX11_rowOf_87 : decode cX11_rowOf 87 = .ok (.ishr, 1) := by decide +kernel
theorem dX11_rowOf_88 : decode cX11_rowOf 88 = .ok (.iconst 1, 1) := by decide +kernel
theorem dX11_rowOf_89 : decode cX11_rowOf 89 = .ok (.iand, 1) := by decide +kernel
theorem dX11_rowOf_90 : decode cX11_rowOf 90 = .ok (.iconst 1, 1) := by decide +kernel
theorem dX11_rowOf_91 : decode cX11_rowOf 91 = .ok (.if_icmp .ne 7, 3) := by decide +kernel
theorem dX11_rowOf_94 : decode cX11_rowOf 94 = .ok (.iconst 0, 1) := by decide +kernel
theorem dX11_rowOf_95 : decode cX11_rowOf 95 = .ok (.goto 4, 3) := by decide +kernel
theorem dX11_rowOf_98 : decode cX11_rowOf 98 = .ok (.iconst 1, 1) := by decide +kernel
theorem dX11_rowOf_99 : decode cX11_rowOf 99 = .ok (.isub, 1) := by decide +kernel
theorem dX11_rowOf_100 : decode cX11_rowOf 100 = .ok (.istore 8, 2) := by decide +kernel
theorem dX11_rowOf_102 : decode cX11_rowOf 102 = .ok (.iinc 7 1, 3) := by decide +kernel
theorem dX11_rowOf_105 : decode cX11_rowOf 105 = .ok (.goto (-40), 3) := by decide +kernel
theorem dX11_rowOf_108 : decode cX11_rowOf 108 = .ok (.iload 5, 2) := by decide +kernel
theorem dX11_rowOf_110 : decode cX11_rowOf 110 = .ok (.iconst 1, 1) := by decide +kernel
theorem dX11_rowOf_111 : decode cX11_rowOf 111 = .ok (.iload 7, 2) := by decide +kernel
theorem dX11_rowOf_113 : decode cX11_rowOf 113 = .ok (.ishl, 1) := by decide +kernel
theorem dX11_rowOf_114 : decode cX11_rowOf 114 = .ok (.ior, 1) := by decide +kernel
theorem dX11_rowOf_115 : decode cX11_rowOf 115 = .ok (.istore 5, 2) := by decide +kernel
theorem dX11_rowOf_117 : decode cX11_rowOf 117 = .ok (.iload 4, 2) := by decide +kernel
theorem dX11_rowOf_119 : decode cX11_rowOf 119 = .ok (.iload 7, 2) := by decide +kernel
theorem dX11_rowOf_121 : decode cX11_rowOf 121 = .ok (.iconst 3, 1) := by decide +kernel
theorem dX11_rowOf_122 : decode cX11_rowOf 122 = .ok (.iload 6, 2) := by decide +kernel
theorem dX11_rowOf_124 : decode cX11_rowOf 124 = .ok (.imul, 1) := by decide +kernel
theorem dX11_rowOf_125 : decode cX11_rowOf 125 = .ok (.ishl, 1) := by decide +kernel
theorem dX11_rowOf_126 : decode cX11_rowOf 126 = .ok (.ior, 1) := by decide +kernel
theorem dX11_rowOf_127 : decode cX11_rowOf 127 = .ok (.istore 4, 2) := by decide +kernel
theorem dX11_rowOf_129 : decode cX11_rowOf 129 = .ok (.iinc 6 1, 3) := by decide +kernel
theorem dX11_rowOf_132 : decode cX11_rowOf 132 = .ok (.goto (-85), 3) := by decide +kernel
theorem dX11_rowOf_135 : decode cX11_rowOf 135 = .ok (.iload 4, 2) := by decide +kernel
theorem dX11_rowOf_137 : decode cX11_rowOf 137 = .ok (.ireturn, 1) := by decide +kernel
theorem dX11_change_0 : decode cX11_change 0 = .ok (.aload_n 0, 1) := by decide +kernel
theorem dX11_change_1 : decode cX11_change 1 = .ok (.iload_n 1, 1) := by decide +kernel
theorem dX11_change_2 : decode cX11_change 2 = .ok (.iconst 0, 1) := by decide +kernel
theorem dX11_change_3 : decode cX11_change 3 = .ok (.bipush 63, 2) := by decide +kernel
theorem dX11_change_5 : decode cX11_change 5 = .ok (.invokestatic 90, 3) := by decide +kernel
theorem dX11_change_8 : decode cX11_change 8 = .ok (.ifCond .ne 7, 3) := by decide +kernel
theorem dX11_change_11 : decode cX11_change 11 = .ok (.iconst 1, 1) := by decide +kernel
theorem dX11_change_12 : decode cX11_change 12 = .ok (.goto 17, 3) := by decide +kernel
theorem dX11_change_15 : decode cX11_change 15 = .ok (.aload_n 0, 1) := by decide +kernel
theorem dX11_change_16 : decode cX11_change 16 = .ok (.getfield 98, 3) := by decide +kernel
theorem dX11_change_19 : decode cX11_change 19 = .ok (.bipush 12, 2) := by decide +kernel
theorem dX11_change_21 : decode cX11_change 21 = .ok (.if_icmp .ne 7, 3) := by decide +kernel
theorem dX11_change_24 : decode cX11_change 24 = .ok (.iconst 2, 1) := by decide +kernel
theorem dX11_change_25 : decode cX11_change 25 = .ok (.goto 4, 3) := by decide +kernel
theorem dX11_change_28 : decode cX11_change 28 = .ok (.iconst 0, 1) := by decide +kernel
theorem dX11_change_29 : decode cX11_change 29 = .ok (.putfield 87, 3) := by decide +kernel
theorem dX11_change_32 : decode cX11_change 32 = .ok (.aload_n 0, 1) := by decide +kernel
theorem dX11_change_33 : decode cX11_change 33 = .ok (.getfield 87, 3) := by decide +kernel
theorem dX11_change_36 : decode cX11_change 36 = .ok (.ifCond .le 5, 3) := by decide +kernel
theorem dX11_change_39 : decode cX11_change 39 = .ok (.iconst 0, 1) := by decide +kernel
theorem dX11_change_40 : decode cX11_change 40 = .ok (.ireturn, 1) := by decide +kernel
theorem dX11_change_41 : decode cX11_change 41 = .ok (.aload_n 0, 1) := by decide +kernel
theorem dX11_change_42 : decode cX11_change 42 = .ok (.getfield 7, 3) := by decide +kernel
theorem dX11_change_45 : decode cX11_change 45 = .ok (.aload_n 0, 1) := by decide +kernel
theorem dX11_change_46 : decode cX11_change 46 = .ok (.getfield 98, 3) := by decide +kernel
theorem dX11_change_49 : decode cX11_change 49 = .ok (.iload_n 1, 1) := by decide +kernel
theorem dX11_change_50 : decode cX11_change 50 = .ok (.iastore, 1) := by decide +kernel
theorem dX11_change_51 : decode cX11_change 51 = .ok (.aload_n 0, 1) := by decide +kernel
theorem dX11_change_52 : decode cX11_change 52 = .ok (.dup, 1) := by decide +kernel
theorem dX11_change_53 : decode cX11_change 53 = .ok (.getfield 98, 3) := by decide +kernel
theorem dX11_change_56 : decode cX11_change 56 = .ok (.iconst 1, 1) := by decide +kernel
theorem dX11_change_57 : decode cX11_change 57 = .ok (.iadd, 1) := by decide +kernel
theorem dX11_change_58 : decode cX11_change 58 = .ok (.putfield 98, 3) := by decide +kernel
theorem dX11_change_61 : decode cX11_change 61 = .ok (.aload_n 0, 1) := by decide +kernel
theorem dX11_change_62 : decode cX11_change 62 = .ok (.getfield 98, 3) := by decide +kernel
theorem dX11_change_65 : decode cX11_change 65 = .ok (.ireturn, 1) := by decide +kernel
theorem dX11_dropChanges_0 : decode cX11_dropChanges 0 = .ok (.aload_n 0, 1) := by decide +kernel
theorem dX11_dropChanges_1 : decode cX11_dropChanges 1 = .ok (.iconst 0, 1) := by decide +kernel
theorem dX11_dropChanges_2 : decode cX11_dropChanges 2 = .ok (.putfield 87, 3) := by decide +kernel
theorem dX11_dropChanges_5 : decode cX11_dropChanges 5 = .ok (.aload_n 0, 1) := by decide +kernel
theorem dX11_dropChanges_6 : decode cX11_dropChanges 6 = .ok (.getfield 98, 3) := by decide +kernel
theorem dX11_dropChanges_9 : decode cX11_dropChanges 9 = .ok (.istore_n 1, 1) := by decide +kernel
theorem dX11_dropChanges_10 : decode cX11_dropChanges 10 = .ok (.aload_n 0, 1) := by decide +kernel
theorem dX11_dropChanges_11 : decode cX11_dropChanges 11 = .ok (.iconst 0, 1) := by decide +kernel
theorem dX11_dropChanges_12 : decode cX11_dropChanges 12 = .ok (.putfield 98, 3) := by decide +kernel
theorem dX11_dropChanges_15 : decode cX11_dropChanges 15 = .ok (.iload_n 1, 1) := by decide +kernel
theorem dX11_dropChanges_16 : decode cX11_dropChanges 16 = .ok (.ireturn, 1) := by decide +kernel
theorem dX11_method_0 : decode cX11_method 0 = .ok (.aload_n 0, 1) := by decide +kernel
theorem dX11_method_1 : decode cX11_method 1 = .ok (.iload_n 1, 1) := by decide +kernel
theorem dX11_method_2 : decode cX11_method 2 = .ok (.iconst 4, 1) := by decide +kernel
theorem dX11_method_3 : decode cX11_method 3 = .ok (.bipush 6, 2) := by decide +kernel
theorem dX11_method_5 : decode cX11_method 5 = .ok (.invokestatic 90, 3) := by decide +kernel
theorem dX11_method_8 : decode cX11_method 8 = .ok (.ifCond .eq 7, 3) := by decide +kernel
theorem dX11_method_11 : decode cX11_method 11 = .ok (.iconst 0, 1) := by decide +kernel
theorem dX11_method_12 : decode cX11_method 12 = .ok (.goto 4, 3) := by decide +kernel
theorem dX11_method_15 : decode cX11_method 15 = .ok (.iconst 1, 1) := by decide +kernel
theorem dX11_method_16 : decode cX11_method 16 = .ok (.putfield 87, 3) := by decide +kernel
theorem dX11_method_19 : decode cX11_method 19 = .ok (.aload_n 0, 1) := by decide +kernel
theorem dX11_method_20 : decode cX11_method 20 = .ok (.getfield 87, 3) := by decide +kernel
theorem dX11_method_23 : decode cX11_method 23 = .ok (.ifCond .le 5, 3) := by decide +kernel
theorem dX11_method_26 : decode cX11_method 26 = .ok (.iconst 0, 1) := by decide +kernel
theorem dX11_method_27 : decode cX11_method 27 = .ok (.ireturn, 1) := by decide +kernel
theorem dX11_method_28 : decode cX11_method 28 = .ok (.aload_n 0, 1) := by decide +kernel
theorem dX11_method_29 : decode cX11_method 29 = .ok (.getfield 98, 3) := by decide +kernel
theorem dX11_method_32 : decode cX11_method 32 = .ok (.ifCond .le 16, 3) := by decide +kernel
theorem dX11_method_35 : decode cX11_method 35 = .ok (.aload_n 0, 1) := by decide +kernel
theorem dX11_method_36 : decode cX11_method 36 = .ok (.getfield 101, 3) := by decide +kernel
theorem dX11_method_39 : decode cX11_method 39 = .ok (.bipush 8, 2) := by decide +kernel
theorem dX11_method_41 : decode cX11_method 41 = .ok (.if_icmp .ge 7, 3) := by decide +kernel
theorem dX11_method_44 : decode cX11_method 44 = .ok (.iconst 1, 1) := by decide +kernel
theorem dX11_method_45 : decode cX11_method 45 = .ok (.goto 4, 3) := by decide +kernel
theorem dX11_method_48 : decode cX11_method 48 = .ok (.iconst 0, 1) := by decide +kernel
theorem dX11_method_49 : decode cX11_method 49 = .ok (.istore_n 2, 1) := by decide +kernel
theorem dX11_method_50 : decode cX11_method 50 = .ok (.iconst 0, 1) := by decide +kernel
theorem dX11_method_51 : decode cX11_method 51 = .ok (.istore_n 3, 1) := by decide +kernel
theorem dX11_method_52 : decode cX11_method 52 = .ok (.iload_n 3, 1) := by decide +kernel
theorem dX11_method_53 : decode cX11_method 53 = .ok (.aload_n 0, 1) := by decide +kernel
theorem dX11_method_54 : decode cX11_method 54 = .ok (.getfield 98, 3) := by decide +kernel
theorem dX11_method_57 : decode cX11_method 57 = .ok (.if_icmp .ge 32, 3) := by decide +kernel
theorem dX11_method_60 : decode cX11_method 60 = .ok (.iload_n 2, 1) := by decide +kernel
theorem dX11_method_61 : decode cX11_method 61 = .ok (.ifCond .eq 20, 3) := by decide +kernel
theorem dX11_method_64 : decode cX11_method 64 = .ok (.iload_n 1, 1) := by decide +kernel
theorem dX11_method_65 : decode cX11_method 65 = .ok (.aload_n 0, 1) := by decide +kernel
theorem dX11_method_66 : decode cX11_method 66 = .ok (.getfield 7, 3) := by decide +kernel
theorem dX11_method_69 : decode cX11_method 69 = .ok (.iload_n 3, 1) := by decide +kernel
theorem dX11_method_70 : decode cX11_method 70 = .ok (.iaload, 1) := by decide +kernel
theorem dX11_method_71 : decode cX11_method 71 = .ok (.invokestatic 104, 3) := by decide +kernel
theorem dX11_method_74 : decode cX11_method 74 = .ok (.ifCond .eq 7, 3) := by decide +kernel
theorem dX11_method_77 : decode cX11_method 77 = .ok (.iconst 1, 1) := by decide +kernel
theorem dX11_method_78 : decode cX11_method 78 = .ok (.goto 4, 3) := by decide +kernel
theorem dX11_method_81 : decode cX11_method 81 = .ok (.iconst 0, 1) := by decide +kernel
theorem dX11_method_82 : decode cX11_method 82 = .ok (.istore_n 2, 1) := by decide +kernel
theorem dX11_method_83 : decode cX11_method 83 = .ok (.iinc 3 1, 3) := by decide +kernel
theorem dX11_method_86 : decode cX11_method 86 = .ok (.goto (-34), 3) := by decide +kernel
theorem dX11_method_89 : decode cX11_method 89 = .ok (.iload_n 2, 1) := by decide +kernel
theorem dX11_method_90 : decode cX11_method 90 = .ok (.ifCond .ne 10, 3) := by decide +kernel
theorem dX11_method_93 : decode cX11_method 93 = .ok (.aload_n 0, 1) := by decide +kernel
theorem dX11_method_94 : decode cX11_method 94 = .ok (.iconst 2, 1) := by decide +kernel
theorem dX11_method_95 : decode cX11_method 95 = .ok (.putfield 87, 3) := by decide +kernel
theorem dX11_method_98 : decode cX11_method 98 = .ok (.iconst 0, 1) := by decide +kernel
theorem dX11_method_99 : decode cX11_method 99 = .ok (.ireturn, 1) := by decide +kernel
theorem dX11_method_100 : decode cX11_method 100 = .ok (.aload_n 0, 1) := by decide +kernel
theorem dX11_method_101 : decode cX11_method 101 = .ok (.getfield 13, 3) := by decide +kernel
theorem dX11_method_104 : decode cX11_method 104 = .ok (.aload_n 0, 1) := by decide +kernel
theorem dX11_method_105 : decode cX11_method 105 = .ok (.getfield 101, 3) := by decide +kernel
theorem dX11_method_108 : decode cX11_method 108 = .ok (.iload_n 1, 1) := by decide +kernel
theorem dX11_method_109 : decode cX11_method 109 = .ok (.iastore, 1) := by decide +kernel
theorem dX11_method_110 : decode cX11_method 110 = .ok (.aload_n 0, 1) := by decide +kernel
theorem dX11_method_111 : decode cX11_method 111 = .ok (.getfield 16, 3) := by decide +kernel
theorem dX11_method_114 : decode cX11_method 114 = .ok (.aload_n 0, 1) := by decide +kernel
theorem dX11_method_115 : decode cX11_method 115 = .ok (.getfield 101, 3) := by decide +kernel
theorem dX11_method_118 : decode cX11_method 118 = .ok (.aload_n 0, 1) := by decide +kernel
theorem dX11_method_119 : decode cX11_method 119 = .ok (.getfield 98, 3) := by decide +kernel
theorem dX11_method_122 : decode cX11_method 122 = .ok (.iastore, 1) := by decide +kernel
theorem dX11_method_123 : decode cX11_method 123 = .ok (.iconst 0, 1) := by decide +kernel
theorem dX11_method_124 : decode cX11_method 124 = .ok (.istore_n 3, 1) := by decide +kernel
theorem dX11_method_125 : decode cX11_method 125 = .ok (.iload_n 3, 1) := by decide +kernel
theorem dX11_method_126 : decode cX11_method 126 = .ok (.aload_n 0, 1) := by decide +kernel
theorem dX11_method_127 : decode cX11_method 127 = .ok (.getfield 98, 3) := by decide +kernel
theorem dX11_method_130 : decode cX11_method 130 = .ok (.if_icmp .ge 29, 3) := by decide +kernel
theorem dX11_method_133 : decode cX11_method 133 = .ok (.aload_n 0, 1) := by decide +kernel
theorem dX11_method_134 : decode cX11_method 134 = .ok (.getfield 19, 3) := by decide +kernel
theorem dX11_method_137 : decode cX11_method 137 = .ok (.bipush 12, 2) := by decide +kernel
theorem dX11_method_139 : decode cX11_method 139 = .ok (.aload_n 0, 1) := by decide +kernel
theorem dX11_method_140 : decode cX11_method 140 = .ok (.getfield 101, 3) := by decide +kernel
theorem dX11_method_143 : decode cX11_method 143 = .ok (.imul, 1) := by decide +kernel
theorem dX11_method_144 : decode cX11_method 144 = .ok (.iload_n 3, 1) := by decide +kernel
theorem dX11_method_145 : decode cX11_method 145 = .ok (.iadd, 1) := by decide +kernel
theorem dX11_method_146 : decode cX11_method 146 = .ok (.aload_n 0, 1) := by decide +kernel
theorem dX11_method_147 : decode cX11_method 147 = .ok (.getfield 7, 3) := by decide +kernel
theorem dX11_method_150 : decode cX11_method 150 = .ok (.iload_n 3, 1) := by decide +kernel
theorem dX11_method_151 : decode cX11_method 151 = .ok (.iaload, 1) := by decide +kernel
theorem dX11_method_152 : decode cX11_method 152 = .ok (.iastore, 1) := by decide +kernel
theorem dX11_method_153 : decode cX11_method 153 = .ok (.iinc 3 1, 3) := by decide +kernel
theorem dX11_method_156 : decode cX11_method 156 = .ok (.goto (-31), 3) := by decide +kernel
theorem dX11_method_159 : decode cX11_method 159 = .ok (.aload_n 0, 1) := by decide +kernel
theorem dX11_method_160 : decode cX11_method 160 = .ok (.getfield 22, 3) := by decide +kernel
theorem dX11_method_163 : decode cX11_method 163 = .ok (.iconst 2, 1) := by decide +kernel
theorem dX11_method_164 : decode cX11_method 164 = .ok (.aload_n 0, 1) := by decide +kernel
theorem dX11_method_165 : decode cX11_method 165 = .ok (.getfield 101, 3) := by decide +kernel
theorem dX11_method_168 : decode cX11_method 168 = .ok (.imul, 1) := by decide +kernel
theorem dX11_method_169 : decode cX11_method 169 = .ok (.aload_n 0, 1) := by decide +kernel
theorem dX11_method_170 : decode cX11_method 170 = .ok (.getfield 7, 3) := by decide +kernel
theorem dX11_method_173 : decode cX11_method 173 = .ok (.aload_n 0, 1) := by decide +kernel
theorem dX11_method_174 : decode cX11_method 174 = .ok (.getfield 98, 3) := by decide +kernel
theorem dX11_method_177 : decode cX11_method 177 = .ok (.iconst 1, 1) := by decide +kernel
theorem dX11_method_178 : decode cX11_method 178 = .ok (.isub, 1) := by decide +kernel
theorem dX11_method_179 : decode cX11_method 179 = .ok (.iaload, 1) := by decide +kernel
theorem dX11_method_180 : decode cX11_method 180 = .ok (.iastore, 1) := by decide +kernel
theorem dX11_method_181 : decode cX11_method 181 = .ok (.aload_n 0, 1) := by decide +kernel
theorem dX11_method_182 : decode cX11_method 182 = .ok (.getfield 22, 3) := by decide +kernel
theorem dX11_method_185 : decode cX11_method 185 = .ok (.iconst 2, 1) := by decide +kernel
theorem dX11_method_186 : decode cX11_method 186 = .ok (.aload_n 0, 1) := by decide +kernel
theorem dX11_method_187 : decode cX11_method 187 = .ok (.getfield 101, 3) := by decide +kernel
theorem dX11_method_190 : decode cX11_method 190 = .ok (.imul, 1) := by decide +kernel
theorem dX11_method_191 : decode cX11_method 191 = .ok (.iconst 1, 1) := by decide +kernel
theorem dX11_method_192 : decode cX11_method 192 = .ok (.iadd, 1) := by decide +kernel
theorem dX11_method_193 : decode cX11_method 193 = .ok (.aload_n 0, 1) := by decide +kernel
theorem dX11_method_194 : decode cX11_method 194 = .ok (.getfield 7, 3) := by decide +kernel
theorem dX11_method_197 : decode cX11_method 197 = .ok (.aload_n 0, 1) := by decide +kernel
theorem dX11_method_198 : decode cX11_method 198 = .ok (.getfield 98, 3) := by decide +kernel
theorem dX11_method_201 : decode cX11_method 201 = .ok (.iconst 1, 1) := by decide +kernel
theorem dX11_method_202 : decode cX11_method 202 = .ok (.isub, 1) := by decide +kernel
theorem dX11_method_203 : decode cX11_method 203 = .ok (.iaload, 1) := by decide +kernel
theorem dX11_method_204 : decode cX11_method 204 = .ok (.iastore, 1) := by decide +kernel
theorem dX11_method_205 : decode cX11_method 205 = .ok (.aload_n 0, 1) := by decide +kernel
theorem dX11_method_206 : decode cX11_method 206 = .ok (.iconst 0, 1) := by decide +kernel
theorem dX11_method_207 : decode cX11_method 207 = .ok (.putfield 98, 3) := by decide +kernel
theorem dX11_method_210 : decode cX11_method 210 = .ok (.aload_n 0, 1) := by decide +kernel
theorem dX11_method_211 : decode cX11_method 211 = .ok (.dup, 1) := by decide +kernel
theorem dX11_method_212 : decode cX11_method 212 = .ok (.getfield 101, 3) := by decide +kernel
theorem dX11_method_215 : decode cX11_method 215 = .ok (.iconst 1, 1) := by decide +kernel
theorem dX11_method_216 : decode cX11_method 216 = .ok (.iadd, 1) := by decide +kernel
theorem dX11_method_217 : decode cX11_method 217 = .ok (.putfield 101, 3) := by decide +kernel
theorem dX11_method_220 : decode cX11_method 220 = .ok (.aload_n 0, 1) := by decide +kernel
theorem dX11_method_221 : decode cX11_method 221 = .ok (.getfield 101, 3) := by decide +kernel
theorem dX11_method_224 : decode cX11_method 224 = .ok (.iconst 1, 1) := by decide +kernel
theorem dX11_method_225 : decode cX11_method 225 = .ok (.isub, 1) := by decide +kernel
theorem dX11_method_226 : decode cX11_method 226 = .ok (.ireturn, 1) := by decide +kernel
theorem dX11_isMethod_0 : decode cX11_isMethod 0 = .ok (.iload_n 1, 1) := by decide +kernel
theorem dX11_isMethod_1 : decode cX11_isMethod 1 = .ok (.iconst 0, 1) := by decide +kernel
theorem dX11_isMethod_2 : decode cX11_isMethod 2 = .ok (.aload_n 0, 1) := by decide +kernel
theorem dX11_isMethod_3 : decode cX11_isMethod 3 = .ok (.getfield 101, 3) := by decide +kernel
theorem dX11_isMethod_6 : decode cX11_isMethod 6 = .ok (.iconst 1, 1) := by decide +kernel
theorem dX11_isMethod_7 : decode cX11_isMethod 7 = .ok (.isub, 1) := by decide +kernel
theorem dX11_isMethod_8 : decode cX11_isMethod 8 = .ok (.invokestatic 90, 3) := by decide +kernel
theorem dX11_isMethod_11 : decode cX11_isMethod 11 = .ok (.ireturn, 1) := by decide +kernel
theorem dX11_isCall_0 : decode cX11_isCall 0 = .ok (.iload_n 0, 1) := by decide +kernel
theorem dX11_isCall_1 : decode cX11_isCall 1 = .ok (.iconst 0, 1) := by decide +kernel
theorem dX11_isCall_2 : decode cX11_isCall 2 = .ok (.iconst 2, 1) := by decide +kernel
theorem dX11_isCall_3 : decode cX11_isCall 3 = .ok (.invokestatic 90, 3) := by decide +kernel
theorem dX11_isCall_6 : decode cX11_isCall 6 = .ok (.ireturn, 1) := by decide +kernel
theorem dX11_setCall_0 : decode cX11_setCall 0 = .ok (.aload_n 0, 1) := by decide +kernel
theorem dX11_setCall_1 : decode cX11_setCall 1 = .ok (.aload_n 0, 1) := by decide +kernel
theorem dX11_setCall_2 : decode cX11_setCall 2 = .ok (.iload_n 1, 1) := by decide +kernel
theorem dX11_setCall_3 : decode cX11_setCall 3 = .ok (.invokevirtual 108, 3) := by decide +kernel
theorem dX11_setCall_6 : decode cX11_setCall 6 = .ok (.ifCond .ne 7, 3) := by decide +kernel
theorem dX11_setCall_9 : decode cX11_setCall 9 = .ok (.iconst 1, 1) := by decide +kernel
theorem dX11_setCall_10 : decode cX11_setCall 10 = .ok (.goto 41, 3) := by decide +kernel
theorem dX11_setCall_13 : decode cX11_setCall 13 = .ok (.iload_n 2, 1) := by decide +kernel
theorem dX11_setCall_14 : decode cX11_setCall 14 = .ok (.iconst 1, 1) := by decide +kernel
theorem dX11_setCall_15 : decode cX11_setCall 15 = .ok (.iconst 2, 1) := by decide +kernel
theorem dX11_setCall_16 : decode cX11_setCall 16 = .ok (.invokestatic 90, 3) := by decide +kernel
theorem dX11_setCall_19 : decode cX11_setCall 19 = .ok (.ifCond .eq 16, 3) := by decide +kernel
theorem dX11_setCall_22 : decode cX11_setCall 22 = .ok (.aload_n 0, 1) := by decide +kernel
theorem dX11_setCall_23 : decode cX11_setCall 23 = .ok (.getfield 13, 3) := by decide +kernel
theorem dX11_setCall_26 : decode cX11_setCall 26 = .ok (.iload_n 1, 1) := by decide +kernel
theorem dX11_setCall_27 : decode cX11_setCall 27 = .ok (.iaload, 1) := by decide +kernel
theorem dX11_setCall_28 : decode cX11_setCall 28 = .ok (.iload_n 3, 1) := by decide +kernel
theorem dX11_setCall_29 : decode cX11_setCall 29 = .ok (.invokestatic 104, 3) := by decide +kernel
theorem dX11_setCall_32 : decode cX11_setCall 32 = .ok (.ifCond .ne 7, 3) := by decide +kernel
theorem dX11_setCall_35 : decode cX11_setCall 35 = .ok (.iconst 2, 1) := by decide +kernel
theorem dX11_setCall_36 : decode cX11_setCall 36 = .ok (.goto 15, 3) := by decide +kernel
theorem dX11_setCall_39 : decode cX11_setCall 39 = .ok (.aload_n 0, 1) := by decide +kernel
theorem dX11_setCall_40 : decode cX11_setCall 40 = .ok (.getfield 112, 3) := by decide +kernel
theorem dX11_setCall_43 : decode cX11_setCall 43 = .ok (.ifCond .eq 7, 3) := by decide +kernel
theorem dX11_setCall_46 : decode cX11_setCall 46 = .ok (.iconst 3, 1) := by decide +kernel
theorem dX11_setCall_47 : decode cX11_setCall 47 = .ok (.goto 4, 3) := by decide +kernel
theorem dX11_setCall_50 : decode cX11_setCall 50 = .ok (.iconst 0, 1) := by decide +kernel
theorem dX11_setCall_51 : decode cX11_setCall 51 = .ok (.putfield 87, 3) := by decide +kernel
theorem dX11_setCall_54 : decode cX11_setCall 54 = .ok (.aload_n 0, 1) := by decide +kernel
theorem dX11_setCall_55 : decode cX11_setCall 55 = .ok (.getfield 87, 3) := by decide +kernel
theorem dX11_setCall_58 : decode cX11_setCall 58 = .ok (.ifCond .le 5, 3) := by decide +kernel
theorem dX11_setCall_61 : decode cX11_setCall 61 = .ok (.iconst 0, 1) := by decide +kernel
theorem dX11_setCall_62 : decode cX11_setCall 62 = .ok (.ireturn, 1) := by decide +kernel
theorem dX11_setCall_63 : decode cX11_setCall 63 = .ok (.aload_n 0, 1) := by decide +kernel
theorem dX11_setCall_64 : decode cX11_setCall 64 = .ok (.getfield 22, 3) := by decide +kernel
theorem dX11_setCall_67 : decode cX11_setCall 67 = .ok (.iconst 2, 1) := by decide +kernel
theorem dX11_setCall_68 : decode cX11_setCall 68 = .ok (.iload_n 1, 1) := by decide +kernel
theorem dX11_setCall_69 : decode cX11_setCall 69 = .ok (.imul, 1) := by decide +kernel
theorem dX11_setCall_70 : decode cX11_setCall 70 = .ok (.iload_n 2, 1) := by decide +kernel
theorem dX11_setCall_71 : decode cX11_setCall 71 = .ok (.iadd, 1) := by decide +kernel
theorem dX11_setCall_72 : decode cX11_setCall 72 = .ok (.iconst 1, 1) := by decide +kernel
theorem dX11_setCall_73 : decode cX11_setCall 73 = .ok (.isub, 1) := by decide +kernel
theorem dX11_setCall_74 : decode cX11_setCall 74 = .ok (.iaload, 1) := by decide +kernel
theorem dX11_setCall_75 : decode cX11_setCall 75 = .ok (.istore 4, 2) := by decide +kernel
theorem dX11_setCall_77 : decode cX11_setCall 77 = .ok (.aload_n 0, 1) := by decide +kernel
theorem dX11_setCall_78 : decode cX11_setCall 78 = .ok (.getfield 22, 3) := by decide +kernel
theorem dX11_setCall_81 : decode cX11_setCall 81 = .ok (.iconst 2, 1) := by decide +kernel
theorem dX11_setCall_82 : decode cX11_setCall 82 = .ok (.iload_n 1, 1) := by decide +kernel
theorem dX11_setCall_83 : decode cX11_setCall 83 = .ok (.imul, 1) := by decide +kernel
theorem dX11_setCall_84 : decode cX11_setCall 84 = .ok (.iload_n 2, 1) := by decide +kernel
theorem dX11_setCall_85 : decode cX11_setCall 85 = .ok (.iadd, 1) := by decide +kernel
theorem dX11_setCall_86 : decode cX11_setCall 86 = .ok (.iconst 1, 1) := by decide +kernel
theorem dX11_setCall_87 : decode cX11_setCall 87 = .ok (.isub, 1) := by decide +kernel
theorem dX11_setCall_88 : decode cX11_setCall 88 = .ok (.iload_n 3, 1) := by decide +kernel
theorem dX11_setCall_89 : decode cX11_setCall 89 = .ok (.iastore, 1) := by decide +kernel
theorem dX11_setCall_90 : decode cX11_setCall 90 = .ok (.aload_n 0, 1) := by decide +kernel
theorem dX11_setCall_91 : decode cX11_setCall 91 = .ok (.invokevirtual 116, 3) := by decide +kernel
theorem dX11_setCall_94 : decode cX11_setCall 94 = .ok (.pop, 1) := by decide +kernel
theorem dX11_setCall_95 : decode cX11_setCall 95 = .ok (.iload 4, 2) := by decide +kernel
theorem dX11_setCall_97 : decode cX11_setCall 97 = .ok (.ireturn, 1) := by decide +kernel
theorem dX11_asksMethod_0 : decode cX11_asksMethod 0 = .ok (.aload_n 0, 1) := by decide +kernel
theorem dX11_asksMethod_1 : decode cX11_asksMethod 1 = .ok (.aload_n 0, 1) := by decide +kernel
theorem dX11_asksMethod_2 : decode cX11_asksMethod 2 = .ok (.iload_n 1, 1) := by decide +kernel
theorem dX11_asksMethod_3 : decode cX11_asksMethod 3 = .ok (.invokevirtual 108, 3) := by decide +kernel
theorem dX11_asksMethod_6 : decode cX11_asksMethod 6 = .ok (.ifCond .eq 7, 3) := by decide +kernel
theorem dX11_asksMethod_9 : decode cX11_asksMethod 9 = .ok (.iconst 0, 1) := by decide +kernel
theorem dX11_asksMethod_10 : decode cX11_asksMethod 10 = .ok (.goto 4, 3) := by decide +kernel
theorem dX11_asksMethod_13 : decode cX11_asksMethod 13 = .ok (.iconst 1, 1) := by decide +kernel
theorem dX11_asksMethod_14 : decode cX11_asksMethod 14 = .ok (.putfield 87, 3) := by decide +kernel
theorem dX11_asksMethod_17 : decode cX11_asksMethod 17 = .ok (.aload_n 0, 1) := by decide +kernel
theorem dX11_asksMethod_18 : decode cX11_asksMethod 18 = .ok (.getfield 87, 3) := by decide +kernel
theorem dX11_asksMethod_21 : decode cX11_asksMethod 21 = .ok (.ifCond .ne 7, 3) := by decide +kernel
theorem dX11_asksMethod_24 : decode cX11_asksMethod 24 = .ok (.iconst 1, 1) := by decide +kernel
theorem dX11_asksMethod_25 : decode cX11_asksMethod 25 = .ok (.goto 4, 3) := by decide +kernel
theorem dX11_asksMethod_28 : decode cX11_asksMethod 28 = .ok (.iconst 0, 1) := by decide +kernel
theorem dX11_asksMethod_29 : decode cX11_asksMethod 29 = .ok (.ireturn, 1) := by decide +kernel
theorem dX11_stage_0 : decode cX11_stage 0 = .ok (.aload_n 0, 1) := by decide +kernel
theorem dX11_stage_1 : decode cX11_stage 1 = .ok (.iload_n 1, 1) := by decide +kernel
theorem dX11_stage_2 : decode cX11_stage 2 = .ok (.invokevirtual 120, 3) := by decide +kernel
theorem dX11_stage_5 : decode cX11_stage 5 = .ok (.ifCond .eq 12, 3) := by decide +kernel
theorem dX11_stage_8 : decode cX11_stage 8 = .ok (.aload_n 0, 1) := by decide +kernel
theorem dX11_stage_9 : decode cX11_stage 9 = .ok (.getfield 13, 3) := by decide +kernel
theorem dX11_stage_12 : decode cX11_stage 12 = .ok (.iload_n 1, 1) := by decide +kernel
theorem dX11_stage_13 : decode cX11_stage 13 = .ok (.iaload, 1) := by decide +kernel
theorem dX11_stage_14 : decode cX11_stage 14 = .ok (.goto 4, 3) := by decide +kernel
theorem dX11_stage_17 : decode cX11_stage 17 = .ok (.iconst 0, 1) := by decide +kernel
theorem dX11_stage_18 : decode cX11_stage 18 = .ok (.ireturn, 1) := by decide +kernel
theorem dX11_changeOf_0 : decode cX11_changeOf 0 = .ok (.iload_n 3, 1) := by decide +kernel
theorem dX11_changeOf_1 : decode cX11_changeOf 1 = .ok (.aload_n 0, 1) := by decide +kernel
theorem dX11_changeOf_2 : decode cX11_changeOf 2 = .ok (.getfield 16, 3) := by decide +kernel
theorem dX11_changeOf_5 : decode cX11_changeOf 5 = .ok (.iload_n 1, 1) := by decide +kernel
theorem dX11_changeOf_6 : decode cX11_changeOf 6 = .ok (.iaload, 1) := by decide +kernel
theorem dX11_changeOf_7 : decode cX11_changeOf 7 = .ok (.iconst 1, 1) := by decide +kernel
theorem dX11_changeOf_8 : decode cX11_changeOf 8 = .ok (.isub, 1) := by decide +kernel
theorem dX11_changeOf_9 : decode cX11_changeOf 9 = .ok (.if_icmp .ne 22, 3) := by decide +kernel
theorem dX11_changeOf_12 : decode cX11_changeOf 12 = .ok (.iload_n 2, 1) := by decide +kernel
theorem dX11_changeOf_13 : decode cX11_changeOf 13 = .ok (.ifCond .le 18, 3) := by decide +kernel
theorem dX11_changeOf_16 : decode cX11_changeOf 16 = .ok (.aload_n 0, 1) := by decide +kernel
theorem dX11_changeOf_17 : decode cX11_changeOf 17 = .ok (.getfield 22, 3) := by decide +kernel
theorem dX11_changeOf_20 : decode cX11_changeOf 20 = .ok (.iconst 2, 1) := by decide +kernel
theorem dX11_changeOf_21 : decode cX11_changeOf 21 = .ok (.iload_n 1, 1) := by decide +kernel
theorem dX11_changeOf_22 : decode cX11_changeOf 22 = .ok (.imul, 1) := by decide +kernel
theorem dX11_changeOf_23 : decode cX11_changeOf 23 = .ok (.iload_n 2, 1) := by decide +kernel
theorem dX11_changeOf_24 : decode cX11_changeOf 24 = .ok (.iadd, 1) := by decide +kernel
theorem dX11_changeOf_25 : decode cX11_changeOf 25 = .ok (.iconst 1, 1) := by decide +kernel
theorem dX11_changeOf_26 : decode cX11_changeOf 26 = .ok (.isub, 1) := by decide +kernel
theorem dX11_changeOf_27 : decode cX11_changeOf 27 = .ok (.iaload, 1) := by decide +kernel
theorem dX11_changeOf_28 : decode cX11_changeOf 28 = .ok (.goto 14, 3) := by decide +kernel
theorem dX11_changeOf_31 : decode cX11_changeOf 31 = .ok (.aload_n 0, 1) := by decide +kernel
theorem dX11_changeOf_32 : decode cX11_changeOf 32 = .ok (.getfield 19, 3) := by decide +kernel
theorem dX11_changeOf_35 : decode cX11_changeOf 35 = .ok (.bipush 12, 2) := by decide +kernel
theorem dX11_changeOf_37 : decode cX11_changeOf 37 = .ok (.iload_n 1, 1) := by decide +kernel
theorem dX11_changeOf_38 : decode cX11_changeOf 38 = .ok (.imul, 1) := by decide +kernel
theorem dX11_changeOf_39 : decode cX11_changeOf 39 = .ok (.iload_n 3, 1) := by decide +kernel
theorem dX11_changeOf_40 : decode cX11_changeOf 40 = .ok (.iadd, 1) := by decide +kernel
theorem dX11_changeOf_41 : decode cX11_changeOf 41 = .ok (.iaload, 1) := by decide +kernel
theorem dX11_changeOf_42 : decode cX11_changeOf 42 = .ok (.ireturn, 1) := by decide +kernel
theorem dX11_changeAt_0 : decode cX11_changeAt 0 = .ok (.aload_n 0, 1) := by decide +kernel
theorem dX11_changeAt_1 : decode cX11_changeAt 1 = .ok (.aload_n 0, 1) := by decide +kernel
theorem dX11_changeAt_2 : decode cX11_changeAt 2 = .ok (.iload_n 1, 1) := by decide +kernel
theorem dX11_changeAt_3 : decode cX11_changeAt 3 = .ok (.invokevirtual 108, 3) := by decide +kernel
theorem dX11_changeAt_6 : decode cX11_changeAt 6 = .ok (.ifCond .eq 7, 3) := by decide +kernel
theorem dX11_changeAt_9 : decode cX11_changeAt 9 = .ok (.iload_n 3, 1) := by decide +kernel
theorem dX11_changeAt_10 : decode cX11_changeAt 10 = .ok (.ifCond .ge 7, 3) := by decide +kernel
theorem dX11_changeAt_13 : decode cX11_changeAt 13 = .ok (.iconst 1, 1) := by decide +kernel
theorem dX11_changeAt_14 : decode cX11_changeAt 14 = .ok (.goto 15, 3) := by decide +kernel
theorem dX11_changeAt_17 : decode cX11_changeAt 17 = .ok (.iload_n 2, 1) := by decide +kernel
theorem dX11_changeAt_18 : decode cX11_changeAt 18 = .ok (.invokestatic 123, 3) := by decide +kernel
theorem dX11_changeAt_21 : decode cX11_changeAt 21 = .ok (.ifCond .eq 7, 3) := by decide +kernel
theorem dX11_changeAt_24 : decode cX11_changeAt 24 = .ok (.iconst 0, 1) := by decide +kernel
theorem dX11_changeAt_25 : decode cX11_changeAt 25 = .ok (.goto 4, 3) := by decide +kernel
theorem dX11_changeAt_28 : decode cX11_changeAt 28 = .ok (.iconst 2, 1) := by decide +kernel
theorem dX11_changeAt_29 : decode cX11_changeAt 29 = .ok (.putfield 87, 3) := by decide +kernel
theorem dX11_changeAt_32 : decode cX11_changeAt 32 = .ok (.aload_n 0, 1) := by decide +kernel
theorem dX11_changeAt_33 : decode cX11_changeAt 33 = .ok (.getfield 87, 3) := by decide +kernel
theorem dX11_changeAt_36 : decode cX11_changeAt 36 = .ok (.ifCond .le 7, 3) := by decide +kernel
theorem dX11_changeAt_39 : decode cX11_changeAt 39 = .ok (.iconst 0, 1) := by decide +kernel
theorem dX11_changeAt_40 : decode cX11_changeAt 40 = .ok (.goto 24, 3) := by decide +kernel
theorem dX11_changeAt_43 : decode cX11_changeAt 43 = .ok (.iload_n 3, 1) := by decide +kernel
theorem dX11_changeAt_44 : decode cX11_changeAt 44 = .ok (.aload_n 0, 1) := by decide +kernel
theorem dX11_changeAt_45 : decode cX11_changeAt 45 = .ok (.getfield 16, 3) := by decide +kernel
theorem dX11_changeAt_48 : decode cX11_changeAt 48 = .ok (.iload_n 1, 1) := by decide +kernel
theorem dX11_changeAt_49 : decode cX11_changeAt 49 = .ok (.iaload, 1) := by decide +kernel
theorem dX11_changeAt_50 : decode cX11_changeAt 50 = .ok (.if_icmp .ge 13, 3) := by decide +kernel
theorem dX11_changeAt_53 : decode cX11_changeAt 53 = .ok (.aload_n 0, 1) := by decide +kernel
theorem dX11_changeAt_54 : decode cX11_changeAt 54 = .ok (.iload_n 1, 1) := by decide +kernel
theorem dX11_changeAt_55 : decode cX11_changeAt 55 = .ok (.iload_n 2, 1) := by decide +kernel
theorem dX11_changeAt_56 : decode cX11_changeAt 56 = .ok (.iload_n 3, 1) := by decide +kernel
theorem dX11_changeAt_57 : decode cX11_changeAt 57 = .ok (.invokevirtual 126, 3) := by decide +kernel
theorem dX11_changeAt_60 : decode cX11_changeAt 60 = .ok (.goto 4, 3) := by decide +kernel
theorem dX11_changeAt_63 : decode cX11_changeAt 63 = .ok (.iconst (-1), 1) := by decide +kernel
theorem dX11_changeAt_64 : decode cX11_changeAt 64 = .ok (.ireturn, 1) := by decide +kernel
theorem dX11_behindLead_0 : decode cX11_behindLead 0 = .ok (.iload_n 1, 1) := by decide +kernel
theorem dX11_behindLead_1 : decode cX11_behindLead 1 = .ok (.istore 4, 2) := by decide +kernel
theorem dX11_behindLead_3 : decode cX11_behindLead 3 = .ok (.iconst 0, 1) := by decide +kernel
theorem dX11_behindLead_4 : decode cX11_behindLead 4 = .ok (.istore 5, 2) := by decide +kernel
theorem dX11_behindLead_6 : decode cX11_behindLead 6 = .ok (.iload 5, 2) := by decide +kernel
theorem dX11_behindLead_8 : decode cX11_behindLead 8 = .ok (.aload_n 0, 1) := by decide +kernel
theorem dX11_behindLead_9 : decode cX11_behindLead 9 = .ok (.getfield 16, 3) := by decide +kernel
theorem dX11_behindLead_12 : decode cX11_behindLead 12 = .ok (.iload_n 2, 1) := by decide +kernel
theorem dX11_behindLead_13 : decode cX11_behindLead 13 = .ok (.iaload, 1) := by decide +kernel
theorem dX11_behindLead_14 : decode cX11_behindLead 14 = .ok (.if_icmp .ge 30, 3) := by decide +kernel
theorem dX11_behindLead_17 : decode cX11_behindLead 17 = .ok (.iload 4, 2) := by decide +kernel
theorem dX11_behindLead_19 : decode cX11_behindLead 19 = .ok (.aload_n 0, 1) := by decide +kernel
theorem dX11_behindLead_20 : decode cX11_behindLead 20 = .ok (.getfield 13, 3) := by decide +kernel
theorem dX11_behindLead_23 : decode cX11_behindLead 23 = .ok (.iload_n 2, 1) := by decide +kernel
theorem dX11_behindLead_24 : decode cX11_behindLead 24 = .ok (.iaload, 1) := by decide +kernel
theorem dX11_behindLead_25 : decode cX11_behindLead 25 = .ok (.aload_n 0, 1) := by decide +kernel
theorem dX11_behindLead_26 : decode cX11_behindLead 26 = .ok (.iload_n 2, 1) := by decide +kernel
theorem dX11_behindLead_27 : decode cX11_behindLead 27 = .ok (.iload_n 3, 1) := by decide +kernel
theorem dX11_behindLead_28 : decode cX11_behindLead 28 = .ok (.iload 5, 2) := by decide +kernel
theorem dX11_behindLead_30 : decode cX11_behindLead 30 = .ok (.invokevirtual 126, 3) := by decide +kernel
theorem dX11_behindLead_33 : decode cX11_behindLead 33 = .ok (.invokestatic 130, 3) := by decide +kernel
theorem dX11_behindLead_36 : decode cX11_behindLead 36 = .ok (.istore 4, 2) := by decide +kernel
theorem dX11_behindLead_38 : decode cX11_behindLead 38 = .ok (.iinc 5 1, 3) := by decide +kernel
theorem dX11_behindLead_41 : decode cX11_behindLead 41 = .ok (.goto (-35), 3) := by decide +kernel
theorem dX11_behindLead_44 : decode cX11_behindLead 44 = .ok (.iload 4, 2) := by decide +kernel
theorem dX11_behindLead_46 : decode cX11_behindLead 46 = .ok (.ireturn, 1) := by decide +kernel
theorem dX11_head_0 : decode cX11_head 0 = .ok (.aload_n 0, 1) := by decide +kernel
theorem dX11_head_1 : decode cX11_head 1 = .ok (.aload_n 0, 1) := by decide +kernel
theorem dX11_head_2 : decode cX11_head 2 = .ok (.iload_n 1, 1) := by decide +kernel
theorem dX11_head_3 : decode cX11_head 3 = .ok (.invokevirtual 108, 3) := by decide +kernel
theorem dX11_head_6 : decode cX11_head 6 = .ok (.ifCond .ne 7, 3) := by decide +kernel
theorem dX11_head_9 : decode cX11_head 9 = .ok (.iconst 1, 1) := by decide +kernel
theorem dX11_head_10 : decode cX11_head 10 = .ok (.goto 15, 3) := by decide +kernel
theorem dX11_head_13 : decode cX11_head 13 = .ok (.iload_n 2, 1) := by decide +kernel
theorem dX11_head_14 : decode cX11_head 14 = .ok (.invokestatic 123, 3) := by decide +kernel
theorem dX11_head_17 : decode cX11_head 17 = .ok (.ifCond .eq 7, 3) := by decide +kernel
theorem dX11_head_20 : decode cX11_head 20 = .ok (.iconst 0, 1) := by decide +kernel
theorem dX11_head_21 : decode cX11_head 21 = .ok (.goto 4, 3) := by decide +kernel
theorem dX11_head_24 : decode cX11_head 24 = .ok (.iconst 2, 1) := by decide +kernel
theorem dX11_head_25 : decode cX11_head 25 = .ok (.putfield 87, 3) := by decide +kernel
theorem dX11_head_28 : decode cX11_head 28 = .ok (.aload_n 0, 1) := by decide +kernel
theorem dX11_head_29 : decode cX11_head 29 = .ok (.getfield 87, 3) := by decide +kernel
theorem dX11_head_32 : decode cX11_head 32 = .ok (.ifCond .le 7, 3) := by decide +kernel
theorem dX11_head_35 : decode cX11_head 35 = .ok (.iconst 0, 1) := by decide +kernel
theorem dX11_head_36 : decode cX11_head 36 = .ok (.goto 27, 3) := by decide +kernel
theorem dX11_head_39 : decode cX11_head 39 = .ok (.aload_n 0, 1) := by decide +kernel
theorem dX11_head_40 : decode cX11_head 40 = .ok (.aload_n 0, 1) := by decide +kernel
theorem dX11_head_41 : decode cX11_head 41 = .ok (.getfield 13, 3) := by decide +kernel
theorem dX11_head_44 : decode cX11_head 44 = .ok (.iload_n 1, 1) := by decide +kernel
theorem dX11_head_45 : decode cX11_head 45 = .ok (.iaload, 1) := by decide +kernel
theorem dX11_head_46 : decode cX11_head 46 = .ok (.invokestatic 133, 3) := by decide +kernel
theorem dX11_head_49 : decode cX11_head 49 = .ok (.iload_n 1, 1) := by decide +kernel
theorem dX11_head_50 : decode cX11_head 50 = .ok (.iload_n 2, 1) := by decide +kernel
theorem dX11_head_51 : decode cX11_head 51 = .ok (.invokevirtual 137, 3) := by decide +kernel
theorem dX11_head_54 : decode cX11_head 54 = .ok (.aload_n 0, 1) := by decide +kernel
theorem dX11_head_55 : decode cX11_head 55 = .ok (.getfield 13, 3) := by decide +kernel
theorem dX11_head_58 : decode cX11_head 58 = .ok (.iload_n 1, 1) := by decide +kernel
theorem dX11_head_59 : decode cX11_head 59 = .ok (.iaload, 1) := by decide +kernel
theorem dX11_head_60 : decode cX11_head 60 = .ok (.invokestatic 140, 3) := by decide +kernel
theorem dX11_head_63 : decode cX11_head 63 = .ok (.ireturn, 1) := by decide +kernel
theorem dX11_course_0 : decode cX11_course 0 = .ok (.aload_n 0, 1) := by decide +kernel
theorem dX11_course_1 : decode cX11_course 1 = .ok (.iload_n 1, 1) := by decide +kernel
theorem dX11_course_2 : decode cX11_course 2 = .ok (.invokevirtual 120, 3) := by decide +kernel
theorem dX11_course_5 : decode cX11_course 5 = .ok (.ifCond .ne 5, 3) := by decide +kernel
theorem dX11_course_8 : decode cX11_course 8 = .ok (.iconst 0, 1) := by decide +kernel
theorem dX11_course_9 : decode cX11_course 9 = .ok (.ireturn, 1) := by decide +kernel
theorem dX11_course_10 : decode cX11_course 10 = .ok (.aload_n 0, 1) := by decide +kernel
theorem dX11_course_11 : decode cX11_course 11 = .ok (.getfield 13, 3) := by decide +kernel
theorem dX11_course_14 : decode cX11_course 14 = .ok (.iload_n 1, 1) := by decide +kernel
theorem dX11_course_15 : decode cX11_course 15 = .ok (.iaload, 1) := by decide +kernel
theorem dX11_course_16 : decode cX11_course 16 = .ok (.invokestatic 133, 3) := by decide +kernel
theorem dX11_course_19 : decode cX11_course 19 = .ok (.istore_n 2, 1) := by decide +kernel
theorem dX11_course_20 : decode cX11_course 20 = .ok (.aload_n 0, 1) := by decide +kernel
theorem dX11_course_21 : decode cX11_course 21 = .ok (.iload_n 2, 1) := by decide +kernel
theorem dX11_course_22 : decode cX11_course 22 = .ok (.iload_n 1, 1) := by decide +kernel
theorem dX11_course_23 : decode cX11_course 23 = .ok (.iconst 0, 1) := by decide +kernel
theorem dX11_course_24 : decode cX11_course 24 = .ok (.invokevirtual 137, 3) := by decide +kernel
theorem dX11_course_27 : decode cX11_course 27 = .ok (.istore_n 3, 1) := by decide +kernel
theorem dX11_course_28 : decode cX11_course 28 = .ok (.iconst 1, 1) := by decide +kernel
theorem dX11_course_29 : decode cX11_course 29 = .ok (.istore 4, 2) := by decide +kernel
theorem dX11_course_31 : decode cX11_course 31 = .ok (.iload_n 3, 1) := by decide +kernel
theorem dX11_course_32 : decode cX11_course 32 = .ok (.iload_n 2, 1) := by decide +kernel
theorem dX11_course_33 : decode cX11_course 33 = .ok (.if_icmp .eq 17, 3) := by decide +kernel
theorem dX11_course_36 : decode cX11_course 36 = .ok (.aload_n 0, 1) := by decide +kernel
theorem dX11_course_37 : decode cX11_course 37 = .ok (.iload_n 3, 1) := by decide +kernel
theorem dX11_course_38 : decode cX11_course 38 = .ok (.iload_n 1, 1) := by decide +kernel
theorem dX11_course_39 : decode cX11_course 39 = .ok (.iconst 0, 1) := by decide +kernel
theorem dX11_course_40 : decode cX11_course 40 = .ok (.invokevirtual 137, 3) := by decide +kernel
theorem dX11_course_43 : decode cX11_course 43 = .ok (.istore_n 3, 1) := by decide +kernel
theorem dX11_course_44 : decode cX11_course 44 = .ok (.iinc 4 1, 3) := by decide +kernel
theorem dX11_course_47 : decode cX11_course 47 = .ok (.goto (-16), 3) := by decide +kernel
theorem dX11_course_50 : decode cX11_course 50 = .ok (.iload 4, 2) := by decide +kernel
theorem dX11_course_52 : decode cX11_course 52 = .ok (.ireturn, 1) := by decide +kernel
theorem dX11_laysPlain_0 : decode cX11_laysPlain 0 = .ok (.aload_n 0, 1) := by decide +kernel
theorem dX11_laysPlain_1 : decode cX11_laysPlain 1 = .ok (.getfield 13, 3) := by decide +kernel
theorem dX11_laysPlain_4 : decode cX11_laysPlain 4 = .ok (.iload_n 1, 1) := by decide +kernel
theorem dX11_laysPlain_5 : decode cX11_laysPlain 5 = .ok (.iaload, 1) := by decide +kernel
theorem dX11_laysPlain_6 : decode cX11_laysPlain 6 = .ok (.invokestatic 133, 3) := by decide +kernel
theorem dX11_laysPlain_9 : decode cX11_laysPlain 9 = .ok (.istore_n 2, 1) := by decide +kernel
theorem dX11_laysPlain_10 : decode cX11_laysPlain 10 = .ok (.iconst 0, 1) := by decide +kernel
theorem dX11_laysPlain_11 : decode cX11_laysPlain 11 = .ok (.istore_n 3, 1) := by decide +kernel
theorem dX11_laysPlain_12 : decode cX11_laysPlain 12 = .ok (.iload_n 3, 1) := by decide +kernel
theorem dX11_laysPlain_13 : decode cX11_laysPlain 13 = .ok (.aload_n 0, 1) := by decide +kernel
theorem dX11_laysPlain_14 : decode cX11_laysPlain 14 = .ok (.getfield 16, 3) := by decide +kernel
theorem dX11_laysPlain_17 : decode cX11_laysPlain 17 = .ok (.iload_n 1, 1) := by decide +kernel
theorem dX11_laysPlain_18 : decode cX11_laysPlain 18 = .ok (.iaload, 1) := by decide +kernel
theorem dX11_laysPlain_19 : decode cX11_laysPlain 19 = .ok (.if_icmp .ge 38, 3) := by decide +kernel
theorem dX11_laysPlain_22 : decode cX11_laysPlain 22 = .ok (.iload_n 2, 1) := by decide +kernel
theorem dX11_laysPlain_23 : decode cX11_laysPlain 23 = .ok (.aload_n 0, 1) := by decide +kernel
theorem dX11_laysPlain_24 : decode cX11_laysPlain 24 = .ok (.getfield 13, 3) := by decide +kernel
theorem dX11_laysPlain_27 : decode cX11_laysPlain 27 = .ok (.iload_n 1, 1) := by decide +kernel
theorem dX11_laysPlain_28 : decode cX11_laysPlain 28 = .ok (.iaload, 1) := by decide +kernel
theorem dX11_laysPlain_29 : decode cX11_laysPlain 29 = .ok (.aload_n 0, 1) := by decide +kernel
theorem dX11_laysPlain_30 : decode cX11_laysPlain 30 = .ok (.getfield 19, 3) := by decide +kernel
theorem dX11_laysPlain_33 : decode cX11_laysPlain 33 = .ok (.bipush 12, 2) := by decide +kernel
theorem dX11_laysPlain_35 : decode cX11_laysPlain 35 = .ok (.iload_n 1, 1) := by decide +kernel
theorem dX11_laysPlain_36 : decode cX11_laysPlain 36 = .ok (.imul, 1) := by decide +kernel
theorem dX11_laysPlain_37 : decode cX11_laysPlain 37 = .ok (.iload_n 3, 1) := by decide +kernel
theorem dX11_laysPlain_38 : decode cX11_laysPlain 38 = .ok (.iadd, 1) := by decide +kernel
theorem dX11_laysPlain_39 : decode cX11_laysPlain 39 = .ok (.iaload, 1) := by decide +kernel
theorem dX11_laysPlain_40 : decode cX11_laysPlain 40 = .ok (.invokestatic 130, 3) := by decide +kernel
theorem dX11_laysPlain_43 : decode cX11_laysPlain 43 = .ok (.istore_n 2, 1) := by decide +kernel
theorem dX11_laysPlain_44 : decode cX11_laysPlain 44 = .ok (.aload_n 0, 1) := by decide +kernel
theorem dX11_laysPlain_45 : decode cX11_laysPlain 45 = .ok (.getfield 37, 3) := by decide +kernel
theorem dX11_laysPlain_48 : decode cX11_laysPlain 48 = .ok (.iload_n 3, 1) := by decide +kernel
theorem dX11_laysPlain_49 : decode cX11_laysPlain 49 = .ok (.iload_n 2, 1) := by decide +kernel
theorem dX11_laysPlain_50 : decode cX11_laysPlain 50 = .ok (.iastore, 1) := by decide +kernel
theorem dX11_laysPlain_51 : decode cX11_laysPlain 51 = .ok (.iinc 3 1, 3) := by decide +kernel
theorem dX11_laysPlain_54 : decode cX11_laysPlain 54 = .ok (.goto (-42), 3) := by decide +kernel
theorem dX11_laysPlain_57 : decode cX11_laysPlain 57 = .ok (.return_, 1) := by decide +kernel
theorem dX11_clashes_0 : decode cX11_clashes 0 = .ok (.iconst 0, 1) := by decide +kernel
theorem dX11_clashes_1 : decode cX11_clashes 1 = .ok (.istore_n 3, 1) := by decide +kernel
theorem dX11_clashes_2 : decode cX11_clashes 2 = .ok (.iload_n 2, 1) := by decide +kernel
theorem dX11_clashes_3 : decode cX11_clashes 3 = .ok (.istore 4, 2) := by decide +kernel
theorem dX11_clashes_5 : decode cX11_clashes 5 = .ok (.iconst 0, 1) := by decide +kernel
theorem dX11_clashes_6 : decode cX11_clashes 6 = .ok (.istore 5, 2) := by decide +kernel
theorem dX11_clashes_8 : decode cX11_clashes 8 = .ok (.iload 5, 2) := by decide +kernel
theorem dX11_clashes_10 : decode cX11_clashes 10 = .ok (.aload_n 0, 1) := by decide +kernel
theorem dX11_clashes_11 : decode cX11_clashes 11 = .ok (.getfield 16, 3) := by decide +kernel
theorem dX11_clashes_14 : decode cX11_clashes 14 = .ok (.iload_n 1, 1) := by decide +kernel
theorem dX11_clashes_15 : decode cX11_clashes 15 = .ok (.iaload, 1) := by decide +kernel
theorem dX11_clashes_16 : decode cX11_clashes 16 = .ok (.if_icmp .ge 76, 3) := by decide +kernel
theorem dX11_clashes_19 : decode cX11_clashes 19 = .ok (.iload 4, 2) := by decide +kernel
theorem dX11_clashes_21 : decode cX11_clashes 21 = .ok (.aload_n 0, 1) := by decide +kernel
theorem dX11_clashes_22 : decode cX11_clashes 22 = .ok (.getfield 13, 3) := by decide +kernel
theorem dX11_clashes_25 : decode cX11_clashes 25 = .ok (.iload_n 1, 1) := by decide +kernel
theorem dX11_clashes_26 : decode cX11_clashes 26 = .ok (.iaload, 1) := by decide +kernel
theorem dX11_clashes_27 : decode cX11_clashes 27 = .ok (.aload_n 0, 1) := by decide +kernel
theorem dX11_clashes_28 : decode cX11_clashes 28 = .ok (.getfield 19, 3) := by decide +kernel
theorem dX11_clashes_31 : decode cX11_clashes 31 = .ok (.bipush 12, 2) := by decide +kernel
theorem dX11_clashes_33 : decode cX11_clashes 33 = .ok (.iload_n 1, 1) := by decide +kernel
theorem dX11_clashes_34 : decode cX11_clashes 34 = .ok (.imul, 1) := by decide +kernel
theorem dX11_clashes_35 : decode cX11_clashes 35 = .ok (.iload 5, 2) := by decide +kernel
theorem dX11_clashes_37 : decode cX11_clashes 37 = .ok (.iadd, 1) := by decide +kernel
theorem dX11_clashes_38 : decode cX11_clashes 38 = .ok (.iaload, 1) := by decide +kernel
theorem dX11_clashes_39 : decode cX11_clashes 39 = .ok (.invokestatic 130, 3) := by decide +kernel
theorem dX11_clashes_42 : decode cX11_clashes 42 = .ok (.istore 4, 2) := by decide +kernel
theorem dX11_clashes_44 : decode cX11_clashes 44 = .ok (.iconst 0, 1) := by decide +kernel
theorem dX11_clashes_45 : decode cX11_clashes 45 = .ok (.istore 6, 2) := by decide +kernel
theorem dX11_clashes_47 : decode cX11_clashes 47 = .ok (.iload 6, 2) := by decide +kernel
theorem dX11_clashes_49 : decode cX11_clashes 49 = .ok (.aload_n 0, 1) := by decide +kernel
theorem dX11_clashes_50 : decode cX11_clashes 50 = .ok (.getfield 16, 3) := by decide +kernel
theorem dX11_clashes_53 : decode cX11_clashes 53 = .ok (.iload_n 1, 1) := by decide +kernel
theorem dX11_clashes_54 : decode cX11_clashes 54 = .ok (.iaload, 1) := by decide +kernel
theorem dX11_clashes_55 : decode cX11_clashes 55 = .ok (.if_icmp .ge 31, 3) := by decide +kernel
theorem dX11_clashes_58 : decode cX11_clashes 58 = .ok (.iload_n 3, 1) := by decide +kernel
theorem dX11_clashes_59 : decode cX11_clashes 59 = .ok (.ifCond .ne 15, 3) := by decide +kernel
theorem dX11_clashes_62 : decode cX11_clashes 62 = .ok (.iload 4, 2) := by decide +kernel
theorem dX11_clashes_64 : decode cX11_clashes 64 = .ok (.aload_n 0, 1) := by decide +kernel
theorem dX11_clashes_65 : decode cX11_clashes 65 = .ok (.getfield 37, 3) := by decide +kernel
theorem dX11_clashes_68 : decode cX11_clashes 68 = .ok (.iload 6, 2) := by decide +kernel
theorem dX11_clashes_70 : decode cX11_clashes 70 = .ok (.iaload, 1) := by decide +kernel
theorem dX11_clashes_71 : decode cX11_clashes 71 = .ok (.if_icmp .ne 7, 3) := by decide +kernel
theorem dX11_clashes_74 : decode cX11_clashes 74 = .ok (.iconst 1, 1) := by decide +kernel
theorem dX11_clashes_75 : decode cX11_clashes 75 = .ok (.goto 4, 3) := by decide +kernel
theorem dX11_clashes_78 : decode cX11_clashes 78 = .ok (.iconst 0, 1) := by decide +kernel
theorem dX11_clashes_79 : decode cX11_clashes 79 = .ok (.istore_n 3, 1) := by decide +kernel
theorem dX11_clashes_80 : decode cX11_clashes 80 = .ok (.iinc 6 1, 3) := by decide +kernel
theorem dX11_clashes_83 : decode cX11_clashes 83 = .ok (.goto (-36), 3) := by decide +kernel
theorem dX11_clashes_86 : decode cX11_clashes 86 = .ok (.iinc 5 1, 3) := by decide +kernel
theorem dX11_clashes_89 : decode cX11_clashes 89 = .ok (.goto (-81), 3) := by decide +kernel
theorem dX11_clashes_92 : decode cX11_clashes 92 = .ok (.iload_n 3, 1) := by decide +kernel
theorem dX11_clashes_93 : decode cX11_clashes 93 = .ok (.ifCond .eq 20, 3) := by decide +kernel
theorem dX11_clashes_96 : decode cX11_clashes 96 = .ok (.iload_n 2, 1) := by decide +kernel
theorem dX11_clashes_97 : decode cX11_clashes 97 = .ok (.aload_n 0, 1) := by decide +kernel
theorem dX11_clashes_98 : decode cX11_clashes 98 = .ok (.getfield 13, 3) := by decide +kernel
theorem dX11_clashes_101 : decode cX11_clashes 101 = .ok (.iload_n 1, 1) := by decide +kernel
theorem dX11_clashes_102 : decode cX11_clashes 102 = .ok (.iaload, 1) := by decide +kernel
theorem dX11_clashes_103 : decode cX11_clashes 103 = .ok (.invokestatic 133, 3) := by decide +kernel
theorem dX11_clashes_106 : decode cX11_clashes 106 = .ok (.if_icmp .eq 7, 3) := by decide +kernel
theorem dX11_clashes_109 : decode cX11_clashes 109 = .ok (.iconst 1, 1) := by decide +kernel
theorem dX11_clashes_110 : decode cX11_clashes 110 = .ok (.goto 4, 3) := by decide +kernel
theorem dX11_clashes_113 : decode cX11_clashes 113 = .ok (.iconst 0, 1) := by decide +kernel
theorem dX11_clashes_114 : decode cX11_clashes 114 = .ok (.ireturn, 1) := by decide +kernel
theorem dX11_isFalse_0 : decode cX11_isFalse 0 = .ok (.aload_n 0, 1) := by decide +kernel
theorem dX11_isFalse_1 : decode cX11_isFalse 1 = .ok (.aload_n 0, 1) := by decide +kernel
theorem dX11_isFalse_2 : decode cX11_isFalse 2 = .ok (.iload_n 1, 1) := by decide +kernel
theorem dX11_isFalse_3 : decode cX11_isFalse 3 = .ok (.invokevirtual 108, 3) := by decide +kernel
theorem dX11_isFalse_6 : decode cX11_isFalse 6 = .ok (.ifCond .eq 26, 3) := by decide +kernel
theorem dX11_isFalse_9 : decode cX11_isFalse 9 = .ok (.iload_n 2, 1) := by decide +kernel
theorem dX11_isFalse_10 : decode cX11_isFalse 10 = .ok (.iconst 0, 1) := by decide +kernel
theorem dX11_isFalse_11 : decode cX11_isFalse 11 = .ok (.aload_n 0, 1) := by decide +kernel
theorem dX11_isFalse_12 : decode cX11_isFalse 12 = .ok (.getfield 13, 3) := by decide +kernel
theorem dX11_isFalse_15 : decode cX11_isFalse 15 = .ok (.iload_n 1, 1) := by decide +kernel
theorem dX11_isFalse_16 : decode cX11_isFalse 16 = .ok (.iaload, 1) := by decide +kernel
theorem dX11_isFalse_17 : decode cX11_isFalse 17 = .ok (.invokestatic 143, 3) := by decide +kernel
theorem dX11_isFalse_20 : decode cX11_isFalse 20 = .ok (.iconst 1, 1) := by decide +kernel
theorem dX11_isFalse_21 : decode cX11_isFalse 21 = .ok (.isub, 1) := by decide +kernel
theorem dX11_isFalse_22 : decode cX11_isFalse 22 = .ok (.invokestatic 90, 3) := by decide +kernel
theorem dX11_isFalse_25 : decode cX11_isFalse 25 = .ok (.ifCond .eq 7, 3) := by decide +kernel
theorem dX11_isFalse_28 : decode cX11_isFalse 28 = .ok (.iconst 0, 1) := by decide +kernel
theorem dX11_isFalse_29 : decode cX11_isFalse 29 = .ok (.goto 4, 3) := by decide +kernel
theorem dX11_isFalse_32 : decode cX11_isFalse 32 = .ok (.iconst 1, 1) := by decide +kernel
theorem dX11_isFalse_33 : decode cX11_isFalse 33 = .ok (.putfield 87, 3) := by decide +kernel
theorem dX11_isFalse_36 : decode cX11_isFalse 36 = .ok (.aload_n 0, 1) := by decide +kernel
theorem dX11_isFalse_37 : decode cX11_isFalse 37 = .ok (.getfield 87, 3) := by decide +kernel
theorem dX11_isFalse_40 : decode cX11_isFalse 40 = .ok (.ifCond .le 5, 3) := by decide +kernel
theorem dX11_isFalse_43 : decode cX11_isFalse 43 = .ok (.iconst 0, 1) := by decide +kernel
theorem dX11_isFalse_44 : decode cX11_isFalse 44 = .ok (.ireturn, 1) := by decide +kernel
theorem dX11_isFalse_45 : decode cX11_isFalse 45 = .ok (.aload_n 0, 1) := by decide +kernel
theorem dX11_isFalse_46 : decode cX11_isFalse 46 = .ok (.iload_n 1, 1) := by decide +kernel
theorem dX11_isFalse_47 : decode cX11_isFalse 47 = .ok (.invokevirtual 146, 3) := by decide +kernel
theorem dX11_isFalse_50 : decode cX11_isFalse 50 = .ok (.aload_n 0, 1) := by decide +kernel
theorem dX11_isFalse_51 : decode cX11_isFalse 51 = .ok (.iload_n 1, 1) := by decide +kernel
theorem dX11_isFalse_52 : decode cX11_isFalse 52 = .ok (.aload_n 0, 1) := by decide +kernel
theorem dX11_isFalse_53 : decode cX11_isFalse 53 = .ok (.iload_n 2, 1) := by decide +kernel
theorem dX11_isFalse_54 : decode cX11_isFalse 54 = .ok (.aload_n 0, 1) := by decide +kernel
theorem dX11_isFalse_55 : decode cX11_isFalse 55 = .ok (.getfield 13, 3) := by decide +kernel
theorem dX11_isFalse_58 : decode cX11_isFalse 58 = .ok (.iload_n 1, 1) := by decide +kernel
theorem dX11_isFalse_59 : decode cX11_isFalse 59 = .ok (.iaload, 1) := by decide +kernel
theorem dX11_isFalse_60 : decode cX11_isFalse 60 = .ok (.invokevirtual 150, 3) := by decide +kernel
theorem dX11_isFalse_63 : decode cX11_isFalse 63 = .ok (.invokevirtual 153, 3) := by decide +kernel
theorem dX11_isFalse_66 : decode cX11_isFalse 66 = .ok (.ireturn, 1) := by decide +kernel
theorem dX11_falseRows_0 : decode cX11_falseRows 0 = .ok (.aload_n 0, 1) := by decide +kernel
theorem dX11_falseRows_1 : decode cX11_falseRows 1 = .ok (.iload_n 1, 1) := by decide +kernel
theorem dX11_falseRows_2 : decode cX11_falseRows 2 = .ok (.invokevirtual 120, 3) := by decide +kernel
theorem dX11_falseRows_5 : decode cX11_falseRows 5 = .ok (.ifCond .ne 5, 3) := by decide +kernel
theorem dX11_falseRows_8 : decode cX11_falseRows 8 = .ok (.iconst 0, 1) := by decide +kernel
theorem dX11_falseRows_9 : decode cX11_falseRows 9 = .ok (.ireturn, 1) := by decide +kernel
theorem dX11_falseRows_10 : decode cX11_falseRows 10 = .ok (.aload_n 0, 1) := by decide +kernel
theorem dX11_falseRows_11 : decode cX11_falseRows 11 = .ok (.iload_n 1, 1) := by decide +kernel
theorem dX11_falseRows_12 : decode cX11_falseRows 12 = .ok (.invokevirtual 146, 3) := by decide +kernel
theorem dX11_falseRows_15 : decode cX11_falseRows 15 = .ok (.iconst 0, 1) := by decide +kernel
theorem dX11_falseRows_16 : decode cX11_falseRows 16 = .ok (.istore_n 2, 1) := by decide +kernel
theorem dX11_falseRows_17 : decode cX11_falseRows 17 = .ok (.iconst 0, 1) := by decide +kernel
theorem dX11_falseRows_18 : decode cX11_falseRows 18 = .ok (.istore_n 3, 1) := by decide +kernel
theorem dX11_falseRows_19 : decode cX11_falseRows 19 = .ok (.iload_n 3, 1) := by decide +kernel
theorem dX11_falseRows_20 : decode cX11_falseRows 20 = .ok (.aload_n 0, 1) := by decide +kernel
theorem dX11_falseRows_21 : decode cX11_falseRows 21 = .ok (.getfield 13, 3) := by decide +kernel
theorem dX11_falseRows_24 : decode cX11_falseRows 24 = .ok (.iload_n 1, 1) := by decide +kernel
theorem dX11_falseRows_25 : decode cX11_falseRows 25 = .ok (.iaload, 1) := by decide +kernel
theorem dX11_falseRows_26 : decode cX11_falseRows 26 = .ok (.invokestatic 143, 3) := by decide +kernel
theorem dX11_falseRows_29 : decode cX11_falseRows 29 = .ok (.if_icmp .ge 36, 3) := by decide +kernel
theorem dX11_falseRows_32 : decode cX11_falseRows 32 = .ok (.iload_n 2, 1) := by decide +kernel
theorem dX11_falseRows_33 : decode cX11_falseRows 33 = .ok (.aload_n 0, 1) := by decide +kernel
theorem dX11_falseRows_34 : decode cX11_falseRows 34 = .ok (.iload_n 1, 1) := by decide +kernel
theorem dX11_falseRows_35 : decode cX11_falseRows 35 = .ok (.aload_n 0, 1) := by decide +kernel
theorem dX11_falseRows_36 : decode cX11_falseRows 36 = .ok (.iload_n 3, 1) := by decide +kernel
theorem dX11_falseRows_37 : decode cX11_falseRows 37 = .ok (.aload_n 0, 1) := by decide +kernel
theorem dX11_falseRows_38 : decode cX11_falseRows 38 = .ok (.getfield 13, 3) := by decide +kernel
theorem dX11_falseRows_41 : decode cX11_falseRows 41 = .ok (.iload_n 1, 1) := by decide +kernel
theorem dX11_falseRows_42 : decode cX11_falseRows 42 = .ok (.iaload, 1) := by decide +kernel
theorem dX11_falseRows_43 : decode cX11_falseRows 43 = .ok (.invokevirtual 150, 3) := by decide +kernel
theorem dX11_falseRows_46 : decode cX11_falseRows 46 = .ok (.invokevirtual 153, 3) := by decide +kernel
theorem dX11_falseRows_49 : decode cX11_falseRows 49 = .ok (.ifCond .eq 7, 3) := by decide +kernel
theorem dX11_falseRows_52 : decode cX11_falseRows 52 = .ok (.iconst 1, 1) := by decide +kernel
theorem dX11_falseRows_53 : decode cX11_falseRows 53 = .ok (.goto 4, 3) := by decide +kernel
theorem dX11_falseRows_56 : decode cX11_falseRows 56 = .ok (.iconst 0, 1) := by decide +kernel
theorem dX11_falseRows_57 : decode cX11_falseRows 57 = .ok (.iadd, 1) := by decide +kernel
theorem dX11_falseRows_58 : decode cX11_falseRows 58 = .ok (.istore_n 2, 1) := by decide +kernel
theorem dX11_falseRows_59 : decode cX11_falseRows 59 = .ok (.iinc 3 1, 3) := by decide +kernel
theorem dX11_falseRows_62 : decode cX11_falseRows 62 = .ok (.goto (-43), 3) := by decide +kernel
theorem dX11_falseRows_65 : decode cX11_falseRows 65 = .ok (.iload_n 2, 1) := by decide +kernel
theorem dX11_falseRows_66 : decode cX11_falseRows 66 = .ok (.ireturn, 1) := by decide +kernel
theorem dX11_lead_0 : decode cX11_lead 0 = .ok (.aload_n 0, 1) := by decide +kernel
theorem dX11_lead_1 : decode cX11_lead 1 = .ok (.aload_n 0, 1) := by decide +kernel
theorem dX11_lead_2 : decode cX11_lead 2 = .ok (.iload_n 1, 1) := by decide +kernel
theorem dX11_lead_3 : decode cX11_lead 3 = .ok (.invokevirtual 108, 3) := by decide +kernel
theorem dX11_lead_6 : decode cX11_lead 6 = .ok (.ifCond .ne 7, 3) := by decide +kernel
theorem dX11_lead_9 : decode cX11_lead 9 = .ok (.iconst 1, 1) := by decide +kernel
theorem dX11_lead_10 : decode cX11_lead 10 = .ok (.goto 15, 3) := by decide +kernel
theorem dX11_lead_13 : decode cX11_lead 13 = .ok (.iload_n 2, 1) := by decide +kernel
theorem dX11_lead_14 : decode cX11_lead 14 = .ok (.invokestatic 123, 3) := by decide +kernel
theorem dX11_lead_17 : decode cX11_lead 17 = .ok (.ifCond .ne 7, 3) := by decide +kernel
theorem dX11_lead_20 : decode cX11_lead 20 = .ok (.iconst 2, 1) := by decide +kernel
theorem dX11_lead_21 : decode cX11_lead 21 = .ok (.goto 4, 3) := by decide +kernel
theorem dX11_lead_24 : decode cX11_lead 24 = .ok (.iconst 0, 1) := by decide +kernel
theorem dX11_lead_25 : decode cX11_lead 25 = .ok (.putfield 87, 3) := by decide +kernel
theorem dX11_lead_28 : decode cX11_lead 28 = .ok (.aload_n 0, 1) := by decide +kernel
theorem dX11_lead_29 : decode cX11_lead 29 = .ok (.getfield 87, 3) := by decide +kernel
theorem dX11_lead_32 : decode cX11_lead 32 = .ok (.ifCond .ne 50, 3) := by decide +kernel
theorem dX11_lead_35 : decode cX11_lead 35 = .ok (.aload_n 0, 1) := by decide +kernel
theorem dX11_lead_36 : decode cX11_lead 36 = .ok (.aload_n 0, 1) := by decide +kernel
theorem dX11_lead_37 : decode cX11_lead 37 = .ok (.getfield 156, 3) := by decide +kernel
theorem dX11_lead_40 : decode cX11_lead 40 = .ok (.bipush 20, 2) := by decide +kernel
theorem dX11_lead_42 : decode cX11_lead 42 = .ok (.if_icmp .eq 32, 3) := by decide +kernel
theorem dX11_lead_45 : decode cX11_lead 45 = .ok (.aload_n 0, 1) := by decide +kernel
theorem dX11_lead_46 : decode cX11_lead 46 = .ok (.getfield 156, 3) := by decide +kernel
theorem dX11_lead_49 : decode cX11_lead 49 = .ok (.ifCond .le 29, 3) := by decide +kernel
theorem dX11_lead_52 : decode cX11_lead 52 = .ok (.aload_n 0, 1) := by decide +kernel
theorem dX11_lead_53 : decode cX11_lead 53 = .ok (.getfield 13, 3) := by decide +kernel
theorem dX11_lead_56 : decode cX11_lead 56 = .ok (.aload_n 0, 1) := by decide +kernel
theorem dX11_lead_57 : decode cX11_lead 57 = .ok (.getfield 25, 3) := by decide +kernel
theorem dX11_lead_60 : decode cX11_lead 60 = .ok (.iconst 0, 1) := by decide +kernel
theorem dX11_lead_61 : decode cX11_lead 61 = .ok (.iaload, 1) := by decide +kernel
theorem dX11_lead_62 : decode cX11_lead 62 = .ok (.iconst 3, 1) := by decide +kernel
theorem dX11_lead_63 : decode cX11_lead 63 = .ok (.idiv, 1) := by decide +kernel
theorem dX11_lead_64 : decode cX11_lead 64 = .ok (.iaload, 1) := by decide +kernel
theorem dX11_lead_65 : decode cX11_lead 65 = .ok (.aload_n 0, 1) := by decide +kernel
theorem dX11_lead_66 : decode cX11_lead 66 = .ok (.getfield 13, 3) := by decide +kernel
theorem dX11_lead_69 : decode cX11_lead 69 = .ok (.iload_n 1, 1) := by decide +kernel
theorem dX11_lead_70 : decode cX11_lead 70 = .ok (.iaload, 1) := by decide +kernel
theorem dX11_lead_71 : decode cX11_lead 71 = .ok (.if_icmp .eq 7, 3) := by decide +kernel
theorem dX11_lead_74 : decode cX11_lead 74 = .ok (.iconst 3, 1) := by decide +kernel
theorem dX11_lead_75 : decode cX11_lead 75 = .ok (.goto 4, 3) := by decide +kernel
theorem dX11_lead_78 : decode cX11_lead 78 = .ok (.iconst 0, 1) := by decide +kernel
theorem dX11_lead_79 : decode cX11_lead 79 = .ok (.putfield 87, 3) := by decide +kernel
theorem dX11_lead_82 : decode cX11_lead 82 = .ok (.aload_n 0, 1) := by decide +kernel
theorem dX11_lead_83 : decode cX11_lead 83 = .ok (.getfield 87, 3) := by decide +kernel
theorem dX11_lead_86 : decode cX11_lead 86 = .ok (.ifCond .le 5, 3) := by decide +kernel
theorem dX11_lead_89 : decode cX11_lead 89 = .ok (.iconst 0, 1) := by decide +kernel
theorem dX11_lead_90 : decode cX11_lead 90 = .ok (.ireturn, 1) := by decide +kernel
theorem dX11_lead_91 : decode cX11_lead 91 = .ok (.aload_n 0, 1) := by decide +kernel
theorem dX11_lead_92 : decode cX11_lead 92 = .ok (.getfield 25, 3) := by decide +kernel
theorem dX11_lead_95 : decode cX11_lead 95 = .ok (.aload_n 0, 1) := by decide +kernel
theorem dX11_lead_96 : decode cX11_lead 96 = .ok (.getfield 156, 3) := by decide +kernel
theorem dX11_lead_99 : decode cX11_lead 99 = .ok (.iconst 3, 1) := by decide +kernel
theorem dX11_lead_100 : decode cX11_lead 100 = .ok (.iload_n 1, 1) := by decide +kernel
theorem dX11_lead_101 : decode cX11_lead 101 = .ok (.imul, 1) := by decide +kernel
theorem dX11_lead_102 : decode cX11_lead 102 = .ok (.iload_n 2, 1) := by decide +kernel
theorem dX11_lead_103 : decode cX11_lead 103 = .ok (.iadd, 1) := by decide +kernel
theorem dX11_lead_104 : decode cX11_lead 104 = .ok (.iastore, 1) := by decide +kernel
theorem dX11_lead_105 : decode cX11_lead 105 = .ok (.aload_n 0, 1) := by decide +kernel
theorem dX11_lead_106 : decode cX11_lead 106 = .ok (.dup, 1) := by decide +kernel
theorem dX11_lead_107 : decode cX11_lead 107 = .ok (.getfield 156, 3) := by decide +kernel
theorem dX11_lead_110 : decode cX11_lead 110 = .ok (.iconst 1, 1) := by decide +kernel
theorem dX11_lead_111 : decode cX11_lead 111 = .ok (.iadd, 1) := by decide +kernel
theorem dX11_lead_112 : decode cX11_lead 112 = .ok (.putfield 156, 3) := by decide +kernel
theorem dX11_lead_115 : decode cX11_lead 115 = .ok (.aload_n 0, 1) := by decide +kernel
theorem dX11_lead_116 : decode cX11_lead 116 = .ok (.getfield 156, 3) := by decide +kernel
theorem dX11_lead_119 : decode cX11_lead 119 = .ok (.ireturn, 1) := by decide +kernel
theorem dX11_dropLeads_0 : decode cX11_dropLeads 0 = .ok (.aload_n 0, 1) := by decide +kernel
theorem dX11_dropLeads_1 : decode cX11_dropLeads 1 = .ok (.iconst 0, 1) := by decide +kernel
theorem dX11_dropLeads_2 : decode cX11_dropLeads 2 = .ok (.putfield 87, 3) := by decide +kernel
theorem dX11_dropLeads_5 : decode cX11_dropLeads 5 = .ok (.aload_n 0, 1) := by decide +kernel
theorem dX11_dropLeads_6 : decode cX11_dropLeads 6 = .ok (.getfield 156, 3) := by decide +kernel
theorem dX11_dropLeads_9 : decode cX11_dropLeads 9 = .ok (.istore_n 1, 1) := by decide +kernel
theorem dX11_dropLeads_10 : decode cX11_dropLeads 10 = .ok (.aload_n 0, 1) := by decide +kernel
theorem dX11_dropLeads_11 : decode cX11_dropLeads 11 = .ok (.iconst 0, 1) := by decide +kernel
theorem dX11_dropLeads_12 : decode cX11_dropLeads 12 = .ok (.putfield 156, 3) := by decide +kernel
theorem dX11_dropLeads_15 : decode cX11_dropLeads 15 = .ok (.iload_n 1, 1) := by decide +kernel
theorem dX11_dropLeads_16 : decode cX11_dropLeads 16 = .ok (.ireturn, 1) := by decide +kernel
theorem dX11_touch_0 : decode cX11_touch 0 = .ok (.aload_n 0, 1) := by decide +kernel
theorem dX11_touch_1 : decode cX11_touch 1 = .ok (.aload_n 0, 1) := by decide +kernel
theorem dX11_touch_2 : decode cX11_touch 2 = .ok (.getfield 156, 3) := by decide +kernel
theorem dX11_touch_5 : decode cX11_touch 5 = .ok (.ifCond .eq 12, 3) := by decide +kernel
theorem dX11_touch_8 : decode cX11_touch 8 = .ok (.aload_n 0, 1) := by decide +kernel
theorem dX11_touch_9 : decode cX11_touch 9 = .ok (.getfield 159, 3) := by decide +kernel
theorem dX11_touch_12 : decode cX11_touch 12 = .ok (.bipush 12, 2) := by decide +kernel
theorem dX11_touch_14 : decode cX11_touch 14 = .ok (.if_icmp .ne 7, 3) := by decide +kernel
theorem dX11_touch_17 : decode cX11_touch 17 = .ok (.iconst 1, 1) := by decide +kernel
theorem dX11_touch_18 : decode cX11_touch 18 = .ok (.goto 4, 3) := by decide +kernel
theorem dX11_touch_21 : decode cX11_touch 21 = .ok (.iconst 0, 1) := by decide +kernel
theorem dX11_touch_22 : decode cX11_touch 22 = .ok (.putfield 87, 3) := by decide +kernel
theorem dX11_touch_25 : decode cX11_touch 25 = .ok (.aload_n 0, 1) := by decide +kernel
theorem dX11_touch_26 : decode cX11_touch 26 = .ok (.getfield 87, 3) := by decide +kernel
theorem dX11_touch_29 : decode cX11_touch 29 = .ok (.ifCond .le 5, 3) := by decide +kernel
theorem dX11_touch_32 : decode cX11_touch 32 = .ok (.iconst 0, 1) := by decide +kernel
theorem dX11_touch_33 : decode cX11_touch 33 = .ok (.ireturn, 1) := by decide +kernel
theorem dX11_touch_34 : decode cX11_touch 34 = .ok (.aload_n 0, 1) := by decide +kernel
theorem dX11_touch_35 : decode cX11_touch 35 = .ok (.getfield 28, 3) := by decide +kernel
theorem dX11_touch_38 : decode cX11_touch 38 = .ok (.aload_n 0, 1) := by decide +kernel
theorem dX11_touch_39 : decode cX11_touch 39 = .ok (.getfield 159, 3) := by decide +kernel
theorem dX11_touch_42 : decode cX11_touch 42 = .ok (.aload_n 0, 1) := by decide +kernel
theorem dX11_touch_43 : decode cX11_touch 43 = .ok (.getfield 156, 3) := by decide +kernel
theorem dX11_touch_46 : decode cX11_touch 46 = .ok (.iastore, 1) := by decide +kernel
theorem dX11_touch_47 : decode cX11_touch 47 = .ok (.iconst 0, 1) := by decide +kernel
theorem dX11_touch_48 : decode cX11_touch 48 = .ok (.istore_n 1, 1) := by decide +kernel
theorem dX11_touch_49 : decode cX11_touch 49 = .ok (.iload_n 1, 1) := by decide +kernel
theorem dX11_touch_50 : decode cX11_touch 50 = .ok (.aload_n 0, 1) := by decide +kernel
theorem dX11_touch_51 : decode cX11_touch 51 = .ok (.getfield 156, 3) := by decide +kernel
theorem dX11_touch_54 : decode cX11_touch 54 = .ok (.if_icmp .ge 29, 3) := by decide +kernel
theorem dX11_touch_57 : decode cX11_touch 57 = .ok (.aload_n 0, 1) := by decide +kernel
theorem dX11_touch_58 : decode cX11_touch 58 = .ok (.getfield 31, 3) := by decide +kernel
theorem dX11_touch_61 : decode cX11_touch 61 = .ok (.bipush 20, 2) := by decide +kernel
theorem dX11_touch_63 : decode cX11_touch 63 = .ok (.aload_n 0, 1) := by decide +kernel
theorem dX11_touch_64 : decode cX11_touch 64 = .ok (.getfield 159, 3) := by decide +kernel
theorem dX11_touch_67 : decode cX11_touch 67 = .ok (.imul, 1) := by decide +kernel
theorem dX11_touch_68 : decode cX11_touch 68 = .ok (.iload_n 1, 1) := by decide +kernel
theorem dX11_touch_69 : decode cX11_touch 69 = .ok (.iadd, 1) := by decide +kernel
theorem dX11_touch_70 : decode cX11_touch 70 = .ok (.aload_n 0, 1) := by decide +kernel
theorem dX11_touch_71 : decode cX11_touch 71 = .ok (.getfield 25, 3) := by decide +kernel
theorem dX11_touch_74 : decode cX11_touch 74 = .ok (.iload_n 1, 1) := by decide +kernel
theorem dX11_touch_75 : decode cX11_touch 75 = .ok (.iaload, 1) := by decide +kernel
theorem dX11_touch_76 : decode cX11_touch 76 = .ok (.iastore, 1) := by decide +kernel
theorem dX11_touch_77 : decode cX11_touch 77 = .ok (.iinc 1 1, 3) := by decide +kernel
theorem dX11_touch_80 : decode cX11_touch 80 = .ok (.goto (-31), 3) := by decide +kernel
theorem dX11_touch_83 : decode cX11_touch 83 = .ok (.aload_n 0, 1) := by decide +kernel
theorem dX11_touch_84 : decode cX11_touch 84 = .ok (.iconst 0, 1) := by decide +kernel
theorem dX11_touch_85 : decode cX11_touch 85 = .ok (.putfield 156, 3) := by decide +kernel
theorem dX11_touch_88 : decode cX11_touch 88 = .ok (.aload_n 0, 1) := by decide +kernel
theorem dX11_touch_89 : decode cX11_touch 89 = .ok (.dup, 1) := by decide +kernel
theorem dX11_touch_90 : decode cX11_touch 90 = .ok (.getfield 159, 3) := by decide +kernel
theorem dX11_touch_93 : decode cX11_touch 93 = .ok (.iconst 1, 1) := by decide +kernel
theorem dX11_touch_94 : decode cX11_touch 94 = .ok (.iadd, 1) := by decide +kernel
theorem dX11_touch_95 : decode cX11_touch 95 = .ok (.putfield 159, 3) := by decide +kernel
theorem dX11_touch_98 : decode cX11_touch 98 = .ok (.aload_n 0, 1) := by decide +kernel
theorem dX11_touch_99 : decode cX11_touch 99 = .ok (.getfield 159, 3) := by decide +kernel
theorem dX11_touch_102 : decode cX11_touch 102 = .ok (.iconst 1, 1) := by decide +kernel
theorem dX11_touch_103 : decode cX11_touch 103 = .ok (.isub, 1) := by decide +kernel
theorem dX11_touch_104 : decode cX11_touch 104 = .ok (.ireturn, 1) := by decide +kernel
theorem dX11_stageOf_0 : decode cX11_stageOf 0 = .ok (.aload_n 0, 1) := by decide +kernel
theorem dX11_stageOf_1 : decode cX11_stageOf 1 = .ok (.getfield 13, 3) := by decide +kernel
theorem dX11_stageOf_4 : decode cX11_stageOf 4 = .ok (.aload_n 0, 1) := by decide +kernel
theorem dX11_stageOf_5 : decode cX11_stageOf 5 = .ok (.getfield 31, 3) := by decide +kernel
theorem dX11_stageOf_8 : decode cX11_stageOf 8 = .ok (.bipush 20, 2) := by decide +kernel
theorem dX11_stageOf_10 : decode cX11_stageOf 10 = .ok (.iload_n 1, 1) := by decide +kernel
theorem dX11_stageOf_11 : decode cX11_stageOf 11 = .ok (.imul, 1) := by decide +kernel
theorem dX11_stageOf_12 : decode cX11_stageOf 12 = .ok (.iaload, 1) := by decide +kernel
theorem dX11_stageOf_13 : decode cX11_stageOf 13 = .ok (.iconst 3, 1) := by decide +kernel
theorem dX11_stageOf_14 : decode cX11_stageOf 14 = .ok (.idiv, 1) := by decide +kernel
theorem dX11_stageOf_15 : decode cX11_stageOf 15 = .ok (.iaload, 1) := by decide +kernel
theorem dX11_stageOf_16 : decode cX11_stageOf 16 = .ok (.ireturn, 1) := by decide +kernel
theorem dX11_writes_0 : decode cX11_writes 0 = .ok (.aload_n 0, 1) := by decide +kernel
theorem dX11_writes_1 : decode cX11_writes 1 = .ok (.iconst 0, 1) := by decide +kernel
theorem dX11_writes_2 : decode cX11_writes 2 = .ok (.putfield 162, 3) := by decide +kernel
theorem dX11_writes_5 : decode cX11_writes 5 = .ok (.aload_n 0, 1) := by decide +kernel
theorem dX11_writes_6 : decode cX11_writes 6 = .ok (.iload_n 1, 1) := by decide +kernel
theorem dX11_writes_7 : decode cX11_writes 7 = .ok (.invokevirtual 165, 3) := by decide +kernel
theorem dX11_writes_10 : decode cX11_writes 10 = .ok (.invokestatic 133, 3) := by decide +kernel
theorem dX11_writes_13 : decode cX11_writes 13 = .ok (.istore_n 2, 1) := by decide +kernel
theorem dX11_writes_14 : decode cX11_writes 14 = .ok (.iconst 0, 1) := by decide +kernel
theorem dX11_writes_15 : decode cX11_writes 15 = .ok (.istore_n 3, 1) := by decide +kernel
theorem dX11_writes_16 : decode cX11_writes 16 = .ok (.iload_n 3, 1) := by decide +kernel
theorem dX11_writes_17 : decode cX11_writes 17 = .ok (.aload_n 0, 1) := by decide +kernel
theorem dX11_writes_18 : decode cX11_writes 18 = .ok (.getfield 28, 3) := by decide +kernel
theorem dX11_writes_21 : decode cX11_writes 21 = .ok (.iload_n 1, 1) := by decide +kernel
theorem dX11_writes_22 : decode cX11_writes 22 = .ok (.iaload, 1) := by decide +kernel
theorem dX11_writes_23 : decode cX11_writes 23 = .ok (.if_icmp .ge 98, 3) := by decide +kernel
theorem dX11_writes_26 : decode cX11_writes 26 = .ok (.aload_n 0, 1) := by decide +kernel
theorem dX11_writes_27 : decode cX11_writes 27 = .ok (.getfield 31, 3) := by decide +kernel
theorem dX11_writes_30 : decode cX11_writes 30 = .ok (.bipush 20, 2) := by decide +kernel
theorem dX11_writes_32 : decode cX11_writes 32 = .ok (.iload_n 1, 1) := by decide +kernel
theorem dX11_writes_33 : decode cX11_writes 33 = .ok (.imul, 1) := by decide +kernel
theorem dX11_writes_34 : decode cX11_writes 34 = .ok (.iload_n 3, 1) := by decide +kernel
theorem dX11_writes_35 : decode cX11_writes 35 = .ok (.iadd, 1) := by decide +kernel
theorem dX11_writes_36 : decode cX11_writes 36 = .ok (.iaload, 1) := by decide +kernel
theorem dX11_writes_37 : decode cX11_writes 37 = .ok (.iconst 3, 1) := by decide +kernel
theorem dX11_writes_38 : decode cX11_writes 38 = .ok (.idiv, 1) := by decide +kernel
theorem dX11_writes_39 : decode cX11_writes 39 = .ok (.istore 4, 2) := by decide +kernel
theorem dX11_writes_41 : decode cX11_writes 41 = .ok (.iconst 0, 1) := by decide +kernel
theorem dX11_writes_42 : decode cX11_writes 42 = .ok (.istore 5, 2) := by decide +kernel
theorem dX11_writes_44 : decode cX11_writes 44 = .ok (.iload 5, 2) := by decide +kernel
theorem dX11_writes_46 : decode cX11_writes 46 = .ok (.aload_n 0, 1) := by decide +kernel
theorem dX11_writes_47 : decode cX11_writes 47 = .ok (.getfield 16, 3) := by decide +kernel
theorem dX11_writes_50 : decode cX11_writes 50 = .ok (.iload 4, 2) := by decide +kernel
theorem dX11_writes_52 : decode cX11_writes 52 = .ok (.iaload, 1) := by decide +kernel
theorem dX11_writes_53 : decode cX11_writes 53 = .ok (.if_icmp .ge 62, 3) := by decide +kernel
theorem dX11_writes_56 : decode cX11_writes 56 = .ok (.iload_n 2, 1) := by decide +kernel
theorem dX11_writes_57 : decode cX11_writes 57 = .ok (.aload_n 0, 1) := by decide +kernel
theorem dX11_writes_58 : decode cX11_writes 58 = .ok (.getfield 13, 3) := by decide +kernel
theorem dX11_writes_61 : decode cX11_writes 61 = .ok (.iload 4, 2) := by decide +kernel
theorem dX11_writes_63 : decode cX11_writes 63 = .ok (.iaload, 1) := by decide +kernel
theorem dX11_writes_64 : decode cX11_writes 64 = .ok (.aload_n 0, 1) := by decide +kernel
theorem dX11_writes_65 : decode cX11_writes 65 = .ok (.iload 4, 2) := by decide +kernel
theorem dX11_writes_67 : decode cX11_writes 67 = .ok (.aload_n 0, 1) := by decide +kernel
theorem dX11_writes_68 : decode cX11_writes 68 = .ok (.getfield 31, 3) := by decide +kernel
theorem dX11_writes_71 : decode cX11_writes 71 = .ok (.bipush 20, 2) := by decide +kernel
theorem dX11_writes_73 : decode cX11_writes 73 = .ok (.iload_n 1, 1) := by decide +kernel
theorem dX11_writes_74 : decode cX11_writes 74 = .ok (.imul, 1) := by decide +kernel
theorem dX11_writes_75 : decode cX11_writes 75 = .ok (.iload_n 3, 1) := by decide +kernel
theorem dX11_writes_76 : decode cX11_writes 76 = .ok (.iadd, 1) := by decide +kernel
theorem dX11_writes_77 : decode cX11_writes 77 = .ok (.iaload, 1) := by decide +kernel
theorem dX11_writes_78 : decode cX11_writes 78 = .ok (.iconst 3, 1) := by decide +kernel
theorem dX11_writes_79 : decode cX11_writes 79 = .ok (.irem, 1) := by decide +kernel
theorem dX11_writes_80 : decode cX11_writes 80 = .ok (.iload 5, 2) := by decide +kernel
theorem dX11_writes_82 : decode cX11_writes 82 = .ok (.invokevirtual 126, 3) := by decide +kernel
theorem dX11_writes_85 : decode cX11_writes 85 = .ok (.invokestatic 130, 3) := by decide +kernel
theorem dX11_writes_88 : decode cX11_writes 88 = .ok (.istore_n 2, 1) := by decide +kernel
theorem dX11_writes_89 : decode cX11_writes 89 = .ok (.aload_n 0, 1) := by decide +kernel
theorem dX11_writes_90 : decode cX11_writes 90 = .ok (.getfield 34, 3) := by decide +kernel
theorem dX11_writes_93 : decode cX11_writes 93 = .ok (.aload_n 0, 1) := by decide +kernel
theorem dX11_writes_94 : decode cX11_writes 94 = .ok (.getfield 162, 3) := by decide +kernel
theorem dX11_writes_97 : decode cX11_writes 97 = .ok (.iload_n 2, 1) := by decide +kernel
theorem dX11_writes_98 : decode cX11_writes 98 = .ok (.iastore, 1) := by decide +kernel
theorem dX11_writes_99 : decode cX11_writes 99 = .ok (.aload_n 0, 1) := by decide +kernel
theorem dX11_writes_100 : decode cX11_writes 100 = .ok (.dup, 1) := by decide +kernel
theorem dX11_writes_101 : decode cX11_writes 101 = .ok (.getfield 162, 3) := by decide +kernel
theorem dX11_writes_104 : decode cX11_writes 104 = .ok (.iconst 1, 1) := by decide +kernel
theorem dX11_writes_105 : decode cX11_writes 105 = .ok (.iadd, 1) := by decide +kernel
theorem dX11_writes_106 : decode cX11_writes 106 = .ok (.putfield 162, 3) := by decide +kernel
theorem dX11_writes_109 : decode cX11_writes 109 = .ok (.iinc 5 1, 3) := by decide +kernel
theorem dX11_writes_112 : decode cX11_writes 112 = .ok (.goto (-68), 3) := by decide +kernel
theorem dX11_writes_115 : decode cX11_writes 115 = .ok (.iinc 3 1, 3) := by decide +kernel
theorem dX11_writes_118 : decode cX11_writes 118 = .ok (.goto (-102), 3) := by decide +kernel
theorem dX11_writes_121 : decode cX11_writes 121 = .ok (.return_, 1) := by decide +kernel
theorem dX11_repeat_0 : decode cX11_repeat 0 = .ok (.iconst (-1), 1) := by decide +kernel
theorem dX11_repeat_1 : decode cX11_repeat 1 = .ok (.istore_n 1, 1) := by decide +kernel
theorem dX11_repeat_2 : decode cX11_repeat 2 = .ok (.aload_n 0, 1) := by decide +kernel
theorem dX11_repeat_3 : decode cX11_repeat 3 = .ok (.getfield 162, 3) := by decide +kernel
theorem dX11_repeat_6 : decode cX11_repeat 6 = .ok (.iconst 1, 1) := by decide +kernel
theorem dX11_repeat_7 : decode cX11_repeat 7 = .ok (.isub, 1) := by decide +kernel
theorem dX11_repeat_8 : decode cX11_repeat 8 = .ok (.istore_n 2, 1) := by decide +kernel
theorem dX11_repeat_9 : decode cX11_repeat 9 = .ok (.iload_n 2, 1) := by decide +kernel
theorem dX11_repeat_10 : decode cX11_repeat 10 = .ok (.ifCond .le 43, 3) := by decide +kernel
theorem dX11_repeat_13 : decode cX11_repeat 13 = .ok (.iconst 0, 1) := by decide +kernel
theorem dX11_repeat_14 : decode cX11_repeat 14 = .ok (.istore_n 3, 1) := by decide +kernel
theorem dX11_repeat_15 : decode cX11_repeat 15 = .ok (.iload_n 3, 1) := by decide +kernel
theorem dX11_repeat_16 : decode cX11_repeat 16 = .ok (.iload_n 2, 1) := by decide +kernel
theorem dX11_repeat_17 : decode cX11_repeat 17 = .ok (.if_icmp .ge 30, 3) := by decide +kernel
theorem dX11_repeat_20 : decode cX11_repeat 20 = .ok (.aload_n 0, 1) := by decide +kernel
theorem dX11_repeat_21 : decode cX11_repeat 21 = .ok (.getfield 34, 3) := by decide +kernel
theorem dX11_repeat_24 : decode cX11_repeat 24 = .ok (.iload_n 3, 1) := by decide +kernel
theorem dX11_repeat_25 : decode cX11_repeat 25 = .ok (.iaload, 1) := by decide +kernel
theorem dX11_repeat_26 : decode cX11_repeat 26 = .ok (.aload_n 0, 1) := by decide +kernel
theorem dX11_repeat_27 : decode cX11_repeat 27 = .ok (.getfield 34, 3) := by decide +kernel
theorem dX11_repeat_30 : decode cX11_repeat 30 = .ok (.iload_n 2, 1) := by decide +kernel
theorem dX11_repeat_31 : decode cX11_repeat 31 = .ok (.iaload, 1) := by decide +kernel
theorem dX11_repeat_32 : decode cX11_repeat 32 = .ok (.if_icmp .ne 7, 3) := by decide +kernel
theorem dX11_repeat_35 : decode cX11_repeat 35 = .ok (.iload_n 2, 1) := by decide +kernel
theorem dX11_repeat_36 : decode cX11_repeat 36 = .ok (.goto 4, 3) := by decide +kernel
theorem dX11_repeat_39 : decode cX11_repeat 39 = .ok (.iload_n 1, 1) := by decide +kernel
theorem dX11_repeat_40 : decode cX11_repeat 40 = .ok (.istore_n 1, 1) := by decide +kernel
theorem dX11_repeat_41 : decode cX11_repeat 41 = .ok (.iinc 3 1, 3) := by decide +kernel
theorem dX11_repeat_44 : decode cX11_repeat 44 = .ok (.goto (-29), 3) := by decide +kernel
theorem dX11_repeat_47 : decode cX11_repeat 47 = .ok (.iinc 2 (-1), 3) := by decide +kernel
theorem dX11_repeat_50 : decode cX11_repeat 50 = .ok (.goto (-41), 3) := by decide +kernel
theorem dX11_repeat_53 : decode cX11_repeat 53 = .ok (.iload_n 1, 1) := by decide +kernel
theorem dX11_repeat_54 : decode cX11_repeat 54 = .ok (.ireturn, 1) := by decide +kernel
theorem dX11_isSound_0 : decode cX11_isSound 0 = .ok (.aload_n 0, 1) := by decide +kernel
theorem dX11_isSound_1 : decode cX11_isSound 1 = .ok (.iload_n 1, 1) := by decide +kernel
theorem dX11_isSound_2 : decode cX11_isSound 2 = .ok (.invokevirtual 168, 3) := by decide +kernel
theorem dX11_isSound_5 : decode cX11_isSound 5 = .ok (.aload_n 0, 1) := by decide +kernel
theorem dX11_isSound_6 : decode cX11_isSound 6 = .ok (.getfield 34, 3) := by decide +kernel
theorem dX11_isSound_9 : decode cX11_isSound 9 = .ok (.aload_n 0, 1) := by decide +kernel
theorem dX11_isSound_10 : decode cX11_isSound 10 = .ok (.getfield 162, 3) := by decide +kernel
theorem dX11_isSound_13 : decode cX11_isSound 13 = .ok (.iconst 1, 1) := by decide +kernel
theorem dX11_isSound_14 : decode cX11_isSound 14 = .ok (.isub, 1) := by decide +kernel
theorem dX11_isSound_15 : decode cX11_isSound 15 = .ok (.iaload, 1) := by decide +kernel
theorem dX11_isSound_16 : decode cX11_isSound 16 = .ok (.aload_n 0, 1) := by decide +kernel
theorem dX11_isSound_17 : decode cX11_isSound 17 = .ok (.iload_n 1, 1) := by decide +kernel
theorem dX11_isSound_18 : decode cX11_isSound 18 = .ok (.invokevirtual 165, 3) := by decide +kernel
theorem dX11_isSound_21 : decode cX11_isSound 21 = .ok (.invokestatic 133, 3) := by decide +kernel
theorem dX11_isSound_24 : decode cX11_isSound 24 = .ok (.if_icmp .ne 15, 3) := by decide +kernel
theorem dX11_isSound_27 : decode cX11_isSound 27 = .ok (.aload_n 0, 1) := by decide +kernel
theorem dX11_isSound_28 : decode cX11_isSound 28 = .ok (.invokevirtual 171, 3) := by decide +kernel
theorem dX11_isSound_31 : decode cX11_isSound 31 = .ok (.iconst (-1), 1) := by decide +kernel
theorem dX11_isSound_32 : decode cX11_isSound 32 = .ok (.if_icmp .ne 7, 3) := by decide +kernel
theorem dX11_isSound_35 : decode cX11_isSound 35 = .ok (.iconst 1, 1) := by decide +kernel
theorem dX11_isSound_36 : decode cX11_isSound 36 = .ok (.goto 4, 3) := by decide +kernel
theorem dX11_isSound_39 : decode cX11_isSound 39 = .ok (.iconst 0, 1) := by decide +kernel
theorem dX11_isSound_40 : decode cX11_isSound 40 = .ok (.ireturn, 1) := by decide +kernel
theorem dX11_compose_0 : decode cX11_compose 0 = .ok (.aload_n 0, 1) := by decide +kernel
theorem dX11_compose_1 : decode cX11_compose 1 = .ok (.aload_n 0, 1) := by decide +kernel
theorem dX11_compose_2 : decode cX11_compose 2 = .ok (.iload_n 1, 1) := by decide +kernel
theorem dX11_compose_3 : decode cX11_compose 3 = .ok (.invokevirtual 108, 3) := by decide +kernel
theorem dX11_compose_6 : decode cX11_compose 6 = .ok (.ifCond .ne 7, 3) := by decide +kernel
theorem dX11_compose_9 : decode cX11_compose 9 = .ok (.iconst 1, 1) := by decide +kernel
theorem dX11_compose_10 : decode cX11_compose 10 = .ok (.goto 31, 3) := by decide +kernel
theorem dX11_compose_13 : decode cX11_compose 13 = .ok (.iload_n 2, 1) := by decide +kernel
theorem dX11_compose_14 : decode cX11_compose 14 = .ok (.iconst 1, 1) := by decide +kernel
theorem dX11_compose_15 : decode cX11_compose 15 = .ok (.bipush 6, 2) := by decide +kernel
theorem dX11_compose_17 : decode cX11_compose 17 = .ok (.invokestatic 90, 3) := by decide +kernel
theorem dX11_compose_20 : decode cX11_compose 20 = .ok (.ifCond .ne 7, 3) := by decide +kernel
theorem dX11_compose_23 : decode cX11_compose 23 = .ok (.iconst 2, 1) := by decide +kernel
theorem dX11_compose_24 : decode cX11_compose 24 = .ok (.goto 17, 3) := by decide +kernel
theorem dX11_compose_27 : decode cX11_compose 27 = .ok (.aload_n 0, 1) := by decide +kernel
theorem dX11_compose_28 : decode cX11_compose 28 = .ok (.getfield 159, 3) := by decide +kernel
theorem dX11_compose_31 : decode cX11_compose 31 = .ok (.bipush 12, 2) := by decide +kernel
theorem dX11_compose_33 : decode cX11_compose 33 = .ok (.if_icmp .ne 7, 3) := by decide +kernel
theorem dX11_compose_36 : decode cX11_compose 36 = .ok (.iconst 3, 1) := by decide +kernel
theorem dX11_compose_37 : decode cX11_compose 37 = .ok (.goto 4, 3) := by decide +kernel
theorem dX11_compose_40 : decode cX11_compose 40 = .ok (.iconst 0, 1) := by decide +kernel
theorem dX11_compose_41 : decode cX11_compose 41 = .ok (.putfield 87, 3) := by decide +kernel
theorem dX11_compose_44 : decode cX11_compose 44 = .ok (.aload_n 0, 1) := by decide +kernel
theorem dX11_compose_45 : decode cX11_compose 45 = .ok (.getfield 87, 3) := by decide +kernel
theorem dX11_compose_48 : decode cX11_compose 48 = .ok (.ifCond .le 5, 3) := by decide +kernel
theorem dX11_compose_51 : decode cX11_compose 51 = .ok (.iconst 0, 1) := by decide +kernel
theorem dX11_compose_52 : decode cX11_compose 52 = .ok (.ireturn, 1) := by decide +kernel
theorem dX11_compose_53 : decode cX11_compose 53 = .ok (.iconst 1, 1) := by decide +kernel
theorem dX11_compose_54 : decode cX11_compose 54 = .ok (.istore_n 3, 1) := by decide +kernel
theorem dX11_compose_55 : decode cX11_compose 55 = .ok (.iconst 0, 1) := by decide +kernel
theorem dX11_compose_56 : decode cX11_compose 56 = .ok (.istore 4, 2) := by decide +kernel
theorem dX11_compose_58 : decode cX11_compose 58 = .ok (.iload 4, 2) := by decide +kernel
theorem dX11_compose_60 : decode cX11_compose 60 = .ok (.iload_n 2, 1) := by decide +kernel
theorem dX11_compose_61 : decode cX11_compose 61 = .ok (.if_icmp .ge 13, 3) := by decide +kernel
theorem dX11_compose_64 : decode cX11_compose 64 = .ok (.iload_n 3, 1) := by decide +kernel
theorem dX11_compose_65 : decode cX11_compose 65 = .ok (.iconst 3, 1) := by decide +kernel
theorem dX11_compose_66 : decode cX11_compose 66 = .ok (.imul, 1) := by decide +kernel
theorem dX11_compose_67 : decode cX11_compose 67 = .ok (.istore_n 3, 1) := by decide +kernel
theorem dX11_compose_68 : decode cX11_compose 68 = .ok (.iinc 4 1, 3) := by decide +kernel
theorem dX11_compose_71 : decode cX11_compose 71 = .ok (.goto (-13), 3) := by decide +kernel
theorem dX11_compose_74 : decode cX11_compose 74 = .ok (.aload_n 0, 1) := by decide +kernel
theorem dX11_compose_75 : decode cX11_compose 75 = .ok (.getfield 28, 3) := by decide +kernel
theorem dX11_compose_78 : decode cX11_compose 78 = .ok (.aload_n 0, 1) := by decide +kernel
theorem dX11_compose_79 : decode cX11_compose 79 = .ok (.getfield 159, 3) := by decide +kernel
theorem dX11_compose_82 : decode cX11_compose 82 = .ok (.iload_n 2, 1) := by decide +kernel
theorem dX11_compose_83 : decode cX11_compose 83 = .ok (.iastore, 1) := by decide +kernel
theorem dX11_compose_84 : decode cX11_compose 84 = .ok (.iconst 0, 1) := by decide +kernel
theorem dX11_compose_85 : decode cX11_compose 85 = .ok (.istore 4, 2) := by decide +kernel
theorem dX11_compose_87 : decode cX11_compose 87 = .ok (.iconst 0, 1) := by decide +kernel
theorem dX11_compose_88 : decode cX11_compose 88 = .ok (.istore 5, 2) := by decide +kernel
theorem dX11_compose_90 : decode cX11_compose 90 = .ok (.iload 5, 2) := by decide +kernel
theorem dX11_compose_92 : decode cX11_compose 92 = .ok (.iload_n 3, 1) := by decide +kernel
theorem dX11_compose_93 : decode cX11_compose 93 = .ok (.if_icmp .ge 73, 3) := by decide +kernel
theorem dX11_compose_96 : decode cX11_compose 96 = .ok (.iload 4, 2) := by decide +kernel
theorem dX11_compose_98 : decode cX11_compose 98 = .ok (.ifCond .ne 68, 3) := by decide +kernel
theorem dX11_compose_101 : decode cX11_compose 101 = .ok (.iload 5, 2) := by decide +kernel
theorem dX11_compose_103 : decode cX11_compose 103 = .ok (.istore 6, 2) := by decide +kernel
theorem dX11_compose_105 : decode cX11_compose 105 = .ok (.iload_n 2, 1) := by decide +kernel
theorem dX11_compose_106 : decode cX11_compose 106 = .ok (.iconst 1, 1) := by decide +kernel
theorem dX11_compose_107 : decode cX11_compose 107 = .ok (.isub, 1) := by decide +kernel
theorem dX11_compose_108 : decode cX11_compose 108 = .ok (.istore 7, 2) := by decide +kernel
theorem dX11_compose_110 : decode cX11_compose 110 = .ok (.iload 7, 2) := by decide +kernel
theorem dX11_compose_112 : decode cX11_compose 112 = .ok (.ifCond .lt 38, 3) := by decide +kernel
theorem dX11_compose_115 : decode cX11_compose 115 = .ok (.aload_n 0, 1) := by decide +kernel
theorem dX11_compose_116 : decode cX11_compose 116 = .ok (.getfield 31, 3) := by decide +kernel
theorem dX11_compose_119 : decode cX11_compose 119 = .ok (.bipush 20, 2) := by decide +kernel
theorem dX11_compose_121 : decode cX11_compose 121 = .ok (.aload_n 0, 1) := by decide +kernel
theorem dX11_compose_122 : decode cX11_compose 122 = .ok (.getfield 159, 3) := by decide +kernel
theorem dX11_compose_125 : decode cX11_compose 125 = .ok (.imul, 1) := by decide +kernel
theorem dX11_compose_126 : decode cX11_compose 126 = .ok (.iload 7, 2) := by decide +kernel
theorem dX11_compose_128 : decode cX11_compose 128 = .ok (.iadd, 1) := by decide +kernel
theorem dX11_compose_129 : decode cX11_compose 129 = .ok (.iconst 3, 1) := by decide +kernel
theorem dX11_compose_130 : decode cX11_compose 130 = .ok (.iload_n 1, 1) := by decide +kernel
theorem dX11_compose_131 : decode cX11_compose 131 = .ok (.imul, 1) := by decide +kernel
theorem dX11_compose_132 : decode cX11_compose 132 = .ok (.iload 6, 2) := by decide +kernel
theorem dX11_compose_134 : decode cX11_compose 134 = .ok (.iconst 3, 1) := by decide +kernel
theorem dX11_compose_135 : decode cX11_compose 135 = .ok (.irem, 1) := by decide +kernel
theorem dX11_compose_136 : decode cX11_compose 136 = .ok (.iadd, 1) := by decide +kernel
theorem dX11_compose_137 : decode cX11_compose 137 = .ok (.iastore, 1) := by decide +kernel
theorem dX11_compose_138 : decode cX11_compose 138 = .ok (.iload 6, 2) := by decide +kernel
theorem dX11_compose_140 : decode cX11_compose 140 = .ok (.iconst 3, 1) := by decide +kernel
theorem dX11_compose_141 : decode cX11_compose 141 = .ok (.idiv, 1) := by decide +kernel
theorem dX11_compose_142 : decode cX11_compose 142 = .ok (.istore 6, 2) := by decide +kernel
theorem dX11_compose_144 : decode cX11_compose 144 = .ok (.iinc 7 (-1), 3) := by decide +kernel
theorem dX11_compose_147 : decode cX11_compose 147 = .ok (.goto (-37), 3) := by decide +kernel
theorem dX11_compose_150 : decode cX11_compose 150 = .ok (.aload_n 0, 1) := by decide +kernel
theorem dX11_compose_151 : decode cX11_compose 151 = .ok (.aload_n 0, 1) := by decide +kernel
theorem dX11_compose_152 : decode cX11_compose 152 = .ok (.getfield 159, 3) := by decide +kernel
theorem dX11_compose_155 : decode cX11_compose 155 = .ok (.invokevirtual 174, 3) := by decide +kernel
theorem dX11_compose_158 : decode cX11_compose 158 = .ok (.istore 4, 2) := by decide +kernel
theorem dX11_compose_160 : decode cX11_compose 160 = .ok (.iinc 5 1, 3) := by decide +kernel
theorem dX11_compose_163 : decode cX11_compose 163 = .ok (.goto (-73), 3) := by decide +kernel
theorem dX11_compose_166 : decode cX11_compose 166 = .ok (.aload_n 0, 1) := by decide +kernel
theorem dX11_compose_167 : decode cX11_compose 167 = .ok (.dup, 1) := by decide +kernel
theorem dX11_compose_168 : decode cX11_compose 168 = .ok (.getfield 159, 3) := by decide +kernel
theorem dX11_compose_171 : decode cX11_compose 171 = .ok (.iload 4, 2) := by decide +kernel
theorem dX11_compose_173 : decode cX11_compose 173 = .ok (.ifCond .eq 7, 3) := by decide +kernel
theorem dX11_compose_176 : decode cX11_compose 176 = .ok (.iconst 1, 1) := by decide +kernel
theorem dX11_compose_177 : decode cX11_compose 177 = .ok (.goto 4, 3) := by decide +kernel
theorem dX11_compose_180 : decode cX11_compose 180 = .ok (.iconst 0, 1) := by decide +kernel
theorem dX11_compose_181 : decode cX11_compose 181 = .ok (.iadd, 1) := by decide +kernel
theorem dX11_compose_182 : decode cX11_compose 182 = .ok (.putfield 159, 3) := by decide +kernel
theorem dX11_compose_185 : decode cX11_compose 185 = .ok (.iload 4, 2) := by decide +kernel
theorem dX11_compose_187 : decode cX11_compose 187 = .ok (.ifCond .eq 12, 3) := by decide +kernel
theorem dX11_compose_190 : decode cX11_compose 190 = .ok (.aload_n 0, 1) := by decide +kernel
theorem dX11_compose_191 : decode cX11_compose 191 = .ok (.getfield 159, 3) := by decide +kernel
theorem dX11_compose_194 : decode cX11_compose 194 = .ok (.iconst 1, 1) := by decide +kernel
theorem dX11_compose_195 : decode cX11_compose 195 = .ok (.isub, 1) := by decide +kernel
theorem dX11_compose_196 : decode cX11_compose 196 = .ok (.goto 4, 3) := by decide +kernel
theorem dX11_compose_199 : decode cX11_compose 199 = .ok (.iconst (-1), 1) := by decide +kernel
theorem dX11_compose_200 : decode cX11_compose 200 = .ok (.ireturn, 1) := by decide +kernel
theorem dX11_isTouch_0 : decode cX11_isTouch 0 = .ok (.iload_n 1, 1) := by decide +kernel
theorem dX11_isTouch_1 : decode cX11_isTouch 1 = .ok (.iconst 0, 1) := by decide +kernel
theorem dX11_isTouch_2 : decode cX11_isTouch 2 = .ok (.aload_n 0, 1) := by decide +kernel
theorem dX11_isTouch_3 : decode cX11_isTouch 3 = .ok (.getfield 159, 3) := by decide +kernel
theorem dX11_isTouch_6 : decode cX11_isTouch 6 = .ok (.iconst 1, 1) := by decide +kernel
theorem dX11_isTouch_7 : decode cX11_isTouch 7 = .ok (.isub, 1) := by decide +kernel
theorem dX11_isTouch_8 : decode cX11_isTouch 8 = .ok (.invokestatic 90, 3) := by decide +kernel
theorem dX11_isTouch_11 : decode cX11_isTouch 11 = .ok (.ireturn, 1) := by decide +kernel
theorem dX11_asksTouch_0 : decode cX11_asksTouch 0 = .ok (.aload_n 0, 1) := by decide +kernel
theorem dX11_asksTouch_1 : decode cX11_asksTouch 1 = .ok (.aload_n 0, 1) := by decide +kernel
theorem dX11_asksTouch_2 : decode cX11_asksTouch 2 = .ok (.iload_n 1, 1) := by decide +kernel
theorem dX11_asksTouch_3 : decode cX11_asksTouch 3 = .ok (.invokevirtual 177, 3) := by decide +kernel
theorem dX11_asksTouch_6 : decode cX11_asksTouch 6 = .ok (.ifCond .eq 7, 3) := by decide +kernel
theorem dX11_asksTouch_9 : decode cX11_asksTouch 9 = .ok (.iconst 0, 1) := by decide +kernel
theorem dX11_asksTouch_10 : decode cX11_asksTouch 10 = .ok (.goto 4, 3) := by decide +kernel
theorem dX11_asksTouch_13 : decode cX11_asksTouch 13 = .ok (.iconst 1, 1) := by decide +kernel
theorem dX11_asksTouch_14 : decode cX11_asksTouch 14 = .ok (.putfield 87, 3) := by decide +kernel
theorem dX11_asksTouch_17 : decode cX11_asksTouch 17 = .ok (.aload_n 0, 1) := by decide +kernel
theorem dX11_asksTouch_18 : decode cX11_asksTouch 18 = .ok (.getfield 87, 3) := by decide +kernel
theorem dX11_asksTouch_21 : decode cX11_asksTouch 21 = .ok (.ifCond .ne 8, 3) := by decide +kernel
theorem dX11_asksTouch_24 : decode cX11_asksTouch 24 = .ok (.aload_n 0, 1) := by decide +kernel
theorem dX11_asksTouch_25 : decode cX11_asksTouch 25 = .ok (.iload_n 1, 1) := by decide +kernel
theorem dX11_asksTouch_26 : decode cX11_asksTouch 26 = .ok (.invokevirtual 168, 3) := by decide +kernel
theorem dX11_asksTouch_29 : decode cX11_asksTouch 29 = .ok (.aload_n 0, 1) := by decide +kernel
theorem dX11_asksTouch_30 : decode cX11_asksTouch 30 = .ok (.getfield 87, 3) := by decide +kernel
theorem dX11_asksTouch_33 : decode cX11_asksTouch 33 = .ok (.ifCond .ne 7, 3) := by decide +kernel
theorem dX11_asksTouch_36 : decode cX11_asksTouch 36 = .ok (.iconst 1, 1) := by decide +kernel
theorem dX11_asksTouch_37 : decode cX11_asksTouch 37 = .ok (.goto 4, 3) := by decide +kernel
theorem dX11_asksTouch_40 : decode cX11_asksTouch 40 = .ok (.iconst 0, 1) := by decide +kernel
theorem dX11_asksTouch_41 : decode cX11_asksTouch 41 = .ok (.ireturn, 1) := by decide +kernel
theorem dX11_touches_0 : decode cX11_touches 0 = .ok (.aload_n 0, 1) := by decide +kernel
theorem dX11_touches_1 : decode cX11_touches 1 = .ok (.iconst 0, 1) := by decide +kernel
theorem dX11_touches_2 : decode cX11_touches 2 = .ok (.putfield 87, 3) := by decide +kernel
theorem dX11_touches_5 : decode cX11_touches 5 = .ok (.aload_n 0, 1) := by decide +kernel
theorem dX11_touches_6 : decode cX11_touches 6 = .ok (.getfield 159, 3) := by decide +kernel
theorem dX11_touches_9 : decode cX11_touches 9 = .ok (.ireturn, 1) := by decide +kernel
theorem dX11_leads_0 : decode cX11_leads 0 = .ok (.aload_n 0, 1) := by decide +kernel
theorem dX11_leads_1 : decode cX11_leads 1 = .ok (.iload_n 1, 1) := by decide +kernel
theorem dX11_leads_2 : decode cX11_leads 2 = .ok (.invokevirtual 180, 3) := by decide +kernel
theorem dX11_leads_5 : decode cX11_leads 5 = .ok (.ifCond .eq 12, 3) := by decide +kernel
theorem dX11_leads_8 : decode cX11_leads 8 = .ok (.aload_n 0, 1) := by decide +kernel
theorem dX11_leads_9 : decode cX11_leads 9 = .ok (.getfield 28, 3) := by decide +kernel
theorem dX11_leads_12 : decode cX11_leads 12 = .ok (.iload_n 1, 1) := by decide +kernel
theorem dX11_leads_13 : decode cX11_leads 13 = .ok (.iaload, 1) := by decide +kernel
theorem dX11_leads_14 : decode cX11_leads 14 = .ok (.goto 4, 3) := by decide +kernel
theorem dX11_leads_17 : decode cX11_leads 17 = .ok (.iconst 0, 1) := by decide +kernel
theorem dX11_leads_18 : decode cX11_leads 18 = .ok (.ireturn, 1) := by decide +kernel
theorem dX11_leadAt_0 : decode cX11_leadAt 0 = .ok (.aload_n 0, 1) := by decide +kernel
theorem dX11_leadAt_1 : decode cX11_leadAt 1 = .ok (.aload_n 0, 1) := by decide +kernel
theorem dX11_leadAt_2 : decode cX11_leadAt 2 = .ok (.iload_n 1, 1) := by decide +kernel
theorem dX11_leadAt_3 : decode cX11_leadAt 3 = .ok (.invokevirtual 177, 3) := by decide +kernel
theorem dX11_leadAt_6 : decode cX11_leadAt 6 = .ok (.ifCond .eq 23, 3) := by decide +kernel
theorem dX11_leadAt_9 : decode cX11_leadAt 9 = .ok (.iload_n 2, 1) := by decide +kernel
theorem dX11_leadAt_10 : decode cX11_leadAt 10 = .ok (.iconst 0, 1) := by decide +kernel
theorem dX11_leadAt_11 : decode cX11_leadAt 11 = .ok (.aload_n 0, 1) := by decide +kernel
theorem dX11_leadAt_12 : decode cX11_leadAt 12 = .ok (.getfield 28, 3) := by decide +kernel
theorem dX11_leadAt_15 : decode cX11_leadAt 15 = .ok (.iload_n 1, 1) := by decide +kernel
theorem dX11_leadAt_16 : decode cX11_leadAt 16 = .ok (.iaload, 1) := by decide +kernel
theorem dX11_leadAt_17 : decode cX11_leadAt 17 = .ok (.iconst 1, 1) := by decide +kernel
theorem dX11_leadAt_18 : decode cX11_leadAt 18 = .ok (.isub, 1) := by decide +kernel
theorem dX11_leadAt_19 : decode cX11_leadAt 19 = .ok (.invokestatic 90, 3) := by decide +kernel
theorem dX11_leadAt_22 : decode cX11_leadAt 22 = .ok (.ifCond .eq 7, 3) := by decide +kernel
theorem dX11_leadAt_25 : decode cX11_leadAt 25 = .ok (.iconst 0, 1) := by decide +kernel
theorem dX11_leadAt_26 : decode cX11_leadAt 26 = .ok (.goto 4, 3) := by decide +kernel
theorem dX11_leadAt_29 : decode cX11_leadAt 29 = .ok (.iconst 1, 1) := by decide +kernel
theorem dX11_leadAt_30 : decode cX11_leadAt 30 = .ok (.putfield 87, 3) := by decide +kernel
theorem dX11_leadAt_33 : decode cX11_leadAt 33 = .ok (.aload_n 0, 1) := by decide +kernel
theorem dX11_leadAt_34 : decode cX11_leadAt 34 = .ok (.getfield 87, 3) := by decide +kernel
theorem dX11_leadAt_37 : decode cX11_leadAt 37 = .ok (.ifCond .le 7, 3) := by decide +kernel
theorem dX11_leadAt_40 : decode cX11_leadAt 40 = .ok (.iconst 0, 1) := by decide +kernel
theorem dX11_leadAt_41 : decode cX11_leadAt 41 = .ok (.goto 14, 3) := by decide +kernel
theorem dX11_leadAt_44 : decode cX11_leadAt 44 = .ok (.aload_n 0, 1) := by decide +kernel
theorem dX11_leadAt_45 : decode cX11_leadAt 45 = .ok (.getfield 31, 3) := by decide +kernel
theorem dX11_leadAt_48 : decode cX11_leadAt 48 = .ok (.bipush 20, 2) := by decide +kernel
theorem dX11_leadAt_50 : decode cX11_leadAt 50 = .ok (.iload_n 1, 1) := by decide +kernel
theorem dX11_leadAt_51 : decode cX11_leadAt 51 = .ok (.imul, 1) := by decide +kernel
theorem dX11_leadAt_52 : decode cX11_leadAt 52 = .ok (.iload_n 2, 1) := by decide +kernel
theorem dX11_leadAt_53 : decode cX11_leadAt 53 = .ok (.iadd, 1) := by decide +kernel
theorem dX11_leadAt_54 : decode cX11_leadAt 54 = .ok (.iaload, 1) := by decide +kernel
theorem dX11_leadAt_55 : decode cX11_leadAt 55 = .ok (.istore_n 3, 1) := by decide +kernel
theorem dX11_leadAt_56 : decode cX11_leadAt 56 = .ok (.bipush 10, 2) := by decide +kernel
theorem dX11_leadAt_58 : decode cX11_leadAt 58 = .ok (.iload_n 3, 1) := by decide +kernel
theorem dX11_leadAt_59 : decode cX11_leadAt 59 = .ok (.iconst 3, 1) := by decide +kernel
theorem dX11_leadAt_60 : decode cX11_leadAt 60 = .ok (.idiv, 1) := by decide +kernel
theorem dX11_leadAt_61 : decode cX11_leadAt 61 = .ok (.imul, 1) := by decide +kernel
theorem dX11_leadAt_62 : decode cX11_leadAt 62 = .ok (.iload_n 3, 1) := by decide +kernel
theorem dX11_leadAt_63 : decode cX11_leadAt 63 = .ok (.iconst 3, 1) := by decide +kernel
theorem dX11_leadAt_64 : decode cX11_leadAt 64 = .ok (.irem, 1) := by decide +kernel
theorem dX11_leadAt_65 : decode cX11_leadAt 65 = .ok (.iadd, 1) := by decide +kernel
theorem dX11_leadAt_66 : decode cX11_leadAt 66 = .ok (.ireturn, 1) := by decide +kernel
theorem dX11_rows_0 : decode cX11_rows 0 = .ok (.aload_n 0, 1) := by decide +kernel
theorem dX11_rows_1 : decode cX11_rows 1 = .ok (.iload_n 1, 1) := by decide +kernel
theorem dX11_rows_2 : decode cX11_rows 2 = .ok (.invokevirtual 180, 3) := by decide +kernel
theorem dX11_rows_5 : decode cX11_rows 5 = .ok (.ifCond .eq 10, 3) := by decide +kernel
theorem dX11_rows_8 : decode cX11_rows 8 = .ok (.aload_n 0, 1) := by decide +kernel
theorem dX11_rows_9 : decode cX11_rows 9 = .ok (.getfield 162, 3) := by decide +kernel
theorem dX11_rows_12 : decode cX11_rows 12 = .ok (.goto 4, 3) := by decide +kernel
theorem dX11_rows_15 : decode cX11_rows 15 = .ok (.iconst 0, 1) := by decide +kernel
theorem dX11_rows_16 : decode cX11_rows 16 = .ok (.ireturn, 1) := by decide +kernel
theorem dX11_asksRow_0 : decode cX11_asksRow 0 = .ok (.aload_n 0, 1) := by decide +kernel
theorem dX11_asksRow_1 : decode cX11_asksRow 1 = .ok (.iload_n 1, 1) := by decide +kernel
theorem dX11_asksRow_2 : decode cX11_asksRow 2 = .ok (.invokevirtual 180, 3) := by decide +kernel
theorem dX11_asksRow_5 : decode cX11_asksRow 5 = .ok (.ifCond .eq 21, 3) := by decide +kernel
theorem dX11_asksRow_8 : decode cX11_asksRow 8 = .ok (.iload_n 2, 1) := by decide +kernel
theorem dX11_asksRow_9 : decode cX11_asksRow 9 = .ok (.iconst 0, 1) := by decide +kernel
theorem dX11_asksRow_10 : decode cX11_asksRow 10 = .ok (.aload_n 0, 1) := by decide +kernel
theorem dX11_asksRow_11 : decode cX11_asksRow 11 = .ok (.getfield 162, 3) := by decide +kernel
theorem dX11_asksRow_14 : decode cX11_asksRow 14 = .ok (.iconst 1, 1) := by decide +kernel
theorem dX11_asksRow_15 : decode cX11_asksRow 15 = .ok (.isub, 1) := by decide +kernel
theorem dX11_asksRow_16 : decode cX11_asksRow 16 = .ok (.invokestatic 90, 3) := by decide +kernel
theorem dX11_asksRow_19 : decode cX11_asksRow 19 = .ok (.ifCond .eq 7, 3) := by decide +kernel
theorem dX11_asksRow_22 : decode cX11_asksRow 22 = .ok (.iconst 1, 1) := by decide +kernel
theorem dX11_asksRow_23 : decode cX11_asksRow 23 = .ok (.goto 4, 3) := by decide +kernel
theorem dX11_asksRow_26 : decode cX11_asksRow 26 = .ok (.iconst 0, 1) := by decide +kernel
theorem dX11_asksRow_27 : decode cX11_asksRow 27 = .ok (.istore_n 3, 1) := by decide +kernel
theorem dX11_asksRow_28 : decode cX11_asksRow 28 = .ok (.aload_n 0, 1) := by decide +kernel
theorem dX11_asksRow_29 : decode cX11_asksRow 29 = .ok (.iload_n 3, 1) := by decide +kernel
theorem dX11_asksRow_30 : decode cX11_asksRow 30 = .ok (.ifCond .eq 7, 3) := by decide +kernel
theorem dX11_asksRow_33 : decode cX11_asksRow 33 = .ok (.iconst 0, 1) := by decide +kernel
theorem dX11_asksRow_34 : decode cX11_asksRow 34 = .ok (.goto 4, 3) := by decide +kernel
theorem dX11_asksRow_37 : decode cX11_asksRow 37 = .ok (.iconst 1, 1) := by decide +kernel
theorem dX11_asksRow_38 : decode cX11_asksRow 38 = .ok (.putfield 87, 3) := by decide +kernel
theorem dX11_asksRow_41 : decode cX11_asksRow 41 = .ok (.iload_n 3, 1) := by decide +kernel
theorem dX11_asksRow_42 : decode cX11_asksRow 42 = .ok (.ireturn, 1) := by decide +kernel
theorem dX11_rowAt_0 : decode cX11_rowAt 0 = .ok (.aload_n 0, 1) := by decide +kernel
theorem dX11_rowAt_1 : decode cX11_rowAt 1 = .ok (.iload_n 1, 1) := by decide +kernel
theorem dX11_rowAt_2 : decode cX11_rowAt 2 = .ok (.iload_n 2, 1) := by decide +kernel
theorem dX11_rowAt_3 : decode cX11_rowAt 3 = .ok (.invokevirtual 183, 3) := by decide +kernel
theorem dX11_rowAt_6 : decode cX11_rowAt 6 = .ok (.ifCond .eq 20, 3) := by decide +kernel
theorem dX11_rowAt_9 : decode cX11_rowAt 9 = .ok (.aload_n 0, 1) := by decide +kernel
theorem dX11_rowAt_10 : decode cX11_rowAt 10 = .ok (.getfield 34, 3) := by decide +kernel
theorem dX11_rowAt_13 : decode cX11_rowAt 13 = .ok (.iload_n 2, 1) := by decide +kernel
theorem dX11_rowAt_14 : decode cX11_rowAt 14 = .ok (.iaload, 1) := by decide +kernel
theorem dX11_rowAt_15 : decode cX11_rowAt 15 = .ok (.aload_n 0, 1) := by decide +kernel
theorem dX11_rowAt_16 : decode cX11_rowAt 16 = .ok (.iload_n 1, 1) := by decide +kernel
theorem dX11_rowAt_17 : decode cX11_rowAt 17 = .ok (.invokevirtual 165, 3) := by decide +kernel
theorem dX11_rowAt_20 : decode cX11_rowAt 20 = .ok (.invokestatic 140, 3) := by decide +kernel
theorem dX11_rowAt_23 : decode cX11_rowAt 23 = .ok (.goto 4, 3) := by decide +kernel
theorem dX11_rowAt_26 : decode cX11_rowAt 26 = .ok (.iconst 0, 1) := by decide +kernel
theorem dX11_rowAt_27 : decode cX11_rowAt 27 = .ok (.ireturn, 1) := by decide +kernel
theorem dX11_bellAt_0 : decode cX11_bellAt 0 = .ok (.aload_n 0, 1) := by decide +kernel
theorem dX11_bellAt_1 : decode cX11_bellAt 1 = .ok (.iload_n 1, 1) := by decide +kernel
theorem dX11_bellAt_2 : decode cX11_bellAt 2 = .ok (.iload_n 2, 1) := by decide +kernel
theorem dX11_bellAt_3 : decode cX11_bellAt 3 = .ok (.invokevirtual 183, 3) := by decide +kernel
theorem dX11_bellAt_6 : decode cX11_bellAt 6 = .ok (.ifCond .eq 22, 3) := by decide +kernel
theorem dX11_bellAt_9 : decode cX11_bellAt 9 = .ok (.iload_n 3, 1) := by decide +kernel
theorem dX11_bellAt_10 : decode cX11_bellAt 10 = .ok (.iconst 0, 1) := by decide +kernel
theorem dX11_bellAt_11 : decode cX11_bellAt 11 = .ok (.aload_n 0, 1) := by decide +kernel
theorem dX11_bellAt_12 : decode cX11_bellAt 12 = .ok (.iload_n 1, 1) := by decide +kernel
theorem dX11_bellAt_13 : decode cX11_bellAt 13 = .ok (.invokevirtual 165, 3) := by decide +kernel
theorem dX11_bellAt_16 : decode cX11_bellAt 16 = .ok (.iconst 1, 1) := by decide +kernel
theorem dX11_bellAt_17 : decode cX11_bellAt 17 = .ok (.isub, 1) := by decide +kernel
theorem dX11_bellAt_18 : decode cX11_bellAt 18 = .ok (.invokestatic 90, 3) := by decide +kernel
theorem dX11_bellAt_21 : decode cX11_bellAt 21 = .ok (.ifCond .eq 7, 3) := by decide +kernel
theorem dX11_bellAt_24 : decode cX11_bellAt 24 = .ok (.iconst 1, 1) := by decide +kernel
theorem dX11_bellAt_25 : decode cX11_bellAt 25 = .ok (.goto 4, 3) := by decide +kernel
theorem dX11_bellAt_28 : decode cX11_bellAt 28 = .ok (.iconst 0, 1) := by decide +kernel
theorem dX11_bellAt_29 : decode cX11_bellAt 29 = .ok (.istore 4, 2) := by decide +kernel
theorem dX11_bellAt_31 : decode cX11_bellAt 31 = .ok (.aload_n 0, 1) := by decide +kernel
theorem dX11_bellAt_32 : decode cX11_bellAt 32 = .ok (.iload 4, 2) := by decide +kernel
theorem dX11_bellAt_34 : decode cX11_bellAt 34 = .ok (.ifCond .eq 7, 3) := by decide +kernel
theorem dX11_bellAt_37 : decode cX11_bellAt 37 = .ok (.iconst 0, 1) := by decide +kernel
theorem dX11_bellAt_38 : decode cX11_bellAt 38 = .ok (.goto 4, 3) := by decide +kernel
theorem dX11_bellAt_41 : decode cX11_bellAt 41 = .ok (.iconst 1, 1) := by decide +kernel
theorem dX11_bellAt_42 : decode cX11_bellAt 42 = .ok (.putfield 87, 3) := by decide +kernel
theorem dX11_bellAt_45 : decode cX11_bellAt 45 = .ok (.iload 4, 2) := by decide +kernel
theorem dX11_bellAt_47 : decode cX11_bellAt 47 = .ok (.ifCond .eq 16, 3) := by decide +kernel
theorem dX11_bellAt_50 : decode cX11_bellAt 50 = .ok (.aload_n 0, 1) := by decide +kernel
theorem dX11_bellAt_51 : decode cX11_bellAt 51 = .ok (.getfield 34, 3) := by decide +kernel
theorem dX11_bellAt_54 : decode cX11_bellAt 54 = .ok (.iload_n 2, 1) := by decide +kernel
theorem dX11_bellAt_55 : decode cX11_bellAt 55 = .ok (.iaload, 1) := by decide +kernel
theorem dX11_bellAt_56 : decode cX11_bellAt 56 = .ok (.iload_n 3, 1) := by decide +kernel
theorem dX11_bellAt_57 : decode cX11_bellAt 57 = .ok (.invokestatic 94, 3) := by decide +kernel
theorem dX11_bellAt_60 : decode cX11_bellAt 60 = .ok (.goto 4, 3) := by decide +kernel
theorem dX11_bellAt_63 : decode cX11_bellAt 63 = .ok (.iconst 0, 1) := by decide +kernel
theorem dX11_bellAt_64 : decode cX11_bellAt 64 = .ok (.ireturn, 1) := by decide +kernel
theorem dX11_isTrue_0 : decode cX11_isTrue 0 = .ok (.aload_n 0, 1) := by decide +kernel
theorem dX11_isTrue_1 : decode cX11_isTrue 1 = .ok (.iload_n 1, 1) := by decide +kernel
theorem dX11_isTrue_2 : decode cX11_isTrue 2 = .ok (.invokevirtual 180, 3) := by decide +kernel
theorem dX11_isTrue_5 : decode cX11_isTrue 5 = .ok (.ifCond .eq 15, 3) := by decide +kernel
theorem dX11_isTrue_8 : decode cX11_isTrue 8 = .ok (.aload_n 0, 1) := by decide +kernel
theorem dX11_isTrue_9 : decode cX11_isTrue 9 = .ok (.invokevirtual 171, 3) := by decide +kernel
theorem dX11_isTrue_12 : decode cX11_isTrue 12 = .ok (.iconst (-1), 1) := by decide +kernel
theorem dX11_isTrue_13 : decode cX11_isTrue 13 = .ok (.if_icmp .ne 7, 3) := by decide +kernel
theorem dX11_isTrue_16 : decode cX11_isTrue 16 = .ok (.iconst 1, 1) := by decide +kernel
theorem dX11_isTrue_17 : decode cX11_isTrue 17 = .ok (.goto 4, 3) := by decide +kernel
theorem dX11_isTrue_20 : decode cX11_isTrue 20 = .ok (.iconst 0, 1) := by decide +kernel
theorem dX11_isTrue_21 : decode cX11_isTrue 21 = .ok (.ireturn, 1) := by decide +kernel
theorem dX11_comesRound_0 : decode cX11_comesRound 0 = .ok (.aload_n 0, 1) := by decide +kernel
theorem dX11_comesRound_1 : decode cX11_comesRound 1 = .ok (.iload_n 1, 1) := by decide +kernel
theorem dX11_comesRound_2 : decode cX11_comesRound 2 = .ok (.invokevirtual 180, 3) := by decide +kernel
theorem dX11_comesRound_5 : decode cX11_comesRound 5 = .ok (.ifCond .eq 29, 3) := by decide +kernel
theorem dX11_comesRound_8 : decode cX11_comesRound 8 = .ok (.aload_n 0, 1) := by decide +kernel
theorem dX11_comesRound_9 : decode cX11_comesRound 9 = .ok (.getfield 34, 3) := by decide +kernel
theorem dX11_comesRound_12 : decode cX11_comesRound 12 = .ok (.aload_n 0, 1) := by decide +kernel
theorem dX11_comesRound_13 : decode cX11_comesRound 13 = .ok (.getfield 162, 3) := by decide +kernel
theorem dX11_comesRound_16 : decode cX11_comesRound 16 = .ok (.iconst 1, 1) := by decide +kernel
theorem dX11_comesRound_17 : decode cX11_comesRound 17 = .ok (.isub, 1) := by decide +kernel
theorem dX11_comesRound_18 : decode cX11_comesRound 18 = .ok (.iaload, 1) := by decide +kernel
theorem dX11_comesRound_19 : decode cX11_comesRound 19 = .ok (.aload_n 0, 1) := by decide +kernel
theorem dX11_comesRound_20 : decode cX11_comesRound 20 = .ok (.iload_n 1, 1) := by decide +kernel
theorem dX11_comesRound_21 : decode cX11_comesRound 21 = .ok (.invokevirtual 165, 3) := by decide +kernel
theorem dX11_comesRound_24 : decode cX11_comesRound 24 = .ok (.invokestatic 133, 3) := by decide +kernel
theorem dX11_comesRound_27 : decode cX11_comesRound 27 = .ok (.if_icmp .ne 7, 3) := by decide +kernel
theorem dX11_comesRound_30 : decode cX11_comesRound 30 = .ok (.iconst 1, 1) := by decide +kernel
theorem dX11_comesRound_31 : decode cX11_comesRound 31 = .ok (.goto 4, 3) := by decide +kernel
theorem dX11_comesRound_34 : decode cX11_comesRound 34 = .ok (.iconst 0, 1) := by decide +kernel
theorem dX11_comesRound_35 : decode cX11_comesRound 35 = .ok (.ireturn, 1) := by decide +kernel
theorem dX11_firstRepeat_0 : decode cX11_firstRepeat 0 = .ok (.aload_n 0, 1) := by decide +kernel
theorem dX11_firstRepeat_1 : decode cX11_firstRepeat 1 = .ok (.iload_n 1, 1) := by decide +kernel
theorem dX11_firstRepeat_2 : decode cX11_firstRepeat 2 = .ok (.invokevirtual 180, 3) := by decide +kernel
theorem dX11_firstRepeat_5 : decode cX11_firstRepeat 5 = .ok (.ifCond .eq 10, 3) := by decide +kernel
theorem dX11_firstRepeat_8 : decode cX11_firstRepeat 8 = .ok (.aload_n 0, 1) := by decide +kernel
theorem dX11_firstRepeat_9 : decode cX11_firstRepeat 9 = .ok (.invokevirtual 171, 3) := by decide +kernel
theorem dX11_firstRepeat_12 : decode cX11_firstRepeat 12 = .ok (.goto 4, 3) := by decide +kernel
theorem dX11_firstRepeat_15 : decode cX11_firstRepeat 15 = .ok (.iconst 0, 1) := by decide +kernel
theorem dX11_firstRepeat_16 : decode cX11_firstRepeat 16 = .ok (.ireturn, 1) := by decide +kernel
theorem dX11_isBell_0 : decode cX11_isBell 0 = .ok (.iload_n 0, 1) := by decide +kernel
theorem dX11_isBell_1 : decode cX11_isBell 1 = .ok (.iconst 0, 1) := by decide +kernel
theorem dX11_isBell_2 : decode cX11_isBell 2 = .ok (.iconst 5, 1) := by decide +kernel
theorem dX11_isBell_3 : decode cX11_isBell 3 = .ok (.invokestatic 90, 3) := by decide +kernel
theorem dX11_isBell_6 : decode cX11_isBell 6 = .ok (.ireturn, 1) := by decide +kernel
theorem dX11_isInNow_0 : decode cX11_isInNow 0 = .ok (.aload_n 0, 1) := by decide +kernel
theorem dX11_isInNow_1 : decode cX11_isInNow 1 = .ok (.getfield 50, 3) := by decide +kernel
theorem dX11_isInNow_4 : decode cX11_isInNow 4 = .ok (.iload_n 1, 1) := by decide +kernel
theorem dX11_isInNow_5 : decode cX11_isInNow 5 = .ok (.baload, 1) := by decide +kernel
theorem dX11_isInNow_6 : decode cX11_isInNow 6 = .ok (.ifCond .ne 28, 3) := by decide +kernel
theorem dX11_isInNow_9 : decode cX11_isInNow 9 = .ok (.aload_n 0, 1) := by decide +kernel
theorem dX11_isInNow_10 : decode cX11_isInNow 10 = .ok (.getfield 46, 3) := by decide +kernel
theorem dX11_isInNow_13 : decode cX11_isInNow 13 = .ok (.iload_n 1, 1) := by decide +kernel
theorem dX11_isInNow_14 : decode cX11_isInNow 14 = .ok (.baload, 1) := by decide +kernel
theorem dX11_isInNow_15 : decode cX11_isInNow 15 = .ok (.ifCond .ne 19, 3) := by decide +kernel
theorem dX11_isInNow_18 : decode cX11_isInNow 18 = .ok (.aload_n 0, 1) := by decide +kernel
theorem dX11_isInNow_19 : decode cX11_isInNow 19 = .ok (.getfield 46, 3) := by decide +kernel
theorem dX11_isInNow_22 : decode cX11_isInNow 22 = .ok (.bipush 6, 2) := by decide +kernel
theorem dX11_isInNow_24 : decode cX11_isInNow 24 = .ok (.iload_n 1, 1) := by decide +kernel
theorem dX11_isInNow_25 : decode cX11_isInNow 25 = .ok (.iadd, 1) := by decide +kernel
theorem dX11_isInNow_26 : decode cX11_isInNow 26 = .ok (.baload, 1) := by decide +kernel
theorem dX11_isInNow_27 : decode cX11_isInNow 27 = .ok (.ifCond .ne 7, 3) := by decide +kernel
theorem dX11_isInNow_30 : decode cX11_isInNow 30 = .ok (.iconst 1, 1) := by decide +kernel
theorem dX11_isInNow_31 : decode cX11_isInNow 31 = .ok (.goto 4, 3) := by decide +kernel
theorem dX11_isInNow_34 : decode cX11_isInNow 34 = .ok (.iconst 0, 1) := by decide +kernel
theorem dX11_isInNow_35 : decode cX11_isInNow 35 = .ok (.ireturn, 1) := by decide +kernel
theorem dX11_areIn_0 : decode cX11_areIn 0 = .ok (.iconst 1, 1) := by decide +kernel
theorem dX11_areIn_1 : decode cX11_areIn 1 = .ok (.istore_n 2, 1) := by decide +kernel
theorem dX11_areIn_2 : decode cX11_areIn 2 = .ok (.iconst 0, 1) := by decide +kernel
theorem dX11_areIn_3 : decode cX11_areIn 3 = .ok (.istore_n 3, 1) := by decide +kernel
theorem dX11_areIn_4 : decode cX11_areIn 4 = .ok (.iload_n 3, 1) := by decide +kernel
theorem dX11_areIn_5 : decode cX11_areIn 5 = .ok (.iload_n 1, 1) := by decide +kernel
theorem dX11_areIn_6 : decode cX11_areIn 6 = .ok (.if_icmp .ge 27, 3) := by decide +kernel
theorem dX11_areIn_9 : decode cX11_areIn 9 = .ok (.iload_n 2, 1) := by decide +kernel
theorem dX11_areIn_10 : decode cX11_areIn 10 = .ok (.ifCond .eq 15, 3) := by decide +kernel
theorem dX11_areIn_13 : decode cX11_areIn 13 = .ok (.aload_n 0, 1) := by decide +kernel
theorem dX11_areIn_14 : decode cX11_areIn 14 = .ok (.iload_n 3, 1) := by decide +kernel
theorem dX11_areIn_15 : decode cX11_areIn 15 = .ok (.invokevirtual 186, 3) := by decide +kernel
theorem dX11_areIn_18 : decode cX11_areIn 18 = .ok (.ifCond .eq 7, 3) := by decide +kernel
theorem dX11_areIn_21 : decode cX11_areIn 21 = .ok (.iconst 1, 1) := by decide +kernel
theorem dX11_areIn_22 : decode cX11_areIn 22 = .ok (.goto 4, 3) := by decide +kernel
theorem dX11_areIn_25 : decode cX11_areIn 25 = .ok (.iconst 0, 1) := by decide +kernel
theorem dX11_areIn_26 : decode cX11_areIn 26 = .ok (.istore_n 2, 1) := by decide +kernel
theorem dX11_areIn_27 : decode cX11_areIn 27 = .ok (.iinc 3 1, 3) := by decide +kernel
theorem dX11_areIn_30 : decode cX11_areIn 30 = .ok (.goto (-26), 3) := by decide +kernel
theorem dX11_areIn_33 : decode cX11_areIn 33 = .ok (.iload_n 2, 1) := by decide +kernel
theorem dX11_areIn_34 : decode cX11_areIn 34 = .ok (.ireturn, 1) := by decide +kernel
theorem dX11_takesPlan_0 : decode cX11_takesPlan 0 = .ok (.aload_n 0, 1) := by decide +kernel
theorem dX11_takesPlan_1 : decode cX11_takesPlan 1 = .ok (.getfield 53, 3) := by decide +kernel
theorem dX11_takesPlan_4 : decode cX11_takesPlan 4 = .ok (.iload_n 1, 1) := by decide +kernel
theorem dX11_takesPlan_5 : decode cX11_takesPlan 5 = .ok (.dup2, 1) := by decide +kernel
theorem dX11_takesPlan_6 : decode cX11_takesPlan 6 = .ok (.iaload, 1) := by decide +kernel
theorem dX11_takesPlan_7 : decode cX11_takesPlan 7 = .ok (.iconst 1, 1) := by decide +kernel
theorem dX11_takesPlan_8 : decode cX11_takesPlan 8 = .ok (.isub, 1) := by decide +kernel
theorem dX11_takesPlan_9 : decode cX11_takesPlan 9 = .ok (.iastore, 1) := by decide +kernel
theorem dX11_takesPlan_10 : decode cX11_takesPlan 10 = .ok (.iconst 4, 1) := by decide +kernel
theorem dX11_takesPlan_11 : decode cX11_takesPlan 11 = .ok (.iload_n 1, 1) := by decide +kernel
theorem dX11_takesPlan_12 : decode cX11_takesPlan 12 = .ok (.imul, 1) := by decide +kernel
theorem dX11_takesPlan_13 : decode cX11_takesPlan 13 = .ok (.iload_n 2, 1) := by decide +kernel
theorem dX11_takesPlan_14 : decode cX11_takesPlan 14 = .ok (.iadd, 1) := by decide +kernel
theorem dX11_takesPlan_15 : decode cX11_takesPlan 15 = .ok (.istore_n 3, 1) := by decide +kernel
theorem dX11_takesPlan_16 : decode cX11_takesPlan 16 = .ok (.iload_n 3, 1) := by decide +kernel
theorem dX11_takesPlan_17 : decode cX11_takesPlan 17 = .ok (.iconst 4, 1) := by decide +kernel
theorem dX11_takesPlan_18 : decode cX11_takesPlan 18 = .ok (.iload_n 1, 1) := by decide +kernel
theorem dX11_takesPlan_19 : decode cX11_takesPlan 19 = .ok (.imul, 1) := by decide +kernel
theorem dX11_takesPlan_20 : decode cX11_takesPlan 20 = .ok (.aload_n 0, 1) := by decide +kernel
theorem dX11_takesPlan_21 : decode cX11_takesPlan 21 = .ok (.getfield 53, 3) := by decide +kernel
theorem dX11_takesPlan_24 : decode cX11_takesPlan 24 = .ok (.iload_n 1, 1) := by decide +kernel
theorem dX11_takesPlan_25 : decode cX11_takesPlan 25 = .ok (.iaload, 1) := by decide +kernel
theorem dX11_takesPlan_26 : decode cX11_takesPlan 26 = .ok (.iadd, 1) := by decide +kernel
theorem dX11_takesPlan_27 : decode cX11_takesPlan 27 = .ok (.if_icmp .ge 23, 3) := by decide +kernel
theorem dX11_takesPlan_30 : decode cX11_takesPlan 30 = .ok (.aload_n 0, 1) := by decide +kernel
theorem dX11_takesPlan_31 : decode cX11_takesPlan 31 = .ok (.getfield 56, 3) := by decide +kernel
theorem dX11_takesPlan_34 : decode cX11_takesPlan 34 = .ok (.iload_n 3, 1) := by decide +kernel
theorem dX11_takesPlan_35 : decode cX11_takesPlan 35 = .ok (.aload_n 0, 1) := by decide +kernel
theorem dX11_takesPlan_36 : decode cX11_takesPlan 36 = .ok (.getfield 56, 3) := by decide +kernel
theorem dX11_takesPlan_39 : decode cX11_takesPlan 39 = .ok (.iload_n 3, 1) := by decide +kernel
theorem dX11_takesPlan_40 : decode cX11_takesPlan 40 = .ok (.iconst 1, 1) := by decide +kernel
theorem dX11_takesPlan_41 : decode cX11_takesPlan 41 = .ok (.iadd, 1) := by decide +kernel
theorem dX11_takesPlan_42 : decode cX11_takesPlan 42 = .ok (.iaload, 1) := by decide +kernel
theorem dX11_takesPlan_43 : decode cX11_takesPlan 43 = .ok (.iastore, 1) := by decide +kernel
theorem dX11_takesPlan_44 : decode cX11_takesPlan 44 = .ok (.iinc 3 1, 3) := by decide +kernel
theorem dX11_takesPlan_47 : decode cX11_takesPlan 47 = .ok (.goto (-31), 3) := by decide +kernel
theorem dX11_takesPlan_50 : decode cX11_takesPlan 50 = .ok (.return_, 1) := by decide +kernel
theorem dX11_drops_0 : decode cX11_drops 0 = .ok (.iconst 0, 1) := by decide +kernel
theorem dX11_drops_1 : decode cX11_drops 1 = .ok (.istore_n 1, 1) := by decide +kernel
theorem dX11_drops_2 : decode cX11_drops 2 = .ok (.aload_n 0, 1) := by decide +kernel
theorem dX11_drops_3 : decode cX11_drops 3 = .ok (.getfield 189, 3) := by decide +kernel
theorem dX11_drops_6 : decode cX11_drops 6 = .ok (.istore_n 2, 1) := by decide +kernel
theorem dX11_drops_7 : decode cX11_drops 7 = .ok (.iload_n 2, 1) := by decide +kernel
theorem dX11_drops_8 : decode cX11_drops 8 = .ok (.bipush 60, 2) := by decide +kernel
theorem dX11_drops_10 : decode cX11_drops 10 = .ok (.if_icmp .gt 71, 3) := by decide +kernel
theorem dX11_drops_13 : decode cX11_drops 13 = .ok (.aload_n 0, 1) := by decide +kernel
theorem dX11_drops_14 : decode cX11_drops 14 = .ok (.getfield 53, 3) := by decide +kernel
theorem dX11_drops_17 : decode cX11_drops 17 = .ok (.iload_n 2, 1) := by decide +kernel
theorem dX11_drops_18 : decode cX11_drops 18 = .ok (.iaload, 1) := by decide +kernel
theorem dX11_drops_19 : decode cX11_drops 19 = .ok (.iconst 1, 1) := by decide +kernel
theorem dX11_drops_20 : decode cX11_drops 20 = .ok (.isub, 1) := by decide +kernel
theorem dX11_drops_21 : decode cX11_drops 21 = .ok (.istore_n 3, 1) := by decide +kernel
theorem dX11_drops_22 : decode cX11_drops 22 = .ok (.iload_n 3, 1) := by decide +kernel
theorem dX11_drops_23 : decode cX11_drops 23 = .ok (.ifCond .lt 52, 3) := by decide +kernel
theorem dX11_drops_26 : decode cX11_drops 26 = .ok (.aload_n 0, 1) := by decide +kernel
theorem dX11_drops_27 : decode cX11_drops 27 = .ok (.getfield 56, 3) := by decide +kernel
theorem dX11_drops_30 : decode cX11_drops 30 = .ok (.iconst 4, 1) := by decide +kernel
theorem dX11_drops_31 : decode cX11_drops 31 = .ok (.iload_n 2, 1) := by decide +kernel
theorem dX11_drops_32 : decode cX11_drops 32 = .ok (.imul, 1) := by decide +kernel
theorem dX11_drops_33 : decode cX11_drops 33 = .ok (.iload_n 3, 1) := by decide +kernel
theorem dX11_drops_34 : decode cX11_drops 34 = .ok (.iadd, 1) := by decide +kernel
theorem dX11_drops_35 : decode cX11_drops 35 = .ok (.iaload, 1) := by decide +kernel
theorem dX11_drops_36 : decode cX11_drops 36 = .ok (.istore 4, 2) := by decide +kernel
theorem dX11_drops_38 : decode cX11_drops 38 = .ok (.aload_n 0, 1) := by decide +kernel
theorem dX11_drops_39 : decode cX11_drops 39 = .ok (.aload_n 0, 1) := by decide +kernel
theorem dX11_drops_40 : decode cX11_drops 40 = .ok (.iload 4, 2) := by decide +kernel
theorem dX11_drops_42 : decode cX11_drops 42 = .ok (.invokevirtual 165, 3) := by decide +kernel
theorem dX11_drops_45 : decode cX11_drops 45 = .ok (.invokevirtual 192, 3) := by decide +kernel
theorem dX11_drops_48 : decode cX11_drops 48 = .ok (.ifCond .eq 12, 3) := by decide +kernel
theorem dX11_drops_51 : decode cX11_drops 51 = .ok (.aload_n 0, 1) := by decide +kernel
theorem dX11_drops_52 : decode cX11_drops 52 = .ok (.iload 4, 2) := by decide +kernel
theorem dX11_drops_54 : decode cX11_drops 54 = .ok (.invokevirtual 174, 3) := by decide +kernel
theorem dX11_drops_57 : decode cX11_drops 57 = .ok (.ifCond .ne 12, 3) := by decide +kernel
theorem dX11_drops_60 : decode cX11_drops 60 = .ok (.aload_n 0, 1) := by decide +kernel
theorem dX11_drops_61 : decode cX11_drops 61 = .ok (.iload_n 2, 1) := by decide +kernel
theorem dX11_drops_62 : decode cX11_drops 62 = .ok (.iload_n 3, 1) := by decide +kernel
theorem dX11_drops_63 : decode cX11_drops 63 = .ok (.invokevirtual 195, 3) := by decide +kernel
theorem dX11_drops_66 : decode cX11_drops 66 = .ok (.iinc 1 1, 3) := by decide +kernel
theorem dX11_drops_69 : decode cX11_drops 69 = .ok (.iinc 3 (-1), 3) := by decide +kernel
theorem dX11_drops_72 : decode cX11_drops 72 = .ok (.goto (-50), 3) := by decide +kernel
theorem dX11_drops_75 : decode cX11_drops 75 = .ok (.iinc 2 1, 3) := by decide +kernel
theorem dX11_drops_78 : decode cX11_drops 78 = .ok (.goto (-71), 3) := by decide +kernel
theorem dX11_drops_81 : decode cX11_drops 81 = .ok (.aload_n 0, 1) := by decide +kernel
theorem dX11_drops_82 : decode cX11_drops 82 = .ok (.dup, 1) := by decide +kernel
theorem dX11_drops_83 : decode cX11_drops 83 = .ok (.getfield 199, 3) := by decide +kernel
theorem dX11_drops_86 : decode cX11_drops 86 = .ok (.iload_n 1, 1) := by decide +kernel
theorem dX11_drops_87 : decode cX11_drops 87 = .ok (.iadd, 1) := by decide +kernel
theorem dX11_drops_88 : decode cX11_drops 88 = .ok (.putfield 199, 3) := by decide +kernel
theorem dX11_drops_91 : decode cX11_drops 91 = .ok (.iload_n 1, 1) := by decide +kernel
theorem dX11_drops_92 : decode cX11_drops 92 = .ok (.ireturn, 1) := by decide +kernel
theorem dX11_takeOut_0 : decode cX11_takeOut 0 = .ok (.aload_n 0, 1) := by decide +kernel
theorem dX11_takeOut_1 : decode cX11_takeOut 1 = .ok (.iload_n 1, 1) := by decide +kernel
theorem dX11_takeOut_2 : decode cX11_takeOut 2 = .ok (.invokestatic 202, 3) := by decide +kernel
theorem dX11_takeOut_5 : decode cX11_takeOut 5 = .ok (.ifCond .ne 7, 3) := by decide +kernel
theorem dX11_takeOut_8 : decode cX11_takeOut 8 = .ok (.iconst 1, 1) := by decide +kernel
theorem dX11_takeOut_9 : decode cX11_takeOut 9 = .ok (.goto 24, 3) := by decide +kernel
theorem dX11_takeOut_12 : decode cX11_takeOut 12 = .ok (.aload_n 0, 1) := by decide +kernel
theorem dX11_takeOut_13 : decode cX11_takeOut 13 = .ok (.getfield 50, 3) := by decide +kernel
theorem dX11_takeOut_16 : decode cX11_takeOut 16 = .ok (.iload_n 1, 1) := by decide +kernel
theorem dX11_takeOut_17 : decode cX11_takeOut 17 = .ok (.baload, 1) := by decide +kernel
theorem dX11_takeOut_18 : decode cX11_takeOut 18 = .ok (.ifCond .ne 10, 3) := by decide +kernel
theorem dX11_takeOut_21 : decode cX11_takeOut 21 = .ok (.aload_n 0, 1) := by decide +kernel
theorem dX11_takeOut_22 : decode cX11_takeOut 22 = .ok (.getfield 112, 3) := by decide +kernel
theorem dX11_takeOut_25 : decode cX11_takeOut 25 = .ok (.ifCond .eq 7, 3) := by decide +kernel
theorem dX11_takeOut_28 : decode cX11_takeOut 28 = .ok (.iconst 2, 1) := by decide +kernel
theorem dX11_takeOut_29 : decode cX11_takeOut 29 = .ok (.goto 4, 3) := by decide +kernel
theorem dX11_takeOut_32 : decode cX11_takeOut 32 = .ok (.iconst 0, 1) := by decide +kernel
theorem dX11_takeOut_33 : decode cX11_takeOut 33 = .ok (.putfield 87, 3) := by decide +kernel
theorem dX11_takeOut_36 : decode cX11_takeOut 36 = .ok (.aload_n 0, 1) := by decide +kernel
theorem dX11_takeOut_37 : decode cX11_takeOut 37 = .ok (.getfield 87, 3) := by decide +kernel
theorem dX11_takeOut_40 : decode cX11_takeOut 40 = .ok (.ifCond .le 5, 3) := by decide +kernel
theorem dX11_takeOut_43 : decode cX11_takeOut 43 = .ok (.iconst 0, 1) := by decide +kernel
theorem dX11_takeOut_44 : decode cX11_takeOut 44 = .ok (.ireturn, 1) := by decide +kernel
theorem dX11_takeOut_45 : decode cX11_takeOut 45 = .ok (.aload_n 0, 1) := by decide +kernel
theorem dX11_takeOut_46 : decode cX11_takeOut 46 = .ok (.getfield 50, 3) := by decide +kernel
theorem dX11_takeOut_49 : decode cX11_takeOut 49 = .ok (.iload_n 1, 1) := by decide +kernel
theorem dX11_takeOut_50 : decode cX11_takeOut 50 = .ok (.iconst 1, 1) := by decide +kernel
theorem dX11_takeOut_51 : decode cX11_takeOut 51 = .ok (.bastore, 1) := by decide +kernel
theorem dX11_takeOut_52 : decode cX11_takeOut 52 = .ok (.aload_n 0, 1) := by decide +kernel
theorem dX11_takeOut_53 : decode cX11_takeOut 53 = .ok (.invokevirtual 116, 3) := by decide +kernel
theorem dX11_takeOut_56 : decode cX11_takeOut 56 = .ok (.ireturn, 1) := by decide +kernel
theorem dX11_bringIn_0 : decode cX11_bringIn 0 = .ok (.aload_n 0, 1) := by decide +kernel
theorem dX11_bringIn_1 : decode cX11_bringIn 1 = .ok (.iload_n 1, 1) := by decide +kernel
theorem dX11_bringIn_2 : decode cX11_bringIn 2 = .ok (.invokestatic 202, 3) := by decide +kernel
theorem dX11_bringIn_5 : decode cX11_bringIn 5 = .ok (.ifCond .ne 7, 3) := by decide +kernel
theorem dX11_bringIn_8 : decode cX11_bringIn 8 = .ok (.iconst 1, 1) := by decide +kernel
theorem dX11_bringIn_9 : decode cX11_bringIn 9 = .ok (.goto 17, 3) := by decide +kernel
theorem dX11_bringIn_12 : decode cX11_bringIn 12 = .ok (.aload_n 0, 1) := by decide +kernel
theorem dX11_bringIn_13 : decode cX11_bringIn 13 = .ok (.getfield 50, 3) := by decide +kernel
theorem dX11_bringIn_16 : decode cX11_bringIn 16 = .ok (.iload_n 1, 1) := by decide +kernel
theorem dX11_bringIn_17 : decode cX11_bringIn 17 = .ok (.baload, 1) := by decide +kernel
theorem dX11_bringIn_18 : decode cX11_bringIn 18 = .ok (.ifCond .eq 7, 3) := by decide +kernel
theorem dX11_bringIn_21 : decode cX11_bringIn 21 = .ok (.iconst 0, 1) := by decide +kernel
theorem dX11_bringIn_22 : decode cX11_bringIn 22 = .ok (.goto 4, 3) := by decide +kernel
theorem dX11_bringIn_25 : decode cX11_bringIn 25 = .ok (.iconst 2, 1) := by decide +kernel
theorem dX11_bringIn_26 : decode cX11_bringIn 26 = .ok (.putfield 87, 3) := by decide +kernel
theorem dX11_bringIn_29 : decode cX11_bringIn 29 = .ok (.aload_n 0, 1) := by decide +kernel
theorem dX11_bringIn_30 : decode cX11_bringIn 30 = .ok (.getfield 87, 3) := by decide +kernel
theorem dX11_bringIn_33 : decode cX11_bringIn 33 = .ok (.ifCond .le 5, 3) := by decide +kernel
theorem dX11_bringIn_36 : decode cX11_bringIn 36 = .ok (.iconst 0, 1) := by decide +kernel
theorem dX11_bringIn_37 : decode cX11_bringIn 37 = .ok (.ireturn, 1) := by decide +kernel
theorem dX11_bringIn_38 : decode cX11_bringIn 38 = .ok (.aload_n 0, 1) := by decide +kernel
theorem dX11_bringIn_39 : decode cX11_bringIn 39 = .ok (.getfield 50, 3) := by decide +kernel
theorem dX11_bringIn_42 : decode cX11_bringIn 42 = .ok (.iload_n 1, 1) := by decide +kernel
theorem dX11_bringIn_43 : decode cX11_bringIn 43 = .ok (.iconst 0, 1) := by decide +kernel
theorem dX11_bringIn_44 : decode cX11_bringIn 44 = .ok (.bastore, 1) := by decide +kernel
theorem dX11_bringIn_45 : decode cX11_bringIn 45 = .ok (.aload_n 0, 1) := by decide +kernel
theorem dX11_bringIn_46 : decode cX11_bringIn 46 = .ok (.iload_n 1, 1) := by decide +kernel
theorem dX11_bringIn_47 : decode cX11_bringIn 47 = .ok (.invokevirtual 186, 3) := by decide +kernel
theorem dX11_bringIn_50 : decode cX11_bringIn 50 = .ok (.ireturn, 1) := by decide +kernel
theorem dX11_mend_0 : decode cX11_mend 0 = .ok (.aload_n 0, 1) := by decide +kernel
theorem dX11_mend_1 : decode cX11_mend 1 = .ok (.iload_n 1, 1) := by decide +kernel
theorem dX11_mend_2 : decode cX11_mend 2 = .ok (.invokestatic 202, 3) := by decide +kernel
theorem dX11_mend_5 : decode cX11_mend 5 = .ok (.ifCond .ne 7, 3) := by decide +kernel
theorem dX11_mend_8 : decode cX11_mend 8 = .ok (.iconst 1, 1) := by decide +kernel
theorem dX11_mend_9 : decode cX11_mend 9 = .ok (.goto 28, 3) := by decide +kernel
theorem dX11_mend_12 : decode cX11_mend 12 = .ok (.iload_n 2, 1) := by decide +kernel
theorem dX11_mend_13 : decode cX11_mend 13 = .ok (.iconst 0, 1) := by decide +kernel
theorem dX11_mend_14 : decode cX11_mend 14 = .ok (.iconst 1, 1) := by decide +kernel
theorem dX11_mend_15 : decode cX11_mend 15 = .ok (.invokestatic 90, 3) := by decide +kernel
theorem dX11_mend_18 : decode cX11_mend 18 = .ok (.ifCond .ne 7, 3) := by decide +kernel
theorem dX11_mend_21 : decode cX11_mend 21 = .ok (.iconst 2, 1) := by decide +kernel
theorem dX11_mend_22 : decode cX11_mend 22 = .ok (.goto 15, 3) := by decide +kernel
theorem dX11_mend_25 : decode cX11_mend 25 = .ok (.aload_n 0, 1) := by decide +kernel
theorem dX11_mend_26 : decode cX11_mend 26 = .ok (.getfield 112, 3) := by decide +kernel
theorem dX11_mend_29 : decode cX11_mend 29 = .ok (.ifCond .eq 7, 3) := by decide +kernel
theorem dX11_mend_32 : decode cX11_mend 32 = .ok (.iconst 3, 1) := by decide +kernel
theorem dX11_mend_33 : decode cX11_mend 33 = .ok (.goto 4, 3) := by decide +kernel
theorem dX11_mend_36 : decode cX11_mend 36 = .ok (.iconst 0, 1) := by decide +kernel
theorem dX11_mend_37 : decode cX11_mend 37 = .ok (.putfield 87, 3) := by decide +kernel
theorem dX11_mend_40 : decode cX11_mend 40 = .ok (.aload_n 0, 1) := by decide +kernel
theorem dX11_mend_41 : decode cX11_mend 41 = .ok (.getfield 87, 3) := by decide +kernel
theorem dX11_mend_44 : decode cX11_mend 44 = .ok (.ifCond .le 5, 3) := by decide +kernel
theorem dX11_mend_47 : decode cX11_mend 47 = .ok (.iconst 0, 1) := by decide +kernel
theorem dX11_mend_48 : decode cX11_mend 48 = .ok (.ireturn, 1) := by decide +kernel
theorem dX11_mend_49 : decode cX11_mend 49 = .ok (.aload_n 0, 1) := by decide +kernel
theorem dX11_mend_50 : decode cX11_mend 50 = .ok (.getfield 43, 3) := by decide +kernel
theorem dX11_mend_53 : decode cX11_mend 53 = .ok (.bipush 6, 2) := by decide +kernel
theorem dX11_mend_55 : decode cX11_mend 55 = .ok (.iload_n 2, 1) := by decide +kernel
theorem dX11_mend_56 : decode cX11_mend 56 = .ok (.imul, 1) := by decide +kernel
theorem dX11_mend_57 : decode cX11_mend 57 = .ok (.iload_n 1, 1) := by decide +kernel
theorem dX11_mend_58 : decode cX11_mend 58 = .ok (.iadd, 1) := by decide +kernel
theorem dX11_mend_59 : decode cX11_mend 59 = .ok (.iaload, 1) := by decide +kernel
theorem dX11_mend_60 : decode cX11_mend 60 = .ok (.istore_n 3, 1) := by decide +kernel
theorem dX11_mend_61 : decode cX11_mend 61 = .ok (.aload_n 0, 1) := by decide +kernel
theorem dX11_mend_62 : decode cX11_mend 62 = .ok (.getfield 43, 3) := by decide +kernel
theorem dX11_mend_65 : decode cX11_mend 65 = .ok (.bipush 6, 2) := by decide +kernel
theorem dX11_mend_67 : decode cX11_mend 67 = .ok (.iload_n 2, 1) := by decide +kernel
theorem dX11_mend_68 : decode cX11_mend 68 = .ok (.imul, 1) := by decide +kernel
theorem dX11_mend_69 : decode cX11_mend 69 = .ok (.iload_n 1, 1) := by decide +kernel
theorem dX11_mend_70 : decode cX11_mend 70 = .ok (.iadd, 1) := by decide +kernel
theorem dX11_mend_71 : decode cX11_mend 71 = .ok (.iconst 0, 1) := by decide +kernel
theorem dX11_mend_72 : decode cX11_mend 72 = .ok (.iastore, 1) := by decide +kernel
theorem dX11_mend_73 : decode cX11_mend 73 = .ok (.aload_n 0, 1) := by decide +kernel
theorem dX11_mend_74 : decode cX11_mend 74 = .ok (.getfield 46, 3) := by decide +kernel
theorem dX11_mend_77 : decode cX11_mend 77 = .ok (.bipush 6, 2) := by decide +kernel
theorem dX11_mend_79 : decode cX11_mend 79 = .ok (.iload_n 2, 1) := by decide +kernel
theorem dX11_mend_80 : decode cX11_mend 80 = .ok (.imul, 1) := by decide +kernel
theorem dX11_mend_81 : decode cX11_mend 81 = .ok (.iload_n 1, 1) := by decide +kernel
theorem dX11_mend_82 : decode cX11_mend 82 = .ok (.iadd, 1) := by decide +kernel
theorem dX11_mend_83 : decode cX11_mend 83 = .ok (.iconst 0, 1) := by decide +kernel
theorem dX11_mend_84 : decode cX11_mend 84 = .ok (.bastore, 1) := by decide +kernel
theorem dX11_mend_85 : decode cX11_mend 85 = .ok (.iload_n 3, 1) := by decide +kernel
theorem dX11_mend_86 : decode cX11_mend 86 = .ok (.ireturn, 1) := by decide +kernel
theorem dX11_wear_0 : decode cX11_wear 0 = .ok (.aload_n 0, 1) := by decide +kernel
theorem dX11_wear_1 : decode cX11_wear 1 = .ok (.iload_n 1, 1) := by decide +kernel
theorem dX11_wear_2 : decode cX11_wear 2 = .ok (.invokestatic 202, 3) := by decide +kernel
theorem dX11_wear_5 : decode cX11_wear 5 = .ok (.ifCond .ne 7, 3) := by decide +kernel
theorem dX11_wear_8 : decode cX11_wear 8 = .ok (.iconst 1, 1) := by decide +kernel
theorem dX11_wear_9 : decode cX11_wear 9 = .ok (.goto 17, 3) := by decide +kernel
theorem dX11_wear_12 : decode cX11_wear 12 = .ok (.iload_n 2, 1) := by decide +kernel
theorem dX11_wear_13 : decode cX11_wear 13 = .ok (.iconst 0, 1) := by decide +kernel
theorem dX11_wear_14 : decode cX11_wear 14 = .ok (.iconst 1, 1) := by decide +kernel
theorem dX11_wear_15 : decode cX11_wear 15 = .ok (.invokestatic 90, 3) := by decide +kernel
theorem dX11_wear_18 : decode cX11_wear 18 = .ok (.ifCond .eq 7, 3) := by decide +kernel
theorem dX11_wear_21 : decode cX11_wear 21 = .ok (.iconst 0, 1) := by decide +kernel
theorem dX11_wear_22 : decode cX11_wear 22 = .ok (.goto 4, 3) := by decide +kernel
theorem dX11_wear_25 : decode cX11_wear 25 = .ok (.iconst 2, 1) := by decide +kernel
theorem dX11_wear_26 : decode cX11_wear 26 = .ok (.putfield 87, 3) := by decide +kernel
theorem dX11_wear_29 : decode cX11_wear 29 = .ok (.aload_n 0, 1) := by decide +kernel
theorem dX11_wear_30 : decode cX11_wear 30 = .ok (.getfield 87, 3) := by decide +kernel
theorem dX11_wear_33 : decode cX11_wear 33 = .ok (.ifCond .le 7, 3) := by decide +kernel
theorem dX11_wear_36 : decode cX11_wear 36 = .ok (.iconst 0, 1) := by decide +kernel
theorem dX11_wear_37 : decode cX11_wear 37 = .ok (.goto 14, 3) := by decide +kernel
theorem dX11_wear_40 : decode cX11_wear 40 = .ok (.aload_n 0, 1) := by decide +kernel
theorem dX11_wear_41 : decode cX11_wear 41 = .ok (.getfield 43, 3) := by decide +kernel
theorem dX11_wear_44 : decode cX11_wear 44 = .ok (.bipush 6, 2) := by decide +kernel
theorem dX11_wear_46 : decode cX11_wear 46 = .ok (.iload_n 2, 1) := by decide +kernel
theorem dX11_wear_47 : decode cX11_wear 47 = .ok (.imul, 1) := by decide +kernel
theorem dX11_wear_48 : decode cX11_wear 48 = .ok (.iload_n 1, 1) := by decide +kernel
theorem dX11_wear_49 : decode cX11_wear 49 = .ok (.iadd, 1) := by decide +kernel
theorem dX11_wear_50 : decode cX11_wear 50 = .ok (.iaload, 1) := by decide +kernel
theorem dX11_wear_51 : decode cX11_wear 51 = .ok (.ireturn, 1) := by decide +kernel
theorem dX11_isIn_0 : decode cX11_isIn 0 = .ok (.aload_n 0, 1) := by decide +kernel
theorem dX11_isIn_1 : decode cX11_isIn 1 = .ok (.iload_n 1, 1) := by decide +kernel
theorem dX11_isIn_2 : decode cX11_isIn 2 = .ok (.invokestatic 202, 3) := by decide +kernel
theorem dX11_isIn_5 : decode cX11_isIn 5 = .ok (.ifCond .eq 7, 3) := by decide +kernel
theorem dX11_isIn_8 : decode cX11_isIn 8 = .ok (.iconst 0, 1) := by decide +kernel
theorem dX11_isIn_9 : decode cX11_isIn 9 = .ok (.goto 4, 3) := by decide +kernel
theorem dX11_isIn_12 : decode cX11_isIn 12 = .ok (.iconst 1, 1) := by decide +kernel
theorem dX11_isIn_13 : decode cX11_isIn 13 = .ok (.putfield 87, 3) := by decide +kernel
theorem dX11_isIn_16 : decode cX11_isIn 16 = .ok (.aload_n 0, 1) := by decide +kernel
theorem dX11_isIn_17 : decode cX11_isIn 17 = .ok (.getfield 87, 3) := by decide +kernel
theorem dX11_isIn_20 : decode cX11_isIn 20 = .ok (.ifCond .ne 15, 3) := by decide +kernel
theorem dX11_isIn_23 : decode cX11_isIn 23 = .ok (.aload_n 0, 1) := by decide +kernel
theorem dX11_isIn_24 : decode cX11_isIn 24 = .ok (.iload_n 1, 1) := by decide +kernel
theorem dX11_isIn_25 : decode cX11_isIn 25 = .ok (.invokevirtual 186, 3) := by decide +kernel
theorem dX11_isIn_28 : decode cX11_isIn 28 = .ok (.ifCond .eq 7, 3) := by decide +kernel
theorem dX11_isIn_31 : decode cX11_isIn 31 = .ok (.iconst 1, 1) := by decide +kernel
theorem dX11_isIn_32 : decode cX11_isIn 32 = .ok (.goto 4, 3) := by decide +kernel
theorem dX11_isIn_35 : decode cX11_isIn 35 = .ok (.iconst 0, 1) := by decide +kernel
theorem dX11_isIn_36 : decode cX11_isIn 36 = .ok (.ireturn, 1) := by decide +kernel
theorem dX11_blows_0 : decode cX11_blows 0 = .ok (.aload_n 0, 1) := by decide +kernel
theorem dX11_blows_1 : decode cX11_blows 1 = .ok (.getfield 43, 3) := by decide +kernel
theorem dX11_blows_4 : decode cX11_blows 4 = .ok (.iload_n 1, 1) := by decide +kernel
theorem dX11_blows_5 : decode cX11_blows 5 = .ok (.dup2, 1) := by decide +kernel
theorem dX11_blows_6 : decode cX11_blows 6 = .ok (.iaload, 1) := by decide +kernel
theorem dX11_blows_7 : decode cX11_blows 7 = .ok (.iconst 1, 1) := by decide +kernel
theorem dX11_blows_8 : decode cX11_blows 8 = .ok (.iload_n 2, 1) := by decide +kernel
theorem dX11_blows_9 : decode cX11_blows 9 = .ok (.iconst 2, 1) := by decide +kernel
theorem dX11_blows_10 : decode cX11_blows 10 = .ok (.irem, 1) := by decide +kernel
theorem dX11_blows_11 : decode cX11_blows 11 = .ok (.iadd, 1) := by decide +kernel
theorem dX11_blows_12 : decode cX11_blows 12 = .ok (.iadd, 1) := by decide +kernel
theorem dX11_blows_13 : decode cX11_blows 13 = .ok (.iastore, 1) := by decide +kernel
theorem dX11_blows_14 : decode cX11_blows 14 = .ok (.aload_n 0, 1) := by decide +kernel
theorem dX11_blows_15 : decode cX11_blows 15 = .ok (.getfield 43, 3) := by decide +kernel
theorem dX11_blows_18 : decode cX11_blows 18 = .ok (.bipush 6, 2) := by decide +kernel
theorem dX11_blows_20 : decode cX11_blows 20 = .ok (.iload_n 1, 1) := by decide +kernel
theorem dX11_blows_21 : decode cX11_blows 21 = .ok (.iadd, 1) := by decide +kernel
theorem dX11_blows_22 : decode cX11_blows 22 = .ok (.dup2, 1) := by decide +kernel
theorem dX11_blows_23 : decode cX11_blows 23 = .ok (.iaload, 1) := by decide +kernel
theorem dX11_blows_24 : decode cX11_blows 24 = .ok (.iconst 1, 1) := by decide +kernel
theorem dX11_blows_25 : decode cX11_blows 25 = .ok (.iadd, 1) := by decide +kernel
theorem dX11_blows_26 : decode cX11_blows 26 = .ok (.iastore, 1) := by decide +kernel
theorem dX11_blows_27 : decode cX11_blows 27 = .ok (.return_, 1) := by decide +kernel
theorem dX11_looks_0 : decode cX11_looks 0 = .ok (.iconst 0, 1) := by decide +kernel
theorem dX11_looks_1 : decode cX11_looks 1 = .ok (.istore_n 1, 1) := by decide +kernel
theorem dX11_looks_2 : decode cX11_looks 2 = .ok (.iconst 0, 1) := by decide +kernel
theorem dX11_looks_3 : decode cX11_looks 3 = .ok (.istore_n 2, 1) := by decide +kernel
theorem dX11_looks_4 : decode cX11_looks 4 = .ok (.iload_n 2, 1) := by decide +kernel
theorem dX11_looks_5 : decode cX11_looks 5 = .ok (.bipush 6, 2) := by decide +kernel
theorem dX11_looks_7 : decode cX11_looks 7 = .ok (.if_icmp .ge 144, 3) := by decide +kernel
theorem dX11_looks_10 : decode cX11_looks 10 = .ok (.aload_n 0, 1) := by decide +kernel
theorem dX11_looks_11 : decode cX11_looks 11 = .ok (.getfield 43, 3) := by decide +kernel
theorem dX11_looks_14 : decode cX11_looks 14 = .ok (.iload_n 2, 1) := by decide +kernel
theorem dX11_looks_15 : decode cX11_looks 15 = .ok (.iaload, 1) := by decide +kernel
theorem dX11_looks_16 : decode cX11_looks 16 = .ok (.sipush 300, 3) := by decide +kernel
theorem dX11_looks_19 : decode cX11_looks 19 = .ok (.if_icmp .lt 16, 3) := by decide +kernel
theorem dX11_looks_22 : decode cX11_looks 22 = .ok (.aload_n 0, 1) := by decide +kernel
theorem dX11_looks_23 : decode cX11_looks 23 = .ok (.getfield 46, 3) := by decide +kernel
theorem dX11_looks_26 : decode cX11_looks 26 = .ok (.iload_n 2, 1) := by decide +kernel
theorem dX11_looks_27 : decode cX11_looks 27 = .ok (.baload, 1) := by decide +kernel
theorem dX11_looks_28 : decode cX11_looks 28 = .ok (.ifCond .ne 7, 3) := by decide +kernel
theorem dX11_looks_31 : decode cX11_looks 31 = .ok (.iconst 1, 1) := by decide +kernel
theorem dX11_looks_32 : decode cX11_looks 32 = .ok (.goto 4, 3) := by decide +kernel
theorem dX11_looks_35 : decode cX11_looks 35 = .ok (.iconst 0, 1) := by decide +kernel
theorem dX11_looks_36 : decode cX11_looks 36 = .ok (.istore_n 3, 1) := by decide +kernel
theorem dX11_looks_37 : decode cX11_looks 37 = .ok (.aload_n 0, 1) := by decide +kernel
theorem dX11_looks_38 : decode cX11_looks 38 = .ok (.getfield 43, 3) := by decide +kernel
theorem dX11_looks_41 : decode cX11_looks 41 = .ok (.bipush 6, 2) := by decide +kernel
theorem dX11_looks_43 : decode cX11_looks 43 = .ok (.iload_n 2, 1) := by decide +kernel
theorem dX11_looks_44 : decode cX11_looks 44 = .ok (.iadd, 1) := by decide +kernel
theorem dX11_looks_45 : decode cX11_looks 45 = .ok (.iaload, 1) := by decide +kernel
theorem dX11_looks_46 : decode cX11_looks 46 = .ok (.sipush 200, 3) := by decide +kernel
theorem dX11_looks_49 : decode cX11_looks 49 = .ok (.if_icmp .lt 19, 3) := by decide +kernel
theorem dX11_looks_52 : decode cX11_looks 52 = .ok (.aload_n 0, 1) := by decide +kernel
theorem dX11_looks_53 : decode cX11_looks 53 = .ok (.getfield 46, 3) := by decide +kernel
theorem dX11_looks_56 : decode cX11_looks 56 = .ok (.bipush 6, 2) := by decide +kernel
theorem dX11_looks_58 : decode cX11_looks 58 = .ok (.iload_n 2, 1) := by decide +kernel
theorem dX11_looks_59 : decode cX11_looks 59 = .ok (.iadd, 1) := by decide +kernel
theorem dX11_looks_60 : decode cX11_looks 60 = .ok (.baload, 1) := by decide +kernel
theorem dX11_looks_61 : decode cX11_looks 61 = .ok (.ifCond .ne 7, 3) := by decide +kernel
theorem dX11_looks_64 : decode cX11_looks 64 = .ok (.iconst 1, 1) := by decide +kernel
theorem dX11_looks_65 : decode cX11_looks 65 = .ok (.goto 4, 3) := by decide +kernel
theorem dX11_looks_68 : decode cX11_looks 68 = .ok (.iconst 0, 1) := by decide +kernel
theorem dX11_looks_69 : decode cX11_looks 69 = .ok (.istore 4, 2) := by decide +kernel
theorem dX11_looks_71 : decode cX11_looks 71 = .ok (.aload_n 0, 1) := by decide +kernel
theorem dX11_looks_72 : decode cX11_looks 72 = .ok (.getfield 46, 3) := by decide +kernel
theorem dX11_looks_75 : decode cX11_looks 75 = .ok (.iload_n 2, 1) := by decide +kernel
theorem dX11_looks_76 : decode cX11_looks 76 = .ok (.aload_n 0, 1) := by decide +kernel
theorem dX11_looks_77 : decode cX11_looks 77 = .ok (.getfield 46, 3) := by decide +kernel
theorem dX11_looks_80 : decode cX11_looks 80 = .ok (.iload_n 2, 1) := by decide +kernel
theorem dX11_looks_81 : decode cX11_looks 81 = .ok (.baload, 1) := by decide +kernel
theorem dX11_looks_82 : decode cX11_looks 82 = .ok (.ifCond .ne 7, 3) := by decide +kernel
theorem dX11_looks_85 : decode cX11_looks 85 = .ok (.iload_n 3, 1) := by decide +kernel
theorem dX11_looks_86 : decode cX11_looks 86 = .ok (.ifCond .eq 7, 3) := by decide +kernel
theorem dX11_looks_89 : decode cX11_looks 89 = .ok (.iconst 1, 1) := by decide +kernel
theorem dX11_looks_90 : decode cX11_looks 90 = .ok (.goto 4, 3) := by decide +kernel
theorem dX11_looks_93 : decode cX11_looks 93 = .ok (.iconst 0, 1) := by decide +kernel
theorem dX11_looks_94 : decode cX11_looks 94 = .ok (.bastore, 1) := by decide +kernel
theorem dX11_looks_95 : decode cX11_looks 95 = .ok (.aload_n 0, 1) := by decide +kernel
theorem dX11_looks_96 : decode cX11_looks 96 = .ok (.getfield 46, 3) := by decide +kernel
theorem dX11_looks_99 : decode cX11_looks 99 = .ok (.bipush 6, 2) := by decide +kernel
theorem dX11_looks_101 : decode cX11_looks 101 = .ok (.iload_n 2, 1) := by decide +kernel
theorem dX11_looks_102 : decode cX11_looks 102 = .ok (.iadd, 1) := by decide +kernel
theorem dX11_looks_103 : decode cX11_looks 103 = .ok (.aload_n 0, 1) := by decide +kernel
theorem dX11_looks_104 : decode cX11_looks 104 = .ok (.getfield 46, 3) := by decide +kernel
theorem dX11_looks_107 : decode cX11_looks 107 = .ok (.bipush 6, 2) := by decide +kernel
theorem dX11_looks_109 : decode cX11_looks 109 = .ok (.iload_n 2, 1) := by decide +kernel
theorem dX11_looks_110 : decode cX11_looks 110 = .ok (.iadd, 1) := by decide +kernel
theorem dX11_looks_111 : decode cX11_looks 111 = .ok (.baload, 1) := by decide +kernel
theorem dX11_looks_112 : decode cX11_looks 112 = .ok (.ifCond .ne 8, 3) := by decide +kernel
theorem dX11_looks_115 : decode cX11_looks 115 = .ok (.iload 4, 2) := by decide +kernel
theorem dX11_looks_117 : decode cX11_looks 117 = .ok (.ifCond .eq 7, 3) := by decide +kernel
theorem dX11_looks_120 : decode cX11_looks 120 = .ok (.iconst 1, 1) := by decide +kernel
theorem dX11_looks_121 : decode cX11_looks 121 = .ok (.goto 4, 3) := by decide +kernel
theorem dX11_looks_124 : decode cX11_looks 124 = .ok (.iconst 0, 1) := by decide +kernel
theorem dX11_looks_125 : decode cX11_looks 125 = .ok (.bastore, 1) := by decide +kernel
theorem dX11_looks_126 : decode cX11_looks 126 = .ok (.iload_n 1, 1) := by decide +kernel
theorem dX11_looks_127 : decode cX11_looks 127 = .ok (.ifCond .ne 12, 3) := by decide +kernel
theorem dX11_looks_130 : decode cX11_looks 130 = .ok (.iload_n 3, 1) := by decide +kernel
theorem dX11_looks_131 : decode cX11_looks 131 = .ok (.ifCond .ne 8, 3) := by decide +kernel
theorem dX11_looks_134 : decode cX11_looks 134 = .ok (.iload 4, 2) := by decide +kernel
theorem dX11_looks_136 : decode cX11_looks 136 = .ok (.ifCond .eq 7, 3) := by decide +kernel
theorem dX11_looks_139 : decode cX11_looks 139 = .ok (.iconst 1, 1) := by decide +kernel
theorem dX11_looks_140 : decode cX11_looks 140 = .ok (.goto 4, 3) := by decide +kernel
theorem dX11_looks_143 : decode cX11_looks 143 = .ok (.iconst 0, 1) := by decide +kernel
theorem dX11_looks_144 : decode cX11_looks 144 = .ok (.istore_n 1, 1) := by decide +kernel
theorem dX11_looks_145 : decode cX11_looks 145 = .ok (.iinc 2 1, 3) := by decide +kernel
theorem dX11_looks_148 : decode cX11_looks 148 = .ok (.goto (-144), 3) := by decide +kernel
theorem dX11_looks_151 : decode cX11_looks 151 = .ok (.iload_n 1, 1) := by decide +kernel
theorem dX11_looks_152 : decode cX11_looks 152 = .ok (.ifCond .eq 8, 3) := by decide +kernel
theorem dX11_looks_155 : decode cX11_looks 155 = .ok (.aload_n 0, 1) := by decide +kernel
theorem dX11_looks_156 : decode cX11_looks 156 = .ok (.invokevirtual 116, 3) := by decide +kernel
theorem dX11_looks_159 : decode cX11_looks 159 = .ok (.pop, 1) := by decide +kernel
theorem dX11_looks_160 : decode cX11_looks 160 = .ok (.return_, 1) := by decide +kernel
theorem dX11_setBand_0 : decode cX11_setBand 0 = .ok (.aload_n 0, 1) := by decide +kernel
theorem dX11_setBand_1 : decode cX11_setBand 1 = .ok (.iload_n 1, 1) := by decide +kernel
theorem dX11_setBand_2 : decode cX11_setBand 2 = .ok (.iconst 0, 1) := by decide +kernel
theorem dX11_setBand_3 : decode cX11_setBand 3 = .ok (.iconst 3, 1) := by decide +kernel
theorem dX11_setBand_4 : decode cX11_setBand 4 = .ok (.invokestatic 90, 3) := by decide +kernel
theorem dX11_setBand_7 : decode cX11_setBand 7 = .ok (.ifCond .ne 7, 3) := by decide +kernel
theorem dX11_setBand_10 : decode cX11_setBand 10 = .ok (.iconst 1, 1) := by decide +kernel
theorem dX11_setBand_11 : decode cX11_setBand 11 = .ok (.goto 18, 3) := by decide +kernel
theorem dX11_setBand_14 : decode cX11_setBand 14 = .ok (.iload_n 2, 1) := by decide +kernel
theorem dX11_setBand_15 : decode cX11_setBand 15 = .ok (.iconst 4, 1) := by decide +kernel
theorem dX11_setBand_16 : decode cX11_setBand 16 = .ok (.bipush 6, 2) := by decide +kernel
theorem dX11_setBand_18 : decode cX11_setBand 18 = .ok (.invokestatic 90, 3) := by decide +kernel
theorem dX11_setBand_21 : decode cX11_setBand 21 = .ok (.ifCond .eq 7, 3) := by decide +kernel
theorem dX11_setBand_24 : decode cX11_setBand 24 = .ok (.iconst 0, 1) := by decide +kernel
theorem dX11_setBand_25 : decode cX11_setBand 25 = .ok (.goto 4, 3) := by decide +kernel
theorem dX11_setBand_28 : decode cX11_setBand 28 = .ok (.iconst 2, 1) := by decide +kernel
theorem dX11_setBand_29 : decode cX11_setBand 29 = .ok (.putfield 87, 3) := by decide +kernel
theorem dX11_setBand_32 : decode cX11_setBand 32 = .ok (.aload_n 0, 1) := by decide +kernel
theorem dX11_setBand_33 : decode cX11_setBand 33 = .ok (.getfield 87, 3) := by decide +kernel
theorem dX11_setBand_36 : decode cX11_setBand 36 = .ok (.ifCond .le 5, 3) := by decide +kernel
theorem dX11_setBand_39 : decode cX11_setBand 39 = .ok (.iconst 0, 1) := by decide +kernel
theorem dX11_setBand_40 : decode cX11_setBand 40 = .ok (.ireturn, 1) := by decide +kernel
theorem dX11_setBand_41 : decode cX11_setBand 41 = .ok (.aload_n 0, 1) := by decide +kernel
theorem dX11_setBand_42 : decode cX11_setBand 42 = .ok (.getfield 59, 3) := by decide +kernel
theorem dX11_setBand_45 : decode cX11_setBand 45 = .ok (.iload_n 1, 1) := by decide +kernel
theorem dX11_setBand_46 : decode cX11_setBand 46 = .ok (.iaload, 1) := by decide +kernel
theorem dX11_setBand_47 : decode cX11_setBand 47 = .ok (.istore_n 3, 1) := by decide +kernel
theorem dX11_setBand_48 : decode cX11_setBand 48 = .ok (.aload_n 0, 1) := by decide +kernel
theorem dX11_setBand_49 : decode cX11_setBand 49 = .ok (.getfield 59, 3) := by decide +kernel
theorem dX11_setBand_52 : decode cX11_setBand 52 = .ok (.iload_n 1, 1) := by decide +kernel
theorem dX11_setBand_53 : decode cX11_setBand 53 = .ok (.iload_n 2, 1) := by decide +kernel
theorem dX11_setBand_54 : decode cX11_setBand 54 = .ok (.iastore, 1) := by decide +kernel
theorem dX11_setBand_55 : decode cX11_setBand 55 = .ok (.iload_n 3, 1) := by decide +kernel
theorem dX11_setBand_56 : decode cX11_setBand 56 = .ok (.ireturn, 1) := by decide +kernel
theorem dX11_placeOf_0 : decode cX11_placeOf 0 = .ok (.iconst (-1), 1) := by decide +kernel
theorem dX11_placeOf_1 : decode cX11_placeOf 1 = .ok (.istore_n 3, 1) := by decide +kernel
theorem dX11_placeOf_2 : decode cX11_placeOf 2 = .ok (.iconst 0, 1) := by decide +kernel
theorem dX11_placeOf_3 : decode cX11_placeOf 3 = .ok (.istore 4, 2) := by decide +kernel
theorem dX11_placeOf_5 : decode cX11_placeOf 5 = .ok (.iload 4, 2) := by decide +kernel
theorem dX11_placeOf_7 : decode cX11_placeOf 7 = .ok (.aload_n 0, 1) := by decide +kernel
theorem dX11_placeOf_8 : decode cX11_placeOf 8 = .ok (.getfield 53, 3) := by decide +kernel
theorem dX11_placeOf_11 : decode cX11_placeOf 11 = .ok (.iload_n 1, 1) := by decide +kernel
theorem dX11_placeOf_12 : decode cX11_placeOf 12 = .ok (.iaload, 1) := by decide +kernel
theorem dX11_placeOf_13 : decode cX11_placeOf 13 = .ok (.if_icmp .ge 31, 3) := by decide +kernel
theorem dX11_placeOf_16 : decode cX11_placeOf 16 = .ok (.aload_n 0, 1) := by decide +kernel
theorem dX11_placeOf_17 : decode cX11_placeOf 17 = .ok (.getfield 56, 3) := by decide +kernel
theorem dX11_placeOf_20 : decode cX11_placeOf 20 = .ok (.iconst 4, 1) := by decide +kernel
theorem dX11_placeOf_21 : decode cX11_placeOf 21 = .ok (.iload_n 1, 1) := by decide +kernel
theorem dX11_placeOf_22 : decode cX11_placeOf 22 = .ok (.imul, 1) := by decide +kernel
theorem dX11_placeOf_23 : decode cX11_placeOf 23 = .ok (.iload 4, 2) := by decide +kernel
theorem dX11_placeOf_25 : decode cX11_placeOf 25 = .ok (.iadd, 1) := by decide +kernel
theorem dX11_placeOf_26 : decode cX11_placeOf 26 = .ok (.iaload, 1) := by decide +kernel
theorem dX11_placeOf_27 : decode cX11_placeOf 27 = .ok (.iload_n 2, 1) := by decide +kernel
theorem dX11_placeOf_28 : decode cX11_placeOf 28 = .ok (.if_icmp .ne 8, 3) := by decide +kernel
theorem dX11_placeOf_31 : decode cX11_placeOf 31 = .ok (.iload 4, 2) := by decide +kernel
theorem dX11_placeOf_33 : decode cX11_placeOf 33 = .ok (.goto 4, 3) := by decide +kernel
theorem dX11_placeOf_36 : decode cX11_placeOf 36 = .ok (.iload_n 3, 1) := by decide +kernel
theorem dX11_placeOf_37 : decode cX11_placeOf 37 = .ok (.istore_n 3, 1) := by decide +kernel
theorem dX11_placeOf_38 : decode cX11_placeOf 38 = .ok (.iinc 4 1, 3) := by decide +kernel
theorem dX11_placeOf_41 : decode cX11_placeOf 41 = .ok (.goto (-36), 3) := by decide +kernel
theorem dX11_placeOf_44 : decode cX11_placeOf 44 = .ok (.iload_n 3, 1) := by decide +kernel
theorem dX11_placeOf_45 : decode cX11_placeOf 45 = .ok (.ireturn, 1) := by decide +kernel
theorem dX11_isDay_0 : decode cX11_isDay 0 = .ok (.iload_n 1, 1) := by decide +kernel
theorem dX11_isDay_1 : decode cX11_isDay 1 = .ok (.aload_n 0, 1) := by decide +kernel
theorem dX11_isDay_2 : decode cX11_isDay 2 = .ok (.getfield 189, 3) := by decide +kernel
theorem dX11_isDay_5 : decode cX11_isDay 5 = .ok (.bipush 60, 2) := by decide +kernel
theorem dX11_isDay_7 : decode cX11_isDay 7 = .ok (.invokestatic 90, 3) := by decide +kernel
theorem dX11_isDay_10 : decode cX11_isDay 10 = .ok (.ireturn, 1) := by decide +kernel
theorem dX11_plan_0 : decode cX11_plan 0 = .ok (.aload_n 0, 1) := by decide +kernel
theorem dX11_plan_1 : decode cX11_plan 1 = .ok (.aload_n 0, 1) := by decide +kernel
theorem dX11_plan_2 : decode cX11_plan 2 = .ok (.iload_n 2, 1) := by decide +kernel
theorem dX11_plan_3 : decode cX11_plan 3 = .ok (.invokevirtual 177, 3) := by decide +kernel
theorem dX11_plan_6 : decode cX11_plan 6 = .ok (.ifCond .ne 7, 3) := by decide +kernel
theorem dX11_plan_9 : decode cX11_plan 9 = .ok (.iconst 1, 1) := by decide +kernel
theorem dX11_plan_10 : decode cX11_plan 10 = .ok (.goto 16, 3) := by decide +kernel
theorem dX11_plan_13 : decode cX11_plan 13 = .ok (.aload_n 0, 1) := by decide +kernel
theorem dX11_plan_14 : decode cX11_plan 14 = .ok (.iload_n 1, 1) := by decide +kernel
theorem dX11_plan_15 : decode cX11_plan 15 = .ok (.invokevirtual 205, 3) := by decide +kernel
theorem dX11_plan_18 : decode cX11_plan 18 = .ok (.ifCond .eq 7, 3) := by decide +kernel
theorem dX11_plan_21 : decode cX11_plan 21 = .ok (.iconst 0, 1) := by decide +kernel
theorem dX11_plan_22 : decode cX11_plan 22 = .ok (.goto 4, 3) := by decide +kernel
theorem dX11_plan_25 : decode cX11_plan 25 = .ok (.iconst 2, 1) := by decide +kernel
theorem dX11_plan_26 : decode cX11_plan 26 = .ok (.putfield 87, 3) := by decide +kernel
theorem dX11_plan_29 : decode cX11_plan 29 = .ok (.aload_n 0, 1) := by decide +kernel
theorem dX11_plan_30 : decode cX11_plan 30 = .ok (.getfield 87, 3) := by decide +kernel
theorem dX11_plan_33 : decode cX11_plan 33 = .ok (.ifCond .ne 62, 3) := by decide +kernel
theorem dX11_plan_36 : decode cX11_plan 36 = .ok (.aload_n 0, 1) := by decide +kernel
theorem dX11_plan_37 : decode cX11_plan 37 = .ok (.getfield 53, 3) := by decide +kernel
theorem dX11_plan_40 : decode cX11_plan 40 = .ok (.iload_n 1, 1) := by decide +kernel
theorem dX11_plan_41 : decode cX11_plan 41 = .ok (.iaload, 1) := by decide +kernel
theorem dX11_plan_42 : decode cX11_plan 42 = .ok (.iconst 4, 1) := by decide +kernel
theorem dX11_plan_43 : decode cX11_plan 43 = .ok (.if_icmp .ge 37, 3) := by decide +kernel
theorem dX11_plan_46 : decode cX11_plan 46 = .ok (.aload_n 0, 1) := by decide +kernel
theorem dX11_plan_47 : decode cX11_plan 47 = .ok (.iload_n 1, 1) := by decide +kernel
theorem dX11_plan_48 : decode cX11_plan 48 = .ok (.iload_n 2, 1) := by decide +kernel
theorem dX11_plan_49 : decode cX11_plan 49 = .ok (.invokevirtual 208, 3) := by decide +kernel
theorem dX11_plan_52 : decode cX11_plan 52 = .ok (.iconst (-1), 1) := by decide +kernel
theorem dX11_plan_53 : decode cX11_plan 53 = .ok (.if_icmp .ne 27, 3) := by decide +kernel
theorem dX11_plan_56 : decode cX11_plan 56 = .ok (.aload_n 0, 1) := by decide +kernel
theorem dX11_plan_57 : decode cX11_plan 57 = .ok (.iload_n 2, 1) := by decide +kernel
theorem dX11_plan_58 : decode cX11_plan 58 = .ok (.invokevirtual 174, 3) := by decide +kernel
theorem dX11_plan_61 : decode cX11_plan 61 = .ok (.ifCond .eq 19, 3) := by decide +kernel
theorem dX11_plan_64 : decode cX11_plan 64 = .ok (.aload_n 0, 1) := by decide +kernel
theorem dX11_plan_65 : decode cX11_plan 65 = .ok (.aload_n 0, 1) := by decide +kernel
theorem dX11_plan_66 : decode cX11_plan 66 = .ok (.iload_n 2, 1) := by decide +kernel
theorem dX11_plan_67 : decode cX11_plan 67 = .ok (.invokevirtual 165, 3) := by decide +kernel
theorem dX11_plan_70 : decode cX11_plan 70 = .ok (.invokevirtual 192, 3) := by decide +kernel
theorem dX11_plan_73 : decode cX11_plan 73 = .ok (.ifCond .eq 7, 3) := by decide +kernel
theorem dX11_plan_76 : decode cX11_plan 76 = .ok (.iconst 1, 1) := by decide +kernel
theorem dX11_plan_77 : decode cX11_plan 77 = .ok (.goto 4, 3) := by decide +kernel
theorem dX11_plan_80 : decode cX11_plan 80 = .ok (.iconst 0, 1) := by decide +kernel
theorem dX11_plan_81 : decode cX11_plan 81 = .ok (.istore_n 3, 1) := by decide +kernel
theorem dX11_plan_82 : decode cX11_plan 82 = .ok (.aload_n 0, 1) := by decide +kernel
theorem dX11_plan_83 : decode cX11_plan 83 = .ok (.iload_n 3, 1) := by decide +kernel
theorem dX11_plan_84 : decode cX11_plan 84 = .ok (.ifCond .eq 7, 3) := by decide +kernel
theorem dX11_plan_87 : decode cX11_plan 87 = .ok (.iconst 0, 1) := by decide +kernel
theorem dX11_plan_88 : decode cX11_plan 88 = .ok (.goto 4, 3) := by decide +kernel
theorem dX11_plan_91 : decode cX11_plan 91 = .ok (.iconst 3, 1) := by decide +kernel
theorem dX11_plan_92 : decode cX11_plan 92 = .ok (.putfield 87, 3) := by decide +kernel
theorem dX11_plan_95 : decode cX11_plan 95 = .ok (.aload_n 0, 1) := by decide +kernel
theorem dX11_plan_96 : decode cX11_plan 96 = .ok (.getfield 87, 3) := by decide +kernel
theorem dX11_plan_99 : decode cX11_plan 99 = .ok (.ifCond .le 5, 3) := by decide +kernel
theorem dX11_plan_102 : decode cX11_plan 102 = .ok (.iconst 0, 1) := by decide +kernel
theorem dX11_plan_103 : decode cX11_plan 103 = .ok (.ireturn, 1) := by decide +kernel
theorem dX11_plan_104 : decode cX11_plan 104 = .ok (.aload_n 0, 1) := by decide +kernel
theorem dX11_plan_105 : decode cX11_plan 105 = .ok (.getfield 56, 3) := by decide +kernel
theorem dX11_plan_108 : decode cX11_plan 108 = .ok (.iconst 4, 1) := by decide +kernel
theorem dX11_plan_109 : decode cX11_plan 109 = .ok (.iload_n 1, 1) := by decide +kernel
theorem dX11_plan_110 : decode cX11_plan 110 = .ok (.imul, 1) := by decide +kernel
theorem dX11_plan_111 : decode cX11_plan 111 = .ok (.aload_n 0, 1) := by decide +kernel
theorem dX11_plan_112 : decode cX11_plan 112 = .ok (.getfield 53, 3) := by decide +kernel
theorem dX11_plan_115 : decode cX11_plan 115 = .ok (.iload_n 1, 1) := by decide +kernel
theorem dX11_plan_116 : decode cX11_plan 116 = .ok (.iaload, 1) := by decide +kernel
theorem dX11_plan_117 : decode cX11_plan 117 = .ok (.iadd, 1) := by decide +kernel
theorem dX11_plan_118 : decode cX11_plan 118 = .ok (.iload_n 2, 1) := by decide +kernel
theorem dX11_plan_119 : decode cX11_plan 119 = .ok (.iastore, 1) := by decide +kernel
theorem dX11_plan_120 : decode cX11_plan 120 = .ok (.aload_n 0, 1) := by decide +kernel
theorem dX11_plan_121 : decode cX11_plan 121 = .ok (.getfield 53, 3) := by decide +kernel
theorem dX11_plan_124 : decode cX11_plan 124 = .ok (.iload_n 1, 1) := by decide +kernel
theorem dX11_plan_125 : decode cX11_plan 125 = .ok (.dup2, 1) := by decide +kernel
theorem dX11_plan_126 : decode cX11_plan 126 = .ok (.iaload, 1) := by decide +kernel
theorem dX11_plan_127 : decode cX11_plan 127 = .ok (.iconst 1, 1) := by decide +kernel
theorem dX11_plan_128 : decode cX11_plan 128 = .ok (.iadd, 1) := by decide +kernel
theorem dX11_plan_129 : decode cX11_plan 129 = .ok (.iastore, 1) := by decide +kernel
theorem dX11_plan_130 : decode cX11_plan 130 = .ok (.aload_n 0, 1) := by decide +kernel
theorem dX11_plan_131 : decode cX11_plan 131 = .ok (.getfield 53, 3) := by decide +kernel
theorem dX11_plan_134 : decode cX11_plan 134 = .ok (.iload_n 1, 1) := by decide +kernel
theorem dX11_plan_135 : decode cX11_plan 135 = .ok (.iaload, 1) := by decide +kernel
theorem dX11_plan_136 : decode cX11_plan 136 = .ok (.ireturn, 1) := by decide +kernel
theorem dX11_planned_0 : decode cX11_planned 0 = .ok (.aload_n 0, 1) := by decide +kernel
theorem dX11_planned_1 : decode cX11_planned 1 = .ok (.aload_n 0, 1) := by decide +kernel
theorem dX11_planned_2 : decode cX11_planned 2 = .ok (.iload_n 1, 1) := by decide +kernel
theorem dX11_planned_3 : decode cX11_planned 3 = .ok (.invokevirtual 205, 3) := by decide +kernel
theorem dX11_planned_6 : decode cX11_planned 6 = .ok (.ifCond .eq 7, 3) := by decide +kernel
theorem dX11_planned_9 : decode cX11_planned 9 = .ok (.iconst 0, 1) := by decide +kernel
theorem dX11_planned_10 : decode cX11_planned 10 = .ok (.goto 4, 3) := by decide +kernel
theorem dX11_planned_13 : decode cX11_planned 13 = .ok (.iconst 1, 1) := by decide +kernel
theorem dX11_planned_14 : decode cX11_planned 14 = .ok (.putfield 87, 3) := by decide +kernel
theorem dX11_planned_17 : decode cX11_planned 17 = .ok (.aload_n 0, 1) := by decide +kernel
theorem dX11_planned_18 : decode cX11_planned 18 = .ok (.getfield 87, 3) := by decide +kernel
theorem dX11_planned_21 : decode cX11_planned 21 = .ok (.ifCond .le 7, 3) := by decide +kernel
theorem dX11_planned_24 : decode cX11_planned 24 = .ok (.iconst 0, 1) := by decide +kernel
theorem dX11_planned_25 : decode cX11_planned 25 = .ok (.goto 9, 3) := by decide +kernel
theorem dX11_planned_28 : decode cX11_planned 28 = .ok (.aload_n 0, 1) := by decide +kernel
theorem dX11_planned_29 : decode cX11_planned 29 = .ok (.getfield 53, 3) := by decide +kernel
theorem dX11_planned_32 : decode cX11_planned 32 = .ok (.iload_n 1, 1) := by decide +kernel
theorem dX11_planned_33 : decode cX11_planned 33 = .ok (.iaload, 1) := by decide +kernel
theorem dX11_planned_34 : decode cX11_planned 34 = .ok (.ireturn, 1) := by decide +kernel
theorem dX11_plannedAt_0 : decode cX11_plannedAt 0 = .ok (.aload_n 0, 1) := by decide +kernel
theorem dX11_plannedAt_1 : decode cX11_plannedAt 1 = .ok (.aload_n 0, 1) := by decide +kernel
theorem dX11_plannedAt_2 : decode cX11_plannedAt 2 = .ok (.iload_n 1, 1) := by decide +kernel
theorem dX11_plannedAt_3 : decode cX11_plannedAt 3 = .ok (.invokevirtual 205, 3) := by decide +kernel
theorem dX11_plannedAt_6 : decode cX11_plannedAt 6 = .ok (.ifCond .ne 7, 3) := by decide +kernel
theorem dX11_plannedAt_9 : decode cX11_plannedAt 9 = .ok (.iconst 1, 1) := by decide +kernel
theorem dX11_plannedAt_10 : decode cX11_plannedAt 10 = .ok (.goto 24, 3) := by decide +kernel
theorem dX11_plannedAt_13 : decode cX11_plannedAt 13 = .ok (.iload_n 2, 1) := by decide +kernel
theorem dX11_plannedAt_14 : decode cX11_plannedAt 14 = .ok (.iconst 0, 1) := by decide +kernel
theorem dX11_plannedAt_15 : decode cX11_plannedAt 15 = .ok (.aload_n 0, 1) := by decide +kernel
theorem dX11_plannedAt_16 : decode cX11_plannedAt 16 = .ok (.getfield 53, 3) := by decide +kernel
theorem dX11_plannedAt_19 : decode cX11_plannedAt 19 = .ok (.iload_n 1, 1) := by decide +kernel
theorem dX11_plannedAt_20 : decode cX11_plannedAt 20 = .ok (.iaload, 1) := by decide +kernel
theorem dX11_plannedAt_21 : decode cX11_plannedAt 21 = .ok (.iconst 1, 1) := by decide +kernel
theorem dX11_plannedAt_22 : decode cX11_plannedAt 22 = .ok (.isub, 1) := by decide +kernel
theorem dX11_plannedAt_23 : decode cX11_plannedAt 23 = .ok (.invokestatic 90, 3) := by decide +kernel
theorem dX11_plannedAt_26 : decode cX11_plannedAt 26 = .ok (.ifCond .eq 7, 3) := by decide +kernel
theorem dX11_plannedAt_29 : decode cX11_plannedAt 29 = .ok (.iconst 0, 1) := by decide +kernel
theorem dX11_plannedAt_30 : decode cX11_plannedAt 30 = .ok (.goto 4, 3) := by decide +kernel
theorem dX11_plannedAt_33 : decode cX11_plannedAt 33 = .ok (.iconst 2, 1) := by decide +kernel
theorem dX11_plannedAt_34 : decode cX11_plannedAt 34 = .ok (.putfield 87, 3) := by decide +kernel
theorem dX11_plannedAt_37 : decode cX11_plannedAt 37 = .ok (.aload_n 0, 1) := by decide +kernel
theorem dX11_plannedAt_38 : decode cX11_plannedAt 38 = .ok (.getfield 87, 3) := by decide +kernel
theorem dX11_plannedAt_41 : decode cX11_plannedAt 41 = .ok (.ifCond .le 7, 3) := by decide +kernel
theorem dX11_plannedAt_44 : decode cX11_plannedAt 44 = .ok (.iconst 0, 1) := by decide +kernel
theorem dX11_plannedAt_45 : decode cX11_plannedAt 45 = .ok (.goto 13, 3) := by decide +kernel
theorem dX11_plannedAt_48 : decode cX11_plannedAt 48 = .ok (.aload_n 0, 1) := by decide +kernel
theorem dX11_plannedAt_49 : decode cX11_plannedAt 49 = .ok (.getfield 56, 3) := by decide +kernel
theorem dX11_plannedAt_52 : decode cX11_plannedAt 52 = .ok (.iconst 4, 1) := by decide +kernel
theorem dX11_plannedAt_53 : decode cX11_plannedAt 53 = .ok (.iload_n 1, 1) := by decide +kernel
theorem dX11_plannedAt_54 : decode cX11_plannedAt 54 = .ok (.imul, 1) := by decide +kernel
theorem dX11_plannedAt_55 : decode cX11_plannedAt 55 = .ok (.iload_n 2, 1) := by decide +kernel
theorem dX11_plannedAt_56 : decode cX11_plannedAt 56 = .ok (.iadd, 1) := by decide +kernel
theorem dX11_plannedAt_57 : decode cX11_plannedAt 57 = .ok (.iaload, 1) := by decide +kernel
theorem dX11_plannedAt_58 : decode cX11_plannedAt 58 = .ok (.ireturn, 1) := by decide +kernel
theorem dX11_bandFor_0 : decode cX11_bandFor 0 = .ok (.iload_n 1, 1) := by decide +kernel
theorem dX11_bandFor_1 : decode cX11_bandFor 1 = .ok (.aload_n 0, 1) := by decide +kernel
theorem dX11_bandFor_2 : decode cX11_bandFor 2 = .ok (.getfield 189, 3) := by decide +kernel
theorem dX11_bandFor_5 : decode cX11_bandFor 5 = .ok (.if_icmp .ne 16, 3) := by decide +kernel
theorem dX11_bandFor_8 : decode cX11_bandFor 8 = .ok (.aload_n 0, 1) := by decide +kernel
theorem dX11_bandFor_9 : decode cX11_bandFor 9 = .ok (.getfield 62, 3) := by decide +kernel
theorem dX11_bandFor_12 : decode cX11_bandFor 12 = .ok (.iconst (-1), 1) := by decide +kernel
theorem dX11_bandFor_13 : decode cX11_bandFor 13 = .ok (.if_icmp .eq 8, 3) := by decide +kernel
theorem dX11_bandFor_16 : decode cX11_bandFor 16 = .ok (.aload_n 0, 1) := by decide +kernel
theorem dX11_bandFor_17 : decode cX11_bandFor 17 = .ok (.getfield 62, 3) := by decide +kernel
theorem dX11_bandFor_20 : decode cX11_bandFor 20 = .ok (.ireturn, 1) := by decide +kernel
theorem dX11_bandFor_21 : decode cX11_bandFor 21 = .ok (.iconst 0, 1) := by decide +kernel
theorem dX11_bandFor_22 : decode cX11_bandFor 22 = .ok (.istore_n 3, 1) := by decide +kernel
theorem dX11_bandFor_23 : decode cX11_bandFor 23 = .ok (.iconst 0, 1) := by decide +kernel
theorem dX11_bandFor_24 : decode cX11_bandFor 24 = .ok (.istore 4, 2) := by decide +kernel
theorem dX11_bandFor_26 : decode cX11_bandFor 26 = .ok (.iload 4, 2) := by decide +kernel
theorem dX11_bandFor_28 : decode cX11_bandFor 28 = .ok (.aload_n 0, 1) := by decide +kernel
theorem dX11_bandFor_29 : decode cX11_bandFor 29 = .ok (.getfield 53, 3) := by decide +kernel
theorem dX11_bandFor_32 : decode cX11_bandFor 32 = .ok (.iload_n 1, 1) := by decide +kernel
theorem dX11_bandFor_33 : decode cX11_bandFor 33 = .ok (.iaload, 1) := by decide +kernel
theorem dX11_bandFor_34 : decode cX11_bandFor 34 = .ok (.if_icmp .ge 39, 3) := by decide +kernel
theorem dX11_bandFor_37 : decode cX11_bandFor 37 = .ok (.aload_n 0, 1) := by decide +kernel
theorem dX11_bandFor_38 : decode cX11_bandFor 38 = .ok (.aload_n 0, 1) := by decide +kernel
theorem dX11_bandFor_39 : decode cX11_bandFor 39 = .ok (.getfield 56, 3) := by decide +kernel
theorem dX11_bandFor_42 : decode cX11_bandFor 42 = .ok (.iconst 4, 1) := by decide +kernel
theorem dX11_bandFor_43 : decode cX11_bandFor 43 = .ok (.iload_n 1, 1) := by decide +kernel
theorem dX11_bandFor_44 : decode cX11_bandFor 44 = .ok (.imul, 1) := by decide +kernel
theorem dX11_bandFor_45 : decode cX11_bandFor 45 = .ok (.iload 4, 2) := by decide +kernel
theorem dX11_bandFor_47 : decode cX11_bandFor 47 = .ok (.iadd, 1) := by decide +kernel
theorem dX11_bandFor_48 : decode cX11_bandFor 48 = .ok (.iaload, 1) := by decide +kernel
theorem dX11_bandFor_49 : decode cX11_bandFor 49 = .ok (.invokevirtual 165, 3) := by decide +kernel
theorem dX11_bandFor_52 : decode cX11_bandFor 52 = .ok (.istore 5, 2) := by decide +kernel
theorem dX11_bandFor_54 : decode cX11_bandFor 54 = .ok (.iload 5, 2) := by decide +kernel
theorem dX11_bandFor_56 : decode cX11_bandFor 56 = .ok (.iload_n 3, 1) := by decide +kernel
theorem dX11_bandFor_57 : decode cX11_bandFor 57 = .ok (.if_icmp .le 8, 3) := by decide +kernel
theorem dX11_bandFor_60 : decode cX11_bandFor 60 = .ok (.iload 5, 2) := by decide +kernel
theorem dX11_bandFor_62 : decode cX11_bandFor 62 = .ok (.goto 4, 3) := by decide +kernel
theorem dX11_bandFor_65 : decode cX11_bandFor 65 = .ok (.iload_n 3, 1) := by decide +kernel
theorem dX11_bandFor_66 : decode cX11_bandFor 66 = .ok (.istore_n 3, 1) := by decide +kernel
theorem dX11_bandFor_67 : decode cX11_bandFor 67 = .ok (.iinc 4 1, 3) := by decide +kernel
theorem dX11_bandFor_70 : decode cX11_bandFor 70 = .ok (.goto (-44), 3) := by decide +kernel
theorem dX11_bandFor_73 : decode cX11_bandFor 73 = .ok (.iconst (-1), 1) := by decide +kernel
theorem dX11_bandFor_74 : decode cX11_bandFor 74 = .ok (.istore 4, 2) := by decide +kernel
theorem dX11_bandFor_76 : decode cX11_bandFor 76 = .ok (.iconst 3, 1) := by decide +kernel
theorem dX11_bandFor_77 : decode cX11_bandFor 77 = .ok (.istore 5, 2) := by decide +kernel
theorem dX11_bandFor_79 : decode cX11_bandFor 79 = .ok (.iload 5, 2) := by decide +kernel
theorem dX11_bandFor_81 : decode cX11_bandFor 81 = .ok (.ifCond .lt 37, 3) := by decide +kernel
theorem dX11_bandFor_84 : decode cX11_bandFor 84 = .ok (.aload_n 0, 1) := by decide +kernel
theorem dX11_bandFor_85 : decode cX11_bandFor 85 = .ok (.getfield 59, 3) := by decide +kernel
theorem dX11_bandFor_88 : decode cX11_bandFor 88 = .ok (.iload_n 2, 1) := by decide +kernel
theorem dX11_bandFor_89 : decode cX11_bandFor 89 = .ok (.iload 5, 2) := by decide +kernel
theorem dX11_bandFor_91 : decode cX11_bandFor 91 = .ok (.iadd, 1) := by decide +kernel
theorem dX11_bandFor_92 : decode cX11_bandFor 92 = .ok (.iconst 4, 1) := by decide +kernel
theorem dX11_bandFor_93 : decode cX11_bandFor 93 = .ok (.irem, 1) := by decide +kernel
theorem dX11_bandFor_94 : decode cX11_bandFor 94 = .ok (.iaload, 1) := by decide +kernel
theorem dX11_bandFor_95 : decode cX11_bandFor 95 = .ok (.iload_n 3, 1) := by decide +kernel
theorem dX11_bandFor_96 : decode cX11_bandFor 96 = .ok (.if_icmp .lt 12, 3) := by decide +kernel
theorem dX11_bandFor_99 : decode cX11_bandFor 99 = .ok (.iload_n 2, 1) := by decide +kernel
theorem dX11_bandFor_100 : decode cX11_bandFor 100 = .ok (.iload 5, 2) := by decide +kernel
theorem dX11_bandFor_102 : decode cX11_bandFor 102 = .ok (.iadd, 1) := by decide +kernel
theorem dX11_bandFor_103 : decode cX11_bandFor 103 = .ok (.iconst 4, 1) := by decide +kernel
theorem dX11_bandFor_104 : decode cX11_bandFor 104 = .ok (.irem, 1) := by decide +kernel
theorem dX11_bandFor_105 : decode cX11_bandFor 105 = .ok (.goto 5, 3) := by decide +kernel
theorem dX11_bandFor_108 : decode cX11_bandFor 108 = .ok (.iload 4, 2) := by decide +kernel
theorem dX11_bandFor_110 : decode cX11_bandFor 110 = .ok (.istore 4, 2) := by decide +kernel
theorem dX11_bandFor_112 : decode cX11_bandFor 112 = .ok (.iinc 5 (-1), 3) := by decide +kernel
theorem dX11_bandFor_115 : decode cX11_bandFor 115 = .ok (.goto (-36), 3) := by decide +kernel
theorem dX11_bandFor_118 : decode cX11_bandFor 118 = .ok (.aload_n 0, 1) := by decide +kernel
theorem dX11_bandFor_119 : decode cX11_bandFor 119 = .ok (.getfield 53, 3) := by decide +kernel
theorem dX11_bandFor_122 : decode cX11_bandFor 122 = .ok (.iload_n 1, 1) := by decide +kernel
theorem dX11_bandFor_123 : decode cX11_bandFor 123 = .ok (.iaload, 1) := by decide +kernel
theorem dX11_bandFor_124 : decode cX11_bandFor 124 = .ok (.ifCond .ne 7, 3) := by decide +kernel
theorem dX11_bandFor_127 : decode cX11_bandFor 127 = .ok (.iconst (-1), 1) := by decide +kernel
theorem dX11_bandFor_128 : decode cX11_bandFor 128 = .ok (.goto 5, 3) := by decide +kernel
theorem dX11_bandFor_131 : decode cX11_bandFor 131 = .ok (.iload 4, 2) := by decide +kernel
theorem dX11_bandFor_133 : decode cX11_bandFor 133 = .ok (.ireturn, 1) := by decide +kernel
theorem dX11_bandOf_0 : decode cX11_bandOf 0 = .ok (.aload_n 0, 1) := by decide +kernel
theorem dX11_bandOf_1 : decode cX11_bandOf 1 = .ok (.getfield 211, 3) := by decide +kernel
theorem dX11_bandOf_4 : decode cX11_bandOf 4 = .ok (.istore_n 2, 1) := by decide +kernel
theorem dX11_bandOf_5 : decode cX11_bandOf 5 = .ok (.iconst (-1), 1) := by decide +kernel
theorem dX11_bandOf_6 : decode cX11_bandOf 6 = .ok (.istore_n 3, 1) := by decide +kernel
theorem dX11_bandOf_7 : decode cX11_bandOf 7 = .ok (.aload_n 0, 1) := by decide +kernel
theorem dX11_bandOf_8 : decode cX11_bandOf 8 = .ok (.getfield 189, 3) := by decide +kernel
theorem dX11_bandOf_11 : decode cX11_bandOf 11 = .ok (.istore 4, 2) := by decide +kernel
theorem dX11_bandOf_13 : decode cX11_bandOf 13 = .ok (.iload 4, 2) := by decide +kernel
theorem dX11_bandOf_15 : decode cX11_bandOf 15 = .ok (.iload_n 1, 1) := by decide +kernel
theorem dX11_bandOf_16 : decode cX11_bandOf 16 = .ok (.if_icmp .gt 32, 3) := by decide +kernel
theorem dX11_bandOf_19 : decode cX11_bandOf 19 = .ok (.aload_n 0, 1) := by decide +kernel
theorem dX11_bandOf_20 : decode cX11_bandOf 20 = .ok (.iload 4, 2) := by decide +kernel
theorem dX11_bandOf_22 : decode cX11_bandOf 22 = .ok (.iload_n 2, 1) := by decide +kernel
theorem dX11_bandOf_23 : decode cX11_bandOf 23 = .ok (.invokevirtual 214, 3) := by decide +kernel
theorem dX11_bandOf_26 : decode cX11_bandOf 26 = .ok (.istore_n 3, 1) := by decide +kernel
theorem dX11_bandOf_27 : decode cX11_bandOf 27 = .ok (.iload_n 3, 1) := by decide +kernel
theorem dX11_bandOf_28 : decode cX11_bandOf 28 = .ok (.iconst (-1), 1) := by decide +kernel
theorem dX11_bandOf_29 : decode cX11_bandOf 29 = .ok (.if_icmp .ne 7, 3) := by decide +kernel
theorem dX11_bandOf_32 : decode cX11_bandOf 32 = .ok (.iload_n 2, 1) := by decide +kernel
theorem dX11_bandOf_33 : decode cX11_bandOf 33 = .ok (.goto 8, 3) := by decide +kernel
theorem dX11_bandOf_36 : decode cX11_bandOf 36 = .ok (.iload_n 3, 1) := by decide +kernel
theorem dX11_bandOf_37 : decode cX11_bandOf 37 = .ok (.iconst 1, 1) := by decide +kernel
theorem dX11_bandOf_38 : decode cX11_bandOf 38 = .ok (.iadd, 1) := by decide +kernel
theorem dX11_bandOf_39 : decode cX11_bandOf 39 = .ok (.iconst 4, 1) := by decide +kernel
theorem dX11_bandOf_40 : decode cX11_bandOf 40 = .ok (.irem, 1) := by decide +kernel
theorem dX11_bandOf_41 : decode cX11_bandOf 41 = .ok (.istore_n 2, 1) := by decide +kernel
theorem dX11_bandOf_42 : decode cX11_bandOf 42 = .ok (.iinc 4 1, 3) := by decide +kernel
theorem dX11_bandOf_45 : decode cX11_bandOf 45 = .ok (.goto (-32), 3) := by decide +kernel
theorem dX11_bandOf_48 : decode cX11_bandOf 48 = .ok (.iload_n 3, 1) := by decide +kernel
theorem dX11_bandOf_49 : decode cX11_bandOf 49 = .ok (.ireturn, 1) := by decide +kernel
theorem dX11_rota_0 : decode cX11_rota 0 = .ok (.aload_n 0, 1) := by decide +kernel
theorem dX11_rota_1 : decode cX11_rota 1 = .ok (.aload_n 0, 1) := by decide +kernel
theorem dX11_rota_2 : decode cX11_rota 2 = .ok (.iload_n 1, 1) := by decide +kernel
theorem dX11_rota_3 : decode cX11_rota 3 = .ok (.invokevirtual 205, 3) := by decide +kernel
theorem dX11_rota_6 : decode cX11_rota 6 = .ok (.ifCond .eq 7, 3) := by decide +kernel
theorem dX11_rota_9 : decode cX11_rota 9 = .ok (.iconst 0, 1) := by decide +kernel
theorem dX11_rota_10 : decode cX11_rota 10 = .ok (.goto 4, 3) := by decide +kernel
theorem dX11_rota_13 : decode cX11_rota 13 = .ok (.iconst 1, 1) := by decide +kernel
theorem dX11_rota_14 : decode cX11_rota 14 = .ok (.putfield 87, 3) := by decide +kernel
theorem dX11_rota_17 : decode cX11_rota 17 = .ok (.aload_n 0, 1) := by decide +kernel
theorem dX11_rota_18 : decode cX11_rota 18 = .ok (.getfield 87, 3) := by decide +kernel
theorem dX11_rota_21 : decode cX11_rota 21 = .ok (.ifCond .le 7, 3) := by decide +kernel
theorem dX11_rota_24 : decode cX11_rota 24 = .ok (.iconst 0, 1) := by decide +kernel
theorem dX11_rota_25 : decode cX11_rota 25 = .ok (.goto 8, 3) := by decide +kernel
theorem dX11_rota_28 : decode cX11_rota 28 = .ok (.aload_n 0, 1) := by decide +kernel
theorem dX11_rota_29 : decode cX11_rota 29 = .ok (.iload_n 1, 1) := by decide +kernel
theorem dX11_rota_30 : decode cX11_rota 30 = .ok (.invokevirtual 217, 3) := by decide +kernel
theorem dX11_rota_33 : decode cX11_rota 33 = .ok (.ireturn, 1) := by decide +kernel
theorem dX11_pass_0 : decode cX11_pass 0 = .ok (.aload_n 0, 1) := by decide +kernel
theorem dX11_pass_1 : decode cX11_pass 1 = .ok (.aload_n 0, 1) := by decide +kernel
theorem dX11_pass_2 : decode cX11_pass 2 = .ok (.getfield 112, 3) := by decide +kernel
theorem dX11_pass_5 : decode cX11_pass 5 = .ok (.ifCond .ne 12, 3) := by decide +kernel
theorem dX11_pass_8 : decode cX11_pass 8 = .ok (.aload_n 0, 1) := by decide +kernel
theorem dX11_pass_9 : decode cX11_pass 9 = .ok (.getfield 189, 3) := by decide +kernel
theorem dX11_pass_12 : decode cX11_pass 12 = .ok (.bipush 60, 2) := by decide +kernel
theorem dX11_pass_14 : decode cX11_pass 14 = .ok (.if_icmp .ne 7, 3) := by decide +kernel
theorem dX11_pass_17 : decode cX11_pass 17 = .ok (.iconst 1, 1) := by decide +kernel
theorem dX11_pass_18 : decode cX11_pass 18 = .ok (.goto 4, 3) := by decide +kernel
theorem dX11_pass_21 : decode cX11_pass 21 = .ok (.iconst 0, 1) := by decide +kernel
theorem dX11_pass_22 : decode cX11_pass 22 = .ok (.putfield 87, 3) := by decide +kernel
theorem dX11_pass_25 : decode cX11_pass 25 = .ok (.aload_n 0, 1) := by decide +kernel
theorem dX11_pass_26 : decode cX11_pass 26 = .ok (.getfield 87, 3) := by decide +kernel
theorem dX11_pass_29 : decode cX11_pass 29 = .ok (.ifCond .le 5, 3) := by decide +kernel
theorem dX11_pass_32 : decode cX11_pass 32 = .ok (.iconst 0, 1) := by decide +kernel
theorem dX11_pass_33 : decode cX11_pass 33 = .ok (.ireturn, 1) := by decide +kernel
theorem dX11_pass_34 : decode cX11_pass 34 = .ok (.aload_n 0, 1) := by decide +kernel
theorem dX11_pass_35 : decode cX11_pass 35 = .ok (.aload_n 0, 1) := by decide +kernel
theorem dX11_pass_36 : decode cX11_pass 36 = .ok (.getfield 189, 3) := by decide +kernel
theorem dX11_pass_39 : decode cX11_pass 39 = .ok (.invokevirtual 217, 3) := by decide +kernel
theorem dX11_pass_42 : decode cX11_pass 42 = .ok (.istore_n 1, 1) := by decide +kernel
theorem dX11_pass_43 : decode cX11_pass 43 = .ok (.aload_n 0, 1) := by decide +kernel
theorem dX11_pass_44 : decode cX11_pass 44 = .ok (.iload_n 1, 1) := by decide +kernel
theorem dX11_pass_45 : decode cX11_pass 45 = .ok (.iconst (-1), 1) := by decide +kernel
theorem dX11_pass_46 : decode cX11_pass 46 = .ok (.if_icmp .ne 10, 3) := by decide +kernel
theorem dX11_pass_49 : decode cX11_pass 49 = .ok (.aload_n 0, 1) := by decide +kernel
theorem dX11_pass_50 : decode cX11_pass 50 = .ok (.getfield 211, 3) := by decide +kernel
theorem dX11_pass_53 : decode cX11_pass 53 = .ok (.goto 8, 3) := by decide +kernel
theorem dX11_pass_56 : decode cX11_pass 56 = .ok (.iload_n 1, 1) := by decide +kernel
theorem dX11_pass_57 : decode cX11_pass 57 = .ok (.iconst 1, 1) := by decide +kernel
theorem dX11_pass_58 : decode cX11_pass 58 = .ok (.iadd, 1) := by decide +kernel
theorem dX11_pass_59 : decode cX11_pass 59 = .ok (.iconst 4, 1) := by decide +kernel
theorem dX11_pass_60 : decode cX11_pass 60 = .ok (.irem, 1) := by decide +kernel
theorem dX11_pass_61 : decode cX11_pass 61 = .ok (.putfield 211, 3) := by decide +kernel
theorem dX11_pass_64 : decode cX11_pass 64 = .ok (.aload_n 0, 1) := by decide +kernel
theorem dX11_pass_65 : decode cX11_pass 65 = .ok (.iconst (-1), 1) := by decide +kernel
theorem dX11_pass_66 : decode cX11_pass 66 = .ok (.putfield 62, 3) := by decide +kernel
theorem dX11_pass_69 : decode cX11_pass 69 = .ok (.aload_n 0, 1) := by decide +kernel
theorem dX11_pass_70 : decode cX11_pass 70 = .ok (.getfield 53, 3) := by decide +kernel
theorem dX11_pass_73 : decode cX11_pass 73 = .ok (.aload_n 0, 1) := by decide +kernel
theorem dX11_pass_74 : decode cX11_pass 74 = .ok (.getfield 189, 3) := by decide +kernel
theorem dX11_pass_77 : decode cX11_pass 77 = .ok (.iconst 0, 1) := by decide +kernel
theorem dX11_pass_78 : decode cX11_pass 78 = .ok (.iastore, 1) := by decide +kernel
theorem dX11_pass_79 : decode cX11_pass 79 = .ok (.aload_n 0, 1) := by decide +kernel
theorem dX11_pass_80 : decode cX11_pass 80 = .ok (.dup, 1) := by decide +kernel
theorem dX11_pass_81 : decode cX11_pass 81 = .ok (.getfield 189, 3) := by decide +kernel
theorem dX11_pass_84 : decode cX11_pass 84 = .ok (.iconst 1, 1) := by decide +kernel
theorem dX11_pass_85 : decode cX11_pass 85 = .ok (.iadd, 1) := by decide +kernel
theorem dX11_pass_86 : decode cX11_pass 86 = .ok (.putfield 189, 3) := by decide +kernel
theorem dX11_pass_89 : decode cX11_pass 89 = .ok (.aload_n 0, 1) := by decide +kernel
theorem dX11_pass_90 : decode cX11_pass 90 = .ok (.getfield 189, 3) := by decide +kernel
theorem dX11_pass_93 : decode cX11_pass 93 = .ok (.ireturn, 1) := by decide +kernel
theorem dX11_today_0 : decode cX11_today 0 = .ok (.aload_n 0, 1) := by decide +kernel
theorem dX11_today_1 : decode cX11_today 1 = .ok (.iconst 0, 1) := by decide +kernel
theorem dX11_today_2 : decode cX11_today 2 = .ok (.putfield 87, 3) := by decide +kernel
theorem dX11_today_5 : decode cX11_today 5 = .ok (.aload_n 0, 1) := by decide +kernel
theorem dX11_today_6 : decode cX11_today 6 = .ok (.getfield 189, 3) := by decide +kernel
theorem dX11_today_9 : decode cX11_today 9 = .ok (.ireturn, 1) := by decide +kernel
theorem dX11_dropped_0 : decode cX11_dropped 0 = .ok (.aload_n 0, 1) := by decide +kernel
theorem dX11_dropped_1 : decode cX11_dropped 1 = .ok (.iconst 0, 1) := by decide +kernel
theorem dX11_dropped_2 : decode cX11_dropped 2 = .ok (.putfield 87, 3) := by decide +kernel
theorem dX11_dropped_5 : decode cX11_dropped 5 = .ok (.aload_n 0, 1) := by decide +kernel
theorem dX11_dropped_6 : decode cX11_dropped 6 = .ok (.getfield 199, 3) := by decide +kernel
theorem dX11_dropped_9 : decode cX11_dropped 9 = .ok (.ireturn, 1) := by decide +kernel
theorem dX11_isPeoples_0 : decode cX11_isPeoples 0 = .ok (.aload_n 0, 1) := by decide +kernel
theorem dX11_isPeoples_1 : decode cX11_isPeoples 1 = .ok (.getfield 220, 3) := by decide +kernel
theorem dX11_isPeoples_4 : decode cX11_isPeoples 4 = .ok (.iload_n 1, 1) := by decide +kernel
theorem dX11_isPeoples_5 : decode cX11_isPeoples 5 = .ok (.ishr, 1) := by decide +kernel
theorem dX11_isPeoples_6 : decode cX11_isPeoples 6 = .ok (.iconst 1, 1) := by decide +kernel
theorem dX11_isPeoples_7 : decode cX11_isPeoples 7 = .ok (.iand, 1) := by decide +kernel
theorem dX11_isPeoples_8 : decode cX11_isPeoples 8 = .ok (.iconst 1, 1) := by decide +kernel
theorem dX11_isPeoples_9 : decode cX11_isPeoples 9 = .ok (.if_icmp .ne 7, 3) := by decide +kernel
theorem dX11_isPeoples_12 : decode cX11_isPeoples 12 = .ok (.iconst 1, 1) := by decide +kernel
theorem dX11_isPeoples_13 : decode cX11_isPeoples 13 = .ok (.goto 4, 3) := by decide +kernel
theorem dX11_isPeoples_16 : decode cX11_isPeoples 16 = .ok (.iconst 0, 1) := by decide +kernel
theorem dX11_isPeoples_17 : decode cX11_isPeoples 17 = .ok (.ireturn, 1) := by decide +kernel
theorem dX11_placeIn_0 : decode cX11_placeIn 0 = .ok (.iconst 0, 1) := by decide +kernel
theorem dX11_placeIn_1 : decode cX11_placeIn 1 = .ok (.istore_n 3, 1) := by decide +kernel
theorem dX11_placeIn_2 : decode cX11_placeIn 2 = .ok (.iload_n 1, 1) := by decide +kernel
theorem dX11_placeIn_3 : decode cX11_placeIn 3 = .ok (.iload_n 3, 1) := by decide +kernel
theorem dX11_placeIn_4 : decode cX11_placeIn 4 = .ok (.invokestatic 94, 3) := by decide +kernel
theorem dX11_placeIn_7 : decode cX11_placeIn 7 = .ok (.iload_n 2, 1) := by decide +kernel
theorem dX11_placeIn_8 : decode cX11_placeIn 8 = .ok (.if_icmp .eq 9, 3) := by decide +kernel
theorem dX11_placeIn_11 : decode cX11_placeIn 11 = .ok (.iinc 3 1, 3) := by decide +kernel
theorem dX11_placeIn_14 : decode cX11_placeIn 14 = .ok (.goto (-12), 3) := by decide +kernel
theorem dX11_placeIn_17 : decode cX11_placeIn 17 = .ok (.iload_n 3, 1) := by decide +kernel
theorem dX11_placeIn_18 : decode cX11_placeIn 18 = .ok (.ireturn, 1) := by decide +kernel
theorem dX11_dueAt_0 : decode cX11_dueAt 0 = .ok (.aload_n 0, 1) := by decide +kernel
theorem dX11_dueAt_1 : decode cX11_dueAt 1 = .ok (.getfield 223, 3) := by decide +kernel
theorem dX11_dueAt_4 : decode cX11_dueAt 4 = .ok (.aload_n 0, 1) := by decide +kernel
theorem dX11_dueAt_5 : decode cX11_dueAt 5 = .ok (.aload_n 0, 1) := by decide +kernel
theorem dX11_dueAt_6 : decode cX11_dueAt 6 = .ok (.getfield 226, 3) := by decide +kernel
theorem dX11_dueAt_9 : decode cX11_dueAt 9 = .ok (.invokevirtual 165, 3) := by decide +kernel
theorem dX11_dueAt_12 : decode cX11_dueAt 12 = .ok (.iload_n 1, 1) := by decide +kernel
theorem dX11_dueAt_13 : decode cX11_dueAt 13 = .ok (.imul, 1) := by decide +kernel
theorem dX11_dueAt_14 : decode cX11_dueAt 14 = .ok (.iload_n 2, 1) := by decide +kernel
theorem dX11_dueAt_15 : decode cX11_dueAt 15 = .ok (.iadd, 1) := by decide +kernel
theorem dX11_dueAt_16 : decode cX11_dueAt 16 = .ok (.iload_n 1, 1) := by decide +kernel
theorem dX11_dueAt_17 : decode cX11_dueAt 17 = .ok (.iconst 2, 1) := by decide +kernel
theorem dX11_dueAt_18 : decode cX11_dueAt 18 = .ok (.idiv, 1) := by decide +kernel
theorem dX11_dueAt_19 : decode cX11_dueAt 19 = .ok (.iadd, 1) := by decide +kernel
theorem dX11_dueAt_20 : decode cX11_dueAt 20 = .ok (.imul, 1) := by decide +kernel
theorem dX11_dueAt_21 : decode cX11_dueAt 21 = .ok (.aload_n 0, 1) := by decide +kernel
theorem dX11_dueAt_22 : decode cX11_dueAt 22 = .ok (.getfield 229, 3) := by decide +kernel
theorem dX11_dueAt_25 : decode cX11_dueAt 25 = .ok (.iadd, 1) := by decide +kernel
theorem dX11_dueAt_26 : decode cX11_dueAt 26 = .ok (.ireturn, 1) := by decide +kernel
theorem dX11_isReady_0 : decode cX11_isReady 0 = .ok (.aload_n 0, 1) := by decide +kernel
theorem dX11_isReady_1 : decode cX11_isReady 1 = .ok (.getfield 232, 3) := by decide +kernel
theorem dX11_isReady_4 : decode cX11_isReady 4 = .ok (.aload_n 0, 1) := by decide +kernel
theorem dX11_isReady_5 : decode cX11_isReady 5 = .ok (.getfield 162, 3) := by decide +kernel
theorem dX11_isReady_8 : decode cX11_isReady 8 = .ok (.if_icmp .ge 7, 3) := by decide +kernel
theorem dX11_isReady_11 : decode cX11_isReady 11 = .ok (.iconst 1, 1) := by decide +kernel
theorem dX11_isReady_12 : decode cX11_isReady 12 = .ok (.goto 4, 3) := by decide +kernel
theorem dX11_isReady_15 : decode cX11_isReady 15 = .ok (.iconst 0, 1) := by decide +kernel
theorem dX11_isReady_16 : decode cX11_isReady 16 = .ok (.istore_n 1, 1) := by decide +kernel
theorem dX11_isReady_17 : decode cX11_isReady 17 = .ok (.iconst 0, 1) := by decide +kernel
theorem dX11_isReady_18 : decode cX11_isReady 18 = .ok (.istore_n 2, 1) := by decide +kernel
theorem dX11_isReady_19 : decode cX11_isReady 19 = .ok (.iload_n 2, 1) := by decide +kernel
theorem dX11_isReady_20 : decode cX11_isReady 20 = .ok (.bipush 6, 2) := by decide +kernel
theorem dX11_isReady_22 : decode cX11_isReady 22 = .ok (.if_icmp .ge 40, 3) := by decide +kernel
theorem dX11_isReady_25 : decode cX11_isReady 25 = .ok (.iload_n 1, 1) := by decide +kernel
theorem dX11_isReady_26 : decode cX11_isReady 26 = .ok (.ifCond .eq 28, 3) := by decide +kernel
theorem dX11_isReady_29 : decode cX11_isReady 29 = .ok (.aload_n 0, 1) := by decide +kernel
theorem dX11_isReady_30 : decode cX11_isReady 30 = .ok (.iload_n 2, 1) := by decide +kernel
theorem dX11_isReady_31 : decode cX11_isReady 31 = .ok (.invokevirtual 235, 3) := by decide +kernel
theorem dX11_isReady_34 : decode cX11_isReady 34 = .ok (.ifCond .eq 16, 3) := by decide +kernel
theorem dX11_isReady_37 : decode cX11_isReady 37 = .ok (.aload_n 0, 1) := by decide +kernel
theorem dX11_isReady_38 : decode cX11_isReady 38 = .ok (.getfield 69, 3) := by decide +kernel
theorem dX11_isReady_41 : decode cX11_isReady 41 = .ok (.iload_n 2, 1) := by decide +kernel
theorem dX11_isReady_42 : decode cX11_isReady 42 = .ok (.iaload, 1) := by decide +kernel
theorem dX11_isReady_43 : decode cX11_isReady 43 = .ok (.aload_n 0, 1) := by decide +kernel
theorem dX11_isReady_44 : decode cX11_isReady 44 = .ok (.getfield 232, 3) := by decide +kernel
theorem dX11_isReady_47 : decode cX11_isReady 47 = .ok (.if_icmp .le 7, 3) := by decide +kernel
theorem dX11_isReady_50 : decode cX11_isReady 50 = .ok (.iconst 1, 1) := by decide +kernel
theorem dX11_isReady_51 : decode cX11_isReady 51 = .ok (.goto 4, 3) := by decide +kernel
theorem dX11_isReady_54 : decode cX11_isReady 54 = .ok (.iconst 0, 1) := by decide +kernel
theorem dX11_isReady_55 : decode cX11_isReady 55 = .ok (.istore_n 1, 1) := by decide +kernel
theorem dX11_isReady_56 : decode cX11_isReady 56 = .ok (.iinc 2 1, 3) := by decide +kernel
theorem dX11_isReady_59 : decode cX11_isReady 59 = .ok (.goto (-40), 3) := by decide +kernel
theorem dX11_isReady_62 : decode cX11_isReady 62 = .ok (.iload_n 1, 1) := by decide +kernel
theorem dX11_isReady_63 : decode cX11_isReady 63 = .ok (.ireturn, 1) := by decide +kernel
theorem dX11_doesRow_0 : decode cX11_doesRow 0 = .ok (.aload_n 0, 1) := by decide +kernel
theorem dX11_doesRow_1 : decode cX11_doesRow 1 = .ok (.aload_n 0, 1) := by decide +kernel
theorem dX11_doesRow_2 : decode cX11_doesRow 2 = .ok (.getfield 226, 3) := by decide +kernel
theorem dX11_doesRow_5 : decode cX11_doesRow 5 = .ok (.invokevirtual 165, 3) := by decide +kernel
theorem dX11_doesRow_8 : decode cX11_doesRow 8 = .ok (.istore_n 1, 1) := by decide +kernel
theorem dX11_doesRow_9 : decode cX11_doesRow 9 = .ok (.iconst 0, 1) := by decide +kernel
theorem dX11_doesRow_10 : decode cX11_doesRow 10 = .ok (.istore_n 2, 1) := by decide +kernel
theorem dX11_doesRow_11 : decode cX11_doesRow 11 = .ok (.iconst 0, 1) := by decide +kernel
theorem dX11_doesRow_12 : decode cX11_doesRow 12 = .ok (.istore_n 3, 1) := by decide +kernel
theorem dX11_doesRow_13 : decode cX11_doesRow 13 = .ok (.iconst 0, 1) := by decide +kernel
theorem dX11_doesRow_14 : decode cX11_doesRow 14 = .ok (.istore 4, 2) := by decide +kernel
theorem dX11_doesRow_16 : decode cX11_doesRow 16 = .ok (.iload 4, 2) := by decide +kernel
theorem dX11_doesRow_18 : decode cX11_doesRow 18 = .ok (.iload_n 1, 1) := by decide +kernel
theorem dX11_doesRow_19 : decode cX11_doesRow 19 = .ok (.if_icmp .ge 108, 3) := by decide +kernel
theorem dX11_doesRow_22 : decode cX11_doesRow 22 = .ok (.aload_n 0, 1) := by decide +kernel
theorem dX11_doesRow_23 : decode cX11_doesRow 23 = .ok (.getfield 34, 3) := by decide +kernel
theorem dX11_doesRow_26 : decode cX11_doesRow 26 = .ok (.aload_n 0, 1) := by decide +kernel
theorem dX11_doesRow_27 : decode cX11_doesRow 27 = .ok (.getfield 232, 3) := by decide +kernel
theorem dX11_doesRow_30 : decode cX11_doesRow 30 = .ok (.iaload, 1) := by decide +kernel
theorem dX11_doesRow_31 : decode cX11_doesRow 31 = .ok (.iload 4, 2) := by decide +kernel
theorem dX11_doesRow_33 : decode cX11_doesRow 33 = .ok (.invokestatic 94, 3) := by decide +kernel
theorem dX11_doesRow_36 : decode cX11_doesRow 36 = .ok (.istore 5, 2) := by decide +kernel
theorem dX11_doesRow_38 : decode cX11_doesRow 38 = .ok (.aload_n 0, 1) := by decide +kernel
theorem dX11_doesRow_39 : decode cX11_doesRow 39 = .ok (.iload 5, 2) := by decide +kernel
theorem dX11_doesRow_41 : decode cX11_doesRow 41 = .ok (.invokevirtual 235, 3) := by decide +kernel
theorem dX11_doesRow_44 : decode cX11_doesRow 44 = .ok (.ifCond .eq 22, 3) := by decide +kernel
theorem dX11_doesRow_47 : decode cX11_doesRow 47 = .ok (.aload_n 0, 1) := by decide +kernel
theorem dX11_doesRow_48 : decode cX11_doesRow 48 = .ok (.getfield 72, 3) := by decide +kernel
theorem dX11_doesRow_51 : decode cX11_doesRow 51 = .ok (.sipush 240, 3) := by decide +kernel
theorem dX11_doesRow_54 : decode cX11_doesRow 54 = .ok (.iload 5, 2) := by decide +kernel
theorem dX11_doesRow_56 : decode cX11_doesRow 56 = .ok (.imul, 1) := by decide +kernel
theorem dX11_doesRow_57 : decode cX11_doesRow 57 = .ok (.aload_n 0, 1) := by decide +kernel
theorem dX11_doesRow_58 : decode cX11_doesRow 58 = .ok (.getfield 232, 3) := by decide +kernel
theorem dX11_doesRow_61 : decode cX11_doesRow 61 = .ok (.iadd, 1) := by decide +kernel
theorem dX11_doesRow_62 : decode cX11_doesRow 62 = .ok (.iaload, 1) := by decide +kernel
theorem dX11_doesRow_63 : decode cX11_doesRow 63 = .ok (.goto 13, 3) := by decide +kernel
theorem dX11_doesRow_66 : decode cX11_doesRow 66 = .ok (.aload_n 0, 1) := by decide +kernel
theorem dX11_doesRow_67 : decode cX11_doesRow 67 = .ok (.aload_n 0, 1) := by decide +kernel
theorem dX11_doesRow_68 : decode cX11_doesRow 68 = .ok (.getfield 232, 3) := by decide +kernel
theorem dX11_doesRow_71 : decode cX11_doesRow 71 = .ok (.iload 4, 2) := by decide +kernel
theorem dX11_doesRow_73 : decode cX11_doesRow 73 = .ok (.invokevirtual 238, 3) := by decide +kernel
theorem dX11_doesRow_76 : decode cX11_doesRow 76 = .ok (.istore 6, 2) := by decide +kernel
theorem dX11_doesRow_78 : decode cX11_doesRow 78 = .ok (.iload_n 3, 1) := by decide +kernel
theorem dX11_doesRow_79 : decode cX11_doesRow 79 = .ok (.ifCond .ne 14, 3) := by decide +kernel
theorem dX11_doesRow_82 : decode cX11_doesRow 82 = .ok (.iload 4, 2) := by decide +kernel
theorem dX11_doesRow_84 : decode cX11_doesRow 84 = .ok (.ifCond .le 13, 3) := by decide +kernel
theorem dX11_doesRow_87 : decode cX11_doesRow 87 = .ok (.iload 6, 2) := by decide +kernel
theorem dX11_doesRow_89 : decode cX11_doesRow 89 = .ok (.iload_n 2, 1) := by decide +kernel
theorem dX11_doesRow_90 : decode cX11_doesRow 90 = .ok (.if_icmp .gt 7, 3) := by decide +kernel
theorem dX11_doesRow_93 : decode cX11_doesRow 93 = .ok (.iconst 1, 1) := by decide +kernel
theorem dX11_doesRow_94 : decode cX11_doesRow 94 = .ok (.goto 4, 3) := by decide +kernel
theorem dX11_doesRow_97 : decode cX11_doesRow 97 = .ok (.iconst 0, 1) := by decide +kernel
theorem dX11_doesRow_98 : decode cX11_doesRow 98 = .ok (.istore_n 3, 1) := by decide +kernel
theorem dX11_doesRow_99 : decode cX11_doesRow 99 = .ok (.iload 6, 2) := by decide +kernel
theorem dX11_doesRow_101 : decode cX11_doesRow 101 = .ok (.istore_n 2, 1) := by decide +kernel
theorem dX11_doesRow_102 : decode cX11_doesRow 102 = .ok (.aload_n 0, 1) := by decide +kernel
theorem dX11_doesRow_103 : decode cX11_doesRow 103 = .ok (.iload 5, 2) := by decide +kernel
theorem dX11_doesRow_105 : decode cX11_doesRow 105 = .ok (.invokevirtual 235, 3) := by decide +kernel
theorem dX11_doesRow_108 : decode cX11_doesRow 108 = .ok (.ifCond .ne 13, 3) := by decide +kernel
theorem dX11_doesRow_111 : decode cX11_doesRow 111 = .ok (.aload_n 0, 1) := by decide +kernel
theorem dX11_doesRow_112 : decode cX11_doesRow 112 = .ok (.iload 5, 2) := by decide +kernel
theorem dX11_doesRow_114 : decode cX11_doesRow 114 = .ok (.aload_n 0, 1) := by decide +kernel
theorem dX11_doesRow_115 : decode cX11_doesRow 115 = .ok (.getfield 232, 3) := by decide +kernel
theorem dX11_doesRow_118 : decode cX11_doesRow 118 = .ok (.invokevirtual 241, 3) := by decide +kernel
theorem dX11_doesRow_121 : decode cX11_doesRow 121 = .ok (.iinc 4 1, 3) := by decide +kernel
theorem dX11_doesRow_124 : decode cX11_doesRow 124 = .ok (.goto (-108), 3) := by decide +kernel
theorem dX11_doesRow_127 : decode cX11_doesRow 127 = .ok (.aload_n 0, 1) := by decide +kernel
theorem dX11_doesRow_128 : decode cX11_doesRow 128 = .ok (.dup, 1) := by decide +kernel
theorem dX11_doesRow_129 : decode cX11_doesRow 129 = .ok (.getfield 244, 3) := by decide +kernel
theorem dX11_doesRow_132 : decode cX11_doesRow 132 = .ok (.iload_n 3, 1) := by decide +kernel
theorem dX11_doesRow_133 : decode cX11_doesRow 133 = .ok (.ifCond .eq 7, 3) := by decide +kernel
theorem dX11_doesRow_136 : decode cX11_doesRow 136 = .ok (.iconst 1, 1) := by decide +kernel
theorem dX11_doesRow_137 : decode cX11_doesRow 137 = .ok (.goto 4, 3) := by decide +kernel
theorem dX11_doesRow_140 : decode cX11_doesRow 140 = .ok (.iconst 0, 1) := by decide +kernel
theorem dX11_doesRow_141 : decode cX11_doesRow 141 = .ok (.iadd, 1) := by decide +kernel
theorem dX11_doesRow_142 : decode cX11_doesRow 142 = .ok (.putfield 244, 3) := by decide +kernel
theorem dX11_doesRow_145 : decode cX11_doesRow 145 = .ok (.aload_n 0, 1) := by decide +kernel
theorem dX11_doesRow_146 : decode cX11_doesRow 146 = .ok (.dup, 1) := by decide +kernel
theorem dX11_doesRow_147 : decode cX11_doesRow 147 = .ok (.getfield 232, 3) := by decide +kernel
theorem dX11_doesRow_150 : decode cX11_doesRow 150 = .ok (.iconst 1, 1) := by decide +kernel
theorem dX11_doesRow_151 : decode cX11_doesRow 151 = .ok (.iadd, 1) := by decide +kernel
theorem dX11_doesRow_152 : decode cX11_doesRow 152 = .ok (.putfield 232, 3) := by decide +kernel
theorem dX11_doesRow_155 : decode cX11_doesRow 155 = .ok (.aload_n 0, 1) := by decide +kernel
theorem dX11_doesRow_156 : decode cX11_doesRow 156 = .ok (.invokevirtual 247, 3) := by decide +kernel
theorem dX11_doesRow_159 : decode cX11_doesRow 159 = .ok (.aload_n 0, 1) := by decide +kernel
theorem dX11_doesRow_160 : decode cX11_doesRow 160 = .ok (.aload_n 0, 1) := by decide +kernel
theorem dX11_doesRow_161 : decode cX11_doesRow 161 = .ok (.getfield 226, 3) := by decide +kernel
theorem dX11_doesRow_164 : decode cX11_doesRow 164 = .ok (.invokevirtual 168, 3) := by decide +kernel
theorem dX11_doesRow_167 : decode cX11_doesRow 167 = .ok (.aload_n 0, 1) := by decide +kernel
theorem dX11_doesRow_168 : decode cX11_doesRow 168 = .ok (.iload_n 1, 1) := by decide +kernel
theorem dX11_doesRow_169 : decode cX11_doesRow 169 = .ok (.invokevirtual 192, 3) := by decide +kernel
theorem dX11_doesRow_172 : decode cX11_doesRow 172 = .ok (.ifCond .ne 11, 3) := by decide +kernel
theorem dX11_doesRow_175 : decode cX11_doesRow 175 = .ok (.aload_n 0, 1) := by decide +kernel
theorem dX11_doesRow_176 : decode cX11_doesRow 176 = .ok (.iconst 0, 1) := by decide +kernel
theorem dX11_doesRow_177 : decode cX11_doesRow 177 = .ok (.putfield 112, 3) := by decide +kernel
theorem dX11_doesRow_180 : decode cX11_doesRow 180 = .ok (.goto 57, 3) := by decide +kernel
theorem dX11_doesRow_183 : decode cX11_doesRow 183 = .ok (.aload_n 0, 1) := by decide +kernel
theorem dX11_doesRow_184 : decode cX11_doesRow 184 = .ok (.getfield 232, 3) := by decide +kernel
theorem dX11_doesRow_187 : decode cX11_doesRow 187 = .ok (.aload_n 0, 1) := by decide +kernel
theorem dX11_doesRow_188 : decode cX11_doesRow 188 = .ok (.getfield 162, 3) := by decide +kernel
theorem dX11_doesRow_191 : decode cX11_doesRow 191 = .ok (.if_icmp .ne 46, 3) := by decide +kernel
theorem dX11_doesRow_194 : decode cX11_doesRow 194 = .ok (.aload_n 0, 1) := by decide +kernel
theorem dX11_doesRow_195 : decode cX11_doesRow 195 = .ok (.iconst 0, 1) := by decide +kernel
theorem dX11_doesRow_196 : decode cX11_doesRow 196 = .ok (.putfield 112, 3) := by decide +kernel
theorem dX11_doesRow_199 : decode cX11_doesRow 199 = .ok (.aload_n 0, 1) := by decide +kernel
theorem dX11_doesRow_200 : decode cX11_doesRow 200 = .ok (.dup, 1) := by decide +kernel
theorem dX11_doesRow_201 : decode cX11_doesRow 201 = .ok (.getfield 250, 3) := by decide +kernel
theorem dX11_doesRow_204 : decode cX11_doesRow 204 = .ok (.iconst 1, 1) := by decide +kernel
theorem dX11_doesRow_205 : decode cX11_doesRow 205 = .ok (.iadd, 1) := by decide +kernel
theorem dX11_doesRow_206 : decode cX11_doesRow 206 = .ok (.putfield 250, 3) := by decide +kernel
theorem dX11_doesRow_209 : decode cX11_doesRow 209 = .ok (.aload_n 0, 1) := by decide +kernel
theorem dX11_doesRow_210 : decode cX11_doesRow 210 = .ok (.aload_n 0, 1) := by decide +kernel
theorem dX11_doesRow_211 : decode cX11_doesRow 211 = .ok (.getfield 226, 3) := by decide +kernel
theorem dX11_doesRow_214 : decode cX11_doesRow 214 = .ok (.putfield 84, 3) := by decide +kernel
theorem dX11_doesRow_217 : decode cX11_doesRow 217 = .ok (.aload_n 0, 1) := by decide +kernel
theorem dX11_doesRow_218 : decode cX11_doesRow 218 = .ok (.aload_n 0, 1) := by decide +kernel
theorem dX11_doesRow_219 : decode cX11_doesRow 219 = .ok (.getfield 189, 3) := by decide +kernel
theorem dX11_doesRow_222 : decode cX11_doesRow 222 = .ok (.aload_n 0, 1) := by decide +kernel
theorem dX11_doesRow_223 : decode cX11_doesRow 223 = .ok (.aload_n 0, 1) := by decide +kernel
theorem dX11_doesRow_224 : decode cX11_doesRow 224 = .ok (.getfield 189, 3) := by decide +kernel
theorem dX11_doesRow_227 : decode cX11_doesRow 227 = .ok (.aload_n 0, 1) := by decide +kernel
theorem dX11_doesRow_228 : decode cX11_doesRow 228 = .ok (.getfield 226, 3) := by decide +kernel
theorem dX11_doesRow_231 : decode cX11_doesRow 231 = .ok (.invokevirtual 208, 3) := by decide +kernel
theorem dX11_doesRow_234 : decode cX11_doesRow 234 = .ok (.invokevirtual 195, 3) := by decide +kernel
theorem dX11_doesRow_237 : decode cX11_doesRow 237 = .ok (.return_, 1) := by decide +kernel
theorem dX11_goesOn_0 : decode cX11_goesOn 0 = .ok (.aload_n 0, 1) := by decide +kernel
theorem dX11_goesOn_1 : decode cX11_goesOn 1 = .ok (.aload_n 0, 1) := by decide +kernel
theorem dX11_goesOn_2 : decode cX11_goesOn 2 = .ok (.getfield 226, 3) := by decide +kernel
theorem dX11_goesOn_5 : decode cX11_goesOn 5 = .ok (.invokevirtual 168, 3) := by decide +kernel
theorem dX11_goesOn_8 : decode cX11_goesOn 8 = .ok (.aload_n 0, 1) := by decide +kernel
theorem dX11_goesOn_9 : decode cX11_goesOn 9 = .ok (.getfield 112, 3) := by decide +kernel
theorem dX11_goesOn_12 : decode cX11_goesOn 12 = .ok (.ifCond .eq 17, 3) := by decide +kernel
theorem dX11_goesOn_15 : decode cX11_goesOn 15 = .ok (.aload_n 0, 1) := by decide +kernel
theorem dX11_goesOn_16 : decode cX11_goesOn 16 = .ok (.invokevirtual 253, 3) := by decide +kernel
theorem dX11_goesOn_19 : decode cX11_goesOn 19 = .ok (.ifCond .eq 10, 3) := by decide +kernel
theorem dX11_goesOn_22 : decode cX11_goesOn 22 = .ok (.aload_n 0, 1) := by decide +kernel
theorem dX11_goesOn_23 : decode cX11_goesOn 23 = .ok (.invokevirtual 257, 3) := by decide +kernel
theorem dX11_goesOn_26 : decode cX11_goesOn 26 = .ok (.goto (-18), 3) := by decide +kernel
theorem dX11_goesOn_29 : decode cX11_goesOn 29 = .ok (.aload_n 0, 1) := by decide +kernel
theorem dX11_goesOn_30 : decode cX11_goesOn 30 = .ok (.getfield 232, 3) := by decide +kernel
theorem dX11_goesOn_33 : decode cX11_goesOn 33 = .ok (.ireturn, 1) := by decide +kernel
theorem dX11_ring_0 : decode cX11_ring 0 = .ok (.aload_n 0, 1) := by decide +kernel
theorem dX11_ring_1 : decode cX11_ring 1 = .ok (.aload_n 0, 1) := by decide +kernel
theorem dX11_ring_2 : decode cX11_ring 2 = .ok (.iload_n 1, 1) := by decide +kernel
theorem dX11_ring_3 : decode cX11_ring 3 = .ok (.invokevirtual 177, 3) := by decide +kernel
theorem dX11_ring_6 : decode cX11_ring 6 = .ok (.ifCond .ne 7, 3) := by decide +kernel
theorem dX11_ring_9 : decode cX11_ring 9 = .ok (.iconst 1, 1) := by decide +kernel
theorem dX11_ring_10 : decode cX11_ring 10 = .ok (.goto 37, 3) := by decide +kernel
theorem dX11_ring_13 : decode cX11_ring 13 = .ok (.iload_n 2, 1) := by decide +kernel
theorem dX11_ring_14 : decode cX11_ring 14 = .ok (.iconst 0, 1) := by decide +kernel
theorem dX11_ring_15 : decode cX11_ring 15 = .ok (.iconst 1, 1) := by decide +kernel
theorem dX11_ring_16 : decode cX11_ring 16 = .ok (.aload_n 0, 1) := by decide +kernel
theorem dX11_ring_17 : decode cX11_ring 17 = .ok (.iload_n 1, 1) := by decide +kernel
theorem dX11_ring_18 : decode cX11_ring 18 = .ok (.invokevirtual 165, 3) := by decide +kernel
theorem dX11_ring_21 : decode cX11_ring 21 = .ok (.ishl, 1) := by decide +kernel
theorem dX11_ring_22 : decode cX11_ring 22 = .ok (.iconst 1, 1) := by decide +kernel
theorem dX11_ring_23 : decode cX11_ring 23 = .ok (.isub, 1) := by decide +kernel
theorem dX11_ring_24 : decode cX11_ring 24 = .ok (.invokestatic 90, 3) := by decide +kernel
theorem dX11_ring_27 : decode cX11_ring 27 = .ok (.ifCond .eq 15, 3) := by decide +kernel
theorem dX11_ring_30 : decode cX11_ring 30 = .ok (.iload_n 3, 1) := by decide +kernel
theorem dX11_ring_31 : decode cX11_ring 31 = .ok (.bipush 100, 2) := by decide +kernel
theorem dX11_ring_33 : decode cX11_ring 33 = .ok (.sipush 1000, 3) := by decide +kernel
theorem dX11_ring_36 : decode cX11_ring 36 = .ok (.invokestatic 90, 3) := by decide +kernel
theorem dX11_ring_39 : decode cX11_ring 39 = .ok (.ifCond .ne 7, 3) := by decide +kernel
theorem dX11_ring_42 : decode cX11_ring 42 = .ok (.iconst 2, 1) := by decide +kernel
theorem dX11_ring_43 : decode cX11_ring 43 = .ok (.goto 4, 3) := by decide +kernel
theorem dX11_ring_46 : decode cX11_ring 46 = .ok (.iconst 0, 1) := by decide +kernel
theorem dX11_ring_47 : decode cX11_ring 47 = .ok (.putfield 87, 3) := by decide +kernel
theorem dX11_ring_50 : decode cX11_ring 50 = .ok (.aload_n 0, 1) := by decide +kernel
theorem dX11_ring_51 : decode cX11_ring 51 = .ok (.getfield 87, 3) := by decide +kernel
theorem dX11_ring_54 : decode cX11_ring 54 = .ok (.ifCond .ne 83, 3) := by decide +kernel
theorem dX11_ring_57 : decode cX11_ring 57 = .ok (.aload_n 0, 1) := by decide +kernel
theorem dX11_ring_58 : decode cX11_ring 58 = .ok (.aload_n 0, 1) := by decide +kernel
theorem dX11_ring_59 : decode cX11_ring 59 = .ok (.getfield 189, 3) := by decide +kernel
theorem dX11_ring_62 : decode cX11_ring 62 = .ok (.invokevirtual 217, 3) := by decide +kernel
theorem dX11_ring_65 : decode cX11_ring 65 = .ok (.istore 4, 2) := by decide +kernel
theorem dX11_ring_67 : decode cX11_ring 67 = .ok (.aload_n 0, 1) := by decide +kernel
theorem dX11_ring_68 : decode cX11_ring 68 = .ok (.getfield 112, 3) := by decide +kernel
theorem dX11_ring_71 : decode cX11_ring 71 = .ok (.ifCond .ne 34, 3) := by decide +kernel
theorem dX11_ring_74 : decode cX11_ring 74 = .ok (.aload_n 0, 1) := by decide +kernel
theorem dX11_ring_75 : decode cX11_ring 75 = .ok (.aload_n 0, 1) := by decide +kernel
theorem dX11_ring_76 : decode cX11_ring 76 = .ok (.getfield 189, 3) := by decide +kernel
theorem dX11_ring_79 : decode cX11_ring 79 = .ok (.iload_n 1, 1) := by decide +kernel
theorem dX11_ring_80 : decode cX11_ring 80 = .ok (.invokevirtual 208, 3) := by decide +kernel
theorem dX11_ring_83 : decode cX11_ring 83 = .ok (.iconst (-1), 1) := by decide +kernel
theorem dX11_ring_84 : decode cX11_ring 84 = .ok (.if_icmp .eq 21, 3) := by decide +kernel
theorem dX11_ring_87 : decode cX11_ring 87 = .ok (.iload_n 1, 1) := by decide +kernel
theorem dX11_ring_88 : decode cX11_ring 88 = .ok (.aload_n 0, 1) := by decide +kernel
theorem dX11_ring_89 : decode cX11_ring 89 = .ok (.getfield 84, 3) := by decide +kernel
theorem dX11_ring_92 : decode cX11_ring 92 = .ok (.if_icmp .eq 13, 3) := by decide +kernel
theorem dX11_ring_95 : decode cX11_ring 95 = .ok (.iload 4, 2) := by decide +kernel
theorem dX11_ring_97 : decode cX11_ring 97 = .ok (.iconst (-1), 1) := by decide +kernel
theorem dX11_ring_98 : decode cX11_ring 98 = .ok (.if_icmp .eq 7, 3) := by decide +kernel
theorem dX11_ring_101 : decode cX11_ring 101 = .ok (.iconst 1, 1) := by decide +kernel
theorem dX11_ring_102 : decode cX11_ring 102 = .ok (.goto 4, 3) := by decide +kernel
theorem dX11_ring_105 : decode cX11_ring 105 = .ok (.iconst 0, 1) := by decide +kernel
theorem dX11_ring_106 : decode cX11_ring 106 = .ok (.istore 5, 2) := by decide +kernel
theorem dX11_ring_108 : decode cX11_ring 108 = .ok (.aload_n 0, 1) := by decide +kernel
theorem dX11_ring_109 : decode cX11_ring 109 = .ok (.iload 5, 2) := by decide +kernel
theorem dX11_ring_111 : decode cX11_ring 111 = .ok (.ifCond .eq 22, 3) := by decide +kernel
theorem dX11_ring_114 : decode cX11_ring 114 = .ok (.aload_n 0, 1) := by decide +kernel
theorem dX11_ring_115 : decode cX11_ring 115 = .ok (.getfield 59, 3) := by decide +kernel
theorem dX11_ring_118 : decode cX11_ring 118 = .ok (.iload 4, 2) := by decide +kernel
theorem dX11_ring_120 : decode cX11_ring 120 = .ok (.iaload, 1) := by decide +kernel
theorem dX11_ring_121 : decode cX11_ring 121 = .ok (.aload_n 0, 1) := by decide +kernel
theorem dX11_ring_122 : decode cX11_ring 122 = .ok (.iload_n 1, 1) := by decide +kernel
theorem dX11_ring_123 : decode cX11_ring 123 = .ok (.invokevirtual 165, 3) := by decide +kernel
theorem dX11_ring_126 : decode cX11_ring 126 = .ok (.if_icmp .lt 7, 3) := by decide +kernel
theorem dX11_ring_129 : decode cX11_ring 129 = .ok (.iconst 0, 1) := by decide +kernel
theorem dX11_ring_130 : decode cX11_ring 130 = .ok (.goto 4, 3) := by decide +kernel
theorem dX11_ring_133 : decode cX11_ring 133 = .ok (.iconst 3, 1) := by decide +kernel
theorem dX11_ring_134 : decode cX11_ring 134 = .ok (.putfield 87, 3) := by decide +kernel
theorem dX11_ring_137 : decode cX11_ring 137 = .ok (.aload_n 0, 1) := by decide +kernel
theorem dX11_ring_138 : decode cX11_ring 138 = .ok (.getfield 87, 3) := by decide +kernel
theorem dX11_ring_141 : decode cX11_ring 141 = .ok (.ifCond .le 5, 3) := by decide +kernel
theorem dX11_ring_144 : decode cX11_ring 144 = .ok (.iconst 0, 1) := by decide +kernel
theorem dX11_ring_145 : decode cX11_ring 145 = .ok (.ireturn, 1) := by decide +kernel
theorem dX11_ring_146 : decode cX11_ring 146 = .ok (.aload_n 0, 1) := by decide +kernel
theorem dX11_ring_147 : decode cX11_ring 147 = .ok (.aload_n 0, 1) := by decide +kernel
theorem dX11_ring_148 : decode cX11_ring 148 = .ok (.aload_n 0, 1) := by decide +kernel
theorem dX11_ring_149 : decode cX11_ring 149 = .ok (.getfield 189, 3) := by decide +kernel
theorem dX11_ring_152 : decode cX11_ring 152 = .ok (.invokevirtual 217, 3) := by decide +kernel
theorem dX11_ring_155 : decode cX11_ring 155 = .ok (.putfield 62, 3) := by decide +kernel
theorem dX11_ring_158 : decode cX11_ring 158 = .ok (.aload_n 0, 1) := by decide +kernel
theorem dX11_ring_159 : decode cX11_ring 159 = .ok (.iconst 1, 1) := by decide +kernel
theorem dX11_ring_160 : decode cX11_ring 160 = .ok (.putfield 112, 3) := by decide +kernel
theorem dX11_ring_163 : decode cX11_ring 163 = .ok (.aload_n 0, 1) := by decide +kernel
theorem dX11_ring_164 : decode cX11_ring 164 = .ok (.iload_n 1, 1) := by decide +kernel
theorem dX11_ring_165 : decode cX11_ring 165 = .ok (.putfield 226, 3) := by decide +kernel
theorem dX11_ring_168 : decode cX11_ring 168 = .ok (.aload_n 0, 1) := by decide +kernel
theorem dX11_ring_169 : decode cX11_ring 169 = .ok (.iload_n 2, 1) := by decide +kernel
theorem dX11_ring_170 : decode cX11_ring 170 = .ok (.putfield 220, 3) := by decide +kernel
theorem dX11_ring_173 : decode cX11_ring 173 = .ok (.aload_n 0, 1) := by decide +kernel
theorem dX11_ring_174 : decode cX11_ring 174 = .ok (.iload_n 3, 1) := by decide +kernel
theorem dX11_ring_175 : decode cX11_ring 175 = .ok (.putfield 223, 3) := by decide +kernel
theorem dX11_ring_178 : decode cX11_ring 178 = .ok (.aload_n 0, 1) := by decide +kernel
theorem dX11_ring_179 : decode cX11_ring 179 = .ok (.iconst 0, 1) := by decide +kernel
theorem dX11_ring_180 : decode cX11_ring 180 = .ok (.putfield 232, 3) := by decide +kernel
theorem dX11_ring_183 : decode cX11_ring 183 = .ok (.aload_n 0, 1) := by decide +kernel
theorem dX11_ring_184 : decode cX11_ring 184 = .ok (.iconst 0, 1) := by decide +kernel
theorem dX11_ring_185 : decode cX11_ring 185 = .ok (.putfield 229, 3) := by decide +kernel
theorem dX11_ring_188 : decode cX11_ring 188 = .ok (.iconst 0, 1) := by decide +kernel
theorem dX11_ring_189 : decode cX11_ring 189 = .ok (.istore 4, 2) := by decide +kernel
theorem dX11_ring_191 : decode cX11_ring 191 = .ok (.iload 4, 2) := by decide +kernel
theorem dX11_ring_193 : decode cX11_ring 193 = .ok (.bipush 6, 2) := by decide +kernel
theorem dX11_ring_195 : decode cX11_ring 195 = .ok (.if_icmp .ge 17, 3) := by decide +kernel
theorem dX11_ring_198 : decode cX11_ring 198 = .ok (.aload_n 0, 1) := by decide +kernel
theorem dX11_ring_199 : decode cX11_ring 199 = .ok (.getfield 69, 3) := by decide +kernel
theorem dX11_ring_202 : decode cX11_ring 202 = .ok (.iload 4, 2) := by decide +kernel
theorem dX11_ring_204 : decode cX11_ring 204 = .ok (.iconst 0, 1) := by decide +kernel
theorem dX11_ring_205 : decode cX11_ring 205 = .ok (.iastore, 1) := by decide +kernel
theorem dX11_ring_206 : decode cX11_ring 206 = .ok (.iinc 4 1, 3) := by decide +kernel
theorem dX11_ring_209 : decode cX11_ring 209 = .ok (.goto (-18), 3) := by decide +kernel
theorem dX11_ring_212 : decode cX11_ring 212 = .ok (.aload_n 0, 1) := by decide +kernel
theorem dX11_ring_213 : decode cX11_ring 213 = .ok (.invokevirtual 260, 3) := by decide +kernel
theorem dX11_ring_216 : decode cX11_ring 216 = .ok (.ireturn, 1) := by decide +kernel
theorem dX11_stand_0 : decode cX11_stand 0 = .ok (.aload_n 0, 1) := by decide +kernel
theorem dX11_stand_1 : decode cX11_stand 1 = .ok (.aload_n 0, 1) := by decide +kernel
theorem dX11_stand_2 : decode cX11_stand 2 = .ok (.getfield 112, 3) := by decide +kernel
theorem dX11_stand_5 : decode cX11_stand 5 = .ok (.ifCond .eq 7, 3) := by decide +kernel
theorem dX11_stand_8 : decode cX11_stand 8 = .ok (.iconst 0, 1) := by decide +kernel
theorem dX11_stand_9 : decode cX11_stand 9 = .ok (.goto 4, 3) := by decide +kernel
theorem dX11_stand_12 : decode cX11_stand 12 = .ok (.iconst 1, 1) := by decide +kernel
theorem dX11_stand_13 : decode cX11_stand 13 = .ok (.putfield 87, 3) := by decide +kernel
theorem dX11_stand_16 : decode cX11_stand 16 = .ok (.aload_n 0, 1) := by decide +kernel
theorem dX11_stand_17 : decode cX11_stand 17 = .ok (.getfield 87, 3) := by decide +kernel
theorem dX11_stand_20 : decode cX11_stand 20 = .ok (.ifCond .le 5, 3) := by decide +kernel
theorem dX11_stand_23 : decode cX11_stand 23 = .ok (.iconst 0, 1) := by decide +kernel
theorem dX11_stand_24 : decode cX11_stand 24 = .ok (.ireturn, 1) := by decide +kernel
theorem dX11_stand_25 : decode cX11_stand 25 = .ok (.aload_n 0, 1) := by decide +kernel
theorem dX11_stand_26 : decode cX11_stand 26 = .ok (.iconst 0, 1) := by decide +kernel
theorem dX11_stand_27 : decode cX11_stand 27 = .ok (.putfield 112, 3) := by decide +kernel
theorem dX11_stand_30 : decode cX11_stand 30 = .ok (.aload_n 0, 1) := by decide +kernel
theorem dX11_stand_31 : decode cX11_stand 31 = .ok (.invokevirtual 247, 3) := by decide +kernel
theorem dX11_stand_34 : decode cX11_stand 34 = .ok (.aload_n 0, 1) := by decide +kernel
theorem dX11_stand_35 : decode cX11_stand 35 = .ok (.getfield 232, 3) := by decide +kernel
theorem dX11_stand_38 : decode cX11_stand 38 = .ok (.ireturn, 1) := by decide +kernel
theorem dX11_isRinging_0 : decode cX11_isRinging 0 = .ok (.aload_n 0, 1) := by decide +kernel
theorem dX11_isRinging_1 : decode cX11_isRinging 1 = .ok (.iconst 0, 1) := by decide +kernel
theorem dX11_isRinging_2 : decode cX11_isRinging 2 = .ok (.putfield 87, 3) := by decide +kernel
theorem dX11_isRinging_5 : decode cX11_isRinging 5 = .ok (.aload_n 0, 1) := by decide +kernel
theorem dX11_isRinging_6 : decode cX11_isRinging 6 = .ok (.getfield 112, 3) := by decide +kernel
theorem dX11_isRinging_9 : decode cX11_isRinging 9 = .ok (.ireturn, 1) := by decide +kernel
theorem dX11_hasPull_0 : decode cX11_hasPull 0 = .ok (.aload_n 0, 1) := by decide +kernel
theorem dX11_hasPull_1 : decode cX11_hasPull 1 = .ok (.getfield 112, 3) := by decide +kernel
theorem dX11_hasPull_4 : decode cX11_hasPull 4 = .ok (.ifCond .eq 11, 3) := by decide +kernel
theorem dX11_hasPull_7 : decode cX11_hasPull 7 = .ok (.aload_n 0, 1) := by decide +kernel
theorem dX11_hasPull_8 : decode cX11_hasPull 8 = .ok (.aload_n 0, 1) := by decide +kernel
theorem dX11_hasPull_9 : decode cX11_hasPull 9 = .ok (.getfield 226, 3) := by decide +kernel
theorem dX11_hasPull_12 : decode cX11_hasPull 12 = .ok (.invokevirtual 168, 3) := by decide +kernel
theorem dX11_hasPull_15 : decode cX11_hasPull 15 = .ok (.aload_n 0, 1) := by decide +kernel
theorem dX11_hasPull_16 : decode cX11_hasPull 16 = .ok (.getfield 112, 3) := by decide +kernel
theorem dX11_hasPull_19 : decode cX11_hasPull 19 = .ok (.ifCond .eq 28, 3) := by decide +kernel
theorem dX11_hasPull_22 : decode cX11_hasPull 22 = .ok (.aload_n 0, 1) := by decide +kernel
theorem dX11_hasPull_23 : decode cX11_hasPull 23 = .ok (.iload_n 1, 1) := by decide +kernel
theorem dX11_hasPull_24 : decode cX11_hasPull 24 = .ok (.invokevirtual 235, 3) := by decide +kernel
theorem dX11_hasPull_27 : decode cX11_hasPull 27 = .ok (.ifCond .eq 20, 3) := by decide +kernel
theorem dX11_hasPull_30 : decode cX11_hasPull 30 = .ok (.aload_n 0, 1) := by decide +kernel
theorem dX11_hasPull_31 : decode cX11_hasPull 31 = .ok (.getfield 69, 3) := by decide +kernel
theorem dX11_hasPull_34 : decode cX11_hasPull 34 = .ok (.iload_n 1, 1) := by decide +kernel
theorem dX11_hasPull_35 : decode cX11_hasPull 35 = .ok (.iaload, 1) := by decide +kernel
theorem dX11_hasPull_36 : decode cX11_hasPull 36 = .ok (.aload_n 0, 1) := by decide +kernel
theorem dX11_hasPull_37 : decode cX11_hasPull 37 = .ok (.getfield 162, 3) := by decide +kernel
theorem dX11_hasPull_40 : decode cX11_hasPull 40 = .ok (.if_icmp .ge 7, 3) := by decide +kernel
theorem dX11_hasPull_43 : decode cX11_hasPull 43 = .ok (.iconst 1, 1) := by decide +kernel
theorem dX11_hasPull_44 : decode cX11_hasPull 44 = .ok (.goto 4, 3) := by decide +kernel
theorem dX11_hasPull_47 : decode cX11_hasPull 47 = .ok (.iconst 0, 1) := by decide +kernel
theorem dX11_hasPull_48 : decode cX11_hasPull 48 = .ok (.ireturn, 1) := by decide +kernel
theorem dX11_dueOf_0 : decode cX11_dueOf 0 = .ok (.aload_n 0, 1) := by decide +kernel
theorem dX11_dueOf_1 : decode cX11_dueOf 1 = .ok (.aload_n 0, 1) := by decide +kernel
theorem dX11_dueOf_2 : decode cX11_dueOf 2 = .ok (.getfield 69, 3) := by decide +kernel
theorem dX11_dueOf_5 : decode cX11_dueOf 5 = .ok (.iload_n 1, 1) := by decide +kernel
theorem dX11_dueOf_6 : decode cX11_dueOf 6 = .ok (.iaload, 1) := by decide +kernel
theorem dX11_dueOf_7 : decode cX11_dueOf 7 = .ok (.aload_n 0, 1) := by decide +kernel
theorem dX11_dueOf_8 : decode cX11_dueOf 8 = .ok (.aload_n 0, 1) := by decide +kernel
theorem dX11_dueOf_9 : decode cX11_dueOf 9 = .ok (.getfield 34, 3) := by decide +kernel
theorem dX11_dueOf_12 : decode cX11_dueOf 12 = .ok (.aload_n 0, 1) := by decide +kernel
theorem dX11_dueOf_13 : decode cX11_dueOf 13 = .ok (.getfield 69, 3) := by decide +kernel
theorem dX11_dueOf_16 : decode cX11_dueOf 16 = .ok (.iload_n 1, 1) := by decide +kernel
theorem dX11_dueOf_17 : decode cX11_dueOf 17 = .ok (.iaload, 1) := by decide +kernel
theorem dX11_dueOf_18 : decode cX11_dueOf 18 = .ok (.iaload, 1) := by decide +kernel
theorem dX11_dueOf_19 : decode cX11_dueOf 19 = .ok (.iload_n 1, 1) := by decide +kernel
theorem dX11_dueOf_20 : decode cX11_dueOf 20 = .ok (.invokevirtual 263, 3) := by decide +kernel
theorem dX11_dueOf_23 : decode cX11_dueOf 23 = .ok (.invokevirtual 238, 3) := by decide +kernel
theorem dX11_dueOf_26 : decode cX11_dueOf 26 = .ok (.ireturn, 1) := by decide +kernel
theorem dX11_pull_0 : decode cX11_pull 0 = .ok (.aload_n 0, 1) := by decide +kernel
theorem dX11_pull_1 : decode cX11_pull 1 = .ok (.iload_n 1, 1) := by decide +kernel
theorem dX11_pull_2 : decode cX11_pull 2 = .ok (.invokestatic 202, 3) := by decide +kernel
theorem dX11_pull_5 : decode cX11_pull 5 = .ok (.ifCond .ne 7, 3) := by decide +kernel
theorem dX11_pull_8 : decode cX11_pull 8 = .ok (.iconst 1, 1) := by decide +kernel
theorem dX11_pull_9 : decode cX11_pull 9 = .ok (.goto 31, 3) := by decide +kernel
theorem dX11_pull_12 : decode cX11_pull 12 = .ok (.iload_n 2, 1) := by decide +kernel
theorem dX11_pull_13 : decode cX11_pull 13 = .ok (.iconst 0, 1) := by decide +kernel
theorem dX11_pull_14 : decode cX11_pull 14 = .ok (.ldc_w 266, 3) := by decide +kernel
theorem dX11_pull_17 : decode cX11_pull 17 = .ok (.invokestatic 90, 3) := by decide +kernel
theorem dX11_pull_20 : decode cX11_pull 20 = .ok (.ifCond .ne 7, 3) := by decide +kernel
theorem dX11_pull_23 : decode cX11_pull 23 = .ok (.iconst 2, 1) := by decide +kernel
theorem dX11_pull_24 : decode cX11_pull 24 = .ok (.goto 16, 3) := by decide +kernel
theorem dX11_pull_27 : decode cX11_pull 27 = .ok (.aload_n 0, 1) := by decide +kernel
theorem dX11_pull_28 : decode cX11_pull 28 = .ok (.iload_n 1, 1) := by decide +kernel
theorem dX11_pull_29 : decode cX11_pull 29 = .ok (.invokevirtual 267, 3) := by decide +kernel
theorem dX11_pull_32 : decode cX11_pull 32 = .ok (.ifCond .eq 7, 3) := by decide +kernel
theorem dX11_pull_35 : decode cX11_pull 35 = .ok (.iconst 0, 1) := by decide +kernel
theorem dX11_pull_36 : decode cX11_pull 36 = .ok (.goto 4, 3) := by decide +kernel
theorem dX11_pull_39 : decode cX11_pull 39 = .ok (.iconst 3, 1) := by decide +kernel
theorem dX11_pull_40 : decode cX11_pull 40 = .ok (.putfield 87, 3) := by decide +kernel
theorem dX11_pull_43 : decode cX11_pull 43 = .ok (.aload_n 0, 1) := by decide +kernel
theorem dX11_pull_44 : decode cX11_pull 44 = .ok (.getfield 87, 3) := by decide +kernel
theorem dX11_pull_47 : decode cX11_pull 47 = .ok (.ifCond .le 5, 3) := by decide +kernel
theorem dX11_pull_50 : decode cX11_pull 50 = .ok (.iconst 0, 1) := by decide +kernel
theorem dX11_pull_51 : decode cX11_pull 51 = .ok (.ireturn, 1) := by decide +kernel
theorem dX11_pull_52 : decode cX11_pull 52 = .ok (.iload_n 2, 1) := by decide +kernel
theorem dX11_pull_53 : decode cX11_pull 53 = .ok (.aload_n 0, 1) := by decide +kernel
theorem dX11_pull_54 : decode cX11_pull 54 = .ok (.iload_n 1, 1) := by decide +kernel
theorem dX11_pull_55 : decode cX11_pull 55 = .ok (.invokevirtual 270, 3) := by decide +kernel
theorem dX11_pull_58 : decode cX11_pull 58 = .ok (.isub, 1) := by decide +kernel
theorem dX11_pull_59 : decode cX11_pull 59 = .ok (.istore_n 3, 1) := by decide +kernel
theorem dX11_pull_60 : decode cX11_pull 60 = .ok (.aload_n 0, 1) := by decide +kernel
theorem dX11_pull_61 : decode cX11_pull 61 = .ok (.getfield 81, 3) := by decide +kernel
theorem dX11_pull_64 : decode cX11_pull 64 = .ok (.iload_n 1, 1) := by decide +kernel
theorem dX11_pull_65 : decode cX11_pull 65 = .ok (.iaload, 1) := by decide +kernel
theorem dX11_pull_66 : decode cX11_pull 66 = .ok (.i2l, 1) := by decide +kernel
theorem dX11_pull_67 : decode cX11_pull 67 = .ok (.iload_n 3, 1) := by decide +kernel
theorem dX11_pull_68 : decode cX11_pull 68 = .ok (.i2l, 1) := by decide +kernel
theorem dX11_pull_69 : decode cX11_pull 69 = .ok (.ladd, 1) := by decide +kernel
theorem dX11_pull_70 : decode cX11_pull 70 = .ok (.lstore 4, 2) := by decide +kernel
theorem dX11_pull_72 : decode cX11_pull 72 = .ok (.iload_n 3, 1) := by decide +kernel
theorem dX11_pull_73 : decode cX11_pull 73 = .ok (.aload_n 0, 1) := by decide +kernel
theorem dX11_pull_74 : decode cX11_pull 74 = .ok (.getfield 66, 3) := by decide +kernel
theorem dX11_pull_77 : decode cX11_pull 77 = .ok (.if_icmp .le 20, 3) := by decide +kernel
theorem dX11_pull_80 : decode cX11_pull 80 = .ok (.aload_n 0, 1) := by decide +kernel
theorem dX11_pull_81 : decode cX11_pull 81 = .ok (.getfield 229, 3) := by decide +kernel
theorem dX11_pull_84 : decode cX11_pull 84 = .ok (.i2l, 1) := by decide +kernel
theorem dX11_pull_85 : decode cX11_pull 85 = .ok (.iload_n 3, 1) := by decide +kernel
theorem dX11_pull_86 : decode cX11_pull 86 = .ok (.i2l, 1) := by decide +kernel
theorem dX11_pull_87 : decode cX11_pull 87 = .ok (.ladd, 1) := by decide +kernel
theorem dX11_pull_88 : decode cX11_pull 88 = .ok (.aload_n 0, 1) := by decide +kernel
theorem dX11_pull_89 : decode cX11_pull 89 = .ok (.getfield 66, 3) := by decide +kernel
theorem dX11_pull_92 : decode cX11_pull 92 = .ok (.i2l, 1) := by decide +kernel
theorem dX11_pull_93 : decode cX11_pull 93 = .ok (.lsub, 1) := by decide +kernel
theorem dX11_pull_94 : decode cX11_pull 94 = .ok (.goto 8, 3) := by decide +kernel
theorem dX11_pull_97 : decode cX11_pull 97 = .ok (.aload_n 0, 1) := by decide +kernel
theorem dX11_pull_98 : decode cX11_pull 98 = .ok (.getfield 229, 3) := by decide +kernel
theorem dX11_pull_101 : decode cX11_pull 101 = .ok (.i2l, 1) := by decide +kernel
theorem dX11_pull_102 : decode cX11_pull 102 = .ok (.lstore 6, 2) := by decide +kernel
theorem dX11_pull_104 : decode cX11_pull 104 = .ok (.aload_n 0, 1) := by decide +kernel
theorem dX11_pull_105 : decode cX11_pull 105 = .ok (.lload 4, 2) := by decide +kernel
theorem dX11_pull_107 : decode cX11_pull 107 = .ok (.ldc2_w 273, 3) := by decide +kernel
theorem dX11_pull_110 : decode cX11_pull 110 = .ok (.lcmp, 1) := by decide +kernel
theorem dX11_pull_111 : decode cX11_pull 111 = .ok (.ifCond .lt 21, 3) := by decide +kernel
