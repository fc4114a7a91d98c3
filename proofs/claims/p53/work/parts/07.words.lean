theorem zw_1 : Cond.selects RX10 yX10_isDraftOf yX10_isDraftOf ∈ zW := zW_in 1 (by decide +kernel) rfl
theorem zw_2 : Cond.selects RX4 yX4_gatherFalseRows yX4_gatherFalseRows ∈ zW := zW_in 2 (by decide +kernel) rfl
theorem zw_3 : Cond.selects RX4 yX4_noteFalse yX4_noteFalse ∈ zW := zW_in 3 (by decide +kernel) rfl
theorem zw_4 : Cond.selects RJx4a65c yJx4a65c_add_72be8 yJx4a65c_add_72be8 ∈ zW := zW_in 4 (by decide +kernel) rfl
theorem zw_5 : Cond.selects RJx4a65c yJx4a65c_grow_d5877 yJx4a65c_grow_d5877 ∈ zW := zW_in 5 (by decide +kernel) rfl
theorem zw_6 : Cond.selects RJx4a65c yJx4a65c_grow_92f84 yJx4a65c_grow_92f84 ∈ zW := zW_in 6 (by decide +kernel) rfl
theorem zw_7 : Cond.selects RX10 yX10_methodAt yX10_methodAt ∈ zW := zW_in 7 (by decide +kernel) rfl
theorem zw_8 : Cond.selects RX10 yX10_requireSilence yX10_requireSilence ∈ zW := zW_in 8 (by decide +kernel) rfl
theorem zw_9 : Cond.selects RX10 yX10_rewriteTouches yX10_rewriteTouches ∈ zW := zW_in 9 (by decide +kernel) rfl
theorem zw_10 : Cond.selects RX9 yX9_writeLead yX9_writeLead ∈ zW := zW_in 10 (by decide +kernel) rfl
theorem zw_11 : Cond.selects RX9 yX9_lastRow yX9_lastRow ∈ zW := zW_in 11 (by decide +kernel) rfl
theorem zw_12 : Cond.selects RJx4a65c yJx4a65c_fastRemove_b59b0 yJx4a65c_fastRemove_b59b0 ∈ zW := zW_in 12 (by decide +kernel) rfl
theorem zw_13 : Cond.selects RX10 yX10_requireRoomForTouch yX10_requireRoomForTouch ∈ zW := zW_in 13 (by decide +kernel) rfl
theorem zw_14 : Cond.selects RX2 yX2_handOutTrial yX2_handOutTrial ∈ zW := zW_in 14 (by decide +kernel) rfl
theorem zw_15 : Cond.selects RX2 yX2_callNext yX2_callNext ∈ zW := zW_in 15 (by decide +kernel) rfl
theorem zw_16 : Cond.selects RX4 yX4_isLikeLesserCall yX4_isLikeLesserCall ∈ zW := zW_in 16 (by decide +kernel) rfl
theorem zw_17 : Cond.selects RX10 yX10_keepTouch yX10_keepTouch ∈ zW := zW_in 17 (by decide +kernel) rfl
theorem zw_18 : Cond.selects RX10 yX10_bellNumbered yX10_bellNumbered ∈ zW := zW_in 18 (by decide +kernel) rfl
theorem zw_19 : Cond.selects RX10 yX10_touchAt yX10_touchAt ∈ zW := zW_in 19 (by decide +kernel) rfl
theorem zw_20 : Cond.selects RX10 yX10_dayAt yX10_dayAt ∈ zW := zW_in 20 (by decide +kernel) rfl
theorem zw_21 : Cond.selects RX7 yX7_firstBand yX7_firstBand ∈ zW := zW_in 21 (by decide +kernel) rfl
theorem zw_22 : Cond.selects RX10 yX10_doReadyRows yX10_doReadyRows ∈ zW := zW_in 22 (by decide +kernel) rfl
theorem zw_23 : Cond.selects RX6 yX6_isByPeople yX6_isByPeople ∈ zW := zW_in 23 (by decide +kernel) rfl
theorem zw_24 : Cond.selects RX6 yX6_timeOfBlow yX6_timeOfBlow ∈ zW := zW_in 24 (by decide +kernel) rfl
theorem zw_25 : Cond.selects RX6 yX6_dueAt yX6_dueAt ∈ zW := zW_in 25 (by decide +kernel) rfl
theorem zw_26 : Cond.selects RX10 yX10_endRinging yX10_endRinging ∈ zW := zW_in 26 (by decide +kernel) rfl
theorem zw_27 : Cond.selects RX10 yX10_countAsRung yX10_countAsRung ∈ zW := zW_in 27 (by decide +kernel) rfl
theorem zw_28 : Cond.selects RX10 yX10_ringingThatAwaits yX10_ringingThatAwaits ∈ zW := zW_in 28 (by decide +kernel) rfl
theorem zw_30 : Cond.initialized RX10 ∈ zW := zW_in 30 (by decide +kernel) rfl
theorem zw_31 : Cond.initialized RJxa1e45 ∈ zW := zW_in 31 (by decide +kernel) rfl
theorem zw_32 : Cond.initialized RJxc12de ∈ zW := zW_in 32 (by decide +kernel) rfl
theorem zw_33 : Cond.initialized RJx4a65c ∈ zW := zW_in 33 (by decide +kernel) rfl
theorem zw_34 : Cond.initialized RX5 ∈ zW := zW_in 34 (by decide +kernel) rfl
theorem zw_35 : Cond.initialized RX2 ∈ zW := zW_in 35 (by decide +kernel) rfl
theorem zw_36 : Cond.initialized RX9 ∈ zW := zW_in 36 (by decide +kernel) rfl
theorem zw_37 : Cond.initialized RX0 ∈ zW := zW_in 37 (by decide +kernel) rfl
theorem zw_38 : Cond.initialized RX1 ∈ zW := zW_in 38 (by decide +kernel) rfl
theorem zw_39 : Cond.initialized RX7 ∈ zW := zW_in 39 (by decide +kernel) rfl
theorem zw_40 : Cond.initialized RX3 ∈ zW := zW_in 40 (by decide +kernel) rfl
theorem zw_44 : Cond.initialized "java/lang/IndexOutOfBoundsException" ∈ zW := zW_in 44 (by decide +kernel) rfl
theorem zw_45 : Cond.initialized RJ15 ∈ zW := zW_in 45 (by decide +kernel) rfl
theorem zw_46 : Cond.initialized RJ3 ∈ zW := zW_in 46 (by decide +kernel) rfl
theorem zw_47 : Cond.initialized "java/lang/IllegalArgumentException" ∈ zW := zW_in 47 (by decide +kernel) rfl
theorem zw_48 : Cond.initialized RX8 ∈ zW := zW_in 48 (by decide +kernel) rfl
theorem zw_49 : Cond.initialized RJ6 ∈ zW := zW_in 49 (by decide +kernel) rfl
theorem zw_50 : Cond.initialized RJ9 ∈ zW := zW_in 50 (by decide +kernel) rfl
theorem zw_51 : Cond.initialized "java/lang/IllegalStateException" ∈ zW := zW_in 51 (by decide +kernel) rfl
theorem zw_52 : Cond.initialized RX4 ∈ zW := zW_in 52 (by decide +kernel) rfl
theorem zw_53 : Cond.initialized RJ8 ∈ zW := zW_in 53 (by decide +kernel) rfl
theorem zw_54 : Cond.initialized RJ7 ∈ zW := zW_in 54 (by decide +kernel) rfl
theorem zw_55 : Cond.initialized RJ10 ∈ zW := zW_in 55 (by decide +kernel) rfl
theorem zw_56 : Cond.initialized RX6 ∈ zW := zW_in 56 (by decide +kernel) rfl
theorem zw_62 : Cond.methodLink RX10 3 objectInit ∈ zW := zW_in 62 (by decide +kernel) rfl
theorem zw_65 : Cond.classLink RX10 9 RJx4a65c ∈ zW := zW_in 65 (by decide +kernel) rfl
theorem zw_66 : Cond.instantiable RJx4a65c 3 ∈ zW := zW_in 66 (by decide +kernel) rfl
theorem zw_67 : Cond.methodLink RX10 11 yJx4a65c_init_da8c8 ∈ zW := zW_in 67 (by decide +kernel) rfl
theorem zw_68 : Cond.instanceMethod yJx4a65c_init_da8c8 ∈ zW := zW_in 68 (by decide +kernel) rfl
theorem zw_69 : Cond.code yJx4a65c_init_da8c8 cJx4a65c_init_da8c8 1 none ∈ zW := zW_in 69 (by decide +kernel) rfl
theorem zw_70 : Cond.methodLink RJx4a65c 1 yJxc12de_init_da8c8 ∈ zW := zW_in 70 (by decide +kernel) rfl
theorem zw_71 : Cond.instanceMethod yJxc12de_init_da8c8 ∈ zW := zW_in 71 (by decide +kernel) rfl
theorem zw_72 : Cond.code yJxc12de_init_da8c8 cJxc12de_init_da8c8 1 none ∈ zW := zW_in 72 (by decide +kernel) rfl
theorem zw_73 : Cond.methodLink RJxc12de 1 yJxa1e45_init_da8c8 ∈ zW := zW_in 73 (by decide +kernel) rfl
theorem zw_74 : Cond.instanceMethod yJxa1e45_init_da8c8 ∈ zW := zW_in 74 (by decide +kernel) rfl
theorem zw_75 : Cond.code yJxa1e45_init_da8c8 cJxa1e45_init_da8c8 1 none ∈ zW := zW_in 75 (by decide +kernel) rfl
theorem zw_76 : Cond.methodLink RJxa1e45 1 objectInit ∈ zW := zW_in 76 (by decide +kernel) rfl
theorem zw_77 : Cond.fieldLink RJx4a65c 39 "java/util/ArrayList" "DEFAULTCAPACITY_EMPTY_ELEMENTDATA" "[Ljava/lang/Object;" ∈ zW := zW_in 77 (by decide +kernel) rfl
theorem zw_79 : Cond.fieldLink RJx4a65c 9 "java/util/ArrayList" "elementData" "[Ljava/lang/Object;" ∈ zW := zW_in 79 (by decide +kernel) rfl
theorem zw_80 : Cond.fieldLink RJx4a65c 48 "java/util/ArrayList" "size" "I" ∈ zW := zW_in 80 (by decide +kernel) rfl
theorem zw_81 : Cond.fieldLink RJxc12de 7 "java/util/AbstractList" "modCount" "I" ∈ zW := zW_in 81 (by decide +kernel) rfl
theorem zw_82 : Cond.fieldLink RJx4a65c 63 "java/util/ArrayList" "modCount" "I" ∈ zW := zW_in 82 (by decide +kernel) rfl
theorem zw_83 : Cond.sameField "java/util/ArrayList" "java/util/AbstractList" "modCount" "I" ∈ zW := zW_in 83 (by decide +kernel) rfl
theorem zw_91 : Cond.classLink RX10 23 RX5 ∈ zW := zW_in 91 (by decide +kernel) rfl
theorem zw_92 : Cond.instantiable RX5 1 ∈ zW := zW_in 92 (by decide +kernel) rfl
theorem zw_93 : Cond.methodLink RX10 25 yX5_init ∈ zW := zW_in 93 (by decide +kernel) rfl
theorem zw_94 : Cond.instanceMethod yX5_init ∈ zW := zW_in 94 (by decide +kernel) rfl
theorem zw_95 : Cond.code yX5_init cX5_init 1 none ∈ zW := zW_in 95 (by decide +kernel) rfl
theorem zw_96 : Cond.methodLink RX5 3 objectInit ∈ zW := zW_in 96 (by decide +kernel) rfl
theorem zw_97 : Cond.fieldLink RX5 9 "GrandsireLoft$Prover" "firstAt" "[I" ∈ zW := zW_in 97 (by decide +kernel) rfl
theorem zw_101 : Cond.arrayClass Jvm.ClassFile.FieldType.int ∈ zW := zW_in 101 (by decide +kernel) rfl
theorem zw_102 : Cond.classLink RX10 30 RX2 ∈ zW := zW_in 102 (by decide +kernel) rfl
theorem zw_103 : Cond.instantiable RX2 2 ∈ zW := zW_in 103 (by decide +kernel) rfl
theorem zw_104 : Cond.methodLink RX10 32 yX2_init ∈ zW := zW_in 104 (by decide +kernel) rfl
theorem zw_105 : Cond.instanceMethod yX2_init ∈ zW := zW_in 105 (by decide +kernel) rfl
theorem zw_106 : Cond.code yX2_init cX2_init 2 none ∈ zW := zW_in 106 (by decide +kernel) rfl
theorem zw_107 : Cond.methodLink RX2 3 objectInit ∈ zW := zW_in 107 (by decide +kernel) rfl
theorem zw_108 : Cond.classLink RX2 15 RX9 ∈ zW := zW_in 108 (by decide +kernel) rfl
theorem zw_109 : Cond.instantiable RX9 9 ∈ zW := zW_in 109 (by decide +kernel) rfl
theorem zw_110 : Cond.methodLink RX2 17 yX9_init ∈ zW := zW_in 110 (by decide +kernel) rfl
theorem zw_111 : Cond.instanceMethod yX9_init ∈ zW := zW_in 111 (by decide +kernel) rfl
theorem zw_112 : Cond.code yX9_init cX9_init 1 none ∈ zW := zW_in 112 (by decide +kernel) rfl
theorem zw_113 : Cond.methodLink RX9 3 objectInit ∈ zW := zW_in 113 (by decide +kernel) rfl
theorem zw_114 : Cond.classLink RX9 21 RJx4a65c ∈ zW := zW_in 114 (by decide +kernel) rfl
theorem zw_115 : Cond.methodLink RX9 23 yJx4a65c_init_da8c8 ∈ zW := zW_in 115 (by decide +kernel) rfl
theorem zw_116 : Cond.fieldLink RX9 9 "GrandsireLoft$Touch" "number" "I" ∈ zW := zW_in 116 (by decide +kernel) rfl
theorem zw_117 : Cond.fieldLink RX10 284 "GrandsireLoft$Touch" "number" "I" ∈ zW := zW_in 117 (by decide +kernel) rfl
theorem zw_118 : Cond.fieldLink RX9 48 "GrandsireLoft$Touch" "stage" "I" ∈ zW := zW_in 118 (by decide +kernel) rfl
theorem zw_119 : Cond.fieldLink RX3 32 "GrandsireLoft$Touch" "stage" "I" ∈ zW := zW_in 119 (by decide +kernel) rfl
theorem zw_120 : Cond.fieldLink RX7 47 "GrandsireLoft$Touch" "stage" "I" ∈ zW := zW_in 120 (by decide +kernel) rfl
theorem zw_121 : Cond.fieldLink RX6 44 "GrandsireLoft$Touch" "stage" "I" ∈ zW := zW_in 121 (by decide +kernel) rfl
theorem zw_122 : Cond.fieldLink RX10 226 "GrandsireLoft$Touch" "stage" "I" ∈ zW := zW_in 122 (by decide +kernel) rfl
theorem zw_123 : Cond.fieldLink RX6 35 "GrandsireLoft$Touch" "rowCount" "I" ∈ zW := zW_in 123 (by decide +kernel) rfl
theorem zw_124 : Cond.fieldLink RX9 56 "GrandsireLoft$Touch" "rowCount" "I" ∈ zW := zW_in 124 (by decide +kernel) rfl
theorem zw_125 : Cond.fieldLink RX10 220 "GrandsireLoft$Touch" "rowCount" "I" ∈ zW := zW_in 125 (by decide +kernel) rfl
theorem zw_126 : Cond.fieldLink RX9 15 "GrandsireLoft$Touch" "repeat" "I" ∈ zW := zW_in 126 (by decide +kernel) rfl
theorem zw_127 : Cond.fieldLink RX2 41 "GrandsireLoft$Touch" "repeat" "I" ∈ zW := zW_in 127 (by decide +kernel) rfl
theorem zw_128 : Cond.fieldLink RX10 233 "GrandsireLoft$Touch" "repeat" "I" ∈ zW := zW_in 128 (by decide +kernel) rfl
theorem zw_129 : Cond.fieldLink RX9 18 "GrandsireLoft$Touch" "repeatLead" "I" ∈ zW := zW_in 129 (by decide +kernel) rfl
theorem zw_130 : Cond.fieldLink RX2 45 "GrandsireLoft$Touch" "repeatLead" "I" ∈ zW := zW_in 130 (by decide +kernel) rfl
theorem zw_131 : Cond.fieldLink RX9 79 "GrandsireLoft$Touch" "endsInRounds" "Z" ∈ zW := zW_in 131 (by decide +kernel) rfl
theorem zw_132 : Cond.fieldLink RX10 236 "GrandsireLoft$Touch" "endsInRounds" "Z" ∈ zW := zW_in 132 (by decide +kernel) rfl
theorem zw_133 : Cond.fieldLink RX9 24 "GrandsireLoft$Touch" "leadMethods" "Ljava/util/ArrayList;" ∈ zW := zW_in 133 (by decide +kernel) rfl
theorem zw_134 : Cond.fieldLink RX10 208 "GrandsireLoft$Touch" "leadMethods" "Ljava/util/ArrayList;" ∈ zW := zW_in 134 (by decide +kernel) rfl
theorem zw_135 : Cond.fieldLink RX9 28 "GrandsireLoft$Touch" "leadCalls" "[I" ∈ zW := zW_in 135 (by decide +kernel) rfl
theorem zw_136 : Cond.fieldLink RX2 52 "GrandsireLoft$Touch" "leadCalls" "[I" ∈ zW := zW_in 136 (by decide +kernel) rfl
theorem zw_137 : Cond.fieldLink RX10 217 "GrandsireLoft$Touch" "leadCalls" "[I" ∈ zW := zW_in 137 (by decide +kernel) rfl
theorem zw_138 : Cond.fieldLink RX9 32 "GrandsireLoft$Touch" "keptRows" "[I" ∈ zW := zW_in 138 (by decide +kernel) rfl
theorem zw_139 : Cond.fieldLink RX6 40 "GrandsireLoft$Touch" "keptRows" "[I" ∈ zW := zW_in 139 (by decide +kernel) rfl
theorem zw_140 : Cond.fieldLink RX10 223 "GrandsireLoft$Touch" "keptRows" "[I" ∈ zW := zW_in 140 (by decide +kernel) rfl
theorem zw_160 : Cond.fieldLink RX2 9 "GrandsireLoft$Composer" "prover" "LGrandsireLoft$Prover;" ∈ zW := zW_in 160 (by decide +kernel) rfl
theorem zw_161 : Cond.fieldLink RX2 18 "GrandsireLoft$Composer" "trial" "LGrandsireLoft$Touch;" ∈ zW := zW_in 161 (by decide +kernel) rfl
theorem zw_167 : Cond.classLink RX10 39 RX9 ∈ zW := zW_in 167 (by decide +kernel) rfl
theorem zw_168 : Cond.methodLink RX10 41 yX9_init ∈ zW := zW_in 168 (by decide +kernel) rfl
theorem zw_169 : Cond.classLink RX10 46 RX0 ∈ zW := zW_in 169 (by decide +kernel) rfl
theorem zw_170 : Cond.instantiable RX0 1 ∈ zW := zW_in 170 (by decide +kernel) rfl
theorem zw_171 : Cond.methodLink RX10 48 yX0_init ∈ zW := zW_in 171 (by decide +kernel) rfl
theorem zw_172 : Cond.instanceMethod yX0_init ∈ zW := zW_in 172 (by decide +kernel) rfl
theorem zw_173 : Cond.code yX0_init cX0_init 2 none ∈ zW := zW_in 173 (by decide +kernel) rfl
theorem zw_174 : Cond.methodLink RX0 3 objectInit ∈ zW := zW_in 174 (by decide +kernel) rfl
theorem zw_175 : Cond.classLink RX0 9 RX1 ∈ zW := zW_in 175 (by decide +kernel) rfl
theorem zw_177 : Cond.instantiable RX1 8 ∈ zW := zW_in 177 (by decide +kernel) rfl
theorem zw_178 : Cond.methodLink RX0 17 yX1_init ∈ zW := zW_in 178 (by decide +kernel) rfl
theorem zw_179 : Cond.instanceMethod yX1_init ∈ zW := zW_in 179 (by decide +kernel) rfl
theorem zw_180 : Cond.code yX1_init cX1_init 1 none ∈ zW := zW_in 180 (by decide +kernel) rfl
theorem zw_181 : Cond.methodLink RX1 3 objectInit ∈ zW := zW_in 181 (by decide +kernel) rfl
theorem zw_182 : Cond.fieldLink RX1 22 "GrandsireLoft$Bell" "takenOut" "Z" ∈ zW := zW_in 182 (by decide +kernel) rfl
theorem zw_183 : Cond.fieldLink RX10 244 "GrandsireLoft$Bell" "takenOut" "Z" ∈ zW := zW_in 183 (by decide +kernel) rfl
theorem zw_184 : Cond.fieldLink RX1 37 "GrandsireLoft$Bell" "latePulls" "I" ∈ zW := zW_in 184 (by decide +kernel) rfl
theorem zw_185 : Cond.fieldLink RX10 366 "GrandsireLoft$Bell" "latePulls" "I" ∈ zW := zW_in 185 (by decide +kernel) rfl
theorem zw_186 : Cond.fieldLink RX1 40 "GrandsireLoft$Bell" "earlyPulls" "I" ∈ zW := zW_in 186 (by decide +kernel) rfl
theorem zw_187 : Cond.fieldLink RX10 369 "GrandsireLoft$Bell" "earlyPulls" "I" ∈ zW := zW_in 187 (by decide +kernel) rfl
theorem zw_188 : Cond.fieldLink RX1 34 "GrandsireLoft$Bell" "errorSum" "I" ∈ zW := zW_in 188 (by decide +kernel) rfl
theorem zw_189 : Cond.fieldLink RX10 372 "GrandsireLoft$Bell" "errorSum" "I" ∈ zW := zW_in 189 (by decide +kernel) rfl
theorem zw_190 : Cond.fieldLink RX6 30 "GrandsireLoft$Bell" "pulls" "I" ∈ zW := zW_in 190 (by decide +kernel) rfl
theorem zw_191 : Cond.fieldLink RX0 25 "GrandsireLoft$Bell" "pulls" "I" ∈ zW := zW_in 191 (by decide +kernel) rfl
theorem zw_192 : Cond.fieldLink RX1 26 "GrandsireLoft$Bell" "pulls" "I" ∈ zW := zW_in 192 (by decide +kernel) rfl
theorem zw_193 : Cond.fieldLink RX1 9 "GrandsireLoft$Bell" "wearOf" "[I" ∈ zW := zW_in 193 (by decide +kernel) rfl
theorem zw_194 : Cond.fieldLink RX10 260 "GrandsireLoft$Bell" "wearOf" "[I" ∈ zW := zW_in 194 (by decide +kernel) rfl
theorem zw_195 : Cond.fieldLink RX1 15 "GrandsireLoft$Bell" "wornOut" "[Z" ∈ zW := zW_in 195 (by decide +kernel) rfl
theorem zw_196 : Cond.fieldLink RX1 19 "GrandsireLoft$Bell" "pullTimes" "[I" ∈ zW := zW_in 196 (by decide +kernel) rfl
theorem zw_214 : Cond.arrayClass Jvm.ClassFile.FieldType.boolean ∈ zW := zW_in 214 (by decide +kernel) rfl
theorem zw_215 : Cond.fieldLink RX0 11 "GrandsireLoft$Belfry" "bells" "[LGrandsireLoft$Bell;" ∈ zW := zW_in 215 (by decide +kernel) rfl
theorem zw_216 : Cond.fieldLink RX10 312 "GrandsireLoft$Belfry" "bells" "[LGrandsireLoft$Bell;" ∈ zW := zW_in 216 (by decide +kernel) rfl
theorem zw_220 : Cond.classLink RX10 53 RX7 ∈ zW := zW_in 220 (by decide +kernel) rfl
theorem zw_221 : Cond.instantiable RX7 6 ∈ zW := zW_in 221 (by decide +kernel) rfl
theorem zw_222 : Cond.methodLink RX10 55 yX7_init ∈ zW := zW_in 222 (by decide +kernel) rfl
theorem zw_223 : Cond.instanceMethod yX7_init ∈ zW := zW_in 223 (by decide +kernel) rfl
theorem zw_224 : Cond.code yX7_init cX7_init 2 none ∈ zW := zW_in 224 (by decide +kernel) rfl
theorem zw_225 : Cond.methodLink RX7 3 objectInit ∈ zW := zW_in 225 (by decide +kernel) rfl
theorem zw_226 : Cond.classLink RX7 15 RX3 ∈ zW := zW_in 226 (by decide +kernel) rfl
theorem zw_228 : Cond.instantiable RX3 1 ∈ zW := zW_in 228 (by decide +kernel) rfl
theorem zw_229 : Cond.methodLink RX7 21 yX3_init ∈ zW := zW_in 229 (by decide +kernel) rfl
theorem zw_230 : Cond.instanceMethod yX3_init ∈ zW := zW_in 230 (by decide +kernel) rfl
theorem zw_231 : Cond.code yX3_init cX3_init 1 none ∈ zW := zW_in 231 (by decide +kernel) rfl
theorem zw_232 : Cond.methodLink RX3 3 objectInit ∈ zW := zW_in 232 (by decide +kernel) rfl
theorem zw_233 : Cond.classLink RX3 9 RJx4a65c ∈ zW := zW_in 233 (by decide +kernel) rfl
theorem zw_234 : Cond.methodLink RX3 11 yJx4a65c_init_da8c8 ∈ zW := zW_in 234 (by decide +kernel) rfl
theorem zw_235 : Cond.fieldLink RX3 12 "GrandsireLoft$Day" "touchesInOrder" "Ljava/util/ArrayList;" ∈ zW := zW_in 235 (by decide +kernel) rfl
theorem zw_236 : Cond.fieldLink RX7 56 "GrandsireLoft$Day" "touchesInOrder" "Ljava/util/ArrayList;" ∈ zW := zW_in 236 (by decide +kernel) rfl
theorem zw_237 : Cond.fieldLink RX10 281 "GrandsireLoft$Day" "touchesInOrder" "Ljava/util/ArrayList;" ∈ zW := zW_in 237 (by decide +kernel) rfl
theorem zw_241 : Cond.fieldLink RX7 9 "GrandsireLoft$Rota" "sizes" "[I" ∈ zW := zW_in 241 (by decide +kernel) rfl
theorem zw_242 : Cond.fieldLink RX10 263 "GrandsireLoft$Rota" "sizes" "[I" ∈ zW := zW_in 242 (by decide +kernel) rfl
theorem zw_243 : Cond.fieldLink RX7 17 "GrandsireLoft$Rota" "days" "[LGrandsireLoft$Day;" ∈ zW := zW_in 243 (by decide +kernel) rfl
theorem zw_244 : Cond.fieldLink RX10 389 "GrandsireLoft$Rota" "days" "[LGrandsireLoft$Day;" ∈ zW := zW_in 244 (by decide +kernel) rfl
theorem zw_245 : Cond.fieldLink RX7 29 "GrandsireLoft$Rota" "thisDay" "I" ∈ zW := zW_in 245 (by decide +kernel) rfl
theorem zw_246 : Cond.fieldLink RX10 285 "GrandsireLoft$Rota" "thisDay" "I" ∈ zW := zW_in 246 (by decide +kernel) rfl
theorem zw_247 : Cond.fieldLink RX7 72 "GrandsireLoft$Rota" "droppedCount" "I" ∈ zW := zW_in 247 (by decide +kernel) rfl
theorem zw_248 : Cond.fieldLink RX10 296 "GrandsireLoft$Rota" "droppedCount" "I" ∈ zW := zW_in 248 (by decide +kernel) rfl
theorem zw_249 : Cond.fieldLink RX7 26 "GrandsireLoft$Rota" "turn" "I" ∈ zW := zW_in 249 (by decide +kernel) rfl
theorem zw_250 : Cond.fieldLink RX7 22 "GrandsireLoft$Rota" "keptBand" "I" ∈ zW := zW_in 250 (by decide +kernel) rfl
theorem zw_264 : Cond.fieldLink RX10 12 "GrandsireLoft" "methodList" "Ljava/util/ArrayList;" ∈ zW := zW_in 264 (by decide +kernel) rfl
theorem zw_265 : Cond.fieldLink RX10 16 "GrandsireLoft" "changeDraft" "[I" ∈ zW := zW_in 265 (by decide +kernel) rfl
theorem zw_266 : Cond.fieldLink RX10 71 "GrandsireLoft" "changeCount" "I" ∈ zW := zW_in 266 (by decide +kernel) rfl
theorem zw_267 : Cond.fieldLink RX10 20 "GrandsireLoft" "touchList" "Ljava/util/ArrayList;" ∈ zW := zW_in 267 (by decide +kernel) rfl
theorem zw_268 : Cond.fieldLink RX10 26 "GrandsireLoft" "prover" "LGrandsireLoft$Prover;" ∈ zW := zW_in 268 (by decide +kernel) rfl
theorem zw_269 : Cond.fieldLink RX10 35 "GrandsireLoft" "composer" "LGrandsireLoft$Composer;" ∈ zW := zW_in 269 (by decide +kernel) rfl
theorem zw_270 : Cond.fieldLink RX10 42 "GrandsireLoft" "leadDraft" "LGrandsireLoft$Touch;" ∈ zW := zW_in 270 (by decide +kernel) rfl
theorem zw_271 : Cond.fieldLink RX10 49 "GrandsireLoft" "belfry" "LGrandsireLoft$Belfry;" ∈ zW := zW_in 271 (by decide +kernel) rfl
theorem zw_272 : Cond.fieldLink RX10 56 "GrandsireLoft" "bandRota" "LGrandsireLoft$Rota;" ∈ zW := zW_in 272 (by decide +kernel) rfl
theorem zw_273 : Cond.fieldLink RX10 319 "GrandsireLoft" "ringing" "LGrandsireLoft$Ringing;" ∈ zW := zW_in 273 (by decide +kernel) rfl
theorem zw_274 : Cond.fieldLink RX10 60 "GrandsireLoft" "patienceNow" "I" ∈ zW := zW_in 274 (by decide +kernel) rfl
theorem zw_275 : Cond.fieldLink RX10 375 "GrandsireLoft" "wrongRows" "I" ∈ zW := zW_in 275 (by decide +kernel) rfl
theorem zw_276 : Cond.fieldLink RX10 378 "GrandsireLoft" "rungCount" "I" ∈ zW := zW_in 276 (by decide +kernel) rfl
theorem zw_277 : Cond.fieldLink RX10 64 "GrandsireLoft" "latestTouch" "I" ∈ zW := zW_in 277 (by decide +kernel) rfl
theorem zw_326 : Cond.methodLink RX10 67 yX10_requireRange ∈ zW := zW_in 326 (by decide +kernel) rfl
theorem zw_327 : Cond.static yX10_requireRange ∈ zW := zW_in 327 (by decide +kernel) rfl
theorem zw_328 : Cond.code yX10_requireRange cX10_requireRange 3 none ∈ zW := zW_in 328 (by decide +kernel) rfl
theorem zw_329 : Cond.classLink RX10 113 "java/lang/IllegalArgumentException" ∈ zW := zW_in 329 (by decide +kernel) rfl
theorem zw_397 : Cond.classLink RX10 74 "java/lang/IllegalStateException" ∈ zW := zW_in 397 (by decide +kernel) rfl
theorem zw_420 : Cond.methodLink RX10 81 yJx4a65c_size_8abf5 ∈ zW := zW_in 420 (by decide +kernel) rfl
theorem zw_421 : Cond.instanceMethod yJx4a65c_size_8abf5 ∈ zW := zW_in 421 (by decide +kernel) rfl
theorem zw_422 : Cond.selects RJx4a65c yJx4a65c_size_8abf5 yJx4a65c_size_8abf5 ∈ zW := zW_in 422 (by decide +kernel) rfl
theorem zw_423 : Cond.code yJx4a65c_size_8abf5 cJx4a65c_size_8abf5 1 (some .int) ∈ zW := zW_in 423 (by decide +kernel) rfl
theorem zw_424 : Cond.methodLink RX10 85 yX10_isDraftOf ∈ zW := zW_in 424 (by decide +kernel) rfl
theorem zw_426 : Cond.instanceMethod yX10_isDraftOf ∈ zW := zW_in 426 (by decide +kernel) rfl
theorem zw_427 : Cond.code yX10_isDraftOf cX10_isDraftOf 3 (some .boolean) ∈ zW := zW_in 427 (by decide +kernel) rfl
theorem zw_428 : Cond.methodLink RX10 107 yX8_isChange ∈ zW := zW_in 428 (by decide +kernel) rfl
theorem zw_429 : Cond.static yX8_isChange ∈ zW := zW_in 429 (by decide +kernel) rfl
theorem zw_430 : Cond.code yX8_isChange cX8_isChange 5 (some .boolean) ∈ zW := zW_in 430 (by decide +kernel) rfl
theorem zw_431 : Cond.methodLink RX8 21 yX8_isMade ∈ zW := zW_in 431 (by decide +kernel) rfl
theorem zw_432 : Cond.static yX8_isMade ∈ zW := zW_in 432 (by decide +kernel) rfl
theorem zw_433 : Cond.code yX8_isMade cX8_isMade 2 (some .boolean) ∈ zW := zW_in 433 (by decide +kernel) rfl
theorem zw_435 : Cond.classLink RX10 91 RX4 ∈ zW := zW_in 435 (by decide +kernel) rfl
theorem zw_436 : Cond.instantiable RX4 7 ∈ zW := zW_in 436 (by decide +kernel) rfl
theorem zw_437 : Cond.methodLink RX10 93 yX4_init ∈ zW := zW_in 437 (by decide +kernel) rfl
theorem zw_438 : Cond.instanceMethod yX4_init ∈ zW := zW_in 438 (by decide +kernel) rfl
theorem zw_439 : Cond.code yX4_init cX4_init 6 none ∈ zW := zW_in 439 (by decide +kernel) rfl
theorem zw_440 : Cond.methodLink RX4 3 objectInit ∈ zW := zW_in 440 (by decide +kernel) rfl
theorem zw_441 : Cond.methodLink RX4 31 yX4_gatherFalseRows ∈ zW := zW_in 441 (by decide +kernel) rfl
theorem zw_443 : Cond.instanceMethod yX4_gatherFalseRows ∈ zW := zW_in 443 (by decide +kernel) rfl
theorem zw_444 : Cond.code yX4_gatherFalseRows cX4_gatherFalseRows 6 none ∈ zW := zW_in 444 (by decide +kernel) rfl
theorem zw_445 : Cond.methodLink RX4 44 yX8_rounds ∈ zW := zW_in 445 (by decide +kernel) rfl
theorem zw_446 : Cond.static yX8_rounds ∈ zW := zW_in 446 (by decide +kernel) rfl
theorem zw_447 : Cond.code yX8_rounds cX8_rounds 3 (some .int) ∈ zW := zW_in 447 (by decide +kernel) rfl
theorem zw_448 : Cond.methodLink RX4 38 yX8_afterChange ∈ zW := zW_in 448 (by decide +kernel) rfl
theorem zw_449 : Cond.static yX8_afterChange ∈ zW := zW_in 449 (by decide +kernel) rfl
theorem zw_450 : Cond.code yX8_afterChange cX8_afterChange 5 (some .int) ∈ zW := zW_in 450 (by decide +kernel) rfl
theorem zw_451 : Cond.methodLink RX8 25 yX8_swapped ∈ zW := zW_in 451 (by decide +kernel) rfl
theorem zw_452 : Cond.static yX8_swapped ∈ zW := zW_in 452 (by decide +kernel) rfl
theorem zw_453 : Cond.code yX8_swapped cX8_swapped 3 (some .int) ∈ zW := zW_in 453 (by decide +kernel) rfl
theorem zw_454 : Cond.methodLink RX8 9 yX8_bellIn ∈ zW := zW_in 454 (by decide +kernel) rfl
theorem zw_455 : Cond.static yX8_bellIn ∈ zW := zW_in 455 (by decide +kernel) rfl
theorem zw_456 : Cond.code yX8_bellIn cX8_bellIn 2 (some .int) ∈ zW := zW_in 456 (by decide +kernel) rfl
theorem zw_457 : Cond.methodLink RX4 58 yX8_originOf ∈ zW := zW_in 457 (by decide +kernel) rfl
theorem zw_458 : Cond.static yX8_originOf ∈ zW := zW_in 458 (by decide +kernel) rfl
theorem zw_459 : Cond.code yX8_originOf cX8_originOf 5 (some .int) ∈ zW := zW_in 459 (by decide +kernel) rfl
theorem zw_460 : Cond.methodLink RX4 61 yX8_number ∈ zW := zW_in 460 (by decide +kernel) rfl
theorem zw_461 : Cond.static yX8_number ∈ zW := zW_in 461 (by decide +kernel) rfl
theorem zw_462 : Cond.code yX8_number cX8_number 7 (some .int) ∈ zW := zW_in 462 (by decide +kernel) rfl
theorem zw_463 : Cond.methodLink RX8 15 yJ6_bitCount_0f7a4 ∈ zW := zW_in 463 (by decide +kernel) rfl
theorem zw_464 : Cond.static yJ6_bitCount_0f7a4 ∈ zW := zW_in 464 (by decide +kernel) rfl
theorem zw_465 : Cond.code yJ6_bitCount_0f7a4 cJ6_bitCount_0f7a4 1 (some .int) ∈ zW := zW_in 465 (by decide +kernel) rfl
theorem zw_466 : Cond.constant RJ6 265 1431655765 ∈ zW := zW_in 466 (by decide +kernel) rfl
theorem zw_467 : Cond.constant RJ6 266 858993459 ∈ zW := zW_in 467 (by decide +kernel) rfl
theorem zw_468 : Cond.constant RJ6 267 252645135 ∈ zW := zW_in 468 (by decide +kernel) rfl
theorem zw_469 : Cond.methodLink RX4 63 yX4_noteFalse ∈ zW := zW_in 469 (by decide +kernel) rfl
theorem zw_471 : Cond.instanceMethod yX4_noteFalse ∈ zW := zW_in 471 (by decide +kernel) rfl
theorem zw_472 : Cond.code yX4_noteFalse cX4_noteFalse 2 none ∈ zW := zW_in 472 (by decide +kernel) rfl
theorem zw_473 : Cond.methodLink RX4 67 yX4_hasFalse ∈ zW := zW_in 473 (by decide +kernel) rfl
theorem zw_474 : Cond.instanceMethod yX4_hasFalse ∈ zW := zW_in 474 (by decide +kernel) rfl
theorem zw_475 : Cond.selects RX4 yX4_hasFalse yX4_hasFalse ∈ zW := zW_in 475 (by decide +kernel) rfl
theorem zw_476 : Cond.code yX4_hasFalse cX4_hasFalse 3 (some .boolean) ∈ zW := zW_in 476 (by decide +kernel) rfl
theorem zw_477 : Cond.fieldLink RX4 9 "GrandsireLoft$Method" "number" "I" ∈ zW := zW_in 477 (by decide +kernel) rfl
theorem zw_478 : Cond.fieldLink RX10 215 "GrandsireLoft$Method" "number" "I" ∈ zW := zW_in 478 (by decide +kernel) rfl
theorem zw_479 : Cond.fieldLink RX4 15 "GrandsireLoft$Method" "stage" "I" ∈ zW := zW_in 479 (by decide +kernel) rfl
theorem zw_480 : Cond.fieldLink RX9 43 "GrandsireLoft$Method" "stage" "I" ∈ zW := zW_in 480 (by decide +kernel) rfl
theorem zw_481 : Cond.fieldLink RX10 104 "GrandsireLoft$Method" "stage" "I" ∈ zW := zW_in 481 (by decide +kernel) rfl
theorem zw_482 : Cond.fieldLink RX4 18 "GrandsireLoft$Method" "length" "I" ∈ zW := zW_in 482 (by decide +kernel) rfl
theorem zw_483 : Cond.fieldLink RX10 121 "GrandsireLoft$Method" "length" "I" ∈ zW := zW_in 483 (by decide +kernel) rfl
theorem zw_484 : Cond.fieldLink RX9 63 "GrandsireLoft$Method" "length" "I" ∈ zW := zW_in 484 (by decide +kernel) rfl
theorem zw_485 : Cond.fieldLink RX4 55 "GrandsireLoft$Method" "falseCount" "I" ∈ zW := zW_in 485 (by decide +kernel) rfl
theorem zw_486 : Cond.fieldLink RX10 168 "GrandsireLoft$Method" "falseCount" "I" ∈ zW := zW_in 486 (by decide +kernel) rfl
theorem zw_487 : Cond.fieldLink RX4 21 "GrandsireLoft$Method" "changes" "[I" ∈ zW := zW_in 487 (by decide +kernel) rfl
theorem zw_488 : Cond.fieldLink RX4 25 "GrandsireLoft$Method" "lastChanges" "[I" ∈ zW := zW_in 488 (by decide +kernel) rfl
theorem zw_489 : Cond.fieldLink RX4 28 "GrandsireLoft$Method" "falseNumbers" "[I" ∈ zW := zW_in 489 (by decide +kernel) rfl
theorem zw_505 : Cond.methodLink RX10 96 yJx4a65c_add_9ea2d ∈ zW := zW_in 505 (by decide +kernel) rfl
theorem zw_506 : Cond.instanceMethod yJx4a65c_add_9ea2d ∈ zW := zW_in 506 (by decide +kernel) rfl
theorem zw_507 : Cond.selects RJx4a65c yJx4a65c_add_9ea2d yJx4a65c_add_9ea2d ∈ zW := zW_in 507 (by decide +kernel) rfl
theorem zw_508 : Cond.code yJx4a65c_add_9ea2d cJx4a65c_add_9ea2d 2 (some .boolean) ∈ zW := zW_in 508 (by decide +kernel) rfl
theorem zw_509 : Cond.methodLink RJx4a65c 131 yJx4a65c_add_72be8 ∈ zW := zW_in 509 (by decide +kernel) rfl
theorem zw_511 : Cond.instanceMethod yJx4a65c_add_72be8 ∈ zW := zW_in 511 (by decide +kernel) rfl
theorem zw_512 : Cond.code yJx4a65c_add_72be8 cJx4a65c_add_72be8 4 none ∈ zW := zW_in 512 (by decide +kernel) rfl
theorem zw_513 : Cond.methodLink RJx4a65c 129 yJx4a65c_grow_d5877 ∈ zW := zW_in 513 (by decide +kernel) rfl
theorem zw_515 : Cond.instanceMethod yJx4a65c_grow_d5877 ∈ zW := zW_in 515 (by decide +kernel) rfl
theorem zw_516 : Cond.code yJx4a65c_grow_d5877 cJx4a65c_grow_d5877 1 (some (.array (.object "java/lang/Object"))) ∈ zW := zW_in 516 (by decide +kernel) rfl
theorem zw_517 : Cond.methodLink RJx4a65c 69 yJx4a65c_grow_92f84 ∈ zW := zW_in 517 (by decide +kernel) rfl
theorem zw_519 : Cond.instanceMethod yJx4a65c_grow_92f84 ∈ zW := zW_in 519 (by decide +kernel) rfl
theorem zw_520 : Cond.code yJx4a65c_grow_92f84 cJx4a65c_grow_92f84 4 (some (.array (.object "java/lang/Object"))) ∈ zW := zW_in 520 (by decide +kernel) rfl
theorem zw_521 : Cond.methodLink RJx4a65c 73 yJ8_newLength_cabcc ∈ zW := zW_in 521 (by decide +kernel) rfl
theorem zw_522 : Cond.static yJ8_newLength_cabcc ∈ zW := zW_in 522 (by decide +kernel) rfl
theorem zw_523 : Cond.code yJ8_newLength_cabcc cJ8_newLength_cabcc 4 (some .int) ∈ zW := zW_in 523 (by decide +kernel) rfl
theorem zw_524 : Cond.methodLink RJ8 194 yJ9_max_7cf53 ∈ zW := zW_in 524 (by decide +kernel) rfl
theorem zw_525 : Cond.static yJ9_max_7cf53 ∈ zW := zW_in 525 (by decide +kernel) rfl
theorem zw_526 : Cond.code Lib.Math.max.name Lib.Math.max.code 2 (some .int) ∈ zW := zW_in 526 (by decide +kernel) rfl
theorem zw_527 : Cond.constant RJ8 200 2147483639 ∈ zW := zW_in 527 (by decide +kernel) rfl
theorem zw_531 : Cond.methodLink RJx4a65c 66 yJ7_copyOf_1904c ∈ zW := zW_in 531 (by decide +kernel) rfl
theorem zw_532 : Cond.static yJ7_copyOf_1904c ∈ zW := zW_in 532 (by decide +kernel) rfl
theorem zw_533 : Cond.code yJ7_copyOf_1904c cJ7_copyOf_1904c 2 (some (.array (.object "java/lang/Object"))) ∈ zW := zW_in 533 (by decide +kernel) rfl
theorem zw_534 : Cond.methodLink RJ7 86 ⟨"java/lang/Object", "getClass", "()Ljava/lang/Class;"⟩ ∈ zW := zW_in 534 (by decide +kernel) rfl
theorem zw_535 : Cond.instanceMethod ⟨"java/lang/Object", "getClass", "()Ljava/lang/Class;"⟩ ∈ zW := zW_in 535 (by decide +kernel) rfl
theorem zw_551 : Cond.native ⟨"java/lang/Object", "getClass", "()Ljava/lang/Class;"⟩ ∈ zW := zW_in 551 (by decide +kernel) rfl
theorem zw_552 : Cond.methodLink RJ7 300 yJ7_copyOf_6403c ∈ zW := zW_in 552 (by decide +kernel) rfl
theorem zw_553 : Cond.static yJ7_copyOf_6403c ∈ zW := zW_in 553 (by decide +kernel) rfl
theorem zw_554 : Cond.code yJ7_copyOf_6403c cJ7_copyOf_6403c 4 (some (.array (.object "java/lang/Object"))) ∈ zW := zW_in 554 (by decide +kernel) rfl
theorem zw_555 : Cond.classLink RJ7 110 "[Ljava/lang/Object;" ∈ zW := zW_in 555 (by decide +kernel) rfl
theorem zw_557 : Cond.classLink RJ7 2 "java/lang/Object" ∈ zW := zW_in 557 (by decide +kernel) rfl
theorem zw_558 : Cond.methodLink RJ7 304 yJ9_min_7cf53 ∈ zW := zW_in 558 (by decide +kernel) rfl
theorem zw_559 : Cond.static yJ9_min_7cf53 ∈ zW := zW_in 559 (by decide +kernel) rfl
theorem zw_560 : Cond.code Lib.Math.min.name Lib.Math.min.code 2 (some .int) ∈ zW := zW_in 560 (by decide +kernel) rfl
theorem zw_561 : Cond.methodLink RJ7 150 arraycopyName ∈ zW := zW_in 561 (by decide +kernel) rfl
theorem zw_562 : Cond.static arraycopyName ∈ zW := zW_in 562 (by decide +kernel) rfl
theorem zw_563 : Cond.native arraycopyName ∈ zW := zW_in 563 (by decide +kernel) rfl
theorem zw_564 : Cond.methodLink RJx4a65c 79 yJ9_max_7cf53 ∈ zW := zW_in 564 (by decide +kernel) rfl
theorem zw_565 : Cond.classLink RJx4a65c 7 "java/lang/Object" ∈ zW := zW_in 565 (by decide +kernel) rfl
theorem zw_581 : Cond.methodLink RX10 100 yX10_methodAt ∈ zW := zW_in 581 (by decide +kernel) rfl
theorem zw_583 : Cond.instanceMethod yX10_methodAt ∈ zW := zW_in 583 (by decide +kernel) rfl
theorem zw_584 : Cond.code yX10_methodAt cX10_methodAt 2 (some (.object "GrandsireLoft$Method")) ∈ zW := zW_in 584 (by decide +kernel) rfl
theorem zw_585 : Cond.methodLink RX10 162 yX10_requireIndex ∈ zW := zW_in 585 (by decide +kernel) rfl
theorem zw_586 : Cond.static yX10_requireIndex ∈ zW := zW_in 586 (by decide +kernel) rfl
theorem zw_587 : Cond.code yX10_requireIndex cX10_requireIndex 2 none ∈ zW := zW_in 587 (by decide +kernel) rfl
theorem zw_588 : Cond.classLink RX10 142 "java/lang/IndexOutOfBoundsException" ∈ zW := zW_in 588 (by decide +kernel) rfl
theorem zw_604 : Cond.methodLink RX10 211 yJx4a65c_get_915e3 ∈ zW := zW_in 604 (by decide +kernel) rfl
theorem zw_605 : Cond.instanceMethod yJx4a65c_get_915e3 ∈ zW := zW_in 605 (by decide +kernel) rfl
theorem zw_606 : Cond.selects RJx4a65c yJx4a65c_get_915e3 yJx4a65c_get_915e3 ∈ zW := zW_in 606 (by decide +kernel) rfl
theorem zw_607 : Cond.code yJx4a65c_get_915e3 cJx4a65c_get_915e3 2 (some (.object "java/lang/Object")) ∈ zW := zW_in 607 (by decide +kernel) rfl
theorem zw_608 : Cond.methodLink RJx4a65c 118 yJ15_checkIndex_7cf53 ∈ zW := zW_in 608 (by decide +kernel) rfl
theorem zw_609 : Cond.static yJ15_checkIndex_7cf53 ∈ zW := zW_in 609 (by decide +kernel) rfl
theorem zw_610 : Cond.code yJ15_checkIndex_7cf53 cJ15_checkIndex_7cf53 2 (some .int) ∈ zW := zW_in 610 (by decide +kernel) rfl
theorem zw_611 : Cond.methodLink RJ15 105 yJ3_checkIndex_8e157 ∈ zW := zW_in 611 (by decide +kernel) rfl
theorem zw_612 : Cond.static yJ3_checkIndex_8e157 ∈ zW := zW_in 612 (by decide +kernel) rfl
theorem zw_613 : Cond.code yJ3_checkIndex_8e157 cJ3_checkIndex_8e157 3 (some .int) ∈ zW := zW_in 613 (by decide +kernel) rfl
theorem zw_614 : Cond.methodLink RJx4a65c 123 yJx4a65c_elementData_915e3 ∈ zW := zW_in 614 (by decide +kernel) rfl
theorem zw_615 : Cond.instanceMethod yJx4a65c_elementData_915e3 ∈ zW := zW_in 615 (by decide +kernel) rfl
theorem zw_616 : Cond.selects RJx4a65c yJx4a65c_elementData_915e3 yJx4a65c_elementData_915e3 ∈ zW := zW_in 616 (by decide +kernel) rfl
theorem zw_617 : Cond.code yJx4a65c_elementData_915e3 cJx4a65c_elementData_915e3 2 (some (.object "java/lang/Object")) ∈ zW := zW_in 617 (by decide +kernel) rfl
theorem zw_627 : Cond.methodLink RX10 118 yX10_requireSilence ∈ zW := zW_in 627 (by decide +kernel) rfl
theorem zw_629 : Cond.instanceMethod yX10_requireSilence ∈ zW := zW_in 629 (by decide +kernel) rfl
theorem zw_630 : Cond.code yX10_requireSilence cX10_requireSilence 1 none ∈ zW := zW_in 630 (by decide +kernel) rfl
theorem zw_632 : Cond.methodLink RX10 124 yX4_changeOf ∈ zW := zW_in 632 (by decide +kernel) rfl
theorem zw_633 : Cond.instanceMethod yX4_changeOf ∈ zW := zW_in 633 (by decide +kernel) rfl
theorem zw_634 : Cond.selects RX4 yX4_changeOf yX4_changeOf ∈ zW := zW_in 634 (by decide +kernel) rfl
theorem zw_635 : Cond.code yX4_changeOf cX4_changeOf 3 (some .int) ∈ zW := zW_in 635 (by decide +kernel) rfl
theorem zw_636 : Cond.methodLink RX10 128 yX4_setLastChange ∈ zW := zW_in 636 (by decide +kernel) rfl
theorem zw_637 : Cond.instanceMethod yX4_setLastChange ∈ zW := zW_in 637 (by decide +kernel) rfl
theorem zw_638 : Cond.selects RX4 yX4_setLastChange yX4_setLastChange ∈ zW := zW_in 638 (by decide +kernel) rfl
theorem zw_639 : Cond.code yX4_setLastChange cX4_setLastChange 3 none ∈ zW := zW_in 639 (by decide +kernel) rfl
theorem zw_640 : Cond.methodLink RX10 132 yX10_rewriteTouches ∈ zW := zW_in 640 (by decide +kernel) rfl
theorem zw_642 : Cond.instanceMethod yX10_rewriteTouches ∈ zW := zW_in 642 (by decide +kernel) rfl
theorem zw_643 : Cond.code yX10_rewriteTouches cX10_rewriteTouches 2 none ∈ zW := zW_in 643 (by decide +kernel) rfl
theorem zw_644 : Cond.methodLink RX10 192 yX9_writeFrom ∈ zW := zW_in 644 (by decide +kernel) rfl
theorem zw_645 : Cond.instanceMethod yX9_writeFrom ∈ zW := zW_in 645 (by decide +kernel) rfl
theorem zw_646 : Cond.selects RX9 yX9_writeFrom yX9_writeFrom ∈ zW := zW_in 646 (by decide +kernel) rfl
theorem zw_647 : Cond.code yX9_writeFrom cX9_writeFrom 4 none ∈ zW := zW_in 647 (by decide +kernel) rfl
theorem zw_648 : Cond.methodLink RX9 35 yJx4a65c_size_8abf5 ∈ zW := zW_in 648 (by decide +kernel) rfl
theorem zw_649 : Cond.methodLink RX9 59 yJx4a65c_get_915e3 ∈ zW := zW_in 649 (by decide +kernel) rfl
theorem zw_650 : Cond.classLink RX9 44 RX4 ∈ zW := zW_in 650 (by decide +kernel) rfl
theorem zw_651 : Cond.methodLink RX9 66 yX9_writeLead ∈ zW := zW_in 651 (by decide +kernel) rfl
theorem zw_653 : Cond.instanceMethod yX9_writeLead ∈ zW := zW_in 653 (by decide +kernel) rfl
theorem zw_654 : Cond.code yX9_writeLead cX9_writeLead 6 none ∈ zW := zW_in 654 (by decide +kernel) rfl
theorem zw_655 : Cond.methodLink RX9 70 yX9_lastRow ∈ zW := zW_in 655 (by decide +kernel) rfl
theorem zw_657 : Cond.instanceMethod yX9_lastRow ∈ zW := zW_in 657 (by decide +kernel) rfl
theorem zw_658 : Cond.code yX9_lastRow cX9_lastRow 1 (some .int) ∈ zW := zW_in 658 (by decide +kernel) rfl
theorem zw_659 : Cond.methodLink RX9 73 yX8_rounds ∈ zW := zW_in 659 (by decide +kernel) rfl
theorem zw_660 : Cond.methodLink RX9 83 yX4_changeOf ∈ zW := zW_in 660 (by decide +kernel) rfl
theorem zw_661 : Cond.methodLink RX9 87 yX8_afterChange ∈ zW := zW_in 661 (by decide +kernel) rfl
theorem zw_662 : Cond.methodLink RX9 91 yX5_isRepeat ∈ zW := zW_in 662 (by decide +kernel) rfl
theorem zw_663 : Cond.instanceMethod yX5_isRepeat ∈ zW := zW_in 663 (by decide +kernel) rfl
theorem zw_664 : Cond.selects RX5 yX5_isRepeat yX5_isRepeat ∈ zW := zW_in 664 (by decide +kernel) rfl
theorem zw_665 : Cond.code yX5_isRepeat cX5_isRepeat 6 (some .boolean) ∈ zW := zW_in 665 (by decide +kernel) rfl
theorem zw_666 : Cond.methodLink RX5 15 yX8_number ∈ zW := zW_in 666 (by decide +kernel) rfl
theorem zw_667 : Cond.methodLink RX10 135 yX0_bellsOut ∈ zW := zW_in 667 (by decide +kernel) rfl
theorem zw_668 : Cond.instanceMethod yX0_bellsOut ∈ zW := zW_in 668 (by decide +kernel) rfl
theorem zw_669 : Cond.selects RX0 yX0_bellsOut yX0_bellsOut ∈ zW := zW_in 669 (by decide +kernel) rfl
theorem zw_670 : Cond.code yX0_bellsOut cX0_bellsOut 3 (some .int) ∈ zW := zW_in 670 (by decide +kernel) rfl
theorem zw_671 : Cond.methodLink RX0 18 yX1_isUsable ∈ zW := zW_in 671 (by decide +kernel) rfl
theorem zw_672 : Cond.instanceMethod yX1_isUsable ∈ zW := zW_in 672 (by decide +kernel) rfl
theorem zw_673 : Cond.selects RX1 yX1_isUsable yX1_isUsable ∈ zW := zW_in 673 (by decide +kernel) rfl
theorem zw_674 : Cond.code yX1_isUsable cX1_isUsable 1 (some .boolean) ∈ zW := zW_in 674 (by decide +kernel) rfl
theorem zw_675 : Cond.methodLink RX10 138 yX7_dropUnfit ∈ zW := zW_in 675 (by decide +kernel) rfl
theorem zw_676 : Cond.instanceMethod yX7_dropUnfit ∈ zW := zW_in 676 (by decide +kernel) rfl
theorem zw_677 : Cond.selects RX7 yX7_dropUnfit yX7_dropUnfit ∈ zW := zW_in 677 (by decide +kernel) rfl
theorem zw_678 : Cond.code yX7_dropUnfit cX7_dropUnfit 4 (some .int) ∈ zW := zW_in 678 (by decide +kernel) rfl
theorem zw_679 : Cond.methodLink RX7 69 yX3_dropUnfit ∈ zW := zW_in 679 (by decide +kernel) rfl
theorem zw_680 : Cond.instanceMethod yX3_dropUnfit ∈ zW := zW_in 680 (by decide +kernel) rfl
theorem zw_681 : Cond.selects RX3 yX3_dropUnfit yX3_dropUnfit ∈ zW := zW_in 681 (by decide +kernel) rfl
theorem zw_682 : Cond.code yX3_dropUnfit cX3_dropUnfit 4 (some .int) ∈ zW := zW_in 682 (by decide +kernel) rfl
theorem zw_683 : Cond.methodLink RX3 18 yJx4a65c_size_8abf5 ∈ zW := zW_in 683 (by decide +kernel) rfl
theorem zw_684 : Cond.methodLink RX3 22 yJx4a65c_get_915e3 ∈ zW := zW_in 684 (by decide +kernel) rfl
theorem zw_685 : Cond.classLink RX3 30 RX9 ∈ zW := zW_in 685 (by decide +kernel) rfl
theorem zw_686 : Cond.methodLink RX3 45 yX9_isFit ∈ zW := zW_in 686 (by decide +kernel) rfl
theorem zw_687 : Cond.instanceMethod yX9_isFit ∈ zW := zW_in 687 (by decide +kernel) rfl
theorem zw_688 : Cond.selects RX9 yX9_isFit yX9_isFit ∈ zW := zW_in 688 (by decide +kernel) rfl
theorem zw_689 : Cond.code yX9_isFit cX9_isFit 3 (some .boolean) ∈ zW := zW_in 689 (by decide +kernel) rfl
theorem zw_690 : Cond.methodLink RX9 97 yX9_isSound ∈ zW := zW_in 690 (by decide +kernel) rfl
theorem zw_691 : Cond.instanceMethod yX9_isSound ∈ zW := zW_in 691 (by decide +kernel) rfl
theorem zw_692 : Cond.selects RX9 yX9_isSound yX9_isSound ∈ zW := zW_in 692 (by decide +kernel) rfl
theorem zw_693 : Cond.code yX9_isSound cX9_isSound 1 (some .boolean) ∈ zW := zW_in 693 (by decide +kernel) rfl
theorem zw_694 : Cond.methodLink RX3 42 yJx4a65c_remove_915e3 ∈ zW := zW_in 694 (by decide +kernel) rfl
theorem zw_695 : Cond.instanceMethod yJx4a65c_remove_915e3 ∈ zW := zW_in 695 (by decide +kernel) rfl
theorem zw_696 : Cond.selects RJx4a65c yJx4a65c_remove_915e3 yJx4a65c_remove_915e3 ∈ zW := zW_in 696 (by decide +kernel) rfl
theorem zw_697 : Cond.code yJx4a65c_remove_915e3 cJx4a65c_remove_915e3 4 (some (.object "java/lang/Object")) ∈ zW := zW_in 697 (by decide +kernel) rfl
theorem zw_698 : Cond.methodLink RJx4a65c 144 yJx4a65c_fastRemove_b59b0 ∈ zW := zW_in 698 (by decide +kernel) rfl
theorem zw_700 : Cond.instanceMethod yJx4a65c_fastRemove_b59b0 ∈ zW := zW_in 700 (by decide +kernel) rfl
theorem zw_701 : Cond.code yJx4a65c_fastRemove_b59b0 cJx4a65c_fastRemove_b59b0 4 none ∈ zW := zW_in 701 (by decide +kernel) rfl
theorem zw_702 : Cond.methodLink RJx4a65c 112 arraycopyName ∈ zW := zW_in 702 (by decide +kernel) rfl
theorem zw_710 : Cond.methodLink RX10 171 yX9_takesLead ∈ zW := zW_in 710 (by decide +kernel) rfl
theorem zw_711 : Cond.instanceMethod yX9_takesLead ∈ zW := zW_in 711 (by decide +kernel) rfl
theorem zw_712 : Cond.selects RX9 yX9_takesLead yX9_takesLead ∈ zW := zW_in 712 (by decide +kernel) rfl
theorem zw_713 : Cond.code yX9_takesLead cX9_takesLead 2 (some .boolean) ∈ zW := zW_in 713 (by decide +kernel) rfl
theorem zw_714 : Cond.methodLink RX9 39 yJx4a65c_isEmpty_aae02 ∈ zW := zW_in 714 (by decide +kernel) rfl
theorem zw_715 : Cond.instanceMethod yJx4a65c_isEmpty_aae02 ∈ zW := zW_in 715 (by decide +kernel) rfl
theorem zw_716 : Cond.selects RJx4a65c yJx4a65c_isEmpty_aae02 yJx4a65c_isEmpty_aae02 ∈ zW := zW_in 716 (by decide +kernel) rfl
theorem zw_717 : Cond.code yJx4a65c_isEmpty_aae02 cJx4a65c_isEmpty_aae02 1 (some .boolean) ∈ zW := zW_in 717 (by decide +kernel) rfl
theorem zw_719 : Cond.methodLink RX10 177 yX9_addLead ∈ zW := zW_in 719 (by decide +kernel) rfl
theorem zw_720 : Cond.instanceMethod yX9_addLead ∈ zW := zW_in 720 (by decide +kernel) rfl
theorem zw_721 : Cond.selects RX9 yX9_addLead yX9_addLead ∈ zW := zW_in 721 (by decide +kernel) rfl
theorem zw_722 : Cond.code yX9_addLead cX9_addLead 3 none ∈ zW := zW_in 722 (by decide +kernel) rfl
theorem zw_723 : Cond.methodLink RX9 49 yJx4a65c_add_9ea2d ∈ zW := zW_in 723 (by decide +kernel) rfl
theorem zw_724 : Cond.methodLink RX10 181 yX9_leadCount ∈ zW := zW_in 724 (by decide +kernel) rfl
theorem zw_725 : Cond.instanceMethod yX9_leadCount ∈ zW := zW_in 725 (by decide +kernel) rfl
theorem zw_726 : Cond.selects RX9 yX9_leadCount yX9_leadCount ∈ zW := zW_in 726 (by decide +kernel) rfl
theorem zw_727 : Cond.code yX9_leadCount cX9_leadCount 1 (some .int) ∈ zW := zW_in 727 (by decide +kernel) rfl
theorem zw_735 : Cond.methodLink RX10 189 yX10_requireRoomForTouch ∈ zW := zW_in 735 (by decide +kernel) rfl
theorem zw_737 : Cond.instanceMethod yX10_requireRoomForTouch ∈ zW := zW_in 737 (by decide +kernel) rfl
theorem zw_738 : Cond.code yX10_requireRoomForTouch cX10_requireRoomForTouch 1 none ∈ zW := zW_in 738 (by decide +kernel) rfl
theorem zw_740 : Cond.methodLink RX10 200 yX2_soundTouch ∈ zW := zW_in 740 (by decide +kernel) rfl
theorem zw_741 : Cond.instanceMethod yX2_soundTouch ∈ zW := zW_in 741 (by decide +kernel) rfl
theorem zw_742 : Cond.selects RX2 yX2_soundTouch yX2_soundTouch ∈ zW := zW_in 742 (by decide +kernel) rfl
theorem zw_743 : Cond.code yX2_soundTouch cX2_soundTouch 5 (some (.object "GrandsireLoft$Touch")) ∈ zW := zW_in 743 (by decide +kernel) rfl
theorem zw_744 : Cond.methodLink RX2 22 yX9_clear ∈ zW := zW_in 744 (by decide +kernel) rfl
theorem zw_745 : Cond.instanceMethod yX9_clear ∈ zW := zW_in 745 (by decide +kernel) rfl
theorem zw_746 : Cond.selects RX9 yX9_clear yX9_clear ∈ zW := zW_in 746 (by decide +kernel) rfl
theorem zw_747 : Cond.code yX9_clear cX9_clear 1 none ∈ zW := zW_in 747 (by decide +kernel) rfl
theorem zw_748 : Cond.methodLink RX9 53 yJx4a65c_clear_da8c8 ∈ zW := zW_in 748 (by decide +kernel) rfl
theorem zw_749 : Cond.instanceMethod yJx4a65c_clear_da8c8 ∈ zW := zW_in 749 (by decide +kernel) rfl
theorem zw_750 : Cond.selects RJx4a65c yJx4a65c_clear_da8c8 yJx4a65c_clear_da8c8 ∈ zW := zW_in 750 (by decide +kernel) rfl
theorem zw_751 : Cond.code yJx4a65c_clear_da8c8 cJx4a65c_clear_da8c8 4 none ∈ zW := zW_in 751 (by decide +kernel) rfl
theorem zw_752 : Cond.methodLink RX2 25 yX9_addLead ∈ zW := zW_in 752 (by decide +kernel) rfl
theorem zw_753 : Cond.methodLink RX2 29 yX9_writeFrom ∈ zW := zW_in 753 (by decide +kernel) rfl
theorem zw_754 : Cond.methodLink RX2 33 yX9_isSound ∈ zW := zW_in 754 (by decide +kernel) rfl
theorem zw_755 : Cond.methodLink RX2 37 yX2_handOutTrial ∈ zW := zW_in 755 (by decide +kernel) rfl
theorem zw_757 : Cond.instanceMethod yX2_handOutTrial ∈ zW := zW_in 757 (by decide +kernel) rfl
theorem zw_758 : Cond.code yX2_handOutTrial cX2_handOutTrial 2 (some (.object "GrandsireLoft$Touch")) ∈ zW := zW_in 758 (by decide +kernel) rfl
theorem zw_759 : Cond.methodLink RX2 48 yX2_callNext ∈ zW := zW_in 759 (by decide +kernel) rfl
theorem zw_761 : Cond.instanceMethod yX2_callNext ∈ zW := zW_in 761 (by decide +kernel) rfl
theorem zw_762 : Cond.code yX2_callNext cX2_callNext 5 (some .int) ∈ zW := zW_in 762 (by decide +kernel) rfl
theorem zw_763 : Cond.methodLink RX2 56 yX4_nextUnlikeCall ∈ zW := zW_in 763 (by decide +kernel) rfl
theorem zw_764 : Cond.instanceMethod yX4_nextUnlikeCall ∈ zW := zW_in 764 (by decide +kernel) rfl
theorem zw_765 : Cond.selects RX4 yX4_nextUnlikeCall yX4_nextUnlikeCall ∈ zW := zW_in 765 (by decide +kernel) rfl
theorem zw_766 : Cond.code yX4_nextUnlikeCall cX4_nextUnlikeCall 3 (some .int) ∈ zW := zW_in 766 (by decide +kernel) rfl
theorem zw_767 : Cond.methodLink RX4 51 yX4_isLikeLesserCall ∈ zW := zW_in 767 (by decide +kernel) rfl
theorem zw_769 : Cond.instanceMethod yX4_isLikeLesserCall ∈ zW := zW_in 769 (by decide +kernel) rfl
theorem zw_770 : Cond.code yX4_isLikeLesserCall cX4_isLikeLesserCall 3 (some .boolean) ∈ zW := zW_in 770 (by decide +kernel) rfl
theorem zw_771 : Cond.methodLink RX10 196 yX10_keepTouch ∈ zW := zW_in 771 (by decide +kernel) rfl
theorem zw_773 : Cond.instanceMethod yX10_keepTouch ∈ zW := zW_in 773 (by decide +kernel) rfl
theorem zw_774 : Cond.code yX10_keepTouch cX10_keepTouch 2 (some .int) ∈ zW := zW_in 774 (by decide +kernel) rfl
theorem zw_837 : Cond.methodLink RX10 184 yX9_clear ∈ zW := zW_in 837 (by decide +kernel) rfl
theorem zw_852 : Cond.methodLink RX10 240 yX10_bellNumbered ∈ zW := zW_in 852 (by decide +kernel) rfl
theorem zw_854 : Cond.instanceMethod yX10_bellNumbered ∈ zW := zW_in 854 (by decide +kernel) rfl
theorem zw_855 : Cond.code yX10_bellNumbered cX10_bellNumbered 2 (some (.object "GrandsireLoft$Bell")) ∈ zW := zW_in 855 (by decide +kernel) rfl
theorem zw_865 : Cond.methodLink RX10 253 yX1_isUsable ∈ zW := zW_in 865 (by decide +kernel) rfl
theorem zw_873 : Cond.methodLink RX10 257 yX1_renew ∈ zW := zW_in 873 (by decide +kernel) rfl
theorem zw_874 : Cond.instanceMethod yX1_renew ∈ zW := zW_in 874 (by decide +kernel) rfl
theorem zw_875 : Cond.selects RX1 yX1_renew yX1_renew ∈ zW := zW_in 875 (by decide +kernel) rfl
theorem zw_876 : Cond.code yX1_renew cX1_renew 3 (some .int) ∈ zW := zW_in 876 (by decide +kernel) rfl
theorem zw_891 : Cond.methodLink RX10 204 yX10_touchAt ∈ zW := zW_in 891 (by decide +kernel) rfl
theorem zw_893 : Cond.instanceMethod yX10_touchAt ∈ zW := zW_in 893 (by decide +kernel) rfl
theorem zw_894 : Cond.code yX10_touchAt cX10_touchAt 2 (some (.object "GrandsireLoft$Touch")) ∈ zW := zW_in 894 (by decide +kernel) rfl
theorem zw_895 : Cond.methodLink RX10 266 yX10_dayAt ∈ zW := zW_in 895 (by decide +kernel) rfl
theorem zw_897 : Cond.instanceMethod yX10_dayAt ∈ zW := zW_in 897 (by decide +kernel) rfl
theorem zw_898 : Cond.code yX10_dayAt cX10_dayAt 2 (some (.object "GrandsireLoft$Day")) ∈ zW := zW_in 898 (by decide +kernel) rfl
theorem zw_899 : Cond.methodLink RX10 270 yX3_takesTouch ∈ zW := zW_in 899 (by decide +kernel) rfl
theorem zw_900 : Cond.instanceMethod yX3_takesTouch ∈ zW := zW_in 900 (by decide +kernel) rfl
theorem zw_901 : Cond.selects RX3 yX3_takesTouch yX3_takesTouch ∈ zW := zW_in 901 (by decide +kernel) rfl
theorem zw_902 : Cond.code yX3_takesTouch cX3_takesTouch 2 (some .boolean) ∈ zW := zW_in 902 (by decide +kernel) rfl
theorem zw_903 : Cond.methodLink RX3 26 yX3_hasTouch ∈ zW := zW_in 903 (by decide +kernel) rfl
theorem zw_904 : Cond.instanceMethod yX3_hasTouch ∈ zW := zW_in 904 (by decide +kernel) rfl
theorem zw_905 : Cond.selects RX3 yX3_hasTouch yX3_hasTouch ∈ zW := zW_in 905 (by decide +kernel) rfl
theorem zw_906 : Cond.code yX3_hasTouch cX3_hasTouch 3 (some .boolean) ∈ zW := zW_in 906 (by decide +kernel) rfl
theorem zw_907 : Cond.methodLink RX10 276 yX9_isFit ∈ zW := zW_in 907 (by decide +kernel) rfl
theorem zw_920 : Cond.methodLink RX10 293 yX7_endDay ∈ zW := zW_in 920 (by decide +kernel) rfl
theorem zw_921 : Cond.instanceMethod yX7_endDay ∈ zW := zW_in 921 (by decide +kernel) rfl
theorem zw_922 : Cond.selects RX7 yX7_endDay yX7_endDay ∈ zW := zW_in 922 (by decide +kernel) rfl
theorem zw_923 : Cond.code yX7_endDay cX7_endDay 1 none ∈ zW := zW_in 923 (by decide +kernel) rfl
theorem zw_924 : Cond.methodLink RX7 43 yX7_bandFor ∈ zW := zW_in 924 (by decide +kernel) rfl
theorem zw_925 : Cond.instanceMethod yX7_bandFor ∈ zW := zW_in 925 (by decide +kernel) rfl
theorem zw_926 : Cond.selects RX7 yX7_bandFor yX7_bandFor ∈ zW := zW_in 926 (by decide +kernel) rfl
theorem zw_927 : Cond.code yX7_bandFor cX7_bandFor 6 (some .int) ∈ zW := zW_in 927 (by decide +kernel) rfl
theorem zw_928 : Cond.methodLink RX7 32 yX3_greatestStage ∈ zW := zW_in 928 (by decide +kernel) rfl
theorem zw_929 : Cond.instanceMethod yX3_greatestStage ∈ zW := zW_in 929 (by decide +kernel) rfl
theorem zw_930 : Cond.selects RX3 yX3_greatestStage yX3_greatestStage ∈ zW := zW_in 930 (by decide +kernel) rfl
theorem zw_931 : Cond.code yX3_greatestStage cX3_greatestStage 3 (some .int) ∈ zW := zW_in 931 (by decide +kernel) rfl
theorem zw_932 : Cond.methodLink RX3 36 yJ9_max_7cf53 ∈ zW := zW_in 932 (by decide +kernel) rfl
theorem zw_933 : Cond.methodLink RX7 36 yX7_firstBand ∈ zW := zW_in 933 (by decide +kernel) rfl
theorem zw_935 : Cond.instanceMethod yX7_firstBand ∈ zW := zW_in 935 (by decide +kernel) rfl
theorem zw_936 : Cond.code yX7_firstBand cX7_firstBand 5 (some .int) ∈ zW := zW_in 936 (by decide +kernel) rfl
theorem zw_937 : Cond.methodLink RX7 40 yX7_turnBehind ∈ zW := zW_in 937 (by decide +kernel) rfl
theorem zw_938 : Cond.static yX7_turnBehind ∈ zW := zW_in 938 (by decide +kernel) rfl
theorem zw_939 : Cond.code yX7_turnBehind cX7_turnBehind 2 (some .int) ∈ zW := zW_in 939 (by decide +kernel) rfl
theorem zw_940 : Cond.methodLink RX7 60 yJx4a65c_clear_da8c8 ∈ zW := zW_in 940 (by decide +kernel) rfl
theorem zw_954 : Cond.methodLink RX10 299 yX7_canRingToday ∈ zW := zW_in 954 (by decide +kernel) rfl
theorem zw_955 : Cond.instanceMethod yX7_canRingToday ∈ zW := zW_in 955 (by decide +kernel) rfl
theorem zw_956 : Cond.selects RX7 yX7_canRingToday yX7_canRingToday ∈ zW := zW_in 956 (by decide +kernel) rfl
theorem zw_957 : Cond.code yX7_canRingToday cX7_canRingToday 3 (some .boolean) ∈ zW := zW_in 957 (by decide +kernel) rfl
theorem zw_958 : Cond.methodLink RX7 52 yX3_hasTouch ∈ zW := zW_in 958 (by decide +kernel) rfl
theorem zw_960 : Cond.methodLink RX10 304 yX7_keepBandOfToday ∈ zW := zW_in 960 (by decide +kernel) rfl
theorem zw_961 : Cond.instanceMethod yX7_keepBandOfToday ∈ zW := zW_in 961 (by decide +kernel) rfl
theorem zw_962 : Cond.selects RX7 yX7_keepBandOfToday yX7_keepBandOfToday ∈ zW := zW_in 962 (by decide +kernel) rfl
theorem zw_963 : Cond.code yX7_keepBandOfToday cX7_keepBandOfToday 1 none ∈ zW := zW_in 963 (by decide +kernel) rfl
theorem zw_964 : Cond.methodLink RX10 307 yX0_forgetPulls ∈ zW := zW_in 964 (by decide +kernel) rfl
theorem zw_965 : Cond.instanceMethod yX0_forgetPulls ∈ zW := zW_in 965 (by decide +kernel) rfl
theorem zw_966 : Cond.selects RX0 yX0_forgetPulls yX0_forgetPulls ∈ zW := zW_in 966 (by decide +kernel) rfl
theorem zw_967 : Cond.code yX0_forgetPulls cX0_forgetPulls 2 none ∈ zW := zW_in 967 (by decide +kernel) rfl
theorem zw_968 : Cond.classLink RX10 310 RX6 ∈ zW := zW_in 968 (by decide +kernel) rfl
theorem zw_969 : Cond.instantiable RX6 6 ∈ zW := zW_in 969 (by decide +kernel) rfl
theorem zw_970 : Cond.methodLink RX10 316 yX6_init ∈ zW := zW_in 970 (by decide +kernel) rfl
theorem zw_971 : Cond.instanceMethod yX6_init ∈ zW := zW_in 971 (by decide +kernel) rfl
theorem zw_972 : Cond.code yX6_init cX6_init 5 none ∈ zW := zW_in 972 (by decide +kernel) rfl
theorem zw_973 : Cond.methodLink RX6 3 objectInit ∈ zW := zW_in 973 (by decide +kernel) rfl
theorem zw_974 : Cond.fieldLink RX6 9 "GrandsireLoft$Ringing" "touch" "LGrandsireLoft$Touch;" ∈ zW := zW_in 974 (by decide +kernel) rfl
theorem zw_975 : Cond.fieldLink RX10 410 "GrandsireLoft$Ringing" "touch" "LGrandsireLoft$Touch;" ∈ zW := zW_in 975 (by decide +kernel) rfl
theorem zw_976 : Cond.fieldLink RX6 62 "GrandsireLoft$Ringing" "doneRows" "I" ∈ zW := zW_in 976 (by decide +kernel) rfl
theorem zw_977 : Cond.fieldLink RX10 326 "GrandsireLoft$Ringing" "doneRows" "I" ∈ zW := zW_in 977 (by decide +kernel) rfl
theorem zw_978 : Cond.fieldLink RX6 57 "GrandsireLoft$Ringing" "waited" "I" ∈ zW := zW_in 978 (by decide +kernel) rfl
theorem zw_979 : Cond.fieldLink RX10 363 "GrandsireLoft$Ringing" "waited" "I" ∈ zW := zW_in 979 (by decide +kernel) rfl
theorem zw_980 : Cond.fieldLink RX6 15 "GrandsireLoft$Ringing" "bells" "[LGrandsireLoft$Bell;" ∈ zW := zW_in 980 (by decide +kernel) rfl
theorem zw_981 : Cond.fieldLink RX6 19 "GrandsireLoft$Ringing" "people" "I" ∈ zW := zW_in 981 (by decide +kernel) rfl
theorem zw_982 : Cond.fieldLink RX6 23 "GrandsireLoft$Ringing" "gap" "I" ∈ zW := zW_in 982 (by decide +kernel) rfl
theorem zw_996 : Cond.methodLink RX10 323 yX10_doReadyRows ∈ zW := zW_in 996 (by decide +kernel) rfl
theorem zw_998 : Cond.instanceMethod yX10_doReadyRows ∈ zW := zW_in 998 (by decide +kernel) rfl
theorem zw_999 : Cond.code yX10_doReadyRows cX10_doReadyRows 3 none ∈ zW := zW_in 999 (by decide +kernel) rfl
theorem zw_1000 : Cond.methodLink RX10 398 yX6_isNextRowReady ∈ zW := zW_in 1000 (by decide +kernel) rfl
theorem zw_1001 : Cond.instanceMethod yX6_isNextRowReady ∈ zW := zW_in 1001 (by decide +kernel) rfl
theorem zw_1002 : Cond.selects RX6 yX6_isNextRowReady yX6_isNextRowReady ∈ zW := zW_in 1002 (by decide +kernel) rfl
theorem zw_1003 : Cond.code yX6_isNextRowReady cX6_isNextRowReady 2 (some .boolean) ∈ zW := zW_in 1003 (by decide +kernel) rfl
theorem zw_1004 : Cond.methodLink RX6 65 yX6_areAllRowsDone ∈ zW := zW_in 1004 (by decide +kernel) rfl
theorem zw_1005 : Cond.instanceMethod yX6_areAllRowsDone ∈ zW := zW_in 1005 (by decide +kernel) rfl
theorem zw_1006 : Cond.selects RX6 yX6_areAllRowsDone yX6_areAllRowsDone ∈ zW := zW_in 1006 (by decide +kernel) rfl
theorem zw_1007 : Cond.code yX6_areAllRowsDone cX6_areAllRowsDone 1 (some .boolean) ∈ zW := zW_in 1007 (by decide +kernel) rfl
theorem zw_1008 : Cond.methodLink RX6 26 yX6_isByPeople ∈ zW := zW_in 1008 (by decide +kernel) rfl
theorem zw_1010 : Cond.instanceMethod yX6_isByPeople ∈ zW := zW_in 1010 (by decide +kernel) rfl
theorem zw_1011 : Cond.code yX6_isByPeople cX6_isByPeople 2 (some .boolean) ∈ zW := zW_in 1011 (by decide +kernel) rfl
theorem zw_1012 : Cond.methodLink RX10 401 yX6_doNextRow ∈ zW := zW_in 1012 (by decide +kernel) rfl
theorem zw_1013 : Cond.instanceMethod yX6_doNextRow ∈ zW := zW_in 1013 (by decide +kernel) rfl
theorem zw_1014 : Cond.selects RX6 yX6_doNextRow yX6_doNextRow ∈ zW := zW_in 1014 (by decide +kernel) rfl
theorem zw_1015 : Cond.code yX6_doNextRow cX6_doNextRow 5 (some .boolean) ∈ zW := zW_in 1015 (by decide +kernel) rfl
theorem zw_1016 : Cond.methodLink RX6 69 yX6_timeOfBlow ∈ zW := zW_in 1016 (by decide +kernel) rfl
theorem zw_1018 : Cond.instanceMethod yX6_timeOfBlow ∈ zW := zW_in 1018 (by decide +kernel) rfl
theorem zw_1019 : Cond.code yX6_timeOfBlow cX6_timeOfBlow 3 (some .int) ∈ zW := zW_in 1019 (by decide +kernel) rfl
theorem zw_1020 : Cond.methodLink RX6 73 yX8_bellIn ∈ zW := zW_in 1020 (by decide +kernel) rfl
theorem zw_1021 : Cond.methodLink RX6 76 yX1_pullTime ∈ zW := zW_in 1021 (by decide +kernel) rfl
theorem zw_1022 : Cond.instanceMethod yX1_pullTime ∈ zW := zW_in 1022 (by decide +kernel) rfl
theorem zw_1023 : Cond.selects RX1 yX1_pullTime yX1_pullTime ∈ zW := zW_in 1023 (by decide +kernel) rfl
theorem zw_1024 : Cond.code yX1_pullTime cX1_pullTime 2 (some .int) ∈ zW := zW_in 1024 (by decide +kernel) rfl
theorem zw_1025 : Cond.methodLink RX6 79 yX1_strike ∈ zW := zW_in 1025 (by decide +kernel) rfl
theorem zw_1026 : Cond.instanceMethod yX1_strike ∈ zW := zW_in 1026 (by decide +kernel) rfl
theorem zw_1027 : Cond.selects RX1 yX1_strike yX1_strike ∈ zW := zW_in 1027 (by decide +kernel) rfl
theorem zw_1028 : Cond.code yX1_strike cX1_strike 2 none ∈ zW := zW_in 1028 (by decide +kernel) rfl
theorem zw_1029 : Cond.methodLink RX6 53 yX6_dueAt ∈ zW := zW_in 1029 (by decide +kernel) rfl
theorem zw_1031 : Cond.instanceMethod yX6_dueAt ∈ zW := zW_in 1031 (by decide +kernel) rfl
theorem zw_1032 : Cond.code yX6_dueAt cX6_dueAt 3 (some .int) ∈ zW := zW_in 1032 (by decide +kernel) rfl
theorem zw_1033 : Cond.methodLink RX10 404 yX0_noteWornOut ∈ zW := zW_in 1033 (by decide +kernel) rfl
theorem zw_1034 : Cond.instanceMethod yX0_noteWornOut ∈ zW := zW_in 1034 (by decide +kernel) rfl
theorem zw_1035 : Cond.selects RX0 yX0_noteWornOut yX0_noteWornOut ∈ zW := zW_in 1035 (by decide +kernel) rfl
theorem zw_1036 : Cond.code yX0_noteWornOut cX0_noteWornOut 3 (some .boolean) ∈ zW := zW_in 1036 (by decide +kernel) rfl
theorem zw_1037 : Cond.methodLink RX0 22 yX1_noteWornOut ∈ zW := zW_in 1037 (by decide +kernel) rfl
theorem zw_1038 : Cond.instanceMethod yX1_noteWornOut ∈ zW := zW_in 1038 (by decide +kernel) rfl
theorem zw_1039 : Cond.selects RX1 yX1_noteWornOut yX1_noteWornOut ∈ zW := zW_in 1039 (by decide +kernel) rfl
theorem zw_1040 : Cond.code yX1_noteWornOut cX1_noteWornOut 3 (some .boolean) ∈ zW := zW_in 1040 (by decide +kernel) rfl
theorem zw_1041 : Cond.methodLink RX10 331 yX10_endRinging ∈ zW := zW_in 1041 (by decide +kernel) rfl
theorem zw_1043 : Cond.instanceMethod yX10_endRinging ∈ zW := zW_in 1043 (by decide +kernel) rfl
theorem zw_1044 : Cond.code yX10_endRinging cX10_endRinging 1 none ∈ zW := zW_in 1044 (by decide +kernel) rfl
theorem zw_1045 : Cond.methodLink RX10 407 yX6_areAllRowsDone ∈ zW := zW_in 1045 (by decide +kernel) rfl
theorem zw_1046 : Cond.methodLink RX10 413 yX10_countAsRung ∈ zW := zW_in 1046 (by decide +kernel) rfl
theorem zw_1048 : Cond.instanceMethod yX10_countAsRung ∈ zW := zW_in 1048 (by decide +kernel) rfl
theorem zw_1049 : Cond.code yX10_countAsRung cX10_countAsRung 2 none ∈ zW := zW_in 1049 (by decide +kernel) rfl
theorem zw_1050 : Cond.methodLink RX10 417 yX7_takeFromToday ∈ zW := zW_in 1050 (by decide +kernel) rfl
theorem zw_1051 : Cond.instanceMethod yX7_takeFromToday ∈ zW := zW_in 1051 (by decide +kernel) rfl
theorem zw_1052 : Cond.selects RX7 yX7_takeFromToday yX7_takeFromToday ∈ zW := zW_in 1052 (by decide +kernel) rfl
theorem zw_1053 : Cond.code yX7_takeFromToday cX7_takeFromToday 2 none ∈ zW := zW_in 1053 (by decide +kernel) rfl
theorem zw_1054 : Cond.methodLink RX7 65 yX3_takeAway ∈ zW := zW_in 1054 (by decide +kernel) rfl
theorem zw_1055 : Cond.instanceMethod yX3_takeAway ∈ zW := zW_in 1055 (by decide +kernel) rfl
theorem zw_1056 : Cond.selects RX3 yX3_takeAway yX3_takeAway ∈ zW := zW_in 1056 (by decide +kernel) rfl
theorem zw_1057 : Cond.code yX3_takeAway cX3_takeAway 3 none ∈ zW := zW_in 1057 (by decide +kernel) rfl
theorem zw_1096 : Cond.constant RX10 334 2000000000 ∈ zW := zW_in 1096 (by decide +kernel) rfl
theorem zw_1097 : Cond.methodLink RX10 335 yX10_ringingThatAwaits ∈ zW := zW_in 1097 (by decide +kernel) rfl
theorem zw_1099 : Cond.instanceMethod yX10_ringingThatAwaits ∈ zW := zW_in 1099 (by decide +kernel) rfl
theorem zw_1100 : Cond.code yX10_ringingThatAwaits cX10_ringingThatAwaits 3 (some (.object "GrandsireLoft$Ringing")) ∈ zW := zW_in 1100 (by decide +kernel) rfl
theorem zw_1101 : Cond.methodLink RX10 393 yX6_awaitsPull ∈ zW := zW_in 1101 (by decide +kernel) rfl
theorem zw_1102 : Cond.instanceMethod yX6_awaitsPull ∈ zW := zW_in 1102 (by decide +kernel) rfl
theorem zw_1103 : Cond.selects RX6 yX6_awaitsPull yX6_awaitsPull ∈ zW := zW_in 1103 (by decide +kernel) rfl
theorem zw_1104 : Cond.code yX6_awaitsPull cX6_awaitsPull 2 (some .boolean) ∈ zW := zW_in 1104 (by decide +kernel) rfl
theorem zw_1106 : Cond.methodLink RX10 339 yX6_nextDue ∈ zW := zW_in 1106 (by decide +kernel) rfl
theorem zw_1107 : Cond.instanceMethod yX6_nextDue ∈ zW := zW_in 1107 (by decide +kernel) rfl
theorem zw_1108 : Cond.selects RX6 yX6_nextDue yX6_nextDue ∈ zW := zW_in 1108 (by decide +kernel) rfl
theorem zw_1109 : Cond.code yX6_nextDue cX6_nextDue 3 (some .int) ∈ zW := zW_in 1109 (by decide +kernel) rfl
theorem zw_1110 : Cond.methodLink RX6 47 yX8_placeOf ∈ zW := zW_in 1110 (by decide +kernel) rfl
theorem zw_1111 : Cond.static yX8_placeOf ∈ zW := zW_in 1111 (by decide +kernel) rfl
theorem zw_1112 : Cond.code yX8_placeOf cX8_placeOf 4 (some .int) ∈ zW := zW_in 1112 (by decide +kernel) rfl
theorem zw_1113 : Cond.methodLink RX10 342 yX1_hasRoomForError ∈ zW := zW_in 1113 (by decide +kernel) rfl
theorem zw_1114 : Cond.instanceMethod yX1_hasRoomForError ∈ zW := zW_in 1114 (by decide +kernel) rfl
theorem zw_1115 : Cond.selects RX1 yX1_hasRoomForError yX1_hasRoomForError ∈ zW := zW_in 1115 (by decide +kernel) rfl
theorem zw_1116 : Cond.code yX1_hasRoomForError cX1_hasRoomForError 4 (some .boolean) ∈ zW := zW_in 1116 (by decide +kernel) rfl
theorem zw_1117 : Cond.methodLink RX10 345 yX6_canWait ∈ zW := zW_in 1117 (by decide +kernel) rfl
theorem zw_1118 : Cond.instanceMethod yX6_canWait ∈ zW := zW_in 1118 (by decide +kernel) rfl
theorem zw_1119 : Cond.selects RX6 yX6_canWait yX6_canWait ∈ zW := zW_in 1119 (by decide +kernel) rfl
theorem zw_1120 : Cond.code yX6_canWait cX6_canWait 3 (some .boolean) ∈ zW := zW_in 1120 (by decide +kernel) rfl
theorem zw_1121 : Cond.constantLong RX6 60 2000000000 ∈ zW := zW_in 1121 (by decide +kernel) rfl
theorem zw_1123 : Cond.methodLink RX10 350 yX1_hearPull ∈ zW := zW_in 1123 (by decide +kernel) rfl
theorem zw_1124 : Cond.instanceMethod yX1_hearPull ∈ zW := zW_in 1124 (by decide +kernel) rfl
theorem zw_1125 : Cond.selects RX1 yX1_hearPull yX1_hearPull ∈ zW := zW_in 1125 (by decide +kernel) rfl
theorem zw_1126 : Cond.code yX1_hearPull cX1_hearPull 2 none ∈ zW := zW_in 1126 (by decide +kernel) rfl
theorem zw_1127 : Cond.methodLink RX1 30 yX1_strike ∈ zW := zW_in 1127 (by decide +kernel) rfl
theorem zw_1128 : Cond.methodLink RX10 354 yX6_quarterGap ∈ zW := zW_in 1128 (by decide +kernel) rfl
theorem zw_1129 : Cond.instanceMethod yX6_quarterGap ∈ zW := zW_in 1129 (by decide +kernel) rfl
theorem zw_1130 : Cond.selects RX6 yX6_quarterGap yX6_quarterGap ∈ zW := zW_in 1130 (by decide +kernel) rfl
theorem zw_1131 : Cond.code yX6_quarterGap cX6_quarterGap 1 (some .int) ∈ zW := zW_in 1131 (by decide +kernel) rfl
theorem zw_1132 : Cond.methodLink RX10 357 yX1_noteError ∈ zW := zW_in 1132 (by decide +kernel) rfl
theorem zw_1133 : Cond.instanceMethod yX1_noteError ∈ zW := zW_in 1133 (by decide +kernel) rfl
theorem zw_1134 : Cond.selects RX1 yX1_noteError yX1_noteError ∈ zW := zW_in 1134 (by decide +kernel) rfl
theorem zw_1135 : Cond.code yX1_noteError cX1_noteError 3 none ∈ zW := zW_in 1135 (by decide +kernel) rfl
theorem zw_1136 : Cond.methodLink RX10 360 yX6_waitFor ∈ zW := zW_in 1136 (by decide +kernel) rfl
theorem zw_1137 : Cond.instanceMethod yX6_waitFor ∈ zW := zW_in 1137 (by decide +kernel) rfl
theorem zw_1138 : Cond.selects RX6 yX6_waitFor yX6_waitFor ∈ zW := zW_in 1138 (by decide +kernel) rfl
theorem zw_1139 : Cond.code yX6_waitFor cX6_waitFor 3 none ∈ zW := zW_in 1139 (by decide +kernel) rfl
theorem zw_1167 : Cond.methodLink RX10 147 yX8_rounds ∈ zW := zW_in 1167 (by decide +kernel) rfl
theorem zw_1168 : Cond.methodLink RX10 150 yX4_lastRow ∈ zW := zW_in 1168 (by decide +kernel) rfl
theorem zw_1169 : Cond.instanceMethod yX4_lastRow ∈ zW := zW_in 1169 (by decide +kernel) rfl
theorem zw_1170 : Cond.selects RX4 yX4_lastRow yX4_lastRow ∈ zW := zW_in 1170 (by decide +kernel) rfl
theorem zw_1171 : Cond.code yX4_lastRow cX4_lastRow 5 (some .int) ∈ zW := zW_in 1171 (by decide +kernel) rfl
theorem zw_1172 : Cond.methodLink RX4 34 yX4_changeOf ∈ zW := zW_in 1172 (by decide +kernel) rfl
theorem zw_1173 : Cond.methodLink RX10 153 yX8_number ∈ zW := zW_in 1173 (by decide +kernel) rfl
theorem zw_1184 : Cond.methodLink RX10 156 yX4_leadsToRounds ∈ zW := zW_in 1184 (by decide +kernel) rfl
theorem zw_1185 : Cond.instanceMethod yX4_leadsToRounds ∈ zW := zW_in 1185 (by decide +kernel) rfl
theorem zw_1186 : Cond.selects RX4 yX4_leadsToRounds yX4_leadsToRounds ∈ zW := zW_in 1186 (by decide +kernel) rfl
theorem zw_1187 : Cond.code yX4_leadsToRounds cX4_leadsToRounds 4 (some .int) ∈ zW := zW_in 1187 (by decide +kernel) rfl
theorem zw_1188 : Cond.methodLink RX4 48 yX4_lastRow ∈ zW := zW_in 1188 (by decide +kernel) rfl
theorem zw_1196 : Cond.methodLink RX10 159 yX8_count ∈ zW := zW_in 1196 (by decide +kernel) rfl
theorem zw_1197 : Cond.static yX8_count ∈ zW := zW_in 1197 (by decide +kernel) rfl
theorem zw_1198 : Cond.code yX8_count cX8_count 3 (some .int) ∈ zW := zW_in 1198 (by decide +kernel) rfl
theorem zw_1199 : Cond.methodLink RX10 165 yX4_hasFalse ∈ zW := zW_in 1199 (by decide +kernel) rfl
theorem zw_1245 : Cond.methodLink RX10 227 yX9_rowAnew ∈ zW := zW_in 1245 (by decide +kernel) rfl
theorem zw_1246 : Cond.instanceMethod yX9_rowAnew ∈ zW := zW_in 1246 (by decide +kernel) rfl
theorem zw_1247 : Cond.selects RX9 yX9_rowAnew yX9_rowAnew ∈ zW := zW_in 1247 (by decide +kernel) rfl
theorem zw_1248 : Cond.code yX9_rowAnew cX9_rowAnew 7 (some .int) ∈ zW := zW_in 1248 (by decide +kernel) rfl
theorem zw_1249 : Cond.methodLink RX10 230 yX8_bellIn ∈ zW := zW_in 1249 (by decide +kernel) rfl
theorem zw_1320 : Cond.methodLink RX10 288 yX7_bandFor ∈ zW := zW_in 1320 (by decide +kernel) rfl
theorem zw_1381 : Cond.selects "[Ljava/lang/Object;" ⟨"java/lang/Object", "getClass", "()Ljava/lang/Class;"⟩ ⟨"java/lang/Object", "getClass", "()Ljava/lang/Class;"⟩ ∈ zW := zW_in 1381 (by decide +kernel) rfl
theorem zy_J15_checkIndex_7cf53 : yJ15_checkIndex_7cf53.cls ≠ "java/lang/invoke/MethodHandle" ∧ yJ15_checkIndex_7cf53.cls ≠ "java/lang/invoke/VarHandle" ∧ (parseMethodDescriptor yJ15_checkIndex_7cf53.desc).map (fun d => d.parameters.length) = some 2 := by decide +kernel
theorem zy_J3_checkIndex_8e157 : yJ3_checkIndex_8e157.cls ≠ "java/lang/invoke/MethodHandle" ∧ yJ3_checkIndex_8e157.cls ≠ "java/lang/invoke/VarHandle" ∧ (parseMethodDescriptor yJ3_checkIndex_8e157.desc).map (fun d => d.parameters.length) = some 3 := by decide +kernel
theorem zy_J6_bitCount_0f7a4 : yJ6_bitCount_0f7a4.cls ≠ "java/lang/invoke/MethodHandle" ∧ yJ6_bitCount_0f7a4.cls ≠ "java/lang/invoke/VarHandle" ∧ (parseMethodDescriptor yJ6_bitCount_0f7a4.desc).map (fun d => d.parameters.length) = some 1 := by decide +kernel
theorem zy_J7_copyOf_1904c : yJ7_copyOf_1904c.cls ≠ "java/lang/invoke/MethodHandle" ∧ yJ7_copyOf_1904c.cls ≠ "java/lang/invoke/VarHandle" ∧ (parseMethodDescriptor yJ7_copyOf_1904c.desc).map (fun d => d.parameters.length) = some 2 := by decide +kernel
theorem zy_J7_copyOf_6403c : yJ7_copyOf_6403c.cls ≠ "java/lang/invoke/MethodHandle" ∧ yJ7_copyOf_6403c.cls ≠ "java/lang/invoke/VarHandle" ∧ (parseMethodDescriptor yJ7_copyOf_6403c.desc).map (fun d => d.parameters.length) = some 3 := by decide +kernel
theorem zy_J8_newLength_cabcc : yJ8_newLength_cabcc.cls ≠ "java/lang/invoke/MethodHandle" ∧ yJ8_newLength_cabcc.cls ≠ "java/lang/invoke/VarHandle" ∧ (parseMethodDescriptor yJ8_newLength_cabcc.desc).map (fun d => d.parameters.length) = some 3 := by decide +kernel
theorem zy_Jx4a65c_add_72be8 : yJx4a65c_add_72be8.cls ≠ "java/lang/invoke/MethodHandle" ∧ yJx4a65c_add_72be8.cls ≠ "java/lang/invoke/VarHandle" ∧ (parseMethodDescriptor yJx4a65c_add_72be8.desc).map (fun d => d.parameters.length) = some 3 := by decide +kernel
theorem zy_Jx4a65c_add_9ea2d : yJx4a65c_add_9ea2d.cls ≠ "java/lang/invoke/MethodHandle" ∧ yJx4a65c_add_9ea2d.cls ≠ "java/lang/invoke/VarHandle" ∧ (parseMethodDescriptor yJx4a65c_add_9ea2d.desc).map (fun d => d.parameters.length) = some 1 := by decide +kernel
theorem zy_Jx4a65c_clear_da8c8 : yJx4a65c_clear_da8c8.cls ≠ "java/lang/invoke/MethodHandle" ∧ yJx4a65c_clear_da8c8.cls ≠ "java/lang/invoke/VarHandle" ∧ (parseMethodDescriptor yJx4a65c_clear_da8c8.desc).map (fun d => d.parameters.length) = some 0 := by decide +kernel
theorem zy_Jx4a65c_elementData_915e3 : yJx4a65c_elementData_915e3.cls ≠ "java/lang/invoke/MethodHandle" ∧ yJx4a65c_elementData_915e3.cls ≠ "java/lang/invoke/VarHandle" ∧ (parseMethodDescriptor yJx4a65c_elementData_915e3.desc).map (fun d => d.parameters.length) = some 1 := by decide +kernel
theorem zy_Jx4a65c_fastRemove_b59b0 : yJx4a65c_fastRemove_b59b0.cls ≠ "java/lang/invoke/MethodHandle" ∧ yJx4a65c_fastRemove_b59b0.cls ≠ "java/lang/invoke/VarHandle" ∧ (parseMethodDescriptor yJx4a65c_fastRemove_b59b0.desc).map (fun d => d.parameters.length) = some 2 := by decide +kernel
theorem zy_Jx4a65c_get_915e3 : yJx4a65c_get_915e3.cls ≠ "java/lang/invoke/MethodHandle" ∧ yJx4a65c_get_915e3.cls ≠ "java/lang/invoke/VarHandle" ∧ (parseMethodDescriptor yJx4a65c_get_915e3.desc).map (fun d => d.parameters.length) = some 1 := by decide +kernel
theorem zy_Jx4a65c_grow_92f84 : yJx4a65c_grow_92f84.cls ≠ "java/lang/invoke/MethodHandle" ∧ yJx4a65c_grow_92f84.cls ≠ "java/lang/invoke/VarHandle" ∧ (parseMethodDescriptor yJx4a65c_grow_92f84.desc).map (fun d => d.parameters.length) = some 1 := by decide +kernel
theorem zy_Jx4a65c_grow_d5877 : yJx4a65c_grow_d5877.cls ≠ "java/lang/invoke/MethodHandle" ∧ yJx4a65c_grow_d5877.cls ≠ "java/lang/invoke/VarHandle" ∧ (parseMethodDescriptor yJx4a65c_grow_d5877.desc).map (fun d => d.parameters.length) = some 0 := by decide +kernel
theorem zy_Jx4a65c_init_da8c8 : yJx4a65c_init_da8c8.cls ≠ "java/lang/invoke/MethodHandle" ∧ yJx4a65c_init_da8c8.cls ≠ "java/lang/invoke/VarHandle" ∧ (parseMethodDescriptor yJx4a65c_init_da8c8.desc).map (fun d => d.parameters.length) = some 0 := by decide +kernel
theorem zy_Jx4a65c_isEmpty_aae02 : yJx4a65c_isEmpty_aae02.cls ≠ "java/lang/invoke/MethodHandle" ∧ yJx4a65c_isEmpty_aae02.cls ≠ "java/lang/invoke/VarHandle" ∧ (parseMethodDescriptor yJx4a65c_isEmpty_aae02.desc).map (fun d => d.parameters.length) = some 0 := by decide +kernel
theorem zy_Jx4a65c_remove_915e3 : yJx4a65c_remove_915e3.cls ≠ "java/lang/invoke/MethodHandle" ∧ yJx4a65c_remove_915e3.cls ≠ "java/lang/invoke/VarHandle" ∧ (parseMethodDescriptor yJx4a65c_remove_915e3.desc).map (fun d => d.parameters.length) = some 1 := by decide +kernel
theorem zy_Jx4a65c_size_8abf5 : yJx4a65c_size_8abf5.cls ≠ "java/lang/invoke/MethodHandle" ∧ yJx4a65c_size_8abf5.cls ≠ "java/lang/invoke/VarHandle" ∧ (parseMethodDescriptor yJx4a65c_size_8abf5.desc).map (fun d => d.parameters.length) = some 0 := by decide +kernel
theorem zy_Jxa1e45_init_da8c8 : yJxa1e45_init_da8c8.cls ≠ "java/lang/invoke/MethodHandle" ∧ yJxa1e45_init_da8c8.cls ≠ "java/lang/invoke/VarHandle" ∧ (parseMethodDescriptor yJxa1e45_init_da8c8.desc).map (fun d => d.parameters.length) = some 0 := by decide +kernel
theorem zy_Jxc12de_init_da8c8 : yJxc12de_init_da8c8.cls ≠ "java/lang/invoke/MethodHandle" ∧ yJxc12de_init_da8c8.cls ≠ "java/lang/invoke/VarHandle" ∧ (parseMethodDescriptor yJxc12de_init_da8c8.desc).map (fun d => d.parameters.length) = some 0 := by decide +kernel
theorem zy_X0_bellsOut : yX0_bellsOut.cls ≠ "java/lang/invoke/MethodHandle" ∧ yX0_bellsOut.cls ≠ "java/lang/invoke/VarHandle" ∧ (parseMethodDescriptor yX0_bellsOut.desc).map (fun d => d.parameters.length) = some 0 := by decide +kernel
theorem zy_X0_forgetPulls : yX0_forgetPulls.cls ≠ "java/lang/invoke/MethodHandle" ∧ yX0_forgetPulls.cls ≠ "java/lang/invoke/VarHandle" ∧ (parseMethodDescriptor yX0_forgetPulls.desc).map (fun d => d.parameters.length) = some 0 := by decide +kernel
theorem zy_X0_init : yX0_init.cls ≠ "java/lang/invoke/MethodHandle" ∧ yX0_init.cls ≠ "java/lang/invoke/VarHandle" ∧ (parseMethodDescriptor yX0_init.desc).map (fun d => d.parameters.length) = some 0 := by decide +kernel
theorem zy_X0_noteWornOut : yX0_noteWornOut.cls ≠ "java/lang/invoke/MethodHandle" ∧ yX0_noteWornOut.cls ≠ "java/lang/invoke/VarHandle" ∧ (parseMethodDescriptor yX0_noteWornOut.desc).map (fun d => d.parameters.length) = some 0 := by decide +kernel
theorem zy_X10_bellNumbered : yX10_bellNumbered.cls ≠ "java/lang/invoke/MethodHandle" ∧ yX10_bellNumbered.cls ≠ "java/lang/invoke/VarHandle" ∧ (parseMethodDescriptor yX10_bellNumbered.desc).map (fun d => d.parameters.length) = some 1 := by decide +kernel
theorem zy_X10_countAsRung : yX10_countAsRung.cls ≠ "java/lang/invoke/MethodHandle" ∧ yX10_countAsRung.cls ≠ "java/lang/invoke/VarHandle" ∧ (parseMethodDescriptor yX10_countAsRung.desc).map (fun d => d.parameters.length) = some 1 := by decide +kernel
theorem zy_X10_dayAt : yX10_dayAt.cls ≠ "java/lang/invoke/MethodHandle" ∧ yX10_dayAt.cls ≠ "java/lang/invoke/VarHandle" ∧ (parseMethodDescriptor yX10_dayAt.desc).map (fun d => d.parameters.length) = some 1 := by decide +kernel
theorem zy_X10_doReadyRows : yX10_doReadyRows.cls ≠ "java/lang/invoke/MethodHandle" ∧ yX10_doReadyRows.cls ≠ "java/lang/invoke/VarHandle" ∧ (parseMethodDescriptor yX10_doReadyRows.desc).map (fun d => d.parameters.length) = some 0 := by decide +kernel
theorem zy_X10_endRinging : yX10_endRinging.cls ≠ "java/lang/invoke/MethodHandle" ∧ yX10_endRinging.cls ≠ "java/lang/invoke/VarHandle" ∧ (parseMethodDescriptor yX10_endRinging.desc).map (fun d => d.parameters.length) = some 0 := by decide +kernel
theorem zy_X10_isDraftOf : yX10_isDraftOf.cls ≠ "java/lang/invoke/MethodHandle" ∧ yX10_isDraftOf.cls ≠ "java/lang/invoke/VarHandle" ∧ (parseMethodDescriptor yX10_isDraftOf.desc).map (fun d => d.parameters.length) = some 1 := by decide +kernel
theorem zy_X10_keepTouch : yX10_keepTouch.cls ≠ "java/lang/invoke/MethodHandle" ∧ yX10_keepTouch.cls ≠ "java/lang/invoke/VarHandle" ∧ (parseMethodDescriptor yX10_keepTouch.desc).map (fun d => d.parameters.length) = some 1 := by decide +kernel
theorem zy_X10_methodAt : yX10_methodAt.cls ≠ "java/lang/invoke/MethodHandle" ∧ yX10_methodAt.cls ≠ "java/lang/invoke/VarHandle" ∧ (parseMethodDescriptor yX10_methodAt.desc).map (fun d => d.parameters.length) = some 1 := by decide +kernel
theorem zy_X10_requireIndex : yX10_requireIndex.cls ≠ "java/lang/invoke/MethodHandle" ∧ yX10_requireIndex.cls ≠ "java/lang/invoke/VarHandle" ∧ (parseMethodDescriptor yX10_requireIndex.desc).map (fun d => d.parameters.length) = some 2 := by decide +kernel
theorem zy_X10_requireRange : yX10_requireRange.cls ≠ "java/lang/invoke/MethodHandle" ∧ yX10_requireRange.cls ≠ "java/lang/invoke/VarHandle" ∧ (parseMethodDescriptor yX10_requireRange.desc).map (fun d => d.parameters.length) = some 3 := by decide +kernel
theorem zy_X10_requireRoomForTouch : yX10_requireRoomForTouch.cls ≠ "java/lang/invoke/MethodHandle" ∧ yX10_requireRoomForTouch.cls ≠ "java/lang/invoke/VarHandle" ∧ (parseMethodDescriptor yX10_requireRoomForTouch.desc).map (fun d => d.parameters.length) = some 0 := by decide +kernel
theorem zy_X10_requireSilence : yX10_requireSilence.cls ≠ "java/lang/invoke/MethodHandle" ∧ yX10_requireSilence.cls ≠ "java/lang/invoke/VarHandle" ∧ (parseMethodDescriptor yX10_requireSilence.desc).map (fun d => d.parameters.length) = some 0 := by decide +kernel
theorem zy_X10_rewriteTouches : yX10_rewriteTouches.cls ≠ "java/lang/invoke/MethodHandle" ∧ yX10_rewriteTouches.cls ≠ "java/lang/invoke/VarHandle" ∧ (parseMethodDescriptor yX10_rewriteTouches.desc).map (fun d => d.parameters.length) = some 0 := by decide +kernel
theorem zy_X10_ringingThatAwaits : yX10_ringingThatAwaits.cls ≠ "java/lang/invoke/MethodHandle" ∧ yX10_ringingThatAwaits.cls ≠ "java/lang/invoke/VarHandle" ∧ (parseMethodDescriptor yX10_ringingThatAwaits.desc).map (fun d => d.parameters.length) = some 1 := by decide +kernel
theorem zy_X10_touchAt : yX10_touchAt.cls ≠ "java/lang/invoke/MethodHandle" ∧ yX10_touchAt.cls ≠ "java/lang/invoke/VarHandle" ∧ (parseMethodDescriptor yX10_touchAt.desc).map (fun d => d.parameters.length) = some 1 := by decide +kernel
theorem zy_X1_hasRoomForError : yX1_hasRoomForError.cls ≠ "java/lang/invoke/MethodHandle" ∧ yX1_hasRoomForError.cls ≠ "java/lang/invoke/VarHandle" ∧ (parseMethodDescriptor yX1_hasRoomForError.desc).map (fun d => d.parameters.length) = some 1 := by decide +kernel
theorem zy_X1_hearPull : yX1_hearPull.cls ≠ "java/lang/invoke/MethodHandle" ∧ yX1_hearPull.cls ≠ "java/lang/invoke/VarHandle" ∧ (parseMethodDescriptor yX1_hearPull.desc).map (fun d => d.parameters.length) = some 1 := by decide +kernel
theorem zy_X1_init : yX1_init.cls ≠ "java/lang/invoke/MethodHandle" ∧ yX1_init.cls ≠ "java/lang/invoke/VarHandle" ∧ (parseMethodDescriptor yX1_init.desc).map (fun d => d.parameters.length) = some 0 := by decide +kernel
theorem zy_X1_isUsable : yX1_isUsable.cls ≠ "java/lang/invoke/MethodHandle" ∧ yX1_isUsable.cls ≠ "java/lang/invoke/VarHandle" ∧ (parseMethodDescriptor yX1_isUsable.desc).map (fun d => d.parameters.length) = some 0 := by decide +kernel
theorem zy_X1_noteError : yX1_noteError.cls ≠ "java/lang/invoke/MethodHandle" ∧ yX1_noteError.cls ≠ "java/lang/invoke/VarHandle" ∧ (parseMethodDescriptor yX1_noteError.desc).map (fun d => d.parameters.length) = some 2 := by decide +kernel
theorem zy_X1_noteWornOut : yX1_noteWornOut.cls ≠ "java/lang/invoke/MethodHandle" ∧ yX1_noteWornOut.cls ≠ "java/lang/invoke/VarHandle" ∧ (parseMethodDescriptor yX1_noteWornOut.desc).map (fun d => d.parameters.length) = some 0 := by decide +kernel
theorem zy_X1_pullTime : yX1_pullTime.cls ≠ "java/lang/invoke/MethodHandle" ∧ yX1_pullTime.cls ≠ "java/lang/invoke/VarHandle" ∧ (parseMethodDescriptor yX1_pullTime.desc).map (fun d => d.parameters.length) = some 1 := by decide +kernel
theorem zy_X1_renew : yX1_renew.cls ≠ "java/lang/invoke/MethodHandle" ∧ yX1_renew.cls ≠ "java/lang/invoke/VarHandle" ∧ (parseMethodDescriptor yX1_renew.desc).map (fun d => d.parameters.length) = some 1 := by decide +kernel
theorem zy_X1_strike : yX1_strike.cls ≠ "java/lang/invoke/MethodHandle" ∧ yX1_strike.cls ≠ "java/lang/invoke/VarHandle" ∧ (parseMethodDescriptor yX1_strike.desc).map (fun d => d.parameters.length) = some 1 := by decide +kernel
theorem zy_X2_callNext : yX2_callNext.cls ≠ "java/lang/invoke/MethodHandle" ∧ yX2_callNext.cls ≠ "java/lang/invoke/VarHandle" ∧ (parseMethodDescriptor yX2_callNext.desc).map (fun d => d.parameters.length) = some 2 := by decide +kernel
theorem zy_X2_handOutTrial : yX2_handOutTrial.cls ≠ "java/lang/invoke/MethodHandle" ∧ yX2_handOutTrial.cls ≠ "java/lang/invoke/VarHandle" ∧ (parseMethodDescriptor yX2_handOutTrial.desc).map (fun d => d.parameters.length) = some 0 := by decide +kernel
theorem zy_X2_init : yX2_init.cls ≠ "java/lang/invoke/MethodHandle" ∧ yX2_init.cls ≠ "java/lang/invoke/VarHandle" ∧ (parseMethodDescriptor yX2_init.desc).map (fun d => d.parameters.length) = some 1 := by decide +kernel
theorem zy_X2_soundTouch : yX2_soundTouch.cls ≠ "java/lang/invoke/MethodHandle" ∧ yX2_soundTouch.cls ≠ "java/lang/invoke/VarHandle" ∧ (parseMethodDescriptor yX2_soundTouch.desc).map (fun d => d.parameters.length) = some 2 := by decide +kernel
theorem zy_X3_dropUnfit : yX3_dropUnfit.cls ≠ "java/lang/invoke/MethodHandle" ∧ yX3_dropUnfit.cls ≠ "java/lang/invoke/VarHandle" ∧ (parseMethodDescriptor yX3_dropUnfit.desc).map (fun d => d.parameters.length) = some 1 := by decide +kernel
theorem zy_X3_greatestStage : yX3_greatestStage.cls ≠ "java/lang/invoke/MethodHandle" ∧ yX3_greatestStage.cls ≠ "java/lang/invoke/VarHandle" ∧ (parseMethodDescriptor yX3_greatestStage.desc).map (fun d => d.parameters.length) = some 0 := by decide +kernel
theorem zy_X3_hasTouch : yX3_hasTouch.cls ≠ "java/lang/invoke/MethodHandle" ∧ yX3_hasTouch.cls ≠ "java/lang/invoke/VarHandle" ∧ (parseMethodDescriptor yX3_hasTouch.desc).map (fun d => d.parameters.length) = some 1 := by decide +kernel
theorem zy_X3_init : yX3_init.cls ≠ "java/lang/invoke/MethodHandle" ∧ yX3_init.cls ≠ "java/lang/invoke/VarHandle" ∧ (parseMethodDescriptor yX3_init.desc).map (fun d => d.parameters.length) = some 0 := by decide +kernel
theorem zy_X3_takeAway : yX3_takeAway.cls ≠ "java/lang/invoke/MethodHandle" ∧ yX3_takeAway.cls ≠ "java/lang/invoke/VarHandle" ∧ (parseMethodDescriptor yX3_takeAway.desc).map (fun d => d.parameters.length) = some 1 := by decide +kernel
theorem zy_X3_takesTouch : yX3_takesTouch.cls ≠ "java/lang/invoke/MethodHandle" ∧ yX3_takesTouch.cls ≠ "java/lang/invoke/VarHandle" ∧ (parseMethodDescriptor yX3_takesTouch.desc).map (fun d => d.parameters.length) = some 1 := by decide +kernel
theorem zy_X4_changeOf : yX4_changeOf.cls ≠ "java/lang/invoke/MethodHandle" ∧ yX4_changeOf.cls ≠ "java/lang/invoke/VarHandle" ∧ (parseMethodDescriptor yX4_changeOf.desc).map (fun d => d.parameters.length) = some 2 := by decide +kernel
theorem zy_X4_gatherFalseRows : yX4_gatherFalseRows.cls ≠ "java/lang/invoke/MethodHandle" ∧ yX4_gatherFalseRows.cls ≠ "java/lang/invoke/VarHandle" ∧ (parseMethodDescriptor yX4_gatherFalseRows.desc).map (fun d => d.parameters.length) = some 0 := by decide +kernel
theorem zy_X4_hasFalse : yX4_hasFalse.cls ≠ "java/lang/invoke/MethodHandle" ∧ yX4_hasFalse.cls ≠ "java/lang/invoke/VarHandle" ∧ (parseMethodDescriptor yX4_hasFalse.desc).map (fun d => d.parameters.length) = some 1 := by decide +kernel
theorem zy_X4_init : yX4_init.cls ≠ "java/lang/invoke/MethodHandle" ∧ yX4_init.cls ≠ "java/lang/invoke/VarHandle" ∧ (parseMethodDescriptor yX4_init.desc).map (fun d => d.parameters.length) = some 4 := by decide +kernel
theorem zy_X4_isLikeLesserCall : yX4_isLikeLesserCall.cls ≠ "java/lang/invoke/MethodHandle" ∧ yX4_isLikeLesserCall.cls ≠ "java/lang/invoke/VarHandle" ∧ (parseMethodDescriptor yX4_isLikeLesserCall.desc).map (fun d => d.parameters.length) = some 1 := by decide +kernel
theorem zy_X4_lastRow : yX4_lastRow.cls ≠ "java/lang/invoke/MethodHandle" ∧ yX4_lastRow.cls ≠ "java/lang/invoke/VarHandle" ∧ (parseMethodDescriptor yX4_lastRow.desc).map (fun d => d.parameters.length) = some 2 := by decide +kernel
theorem zy_X4_leadsToRounds : yX4_leadsToRounds.cls ≠ "java/lang/invoke/MethodHandle" ∧ yX4_leadsToRounds.cls ≠ "java/lang/invoke/VarHandle" ∧ (parseMethodDescriptor yX4_leadsToRounds.desc).map (fun d => d.parameters.length) = some 0 := by decide +kernel
theorem zy_X4_nextUnlikeCall : yX4_nextUnlikeCall.cls ≠ "java/lang/invoke/MethodHandle" ∧ yX4_nextUnlikeCall.cls ≠ "java/lang/invoke/VarHandle" ∧ (parseMethodDescriptor yX4_nextUnlikeCall.desc).map (fun d => d.parameters.length) = some 1 := by decide +kernel
theorem zy_X4_noteFalse : yX4_noteFalse.cls ≠ "java/lang/invoke/MethodHandle" ∧ yX4_noteFalse.cls ≠ "java/lang/invoke/VarHandle" ∧ (parseMethodDescriptor yX4_noteFalse.desc).map (fun d => d.parameters.length) = some 1 := by decide +kernel
theorem zy_X4_setLastChange : yX4_setLastChange.cls ≠ "java/lang/invoke/MethodHandle" ∧ yX4_setLastChange.cls ≠ "java/lang/invoke/VarHandle" ∧ (parseMethodDescriptor yX4_setLastChange.desc).map (fun d => d.parameters.length) = some 2 := by decide +kernel
theorem zy_X5_init : yX5_init.cls ≠ "java/lang/invoke/MethodHandle" ∧ yX5_init.cls ≠ "java/lang/invoke/VarHandle" ∧ (parseMethodDescriptor yX5_init.desc).map (fun d => d.parameters.length) = some 0 := by decide +kernel
theorem zy_X5_isRepeat : yX5_isRepeat.cls ≠ "java/lang/invoke/MethodHandle" ∧ yX5_isRepeat.cls ≠ "java/lang/invoke/VarHandle" ∧ (parseMethodDescriptor yX5_isRepeat.desc).map (fun d => d.parameters.length) = some 3 := by decide +kernel
theorem zy_X6_areAllRowsDone : yX6_areAllRowsDone.cls ≠ "java/lang/invoke/MethodHandle" ∧ yX6_areAllRowsDone.cls ≠ "java/lang/invoke/VarHandle" ∧ (parseMethodDescriptor yX6_areAllRowsDone.desc).map (fun d => d.parameters.length) = some 0 := by decide +kernel
theorem zy_X6_awaitsPull : yX6_awaitsPull.cls ≠ "java/lang/invoke/MethodHandle" ∧ yX6_awaitsPull.cls ≠ "java/lang/invoke/VarHandle" ∧ (parseMethodDescriptor yX6_awaitsPull.desc).map (fun d => d.parameters.length) = some 1 := by decide +kernel
theorem zy_X6_canWait : yX6_canWait.cls ≠ "java/lang/invoke/MethodHandle" ∧ yX6_canWait.cls ≠ "java/lang/invoke/VarHandle" ∧ (parseMethodDescriptor yX6_canWait.desc).map (fun d => d.parameters.length) = some 2 := by decide +kernel
theorem zy_X6_doNextRow : yX6_doNextRow.cls ≠ "java/lang/invoke/MethodHandle" ∧ yX6_doNextRow.cls ≠ "java/lang/invoke/VarHandle" ∧ (parseMethodDescriptor yX6_doNextRow.desc).map (fun d => d.parameters.length) = some 0 := by decide +kernel
theorem zy_X6_dueAt : yX6_dueAt.cls ≠ "java/lang/invoke/MethodHandle" ∧ yX6_dueAt.cls ≠ "java/lang/invoke/VarHandle" ∧ (parseMethodDescriptor yX6_dueAt.desc).map (fun d => d.parameters.length) = some 2 := by decide +kernel
theorem zy_X6_init : yX6_init.cls ≠ "java/lang/invoke/MethodHandle" ∧ yX6_init.cls ≠ "java/lang/invoke/VarHandle" ∧ (parseMethodDescriptor yX6_init.desc).map (fun d => d.parameters.length) = some 4 := by decide +kernel
theorem zy_X6_isByPeople : yX6_isByPeople.cls ≠ "java/lang/invoke/MethodHandle" ∧ yX6_isByPeople.cls ≠ "java/lang/invoke/VarHandle" ∧ (parseMethodDescriptor yX6_isByPeople.desc).map (fun d => d.parameters.length) = some 1 := by decide +kernel
theorem zy_X6_isNextRowReady : yX6_isNextRowReady.cls ≠ "java/lang/invoke/MethodHandle" ∧ yX6_isNextRowReady.cls ≠ "java/lang/invoke/VarHandle" ∧ (parseMethodDescriptor yX6_isNextRowReady.desc).map (fun d => d.parameters.length) = some 0 := by decide +kernel
theorem zy_X6_nextDue : yX6_nextDue.cls ≠ "java/lang/invoke/MethodHandle" ∧ yX6_nextDue.cls ≠ "java/lang/invoke/VarHandle" ∧ (parseMethodDescriptor yX6_nextDue.desc).map (fun d => d.parameters.length) = some 1 := by decide +kernel
theorem zy_X6_quarterGap : yX6_quarterGap.cls ≠ "java/lang/invoke/MethodHandle" ∧ yX6_quarterGap.cls ≠ "java/lang/invoke/VarHandle" ∧ (parseMethodDescriptor yX6_quarterGap.desc).map (fun d => d.parameters.length) = some 0 := by decide +kernel
theorem zy_X6_timeOfBlow : yX6_timeOfBlow.cls ≠ "java/lang/invoke/MethodHandle" ∧ yX6_timeOfBlow.cls ≠ "java/lang/invoke/VarHandle" ∧ (parseMethodDescriptor yX6_timeOfBlow.desc).map (fun d => d.parameters.length) = some 1 := by decide +kernel
theorem zy_X6_waitFor : yX6_waitFor.cls ≠ "java/lang/invoke/MethodHandle" ∧ yX6_waitFor.cls ≠ "java/lang/invoke/VarHandle" ∧ (parseMethodDescriptor yX6_waitFor.desc).map (fun d => d.parameters.length) = some 2 := by decide +kernel
theorem zy_X7_bandFor : yX7_bandFor.cls ≠ "java/lang/invoke/MethodHandle" ∧ yX7_bandFor.cls ≠ "java/lang/invoke/VarHandle" ∧ (parseMethodDescriptor yX7_bandFor.desc).map (fun d => d.parameters.length) = some 1 := by decide +kernel
theorem zy_X7_canRingToday : yX7_canRingToday.cls ≠ "java/lang/invoke/MethodHandle" ∧ yX7_canRingToday.cls ≠ "java/lang/invoke/VarHandle" ∧ (parseMethodDescriptor yX7_canRingToday.desc).map (fun d => d.parameters.length) = some 1 := by decide +kernel
theorem zy_X7_dropUnfit : yX7_dropUnfit.cls ≠ "java/lang/invoke/MethodHandle" ∧ yX7_dropUnfit.cls ≠ "java/lang/invoke/VarHandle" ∧ (parseMethodDescriptor yX7_dropUnfit.desc).map (fun d => d.parameters.length) = some 1 := by decide +kernel
theorem zy_X7_endDay : yX7_endDay.cls ≠ "java/lang/invoke/MethodHandle" ∧ yX7_endDay.cls ≠ "java/lang/invoke/VarHandle" ∧ (parseMethodDescriptor yX7_endDay.desc).map (fun d => d.parameters.length) = some 0 := by decide +kernel
theorem zy_X7_firstBand : yX7_firstBand.cls ≠ "java/lang/invoke/MethodHandle" ∧ yX7_firstBand.cls ≠ "java/lang/invoke/VarHandle" ∧ (parseMethodDescriptor yX7_firstBand.desc).map (fun d => d.parameters.length) = some 2 := by decide +kernel
theorem zy_X7_init : yX7_init.cls ≠ "java/lang/invoke/MethodHandle" ∧ yX7_init.cls ≠ "java/lang/invoke/VarHandle" ∧ (parseMethodDescriptor yX7_init.desc).map (fun d => d.parameters.length) = some 0 := by decide +kernel
theorem zy_X7_keepBandOfToday : yX7_keepBandOfToday.cls ≠ "java/lang/invoke/MethodHandle" ∧ yX7_keepBandOfToday.cls ≠ "java/lang/invoke/VarHandle" ∧ (parseMethodDescriptor yX7_keepBandOfToday.desc).map (fun d => d.parameters.length) = some 0 := by decide +kernel
theorem zy_X7_takeFromToday : yX7_takeFromToday.cls ≠ "java/lang/invoke/MethodHandle" ∧ yX7_takeFromToday.cls ≠ "java/lang/invoke/VarHandle" ∧ (parseMethodDescriptor yX7_takeFromToday.desc).map (fun d => d.parameters.length) = some 1 := by decide +kernel
theorem zy_X7_turnBehind : yX7_turnBehind.cls ≠ "java/lang/invoke/MethodHandle" ∧ yX7_turnBehind.cls ≠ "java/lang/invoke/VarHandle" ∧ (parseMethodDescriptor yX7_turnBehind.desc).map (fun d => d.parameters.length) = some 2 := by decide +kernel
theorem zy_X8_afterChange : yX8_afterChange.cls ≠ "java/lang/invoke/MethodHandle" ∧ yX8_afterChange.cls ≠ "java/lang/invoke/VarHandle" ∧ (parseMethodDescriptor yX8_afterChange.desc).map (fun d => d.parameters.length) = some 3 := by decide +kernel
theorem zy_X8_bellIn : yX8_bellIn.cls ≠ "java/lang/invoke/MethodHandle" ∧ yX8_bellIn.cls ≠ "java/lang/invoke/VarHandle" ∧ (parseMethodDescriptor yX8_bellIn.desc).map (fun d => d.parameters.length) = some 2 := by decide +kernel
theorem zy_X8_count : yX8_count.cls ≠ "java/lang/invoke/MethodHandle" ∧ yX8_count.cls ≠ "java/lang/invoke/VarHandle" ∧ (parseMethodDescriptor yX8_count.desc).map (fun d => d.parameters.length) = some 1 := by decide +kernel
theorem zy_X8_isChange : yX8_isChange.cls ≠ "java/lang/invoke/MethodHandle" ∧ yX8_isChange.cls ≠ "java/lang/invoke/VarHandle" ∧ (parseMethodDescriptor yX8_isChange.desc).map (fun d => d.parameters.length) = some 2 := by decide +kernel
theorem zy_X8_isMade : yX8_isMade.cls ≠ "java/lang/invoke/MethodHandle" ∧ yX8_isMade.cls ≠ "java/lang/invoke/VarHandle" ∧ (parseMethodDescriptor yX8_isMade.desc).map (fun d => d.parameters.length) = some 2 := by decide +kernel
theorem zy_X8_number : yX8_number.cls ≠ "java/lang/invoke/MethodHandle" ∧ yX8_number.cls ≠ "java/lang/invoke/VarHandle" ∧ (parseMethodDescriptor yX8_number.desc).map (fun d => d.parameters.length) = some 2 := by decide +kernel
theorem zy_X8_originOf : yX8_originOf.cls ≠ "java/lang/invoke/MethodHandle" ∧ yX8_originOf.cls ≠ "java/lang/invoke/VarHandle" ∧ (parseMethodDescriptor yX8_originOf.desc).map (fun d => d.parameters.length) = some 3 := by decide +kernel
theorem zy_X8_placeOf : yX8_placeOf.cls ≠ "java/lang/invoke/MethodHandle" ∧ yX8_placeOf.cls ≠ "java/lang/invoke/VarHandle" ∧ (parseMethodDescriptor yX8_placeOf.desc).map (fun d => d.parameters.length) = some 3 := by decide +kernel
theorem zy_X8_rounds : yX8_rounds.cls ≠ "java/lang/invoke/MethodHandle" ∧ yX8_rounds.cls ≠ "java/lang/invoke/VarHandle" ∧ (parseMethodDescriptor yX8_rounds.desc).map (fun d => d.parameters.length) = some 1 := by decide +kernel
theorem zy_X8_swapped : yX8_swapped.cls ≠ "java/lang/invoke/MethodHandle" ∧ yX8_swapped.cls ≠ "java/lang/invoke/VarHandle" ∧ (parseMethodDescriptor yX8_swapped.desc).map (fun d => d.parameters.length) = some 2 := by decide +kernel
theorem zy_X9_addLead : yX9_addLead.cls ≠ "java/lang/invoke/MethodHandle" ∧ yX9_addLead.cls ≠ "java/lang/invoke/VarHandle" ∧ (parseMethodDescriptor yX9_addLead.desc).map (fun d => d.parameters.length) = some 2 := by decide +kernel
theorem zy_X9_clear : yX9_clear.cls ≠ "java/lang/invoke/MethodHandle" ∧ yX9_clear.cls ≠ "java/lang/invoke/VarHandle" ∧ (parseMethodDescriptor yX9_clear.desc).map (fun d => d.parameters.length) = some 0 := by decide +kernel
theorem zy_X9_init : yX9_init.cls ≠ "java/lang/invoke/MethodHandle" ∧ yX9_init.cls ≠ "java/lang/invoke/VarHandle" ∧ (parseMethodDescriptor yX9_init.desc).map (fun d => d.parameters.length) = some 0 := by decide +kernel
theorem zy_X9_isFit : yX9_isFit.cls ≠ "java/lang/invoke/MethodHandle" ∧ yX9_isFit.cls ≠ "java/lang/invoke/VarHandle" ∧ (parseMethodDescriptor yX9_isFit.desc).map (fun d => d.parameters.length) = some 1 := by decide +kernel
theorem zy_X9_isSound : yX9_isSound.cls ≠ "java/lang/invoke/MethodHandle" ∧ yX9_isSound.cls ≠ "java/lang/invoke/VarHandle" ∧ (parseMethodDescriptor yX9_isSound.desc).map (fun d => d.parameters.length) = some 0 := by decide +kernel
theorem zy_X9_lastRow : yX9_lastRow.cls ≠ "java/lang/invoke/MethodHandle" ∧ yX9_lastRow.cls ≠ "java/lang/invoke/VarHandle" ∧ (parseMethodDescriptor yX9_lastRow.desc).map (fun d => d.parameters.length) = some 0 := by decide +kernel
theorem zy_X9_leadCount : yX9_leadCount.cls ≠ "java/lang/invoke/MethodHandle" ∧ yX9_leadCount.cls ≠ "java/lang/invoke/VarHandle" ∧ (parseMethodDescriptor yX9_leadCount.desc).map (fun d => d.parameters.length) = some 0 := by decide +kernel
theorem zy_X9_rowAnew : yX9_rowAnew.cls ≠ "java/lang/invoke/MethodHandle" ∧ yX9_rowAnew.cls ≠ "java/lang/invoke/VarHandle" ∧ (parseMethodDescriptor yX9_rowAnew.desc).map (fun d => d.parameters.length) = some 1 := by decide +kernel
theorem zy_X9_takesLead : yX9_takesLead.cls ≠ "java/lang/invoke/MethodHandle" ∧ yX9_takesLead.cls ≠ "java/lang/invoke/VarHandle" ∧ (parseMethodDescriptor yX9_takesLead.desc).map (fun d => d.parameters.length) = some 1 := by decide +kernel
theorem zy_X9_writeFrom : yX9_writeFrom.cls ≠ "java/lang/invoke/MethodHandle" ∧ yX9_writeFrom.cls ≠ "java/lang/invoke/VarHandle" ∧ (parseMethodDescriptor yX9_writeFrom.desc).map (fun d => d.parameters.length) = some 2 := by decide +kernel
theorem zy_X9_writeLead : yX9_writeLead.cls ≠ "java/lang/invoke/MethodHandle" ∧ yX9_writeLead.cls ≠ "java/lang/invoke/VarHandle" ∧ (parseMethodDescriptor yX9_writeLead.desc).map (fun d => d.parameters.length) = some 2 := by decide +kernel
theorem z0_Jx4a65c : ∀ j, j < 3 → defaultValue (tyJx4a65c j) = vp_V (zF0 0) j := by decide +kernel
theorem z0_X0 : ∀ j, j < 1 → defaultValue (tyX0 j) = vp_V (zF0 1) j := by decide +kernel
theorem z0_X1 : ∀ j, j < 8 → defaultValue (tyX1 j) = vp_V (zF0 2) j := by decide +kernel
theorem z0_X2 : ∀ j, j < 2 → defaultValue (tyX2 j) = vp_V (zF0 3) j := by decide +kernel
theorem z0_X3 : ∀ j, j < 1 → defaultValue (tyX3 j) = vp_V (zF0 4) j := by decide +kernel
theorem z0_X4 : ∀ j, j < 7 → defaultValue (tyX4 j) = vp_V (zF0 5) j := by decide +kernel
theorem z0_X5 : ∀ j, j < 1 → defaultValue (tyX5 j) = vp_V (zF0 6) j := by decide +kernel
theorem z0_X6 : ∀ j, j < 6 → defaultValue (tyX6 j) = vp_V (zF0 7) j := by decide +kernel
theorem z0_X7 : ∀ j, j < 6 → defaultValue (tyX7 j) = vp_V (zF0 8) j := by decide +kernel
theorem z0_X9 : ∀ j, j < 9 → defaultValue (tyX9 j) = vp_V (zF0 9) j := by decide +kernel
theorem z0_X10 : ∀ j, j < 14 → defaultValue (tyX10 j) = vp_V (zF0 10) j := by decide +kernel
