theorem zw_1 : Cond.selects RX10 yX10_isDraftOf yX10_isDraftOf ∈ zW := zW_in 1 (by decide +kernel) rfl
theorem zw_2 : Cond.selects RX4 yX4_gatherFalseRows yX4_gatherFalseRows ∈ zW := zW_in 2 (by decide +kernel) rfl
theorem zw_3 : Cond.selects RX4 yX4_noteFalse yX4_noteFalse ∈ zW := zW_in 3 (by decide +kernel) rfl
theorem zw_4 : Cond.selects RJx4a65c yJx4a65c_add_72be8 yJx4a65c_add_72be8 ∈ zW := zW_in 4 (by decide +kernel) rfl
theorem zw_5 : Cond.selects RJx4a65c yJx4a65c_grow_d5877 yJx4a65c_grow_d5877 ∈ zW := zW_in 5 (by decide +kernel) rfl
theorem zw_6 : Cond.selects RJx4a65c yJx4a65c_grow_92f84 yJx4a65c_grow_92f84 ∈ zW := zW_in 6 (by decide +kernel) rfl
theorem zw_7 : Cond.selects RX10 yX10_methodAt yX10_methodAt ∈ zW := zW_in 7 (by decide +kernel) rfl
theorem zw_8 : Cond.selects RX10 yX10_requireSilence yX10_requireSilence ∈ zW := zW_in 8 (by decide +kernel) rfl
theorem zw_9 : Cond.selects RX10 yX10_rewriteTouches yX10_rewriteTouches ∈ zW := zW_in 9 (by decide +kernel) rfl
theorem zw_10 : Cond.selects RX9 yX9_writeLead yX9_writeLead ∈ zW := zW_in 10 (by decide +kernel) rfl
theorem zw_11 : Cond.selects RX9 yX9_lastRow yX9_lastRow ∈ zW := zW_in 11 (by decide +kernel) rfl
theorem zw_12 : Cond.selects RJx4a65c yJx4a65c_fastRemove_b59b0 yJx4a65c_fastRemove_b59b0 ∈ zW := zW_in 12 (by decide +kernel) rfl
theorem zw_13 : Cond.selects RX10 yX10_requireRoomForTouch yX10_requireRoomForTouch ∈ zW := zW_in 13 (by decide +kernel) rfl
theorem zw_14 : Cond.selects RX10 yX10_keepTouch yX10_keepTouch ∈ zW := zW_in 14 (by decide +kernel) rfl
theorem zw_15 : Cond.selects RX2 yX2_handOutTrial yX2_handOutTrial ∈ zW := zW_in 15 (by decide +kernel) rfl
theorem zw_16 : Cond.selects RX2 yX2_callNext yX2_callNext ∈ zW := zW_in 16 (by decide +kernel) rfl
theorem zw_17 : Cond.selects RX4 yX4_isLikeLesserCall yX4_isLikeLesserCall ∈ zW := zW_in 17 (by decide +kernel) rfl
theorem zw_18 : Cond.selects RX10 yX10_touchAt yX10_touchAt ∈ zW := zW_in 18 (by decide +kernel) rfl
theorem zw_19 : Cond.selects RX10 yX10_bellNumbered yX10_bellNumbered ∈ zW := zW_in 19 (by decide +kernel) rfl
theorem zw_20 : Cond.selects RX10 yX10_dayAt yX10_dayAt ∈ zW := zW_in 20 (by decide +kernel) rfl
theorem zw_21 : Cond.selects RX7 yX7_firstBand yX7_firstBand ∈ zW := zW_in 21 (by decide +kernel) rfl
theorem zw_22 : Cond.selects RX10 yX10_doReadyRows yX10_doReadyRows ∈ zW := zW_in 22 (by decide +kernel) rfl
theorem zw_23 : Cond.selects RX6 yX6_isByPeople yX6_isByPeople ∈ zW := zW_in 23 (by decide +kernel) rfl
theorem zw_24 : Cond.selects RX6 yX6_timeOfBlow yX6_timeOfBlow ∈ zW := zW_in 24 (by decide +kernel) rfl
theorem zw_25 : Cond.selects RX6 yX6_dueAt yX6_dueAt ∈ zW := zW_in 25 (by decide +kernel) rfl
theorem zw_26 : Cond.selects RX10 yX10_endRinging yX10_endRinging ∈ zW := zW_in 26 (by decide +kernel) rfl
theorem zw_27 : Cond.selects RX10 yX10_countAsRung yX10_countAsRung ∈ zW := zW_in 27 (by decide +kernel) rfl
theorem zw_28 : Cond.selects RX10 yX10_ringingThatAwaits yX10_ringingThatAwaits ∈ zW := zW_in 28 (by decide +kernel) rfl
theorem zw_29 : Cond.selects RX11 yX11_isMethod yX11_isMethod ∈ zW := zW_in 29 (by decide +kernel) rfl
theorem zw_30 : Cond.selects RX11 yX11_drops yX11_drops ∈ zW := zW_in 30 (by decide +kernel) rfl
theorem zw_31 : Cond.selects RX11 yX11_stageOf yX11_stageOf ∈ zW := zW_in 31 (by decide +kernel) rfl
theorem zw_32 : Cond.selects RX11 yX11_areIn yX11_areIn ∈ zW := zW_in 32 (by decide +kernel) rfl
theorem zw_33 : Cond.selects RX11 yX11_isInNow yX11_isInNow ∈ zW := zW_in 33 (by decide +kernel) rfl
theorem zw_34 : Cond.selects RX11 yX11_isSound yX11_isSound ∈ zW := zW_in 34 (by decide +kernel) rfl
theorem zw_35 : Cond.selects RX11 yX11_writes yX11_writes ∈ zW := zW_in 35 (by decide +kernel) rfl
theorem zw_36 : Cond.selects RX11 yX11_changeOf yX11_changeOf ∈ zW := zW_in 36 (by decide +kernel) rfl
theorem zw_37 : Cond.selects RX11 yX11_repeat yX11_repeat ∈ zW := zW_in 37 (by decide +kernel) rfl
theorem zw_38 : Cond.selects RX11 yX11_takesPlan yX11_takesPlan ∈ zW := zW_in 38 (by decide +kernel) rfl
theorem zw_39 : Cond.selects RX11 yX11_asksMethod yX11_asksMethod ∈ zW := zW_in 39 (by decide +kernel) rfl
theorem zw_40 : Cond.selects RX11 yX11_behindLead yX11_behindLead ∈ zW := zW_in 40 (by decide +kernel) rfl
theorem zw_41 : Cond.selects RX11 yX11_laysPlain yX11_laysPlain ∈ zW := zW_in 41 (by decide +kernel) rfl
theorem zw_42 : Cond.selects RX11 yX11_rowOf yX11_rowOf ∈ zW := zW_in 42 (by decide +kernel) rfl
theorem zw_43 : Cond.selects RX11 yX11_clashes yX11_clashes ∈ zW := zW_in 43 (by decide +kernel) rfl
theorem zw_44 : Cond.selects RX11 yX11_asksTouch yX11_asksTouch ∈ zW := zW_in 44 (by decide +kernel) rfl
theorem zw_45 : Cond.selects RX11 yX11_isTouch yX11_isTouch ∈ zW := zW_in 45 (by decide +kernel) rfl
theorem zw_46 : Cond.selects RX11 yX11_asksRow yX11_asksRow ∈ zW := zW_in 46 (by decide +kernel) rfl
theorem zw_47 : Cond.selects RX11 yX11_isDay yX11_isDay ∈ zW := zW_in 47 (by decide +kernel) rfl
theorem zw_48 : Cond.selects RX11 yX11_placeOf yX11_placeOf ∈ zW := zW_in 48 (by decide +kernel) rfl
theorem zw_49 : Cond.selects RX11 yX11_bandOf yX11_bandOf ∈ zW := zW_in 49 (by decide +kernel) rfl
theorem zw_50 : Cond.selects RX11 yX11_bandFor yX11_bandFor ∈ zW := zW_in 50 (by decide +kernel) rfl
theorem zw_51 : Cond.selects RX11 yX11_goesOn yX11_goesOn ∈ zW := zW_in 51 (by decide +kernel) rfl
theorem zw_52 : Cond.selects RX11 yX11_isReady yX11_isReady ∈ zW := zW_in 52 (by decide +kernel) rfl
theorem zw_53 : Cond.selects RX11 yX11_isPeoples yX11_isPeoples ∈ zW := zW_in 53 (by decide +kernel) rfl
theorem zw_54 : Cond.selects RX11 yX11_doesRow yX11_doesRow ∈ zW := zW_in 54 (by decide +kernel) rfl
theorem zw_55 : Cond.selects RX11 yX11_dueAt yX11_dueAt ∈ zW := zW_in 55 (by decide +kernel) rfl
theorem zw_56 : Cond.selects RX11 yX11_blows yX11_blows ∈ zW := zW_in 56 (by decide +kernel) rfl
theorem zw_57 : Cond.selects RX11 yX11_looks yX11_looks ∈ zW := zW_in 57 (by decide +kernel) rfl
theorem zw_58 : Cond.selects RX11 yX11_hasPull yX11_hasPull ∈ zW := zW_in 58 (by decide +kernel) rfl
theorem zw_59 : Cond.selects RX11 yX11_dueOf yX11_dueOf ∈ zW := zW_in 59 (by decide +kernel) rfl
theorem zw_60 : Cond.selects RX11 yX11_placeIn yX11_placeIn ∈ zW := zW_in 60 (by decide +kernel) rfl
theorem zw_61 : Cond.selects RX11 yX11_asksBell yX11_asksBell ∈ zW := zW_in 61 (by decide +kernel) rfl
theorem zw_63 : Cond.initialized RX10 ∈ zW := zW_in 63 (by decide +kernel) rfl
theorem zw_64 : Cond.initialized RJxa1e45 ∈ zW := zW_in 64 (by decide +kernel) rfl
theorem zw_65 : Cond.initialized RJxc12de ∈ zW := zW_in 65 (by decide +kernel) rfl
theorem zw_66 : Cond.initialized RJx4a65c ∈ zW := zW_in 66 (by decide +kernel) rfl
theorem zw_67 : Cond.initialized RX5 ∈ zW := zW_in 67 (by decide +kernel) rfl
theorem zw_68 : Cond.initialized RX2 ∈ zW := zW_in 68 (by decide +kernel) rfl
theorem zw_69 : Cond.initialized RX9 ∈ zW := zW_in 69 (by decide +kernel) rfl
theorem zw_70 : Cond.initialized RX0 ∈ zW := zW_in 70 (by decide +kernel) rfl
theorem zw_71 : Cond.initialized RX1 ∈ zW := zW_in 71 (by decide +kernel) rfl
theorem zw_72 : Cond.initialized RX7 ∈ zW := zW_in 72 (by decide +kernel) rfl
theorem zw_73 : Cond.initialized RX3 ∈ zW := zW_in 73 (by decide +kernel) rfl
theorem zw_74 : Cond.initialized RX11 ∈ zW := zW_in 74 (by decide +kernel) rfl
theorem zw_78 : Cond.initialized "java/lang/IllegalArgumentException" ∈ zW := zW_in 78 (by decide +kernel) rfl
theorem zw_79 : Cond.initialized "java/lang/IllegalStateException" ∈ zW := zW_in 79 (by decide +kernel) rfl
theorem zw_80 : Cond.initialized RX8 ∈ zW := zW_in 80 (by decide +kernel) rfl
theorem zw_81 : Cond.initialized RX4 ∈ zW := zW_in 81 (by decide +kernel) rfl
theorem zw_82 : Cond.initialized RJ6 ∈ zW := zW_in 82 (by decide +kernel) rfl
theorem zw_83 : Cond.initialized RJ8 ∈ zW := zW_in 83 (by decide +kernel) rfl
theorem zw_84 : Cond.initialized RJ9 ∈ zW := zW_in 84 (by decide +kernel) rfl
theorem zw_85 : Cond.initialized RJ7 ∈ zW := zW_in 85 (by decide +kernel) rfl
theorem zw_86 : Cond.initialized RJ10 ∈ zW := zW_in 86 (by decide +kernel) rfl
theorem zw_87 : Cond.initialized "java/lang/IndexOutOfBoundsException" ∈ zW := zW_in 87 (by decide +kernel) rfl
theorem zw_88 : Cond.initialized RJ15 ∈ zW := zW_in 88 (by decide +kernel) rfl
theorem zw_89 : Cond.initialized RJ3 ∈ zW := zW_in 89 (by decide +kernel) rfl
theorem zw_90 : Cond.initialized RX6 ∈ zW := zW_in 90 (by decide +kernel) rfl
theorem zw_96 : Cond.methodLink RX10 3 objectInit ∈ zW := zW_in 96 (by decide +kernel) rfl
theorem zw_99 : Cond.classLink RX10 9 RJx4a65c ∈ zW := zW_in 99 (by decide +kernel) rfl
theorem zw_100 : Cond.instantiable RJx4a65c 3 ∈ zW := zW_in 100 (by decide +kernel) rfl
theorem zw_101 : Cond.methodLink RX10 11 yJx4a65c_init_da8c8 ∈ zW := zW_in 101 (by decide +kernel) rfl
theorem zw_102 : Cond.instanceMethod yJx4a65c_init_da8c8 ∈ zW := zW_in 102 (by decide +kernel) rfl
theorem zw_103 : Cond.code yJx4a65c_init_da8c8 cJx4a65c_init_da8c8 1 none ∈ zW := zW_in 103 (by decide +kernel) rfl
theorem zw_104 : Cond.methodLink RJx4a65c 1 yJxc12de_init_da8c8 ∈ zW := zW_in 104 (by decide +kernel) rfl
theorem zw_105 : Cond.instanceMethod yJxc12de_init_da8c8 ∈ zW := zW_in 105 (by decide +kernel) rfl
theorem zw_106 : Cond.code yJxc12de_init_da8c8 cJxc12de_init_da8c8 1 none ∈ zW := zW_in 106 (by decide +kernel) rfl
theorem zw_107 : Cond.methodLink RJxc12de 1 yJxa1e45_init_da8c8 ∈ zW := zW_in 107 (by decide +kernel) rfl
theorem zw_108 : Cond.instanceMethod yJxa1e45_init_da8c8 ∈ zW := zW_in 108 (by decide +kernel) rfl
theorem zw_109 : Cond.code yJxa1e45_init_da8c8 cJxa1e45_init_da8c8 1 none ∈ zW := zW_in 109 (by decide +kernel) rfl
theorem zw_110 : Cond.methodLink RJxa1e45 1 objectInit ∈ zW := zW_in 110 (by decide +kernel) rfl
theorem zw_111 : Cond.fieldLink RJx4a65c 39 "java/util/ArrayList" "DEFAULTCAPACITY_EMPTY_ELEMENTDATA" "[Ljava/lang/Object;" ∈ zW := zW_in 111 (by decide +kernel) rfl
theorem zw_113 : Cond.fieldLink RJx4a65c 9 "java/util/ArrayList" "elementData" "[Ljava/lang/Object;" ∈ zW := zW_in 113 (by decide +kernel) rfl
theorem zw_114 : Cond.fieldLink RJx4a65c 48 "java/util/ArrayList" "size" "I" ∈ zW := zW_in 114 (by decide +kernel) rfl
theorem zw_115 : Cond.fieldLink RJxc12de 7 "java/util/AbstractList" "modCount" "I" ∈ zW := zW_in 115 (by decide +kernel) rfl
theorem zw_116 : Cond.fieldLink RJx4a65c 63 "java/util/ArrayList" "modCount" "I" ∈ zW := zW_in 116 (by decide +kernel) rfl
theorem zw_117 : Cond.sameField "java/util/ArrayList" "java/util/AbstractList" "modCount" "I" ∈ zW := zW_in 117 (by decide +kernel) rfl
theorem zw_125 : Cond.classLink RX10 23 RX5 ∈ zW := zW_in 125 (by decide +kernel) rfl
theorem zw_126 : Cond.instantiable RX5 1 ∈ zW := zW_in 126 (by decide +kernel) rfl
theorem zw_127 : Cond.methodLink RX10 25 yX5_init ∈ zW := zW_in 127 (by decide +kernel) rfl
theorem zw_128 : Cond.instanceMethod yX5_init ∈ zW := zW_in 128 (by decide +kernel) rfl
theorem zw_129 : Cond.code yX5_init cX5_init 1 none ∈ zW := zW_in 129 (by decide +kernel) rfl
theorem zw_130 : Cond.methodLink RX5 3 objectInit ∈ zW := zW_in 130 (by decide +kernel) rfl
theorem zw_131 : Cond.fieldLink RX5 9 "GrandsireLoft$Prover" "firstAt" "[I" ∈ zW := zW_in 131 (by decide +kernel) rfl
theorem zw_135 : Cond.arrayClass Jvm.ClassFile.FieldType.int ∈ zW := zW_in 135 (by decide +kernel) rfl
theorem zw_136 : Cond.classLink RX10 30 RX2 ∈ zW := zW_in 136 (by decide +kernel) rfl
theorem zw_137 : Cond.instantiable RX2 2 ∈ zW := zW_in 137 (by decide +kernel) rfl
theorem zw_138 : Cond.methodLink RX10 32 yX2_init ∈ zW := zW_in 138 (by decide +kernel) rfl
theorem zw_139 : Cond.instanceMethod yX2_init ∈ zW := zW_in 139 (by decide +kernel) rfl
theorem zw_140 : Cond.code yX2_init cX2_init 2 none ∈ zW := zW_in 140 (by decide +kernel) rfl
theorem zw_141 : Cond.methodLink RX2 3 objectInit ∈ zW := zW_in 141 (by decide +kernel) rfl
theorem zw_142 : Cond.classLink RX2 15 RX9 ∈ zW := zW_in 142 (by decide +kernel) rfl
theorem zw_143 : Cond.instantiable RX9 9 ∈ zW := zW_in 143 (by decide +kernel) rfl
theorem zw_144 : Cond.methodLink RX2 17 yX9_init ∈ zW := zW_in 144 (by decide +kernel) rfl
theorem zw_145 : Cond.instanceMethod yX9_init ∈ zW := zW_in 145 (by decide +kernel) rfl
theorem zw_146 : Cond.code yX9_init cX9_init 1 none ∈ zW := zW_in 146 (by decide +kernel) rfl
theorem zw_147 : Cond.methodLink RX9 3 objectInit ∈ zW := zW_in 147 (by decide +kernel) rfl
theorem zw_148 : Cond.classLink RX9 21 RJx4a65c ∈ zW := zW_in 148 (by decide +kernel) rfl
theorem zw_149 : Cond.methodLink RX9 23 yJx4a65c_init_da8c8 ∈ zW := zW_in 149 (by decide +kernel) rfl
theorem zw_150 : Cond.fieldLink RX9 9 "GrandsireLoft$Touch" "number" "I" ∈ zW := zW_in 150 (by decide +kernel) rfl
theorem zw_151 : Cond.fieldLink RX10 284 "GrandsireLoft$Touch" "number" "I" ∈ zW := zW_in 151 (by decide +kernel) rfl
theorem zw_152 : Cond.fieldLink RX9 48 "GrandsireLoft$Touch" "stage" "I" ∈ zW := zW_in 152 (by decide +kernel) rfl
theorem zw_153 : Cond.fieldLink RX3 32 "GrandsireLoft$Touch" "stage" "I" ∈ zW := zW_in 153 (by decide +kernel) rfl
theorem zw_154 : Cond.fieldLink RX7 47 "GrandsireLoft$Touch" "stage" "I" ∈ zW := zW_in 154 (by decide +kernel) rfl
theorem zw_155 : Cond.fieldLink RX6 44 "GrandsireLoft$Touch" "stage" "I" ∈ zW := zW_in 155 (by decide +kernel) rfl
theorem zw_156 : Cond.fieldLink RX10 226 "GrandsireLoft$Touch" "stage" "I" ∈ zW := zW_in 156 (by decide +kernel) rfl
theorem zw_157 : Cond.fieldLink RX6 35 "GrandsireLoft$Touch" "rowCount" "I" ∈ zW := zW_in 157 (by decide +kernel) rfl
theorem zw_158 : Cond.fieldLink RX9 56 "GrandsireLoft$Touch" "rowCount" "I" ∈ zW := zW_in 158 (by decide +kernel) rfl
theorem zw_159 : Cond.fieldLink RX10 220 "GrandsireLoft$Touch" "rowCount" "I" ∈ zW := zW_in 159 (by decide +kernel) rfl
theorem zw_160 : Cond.fieldLink RX9 15 "GrandsireLoft$Touch" "repeat" "I" ∈ zW := zW_in 160 (by decide +kernel) rfl
theorem zw_161 : Cond.fieldLink RX2 41 "GrandsireLoft$Touch" "repeat" "I" ∈ zW := zW_in 161 (by decide +kernel) rfl
theorem zw_162 : Cond.fieldLink RX10 233 "GrandsireLoft$Touch" "repeat" "I" ∈ zW := zW_in 162 (by decide +kernel) rfl
theorem zw_163 : Cond.fieldLink RX9 18 "GrandsireLoft$Touch" "repeatLead" "I" ∈ zW := zW_in 163 (by decide +kernel) rfl
theorem zw_164 : Cond.fieldLink RX2 45 "GrandsireLoft$Touch" "repeatLead" "I" ∈ zW := zW_in 164 (by decide +kernel) rfl
theorem zw_165 : Cond.fieldLink RX9 79 "GrandsireLoft$Touch" "endsInRounds" "Z" ∈ zW := zW_in 165 (by decide +kernel) rfl
theorem zw_166 : Cond.fieldLink RX10 236 "GrandsireLoft$Touch" "endsInRounds" "Z" ∈ zW := zW_in 166 (by decide +kernel) rfl
theorem zw_167 : Cond.fieldLink RX9 24 "GrandsireLoft$Touch" "leadMethods" "Ljava/util/ArrayList;" ∈ zW := zW_in 167 (by decide +kernel) rfl
theorem zw_168 : Cond.fieldLink RX10 208 "GrandsireLoft$Touch" "leadMethods" "Ljava/util/ArrayList;" ∈ zW := zW_in 168 (by decide +kernel) rfl
theorem zw_169 : Cond.fieldLink RX9 28 "GrandsireLoft$Touch" "leadCalls" "[I" ∈ zW := zW_in 169 (by decide +kernel) rfl
theorem zw_170 : Cond.fieldLink RX2 52 "GrandsireLoft$Touch" "leadCalls" "[I" ∈ zW := zW_in 170 (by decide +kernel) rfl
theorem zw_171 : Cond.fieldLink RX10 217 "GrandsireLoft$Touch" "leadCalls" "[I" ∈ zW := zW_in 171 (by decide +kernel) rfl
theorem zw_172 : Cond.fieldLink RX9 32 "GrandsireLoft$Touch" "keptRows" "[I" ∈ zW := zW_in 172 (by decide +kernel) rfl
theorem zw_173 : Cond.fieldLink RX6 40 "GrandsireLoft$Touch" "keptRows" "[I" ∈ zW := zW_in 173 (by decide +kernel) rfl
theorem zw_174 : Cond.fieldLink RX10 223 "GrandsireLoft$Touch" "keptRows" "[I" ∈ zW := zW_in 174 (by decide +kernel) rfl
theorem zw_194 : Cond.fieldLink RX2 9 "GrandsireLoft$Composer" "prover" "LGrandsireLoft$Prover;" ∈ zW := zW_in 194 (by decide +kernel) rfl
theorem zw_195 : Cond.fieldLink RX2 18 "GrandsireLoft$Composer" "trial" "LGrandsireLoft$Touch;" ∈ zW := zW_in 195 (by decide +kernel) rfl
theorem zw_201 : Cond.classLink RX10 39 RX9 ∈ zW := zW_in 201 (by decide +kernel) rfl
theorem zw_202 : Cond.methodLink RX10 41 yX9_init ∈ zW := zW_in 202 (by decide +kernel) rfl
theorem zw_203 : Cond.classLink RX10 46 RX0 ∈ zW := zW_in 203 (by decide +kernel) rfl
theorem zw_204 : Cond.instantiable RX0 1 ∈ zW := zW_in 204 (by decide +kernel) rfl
theorem zw_205 : Cond.methodLink RX10 48 yX0_init ∈ zW := zW_in 205 (by decide +kernel) rfl
theorem zw_206 : Cond.instanceMethod yX0_init ∈ zW := zW_in 206 (by decide +kernel) rfl
theorem zw_207 : Cond.code yX0_init cX0_init 2 none ∈ zW := zW_in 207 (by decide +kernel) rfl
theorem zw_208 : Cond.methodLink RX0 3 objectInit ∈ zW := zW_in 208 (by decide +kernel) rfl
theorem zw_209 : Cond.classLink RX0 9 RX1 ∈ zW := zW_in 209 (by decide +kernel) rfl
theorem zw_211 : Cond.instantiable RX1 8 ∈ zW := zW_in 211 (by decide +kernel) rfl
theorem zw_212 : Cond.methodLink RX0 17 yX1_init ∈ zW := zW_in 212 (by decide +kernel) rfl
theorem zw_213 : Cond.instanceMethod yX1_init ∈ zW := zW_in 213 (by decide +kernel) rfl
theorem zw_214 : Cond.code yX1_init cX1_init 1 none ∈ zW := zW_in 214 (by decide +kernel) rfl
theorem zw_215 : Cond.methodLink RX1 3 objectInit ∈ zW := zW_in 215 (by decide +kernel) rfl
theorem zw_216 : Cond.fieldLink RX1 22 "GrandsireLoft$Bell" "takenOut" "Z" ∈ zW := zW_in 216 (by decide +kernel) rfl
theorem zw_217 : Cond.fieldLink RX10 244 "GrandsireLoft$Bell" "takenOut" "Z" ∈ zW := zW_in 217 (by decide +kernel) rfl
theorem zw_218 : Cond.fieldLink RX1 37 "GrandsireLoft$Bell" "latePulls" "I" ∈ zW := zW_in 218 (by decide +kernel) rfl
theorem zw_219 : Cond.fieldLink RX10 366 "GrandsireLoft$Bell" "latePulls" "I" ∈ zW := zW_in 219 (by decide +kernel) rfl
theorem zw_220 : Cond.fieldLink RX1 40 "GrandsireLoft$Bell" "earlyPulls" "I" ∈ zW := zW_in 220 (by decide +kernel) rfl
theorem zw_221 : Cond.fieldLink RX10 369 "GrandsireLoft$Bell" "earlyPulls" "I" ∈ zW := zW_in 221 (by decide +kernel) rfl
theorem zw_222 : Cond.fieldLink RX1 34 "GrandsireLoft$Bell" "errorSum" "I" ∈ zW := zW_in 222 (by decide +kernel) rfl
theorem zw_223 : Cond.fieldLink RX10 372 "GrandsireLoft$Bell" "errorSum" "I" ∈ zW := zW_in 223 (by decide +kernel) rfl
theorem zw_224 : Cond.fieldLink RX6 30 "GrandsireLoft$Bell" "pulls" "I" ∈ zW := zW_in 224 (by decide +kernel) rfl
theorem zw_225 : Cond.fieldLink RX0 25 "GrandsireLoft$Bell" "pulls" "I" ∈ zW := zW_in 225 (by decide +kernel) rfl
theorem zw_226 : Cond.fieldLink RX1 26 "GrandsireLoft$Bell" "pulls" "I" ∈ zW := zW_in 226 (by decide +kernel) rfl
theorem zw_227 : Cond.fieldLink RX1 9 "GrandsireLoft$Bell" "wearOf" "[I" ∈ zW := zW_in 227 (by decide +kernel) rfl
theorem zw_228 : Cond.fieldLink RX10 260 "GrandsireLoft$Bell" "wearOf" "[I" ∈ zW := zW_in 228 (by decide +kernel) rfl
theorem zw_229 : Cond.fieldLink RX1 15 "GrandsireLoft$Bell" "wornOut" "[Z" ∈ zW := zW_in 229 (by decide +kernel) rfl
theorem zw_230 : Cond.fieldLink RX1 19 "GrandsireLoft$Bell" "pullTimes" "[I" ∈ zW := zW_in 230 (by decide +kernel) rfl
theorem zw_248 : Cond.arrayClass Jvm.ClassFile.FieldType.boolean ∈ zW := zW_in 248 (by decide +kernel) rfl
theorem zw_249 : Cond.fieldLink RX0 11 "GrandsireLoft$Belfry" "bells" "[LGrandsireLoft$Bell;" ∈ zW := zW_in 249 (by decide +kernel) rfl
theorem zw_250 : Cond.fieldLink RX10 312 "GrandsireLoft$Belfry" "bells" "[LGrandsireLoft$Bell;" ∈ zW := zW_in 250 (by decide +kernel) rfl
theorem zw_254 : Cond.classLink RX10 53 RX7 ∈ zW := zW_in 254 (by decide +kernel) rfl
theorem zw_255 : Cond.instantiable RX7 6 ∈ zW := zW_in 255 (by decide +kernel) rfl
theorem zw_256 : Cond.methodLink RX10 55 yX7_init ∈ zW := zW_in 256 (by decide +kernel) rfl
theorem zw_257 : Cond.instanceMethod yX7_init ∈ zW := zW_in 257 (by decide +kernel) rfl
theorem zw_258 : Cond.code yX7_init cX7_init 2 none ∈ zW := zW_in 258 (by decide +kernel) rfl
theorem zw_259 : Cond.methodLink RX7 3 objectInit ∈ zW := zW_in 259 (by decide +kernel) rfl
theorem zw_260 : Cond.classLink RX7 15 RX3 ∈ zW := zW_in 260 (by decide +kernel) rfl
theorem zw_262 : Cond.instantiable RX3 1 ∈ zW := zW_in 262 (by decide +kernel) rfl
theorem zw_263 : Cond.methodLink RX7 21 yX3_init ∈ zW := zW_in 263 (by decide +kernel) rfl
theorem zw_264 : Cond.instanceMethod yX3_init ∈ zW := zW_in 264 (by decide +kernel) rfl
theorem zw_265 : Cond.code yX3_init cX3_init 1 none ∈ zW := zW_in 265 (by decide +kernel) rfl
theorem zw_266 : Cond.methodLink RX3 3 objectInit ∈ zW := zW_in 266 (by decide +kernel) rfl
theorem zw_267 : Cond.classLink RX3 9 RJx4a65c ∈ zW := zW_in 267 (by decide +kernel) rfl
theorem zw_268 : Cond.methodLink RX3 11 yJx4a65c_init_da8c8 ∈ zW := zW_in 268 (by decide +kernel) rfl
theorem zw_269 : Cond.fieldLink RX3 12 "GrandsireLoft$Day" "touchesInOrder" "Ljava/util/ArrayList;" ∈ zW := zW_in 269 (by decide +kernel) rfl
theorem zw_270 : Cond.fieldLink RX7 56 "GrandsireLoft$Day" "touchesInOrder" "Ljava/util/ArrayList;" ∈ zW := zW_in 270 (by decide +kernel) rfl
theorem zw_271 : Cond.fieldLink RX10 281 "GrandsireLoft$Day" "touchesInOrder" "Ljava/util/ArrayList;" ∈ zW := zW_in 271 (by decide +kernel) rfl
theorem zw_275 : Cond.fieldLink RX7 9 "GrandsireLoft$Rota" "sizes" "[I" ∈ zW := zW_in 275 (by decide +kernel) rfl
theorem zw_276 : Cond.fieldLink RX10 263 "GrandsireLoft$Rota" "sizes" "[I" ∈ zW := zW_in 276 (by decide +kernel) rfl
theorem zw_277 : Cond.fieldLink RX7 17 "GrandsireLoft$Rota" "days" "[LGrandsireLoft$Day;" ∈ zW := zW_in 277 (by decide +kernel) rfl
theorem zw_278 : Cond.fieldLink RX10 389 "GrandsireLoft$Rota" "days" "[LGrandsireLoft$Day;" ∈ zW := zW_in 278 (by decide +kernel) rfl
theorem zw_279 : Cond.fieldLink RX7 29 "GrandsireLoft$Rota" "thisDay" "I" ∈ zW := zW_in 279 (by decide +kernel) rfl
theorem zw_280 : Cond.fieldLink RX10 285 "GrandsireLoft$Rota" "thisDay" "I" ∈ zW := zW_in 280 (by decide +kernel) rfl
theorem zw_281 : Cond.fieldLink RX7 72 "GrandsireLoft$Rota" "droppedCount" "I" ∈ zW := zW_in 281 (by decide +kernel) rfl
theorem zw_282 : Cond.fieldLink RX10 296 "GrandsireLoft$Rota" "droppedCount" "I" ∈ zW := zW_in 282 (by decide +kernel) rfl
theorem zw_283 : Cond.fieldLink RX7 26 "GrandsireLoft$Rota" "turn" "I" ∈ zW := zW_in 283 (by decide +kernel) rfl
theorem zw_284 : Cond.fieldLink RX7 22 "GrandsireLoft$Rota" "keptBand" "I" ∈ zW := zW_in 284 (by decide +kernel) rfl
theorem zw_298 : Cond.fieldLink RX10 12 "GrandsireLoft" "methodList" "Ljava/util/ArrayList;" ∈ zW := zW_in 298 (by decide +kernel) rfl
theorem zw_299 : Cond.fieldLink RX10 16 "GrandsireLoft" "changeDraft" "[I" ∈ zW := zW_in 299 (by decide +kernel) rfl
theorem zw_300 : Cond.fieldLink RX10 71 "GrandsireLoft" "changeCount" "I" ∈ zW := zW_in 300 (by decide +kernel) rfl
theorem zw_301 : Cond.fieldLink RX10 20 "GrandsireLoft" "touchList" "Ljava/util/ArrayList;" ∈ zW := zW_in 301 (by decide +kernel) rfl
theorem zw_302 : Cond.fieldLink RX10 26 "GrandsireLoft" "prover" "LGrandsireLoft$Prover;" ∈ zW := zW_in 302 (by decide +kernel) rfl
theorem zw_303 : Cond.fieldLink RX10 35 "GrandsireLoft" "composer" "LGrandsireLoft$Composer;" ∈ zW := zW_in 303 (by decide +kernel) rfl
theorem zw_304 : Cond.fieldLink RX10 42 "GrandsireLoft" "leadDraft" "LGrandsireLoft$Touch;" ∈ zW := zW_in 304 (by decide +kernel) rfl
theorem zw_305 : Cond.fieldLink RX10 49 "GrandsireLoft" "belfry" "LGrandsireLoft$Belfry;" ∈ zW := zW_in 305 (by decide +kernel) rfl
theorem zw_306 : Cond.fieldLink RX10 56 "GrandsireLoft" "bandRota" "LGrandsireLoft$Rota;" ∈ zW := zW_in 306 (by decide +kernel) rfl
theorem zw_307 : Cond.fieldLink RX10 319 "GrandsireLoft" "ringing" "LGrandsireLoft$Ringing;" ∈ zW := zW_in 307 (by decide +kernel) rfl
theorem zw_308 : Cond.fieldLink RX10 60 "GrandsireLoft" "patienceNow" "I" ∈ zW := zW_in 308 (by decide +kernel) rfl
theorem zw_309 : Cond.fieldLink RX10 375 "GrandsireLoft" "wrongRows" "I" ∈ zW := zW_in 309 (by decide +kernel) rfl
theorem zw_310 : Cond.fieldLink RX10 378 "GrandsireLoft" "rungCount" "I" ∈ zW := zW_in 310 (by decide +kernel) rfl
theorem zw_311 : Cond.fieldLink RX10 64 "GrandsireLoft" "latestTouch" "I" ∈ zW := zW_in 311 (by decide +kernel) rfl
theorem zw_349 : Cond.methodLink RX10 181 yX9_leadCount ∈ zW := zW_in 349 (by decide +kernel) rfl
theorem zw_350 : Cond.instanceMethod yX9_leadCount ∈ zW := zW_in 350 (by decide +kernel) rfl
theorem zw_351 : Cond.selects RX9 yX9_leadCount yX9_leadCount ∈ zW := zW_in 351 (by decide +kernel) rfl
theorem zw_352 : Cond.code yX9_leadCount cX9_leadCount 1 (some .int) ∈ zW := zW_in 352 (by decide +kernel) rfl
theorem zw_353 : Cond.methodLink RX9 35 yJx4a65c_size_8abf5 ∈ zW := zW_in 353 (by decide +kernel) rfl
theorem zw_354 : Cond.instanceMethod yJx4a65c_size_8abf5 ∈ zW := zW_in 354 (by decide +kernel) rfl
theorem zw_355 : Cond.selects RJx4a65c yJx4a65c_size_8abf5 yJx4a65c_size_8abf5 ∈ zW := zW_in 355 (by decide +kernel) rfl
theorem zw_356 : Cond.code yJx4a65c_size_8abf5 cJx4a65c_size_8abf5 1 (some .int) ∈ zW := zW_in 356 (by decide +kernel) rfl
theorem zw_357 : Cond.methodLink RX10 184 yX9_clear ∈ zW := zW_in 357 (by decide +kernel) rfl
theorem zw_358 : Cond.instanceMethod yX9_clear ∈ zW := zW_in 358 (by decide +kernel) rfl
theorem zw_359 : Cond.selects RX9 yX9_clear yX9_clear ∈ zW := zW_in 359 (by decide +kernel) rfl
theorem zw_360 : Cond.code yX9_clear cX9_clear 1 none ∈ zW := zW_in 360 (by decide +kernel) rfl
theorem zw_361 : Cond.methodLink RX9 53 yJx4a65c_clear_da8c8 ∈ zW := zW_in 361 (by decide +kernel) rfl
theorem zw_362 : Cond.instanceMethod yJx4a65c_clear_da8c8 ∈ zW := zW_in 362 (by decide +kernel) rfl
theorem zw_363 : Cond.selects RJx4a65c yJx4a65c_clear_da8c8 yJx4a65c_clear_da8c8 ∈ zW := zW_in 363 (by decide +kernel) rfl
theorem zw_364 : Cond.code yJx4a65c_clear_da8c8 cJx4a65c_clear_da8c8 4 none ∈ zW := zW_in 364 (by decide +kernel) rfl
theorem zw_369 : Cond.methodLink RX10 81 yJx4a65c_size_8abf5 ∈ zW := zW_in 369 (by decide +kernel) rfl
theorem zw_411 : Cond.methodLink RX10 67 yX10_requireRange ∈ zW := zW_in 411 (by decide +kernel) rfl
theorem zw_412 : Cond.static yX10_requireRange ∈ zW := zW_in 412 (by decide +kernel) rfl
theorem zw_413 : Cond.code yX10_requireRange cX10_requireRange 3 none ∈ zW := zW_in 413 (by decide +kernel) rfl
theorem zw_414 : Cond.classLink RX10 113 "java/lang/IllegalArgumentException" ∈ zW := zW_in 414 (by decide +kernel) rfl
theorem zw_482 : Cond.classLink RX10 74 "java/lang/IllegalStateException" ∈ zW := zW_in 482 (by decide +kernel) rfl
theorem zw_505 : Cond.methodLink RX10 85 yX10_isDraftOf ∈ zW := zW_in 505 (by decide +kernel) rfl
theorem zw_507 : Cond.instanceMethod yX10_isDraftOf ∈ zW := zW_in 507 (by decide +kernel) rfl
theorem zw_508 : Cond.code yX10_isDraftOf cX10_isDraftOf 3 (some .boolean) ∈ zW := zW_in 508 (by decide +kernel) rfl
theorem zw_509 : Cond.methodLink RX10 107 yX8_isChange ∈ zW := zW_in 509 (by decide +kernel) rfl
theorem zw_510 : Cond.static yX8_isChange ∈ zW := zW_in 510 (by decide +kernel) rfl
theorem zw_511 : Cond.code yX8_isChange cX8_isChange 5 (some .boolean) ∈ zW := zW_in 511 (by decide +kernel) rfl
theorem zw_512 : Cond.methodLink RX8 21 yX8_isMade ∈ zW := zW_in 512 (by decide +kernel) rfl
theorem zw_513 : Cond.static yX8_isMade ∈ zW := zW_in 513 (by decide +kernel) rfl
theorem zw_514 : Cond.code yX8_isMade cX8_isMade 2 (some .boolean) ∈ zW := zW_in 514 (by decide +kernel) rfl
theorem zw_516 : Cond.classLink RX10 91 RX4 ∈ zW := zW_in 516 (by decide +kernel) rfl
theorem zw_517 : Cond.instantiable RX4 7 ∈ zW := zW_in 517 (by decide +kernel) rfl
theorem zw_518 : Cond.methodLink RX10 93 yX4_init ∈ zW := zW_in 518 (by decide +kernel) rfl
theorem zw_519 : Cond.instanceMethod yX4_init ∈ zW := zW_in 519 (by decide +kernel) rfl
theorem zw_520 : Cond.code yX4_init cX4_init 6 none ∈ zW := zW_in 520 (by decide +kernel) rfl
theorem zw_521 : Cond.methodLink RX4 3 objectInit ∈ zW := zW_in 521 (by decide +kernel) rfl
theorem zw_522 : Cond.methodLink RX4 31 yX4_gatherFalseRows ∈ zW := zW_in 522 (by decide +kernel) rfl
theorem zw_524 : Cond.instanceMethod yX4_gatherFalseRows ∈ zW := zW_in 524 (by decide +kernel) rfl
theorem zw_525 : Cond.code yX4_gatherFalseRows cX4_gatherFalseRows 6 none ∈ zW := zW_in 525 (by decide +kernel) rfl
theorem zw_526 : Cond.methodLink RX4 44 yX8_rounds ∈ zW := zW_in 526 (by decide +kernel) rfl
theorem zw_527 : Cond.static yX8_rounds ∈ zW := zW_in 527 (by decide +kernel) rfl
theorem zw_528 : Cond.code yX8_rounds cX8_rounds 3 (some .int) ∈ zW := zW_in 528 (by decide +kernel) rfl
theorem zw_529 : Cond.methodLink RX4 38 yX8_afterChange ∈ zW := zW_in 529 (by decide +kernel) rfl
theorem zw_530 : Cond.static yX8_afterChange ∈ zW := zW_in 530 (by decide +kernel) rfl
theorem zw_531 : Cond.code yX8_afterChange cX8_afterChange 5 (some .int) ∈ zW := zW_in 531 (by decide +kernel) rfl
theorem zw_532 : Cond.methodLink RX8 25 yX8_swapped ∈ zW := zW_in 532 (by decide +kernel) rfl
theorem zw_533 : Cond.static yX8_swapped ∈ zW := zW_in 533 (by decide +kernel) rfl
theorem zw_534 : Cond.code yX8_swapped cX8_swapped 3 (some .int) ∈ zW := zW_in 534 (by decide +kernel) rfl
theorem zw_535 : Cond.methodLink RX8 9 yX8_bellIn ∈ zW := zW_in 535 (by decide +kernel) rfl
theorem zw_536 : Cond.static yX8_bellIn ∈ zW := zW_in 536 (by decide +kernel) rfl
theorem zw_537 : Cond.code yX8_bellIn cX8_bellIn 2 (some .int) ∈ zW := zW_in 537 (by decide +kernel) rfl
theorem zw_538 : Cond.methodLink RX4 58 yX8_originOf ∈ zW := zW_in 538 (by decide +kernel) rfl
theorem zw_539 : Cond.static yX8_originOf ∈ zW := zW_in 539 (by decide +kernel) rfl
theorem zw_540 : Cond.code yX8_originOf cX8_originOf 5 (some .int) ∈ zW := zW_in 540 (by decide +kernel) rfl
theorem zw_541 : Cond.methodLink RX4 61 yX8_number ∈ zW := zW_in 541 (by decide +kernel) rfl
theorem zw_542 : Cond.static yX8_number ∈ zW := zW_in 542 (by decide +kernel) rfl
theorem zw_543 : Cond.code yX8_number cX8_number 7 (some .int) ∈ zW := zW_in 543 (by decide +kernel) rfl
theorem zw_544 : Cond.methodLink RX8 15 yJ6_bitCount_0f7a4 ∈ zW := zW_in 544 (by decide +kernel) rfl
theorem zw_545 : Cond.static yJ6_bitCount_0f7a4 ∈ zW := zW_in 545 (by decide +kernel) rfl
theorem zw_546 : Cond.code yJ6_bitCount_0f7a4 cJ6_bitCount_0f7a4 1 (some .int) ∈ zW := zW_in 546 (by decide +kernel) rfl
theorem zw_547 : Cond.constant RJ6 265 1431655765 ∈ zW := zW_in 547 (by decide +kernel) rfl
theorem zw_548 : Cond.constant RJ6 266 858993459 ∈ zW := zW_in 548 (by decide +kernel) rfl
theorem zw_549 : Cond.constant RJ6 267 252645135 ∈ zW := zW_in 549 (by decide +kernel) rfl
theorem zw_550 : Cond.methodLink RX4 63 yX4_noteFalse ∈ zW := zW_in 550 (by decide +kernel) rfl
theorem zw_552 : Cond.instanceMethod yX4_noteFalse ∈ zW := zW_in 552 (by decide +kernel) rfl
theorem zw_553 : Cond.code yX4_noteFalse cX4_noteFalse 2 none ∈ zW := zW_in 553 (by decide +kernel) rfl
theorem zw_554 : Cond.methodLink RX4 67 yX4_hasFalse ∈ zW := zW_in 554 (by decide +kernel) rfl
theorem zw_555 : Cond.instanceMethod yX4_hasFalse ∈ zW := zW_in 555 (by decide +kernel) rfl
theorem zw_556 : Cond.selects RX4 yX4_hasFalse yX4_hasFalse ∈ zW := zW_in 556 (by decide +kernel) rfl
theorem zw_557 : Cond.code yX4_hasFalse cX4_hasFalse 3 (some .boolean) ∈ zW := zW_in 557 (by decide +kernel) rfl
theorem zw_558 : Cond.fieldLink RX4 9 "GrandsireLoft$Method" "number" "I" ∈ zW := zW_in 558 (by decide +kernel) rfl
theorem zw_559 : Cond.fieldLink RX10 215 "GrandsireLoft$Method" "number" "I" ∈ zW := zW_in 559 (by decide +kernel) rfl
theorem zw_560 : Cond.fieldLink RX4 15 "GrandsireLoft$Method" "stage" "I" ∈ zW := zW_in 560 (by decide +kernel) rfl
theorem zw_561 : Cond.fieldLink RX9 43 "GrandsireLoft$Method" "stage" "I" ∈ zW := zW_in 561 (by decide +kernel) rfl
theorem zw_562 : Cond.fieldLink RX10 104 "GrandsireLoft$Method" "stage" "I" ∈ zW := zW_in 562 (by decide +kernel) rfl
theorem zw_563 : Cond.fieldLink RX4 18 "GrandsireLoft$Method" "length" "I" ∈ zW := zW_in 563 (by decide +kernel) rfl
theorem zw_564 : Cond.fieldLink RX10 121 "GrandsireLoft$Method" "length" "I" ∈ zW := zW_in 564 (by decide +kernel) rfl
theorem zw_565 : Cond.fieldLink RX9 63 "GrandsireLoft$Method" "length" "I" ∈ zW := zW_in 565 (by decide +kernel) rfl
theorem zw_566 : Cond.fieldLink RX4 55 "GrandsireLoft$Method" "falseCount" "I" ∈ zW := zW_in 566 (by decide +kernel) rfl
theorem zw_567 : Cond.fieldLink RX10 168 "GrandsireLoft$Method" "falseCount" "I" ∈ zW := zW_in 567 (by decide +kernel) rfl
theorem zw_568 : Cond.fieldLink RX4 21 "GrandsireLoft$Method" "changes" "[I" ∈ zW := zW_in 568 (by decide +kernel) rfl
theorem zw_569 : Cond.fieldLink RX4 25 "GrandsireLoft$Method" "lastChanges" "[I" ∈ zW := zW_in 569 (by decide +kernel) rfl
theorem zw_570 : Cond.fieldLink RX4 28 "GrandsireLoft$Method" "falseNumbers" "[I" ∈ zW := zW_in 570 (by decide +kernel) rfl
theorem zw_586 : Cond.methodLink RX10 96 yJx4a65c_add_9ea2d ∈ zW := zW_in 586 (by decide +kernel) rfl
theorem zw_587 : Cond.instanceMethod yJx4a65c_add_9ea2d ∈ zW := zW_in 587 (by decide +kernel) rfl
theorem zw_588 : Cond.selects RJx4a65c yJx4a65c_add_9ea2d yJx4a65c_add_9ea2d ∈ zW := zW_in 588 (by decide +kernel) rfl
theorem zw_589 : Cond.code yJx4a65c_add_9ea2d cJx4a65c_add_9ea2d 2 (some .boolean) ∈ zW := zW_in 589 (by decide +kernel) rfl
theorem zw_590 : Cond.methodLink RJx4a65c 131 yJx4a65c_add_72be8 ∈ zW := zW_in 590 (by decide +kernel) rfl
theorem zw_592 : Cond.instanceMethod yJx4a65c_add_72be8 ∈ zW := zW_in 592 (by decide +kernel) rfl
theorem zw_593 : Cond.code yJx4a65c_add_72be8 cJx4a65c_add_72be8 4 none ∈ zW := zW_in 593 (by decide +kernel) rfl
theorem zw_594 : Cond.methodLink RJx4a65c 129 yJx4a65c_grow_d5877 ∈ zW := zW_in 594 (by decide +kernel) rfl
theorem zw_596 : Cond.instanceMethod yJx4a65c_grow_d5877 ∈ zW := zW_in 596 (by decide +kernel) rfl
theorem zw_597 : Cond.code yJx4a65c_grow_d5877 cJx4a65c_grow_d5877 1 (some (.array (.object "java/lang/Object"))) ∈ zW := zW_in 597 (by decide +kernel) rfl
theorem zw_598 : Cond.methodLink RJx4a65c 69 yJx4a65c_grow_92f84 ∈ zW := zW_in 598 (by decide +kernel) rfl
theorem zw_600 : Cond.instanceMethod yJx4a65c_grow_92f84 ∈ zW := zW_in 600 (by decide +kernel) rfl
theorem zw_601 : Cond.code yJx4a65c_grow_92f84 cJx4a65c_grow_92f84 4 (some (.array (.object "java/lang/Object"))) ∈ zW := zW_in 601 (by decide +kernel) rfl
theorem zw_602 : Cond.methodLink RJx4a65c 73 yJ8_newLength_cabcc ∈ zW := zW_in 602 (by decide +kernel) rfl
theorem zw_603 : Cond.static yJ8_newLength_cabcc ∈ zW := zW_in 603 (by decide +kernel) rfl
theorem zw_604 : Cond.code yJ8_newLength_cabcc cJ8_newLength_cabcc 4 (some .int) ∈ zW := zW_in 604 (by decide +kernel) rfl
theorem zw_605 : Cond.methodLink RJ8 194 yJ9_max_7cf53 ∈ zW := zW_in 605 (by decide +kernel) rfl
theorem zw_606 : Cond.static yJ9_max_7cf53 ∈ zW := zW_in 606 (by decide +kernel) rfl
theorem zw_607 : Cond.code Lib.Math.max.name Lib.Math.max.code 2 (some .int) ∈ zW := zW_in 607 (by decide +kernel) rfl
theorem zw_608 : Cond.constant RJ8 200 2147483639 ∈ zW := zW_in 608 (by decide +kernel) rfl
theorem zw_612 : Cond.methodLink RJx4a65c 66 yJ7_copyOf_1904c ∈ zW := zW_in 612 (by decide +kernel) rfl
theorem zw_613 : Cond.static yJ7_copyOf_1904c ∈ zW := zW_in 613 (by decide +kernel) rfl
theorem zw_614 : Cond.code yJ7_copyOf_1904c cJ7_copyOf_1904c 2 (some (.array (.object "java/lang/Object"))) ∈ zW := zW_in 614 (by decide +kernel) rfl
theorem zw_615 : Cond.methodLink RJ7 86 ⟨"java/lang/Object", "getClass", "()Ljava/lang/Class;"⟩ ∈ zW := zW_in 615 (by decide +kernel) rfl
theorem zw_616 : Cond.instanceMethod ⟨"java/lang/Object", "getClass", "()Ljava/lang/Class;"⟩ ∈ zW := zW_in 616 (by decide +kernel) rfl
theorem zw_633 : Cond.native ⟨"java/lang/Object", "getClass", "()Ljava/lang/Class;"⟩ ∈ zW := zW_in 633 (by decide +kernel) rfl
theorem zw_634 : Cond.methodLink RJ7 300 yJ7_copyOf_6403c ∈ zW := zW_in 634 (by decide +kernel) rfl
theorem zw_635 : Cond.static yJ7_copyOf_6403c ∈ zW := zW_in 635 (by decide +kernel) rfl
theorem zw_636 : Cond.code yJ7_copyOf_6403c cJ7_copyOf_6403c 4 (some (.array (.object "java/lang/Object"))) ∈ zW := zW_in 636 (by decide +kernel) rfl
theorem zw_637 : Cond.classLink RJ7 110 "[Ljava/lang/Object;" ∈ zW := zW_in 637 (by decide +kernel) rfl
theorem zw_639 : Cond.classLink RJ7 2 "java/lang/Object" ∈ zW := zW_in 639 (by decide +kernel) rfl
theorem zw_640 : Cond.methodLink RJ7 304 yJ9_min_7cf53 ∈ zW := zW_in 640 (by decide +kernel) rfl
theorem zw_641 : Cond.static yJ9_min_7cf53 ∈ zW := zW_in 641 (by decide +kernel) rfl
theorem zw_642 : Cond.code Lib.Math.min.name Lib.Math.min.code 2 (some .int) ∈ zW := zW_in 642 (by decide +kernel) rfl
theorem zw_643 : Cond.methodLink RJ7 150 arraycopyName ∈ zW := zW_in 643 (by decide +kernel) rfl
theorem zw_644 : Cond.static arraycopyName ∈ zW := zW_in 644 (by decide +kernel) rfl
theorem zw_645 : Cond.native arraycopyName ∈ zW := zW_in 645 (by decide +kernel) rfl
theorem zw_646 : Cond.methodLink RJx4a65c 79 yJ9_max_7cf53 ∈ zW := zW_in 646 (by decide +kernel) rfl
theorem zw_647 : Cond.classLink RJx4a65c 7 "java/lang/Object" ∈ zW := zW_in 647 (by decide +kernel) rfl
theorem zw_656 : Cond.methodLink RX10 100 yX10_methodAt ∈ zW := zW_in 656 (by decide +kernel) rfl
theorem zw_658 : Cond.instanceMethod yX10_methodAt ∈ zW := zW_in 658 (by decide +kernel) rfl
theorem zw_659 : Cond.code yX10_methodAt cX10_methodAt 2 (some (.object "GrandsireLoft$Method")) ∈ zW := zW_in 659 (by decide +kernel) rfl
theorem zw_660 : Cond.methodLink RX10 162 yX10_requireIndex ∈ zW := zW_in 660 (by decide +kernel) rfl
theorem zw_661 : Cond.static yX10_requireIndex ∈ zW := zW_in 661 (by decide +kernel) rfl
theorem zw_662 : Cond.code yX10_requireIndex cX10_requireIndex 2 none ∈ zW := zW_in 662 (by decide +kernel) rfl
theorem zw_663 : Cond.classLink RX10 142 "java/lang/IndexOutOfBoundsException" ∈ zW := zW_in 663 (by decide +kernel) rfl
theorem zw_679 : Cond.methodLink RX10 211 yJx4a65c_get_915e3 ∈ zW := zW_in 679 (by decide +kernel) rfl
theorem zw_680 : Cond.instanceMethod yJx4a65c_get_915e3 ∈ zW := zW_in 680 (by decide +kernel) rfl
theorem zw_681 : Cond.selects RJx4a65c yJx4a65c_get_915e3 yJx4a65c_get_915e3 ∈ zW := zW_in 681 (by decide +kernel) rfl
theorem zw_682 : Cond.code yJx4a65c_get_915e3 cJx4a65c_get_915e3 2 (some (.object "java/lang/Object")) ∈ zW := zW_in 682 (by decide +kernel) rfl
theorem zw_683 : Cond.methodLink RJx4a65c 118 yJ15_checkIndex_7cf53 ∈ zW := zW_in 683 (by decide +kernel) rfl
theorem zw_684 : Cond.static yJ15_checkIndex_7cf53 ∈ zW := zW_in 684 (by decide +kernel) rfl
theorem zw_685 : Cond.code yJ15_checkIndex_7cf53 cJ15_checkIndex_7cf53 2 (some .int) ∈ zW := zW_in 685 (by decide +kernel) rfl
theorem zw_686 : Cond.methodLink RJ15 105 yJ3_checkIndex_8e157 ∈ zW := zW_in 686 (by decide +kernel) rfl
theorem zw_687 : Cond.static yJ3_checkIndex_8e157 ∈ zW := zW_in 687 (by decide +kernel) rfl
theorem zw_688 : Cond.code yJ3_checkIndex_8e157 cJ3_checkIndex_8e157 3 (some .int) ∈ zW := zW_in 688 (by decide +kernel) rfl
theorem zw_689 : Cond.methodLink RJx4a65c 123 yJx4a65c_elementData_915e3 ∈ zW := zW_in 689 (by decide +kernel) rfl
theorem zw_690 : Cond.instanceMethod yJx4a65c_elementData_915e3 ∈ zW := zW_in 690 (by decide +kernel) rfl
theorem zw_691 : Cond.selects RJx4a65c yJx4a65c_elementData_915e3 yJx4a65c_elementData_915e3 ∈ zW := zW_in 691 (by decide +kernel) rfl
theorem zw_692 : Cond.code yJx4a65c_elementData_915e3 cJx4a65c_elementData_915e3 2 (some (.object "java/lang/Object")) ∈ zW := zW_in 692 (by decide +kernel) rfl
theorem zw_694 : Cond.methodLink RX10 118 yX10_requireSilence ∈ zW := zW_in 694 (by decide +kernel) rfl
theorem zw_696 : Cond.instanceMethod yX10_requireSilence ∈ zW := zW_in 696 (by decide +kernel) rfl
theorem zw_697 : Cond.code yX10_requireSilence cX10_requireSilence 1 none ∈ zW := zW_in 697 (by decide +kernel) rfl
theorem zw_699 : Cond.methodLink RX10 124 yX4_changeOf ∈ zW := zW_in 699 (by decide +kernel) rfl
theorem zw_700 : Cond.instanceMethod yX4_changeOf ∈ zW := zW_in 700 (by decide +kernel) rfl
theorem zw_701 : Cond.selects RX4 yX4_changeOf yX4_changeOf ∈ zW := zW_in 701 (by decide +kernel) rfl
theorem zw_702 : Cond.code yX4_changeOf cX4_changeOf 3 (some .int) ∈ zW := zW_in 702 (by decide +kernel) rfl
theorem zw_703 : Cond.methodLink RX10 128 yX4_setLastChange ∈ zW := zW_in 703 (by decide +kernel) rfl
theorem zw_704 : Cond.instanceMethod yX4_setLastChange ∈ zW := zW_in 704 (by decide +kernel) rfl
theorem zw_705 : Cond.selects RX4 yX4_setLastChange yX4_setLastChange ∈ zW := zW_in 705 (by decide +kernel) rfl
theorem zw_706 : Cond.code yX4_setLastChange cX4_setLastChange 3 none ∈ zW := zW_in 706 (by decide +kernel) rfl
theorem zw_707 : Cond.methodLink RX10 132 yX10_rewriteTouches ∈ zW := zW_in 707 (by decide +kernel) rfl
theorem zw_709 : Cond.instanceMethod yX10_rewriteTouches ∈ zW := zW_in 709 (by decide +kernel) rfl
theorem zw_710 : Cond.code yX10_rewriteTouches cX10_rewriteTouches 2 none ∈ zW := zW_in 710 (by decide +kernel) rfl
theorem zw_711 : Cond.methodLink RX10 192 yX9_writeFrom ∈ zW := zW_in 711 (by decide +kernel) rfl
theorem zw_712 : Cond.instanceMethod yX9_writeFrom ∈ zW := zW_in 712 (by decide +kernel) rfl
theorem zw_713 : Cond.selects RX9 yX9_writeFrom yX9_writeFrom ∈ zW := zW_in 713 (by decide +kernel) rfl
theorem zw_714 : Cond.code yX9_writeFrom cX9_writeFrom 4 none ∈ zW := zW_in 714 (by decide +kernel) rfl
theorem zw_715 : Cond.methodLink RX9 59 yJx4a65c_get_915e3 ∈ zW := zW_in 715 (by decide +kernel) rfl
theorem zw_716 : Cond.classLink RX9 44 RX4 ∈ zW := zW_in 716 (by decide +kernel) rfl
theorem zw_717 : Cond.methodLink RX9 66 yX9_writeLead ∈ zW := zW_in 717 (by decide +kernel) rfl
theorem zw_719 : Cond.instanceMethod yX9_writeLead ∈ zW := zW_in 719 (by decide +kernel) rfl
theorem zw_720 : Cond.code yX9_writeLead cX9_writeLead 6 none ∈ zW := zW_in 720 (by decide +kernel) rfl
theorem zw_721 : Cond.methodLink RX9 70 yX9_lastRow ∈ zW := zW_in 721 (by decide +kernel) rfl
theorem zw_723 : Cond.instanceMethod yX9_lastRow ∈ zW := zW_in 723 (by decide +kernel) rfl
theorem zw_724 : Cond.code yX9_lastRow cX9_lastRow 1 (some .int) ∈ zW := zW_in 724 (by decide +kernel) rfl
theorem zw_725 : Cond.methodLink RX9 73 yX8_rounds ∈ zW := zW_in 725 (by decide +kernel) rfl
theorem zw_726 : Cond.methodLink RX9 83 yX4_changeOf ∈ zW := zW_in 726 (by decide +kernel) rfl
theorem zw_727 : Cond.methodLink RX9 87 yX8_afterChange ∈ zW := zW_in 727 (by decide +kernel) rfl
theorem zw_728 : Cond.methodLink RX9 91 yX5_isRepeat ∈ zW := zW_in 728 (by decide +kernel) rfl
theorem zw_729 : Cond.instanceMethod yX5_isRepeat ∈ zW := zW_in 729 (by decide +kernel) rfl
theorem zw_730 : Cond.selects RX5 yX5_isRepeat yX5_isRepeat ∈ zW := zW_in 730 (by decide +kernel) rfl
theorem zw_731 : Cond.code yX5_isRepeat cX5_isRepeat 6 (some .boolean) ∈ zW := zW_in 731 (by decide +kernel) rfl
theorem zw_732 : Cond.methodLink RX5 15 yX8_number ∈ zW := zW_in 732 (by decide +kernel) rfl
theorem zw_733 : Cond.methodLink RX10 135 yX0_bellsOut ∈ zW := zW_in 733 (by decide +kernel) rfl
theorem zw_734 : Cond.instanceMethod yX0_bellsOut ∈ zW := zW_in 734 (by decide +kernel) rfl
theorem zw_735 : Cond.selects RX0 yX0_bellsOut yX0_bellsOut ∈ zW := zW_in 735 (by decide +kernel) rfl
theorem zw_736 : Cond.code yX0_bellsOut cX0_bellsOut 3 (some .int) ∈ zW := zW_in 736 (by decide +kernel) rfl
theorem zw_737 : Cond.methodLink RX0 18 yX1_isUsable ∈ zW := zW_in 737 (by decide +kernel) rfl
theorem zw_738 : Cond.instanceMethod yX1_isUsable ∈ zW := zW_in 738 (by decide +kernel) rfl
theorem zw_739 : Cond.selects RX1 yX1_isUsable yX1_isUsable ∈ zW := zW_in 739 (by decide +kernel) rfl
theorem zw_740 : Cond.code yX1_isUsable cX1_isUsable 1 (some .boolean) ∈ zW := zW_in 740 (by decide +kernel) rfl
theorem zw_741 : Cond.methodLink RX10 138 yX7_dropUnfit ∈ zW := zW_in 741 (by decide +kernel) rfl
theorem zw_742 : Cond.instanceMethod yX7_dropUnfit ∈ zW := zW_in 742 (by decide +kernel) rfl
theorem zw_743 : Cond.selects RX7 yX7_dropUnfit yX7_dropUnfit ∈ zW := zW_in 743 (by decide +kernel) rfl
theorem zw_744 : Cond.code yX7_dropUnfit cX7_dropUnfit 4 (some .int) ∈ zW := zW_in 744 (by decide +kernel) rfl
theorem zw_745 : Cond.methodLink RX7 69 yX3_dropUnfit ∈ zW := zW_in 745 (by decide +kernel) rfl
theorem zw_746 : Cond.instanceMethod yX3_dropUnfit ∈ zW := zW_in 746 (by decide +kernel) rfl
theorem zw_747 : Cond.selects RX3 yX3_dropUnfit yX3_dropUnfit ∈ zW := zW_in 747 (by decide +kernel) rfl
theorem zw_748 : Cond.code yX3_dropUnfit cX3_dropUnfit 4 (some .int) ∈ zW := zW_in 748 (by decide +kernel) rfl
theorem zw_749 : Cond.methodLink RX3 18 yJx4a65c_size_8abf5 ∈ zW := zW_in 749 (by decide +kernel) rfl
theorem zw_750 : Cond.methodLink RX3 22 yJx4a65c_get_915e3 ∈ zW := zW_in 750 (by decide +kernel) rfl
theorem zw_751 : Cond.classLink RX3 30 RX9 ∈ zW := zW_in 751 (by decide +kernel) rfl
theorem zw_752 : Cond.methodLink RX3 45 yX9_isFit ∈ zW := zW_in 752 (by decide +kernel) rfl
theorem zw_753 : Cond.instanceMethod yX9_isFit ∈ zW := zW_in 753 (by decide +kernel) rfl
theorem zw_754 : Cond.selects RX9 yX9_isFit yX9_isFit ∈ zW := zW_in 754 (by decide +kernel) rfl
theorem zw_755 : Cond.code yX9_isFit cX9_isFit 3 (some .boolean) ∈ zW := zW_in 755 (by decide +kernel) rfl
theorem zw_756 : Cond.methodLink RX9 97 yX9_isSound ∈ zW := zW_in 756 (by decide +kernel) rfl
theorem zw_757 : Cond.instanceMethod yX9_isSound ∈ zW := zW_in 757 (by decide +kernel) rfl
theorem zw_758 : Cond.selects RX9 yX9_isSound yX9_isSound ∈ zW := zW_in 758 (by decide +kernel) rfl
theorem zw_759 : Cond.code yX9_isSound cX9_isSound 1 (some .boolean) ∈ zW := zW_in 759 (by decide +kernel) rfl
theorem zw_760 : Cond.methodLink RX3 42 yJx4a65c_remove_915e3 ∈ zW := zW_in 760 (by decide +kernel) rfl
theorem zw_761 : Cond.instanceMethod yJx4a65c_remove_915e3 ∈ zW := zW_in 761 (by decide +kernel) rfl
theorem zw_762 : Cond.selects RJx4a65c yJx4a65c_remove_915e3 yJx4a65c_remove_915e3 ∈ zW := zW_in 762 (by decide +kernel) rfl
theorem zw_763 : Cond.code yJx4a65c_remove_915e3 cJx4a65c_remove_915e3 4 (some (.object "java/lang/Object")) ∈ zW := zW_in 763 (by decide +kernel) rfl
theorem zw_764 : Cond.methodLink RJx4a65c 144 yJx4a65c_fastRemove_b59b0 ∈ zW := zW_in 764 (by decide +kernel) rfl
theorem zw_766 : Cond.instanceMethod yJx4a65c_fastRemove_b59b0 ∈ zW := zW_in 766 (by decide +kernel) rfl
theorem zw_767 : Cond.code yJx4a65c_fastRemove_b59b0 cJx4a65c_fastRemove_b59b0 4 none ∈ zW := zW_in 767 (by decide +kernel) rfl
theorem zw_768 : Cond.methodLink RJx4a65c 112 arraycopyName ∈ zW := zW_in 768 (by decide +kernel) rfl
theorem zw_791 : Cond.methodLink RX10 147 yX8_rounds ∈ zW := zW_in 791 (by decide +kernel) rfl
theorem zw_792 : Cond.methodLink RX10 150 yX4_lastRow ∈ zW := zW_in 792 (by decide +kernel) rfl
theorem zw_793 : Cond.instanceMethod yX4_lastRow ∈ zW := zW_in 793 (by decide +kernel) rfl
theorem zw_794 : Cond.selects RX4 yX4_lastRow yX4_lastRow ∈ zW := zW_in 794 (by decide +kernel) rfl
theorem zw_795 : Cond.code yX4_lastRow cX4_lastRow 5 (some .int) ∈ zW := zW_in 795 (by decide +kernel) rfl
theorem zw_796 : Cond.methodLink RX4 34 yX4_changeOf ∈ zW := zW_in 796 (by decide +kernel) rfl
theorem zw_797 : Cond.methodLink RX10 153 yX8_number ∈ zW := zW_in 797 (by decide +kernel) rfl
theorem zw_805 : Cond.methodLink RX10 156 yX4_leadsToRounds ∈ zW := zW_in 805 (by decide +kernel) rfl
theorem zw_806 : Cond.instanceMethod yX4_leadsToRounds ∈ zW := zW_in 806 (by decide +kernel) rfl
theorem zw_807 : Cond.selects RX4 yX4_leadsToRounds yX4_leadsToRounds ∈ zW := zW_in 807 (by decide +kernel) rfl
theorem zw_808 : Cond.code yX4_leadsToRounds cX4_leadsToRounds 4 (some .int) ∈ zW := zW_in 808 (by decide +kernel) rfl
theorem zw_809 : Cond.methodLink RX4 48 yX4_lastRow ∈ zW := zW_in 809 (by decide +kernel) rfl
theorem zw_817 : Cond.methodLink RX10 159 yX8_count ∈ zW := zW_in 817 (by decide +kernel) rfl
theorem zw_818 : Cond.static yX8_count ∈ zW := zW_in 818 (by decide +kernel) rfl
theorem zw_819 : Cond.code yX8_count cX8_count 3 (some .int) ∈ zW := zW_in 819 (by decide +kernel) rfl
theorem zw_820 : Cond.methodLink RX10 165 yX4_hasFalse ∈ zW := zW_in 820 (by decide +kernel) rfl
theorem zw_835 : Cond.methodLink RX10 171 yX9_takesLead ∈ zW := zW_in 835 (by decide +kernel) rfl
theorem zw_836 : Cond.instanceMethod yX9_takesLead ∈ zW := zW_in 836 (by decide +kernel) rfl
theorem zw_837 : Cond.selects RX9 yX9_takesLead yX9_takesLead ∈ zW := zW_in 837 (by decide +kernel) rfl
theorem zw_838 : Cond.code yX9_takesLead cX9_takesLead 2 (some .boolean) ∈ zW := zW_in 838 (by decide +kernel) rfl
theorem zw_839 : Cond.methodLink RX9 39 yJx4a65c_isEmpty_aae02 ∈ zW := zW_in 839 (by decide +kernel) rfl
theorem zw_840 : Cond.instanceMethod yJx4a65c_isEmpty_aae02 ∈ zW := zW_in 840 (by decide +kernel) rfl
theorem zw_841 : Cond.selects RJx4a65c yJx4a65c_isEmpty_aae02 yJx4a65c_isEmpty_aae02 ∈ zW := zW_in 841 (by decide +kernel) rfl
theorem zw_842 : Cond.code yJx4a65c_isEmpty_aae02 cJx4a65c_isEmpty_aae02 1 (some .boolean) ∈ zW := zW_in 842 (by decide +kernel) rfl
theorem zw_844 : Cond.methodLink RX10 177 yX9_addLead ∈ zW := zW_in 844 (by decide +kernel) rfl
theorem zw_845 : Cond.instanceMethod yX9_addLead ∈ zW := zW_in 845 (by decide +kernel) rfl
theorem zw_846 : Cond.selects RX9 yX9_addLead yX9_addLead ∈ zW := zW_in 846 (by decide +kernel) rfl
theorem zw_847 : Cond.code yX9_addLead cX9_addLead 3 none ∈ zW := zW_in 847 (by decide +kernel) rfl
theorem zw_848 : Cond.methodLink RX9 49 yJx4a65c_add_9ea2d ∈ zW := zW_in 848 (by decide +kernel) rfl
theorem zw_857 : Cond.methodLink RX10 189 yX10_requireRoomForTouch ∈ zW := zW_in 857 (by decide +kernel) rfl
theorem zw_859 : Cond.instanceMethod yX10_requireRoomForTouch ∈ zW := zW_in 859 (by decide +kernel) rfl
theorem zw_860 : Cond.code yX10_requireRoomForTouch cX10_requireRoomForTouch 1 none ∈ zW := zW_in 860 (by decide +kernel) rfl
theorem zw_862 : Cond.methodLink RX10 196 yX10_keepTouch ∈ zW := zW_in 862 (by decide +kernel) rfl
theorem zw_864 : Cond.instanceMethod yX10_keepTouch ∈ zW := zW_in 864 (by decide +kernel) rfl
theorem zw_865 : Cond.code yX10_keepTouch cX10_keepTouch 2 (some .int) ∈ zW := zW_in 865 (by decide +kernel) rfl
theorem zw_873 : Cond.methodLink RX10 200 yX2_soundTouch ∈ zW := zW_in 873 (by decide +kernel) rfl
theorem zw_874 : Cond.instanceMethod yX2_soundTouch ∈ zW := zW_in 874 (by decide +kernel) rfl
theorem zw_875 : Cond.selects RX2 yX2_soundTouch yX2_soundTouch ∈ zW := zW_in 875 (by decide +kernel) rfl
theorem zw_876 : Cond.code yX2_soundTouch cX2_soundTouch 5 (some (.object "GrandsireLoft$Touch")) ∈ zW := zW_in 876 (by decide +kernel) rfl
theorem zw_877 : Cond.methodLink RX2 22 yX9_clear ∈ zW := zW_in 877 (by decide +kernel) rfl
theorem zw_878 : Cond.methodLink RX2 25 yX9_addLead ∈ zW := zW_in 878 (by decide +kernel) rfl
theorem zw_879 : Cond.methodLink RX2 29 yX9_writeFrom ∈ zW := zW_in 879 (by decide +kernel) rfl
theorem zw_880 : Cond.methodLink RX2 33 yX9_isSound ∈ zW := zW_in 880 (by decide +kernel) rfl
theorem zw_881 : Cond.methodLink RX2 37 yX2_handOutTrial ∈ zW := zW_in 881 (by decide +kernel) rfl
theorem zw_883 : Cond.instanceMethod yX2_handOutTrial ∈ zW := zW_in 883 (by decide +kernel) rfl
theorem zw_884 : Cond.code yX2_handOutTrial cX2_handOutTrial 2 (some (.object "GrandsireLoft$Touch")) ∈ zW := zW_in 884 (by decide +kernel) rfl
theorem zw_885 : Cond.methodLink RX2 48 yX2_callNext ∈ zW := zW_in 885 (by decide +kernel) rfl
theorem zw_887 : Cond.instanceMethod yX2_callNext ∈ zW := zW_in 887 (by decide +kernel) rfl
theorem zw_888 : Cond.code yX2_callNext cX2_callNext 5 (some .int) ∈ zW := zW_in 888 (by decide +kernel) rfl
theorem zw_889 : Cond.methodLink RX2 56 yX4_nextUnlikeCall ∈ zW := zW_in 889 (by decide +kernel) rfl
theorem zw_890 : Cond.instanceMethod yX4_nextUnlikeCall ∈ zW := zW_in 890 (by decide +kernel) rfl
theorem zw_891 : Cond.selects RX4 yX4_nextUnlikeCall yX4_nextUnlikeCall ∈ zW := zW_in 891 (by decide +kernel) rfl
theorem zw_892 : Cond.code yX4_nextUnlikeCall cX4_nextUnlikeCall 3 (some .int) ∈ zW := zW_in 892 (by decide +kernel) rfl
theorem zw_893 : Cond.methodLink RX4 51 yX4_isLikeLesserCall ∈ zW := zW_in 893 (by decide +kernel) rfl
theorem zw_895 : Cond.instanceMethod yX4_isLikeLesserCall ∈ zW := zW_in 895 (by decide +kernel) rfl
theorem zw_896 : Cond.code yX4_isLikeLesserCall cX4_isLikeLesserCall 3 (some .boolean) ∈ zW := zW_in 896 (by decide +kernel) rfl
theorem zw_904 : Cond.methodLink RX10 204 yX10_touchAt ∈ zW := zW_in 904 (by decide +kernel) rfl
theorem zw_906 : Cond.instanceMethod yX10_touchAt ∈ zW := zW_in 906 (by decide +kernel) rfl
theorem zw_907 : Cond.code yX10_touchAt cX10_touchAt 2 (some (.object "GrandsireLoft$Touch")) ∈ zW := zW_in 907 (by decide +kernel) rfl
theorem zw_936 : Cond.methodLink RX10 227 yX9_rowAnew ∈ zW := zW_in 936 (by decide +kernel) rfl
theorem zw_937 : Cond.instanceMethod yX9_rowAnew ∈ zW := zW_in 937 (by decide +kernel) rfl
theorem zw_938 : Cond.selects RX9 yX9_rowAnew yX9_rowAnew ∈ zW := zW_in 938 (by decide +kernel) rfl
theorem zw_939 : Cond.code yX9_rowAnew cX9_rowAnew 7 (some .int) ∈ zW := zW_in 939 (by decide +kernel) rfl
theorem zw_940 : Cond.methodLink RX10 230 yX8_bellIn ∈ zW := zW_in 940 (by decide +kernel) rfl
theorem zw_969 : Cond.methodLink RX10 240 yX10_bellNumbered ∈ zW := zW_in 969 (by decide +kernel) rfl
theorem zw_971 : Cond.instanceMethod yX10_bellNumbered ∈ zW := zW_in 971 (by decide +kernel) rfl
theorem zw_972 : Cond.code yX10_bellNumbered cX10_bellNumbered 2 (some (.object "GrandsireLoft$Bell")) ∈ zW := zW_in 972 (by decide +kernel) rfl
theorem zw_982 : Cond.methodLink RX10 253 yX1_isUsable ∈ zW := zW_in 982 (by decide +kernel) rfl
theorem zw_990 : Cond.methodLink RX10 257 yX1_renew ∈ zW := zW_in 990 (by decide +kernel) rfl
theorem zw_991 : Cond.instanceMethod yX1_renew ∈ zW := zW_in 991 (by decide +kernel) rfl
theorem zw_992 : Cond.selects RX1 yX1_renew yX1_renew ∈ zW := zW_in 992 (by decide +kernel) rfl
theorem zw_993 : Cond.code yX1_renew cX1_renew 3 (some .int) ∈ zW := zW_in 993 (by decide +kernel) rfl
theorem zw_1022 : Cond.methodLink RX10 266 yX10_dayAt ∈ zW := zW_in 1022 (by decide +kernel) rfl
theorem zw_1024 : Cond.instanceMethod yX10_dayAt ∈ zW := zW_in 1024 (by decide +kernel) rfl
theorem zw_1025 : Cond.code yX10_dayAt cX10_dayAt 2 (some (.object "GrandsireLoft$Day")) ∈ zW := zW_in 1025 (by decide +kernel) rfl
theorem zw_1026 : Cond.methodLink RX10 270 yX3_takesTouch ∈ zW := zW_in 1026 (by decide +kernel) rfl
theorem zw_1027 : Cond.instanceMethod yX3_takesTouch ∈ zW := zW_in 1027 (by decide +kernel) rfl
theorem zw_1028 : Cond.selects RX3 yX3_takesTouch yX3_takesTouch ∈ zW := zW_in 1028 (by decide +kernel) rfl
theorem zw_1029 : Cond.code yX3_takesTouch cX3_takesTouch 2 (some .boolean) ∈ zW := zW_in 1029 (by decide +kernel) rfl
theorem zw_1030 : Cond.methodLink RX3 26 yX3_hasTouch ∈ zW := zW_in 1030 (by decide +kernel) rfl
theorem zw_1031 : Cond.instanceMethod yX3_hasTouch ∈ zW := zW_in 1031 (by decide +kernel) rfl
theorem zw_1032 : Cond.selects RX3 yX3_hasTouch yX3_hasTouch ∈ zW := zW_in 1032 (by decide +kernel) rfl
theorem zw_1033 : Cond.code yX3_hasTouch cX3_hasTouch 3 (some .boolean) ∈ zW := zW_in 1033 (by decide +kernel) rfl
theorem zw_1034 : Cond.methodLink RX10 276 yX9_isFit ∈ zW := zW_in 1034 (by decide +kernel) rfl
theorem zw_1057 : Cond.methodLink RX10 288 yX7_bandFor ∈ zW := zW_in 1057 (by decide +kernel) rfl
theorem zw_1058 : Cond.instanceMethod yX7_bandFor ∈ zW := zW_in 1058 (by decide +kernel) rfl
theorem zw_1059 : Cond.selects RX7 yX7_bandFor yX7_bandFor ∈ zW := zW_in 1059 (by decide +kernel) rfl
theorem zw_1060 : Cond.code yX7_bandFor cX7_bandFor 6 (some .int) ∈ zW := zW_in 1060 (by decide +kernel) rfl
theorem zw_1061 : Cond.methodLink RX7 32 yX3_greatestStage ∈ zW := zW_in 1061 (by decide +kernel) rfl
theorem zw_1062 : Cond.instanceMethod yX3_greatestStage ∈ zW := zW_in 1062 (by decide +kernel) rfl
theorem zw_1063 : Cond.selects RX3 yX3_greatestStage yX3_greatestStage ∈ zW := zW_in 1063 (by decide +kernel) rfl
theorem zw_1064 : Cond.code yX3_greatestStage cX3_greatestStage 3 (some .int) ∈ zW := zW_in 1064 (by decide +kernel) rfl
theorem zw_1065 : Cond.methodLink RX3 36 yJ9_max_7cf53 ∈ zW := zW_in 1065 (by decide +kernel) rfl
theorem zw_1066 : Cond.methodLink RX7 36 yX7_firstBand ∈ zW := zW_in 1066 (by decide +kernel) rfl
theorem zw_1068 : Cond.instanceMethod yX7_firstBand ∈ zW := zW_in 1068 (by decide +kernel) rfl
theorem zw_1069 : Cond.code yX7_firstBand cX7_firstBand 5 (some .int) ∈ zW := zW_in 1069 (by decide +kernel) rfl
theorem zw_1070 : Cond.methodLink RX7 40 yX7_turnBehind ∈ zW := zW_in 1070 (by decide +kernel) rfl
theorem zw_1071 : Cond.static yX7_turnBehind ∈ zW := zW_in 1071 (by decide +kernel) rfl
theorem zw_1072 : Cond.code yX7_turnBehind cX7_turnBehind 2 (some .int) ∈ zW := zW_in 1072 (by decide +kernel) rfl
theorem zw_1081 : Cond.methodLink RX10 293 yX7_endDay ∈ zW := zW_in 1081 (by decide +kernel) rfl
theorem zw_1082 : Cond.instanceMethod yX7_endDay ∈ zW := zW_in 1082 (by decide +kernel) rfl
theorem zw_1083 : Cond.selects RX7 yX7_endDay yX7_endDay ∈ zW := zW_in 1083 (by decide +kernel) rfl
theorem zw_1084 : Cond.code yX7_endDay cX7_endDay 1 none ∈ zW := zW_in 1084 (by decide +kernel) rfl
theorem zw_1085 : Cond.methodLink RX7 43 yX7_bandFor ∈ zW := zW_in 1085 (by decide +kernel) rfl
theorem zw_1086 : Cond.methodLink RX7 60 yJx4a65c_clear_da8c8 ∈ zW := zW_in 1086 (by decide +kernel) rfl
theorem zw_1094 : Cond.methodLink RX10 299 yX7_canRingToday ∈ zW := zW_in 1094 (by decide +kernel) rfl
theorem zw_1095 : Cond.instanceMethod yX7_canRingToday ∈ zW := zW_in 1095 (by decide +kernel) rfl
theorem zw_1096 : Cond.selects RX7 yX7_canRingToday yX7_canRingToday ∈ zW := zW_in 1096 (by decide +kernel) rfl
theorem zw_1097 : Cond.code yX7_canRingToday cX7_canRingToday 3 (some .boolean) ∈ zW := zW_in 1097 (by decide +kernel) rfl
theorem zw_1098 : Cond.methodLink RX7 52 yX3_hasTouch ∈ zW := zW_in 1098 (by decide +kernel) rfl
theorem zw_1100 : Cond.methodLink RX10 304 yX7_keepBandOfToday ∈ zW := zW_in 1100 (by decide +kernel) rfl
theorem zw_1101 : Cond.instanceMethod yX7_keepBandOfToday ∈ zW := zW_in 1101 (by decide +kernel) rfl
theorem zw_1102 : Cond.selects RX7 yX7_keepBandOfToday yX7_keepBandOfToday ∈ zW := zW_in 1102 (by decide +kernel) rfl
theorem zw_1103 : Cond.code yX7_keepBandOfToday cX7_keepBandOfToday 1 none ∈ zW := zW_in 1103 (by decide +kernel) rfl
theorem zw_1104 : Cond.methodLink RX10 307 yX0_forgetPulls ∈ zW := zW_in 1104 (by decide +kernel) rfl
theorem zw_1105 : Cond.instanceMethod yX0_forgetPulls ∈ zW := zW_in 1105 (by decide +kernel) rfl
theorem zw_1106 : Cond.selects RX0 yX0_forgetPulls yX0_forgetPulls ∈ zW := zW_in 1106 (by decide +kernel) rfl
theorem zw_1107 : Cond.code yX0_forgetPulls cX0_forgetPulls 2 none ∈ zW := zW_in 1107 (by decide +kernel) rfl
theorem zw_1108 : Cond.classLink RX10 310 RX6 ∈ zW := zW_in 1108 (by decide +kernel) rfl
theorem zw_1109 : Cond.instantiable RX6 6 ∈ zW := zW_in 1109 (by decide +kernel) rfl
theorem zw_1110 : Cond.methodLink RX10 316 yX6_init ∈ zW := zW_in 1110 (by decide +kernel) rfl
theorem zw_1111 : Cond.instanceMethod yX6_init ∈ zW := zW_in 1111 (by decide +kernel) rfl
theorem zw_1112 : Cond.code yX6_init cX6_init 5 none ∈ zW := zW_in 1112 (by decide +kernel) rfl
theorem zw_1113 : Cond.methodLink RX6 3 objectInit ∈ zW := zW_in 1113 (by decide +kernel) rfl
theorem zw_1114 : Cond.fieldLink RX6 9 "GrandsireLoft$Ringing" "touch" "LGrandsireLoft$Touch;" ∈ zW := zW_in 1114 (by decide +kernel) rfl
theorem zw_1115 : Cond.fieldLink RX10 410 "GrandsireLoft$Ringing" "touch" "LGrandsireLoft$Touch;" ∈ zW := zW_in 1115 (by decide +kernel) rfl
theorem zw_1116 : Cond.fieldLink RX6 62 "GrandsireLoft$Ringing" "doneRows" "I" ∈ zW := zW_in 1116 (by decide +kernel) rfl
theorem zw_1117 : Cond.fieldLink RX10 326 "GrandsireLoft$Ringing" "doneRows" "I" ∈ zW := zW_in 1117 (by decide +kernel) rfl
theorem zw_1118 : Cond.fieldLink RX6 57 "GrandsireLoft$Ringing" "waited" "I" ∈ zW := zW_in 1118 (by decide +kernel) rfl
theorem zw_1119 : Cond.fieldLink RX10 363 "GrandsireLoft$Ringing" "waited" "I" ∈ zW := zW_in 1119 (by decide +kernel) rfl
theorem zw_1120 : Cond.fieldLink RX6 15 "GrandsireLoft$Ringing" "bells" "[LGrandsireLoft$Bell;" ∈ zW := zW_in 1120 (by decide +kernel) rfl
theorem zw_1121 : Cond.fieldLink RX6 19 "GrandsireLoft$Ringing" "people" "I" ∈ zW := zW_in 1121 (by decide +kernel) rfl
theorem zw_1122 : Cond.fieldLink RX6 23 "GrandsireLoft$Ringing" "gap" "I" ∈ zW := zW_in 1122 (by decide +kernel) rfl
theorem zw_1136 : Cond.methodLink RX10 323 yX10_doReadyRows ∈ zW := zW_in 1136 (by decide +kernel) rfl
theorem zw_1138 : Cond.instanceMethod yX10_doReadyRows ∈ zW := zW_in 1138 (by decide +kernel) rfl
theorem zw_1139 : Cond.code yX10_doReadyRows cX10_doReadyRows 3 none ∈ zW := zW_in 1139 (by decide +kernel) rfl
theorem zw_1140 : Cond.methodLink RX10 398 yX6_isNextRowReady ∈ zW := zW_in 1140 (by decide +kernel) rfl
theorem zw_1141 : Cond.instanceMethod yX6_isNextRowReady ∈ zW := zW_in 1141 (by decide +kernel) rfl
theorem zw_1142 : Cond.selects RX6 yX6_isNextRowReady yX6_isNextRowReady ∈ zW := zW_in 1142 (by decide +kernel) rfl
theorem zw_1143 : Cond.code yX6_isNextRowReady cX6_isNextRowReady 2 (some .boolean) ∈ zW := zW_in 1143 (by decide +kernel) rfl
theorem zw_1144 : Cond.methodLink RX6 65 yX6_areAllRowsDone ∈ zW := zW_in 1144 (by decide +kernel) rfl
theorem zw_1145 : Cond.instanceMethod yX6_areAllRowsDone ∈ zW := zW_in 1145 (by decide +kernel) rfl
theorem zw_1146 : Cond.selects RX6 yX6_areAllRowsDone yX6_areAllRowsDone ∈ zW := zW_in 1146 (by decide +kernel) rfl
theorem zw_1147 : Cond.code yX6_areAllRowsDone cX6_areAllRowsDone 1 (some .boolean) ∈ zW := zW_in 1147 (by decide +kernel) rfl
theorem zw_1148 : Cond.methodLink RX6 26 yX6_isByPeople ∈ zW := zW_in 1148 (by decide +kernel) rfl
theorem zw_1150 : Cond.instanceMethod yX6_isByPeople ∈ zW := zW_in 1150 (by decide +kernel) rfl
theorem zw_1151 : Cond.code yX6_isByPeople cX6_isByPeople 2 (some .boolean) ∈ zW := zW_in 1151 (by decide +kernel) rfl
theorem zw_1152 : Cond.methodLink RX10 401 yX6_doNextRow ∈ zW := zW_in 1152 (by decide +kernel) rfl
theorem zw_1153 : Cond.instanceMethod yX6_doNextRow ∈ zW := zW_in 1153 (by decide +kernel) rfl
theorem zw_1154 : Cond.selects RX6 yX6_doNextRow yX6_doNextRow ∈ zW := zW_in 1154 (by decide +kernel) rfl
theorem zw_1155 : Cond.code yX6_doNextRow cX6_doNextRow 5 (some .boolean) ∈ zW := zW_in 1155 (by decide +kernel) rfl
theorem zw_1156 : Cond.methodLink RX6 69 yX6_timeOfBlow ∈ zW := zW_in 1156 (by decide +kernel) rfl
theorem zw_1158 : Cond.instanceMethod yX6_timeOfBlow ∈ zW := zW_in 1158 (by decide +kernel) rfl
theorem zw_1159 : Cond.code yX6_timeOfBlow cX6_timeOfBlow 3 (some .int) ∈ zW := zW_in 1159 (by decide +kernel) rfl
theorem zw_1160 : Cond.methodLink RX6 73 yX8_bellIn ∈ zW := zW_in 1160 (by decide +kernel) rfl
theorem zw_1161 : Cond.methodLink RX6 76 yX1_pullTime ∈ zW := zW_in 1161 (by decide +kernel) rfl
theorem zw_1162 : Cond.instanceMethod yX1_pullTime ∈ zW := zW_in 1162 (by decide +kernel) rfl
theorem zw_1163 : Cond.selects RX1 yX1_pullTime yX1_pullTime ∈ zW := zW_in 1163 (by decide +kernel) rfl
theorem zw_1164 : Cond.code yX1_pullTime cX1_pullTime 2 (some .int) ∈ zW := zW_in 1164 (by decide +kernel) rfl
theorem zw_1165 : Cond.methodLink RX6 79 yX1_strike ∈ zW := zW_in 1165 (by decide +kernel) rfl
theorem zw_1166 : Cond.instanceMethod yX1_strike ∈ zW := zW_in 1166 (by decide +kernel) rfl
theorem zw_1167 : Cond.selects RX1 yX1_strike yX1_strike ∈ zW := zW_in 1167 (by decide +kernel) rfl
theorem zw_1168 : Cond.code yX1_strike cX1_strike 2 none ∈ zW := zW_in 1168 (by decide +kernel) rfl
theorem zw_1169 : Cond.methodLink RX6 53 yX6_dueAt ∈ zW := zW_in 1169 (by decide +kernel) rfl
theorem zw_1171 : Cond.instanceMethod yX6_dueAt ∈ zW := zW_in 1171 (by decide +kernel) rfl
theorem zw_1172 : Cond.code yX6_dueAt cX6_dueAt 3 (some .int) ∈ zW := zW_in 1172 (by decide +kernel) rfl
theorem zw_1173 : Cond.methodLink RX10 404 yX0_noteWornOut ∈ zW := zW_in 1173 (by decide +kernel) rfl
theorem zw_1174 : Cond.instanceMethod yX0_noteWornOut ∈ zW := zW_in 1174 (by decide +kernel) rfl
theorem zw_1175 : Cond.selects RX0 yX0_noteWornOut yX0_noteWornOut ∈ zW := zW_in 1175 (by decide +kernel) rfl
theorem zw_1176 : Cond.code yX0_noteWornOut cX0_noteWornOut 3 (some .boolean) ∈ zW := zW_in 1176 (by decide +kernel) rfl
theorem zw_1177 : Cond.methodLink RX0 22 yX1_noteWornOut ∈ zW := zW_in 1177 (by decide +kernel) rfl
theorem zw_1178 : Cond.instanceMethod yX1_noteWornOut ∈ zW := zW_in 1178 (by decide +kernel) rfl
theorem zw_1179 : Cond.selects RX1 yX1_noteWornOut yX1_noteWornOut ∈ zW := zW_in 1179 (by decide +kernel) rfl
theorem zw_1180 : Cond.code yX1_noteWornOut cX1_noteWornOut 3 (some .boolean) ∈ zW := zW_in 1180 (by decide +kernel) rfl
theorem zw_1181 : Cond.methodLink RX10 331 yX10_endRinging ∈ zW := zW_in 1181 (by decide +kernel) rfl
theorem zw_1183 : Cond.instanceMethod yX10_endRinging ∈ zW := zW_in 1183 (by decide +kernel) rfl
theorem zw_1184 : Cond.code yX10_endRinging cX10_endRinging 1 none ∈ zW := zW_in 1184 (by decide +kernel) rfl
theorem zw_1185 : Cond.methodLink RX10 407 yX6_areAllRowsDone ∈ zW := zW_in 1185 (by decide +kernel) rfl
theorem zw_1186 : Cond.methodLink RX10 413 yX10_countAsRung ∈ zW := zW_in 1186 (by decide +kernel) rfl
theorem zw_1188 : Cond.instanceMethod yX10_countAsRung ∈ zW := zW_in 1188 (by decide +kernel) rfl
theorem zw_1189 : Cond.code yX10_countAsRung cX10_countAsRung 2 none ∈ zW := zW_in 1189 (by decide +kernel) rfl
theorem zw_1190 : Cond.methodLink RX10 417 yX7_takeFromToday ∈ zW := zW_in 1190 (by decide +kernel) rfl
theorem zw_1191 : Cond.instanceMethod yX7_takeFromToday ∈ zW := zW_in 1191 (by decide +kernel) rfl
theorem zw_1192 : Cond.selects RX7 yX7_takeFromToday yX7_takeFromToday ∈ zW := zW_in 1192 (by decide +kernel) rfl
theorem zw_1193 : Cond.code yX7_takeFromToday cX7_takeFromToday 2 none ∈ zW := zW_in 1193 (by decide +kernel) rfl
theorem zw_1194 : Cond.methodLink RX7 65 yX3_takeAway ∈ zW := zW_in 1194 (by decide +kernel) rfl
theorem zw_1195 : Cond.instanceMethod yX3_takeAway ∈ zW := zW_in 1195 (by decide +kernel) rfl
theorem zw_1196 : Cond.selects RX3 yX3_takeAway yX3_takeAway ∈ zW := zW_in 1196 (by decide +kernel) rfl
theorem zw_1197 : Cond.code yX3_takeAway cX3_takeAway 3 none ∈ zW := zW_in 1197 (by decide +kernel) rfl
theorem zw_1213 : Cond.constant RX10 334 2000000000 ∈ zW := zW_in 1213 (by decide +kernel) rfl
theorem zw_1214 : Cond.methodLink RX10 335 yX10_ringingThatAwaits ∈ zW := zW_in 1214 (by decide +kernel) rfl
theorem zw_1216 : Cond.instanceMethod yX10_ringingThatAwaits ∈ zW := zW_in 1216 (by decide +kernel) rfl
theorem zw_1217 : Cond.code yX10_ringingThatAwaits cX10_ringingThatAwaits 3 (some (.object "GrandsireLoft$Ringing")) ∈ zW := zW_in 1217 (by decide +kernel) rfl
theorem zw_1218 : Cond.methodLink RX10 393 yX6_awaitsPull ∈ zW := zW_in 1218 (by decide +kernel) rfl
theorem zw_1219 : Cond.instanceMethod yX6_awaitsPull ∈ zW := zW_in 1219 (by decide +kernel) rfl
theorem zw_1220 : Cond.selects RX6 yX6_awaitsPull yX6_awaitsPull ∈ zW := zW_in 1220 (by decide +kernel) rfl
theorem zw_1221 : Cond.code yX6_awaitsPull cX6_awaitsPull 2 (some .boolean) ∈ zW := zW_in 1221 (by decide +kernel) rfl
theorem zw_1223 : Cond.methodLink RX10 339 yX6_nextDue ∈ zW := zW_in 1223 (by decide +kernel) rfl
theorem zw_1224 : Cond.instanceMethod yX6_nextDue ∈ zW := zW_in 1224 (by decide +kernel) rfl
theorem zw_1225 : Cond.selects RX6 yX6_nextDue yX6_nextDue ∈ zW := zW_in 1225 (by decide +kernel) rfl
theorem zw_1226 : Cond.code yX6_nextDue cX6_nextDue 3 (some .int) ∈ zW := zW_in 1226 (by decide +kernel) rfl
theorem zw_1227 : Cond.methodLink RX6 47 yX8_placeOf ∈ zW := zW_in 1227 (by decide +kernel) rfl
theorem zw_1228 : Cond.static yX8_placeOf ∈ zW := zW_in 1228 (by decide +kernel) rfl
theorem zw_1229 : Cond.code yX8_placeOf cX8_placeOf 4 (some .int) ∈ zW := zW_in 1229 (by decide +kernel) rfl
theorem zw_1230 : Cond.methodLink RX10 342 yX1_hasRoomForError ∈ zW := zW_in 1230 (by decide +kernel) rfl
theorem zw_1231 : Cond.instanceMethod yX1_hasRoomForError ∈ zW := zW_in 1231 (by decide +kernel) rfl
theorem zw_1232 : Cond.selects RX1 yX1_hasRoomForError yX1_hasRoomForError ∈ zW := zW_in 1232 (by decide +kernel) rfl
theorem zw_1233 : Cond.code yX1_hasRoomForError cX1_hasRoomForError 4 (some .boolean) ∈ zW := zW_in 1233 (by decide +kernel) rfl
theorem zw_1234 : Cond.methodLink RX10 345 yX6_canWait ∈ zW := zW_in 1234 (by decide +kernel) rfl
theorem zw_1235 : Cond.instanceMethod yX6_canWait ∈ zW := zW_in 1235 (by decide +kernel) rfl
theorem zw_1236 : Cond.selects RX6 yX6_canWait yX6_canWait ∈ zW := zW_in 1236 (by decide +kernel) rfl
theorem zw_1237 : Cond.code yX6_canWait cX6_canWait 3 (some .boolean) ∈ zW := zW_in 1237 (by decide +kernel) rfl
theorem zw_1238 : Cond.constantLong RX6 60 2000000000 ∈ zW := zW_in 1238 (by decide +kernel) rfl
theorem zw_1240 : Cond.methodLink RX10 350 yX1_hearPull ∈ zW := zW_in 1240 (by decide +kernel) rfl
theorem zw_1241 : Cond.instanceMethod yX1_hearPull ∈ zW := zW_in 1241 (by decide +kernel) rfl
theorem zw_1242 : Cond.selects RX1 yX1_hearPull yX1_hearPull ∈ zW := zW_in 1242 (by decide +kernel) rfl
theorem zw_1243 : Cond.code yX1_hearPull cX1_hearPull 2 none ∈ zW := zW_in 1243 (by decide +kernel) rfl
theorem zw_1244 : Cond.methodLink RX1 30 yX1_strike ∈ zW := zW_in 1244 (by decide +kernel) rfl
theorem zw_1245 : Cond.methodLink RX10 354 yX6_quarterGap ∈ zW := zW_in 1245 (by decide +kernel) rfl
theorem zw_1246 : Cond.instanceMethod yX6_quarterGap ∈ zW := zW_in 1246 (by decide +kernel) rfl
theorem zw_1247 : Cond.selects RX6 yX6_quarterGap yX6_quarterGap ∈ zW := zW_in 1247 (by decide +kernel) rfl
theorem zw_1248 : Cond.code yX6_quarterGap cX6_quarterGap 1 (some .int) ∈ zW := zW_in 1248 (by decide +kernel) rfl
theorem zw_1249 : Cond.methodLink RX10 357 yX1_noteError ∈ zW := zW_in 1249 (by decide +kernel) rfl
theorem zw_1250 : Cond.instanceMethod yX1_noteError ∈ zW := zW_in 1250 (by decide +kernel) rfl
theorem zw_1251 : Cond.selects RX1 yX1_noteError yX1_noteError ∈ zW := zW_in 1251 (by decide +kernel) rfl
theorem zw_1252 : Cond.code yX1_noteError cX1_noteError 3 none ∈ zW := zW_in 1252 (by decide +kernel) rfl
theorem zw_1253 : Cond.methodLink RX10 360 yX6_waitFor ∈ zW := zW_in 1253 (by decide +kernel) rfl
theorem zw_1254 : Cond.instanceMethod yX6_waitFor ∈ zW := zW_in 1254 (by decide +kernel) rfl
theorem zw_1255 : Cond.selects RX6 yX6_waitFor yX6_waitFor ∈ zW := zW_in 1255 (by decide +kernel) rfl
theorem zw_1256 : Cond.code yX6_waitFor cX6_waitFor 3 none ∈ zW := zW_in 1256 (by decide +kernel) rfl
theorem zw_1297 : Cond.methodLink RX11 1 objectInit ∈ zW := zW_in 1297 (by decide +kernel) rfl
theorem zw_1298 : Cond.fieldLink RX11 87 "GrandsireLoftModel" "thrown" "I" ∈ zW := zW_in 1298 (by decide +kernel) rfl
theorem zw_1299 : Cond.fieldLink RX11 98 "GrandsireLoftModel" "draft" "I" ∈ zW := zW_in 1299 (by decide +kernel) rfl
theorem zw_1300 : Cond.fieldLink RX11 7 "GrandsireLoftModel" "drafted" "[I" ∈ zW := zW_in 1300 (by decide +kernel) rfl
theorem zw_1301 : Cond.fieldLink RX11 101 "GrandsireLoftModel" "methods" "I" ∈ zW := zW_in 1301 (by decide +kernel) rfl
theorem zw_1302 : Cond.fieldLink RX11 13 "GrandsireLoftModel" "stage" "[I" ∈ zW := zW_in 1302 (by decide +kernel) rfl
theorem zw_1303 : Cond.fieldLink RX11 16 "GrandsireLoftModel" "size" "[I" ∈ zW := zW_in 1303 (by decide +kernel) rfl
theorem zw_1304 : Cond.fieldLink RX11 19 "GrandsireLoftModel" "changes" "[I" ∈ zW := zW_in 1304 (by decide +kernel) rfl
theorem zw_1305 : Cond.fieldLink RX11 22 "GrandsireLoftModel" "calls" "[I" ∈ zW := zW_in 1305 (by decide +kernel) rfl
theorem zw_1306 : Cond.fieldLink RX11 156 "GrandsireLoftModel" "leads" "I" ∈ zW := zW_in 1306 (by decide +kernel) rfl
theorem zw_1307 : Cond.fieldLink RX11 25 "GrandsireLoftModel" "draftLead" "[I" ∈ zW := zW_in 1307 (by decide +kernel) rfl
theorem zw_1308 : Cond.fieldLink RX11 159 "GrandsireLoftModel" "touches" "I" ∈ zW := zW_in 1308 (by decide +kernel) rfl
theorem zw_1309 : Cond.fieldLink RX11 28 "GrandsireLoftModel" "many" "[I" ∈ zW := zW_in 1309 (by decide +kernel) rfl
theorem zw_1310 : Cond.fieldLink RX11 31 "GrandsireLoftModel" "itsLead" "[I" ∈ zW := zW_in 1310 (by decide +kernel) rfl
theorem zw_1311 : Cond.fieldLink RX11 162 "GrandsireLoftModel" "rows" "I" ∈ zW := zW_in 1311 (by decide +kernel) rfl
theorem zw_1312 : Cond.fieldLink RX11 34 "GrandsireLoftModel" "row" "[I" ∈ zW := zW_in 1312 (by decide +kernel) rfl
theorem zw_1313 : Cond.fieldLink RX11 37 "GrandsireLoftModel" "plain" "[I" ∈ zW := zW_in 1313 (by decide +kernel) rfl
theorem zw_1314 : Cond.fieldLink RX11 40 "GrandsireLoftModel" "by" "[I" ∈ zW := zW_in 1314 (by decide +kernel) rfl
theorem zw_1315 : Cond.fieldLink RX11 43 "GrandsireLoftModel" "wear" "[I" ∈ zW := zW_in 1315 (by decide +kernel) rfl
theorem zw_1316 : Cond.fieldLink RX11 46 "GrandsireLoftModel" "isWorn" "[Z" ∈ zW := zW_in 1316 (by decide +kernel) rfl
theorem zw_1317 : Cond.fieldLink RX11 50 "GrandsireLoftModel" "isOut" "[Z" ∈ zW := zW_in 1317 (by decide +kernel) rfl
theorem zw_1318 : Cond.fieldLink RX11 189 "GrandsireLoftModel" "today" "I" ∈ zW := zW_in 1318 (by decide +kernel) rfl
theorem zw_1319 : Cond.fieldLink RX11 53 "GrandsireLoftModel" "planned" "[I" ∈ zW := zW_in 1319 (by decide +kernel) rfl
theorem zw_1320 : Cond.fieldLink RX11 56 "GrandsireLoftModel" "plan" "[I" ∈ zW := zW_in 1320 (by decide +kernel) rfl
theorem zw_1321 : Cond.fieldLink RX11 199 "GrandsireLoftModel" "dropped" "I" ∈ zW := zW_in 1321 (by decide +kernel) rfl
theorem zw_1322 : Cond.fieldLink RX11 59 "GrandsireLoftModel" "band" "[I" ∈ zW := zW_in 1322 (by decide +kernel) rfl
theorem zw_1323 : Cond.fieldLink RX11 211 "GrandsireLoftModel" "turn" "I" ∈ zW := zW_in 1323 (by decide +kernel) rfl
theorem zw_1324 : Cond.fieldLink RX11 62 "GrandsireLoftModel" "kept" "I" ∈ zW := zW_in 1324 (by decide +kernel) rfl
theorem zw_1325 : Cond.fieldLink RX11 112 "GrandsireLoftModel" "isOn" "Z" ∈ zW := zW_in 1325 (by decide +kernel) rfl
theorem zw_1326 : Cond.fieldLink RX11 226 "GrandsireLoftModel" "touch" "I" ∈ zW := zW_in 1326 (by decide +kernel) rfl
theorem zw_1327 : Cond.fieldLink RX11 220 "GrandsireLoftModel" "people" "I" ∈ zW := zW_in 1327 (by decide +kernel) rfl
theorem zw_1328 : Cond.fieldLink RX11 223 "GrandsireLoftModel" "gap" "I" ∈ zW := zW_in 1328 (by decide +kernel) rfl
theorem zw_1329 : Cond.fieldLink RX11 232 "GrandsireLoftModel" "done" "I" ∈ zW := zW_in 1329 (by decide +kernel) rfl
theorem zw_1330 : Cond.fieldLink RX11 229 "GrandsireLoftModel" "delay" "I" ∈ zW := zW_in 1330 (by decide +kernel) rfl
theorem zw_1331 : Cond.fieldLink RX11 66 "GrandsireLoftModel" "patience" "I" ∈ zW := zW_in 1331 (by decide +kernel) rfl
theorem zw_1332 : Cond.fieldLink RX11 69 "GrandsireLoftModel" "pulls" "[I" ∈ zW := zW_in 1332 (by decide +kernel) rfl
theorem zw_1333 : Cond.fieldLink RX11 72 "GrandsireLoftModel" "time" "[I" ∈ zW := zW_in 1333 (by decide +kernel) rfl
theorem zw_1334 : Cond.fieldLink RX11 75 "GrandsireLoftModel" "late" "[I" ∈ zW := zW_in 1334 (by decide +kernel) rfl
theorem zw_1335 : Cond.fieldLink RX11 78 "GrandsireLoftModel" "early" "[I" ∈ zW := zW_in 1335 (by decide +kernel) rfl
theorem zw_1336 : Cond.fieldLink RX11 81 "GrandsireLoftModel" "errors" "[I" ∈ zW := zW_in 1336 (by decide +kernel) rfl
theorem zw_1337 : Cond.fieldLink RX11 244 "GrandsireLoftModel" "wrong" "I" ∈ zW := zW_in 1337 (by decide +kernel) rfl
theorem zw_1338 : Cond.fieldLink RX11 250 "GrandsireLoftModel" "rung" "I" ∈ zW := zW_in 1338 (by decide +kernel) rfl
theorem zw_1339 : Cond.fieldLink RX11 84 "GrandsireLoftModel" "latest" "I" ∈ zW := zW_in 1339 (by decide +kernel) rfl
theorem zw_1433 : Cond.methodLink RX11 90 yX11_in ∈ zW := zW_in 1433 (by decide +kernel) rfl
theorem zw_1434 : Cond.static yX11_in ∈ zW := zW_in 1434 (by decide +kernel) rfl
theorem zw_1435 : Cond.code yX11_in cX11_in 3 (some .boolean) ∈ zW := zW_in 1435 (by decide +kernel) rfl
theorem zw_1444 : Cond.methodLink RX11 104 yX11_isChange ∈ zW := zW_in 1444 (by decide +kernel) rfl
theorem zw_1445 : Cond.static yX11_isChange ∈ zW := zW_in 1445 (by decide +kernel) rfl
theorem zw_1446 : Cond.code yX11_isChange cX11_isChange 6 (some .boolean) ∈ zW := zW_in 1446 (by decide +kernel) rfl
theorem zw_1451 : Cond.methodLink RX11 108 yX11_isMethod ∈ zW := zW_in 1451 (by decide +kernel) rfl
theorem zw_1453 : Cond.instanceMethod yX11_isMethod ∈ zW := zW_in 1453 (by decide +kernel) rfl
theorem zw_1454 : Cond.code yX11_isMethod cX11_isMethod 2 (some .boolean) ∈ zW := zW_in 1454 (by decide +kernel) rfl
theorem zw_1455 : Cond.methodLink RX11 116 yX11_drops ∈ zW := zW_in 1455 (by decide +kernel) rfl
theorem zw_1457 : Cond.instanceMethod yX11_drops ∈ zW := zW_in 1457 (by decide +kernel) rfl
theorem zw_1458 : Cond.code yX11_drops cX11_drops 5 (some .int) ∈ zW := zW_in 1458 (by decide +kernel) rfl
theorem zw_1459 : Cond.methodLink RX11 165 yX11_stageOf ∈ zW := zW_in 1459 (by decide +kernel) rfl
theorem zw_1461 : Cond.instanceMethod yX11_stageOf ∈ zW := zW_in 1461 (by decide +kernel) rfl
theorem zw_1462 : Cond.code yX11_stageOf cX11_stageOf 2 (some .int) ∈ zW := zW_in 1462 (by decide +kernel) rfl
theorem zw_1463 : Cond.methodLink RX11 192 yX11_areIn ∈ zW := zW_in 1463 (by decide +kernel) rfl
theorem zw_1465 : Cond.instanceMethod yX11_areIn ∈ zW := zW_in 1465 (by decide +kernel) rfl
theorem zw_1466 : Cond.code yX11_areIn cX11_areIn 4 (some .boolean) ∈ zW := zW_in 1466 (by decide +kernel) rfl
theorem zw_1467 : Cond.methodLink RX11 186 yX11_isInNow ∈ zW := zW_in 1467 (by decide +kernel) rfl
theorem zw_1469 : Cond.instanceMethod yX11_isInNow ∈ zW := zW_in 1469 (by decide +kernel) rfl
theorem zw_1470 : Cond.code yX11_isInNow cX11_isInNow 2 (some .boolean) ∈ zW := zW_in 1470 (by decide +kernel) rfl
theorem zw_1471 : Cond.methodLink RX11 174 yX11_isSound ∈ zW := zW_in 1471 (by decide +kernel) rfl
theorem zw_1473 : Cond.instanceMethod yX11_isSound ∈ zW := zW_in 1473 (by decide +kernel) rfl
theorem zw_1474 : Cond.code yX11_isSound cX11_isSound 2 (some .boolean) ∈ zW := zW_in 1474 (by decide +kernel) rfl
theorem zw_1475 : Cond.methodLink RX11 168 yX11_writes ∈ zW := zW_in 1475 (by decide +kernel) rfl
theorem zw_1477 : Cond.instanceMethod yX11_writes ∈ zW := zW_in 1477 (by decide +kernel) rfl
theorem zw_1478 : Cond.code yX11_writes cX11_writes 6 none ∈ zW := zW_in 1478 (by decide +kernel) rfl
theorem zw_1479 : Cond.methodLink RX11 133 yX11_rounds ∈ zW := zW_in 1479 (by decide +kernel) rfl
theorem zw_1480 : Cond.static yX11_rounds ∈ zW := zW_in 1480 (by decide +kernel) rfl
theorem zw_1481 : Cond.code yX11_rounds cX11_rounds 3 (some .int) ∈ zW := zW_in 1481 (by decide +kernel) rfl
theorem zw_1482 : Cond.methodLink RX11 126 yX11_changeOf ∈ zW := zW_in 1482 (by decide +kernel) rfl
theorem zw_1484 : Cond.instanceMethod yX11_changeOf ∈ zW := zW_in 1484 (by decide +kernel) rfl
theorem zw_1485 : Cond.code yX11_changeOf cX11_changeOf 4 (some .int) ∈ zW := zW_in 1485 (by decide +kernel) rfl
theorem zw_1486 : Cond.methodLink RX11 130 yX11_changed ∈ zW := zW_in 1486 (by decide +kernel) rfl
theorem zw_1487 : Cond.static yX11_changed ∈ zW := zW_in 1487 (by decide +kernel) rfl
theorem zw_1488 : Cond.code yX11_changed cX11_changed 5 (some .int) ∈ zW := zW_in 1488 (by decide +kernel) rfl
theorem zw_1489 : Cond.methodLink RX11 94 yX11_bell ∈ zW := zW_in 1489 (by decide +kernel) rfl
theorem zw_1490 : Cond.static yX11_bell ∈ zW := zW_in 1490 (by decide +kernel) rfl
theorem zw_1491 : Cond.code yX11_bell cX11_bell 2 (some .int) ∈ zW := zW_in 1491 (by decide +kernel) rfl
theorem zw_1492 : Cond.methodLink RX11 171 yX11_repeat ∈ zW := zW_in 1492 (by decide +kernel) rfl
theorem zw_1494 : Cond.instanceMethod yX11_repeat ∈ zW := zW_in 1494 (by decide +kernel) rfl
theorem zw_1495 : Cond.code yX11_repeat cX11_repeat 4 (some .int) ∈ zW := zW_in 1495 (by decide +kernel) rfl
theorem zw_1496 : Cond.methodLink RX11 195 yX11_takesPlan ∈ zW := zW_in 1496 (by decide +kernel) rfl
theorem zw_1498 : Cond.instanceMethod yX11_takesPlan ∈ zW := zW_in 1498 (by decide +kernel) rfl
theorem zw_1499 : Cond.code yX11_takesPlan cX11_takesPlan 4 none ∈ zW := zW_in 1499 (by decide +kernel) rfl
theorem zw_1504 : Cond.methodLink RX11 120 yX11_asksMethod ∈ zW := zW_in 1504 (by decide +kernel) rfl
theorem zw_1506 : Cond.instanceMethod yX11_asksMethod ∈ zW := zW_in 1506 (by decide +kernel) rfl
theorem zw_1507 : Cond.code yX11_asksMethod cX11_asksMethod 2 (some .boolean) ∈ zW := zW_in 1507 (by decide +kernel) rfl
theorem zw_1512 : Cond.methodLink RX11 123 yX11_isCall ∈ zW := zW_in 1512 (by decide +kernel) rfl
theorem zw_1513 : Cond.static yX11_isCall ∈ zW := zW_in 1513 (by decide +kernel) rfl
theorem zw_1514 : Cond.code yX11_isCall cX11_isCall 1 (some .boolean) ∈ zW := zW_in 1514 (by decide +kernel) rfl
theorem zw_1519 : Cond.methodLink RX11 137 yX11_behindLead ∈ zW := zW_in 1519 (by decide +kernel) rfl
theorem zw_1521 : Cond.instanceMethod yX11_behindLead ∈ zW := zW_in 1521 (by decide +kernel) rfl
theorem zw_1522 : Cond.code yX11_behindLead cX11_behindLead 6 (some .int) ∈ zW := zW_in 1522 (by decide +kernel) rfl
theorem zw_1523 : Cond.methodLink RX11 140 yX11_number ∈ zW := zW_in 1523 (by decide +kernel) rfl
theorem zw_1524 : Cond.static yX11_number ∈ zW := zW_in 1524 (by decide +kernel) rfl
theorem zw_1525 : Cond.code yX11_number cX11_number 6 (some .int) ∈ zW := zW_in 1525 (by decide +kernel) rfl
theorem zw_1534 : Cond.methodLink RX11 143 yX11_all ∈ zW := zW_in 1534 (by decide +kernel) rfl
theorem zw_1535 : Cond.static yX11_all ∈ zW := zW_in 1535 (by decide +kernel) rfl
theorem zw_1536 : Cond.code yX11_all cX11_all 1 (some .int) ∈ zW := zW_in 1536 (by decide +kernel) rfl
theorem zw_1537 : Cond.methodLink RX11 146 yX11_laysPlain ∈ zW := zW_in 1537 (by decide +kernel) rfl
theorem zw_1539 : Cond.instanceMethod yX11_laysPlain ∈ zW := zW_in 1539 (by decide +kernel) rfl
theorem zw_1540 : Cond.code yX11_laysPlain cX11_laysPlain 4 none ∈ zW := zW_in 1540 (by decide +kernel) rfl
theorem zw_1541 : Cond.methodLink RX11 150 yX11_rowOf ∈ zW := zW_in 1541 (by decide +kernel) rfl
theorem zw_1543 : Cond.instanceMethod yX11_rowOf ∈ zW := zW_in 1543 (by decide +kernel) rfl
theorem zw_1544 : Cond.code yX11_rowOf cX11_rowOf 9 (some .int) ∈ zW := zW_in 1544 (by decide +kernel) rfl
theorem zw_1545 : Cond.methodLink RX11 153 yX11_clashes ∈ zW := zW_in 1545 (by decide +kernel) rfl
theorem zw_1547 : Cond.instanceMethod yX11_clashes ∈ zW := zW_in 1547 (by decide +kernel) rfl
theorem zw_1548 : Cond.code yX11_clashes cX11_clashes 7 (some .boolean) ∈ zW := zW_in 1548 (by decide +kernel) rfl
theorem zw_1577 : Cond.methodLink RX11 180 yX11_asksTouch ∈ zW := zW_in 1577 (by decide +kernel) rfl
theorem zw_1579 : Cond.instanceMethod yX11_asksTouch ∈ zW := zW_in 1579 (by decide +kernel) rfl
theorem zw_1580 : Cond.code yX11_asksTouch cX11_asksTouch 2 (some .boolean) ∈ zW := zW_in 1580 (by decide +kernel) rfl
theorem zw_1581 : Cond.methodLink RX11 177 yX11_isTouch ∈ zW := zW_in 1581 (by decide +kernel) rfl
theorem zw_1583 : Cond.instanceMethod yX11_isTouch ∈ zW := zW_in 1583 (by decide +kernel) rfl
theorem zw_1584 : Cond.code yX11_isTouch cX11_isTouch 2 (some .boolean) ∈ zW := zW_in 1584 (by decide +kernel) rfl
theorem zw_1597 : Cond.methodLink RX11 183 yX11_asksRow ∈ zW := zW_in 1597 (by decide +kernel) rfl
theorem zw_1599 : Cond.instanceMethod yX11_asksRow ∈ zW := zW_in 1599 (by decide +kernel) rfl
theorem zw_1600 : Cond.code yX11_asksRow cX11_asksRow 4 (some .boolean) ∈ zW := zW_in 1600 (by decide +kernel) rfl
theorem zw_1621 : Cond.methodLink RX11 202 yX11_isBell ∈ zW := zW_in 1621 (by decide +kernel) rfl
theorem zw_1622 : Cond.static yX11_isBell ∈ zW := zW_in 1622 (by decide +kernel) rfl
theorem zw_1623 : Cond.code yX11_isBell cX11_isBell 1 (some .boolean) ∈ zW := zW_in 1623 (by decide +kernel) rfl
theorem zw_1648 : Cond.methodLink RX11 205 yX11_isDay ∈ zW := zW_in 1648 (by decide +kernel) rfl
theorem zw_1650 : Cond.instanceMethod yX11_isDay ∈ zW := zW_in 1650 (by decide +kernel) rfl
theorem zw_1651 : Cond.code yX11_isDay cX11_isDay 2 (some .boolean) ∈ zW := zW_in 1651 (by decide +kernel) rfl
theorem zw_1652 : Cond.methodLink RX11 208 yX11_placeOf ∈ zW := zW_in 1652 (by decide +kernel) rfl
theorem zw_1654 : Cond.instanceMethod yX11_placeOf ∈ zW := zW_in 1654 (by decide +kernel) rfl
theorem zw_1655 : Cond.code yX11_placeOf cX11_placeOf 5 (some .int) ∈ zW := zW_in 1655 (by decide +kernel) rfl
theorem zw_1668 : Cond.methodLink RX11 217 yX11_bandOf ∈ zW := zW_in 1668 (by decide +kernel) rfl
theorem zw_1670 : Cond.instanceMethod yX11_bandOf ∈ zW := zW_in 1670 (by decide +kernel) rfl
theorem zw_1671 : Cond.code yX11_bandOf cX11_bandOf 5 (some .int) ∈ zW := zW_in 1671 (by decide +kernel) rfl
theorem zw_1672 : Cond.methodLink RX11 214 yX11_bandFor ∈ zW := zW_in 1672 (by decide +kernel) rfl
theorem zw_1674 : Cond.instanceMethod yX11_bandFor ∈ zW := zW_in 1674 (by decide +kernel) rfl
theorem zw_1675 : Cond.code yX11_bandFor cX11_bandFor 6 (some .int) ∈ zW := zW_in 1675 (by decide +kernel) rfl
theorem zw_1692 : Cond.methodLink RX11 260 yX11_goesOn ∈ zW := zW_in 1692 (by decide +kernel) rfl
theorem zw_1694 : Cond.instanceMethod yX11_goesOn ∈ zW := zW_in 1694 (by decide +kernel) rfl
theorem zw_1695 : Cond.code yX11_goesOn cX11_goesOn 1 (some .int) ∈ zW := zW_in 1695 (by decide +kernel) rfl
theorem zw_1696 : Cond.methodLink RX11 253 yX11_isReady ∈ zW := zW_in 1696 (by decide +kernel) rfl
theorem zw_1698 : Cond.instanceMethod yX11_isReady ∈ zW := zW_in 1698 (by decide +kernel) rfl
theorem zw_1699 : Cond.code yX11_isReady cX11_isReady 3 (some .boolean) ∈ zW := zW_in 1699 (by decide +kernel) rfl
theorem zw_1700 : Cond.methodLink RX11 235 yX11_isPeoples ∈ zW := zW_in 1700 (by decide +kernel) rfl
theorem zw_1702 : Cond.instanceMethod yX11_isPeoples ∈ zW := zW_in 1702 (by decide +kernel) rfl
theorem zw_1703 : Cond.code yX11_isPeoples cX11_isPeoples 2 (some .boolean) ∈ zW := zW_in 1703 (by decide +kernel) rfl
theorem zw_1704 : Cond.methodLink RX11 257 yX11_doesRow ∈ zW := zW_in 1704 (by decide +kernel) rfl
theorem zw_1706 : Cond.instanceMethod yX11_doesRow ∈ zW := zW_in 1706 (by decide +kernel) rfl
theorem zw_1707 : Cond.code yX11_doesRow cX11_doesRow 7 none ∈ zW := zW_in 1707 (by decide +kernel) rfl
theorem zw_1708 : Cond.methodLink RX11 238 yX11_dueAt ∈ zW := zW_in 1708 (by decide +kernel) rfl
theorem zw_1710 : Cond.instanceMethod yX11_dueAt ∈ zW := zW_in 1710 (by decide +kernel) rfl
theorem zw_1711 : Cond.code yX11_dueAt cX11_dueAt 3 (some .int) ∈ zW := zW_in 1711 (by decide +kernel) rfl
theorem zw_1712 : Cond.methodLink RX11 241 yX11_blows ∈ zW := zW_in 1712 (by decide +kernel) rfl
theorem zw_1714 : Cond.instanceMethod yX11_blows ∈ zW := zW_in 1714 (by decide +kernel) rfl
theorem zw_1715 : Cond.code yX11_blows cX11_blows 3 none ∈ zW := zW_in 1715 (by decide +kernel) rfl
theorem zw_1716 : Cond.methodLink RX11 247 yX11_looks ∈ zW := zW_in 1716 (by decide +kernel) rfl
theorem zw_1718 : Cond.instanceMethod yX11_looks ∈ zW := zW_in 1718 (by decide +kernel) rfl
theorem zw_1719 : Cond.code yX11_looks cX11_looks 5 none ∈ zW := zW_in 1719 (by decide +kernel) rfl
theorem zw_1732 : Cond.constant RX11 266 2000000000 ∈ zW := zW_in 1732 (by decide +kernel) rfl
theorem zw_1733 : Cond.methodLink RX11 267 yX11_hasPull ∈ zW := zW_in 1733 (by decide +kernel) rfl
theorem zw_1735 : Cond.instanceMethod yX11_hasPull ∈ zW := zW_in 1735 (by decide +kernel) rfl
theorem zw_1736 : Cond.code yX11_hasPull cX11_hasPull 2 (some .boolean) ∈ zW := zW_in 1736 (by decide +kernel) rfl
theorem zw_1737 : Cond.methodLink RX11 270 yX11_dueOf ∈ zW := zW_in 1737 (by decide +kernel) rfl
theorem zw_1739 : Cond.instanceMethod yX11_dueOf ∈ zW := zW_in 1739 (by decide +kernel) rfl
theorem zw_1740 : Cond.code yX11_dueOf cX11_dueOf 2 (some .int) ∈ zW := zW_in 1740 (by decide +kernel) rfl
theorem zw_1741 : Cond.methodLink RX11 263 yX11_placeIn ∈ zW := zW_in 1741 (by decide +kernel) rfl
theorem zw_1743 : Cond.instanceMethod yX11_placeIn ∈ zW := zW_in 1743 (by decide +kernel) rfl
theorem zw_1744 : Cond.code yX11_placeIn cX11_placeIn 4 (some .int) ∈ zW := zW_in 1744 (by decide +kernel) rfl
theorem zw_1745 : Cond.constantLong RX11 273 (-2147483648) ∈ zW := zW_in 1745 (by decide +kernel) rfl
theorem zw_1746 : Cond.constantLong RX11 275 2147483647 ∈ zW := zW_in 1746 (by decide +kernel) rfl
theorem zw_1747 : Cond.constantLong RX11 277 2000000000 ∈ zW := zW_in 1747 (by decide +kernel) rfl
theorem zw_1768 : Cond.methodLink RX11 279 yX11_asksBell ∈ zW := zW_in 1768 (by decide +kernel) rfl
theorem zw_1770 : Cond.instanceMethod yX11_asksBell ∈ zW := zW_in 1770 (by decide +kernel) rfl
theorem zw_1771 : Cond.code yX11_asksBell cX11_asksBell 2 (some .boolean) ∈ zW := zW_in 1771 (by decide +kernel) rfl
theorem zw_1812 : Cond.selects "[Ljava/lang/Object;" ⟨"java/lang/Object", "getClass", "()Ljava/lang/Class;"⟩ ⟨"java/lang/Object", "getClass", "()Ljava/lang/Class;"⟩ ∈ zW := zW_in 1812 (by decide +kernel) rfl
theorem zy_J15_checkIndex_7cf53 : yJ15_checkIndex_7cf53.cls ≠ "java/lang/invoke/MethodHandle" ∧ yJ15_checkIndex_7cf53.cls ≠ "java/lang/invoke/VarHandle" ∧ (parseMethodDescriptor yJ15_checkIndex_7cf53.desc).map (fun d => d.parameters.length) = some 2 := by decide +kernel
theorem zy_J3_checkIndex_8e157 : yJ3_checkIndex_8e157.cls ≠ "java/lang/invoke/MethodHandle" ∧ yJ3_checkIndex_8e157.cls ≠ "java/lang/invoke/VarHandle" ∧ (parseMethodDescriptor yJ3_checkIndex_8e157.desc).map (fun d => d.parameters.length) = some 3 := by decide +kernel
theorem zy_J6_bitCount_0f7a4 : yJ6_bitCount_0f7a4.cls ≠ "java/lang/invoke/MethodHandle" ∧ yJ6_bitCount_0f7a4.cls ≠ "java/lang/invoke/VarHandle" ∧ (parseMethodDescriptor yJ6_bitCount_0f7a4.desc).map (fun d => d.parameters.length) = some 1 := by decide +kernel
theorem zy_J7_copyOf_1904c : yJ7_copyOf_1904c.cls ≠ "java/lang/invoke/MethodHandle" ∧ yJ7_copyOf_1904c.cls ≠ "java/lang/invoke/VarHandle" ∧ (parseMethodDescriptor yJ7_copyOf_1904c.desc).map (fun d => d.parameters.length) = some 2 := by decide +kernel
theorem zy_J7_copyOf_6403c : yJ7_copyOf_6403c.cls ≠ "java/lang/invoke/MethodHandle" ∧ yJ7_copyOf_6403c.cls ≠ "java/lang/invoke/VarHandle" ∧ (parseMethodDescriptor yJ7_copyOf_6403c.desc).map (fun d => d.parameters.length) = some 3 := by decide +kernel
theorem zy_J8_newLength_cabcc : yJ8_newLength_cabcc.cls ≠ "java/lang/invoke/MethodHandle" ∧ yJ8_newLength_cabcc.cls ≠ "java/lang/invoke/VarHandle" ∧ (parseMethodDescriptor yJ8_newLength_cabcc.desc).map (fun d => d.parameters.length) = some 3 := by decide +kernel
theorem zy_Jx4a65c_add_72be8 : yJx4a65c_add_72be8.cls ≠ "java/lang/invoke/MethodHandle" ∧ yJx4a65c_add_72be8.cls ≠ "java/lang/invoke/VarHandle" ∧ (parseMethodDescriptor yJx4a65c_add_72be8.desc).map (fun d => d.parameters.length) = some 3 := by decide +kernel
theorem zy_Jx4a65c_add_9ea2d : yJx4a65c_add_9ea2d.cls ≠ "java/lang/invoke/MethodHandle" ∧ yJx4a65c_add_9ea2d.cls ≠ "java/lang/invoke/VarHandle" ∧ (parseMethodDescriptor yJx4a65c_add_9ea2d.desc).map (fun d => d.parameters.length) = some 1 := by decide +kernel
theorem zy_Jx4a65c_clear_da8c8 : yJx4a65c_clear_da8c8.cls ≠ "java/lang/invoke/MethodHandle" ∧ yJx4a65c_clear_da8c8.cls ≠ "java/lang/invoke/VarHandle" ∧ (parseMethodDescriptor yJx4a65c_clear_da8c8.desc).map (fun d => d.parameters.length) = some 0 := by decide +kernel
theorem zy_Jx4a65c_elementData_915e3 : yJx4a65c_elementData_915e3.cls ≠ "java/lang/invoke/MethodHandle" ∧ yJx4a65c_elementData_915e3.cls ≠ "java/lang/invoke/VarHandle" ∧ (parseMethodDescriptor yJx4a65c_elementData_915e3.desc).map (fun d => d.parameters.length) = some 1 := by decide +kernel
theorem zy_Jx4a65c_fastRemove_b59b0 : yJx4a65c_fastRemove_b59b0.cls ≠ "java/lang/invoke/MethodHandle" ∧ yJx4a65c_fastRemove_b59b0.cls ≠ "java/lang/invoke/VarHandle" ∧ (parseMethodDescriptor yJx4a65c_fastRemove_b59b0.desc).map (fun d => d.parameters.length) = some 2 := by decide +kernel
theorem zy_Jx4a65c_get_915e3 : yJx4a65c_get_915e3.cls ≠ "java/lang/invoke/MethodHandle" ∧ yJx4a65c_get_915e3.cls ≠ "java/lang/invoke/VarHandle" ∧ (parseMethodDescriptor yJx4a65c_get_915e3.desc).map (fun d => d.parameters.length) = some 1 := by decide +kernel
theorem zy_Jx4a65c_grow_92f84 : yJx4a65c_grow_92f84.cls ≠ "java/lang/invoke/MethodHandle" ∧ yJx4a65c_grow_92f84.cls ≠ "java/lang/invoke/VarHandle" ∧ (parseMethodDescriptor yJx4a65c_grow_92f84.desc).map (fun d => d.parameters.length) = some 1 := by decide +kernel
theorem zy_Jx4a65c_grow_d5877 : yJx4a65c_grow_d5877.cls ≠ "java/lang/invoke/MethodHandle" ∧ yJx4a65c_grow_d5877.cls ≠ "java/lang/invoke/VarHandle" ∧ (parseMethodDescriptor yJx4a65c_grow_d5877.desc).map (fun d => d.parameters.length) = some 0 := by decide +kernel
theorem zy_Jx4a65c_init_da8c8 : yJx4a65c_init_da8c8.cls ≠ "java/lang/invoke/MethodHandle" ∧ yJx4a65c_init_da8c8.cls ≠ "java/lang/invoke/VarHandle" ∧ (parseMethodDescriptor yJx4a65c_init_da8c8.desc).map (fun d => d.parameters.length) = some 0 := by decide +kernel
theorem zy_Jx4a65c_isEmpty_aae02 : yJx4a65c_isEmpty_aae02.cls ≠ "java/lang/invoke/MethodHandle" ∧ yJx4a65c_isEmpty_aae02.cls ≠ "java/lang/invoke/VarHandle" ∧ (parseMethodDescriptor yJx4a65c_isEmpty_aae02.desc).map (fun d => d.parameters.length) = some 0 := by decide +kernel
theorem zy_Jx4a65c_remove_915e3 : yJx4a65c_remove_915e3.cls ≠ "java/lang/invoke/MethodHandle" ∧ yJx4a65c_remove_915e3.cls ≠ "java/lang/invoke/VarHandle" ∧ (parseMethodDescriptor yJx4a65c_remove_915e3.desc).map (fun d => d.parameters.length) = some 1 := by decide +kernel
theorem zy_Jx4a65c_size_8abf5 : yJx4a65c_size_8abf5.cls ≠ "java/lang/invoke/MethodHandle" ∧ yJx4a65c_size_8abf5.cls ≠ "java/lang/invoke/VarHandle" ∧ (parseMethodDescriptor yJx4a65c_size_8abf5.desc).map (fun d => d.parameters.length) = some 0 := by decide +kernel
theorem zy_Jxa1e45_init_da8c8 : yJxa1e45_init_da8c8.cls ≠ "java/lang/invoke/MethodHandle" ∧ yJxa1e45_init_da8c8.cls ≠ "java/lang/invoke/VarHandle" ∧ (parseMethodDescriptor yJxa1e45_init_da8c8.desc).map (fun d => d.parameters.length) = some 0 := by decide +kernel
theorem zy_Jxc12de_init_da8c8 : yJxc12de_init_da8c8.cls ≠ "java/lang/invoke/MethodHandle" ∧ yJxc12de_init_da8c8.cls ≠ "java/lang/invoke/VarHandle" ∧ (parseMethodDescriptor yJxc12de_init_da8c8.desc).map (fun d => d.parameters.length) = some 0 := by decide +kernel
theorem zy_X0_bellsOut : yX0_bellsOut.cls ≠ "java/lang/invoke/MethodHandle" ∧ yX0_bellsOut.cls ≠ "java/lang/invoke/VarHandle" ∧ (parseMethodDescriptor yX0_bellsOut.desc).map (fun d => d.parameters.length) = some 0 := by decide +kernel
theorem zy_X0_forgetPulls : yX0_forgetPulls.cls ≠ "java/lang/invoke/MethodHandle" ∧ yX0_forgetPulls.cls ≠ "java/lang/invoke/VarHandle" ∧ (parseMethodDescriptor yX0_forgetPulls.desc).map (fun d => d.parameters.length) = some 0 := by decide +kernel
theorem zy_X0_init : yX0_init.cls ≠ "java/lang/invoke/MethodHandle" ∧ yX0_init.cls ≠ "java/lang/invoke/VarHandle" ∧ (parseMethodDescriptor yX0_init.desc).map (fun d => d.parameters.length) = some 0 := by decide +kernel
theorem zy_X0_noteWornOut : yX0_noteWornOut.cls ≠ "java/lang/invoke/MethodHandle" ∧ yX0_noteWornOut.cls ≠ "java/lang/invoke/VarHandle" ∧ (parseMethodDescriptor yX0_noteWornOut.desc).map (fun d => d.parameters.length) = some 0 := by decide +kernel
theorem zy_X10_bellNumbered : yX10_bellNumbered.cls ≠ "java/lang/invoke/MethodHandle" ∧ yX10_bellNumbered.cls ≠ "java/lang/invoke/VarHandle" ∧ (parseMethodDescriptor yX10_bellNumbered.desc).map (fun d => d.parameters.length) = some 1 := by decide +kernel
theorem zy_X10_countAsRung : yX10_countAsRung.cls ≠ "java/lang/invoke/MethodHandle" ∧ yX10_countAsRung.cls ≠ "java/lang/invoke/VarHandle" ∧ (parseMethodDescriptor yX10_countAsRung.desc).map (fun d => d.parameters.length) = some 1 := by decide +kernel
theorem zy_X10_dayAt : yX10_dayAt.cls ≠ "java/lang/invoke/MethodHandle" ∧ yX10_dayAt.cls ≠ "java/lang/invoke/VarHandle" ∧ (parseMethodDescriptor yX10_dayAt.desc).map (fun d => d.parameters.length) = some 1 := by decide +kernel
theorem zy_X10_doReadyRows : yX10_doReadyRows.cls ≠ "java/lang/invoke/MethodHandle" ∧ yX10_doReadyRows.cls ≠ "java/lang/invoke/VarHandle" ∧ (parseMethodDescriptor yX10_doReadyRows.desc).map (fun d => d.parameters.length) = some 0 := by decide +kernel
theorem zy_X10_endRinging : yX10_endRinging.cls ≠ "java/lang/invoke/MethodHandle" ∧ yX10_endRinging.cls ≠ "java/lang/invoke/VarHandle" ∧ (parseMethodDescriptor yX10_endRinging.desc).map (fun d => d.parameters.length) = some 0 := by decide +kernel
theorem zy_X10_isDraftOf : yX10_isDraftOf.cls ≠ "java/lang/invoke/MethodHandle" ∧ yX10_isDraftOf.cls ≠ "java/lang/invoke/VarHandle" ∧ (parseMethodDescriptor yX10_isDraftOf.desc).map (fun d => d.parameters.length) = some 1 := by decide +kernel
theorem zy_X10_keepTouch : yX10_keepTouch.cls ≠ "java/lang/invoke/MethodHandle" ∧ yX10_keepTouch.cls ≠ "java/lang/invoke/VarHandle" ∧ (parseMethodDescriptor yX10_keepTouch.desc).map (fun d => d.parameters.length) = some 1 := by decide +kernel
theorem zy_X10_methodAt : yX10_methodAt.cls ≠ "java/lang/invoke/MethodHandle" ∧ yX10_methodAt.cls ≠ "java/lang/invoke/VarHandle" ∧ (parseMethodDescriptor yX10_methodAt.desc).map (fun d => d.parameters.length) = some 1 := by decide +kernel
theorem zy_X10_requireIndex : yX10_requireIndex.cls ≠ "java/lang/invoke/MethodHandle" ∧ yX10_requireIndex.cls ≠ "java/lang/invoke/VarHandle" ∧ (parseMethodDescriptor yX10_requireIndex.desc).map (fun d => d.parameters.length) = some 2 := by decide +kernel
theorem zy_X10_requireRange : yX10_requireRange.cls ≠ "java/lang/invoke/MethodHandle" ∧ yX10_requireRange.cls ≠ "java/lang/invoke/VarHandle" ∧ (parseMethodDescriptor yX10_requireRange.desc).map (fun d => d.parameters.length) = some 3 := by decide +kernel
theorem zy_X10_requireRoomForTouch : yX10_requireRoomForTouch.cls ≠ "java/lang/invoke/MethodHandle" ∧ yX10_requireRoomForTouch.cls ≠ "java/lang/invoke/VarHandle" ∧ (parseMethodDescriptor yX10_requireRoomForTouch.desc).map (fun d => d.parameters.length) = some 0 := by decide +kernel
theorem zy_X10_requireSilence : yX10_requireSilence.cls ≠ "java/lang/invoke/MethodHandle" ∧ yX10_requireSilence.cls ≠ "java/lang/invoke/VarHandle" ∧ (parseMethodDescriptor yX10_requireSilence.desc).map (fun d => d.parameters.length) = some 0 := by decide +kernel
theorem zy_X10_rewriteTouches : yX10_rewriteTouches.cls ≠ "java/lang/invoke/MethodHandle" ∧ yX10_rewriteTouches.cls ≠ "java/lang/invoke/VarHandle" ∧ (parseMethodDescriptor yX10_rewriteTouches.desc).map (fun d => d.parameters.length) = some 0 := by decide +kernel
theorem zy_X10_ringingThatAwaits : yX10_ringingThatAwaits.cls ≠ "java/lang/invoke/MethodHandle" ∧ yX10_ringingThatAwaits.cls ≠ "java/lang/invoke/VarHandle" ∧ (parseMethodDescriptor yX10_ringingThatAwaits.desc).map (fun d => d.parameters.length) = some 1 := by decide +kernel
theorem zy_X10_touchAt : yX10_touchAt.cls ≠ "java/lang/invoke/MethodHandle" ∧ yX10_touchAt.cls ≠ "java/lang/invoke/VarHandle" ∧ (parseMethodDescriptor yX10_touchAt.desc).map (fun d => d.parameters.length) = some 1 := by decide +kernel
theorem zy_X11_all : yX11_all.cls ≠ "java/lang/invoke/MethodHandle" ∧ yX11_all.cls ≠ "java/lang/invoke/VarHandle" ∧ (parseMethodDescriptor yX11_all.desc).map (fun d => d.parameters.length) = some 1 := by decide +kernel
theorem zy_X11_areIn : yX11_areIn.cls ≠ "java/lang/invoke/MethodHandle" ∧ yX11_areIn.cls ≠ "java/lang/invoke/VarHandle" ∧ (parseMethodDescriptor yX11_areIn.desc).map (fun d => d.parameters.length) = some 1 := by decide +kernel
theorem zy_X11_asksBell : yX11_asksBell.cls ≠ "java/lang/invoke/MethodHandle" ∧ yX11_asksBell.cls ≠ "java/lang/invoke/VarHandle" ∧ (parseMethodDescriptor yX11_asksBell.desc).map (fun d => d.parameters.length) = some 1 := by decide +kernel
theorem zy_X11_asksMethod : yX11_asksMethod.cls ≠ "java/lang/invoke/MethodHandle" ∧ yX11_asksMethod.cls ≠ "java/lang/invoke/VarHandle" ∧ (parseMethodDescriptor yX11_asksMethod.desc).map (fun d => d.parameters.length) = some 1 := by decide +kernel
theorem zy_X11_asksRow : yX11_asksRow.cls ≠ "java/lang/invoke/MethodHandle" ∧ yX11_asksRow.cls ≠ "java/lang/invoke/VarHandle" ∧ (parseMethodDescriptor yX11_asksRow.desc).map (fun d => d.parameters.length) = some 2 := by decide +kernel
theorem zy_X11_asksTouch : yX11_asksTouch.cls ≠ "java/lang/invoke/MethodHandle" ∧ yX11_asksTouch.cls ≠ "java/lang/invoke/VarHandle" ∧ (parseMethodDescriptor yX11_asksTouch.desc).map (fun d => d.parameters.length) = some 1 := by decide +kernel
theorem zy_X11_bandFor : yX11_bandFor.cls ≠ "java/lang/invoke/MethodHandle" ∧ yX11_bandFor.cls ≠ "java/lang/invoke/VarHandle" ∧ (parseMethodDescriptor yX11_bandFor.desc).map (fun d => d.parameters.length) = some 2 := by decide +kernel
theorem zy_X11_bandOf : yX11_bandOf.cls ≠ "java/lang/invoke/MethodHandle" ∧ yX11_bandOf.cls ≠ "java/lang/invoke/VarHandle" ∧ (parseMethodDescriptor yX11_bandOf.desc).map (fun d => d.parameters.length) = some 1 := by decide +kernel
theorem zy_X11_behindLead : yX11_behindLead.cls ≠ "java/lang/invoke/MethodHandle" ∧ yX11_behindLead.cls ≠ "java/lang/invoke/VarHandle" ∧ (parseMethodDescriptor yX11_behindLead.desc).map (fun d => d.parameters.length) = some 3 := by decide +kernel
theorem zy_X11_bell : yX11_bell.cls ≠ "java/lang/invoke/MethodHandle" ∧ yX11_bell.cls ≠ "java/lang/invoke/VarHandle" ∧ (parseMethodDescriptor yX11_bell.desc).map (fun d => d.parameters.length) = some 2 := by decide +kernel
theorem zy_X11_blows : yX11_blows.cls ≠ "java/lang/invoke/MethodHandle" ∧ yX11_blows.cls ≠ "java/lang/invoke/VarHandle" ∧ (parseMethodDescriptor yX11_blows.desc).map (fun d => d.parameters.length) = some 2 := by decide +kernel
theorem zy_X11_changeOf : yX11_changeOf.cls ≠ "java/lang/invoke/MethodHandle" ∧ yX11_changeOf.cls ≠ "java/lang/invoke/VarHandle" ∧ (parseMethodDescriptor yX11_changeOf.desc).map (fun d => d.parameters.length) = some 3 := by decide +kernel
theorem zy_X11_changed : yX11_changed.cls ≠ "java/lang/invoke/MethodHandle" ∧ yX11_changed.cls ≠ "java/lang/invoke/VarHandle" ∧ (parseMethodDescriptor yX11_changed.desc).map (fun d => d.parameters.length) = some 3 := by decide +kernel
theorem zy_X11_clashes : yX11_clashes.cls ≠ "java/lang/invoke/MethodHandle" ∧ yX11_clashes.cls ≠ "java/lang/invoke/VarHandle" ∧ (parseMethodDescriptor yX11_clashes.desc).map (fun d => d.parameters.length) = some 2 := by decide +kernel
theorem zy_X11_doesRow : yX11_doesRow.cls ≠ "java/lang/invoke/MethodHandle" ∧ yX11_doesRow.cls ≠ "java/lang/invoke/VarHandle" ∧ (parseMethodDescriptor yX11_doesRow.desc).map (fun d => d.parameters.length) = some 0 := by decide +kernel
theorem zy_X11_drops : yX11_drops.cls ≠ "java/lang/invoke/MethodHandle" ∧ yX11_drops.cls ≠ "java/lang/invoke/VarHandle" ∧ (parseMethodDescriptor yX11_drops.desc).map (fun d => d.parameters.length) = some 0 := by decide +kernel
theorem zy_X11_dueAt : yX11_dueAt.cls ≠ "java/lang/invoke/MethodHandle" ∧ yX11_dueAt.cls ≠ "java/lang/invoke/VarHandle" ∧ (parseMethodDescriptor yX11_dueAt.desc).map (fun d => d.parameters.length) = some 2 := by decide +kernel
theorem zy_X11_dueOf : yX11_dueOf.cls ≠ "java/lang/invoke/MethodHandle" ∧ yX11_dueOf.cls ≠ "java/lang/invoke/VarHandle" ∧ (parseMethodDescriptor yX11_dueOf.desc).map (fun d => d.parameters.length) = some 1 := by decide +kernel
theorem zy_X11_goesOn : yX11_goesOn.cls ≠ "java/lang/invoke/MethodHandle" ∧ yX11_goesOn.cls ≠ "java/lang/invoke/VarHandle" ∧ (parseMethodDescriptor yX11_goesOn.desc).map (fun d => d.parameters.length) = some 0 := by decide +kernel
theorem zy_X11_hasPull : yX11_hasPull.cls ≠ "java/lang/invoke/MethodHandle" ∧ yX11_hasPull.cls ≠ "java/lang/invoke/VarHandle" ∧ (parseMethodDescriptor yX11_hasPull.desc).map (fun d => d.parameters.length) = some 1 := by decide +kernel
theorem zy_X11_in : yX11_in.cls ≠ "java/lang/invoke/MethodHandle" ∧ yX11_in.cls ≠ "java/lang/invoke/VarHandle" ∧ (parseMethodDescriptor yX11_in.desc).map (fun d => d.parameters.length) = some 3 := by decide +kernel
theorem zy_X11_isBell : yX11_isBell.cls ≠ "java/lang/invoke/MethodHandle" ∧ yX11_isBell.cls ≠ "java/lang/invoke/VarHandle" ∧ (parseMethodDescriptor yX11_isBell.desc).map (fun d => d.parameters.length) = some 1 := by decide +kernel
theorem zy_X11_isCall : yX11_isCall.cls ≠ "java/lang/invoke/MethodHandle" ∧ yX11_isCall.cls ≠ "java/lang/invoke/VarHandle" ∧ (parseMethodDescriptor yX11_isCall.desc).map (fun d => d.parameters.length) = some 1 := by decide +kernel
theorem zy_X11_isChange : yX11_isChange.cls ≠ "java/lang/invoke/MethodHandle" ∧ yX11_isChange.cls ≠ "java/lang/invoke/VarHandle" ∧ (parseMethodDescriptor yX11_isChange.desc).map (fun d => d.parameters.length) = some 2 := by decide +kernel
theorem zy_X11_isDay : yX11_isDay.cls ≠ "java/lang/invoke/MethodHandle" ∧ yX11_isDay.cls ≠ "java/lang/invoke/VarHandle" ∧ (parseMethodDescriptor yX11_isDay.desc).map (fun d => d.parameters.length) = some 1 := by decide +kernel
theorem zy_X11_isInNow : yX11_isInNow.cls ≠ "java/lang/invoke/MethodHandle" ∧ yX11_isInNow.cls ≠ "java/lang/invoke/VarHandle" ∧ (parseMethodDescriptor yX11_isInNow.desc).map (fun d => d.parameters.length) = some 1 := by decide +kernel
theorem zy_X11_isMethod : yX11_isMethod.cls ≠ "java/lang/invoke/MethodHandle" ∧ yX11_isMethod.cls ≠ "java/lang/invoke/VarHandle" ∧ (parseMethodDescriptor yX11_isMethod.desc).map (fun d => d.parameters.length) = some 1 := by decide +kernel
theorem zy_X11_isPeoples : yX11_isPeoples.cls ≠ "java/lang/invoke/MethodHandle" ∧ yX11_isPeoples.cls ≠ "java/lang/invoke/VarHandle" ∧ (parseMethodDescriptor yX11_isPeoples.desc).map (fun d => d.parameters.length) = some 1 := by decide +kernel
theorem zy_X11_isReady : yX11_isReady.cls ≠ "java/lang/invoke/MethodHandle" ∧ yX11_isReady.cls ≠ "java/lang/invoke/VarHandle" ∧ (parseMethodDescriptor yX11_isReady.desc).map (fun d => d.parameters.length) = some 0 := by decide +kernel
theorem zy_X11_isSound : yX11_isSound.cls ≠ "java/lang/invoke/MethodHandle" ∧ yX11_isSound.cls ≠ "java/lang/invoke/VarHandle" ∧ (parseMethodDescriptor yX11_isSound.desc).map (fun d => d.parameters.length) = some 1 := by decide +kernel
theorem zy_X11_isTouch : yX11_isTouch.cls ≠ "java/lang/invoke/MethodHandle" ∧ yX11_isTouch.cls ≠ "java/lang/invoke/VarHandle" ∧ (parseMethodDescriptor yX11_isTouch.desc).map (fun d => d.parameters.length) = some 1 := by decide +kernel
theorem zy_X11_laysPlain : yX11_laysPlain.cls ≠ "java/lang/invoke/MethodHandle" ∧ yX11_laysPlain.cls ≠ "java/lang/invoke/VarHandle" ∧ (parseMethodDescriptor yX11_laysPlain.desc).map (fun d => d.parameters.length) = some 1 := by decide +kernel
theorem zy_X11_looks : yX11_looks.cls ≠ "java/lang/invoke/MethodHandle" ∧ yX11_looks.cls ≠ "java/lang/invoke/VarHandle" ∧ (parseMethodDescriptor yX11_looks.desc).map (fun d => d.parameters.length) = some 0 := by decide +kernel
theorem zy_X11_number : yX11_number.cls ≠ "java/lang/invoke/MethodHandle" ∧ yX11_number.cls ≠ "java/lang/invoke/VarHandle" ∧ (parseMethodDescriptor yX11_number.desc).map (fun d => d.parameters.length) = some 2 := by decide +kernel
theorem zy_X11_placeIn : yX11_placeIn.cls ≠ "java/lang/invoke/MethodHandle" ∧ yX11_placeIn.cls ≠ "java/lang/invoke/VarHandle" ∧ (parseMethodDescriptor yX11_placeIn.desc).map (fun d => d.parameters.length) = some 2 := by decide +kernel
theorem zy_X11_placeOf : yX11_placeOf.cls ≠ "java/lang/invoke/MethodHandle" ∧ yX11_placeOf.cls ≠ "java/lang/invoke/VarHandle" ∧ (parseMethodDescriptor yX11_placeOf.desc).map (fun d => d.parameters.length) = some 2 := by decide +kernel
theorem zy_X11_repeat : yX11_repeat.cls ≠ "java/lang/invoke/MethodHandle" ∧ yX11_repeat.cls ≠ "java/lang/invoke/VarHandle" ∧ (parseMethodDescriptor yX11_repeat.desc).map (fun d => d.parameters.length) = some 0 := by decide +kernel
theorem zy_X11_rounds : yX11_rounds.cls ≠ "java/lang/invoke/MethodHandle" ∧ yX11_rounds.cls ≠ "java/lang/invoke/VarHandle" ∧ (parseMethodDescriptor yX11_rounds.desc).map (fun d => d.parameters.length) = some 1 := by decide +kernel
theorem zy_X11_rowOf : yX11_rowOf.cls ≠ "java/lang/invoke/MethodHandle" ∧ yX11_rowOf.cls ≠ "java/lang/invoke/VarHandle" ∧ (parseMethodDescriptor yX11_rowOf.desc).map (fun d => d.parameters.length) = some 2 := by decide +kernel
theorem zy_X11_stageOf : yX11_stageOf.cls ≠ "java/lang/invoke/MethodHandle" ∧ yX11_stageOf.cls ≠ "java/lang/invoke/VarHandle" ∧ (parseMethodDescriptor yX11_stageOf.desc).map (fun d => d.parameters.length) = some 1 := by decide +kernel
theorem zy_X11_takesPlan : yX11_takesPlan.cls ≠ "java/lang/invoke/MethodHandle" ∧ yX11_takesPlan.cls ≠ "java/lang/invoke/VarHandle" ∧ (parseMethodDescriptor yX11_takesPlan.desc).map (fun d => d.parameters.length) = some 2 := by decide +kernel
theorem zy_X11_writes : yX11_writes.cls ≠ "java/lang/invoke/MethodHandle" ∧ yX11_writes.cls ≠ "java/lang/invoke/VarHandle" ∧ (parseMethodDescriptor yX11_writes.desc).map (fun d => d.parameters.length) = some 1 := by decide +kernel
theorem zy_X1_hasRoomForError : yX1_hasRoomForError.cls ≠ "java/lang/invoke/MethodHandle" ∧ yX1_hasRoomForError.cls ≠ "java/lang/invoke/VarHandle" ∧ (parseMethodDescriptor yX1_hasRoomForError.desc).map (fun d => d.parameters.length) = some 1 := by decide +kernel
theorem zy_X1_hearPull : yX1_hearPull.cls ≠ "java/lang/invoke/MethodHandle" ∧ yX1_hearPull.cls ≠ "java/lang/invoke/VarHandle" ∧ (parseMethodDescriptor yX1_hearPull.desc).map (fun d => d.parameters.length) = some 1 := by decide +kernel
theorem zy_X1_init : yX1_init.cls ≠ "java/lang/invoke/MethodHandle" ∧ yX1_init.cls ≠ "java/lang/invoke/VarHandle" ∧ (parseMethodDescriptor yX1_init.desc).map (fun d => d.parameters.length) = some 0 := by decide +kernel
theorem zy_X1_isUsable : yX1_isUsable.cls ≠ "java/lang/invoke/MethodHandle" ∧ yX1_isUsable.cls ≠ "java/lang/invoke/VarHandle" ∧ (parseMethodDescriptor yX1_isUsable.desc).map (fun d => d.parameters.length) = some 0 := by decide +kernel
theorem zy_X1_noteError : yX1_noteError.cls ≠ "java/lang/invoke/MethodHandle" ∧ yX1_noteError.cls ≠ "java/lang/invoke/VarHandle" ∧ (parseMethodDescriptor yX1_noteError.desc).map (fun d => d.parameters.length) = some 2 := by decide +kernel
theorem zy_X1_noteWornOut : yX1_noteWornOut.cls ≠ "java/lang/invoke/MethodHandle" ∧ yX1_noteWornOut.cls ≠ "java/lang/invoke/VarHandle" ∧ (parseMethodDescriptor yX1_noteWornOut.desc).map (fun d => d.parameters.length) = some 0 := by decide +kernel
theorem zy_X1_pullTime : yX1_pullTime.cls ≠ "java/lang/invoke/MethodHandle" ∧ yX1_pullTime.cls ≠ "java/lang/invoke/VarHandle" ∧ (parseMethodDescriptor yX1_pullTime.desc).map (fun d => d.parameters.length) = some 1 := by decide +kernel
theorem zy_X1_renew : yX1_renew.cls ≠ "java/lang/invoke/MethodHandle" ∧ yX1_renew.cls ≠ "java/lang/invoke/VarHandle" ∧ (parseMethodDescriptor yX1_renew.desc).map (fun d => d.parameters.length) = some 1 := by decide +kernel
theorem zy_X1_strike : yX1_strike.cls ≠ "java/lang/invoke/MethodHandle" ∧ yX1_strike.cls ≠ "java/lang/invoke/VarHandle" ∧ (parseMethodDescriptor yX1_strike.desc).map (fun d => d.parameters.length) = some 1 := by decide +kernel
theorem zy_X2_callNext : yX2_callNext.cls ≠ "java/lang/invoke/MethodHandle" ∧ yX2_callNext.cls ≠ "java/lang/invoke/VarHandle" ∧ (parseMethodDescriptor yX2_callNext.desc).map (fun d => d.parameters.length) = some 2 := by decide +kernel
theorem zy_X2_handOutTrial : yX2_handOutTrial.cls ≠ "java/lang/invoke/MethodHandle" ∧ yX2_handOutTrial.cls ≠ "java/lang/invoke/VarHandle" ∧ (parseMethodDescriptor yX2_handOutTrial.desc).map (fun d => d.parameters.length) = some 0 := by decide +kernel
theorem zy_X2_init : yX2_init.cls ≠ "java/lang/invoke/MethodHandle" ∧ yX2_init.cls ≠ "java/lang/invoke/VarHandle" ∧ (parseMethodDescriptor yX2_init.desc).map (fun d => d.parameters.length) = some 1 := by decide +kernel
theorem zy_X2_soundTouch : yX2_soundTouch.cls ≠ "java/lang/invoke/MethodHandle" ∧ yX2_soundTouch.cls ≠ "java/lang/invoke/VarHandle" ∧ (parseMethodDescriptor yX2_soundTouch.desc).map (fun d => d.parameters.length) = some 2 := by decide +kernel
theorem zy_X3_dropUnfit : yX3_dropUnfit.cls ≠ "java/lang/invoke/MethodHandle" ∧ yX3_dropUnfit.cls ≠ "java/lang/invoke/VarHandle" ∧ (parseMethodDescriptor yX3_dropUnfit.desc).map (fun d => d.parameters.length) = some 1 := by decide +kernel
theorem zy_X3_greatestStage : yX3_greatestStage.cls ≠ "java/lang/invoke/MethodHandle" ∧ yX3_greatestStage.cls ≠ "java/lang/invoke/VarHandle" ∧ (parseMethodDescriptor yX3_greatestStage.desc).map (fun d => d.parameters.length) = some 0 := by decide +kernel
theorem zy_X3_hasTouch : yX3_hasTouch.cls ≠ "java/lang/invoke/MethodHandle" ∧ yX3_hasTouch.cls ≠ "java/lang/invoke/VarHandle" ∧ (parseMethodDescriptor yX3_hasTouch.desc).map (fun d => d.parameters.length) = some 1 := by decide +kernel
theorem zy_X3_init : yX3_init.cls ≠ "java/lang/invoke/MethodHandle" ∧ yX3_init.cls ≠ "java/lang/invoke/VarHandle" ∧ (parseMethodDescriptor yX3_init.desc).map (fun d => d.parameters.length) = some 0 := by decide +kernel
theorem zy_X3_takeAway : yX3_takeAway.cls ≠ "java/lang/invoke/MethodHandle" ∧ yX3_takeAway.cls ≠ "java/lang/invoke/VarHandle" ∧ (parseMethodDescriptor yX3_takeAway.desc).map (fun d => d.parameters.length) = some 1 := by decide +kernel
theorem zy_X3_takesTouch : yX3_takesTouch.cls ≠ "java/lang/invoke/MethodHandle" ∧ yX3_takesTouch.cls ≠ "java/lang/invoke/VarHandle" ∧ (parseMethodDescriptor yX3_takesTouch.desc).map (fun d => d.parameters.length) = some 1 := by decide +kernel
theorem zy_X4_changeOf : yX4_changeOf.cls ≠ "java/lang/invoke/MethodHandle" ∧ yX4_changeOf.cls ≠ "java/lang/invoke/VarHandle" ∧ (parseMethodDescriptor yX4_changeOf.desc).map (fun d => d.parameters.length) = some 2 := by decide +kernel
theorem zy_X4_gatherFalseRows : yX4_gatherFalseRows.cls ≠ "java/lang/invoke/MethodHandle" ∧ yX4_gatherFalseRows.cls ≠ "java/lang/invoke/VarHandle" ∧ (parseMethodDescriptor yX4_gatherFalseRows.desc).map (fun d => d.parameters.length) = some 0 := by decide +kernel
theorem zy_X4_hasFalse : yX4_hasFalse.cls ≠ "java/lang/invoke/MethodHandle" ∧ yX4_hasFalse.cls ≠ "java/lang/invoke/VarHandle" ∧ (parseMethodDescriptor yX4_hasFalse.desc).map (fun d => d.parameters.length) = some 1 := by decide +kernel
theorem zy_X4_init : yX4_init.cls ≠ "java/lang/invoke/MethodHandle" ∧ yX4_init.cls ≠ "java/lang/invoke/VarHandle" ∧ (parseMethodDescriptor yX4_init.desc).map (fun d => d.parameters.length) = some 4 := by decide +kernel
theorem zy_X4_isLikeLesserCall : yX4_isLikeLesserCall.cls ≠ "java/lang/invoke/MethodHandle" ∧ yX4_isLikeLesserCall.cls ≠ "java/lang/invoke/VarHandle" ∧ (parseMethodDescriptor yX4_isLikeLesserCall.desc).map (fun d => d.parameters.length) = some 1 := by decide +kernel
theorem zy_X4_lastRow : yX4_lastRow.cls ≠ "java/lang/invoke/MethodHandle" ∧ yX4_lastRow.cls ≠ "java/lang/invoke/VarHandle" ∧ (parseMethodDescriptor yX4_lastRow.desc).map (fun d => d.parameters.length) = some 2 := by decide +kernel
theorem zy_X4_leadsToRounds : yX4_leadsToRounds.cls ≠ "java/lang/invoke/MethodHandle" ∧ yX4_leadsToRounds.cls ≠ "java/lang/invoke/VarHandle" ∧ (parseMethodDescriptor yX4_leadsToRounds.desc).map (fun d => d.parameters.length) = some 0 := by decide +kernel
theorem zy_X4_nextUnlikeCall : yX4_nextUnlikeCall.cls ≠ "java/lang/invoke/MethodHandle" ∧ yX4_nextUnlikeCall.cls ≠ "java/lang/invoke/VarHandle" ∧ (parseMethodDescriptor yX4_nextUnlikeCall.desc).map (fun d => d.parameters.length) = some 1 := by decide +kernel
theorem zy_X4_noteFalse : yX4_noteFalse.cls ≠ "java/lang/invoke/MethodHandle" ∧ yX4_noteFalse.cls ≠ "java/lang/invoke/VarHandle" ∧ (parseMethodDescriptor yX4_noteFalse.desc).map (fun d => d.parameters.length) = some 1 := by decide +kernel
theorem zy_X4_setLastChange : yX4_setLastChange.cls ≠ "java/lang/invoke/MethodHandle" ∧ yX4_setLastChange.cls ≠ "java/lang/invoke/VarHandle" ∧ (parseMethodDescriptor yX4_setLastChange.desc).map (fun d => d.parameters.length) = some 2 := by decide +kernel
theorem zy_X5_init : yX5_init.cls ≠ "java/lang/invoke/MethodHandle" ∧ yX5_init.cls ≠ "java/lang/invoke/VarHandle" ∧ (parseMethodDescriptor yX5_init.desc).map (fun d => d.parameters.length) = some 0 := by decide +kernel
theorem zy_X5_isRepeat : yX5_isRepeat.cls ≠ "java/lang/invoke/MethodHandle" ∧ yX5_isRepeat.cls ≠ "java/lang/invoke/VarHandle" ∧ (parseMethodDescriptor yX5_isRepeat.desc).map (fun d => d.parameters.length) = some 3 := by decide +kernel
theorem zy_X6_areAllRowsDone : yX6_areAllRowsDone.cls ≠ "java/lang/invoke/MethodHandle" ∧ yX6_areAllRowsDone.cls ≠ "java/lang/invoke/VarHandle" ∧ (parseMethodDescriptor yX6_areAllRowsDone.desc).map (fun d => d.parameters.length) = some 0 := by decide +kernel
theorem zy_X6_awaitsPull : yX6_awaitsPull.cls ≠ "java/lang/invoke/MethodHandle" ∧ yX6_awaitsPull.cls ≠ "java/lang/invoke/VarHandle" ∧ (parseMethodDescriptor yX6_awaitsPull.desc).map (fun d => d.parameters.length) = some 1 := by decide +kernel
theorem zy_X6_canWait : yX6_canWait.cls ≠ "java/lang/invoke/MethodHandle" ∧ yX6_canWait.cls ≠ "java/lang/invoke/VarHandle" ∧ (parseMethodDescriptor yX6_canWait.desc).map (fun d => d.parameters.length) = some 2 := by decide +kernel
theorem zy_X6_doNextRow : yX6_doNextRow.cls ≠ "java/lang/invoke/MethodHandle" ∧ yX6_doNextRow.cls ≠ "java/lang/invoke/VarHandle" ∧ (parseMethodDescriptor yX6_doNextRow.desc).map (fun d => d.parameters.length) = some 0 := by decide +kernel
theorem zy_X6_dueAt : yX6_dueAt.cls ≠ "java/lang/invoke/MethodHandle" ∧ yX6_dueAt.cls ≠ "java/lang/invoke/VarHandle" ∧ (parseMethodDescriptor yX6_dueAt.desc).map (fun d => d.parameters.length) = some 2 := by decide +kernel
theorem zy_X6_init : yX6_init.cls ≠ "java/lang/invoke/MethodHandle" ∧ yX6_init.cls ≠ "java/lang/invoke/VarHandle" ∧ (parseMethodDescriptor yX6_init.desc).map (fun d => d.parameters.length) = some 4 := by decide +kernel
theorem zy_X6_isByPeople : yX6_isByPeople.cls ≠ "java/lang/invoke/MethodHandle" ∧ yX6_isByPeople.cls ≠ "java/lang/invoke/VarHandle" ∧ (parseMethodDescriptor yX6_isByPeople.desc).map (fun d => d.parameters.length) = some 1 := by decide +kernel
theorem zy_X6_isNextRowReady : yX6_isNextRowReady.cls ≠ "java/lang/invoke/MethodHandle" ∧ yX6_isNextRowReady.cls ≠ "java/lang/invoke/VarHandle" ∧ (parseMethodDescriptor yX6_isNextRowReady.desc).map (fun d => d.parameters.length) = some 0 := by decide +kernel
theorem zy_X6_nextDue : yX6_nextDue.cls ≠ "java/lang/invoke/MethodHandle" ∧ yX6_nextDue.cls ≠ "java/lang/invoke/VarHandle" ∧ (parseMethodDescriptor yX6_nextDue.desc).map (fun d => d.parameters.length) = some 1 := by decide +kernel
theorem zy_X6_quarterGap : yX6_quarterGap.cls ≠ "java/lang/invoke/MethodHandle" ∧ yX6_quarterGap.cls ≠ "java/lang/invoke/VarHandle" ∧ (parseMethodDescriptor yX6_quarterGap.desc).map (fun d => d.parameters.length) = some 0 := by decide +kernel
theorem zy_X6_timeOfBlow : yX6_timeOfBlow.cls ≠ "java/lang/invoke/MethodHandle" ∧ yX6_timeOfBlow.cls ≠ "java/lang/invoke/VarHandle" ∧ (parseMethodDescriptor yX6_timeOfBlow.desc).map (fun d => d.parameters.length) = some 1 := by decide +kernel
theorem zy_X6_waitFor : yX6_waitFor.cls ≠ "java/lang/invoke/MethodHandle" ∧ yX6_waitFor.cls ≠ "java/lang/invoke/VarHandle" ∧ (parseMethodDescriptor yX6_waitFor.desc).map (fun d => d.parameters.length) = some 2 := by decide +kernel
theorem zy_X7_bandFor : yX7_bandFor.cls ≠ "java/lang/invoke/MethodHandle" ∧ yX7_bandFor.cls ≠ "java/lang/invoke/VarHandle" ∧ (parseMethodDescriptor yX7_bandFor.desc).map (fun d => d.parameters.length) = some 1 := by decide +kernel
theorem zy_X7_canRingToday : yX7_canRingToday.cls ≠ "java/lang/invoke/MethodHandle" ∧ yX7_canRingToday.cls ≠ "java/lang/invoke/VarHandle" ∧ (parseMethodDescriptor yX7_canRingToday.desc).map (fun d => d.parameters.length) = some 1 := by decide +kernel
theorem zy_X7_dropUnfit : yX7_dropUnfit.cls ≠ "java/lang/invoke/MethodHandle" ∧ yX7_dropUnfit.cls ≠ "java/lang/invoke/VarHandle" ∧ (parseMethodDescriptor yX7_dropUnfit.desc).map (fun d => d.parameters.length) = some 1 := by decide +kernel
theorem zy_X7_endDay : yX7_endDay.cls ≠ "java/lang/invoke/MethodHandle" ∧ yX7_endDay.cls ≠ "java/lang/invoke/VarHandle" ∧ (parseMethodDescriptor yX7_endDay.desc).map (fun d => d.parameters.length) = some 0 := by decide +kernel
theorem zy_X7_firstBand : yX7_firstBand.cls ≠ "java/lang/invoke/MethodHandle" ∧ yX7_firstBand.cls ≠ "java/lang/invoke/VarHandle" ∧ (parseMethodDescriptor yX7_firstBand.desc).map (fun d => d.parameters.length) = some 2 := by decide +kernel
theorem zy_X7_init : yX7_init.cls ≠ "java/lang/invoke/MethodHandle" ∧ yX7_init.cls ≠ "java/lang/invoke/VarHandle" ∧ (parseMethodDescriptor yX7_init.desc).map (fun d => d.parameters.length) = some 0 := by decide +kernel
theorem zy_X7_keepBandOfToday : yX7_keepBandOfToday.cls ≠ "java/lang/invoke/MethodHandle" ∧ yX7_keepBandOfToday.cls ≠ "java/lang/invoke/VarHandle" ∧ (parseMethodDescriptor yX7_keepBandOfToday.desc).map (fun d => d.parameters.length) = some 0 := by decide +kernel
theorem zy_X7_takeFromToday : yX7_takeFromToday.cls ≠ "java/lang/invoke/MethodHandle" ∧ yX7_takeFromToday.cls ≠ "java/lang/invoke/VarHandle" ∧ (parseMethodDescriptor yX7_takeFromToday.desc).map (fun d => d.parameters.length) = some 1 := by decide +kernel
theorem zy_X7_turnBehind : yX7_turnBehind.cls ≠ "java/lang/invoke/MethodHandle" ∧ yX7_turnBehind.cls ≠ "java/lang/invoke/VarHandle" ∧ (parseMethodDescriptor yX7_turnBehind.desc).map (fun d => d.parameters.length) = some 2 := by decide +kernel
theorem zy_X8_afterChange : yX8_afterChange.cls ≠ "java/lang/invoke/MethodHandle" ∧ yX8_afterChange.cls ≠ "java/lang/invoke/VarHandle" ∧ (parseMethodDescriptor yX8_afterChange.desc).map (fun d => d.parameters.length) = some 3 := by decide +kernel
theorem zy_X8_bellIn : yX8_bellIn.cls ≠ "java/lang/invoke/MethodHandle" ∧ yX8_bellIn.cls ≠ "java/lang/invoke/VarHandle" ∧ (parseMethodDescriptor yX8_bellIn.desc).map (fun d => d.parameters.length) = some 2 := by decide +kernel
theorem zy_X8_count : yX8_count.cls ≠ "java/lang/invoke/MethodHandle" ∧ yX8_count.cls ≠ "java/lang/invoke/VarHandle" ∧ (parseMethodDescriptor yX8_count.desc).map (fun d => d.parameters.length) = some 1 := by decide +kernel
theorem zy_X8_isChange : yX8_isChange.cls ≠ "java/lang/invoke/MethodHandle" ∧ yX8_isChange.cls ≠ "java/lang/invoke/VarHandle" ∧ (parseMethodDescriptor yX8_isChange.desc).map (fun d => d.parameters.length) = some 2 := by decide +kernel
theorem zy_X8_isMade : yX8_isMade.cls ≠ "java/lang/invoke/MethodHandle" ∧ yX8_isMade.cls ≠ "java/lang/invoke/VarHandle" ∧ (parseMethodDescriptor yX8_isMade.desc).map (fun d => d.parameters.length) = some 2 := by decide +kernel
theorem zy_X8_number : yX8_number.cls ≠ "java/lang/invoke/MethodHandle" ∧ yX8_number.cls ≠ "java/lang/invoke/VarHandle" ∧ (parseMethodDescriptor yX8_number.desc).map (fun d => d.parameters.length) = some 2 := by decide +kernel
theorem zy_X8_originOf : yX8_originOf.cls ≠ "java/lang/invoke/MethodHandle" ∧ yX8_originOf.cls ≠ "java/lang/invoke/VarHandle" ∧ (parseMethodDescriptor yX8_originOf.desc).map (fun d => d.parameters.length) = some 3 := by decide +kernel
theorem zy_X8_placeOf : yX8_placeOf.cls ≠ "java/lang/invoke/MethodHandle" ∧ yX8_placeOf.cls ≠ "java/lang/invoke/VarHandle" ∧ (parseMethodDescriptor yX8_placeOf.desc).map (fun d => d.parameters.length) = some 3 := by decide +kernel
theorem zy_X8_rounds : yX8_rounds.cls ≠ "java/lang/invoke/MethodHandle" ∧ yX8_rounds.cls ≠ "java/lang/invoke/VarHandle" ∧ (parseMethodDescriptor yX8_rounds.desc).map (fun d => d.parameters.length) = some 1 := by decide +kernel
theorem zy_X8_swapped : yX8_swapped.cls ≠ "java/lang/invoke/MethodHandle" ∧ yX8_swapped.cls ≠ "java/lang/invoke/VarHandle" ∧ (parseMethodDescriptor yX8_swapped.desc).map (fun d => d.parameters.length) = some 2 := by decide +kernel
theorem zy_X9_addLead : yX9_addLead.cls ≠ "java/lang/invoke/MethodHandle" ∧ yX9_addLead.cls ≠ "java/lang/invoke/VarHandle" ∧ (parseMethodDescriptor yX9_addLead.desc).map (fun d => d.parameters.length) = some 2 := by decide +kernel
theorem zy_X9_clear : yX9_clear.cls ≠ "java/lang/invoke/MethodHandle" ∧ yX9_clear.cls ≠ "java/lang/invoke/VarHandle" ∧ (parseMethodDescriptor yX9_clear.desc).map (fun d => d.parameters.length) = some 0 := by decide +kernel
theorem zy_X9_init : yX9_init.cls ≠ "java/lang/invoke/MethodHandle" ∧ yX9_init.cls ≠ "java/lang/invoke/VarHandle" ∧ (parseMethodDescriptor yX9_init.desc).map (fun d => d.parameters.length) = some 0 := by decide +kernel
theorem zy_X9_isFit : yX9_isFit.cls ≠ "java/lang/invoke/MethodHandle" ∧ yX9_isFit.cls ≠ "java/lang/invoke/VarHandle" ∧ (parseMethodDescriptor yX9_isFit.desc).map (fun d => d.parameters.length) = some 1 := by decide +kernel
theorem zy_X9_isSound : yX9_isSound.cls ≠ "java/lang/invoke/MethodHandle" ∧ yX9_isSound.cls ≠ "java/lang/invoke/VarHandle" ∧ (parseMethodDescriptor yX9_isSound.desc).map (fun d => d.parameters.length) = some 0 := by decide +kernel
theorem zy_X9_lastRow : yX9_lastRow.cls ≠ "java/lang/invoke/MethodHandle" ∧ yX9_lastRow.cls ≠ "java/lang/invoke/VarHandle" ∧ (parseMethodDescriptor yX9_lastRow.desc).map (fun d => d.parameters.length) = some 0 := by decide +kernel
theorem zy_X9_leadCount : yX9_leadCount.cls ≠ "java/lang/invoke/MethodHandle" ∧ yX9_leadCount.cls ≠ "java/lang/invoke/VarHandle" ∧ (parseMethodDescriptor yX9_leadCount.desc).map (fun d => d.parameters.length) = some 0 := by decide +kernel
theorem zy_X9_rowAnew : yX9_rowAnew.cls ≠ "java/lang/invoke/MethodHandle" ∧ yX9_rowAnew.cls ≠ "java/lang/invoke/VarHandle" ∧ (parseMethodDescriptor yX9_rowAnew.desc).map (fun d => d.parameters.length) = some 1 := by decide +kernel
theorem zy_X9_takesLead : yX9_takesLead.cls ≠ "java/lang/invoke/MethodHandle" ∧ yX9_takesLead.cls ≠ "java/lang/invoke/VarHandle" ∧ (parseMethodDescriptor yX9_takesLead.desc).map (fun d => d.parameters.length) = some 1 := by decide +kernel
theorem zy_X9_writeFrom : yX9_writeFrom.cls ≠ "java/lang/invoke/MethodHandle" ∧ yX9_writeFrom.cls ≠ "java/lang/invoke/VarHandle" ∧ (parseMethodDescriptor yX9_writeFrom.desc).map (fun d => d.parameters.length) = some 2 := by decide +kernel
theorem zy_X9_writeLead : yX9_writeLead.cls ≠ "java/lang/invoke/MethodHandle" ∧ yX9_writeLead.cls ≠ "java/lang/invoke/VarHandle" ∧ (parseMethodDescriptor yX9_writeLead.desc).map (fun d => d.parameters.length) = some 2 := by decide +kernel
theorem z0_Jx4a65c : ∀ j, j < 3 → defaultValue (tyJx4a65c j) = vp_V (zF0 0) j := by decide +kernel
theorem z0_X0 : ∀ j, j < 1 → defaultValue (tyX0 j) = vp_V (zF0 1) j := by decide +kernel
theorem z0_X1 : ∀ j, j < 8 → defaultValue (tyX1 j) = vp_V (zF0 2) j := by decide +kernel
theorem z0_X2 : ∀ j, j < 2 → defaultValue (tyX2 j) = vp_V (zF0 3) j := by decide +kernel
theorem z0_X3 : ∀ j, j < 1 → defaultValue (tyX3 j) = vp_V (zF0 4) j := by decide +kernel
theorem z0_X4 : ∀ j, j < 7 → defaultValue (tyX4 j) = vp_V (zF0 5) j := by decide +kernel
theorem z0_X5 : ∀ j, j < 1 → defaultValue (tyX5 j) = vp_V (zF0 6) j := by decide +kernel
theorem z0_X6 : ∀ j, j < 6 → defaultValue (tyX6 j) = vp_V (zF0 7) j := by decide +kernel
theorem z0_X7 : ∀ j, j < 6 → defaultValue (tyX7 j) = vp_V (zF0 8) j := by decide +kernel
theorem z0_X9 : ∀ j, j < 9 → defaultValue (tyX9 j) = vp_V (zF0 9) j := by decide +kernel
theorem z0_X10 : ∀ j, j < 14 → defaultValue (tyX10 j) = vp_V (zF0 10) j := by decide +kernel
theorem z0_X11 : ∀ j, j < 42 → defaultValue (tyX11 j) = vp_V (zF0 11) j := by decide +kernel
