theorem q_0 : (Cond.initialized RL : Cond) ∈ lw_gt := lw_gt_of (List.mem_of_getElem? (i := 39) (by decide +kernel)) rfl
theorem q_1 : (Cond.initialized RX8 : Cond) ∈ lw_gt := lw_gt_of (List.mem_of_getElem? (i := 40) (by decide +kernel)) rfl
theorem q_2 : (Cond.initialized RX6 : Cond) ∈ lw_gt := lw_gt_of (List.mem_of_getElem? (i := 41) (by decide +kernel)) rfl
theorem q_3 : (Cond.initialized RX4 : Cond) ∈ lw_gt := lw_gt_of (List.mem_of_getElem? (i := 42) (by decide +kernel)) rfl
theorem q_4 : (Cond.initialized RX2 : Cond) ∈ lw_gt := lw_gt_of (List.mem_of_getElem? (i := 43) (by decide +kernel)) rfl
theorem q_5 : (Cond.initialized RX0 : Cond) ∈ lw_gt := lw_gt_of (List.mem_of_getElem? (i := 44) (by decide +kernel)) rfl
theorem q_6 : (Cond.initialized RX7 : Cond) ∈ lw_gt := lw_gt_of (List.mem_of_getElem? (i := 45) (by decide +kernel)) rfl
theorem q_7 : (Cond.initialized RX1 : Cond) ∈ lw_gt := lw_gt_of (List.mem_of_getElem? (i := 46) (by decide +kernel)) rfl
theorem q_8 : (Cond.initialized RX9 : Cond) ∈ lw_gt := lw_gt_of (List.mem_of_getElem? (i := 47) (by decide +kernel)) rfl
theorem q_9 : (Cond.initialized RX3 : Cond) ∈ lw_gt := lw_gt_of (List.mem_of_getElem? (i := 48) (by decide +kernel)) rfl
theorem q_10 : (Cond.initialized RX5 : Cond) ∈ lw_gt := lw_gt_of (List.mem_of_getElem? (i := 49) (by decide +kernel)) rfl
theorem q_11 : (Cond.initialized RJ7 : Cond) ∈ lw_gt := lw_gt_of (List.mem_of_getElem? (i := 50) (by decide +kernel)) rfl
theorem q_12 : (Cond.initialized RJ10 : Cond) ∈ lw_gt := lw_gt_of (List.mem_of_getElem? (i := 51) (by decide +kernel)) rfl
theorem q_13 : (Cond.classLink RL 7 "FlowConstants" : Cond) ∈ lw_gt := lw_gt_of (List.mem_of_getElem? (i := 52) (by decide +kernel)) rfl
theorem q_14 : (Cond.instantiable RX8 12 : Cond) ∈ lw_gt := lw_gt_of (List.mem_of_getElem? (i := 53) (by decide +kernel)) rfl
theorem q_15 : (Cond.methodLink RL 9 yX8_init : Cond) ∈ lw_gt := lw_gt_of (List.mem_of_getElem? (i := 54) (by decide +kernel)) rfl
theorem q_16 : (Cond.instanceMethod yX8_init : Cond) ∈ lw_gt := lw_gt_of (List.mem_of_getElem? (i := 55) (by decide +kernel)) rfl
theorem q_17 : (Cond.code yX8_init cX8_init 2 none : Cond) ∈ lw_gt := lw_gt_of (List.mem_of_getElem? (i := 56) (by decide +kernel)) rfl
theorem q_18 : (Cond.methodLink RX8 3 objectInit : Cond) ∈ lw_gt := lw_gt_of (List.mem_of_getElem? (i := 57) (by decide +kernel)) rfl
theorem q_19 : (Cond.instanceMethod objectInit : Cond) ∈ lw_gt := lw_gt_of (List.mem_of_getElem? (i := 58) (by decide +kernel)) rfl
theorem q_20 : (Cond.code objectInit ⟨#[0xb1]⟩ 1 none : Cond) ∈ lw_gt := lw_gt_of (List.mem_of_getElem? (i := 59) (by decide +kernel)) rfl
theorem q_21 : (Cond.classLink RX8 9 "FlowConstants$Text" : Cond) ∈ lw_gt := lw_gt_of (List.mem_of_getElem? (i := 60) (by decide +kernel)) rfl
theorem q_22 : (Cond.instantiable RX6 7 : Cond) ∈ lw_gt := lw_gt_of (List.mem_of_getElem? (i := 61) (by decide +kernel)) rfl
theorem q_24 : (Cond.instanceMethod yX6_init : Cond) ∈ lw_gt := lw_gt_of (List.mem_of_getElem? (i := 63) (by decide +kernel)) rfl
theorem q_25 : (Cond.code yX6_init cX6_init 1 none : Cond) ∈ lw_gt := lw_gt_of (List.mem_of_getElem? (i := 64) (by decide +kernel)) rfl
theorem q_26 : (Cond.methodLink RX6 3 objectInit : Cond) ∈ lw_gt := lw_gt_of (List.mem_of_getElem? (i := 65) (by decide +kernel)) rfl
theorem q_27 : (Cond.fieldLink RX6 9 "FlowConstants$Text" "bytes" "[I" : Cond) ∈ lw_gt := lw_gt_of (List.mem_of_getElem? (i := 66) (by decide +kernel)) rfl
theorem q_28 : (Cond.fieldLink RX8 75 "FlowConstants$Text" "bytes" "[I" : Cond) ∈ lw_gt := lw_gt_of (List.mem_of_getElem? (i := 67) (by decide +kernel)) rfl
theorem q_29 : (Cond.fieldLink RX6 15 "FlowConstants$Text" "length" "I" : Cond) ∈ lw_gt := lw_gt_of (List.mem_of_getElem? (i := 68) (by decide +kernel)) rfl
theorem q_30 : (Cond.fieldLink RX8 72 "FlowConstants$Text" "length" "I" : Cond) ∈ lw_gt := lw_gt_of (List.mem_of_getElem? (i := 69) (by decide +kernel)) rfl
theorem q_31 : (Cond.fieldLink RX6 19 "FlowConstants$Text" "kind" "I" : Cond) ∈ lw_gt := lw_gt_of (List.mem_of_getElem? (i := 70) (by decide +kernel)) rfl
theorem q_32 : (Cond.fieldLink RX3 43 "FlowConstants$Text" "kind" "I" : Cond) ∈ lw_gt := lw_gt_of (List.mem_of_getElem? (i := 71) (by decide +kernel)) rfl
theorem q_33 : (Cond.fieldLink RX6 22 "FlowConstants$Text" "place" "I" : Cond) ∈ lw_gt := lw_gt_of (List.mem_of_getElem? (i := 72) (by decide +kernel)) rfl
theorem q_34 : (Cond.fieldLink RX3 39 "FlowConstants$Text" "place" "I" : Cond) ∈ lw_gt := lw_gt_of (List.mem_of_getElem? (i := 73) (by decide +kernel)) rfl
theorem q_35 : (Cond.fieldLink RX6 25 "FlowConstants$Text" "behind" "I" : Cond) ∈ lw_gt := lw_gt_of (List.mem_of_getElem? (i := 74) (by decide +kernel)) rfl
theorem q_36 : (Cond.fieldLink RX6 28 "FlowConstants$Text" "meaning" "I" : Cond) ∈ lw_gt := lw_gt_of (List.mem_of_getElem? (i := 75) (by decide +kernel)) rfl
theorem q_37 : (Cond.fieldLink RX3 46 "FlowConstants$Text" "meaning" "I" : Cond) ∈ lw_gt := lw_gt_of (List.mem_of_getElem? (i := 76) (by decide +kernel)) rfl
theorem q_38 : (Cond.fieldLink RX6 31 "FlowConstants$Text" "stuck" "Z" : Cond) ∈ lw_gt := lw_gt_of (List.mem_of_getElem? (i := 77) (by decide +kernel)) rfl
theorem q_39 : (Cond.fieldLink RX3 29 "FlowConstants$Text" "stuck" "Z" : Cond) ∈ lw_gt := lw_gt_of (List.mem_of_getElem? (i := 78) (by decide +kernel)) rfl
theorem q_55 : (Cond.arrayClass .int : Cond) ∈ lw_gt := lw_gt_of (List.mem_of_getElem? (i := 94) (by decide +kernel)) rfl
theorem q_56 : (Cond.classLink RX8 16 "FlowConstants$Shape" : Cond) ∈ lw_gt := lw_gt_of (List.mem_of_getElem? (i := 95) (by decide +kernel)) rfl
theorem q_57 : (Cond.instantiable RX4 17 : Cond) ∈ lw_gt := lw_gt_of (List.mem_of_getElem? (i := 96) (by decide +kernel)) rfl
theorem q_59 : (Cond.instanceMethod yX4_init : Cond) ∈ lw_gt := lw_gt_of (List.mem_of_getElem? (i := 98) (by decide +kernel)) rfl
theorem q_60 : (Cond.code yX4_init cX4_init 1 none : Cond) ∈ lw_gt := lw_gt_of (List.mem_of_getElem? (i := 99) (by decide +kernel)) rfl
theorem q_61 : (Cond.methodLink RX4 3 objectInit : Cond) ∈ lw_gt := lw_gt_of (List.mem_of_getElem? (i := 100) (by decide +kernel)) rfl
theorem q_62 : (Cond.fieldLink RX4 9 "FlowConstants$Shape" "blocks" "I" : Cond) ∈ lw_gt := lw_gt_of (List.mem_of_getElem? (i := 101) (by decide +kernel)) rfl
theorem q_63 : (Cond.fieldLink RX0 30 "FlowConstants$Shape" "blocks" "I" : Cond) ∈ lw_gt := lw_gt_of (List.mem_of_getElem? (i := 102) (by decide +kernel)) rfl
theorem q_64 : (Cond.fieldLink RX8 190 "FlowConstants$Shape" "blocks" "I" : Cond) ∈ lw_gt := lw_gt_of (List.mem_of_getElem? (i := 103) (by decide +kernel)) rfl
theorem q_65 : (Cond.fieldLink RX4 15 "FlowConstants$Shape" "names" "I" : Cond) ∈ lw_gt := lw_gt_of (List.mem_of_getElem? (i := 104) (by decide +kernel)) rfl
theorem q_66 : (Cond.fieldLink RX8 100 "FlowConstants$Shape" "names" "I" : Cond) ∈ lw_gt := lw_gt_of (List.mem_of_getElem? (i := 105) (by decide +kernel)) rfl
theorem q_67 : (Cond.fieldLink RX0 128 "FlowConstants$Shape" "names" "I" : Cond) ∈ lw_gt := lw_gt_of (List.mem_of_getElem? (i := 106) (by decide +kernel)) rfl
theorem q_68 : (Cond.fieldLink RX4 18 "FlowConstants$Shape" "home" "[I" : Cond) ∈ lw_gt := lw_gt_of (List.mem_of_getElem? (i := 107) (by decide +kernel)) rfl
theorem q_69 : (Cond.fieldLink RX0 105 "FlowConstants$Shape" "home" "[I" : Cond) ∈ lw_gt := lw_gt_of (List.mem_of_getElem? (i := 108) (by decide +kernel)) rfl
theorem q_70 : (Cond.fieldLink RX8 107 "FlowConstants$Shape" "home" "[I" : Cond) ∈ lw_gt := lw_gt_of (List.mem_of_getElem? (i := 109) (by decide +kernel)) rfl
theorem q_71 : (Cond.fieldLink RX4 22 "FlowConstants$Shape" "make" "[I" : Cond) ∈ lw_gt := lw_gt_of (List.mem_of_getElem? (i := 110) (by decide +kernel)) rfl
theorem q_72 : (Cond.fieldLink RX0 50 "FlowConstants$Shape" "make" "[I" : Cond) ∈ lw_gt := lw_gt_of (List.mem_of_getElem? (i := 111) (by decide +kernel)) rfl
theorem q_73 : (Cond.fieldLink RX7 70 "FlowConstants$Shape" "make" "[I" : Cond) ∈ lw_gt := lw_gt_of (List.mem_of_getElem? (i := 112) (by decide +kernel)) rfl
theorem q_74 : (Cond.fieldLink RX8 110 "FlowConstants$Shape" "make" "[I" : Cond) ∈ lw_gt := lw_gt_of (List.mem_of_getElem? (i := 113) (by decide +kernel)) rfl
theorem q_75 : (Cond.fieldLink RX4 25 "FlowConstants$Shape" "number" "[I" : Cond) ∈ lw_gt := lw_gt_of (List.mem_of_getElem? (i := 114) (by decide +kernel)) rfl
theorem q_76 : (Cond.fieldLink RX2 33 "FlowConstants$Shape" "number" "[I" : Cond) ∈ lw_gt := lw_gt_of (List.mem_of_getElem? (i := 115) (by decide +kernel)) rfl
theorem q_77 : (Cond.fieldLink RX3 85 "FlowConstants$Shape" "number" "[I" : Cond) ∈ lw_gt := lw_gt_of (List.mem_of_getElem? (i := 116) (by decide +kernel)) rfl
theorem q_78 : (Cond.fieldLink RX4 28 "FlowConstants$Shape" "sign" "[I" : Cond) ∈ lw_gt := lw_gt_of (List.mem_of_getElem? (i := 117) (by decide +kernel)) rfl
theorem q_79 : (Cond.fieldLink RX0 83 "FlowConstants$Shape" "sign" "[I" : Cond) ∈ lw_gt := lw_gt_of (List.mem_of_getElem? (i := 118) (by decide +kernel)) rfl
theorem q_80 : (Cond.fieldLink RX7 88 "FlowConstants$Shape" "sign" "[I" : Cond) ∈ lw_gt := lw_gt_of (List.mem_of_getElem? (i := 119) (by decide +kernel)) rfl
theorem q_81 : (Cond.fieldLink RX3 92 "FlowConstants$Shape" "sign" "[I" : Cond) ∈ lw_gt := lw_gt_of (List.mem_of_getElem? (i := 120) (by decide +kernel)) rfl
theorem q_82 : (Cond.fieldLink RX8 113 "FlowConstants$Shape" "sign" "[I" : Cond) ∈ lw_gt := lw_gt_of (List.mem_of_getElem? (i := 121) (by decide +kernel)) rfl
theorem q_83 : (Cond.fieldLink RX4 31 "FlowConstants$Shape" "left" "[I" : Cond) ∈ lw_gt := lw_gt_of (List.mem_of_getElem? (i := 122) (by decide +kernel)) rfl
theorem q_84 : (Cond.fieldLink RX0 77 "FlowConstants$Shape" "left" "[I" : Cond) ∈ lw_gt := lw_gt_of (List.mem_of_getElem? (i := 123) (by decide +kernel)) rfl
theorem q_85 : (Cond.fieldLink RX7 82 "FlowConstants$Shape" "left" "[I" : Cond) ∈ lw_gt := lw_gt_of (List.mem_of_getElem? (i := 124) (by decide +kernel)) rfl
theorem q_86 : (Cond.fieldLink RX3 89 "FlowConstants$Shape" "left" "[I" : Cond) ∈ lw_gt := lw_gt_of (List.mem_of_getElem? (i := 125) (by decide +kernel)) rfl
theorem q_87 : (Cond.fieldLink RX8 119 "FlowConstants$Shape" "left" "[I" : Cond) ∈ lw_gt := lw_gt_of (List.mem_of_getElem? (i := 126) (by decide +kernel)) rfl
theorem q_88 : (Cond.fieldLink RX4 34 "FlowConstants$Shape" "right" "[I" : Cond) ∈ lw_gt := lw_gt_of (List.mem_of_getElem? (i := 127) (by decide +kernel)) rfl
theorem q_89 : (Cond.fieldLink RX0 80 "FlowConstants$Shape" "right" "[I" : Cond) ∈ lw_gt := lw_gt_of (List.mem_of_getElem? (i := 128) (by decide +kernel)) rfl
theorem q_90 : (Cond.fieldLink RX7 85 "FlowConstants$Shape" "right" "[I" : Cond) ∈ lw_gt := lw_gt_of (List.mem_of_getElem? (i := 129) (by decide +kernel)) rfl
theorem q_91 : (Cond.fieldLink RX3 95 "FlowConstants$Shape" "right" "[I" : Cond) ∈ lw_gt := lw_gt_of (List.mem_of_getElem? (i := 130) (by decide +kernel)) rfl
theorem q_92 : (Cond.fieldLink RX8 122 "FlowConstants$Shape" "right" "[I" : Cond) ∈ lw_gt := lw_gt_of (List.mem_of_getElem? (i := 131) (by decide +kernel)) rfl
theorem q_93 : (Cond.fieldLink RX4 37 "FlowConstants$Shape" "arms" "[I" : Cond) ∈ lw_gt := lw_gt_of (List.mem_of_getElem? (i := 132) (by decide +kernel)) rfl
theorem q_94 : (Cond.fieldLink RX0 96 "FlowConstants$Shape" "arms" "[I" : Cond) ∈ lw_gt := lw_gt_of (List.mem_of_getElem? (i := 133) (by decide +kernel)) rfl
theorem q_95 : (Cond.fieldLink RX8 116 "FlowConstants$Shape" "arms" "[I" : Cond) ∈ lw_gt := lw_gt_of (List.mem_of_getElem? (i := 134) (by decide +kernel)) rfl
theorem q_96 : (Cond.fieldLink RX4 40 "FlowConstants$Shape" "armBlock" "[I" : Cond) ∈ lw_gt := lw_gt_of (List.mem_of_getElem? (i := 135) (by decide +kernel)) rfl
theorem q_97 : (Cond.fieldLink RX0 102 "FlowConstants$Shape" "armBlock" "[I" : Cond) ∈ lw_gt := lw_gt_of (List.mem_of_getElem? (i := 136) (by decide +kernel)) rfl
theorem q_98 : (Cond.fieldLink RX4 43 "FlowConstants$Shape" "armName" "[I" : Cond) ∈ lw_gt := lw_gt_of (List.mem_of_getElem? (i := 137) (by decide +kernel)) rfl
theorem q_99 : (Cond.fieldLink RX7 67 "FlowConstants$Shape" "armName" "[I" : Cond) ∈ lw_gt := lw_gt_of (List.mem_of_getElem? (i := 138) (by decide +kernel)) rfl
theorem q_100 : (Cond.fieldLink RX0 99 "FlowConstants$Shape" "armName" "[I" : Cond) ∈ lw_gt := lw_gt_of (List.mem_of_getElem? (i := 139) (by decide +kernel)) rfl
theorem q_101 : (Cond.fieldLink RX4 46 "FlowConstants$Shape" "start" "[I" : Cond) ∈ lw_gt := lw_gt_of (List.mem_of_getElem? (i := 140) (by decide +kernel)) rfl
theorem q_102 : (Cond.fieldLink RX7 57 "FlowConstants$Shape" "start" "[I" : Cond) ∈ lw_gt := lw_gt_of (List.mem_of_getElem? (i := 141) (by decide +kernel)) rfl
theorem q_103 : (Cond.fieldLink RX0 44 "FlowConstants$Shape" "start" "[I" : Cond) ∈ lw_gt := lw_gt_of (List.mem_of_getElem? (i := 142) (by decide +kernel)) rfl
theorem q_104 : (Cond.fieldLink RX4 49 "FlowConstants$Shape" "size" "[I" : Cond) ∈ lw_gt := lw_gt_of (List.mem_of_getElem? (i := 143) (by decide +kernel)) rfl
theorem q_105 : (Cond.fieldLink RX7 60 "FlowConstants$Shape" "size" "[I" : Cond) ∈ lw_gt := lw_gt_of (List.mem_of_getElem? (i := 144) (by decide +kernel)) rfl
theorem q_106 : (Cond.fieldLink RX0 47 "FlowConstants$Shape" "size" "[I" : Cond) ∈ lw_gt := lw_gt_of (List.mem_of_getElem? (i := 145) (by decide +kernel)) rfl
theorem q_107 : (Cond.fieldLink RX8 140 "FlowConstants$Shape" "size" "[I" : Cond) ∈ lw_gt := lw_gt_of (List.mem_of_getElem? (i := 146) (by decide +kernel)) rfl
theorem q_108 : (Cond.fieldLink RX4 52 "FlowConstants$Shape" "end" "[I" : Cond) ∈ lw_gt := lw_gt_of (List.mem_of_getElem? (i := 147) (by decide +kernel)) rfl
theorem q_109 : (Cond.fieldLink RX7 48 "FlowConstants$Shape" "end" "[I" : Cond) ∈ lw_gt := lw_gt_of (List.mem_of_getElem? (i := 148) (by decide +kernel)) rfl
theorem q_110 : (Cond.fieldLink RX8 142 "FlowConstants$Shape" "end" "[I" : Cond) ∈ lw_gt := lw_gt_of (List.mem_of_getElem? (i := 149) (by decide +kernel)) rfl
theorem q_111 : (Cond.fieldLink RX0 119 "FlowConstants$Shape" "end" "[I" : Cond) ∈ lw_gt := lw_gt_of (List.mem_of_getElem? (i := 150) (by decide +kernel)) rfl
theorem q_112 : (Cond.fieldLink RX4 55 "FlowConstants$Shape" "endName" "[I" : Cond) ∈ lw_gt := lw_gt_of (List.mem_of_getElem? (i := 151) (by decide +kernel)) rfl
theorem q_113 : (Cond.fieldLink RX7 51 "FlowConstants$Shape" "endName" "[I" : Cond) ∈ lw_gt := lw_gt_of (List.mem_of_getElem? (i := 152) (by decide +kernel)) rfl
theorem q_114 : (Cond.fieldLink RX8 145 "FlowConstants$Shape" "endName" "[I" : Cond) ∈ lw_gt := lw_gt_of (List.mem_of_getElem? (i := 153) (by decide +kernel)) rfl
theorem q_115 : (Cond.fieldLink RX3 112 "FlowConstants$Shape" "endName" "[I" : Cond) ∈ lw_gt := lw_gt_of (List.mem_of_getElem? (i := 154) (by decide +kernel)) rfl
theorem q_116 : (Cond.fieldLink RX0 122 "FlowConstants$Shape" "endName" "[I" : Cond) ∈ lw_gt := lw_gt_of (List.mem_of_getElem? (i := 155) (by decide +kernel)) rfl
theorem q_117 : (Cond.fieldLink RX4 58 "FlowConstants$Shape" "way" "[I" : Cond) ∈ lw_gt := lw_gt_of (List.mem_of_getElem? (i := 156) (by decide +kernel)) rfl
theorem q_118 : (Cond.fieldLink RX2 42 "FlowConstants$Shape" "way" "[I" : Cond) ∈ lw_gt := lw_gt_of (List.mem_of_getElem? (i := 157) (by decide +kernel)) rfl
theorem q_119 : (Cond.fieldLink RX3 109 "FlowConstants$Shape" "way" "[I" : Cond) ∈ lw_gt := lw_gt_of (List.mem_of_getElem? (i := 158) (by decide +kernel)) rfl
theorem q_120 : (Cond.fieldLink RX4 61 "FlowConstants$Shape" "dominators" "[I" : Cond) ∈ lw_gt := lw_gt_of (List.mem_of_getElem? (i := 159) (by decide +kernel)) rfl
theorem q_121 : (Cond.fieldLink RX8 154 "FlowConstants$Shape" "dominators" "[I" : Cond) ∈ lw_gt := lw_gt_of (List.mem_of_getElem? (i := 160) (by decide +kernel)) rfl
theorem q_157 : (Cond.classLink RX8 26 "FlowConstants$Now" : Cond) ∈ lw_gt := lw_gt_of (List.mem_of_getElem? (i := 196) (by decide +kernel)) rfl
theorem q_158 : (Cond.instantiable RX2 5 : Cond) ∈ lw_gt := lw_gt_of (List.mem_of_getElem? (i := 197) (by decide +kernel)) rfl
theorem q_160 : (Cond.instanceMethod yX2_init : Cond) ∈ lw_gt := lw_gt_of (List.mem_of_getElem? (i := 199) (by decide +kernel)) rfl
theorem q_161 : (Cond.code yX2_init cX2_init 1 none : Cond) ∈ lw_gt := lw_gt_of (List.mem_of_getElem? (i := 200) (by decide +kernel)) rfl
theorem q_162 : (Cond.methodLink RX2 3 objectInit : Cond) ∈ lw_gt := lw_gt_of (List.mem_of_getElem? (i := 201) (by decide +kernel)) rfl
theorem q_163 : (Cond.fieldLink RX2 9 "FlowConstants$Now" "known" "[I" : Cond) ∈ lw_gt := lw_gt_of (List.mem_of_getElem? (i := 202) (by decide +kernel)) rfl
theorem q_164 : (Cond.fieldLink RX1 31 "FlowConstants$Now" "known" "[I" : Cond) ∈ lw_gt := lw_gt_of (List.mem_of_getElem? (i := 203) (by decide +kernel)) rfl
theorem q_165 : (Cond.fieldLink RX0 62 "FlowConstants$Now" "known" "[I" : Cond) ∈ lw_gt := lw_gt_of (List.mem_of_getElem? (i := 204) (by decide +kernel)) rfl
theorem q_166 : (Cond.fieldLink RX8 125 "FlowConstants$Now" "known" "[I" : Cond) ∈ lw_gt := lw_gt_of (List.mem_of_getElem? (i := 205) (by decide +kernel)) rfl
theorem q_167 : (Cond.fieldLink RX2 15 "FlowConstants$Now" "knownAs" "[I" : Cond) ∈ lw_gt := lw_gt_of (List.mem_of_getElem? (i := 206) (by decide +kernel)) rfl
theorem q_168 : (Cond.fieldLink RX1 36 "FlowConstants$Now" "knownAs" "[I" : Cond) ∈ lw_gt := lw_gt_of (List.mem_of_getElem? (i := 207) (by decide +kernel)) rfl
theorem q_169 : (Cond.fieldLink RX8 165 "FlowConstants$Now" "knownAs" "[I" : Cond) ∈ lw_gt := lw_gt_of (List.mem_of_getElem? (i := 208) (by decide +kernel)) rfl
theorem q_170 : (Cond.fieldLink RX2 18 "FlowConstants$Now" "given" "[I" : Cond) ∈ lw_gt := lw_gt_of (List.mem_of_getElem? (i := 209) (by decide +kernel)) rfl
theorem q_171 : (Cond.fieldLink RX1 39 "FlowConstants$Now" "given" "[I" : Cond) ∈ lw_gt := lw_gt_of (List.mem_of_getElem? (i := 210) (by decide +kernel)) rfl
theorem q_172 : (Cond.fieldLink RX8 172 "FlowConstants$Now" "given" "[I" : Cond) ∈ lw_gt := lw_gt_of (List.mem_of_getElem? (i := 211) (by decide +kernel)) rfl
theorem q_173 : (Cond.fieldLink RX2 21 "FlowConstants$Now" "number" "[I" : Cond) ∈ lw_gt := lw_gt_of (List.mem_of_getElem? (i := 212) (by decide +kernel)) rfl
theorem q_174 : (Cond.fieldLink RX1 42 "FlowConstants$Now" "number" "[I" : Cond) ∈ lw_gt := lw_gt_of (List.mem_of_getElem? (i := 213) (by decide +kernel)) rfl
theorem q_175 : (Cond.fieldLink RX0 53 "FlowConstants$Now" "number" "[I" : Cond) ∈ lw_gt := lw_gt_of (List.mem_of_getElem? (i := 214) (by decide +kernel)) rfl
theorem q_176 : (Cond.fieldLink RX7 73 "FlowConstants$Now" "number" "[I" : Cond) ∈ lw_gt := lw_gt_of (List.mem_of_getElem? (i := 215) (by decide +kernel)) rfl
theorem q_177 : (Cond.fieldLink RX8 175 "FlowConstants$Now" "number" "[I" : Cond) ∈ lw_gt := lw_gt_of (List.mem_of_getElem? (i := 216) (by decide +kernel)) rfl
theorem q_178 : (Cond.fieldLink RX2 24 "FlowConstants$Now" "way" "[I" : Cond) ∈ lw_gt := lw_gt_of (List.mem_of_getElem? (i := 217) (by decide +kernel)) rfl
theorem q_179 : (Cond.fieldLink RX7 104 "FlowConstants$Now" "way" "[I" : Cond) ∈ lw_gt := lw_gt_of (List.mem_of_getElem? (i := 218) (by decide +kernel)) rfl
theorem q_180 : (Cond.fieldLink RX0 112 "FlowConstants$Now" "way" "[I" : Cond) ∈ lw_gt := lw_gt_of (List.mem_of_getElem? (i := 219) (by decide +kernel)) rfl
theorem q_181 : (Cond.fieldLink RX8 148 "FlowConstants$Now" "way" "[I" : Cond) ∈ lw_gt := lw_gt_of (List.mem_of_getElem? (i := 220) (by decide +kernel)) rfl
theorem q_193 : (Cond.classLink RX8 33 "FlowConstants$Flow" : Cond) ∈ lw_gt := lw_gt_of (List.mem_of_getElem? (i := 232) (by decide +kernel)) rfl
theorem q_194 : (Cond.instantiable RX0 4 : Cond) ∈ lw_gt := lw_gt_of (List.mem_of_getElem? (i := 233) (by decide +kernel)) rfl
theorem q_196 : (Cond.instanceMethod yX0_init : Cond) ∈ lw_gt := lw_gt_of (List.mem_of_getElem? (i := 235) (by decide +kernel)) rfl
theorem q_197 : (Cond.code yX0_init cX0_init 1 none : Cond) ∈ lw_gt := lw_gt_of (List.mem_of_getElem? (i := 236) (by decide +kernel)) rfl
theorem q_198 : (Cond.methodLink RX0 3 objectInit : Cond) ∈ lw_gt := lw_gt_of (List.mem_of_getElem? (i := 237) (by decide +kernel)) rfl
theorem q_199 : (Cond.fieldLink RX0 9 "FlowConstants$Flow" "state" "[I" : Cond) ∈ lw_gt := lw_gt_of (List.mem_of_getElem? (i := 238) (by decide +kernel)) rfl
theorem q_200 : (Cond.fieldLink RX8 128 "FlowConstants$Flow" "state" "[I" : Cond) ∈ lw_gt := lw_gt_of (List.mem_of_getElem? (i := 239) (by decide +kernel)) rfl
theorem q_201 : (Cond.fieldLink RX0 15 "FlowConstants$Flow" "value" "[I" : Cond) ∈ lw_gt := lw_gt_of (List.mem_of_getElem? (i := 240) (by decide +kernel)) rfl
theorem q_202 : (Cond.fieldLink RX8 131 "FlowConstants$Flow" "value" "[I" : Cond) ∈ lw_gt := lw_gt_of (List.mem_of_getElem? (i := 241) (by decide +kernel)) rfl
theorem q_203 : (Cond.fieldLink RX0 18 "FlowConstants$Flow" "live" "[I" : Cond) ∈ lw_gt := lw_gt_of (List.mem_of_getElem? (i := 242) (by decide +kernel)) rfl
theorem q_204 : (Cond.fieldLink RX8 137 "FlowConstants$Flow" "live" "[I" : Cond) ∈ lw_gt := lw_gt_of (List.mem_of_getElem? (i := 243) (by decide +kernel)) rfl
theorem q_205 : (Cond.fieldLink RX0 21 "FlowConstants$Flow" "open" "[I" : Cond) ∈ lw_gt := lw_gt_of (List.mem_of_getElem? (i := 244) (by decide +kernel)) rfl
theorem q_206 : (Cond.fieldLink RX8 151 "FlowConstants$Flow" "open" "[I" : Cond) ∈ lw_gt := lw_gt_of (List.mem_of_getElem? (i := 245) (by decide +kernel)) rfl
theorem q_216 : (Cond.classLink RX8 46 "FlowConstants$Walk" : Cond) ∈ lw_gt := lw_gt_of (List.mem_of_getElem? (i := 255) (by decide +kernel)) rfl
theorem q_217 : (Cond.instantiable RX7 5 : Cond) ∈ lw_gt := lw_gt_of (List.mem_of_getElem? (i := 256) (by decide +kernel)) rfl
theorem q_219 : (Cond.instanceMethod yX7_init : Cond) ∈ lw_gt := lw_gt_of (List.mem_of_getElem? (i := 258) (by decide +kernel)) rfl
theorem q_220 : (Cond.code yX7_init cX7_init 1 none : Cond) ∈ lw_gt := lw_gt_of (List.mem_of_getElem? (i := 259) (by decide +kernel)) rfl
theorem q_221 : (Cond.methodLink RX7 3 objectInit : Cond) ∈ lw_gt := lw_gt_of (List.mem_of_getElem? (i := 260) (by decide +kernel)) rfl
theorem q_222 : (Cond.fieldLink RX7 11 "FlowConstants$Walk" "outcome" "I" : Cond) ∈ lw_gt := lw_gt_of (List.mem_of_getElem? (i := 261) (by decide +kernel)) rfl
theorem q_223 : (Cond.fieldLink RX8 196 "FlowConstants$Walk" "outcome" "I" : Cond) ∈ lw_gt := lw_gt_of (List.mem_of_getElem? (i := 262) (by decide +kernel)) rfl
theorem q_224 : (Cond.fieldLink RX7 15 "FlowConstants$Walk" "answer" "I" : Cond) ∈ lw_gt := lw_gt_of (List.mem_of_getElem? (i := 263) (by decide +kernel)) rfl
theorem q_225 : (Cond.fieldLink RX8 193 "FlowConstants$Walk" "answer" "I" : Cond) ∈ lw_gt := lw_gt_of (List.mem_of_getElem? (i := 264) (by decide +kernel)) rfl
theorem q_226 : (Cond.fieldLink RX7 18 "FlowConstants$Walk" "value" "[I" : Cond) ∈ lw_gt := lw_gt_of (List.mem_of_getElem? (i := 265) (by decide +kernel)) rfl
theorem q_227 : (Cond.fieldLink RX8 202 "FlowConstants$Walk" "value" "[I" : Cond) ∈ lw_gt := lw_gt_of (List.mem_of_getElem? (i := 266) (by decide +kernel)) rfl
theorem q_228 : (Cond.fieldLink RX7 22 "FlowConstants$Walk" "brought" "[I" : Cond) ∈ lw_gt := lw_gt_of (List.mem_of_getElem? (i := 267) (by decide +kernel)) rfl
theorem q_229 : (Cond.fieldLink RX7 25 "FlowConstants$Walk" "times" "[I" : Cond) ∈ lw_gt := lw_gt_of (List.mem_of_getElem? (i := 268) (by decide +kernel)) rfl
theorem q_230 : (Cond.fieldLink RX8 199 "FlowConstants$Walk" "times" "[I" : Cond) ∈ lw_gt := lw_gt_of (List.mem_of_getElem? (i := 269) (by decide +kernel)) rfl
theorem q_242 : (Cond.classLink RX8 53 "FlowConstants$History" : Cond) ∈ lw_gt := lw_gt_of (List.mem_of_getElem? (i := 281) (by decide +kernel)) rfl
theorem q_243 : (Cond.instantiable RX1 5 : Cond) ∈ lw_gt := lw_gt_of (List.mem_of_getElem? (i := 282) (by decide +kernel)) rfl
theorem q_245 : (Cond.instanceMethod yX1_init : Cond) ∈ lw_gt := lw_gt_of (List.mem_of_getElem? (i := 284) (by decide +kernel)) rfl
theorem q_246 : (Cond.code yX1_init cX1_init 1 none : Cond) ∈ lw_gt := lw_gt_of (List.mem_of_getElem? (i := 285) (by decide +kernel)) rfl
theorem q_247 : (Cond.methodLink RX1 3 objectInit : Cond) ∈ lw_gt := lw_gt_of (List.mem_of_getElem? (i := 286) (by decide +kernel)) rfl
theorem q_248 : (Cond.fieldLink RX1 9 "FlowConstants$History" "size" "I" : Cond) ∈ lw_gt := lw_gt_of (List.mem_of_getElem? (i := 287) (by decide +kernel)) rfl
theorem q_249 : (Cond.fieldLink RX8 88 "FlowConstants$History" "size" "I" : Cond) ∈ lw_gt := lw_gt_of (List.mem_of_getElem? (i := 288) (by decide +kernel)) rfl
theorem q_250 : (Cond.fieldLink RX1 15 "FlowConstants$History" "deed" "[I" : Cond) ∈ lw_gt := lw_gt_of (List.mem_of_getElem? (i := 289) (by decide +kernel)) rfl
theorem q_251 : (Cond.fieldLink RX1 19 "FlowConstants$History" "place" "[I" : Cond) ∈ lw_gt := lw_gt_of (List.mem_of_getElem? (i := 290) (by decide +kernel)) rfl
theorem q_252 : (Cond.fieldLink RX1 22 "FlowConstants$History" "wasKnown" "[I" : Cond) ∈ lw_gt := lw_gt_of (List.mem_of_getElem? (i := 291) (by decide +kernel)) rfl
theorem q_253 : (Cond.fieldLink RX1 25 "FlowConstants$History" "was" "[I" : Cond) ∈ lw_gt := lw_gt_of (List.mem_of_getElem? (i := 292) (by decide +kernel)) rfl
theorem q_266 : (Cond.fieldLink RX8 12 "FlowConstants" "text" "LFlowConstants$Text;" : Cond) ∈ lw_gt := lw_gt_of (List.mem_of_getElem? (i := 305) (by decide +kernel)) rfl
theorem q_267 : (Cond.fieldLink RX8 19 "FlowConstants" "shape" "LFlowConstants$Shape;" : Cond) ∈ lw_gt := lw_gt_of (List.mem_of_getElem? (i := 306) (by decide +kernel)) rfl
theorem q_268 : (Cond.fieldLink RX8 23 "FlowConstants" "draft" "LFlowConstants$Shape;" : Cond) ∈ lw_gt := lw_gt_of (List.mem_of_getElem? (i := 307) (by decide +kernel)) rfl
theorem q_269 : (Cond.fieldLink RX8 29 "FlowConstants" "now" "LFlowConstants$Now;" : Cond) ∈ lw_gt := lw_gt_of (List.mem_of_getElem? (i := 308) (by decide +kernel)) rfl
theorem q_270 : (Cond.fieldLink RX8 36 "FlowConstants" "flow" "LFlowConstants$Flow;" : Cond) ∈ lw_gt := lw_gt_of (List.mem_of_getElem? (i := 309) (by decide +kernel)) rfl
theorem q_271 : (Cond.fieldLink RX8 40 "FlowConstants" "plain" "LFlowConstants$Flow;" : Cond) ∈ lw_gt := lw_gt_of (List.mem_of_getElem? (i := 310) (by decide +kernel)) rfl
theorem q_272 : (Cond.fieldLink RX8 43 "FlowConstants" "trial" "LFlowConstants$Flow;" : Cond) ∈ lw_gt := lw_gt_of (List.mem_of_getElem? (i := 311) (by decide +kernel)) rfl
theorem q_273 : (Cond.fieldLink RX8 49 "FlowConstants" "walk" "LFlowConstants$Walk;" : Cond) ∈ lw_gt := lw_gt_of (List.mem_of_getElem? (i := 312) (by decide +kernel)) rfl
theorem q_274 : (Cond.fieldLink RX8 56 "FlowConstants" "history" "LFlowConstants$History;" : Cond) ∈ lw_gt := lw_gt_of (List.mem_of_getElem? (i := 313) (by decide +kernel)) rfl
theorem q_275 : (Cond.fieldLink RX8 60 "FlowConstants" "images" "[LFlowConstants$Now;" : Cond) ∈ lw_gt := lw_gt_of (List.mem_of_getElem? (i := 314) (by decide +kernel)) rfl
theorem q_276 : (Cond.fieldLink RX8 64 "FlowConstants" "kept" "[I" : Cond) ∈ lw_gt := lw_gt_of (List.mem_of_getElem? (i := 315) (by decide +kernel)) rfl
theorem q_277 : (Cond.fieldLink RX8 68 "FlowConstants" "told" "I" : Cond) ∈ lw_gt := lw_gt_of (List.mem_of_getElem? (i := 316) (by decide +kernel)) rfl
theorem q_303 : (Cond.methodLink RL 13 yX8_type : Cond) ∈ lw_gt := lw_gt_of (List.mem_of_getElem? (i := 342) (by decide +kernel)) rfl
theorem q_304 : (Cond.instanceMethod yX8_type : Cond) ∈ lw_gt := lw_gt_of (List.mem_of_getElem? (i := 343) (by decide +kernel)) rfl
theorem q_305 : (Cond.selects RX8 yX8_type yX8_type : Cond) ∈ lw_gt := lw_gt_of (List.mem_of_getElem? (i := 344) (by decide +kernel)) rfl
theorem q_306 : (Cond.code yX8_type cX8_type 2 (some .int) : Cond) ∈ lw_gt := lw_gt_of (List.mem_of_getElem? (i := 345) (by decide +kernel)) rfl
theorem q_307 : (Cond.methodLink RL 18 yX8_clear : Cond) ∈ lw_gt := lw_gt_of (List.mem_of_getElem? (i := 346) (by decide +kernel)) rfl
theorem q_308 : (Cond.instanceMethod yX8_clear : Cond) ∈ lw_gt := lw_gt_of (List.mem_of_getElem? (i := 347) (by decide +kernel)) rfl
theorem q_309 : (Cond.selects RX8 yX8_clear yX8_clear : Cond) ∈ lw_gt := lw_gt_of (List.mem_of_getElem? (i := 348) (by decide +kernel)) rfl
theorem q_310 : (Cond.code yX8_clear cX8_clear 2 (some .int) : Cond) ∈ lw_gt := lw_gt_of (List.mem_of_getElem? (i := 349) (by decide +kernel)) rfl
theorem q_311 : (Cond.methodLink RL 23 yX8_program : Cond) ∈ lw_gt := lw_gt_of (List.mem_of_getElem? (i := 350) (by decide +kernel)) rfl
theorem q_312 : (Cond.instanceMethod yX8_program : Cond) ∈ lw_gt := lw_gt_of (List.mem_of_getElem? (i := 351) (by decide +kernel)) rfl
theorem q_313 : (Cond.selects RX8 yX8_program yX8_program : Cond) ∈ lw_gt := lw_gt_of (List.mem_of_getElem? (i := 352) (by decide +kernel)) rfl
theorem q_314 : (Cond.code yX8_program cX8_program 3 (some .int) : Cond) ∈ lw_gt := lw_gt_of (List.mem_of_getElem? (i := 353) (by decide +kernel)) rfl
theorem q_315 : (Cond.methodLink RX8 78 yX3_faultOf : Cond) ∈ lw_gt := lw_gt_of (List.mem_of_getElem? (i := 354) (by decide +kernel)) rfl
theorem q_316 : (Cond.static yX3_faultOf : Cond) ∈ lw_gt := lw_gt_of (List.mem_of_getElem? (i := 355) (by decide +kernel)) rfl
theorem q_317 : (Cond.code yX3_faultOf cX3_faultOf 3 (some .int) : Cond) ∈ lw_gt := lw_gt_of (List.mem_of_getElem? (i := 356) (by decide +kernel)) rfl
theorem q_318 : (Cond.methodLink RX3 9 yX4_empty : Cond) ∈ lw_gt := lw_gt_of (List.mem_of_getElem? (i := 357) (by decide +kernel)) rfl
theorem q_319 : (Cond.instanceMethod yX4_empty : Cond) ∈ lw_gt := lw_gt_of (List.mem_of_getElem? (i := 358) (by decide +kernel)) rfl
theorem q_320 : (Cond.selects RX4 yX4_empty yX4_empty : Cond) ∈ lw_gt := lw_gt_of (List.mem_of_getElem? (i := 359) (by decide +kernel)) rfl
theorem q_321 : (Cond.code yX4_empty cX4_empty 1 none : Cond) ∈ lw_gt := lw_gt_of (List.mem_of_getElem? (i := 360) (by decide +kernel)) rfl
theorem q_322 : (Cond.methodLink RX3 14 yX6_rewind : Cond) ∈ lw_gt := lw_gt_of (List.mem_of_getElem? (i := 361) (by decide +kernel)) rfl
theorem q_323 : (Cond.instanceMethod yX6_rewind : Cond) ∈ lw_gt := lw_gt_of (List.mem_of_getElem? (i := 362) (by decide +kernel)) rfl
theorem q_324 : (Cond.selects RX6 yX6_rewind yX6_rewind : Cond) ∈ lw_gt := lw_gt_of (List.mem_of_getElem? (i := 363) (by decide +kernel)) rfl
theorem q_325 : (Cond.code yX6_rewind cX6_rewind 1 none : Cond) ∈ lw_gt := lw_gt_of (List.mem_of_getElem? (i := 364) (by decide +kernel)) rfl
theorem q_326 : (Cond.methodLink RX6 35 yX6_step : Cond) ∈ lw_gt := lw_gt_of (List.mem_of_getElem? (i := 365) (by decide +kernel)) rfl
theorem q_327 : (Cond.instanceMethod yX6_step : Cond) ∈ lw_gt := lw_gt_of (List.mem_of_getElem? (i := 366) (by decide +kernel)) rfl
theorem q_328 : (Cond.selects RX6 yX6_step yX6_step : Cond) ∈ lw_gt := lw_gt_of (List.mem_of_getElem? (i := 367) (by decide +kernel)) rfl
theorem q_329 : (Cond.code yX6_step cX6_step 2 none : Cond) ∈ lw_gt := lw_gt_of (List.mem_of_getElem? (i := 368) (by decide +kernel)) rfl
theorem q_330 : (Cond.methodLink RX6 38 yX6_readLetters : Cond) ∈ lw_gt := lw_gt_of (List.mem_of_getElem? (i := 369) (by decide +kernel)) rfl
theorem q_331 : (Cond.instanceMethod yX6_readLetters : Cond) ∈ lw_gt := lw_gt_of (List.mem_of_getElem? (i := 370) (by decide +kernel)) rfl
theorem q_332 : (Cond.selects RX6 yX6_readLetters yX6_readLetters : Cond) ∈ lw_gt := lw_gt_of (List.mem_of_getElem? (i := 371) (by decide +kernel)) rfl
theorem q_333 : (Cond.code yX6_readLetters cX6_readLetters 2 none : Cond) ∈ lw_gt := lw_gt_of (List.mem_of_getElem? (i := 372) (by decide +kernel)) rfl
theorem q_334 : (Cond.methodLink RX6 42 yX6_readNumeral : Cond) ∈ lw_gt := lw_gt_of (List.mem_of_getElem? (i := 373) (by decide +kernel)) rfl
theorem q_335 : (Cond.instanceMethod yX6_readNumeral : Cond) ∈ lw_gt := lw_gt_of (List.mem_of_getElem? (i := 374) (by decide +kernel)) rfl
theorem q_336 : (Cond.selects RX6 yX6_readNumeral yX6_readNumeral : Cond) ∈ lw_gt := lw_gt_of (List.mem_of_getElem? (i := 375) (by decide +kernel)) rfl
theorem q_337 : (Cond.code yX6_readNumeral cX6_readNumeral 2 none : Cond) ∈ lw_gt := lw_gt_of (List.mem_of_getElem? (i := 376) (by decide +kernel)) rfl
theorem q_338 : (Cond.methodLink RX6 45 yX5_isSign : Cond) ∈ lw_gt := lw_gt_of (List.mem_of_getElem? (i := 377) (by decide +kernel)) rfl
theorem q_339 : (Cond.static yX5_isSign : Cond) ∈ lw_gt := lw_gt_of (List.mem_of_getElem? (i := 378) (by decide +kernel)) rfl
theorem q_340 : (Cond.code yX5_isSign cX5_isSign 1 (some .boolean) : Cond) ∈ lw_gt := lw_gt_of (List.mem_of_getElem? (i := 379) (by decide +kernel)) rfl
theorem q_341 : (Cond.methodLink RX3 19 yX6_hasMore : Cond) ∈ lw_gt := lw_gt_of (List.mem_of_getElem? (i := 380) (by decide +kernel)) rfl
theorem q_342 : (Cond.instanceMethod yX6_hasMore : Cond) ∈ lw_gt := lw_gt_of (List.mem_of_getElem? (i := 381) (by decide +kernel)) rfl
theorem q_343 : (Cond.selects RX6 yX6_hasMore yX6_hasMore : Cond) ∈ lw_gt := lw_gt_of (List.mem_of_getElem? (i := 382) (by decide +kernel)) rfl
theorem q_344 : (Cond.code yX6_hasMore cX6_hasMore 1 (some .boolean) : Cond) ∈ lw_gt := lw_gt_of (List.mem_of_getElem? (i := 383) (by decide +kernel)) rfl
theorem q_345 : (Cond.methodLink RX3 23 yX3_readItem : Cond) ∈ lw_gt := lw_gt_of (List.mem_of_getElem? (i := 384) (by decide +kernel)) rfl
theorem q_346 : (Cond.static yX3_readItem : Cond) ∈ lw_gt := lw_gt_of (List.mem_of_getElem? (i := 385) (by decide +kernel)) rfl
theorem q_347 : (Cond.code yX3_readItem cX3_readItem 3 none : Cond) ∈ lw_gt := lw_gt_of (List.mem_of_getElem? (i := 386) (by decide +kernel)) rfl
theorem q_348 : (Cond.methodLink RX3 49 yX4_admits : Cond) ∈ lw_gt := lw_gt_of (List.mem_of_getElem? (i := 387) (by decide +kernel)) rfl
theorem q_349 : (Cond.instanceMethod yX4_admits : Cond) ∈ lw_gt := lw_gt_of (List.mem_of_getElem? (i := 388) (by decide +kernel)) rfl
theorem q_350 : (Cond.selects RX4 yX4_admits yX4_admits : Cond) ∈ lw_gt := lw_gt_of (List.mem_of_getElem? (i := 389) (by decide +kernel)) rfl
theorem q_351 : (Cond.code yX4_admits cX4_admits 3 (some .boolean) : Cond) ∈ lw_gt := lw_gt_of (List.mem_of_getElem? (i := 390) (by decide +kernel)) rfl
theorem q_352 : (Cond.methodLink RX4 68 yX4_admitsJoin : Cond) ∈ lw_gt := lw_gt_of (List.mem_of_getElem? (i := 391) (by decide +kernel)) rfl
theorem q_353 : (Cond.instanceMethod yX4_admitsJoin : Cond) ∈ lw_gt := lw_gt_of (List.mem_of_getElem? (i := 392) (by decide +kernel)) rfl
theorem q_354 : (Cond.selects RX4 yX4_admitsJoin yX4_admitsJoin : Cond) ∈ lw_gt := lw_gt_of (List.mem_of_getElem? (i := 393) (by decide +kernel)) rfl
theorem q_355 : (Cond.code yX4_admitsJoin cX4_admitsJoin 1 (some .boolean) : Cond) ∈ lw_gt := lw_gt_of (List.mem_of_getElem? (i := 394) (by decide +kernel)) rfl
theorem q_356 : (Cond.methodLink RX4 72 yX4_isMade : Cond) ∈ lw_gt := lw_gt_of (List.mem_of_getElem? (i := 395) (by decide +kernel)) rfl
theorem q_357 : (Cond.instanceMethod yX4_isMade : Cond) ∈ lw_gt := lw_gt_of (List.mem_of_getElem? (i := 396) (by decide +kernel)) rfl
theorem q_358 : (Cond.selects RX4 yX4_isMade yX4_isMade : Cond) ∈ lw_gt := lw_gt_of (List.mem_of_getElem? (i := 397) (by decide +kernel)) rfl
theorem q_359 : (Cond.code yX4_isMade cX4_isMade 3 (some .boolean) : Cond) ∈ lw_gt := lw_gt_of (List.mem_of_getElem? (i := 398) (by decide +kernel)) rfl
theorem q_360 : (Cond.methodLink RX4 64 yX4_hasName : Cond) ∈ lw_gt := lw_gt_of (List.mem_of_getElem? (i := 399) (by decide +kernel)) rfl
theorem q_361 : (Cond.instanceMethod yX4_hasName : Cond) ∈ lw_gt := lw_gt_of (List.mem_of_getElem? (i := 400) (by decide +kernel)) rfl
theorem q_362 : (Cond.selects RX4 yX4_hasName yX4_hasName : Cond) ∈ lw_gt := lw_gt_of (List.mem_of_getElem? (i := 401) (by decide +kernel)) rfl
theorem q_363 : (Cond.code yX4_hasName cX4_hasName 2 (some .boolean) : Cond) ∈ lw_gt := lw_gt_of (List.mem_of_getElem? (i := 402) (by decide +kernel)) rfl
theorem q_364 : (Cond.methodLink RX3 53 yX6_step : Cond) ∈ lw_gt := lw_gt_of (List.mem_of_getElem? (i := 403) (by decide +kernel)) rfl
theorem q_365 : (Cond.methodLink RX3 56 yX4_beginBlock : Cond) ∈ lw_gt := lw_gt_of (List.mem_of_getElem? (i := 404) (by decide +kernel)) rfl
theorem q_366 : (Cond.instanceMethod yX4_beginBlock : Cond) ∈ lw_gt := lw_gt_of (List.mem_of_getElem? (i := 405) (by decide +kernel)) rfl
theorem q_367 : (Cond.selects RX4 yX4_beginBlock yX4_beginBlock : Cond) ∈ lw_gt := lw_gt_of (List.mem_of_getElem? (i := 406) (by decide +kernel)) rfl
theorem q_368 : (Cond.code yX4_beginBlock cX4_beginBlock 2 none : Cond) ∈ lw_gt := lw_gt_of (List.mem_of_getElem? (i := 407) (by decide +kernel)) rfl
theorem q_369 : (Cond.methodLink RX3 59 yX4_addName : Cond) ∈ lw_gt := lw_gt_of (List.mem_of_getElem? (i := 408) (by decide +kernel)) rfl
theorem q_370 : (Cond.instanceMethod yX4_addName : Cond) ∈ lw_gt := lw_gt_of (List.mem_of_getElem? (i := 409) (by decide +kernel)) rfl
theorem q_371 : (Cond.selects RX4 yX4_addName yX4_addName : Cond) ∈ lw_gt := lw_gt_of (List.mem_of_getElem? (i := 410) (by decide +kernel)) rfl
theorem q_372 : (Cond.code yX4_addName cX4_addName 3 (some .int) : Cond) ∈ lw_gt := lw_gt_of (List.mem_of_getElem? (i := 411) (by decide +kernel)) rfl
theorem q_373 : (Cond.methodLink RX3 63 yX3_readNumber : Cond) ∈ lw_gt := lw_gt_of (List.mem_of_getElem? (i := 412) (by decide +kernel)) rfl
theorem q_374 : (Cond.static yX3_readNumber : Cond) ∈ lw_gt := lw_gt_of (List.mem_of_getElem? (i := 413) (by decide +kernel)) rfl
theorem q_375 : (Cond.code yX3_readNumber cX3_readNumber 3 none : Cond) ∈ lw_gt := lw_gt_of (List.mem_of_getElem? (i := 414) (by decide +kernel)) rfl
theorem q_376 : (Cond.methodLink RX3 81 yX6_take : Cond) ∈ lw_gt := lw_gt_of (List.mem_of_getElem? (i := 415) (by decide +kernel)) rfl
theorem q_377 : (Cond.instanceMethod yX6_take : Cond) ∈ lw_gt := lw_gt_of (List.mem_of_getElem? (i := 416) (by decide +kernel)) rfl
theorem q_378 : (Cond.selects RX6 yX6_take yX6_take : Cond) ∈ lw_gt := lw_gt_of (List.mem_of_getElem? (i := 417) (by decide +kernel)) rfl
theorem q_379 : (Cond.code yX6_take cX6_take 4 (some .int) : Cond) ∈ lw_gt := lw_gt_of (List.mem_of_getElem? (i := 418) (by decide +kernel)) rfl
theorem q_380 : (Cond.methodLink RX3 66 yX3_readOperation : Cond) ∈ lw_gt := lw_gt_of (List.mem_of_getElem? (i := 419) (by decide +kernel)) rfl
theorem q_381 : (Cond.static yX3_readOperation : Cond) ∈ lw_gt := lw_gt_of (List.mem_of_getElem? (i := 420) (by decide +kernel)) rfl
theorem q_382 : (Cond.code yX3_readOperation cX3_readOperation 3 none : Cond) ∈ lw_gt := lw_gt_of (List.mem_of_getElem? (i := 421) (by decide +kernel)) rfl
theorem q_383 : (Cond.methodLink RX3 69 yX3_readArms : Cond) ∈ lw_gt := lw_gt_of (List.mem_of_getElem? (i := 422) (by decide +kernel)) rfl
theorem q_384 : (Cond.static yX3_readArms : Cond) ∈ lw_gt := lw_gt_of (List.mem_of_getElem? (i := 423) (by decide +kernel)) rfl
theorem q_385 : (Cond.code yX3_readArms cX3_readArms 6 none : Cond) ∈ lw_gt := lw_gt_of (List.mem_of_getElem? (i := 424) (by decide +kernel)) rfl
theorem q_386 : (Cond.methodLink RX3 98 yX4_hasArm : Cond) ∈ lw_gt := lw_gt_of (List.mem_of_getElem? (i := 425) (by decide +kernel)) rfl
theorem q_387 : (Cond.instanceMethod yX4_hasArm : Cond) ∈ lw_gt := lw_gt_of (List.mem_of_getElem? (i := 426) (by decide +kernel)) rfl
theorem q_388 : (Cond.selects RX4 yX4_hasArm yX4_hasArm : Cond) ∈ lw_gt := lw_gt_of (List.mem_of_getElem? (i := 427) (by decide +kernel)) rfl
theorem q_389 : (Cond.code yX4_hasArm cX4_hasArm 3 (some .boolean) : Cond) ∈ lw_gt := lw_gt_of (List.mem_of_getElem? (i := 428) (by decide +kernel)) rfl
theorem q_390 : (Cond.methodLink RX4 76 yX4_armFrom : Cond) ∈ lw_gt := lw_gt_of (List.mem_of_getElem? (i := 429) (by decide +kernel)) rfl
theorem q_391 : (Cond.instanceMethod yX4_armFrom : Cond) ∈ lw_gt := lw_gt_of (List.mem_of_getElem? (i := 430) (by decide +kernel)) rfl
theorem q_392 : (Cond.selects RX4 yX4_armFrom yX4_armFrom : Cond) ∈ lw_gt := lw_gt_of (List.mem_of_getElem? (i := 431) (by decide +kernel)) rfl
theorem q_393 : (Cond.code yX4_armFrom cX4_armFrom 4 (some .int) : Cond) ∈ lw_gt := lw_gt_of (List.mem_of_getElem? (i := 432) (by decide +kernel)) rfl
theorem q_394 : (Cond.methodLink RX3 102 yX4_addArm : Cond) ∈ lw_gt := lw_gt_of (List.mem_of_getElem? (i := 433) (by decide +kernel)) rfl
theorem q_395 : (Cond.instanceMethod yX4_addArm : Cond) ∈ lw_gt := lw_gt_of (List.mem_of_getElem? (i := 434) (by decide +kernel)) rfl
theorem q_396 : (Cond.selects RX4 yX4_addArm yX4_addArm : Cond) ∈ lw_gt := lw_gt_of (List.mem_of_getElem? (i := 435) (by decide +kernel)) rfl
theorem q_397 : (Cond.code yX4_addArm cX4_addArm 5 none : Cond) ∈ lw_gt := lw_gt_of (List.mem_of_getElem? (i := 436) (by decide +kernel)) rfl
theorem q_398 : (Cond.methodLink RX3 72 yX3_readGoing : Cond) ∈ lw_gt := lw_gt_of (List.mem_of_getElem? (i := 437) (by decide +kernel)) rfl
theorem q_399 : (Cond.static yX3_readGoing : Cond) ∈ lw_gt := lw_gt_of (List.mem_of_getElem? (i := 438) (by decide +kernel)) rfl
theorem q_400 : (Cond.code yX3_readGoing cX3_readGoing 3 none : Cond) ∈ lw_gt := lw_gt_of (List.mem_of_getElem? (i := 439) (by decide +kernel)) rfl
theorem q_401 : (Cond.methodLink RX3 106 yX4_endBlock : Cond) ∈ lw_gt := lw_gt_of (List.mem_of_getElem? (i := 440) (by decide +kernel)) rfl
theorem q_402 : (Cond.instanceMethod yX4_endBlock : Cond) ∈ lw_gt := lw_gt_of (List.mem_of_getElem? (i := 441) (by decide +kernel)) rfl
theorem q_403 : (Cond.selects RX4 yX4_endBlock yX4_endBlock : Cond) ∈ lw_gt := lw_gt_of (List.mem_of_getElem? (i := 442) (by decide +kernel)) rfl
theorem q_404 : (Cond.code yX4_endBlock cX4_endBlock 2 (some .int) : Cond) ∈ lw_gt := lw_gt_of (List.mem_of_getElem? (i := 443) (by decide +kernel)) rfl
theorem q_405 : (Cond.methodLink RX3 75 yX3_readChoice : Cond) ∈ lw_gt := lw_gt_of (List.mem_of_getElem? (i := 444) (by decide +kernel)) rfl
theorem q_406 : (Cond.static yX3_readChoice : Cond) ∈ lw_gt := lw_gt_of (List.mem_of_getElem? (i := 445) (by decide +kernel)) rfl
theorem q_407 : (Cond.code yX3_readChoice cX3_readChoice 4 none : Cond) ∈ lw_gt := lw_gt_of (List.mem_of_getElem? (i := 446) (by decide +kernel)) rfl
theorem q_408 : (Cond.methodLink RX3 78 yX3_readReturn : Cond) ∈ lw_gt := lw_gt_of (List.mem_of_getElem? (i := 447) (by decide +kernel)) rfl
theorem q_409 : (Cond.static yX3_readReturn : Cond) ∈ lw_gt := lw_gt_of (List.mem_of_getElem? (i := 448) (by decide +kernel)) rfl
theorem q_410 : (Cond.code yX3_readReturn cX3_readReturn 3 none : Cond) ∈ lw_gt := lw_gt_of (List.mem_of_getElem? (i := 449) (by decide +kernel)) rfl
theorem q_411 : (Cond.methodLink RX3 33 yX4_isWhole : Cond) ∈ lw_gt := lw_gt_of (List.mem_of_getElem? (i := 450) (by decide +kernel)) rfl
theorem q_412 : (Cond.instanceMethod yX4_isWhole : Cond) ∈ lw_gt := lw_gt_of (List.mem_of_getElem? (i := 451) (by decide +kernel)) rfl
theorem q_413 : (Cond.selects RX4 yX4_isWhole yX4_isWhole : Cond) ∈ lw_gt := lw_gt_of (List.mem_of_getElem? (i := 452) (by decide +kernel)) rfl
theorem q_414 : (Cond.code yX4_isWhole cX4_isWhole 1 (some .boolean) : Cond) ∈ lw_gt := lw_gt_of (List.mem_of_getElem? (i := 453) (by decide +kernel)) rfl
theorem q_415 : (Cond.methodLink RX3 36 yX4_isStrict : Cond) ∈ lw_gt := lw_gt_of (List.mem_of_getElem? (i := 454) (by decide +kernel)) rfl
theorem q_416 : (Cond.instanceMethod yX4_isStrict : Cond) ∈ lw_gt := lw_gt_of (List.mem_of_getElem? (i := 455) (by decide +kernel)) rfl
theorem q_417 : (Cond.selects RX4 yX4_isStrict yX4_isStrict : Cond) ∈ lw_gt := lw_gt_of (List.mem_of_getElem? (i := 456) (by decide +kernel)) rfl
theorem q_418 : (Cond.code yX4_isStrict cX4_isStrict 2 (some .boolean) : Cond) ∈ lw_gt := lw_gt_of (List.mem_of_getElem? (i := 457) (by decide +kernel)) rfl
theorem q_419 : (Cond.methodLink RX4 80 yX4_endsTellOfWhatIsThere : Cond) ∈ lw_gt := lw_gt_of (List.mem_of_getElem? (i := 458) (by decide +kernel)) rfl
theorem q_420 : (Cond.instanceMethod yX4_endsTellOfWhatIsThere : Cond) ∈ lw_gt := lw_gt_of (List.mem_of_getElem? (i := 459) (by decide +kernel)) rfl
theorem q_421 : (Cond.selects RX4 yX4_endsTellOfWhatIsThere yX4_endsTellOfWhatIsThere : Cond) ∈ lw_gt := lw_gt_of (List.mem_of_getElem? (i := 460) (by decide +kernel)) rfl
theorem q_422 : (Cond.code yX4_endsTellOfWhatIsThere cX4_endsTellOfWhatIsThere 2 (some .boolean) : Cond) ∈ lw_gt := lw_gt_of (List.mem_of_getElem? (i := 461) (by decide +kernel)) rfl
theorem q_423 : (Cond.methodLink RX4 98 yX4_hasBlock : Cond) ∈ lw_gt := lw_gt_of (List.mem_of_getElem? (i := 462) (by decide +kernel)) rfl
theorem q_424 : (Cond.instanceMethod yX4_hasBlock : Cond) ∈ lw_gt := lw_gt_of (List.mem_of_getElem? (i := 463) (by decide +kernel)) rfl
theorem q_425 : (Cond.selects RX4 yX4_hasBlock yX4_hasBlock : Cond) ∈ lw_gt := lw_gt_of (List.mem_of_getElem? (i := 464) (by decide +kernel)) rfl
theorem q_426 : (Cond.code yX4_hasBlock cX4_hasBlock 2 (some .boolean) : Cond) ∈ lw_gt := lw_gt_of (List.mem_of_getElem? (i := 465) (by decide +kernel)) rfl
theorem q_427 : (Cond.methodLink RX4 83 yX4_namesTellOfWhatIsThere : Cond) ∈ lw_gt := lw_gt_of (List.mem_of_getElem? (i := 466) (by decide +kernel)) rfl
theorem q_428 : (Cond.instanceMethod yX4_namesTellOfWhatIsThere : Cond) ∈ lw_gt := lw_gt_of (List.mem_of_getElem? (i := 467) (by decide +kernel)) rfl
theorem q_429 : (Cond.selects RX4 yX4_namesTellOfWhatIsThere yX4_namesTellOfWhatIsThere : Cond) ∈ lw_gt := lw_gt_of (List.mem_of_getElem? (i := 468) (by decide +kernel)) rfl
theorem q_430 : (Cond.code yX4_namesTellOfWhatIsThere cX4_namesTellOfWhatIsThere 3 (some .boolean) : Cond) ∈ lw_gt := lw_gt_of (List.mem_of_getElem? (i := 469) (by decide +kernel)) rfl
theorem q_431 : (Cond.methodLink RX4 86 yX4_findDominators : Cond) ∈ lw_gt := lw_gt_of (List.mem_of_getElem? (i := 470) (by decide +kernel)) rfl
theorem q_432 : (Cond.instanceMethod yX4_findDominators : Cond) ∈ lw_gt := lw_gt_of (List.mem_of_getElem? (i := 471) (by decide +kernel)) rfl
theorem q_433 : (Cond.selects RX4 yX4_findDominators yX4_findDominators : Cond) ∈ lw_gt := lw_gt_of (List.mem_of_getElem? (i := 472) (by decide +kernel)) rfl
theorem q_434 : (Cond.code yX4_findDominators cX4_findDominators 4 none : Cond) ∈ lw_gt := lw_gt_of (List.mem_of_getElem? (i := 473) (by decide +kernel)) rfl
theorem q_435 : (Cond.methodLink RX4 101 yX4_reachedWithout : Cond) ∈ lw_gt := lw_gt_of (List.mem_of_getElem? (i := 474) (by decide +kernel)) rfl
theorem q_436 : (Cond.instanceMethod yX4_reachedWithout : Cond) ∈ lw_gt := lw_gt_of (List.mem_of_getElem? (i := 475) (by decide +kernel)) rfl
theorem q_437 : (Cond.selects RX4 yX4_reachedWithout yX4_reachedWithout : Cond) ∈ lw_gt := lw_gt_of (List.mem_of_getElem? (i := 476) (by decide +kernel)) rfl
theorem q_438 : (Cond.code yX4_reachedWithout cX4_reachedWithout 6 (some .int) : Cond) ∈ lw_gt := lw_gt_of (List.mem_of_getElem? (i := 477) (by decide +kernel)) rfl
theorem q_439 : (Cond.methodLink RX4 105 yX4_isIn : Cond) ∈ lw_gt := lw_gt_of (List.mem_of_getElem? (i := 478) (by decide +kernel)) rfl
theorem q_440 : (Cond.static yX4_isIn : Cond) ∈ lw_gt := lw_gt_of (List.mem_of_getElem? (i := 479) (by decide +kernel)) rfl
theorem q_441 : (Cond.code yX4_isIn cX4_isIn 2 (some .boolean) : Cond) ∈ lw_gt := lw_gt_of (List.mem_of_getElem? (i := 480) (by decide +kernel)) rfl
theorem q_442 : (Cond.methodLink RX4 89 yX4_dominates : Cond) ∈ lw_gt := lw_gt_of (List.mem_of_getElem? (i := 481) (by decide +kernel)) rfl
theorem q_443 : (Cond.instanceMethod yX4_dominates : Cond) ∈ lw_gt := lw_gt_of (List.mem_of_getElem? (i := 482) (by decide +kernel)) rfl
theorem q_444 : (Cond.selects RX4 yX4_dominates yX4_dominates : Cond) ∈ lw_gt := lw_gt_of (List.mem_of_getElem? (i := 483) (by decide +kernel)) rfl
theorem q_445 : (Cond.code yX4_dominates cX4_dominates 3 (some .boolean) : Cond) ∈ lw_gt := lw_gt_of (List.mem_of_getElem? (i := 484) (by decide +kernel)) rfl
theorem q_446 : (Cond.methodLink RX4 92 yX4_isAhead : Cond) ∈ lw_gt := lw_gt_of (List.mem_of_getElem? (i := 485) (by decide +kernel)) rfl
theorem q_447 : (Cond.instanceMethod yX4_isAhead : Cond) ∈ lw_gt := lw_gt_of (List.mem_of_getElem? (i := 486) (by decide +kernel)) rfl
theorem q_448 : (Cond.selects RX4 yX4_isAhead yX4_isAhead : Cond) ∈ lw_gt := lw_gt_of (List.mem_of_getElem? (i := 487) (by decide +kernel)) rfl
theorem q_449 : (Cond.code yX4_isAhead cX4_isAhead 3 (some .boolean) : Cond) ∈ lw_gt := lw_gt_of (List.mem_of_getElem? (i := 488) (by decide +kernel)) rfl
theorem q_450 : (Cond.methodLink RX4 95 yX4_armsFit : Cond) ∈ lw_gt := lw_gt_of (List.mem_of_getElem? (i := 489) (by decide +kernel)) rfl
theorem q_451 : (Cond.instanceMethod yX4_armsFit : Cond) ∈ lw_gt := lw_gt_of (List.mem_of_getElem? (i := 490) (by decide +kernel)) rfl
theorem q_452 : (Cond.selects RX4 yX4_armsFit yX4_armsFit : Cond) ∈ lw_gt := lw_gt_of (List.mem_of_getElem? (i := 491) (by decide +kernel)) rfl
theorem q_453 : (Cond.code yX4_armsFit cX4_armsFit 4 (some .boolean) : Cond) ∈ lw_gt := lw_gt_of (List.mem_of_getElem? (i := 492) (by decide +kernel)) rfl
theorem q_454 : (Cond.methodLink RX4 108 yX4_comingTo : Cond) ∈ lw_gt := lw_gt_of (List.mem_of_getElem? (i := 493) (by decide +kernel)) rfl
theorem q_455 : (Cond.instanceMethod yX4_comingTo : Cond) ∈ lw_gt := lw_gt_of (List.mem_of_getElem? (i := 494) (by decide +kernel)) rfl
theorem q_456 : (Cond.selects RX4 yX4_comingTo yX4_comingTo : Cond) ∈ lw_gt := lw_gt_of (List.mem_of_getElem? (i := 495) (by decide +kernel)) rfl
theorem q_457 : (Cond.code yX4_comingTo cX4_comingTo 4 (some .int) : Cond) ∈ lw_gt := lw_gt_of (List.mem_of_getElem? (i := 496) (by decide +kernel)) rfl
theorem q_458 : (Cond.methodLink RX8 84 yX2_becomesAsTold : Cond) ∈ lw_gt := lw_gt_of (List.mem_of_getElem? (i := 497) (by decide +kernel)) rfl
theorem q_459 : (Cond.instanceMethod yX2_becomesAsTold : Cond) ∈ lw_gt := lw_gt_of (List.mem_of_getElem? (i := 498) (by decide +kernel)) rfl
theorem q_460 : (Cond.selects RX2 yX2_becomesAsTold yX2_becomesAsTold : Cond) ∈ lw_gt := lw_gt_of (List.mem_of_getElem? (i := 499) (by decide +kernel)) rfl
theorem q_461 : (Cond.code yX2_becomesAsTold cX2_becomesAsTold 2 none : Cond) ∈ lw_gt := lw_gt_of (List.mem_of_getElem? (i := 500) (by decide +kernel)) rfl
theorem q_462 : (Cond.methodLink RX2 27 yJ7_fill_53178 : Cond) ∈ lw_gt := lw_gt_of (List.mem_of_getElem? (i := 501) (by decide +kernel)) rfl
theorem q_463 : (Cond.static yJ7_fill_53178 : Cond) ∈ lw_gt := lw_gt_of (List.mem_of_getElem? (i := 502) (by decide +kernel)) rfl
theorem q_464 : (Cond.code yJ7_fill_53178 cJ7_fill_53178 4 none : Cond) ∈ lw_gt := lw_gt_of (List.mem_of_getElem? (i := 503) (by decide +kernel)) rfl
theorem q_465 : (Cond.methodLink RX2 36 arraycopyName : Cond) ∈ lw_gt := lw_gt_of (List.mem_of_getElem? (i := 504) (by decide +kernel)) rfl
theorem q_466 : (Cond.static arraycopyName : Cond) ∈ lw_gt := lw_gt_of (List.mem_of_getElem? (i := 505) (by decide +kernel)) rfl
theorem q_467 : (Cond.native arraycopyName : Cond) ∈ lw_gt := lw_gt_of (List.mem_of_getElem? (i := 506) (by decide +kernel)) rfl
theorem q_468 : (Cond.methodLink RX8 91 yJ7_fill_53178 : Cond) ∈ lw_gt := lw_gt_of (List.mem_of_getElem? (i := 507) (by decide +kernel)) rfl
theorem q_469 : (Cond.methodLink RX8 97 yX8_settle : Cond) ∈ lw_gt := lw_gt_of (List.mem_of_getElem? (i := 508) (by decide +kernel)) rfl
theorem q_471 : (Cond.instanceMethod yX8_settle : Cond) ∈ lw_gt := lw_gt_of (List.mem_of_getElem? (i := 510) (by decide +kernel)) rfl
theorem q_472 : (Cond.code yX8_settle cX8_settle 1 none : Cond) ∈ lw_gt := lw_gt_of (List.mem_of_getElem? (i := 511) (by decide +kernel)) rfl
theorem q_473 : (Cond.methodLink RX8 223 yX0_climb : Cond) ∈ lw_gt := lw_gt_of (List.mem_of_getElem? (i := 512) (by decide +kernel)) rfl
theorem q_474 : (Cond.instanceMethod yX0_climb : Cond) ∈ lw_gt := lw_gt_of (List.mem_of_getElem? (i := 513) (by decide +kernel)) rfl
theorem q_475 : (Cond.selects RX0 yX0_climb yX0_climb : Cond) ∈ lw_gt := lw_gt_of (List.mem_of_getElem? (i := 514) (by decide +kernel)) rfl
theorem q_476 : (Cond.code yX0_climb cX0_climb 8 none : Cond) ∈ lw_gt := lw_gt_of (List.mem_of_getElem? (i := 515) (by decide +kernel)) rfl
theorem q_477 : (Cond.methodLink RX0 24 yJ7_fill_53178 : Cond) ∈ lw_gt := lw_gt_of (List.mem_of_getElem? (i := 516) (by decide +kernel)) rfl
theorem q_478 : (Cond.methodLink RX0 36 yX0_liftNames : Cond) ∈ lw_gt := lw_gt_of (List.mem_of_getElem? (i := 517) (by decide +kernel)) rfl
theorem q_479 : (Cond.instanceMethod yX0_liftNames : Cond) ∈ lw_gt := lw_gt_of (List.mem_of_getElem? (i := 518) (by decide +kernel)) rfl
theorem q_480 : (Cond.selects RX0 yX0_liftNames yX0_liftNames : Cond) ∈ lw_gt := lw_gt_of (List.mem_of_getElem? (i := 519) (by decide +kernel)) rfl
theorem q_481 : (Cond.code yX0_liftNames cX0_liftNames 7 (some .boolean) : Cond) ∈ lw_gt := lw_gt_of (List.mem_of_getElem? (i := 520) (by decide +kernel)) rfl
theorem q_482 : (Cond.methodLink RX0 58 yX0_lift : Cond) ∈ lw_gt := lw_gt_of (List.mem_of_getElem? (i := 521) (by decide +kernel)) rfl
theorem q_483 : (Cond.instanceMethod yX0_lift : Cond) ∈ lw_gt := lw_gt_of (List.mem_of_getElem? (i := 522) (by decide +kernel)) rfl
theorem q_484 : (Cond.selects RX0 yX0_lift yX0_lift : Cond) ∈ lw_gt := lw_gt_of (List.mem_of_getElem? (i := 523) (by decide +kernel)) rfl
theorem q_485 : (Cond.code yX0_lift cX0_lift 5 (some .boolean) : Cond) ∈ lw_gt := lw_gt_of (List.mem_of_getElem? (i := 524) (by decide +kernel)) rfl
theorem q_486 : (Cond.methodLink RX0 65 yX2_inputOf : Cond) ∈ lw_gt := lw_gt_of (List.mem_of_getElem? (i := 525) (by decide +kernel)) rfl
theorem q_487 : (Cond.instanceMethod yX2_inputOf : Cond) ∈ lw_gt := lw_gt_of (List.mem_of_getElem? (i := 526) (by decide +kernel)) rfl
theorem q_488 : (Cond.selects RX2 yX2_inputOf yX2_inputOf : Cond) ∈ lw_gt := lw_gt_of (List.mem_of_getElem? (i := 527) (by decide +kernel)) rfl
theorem q_489 : (Cond.code yX2_inputOf cX2_inputOf 2 (some .int) : Cond) ∈ lw_gt := lw_gt_of (List.mem_of_getElem? (i := 528) (by decide +kernel)) rfl
theorem q_490 : (Cond.methodLink RX0 69 yX0_liftOperation : Cond) ∈ lw_gt := lw_gt_of (List.mem_of_getElem? (i := 529) (by decide +kernel)) rfl
theorem q_491 : (Cond.instanceMethod yX0_liftOperation : Cond) ∈ lw_gt := lw_gt_of (List.mem_of_getElem? (i := 530) (by decide +kernel)) rfl
theorem q_492 : (Cond.selects RX0 yX0_liftOperation yX0_liftOperation : Cond) ∈ lw_gt := lw_gt_of (List.mem_of_getElem? (i := 531) (by decide +kernel)) rfl
theorem q_493 : (Cond.code yX0_liftOperation cX0_liftOperation 5 (some .boolean) : Cond) ∈ lw_gt := lw_gt_of (List.mem_of_getElem? (i := 532) (by decide +kernel)) rfl
theorem q_494 : (Cond.methodLink RX0 86 yX5_traps : Cond) ∈ lw_gt := lw_gt_of (List.mem_of_getElem? (i := 533) (by decide +kernel)) rfl
theorem q_495 : (Cond.static yX5_traps : Cond) ∈ lw_gt := lw_gt_of (List.mem_of_getElem? (i := 534) (by decide +kernel)) rfl
theorem q_496 : (Cond.code yX5_traps cX5_traps 2 (some .boolean) : Cond) ∈ lw_gt := lw_gt_of (List.mem_of_getElem? (i := 535) (by decide +kernel)) rfl
theorem q_497 : (Cond.methodLink RX0 92 yX5_result : Cond) ∈ lw_gt := lw_gt_of (List.mem_of_getElem? (i := 536) (by decide +kernel)) rfl
theorem q_498 : (Cond.static yX5_result : Cond) ∈ lw_gt := lw_gt_of (List.mem_of_getElem? (i := 537) (by decide +kernel)) rfl
theorem q_499 : (Cond.code yX5_result cX5_result 3 (some .int) : Cond) ∈ lw_gt := lw_gt_of (List.mem_of_getElem? (i := 538) (by decide +kernel)) rfl
theorem q_500 : (Cond.methodLink RX0 73 yX0_liftJoin : Cond) ∈ lw_gt := lw_gt_of (List.mem_of_getElem? (i := 539) (by decide +kernel)) rfl
theorem q_501 : (Cond.instanceMethod yX0_liftJoin : Cond) ∈ lw_gt := lw_gt_of (List.mem_of_getElem? (i := 540) (by decide +kernel)) rfl
theorem q_502 : (Cond.selects RX0 yX0_liftJoin yX0_liftJoin : Cond) ∈ lw_gt := lw_gt_of (List.mem_of_getElem? (i := 541) (by decide +kernel)) rfl
theorem q_503 : (Cond.code yX0_liftJoin cX0_liftJoin 7 (some .boolean) : Cond) ∈ lw_gt := lw_gt_of (List.mem_of_getElem? (i := 542) (by decide +kernel)) rfl
theorem q_504 : (Cond.methodLink RX0 108 yX0_isOpen : Cond) ∈ lw_gt := lw_gt_of (List.mem_of_getElem? (i := 543) (by decide +kernel)) rfl
theorem q_505 : (Cond.instanceMethod yX0_isOpen : Cond) ∈ lw_gt := lw_gt_of (List.mem_of_getElem? (i := 544) (by decide +kernel)) rfl
theorem q_506 : (Cond.selects RX0 yX0_isOpen yX0_isOpen : Cond) ∈ lw_gt := lw_gt_of (List.mem_of_getElem? (i := 545) (by decide +kernel)) rfl
theorem q_507 : (Cond.code yX0_isOpen cX0_isOpen 5 (some .boolean) : Cond) ∈ lw_gt := lw_gt_of (List.mem_of_getElem? (i := 546) (by decide +kernel)) rfl
theorem q_508 : (Cond.methodLink RX0 40 yX0_openEdges : Cond) ∈ lw_gt := lw_gt_of (List.mem_of_getElem? (i := 547) (by decide +kernel)) rfl
theorem q_509 : (Cond.instanceMethod yX0_openEdges : Cond) ∈ lw_gt := lw_gt_of (List.mem_of_getElem? (i := 548) (by decide +kernel)) rfl
theorem q_510 : (Cond.selects RX0 yX0_openEdges yX0_openEdges : Cond) ∈ lw_gt := lw_gt_of (List.mem_of_getElem? (i := 549) (by decide +kernel)) rfl
theorem q_511 : (Cond.code yX0_openEdges cX0_openEdges 8 (some .boolean) : Cond) ∈ lw_gt := lw_gt_of (List.mem_of_getElem? (i := 550) (by decide +kernel)) rfl
theorem q_512 : (Cond.methodLink RX0 115 yX0_goes : Cond) ∈ lw_gt := lw_gt_of (List.mem_of_getElem? (i := 551) (by decide +kernel)) rfl
theorem q_513 : (Cond.instanceMethod yX0_goes : Cond) ∈ lw_gt := lw_gt_of (List.mem_of_getElem? (i := 552) (by decide +kernel)) rfl
theorem q_514 : (Cond.selects RX0 yX0_goes yX0_goes : Cond) ∈ lw_gt := lw_gt_of (List.mem_of_getElem? (i := 553) (by decide +kernel)) rfl
theorem q_515 : (Cond.code yX0_goes cX0_goes 5 (some .boolean) : Cond) ∈ lw_gt := lw_gt_of (List.mem_of_getElem? (i := 554) (by decide +kernel)) rfl
theorem q_516 : (Cond.methodLink RX0 125 yX5_side : Cond) ∈ lw_gt := lw_gt_of (List.mem_of_getElem? (i := 555) (by decide +kernel)) rfl
theorem q_517 : (Cond.static yX5_side : Cond) ∈ lw_gt := lw_gt_of (List.mem_of_getElem? (i := 556) (by decide +kernel)) rfl
theorem q_518 : (Cond.code yX5_side cX5_side 1 (some .int) : Cond) ∈ lw_gt := lw_gt_of (List.mem_of_getElem? (i := 557) (by decide +kernel)) rfl
theorem q_519 : (Cond.methodLink RX8 230 yX7_start : Cond) ∈ lw_gt := lw_gt_of (List.mem_of_getElem? (i := 558) (by decide +kernel)) rfl
theorem q_520 : (Cond.instanceMethod yX7_start : Cond) ∈ lw_gt := lw_gt_of (List.mem_of_getElem? (i := 559) (by decide +kernel)) rfl
theorem q_521 : (Cond.selects RX7 yX7_start yX7_start : Cond) ∈ lw_gt := lw_gt_of (List.mem_of_getElem? (i := 560) (by decide +kernel)) rfl
theorem q_522 : (Cond.code yX7_start cX7_start 7 none : Cond) ∈ lw_gt := lw_gt_of (List.mem_of_getElem? (i := 561) (by decide +kernel)) rfl
theorem q_523 : (Cond.methodLink RX7 28 yJ7_fill_53178 : Cond) ∈ lw_gt := lw_gt_of (List.mem_of_getElem? (i := 562) (by decide +kernel)) rfl
theorem q_524 : (Cond.methodLink RX7 34 yX4_hasBlock : Cond) ∈ lw_gt := lw_gt_of (List.mem_of_getElem? (i := 563) (by decide +kernel)) rfl
theorem q_525 : (Cond.methodLink RX7 40 yX7_takeJoins : Cond) ∈ lw_gt := lw_gt_of (List.mem_of_getElem? (i := 564) (by decide +kernel)) rfl
theorem q_526 : (Cond.instanceMethod yX7_takeJoins : Cond) ∈ lw_gt := lw_gt_of (List.mem_of_getElem? (i := 565) (by decide +kernel)) rfl
theorem q_527 : (Cond.selects RX7 yX7_takeJoins yX7_takeJoins : Cond) ∈ lw_gt := lw_gt_of (List.mem_of_getElem? (i := 566) (by decide +kernel)) rfl
theorem q_528 : (Cond.code yX7_takeJoins cX7_takeJoins 7 none : Cond) ∈ lw_gt := lw_gt_of (List.mem_of_getElem? (i := 567) (by decide +kernel)) rfl
theorem q_529 : (Cond.methodLink RX7 63 yX4_armFrom : Cond) ∈ lw_gt := lw_gt_of (List.mem_of_getElem? (i := 568) (by decide +kernel)) rfl
theorem q_530 : (Cond.methodLink RX7 44 yX7_makeNames : Cond) ∈ lw_gt := lw_gt_of (List.mem_of_getElem? (i := 569) (by decide +kernel)) rfl
theorem q_531 : (Cond.instanceMethod yX7_makeNames : Cond) ∈ lw_gt := lw_gt_of (List.mem_of_getElem? (i := 570) (by decide +kernel)) rfl
theorem q_532 : (Cond.selects RX7 yX7_makeNames yX7_makeNames : Cond) ∈ lw_gt := lw_gt_of (List.mem_of_getElem? (i := 571) (by decide +kernel)) rfl
theorem q_533 : (Cond.code yX7_makeNames cX7_makeNames 7 (some .int) : Cond) ∈ lw_gt := lw_gt_of (List.mem_of_getElem? (i := 572) (by decide +kernel)) rfl
theorem q_534 : (Cond.methodLink RX7 78 yX2_inputOf : Cond) ∈ lw_gt := lw_gt_of (List.mem_of_getElem? (i := 573) (by decide +kernel)) rfl
theorem q_535 : (Cond.methodLink RX7 91 yX5_traps : Cond) ∈ lw_gt := lw_gt_of (List.mem_of_getElem? (i := 574) (by decide +kernel)) rfl
theorem q_536 : (Cond.methodLink RX7 97 yX5_result : Cond) ∈ lw_gt := lw_gt_of (List.mem_of_getElem? (i := 575) (by decide +kernel)) rfl
theorem q_537 : (Cond.methodLink RX7 54 yX7_next : Cond) ∈ lw_gt := lw_gt_of (List.mem_of_getElem? (i := 576) (by decide +kernel)) rfl
theorem q_538 : (Cond.instanceMethod yX7_next : Cond) ∈ lw_gt := lw_gt_of (List.mem_of_getElem? (i := 577) (by decide +kernel)) rfl
theorem q_539 : (Cond.selects RX7 yX7_next yX7_next : Cond) ∈ lw_gt := lw_gt_of (List.mem_of_getElem? (i := 578) (by decide +kernel)) rfl
theorem q_540 : (Cond.code yX7_next cX7_next 5 (some .int) : Cond) ∈ lw_gt := lw_gt_of (List.mem_of_getElem? (i := 579) (by decide +kernel)) rfl
theorem q_541 : (Cond.methodLink RX7 101 yX5_side : Cond) ∈ lw_gt := lw_gt_of (List.mem_of_getElem? (i := 580) (by decide +kernel)) rfl
theorem q_542 : (Cond.methodLink RL 27 yX8_name : Cond) ∈ lw_gt := lw_gt_of (List.mem_of_getElem? (i := 581) (by decide +kernel)) rfl
theorem q_543 : (Cond.instanceMethod yX8_name : Cond) ∈ lw_gt := lw_gt_of (List.mem_of_getElem? (i := 582) (by decide +kernel)) rfl
theorem q_544 : (Cond.selects RX8 yX8_name yX8_name : Cond) ∈ lw_gt := lw_gt_of (List.mem_of_getElem? (i := 583) (by decide +kernel)) rfl
theorem q_545 : (Cond.code yX8_name cX8_name 3 (some .int) : Cond) ∈ lw_gt := lw_gt_of (List.mem_of_getElem? (i := 584) (by decide +kernel)) rfl
theorem q_546 : (Cond.methodLink RX8 103 yX4_hasName : Cond) ∈ lw_gt := lw_gt_of (List.mem_of_getElem? (i := 585) (by decide +kernel)) rfl
theorem q_547 : (Cond.methodLink RL 32 yX8_found : Cond) ∈ lw_gt := lw_gt_of (List.mem_of_getElem? (i := 586) (by decide +kernel)) rfl
theorem q_548 : (Cond.instanceMethod yX8_found : Cond) ∈ lw_gt := lw_gt_of (List.mem_of_getElem? (i := 587) (by decide +kernel)) rfl
theorem q_549 : (Cond.selects RX8 yX8_found yX8_found : Cond) ∈ lw_gt := lw_gt_of (List.mem_of_getElem? (i := 588) (by decide +kernel)) rfl
theorem q_550 : (Cond.code yX8_found cX8_found 2 (some .int) : Cond) ∈ lw_gt := lw_gt_of (List.mem_of_getElem? (i := 589) (by decide +kernel)) rfl
theorem q_551 : (Cond.methodLink RL 36 yX8_block : Cond) ∈ lw_gt := lw_gt_of (List.mem_of_getElem? (i := 590) (by decide +kernel)) rfl
theorem q_552 : (Cond.instanceMethod yX8_block : Cond) ∈ lw_gt := lw_gt_of (List.mem_of_getElem? (i := 591) (by decide +kernel)) rfl
theorem q_553 : (Cond.selects RX8 yX8_block yX8_block : Cond) ∈ lw_gt := lw_gt_of (List.mem_of_getElem? (i := 592) (by decide +kernel)) rfl
theorem q_554 : (Cond.code yX8_block cX8_block 3 (some .int) : Cond) ∈ lw_gt := lw_gt_of (List.mem_of_getElem? (i := 593) (by decide +kernel)) rfl
theorem q_555 : (Cond.methodLink RX8 134 yX4_hasBlock : Cond) ∈ lw_gt := lw_gt_of (List.mem_of_getElem? (i := 594) (by decide +kernel)) rfl
theorem q_556 : (Cond.methodLink RL 40 yX8_knows : Cond) ∈ lw_gt := lw_gt_of (List.mem_of_getElem? (i := 595) (by decide +kernel)) rfl
theorem q_557 : (Cond.instanceMethod yX8_knows : Cond) ∈ lw_gt := lw_gt_of (List.mem_of_getElem? (i := 596) (by decide +kernel)) rfl
theorem q_558 : (Cond.selects RX8 yX8_knows yX8_knows : Cond) ∈ lw_gt := lw_gt_of (List.mem_of_getElem? (i := 597) (by decide +kernel)) rfl
theorem q_559 : (Cond.code yX8_knows cX8_knows 3 (some .int) : Cond) ∈ lw_gt := lw_gt_of (List.mem_of_getElem? (i := 598) (by decide +kernel)) rfl
theorem q_560 : (Cond.methodLink RX8 157 yX4_isMade : Cond) ∈ lw_gt := lw_gt_of (List.mem_of_getElem? (i := 599) (by decide +kernel)) rfl
theorem q_561 : (Cond.methodLink RX8 161 yX1_note : Cond) ∈ lw_gt := lw_gt_of (List.mem_of_getElem? (i := 600) (by decide +kernel)) rfl
theorem q_562 : (Cond.instanceMethod yX1_note : Cond) ∈ lw_gt := lw_gt_of (List.mem_of_getElem? (i := 601) (by decide +kernel)) rfl
theorem q_563 : (Cond.selects RX1 yX1_note yX1_note : Cond) ∈ lw_gt := lw_gt_of (List.mem_of_getElem? (i := 602) (by decide +kernel)) rfl
theorem q_564 : (Cond.code yX1_note cX1_note 4 none : Cond) ∈ lw_gt := lw_gt_of (List.mem_of_getElem? (i := 603) (by decide +kernel)) rfl
theorem q_565 : (Cond.methodLink RX1 28 yX1_dropOldest : Cond) ∈ lw_gt := lw_gt_of (List.mem_of_getElem? (i := 604) (by decide +kernel)) rfl
theorem q_566 : (Cond.instanceMethod yX1_dropOldest : Cond) ∈ lw_gt := lw_gt_of (List.mem_of_getElem? (i := 605) (by decide +kernel)) rfl
theorem q_567 : (Cond.selects RX1 yX1_dropOldest yX1_dropOldest : Cond) ∈ lw_gt := lw_gt_of (List.mem_of_getElem? (i := 606) (by decide +kernel)) rfl
theorem q_568 : (Cond.code yX1_dropOldest cX1_dropOldest 2 none : Cond) ∈ lw_gt := lw_gt_of (List.mem_of_getElem? (i := 607) (by decide +kernel)) rfl
theorem q_569 : (Cond.methodLink RX8 168 yX0_namesThatAre : Cond) ∈ lw_gt := lw_gt_of (List.mem_of_getElem? (i := 608) (by decide +kernel)) rfl
theorem q_570 : (Cond.instanceMethod yX0_namesThatAre : Cond) ∈ lw_gt := lw_gt_of (List.mem_of_getElem? (i := 609) (by decide +kernel)) rfl
theorem q_571 : (Cond.selects RX0 yX0_namesThatAre yX0_namesThatAre : Cond) ∈ lw_gt := lw_gt_of (List.mem_of_getElem? (i := 610) (by decide +kernel)) rfl
theorem q_572 : (Cond.code yX0_namesThatAre cX0_namesThatAre 5 (some .int) : Cond) ∈ lw_gt := lw_gt_of (List.mem_of_getElem? (i := 611) (by decide +kernel)) rfl
theorem q_573 : (Cond.methodLink RL 44 yX8_forgets : Cond) ∈ lw_gt := lw_gt_of (List.mem_of_getElem? (i := 612) (by decide +kernel)) rfl
theorem q_574 : (Cond.instanceMethod yX8_forgets : Cond) ∈ lw_gt := lw_gt_of (List.mem_of_getElem? (i := 613) (by decide +kernel)) rfl
theorem q_575 : (Cond.selects RX8 yX8_forgets yX8_forgets : Cond) ∈ lw_gt := lw_gt_of (List.mem_of_getElem? (i := 614) (by decide +kernel)) rfl
theorem q_576 : (Cond.code yX8_forgets cX8_forgets 2 (some .int) : Cond) ∈ lw_gt := lw_gt_of (List.mem_of_getElem? (i := 615) (by decide +kernel)) rfl
theorem q_577 : (Cond.methodLink RL 48 yX8_gives : Cond) ∈ lw_gt := lw_gt_of (List.mem_of_getElem? (i := 616) (by decide +kernel)) rfl
theorem q_578 : (Cond.instanceMethod yX8_gives : Cond) ∈ lw_gt := lw_gt_of (List.mem_of_getElem? (i := 617) (by decide +kernel)) rfl
theorem q_579 : (Cond.selects RX8 yX8_gives yX8_gives : Cond) ∈ lw_gt := lw_gt_of (List.mem_of_getElem? (i := 618) (by decide +kernel)) rfl
theorem q_580 : (Cond.code yX8_gives cX8_gives 3 (some .int) : Cond) ∈ lw_gt := lw_gt_of (List.mem_of_getElem? (i := 619) (by decide +kernel)) rfl
theorem q_581 : (Cond.methodLink RL 52 yX8_patches : Cond) ∈ lw_gt := lw_gt_of (List.mem_of_getElem? (i := 620) (by decide +kernel)) rfl
theorem q_582 : (Cond.instanceMethod yX8_patches : Cond) ∈ lw_gt := lw_gt_of (List.mem_of_getElem? (i := 621) (by decide +kernel)) rfl
theorem q_583 : (Cond.selects RX8 yX8_patches yX8_patches : Cond) ∈ lw_gt := lw_gt_of (List.mem_of_getElem? (i := 622) (by decide +kernel)) rfl
theorem q_584 : (Cond.code yX8_patches cX8_patches 4 (some .int) : Cond) ∈ lw_gt := lw_gt_of (List.mem_of_getElem? (i := 623) (by decide +kernel)) rfl
theorem q_585 : (Cond.methodLink RL 56 yX8_turned : Cond) ∈ lw_gt := lw_gt_of (List.mem_of_getElem? (i := 624) (by decide +kernel)) rfl
theorem q_586 : (Cond.instanceMethod yX8_turned : Cond) ∈ lw_gt := lw_gt_of (List.mem_of_getElem? (i := 625) (by decide +kernel)) rfl
theorem q_587 : (Cond.selects RX8 yX8_turned yX8_turned : Cond) ∈ lw_gt := lw_gt_of (List.mem_of_getElem? (i := 626) (by decide +kernel)) rfl
theorem q_588 : (Cond.code yX8_turned cX8_turned 2 (some .int) : Cond) ∈ lw_gt := lw_gt_of (List.mem_of_getElem? (i := 627) (by decide +kernel)) rfl
theorem q_589 : (Cond.methodLink RX8 178 yX2_turn : Cond) ∈ lw_gt := lw_gt_of (List.mem_of_getElem? (i := 628) (by decide +kernel)) rfl
theorem q_590 : (Cond.instanceMethod yX2_turn : Cond) ∈ lw_gt := lw_gt_of (List.mem_of_getElem? (i := 629) (by decide +kernel)) rfl
theorem q_591 : (Cond.selects RX2 yX2_turn yX2_turn : Cond) ∈ lw_gt := lw_gt_of (List.mem_of_getElem? (i := 630) (by decide +kernel)) rfl
theorem q_592 : (Cond.code yX2_turn cX2_turn 3 none : Cond) ∈ lw_gt := lw_gt_of (List.mem_of_getElem? (i := 631) (by decide +kernel)) rfl
theorem q_593 : (Cond.methodLink RX8 182 yX0_liveBlocks : Cond) ∈ lw_gt := lw_gt_of (List.mem_of_getElem? (i := 632) (by decide +kernel)) rfl
theorem q_594 : (Cond.instanceMethod yX0_liveBlocks : Cond) ∈ lw_gt := lw_gt_of (List.mem_of_getElem? (i := 633) (by decide +kernel)) rfl
theorem q_595 : (Cond.selects RX0 yX0_liveBlocks yX0_liveBlocks : Cond) ∈ lw_gt := lw_gt_of (List.mem_of_getElem? (i := 634) (by decide +kernel)) rfl
theorem q_596 : (Cond.code yX0_liveBlocks cX0_liveBlocks 4 (some .int) : Cond) ∈ lw_gt := lw_gt_of (List.mem_of_getElem? (i := 635) (by decide +kernel)) rfl
theorem q_597 : (Cond.methodLink RL 60 yX8_undo : Cond) ∈ lw_gt := lw_gt_of (List.mem_of_getElem? (i := 636) (by decide +kernel)) rfl
theorem q_598 : (Cond.instanceMethod yX8_undo : Cond) ∈ lw_gt := lw_gt_of (List.mem_of_getElem? (i := 637) (by decide +kernel)) rfl
theorem q_599 : (Cond.selects RX8 yX8_undo yX8_undo : Cond) ∈ lw_gt := lw_gt_of (List.mem_of_getElem? (i := 638) (by decide +kernel)) rfl
theorem q_600 : (Cond.code yX8_undo cX8_undo 1 (some .int) : Cond) ∈ lw_gt := lw_gt_of (List.mem_of_getElem? (i := 639) (by decide +kernel)) rfl
theorem q_601 : (Cond.methodLink RX8 186 yX1_takeBack : Cond) ∈ lw_gt := lw_gt_of (List.mem_of_getElem? (i := 640) (by decide +kernel)) rfl
theorem q_602 : (Cond.instanceMethod yX1_takeBack : Cond) ∈ lw_gt := lw_gt_of (List.mem_of_getElem? (i := 641) (by decide +kernel)) rfl
theorem q_603 : (Cond.selects RX1 yX1_takeBack yX1_takeBack : Cond) ∈ lw_gt := lw_gt_of (List.mem_of_getElem? (i := 642) (by decide +kernel)) rfl
theorem q_604 : (Cond.code yX1_takeBack cX1_takeBack 3 none : Cond) ∈ lw_gt := lw_gt_of (List.mem_of_getElem? (i := 643) (by decide +kernel)) rfl
theorem q_605 : (Cond.methodLink RX1 45 yX2_turn : Cond) ∈ lw_gt := lw_gt_of (List.mem_of_getElem? (i := 644) (by decide +kernel)) rfl
theorem q_606 : (Cond.methodLink RL 64 yX8_run : Cond) ∈ lw_gt := lw_gt_of (List.mem_of_getElem? (i := 645) (by decide +kernel)) rfl
theorem q_607 : (Cond.instanceMethod yX8_run : Cond) ∈ lw_gt := lw_gt_of (List.mem_of_getElem? (i := 646) (by decide +kernel)) rfl
theorem q_608 : (Cond.selects RX8 yX8_run yX8_run : Cond) ∈ lw_gt := lw_gt_of (List.mem_of_getElem? (i := 647) (by decide +kernel)) rfl
theorem q_609 : (Cond.code yX8_run cX8_run 1 (some .int) : Cond) ∈ lw_gt := lw_gt_of (List.mem_of_getElem? (i := 648) (by decide +kernel)) rfl
theorem q_610 : (Cond.methodLink RL 68 yX8_visits : Cond) ∈ lw_gt := lw_gt_of (List.mem_of_getElem? (i := 649) (by decide +kernel)) rfl
theorem q_611 : (Cond.instanceMethod yX8_visits : Cond) ∈ lw_gt := lw_gt_of (List.mem_of_getElem? (i := 650) (by decide +kernel)) rfl
theorem q_612 : (Cond.selects RX8 yX8_visits yX8_visits : Cond) ∈ lw_gt := lw_gt_of (List.mem_of_getElem? (i := 651) (by decide +kernel)) rfl
theorem q_613 : (Cond.code yX8_visits cX8_visits 2 (some .int) : Cond) ∈ lw_gt := lw_gt_of (List.mem_of_getElem? (i := 652) (by decide +kernel)) rfl
theorem q_614 : (Cond.methodLink RL 72 yX8_last : Cond) ∈ lw_gt := lw_gt_of (List.mem_of_getElem? (i := 653) (by decide +kernel)) rfl
theorem q_615 : (Cond.instanceMethod yX8_last : Cond) ∈ lw_gt := lw_gt_of (List.mem_of_getElem? (i := 654) (by decide +kernel)) rfl
theorem q_616 : (Cond.selects RX8 yX8_last yX8_last : Cond) ∈ lw_gt := lw_gt_of (List.mem_of_getElem? (i := 655) (by decide +kernel)) rfl
theorem q_617 : (Cond.code yX8_last cX8_last 2 (some .int) : Cond) ∈ lw_gt := lw_gt_of (List.mem_of_getElem? (i := 656) (by decide +kernel)) rfl
theorem q_618 : (Cond.methodLink RL 76 yX8_count : Cond) ∈ lw_gt := lw_gt_of (List.mem_of_getElem? (i := 657) (by decide +kernel)) rfl
theorem q_619 : (Cond.instanceMethod yX8_count : Cond) ∈ lw_gt := lw_gt_of (List.mem_of_getElem? (i := 658) (by decide +kernel)) rfl
theorem q_620 : (Cond.selects RX8 yX8_count yX8_count : Cond) ∈ lw_gt := lw_gt_of (List.mem_of_getElem? (i := 659) (by decide +kernel)) rfl
theorem q_621 : (Cond.code yX8_count cX8_count 2 (some .int) : Cond) ∈ lw_gt := lw_gt_of (List.mem_of_getElem? (i := 660) (by decide +kernel)) rfl
theorem q_622 : (Cond.methodLink RX8 203 yX4_edges : Cond) ∈ lw_gt := lw_gt_of (List.mem_of_getElem? (i := 661) (by decide +kernel)) rfl
theorem q_623 : (Cond.instanceMethod yX4_edges : Cond) ∈ lw_gt := lw_gt_of (List.mem_of_getElem? (i := 662) (by decide +kernel)) rfl
theorem q_624 : (Cond.selects RX4 yX4_edges yX4_edges : Cond) ∈ lw_gt := lw_gt_of (List.mem_of_getElem? (i := 663) (by decide +kernel)) rfl
theorem q_625 : (Cond.code yX4_edges cX4_edges 3 (some .int) : Cond) ∈ lw_gt := lw_gt_of (List.mem_of_getElem? (i := 664) (by decide +kernel)) rfl
theorem q_626 : (Cond.methodLink RX8 207 yX0_liveEdges : Cond) ∈ lw_gt := lw_gt_of (List.mem_of_getElem? (i := 665) (by decide +kernel)) rfl
theorem q_627 : (Cond.instanceMethod yX0_liveEdges : Cond) ∈ lw_gt := lw_gt_of (List.mem_of_getElem? (i := 666) (by decide +kernel)) rfl
theorem q_628 : (Cond.selects RX0 yX0_liveEdges yX0_liveEdges : Cond) ∈ lw_gt := lw_gt_of (List.mem_of_getElem? (i := 667) (by decide +kernel)) rfl
theorem q_629 : (Cond.code yX0_liveEdges cX0_liveEdges 3 (some .int) : Cond) ∈ lw_gt := lw_gt_of (List.mem_of_getElem? (i := 668) (by decide +kernel)) rfl
theorem q_630 : (Cond.methodLink RX8 210 yX0_foldedNames : Cond) ∈ lw_gt := lw_gt_of (List.mem_of_getElem? (i := 669) (by decide +kernel)) rfl
theorem q_631 : (Cond.instanceMethod yX0_foldedNames : Cond) ∈ lw_gt := lw_gt_of (List.mem_of_getElem? (i := 670) (by decide +kernel)) rfl
theorem q_632 : (Cond.selects RX0 yX0_foldedNames yX0_foldedNames : Cond) ∈ lw_gt := lw_gt_of (List.mem_of_getElem? (i := 671) (by decide +kernel)) rfl
theorem q_633 : (Cond.code yX0_foldedNames cX0_foldedNames 4 (some .int) : Cond) ∈ lw_gt := lw_gt_of (List.mem_of_getElem? (i := 672) (by decide +kernel)) rfl
theorem q_634 : (Cond.methodLink RX8 213 yX0_foldedEnds : Cond) ∈ lw_gt := lw_gt_of (List.mem_of_getElem? (i := 673) (by decide +kernel)) rfl
theorem q_635 : (Cond.instanceMethod yX0_foldedEnds : Cond) ∈ lw_gt := lw_gt_of (List.mem_of_getElem? (i := 674) (by decide +kernel)) rfl
theorem q_636 : (Cond.selects RX0 yX0_foldedEnds yX0_foldedEnds : Cond) ∈ lw_gt := lw_gt_of (List.mem_of_getElem? (i := 675) (by decide +kernel)) rfl
theorem q_637 : (Cond.code yX0_foldedEnds cX0_foldedEnds 5 (some .int) : Cond) ∈ lw_gt := lw_gt_of (List.mem_of_getElem? (i := 676) (by decide +kernel)) rfl
theorem q_638 : (Cond.methodLink RX8 216 yX0_stayingNames : Cond) ∈ lw_gt := lw_gt_of (List.mem_of_getElem? (i := 677) (by decide +kernel)) rfl
theorem q_639 : (Cond.instanceMethod yX0_stayingNames : Cond) ∈ lw_gt := lw_gt_of (List.mem_of_getElem? (i := 678) (by decide +kernel)) rfl
theorem q_640 : (Cond.selects RX0 yX0_stayingNames yX0_stayingNames : Cond) ∈ lw_gt := lw_gt_of (List.mem_of_getElem? (i := 679) (by decide +kernel)) rfl
theorem q_641 : (Cond.code yX0_stayingNames cX0_stayingNames 5 (some .int) : Cond) ∈ lw_gt := lw_gt_of (List.mem_of_getElem? (i := 680) (by decide +kernel)) rfl
theorem q_642 : (Cond.methodLink RX8 219 yX0_gainOver : Cond) ∈ lw_gt := lw_gt_of (List.mem_of_getElem? (i := 681) (by decide +kernel)) rfl
theorem q_643 : (Cond.instanceMethod yX0_gainOver : Cond) ∈ lw_gt := lw_gt_of (List.mem_of_getElem? (i := 682) (by decide +kernel)) rfl
theorem q_644 : (Cond.selects RX0 yX0_gainOver yX0_gainOver : Cond) ∈ lw_gt := lw_gt_of (List.mem_of_getElem? (i := 683) (by decide +kernel)) rfl
theorem q_645 : (Cond.code yX0_gainOver cX0_gainOver 5 (some .int) : Cond) ∈ lw_gt := lw_gt_of (List.mem_of_getElem? (i := 684) (by decide +kernel)) rfl
theorem q_646 : (Cond.methodLink RL 80 yX8_best : Cond) ∈ lw_gt := lw_gt_of (List.mem_of_getElem? (i := 685) (by decide +kernel)) rfl
theorem q_647 : (Cond.instanceMethod yX8_best : Cond) ∈ lw_gt := lw_gt_of (List.mem_of_getElem? (i := 686) (by decide +kernel)) rfl
theorem q_648 : (Cond.selects RX8 yX8_best yX8_best : Cond) ∈ lw_gt := lw_gt_of (List.mem_of_getElem? (i := 687) (by decide +kernel)) rfl
theorem q_649 : (Cond.code yX8_best cX8_best 7 (some .int) : Cond) ∈ lw_gt := lw_gt_of (List.mem_of_getElem? (i := 688) (by decide +kernel)) rfl
theorem q_650 : (Cond.methodLink RL 84 yX8_keep : Cond) ∈ lw_gt := lw_gt_of (List.mem_of_getElem? (i := 689) (by decide +kernel)) rfl
theorem q_651 : (Cond.instanceMethod yX8_keep : Cond) ∈ lw_gt := lw_gt_of (List.mem_of_getElem? (i := 690) (by decide +kernel)) rfl
theorem q_652 : (Cond.selects RX8 yX8_keep yX8_keep : Cond) ∈ lw_gt := lw_gt_of (List.mem_of_getElem? (i := 691) (by decide +kernel)) rfl
theorem q_653 : (Cond.code yX8_keep cX8_keep 2 (some .int) : Cond) ∈ lw_gt := lw_gt_of (List.mem_of_getElem? (i := 692) (by decide +kernel)) rfl
theorem q_654 : (Cond.methodLink RX8 227 yX2_copy : Cond) ∈ lw_gt := lw_gt_of (List.mem_of_getElem? (i := 693) (by decide +kernel)) rfl
theorem q_655 : (Cond.instanceMethod yX2_copy : Cond) ∈ lw_gt := lw_gt_of (List.mem_of_getElem? (i := 694) (by decide +kernel)) rfl
theorem q_656 : (Cond.selects RX2 yX2_copy yX2_copy : Cond) ∈ lw_gt := lw_gt_of (List.mem_of_getElem? (i := 695) (by decide +kernel)) rfl
theorem q_657 : (Cond.code yX2_copy cX2_copy 2 none : Cond) ∈ lw_gt := lw_gt_of (List.mem_of_getElem? (i := 696) (by decide +kernel)) rfl
theorem q_658 : (Cond.methodLink RL 88 yX8_back : Cond) ∈ lw_gt := lw_gt_of (List.mem_of_getElem? (i := 697) (by decide +kernel)) rfl
theorem q_659 : (Cond.instanceMethod yX8_back : Cond) ∈ lw_gt := lw_gt_of (List.mem_of_getElem? (i := 698) (by decide +kernel)) rfl
theorem q_660 : (Cond.selects RX8 yX8_back yX8_back : Cond) ∈ lw_gt := lw_gt_of (List.mem_of_getElem? (i := 699) (by decide +kernel)) rfl
theorem q_661 : (Cond.code yX8_back cX8_back 2 (some .int) : Cond) ∈ lw_gt := lw_gt_of (List.mem_of_getElem? (i := 700) (by decide +kernel)) rfl
theorem q_662 : (Cond.methodLink RL 92 yX8_asked : Cond) ∈ lw_gt := lw_gt_of (List.mem_of_getElem? (i := 701) (by decide +kernel)) rfl
theorem q_663 : (Cond.instanceMethod yX8_asked : Cond) ∈ lw_gt := lw_gt_of (List.mem_of_getElem? (i := 702) (by decide +kernel)) rfl
theorem q_664 : (Cond.selects RX8 yX8_asked yX8_asked : Cond) ∈ lw_gt := lw_gt_of (List.mem_of_getElem? (i := 703) (by decide +kernel)) rfl
theorem q_665 : (Cond.code yX8_asked cX8_asked 1 (some .int) : Cond) ∈ lw_gt := lw_gt_of (List.mem_of_getElem? (i := 704) (by decide +kernel)) rfl
theorem q_666 : (Cond.classLink RL 10 "FlowConstantsModel" : Cond) ∈ lw_gt := lw_gt_of (List.mem_of_getElem? (i := 705) (by decide +kernel)) rfl
theorem q_667 : (Cond.instantiable RX9 49 : Cond) ∈ lw_gt := lw_gt_of (List.mem_of_getElem? (i := 706) (by decide +kernel)) rfl
theorem q_668 : (Cond.methodLink RL 12 yX9_init : Cond) ∈ lw_gt := lw_gt_of (List.mem_of_getElem? (i := 707) (by decide +kernel)) rfl
theorem q_669 : (Cond.instanceMethod yX9_init : Cond) ∈ lw_gt := lw_gt_of (List.mem_of_getElem? (i := 708) (by decide +kernel)) rfl
theorem q_670 : (Cond.code yX9_init cX9_init 1 none : Cond) ∈ lw_gt := lw_gt_of (List.mem_of_getElem? (i := 709) (by decide +kernel)) rfl
theorem q_671 : (Cond.methodLink RX9 1 objectInit : Cond) ∈ lw_gt := lw_gt_of (List.mem_of_getElem? (i := 710) (by decide +kernel)) rfl
theorem q_672 : (Cond.fieldLink RX9 7 "FlowConstantsModel" "text" "[I" : Cond) ∈ lw_gt := lw_gt_of (List.mem_of_getElem? (i := 711) (by decide +kernel)) rfl
theorem q_673 : (Cond.fieldLink RX9 133 "FlowConstantsModel" "length" "I" : Cond) ∈ lw_gt := lw_gt_of (List.mem_of_getElem? (i := 712) (by decide +kernel)) rfl
theorem q_674 : (Cond.fieldLink RX9 122 "FlowConstantsModel" "names" "I" : Cond) ∈ lw_gt := lw_gt_of (List.mem_of_getElem? (i := 713) (by decide +kernel)) rfl
theorem q_675 : (Cond.fieldLink RX9 130 "FlowConstantsModel" "blocks" "I" : Cond) ∈ lw_gt := lw_gt_of (List.mem_of_getElem? (i := 714) (by decide +kernel)) rfl
theorem q_676 : (Cond.fieldLink RX9 13 "FlowConstantsModel" "made" "[I" : Cond) ∈ lw_gt := lw_gt_of (List.mem_of_getElem? (i := 715) (by decide +kernel)) rfl
theorem q_677 : (Cond.fieldLink RX9 16 "FlowConstantsModel" "blockOf" "[I" : Cond) ∈ lw_gt := lw_gt_of (List.mem_of_getElem? (i := 716) (by decide +kernel)) rfl
theorem q_678 : (Cond.fieldLink RX9 19 "FlowConstantsModel" "sign" "[I" : Cond) ∈ lw_gt := lw_gt_of (List.mem_of_getElem? (i := 717) (by decide +kernel)) rfl
theorem q_679 : (Cond.fieldLink RX9 22 "FlowConstantsModel" "one" "[I" : Cond) ∈ lw_gt := lw_gt_of (List.mem_of_getElem? (i := 718) (by decide +kernel)) rfl
theorem q_680 : (Cond.fieldLink RX9 25 "FlowConstantsModel" "other" "[I" : Cond) ∈ lw_gt := lw_gt_of (List.mem_of_getElem? (i := 719) (by decide +kernel)) rfl
theorem q_681 : (Cond.fieldLink RX9 28 "FlowConstantsModel" "arms" "[I" : Cond) ∈ lw_gt := lw_gt_of (List.mem_of_getElem? (i := 720) (by decide +kernel)) rfl
theorem q_682 : (Cond.fieldLink RX9 31 "FlowConstantsModel" "armBlock" "[I" : Cond) ∈ lw_gt := lw_gt_of (List.mem_of_getElem? (i := 721) (by decide +kernel)) rfl
theorem q_683 : (Cond.fieldLink RX9 34 "FlowConstantsModel" "armName" "[I" : Cond) ∈ lw_gt := lw_gt_of (List.mem_of_getElem? (i := 722) (by decide +kernel)) rfl
theorem q_684 : (Cond.fieldLink RX9 37 "FlowConstantsModel" "first" "[I" : Cond) ∈ lw_gt := lw_gt_of (List.mem_of_getElem? (i := 723) (by decide +kernel)) rfl
theorem q_685 : (Cond.fieldLink RX9 40 "FlowConstantsModel" "ends" "[I" : Cond) ∈ lw_gt := lw_gt_of (List.mem_of_getElem? (i := 724) (by decide +kernel)) rfl
theorem q_686 : (Cond.fieldLink RX9 43 "FlowConstantsModel" "endName" "[I" : Cond) ∈ lw_gt := lw_gt_of (List.mem_of_getElem? (i := 725) (by decide +kernel)) rfl
theorem q_687 : (Cond.fieldLink RX9 46 "FlowConstantsModel" "before" "[I" : Cond) ∈ lw_gt := lw_gt_of (List.mem_of_getElem? (i := 726) (by decide +kernel)) rfl
theorem q_688 : (Cond.fieldLink RX9 49 "FlowConstantsModel" "st" "[I" : Cond) ∈ lw_gt := lw_gt_of (List.mem_of_getElem? (i := 727) (by decide +kernel)) rfl
theorem q_689 : (Cond.fieldLink RX9 52 "FlowConstantsModel" "book" "[I" : Cond) ∈ lw_gt := lw_gt_of (List.mem_of_getElem? (i := 728) (by decide +kernel)) rfl
theorem q_690 : (Cond.fieldLink RX9 216 "FlowConstantsModel" "undos" "I" : Cond) ∈ lw_gt := lw_gt_of (List.mem_of_getElem? (i := 729) (by decide +kernel)) rfl
theorem q_691 : (Cond.fieldLink RX9 55 "FlowConstantsModel" "images" "[I" : Cond) ∈ lw_gt := lw_gt_of (List.mem_of_getElem? (i := 730) (by decide +kernel)) rfl
theorem q_692 : (Cond.fieldLink RX9 58 "FlowConstantsModel" "isKept" "[Z" : Cond) ∈ lw_gt := lw_gt_of (List.mem_of_getElem? (i := 731) (by decide +kernel)) rfl
theorem q_693 : (Cond.fieldLink RX9 243 "FlowConstantsModel" "asked" "I" : Cond) ∈ lw_gt := lw_gt_of (List.mem_of_getElem? (i := 732) (by decide +kernel)) rfl
theorem q_694 : (Cond.fieldLink RX9 136 "FlowConstantsModel" "place" "I" : Cond) ∈ lw_gt := lw_gt_of (List.mem_of_getElem? (i := 733) (by decide +kernel)) rfl
theorem q_695 : (Cond.fieldLink RX9 139 "FlowConstantsModel" "isWrong" "Z" : Cond) ∈ lw_gt := lw_gt_of (List.mem_of_getElem? (i := 734) (by decide +kernel)) rfl
theorem q_696 : (Cond.fieldLink RX9 150 "FlowConstantsModel" "readNames" "I" : Cond) ∈ lw_gt := lw_gt_of (List.mem_of_getElem? (i := 735) (by decide +kernel)) rfl
theorem q_697 : (Cond.fieldLink RX9 147 "FlowConstantsModel" "readBlocks" "I" : Cond) ∈ lw_gt := lw_gt_of (List.mem_of_getElem? (i := 736) (by decide +kernel)) rfl
theorem q_698 : (Cond.fieldLink RX9 168 "FlowConstantsModel" "isOpen" "Z" : Cond) ∈ lw_gt := lw_gt_of (List.mem_of_getElem? (i := 737) (by decide +kernel)) rfl
theorem q_699 : (Cond.fieldLink RX9 62 "FlowConstantsModel" "readMade" "[I" : Cond) ∈ lw_gt := lw_gt_of (List.mem_of_getElem? (i := 738) (by decide +kernel)) rfl
theorem q_700 : (Cond.fieldLink RX9 65 "FlowConstantsModel" "readBlockOf" "[I" : Cond) ∈ lw_gt := lw_gt_of (List.mem_of_getElem? (i := 739) (by decide +kernel)) rfl
theorem q_701 : (Cond.fieldLink RX9 68 "FlowConstantsModel" "readSign" "[I" : Cond) ∈ lw_gt := lw_gt_of (List.mem_of_getElem? (i := 740) (by decide +kernel)) rfl
theorem q_702 : (Cond.fieldLink RX9 71 "FlowConstantsModel" "readOne" "[I" : Cond) ∈ lw_gt := lw_gt_of (List.mem_of_getElem? (i := 741) (by decide +kernel)) rfl
theorem q_703 : (Cond.fieldLink RX9 74 "FlowConstantsModel" "readOther" "[I" : Cond) ∈ lw_gt := lw_gt_of (List.mem_of_getElem? (i := 742) (by decide +kernel)) rfl
theorem q_704 : (Cond.fieldLink RX9 77 "FlowConstantsModel" "readArms" "[I" : Cond) ∈ lw_gt := lw_gt_of (List.mem_of_getElem? (i := 743) (by decide +kernel)) rfl
theorem q_705 : (Cond.fieldLink RX9 80 "FlowConstantsModel" "readArmBlock" "[I" : Cond) ∈ lw_gt := lw_gt_of (List.mem_of_getElem? (i := 744) (by decide +kernel)) rfl
theorem q_706 : (Cond.fieldLink RX9 83 "FlowConstantsModel" "readArmName" "[I" : Cond) ∈ lw_gt := lw_gt_of (List.mem_of_getElem? (i := 745) (by decide +kernel)) rfl
theorem q_707 : (Cond.fieldLink RX9 86 "FlowConstantsModel" "readFirst" "[I" : Cond) ∈ lw_gt := lw_gt_of (List.mem_of_getElem? (i := 746) (by decide +kernel)) rfl
theorem q_708 : (Cond.fieldLink RX9 89 "FlowConstantsModel" "readEnds" "[I" : Cond) ∈ lw_gt := lw_gt_of (List.mem_of_getElem? (i := 747) (by decide +kernel)) rfl
theorem q_709 : (Cond.fieldLink RX9 92 "FlowConstantsModel" "readEndName" "[I" : Cond) ∈ lw_gt := lw_gt_of (List.mem_of_getElem? (i := 748) (by decide +kernel)) rfl
theorem q_710 : (Cond.fieldLink RX9 95 "FlowConstantsModel" "read" "[I" : Cond) ∈ lw_gt := lw_gt_of (List.mem_of_getElem? (i := 749) (by decide +kernel)) rfl
theorem q_711 : (Cond.fieldLink RX9 98 "FlowConstantsModel" "readBefore" "[I" : Cond) ∈ lw_gt := lw_gt_of (List.mem_of_getElem? (i := 750) (by decide +kernel)) rfl
theorem q_712 : (Cond.fieldLink RX9 101 "FlowConstantsModel" "found" "[I" : Cond) ∈ lw_gt := lw_gt_of (List.mem_of_getElem? (i := 751) (by decide +kernel)) rfl
theorem q_713 : (Cond.fieldLink RX9 104 "FlowConstantsModel" "value" "[I" : Cond) ∈ lw_gt := lw_gt_of (List.mem_of_getElem? (i := 752) (by decide +kernel)) rfl
theorem q_714 : (Cond.fieldLink RX9 107 "FlowConstantsModel" "isLive" "[Z" : Cond) ∈ lw_gt := lw_gt_of (List.mem_of_getElem? (i := 753) (by decide +kernel)) rfl
theorem q_715 : (Cond.fieldLink RX9 110 "FlowConstantsModel" "plain" "[I" : Cond) ∈ lw_gt := lw_gt_of (List.mem_of_getElem? (i := 754) (by decide +kernel)) rfl
theorem q_716 : (Cond.fieldLink RX9 219 "FlowConstantsModel" "traps" "Z" : Cond) ∈ lw_gt := lw_gt_of (List.mem_of_getElem? (i := 755) (by decide +kernel)) rfl
theorem q_717 : (Cond.fieldLink RX9 113 "FlowConstantsModel" "is" "[I" : Cond) ∈ lw_gt := lw_gt_of (List.mem_of_getElem? (i := 756) (by decide +kernel)) rfl
theorem q_718 : (Cond.fieldLink RX9 116 "FlowConstantsModel" "then" "[I" : Cond) ∈ lw_gt := lw_gt_of (List.mem_of_getElem? (i := 757) (by decide +kernel)) rfl
theorem q_719 : (Cond.fieldLink RX9 119 "FlowConstantsModel" "visited" "[I" : Cond) ∈ lw_gt := lw_gt_of (List.mem_of_getElem? (i := 758) (by decide +kernel)) rfl
theorem q_720 : (Cond.fieldLink RX9 272 "FlowConstantsModel" "told" "I" : Cond) ∈ lw_gt := lw_gt_of (List.mem_of_getElem? (i := 759) (by decide +kernel)) rfl
theorem q_820 : (Cond.arrayClass .boolean : Cond) ∈ lw_gt := lw_gt_of (List.mem_of_getElem? (i := 859) (by decide +kernel)) rfl
theorem q_821 : (Cond.methodLink RL 17 yX9_type : Cond) ∈ lw_gt := lw_gt_of (List.mem_of_getElem? (i := 860) (by decide +kernel)) rfl
theorem q_822 : (Cond.instanceMethod yX9_type : Cond) ∈ lw_gt := lw_gt_of (List.mem_of_getElem? (i := 861) (by decide +kernel)) rfl
theorem q_823 : (Cond.selects RX9 yX9_type yX9_type : Cond) ∈ lw_gt := lw_gt_of (List.mem_of_getElem? (i := 862) (by decide +kernel)) rfl
theorem q_824 : (Cond.code yX9_type cX9_type 2 (some .int) : Cond) ∈ lw_gt := lw_gt_of (List.mem_of_getElem? (i := 863) (by decide +kernel)) rfl
theorem q_825 : (Cond.methodLink RX9 126 yX9_in : Cond) ∈ lw_gt := lw_gt_of (List.mem_of_getElem? (i := 864) (by decide +kernel)) rfl
theorem q_826 : (Cond.static yX9_in : Cond) ∈ lw_gt := lw_gt_of (List.mem_of_getElem? (i := 865) (by decide +kernel)) rfl
theorem q_827 : (Cond.code yX9_in cX9_in 3 (some .boolean) : Cond) ∈ lw_gt := lw_gt_of (List.mem_of_getElem? (i := 866) (by decide +kernel)) rfl
theorem q_828 : (Cond.methodLink RL 22 yX9_clear : Cond) ∈ lw_gt := lw_gt_of (List.mem_of_getElem? (i := 867) (by decide +kernel)) rfl
theorem q_829 : (Cond.instanceMethod yX9_clear : Cond) ∈ lw_gt := lw_gt_of (List.mem_of_getElem? (i := 868) (by decide +kernel)) rfl
theorem q_830 : (Cond.selects RX9 yX9_clear yX9_clear : Cond) ∈ lw_gt := lw_gt_of (List.mem_of_getElem? (i := 869) (by decide +kernel)) rfl
theorem q_831 : (Cond.code yX9_clear cX9_clear 2 (some .int) : Cond) ∈ lw_gt := lw_gt_of (List.mem_of_getElem? (i := 870) (by decide +kernel)) rfl
theorem q_832 : (Cond.methodLink RL 26 yX9_program : Cond) ∈ lw_gt := lw_gt_of (List.mem_of_getElem? (i := 871) (by decide +kernel)) rfl
theorem q_833 : (Cond.instanceMethod yX9_program : Cond) ∈ lw_gt := lw_gt_of (List.mem_of_getElem? (i := 872) (by decide +kernel)) rfl
theorem q_834 : (Cond.selects RX9 yX9_program yX9_program : Cond) ∈ lw_gt := lw_gt_of (List.mem_of_getElem? (i := 873) (by decide +kernel)) rfl
theorem q_835 : (Cond.code yX9_program cX9_program 1 (some .int) : Cond) ∈ lw_gt := lw_gt_of (List.mem_of_getElem? (i := 874) (by decide +kernel)) rfl
theorem q_836 : (Cond.methodLink RX9 203 yX9_startsReading : Cond) ∈ lw_gt := lw_gt_of (List.mem_of_getElem? (i := 875) (by decide +kernel)) rfl
theorem q_838 : (Cond.instanceMethod yX9_startsReading : Cond) ∈ lw_gt := lw_gt_of (List.mem_of_getElem? (i := 877) (by decide +kernel)) rfl
theorem q_839 : (Cond.code yX9_startsReading cX9_startsReading 2 none : Cond) ∈ lw_gt := lw_gt_of (List.mem_of_getElem? (i := 878) (by decide +kernel)) rfl
theorem q_840 : (Cond.methodLink RX9 143 yX9_here : Cond) ∈ lw_gt := lw_gt_of (List.mem_of_getElem? (i := 879) (by decide +kernel)) rfl
theorem q_842 : (Cond.instanceMethod yX9_here : Cond) ∈ lw_gt := lw_gt_of (List.mem_of_getElem? (i := 881) (by decide +kernel)) rfl
theorem q_843 : (Cond.code yX9_here cX9_here 1 (some .int) : Cond) ∈ lw_gt := lw_gt_of (List.mem_of_getElem? (i := 882) (by decide +kernel)) rfl
theorem q_844 : (Cond.methodLink RX9 206 yX9_readsItem : Cond) ∈ lw_gt := lw_gt_of (List.mem_of_getElem? (i := 883) (by decide +kernel)) rfl
theorem q_846 : (Cond.instanceMethod yX9_readsItem : Cond) ∈ lw_gt := lw_gt_of (List.mem_of_getElem? (i := 885) (by decide +kernel)) rfl
theorem q_847 : (Cond.code yX9_readsItem cX9_readsItem 2 none : Cond) ∈ lw_gt := lw_gt_of (List.mem_of_getElem? (i := 886) (by decide +kernel)) rfl
theorem q_848 : (Cond.methodLink RX9 175 yX9_mayBegin : Cond) ∈ lw_gt := lw_gt_of (List.mem_of_getElem? (i := 887) (by decide +kernel)) rfl
theorem q_850 : (Cond.instanceMethod yX9_mayBegin : Cond) ∈ lw_gt := lw_gt_of (List.mem_of_getElem? (i := 889) (by decide +kernel)) rfl
theorem q_851 : (Cond.code yX9_mayBegin cX9_mayBegin 3 (some .boolean) : Cond) ∈ lw_gt := lw_gt_of (List.mem_of_getElem? (i := 890) (by decide +kernel)) rfl
theorem q_852 : (Cond.methodLink RX9 171 yX9_onlyJoins : Cond) ∈ lw_gt := lw_gt_of (List.mem_of_getElem? (i := 891) (by decide +kernel)) rfl
theorem q_854 : (Cond.instanceMethod yX9_onlyJoins : Cond) ∈ lw_gt := lw_gt_of (List.mem_of_getElem? (i := 893) (by decide +kernel)) rfl
theorem q_855 : (Cond.code yX9_onlyJoins cX9_onlyJoins 3 (some .boolean) : Cond) ∈ lw_gt := lw_gt_of (List.mem_of_getElem? (i := 894) (by decide +kernel)) rfl
theorem q_856 : (Cond.methodLink RX9 165 yX9_closes : Cond) ∈ lw_gt := lw_gt_of (List.mem_of_getElem? (i := 895) (by decide +kernel)) rfl
theorem q_858 : (Cond.instanceMethod yX9_closes : Cond) ∈ lw_gt := lw_gt_of (List.mem_of_getElem? (i := 897) (by decide +kernel)) rfl
theorem q_859 : (Cond.code yX9_closes cX9_closes 1 none : Cond) ∈ lw_gt := lw_gt_of (List.mem_of_getElem? (i := 898) (by decide +kernel)) rfl
theorem q_860 : (Cond.methodLink RX9 153 yX9_startsName : Cond) ∈ lw_gt := lw_gt_of (List.mem_of_getElem? (i := 899) (by decide +kernel)) rfl
theorem q_862 : (Cond.instanceMethod yX9_startsName : Cond) ∈ lw_gt := lw_gt_of (List.mem_of_getElem? (i := 901) (by decide +kernel)) rfl
theorem q_863 : (Cond.code yX9_startsName cX9_startsName 2 none : Cond) ∈ lw_gt := lw_gt_of (List.mem_of_getElem? (i := 902) (by decide +kernel)) rfl
theorem q_864 : (Cond.methodLink RX9 157 yX9_numeral : Cond) ∈ lw_gt := lw_gt_of (List.mem_of_getElem? (i := 903) (by decide +kernel)) rfl
theorem q_866 : (Cond.instanceMethod yX9_numeral : Cond) ∈ lw_gt := lw_gt_of (List.mem_of_getElem? (i := 905) (by decide +kernel)) rfl
theorem q_867 : (Cond.code yX9_numeral cX9_numeral 4 (some .int) : Cond) ∈ lw_gt := lw_gt_of (List.mem_of_getElem? (i := 906) (by decide +kernel)) rfl
theorem q_868 : (Cond.methodLink RX9 178 yX9_readsOperation : Cond) ∈ lw_gt := lw_gt_of (List.mem_of_getElem? (i := 907) (by decide +kernel)) rfl
theorem q_870 : (Cond.instanceMethod yX9_readsOperation : Cond) ∈ lw_gt := lw_gt_of (List.mem_of_getElem? (i := 909) (by decide +kernel)) rfl
theorem q_871 : (Cond.code yX9_readsOperation cX9_readsOperation 2 none : Cond) ∈ lw_gt := lw_gt_of (List.mem_of_getElem? (i := 910) (by decide +kernel)) rfl
theorem q_872 : (Cond.methodLink RX9 161 yX9_isSign : Cond) ∈ lw_gt := lw_gt_of (List.mem_of_getElem? (i := 911) (by decide +kernel)) rfl
theorem q_873 : (Cond.static yX9_isSign : Cond) ∈ lw_gt := lw_gt_of (List.mem_of_getElem? (i := 912) (by decide +kernel)) rfl
theorem q_874 : (Cond.code yX9_isSign cX9_isSign 1 (some .boolean) : Cond) ∈ lw_gt := lw_gt_of (List.mem_of_getElem? (i := 913) (by decide +kernel)) rfl
theorem q_875 : (Cond.methodLink RX9 181 yX9_readsJoin : Cond) ∈ lw_gt := lw_gt_of (List.mem_of_getElem? (i := 914) (by decide +kernel)) rfl
theorem q_877 : (Cond.instanceMethod yX9_readsJoin : Cond) ∈ lw_gt := lw_gt_of (List.mem_of_getElem? (i := 916) (by decide +kernel)) rfl
theorem q_878 : (Cond.code yX9_readsJoin cX9_readsJoin 7 none : Cond) ∈ lw_gt := lw_gt_of (List.mem_of_getElem? (i := 917) (by decide +kernel)) rfl
theorem q_879 : (Cond.methodLink RX9 184 yX9_readsEnd : Cond) ∈ lw_gt := lw_gt_of (List.mem_of_getElem? (i := 918) (by decide +kernel)) rfl
theorem q_881 : (Cond.instanceMethod yX9_readsEnd : Cond) ∈ lw_gt := lw_gt_of (List.mem_of_getElem? (i := 920) (by decide +kernel)) rfl
theorem q_882 : (Cond.code yX9_readsEnd cX9_readsEnd 5 none : Cond) ∈ lw_gt := lw_gt_of (List.mem_of_getElem? (i := 921) (by decide +kernel)) rfl
theorem q_883 : (Cond.methodLink RX9 209 yX9_isStrict : Cond) ∈ lw_gt := lw_gt_of (List.mem_of_getElem? (i := 922) (by decide +kernel)) rfl
theorem q_885 : (Cond.instanceMethod yX9_isStrict : Cond) ∈ lw_gt := lw_gt_of (List.mem_of_getElem? (i := 924) (by decide +kernel)) rfl
theorem q_886 : (Cond.code yX9_isStrict cX9_isStrict 4 (some .boolean) : Cond) ∈ lw_gt := lw_gt_of (List.mem_of_getElem? (i := 925) (by decide +kernel)) rfl
theorem q_887 : (Cond.methodLink RX9 197 yX9_laysBefore : Cond) ∈ lw_gt := lw_gt_of (List.mem_of_getElem? (i := 926) (by decide +kernel)) rfl
theorem q_889 : (Cond.instanceMethod yX9_laysBefore : Cond) ∈ lw_gt := lw_gt_of (List.mem_of_getElem? (i := 928) (by decide +kernel)) rfl
theorem q_890 : (Cond.code yX9_laysBefore cX9_laysBefore 6 none : Cond) ∈ lw_gt := lw_gt_of (List.mem_of_getElem? (i := 929) (by decide +kernel)) rfl
theorem q_891 : (Cond.methodLink RX9 187 yX9_goesTo : Cond) ∈ lw_gt := lw_gt_of (List.mem_of_getElem? (i := 930) (by decide +kernel)) rfl
theorem q_893 : (Cond.instanceMethod yX9_goesTo : Cond) ∈ lw_gt := lw_gt_of (List.mem_of_getElem? (i := 932) (by decide +kernel)) rfl
theorem q_894 : (Cond.code yX9_goesTo cX9_goesTo 3 (some .boolean) : Cond) ∈ lw_gt := lw_gt_of (List.mem_of_getElem? (i := 933) (by decide +kernel)) rfl
theorem q_895 : (Cond.methodLink RX9 194 yX9_isBefore : Cond) ∈ lw_gt := lw_gt_of (List.mem_of_getElem? (i := 934) (by decide +kernel)) rfl
theorem q_897 : (Cond.instanceMethod yX9_isBefore : Cond) ∈ lw_gt := lw_gt_of (List.mem_of_getElem? (i := 936) (by decide +kernel)) rfl
theorem q_898 : (Cond.code yX9_isBefore cX9_isBefore 4 (some .boolean) : Cond) ∈ lw_gt := lw_gt_of (List.mem_of_getElem? (i := 937) (by decide +kernel)) rfl
theorem q_899 : (Cond.methodLink RX9 191 yX9_has : Cond) ∈ lw_gt := lw_gt_of (List.mem_of_getElem? (i := 938) (by decide +kernel)) rfl
theorem q_900 : (Cond.static yX9_has : Cond) ∈ lw_gt := lw_gt_of (List.mem_of_getElem? (i := 939) (by decide +kernel)) rfl
theorem q_901 : (Cond.code yX9_has cX9_has 2 (some .boolean) : Cond) ∈ lw_gt := lw_gt_of (List.mem_of_getElem? (i := 940) (by decide +kernel)) rfl
theorem q_902 : (Cond.methodLink RX9 200 yX9_isJoined : Cond) ∈ lw_gt := lw_gt_of (List.mem_of_getElem? (i := 941) (by decide +kernel)) rfl
theorem q_904 : (Cond.instanceMethod yX9_isJoined : Cond) ∈ lw_gt := lw_gt_of (List.mem_of_getElem? (i := 943) (by decide +kernel)) rfl
theorem q_905 : (Cond.code yX9_isJoined cX9_isJoined 7 (some .boolean) : Cond) ∈ lw_gt := lw_gt_of (List.mem_of_getElem? (i := 944) (by decide +kernel)) rfl
theorem q_906 : (Cond.methodLink RX9 212 yX9_bring : Cond) ∈ lw_gt := lw_gt_of (List.mem_of_getElem? (i := 945) (by decide +kernel)) rfl
theorem q_907 : (Cond.static yX9_bring : Cond) ∈ lw_gt := lw_gt_of (List.mem_of_getElem? (i := 946) (by decide +kernel)) rfl
theorem q_908 : (Cond.code yX9_bring cX9_bring 6 none : Cond) ∈ lw_gt := lw_gt_of (List.mem_of_getElem? (i := 947) (by decide +kernel)) rfl
theorem q_909 : (Cond.methodLink RL 31 yX9_name : Cond) ∈ lw_gt := lw_gt_of (List.mem_of_getElem? (i := 948) (by decide +kernel)) rfl
theorem q_910 : (Cond.instanceMethod yX9_name : Cond) ∈ lw_gt := lw_gt_of (List.mem_of_getElem? (i := 949) (by decide +kernel)) rfl
theorem q_911 : (Cond.selects RX9 yX9_name yX9_name : Cond) ∈ lw_gt := lw_gt_of (List.mem_of_getElem? (i := 950) (by decide +kernel)) rfl
theorem q_912 : (Cond.code yX9_name cX9_name 4 (some .int) : Cond) ∈ lw_gt := lw_gt_of (List.mem_of_getElem? (i := 951) (by decide +kernel)) rfl
theorem q_913 : (Cond.methodLink RX9 246 yX9_isName : Cond) ∈ lw_gt := lw_gt_of (List.mem_of_getElem? (i := 952) (by decide +kernel)) rfl
theorem q_915 : (Cond.instanceMethod yX9_isName : Cond) ∈ lw_gt := lw_gt_of (List.mem_of_getElem? (i := 954) (by decide +kernel)) rfl
theorem q_916 : (Cond.code yX9_isName cX9_isName 2 (some .boolean) : Cond) ∈ lw_gt := lw_gt_of (List.mem_of_getElem? (i := 955) (by decide +kernel)) rfl
theorem q_917 : (Cond.methodLink RX9 249 yX9_finds : Cond) ∈ lw_gt := lw_gt_of (List.mem_of_getElem? (i := 956) (by decide +kernel)) rfl
theorem q_919 : (Cond.instanceMethod yX9_finds : Cond) ∈ lw_gt := lw_gt_of (List.mem_of_getElem? (i := 958) (by decide +kernel)) rfl
theorem q_920 : (Cond.code yX9_finds cX9_finds 5 none : Cond) ∈ lw_gt := lw_gt_of (List.mem_of_getElem? (i := 959) (by decide +kernel)) rfl
theorem q_921 : (Cond.methodLink RX9 240 yX9_climbs : Cond) ∈ lw_gt := lw_gt_of (List.mem_of_getElem? (i := 960) (by decide +kernel)) rfl
theorem q_923 : (Cond.instanceMethod yX9_climbs : Cond) ∈ lw_gt := lw_gt_of (List.mem_of_getElem? (i := 962) (by decide +kernel)) rfl
theorem q_924 : (Cond.code yX9_climbs cX9_climbs 3 none : Cond) ∈ lw_gt := lw_gt_of (List.mem_of_getElem? (i := 963) (by decide +kernel)) rfl
theorem q_925 : (Cond.methodLink RX9 233 yX9_climbsOperation : Cond) ∈ lw_gt := lw_gt_of (List.mem_of_getElem? (i := 964) (by decide +kernel)) rfl
theorem q_927 : (Cond.instanceMethod yX9_climbsOperation : Cond) ∈ lw_gt := lw_gt_of (List.mem_of_getElem? (i := 966) (by decide +kernel)) rfl
theorem q_928 : (Cond.code yX9_climbsOperation cX9_climbsOperation 4 none : Cond) ∈ lw_gt := lw_gt_of (List.mem_of_getElem? (i := 967) (by decide +kernel)) rfl
theorem q_929 : (Cond.methodLink RX9 226 yX9_doneBy : Cond) ∈ lw_gt := lw_gt_of (List.mem_of_getElem? (i := 968) (by decide +kernel)) rfl
theorem q_931 : (Cond.instanceMethod yX9_doneBy : Cond) ∈ lw_gt := lw_gt_of (List.mem_of_getElem? (i := 970) (by decide +kernel)) rfl
theorem q_932 : (Cond.code yX9_doneBy cX9_doneBy 4 (some .int) : Cond) ∈ lw_gt := lw_gt_of (List.mem_of_getElem? (i := 971) (by decide +kernel)) rfl
theorem q_933 : (Cond.methodLink RX9 236 yX9_climbsJoin : Cond) ∈ lw_gt := lw_gt_of (List.mem_of_getElem? (i := 972) (by decide +kernel)) rfl
theorem q_935 : (Cond.instanceMethod yX9_climbsJoin : Cond) ∈ lw_gt := lw_gt_of (List.mem_of_getElem? (i := 974) (by decide +kernel)) rfl
theorem q_936 : (Cond.code yX9_climbsJoin cX9_climbsJoin 6 none : Cond) ∈ lw_gt := lw_gt_of (List.mem_of_getElem? (i := 975) (by decide +kernel)) rfl
theorem q_937 : (Cond.methodLink RX9 230 yX9_isWay : Cond) ∈ lw_gt := lw_gt_of (List.mem_of_getElem? (i := 976) (by decide +kernel)) rfl
theorem q_939 : (Cond.instanceMethod yX9_isWay : Cond) ∈ lw_gt := lw_gt_of (List.mem_of_getElem? (i := 978) (by decide +kernel)) rfl
theorem q_940 : (Cond.code yX9_isWay cX9_isWay 4 (some .boolean) : Cond) ∈ lw_gt := lw_gt_of (List.mem_of_getElem? (i := 979) (by decide +kernel)) rfl
theorem q_941 : (Cond.methodLink RX9 222 yX9_isEdge : Cond) ∈ lw_gt := lw_gt_of (List.mem_of_getElem? (i := 980) (by decide +kernel)) rfl
theorem q_943 : (Cond.instanceMethod yX9_isEdge : Cond) ∈ lw_gt := lw_gt_of (List.mem_of_getElem? (i := 982) (by decide +kernel)) rfl
theorem q_944 : (Cond.code yX9_isEdge cX9_isEdge 5 (some .boolean) : Cond) ∈ lw_gt := lw_gt_of (List.mem_of_getElem? (i := 983) (by decide +kernel)) rfl
theorem q_945 : (Cond.methodLink RL 35 yX9_found : Cond) ∈ lw_gt := lw_gt_of (List.mem_of_getElem? (i := 984) (by decide +kernel)) rfl
theorem q_946 : (Cond.instanceMethod yX9_found : Cond) ∈ lw_gt := lw_gt_of (List.mem_of_getElem? (i := 985) (by decide +kernel)) rfl
theorem q_947 : (Cond.selects RX9 yX9_found yX9_found : Cond) ∈ lw_gt := lw_gt_of (List.mem_of_getElem? (i := 986) (by decide +kernel)) rfl
theorem q_948 : (Cond.code yX9_found cX9_found 2 (some .int) : Cond) ∈ lw_gt := lw_gt_of (List.mem_of_getElem? (i := 987) (by decide +kernel)) rfl
theorem q_949 : (Cond.methodLink RX9 253 yX9_tells : Cond) ∈ lw_gt := lw_gt_of (List.mem_of_getElem? (i := 988) (by decide +kernel)) rfl
theorem q_951 : (Cond.instanceMethod yX9_tells : Cond) ∈ lw_gt := lw_gt_of (List.mem_of_getElem? (i := 990) (by decide +kernel)) rfl
theorem q_952 : (Cond.code yX9_tells cX9_tells 3 (some .int) : Cond) ∈ lw_gt := lw_gt_of (List.mem_of_getElem? (i := 991) (by decide +kernel)) rfl
theorem q_953 : (Cond.methodLink RL 39 yX9_block : Cond) ∈ lw_gt := lw_gt_of (List.mem_of_getElem? (i := 992) (by decide +kernel)) rfl
theorem q_954 : (Cond.instanceMethod yX9_block : Cond) ∈ lw_gt := lw_gt_of (List.mem_of_getElem? (i := 993) (by decide +kernel)) rfl
theorem q_955 : (Cond.selects RX9 yX9_block yX9_block : Cond) ∈ lw_gt := lw_gt_of (List.mem_of_getElem? (i := 994) (by decide +kernel)) rfl
theorem q_956 : (Cond.code yX9_block cX9_block 3 (some .int) : Cond) ∈ lw_gt := lw_gt_of (List.mem_of_getElem? (i := 995) (by decide +kernel)) rfl
theorem q_957 : (Cond.methodLink RX9 257 yX9_isBlock : Cond) ∈ lw_gt := lw_gt_of (List.mem_of_getElem? (i := 996) (by decide +kernel)) rfl
theorem q_959 : (Cond.instanceMethod yX9_isBlock : Cond) ∈ lw_gt := lw_gt_of (List.mem_of_getElem? (i := 998) (by decide +kernel)) rfl
theorem q_960 : (Cond.code yX9_isBlock cX9_isBlock 2 (some .boolean) : Cond) ∈ lw_gt := lw_gt_of (List.mem_of_getElem? (i := 999) (by decide +kernel)) rfl
theorem q_961 : (Cond.methodLink RL 43 yX9_knows : Cond) ∈ lw_gt := lw_gt_of (List.mem_of_getElem? (i := 1000) (by decide +kernel)) rfl
theorem q_962 : (Cond.instanceMethod yX9_knows : Cond) ∈ lw_gt := lw_gt_of (List.mem_of_getElem? (i := 1001) (by decide +kernel)) rfl
theorem q_963 : (Cond.selects RX9 yX9_knows yX9_knows : Cond) ∈ lw_gt := lw_gt_of (List.mem_of_getElem? (i := 1002) (by decide +kernel)) rfl
theorem q_964 : (Cond.code yX9_knows cX9_knows 3 (some .int) : Cond) ∈ lw_gt := lw_gt_of (List.mem_of_getElem? (i := 1003) (by decide +kernel)) rfl
theorem q_965 : (Cond.methodLink RX9 260 yX9_isMade : Cond) ∈ lw_gt := lw_gt_of (List.mem_of_getElem? (i := 1004) (by decide +kernel)) rfl
theorem q_967 : (Cond.instanceMethod yX9_isMade : Cond) ∈ lw_gt := lw_gt_of (List.mem_of_getElem? (i := 1006) (by decide +kernel)) rfl
theorem q_968 : (Cond.code yX9_isMade cX9_isMade 3 (some .boolean) : Cond) ∈ lw_gt := lw_gt_of (List.mem_of_getElem? (i := 1007) (by decide +kernel)) rfl
theorem q_969 : (Cond.methodLink RX9 263 yX9_notes : Cond) ∈ lw_gt := lw_gt_of (List.mem_of_getElem? (i := 1008) (by decide +kernel)) rfl
theorem q_971 : (Cond.instanceMethod yX9_notes : Cond) ∈ lw_gt := lw_gt_of (List.mem_of_getElem? (i := 1010) (by decide +kernel)) rfl
theorem q_972 : (Cond.code yX9_notes cX9_notes 1 none : Cond) ∈ lw_gt := lw_gt_of (List.mem_of_getElem? (i := 1011) (by decide +kernel)) rfl
theorem q_973 : (Cond.methodLink RX9 266 yX9_those : Cond) ∈ lw_gt := lw_gt_of (List.mem_of_getElem? (i := 1012) (by decide +kernel)) rfl
theorem q_975 : (Cond.instanceMethod yX9_those : Cond) ∈ lw_gt := lw_gt_of (List.mem_of_getElem? (i := 1014) (by decide +kernel)) rfl
theorem q_976 : (Cond.code yX9_those cX9_those 4 (some .int) : Cond) ∈ lw_gt := lw_gt_of (List.mem_of_getElem? (i := 1015) (by decide +kernel)) rfl
theorem q_977 : (Cond.methodLink RL 47 yX9_forgets : Cond) ∈ lw_gt := lw_gt_of (List.mem_of_getElem? (i := 1016) (by decide +kernel)) rfl
theorem q_978 : (Cond.instanceMethod yX9_forgets : Cond) ∈ lw_gt := lw_gt_of (List.mem_of_getElem? (i := 1017) (by decide +kernel)) rfl
theorem q_979 : (Cond.selects RX9 yX9_forgets yX9_forgets : Cond) ∈ lw_gt := lw_gt_of (List.mem_of_getElem? (i := 1018) (by decide +kernel)) rfl
theorem q_980 : (Cond.code yX9_forgets cX9_forgets 2 (some .int) : Cond) ∈ lw_gt := lw_gt_of (List.mem_of_getElem? (i := 1019) (by decide +kernel)) rfl
theorem q_981 : (Cond.methodLink RL 51 yX9_gives : Cond) ∈ lw_gt := lw_gt_of (List.mem_of_getElem? (i := 1020) (by decide +kernel)) rfl
theorem q_982 : (Cond.instanceMethod yX9_gives : Cond) ∈ lw_gt := lw_gt_of (List.mem_of_getElem? (i := 1021) (by decide +kernel)) rfl
theorem q_983 : (Cond.selects RX9 yX9_gives yX9_gives : Cond) ∈ lw_gt := lw_gt_of (List.mem_of_getElem? (i := 1022) (by decide +kernel)) rfl
theorem q_984 : (Cond.code yX9_gives cX9_gives 4 (some .int) : Cond) ∈ lw_gt := lw_gt_of (List.mem_of_getElem? (i := 1023) (by decide +kernel)) rfl
theorem q_985 : (Cond.methodLink RL 55 yX9_patches : Cond) ∈ lw_gt := lw_gt_of (List.mem_of_getElem? (i := 1024) (by decide +kernel)) rfl
theorem q_986 : (Cond.instanceMethod yX9_patches : Cond) ∈ lw_gt := lw_gt_of (List.mem_of_getElem? (i := 1025) (by decide +kernel)) rfl
theorem q_987 : (Cond.selects RX9 yX9_patches yX9_patches : Cond) ∈ lw_gt := lw_gt_of (List.mem_of_getElem? (i := 1026) (by decide +kernel)) rfl
theorem q_988 : (Cond.code yX9_patches cX9_patches 4 (some .int) : Cond) ∈ lw_gt := lw_gt_of (List.mem_of_getElem? (i := 1027) (by decide +kernel)) rfl
theorem q_989 : (Cond.methodLink RL 59 yX9_turned : Cond) ∈ lw_gt := lw_gt_of (List.mem_of_getElem? (i := 1028) (by decide +kernel)) rfl
theorem q_990 : (Cond.instanceMethod yX9_turned : Cond) ∈ lw_gt := lw_gt_of (List.mem_of_getElem? (i := 1029) (by decide +kernel)) rfl
theorem q_991 : (Cond.selects RX9 yX9_turned yX9_turned : Cond) ∈ lw_gt := lw_gt_of (List.mem_of_getElem? (i := 1030) (by decide +kernel)) rfl
theorem q_992 : (Cond.code yX9_turned cX9_turned 3 (some .int) : Cond) ∈ lw_gt := lw_gt_of (List.mem_of_getElem? (i := 1031) (by decide +kernel)) rfl
theorem q_993 : (Cond.methodLink RX9 269 yX9_liveBlocks : Cond) ∈ lw_gt := lw_gt_of (List.mem_of_getElem? (i := 1032) (by decide +kernel)) rfl
theorem q_995 : (Cond.instanceMethod yX9_liveBlocks : Cond) ∈ lw_gt := lw_gt_of (List.mem_of_getElem? (i := 1034) (by decide +kernel)) rfl
theorem q_996 : (Cond.code yX9_liveBlocks cX9_liveBlocks 3 (some .int) : Cond) ∈ lw_gt := lw_gt_of (List.mem_of_getElem? (i := 1035) (by decide +kernel)) rfl
theorem q_997 : (Cond.methodLink RL 63 yX9_undo : Cond) ∈ lw_gt := lw_gt_of (List.mem_of_getElem? (i := 1036) (by decide +kernel)) rfl
theorem q_998 : (Cond.instanceMethod yX9_undo : Cond) ∈ lw_gt := lw_gt_of (List.mem_of_getElem? (i := 1037) (by decide +kernel)) rfl
theorem q_999 : (Cond.selects RX9 yX9_undo yX9_undo : Cond) ∈ lw_gt := lw_gt_of (List.mem_of_getElem? (i := 1038) (by decide +kernel)) rfl
theorem q_1000 : (Cond.code yX9_undo cX9_undo 1 (some .int) : Cond) ∈ lw_gt := lw_gt_of (List.mem_of_getElem? (i := 1039) (by decide +kernel)) rfl
theorem q_1001 : (Cond.methodLink RL 67 yX9_run : Cond) ∈ lw_gt := lw_gt_of (List.mem_of_getElem? (i := 1040) (by decide +kernel)) rfl
theorem q_1002 : (Cond.instanceMethod yX9_run : Cond) ∈ lw_gt := lw_gt_of (List.mem_of_getElem? (i := 1041) (by decide +kernel)) rfl
theorem q_1003 : (Cond.selects RX9 yX9_run yX9_run : Cond) ∈ lw_gt := lw_gt_of (List.mem_of_getElem? (i := 1042) (by decide +kernel)) rfl
theorem q_1004 : (Cond.code yX9_run cX9_run 2 (some .int) : Cond) ∈ lw_gt := lw_gt_of (List.mem_of_getElem? (i := 1043) (by decide +kernel)) rfl
theorem q_1005 : (Cond.methodLink RX9 282 yX9_runs : Cond) ∈ lw_gt := lw_gt_of (List.mem_of_getElem? (i := 1044) (by decide +kernel)) rfl
theorem q_1007 : (Cond.instanceMethod yX9_runs : Cond) ∈ lw_gt := lw_gt_of (List.mem_of_getElem? (i := 1046) (by decide +kernel)) rfl
theorem q_1008 : (Cond.code yX9_runs cX9_runs 5 (some .int) : Cond) ∈ lw_gt := lw_gt_of (List.mem_of_getElem? (i := 1047) (by decide +kernel)) rfl
theorem q_1009 : (Cond.methodLink RX9 275 yX9_takes : Cond) ∈ lw_gt := lw_gt_of (List.mem_of_getElem? (i := 1048) (by decide +kernel)) rfl
theorem q_1011 : (Cond.instanceMethod yX9_takes : Cond) ∈ lw_gt := lw_gt_of (List.mem_of_getElem? (i := 1050) (by decide +kernel)) rfl
theorem q_1012 : (Cond.code yX9_takes cX9_takes 5 none : Cond) ∈ lw_gt := lw_gt_of (List.mem_of_getElem? (i := 1051) (by decide +kernel)) rfl
theorem q_1013 : (Cond.methodLink RX9 279 yX9_makes : Cond) ∈ lw_gt := lw_gt_of (List.mem_of_getElem? (i := 1052) (by decide +kernel)) rfl
theorem q_1015 : (Cond.instanceMethod yX9_makes : Cond) ∈ lw_gt := lw_gt_of (List.mem_of_getElem? (i := 1054) (by decide +kernel)) rfl
theorem q_1016 : (Cond.code yX9_makes cX9_makes 4 (some .int) : Cond) ∈ lw_gt := lw_gt_of (List.mem_of_getElem? (i := 1055) (by decide +kernel)) rfl
theorem q_1017 : (Cond.methodLink RL 71 yX9_visits : Cond) ∈ lw_gt := lw_gt_of (List.mem_of_getElem? (i := 1056) (by decide +kernel)) rfl
theorem q_1018 : (Cond.instanceMethod yX9_visits : Cond) ∈ lw_gt := lw_gt_of (List.mem_of_getElem? (i := 1057) (by decide +kernel)) rfl
theorem q_1019 : (Cond.selects RX9 yX9_visits yX9_visits : Cond) ∈ lw_gt := lw_gt_of (List.mem_of_getElem? (i := 1058) (by decide +kernel)) rfl
theorem q_1020 : (Cond.code yX9_visits cX9_visits 2 (some .int) : Cond) ∈ lw_gt := lw_gt_of (List.mem_of_getElem? (i := 1059) (by decide +kernel)) rfl
theorem q_1021 : (Cond.methodLink RL 75 yX9_last : Cond) ∈ lw_gt := lw_gt_of (List.mem_of_getElem? (i := 1060) (by decide +kernel)) rfl
theorem q_1022 : (Cond.instanceMethod yX9_last : Cond) ∈ lw_gt := lw_gt_of (List.mem_of_getElem? (i := 1061) (by decide +kernel)) rfl
theorem q_1023 : (Cond.selects RX9 yX9_last yX9_last : Cond) ∈ lw_gt := lw_gt_of (List.mem_of_getElem? (i := 1062) (by decide +kernel)) rfl
theorem q_1024 : (Cond.code yX9_last cX9_last 2 (some .int) : Cond) ∈ lw_gt := lw_gt_of (List.mem_of_getElem? (i := 1063) (by decide +kernel)) rfl
theorem q_1025 : (Cond.methodLink RL 79 yX9_count : Cond) ∈ lw_gt := lw_gt_of (List.mem_of_getElem? (i := 1064) (by decide +kernel)) rfl
theorem q_1026 : (Cond.instanceMethod yX9_count : Cond) ∈ lw_gt := lw_gt_of (List.mem_of_getElem? (i := 1065) (by decide +kernel)) rfl
theorem q_1027 : (Cond.selects RX9 yX9_count yX9_count : Cond) ∈ lw_gt := lw_gt_of (List.mem_of_getElem? (i := 1066) (by decide +kernel)) rfl
theorem q_1028 : (Cond.code yX9_count cX9_count 2 (some .int) : Cond) ∈ lw_gt := lw_gt_of (List.mem_of_getElem? (i := 1067) (by decide +kernel)) rfl
theorem q_1029 : (Cond.methodLink RX9 285 yX9_edges : Cond) ∈ lw_gt := lw_gt_of (List.mem_of_getElem? (i := 1068) (by decide +kernel)) rfl
theorem q_1031 : (Cond.instanceMethod yX9_edges : Cond) ∈ lw_gt := lw_gt_of (List.mem_of_getElem? (i := 1070) (by decide +kernel)) rfl
theorem q_1032 : (Cond.code yX9_edges cX9_edges 5 (some .int) : Cond) ∈ lw_gt := lw_gt_of (List.mem_of_getElem? (i := 1071) (by decide +kernel)) rfl
theorem q_1033 : (Cond.methodLink RX9 289 yX9_folds : Cond) ∈ lw_gt := lw_gt_of (List.mem_of_getElem? (i := 1072) (by decide +kernel)) rfl
theorem q_1035 : (Cond.instanceMethod yX9_folds : Cond) ∈ lw_gt := lw_gt_of (List.mem_of_getElem? (i := 1074) (by decide +kernel)) rfl
theorem q_1036 : (Cond.code yX9_folds cX9_folds 3 (some .int) : Cond) ∈ lw_gt := lw_gt_of (List.mem_of_getElem? (i := 1075) (by decide +kernel)) rfl
theorem q_1037 : (Cond.methodLink RX9 292 yX9_foldedEnds : Cond) ∈ lw_gt := lw_gt_of (List.mem_of_getElem? (i := 1076) (by decide +kernel)) rfl
theorem q_1039 : (Cond.instanceMethod yX9_foldedEnds : Cond) ∈ lw_gt := lw_gt_of (List.mem_of_getElem? (i := 1078) (by decide +kernel)) rfl
theorem q_1040 : (Cond.code yX9_foldedEnds cX9_foldedEnds 3 (some .int) : Cond) ∈ lw_gt := lw_gt_of (List.mem_of_getElem? (i := 1079) (by decide +kernel)) rfl
theorem q_1041 : (Cond.methodLink RX9 295 yX9_stays : Cond) ∈ lw_gt := lw_gt_of (List.mem_of_getElem? (i := 1080) (by decide +kernel)) rfl
theorem q_1043 : (Cond.instanceMethod yX9_stays : Cond) ∈ lw_gt := lw_gt_of (List.mem_of_getElem? (i := 1082) (by decide +kernel)) rfl
theorem q_1044 : (Cond.code yX9_stays cX9_stays 3 (some .int) : Cond) ∈ lw_gt := lw_gt_of (List.mem_of_getElem? (i := 1083) (by decide +kernel)) rfl
theorem q_1045 : (Cond.methodLink RX9 298 yX9_gain : Cond) ∈ lw_gt := lw_gt_of (List.mem_of_getElem? (i := 1084) (by decide +kernel)) rfl
theorem q_1047 : (Cond.instanceMethod yX9_gain : Cond) ∈ lw_gt := lw_gt_of (List.mem_of_getElem? (i := 1086) (by decide +kernel)) rfl
theorem q_1048 : (Cond.code yX9_gain cX9_gain 3 (some .int) : Cond) ∈ lw_gt := lw_gt_of (List.mem_of_getElem? (i := 1087) (by decide +kernel)) rfl
theorem q_1049 : (Cond.methodLink RL 83 yX9_best : Cond) ∈ lw_gt := lw_gt_of (List.mem_of_getElem? (i := 1088) (by decide +kernel)) rfl
theorem q_1050 : (Cond.instanceMethod yX9_best : Cond) ∈ lw_gt := lw_gt_of (List.mem_of_getElem? (i := 1089) (by decide +kernel)) rfl
theorem q_1051 : (Cond.selects RX9 yX9_best yX9_best : Cond) ∈ lw_gt := lw_gt_of (List.mem_of_getElem? (i := 1090) (by decide +kernel)) rfl
theorem q_1052 : (Cond.code yX9_best cX9_best 8 (some .int) : Cond) ∈ lw_gt := lw_gt_of (List.mem_of_getElem? (i := 1091) (by decide +kernel)) rfl
theorem q_1053 : (Cond.methodLink RL 87 yX9_keep : Cond) ∈ lw_gt := lw_gt_of (List.mem_of_getElem? (i := 1092) (by decide +kernel)) rfl
theorem q_1054 : (Cond.instanceMethod yX9_keep : Cond) ∈ lw_gt := lw_gt_of (List.mem_of_getElem? (i := 1093) (by decide +kernel)) rfl
theorem q_1055 : (Cond.selects RX9 yX9_keep yX9_keep : Cond) ∈ lw_gt := lw_gt_of (List.mem_of_getElem? (i := 1094) (by decide +kernel)) rfl
theorem q_1056 : (Cond.code yX9_keep cX9_keep 2 (some .int) : Cond) ∈ lw_gt := lw_gt_of (List.mem_of_getElem? (i := 1095) (by decide +kernel)) rfl
theorem q_1057 : (Cond.methodLink RL 91 yX9_back : Cond) ∈ lw_gt := lw_gt_of (List.mem_of_getElem? (i := 1096) (by decide +kernel)) rfl
theorem q_1058 : (Cond.instanceMethod yX9_back : Cond) ∈ lw_gt := lw_gt_of (List.mem_of_getElem? (i := 1097) (by decide +kernel)) rfl
theorem q_1059 : (Cond.selects RX9 yX9_back yX9_back : Cond) ∈ lw_gt := lw_gt_of (List.mem_of_getElem? (i := 1098) (by decide +kernel)) rfl
theorem q_1060 : (Cond.code yX9_back cX9_back 2 (some .int) : Cond) ∈ lw_gt := lw_gt_of (List.mem_of_getElem? (i := 1099) (by decide +kernel)) rfl
theorem q_1061 : (Cond.methodLink RL 95 yX9_asked : Cond) ∈ lw_gt := lw_gt_of (List.mem_of_getElem? (i := 1100) (by decide +kernel)) rfl
theorem q_1062 : (Cond.instanceMethod yX9_asked : Cond) ∈ lw_gt := lw_gt_of (List.mem_of_getElem? (i := 1101) (by decide +kernel)) rfl
theorem q_1063 : (Cond.selects RX9 yX9_asked yX9_asked : Cond) ∈ lw_gt := lw_gt_of (List.mem_of_getElem? (i := 1102) (by decide +kernel)) rfl
theorem q_1064 : (Cond.code yX9_asked cX9_asked 1 (some .int) : Cond) ∈ lw_gt := lw_gt_of (List.mem_of_getElem? (i := 1103) (by decide +kernel)) rfl
theorem qp_0 : (Cond.selects RX8 yX8_settle yX8_settle : Cond) ∈ lw_gt := lw_gt_of (List.mem_of_getElem? (i := 0) (by decide +kernel)) rfl
theorem qp_1 : (Cond.selects RX9 yX9_startsReading yX9_startsReading : Cond) ∈ lw_gt := lw_gt_of (List.mem_of_getElem? (i := 1) (by decide +kernel)) rfl
theorem qp_2 : (Cond.selects RX9 yX9_here yX9_here : Cond) ∈ lw_gt := lw_gt_of (List.mem_of_getElem? (i := 2) (by decide +kernel)) rfl
theorem qp_3 : (Cond.selects RX9 yX9_readsItem yX9_readsItem : Cond) ∈ lw_gt := lw_gt_of (List.mem_of_getElem? (i := 3) (by decide +kernel)) rfl
theorem qp_4 : (Cond.selects RX9 yX9_mayBegin yX9_mayBegin : Cond) ∈ lw_gt := lw_gt_of (List.mem_of_getElem? (i := 4) (by decide +kernel)) rfl
theorem qp_5 : (Cond.selects RX9 yX9_onlyJoins yX9_onlyJoins : Cond) ∈ lw_gt := lw_gt_of (List.mem_of_getElem? (i := 5) (by decide +kernel)) rfl
theorem qp_6 : (Cond.selects RX9 yX9_closes yX9_closes : Cond) ∈ lw_gt := lw_gt_of (List.mem_of_getElem? (i := 6) (by decide +kernel)) rfl
theorem qp_7 : (Cond.selects RX9 yX9_startsName yX9_startsName : Cond) ∈ lw_gt := lw_gt_of (List.mem_of_getElem? (i := 7) (by decide +kernel)) rfl
theorem qp_8 : (Cond.selects RX9 yX9_numeral yX9_numeral : Cond) ∈ lw_gt := lw_gt_of (List.mem_of_getElem? (i := 8) (by decide +kernel)) rfl
theorem qp_9 : (Cond.selects RX9 yX9_readsOperation yX9_readsOperation : Cond) ∈ lw_gt := lw_gt_of (List.mem_of_getElem? (i := 9) (by decide +kernel)) rfl
theorem qp_10 : (Cond.selects RX9 yX9_readsJoin yX9_readsJoin : Cond) ∈ lw_gt := lw_gt_of (List.mem_of_getElem? (i := 10) (by decide +kernel)) rfl
theorem qp_11 : (Cond.selects RX9 yX9_readsEnd yX9_readsEnd : Cond) ∈ lw_gt := lw_gt_of (List.mem_of_getElem? (i := 11) (by decide +kernel)) rfl
theorem qp_12 : (Cond.selects RX9 yX9_isStrict yX9_isStrict : Cond) ∈ lw_gt := lw_gt_of (List.mem_of_getElem? (i := 12) (by decide +kernel)) rfl
theorem qp_13 : (Cond.selects RX9 yX9_laysBefore yX9_laysBefore : Cond) ∈ lw_gt := lw_gt_of (List.mem_of_getElem? (i := 13) (by decide +kernel)) rfl
theorem qp_14 : (Cond.selects RX9 yX9_goesTo yX9_goesTo : Cond) ∈ lw_gt := lw_gt_of (List.mem_of_getElem? (i := 14) (by decide +kernel)) rfl
theorem qp_15 : (Cond.selects RX9 yX9_isBefore yX9_isBefore : Cond) ∈ lw_gt := lw_gt_of (List.mem_of_getElem? (i := 15) (by decide +kernel)) rfl
theorem qp_16 : (Cond.selects RX9 yX9_isJoined yX9_isJoined : Cond) ∈ lw_gt := lw_gt_of (List.mem_of_getElem? (i := 16) (by decide +kernel)) rfl
theorem qp_17 : (Cond.selects RX9 yX9_isName yX9_isName : Cond) ∈ lw_gt := lw_gt_of (List.mem_of_getElem? (i := 17) (by decide +kernel)) rfl
theorem qp_18 : (Cond.selects RX9 yX9_finds yX9_finds : Cond) ∈ lw_gt := lw_gt_of (List.mem_of_getElem? (i := 18) (by decide +kernel)) rfl
theorem qp_19 : (Cond.selects RX9 yX9_climbs yX9_climbs : Cond) ∈ lw_gt := lw_gt_of (List.mem_of_getElem? (i := 19) (by decide +kernel)) rfl
theorem qp_20 : (Cond.selects RX9 yX9_climbsOperation yX9_climbsOperation : Cond) ∈ lw_gt := lw_gt_of (List.mem_of_getElem? (i := 20) (by decide +kernel)) rfl
theorem qp_21 : (Cond.selects RX9 yX9_doneBy yX9_doneBy : Cond) ∈ lw_gt := lw_gt_of (List.mem_of_getElem? (i := 21) (by decide +kernel)) rfl
theorem qp_22 : (Cond.selects RX9 yX9_climbsJoin yX9_climbsJoin : Cond) ∈ lw_gt := lw_gt_of (List.mem_of_getElem? (i := 22) (by decide +kernel)) rfl
theorem qp_23 : (Cond.selects RX9 yX9_isWay yX9_isWay : Cond) ∈ lw_gt := lw_gt_of (List.mem_of_getElem? (i := 23) (by decide +kernel)) rfl
theorem qp_24 : (Cond.selects RX9 yX9_isEdge yX9_isEdge : Cond) ∈ lw_gt := lw_gt_of (List.mem_of_getElem? (i := 24) (by decide +kernel)) rfl
theorem qp_25 : (Cond.selects RX9 yX9_tells yX9_tells : Cond) ∈ lw_gt := lw_gt_of (List.mem_of_getElem? (i := 25) (by decide +kernel)) rfl
theorem qp_26 : (Cond.selects RX9 yX9_isBlock yX9_isBlock : Cond) ∈ lw_gt := lw_gt_of (List.mem_of_getElem? (i := 26) (by decide +kernel)) rfl
theorem qp_27 : (Cond.selects RX9 yX9_isMade yX9_isMade : Cond) ∈ lw_gt := lw_gt_of (List.mem_of_getElem? (i := 27) (by decide +kernel)) rfl
theorem qp_28 : (Cond.selects RX9 yX9_notes yX9_notes : Cond) ∈ lw_gt := lw_gt_of (List.mem_of_getElem? (i := 28) (by decide +kernel)) rfl
theorem qp_29 : (Cond.selects RX9 yX9_those yX9_those : Cond) ∈ lw_gt := lw_gt_of (List.mem_of_getElem? (i := 29) (by decide +kernel)) rfl
theorem qp_30 : (Cond.selects RX9 yX9_liveBlocks yX9_liveBlocks : Cond) ∈ lw_gt := lw_gt_of (List.mem_of_getElem? (i := 30) (by decide +kernel)) rfl
theorem qp_31 : (Cond.selects RX9 yX9_runs yX9_runs : Cond) ∈ lw_gt := lw_gt_of (List.mem_of_getElem? (i := 31) (by decide +kernel)) rfl
theorem qp_32 : (Cond.selects RX9 yX9_takes yX9_takes : Cond) ∈ lw_gt := lw_gt_of (List.mem_of_getElem? (i := 32) (by decide +kernel)) rfl
theorem qp_33 : (Cond.selects RX9 yX9_makes yX9_makes : Cond) ∈ lw_gt := lw_gt_of (List.mem_of_getElem? (i := 33) (by decide +kernel)) rfl
theorem qp_34 : (Cond.selects RX9 yX9_edges yX9_edges : Cond) ∈ lw_gt := lw_gt_of (List.mem_of_getElem? (i := 34) (by decide +kernel)) rfl
theorem qp_35 : (Cond.selects RX9 yX9_folds yX9_folds : Cond) ∈ lw_gt := lw_gt_of (List.mem_of_getElem? (i := 35) (by decide +kernel)) rfl
theorem qp_36 : (Cond.selects RX9 yX9_foldedEnds yX9_foldedEnds : Cond) ∈ lw_gt := lw_gt_of (List.mem_of_getElem? (i := 36) (by decide +kernel)) rfl
theorem qp_37 : (Cond.selects RX9 yX9_stays yX9_stays : Cond) ∈ lw_gt := lw_gt_of (List.mem_of_getElem? (i := 37) (by decide +kernel)) rfl
theorem qp_38 : (Cond.selects RX9 yX9_gain yX9_gain : Cond) ∈ lw_gt := lw_gt_of (List.mem_of_getElem? (i := 38) (by decide +kernel)) rfl
set_option maxRecDepth 100000 in
theorem iX0 : ∀ w ∈ u_ws RX0 TX0 4, w ∈ lw_gt := by decide +kernel
set_option maxRecDepth 100000 in
theorem iX1 : ∀ w ∈ u_ws RX1 TX1 5, w ∈ lw_gt := by decide +kernel
set_option maxRecDepth 100000 in
theorem iX2 : ∀ w ∈ u_ws RX2 TX2 5, w ∈ lw_gt := by decide +kernel
set_option maxRecDepth 100000 in
theorem iX4 : ∀ w ∈ u_ws RX4 TX4 17, w ∈ lw_gt := by decide +kernel
set_option maxRecDepth 100000 in
theorem iX6 : ∀ w ∈ u_ws RX6 TX6 7, w ∈ lw_gt := by decide +kernel
set_option maxRecDepth 100000 in
theorem iX7 : ∀ w ∈ u_ws RX7 TX7 5, w ∈ lw_gt := by decide +kernel
set_option maxRecDepth 100000 in
theorem iX8 : ∀ w ∈ u_ws RX8 TX8 12, w ∈ lw_gt := by decide +kernel
set_option maxRecDepth 100000 in
theorem iX9 : ∀ w ∈ u_ws RX9 TX9 49, w ∈ lw_gt := by decide +kernel
abbrev classes : List vw_C := [(RX0, TX0, 4), (RX1, TX1, 5), (RX2, TX2, 5), (RX4, TX4, 17), (RX6, TX6, 7), (RX7, TX7, 5), (RX8, TX8, 12), (RX9, TX9, 49)]
