theorem w_1 : Cond.initialized "LaceBonds" ∈ gw := gt_1 (i := 1) (by decide +kernel) rfl
theorem w_10 : Cond.initialized "LaceBonds$Rings" ∈ gw := gt_1 (i := 10) (by decide +kernel) rfl
theorem w_100 : Cond.fieldLink "LaceBonds$Land" 21 "LaceBonds$Land" "fine" "I" ∈ gw := gt_1 (i := 100) (by decide +kernel) rfl
theorem w_1000 : Cond.code ⟨"LaceBonds", "mud", "(I)I"⟩ prog_1_method_9_code 2 (Option.some ClassFile.FieldType.int) ∈ gw := gt_5 (i := 40) (by decide +kernel) rfl
theorem w_1001 : Cond.methodLink "LaceBonds" 212 ⟨"LaceBonds", "needPlace", "(I)V"⟩ ∈ gw := gt_5 (i := 41) (by decide +kernel) rfl
theorem w_1003 : Cond.instanceMethod ⟨"LaceBonds", "needPlace", "(I)V"⟩ ∈ gw := gt_5 (i := 43) (by decide +kernel) rfl
theorem w_1004 : Cond.code ⟨"LaceBonds", "needPlace", "(I)V"⟩ prog_1_method_52_code 2 (none) ∈ gw := gt_5 (i := 44) (by decide +kernel) rfl
theorem w_1009 : Cond.methodLink "LaceBondsLaw" 35 ⟨"LaceBonds", "walks", "(II)I"⟩ ∈ gw := gt_5 (i := 49) (by decide +kernel) rfl
theorem w_101 : Cond.fieldLink "LaceBonds$LandReader" 57 "LaceBonds$Land" "fine" "I" ∈ gw := gt_1 (i := 101) (by decide +kernel) rfl
theorem w_1010 : Cond.instanceMethod ⟨"LaceBonds", "walks", "(II)I"⟩ ∈ gw := gt_5 (i := 50) (by decide +kernel) rfl
theorem w_1011 : Cond.selects "LaceBonds" ⟨"LaceBonds", "walks", "(II)I"⟩ ⟨"LaceBonds", "walks", "(II)I"⟩ ∈ gw := gt_5 (i := 51) (by decide +kernel) rfl
theorem w_1012 : Cond.code ⟨"LaceBonds", "walks", "(II)I"⟩ prog_1_method_10_code 3 (Option.some ClassFile.FieldType.int) ∈ gw := gt_5 (i := 52) (by decide +kernel) rfl
theorem w_1013 : Cond.methodLink "LaceBonds" 222 ⟨"LaceBonds$Land", "fallOf", "(ILLaceBonds$Law;)I"⟩ ∈ gw := gt_5 (i := 53) (by decide +kernel) rfl
theorem w_1014 : Cond.instanceMethod ⟨"LaceBonds$Land", "fallOf", "(ILLaceBonds$Law;)I"⟩ ∈ gw := gt_5 (i := 54) (by decide +kernel) rfl
theorem w_1015 : Cond.selects "LaceBonds$Land" ⟨"LaceBonds$Land", "fallOf", "(ILLaceBonds$Law;)I"⟩ ⟨"LaceBonds$Land", "fallOf", "(ILLaceBonds$Law;)I"⟩ ∈ gw := gt_5 (i := 55) (by decide +kernel) rfl
theorem w_1016 : Cond.code ⟨"LaceBonds$Land", "fallOf", "(ILLaceBonds$Law;)I"⟩ prog_4_method_9_code 3 (Option.some ClassFile.FieldType.int) ∈ gw := gt_5 (i := 56) (by decide +kernel) rfl
theorem w_1017 : Cond.methodLink "LaceBonds$Land" 96 ⟨"java/lang/Math", "min", "(II)I"⟩ ∈ gw := gt_5 (i := 57) (by decide +kernel) rfl
theorem w_1018 : Cond.static ⟨"java/lang/Math", "min", "(II)I"⟩ ∈ gw := gt_5 (i := 58) (by decide +kernel) rfl
theorem w_1019 : Cond.code ⟨"java/lang/Math", "min", "(II)I"⟩ prog_23_method_69_code 2 (Option.some ClassFile.FieldType.int) ∈ gw := gt_5 (i := 59) (by decide +kernel) rfl
theorem w_102 : Cond.fieldLink "LaceBonds" 420 "LaceBonds$Land" "fine" "I" ∈ gw := gt_1 (i := 102) (by decide +kernel) rfl
theorem w_1024 : Cond.methodLink "LaceBondsLaw" 38 ⟨"LaceBonds", "grows", "(I)I"⟩ ∈ gw := gt_5 (i := 64) (by decide +kernel) rfl
theorem w_1025 : Cond.instanceMethod ⟨"LaceBonds", "grows", "(I)I"⟩ ∈ gw := gt_5 (i := 65) (by decide +kernel) rfl
theorem w_1026 : Cond.selects "LaceBonds" ⟨"LaceBonds", "grows", "(I)I"⟩ ⟨"LaceBonds", "grows", "(I)I"⟩ ∈ gw := gt_5 (i := 66) (by decide +kernel) rfl
theorem w_1027 : Cond.code ⟨"LaceBonds", "grows", "(I)I"⟩ prog_1_method_11_code 2 (Option.some ClassFile.FieldType.int) ∈ gw := gt_5 (i := 67) (by decide +kernel) rfl
theorem w_1028 : Cond.methodLink "LaceBonds" 227 ⟨"LaceBonds$Land", "isPledged", "(I)Z"⟩ ∈ gw := gt_5 (i := 68) (by decide +kernel) rfl
theorem w_1029 : Cond.methodLink "LaceBonds" 231 ⟨"LaceBonds$Land", "growthOf", "(ILLaceBonds$Law;)I"⟩ ∈ gw := gt_5 (i := 69) (by decide +kernel) rfl
theorem w_103 : Cond.fieldLink "LaceBonds$Land" 24 "LaceBonds$Land" "seed" "I" ∈ gw := gt_1 (i := 103) (by decide +kernel) rfl
theorem w_1030 : Cond.instanceMethod ⟨"LaceBonds$Land", "growthOf", "(ILLaceBonds$Law;)I"⟩ ∈ gw := gt_5 (i := 70) (by decide +kernel) rfl
theorem w_1031 : Cond.selects "LaceBonds$Land" ⟨"LaceBonds$Land", "growthOf", "(ILLaceBonds$Law;)I"⟩ ⟨"LaceBonds$Land", "growthOf", "(ILLaceBonds$Law;)I"⟩ ∈ gw := gt_5 (i := 71) (by decide +kernel) rfl
theorem w_1032 : Cond.code ⟨"LaceBonds$Land", "growthOf", "(ILLaceBonds$Law;)I"⟩ prog_4_method_10_code 3 (Option.some ClassFile.FieldType.int) ∈ gw := gt_5 (i := 72) (by decide +kernel) rfl
theorem w_1036 : Cond.classLink "LaceBondsLaw" 45 "java/lang/IllegalStateException" ∈ gw := gt_5 (i := 76) (by decide +kernel) rfl
theorem w_1037 : Cond.methodLink "LaceBondsLaw" 41 ⟨"LaceBonds", "lend", "(IIIII)I"⟩ ∈ gw := gt_5 (i := 77) (by decide +kernel) rfl
theorem w_1038 : Cond.instanceMethod ⟨"LaceBonds", "lend", "(IIIII)I"⟩ ∈ gw := gt_5 (i := 78) (by decide +kernel) rfl
theorem w_1039 : Cond.selects "LaceBonds" ⟨"LaceBonds", "lend", "(IIIII)I"⟩ ⟨"LaceBonds", "lend", "(IIIII)I"⟩ ∈ gw := gt_5 (i := 79) (by decide +kernel) rfl
theorem w_104 : Cond.fieldLink "LaceBonds" 384 "LaceBonds$Land" "seed" "I" ∈ gw := gt_1 (i := 104) (by decide +kernel) rfl
theorem w_1040 : Cond.code ⟨"LaceBonds", "lend", "(IIIII)I"⟩ prog_1_method_12_code 6 (Option.some ClassFile.FieldType.int) ∈ gw := gt_5 (i := 80) (by decide +kernel) rfl
theorem w_1041 : Cond.methodLink "LaceBonds" 234 ⟨"LaceBonds", "ownerOf", "(I)I"⟩ ∈ gw := gt_5 (i := 81) (by decide +kernel) rfl
theorem w_1043 : Cond.classLink "LaceBonds" 243 "java/lang/IllegalStateException" ∈ gw := gt_5 (i := 83) (by decide +kernel) rfl
theorem w_105 : Cond.fieldLink "LaceBonds$Land" 27 "LaceBonds$Land" "falls" "I" ∈ gw := gt_1 (i := 105) (by decide +kernel) rfl
theorem w_1059 : Cond.methodLink "LaceBonds" 248 ⟨"LaceBonds$Acts", "remember", "(LLaceBonds$Land;)V"⟩ ∈ gw := gt_5 (i := 99) (by decide +kernel) rfl
theorem w_106 : Cond.fieldLink "LaceBonds" 426 "LaceBonds$Land" "falls" "I" ∈ gw := gt_1 (i := 106) (by decide +kernel) rfl
theorem w_1060 : Cond.instanceMethod ⟨"LaceBonds$Acts", "remember", "(LLaceBonds$Land;)V"⟩ ∈ gw := gt_5 (i := 100) (by decide +kernel) rfl
theorem w_1061 : Cond.selects "LaceBonds$Acts" ⟨"LaceBonds$Acts", "remember", "(LLaceBonds$Land;)V"⟩ ⟨"LaceBonds$Acts", "remember", "(LLaceBonds$Land;)V"⟩ ∈ gw := gt_5 (i := 101) (by decide +kernel) rfl
theorem w_1062 : Cond.code ⟨"LaceBonds$Acts", "remember", "(LLaceBonds$Land;)V"⟩ prog_2_method_2_code 2 (none) ∈ gw := gt_5 (i := 102) (by decide +kernel) rfl
theorem w_1063 : Cond.methodLink "LaceBonds$Acts" 29 ⟨"java/lang/Math", "min", "(II)I"⟩ ∈ gw := gt_5 (i := 103) (by decide +kernel) rfl
theorem w_1064 : Cond.methodLink "LaceBonds" 251 ⟨"LaceBonds$Land", "earn", "(II)V"⟩ ∈ gw := gt_5 (i := 104) (by decide +kernel) rfl
theorem w_1065 : Cond.instanceMethod ⟨"LaceBonds$Land", "earn", "(II)V"⟩ ∈ gw := gt_5 (i := 105) (by decide +kernel) rfl
theorem w_1066 : Cond.selects "LaceBonds$Land" ⟨"LaceBonds$Land", "earn", "(II)V"⟩ ⟨"LaceBonds$Land", "earn", "(II)V"⟩ ∈ gw := gt_5 (i := 106) (by decide +kernel) rfl
theorem w_1067 : Cond.code ⟨"LaceBonds$Land", "earn", "(II)V"⟩ prog_4_method_6_code 3 (none) ∈ gw := gt_5 (i := 107) (by decide +kernel) rfl
theorem w_1068 : Cond.methodLink "LaceBonds" 255 ⟨"LaceBonds$Land", "pledge", "(IIIIII)V"⟩ ∈ gw := gt_5 (i := 108) (by decide +kernel) rfl
theorem w_1069 : Cond.methodLink "LaceBonds" 266 ⟨"LaceBonds$Book", "add", "(IIII)V"⟩ ∈ gw := gt_5 (i := 109) (by decide +kernel) rfl
theorem w_107 : Cond.fieldLink "LaceBonds$Land" 30 "LaceBonds$Land" "purse" "[I" ∈ gw := gt_1 (i := 107) (by decide +kernel) rfl
theorem w_1070 : Cond.instanceMethod ⟨"LaceBonds$Book", "add", "(IIII)V"⟩ ∈ gw := gt_5 (i := 110) (by decide +kernel) rfl
theorem w_1071 : Cond.selects "LaceBonds$Book" ⟨"LaceBonds$Book", "add", "(IIII)V"⟩ ⟨"LaceBonds$Book", "add", "(IIII)V"⟩ ∈ gw := gt_5 (i := 111) (by decide +kernel) rfl
theorem w_1072 : Cond.code ⟨"LaceBonds$Book", "add", "(IIII)V"⟩ prog_3_method_3_code 5 (none) ∈ gw := gt_5 (i := 112) (by decide +kernel) rfl
theorem w_1073 : Cond.methodLink "LaceBonds$Book" 28 ⟨"java/lang/Math", "min", "(II)I"⟩ ∈ gw := gt_5 (i := 113) (by decide +kernel) rfl
theorem w_1077 : Cond.methodLink "LaceBondsLaw" 47 ⟨"LaceBonds", "pay", "(I)I"⟩ ∈ gw := gt_5 (i := 117) (by decide +kernel) rfl
theorem w_1078 : Cond.instanceMethod ⟨"LaceBonds", "pay", "(I)I"⟩ ∈ gw := gt_5 (i := 118) (by decide +kernel) rfl
theorem w_1079 : Cond.selects "LaceBonds" ⟨"LaceBonds", "pay", "(I)I"⟩ ⟨"LaceBonds", "pay", "(I)I"⟩ ∈ gw := gt_5 (i := 119) (by decide +kernel) rfl
theorem w_108 : Cond.fieldLink "LaceBonds" 152 "LaceBonds$Land" "purse" "[I" ∈ gw := gt_1 (i := 108) (by decide +kernel) rfl
theorem w_1080 : Cond.code ⟨"LaceBonds", "pay", "(I)I"⟩ prog_1_method_13_code 4 (Option.some ClassFile.FieldType.int) ∈ gw := gt_5 (i := 120) (by decide +kernel) rfl
theorem w_1082 : Cond.methodLink "LaceBonds" 273 ⟨"LaceBonds$Land", "payOff", "(II)V"⟩ ∈ gw := gt_5 (i := 122) (by decide +kernel) rfl
theorem w_1083 : Cond.instanceMethod ⟨"LaceBonds$Land", "payOff", "(II)V"⟩ ∈ gw := gt_5 (i := 123) (by decide +kernel) rfl
theorem w_1084 : Cond.selects "LaceBonds$Land" ⟨"LaceBonds$Land", "payOff", "(II)V"⟩ ⟨"LaceBonds$Land", "payOff", "(II)V"⟩ ∈ gw := gt_5 (i := 124) (by decide +kernel) rfl
theorem w_1085 : Cond.code ⟨"LaceBonds$Land", "payOff", "(II)V"⟩ prog_4_method_5_code 3 (none) ∈ gw := gt_5 (i := 125) (by decide +kernel) rfl
theorem w_1086 : Cond.methodLink "LaceBonds$Land" 88 ⟨"LaceBonds$Land", "earn", "(II)V"⟩ ∈ gw := gt_5 (i := 126) (by decide +kernel) rfl
theorem w_1087 : Cond.methodLink "LaceBonds$Land" 92 ⟨"LaceBonds$Book", "add", "(IIII)V"⟩ ∈ gw := gt_5 (i := 127) (by decide +kernel) rfl
theorem w_109 : Cond.fieldLink "LaceBonds$Land" 34 "LaceBonds$Land" "pace" "[I" ∈ gw := gt_1 (i := 109) (by decide +kernel) rfl
theorem w_1091 : Cond.methodLink "LaceBondsLaw" 50 ⟨"LaceBonds", "surety", "(II)I"⟩ ∈ gw := gt_5 (i := 131) (by decide +kernel) rfl
theorem w_1092 : Cond.instanceMethod ⟨"LaceBonds", "surety", "(II)I"⟩ ∈ gw := gt_5 (i := 132) (by decide +kernel) rfl
theorem w_1093 : Cond.selects "LaceBonds" ⟨"LaceBonds", "surety", "(II)I"⟩ ⟨"LaceBonds", "surety", "(II)I"⟩ ∈ gw := gt_5 (i := 133) (by decide +kernel) rfl
theorem w_1094 : Cond.code ⟨"LaceBonds", "surety", "(II)I"⟩ prog_1_method_14_code 4 (Option.some ClassFile.FieldType.int) ∈ gw := gt_5 (i := 134) (by decide +kernel) rfl
theorem w_1096 : Cond.methodLink "LaceBonds" 278 ⟨"LaceBonds", "needPledged", "(I)V"⟩ ∈ gw := gt_5 (i := 136) (by decide +kernel) rfl
theorem w_1098 : Cond.instanceMethod ⟨"LaceBonds", "needPledged", "(I)V"⟩ ∈ gw := gt_5 (i := 138) (by decide +kernel) rfl
theorem w_1099 : Cond.code ⟨"LaceBonds", "needPledged", "(I)V"⟩ prog_1_method_53_code 2 (none) ∈ gw := gt_5 (i := 139) (by decide +kernel) rfl
theorem w_11 : Cond.initialized "LaceBonds$Ways" ∈ gw := gt_1 (i := 11) (by decide +kernel) rfl
theorem w_110 : Cond.fieldLink "LaceBonds" 156 "LaceBonds$Land" "pace" "[I" ∈ gw := gt_1 (i := 110) (by decide +kernel) rfl
theorem w_1104 : Cond.methodLink "LaceBondsLaw" 53 ⟨"LaceBonds", "give", "(II)I"⟩ ∈ gw := gt_5 (i := 144) (by decide +kernel) rfl
theorem w_1105 : Cond.instanceMethod ⟨"LaceBonds", "give", "(II)I"⟩ ∈ gw := gt_5 (i := 145) (by decide +kernel) rfl
theorem w_1106 : Cond.selects "LaceBonds" ⟨"LaceBonds", "give", "(II)I"⟩ ⟨"LaceBonds", "give", "(II)I"⟩ ∈ gw := gt_5 (i := 146) (by decide +kernel) rfl
theorem w_1107 : Cond.code ⟨"LaceBonds", "give", "(II)I"⟩ prog_1_method_15_code 4 (Option.some ClassFile.FieldType.int) ∈ gw := gt_5 (i := 147) (by decide +kernel) rfl
theorem w_111 : Cond.fieldLink "LaceBonds$Land" 37 "LaceBonds$Land" "place" "[I" ∈ gw := gt_1 (i := 111) (by decide +kernel) rfl
theorem w_1113 : Cond.methodLink "LaceBondsLaw" 56 ⟨"LaceBonds", "goal", "(II)I"⟩ ∈ gw := gt_5 (i := 153) (by decide +kernel) rfl
theorem w_1114 : Cond.instanceMethod ⟨"LaceBonds", "goal", "(II)I"⟩ ∈ gw := gt_5 (i := 154) (by decide +kernel) rfl
theorem w_1115 : Cond.selects "LaceBonds" ⟨"LaceBonds", "goal", "(II)I"⟩ ⟨"LaceBonds", "goal", "(II)I"⟩ ∈ gw := gt_5 (i := 155) (by decide +kernel) rfl
theorem w_1116 : Cond.code ⟨"LaceBonds", "goal", "(II)I"⟩ prog_1_method_16_code 4 (Option.some ClassFile.FieldType.int) ∈ gw := gt_5 (i := 156) (by decide +kernel) rfl
theorem w_112 : Cond.fieldLink "LaceBonds" 159 "LaceBonds$Land" "place" "[I" ∈ gw := gt_1 (i := 112) (by decide +kernel) rfl
theorem w_1120 : Cond.methodLink "LaceBondsLaw" 59 ⟨"LaceBonds", "rest", "(I)I"⟩ ∈ gw := gt_5 (i := 160) (by decide +kernel) rfl
theorem w_1121 : Cond.instanceMethod ⟨"LaceBonds", "rest", "(I)I"⟩ ∈ gw := gt_5 (i := 161) (by decide +kernel) rfl
theorem w_1122 : Cond.selects "LaceBonds" ⟨"LaceBonds", "rest", "(I)I"⟩ ⟨"LaceBonds", "rest", "(I)I"⟩ ∈ gw := gt_5 (i := 162) (by decide +kernel) rfl
theorem w_1123 : Cond.code ⟨"LaceBonds", "rest", "(I)I"⟩ prog_1_method_17_code 3 (Option.some ClassFile.FieldType.int) ∈ gw := gt_5 (i := 163) (by decide +kernel) rfl
theorem w_1127 : Cond.methodLink "LaceBondsLaw" 62 ⟨"LaceBonds", "days", "(I)I"⟩ ∈ gw := gt_5 (i := 167) (by decide +kernel) rfl
theorem w_1128 : Cond.instanceMethod ⟨"LaceBonds", "days", "(I)I"⟩ ∈ gw := gt_5 (i := 168) (by decide +kernel) rfl
theorem w_1129 : Cond.selects "LaceBonds" ⟨"LaceBonds", "days", "(I)I"⟩ ⟨"LaceBonds", "days", "(I)I"⟩ ∈ gw := gt_5 (i := 169) (by decide +kernel) rfl
theorem w_113 : Cond.fieldLink "LaceBonds$Law" 72 "LaceBonds$Land" "place" "[I" ∈ gw := gt_1 (i := 113) (by decide +kernel) rfl
theorem w_1130 : Cond.code ⟨"LaceBonds", "days", "(I)I"⟩ prog_1_method_18_code 2 (Option.some ClassFile.FieldType.int) ∈ gw := gt_5 (i := 170) (by decide +kernel) rfl
theorem w_1132 : Cond.methodLink "LaceBonds" 287 ⟨"LaceBonds$Land", "liveOn", "(ILLaceBonds$Law;Z)I"⟩ ∈ gw := gt_5 (i := 172) (by decide +kernel) rfl
theorem w_1133 : Cond.instanceMethod ⟨"LaceBonds$Land", "liveOn", "(ILLaceBonds$Law;Z)I"⟩ ∈ gw := gt_5 (i := 173) (by decide +kernel) rfl
theorem w_1134 : Cond.selects "LaceBonds$Land" ⟨"LaceBonds$Land", "liveOn", "(ILLaceBonds$Law;Z)I"⟩ ⟨"LaceBonds$Land", "liveOn", "(ILLaceBonds$Law;Z)I"⟩ ∈ gw := gt_5 (i := 174) (by decide +kernel) rfl
theorem w_1135 : Cond.code ⟨"LaceBonds$Land", "liveOn", "(ILLaceBonds$Law;Z)I"⟩ prog_4_method_7_code 7 (Option.some ClassFile.FieldType.int) ∈ gw := gt_5 (i := 175) (by decide +kernel) rfl
theorem w_1136 : Cond.methodLink "LaceBonds$Land" 102 ⟨"LaceBonds$Land", "walkAll", "(LLaceBonds$Law;Z)I"⟩ ∈ gw := gt_5 (i := 176) (by decide +kernel) rfl
theorem w_1138 : Cond.instanceMethod ⟨"LaceBonds$Land", "walkAll", "(LLaceBonds$Law;Z)I"⟩ ∈ gw := gt_5 (i := 178) (by decide +kernel) rfl
theorem w_1139 : Cond.code ⟨"LaceBonds$Land", "walkAll", "(LLaceBonds$Law;Z)I"⟩ prog_4_method_25_code 5 (Option.some ClassFile.FieldType.int) ∈ gw := gt_5 (i := 179) (by decide +kernel) rfl
theorem w_114 : Cond.fieldLink "LaceBonds$Land" 40 "LaceBonds$Land" "goal" "[I" ∈ gw := gt_1 (i := 114) (by decide +kernel) rfl
theorem w_1140 : Cond.methodLink "LaceBonds$Land" 175 ⟨"LaceBonds$Land", "draw", "()I"⟩ ∈ gw := gt_5 (i := 180) (by decide +kernel) rfl
theorem w_1142 : Cond.instanceMethod ⟨"LaceBonds$Land", "draw", "()I"⟩ ∈ gw := gt_5 (i := 182) (by decide +kernel) rfl
theorem w_1143 : Cond.code ⟨"LaceBonds$Land", "draw", "()I"⟩ prog_4_method_26_code 1 (Option.some ClassFile.FieldType.int) ∈ gw := gt_5 (i := 183) (by decide +kernel) rfl
theorem w_1144 : Cond.constant "LaceBonds$Land" 191 1103515245 ∈ gw := gt_5 (i := 184) (by decide +kernel) rfl
theorem w_1145 : Cond.methodLink "LaceBonds$Land" 179 ⟨"LaceBonds$Land", "fallOf", "(ILLaceBonds$Law;)I"⟩ ∈ gw := gt_5 (i := 185) (by decide +kernel) rfl
theorem w_1146 : Cond.methodLink "LaceBonds$Land" 182 ⟨"LaceBonds$Land", "fall", "(I)V"⟩ ∈ gw := gt_5 (i := 186) (by decide +kernel) rfl
theorem w_1148 : Cond.instanceMethod ⟨"LaceBonds$Land", "fall", "(I)V"⟩ ∈ gw := gt_5 (i := 188) (by decide +kernel) rfl
theorem w_1149 : Cond.code ⟨"LaceBonds$Land", "fall", "(I)V"⟩ prog_4_method_27_code 2 (none) ∈ gw := gt_5 (i := 189) (by decide +kernel) rfl
theorem w_115 : Cond.fieldLink "LaceBonds$LandReader" 113 "LaceBonds$Land" "goal" "[I" ∈ gw := gt_1 (i := 115) (by decide +kernel) rfl
theorem w_1150 : Cond.methodLink "LaceBonds$Land" 185 ⟨"LaceBonds$Land", "walkOf", "(ILLaceBonds$Law;)I"⟩ ∈ gw := gt_5 (i := 190) (by decide +kernel) rfl
theorem w_1151 : Cond.methodLink "LaceBonds$Land" 188 ⟨"LaceBonds$Land", "walk", "(II)V"⟩ ∈ gw := gt_5 (i := 191) (by decide +kernel) rfl
theorem w_1153 : Cond.instanceMethod ⟨"LaceBonds$Land", "walk", "(II)V"⟩ ∈ gw := gt_5 (i := 193) (by decide +kernel) rfl
theorem w_1154 : Cond.code ⟨"LaceBonds$Land", "walk", "(II)V"⟩ prog_4_method_28_code 3 (none) ∈ gw := gt_5 (i := 194) (by decide +kernel) rfl
theorem w_1155 : Cond.methodLink "LaceBonds$Land" 110 ⟨"LaceBonds$Land", "growthOf", "(ILLaceBonds$Law;)I"⟩ ∈ gw := gt_5 (i := 195) (by decide +kernel) rfl
theorem w_1156 : Cond.methodLink "LaceBonds$Land" 114 ⟨"LaceBonds$Land", "settle", "(I)V"⟩ ∈ gw := gt_5 (i := 196) (by decide +kernel) rfl
theorem w_1158 : Cond.instanceMethod ⟨"LaceBonds$Land", "settle", "(I)V"⟩ ∈ gw := gt_5 (i := 198) (by decide +kernel) rfl
theorem w_1159 : Cond.code ⟨"LaceBonds$Land", "settle", "(I)V"⟩ prog_4_method_29_code 4 (none) ∈ gw := gt_5 (i := 199) (by decide +kernel) rfl
theorem w_116 : Cond.fieldLink "LaceBonds" 162 "LaceBonds$Land" "goal" "[I" ∈ gw := gt_1 (i := 116) (by decide +kernel) rfl
theorem w_1160 : Cond.methodLink "LaceBonds$Land" 192 ⟨"LaceBonds$Land", "payOff", "(II)V"⟩ ∈ gw := gt_5 (i := 200) (by decide +kernel) rfl
theorem w_1164 : Cond.methodLink "LaceBondsLaw" 65 ⟨"LaceBonds", "comes", "(II)I"⟩ ∈ gw := gt_5 (i := 204) (by decide +kernel) rfl
theorem w_1165 : Cond.instanceMethod ⟨"LaceBonds", "comes", "(II)I"⟩ ∈ gw := gt_5 (i := 205) (by decide +kernel) rfl
theorem w_1166 : Cond.selects "LaceBonds" ⟨"LaceBonds", "comes", "(II)I"⟩ ⟨"LaceBonds", "comes", "(II)I"⟩ ∈ gw := gt_5 (i := 206) (by decide +kernel) rfl
theorem w_1167 : Cond.code ⟨"LaceBonds", "comes", "(II)I"⟩ prog_1_method_20_code 3 (Option.some ClassFile.FieldType.int) ∈ gw := gt_5 (i := 207) (by decide +kernel) rfl
theorem w_1168 : Cond.methodLink "LaceBonds" 294 ⟨"LaceBonds", "daysTo", "(II)I"⟩ ∈ gw := gt_5 (i := 208) (by decide +kernel) rfl
theorem w_117 : Cond.fieldLink "LaceBonds$Law" 84 "LaceBonds$Land" "goal" "[I" ∈ gw := gt_1 (i := 117) (by decide +kernel) rfl
theorem w_1170 : Cond.instanceMethod ⟨"LaceBonds", "daysTo", "(II)I"⟩ ∈ gw := gt_5 (i := 210) (by decide +kernel) rfl
theorem w_1171 : Cond.code ⟨"LaceBonds", "daysTo", "(II)I"⟩ prog_1_method_56_code 4 (Option.some ClassFile.FieldType.int) ∈ gw := gt_5 (i := 211) (by decide +kernel) rfl
theorem w_1175 : Cond.methodLink "LaceBondsLaw" 68 ⟨"LaceBonds", "soonest", "(I)I"⟩ ∈ gw := gt_5 (i := 215) (by decide +kernel) rfl
theorem w_1176 : Cond.instanceMethod ⟨"LaceBonds", "soonest", "(I)I"⟩ ∈ gw := gt_5 (i := 216) (by decide +kernel) rfl
theorem w_1177 : Cond.selects "LaceBonds" ⟨"LaceBonds", "soonest", "(I)I"⟩ ⟨"LaceBonds", "soonest", "(I)I"⟩ ∈ gw := gt_5 (i := 217) (by decide +kernel) rfl
theorem w_1178 : Cond.code ⟨"LaceBonds", "soonest", "(I)I"⟩ prog_1_method_21_code 6 (Option.some ClassFile.FieldType.int) ∈ gw := gt_5 (i := 218) (by decide +kernel) rfl
theorem w_118 : Cond.fieldLink "LaceBonds$Land" 43 "LaceBonds$Land" "tired" "[I" ∈ gw := gt_1 (i := 118) (by decide +kernel) rfl
theorem w_1182 : Cond.methodLink "LaceBondsLaw" 71 ⟨"LaceBonds", "carry", "(I)I"⟩ ∈ gw := gt_5 (i := 222) (by decide +kernel) rfl
theorem w_1183 : Cond.instanceMethod ⟨"LaceBonds", "carry", "(I)I"⟩ ∈ gw := gt_5 (i := 223) (by decide +kernel) rfl
theorem w_1184 : Cond.selects "LaceBonds" ⟨"LaceBonds", "carry", "(I)I"⟩ ⟨"LaceBonds", "carry", "(I)I"⟩ ∈ gw := gt_5 (i := 224) (by decide +kernel) rfl
theorem w_1185 : Cond.code ⟨"LaceBonds", "carry", "(I)I"⟩ prog_1_method_22_code 5 (Option.some ClassFile.FieldType.int) ∈ gw := gt_5 (i := 225) (by decide +kernel) rfl
theorem w_1186 : Cond.methodLink "LaceBonds" 298 ⟨"LaceBonds$Tape", "useUp", "()I"⟩ ∈ gw := gt_5 (i := 226) (by decide +kernel) rfl
theorem w_1187 : Cond.methodLink "LaceBonds" 302 ⟨"LaceBonds", "tellsPlaces", "(I)Z"⟩ ∈ gw := gt_5 (i := 227) (by decide +kernel) rfl
theorem w_1189 : Cond.instanceMethod ⟨"LaceBonds", "tellsPlaces", "(I)Z"⟩ ∈ gw := gt_5 (i := 229) (by decide +kernel) rfl
theorem w_119 : Cond.fieldLink "LaceBonds" 165 "LaceBonds$Land" "tired" "[I" ∈ gw := gt_1 (i := 119) (by decide +kernel) rfl
theorem w_1190 : Cond.code ⟨"LaceBonds", "tellsPlaces", "(I)Z"⟩ prog_1_method_58_code 3 (Option.some ClassFile.FieldType.boolean) ∈ gw := gt_5 (i := 230) (by decide +kernel) rfl
theorem w_1192 : Cond.methodLink "LaceBonds" 310 ⟨"LaceBonds$Ways", "tell", "(III)V"⟩ ∈ gw := gt_5 (i := 232) (by decide +kernel) rfl
theorem w_1193 : Cond.instanceMethod ⟨"LaceBonds$Ways", "tell", "(III)V"⟩ ∈ gw := gt_5 (i := 233) (by decide +kernel) rfl
theorem w_1194 : Cond.selects "LaceBonds$Ways" ⟨"LaceBonds$Ways", "tell", "(III)V"⟩ ⟨"LaceBonds$Ways", "tell", "(III)V"⟩ ∈ gw := gt_5 (i := 234) (by decide +kernel) rfl
theorem w_1195 : Cond.code ⟨"LaceBonds$Ways", "tell", "(III)V"⟩ prog_11_method_2_code 4 (none) ∈ gw := gt_5 (i := 235) (by decide +kernel) rfl
theorem w_1196 : Cond.constant "LaceBonds$Ways" 22 1000000 ∈ gw := gt_5 (i := 236) (by decide +kernel) rfl
theorem w_1197 : Cond.methodLink "LaceBonds" 314 ⟨"LaceBonds$Ways", "weigh", "(I)V"⟩ ∈ gw := gt_5 (i := 237) (by decide +kernel) rfl
theorem w_1198 : Cond.instanceMethod ⟨"LaceBonds$Ways", "weigh", "(I)V"⟩ ∈ gw := gt_5 (i := 238) (by decide +kernel) rfl
theorem w_1199 : Cond.selects "LaceBonds$Ways" ⟨"LaceBonds$Ways", "weigh", "(I)V"⟩ ⟨"LaceBonds$Ways", "weigh", "(I)V"⟩ ∈ gw := gt_5 (i := 239) (by decide +kernel) rfl
theorem w_12 : Cond.initialized "LaceBonds$Wearers" ∈ gw := gt_1 (i := 12) (by decide +kernel) rfl
theorem w_120 : Cond.fieldLink "LaceBonds$Law" 78 "LaceBonds$Land" "tired" "[I" ∈ gw := gt_1 (i := 120) (by decide +kernel) rfl
theorem w_1200 : Cond.code ⟨"LaceBonds$Ways", "weigh", "(I)V"⟩ prog_11_method_3_code 5 (none) ∈ gw := gt_6 (i := 0) (by decide +kernel) rfl
theorem w_1202 : Cond.methodLink "LaceBonds$Ways" 27 ⟨"LaceBonds$Ways", "with", "(II)I"⟩ ∈ gw := gt_6 (i := 2) (by decide +kernel) rfl
theorem w_1204 : Cond.instanceMethod ⟨"LaceBonds$Ways", "with", "(II)I"⟩ ∈ gw := gt_6 (i := 4) (by decide +kernel) rfl
theorem w_1205 : Cond.code ⟨"LaceBonds$Ways", "with", "(II)I"⟩ prog_11_method_7_code 4 (Option.some ClassFile.FieldType.int) ∈ gw := gt_6 (i := 5) (by decide +kernel) rfl
theorem w_1206 : Cond.methodLink "LaceBonds$Ways" 40 ⟨"java/lang/Integer", "bitCount", "(I)I"⟩ ∈ gw := gt_6 (i := 6) (by decide +kernel) rfl
theorem w_1207 : Cond.methodLink "LaceBonds$Ways" 31 ⟨"java/lang/Math", "min", "(II)I"⟩ ∈ gw := gt_6 (i := 7) (by decide +kernel) rfl
theorem w_1208 : Cond.methodLink "LaceBonds" 317 ⟨"LaceBonds$Ways", "leastOfAll", "()I"⟩ ∈ gw := gt_6 (i := 8) (by decide +kernel) rfl
theorem w_1209 : Cond.instanceMethod ⟨"LaceBonds$Ways", "leastOfAll", "()I"⟩ ∈ gw := gt_6 (i := 9) (by decide +kernel) rfl
theorem w_121 : Cond.fieldLink "LaceBonds$Land" 46 "LaceBonds$Land" "how" "[I" ∈ gw := gt_1 (i := 121) (by decide +kernel) rfl
theorem w_1210 : Cond.selects "LaceBonds$Ways" ⟨"LaceBonds$Ways", "leastOfAll", "()I"⟩ ⟨"LaceBonds$Ways", "leastOfAll", "()I"⟩ ∈ gw := gt_6 (i := 10) (by decide +kernel) rfl
theorem w_1211 : Cond.code ⟨"LaceBonds$Ways", "leastOfAll", "()I"⟩ prog_11_method_4_code 1 (Option.some ClassFile.FieldType.int) ∈ gw := gt_6 (i := 11) (by decide +kernel) rfl
theorem w_1212 : Cond.methodLink "LaceBonds" 320 ⟨"LaceBonds$Ways", "partOf", "(I)I"⟩ ∈ gw := gt_6 (i := 12) (by decide +kernel) rfl
theorem w_1213 : Cond.instanceMethod ⟨"LaceBonds$Ways", "partOf", "(I)I"⟩ ∈ gw := gt_6 (i := 13) (by decide +kernel) rfl
theorem w_1214 : Cond.selects "LaceBonds$Ways" ⟨"LaceBonds$Ways", "partOf", "(I)I"⟩ ⟨"LaceBonds$Ways", "partOf", "(I)I"⟩ ∈ gw := gt_6 (i := 14) (by decide +kernel) rfl
theorem w_1215 : Cond.code ⟨"LaceBonds$Ways", "partOf", "(I)I"⟩ prog_11_method_5_code 5 (Option.some ClassFile.FieldType.int) ∈ gw := gt_6 (i := 15) (by decide +kernel) rfl
theorem w_1216 : Cond.methodLink "LaceBonds$Ways" 36 ⟨"LaceBonds$Ways", "firstBest", "(I)I"⟩ ∈ gw := gt_6 (i := 16) (by decide +kernel) rfl
theorem w_1218 : Cond.instanceMethod ⟨"LaceBonds$Ways", "firstBest", "(I)I"⟩ ∈ gw := gt_6 (i := 18) (by decide +kernel) rfl
theorem w_1219 : Cond.code ⟨"LaceBonds$Ways", "firstBest", "(I)I"⟩ prog_11_method_6_code 3 (Option.some ClassFile.FieldType.int) ∈ gw := gt_6 (i := 19) (by decide +kernel) rfl
theorem w_122 : Cond.fieldLink "LaceBonds$LandReader" 115 "LaceBonds$Land" "how" "[I" ∈ gw := gt_1 (i := 122) (by decide +kernel) rfl
theorem w_1223 : Cond.methodLink "LaceBondsLaw" 74 ⟨"LaceBonds", "ahead", "(IIZ)I"⟩ ∈ gw := gt_6 (i := 23) (by decide +kernel) rfl
theorem w_1224 : Cond.instanceMethod ⟨"LaceBonds", "ahead", "(IIZ)I"⟩ ∈ gw := gt_6 (i := 24) (by decide +kernel) rfl
theorem w_1225 : Cond.selects "LaceBonds" ⟨"LaceBonds", "ahead", "(IIZ)I"⟩ ⟨"LaceBonds", "ahead", "(IIZ)I"⟩ ∈ gw := gt_6 (i := 25) (by decide +kernel) rfl
theorem w_1226 : Cond.code ⟨"LaceBonds", "ahead", "(IIZ)I"⟩ prog_1_method_23_code 4 (Option.some ClassFile.FieldType.int) ∈ gw := gt_6 (i := 26) (by decide +kernel) rfl
theorem w_1227 : Cond.methodLink "LaceBonds" 323 ⟨"LaceBonds", "needAhead", "(I)V"⟩ ∈ gw := gt_6 (i := 27) (by decide +kernel) rfl
theorem w_1229 : Cond.instanceMethod ⟨"LaceBonds", "needAhead", "(I)V"⟩ ∈ gw := gt_6 (i := 29) (by decide +kernel) rfl
theorem w_123 : Cond.fieldLink "LaceBonds" 192 "LaceBonds$Land" "how" "[I" ∈ gw := gt_1 (i := 123) (by decide +kernel) rfl
theorem w_1230 : Cond.code ⟨"LaceBonds", "needAhead", "(I)V"⟩ prog_1_method_54_code 2 (none) ∈ gw := gt_6 (i := 30) (by decide +kernel) rfl
theorem w_1235 : Cond.methodLink "LaceBondsLaw" 78 ⟨"LaceBonds", "owes", "(II)Z"⟩ ∈ gw := gt_6 (i := 35) (by decide +kernel) rfl
theorem w_1236 : Cond.instanceMethod ⟨"LaceBonds", "owes", "(II)Z"⟩ ∈ gw := gt_6 (i := 36) (by decide +kernel) rfl
theorem w_1237 : Cond.selects "LaceBonds" ⟨"LaceBonds", "owes", "(II)Z"⟩ ⟨"LaceBonds", "owes", "(II)Z"⟩ ∈ gw := gt_6 (i := 37) (by decide +kernel) rfl
theorem w_1238 : Cond.code ⟨"LaceBonds", "owes", "(II)Z"⟩ prog_1_method_26_code 3 (Option.some ClassFile.FieldType.boolean) ∈ gw := gt_6 (i := 38) (by decide +kernel) rfl
theorem w_124 : Cond.fieldLink "LaceBonds$Land" 49 "LaceBonds$Land" "holder" "[I" ∈ gw := gt_1 (i := 124) (by decide +kernel) rfl
theorem w_1240 : Cond.methodLink "LaceBonds" 342 ⟨"LaceBonds$Land", "creditorsOf", "(I)I"⟩ ∈ gw := gt_6 (i := 40) (by decide +kernel) rfl
theorem w_1241 : Cond.instanceMethod ⟨"LaceBonds$Land", "creditorsOf", "(I)I"⟩ ∈ gw := gt_6 (i := 41) (by decide +kernel) rfl
theorem w_1242 : Cond.selects "LaceBonds$Land" ⟨"LaceBonds$Land", "creditorsOf", "(I)I"⟩ ⟨"LaceBonds$Land", "creditorsOf", "(I)I"⟩ ∈ gw := gt_6 (i := 42) (by decide +kernel) rfl
theorem w_1243 : Cond.code ⟨"LaceBonds$Land", "creditorsOf", "(I)I"⟩ prog_4_method_22_code 5 (Option.some ClassFile.FieldType.int) ∈ gw := gt_6 (i := 43) (by decide +kernel) rfl
theorem w_1244 : Cond.methodLink "LaceBonds$Land" 162 ⟨"LaceBonds$Land", "directCreditorsOf", "(I)I"⟩ ∈ gw := gt_6 (i := 44) (by decide +kernel) rfl
theorem w_1246 : Cond.instanceMethod ⟨"LaceBonds$Land", "directCreditorsOf", "(I)I"⟩ ∈ gw := gt_6 (i := 46) (by decide +kernel) rfl
theorem w_1247 : Cond.code ⟨"LaceBonds$Land", "directCreditorsOf", "(I)I"⟩ prog_4_method_31_code 2 (Option.some ClassFile.FieldType.int) ∈ gw := gt_6 (i := 47) (by decide +kernel) rfl
theorem w_1248 : Cond.methodLink "LaceBonds$Land" 195 ⟨"LaceBonds$Land", "creditorOf", "(I)I"⟩ ∈ gw := gt_6 (i := 48) (by decide +kernel) rfl
theorem w_125 : Cond.fieldLink "LaceBonds$Rings" 47 "LaceBonds$Land" "holder" "[I" ∈ gw := gt_1 (i := 125) (by decide +kernel) rfl
theorem w_1250 : Cond.instanceMethod ⟨"LaceBonds$Land", "creditorOf", "(I)I"⟩ ∈ gw := gt_6 (i := 50) (by decide +kernel) rfl
theorem w_1251 : Cond.code ⟨"LaceBonds$Land", "creditorOf", "(I)I"⟩ prog_4_method_32_code 2 (Option.some ClassFile.FieldType.int) ∈ gw := gt_6 (i := 51) (by decide +kernel) rfl
theorem w_1252 : Cond.methodLink "LaceBonds" 345 ⟨"LaceBonds", "hasBit", "(II)Z"⟩ ∈ gw := gt_6 (i := 52) (by decide +kernel) rfl
theorem w_1256 : Cond.methodLink "LaceBondsLaw" 82 ⟨"LaceBonds", "leads", "(I)I"⟩ ∈ gw := gt_6 (i := 56) (by decide +kernel) rfl
theorem w_1257 : Cond.instanceMethod ⟨"LaceBonds", "leads", "(I)I"⟩ ∈ gw := gt_6 (i := 57) (by decide +kernel) rfl
theorem w_1258 : Cond.selects "LaceBonds" ⟨"LaceBonds", "leads", "(I)I"⟩ ⟨"LaceBonds", "leads", "(I)I"⟩ ∈ gw := gt_6 (i := 58) (by decide +kernel) rfl
theorem w_1259 : Cond.code ⟨"LaceBonds", "leads", "(I)I"⟩ prog_1_method_27_code 2 (Option.some ClassFile.FieldType.int) ∈ gw := gt_6 (i := 59) (by decide +kernel) rfl
theorem w_126 : Cond.fieldLink "LaceBonds" 195 "LaceBonds$Land" "holder" "[I" ∈ gw := gt_1 (i := 126) (by decide +kernel) rfl
theorem w_1263 : Cond.methodLink "LaceBondsLaw" 85 ⟨"LaceBonds", "call", "(IZ)I"⟩ ∈ gw := gt_6 (i := 63) (by decide +kernel) rfl
theorem w_1264 : Cond.instanceMethod ⟨"LaceBonds", "call", "(IZ)I"⟩ ∈ gw := gt_6 (i := 64) (by decide +kernel) rfl
theorem w_1265 : Cond.selects "LaceBonds" ⟨"LaceBonds", "call", "(IZ)I"⟩ ⟨"LaceBonds", "call", "(IZ)I"⟩ ∈ gw := gt_6 (i := 65) (by decide +kernel) rfl
theorem w_1266 : Cond.code ⟨"LaceBonds", "call", "(IZ)I"⟩ prog_1_method_28_code 5 (Option.some ClassFile.FieldType.int) ∈ gw := gt_6 (i := 66) (by decide +kernel) rfl
theorem w_1267 : Cond.methodLink "LaceBonds" 349 ⟨"LaceBonds$Land", "callable", "(II)I"⟩ ∈ gw := gt_6 (i := 67) (by decide +kernel) rfl
theorem w_1268 : Cond.instanceMethod ⟨"LaceBonds$Land", "callable", "(II)I"⟩ ∈ gw := gt_6 (i := 68) (by decide +kernel) rfl
theorem w_1269 : Cond.selects "LaceBonds$Land" ⟨"LaceBonds$Land", "callable", "(II)I"⟩ ⟨"LaceBonds$Land", "callable", "(II)I"⟩ ∈ gw := gt_6 (i := 69) (by decide +kernel) rfl
theorem w_127 : Cond.fieldLink "LaceBonds$Land" 52 "LaceBonds$Land" "amount" "[I" ∈ gw := gt_1 (i := 127) (by decide +kernel) rfl
theorem w_1270 : Cond.code ⟨"LaceBonds$Land", "callable", "(II)I"⟩ prog_4_method_23_code 6 (Option.some ClassFile.FieldType.int) ∈ gw := gt_6 (i := 70) (by decide +kernel) rfl
theorem w_1271 : Cond.methodLink "LaceBonds$Land" 165 ⟨"LaceBonds$Land", "laceFor", "(II)I"⟩ ∈ gw := gt_6 (i := 71) (by decide +kernel) rfl
theorem w_1273 : Cond.instanceMethod ⟨"LaceBonds$Land", "laceFor", "(II)I"⟩ ∈ gw := gt_6 (i := 73) (by decide +kernel) rfl
theorem w_1274 : Cond.code ⟨"LaceBonds$Land", "laceFor", "(II)I"⟩ prog_4_method_33_code 3 (Option.some ClassFile.FieldType.int) ∈ gw := gt_6 (i := 74) (by decide +kernel) rfl
theorem w_1275 : Cond.methodLink "LaceBonds$Land" 168 ⟨"LaceBonds$Land", "betterCall", "(III)I"⟩ ∈ gw := gt_6 (i := 75) (by decide +kernel) rfl
theorem w_1277 : Cond.instanceMethod ⟨"LaceBonds$Land", "betterCall", "(III)I"⟩ ∈ gw := gt_6 (i := 77) (by decide +kernel) rfl
theorem w_1278 : Cond.code ⟨"LaceBonds$Land", "betterCall", "(III)I"⟩ prog_4_method_34_code 5 (Option.some ClassFile.FieldType.int) ∈ gw := gt_6 (i := 78) (by decide +kernel) rfl
theorem w_128 : Cond.fieldLink "LaceBonds$Rings" 39 "LaceBonds$Land" "amount" "[I" ∈ gw := gt_1 (i := 128) (by decide +kernel) rfl
theorem w_1282 : Cond.methodLink "LaceBondsLaw" 89 ⟨"LaceBonds", "breaks", "(I)I"⟩ ∈ gw := gt_6 (i := 82) (by decide +kernel) rfl
theorem w_1283 : Cond.instanceMethod ⟨"LaceBonds", "breaks", "(I)I"⟩ ∈ gw := gt_6 (i := 83) (by decide +kernel) rfl
theorem w_1284 : Cond.selects "LaceBonds" ⟨"LaceBonds", "breaks", "(I)I"⟩ ⟨"LaceBonds", "breaks", "(I)I"⟩ ∈ gw := gt_6 (i := 84) (by decide +kernel) rfl
theorem w_1285 : Cond.code ⟨"LaceBonds", "breaks", "(I)I"⟩ prog_1_method_29_code 2 (Option.some ClassFile.FieldType.int) ∈ gw := gt_6 (i := 85) (by decide +kernel) rfl
theorem w_1289 : Cond.methodLink "LaceBondsLaw" 92 ⟨"LaceBonds", "mercy", "(I)I"⟩ ∈ gw := gt_6 (i := 89) (by decide +kernel) rfl
theorem w_129 : Cond.fieldLink "LaceBonds" 198 "LaceBonds$Land" "amount" "[I" ∈ gw := gt_1 (i := 129) (by decide +kernel) rfl
theorem w_1290 : Cond.instanceMethod ⟨"LaceBonds", "mercy", "(I)I"⟩ ∈ gw := gt_6 (i := 90) (by decide +kernel) rfl
theorem w_1291 : Cond.selects "LaceBonds" ⟨"LaceBonds", "mercy", "(I)I"⟩ ⟨"LaceBonds", "mercy", "(I)I"⟩ ∈ gw := gt_6 (i := 91) (by decide +kernel) rfl
theorem w_1292 : Cond.code ⟨"LaceBonds", "mercy", "(I)I"⟩ prog_1_method_30_code 3 (Option.some ClassFile.FieldType.int) ∈ gw := gt_6 (i := 92) (by decide +kernel) rfl
theorem w_1293 : Cond.methodLink "LaceBonds" 358 ⟨"LaceBonds", "isSpared", "(II)Z"⟩ ∈ gw := gt_6 (i := 93) (by decide +kernel) rfl
theorem w_1295 : Cond.instanceMethod ⟨"LaceBonds", "isSpared", "(II)Z"⟩ ∈ gw := gt_6 (i := 95) (by decide +kernel) rfl
theorem w_1296 : Cond.code ⟨"LaceBonds", "isSpared", "(II)Z"⟩ prog_1_method_57_code 4 (Option.some ClassFile.FieldType.boolean) ∈ gw := gt_6 (i := 96) (by decide +kernel) rfl
theorem w_1297 : Cond.methodLink "LaceBonds" 387 ⟨"java/lang/Math", "min", "(II)I"⟩ ∈ gw := gt_6 (i := 97) (by decide +kernel) rfl
theorem w_13 : Cond.initialized "LaceBondsModel" ∈ gw := gt_1 (i := 13) (by decide +kernel) rfl
theorem w_130 : Cond.fieldLink "LaceBonds$Land" 55 "LaceBonds$Land" "knot" "[I" ∈ gw := gt_1 (i := 130) (by decide +kernel) rfl
theorem w_1301 : Cond.methodLink "LaceBondsLaw" 95 ⟨"LaceBonds", "hangs", "(I)I"⟩ ∈ gw := gt_6 (i := 101) (by decide +kernel) rfl
theorem w_1302 : Cond.instanceMethod ⟨"LaceBonds", "hangs", "(I)I"⟩ ∈ gw := gt_6 (i := 102) (by decide +kernel) rfl
theorem w_1303 : Cond.selects "LaceBonds" ⟨"LaceBonds", "hangs", "(I)I"⟩ ⟨"LaceBonds", "hangs", "(I)I"⟩ ∈ gw := gt_6 (i := 103) (by decide +kernel) rfl
theorem w_1304 : Cond.code ⟨"LaceBonds", "hangs", "(I)I"⟩ prog_1_method_31_code 2 (Option.some ClassFile.FieldType.int) ∈ gw := gt_6 (i := 104) (by decide +kernel) rfl
theorem w_1308 : Cond.methodLink "LaceBondsLaw" 98 ⟨"LaceBonds", "wear", "(Z)I"⟩ ∈ gw := gt_6 (i := 108) (by decide +kernel) rfl
theorem w_1309 : Cond.instanceMethod ⟨"LaceBonds", "wear", "(Z)I"⟩ ∈ gw := gt_6 (i := 109) (by decide +kernel) rfl
theorem w_131 : Cond.fieldLink "LaceBonds" 201 "LaceBonds$Land" "knot" "[I" ∈ gw := gt_1 (i := 131) (by decide +kernel) rfl
theorem w_1310 : Cond.selects "LaceBonds" ⟨"LaceBonds", "wear", "(Z)I"⟩ ⟨"LaceBonds", "wear", "(Z)I"⟩ ∈ gw := gt_6 (i := 110) (by decide +kernel) rfl
theorem w_1311 : Cond.code ⟨"LaceBonds", "wear", "(Z)I"⟩ prog_1_method_34_code 2 (Option.some ClassFile.FieldType.int) ∈ gw := gt_6 (i := 111) (by decide +kernel) rfl
theorem w_1312 : Cond.methodLink "LaceBonds" 367 ⟨"LaceBonds", "needWearers", "(I)V"⟩ ∈ gw := gt_6 (i := 112) (by decide +kernel) rfl
theorem w_1314 : Cond.instanceMethod ⟨"LaceBonds", "needWearers", "(I)V"⟩ ∈ gw := gt_6 (i := 114) (by decide +kernel) rfl
theorem w_1315 : Cond.code ⟨"LaceBonds", "needWearers", "(I)V"⟩ prog_1_method_55_code 2 (none) ∈ gw := gt_6 (i := 115) (by decide +kernel) rfl
theorem w_1316 : Cond.methodLink "LaceBonds" 443 ⟨"LaceBonds$Wearers", "areTold", "(II)Z"⟩ ∈ gw := gt_6 (i := 116) (by decide +kernel) rfl
theorem w_1317 : Cond.instanceMethod ⟨"LaceBonds$Wearers", "areTold", "(II)Z"⟩ ∈ gw := gt_6 (i := 117) (by decide +kernel) rfl
theorem w_1318 : Cond.selects "LaceBonds$Wearers" ⟨"LaceBonds$Wearers", "areTold", "(II)Z"⟩ ⟨"LaceBonds$Wearers", "areTold", "(II)Z"⟩ ∈ gw := gt_6 (i := 118) (by decide +kernel) rfl
theorem w_1319 : Cond.code ⟨"LaceBonds$Wearers", "areTold", "(II)Z"⟩ prog_12_method_2_code 4 (Option.some ClassFile.FieldType.boolean) ∈ gw := gt_6 (i := 119) (by decide +kernel) rfl
theorem w_132 : Cond.fieldLink "LaceBonds$Land" 58 "LaceBonds$Land" "term" "[I" ∈ gw := gt_1 (i := 132) (by decide +kernel) rfl
theorem w_1321 : Cond.methodLink "LaceBonds" 448 ⟨"LaceBonds$Wearers", "seek", "(II)V"⟩ ∈ gw := gt_6 (i := 121) (by decide +kernel) rfl
theorem w_1322 : Cond.instanceMethod ⟨"LaceBonds$Wearers", "seek", "(II)V"⟩ ∈ gw := gt_6 (i := 122) (by decide +kernel) rfl
theorem w_1323 : Cond.selects "LaceBonds$Wearers" ⟨"LaceBonds$Wearers", "seek", "(II)V"⟩ ⟨"LaceBonds$Wearers", "seek", "(II)V"⟩ ∈ gw := gt_6 (i := 123) (by decide +kernel) rfl
theorem w_1324 : Cond.code ⟨"LaceBonds$Wearers", "seek", "(II)V"⟩ prog_12_method_3_code 4 (none) ∈ gw := gt_6 (i := 124) (by decide +kernel) rfl
theorem w_1325 : Cond.methodLink "LaceBonds$Wearers" 34 ⟨"LaceBonds$Wearers", "fits", "(II)Z"⟩ ∈ gw := gt_6 (i := 125) (by decide +kernel) rfl
theorem w_1327 : Cond.instanceMethod ⟨"LaceBonds$Wearers", "fits", "(II)Z"⟩ ∈ gw := gt_6 (i := 127) (by decide +kernel) rfl
theorem w_1328 : Cond.code ⟨"LaceBonds$Wearers", "fits", "(II)Z"⟩ prog_12_method_5_code 6 (Option.some ClassFile.FieldType.boolean) ∈ gw := gt_6 (i := 128) (by decide +kernel) rfl
theorem w_1329 : Cond.methodLink "LaceBonds$Wearers" 48 ⟨"java/lang/Integer", "bitCount", "(I)I"⟩ ∈ gw := gt_6 (i := 129) (by decide +kernel) rfl
theorem w_133 : Cond.fieldLink "LaceBonds" 204 "LaceBonds$Land" "term" "[I" ∈ gw := gt_1 (i := 133) (by decide +kernel) rfl
theorem w_1330 : Cond.methodLink "LaceBonds$Wearers" 38 ⟨"LaceBonds$Wearers", "take", "(I)V"⟩ ∈ gw := gt_6 (i := 130) (by decide +kernel) rfl
theorem w_1332 : Cond.instanceMethod ⟨"LaceBonds$Wearers", "take", "(I)V"⟩ ∈ gw := gt_6 (i := 132) (by decide +kernel) rfl
theorem w_1333 : Cond.code ⟨"LaceBonds$Wearers", "take", "(I)V"⟩ prog_12_method_6_code 3 (none) ∈ gw := gt_6 (i := 133) (by decide +kernel) rfl
theorem w_1338 : Cond.methodLink "LaceBondsLaw" 102 ⟨"LaceBonds", "look", "()I"⟩ ∈ gw := gt_6 (i := 138) (by decide +kernel) rfl
theorem w_1339 : Cond.instanceMethod ⟨"LaceBonds", "look", "()I"⟩ ∈ gw := gt_6 (i := 139) (by decide +kernel) rfl
theorem w_134 : Cond.fieldLink "LaceBonds$Land" 61 "LaceBonds$Land" "surety" "[I" ∈ gw := gt_1 (i := 134) (by decide +kernel) rfl
theorem w_1340 : Cond.selects "LaceBonds" ⟨"LaceBonds", "look", "()I"⟩ ⟨"LaceBonds", "look", "()I"⟩ ∈ gw := gt_6 (i := 140) (by decide +kernel) rfl
theorem w_1341 : Cond.code ⟨"LaceBonds", "look", "()I"⟩ prog_1_method_35_code 1 (Option.some ClassFile.FieldType.int) ∈ gw := gt_6 (i := 141) (by decide +kernel) rfl
theorem w_1342 : Cond.methodLink "LaceBonds" 376 ⟨"LaceBonds$Wearers", "parting", "()I"⟩ ∈ gw := gt_6 (i := 142) (by decide +kernel) rfl
theorem w_1343 : Cond.instanceMethod ⟨"LaceBonds$Wearers", "parting", "()I"⟩ ∈ gw := gt_6 (i := 143) (by decide +kernel) rfl
theorem w_1344 : Cond.selects "LaceBonds$Wearers" ⟨"LaceBonds$Wearers", "parting", "()I"⟩ ⟨"LaceBonds$Wearers", "parting", "()I"⟩ ∈ gw := gt_6 (i := 144) (by decide +kernel) rfl
theorem w_1345 : Cond.code ⟨"LaceBonds$Wearers", "parting", "()I"⟩ prog_12_method_4_code 5 (Option.some ClassFile.FieldType.int) ∈ gw := gt_6 (i := 145) (by decide +kernel) rfl
theorem w_1346 : Cond.methodLink "LaceBonds$Wearers" 42 ⟨"java/lang/Math", "max", "(II)I"⟩ ∈ gw := gt_6 (i := 146) (by decide +kernel) rfl
theorem w_135 : Cond.fieldLink "LaceBonds" 207 "LaceBonds$Land" "surety" "[I" ∈ gw := gt_1 (i := 135) (by decide +kernel) rfl
theorem w_1350 : Cond.methodLink "LaceBondsLaw" 105 ⟨"LaceBonds", "race", "(I)I"⟩ ∈ gw := gt_6 (i := 150) (by decide +kernel) rfl
theorem w_1351 : Cond.instanceMethod ⟨"LaceBonds", "race", "(I)I"⟩ ∈ gw := gt_6 (i := 151) (by decide +kernel) rfl
theorem w_1352 : Cond.selects "LaceBonds" ⟨"LaceBonds", "race", "(I)I"⟩ ⟨"LaceBonds", "race", "(I)I"⟩ ∈ gw := gt_6 (i := 152) (by decide +kernel) rfl
theorem w_1353 : Cond.code ⟨"LaceBonds", "race", "(I)I"⟩ prog_1_method_36_code 5 (Option.some ClassFile.FieldType.int) ∈ gw := gt_6 (i := 153) (by decide +kernel) rfl
theorem w_1357 : Cond.methodLink "LaceBondsLaw" 108 ⟨"LaceBonds", "lends", "(I)I"⟩ ∈ gw := gt_6 (i := 157) (by decide +kernel) rfl
theorem w_1358 : Cond.instanceMethod ⟨"LaceBonds", "lends", "(I)I"⟩ ∈ gw := gt_6 (i := 158) (by decide +kernel) rfl
theorem w_1359 : Cond.selects "LaceBonds" ⟨"LaceBonds", "lends", "(I)I"⟩ ⟨"LaceBonds", "lends", "(I)I"⟩ ∈ gw := gt_6 (i := 159) (by decide +kernel) rfl
theorem w_136 : Cond.fieldLink "LaceBonds$Land" 64 "LaceBonds$Land" "mud" "[I" ∈ gw := gt_1 (i := 136) (by decide +kernel) rfl
theorem w_1360 : Cond.code ⟨"LaceBonds", "lends", "(I)I"⟩ prog_1_method_38_code 5 (Option.some ClassFile.FieldType.int) ∈ gw := gt_6 (i := 160) (by decide +kernel) rfl
theorem w_1362 : Cond.methodLink "LaceBonds" 381 ⟨"LaceBonds", "lacesOf", "(I)I"⟩ ∈ gw := gt_6 (i := 162) (by decide +kernel) rfl
theorem w_1366 : Cond.methodLink "LaceBondsLaw" 111 ⟨"LaceBonds", "loose", "(I)I"⟩ ∈ gw := gt_6 (i := 166) (by decide +kernel) rfl
theorem w_1367 : Cond.instanceMethod ⟨"LaceBonds", "loose", "(I)I"⟩ ∈ gw := gt_6 (i := 167) (by decide +kernel) rfl
theorem w_1368 : Cond.selects "LaceBonds" ⟨"LaceBonds", "loose", "(I)I"⟩ ⟨"LaceBonds", "loose", "(I)I"⟩ ∈ gw := gt_6 (i := 168) (by decide +kernel) rfl
theorem w_1369 : Cond.code ⟨"LaceBonds", "loose", "(I)I"⟩ prog_1_method_39_code 4 (Option.some ClassFile.FieldType.int) ∈ gw := gt_6 (i := 169) (by decide +kernel) rfl
theorem w_137 : Cond.fieldLink "LaceBonds$LandReader" 110 "LaceBonds$Land" "mud" "[I" ∈ gw := gt_1 (i := 137) (by decide +kernel) rfl
theorem w_1373 : Cond.methodLink "LaceBondsLaw" 114 ⟨"LaceBonds", "trial", "(IZ)I"⟩ ∈ gw := gt_6 (i := 173) (by decide +kernel) rfl
theorem w_1374 : Cond.instanceMethod ⟨"LaceBonds", "trial", "(IZ)I"⟩ ∈ gw := gt_6 (i := 174) (by decide +kernel) rfl
theorem w_1375 : Cond.selects "LaceBonds" ⟨"LaceBonds", "trial", "(IZ)I"⟩ ⟨"LaceBonds", "trial", "(IZ)I"⟩ ∈ gw := gt_6 (i := 175) (by decide +kernel) rfl
theorem w_1376 : Cond.code ⟨"LaceBonds", "trial", "(IZ)I"⟩ prog_1_method_41_code 4 (Option.some ClassFile.FieldType.int) ∈ gw := gt_6 (i := 176) (by decide +kernel) rfl
theorem w_138 : Cond.fieldLink "LaceBonds$Law" 75 "LaceBonds$Land" "mud" "[I" ∈ gw := gt_1 (i := 138) (by decide +kernel) rfl
theorem w_1380 : Cond.methodLink "LaceBondsLaw" 117 ⟨"LaceBonds", "span", "(IZ)I"⟩ ∈ gw := gt_6 (i := 180) (by decide +kernel) rfl
theorem w_1381 : Cond.instanceMethod ⟨"LaceBonds", "span", "(IZ)I"⟩ ∈ gw := gt_6 (i := 181) (by decide +kernel) rfl
theorem w_1382 : Cond.selects "LaceBonds" ⟨"LaceBonds", "span", "(IZ)I"⟩ ⟨"LaceBonds", "span", "(IZ)I"⟩ ∈ gw := gt_6 (i := 182) (by decide +kernel) rfl
theorem w_1383 : Cond.code ⟨"LaceBonds", "span", "(IZ)I"⟩ prog_1_method_42_code 7 (Option.some ClassFile.FieldType.int) ∈ gw := gt_6 (i := 183) (by decide +kernel) rfl
theorem w_1384 : Cond.methodLink "LaceBonds" 392 ⟨"java/lang/Math", "max", "(II)I"⟩ ∈ gw := gt_6 (i := 184) (by decide +kernel) rfl
theorem w_1388 : Cond.methodLink "LaceBondsLaw" 120 ⟨"LaceBonds", "led", "(IZ)I"⟩ ∈ gw := gt_6 (i := 188) (by decide +kernel) rfl
theorem w_1389 : Cond.instanceMethod ⟨"LaceBonds", "led", "(IZ)I"⟩ ∈ gw := gt_6 (i := 189) (by decide +kernel) rfl
theorem w_139 : Cond.fieldLink "LaceBonds" 215 "LaceBonds$Land" "mud" "[I" ∈ gw := gt_1 (i := 139) (by decide +kernel) rfl
theorem w_1390 : Cond.selects "LaceBonds" ⟨"LaceBonds", "led", "(IZ)I"⟩ ⟨"LaceBonds", "led", "(IZ)I"⟩ ∈ gw := gt_6 (i := 190) (by decide +kernel) rfl
theorem w_1391 : Cond.code ⟨"LaceBonds", "led", "(IZ)I"⟩ prog_1_method_43_code 3 (Option.some ClassFile.FieldType.int) ∈ gw := gt_6 (i := 191) (by decide +kernel) rfl
theorem w_1392 : Cond.methodLink "LaceBonds" 395 ⟨"LaceBonds$Book", "latestDayOf", "(I)I"⟩ ∈ gw := gt_6 (i := 192) (by decide +kernel) rfl
theorem w_1393 : Cond.instanceMethod ⟨"LaceBonds$Book", "latestDayOf", "(I)I"⟩ ∈ gw := gt_6 (i := 193) (by decide +kernel) rfl
theorem w_1394 : Cond.selects "LaceBonds$Book" ⟨"LaceBonds$Book", "latestDayOf", "(I)I"⟩ ⟨"LaceBonds$Book", "latestDayOf", "(I)I"⟩ ∈ gw := gt_6 (i := 194) (by decide +kernel) rfl
theorem w_1395 : Cond.code ⟨"LaceBonds$Book", "latestDayOf", "(I)I"⟩ prog_3_method_9_code 3 (Option.some ClassFile.FieldType.int) ∈ gw := gt_6 (i := 195) (by decide +kernel) rfl
theorem w_1396 : Cond.methodLink "LaceBonds$Book" 38 ⟨"LaceBonds$Book", "laceAt", "(I)I"⟩ ∈ gw := gt_6 (i := 196) (by decide +kernel) rfl
theorem w_1397 : Cond.instanceMethod ⟨"LaceBonds$Book", "laceAt", "(I)I"⟩ ∈ gw := gt_6 (i := 197) (by decide +kernel) rfl
theorem w_1398 : Cond.selects "LaceBonds$Book" ⟨"LaceBonds$Book", "laceAt", "(I)I"⟩ ⟨"LaceBonds$Book", "laceAt", "(I)I"⟩ ∈ gw := gt_6 (i := 198) (by decide +kernel) rfl
theorem w_1399 : Cond.code ⟨"LaceBonds$Book", "laceAt", "(I)I"⟩ prog_3_method_5_code 2 (Option.some ClassFile.FieldType.int) ∈ gw := gt_6 (i := 199) (by decide +kernel) rfl
theorem w_14 : Cond.initialized "java/lang/System" ∈ gw := gt_1 (i := 14) (by decide +kernel) rfl
theorem w_140 : Cond.fieldLink "LaceBonds$Land" 70 "LaceBonds$Land" "book" "LLaceBonds$Book;" ∈ gw := gt_1 (i := 140) (by decide +kernel) rfl
theorem w_1400 : Cond.methodLink "LaceBonds$Book" 34 ⟨"LaceBonds$Book", "rowAt", "(I)I"⟩ ∈ gw := gt_6 (i := 200) (by decide +kernel) rfl
theorem w_1402 : Cond.instanceMethod ⟨"LaceBonds$Book", "rowAt", "(I)I"⟩ ∈ gw := gt_6 (i := 202) (by decide +kernel) rfl
theorem w_1403 : Cond.code ⟨"LaceBonds$Book", "rowAt", "(I)I"⟩ prog_3_method_10_code 2 (Option.some ClassFile.FieldType.int) ∈ gw := gt_6 (i := 203) (by decide +kernel) rfl
theorem w_1404 : Cond.methodLink "LaceBonds$Book" 44 ⟨"java/lang/Math", "floorMod", "(II)I"⟩ ∈ gw := gt_6 (i := 204) (by decide +kernel) rfl
theorem w_1405 : Cond.static ⟨"java/lang/Math", "floorMod", "(II)I"⟩ ∈ gw := gt_6 (i := 205) (by decide +kernel) rfl
theorem w_1406 : Cond.code ⟨"java/lang/Math", "floorMod", "(II)I"⟩ prog_23_method_50_code 3 (Option.some ClassFile.FieldType.int) ∈ gw := gt_6 (i := 206) (by decide +kernel) rfl
theorem w_1407 : Cond.methodLink "LaceBonds$Book" 41 ⟨"LaceBonds$Book", "dayAt", "(I)I"⟩ ∈ gw := gt_6 (i := 207) (by decide +kernel) rfl
theorem w_1408 : Cond.instanceMethod ⟨"LaceBonds$Book", "dayAt", "(I)I"⟩ ∈ gw := gt_6 (i := 208) (by decide +kernel) rfl
theorem w_1409 : Cond.selects "LaceBonds$Book" ⟨"LaceBonds$Book", "dayAt", "(I)I"⟩ ⟨"LaceBonds$Book", "dayAt", "(I)I"⟩ ∈ gw := gt_6 (i := 209) (by decide +kernel) rfl
theorem w_141 : Cond.fieldLink "LaceBonds" 259 "LaceBonds$Land" "book" "LLaceBonds$Book;" ∈ gw := gt_1 (i := 141) (by decide +kernel) rfl
theorem w_1410 : Cond.code ⟨"LaceBonds$Book", "dayAt", "(I)I"⟩ prog_3_method_4_code 2 (Option.some ClassFile.FieldType.int) ∈ gw := gt_6 (i := 210) (by decide +kernel) rfl
theorem w_1411 : Cond.methodLink "LaceBonds" 398 ⟨"LaceBonds$Book", "rowsOf", "(I)I"⟩ ∈ gw := gt_6 (i := 211) (by decide +kernel) rfl
theorem w_1412 : Cond.instanceMethod ⟨"LaceBonds$Book", "rowsOf", "(I)I"⟩ ∈ gw := gt_6 (i := 212) (by decide +kernel) rfl
theorem w_1413 : Cond.selects "LaceBonds$Book" ⟨"LaceBonds$Book", "rowsOf", "(I)I"⟩ ⟨"LaceBonds$Book", "rowsOf", "(I)I"⟩ ∈ gw := gt_6 (i := 213) (by decide +kernel) rfl
theorem w_1414 : Cond.code ⟨"LaceBonds$Book", "rowsOf", "(I)I"⟩ prog_3_method_8_code 4 (Option.some ClassFile.FieldType.int) ∈ gw := gt_6 (i := 214) (by decide +kernel) rfl
theorem w_1418 : Cond.methodLink "LaceBondsLaw" 123 ⟨"LaceBonds", "log", "(II)I"⟩ ∈ gw := gt_6 (i := 218) (by decide +kernel) rfl
theorem w_1419 : Cond.instanceMethod ⟨"LaceBonds", "log", "(II)I"⟩ ∈ gw := gt_6 (i := 219) (by decide +kernel) rfl
theorem w_1420 : Cond.selects "LaceBonds" ⟨"LaceBonds", "log", "(II)I"⟩ ⟨"LaceBonds", "log", "(II)I"⟩ ∈ gw := gt_6 (i := 220) (by decide +kernel) rfl
theorem w_1421 : Cond.code ⟨"LaceBonds", "log", "(II)I"⟩ prog_1_method_44_code 3 (Option.some ClassFile.FieldType.int) ∈ gw := gt_6 (i := 221) (by decide +kernel) rfl
theorem w_1423 : Cond.methodLink "LaceBonds" 404 ⟨"LaceBonds$Book", "dayAt", "(I)I"⟩ ∈ gw := gt_6 (i := 223) (by decide +kernel) rfl
theorem w_1424 : Cond.methodLink "LaceBonds" 407 ⟨"LaceBonds$Book", "laceAt", "(I)I"⟩ ∈ gw := gt_6 (i := 224) (by decide +kernel) rfl
theorem w_1425 : Cond.methodLink "LaceBonds" 410 ⟨"LaceBonds$Book", "whatAt", "(I)I"⟩ ∈ gw := gt_6 (i := 225) (by decide +kernel) rfl
theorem w_1426 : Cond.instanceMethod ⟨"LaceBonds$Book", "whatAt", "(I)I"⟩ ∈ gw := gt_6 (i := 226) (by decide +kernel) rfl
theorem w_1427 : Cond.selects "LaceBonds$Book" ⟨"LaceBonds$Book", "whatAt", "(I)I"⟩ ⟨"LaceBonds$Book", "whatAt", "(I)I"⟩ ∈ gw := gt_6 (i := 227) (by decide +kernel) rfl
theorem w_1428 : Cond.code ⟨"LaceBonds$Book", "whatAt", "(I)I"⟩ prog_3_method_6_code 2 (Option.some ClassFile.FieldType.int) ∈ gw := gt_6 (i := 228) (by decide +kernel) rfl
theorem w_1429 : Cond.methodLink "LaceBonds" 413 ⟨"LaceBonds$Book", "amountAt", "(I)I"⟩ ∈ gw := gt_6 (i := 229) (by decide +kernel) rfl
theorem w_1430 : Cond.instanceMethod ⟨"LaceBonds$Book", "amountAt", "(I)I"⟩ ∈ gw := gt_6 (i := 230) (by decide +kernel) rfl
theorem w_1431 : Cond.selects "LaceBonds$Book" ⟨"LaceBonds$Book", "amountAt", "(I)I"⟩ ⟨"LaceBonds$Book", "amountAt", "(I)I"⟩ ∈ gw := gt_6 (i := 231) (by decide +kernel) rfl
theorem w_1432 : Cond.code ⟨"LaceBonds$Book", "amountAt", "(I)I"⟩ prog_3_method_7_code 2 (Option.some ClassFile.FieldType.int) ∈ gw := gt_6 (i := 232) (by decide +kernel) rfl
theorem w_1443 : Cond.methodLink "LaceBondsModel" 48 ⟨"LaceBondsModel", "comesBack", "(I)V"⟩ ∈ gw := gt_7 (i := 3) (by decide +kernel) rfl
theorem w_1445 : Cond.instanceMethod ⟨"LaceBondsModel", "comesBack", "(I)V"⟩ ∈ gw := gt_7 (i := 5) (by decide +kernel) rfl
theorem w_1446 : Cond.code ⟨"LaceBondsModel", "comesBack", "(I)V"⟩ prog_14_method_25_code 2 (none) ∈ gw := gt_7 (i := 6) (by decide +kernel) rfl
theorem w_1447 : Cond.methodLink "LaceBondsModel" 80 ⟨"LaceBondsModel", "tellsLace", "(IIIIII)V"⟩ ∈ gw := gt_7 (i := 7) (by decide +kernel) rfl
theorem w_1449 : Cond.instanceMethod ⟨"LaceBondsModel", "tellsLace", "(IIIIII)V"⟩ ∈ gw := gt_7 (i := 9) (by decide +kernel) rfl
theorem w_1450 : Cond.code ⟨"LaceBondsModel", "tellsLace", "(IIIIII)V"⟩ prog_14_method_24_code 7 (none) ∈ gw := gt_7 (i := 10) (by decide +kernel) rfl
theorem w_1451 : Cond.methodLink "LaceBondsModel" 67 ⟨"LaceBondsModel", "laceAt", "(II)I"⟩ ∈ gw := gt_7 (i := 11) (by decide +kernel) rfl
theorem w_1452 : Cond.static ⟨"LaceBondsModel", "laceAt", "(II)I"⟩ ∈ gw := gt_7 (i := 12) (by decide +kernel) rfl
theorem w_1453 : Cond.code ⟨"LaceBondsModel", "laceAt", "(II)I"⟩ prog_14_method_15_code 2 (Option.some ClassFile.FieldType.int) ∈ gw := gt_7 (i := 13) (by decide +kernel) rfl
theorem w_1454 : Cond.fieldLink "LaceBondsModel" 3 "LaceBondsModel" "thrown" "I" ∈ gw := gt_7 (i := 14) (by decide +kernel) rfl
theorem w_1455 : Cond.fieldLink "LaceBondsModel" 13 "LaceBondsModel" "world" "[I" ∈ gw := gt_7 (i := 15) (by decide +kernel) rfl
theorem w_1456 : Cond.fieldLink "LaceBondsModel" 17 "LaceBondsModel" "image" "[I" ∈ gw := gt_7 (i := 16) (by decide +kernel) rfl
theorem w_1457 : Cond.fieldLink "LaceBondsModel" 20 "LaceBondsModel" "before" "[I" ∈ gw := gt_7 (i := 17) (by decide +kernel) rfl
theorem w_1458 : Cond.fieldLink "LaceBondsModel" 23 "LaceBondsModel" "trial" "[I" ∈ gw := gt_7 (i := 18) (by decide +kernel) rfl
theorem w_1459 : Cond.fieldLink "LaceBondsModel" 26 "LaceBondsModel" "acts" "[I" ∈ gw := gt_7 (i := 19) (by decide +kernel) rfl
theorem w_1460 : Cond.fieldLink "LaceBondsModel" 52 "LaceBondsModel" "hasImage" "Z" ∈ gw := gt_7 (i := 20) (by decide +kernel) rfl
theorem w_1461 : Cond.fieldLink "LaceBondsModel" 56 "LaceBondsModel" "remembered" "I" ∈ gw := gt_7 (i := 21) (by decide +kernel) rfl
theorem w_1462 : Cond.fieldLink "LaceBondsModel" 29 "LaceBondsModel" "tape" "[B" ∈ gw := gt_7 (i := 22) (by decide +kernel) rfl
theorem w_1463 : Cond.fieldLink "LaceBondsModel" 93 "LaceBondsModel" "taped" "I" ∈ gw := gt_7 (i := 23) (by decide +kernel) rfl
theorem w_1464 : Cond.fieldLink "LaceBondsModel" 96 "LaceBondsModel" "point" "I" ∈ gw := gt_7 (i := 24) (by decide +kernel) rfl
theorem w_1465 : Cond.fieldLink "LaceBondsModel" 99 "LaceBondsModel" "end" "I" ∈ gw := gt_7 (i := 25) (by decide +kernel) rfl
theorem w_1466 : Cond.fieldLink "LaceBondsModel" 106 "LaceBondsModel" "begin" "I" ∈ gw := gt_7 (i := 26) (by decide +kernel) rfl
theorem w_1467 : Cond.fieldLink "LaceBondsModel" 214 "LaceBondsModel" "deep" "I" ∈ gw := gt_7 (i := 27) (by decide +kernel) rfl
theorem w_1468 : Cond.fieldLink "LaceBondsModel" 33 "LaceBondsModel" "faultAt" "I" ∈ gw := gt_7 (i := 28) (by decide +kernel) rfl
theorem w_1469 : Cond.fieldLink "LaceBondsModel" 36 "LaceBondsModel" "five" "[I" ∈ gw := gt_7 (i := 29) (by decide +kernel) rfl
theorem w_1470 : Cond.fieldLink "LaceBondsModel" 187 "LaceBondsModel" "steps" "I" ∈ gw := gt_7 (i := 30) (by decide +kernel) rfl
theorem w_1471 : Cond.fieldLink "LaceBondsModel" 39 "LaceBondsModel" "value" "[I" ∈ gw := gt_7 (i := 31) (by decide +kernel) rfl
theorem w_1472 : Cond.fieldLink "LaceBondsModel" 42 "LaceBondsModel" "days" "[I" ∈ gw := gt_7 (i := 32) (by decide +kernel) rfl
theorem w_1473 : Cond.fieldLink "LaceBondsModel" 45 "LaceBondsModel" "least" "[I" ∈ gw := gt_7 (i := 33) (by decide +kernel) rfl
theorem w_15 : Cond.initialized "java/lang/String" ∈ gw := gt_1 (i := 15) (by decide +kernel) rfl
theorem w_1543 : Cond.methodLink "LaceBondsModel" 259 ⟨"LaceBondsModel", "readAll", "(Z)I"⟩ ∈ gw := gt_7 (i := 103) (by decide +kernel) rfl
theorem w_1545 : Cond.instanceMethod ⟨"LaceBondsModel", "readAll", "(Z)I"⟩ ∈ gw := gt_7 (i := 105) (by decide +kernel) rfl
theorem w_1546 : Cond.code ⟨"LaceBondsModel", "readAll", "(Z)I"⟩ prog_14_method_55_code 3 (Option.some ClassFile.FieldType.int) ∈ gw := gt_7 (i := 106) (by decide +kernel) rfl
theorem w_1547 : Cond.methodLink "LaceBondsModel" 252 ⟨"LaceBondsModel", "uses", "()V"⟩ ∈ gw := gt_7 (i := 107) (by decide +kernel) rfl
theorem w_1549 : Cond.instanceMethod ⟨"LaceBondsModel", "uses", "()V"⟩ ∈ gw := gt_7 (i := 109) (by decide +kernel) rfl
theorem w_1550 : Cond.code ⟨"LaceBondsModel", "uses", "()V"⟩ prog_14_method_39_code 1 (none) ∈ gw := gt_7 (i := 110) (by decide +kernel) rfl
theorem w_1551 : Cond.methodLink "LaceBondsModel" 109 ⟨"LaceBondsModel", "blanks", "()V"⟩ ∈ gw := gt_7 (i := 111) (by decide +kernel) rfl
theorem w_1553 : Cond.instanceMethod ⟨"LaceBondsModel", "blanks", "()V"⟩ ∈ gw := gt_7 (i := 113) (by decide +kernel) rfl
theorem w_1554 : Cond.code ⟨"LaceBondsModel", "blanks", "()V"⟩ prog_14_method_31_code 1 (none) ∈ gw := gt_7 (i := 114) (by decide +kernel) rfl
theorem w_1555 : Cond.methodLink "LaceBondsModel" 102 ⟨"LaceBondsModel", "isAt", "(II)Z"⟩ ∈ gw := gt_7 (i := 115) (by decide +kernel) rfl
theorem w_1557 : Cond.instanceMethod ⟨"LaceBondsModel", "isAt", "(II)Z"⟩ ∈ gw := gt_7 (i := 117) (by decide +kernel) rfl
theorem w_1558 : Cond.code ⟨"LaceBondsModel", "isAt", "(II)Z"⟩ prog_14_method_30_code 3 (Option.some ClassFile.FieldType.boolean) ∈ gw := gt_7 (i := 118) (by decide +kernel) rfl
theorem w_1559 : Cond.methodLink "LaceBondsModel" 255 ⟨"LaceBondsModel", "readLine", "(ZI)Z"⟩ ∈ gw := gt_7 (i := 119) (by decide +kernel) rfl
theorem w_1561 : Cond.instanceMethod ⟨"LaceBondsModel", "readLine", "(ZI)Z"⟩ ∈ gw := gt_7 (i := 121) (by decide +kernel) rfl
theorem w_1562 : Cond.code ⟨"LaceBondsModel", "readLine", "(ZI)Z"⟩ prog_14_method_54_code 3 (Option.some ClassFile.FieldType.boolean) ∈ gw := gt_7 (i := 122) (by decide +kernel) rfl
theorem w_1563 : Cond.methodLink "LaceBondsModel" 121 ⟨"LaceBondsModel", "letters", "()V"⟩ ∈ gw := gt_7 (i := 123) (by decide +kernel) rfl
theorem w_1565 : Cond.instanceMethod ⟨"LaceBondsModel", "letters", "()V"⟩ ∈ gw := gt_7 (i := 125) (by decide +kernel) rfl
theorem w_1566 : Cond.code ⟨"LaceBondsModel", "letters", "()V"⟩ prog_14_method_32_code 1 (none) ∈ gw := gt_7 (i := 126) (by decide +kernel) rfl
theorem w_1567 : Cond.methodLink "LaceBondsModel" 246 ⟨"LaceBondsModel", "readLandLine", "()Z"⟩ ∈ gw := gt_7 (i := 127) (by decide +kernel) rfl
theorem w_1569 : Cond.instanceMethod ⟨"LaceBondsModel", "readLandLine", "()Z"⟩ ∈ gw := gt_7 (i := 129) (by decide +kernel) rfl
theorem w_1570 : Cond.code ⟨"LaceBondsModel", "readLandLine", "()Z"⟩ prog_14_method_45_code 1 (Option.some ClassFile.FieldType.boolean) ∈ gw := gt_7 (i := 130) (by decide +kernel) rfl
theorem w_1572 : Cond.methodLink "LaceBondsModel" 124 ⟨"LaceBondsModel", "isWord", "(Ljava/lang/String;)Z"⟩ ∈ gw := gt_7 (i := 132) (by decide +kernel) rfl
theorem w_1574 : Cond.instanceMethod ⟨"LaceBondsModel", "isWord", "(Ljava/lang/String;)Z"⟩ ∈ gw := gt_7 (i := 134) (by decide +kernel) rfl
theorem w_1575 : Cond.code ⟨"LaceBondsModel", "isWord", "(Ljava/lang/String;)Z"⟩ prog_14_method_33_code 4 (Option.some ClassFile.FieldType.boolean) ∈ gw := gt_7 (i := 135) (by decide +kernel) rfl
theorem w_1576 : Cond.methodLink "LaceBondsModel" 112 ⟨"java/lang/String", "length", "()I"⟩ ∈ gw := gt_7 (i := 136) (by decide +kernel) rfl
theorem w_1577 : Cond.methodLink "LaceBondsModel" 117 ⟨"java/lang/String", "charAt", "(I)C"⟩ ∈ gw := gt_7 (i := 137) (by decide +kernel) rfl
theorem w_1578 : Cond.methodLink "LaceBondsModel" 164 ⟨"LaceBondsModel", "readPerson", "()Z"⟩ ∈ gw := gt_7 (i := 138) (by decide +kernel) rfl
theorem w_1580 : Cond.instanceMethod ⟨"LaceBondsModel", "readPerson", "()Z"⟩ ∈ gw := gt_7 (i := 140) (by decide +kernel) rfl
theorem w_1581 : Cond.code ⟨"LaceBondsModel", "readPerson", "()Z"⟩ prog_14_method_40_code 5 (Option.some ClassFile.FieldType.boolean) ∈ gw := gt_7 (i := 141) (by decide +kernel) rfl
theorem w_1582 : Cond.methodLink "LaceBondsModel" 59 ⟨"LaceBondsModel", "people", "()I"⟩ ∈ gw := gt_7 (i := 142) (by decide +kernel) rfl
theorem w_1584 : Cond.instanceMethod ⟨"LaceBondsModel", "people", "()I"⟩ ∈ gw := gt_7 (i := 144) (by decide +kernel) rfl
theorem w_1585 : Cond.code ⟨"LaceBondsModel", "people", "()I"⟩ prog_14_method_10_code 1 (Option.some ClassFile.FieldType.int) ∈ gw := gt_7 (i := 145) (by decide +kernel) rfl
theorem w_1586 : Cond.methodLink "LaceBondsModel" 128 ⟨"LaceBondsModel", "number", "(II)I"⟩ ∈ gw := gt_7 (i := 146) (by decide +kernel) rfl
theorem w_1588 : Cond.instanceMethod ⟨"LaceBondsModel", "number", "(II)I"⟩ ∈ gw := gt_7 (i := 148) (by decide +kernel) rfl
theorem w_1589 : Cond.code ⟨"LaceBondsModel", "number", "(II)I"⟩ prog_14_method_36_code 4 (Option.some ClassFile.FieldType.int) ∈ gw := gt_7 (i := 149) (by decide +kernel) rfl
theorem w_1591 : Cond.methodLink "LaceBondsModel" 133 ⟨"LaceBondsModel", "after", "(Ljava/lang/String;II)I"⟩ ∈ gw := gt_7 (i := 151) (by decide +kernel) rfl
theorem w_1593 : Cond.instanceMethod ⟨"LaceBondsModel", "after", "(Ljava/lang/String;II)I"⟩ ∈ gw := gt_7 (i := 153) (by decide +kernel) rfl
theorem w_1594 : Cond.code ⟨"LaceBondsModel", "after", "(Ljava/lang/String;II)I"⟩ prog_14_method_37_code 4 (Option.some ClassFile.FieldType.int) ∈ gw := gt_7 (i := 154) (by decide +kernel) rfl
theorem w_1596 : Cond.methodLink "LaceBondsModel" 63 ⟨"LaceBondsModel", "at", "(II)I"⟩ ∈ gw := gt_7 (i := 156) (by decide +kernel) rfl
theorem w_1597 : Cond.static ⟨"LaceBondsModel", "at", "(II)I"⟩ ∈ gw := gt_7 (i := 157) (by decide +kernel) rfl
theorem w_1598 : Cond.code ⟨"LaceBondsModel", "at", "(II)I"⟩ prog_14_method_13_code 2 (Option.some ClassFile.FieldType.int) ∈ gw := gt_7 (i := 158) (by decide +kernel) rfl
theorem w_16 : Cond.initialized "java/lang/StringLatin1" ∈ gw := gt_1 (i := 16) (by decide +kernel) rfl
theorem w_1600 : Cond.methodLink "LaceBondsModel" 170 ⟨"LaceBondsModel", "readPledge", "()Z"⟩ ∈ gw := gt_7 (i := 160) (by decide +kernel) rfl
theorem w_1602 : Cond.instanceMethod ⟨"LaceBondsModel", "readPledge", "()Z"⟩ ∈ gw := gt_7 (i := 162) (by decide +kernel) rfl
theorem w_1603 : Cond.code ⟨"LaceBondsModel", "readPledge", "()Z"⟩ prog_14_method_41_code 7 (Option.some ClassFile.FieldType.boolean) ∈ gw := gt_7 (i := 163) (by decide +kernel) rfl
theorem w_1604 : Cond.methodLink "LaceBondsModel" 77 ⟨"LaceBondsModel", "laces", "()I"⟩ ∈ gw := gt_7 (i := 164) (by decide +kernel) rfl
theorem w_1606 : Cond.instanceMethod ⟨"LaceBondsModel", "laces", "()I"⟩ ∈ gw := gt_7 (i := 166) (by decide +kernel) rfl
theorem w_1607 : Cond.code ⟨"LaceBondsModel", "laces", "()I"⟩ prog_14_method_11_code 1 (Option.some ClassFile.FieldType.int) ∈ gw := gt_7 (i := 167) (by decide +kernel) rfl
theorem w_1608 : Cond.methodLink "LaceBondsModel" 138 ⟨"LaceBondsModel", "isIn", "(I)Z"⟩ ∈ gw := gt_7 (i := 168) (by decide +kernel) rfl
theorem w_1610 : Cond.instanceMethod ⟨"LaceBondsModel", "isIn", "(I)Z"⟩ ∈ gw := gt_7 (i := 170) (by decide +kernel) rfl
theorem w_1611 : Cond.code ⟨"LaceBondsModel", "isIn", "(I)Z"⟩ prog_14_method_20_code 2 (Option.some ClassFile.FieldType.boolean) ∈ gw := gt_7 (i := 171) (by decide +kernel) rfl
theorem w_1612 : Cond.methodLink "LaceBondsModel" 70 ⟨"LaceBondsModel", "ofLace", "(II)I"⟩ ∈ gw := gt_7 (i := 172) (by decide +kernel) rfl
theorem w_1614 : Cond.instanceMethod ⟨"LaceBondsModel", "ofLace", "(II)I"⟩ ∈ gw := gt_7 (i := 174) (by decide +kernel) rfl
theorem w_1615 : Cond.code ⟨"LaceBondsModel", "ofLace", "(II)I"⟩ prog_14_method_16_code 3 (Option.some ClassFile.FieldType.int) ∈ gw := gt_7 (i := 175) (by decide +kernel) rfl
theorem w_1617 : Cond.methodLink "LaceBondsModel" 144 ⟨"LaceBondsModel", "ownerOf", "(I)I"⟩ ∈ gw := gt_7 (i := 177) (by decide +kernel) rfl
theorem w_1618 : Cond.static ⟨"LaceBondsModel", "ownerOf", "(I)I"⟩ ∈ gw := gt_7 (i := 178) (by decide +kernel) rfl
theorem w_1619 : Cond.code ⟨"LaceBondsModel", "ownerOf", "(I)I"⟩ prog_14_method_17_code 1 (Option.some ClassFile.FieldType.int) ∈ gw := gt_7 (i := 179) (by decide +kernel) rfl
theorem w_1624 : Cond.methodLink "LaceBondsModel" 156 ⟨"LaceBondsModel", "passes", "(Ljava/lang/String;)Z"⟩ ∈ gw := gt_7 (i := 184) (by decide +kernel) rfl
theorem w_1626 : Cond.instanceMethod ⟨"LaceBondsModel", "passes", "(Ljava/lang/String;)Z"⟩ ∈ gw := gt_7 (i := 186) (by decide +kernel) rfl
theorem w_1627 : Cond.code ⟨"LaceBondsModel", "passes", "(Ljava/lang/String;)Z"⟩ prog_14_method_34_code 2 (Option.some ClassFile.FieldType.boolean) ∈ gw := gt_7 (i := 187) (by decide +kernel) rfl
theorem w_1629 : Cond.methodLink "LaceBondsModel" 175 ⟨"LaceBondsModel", "readMud", "()Z"⟩ ∈ gw := gt_7 (i := 189) (by decide +kernel) rfl
theorem w_1631 : Cond.instanceMethod ⟨"LaceBondsModel", "readMud", "()Z"⟩ ∈ gw := gt_7 (i := 191) (by decide +kernel) rfl
theorem w_1632 : Cond.code ⟨"LaceBondsModel", "readMud", "()Z"⟩ prog_14_method_42_code 2 (Option.some ClassFile.FieldType.boolean) ∈ gw := gt_7 (i := 192) (by decide +kernel) rfl
theorem w_1633 : Cond.methodLink "LaceBondsModel" 159 ⟨"LaceBondsModel", "readNumber", "(II)Z"⟩ ∈ gw := gt_7 (i := 193) (by decide +kernel) rfl
theorem w_1635 : Cond.instanceMethod ⟨"LaceBondsModel", "readNumber", "(II)Z"⟩ ∈ gw := gt_7 (i := 195) (by decide +kernel) rfl
theorem w_1636 : Cond.code ⟨"LaceBondsModel", "readNumber", "(II)Z"⟩ prog_14_method_44_code 4 (Option.some ClassFile.FieldType.boolean) ∈ gw := gt_7 (i := 196) (by decide +kernel) rfl
theorem w_1638 : Cond.methodLink "LaceBondsModel" 180 ⟨"LaceBondsModel", "readGoal", "()Z"⟩ ∈ gw := gt_7 (i := 198) (by decide +kernel) rfl
theorem w_1640 : Cond.instanceMethod ⟨"LaceBondsModel", "readGoal", "()Z"⟩ ∈ gw := gt_7 (i := 200) (by decide +kernel) rfl
theorem w_1641 : Cond.code ⟨"LaceBondsModel", "readGoal", "()Z"⟩ prog_14_method_43_code 2 (Option.some ClassFile.FieldType.boolean) ∈ gw := gt_7 (i := 201) (by decide +kernel) rfl
theorem w_1644 : Cond.methodLink "LaceBondsModel" 249 ⟨"LaceBondsModel", "readLawLine", "(I)Z"⟩ ∈ gw := gt_7 (i := 204) (by decide +kernel) rfl
theorem w_1646 : Cond.instanceMethod ⟨"LaceBondsModel", "readLawLine", "(I)Z"⟩ ∈ gw := gt_7 (i := 206) (by decide +kernel) rfl
theorem w_1647 : Cond.code ⟨"LaceBondsModel", "readLawLine", "(I)Z"⟩ prog_14_method_53_code 3 (Option.some ClassFile.FieldType.boolean) ∈ gw := gt_7 (i := 207) (by decide +kernel) rfl
theorem w_1652 : Cond.methodLink "LaceBondsModel" 217 ⟨"LaceBondsModel", "readCond", "()Z"⟩ ∈ gw := gt_7 (i := 212) (by decide +kernel) rfl
theorem w_1654 : Cond.instanceMethod ⟨"LaceBondsModel", "readCond", "()Z"⟩ ∈ gw := gt_7 (i := 214) (by decide +kernel) rfl
theorem w_1655 : Cond.code ⟨"LaceBondsModel", "readCond", "()Z"⟩ prog_14_method_52_code 1 (Option.some ClassFile.FieldType.boolean) ∈ gw := gt_7 (i := 215) (by decide +kernel) rfl
theorem w_1656 : Cond.methodLink "LaceBondsModel" 233 ⟨"LaceBondsModel", "readAllOf", "()Z"⟩ ∈ gw := gt_7 (i := 216) (by decide +kernel) rfl
theorem w_1658 : Cond.instanceMethod ⟨"LaceBondsModel", "readAllOf", "()Z"⟩ ∈ gw := gt_7 (i := 218) (by decide +kernel) rfl
theorem w_1659 : Cond.code ⟨"LaceBondsModel", "readAllOf", "()Z"⟩ prog_14_method_51_code 1 (Option.some ClassFile.FieldType.boolean) ∈ gw := gt_7 (i := 219) (by decide +kernel) rfl
theorem w_1660 : Cond.methodLink "LaceBondsModel" 222 ⟨"LaceBondsModel", "readAtom", "()Z"⟩ ∈ gw := gt_7 (i := 220) (by decide +kernel) rfl
theorem w_1662 : Cond.instanceMethod ⟨"LaceBondsModel", "readAtom", "()Z"⟩ ∈ gw := gt_7 (i := 222) (by decide +kernel) rfl
theorem w_1663 : Cond.code ⟨"LaceBondsModel", "readAtom", "()Z"⟩ prog_14_method_50_code 2 (Option.some ClassFile.FieldType.boolean) ∈ gw := gt_7 (i := 223) (by decide +kernel) rfl
theorem w_1664 : Cond.methodLink "LaceBondsModel" 207 ⟨"LaceBondsModel", "sign", "(I)Z"⟩ ∈ gw := gt_7 (i := 224) (by decide +kernel) rfl
theorem w_1666 : Cond.instanceMethod ⟨"LaceBondsModel", "sign", "(I)Z"⟩ ∈ gw := gt_7 (i := 226) (by decide +kernel) rfl
theorem w_1667 : Cond.code ⟨"LaceBondsModel", "sign", "(I)Z"⟩ prog_14_method_35_code 2 (Option.some ClassFile.FieldType.boolean) ∈ gw := gt_7 (i := 227) (by decide +kernel) rfl
theorem w_1669 : Cond.methodLink "LaceBondsModel" 190 ⟨"LaceBondsModel", "emits", "(II)V"⟩ ∈ gw := gt_7 (i := 229) (by decide +kernel) rfl
theorem w_1671 : Cond.instanceMethod ⟨"LaceBondsModel", "emits", "(II)V"⟩ ∈ gw := gt_7 (i := 231) (by decide +kernel) rfl
theorem w_1672 : Cond.code ⟨"LaceBondsModel", "emits", "(II)V"⟩ prog_14_method_46_code 3 (none) ∈ gw := gt_7 (i := 232) (by decide +kernel) rfl
theorem w_1673 : Cond.methodLink "LaceBondsModel" 225 ⟨"LaceBondsModel", "readTag", "()Z"⟩ ∈ gw := gt_7 (i := 233) (by decide +kernel) rfl
theorem w_1675 : Cond.instanceMethod ⟨"LaceBondsModel", "readTag", "()Z"⟩ ∈ gw := gt_7 (i := 235) (by decide +kernel) rfl
theorem w_1676 : Cond.code ⟨"LaceBondsModel", "readTag", "()Z"⟩ prog_14_method_49_code 2 (Option.some ClassFile.FieldType.boolean) ∈ gw := gt_7 (i := 236) (by decide +kernel) rfl
theorem w_1679 : Cond.methodLink "LaceBondsModel" 228 ⟨"LaceBondsModel", "readSum", "()Z"⟩ ∈ gw := gt_7 (i := 239) (by decide +kernel) rfl
theorem w_1681 : Cond.instanceMethod ⟨"LaceBondsModel", "readSum", "()Z"⟩ ∈ gw := gt_8 (i := 1) (by decide +kernel) rfl
theorem w_1682 : Cond.code ⟨"LaceBondsModel", "readSum", "()Z"⟩ prog_14_method_48_code 1 (Option.some ClassFile.FieldType.boolean) ∈ gw := gt_8 (i := 2) (by decide +kernel) rfl
theorem w_1683 : Cond.methodLink "LaceBondsModel" 204 ⟨"LaceBondsModel", "readPart", "()Z"⟩ ∈ gw := gt_8 (i := 3) (by decide +kernel) rfl
theorem w_1685 : Cond.instanceMethod ⟨"LaceBondsModel", "readPart", "()Z"⟩ ∈ gw := gt_8 (i := 5) (by decide +kernel) rfl
theorem w_1686 : Cond.code ⟨"LaceBondsModel", "readPart", "()Z"⟩ prog_14_method_47_code 2 (Option.some ClassFile.FieldType.boolean) ∈ gw := gt_8 (i := 6) (by decide +kernel) rfl
theorem w_1694 : Cond.methodLink "LaceBondsModel" 263 ⟨"LaceBondsModel", "throwsIf", "(ZI)Z"⟩ ∈ gw := gt_8 (i := 14) (by decide +kernel) rfl
theorem w_1696 : Cond.instanceMethod ⟨"LaceBondsModel", "throwsIf", "(ZI)Z"⟩ ∈ gw := gt_8 (i := 16) (by decide +kernel) rfl
theorem w_1697 : Cond.code ⟨"LaceBondsModel", "throwsIf", "(ZI)Z"⟩ prog_14_method_2_code 3 (Option.some ClassFile.FieldType.boolean) ∈ gw := gt_8 (i := 17) (by decide +kernel) rfl
theorem w_17 : Cond.initialized "jdk/internal/util/Preconditions" ∈ gw := gt_1 (i := 17) (by decide +kernel) rfl
theorem w_1706 : Cond.methodLink "LaceBondsModel" 305 ⟨"LaceBondsModel", "noPerson", "(I)Z"⟩ ∈ gw := gt_8 (i := 26) (by decide +kernel) rfl
theorem w_1708 : Cond.instanceMethod ⟨"LaceBondsModel", "noPerson", "(I)Z"⟩ ∈ gw := gt_8 (i := 28) (by decide +kernel) rfl
theorem w_1709 : Cond.code ⟨"LaceBondsModel", "noPerson", "(I)Z"⟩ prog_14_method_21_code 2 (Option.some ClassFile.FieldType.boolean) ∈ gw := gt_8 (i := 29) (by decide +kernel) rfl
theorem w_1710 : Cond.methodLink "LaceBondsModel" 73 ⟨"LaceBondsModel", "in", "(III)Z"⟩ ∈ gw := gt_8 (i := 30) (by decide +kernel) rfl
theorem w_1711 : Cond.static ⟨"LaceBondsModel", "in", "(III)Z"⟩ ∈ gw := gt_8 (i := 31) (by decide +kernel) rfl
theorem w_1712 : Cond.code ⟨"LaceBondsModel", "in", "(III)Z"⟩ prog_14_method_3_code 3 (Option.some ClassFile.FieldType.boolean) ∈ gw := gt_8 (i := 32) (by decide +kernel) rfl
theorem w_1713 : Cond.methodLink "LaceBondsModel" 269 ⟨"LaceBondsModel", "heldBy", "(I)I"⟩ ∈ gw := gt_8 (i := 33) (by decide +kernel) rfl
theorem w_1715 : Cond.instanceMethod ⟨"LaceBondsModel", "heldBy", "(I)I"⟩ ∈ gw := gt_8 (i := 35) (by decide +kernel) rfl
theorem w_1716 : Cond.code ⟨"LaceBondsModel", "heldBy", "(I)I"⟩ prog_14_method_59_code 4 (Option.some ClassFile.FieldType.int) ∈ gw := gt_8 (i := 36) (by decide +kernel) rfl
theorem w_1717 : Cond.methodLink "LaceBondsModel" 308 ⟨"LaceBondsModel", "owesOf", "(I)I"⟩ ∈ gw := gt_8 (i := 37) (by decide +kernel) rfl
theorem w_1719 : Cond.instanceMethod ⟨"LaceBondsModel", "owesOf", "(I)I"⟩ ∈ gw := gt_8 (i := 39) (by decide +kernel) rfl
theorem w_1720 : Cond.code ⟨"LaceBondsModel", "owesOf", "(I)I"⟩ prog_14_method_68_code 4 (Option.some ClassFile.FieldType.int) ∈ gw := gt_8 (i := 40) (by decide +kernel) rfl
theorem w_1721 : Cond.methodLink "LaceBondsModel" 296 ⟨"LaceBondsModel", "isPledged", "(I)Z"⟩ ∈ gw := gt_8 (i := 41) (by decide +kernel) rfl
theorem w_1723 : Cond.instanceMethod ⟨"LaceBondsModel", "isPledged", "(I)Z"⟩ ∈ gw := gt_8 (i := 43) (by decide +kernel) rfl
theorem w_1724 : Cond.code ⟨"LaceBondsModel", "isPledged", "(I)Z"⟩ prog_14_method_18_code 2 (Option.some ClassFile.FieldType.boolean) ∈ gw := gt_8 (i := 44) (by decide +kernel) rfl
theorem w_1725 : Cond.methodLink "LaceBondsModel" 311 ⟨"LaceBondsModel", "dueTo", "(I)I"⟩ ∈ gw := gt_8 (i := 45) (by decide +kernel) rfl
theorem w_1727 : Cond.instanceMethod ⟨"LaceBondsModel", "dueTo", "(I)I"⟩ ∈ gw := gt_8 (i := 47) (by decide +kernel) rfl
theorem w_1728 : Cond.code ⟨"LaceBondsModel", "dueTo", "(I)I"⟩ prog_14_method_69_code 4 (Option.some ClassFile.FieldType.int) ∈ gw := gt_8 (i := 48) (by decide +kernel) rfl
theorem w_1729 : Cond.methodLink "LaceBondsModel" 84 ⟨"LaceBondsModel", "of", "(II)I"⟩ ∈ gw := gt_8 (i := 49) (by decide +kernel) rfl
theorem w_1731 : Cond.instanceMethod ⟨"LaceBondsModel", "of", "(II)I"⟩ ∈ gw := gt_8 (i := 51) (by decide +kernel) rfl
theorem w_1732 : Cond.code ⟨"LaceBondsModel", "of", "(II)I"⟩ prog_14_method_14_code 3 (Option.some ClassFile.FieldType.int) ∈ gw := gt_8 (i := 52) (by decide +kernel) rfl
theorem w_1733 : Cond.methodLink "LaceBondsModel" 314 ⟨"LaceBondsModel", "shareOf", "(I)I"⟩ ∈ gw := gt_8 (i := 53) (by decide +kernel) rfl
theorem w_1735 : Cond.instanceMethod ⟨"LaceBondsModel", "shareOf", "(I)I"⟩ ∈ gw := gt_8 (i := 55) (by decide +kernel) rfl
theorem w_1736 : Cond.code ⟨"LaceBondsModel", "shareOf", "(I)I"⟩ prog_14_method_72_code 3 (Option.some ClassFile.FieldType.int) ∈ gw := gt_8 (i := 56) (by decide +kernel) rfl
theorem w_1737 : Cond.methodLink "LaceBondsModel" 302 ⟨"LaceBondsModel", "lostOnes", "()I"⟩ ∈ gw := gt_8 (i := 57) (by decide +kernel) rfl
theorem w_1739 : Cond.instanceMethod ⟨"LaceBondsModel", "lostOnes", "()I"⟩ ∈ gw := gt_8 (i := 59) (by decide +kernel) rfl
theorem w_1740 : Cond.code ⟨"LaceBondsModel", "lostOnes", "()I"⟩ prog_14_method_70_code 3 (Option.some ClassFile.FieldType.int) ∈ gw := gt_8 (i := 60) (by decide +kernel) rfl
theorem w_1741 : Cond.methodLink "LaceBondsModel" 299 ⟨"LaceBondsModel", "isLost", "(I)Z"⟩ ∈ gw := gt_8 (i := 61) (by decide +kernel) rfl
theorem w_1743 : Cond.instanceMethod ⟨"LaceBondsModel", "isLost", "(I)Z"⟩ ∈ gw := gt_8 (i := 63) (by decide +kernel) rfl
theorem w_1744 : Cond.code ⟨"LaceBondsModel", "isLost", "(I)Z"⟩ prog_14_method_19_code 2 (Option.some ClassFile.FieldType.boolean) ∈ gw := gt_8 (i := 64) (by decide +kernel) rfl
theorem w_1745 : Cond.methodLink "LaceBondsModel" 272 ⟨"java/lang/Integer", "bitCount", "(I)I"⟩ ∈ gw := gt_8 (i := 65) (by decide +kernel) rfl
theorem w_1750 : Cond.methodLink "LaceBondsModel" 317 ⟨"LaceBondsModel", "noLace", "(I)Z"⟩ ∈ gw := gt_8 (i := 70) (by decide +kernel) rfl
theorem w_1752 : Cond.instanceMethod ⟨"LaceBondsModel", "noLace", "(I)Z"⟩ ∈ gw := gt_8 (i := 72) (by decide +kernel) rfl
theorem w_1753 : Cond.code ⟨"LaceBondsModel", "noLace", "(I)Z"⟩ prog_14_method_22_code 2 (Option.some ClassFile.FieldType.boolean) ∈ gw := gt_8 (i := 73) (by decide +kernel) rfl
theorem w_1758 : Cond.methodLink "LaceBondsModel" 320 ⟨"LaceBondsModel", "noPlace", "(I)Z"⟩ ∈ gw := gt_8 (i := 78) (by decide +kernel) rfl
theorem w_1759 : Cond.static ⟨"LaceBondsModel", "noPlace", "(I)Z"⟩ ∈ gw := gt_8 (i := 79) (by decide +kernel) rfl
theorem w_1760 : Cond.code ⟨"LaceBondsModel", "noPlace", "(I)Z"⟩ prog_14_method_23_code 1 (Option.some ClassFile.FieldType.boolean) ∈ gw := gt_8 (i := 80) (by decide +kernel) rfl
theorem w_1765 : Cond.methodLink "LaceBondsModel" 323 ⟨"LaceBondsModel", "walksBy", "(I)I"⟩ ∈ gw := gt_8 (i := 85) (by decide +kernel) rfl
theorem w_1767 : Cond.instanceMethod ⟨"LaceBondsModel", "walksBy", "(I)I"⟩ ∈ gw := gt_8 (i := 87) (by decide +kernel) rfl
theorem w_1768 : Cond.code ⟨"LaceBondsModel", "walksBy", "(I)I"⟩ prog_14_method_65_code 2 (Option.some ClassFile.FieldType.int) ∈ gw := gt_8 (i := 88) (by decide +kernel) rfl
theorem w_1769 : Cond.methodLink "LaceBondsModel" 287 ⟨"LaceBondsModel", "hasLaw", "()Z"⟩ ∈ gw := gt_8 (i := 89) (by decide +kernel) rfl
theorem w_1771 : Cond.instanceMethod ⟨"LaceBondsModel", "hasLaw", "()Z"⟩ ∈ gw := gt_8 (i := 91) (by decide +kernel) rfl
theorem w_1772 : Cond.code ⟨"LaceBondsModel", "hasLaw", "()Z"⟩ prog_14_method_63_code 1 (Option.some ClassFile.FieldType.boolean) ∈ gw := gt_8 (i := 92) (by decide +kernel) rfl
theorem w_1773 : Cond.methodLink "LaceBondsModel" 290 ⟨"LaceBondsModel", "sumOf", "(II)I"⟩ ∈ gw := gt_8 (i := 93) (by decide +kernel) rfl
theorem w_1775 : Cond.instanceMethod ⟨"LaceBondsModel", "sumOf", "(II)I"⟩ ∈ gw := gt_8 (i := 95) (by decide +kernel) rfl
theorem w_1776 : Cond.code ⟨"LaceBondsModel", "sumOf", "(II)I"⟩ prog_14_method_64_code 5 (Option.some ClassFile.FieldType.int) ∈ gw := gt_8 (i := 96) (by decide +kernel) rfl
theorem w_1777 : Cond.methodLink "LaceBondsModel" 284 ⟨"LaceBondsModel", "holdsLine", "(II)Z"⟩ ∈ gw := gt_8 (i := 97) (by decide +kernel) rfl
theorem w_1779 : Cond.instanceMethod ⟨"LaceBondsModel", "holdsLine", "(II)Z"⟩ ∈ gw := gt_8 (i := 99) (by decide +kernel) rfl
theorem w_1780 : Cond.code ⟨"LaceBondsModel", "holdsLine", "(II)Z"⟩ prog_14_method_62_code 10 (Option.some ClassFile.FieldType.boolean) ∈ gw := gt_8 (i := 100) (by decide +kernel) rfl
theorem w_1781 : Cond.methodLink "LaceBondsModel" 280 ⟨"LaceBondsModel", "factOf", "(III)I"⟩ ∈ gw := gt_8 (i := 101) (by decide +kernel) rfl
theorem w_1783 : Cond.instanceMethod ⟨"LaceBondsModel", "factOf", "(III)I"⟩ ∈ gw := gt_8 (i := 103) (by decide +kernel) rfl
theorem w_1784 : Cond.code ⟨"LaceBondsModel", "factOf", "(III)I"⟩ prog_14_method_61_code 4 (Option.some ClassFile.FieldType.int) ∈ gw := gt_8 (i := 104) (by decide +kernel) rfl
theorem w_1785 : Cond.methodLink "LaceBondsModel" 266 ⟨"LaceBondsModel", "slackOf", "(I)I"⟩ ∈ gw := gt_8 (i := 105) (by decide +kernel) rfl
theorem w_1787 : Cond.instanceMethod ⟨"LaceBondsModel", "slackOf", "(I)I"⟩ ∈ gw := gt_8 (i := 107) (by decide +kernel) rfl
theorem w_1788 : Cond.code ⟨"LaceBondsModel", "slackOf", "(I)I"⟩ prog_14_method_58_code 2 (Option.some ClassFile.FieldType.int) ∈ gw := gt_8 (i := 108) (by decide +kernel) rfl
theorem w_1789 : Cond.methodLink "LaceBondsModel" 277 ⟨"LaceBondsModel", "isThere", "(I)Z"⟩ ∈ gw := gt_8 (i := 109) (by decide +kernel) rfl
theorem w_1791 : Cond.instanceMethod ⟨"LaceBondsModel", "isThere", "(I)Z"⟩ ∈ gw := gt_8 (i := 111) (by decide +kernel) rfl
theorem w_1792 : Cond.code ⟨"LaceBondsModel", "isThere", "(I)Z"⟩ prog_14_method_60_code 2 (Option.some ClassFile.FieldType.boolean) ∈ gw := gt_8 (i := 112) (by decide +kernel) rfl
theorem w_1793 : Cond.methodLink "LaceBondsModel" 293 ⟨"java/lang/Math", "max", "(II)I"⟩ ∈ gw := gt_8 (i := 113) (by decide +kernel) rfl
theorem w_1794 : Cond.methodLink "LaceBondsModel" 326 ⟨"LaceBondsModel", "fallsBy", "(I)I"⟩ ∈ gw := gt_8 (i := 114) (by decide +kernel) rfl
theorem w_1796 : Cond.instanceMethod ⟨"LaceBondsModel", "fallsBy", "(I)I"⟩ ∈ gw := gt_8 (i := 116) (by decide +kernel) rfl
theorem w_1797 : Cond.code ⟨"LaceBondsModel", "fallsBy", "(I)I"⟩ prog_14_method_66_code 2 (Option.some ClassFile.FieldType.int) ∈ gw := gt_8 (i := 117) (by decide +kernel) rfl
theorem w_1798 : Cond.methodLink "LaceBondsModel" 87 ⟨"java/lang/Math", "min", "(II)I"⟩ ∈ gw := gt_8 (i := 118) (by decide +kernel) rfl
theorem w_1803 : Cond.methodLink "LaceBondsModel" 329 ⟨"LaceBondsModel", "growsBy", "(I)I"⟩ ∈ gw := gt_8 (i := 123) (by decide +kernel) rfl
theorem w_1805 : Cond.instanceMethod ⟨"LaceBondsModel", "growsBy", "(I)I"⟩ ∈ gw := gt_8 (i := 125) (by decide +kernel) rfl
theorem w_1806 : Cond.code ⟨"LaceBondsModel", "growsBy", "(I)I"⟩ prog_14_method_67_code 2 (Option.some ClassFile.FieldType.int) ∈ gw := gt_8 (i := 126) (by decide +kernel) rfl
theorem w_1811 : Cond.methodLink "LaceBondsModel" 339 ⟨"LaceBondsModel", "remembers", "()V"⟩ ∈ gw := gt_8 (i := 131) (by decide +kernel) rfl
theorem w_1813 : Cond.instanceMethod ⟨"LaceBondsModel", "remembers", "()V"⟩ ∈ gw := gt_8 (i := 133) (by decide +kernel) rfl
theorem w_1814 : Cond.code ⟨"LaceBondsModel", "remembers", "()V"⟩ prog_14_method_8_code 2 (none) ∈ gw := gt_8 (i := 134) (by decide +kernel) rfl
theorem w_1815 : Cond.methodLink "LaceBondsModel" 332 ⟨"LaceBondsModel", "gets", "(II)V"⟩ ∈ gw := gt_8 (i := 135) (by decide +kernel) rfl
theorem w_1817 : Cond.instanceMethod ⟨"LaceBondsModel", "gets", "(II)V"⟩ ∈ gw := gt_8 (i := 137) (by decide +kernel) rfl
theorem w_1818 : Cond.code ⟨"LaceBondsModel", "gets", "(II)V"⟩ prog_14_method_26_code 3 (none) ∈ gw := gt_8 (i := 138) (by decide +kernel) rfl
theorem w_1819 : Cond.methodLink "LaceBondsModel" 335 ⟨"LaceBondsModel", "tells", "(III)V"⟩ ∈ gw := gt_8 (i := 139) (by decide +kernel) rfl
theorem w_1821 : Cond.instanceMethod ⟨"LaceBondsModel", "tells", "(III)V"⟩ ∈ gw := gt_8 (i := 141) (by decide +kernel) rfl
theorem w_1822 : Cond.code ⟨"LaceBondsModel", "tells", "(III)V"⟩ prog_14_method_78_code 5 (none) ∈ gw := gt_8 (i := 142) (by decide +kernel) rfl
theorem w_1827 : Cond.methodLink "LaceBondsModel" 342 ⟨"LaceBondsModel", "isPaid", "(II)V"⟩ ∈ gw := gt_8 (i := 147) (by decide +kernel) rfl
theorem w_1829 : Cond.instanceMethod ⟨"LaceBondsModel", "isPaid", "(II)V"⟩ ∈ gw := gt_8 (i := 149) (by decide +kernel) rfl
theorem w_1830 : Cond.code ⟨"LaceBondsModel", "isPaid", "(II)V"⟩ prog_14_method_79_code 4 (none) ∈ gw := gt_8 (i := 150) (by decide +kernel) rfl
theorem w_1851 : Cond.methodLink "LaceBondsModel" 363 ⟨"LaceBondsModel", "oneDay", "(Z)V"⟩ ∈ gw := gt_8 (i := 171) (by decide +kernel) rfl
theorem w_1853 : Cond.instanceMethod ⟨"LaceBondsModel", "oneDay", "(Z)V"⟩ ∈ gw := gt_8 (i := 173) (by decide +kernel) rfl
theorem w_1854 : Cond.code ⟨"LaceBondsModel", "oneDay", "(Z)V"⟩ prog_14_method_90_code 3 (none) ∈ gw := gt_8 (i := 174) (by decide +kernel) rfl
theorem w_1855 : Cond.methodLink "LaceBondsModel" 351 ⟨"LaceBondsModel", "drawn", "(I)I"⟩ ∈ gw := gt_8 (i := 175) (by decide +kernel) rfl
theorem w_1857 : Cond.instanceMethod ⟨"LaceBondsModel", "drawn", "(I)I"⟩ ∈ gw := gt_8 (i := 177) (by decide +kernel) rfl
theorem w_1858 : Cond.code ⟨"LaceBondsModel", "drawn", "(I)I"⟩ prog_14_method_27_code 2 (Option.some ClassFile.FieldType.int) ∈ gw := gt_8 (i := 178) (by decide +kernel) rfl
theorem w_1859 : Cond.constant "LaceBondsModel" 92 1103515245 ∈ gw := gt_8 (i := 179) (by decide +kernel) rfl
theorem w_1860 : Cond.methodLink "LaceBondsModel" 354 ⟨"LaceBondsModel", "falls", "(I)V"⟩ ∈ gw := gt_8 (i := 180) (by decide +kernel) rfl
theorem w_1862 : Cond.instanceMethod ⟨"LaceBondsModel", "falls", "(I)V"⟩ ∈ gw := gt_8 (i := 182) (by decide +kernel) rfl
theorem w_1863 : Cond.code ⟨"LaceBondsModel", "falls", "(I)V"⟩ prog_14_method_87_code 2 (none) ∈ gw := gt_8 (i := 183) (by decide +kernel) rfl
theorem w_1864 : Cond.methodLink "LaceBondsModel" 357 ⟨"LaceBondsModel", "walksOn", "(I)V"⟩ ∈ gw := gt_8 (i := 184) (by decide +kernel) rfl
theorem w_1866 : Cond.instanceMethod ⟨"LaceBondsModel", "walksOn", "(I)V"⟩ ∈ gw := gt_8 (i := 186) (by decide +kernel) rfl
theorem w_1867 : Cond.code ⟨"LaceBondsModel", "walksOn", "(I)V"⟩ prog_14_method_88_code 4 (none) ∈ gw := gt_8 (i := 187) (by decide +kernel) rfl
theorem w_1868 : Cond.methodLink "LaceBondsModel" 345 ⟨"java/lang/Math", "abs", "(I)I"⟩ ∈ gw := gt_8 (i := 188) (by decide +kernel) rfl
theorem w_1869 : Cond.static ⟨"java/lang/Math", "abs", "(I)I"⟩ ∈ gw := gt_8 (i := 189) (by decide +kernel) rfl
theorem w_187 : Cond.fieldLink "LaceBonds$Law" 9 "LaceBonds$Law" "told" "Z" ∈ gw := gt_1 (i := 187) (by decide +kernel) rfl
theorem w_1870 : Cond.code ⟨"java/lang/Math", "abs", "(I)I"⟩ prog_23_method_59_code 1 (Option.some ClassFile.FieldType.int) ∈ gw := gt_8 (i := 190) (by decide +kernel) rfl
theorem w_1871 : Cond.methodLink "LaceBondsModel" 360 ⟨"LaceBondsModel", "isCalled", "(I)V"⟩ ∈ gw := gt_8 (i := 191) (by decide +kernel) rfl
theorem w_1873 : Cond.instanceMethod ⟨"LaceBondsModel", "isCalled", "(I)V"⟩ ∈ gw := gt_8 (i := 193) (by decide +kernel) rfl
theorem w_1874 : Cond.code ⟨"LaceBondsModel", "isCalled", "(I)V"⟩ prog_14_method_89_code 4 (none) ∈ gw := gt_8 (i := 194) (by decide +kernel) rfl
theorem w_1875 : Cond.methodLink "LaceBondsModel" 348 ⟨"LaceBondsModel", "isLostNow", "(I)V"⟩ ∈ gw := gt_8 (i := 195) (by decide +kernel) rfl
theorem w_1877 : Cond.instanceMethod ⟨"LaceBondsModel", "isLostNow", "(I)V"⟩ ∈ gw := gt_8 (i := 197) (by decide +kernel) rfl
theorem w_1878 : Cond.code ⟨"LaceBondsModel", "isLostNow", "(I)V"⟩ prog_14_method_80_code 3 (none) ∈ gw := gt_8 (i := 198) (by decide +kernel) rfl
theorem w_188 : Cond.fieldLink "LaceBonds" 137 "LaceBonds$Law" "told" "Z" ∈ gw := gt_1 (i := 188) (by decide +kernel) rfl
theorem w_1883 : Cond.methodLink "LaceBondsModel" 367 ⟨"LaceBondsModel", "keepsAll", "()V"⟩ ∈ gw := gt_8 (i := 203) (by decide +kernel) rfl
theorem w_1885 : Cond.instanceMethod ⟨"LaceBondsModel", "keepsAll", "()V"⟩ ∈ gw := gt_8 (i := 205) (by decide +kernel) rfl
theorem w_1886 : Cond.code ⟨"LaceBondsModel", "keepsAll", "()V"⟩ prog_14_method_91_code 2 (none) ∈ gw := gt_8 (i := 206) (by decide +kernel) rfl
theorem w_1887 : Cond.methodLink "LaceBondsModel" 370 ⟨"LaceBondsModel", "bringsBack", "()V"⟩ ∈ gw := gt_8 (i := 207) (by decide +kernel) rfl
theorem w_1889 : Cond.instanceMethod ⟨"LaceBondsModel", "bringsBack", "()V"⟩ ∈ gw := gt_8 (i := 209) (by decide +kernel) rfl
theorem w_189 : Cond.fieldLink "LaceBonds$Land" 118 "LaceBonds$Law" "told" "Z" ∈ gw := gt_1 (i := 189) (by decide +kernel) rfl
theorem w_1890 : Cond.code ⟨"LaceBondsModel", "bringsBack", "()V"⟩ prog_14_method_92_code 2 (none) ∈ gw := gt_8 (i := 210) (by decide +kernel) rfl
theorem w_1895 : Cond.methodLink "LaceBondsModel" 374 ⟨"LaceBondsModel", "comesTo", "(II)I"⟩ ∈ gw := gt_8 (i := 215) (by decide +kernel) rfl
theorem w_1897 : Cond.instanceMethod ⟨"LaceBondsModel", "comesTo", "(II)I"⟩ ∈ gw := gt_8 (i := 217) (by decide +kernel) rfl
theorem w_1898 : Cond.code ⟨"LaceBondsModel", "comesTo", "(II)I"⟩ prog_14_method_95_code 5 (Option.some ClassFile.FieldType.int) ∈ gw := gt_8 (i := 218) (by decide +kernel) rfl
theorem w_1899 : Cond.constant "LaceBondsModel" 373 1000000 ∈ gw := gt_8 (i := 219) (by decide +kernel) rfl
theorem w_190 : Cond.fieldLink "LaceBonds$Law" 15 "LaceBonds$Law" "lines" "I" ∈ gw := gt_1 (i := 190) (by decide +kernel) rfl
theorem w_1908 : Cond.methodLink "LaceBondsModel" 386 ⟨"LaceBondsModel", "laysLeast", "()V"⟩ ∈ gw := gt_8 (i := 228) (by decide +kernel) rfl
theorem w_191 : Cond.fieldLink "LaceBonds" 143 "LaceBonds$Law" "lines" "I" ∈ gw := gt_1 (i := 191) (by decide +kernel) rfl
theorem w_1910 : Cond.instanceMethod ⟨"LaceBondsModel", "laysLeast", "()V"⟩ ∈ gw := gt_8 (i := 230) (by decide +kernel) rfl
theorem w_1911 : Cond.code ⟨"LaceBondsModel", "laysLeast", "()V"⟩ prog_14_method_100_code 5 (none) ∈ gw := gt_8 (i := 231) (by decide +kernel) rfl
theorem w_1912 : Cond.methodLink "LaceBondsModel" 380 ⟨"LaceBondsModel", "has", "(II)Z"⟩ ∈ gw := gt_8 (i := 232) (by decide +kernel) rfl
theorem w_1913 : Cond.static ⟨"LaceBondsModel", "has", "(II)Z"⟩ ∈ gw := gt_8 (i := 233) (by decide +kernel) rfl
theorem w_1914 : Cond.code ⟨"LaceBondsModel", "has", "(II)Z"⟩ prog_14_method_4_code 2 (Option.some ClassFile.FieldType.boolean) ∈ gw := gt_8 (i := 234) (by decide +kernel) rfl
theorem w_1915 : Cond.methodLink "LaceBondsModel" 383 ⟨"LaceBondsModel", "leastBy", "(III)I"⟩ ∈ gw := gt_8 (i := 235) (by decide +kernel) rfl
theorem w_1917 : Cond.instanceMethod ⟨"LaceBondsModel", "leastBy", "(III)I"⟩ ∈ gw := gt_8 (i := 237) (by decide +kernel) rfl
theorem w_1918 : Cond.code ⟨"LaceBondsModel", "leastBy", "(III)I"⟩ prog_14_method_99_code 4 (Option.some ClassFile.FieldType.int) ∈ gw := gt_8 (i := 238) (by decide +kernel) rfl
theorem w_1919 : Cond.methodLink "LaceBondsModel" 377 ⟨"LaceBondsModel", "leastOf", "(II)I"⟩ ∈ gw := gt_8 (i := 239) (by decide +kernel) rfl
theorem w_192 : Cond.fieldLink "LaceBonds$Law" 19 "LaceBonds$Law" "size" "I" ∈ gw := gt_1 (i := 192) (by decide +kernel) rfl
theorem w_1921 : Cond.instanceMethod ⟨"LaceBondsModel", "leastOf", "(II)I"⟩ ∈ gw := gt_9 (i := 1) (by decide +kernel) rfl
theorem w_1922 : Cond.code ⟨"LaceBondsModel", "leastOf", "(II)I"⟩ prog_14_method_98_code 3 (Option.some ClassFile.FieldType.int) ∈ gw := gt_9 (i := 2) (by decide +kernel) rfl
theorem w_193 : Cond.fieldLink "LaceBonds$Law" 22 "LaceBonds$Law" "kinds" "[I" ∈ gw := gt_1 (i := 193) (by decide +kernel) rfl
theorem w_1931 : Cond.methodLink "LaceBondsModel" 389 ⟨"LaceBondsModel", "pledgedOnes", "()I"⟩ ∈ gw := gt_9 (i := 11) (by decide +kernel) rfl
theorem w_1933 : Cond.instanceMethod ⟨"LaceBondsModel", "pledgedOnes", "()I"⟩ ∈ gw := gt_9 (i := 13) (by decide +kernel) rfl
theorem w_1934 : Cond.code ⟨"LaceBondsModel", "pledgedOnes", "()I"⟩ prog_14_method_71_code 3 (Option.some ClassFile.FieldType.int) ∈ gw := gt_9 (i := 14) (by decide +kernel) rfl
theorem w_1935 : Cond.methodLink "LaceBondsModel" 392 ⟨"LaceBondsModel", "isRing", "(I)Z"⟩ ∈ gw := gt_9 (i := 15) (by decide +kernel) rfl
theorem w_1937 : Cond.instanceMethod ⟨"LaceBondsModel", "isRing", "(I)Z"⟩ ∈ gw := gt_9 (i := 17) (by decide +kernel) rfl
theorem w_1938 : Cond.code ⟨"LaceBondsModel", "isRing", "(I)Z"⟩ prog_14_method_103_code 6 (Option.some ClassFile.FieldType.boolean) ∈ gw := gt_9 (i := 18) (by decide +kernel) rfl
theorem w_194 : Cond.fieldLink "LaceBonds$Law" 26 "LaceBonds$Law" "numbers" "[I" ∈ gw := gt_1 (i := 194) (by decide +kernel) rfl
theorem w_1947 : Cond.methodLink "LaceBondsModel" 398 ⟨"LaceBondsModel", "leadsFrom", "(I)I"⟩ ∈ gw := gt_9 (i := 27) (by decide +kernel) rfl
theorem w_1949 : Cond.instanceMethod ⟨"LaceBondsModel", "leadsFrom", "(I)I"⟩ ∈ gw := gt_9 (i := 29) (by decide +kernel) rfl
theorem w_195 : Cond.fieldLink "LaceBonds$Law" 29 "LaceBonds$Law" "begins" "[I" ∈ gw := gt_1 (i := 195) (by decide +kernel) rfl
theorem w_1950 : Cond.code ⟨"LaceBondsModel", "leadsFrom", "(I)I"⟩ prog_14_method_107_code 4 (Option.some ClassFile.FieldType.int) ∈ gw := gt_9 (i := 30) (by decide +kernel) rfl
theorem w_1951 : Cond.methodLink "LaceBondsModel" 395 ⟨"LaceBondsModel", "holdersOf", "(I)I"⟩ ∈ gw := gt_9 (i := 31) (by decide +kernel) rfl
theorem w_1953 : Cond.instanceMethod ⟨"LaceBondsModel", "holdersOf", "(I)I"⟩ ∈ gw := gt_9 (i := 33) (by decide +kernel) rfl
theorem w_1954 : Cond.code ⟨"LaceBondsModel", "holdersOf", "(I)I"⟩ prog_14_method_106_code 4 (Option.some ClassFile.FieldType.int) ∈ gw := gt_9 (i := 34) (by decide +kernel) rfl
theorem w_196 : Cond.fieldLink "LaceBonds$Law" 32 "LaceBonds$Law" "ends" "[I" ∈ gw := gt_1 (i := 196) (by decide +kernel) rfl
theorem w_1963 : Cond.methodLink "LaceBondsModel" 401 ⟨"LaceBondsModel", "amountOf", "(I)I"⟩ ∈ gw := gt_9 (i := 43) (by decide +kernel) rfl
theorem w_1965 : Cond.instanceMethod ⟨"LaceBondsModel", "amountOf", "(I)I"⟩ ∈ gw := gt_9 (i := 45) (by decide +kernel) rfl
theorem w_1966 : Cond.code ⟨"LaceBondsModel", "amountOf", "(I)I"⟩ prog_14_method_110_code 4 (Option.some ClassFile.FieldType.int) ∈ gw := gt_9 (i := 46) (by decide +kernel) rfl
theorem w_1967 : Cond.methodLink "LaceBondsModel" 404 ⟨"LaceBondsModel", "canBePaid", "(I)Z"⟩ ∈ gw := gt_9 (i := 47) (by decide +kernel) rfl
theorem w_1969 : Cond.instanceMethod ⟨"LaceBondsModel", "canBePaid", "(I)Z"⟩ ∈ gw := gt_9 (i := 49) (by decide +kernel) rfl
theorem w_197 : Cond.fieldLink "LaceBonds$Law" 35 "LaceBonds$Law" "steps" "[I" ∈ gw := gt_1 (i := 197) (by decide +kernel) rfl
theorem w_1970 : Cond.code ⟨"LaceBondsModel", "canBePaid", "(I)Z"⟩ prog_14_method_111_code 4 (Option.some ClassFile.FieldType.boolean) ∈ gw := gt_9 (i := 50) (by decide +kernel) rfl
theorem w_1979 : Cond.methodLink "LaceBondsModel" 407 ⟨"LaceBondsModel", "isLostBy", "(II)Z"⟩ ∈ gw := gt_9 (i := 59) (by decide +kernel) rfl
theorem w_198 : Cond.fieldLink "LaceBonds$Law" 38 "LaceBonds$Law" "facts" "[I" ∈ gw := gt_1 (i := 198) (by decide +kernel) rfl
theorem w_1981 : Cond.instanceMethod ⟨"LaceBondsModel", "isLostBy", "(II)Z"⟩ ∈ gw := gt_9 (i := 61) (by decide +kernel) rfl
theorem w_1982 : Cond.code ⟨"LaceBondsModel", "isLostBy", "(II)Z"⟩ prog_14_method_114_code 4 (Option.some ClassFile.FieldType.boolean) ∈ gw := gt_9 (i := 62) (by decide +kernel) rfl
theorem w_1987 : Cond.methodLink "LaceBondsModel" 410 ⟨"LaceBondsModel", "hangsOn", "(I)I"⟩ ∈ gw := gt_9 (i := 67) (by decide +kernel) rfl
theorem w_1989 : Cond.instanceMethod ⟨"LaceBondsModel", "hangsOn", "(I)I"⟩ ∈ gw := gt_9 (i := 69) (by decide +kernel) rfl
theorem w_199 : Cond.fieldLink "LaceBonds$Law" 41 "LaceBonds$Law" "stack" "[I" ∈ gw := gt_1 (i := 199) (by decide +kernel) rfl
theorem w_1990 : Cond.code ⟨"LaceBondsModel", "hangsOn", "(I)I"⟩ prog_14_method_116_code 4 (Option.some ClassFile.FieldType.int) ∈ gw := gt_9 (i := 70) (by decide +kernel) rfl
theorem w_1999 : Cond.methodLink "LaceBondsModel" 413 ⟨"LaceBondsModel", "everybody", "()I"⟩ ∈ gw := gt_9 (i := 79) (by decide +kernel) rfl
theorem w_2 : Cond.initialized "LaceBonds$Tape" ∈ gw := gt_1 (i := 2) (by decide +kernel) rfl
theorem w_2001 : Cond.instanceMethod ⟨"LaceBondsModel", "everybody", "()I"⟩ ∈ gw := gt_9 (i := 81) (by decide +kernel) rfl
theorem w_2002 : Cond.code ⟨"LaceBondsModel", "everybody", "()I"⟩ prog_14_method_12_code 1 (Option.some ClassFile.FieldType.int) ∈ gw := gt_9 (i := 82) (by decide +kernel) rfl
theorem w_2003 : Cond.methodLink "LaceBondsModel" 416 ⟨"LaceBondsModel", "isNeeded", "(I)Z"⟩ ∈ gw := gt_9 (i := 83) (by decide +kernel) rfl
theorem w_2005 : Cond.instanceMethod ⟨"LaceBondsModel", "isNeeded", "(I)Z"⟩ ∈ gw := gt_9 (i := 85) (by decide +kernel) rfl
theorem w_2006 : Cond.code ⟨"LaceBondsModel", "isNeeded", "(I)Z"⟩ prog_14_method_119_code 4 (Option.some ClassFile.FieldType.boolean) ∈ gw := gt_9 (i := 86) (by decide +kernel) rfl
theorem w_2011 : Cond.methodLink "LaceBondsModel" 419 ⟨"LaceBondsModel", "isTold", "()Z"⟩ ∈ gw := gt_9 (i := 91) (by decide +kernel) rfl
theorem w_2013 : Cond.instanceMethod ⟨"LaceBondsModel", "isTold", "()Z"⟩ ∈ gw := gt_9 (i := 93) (by decide +kernel) rfl
theorem w_2014 : Cond.code ⟨"LaceBondsModel", "isTold", "()Z"⟩ prog_14_method_121_code 3 (Option.some ClassFile.FieldType.boolean) ∈ gw := gt_9 (i := 94) (by decide +kernel) rfl
theorem w_2015 : Cond.methodLink "LaceBondsModel" 422 ⟨"LaceBondsModel", "fits", "(I)Z"⟩ ∈ gw := gt_9 (i := 95) (by decide +kernel) rfl
theorem w_2017 : Cond.instanceMethod ⟨"LaceBondsModel", "fits", "(I)Z"⟩ ∈ gw := gt_9 (i := 97) (by decide +kernel) rfl
theorem w_2018 : Cond.code ⟨"LaceBondsModel", "fits", "(I)Z"⟩ prog_14_method_122_code 5 (Option.some ClassFile.FieldType.boolean) ∈ gw := gt_9 (i := 98) (by decide +kernel) rfl
theorem w_2027 : Cond.methodLink "LaceBondsModel" 425 ⟨"LaceBondsModel", "asFastAs", "(I)I"⟩ ∈ gw := gt_9 (i := 107) (by decide +kernel) rfl
theorem w_2029 : Cond.instanceMethod ⟨"LaceBondsModel", "asFastAs", "(I)I"⟩ ∈ gw := gt_9 (i := 109) (by decide +kernel) rfl
theorem w_2030 : Cond.code ⟨"LaceBondsModel", "asFastAs", "(I)I"⟩ prog_14_method_125_code 4 (Option.some ClassFile.FieldType.int) ∈ gw := gt_9 (i := 110) (by decide +kernel) rfl
theorem w_2059 : Cond.methodLink "LaceBondsModel" 428 ⟨"LaceBondsModel", "ofLog", "(II)I"⟩ ∈ gw := gt_9 (i := 139) (by decide +kernel) rfl
theorem w_2061 : Cond.instanceMethod ⟨"LaceBondsModel", "ofLog", "(II)I"⟩ ∈ gw := gt_9 (i := 141) (by decide +kernel) rfl
theorem w_2062 : Cond.code ⟨"LaceBondsModel", "ofLog", "(II)I"⟩ prog_14_method_133_code 3 (Option.some ClassFile.FieldType.int) ∈ gw := gt_9 (i := 142) (by decide +kernel) rfl
theorem w_2075 : Cond.methodLink "LaceBondsModel" 431 ⟨"LaceBondsModel", "pursesOfAll", "()I"⟩ ∈ gw := gt_9 (i := 155) (by decide +kernel) rfl
theorem w_2077 : Cond.instanceMethod ⟨"LaceBondsModel", "pursesOfAll", "()I"⟩ ∈ gw := gt_9 (i := 157) (by decide +kernel) rfl
theorem w_2078 : Cond.code ⟨"LaceBondsModel", "pursesOfAll", "()I"⟩ prog_14_method_137_code 3 (Option.some ClassFile.FieldType.int) ∈ gw := gt_9 (i := 158) (by decide +kernel) rfl
theorem w_2100 : Cond.fieldLink "java/lang/String" 9 "java/lang/String" "value" "[B" ∈ gw := gt_9 (i := 180) (by decide +kernel) rfl
theorem w_2101 : Cond.fieldLink "java/lang/String" 15 "java/lang/String" "coder" "B" ∈ gw := gt_9 (i := 181) (by decide +kernel) rfl
theorem w_22 : Cond.initialized "java/lang/IllegalArgumentException" ∈ gw := gt_1 (i := 22) (by decide +kernel) rfl
theorem w_23 : Cond.initialized "java/lang/UnsupportedOperationException" ∈ gw := gt_1 (i := 23) (by decide +kernel) rfl
theorem w_230 : Cond.fieldLink "LaceBonds$LandReader" 9 "LaceBonds$LandReader" "land" "LLaceBonds$Land;" ∈ gw := gt_1 (i := 230) (by decide +kernel) rfl
theorem w_231 : Cond.fieldLink "LaceBonds$Reader" 7 "LaceBonds$Reader" "text" "LLaceBonds$Tape;" ∈ gw := gt_1 (i := 231) (by decide +kernel) rfl
theorem w_232 : Cond.fieldLink "LaceBonds$LandReader" 15 "LaceBonds$LandReader" "text" "LLaceBonds$Tape;" ∈ gw := gt_1 (i := 232) (by decide +kernel) rfl
theorem w_233 : Cond.sameField "LaceBonds$LandReader" "LaceBonds$Reader" "text" "LLaceBonds$Tape;" ∈ gw := gt_1 (i := 233) (by decide +kernel) rfl
theorem w_234 : Cond.fieldLink "LaceBonds$LawReader" 19 "LaceBonds$LawReader" "text" "LLaceBonds$Tape;" ∈ gw := gt_1 (i := 234) (by decide +kernel) rfl
theorem w_235 : Cond.sameField "LaceBonds$LawReader" "LaceBonds$Reader" "text" "LLaceBonds$Tape;" ∈ gw := gt_1 (i := 235) (by decide +kernel) rfl
theorem w_236 : Cond.fieldLink "LaceBonds$Reader" 13 "LaceBonds$Reader" "mostLines" "I" ∈ gw := gt_1 (i := 236) (by decide +kernel) rfl
theorem w_24 : Cond.initialized "java/lang/IndexOutOfBoundsException" ∈ gw := gt_1 (i := 24) (by decide +kernel) rfl
theorem w_25 : Cond.initialized "java/lang/Integer" ∈ gw := gt_1 (i := 25) (by decide +kernel) rfl
theorem w_250 : Cond.fieldLink "LaceBonds$LawReader" 9 "LaceBonds$LawReader" "law" "LLaceBonds$Law;" ∈ gw := gt_2 (i := 10) (by decide +kernel) rfl
theorem w_26 : Cond.initialized "java/util/NoSuchElementException" ∈ gw := gt_1 (i := 26) (by decide +kernel) rfl
theorem w_265 : Cond.fieldLink "LaceBonds$Acts" 11 "LaceBonds$Acts" "before" "[LLaceBonds$Land;" ∈ gw := gt_2 (i := 25) (by decide +kernel) rfl
theorem w_266 : Cond.fieldLink "LaceBonds$Acts" 17 "LaceBonds$Acts" "next" "I" ∈ gw := gt_2 (i := 26) (by decide +kernel) rfl
theorem w_267 : Cond.fieldLink "LaceBonds$Acts" 21 "LaceBonds$Acts" "count" "I" ∈ gw := gt_2 (i := 27) (by decide +kernel) rfl
theorem w_268 : Cond.fieldLink "LaceBonds" 429 "LaceBonds$Acts" "count" "I" ∈ gw := gt_2 (i := 28) (by decide +kernel) rfl
theorem w_27 : Cond.initialized "java/lang/Math" ∈ gw := gt_1 (i := 27) (by decide +kernel) rfl
theorem w_28 : Cond.initialized "java/lang/IllegalStateException" ∈ gw := gt_1 (i := 28) (by decide +kernel) rfl
theorem w_282 : Cond.fieldLink "LaceBonds$Rings" 9 "LaceBonds$Rings" "laces" "[I" ∈ gw := gt_2 (i := 42) (by decide +kernel) rfl
theorem w_283 : Cond.fieldLink "LaceBonds$Rings" 15 "LaceBonds$Rings" "balance" "[I" ∈ gw := gt_2 (i := 43) (by decide +kernel) rfl
theorem w_284 : Cond.fieldLink "LaceBonds$Rings" 18 "LaceBonds$Rings" "found" "I" ∈ gw := gt_2 (i := 44) (by decide +kernel) rfl
theorem w_285 : Cond.fieldLink "LaceBonds" 329 "LaceBonds$Rings" "found" "I" ∈ gw := gt_2 (i := 45) (by decide +kernel) rfl
theorem w_286 : Cond.fieldLink "LaceBonds$Rings" 22 "LaceBonds$Rings" "best" "I" ∈ gw := gt_2 (i := 46) (by decide +kernel) rfl
theorem w_287 : Cond.fieldLink "LaceBonds" 332 "LaceBonds$Rings" "best" "I" ∈ gw := gt_2 (i := 47) (by decide +kernel) rfl
theorem w_3 : Cond.initialized "LaceBonds$Land" ∈ gw := gt_1 (i := 3) (by decide +kernel) rfl
theorem w_303 : Cond.fieldLink "LaceBonds$Ways" 9 "LaceBonds$Ways" "needs" "[I" ∈ gw := gt_2 (i := 63) (by decide +kernel) rfl
theorem w_304 : Cond.fieldLink "LaceBonds$Ways" 15 "LaceBonds$Ways" "least" "[I" ∈ gw := gt_2 (i := 64) (by decide +kernel) rfl
theorem w_305 : Cond.fieldLink "LaceBonds$Ways" 18 "LaceBonds$Ways" "people" "I" ∈ gw := gt_2 (i := 65) (by decide +kernel) rfl
theorem w_319 : Cond.fieldLink "LaceBonds$Wearers" 25 "LaceBonds$Wearers" "tape" "LLaceBonds$Tape;" ∈ gw := gt_2 (i := 79) (by decide +kernel) rfl
theorem w_320 : Cond.fieldLink "LaceBonds$Wearers" 9 "LaceBonds$Wearers" "setsWith" "[I" ∈ gw := gt_2 (i := 80) (by decide +kernel) rfl
theorem w_321 : Cond.fieldLink "LaceBonds$Wearers" 15 "LaceBonds$Wearers" "people" "I" ∈ gw := gt_2 (i := 81) (by decide +kernel) rfl
theorem w_322 : Cond.fieldLink "LaceBonds$Wearers" 19 "LaceBonds$Wearers" "count" "I" ∈ gw := gt_2 (i := 82) (by decide +kernel) rfl
theorem w_323 : Cond.fieldLink "LaceBonds" 373 "LaceBonds$Wearers" "count" "I" ∈ gw := gt_2 (i := 83) (by decide +kernel) rfl
theorem w_324 : Cond.fieldLink "LaceBonds$Wearers" 22 "LaceBonds$Wearers" "inAll" "I" ∈ gw := gt_2 (i := 84) (by decide +kernel) rfl
theorem w_325 : Cond.fieldLink "LaceBonds" 370 "LaceBonds$Wearers" "inAll" "I" ∈ gw := gt_2 (i := 85) (by decide +kernel) rfl
theorem w_337 : Cond.fieldLink "LaceBonds" 10 "LaceBonds" "tape" "LLaceBonds$Tape;" ∈ gw := gt_2 (i := 97) (by decide +kernel) rfl
theorem w_338 : Cond.fieldLink "LaceBonds" 19 "LaceBonds" "now" "LLaceBonds$Land;" ∈ gw := gt_2 (i := 98) (by decide +kernel) rfl
theorem w_339 : Cond.fieldLink "LaceBonds" 23 "LaceBonds" "tried" "LLaceBonds$Land;" ∈ gw := gt_2 (i := 99) (by decide +kernel) rfl
theorem w_340 : Cond.fieldLink "LaceBonds" 26 "LaceBonds" "imageLand" "LLaceBonds$Land;" ∈ gw := gt_2 (i := 100) (by decide +kernel) rfl
theorem w_341 : Cond.fieldLink "LaceBonds" 32 "LaceBonds" "rules" "LLaceBonds$Law;" ∈ gw := gt_2 (i := 101) (by decide +kernel) rfl
theorem w_342 : Cond.fieldLink "LaceBonds" 36 "LaceBonds" "triedRules" "LLaceBonds$Law;" ∈ gw := gt_2 (i := 102) (by decide +kernel) rfl
theorem w_343 : Cond.fieldLink "LaceBonds" 39 "LaceBonds" "imageRules" "LLaceBonds$Law;" ∈ gw := gt_2 (i := 103) (by decide +kernel) rfl
theorem w_344 : Cond.fieldLink "LaceBonds" 47 "LaceBonds" "landReader" "LLaceBonds$LandReader;" ∈ gw := gt_2 (i := 104) (by decide +kernel) rfl
theorem w_345 : Cond.fieldLink "LaceBonds" 56 "LaceBonds" "lawReader" "LLaceBonds$LawReader;" ∈ gw := gt_2 (i := 105) (by decide +kernel) rfl
theorem w_346 : Cond.fieldLink "LaceBonds" 63 "LaceBonds" "acts" "LLaceBonds$Acts;" ∈ gw := gt_2 (i := 106) (by decide +kernel) rfl
theorem w_347 : Cond.fieldLink "LaceBonds" 70 "LaceBonds" "ringSeeker" "LLaceBonds$Rings;" ∈ gw := gt_2 (i := 107) (by decide +kernel) rfl
theorem w_348 : Cond.fieldLink "LaceBonds" 77 "LaceBonds" "ways" "LLaceBonds$Ways;" ∈ gw := gt_2 (i := 108) (by decide +kernel) rfl
theorem w_349 : Cond.fieldLink "LaceBonds" 86 "LaceBonds" "wearers" "LLaceBonds$Wearers;" ∈ gw := gt_2 (i := 109) (by decide +kernel) rfl
theorem w_350 : Cond.fieldLink "LaceBonds" 90 "LaceBonds" "imageKept" "Z" ∈ gw := gt_2 (i := 110) (by decide +kernel) rfl
theorem w_384 : Cond.methodLink "LaceBonds" 98 ⟨"LaceBonds$Tape", "add", "(I)V"⟩ ∈ gw := gt_2 (i := 144) (by decide +kernel) rfl
theorem w_385 : Cond.instanceMethod ⟨"LaceBonds$Tape", "add", "(I)V"⟩ ∈ gw := gt_2 (i := 145) (by decide +kernel) rfl
theorem w_386 : Cond.selects "LaceBonds$Tape" ⟨"LaceBonds$Tape", "add", "(I)V"⟩ ⟨"LaceBonds$Tape", "add", "(I)V"⟩ ∈ gw := gt_2 (i := 146) (by decide +kernel) rfl
theorem w_387 : Cond.code ⟨"LaceBonds$Tape", "add", "(I)V"⟩ prog_10_method_2_code 3 (none) ∈ gw := gt_2 (i := 147) (by decide +kernel) rfl
theorem w_4 : Cond.initialized "LaceBonds$Book" ∈ gw := gt_1 (i := 4) (by decide +kernel) rfl
theorem w_400 : Cond.methodLink "LaceBonds" 175 ⟨"LaceBonds$Land", "owedBy", "(I)I"⟩ ∈ gw := gt_2 (i := 160) (by decide +kernel) rfl
theorem w_401 : Cond.instanceMethod ⟨"LaceBonds$Land", "owedBy", "(I)I"⟩ ∈ gw := gt_2 (i := 161) (by decide +kernel) rfl
theorem w_402 : Cond.selects "LaceBonds$Land" ⟨"LaceBonds$Land", "owedBy", "(I)I"⟩ ⟨"LaceBonds$Land", "owedBy", "(I)I"⟩ ∈ gw := gt_2 (i := 162) (by decide +kernel) rfl
theorem w_403 : Cond.code ⟨"LaceBonds$Land", "owedBy", "(I)I"⟩ prog_4_method_16_code 2 (Option.some ClassFile.FieldType.int) ∈ gw := gt_2 (i := 163) (by decide +kernel) rfl
theorem w_405 : Cond.static ⟨"LaceBonds", "lacesOf", "(I)I"⟩ ∈ gw := gt_2 (i := 165) (by decide +kernel) rfl
theorem w_406 : Cond.code ⟨"LaceBonds", "lacesOf", "(I)I"⟩ prog_1_method_60_code 1 (Option.some ClassFile.FieldType.int) ∈ gw := gt_2 (i := 166) (by decide +kernel) rfl
theorem w_407 : Cond.methodLink "LaceBonds$Land" 149 ⟨"LaceBonds$Land", "amountOf", "(I)I"⟩ ∈ gw := gt_2 (i := 167) (by decide +kernel) rfl
theorem w_408 : Cond.instanceMethod ⟨"LaceBonds$Land", "amountOf", "(I)I"⟩ ∈ gw := gt_2 (i := 168) (by decide +kernel) rfl
theorem w_409 : Cond.selects "LaceBonds$Land" ⟨"LaceBonds$Land", "amountOf", "(I)I"⟩ ⟨"LaceBonds$Land", "amountOf", "(I)I"⟩ ∈ gw := gt_2 (i := 169) (by decide +kernel) rfl
theorem w_410 : Cond.code ⟨"LaceBonds$Land", "amountOf", "(I)I"⟩ prog_4_method_18_code 4 (Option.some ClassFile.FieldType.int) ∈ gw := gt_2 (i := 170) (by decide +kernel) rfl
theorem w_412 : Cond.static ⟨"LaceBonds", "hasBit", "(II)Z"⟩ ∈ gw := gt_2 (i := 172) (by decide +kernel) rfl
theorem w_413 : Cond.code ⟨"LaceBonds", "hasBit", "(II)Z"⟩ prog_1_method_61_code 2 (Option.some ClassFile.FieldType.boolean) ∈ gw := gt_2 (i := 173) (by decide +kernel) rfl
theorem w_418 : Cond.methodLink "LaceBonds" 326 ⟨"LaceBonds$Rings", "seek", "(LLaceBonds$Land;)V"⟩ ∈ gw := gt_2 (i := 178) (by decide +kernel) rfl
theorem w_419 : Cond.instanceMethod ⟨"LaceBonds$Rings", "seek", "(LLaceBonds$Land;)V"⟩ ∈ gw := gt_2 (i := 179) (by decide +kernel) rfl
theorem w_420 : Cond.selects "LaceBonds$Rings" ⟨"LaceBonds$Rings", "seek", "(LLaceBonds$Land;)V"⟩ ⟨"LaceBonds$Rings", "seek", "(LLaceBonds$Land;)V"⟩ ∈ gw := gt_2 (i := 180) (by decide +kernel) rfl
theorem w_421 : Cond.code ⟨"LaceBonds$Rings", "seek", "(LLaceBonds$Land;)V"⟩ prog_9_method_2_code 7 (none) ∈ gw := gt_2 (i := 181) (by decide +kernel) rfl
theorem w_422 : Cond.methodLink "LaceBonds$Rings" 25 ⟨"LaceBonds$Rings", "gather", "(LLaceBonds$Land;)I"⟩ ∈ gw := gt_2 (i := 182) (by decide +kernel) rfl
theorem w_424 : Cond.instanceMethod ⟨"LaceBonds$Rings", "gather", "(LLaceBonds$Land;)I"⟩ ∈ gw := gt_2 (i := 184) (by decide +kernel) rfl
theorem w_425 : Cond.code ⟨"LaceBonds$Rings", "gather", "(LLaceBonds$Land;)I"⟩ prog_9_method_3_code 4 (Option.some ClassFile.FieldType.int) ∈ gw := gt_2 (i := 185) (by decide +kernel) rfl
theorem w_426 : Cond.methodLink "LaceBonds$Rings" 61 ⟨"LaceBonds$Land", "isPledged", "(I)Z"⟩ ∈ gw := gt_2 (i := 186) (by decide +kernel) rfl
theorem w_427 : Cond.instanceMethod ⟨"LaceBonds$Land", "isPledged", "(I)Z"⟩ ∈ gw := gt_2 (i := 187) (by decide +kernel) rfl
theorem w_428 : Cond.selects "LaceBonds$Land" ⟨"LaceBonds$Land", "isPledged", "(I)Z"⟩ ⟨"LaceBonds$Land", "isPledged", "(I)Z"⟩ ∈ gw := gt_2 (i := 188) (by decide +kernel) rfl
theorem w_429 : Cond.code ⟨"LaceBonds$Land", "isPledged", "(I)Z"⟩ prog_4_method_11_code 2 (Option.some ClassFile.FieldType.boolean) ∈ gw := gt_2 (i := 189) (by decide +kernel) rfl
theorem w_43 : Cond.fieldLink "LaceBonds$Tape" 9 "LaceBonds$Tape" "bytes" "[I" ∈ gw := gt_1 (i := 43) (by decide +kernel) rfl
theorem w_430 : Cond.methodLink "LaceBonds$Rings" 29 ⟨"java/lang/Integer", "numberOfTrailingZeros", "(I)I"⟩ ∈ gw := gt_2 (i := 190) (by decide +kernel) rfl
theorem w_431 : Cond.static ⟨"java/lang/Integer", "numberOfTrailingZeros", "(I)I"⟩ ∈ gw := gt_2 (i := 191) (by decide +kernel) rfl
theorem w_432 : Cond.code ⟨"java/lang/Integer", "numberOfTrailingZeros", "(I)I"⟩ prog_22_method_48_code 2 (Option.some ClassFile.FieldType.int) ∈ gw := gt_2 (i := 192) (by decide +kernel) rfl
theorem w_433 : Cond.constant "java/lang/Integer" 264 65536 ∈ gw := gt_2 (i := 193) (by decide +kernel) rfl
theorem w_436 : Cond.static ⟨"LaceBonds", "ownerOf", "(I)I"⟩ ∈ gw := gt_2 (i := 196) (by decide +kernel) rfl
theorem w_437 : Cond.code ⟨"LaceBonds", "ownerOf", "(I)I"⟩ prog_1_method_59_code 1 (Option.some ClassFile.FieldType.int) ∈ gw := gt_2 (i := 197) (by decide +kernel) rfl
theorem w_438 : Cond.methodLink "LaceBonds$Rings" 50 ⟨"LaceBonds$Rings", "isBalanced", "()Z"⟩ ∈ gw := gt_2 (i := 198) (by decide +kernel) rfl
theorem w_44 : Cond.fieldLink "LaceBonds$Wearers" 29 "LaceBonds$Tape" "bytes" "[I" ∈ gw := gt_1 (i := 44) (by decide +kernel) rfl
theorem w_440 : Cond.instanceMethod ⟨"LaceBonds$Rings", "isBalanced", "()Z"⟩ ∈ gw := gt_2 (i := 200) (by decide +kernel) rfl
theorem w_441 : Cond.code ⟨"LaceBonds$Rings", "isBalanced", "()Z"⟩ prog_9_method_4_code 2 (Option.some ClassFile.FieldType.boolean) ∈ gw := gt_2 (i := 201) (by decide +kernel) rfl
theorem w_442 : Cond.methodLink "LaceBonds$Rings" 54 ⟨"LaceBonds$Rings", "take", "(I)V"⟩ ∈ gw := gt_2 (i := 202) (by decide +kernel) rfl
theorem w_444 : Cond.instanceMethod ⟨"LaceBonds$Rings", "take", "(I)V"⟩ ∈ gw := gt_2 (i := 204) (by decide +kernel) rfl
theorem w_445 : Cond.code ⟨"LaceBonds$Rings", "take", "(I)V"⟩ prog_9_method_5_code 3 (none) ∈ gw := gt_2 (i := 205) (by decide +kernel) rfl
theorem w_446 : Cond.methodLink "LaceBonds$Rings" 65 ⟨"java/lang/Integer", "bitCount", "(I)I"⟩ ∈ gw := gt_2 (i := 206) (by decide +kernel) rfl
theorem w_447 : Cond.static ⟨"java/lang/Integer", "bitCount", "(I)I"⟩ ∈ gw := gt_2 (i := 207) (by decide +kernel) rfl
theorem w_448 : Cond.code ⟨"java/lang/Integer", "bitCount", "(I)I"⟩ prog_22_method_49_code 1 (Option.some ClassFile.FieldType.int) ∈ gw := gt_2 (i := 208) (by decide +kernel) rfl
theorem w_449 : Cond.constant "java/lang/Integer" 265 1431655765 ∈ gw := gt_2 (i := 209) (by decide +kernel) rfl
theorem w_45 : Cond.fieldLink "LaceBonds" 307 "LaceBonds$Tape" "bytes" "[I" ∈ gw := gt_1 (i := 45) (by decide +kernel) rfl
theorem w_450 : Cond.constant "java/lang/Integer" 266 858993459 ∈ gw := gt_2 (i := 210) (by decide +kernel) rfl
theorem w_451 : Cond.constant "java/lang/Integer" 267 252645135 ∈ gw := gt_2 (i := 211) (by decide +kernel) rfl
theorem w_456 : Cond.methodLink "LaceBonds" 335 ⟨"java/lang/Integer", "bitCount", "(I)I"⟩ ∈ gw := gt_2 (i := 216) (by decide +kernel) rfl
theorem w_46 : Cond.fieldLink "LaceBonds$Tape" 15 "LaceBonds$Tape" "size" "I" ∈ gw := gt_1 (i := 46) (by decide +kernel) rfl
theorem w_461 : Cond.methodLink "LaceBonds" 361 ⟨"LaceBonds$Land", "hangingOn", "(I)I"⟩ ∈ gw := gt_2 (i := 221) (by decide +kernel) rfl
theorem w_462 : Cond.instanceMethod ⟨"LaceBonds$Land", "hangingOn", "(I)I"⟩ ∈ gw := gt_2 (i := 222) (by decide +kernel) rfl
theorem w_463 : Cond.selects "LaceBonds$Land" ⟨"LaceBonds$Land", "hangingOn", "(I)I"⟩ ⟨"LaceBonds$Land", "hangingOn", "(I)I"⟩ ∈ gw := gt_2 (i := 223) (by decide +kernel) rfl
theorem w_464 : Cond.code ⟨"LaceBonds$Land", "hangingOn", "(I)I"⟩ prog_4_method_21_code 4 (Option.some ClassFile.FieldType.int) ∈ gw := gt_2 (i := 224) (by decide +kernel) rfl
theorem w_465 : Cond.methodLink "LaceBonds" 352 ⟨"LaceBonds$Land", "amountOf", "(I)I"⟩ ∈ gw := gt_2 (i := 225) (by decide +kernel) rfl
theorem w_47 : Cond.fieldLink "LaceBonds" 94 "LaceBonds$Tape" "size" "I" ∈ gw := gt_1 (i := 47) (by decide +kernel) rfl
theorem w_470 : Cond.methodLink "LaceBonds" 364 ⟨"LaceBonds$Land", "isInEachPledge", "(I)Z"⟩ ∈ gw := gt_2 (i := 230) (by decide +kernel) rfl
theorem w_471 : Cond.instanceMethod ⟨"LaceBonds$Land", "isInEachPledge", "(I)Z"⟩ ∈ gw := gt_2 (i := 231) (by decide +kernel) rfl
theorem w_472 : Cond.selects "LaceBonds$Land" ⟨"LaceBonds$Land", "isInEachPledge", "(I)Z"⟩ ⟨"LaceBonds$Land", "isInEachPledge", "(I)Z"⟩ ∈ gw := gt_2 (i := 232) (by decide +kernel) rfl
theorem w_473 : Cond.code ⟨"LaceBonds$Land", "isInEachPledge", "(I)Z"⟩ prog_4_method_24_code 3 (Option.some ClassFile.FieldType.boolean) ∈ gw := gt_2 (i := 233) (by decide +kernel) rfl
theorem w_474 : Cond.methodLink "LaceBonds$Land" 106 ⟨"LaceBonds$Land", "isPledged", "(I)Z"⟩ ∈ gw := gt_2 (i := 234) (by decide +kernel) rfl
theorem w_475 : Cond.methodLink "LaceBonds$Land" 172 ⟨"LaceBonds$Land", "partiesOf", "(I)I"⟩ ∈ gw := gt_2 (i := 235) (by decide +kernel) rfl
theorem w_477 : Cond.instanceMethod ⟨"LaceBonds$Land", "partiesOf", "(I)I"⟩ ∈ gw := gt_2 (i := 237) (by decide +kernel) rfl
theorem w_478 : Cond.code ⟨"LaceBonds$Land", "partiesOf", "(I)I"⟩ prog_4_method_35_code 3 (Option.some ClassFile.FieldType.int) ∈ gw := gt_2 (i := 238) (by decide +kernel) rfl
theorem w_48 : Cond.fieldLink "LaceBonds$Tape" 19 "LaceBonds$Tape" "length" "I" ∈ gw := gt_1 (i := 48) (by decide +kernel) rfl
theorem w_484 : Cond.methodLink "LaceBonds" 218 ⟨"LaceBonds$Land", "walkOf", "(ILLaceBonds$Law;)I"⟩ ∈ gw := gt_3 (i := 4) (by decide +kernel) rfl
theorem w_485 : Cond.instanceMethod ⟨"LaceBonds$Land", "walkOf", "(ILLaceBonds$Law;)I"⟩ ∈ gw := gt_3 (i := 5) (by decide +kernel) rfl
theorem w_486 : Cond.selects "LaceBonds$Land" ⟨"LaceBonds$Land", "walkOf", "(ILLaceBonds$Law;)I"⟩ ⟨"LaceBonds$Land", "walkOf", "(ILLaceBonds$Law;)I"⟩ ∈ gw := gt_3 (i := 6) (by decide +kernel) rfl
theorem w_487 : Cond.code ⟨"LaceBonds$Land", "walkOf", "(ILLaceBonds$Law;)I"⟩ prog_4_method_8_code 4 (Option.some ClassFile.FieldType.int) ∈ gw := gt_3 (i := 7) (by decide +kernel) rfl
theorem w_488 : Cond.methodLink "LaceBonds$Land" 124 ⟨"LaceBonds$Law", "sumOf", "(ILLaceBonds$Land;I)I"⟩ ∈ gw := gt_3 (i := 8) (by decide +kernel) rfl
theorem w_489 : Cond.instanceMethod ⟨"LaceBonds$Law", "sumOf", "(ILLaceBonds$Land;I)I"⟩ ∈ gw := gt_3 (i := 9) (by decide +kernel) rfl
theorem w_49 : Cond.fieldLink "LaceBonds$Tape" 22 "LaceBonds$Tape" "at" "I" ∈ gw := gt_1 (i := 49) (by decide +kernel) rfl
theorem w_490 : Cond.selects "LaceBonds$Law" ⟨"LaceBonds$Law", "sumOf", "(ILLaceBonds$Land;I)I"⟩ ⟨"LaceBonds$Law", "sumOf", "(ILLaceBonds$Land;I)I"⟩ ∈ gw := gt_3 (i := 10) (by decide +kernel) rfl
theorem w_491 : Cond.code ⟨"LaceBonds$Law", "sumOf", "(ILLaceBonds$Land;I)I"⟩ prog_6_method_7_code 7 (Option.some ClassFile.FieldType.int) ∈ gw := gt_3 (i := 11) (by decide +kernel) rfl
theorem w_492 : Cond.methodLink "LaceBonds$Law" 50 ⟨"LaceBonds$Law", "ask", "(LLaceBonds$Land;I)V"⟩ ∈ gw := gt_3 (i := 12) (by decide +kernel) rfl
theorem w_494 : Cond.instanceMethod ⟨"LaceBonds$Law", "ask", "(LLaceBonds$Land;I)V"⟩ ∈ gw := gt_3 (i := 14) (by decide +kernel) rfl
theorem w_495 : Cond.code ⟨"LaceBonds$Law", "ask", "(LLaceBonds$Land;I)V"⟩ prog_6_method_8_code 4 (none) ∈ gw := gt_3 (i := 15) (by decide +kernel) rfl
theorem w_496 : Cond.methodLink "LaceBonds$Law" 58 ⟨"LaceBonds$Land", "gaitOf", "(I)I"⟩ ∈ gw := gt_3 (i := 16) (by decide +kernel) rfl
theorem w_497 : Cond.instanceMethod ⟨"LaceBonds$Land", "gaitOf", "(I)I"⟩ ∈ gw := gt_3 (i := 17) (by decide +kernel) rfl
theorem w_498 : Cond.selects "LaceBonds$Land" ⟨"LaceBonds$Land", "gaitOf", "(I)I"⟩ ⟨"LaceBonds$Land", "gaitOf", "(I)I"⟩ ∈ gw := gt_3 (i := 18) (by decide +kernel) rfl
theorem w_499 : Cond.code ⟨"LaceBonds$Land", "gaitOf", "(I)I"⟩ prog_4_method_13_code 4 (Option.some ClassFile.FieldType.int) ∈ gw := gt_3 (i := 19) (by decide +kernel) rfl
theorem w_5 : Cond.initialized "LaceBonds$Law" ∈ gw := gt_1 (i := 5) (by decide +kernel) rfl
theorem w_500 : Cond.methodLink "LaceBonds$Law" 64 ⟨"java/lang/Integer", "bitCount", "(I)I"⟩ ∈ gw := gt_3 (i := 20) (by decide +kernel) rfl
theorem w_501 : Cond.methodLink "LaceBonds$Law" 69 ⟨"LaceBonds$Land", "heldBy", "(I)I"⟩ ∈ gw := gt_3 (i := 21) (by decide +kernel) rfl
theorem w_502 : Cond.instanceMethod ⟨"LaceBonds$Land", "heldBy", "(I)I"⟩ ∈ gw := gt_3 (i := 22) (by decide +kernel) rfl
theorem w_503 : Cond.selects "LaceBonds$Land" ⟨"LaceBonds$Land", "heldBy", "(I)I"⟩ ⟨"LaceBonds$Land", "heldBy", "(I)I"⟩ ∈ gw := gt_3 (i := 23) (by decide +kernel) rfl
theorem w_504 : Cond.code ⟨"LaceBonds$Land", "heldBy", "(I)I"⟩ prog_4_method_15_code 4 (Option.some ClassFile.FieldType.int) ∈ gw := gt_3 (i := 24) (by decide +kernel) rfl
theorem w_505 : Cond.methodLink "LaceBonds$Law" 54 ⟨"LaceBonds$Law", "holds", "(I)Z"⟩ ∈ gw := gt_3 (i := 25) (by decide +kernel) rfl
theorem w_507 : Cond.instanceMethod ⟨"LaceBonds$Law", "holds", "(I)Z"⟩ ∈ gw := gt_3 (i := 27) (by decide +kernel) rfl
theorem w_508 : Cond.code ⟨"LaceBonds$Law", "holds", "(I)Z"⟩ prog_6_method_9_code 5 (Option.some ClassFile.FieldType.boolean) ∈ gw := gt_3 (i := 28) (by decide +kernel) rfl
theorem w_509 : Cond.methodLink "LaceBonds$Law" 87 ⟨"LaceBonds$Law", "joined", "(III)I"⟩ ∈ gw := gt_3 (i := 29) (by decide +kernel) rfl
theorem w_510 : Cond.static ⟨"LaceBonds$Law", "joined", "(III)I"⟩ ∈ gw := gt_3 (i := 30) (by decide +kernel) rfl
theorem w_511 : Cond.code ⟨"LaceBonds$Law", "joined", "(III)I"⟩ prog_6_method_10_code 3 (Option.some ClassFile.FieldType.int) ∈ gw := gt_3 (i := 31) (by decide +kernel) rfl
theorem w_512 : Cond.methodLink "LaceBonds$Land" 128 ⟨"LaceBonds$Land", "slackOf", "(I)I"⟩ ∈ gw := gt_3 (i := 32) (by decide +kernel) rfl
theorem w_513 : Cond.instanceMethod ⟨"LaceBonds$Land", "slackOf", "(I)I"⟩ ∈ gw := gt_3 (i := 33) (by decide +kernel) rfl
theorem w_514 : Cond.selects "LaceBonds$Land" ⟨"LaceBonds$Land", "slackOf", "(I)I"⟩ ⟨"LaceBonds$Land", "slackOf", "(I)I"⟩ ∈ gw := gt_3 (i := 34) (by decide +kernel) rfl
theorem w_515 : Cond.code ⟨"LaceBonds$Land", "slackOf", "(I)I"⟩ prog_4_method_14_code 2 (Option.some ClassFile.FieldType.int) ∈ gw := gt_3 (i := 35) (by decide +kernel) rfl
theorem w_516 : Cond.methodLink "LaceBonds$Land" 138 ⟨"LaceBonds$Land", "gaitOf", "(I)I"⟩ ∈ gw := gt_3 (i := 36) (by decide +kernel) rfl
theorem w_517 : Cond.methodLink "LaceBonds$Land" 141 ⟨"java/lang/Integer", "bitCount", "(I)I"⟩ ∈ gw := gt_3 (i := 37) (by decide +kernel) rfl
theorem w_518 : Cond.methodLink "LaceBonds$Land" 132 ⟨"java/lang/Math", "max", "(II)I"⟩ ∈ gw := gt_3 (i := 38) (by decide +kernel) rfl
theorem w_519 : Cond.static ⟨"java/lang/Math", "max", "(II)I"⟩ ∈ gw := gt_3 (i := 39) (by decide +kernel) rfl
theorem w_520 : Cond.code ⟨"java/lang/Math", "max", "(II)I"⟩ prog_23_method_65_code 2 (Option.some ClassFile.FieldType.int) ∈ gw := gt_3 (i := 40) (by decide +kernel) rfl
theorem w_525 : Cond.methodLink "LaceBonds" 355 ⟨"LaceBonds$Land", "lacesThatAre", "(I)I"⟩ ∈ gw := gt_3 (i := 45) (by decide +kernel) rfl
theorem w_526 : Cond.instanceMethod ⟨"LaceBonds$Land", "lacesThatAre", "(I)I"⟩ ∈ gw := gt_3 (i := 46) (by decide +kernel) rfl
theorem w_527 : Cond.selects "LaceBonds$Land" ⟨"LaceBonds$Land", "lacesThatAre", "(I)I"⟩ ⟨"LaceBonds$Land", "lacesThatAre", "(I)I"⟩ ∈ gw := gt_3 (i := 47) (by decide +kernel) rfl
theorem w_528 : Cond.code ⟨"LaceBonds$Land", "lacesThatAre", "(I)I"⟩ prog_4_method_12_code 4 (Option.some ClassFile.FieldType.int) ∈ gw := gt_3 (i := 48) (by decide +kernel) rfl
theorem w_53 : Cond.fieldLink "LaceBonds$Tape" 25 "LaceBonds$Tape" "wrong" "I" ∈ gw := gt_1 (i := 53) (by decide +kernel) rfl
theorem w_537 : Cond.methodLink "LaceBonds" 416 ⟨"LaceBonds$Acts", "takeBack", "(LLaceBonds$Land;)Z"⟩ ∈ gw := gt_3 (i := 57) (by decide +kernel) rfl
theorem w_538 : Cond.instanceMethod ⟨"LaceBonds$Acts", "takeBack", "(LLaceBonds$Land;)Z"⟩ ∈ gw := gt_3 (i := 58) (by decide +kernel) rfl
theorem w_539 : Cond.selects "LaceBonds$Acts" ⟨"LaceBonds$Acts", "takeBack", "(LLaceBonds$Land;)Z"⟩ ⟨"LaceBonds$Acts", "takeBack", "(LLaceBonds$Land;)Z"⟩ ∈ gw := gt_3 (i := 59) (by decide +kernel) rfl
theorem w_540 : Cond.code ⟨"LaceBonds$Acts", "takeBack", "(LLaceBonds$Land;)Z"⟩ prog_2_method_3_code 2 (Option.some ClassFile.FieldType.boolean) ∈ gw := gt_3 (i := 60) (by decide +kernel) rfl
theorem w_541 : Cond.methodLink "LaceBonds$Acts" 25 ⟨"LaceBonds$Land", "copyFrom", "(LLaceBonds$Land;)V"⟩ ∈ gw := gt_3 (i := 61) (by decide +kernel) rfl
theorem w_542 : Cond.instanceMethod ⟨"LaceBonds$Land", "copyFrom", "(LLaceBonds$Land;)V"⟩ ∈ gw := gt_3 (i := 62) (by decide +kernel) rfl
theorem w_543 : Cond.selects "LaceBonds$Land" ⟨"LaceBonds$Land", "copyFrom", "(LLaceBonds$Land;)V"⟩ ⟨"LaceBonds$Land", "copyFrom", "(LLaceBonds$Land;)V"⟩ ∈ gw := gt_3 (i := 63) (by decide +kernel) rfl
theorem w_544 : Cond.code ⟨"LaceBonds$Land", "copyFrom", "(LLaceBonds$Land;)V"⟩ prog_4_method_2_code 2 (none) ∈ gw := gt_3 (i := 64) (by decide +kernel) rfl
theorem w_545 : Cond.methodLink "LaceBonds$Land" 74 ⟨"java/lang/System", "arraycopy", "(Ljava/lang/Object;ILjava/lang/Object;II)V"⟩ ∈ gw := gt_3 (i := 65) (by decide +kernel) rfl
theorem w_546 : Cond.static ⟨"java/lang/System", "arraycopy", "(Ljava/lang/Object;ILjava/lang/Object;II)V"⟩ ∈ gw := gt_3 (i := 66) (by decide +kernel) rfl
theorem w_547 : Cond.native ⟨"java/lang/System", "arraycopy", "(Ljava/lang/Object;ILjava/lang/Object;II)V"⟩ ∈ gw := gt_3 (i := 67) (by decide +kernel) rfl
theorem w_548 : Cond.methodLink "LaceBonds$Land" 80 ⟨"LaceBonds$Book", "copyFrom", "(LLaceBonds$Book;)V"⟩ ∈ gw := gt_3 (i := 68) (by decide +kernel) rfl
theorem w_549 : Cond.instanceMethod ⟨"LaceBonds$Book", "copyFrom", "(LLaceBonds$Book;)V"⟩ ∈ gw := gt_3 (i := 69) (by decide +kernel) rfl
theorem w_550 : Cond.selects "LaceBonds$Book" ⟨"LaceBonds$Book", "copyFrom", "(LLaceBonds$Book;)V"⟩ ⟨"LaceBonds$Book", "copyFrom", "(LLaceBonds$Book;)V"⟩ ∈ gw := gt_3 (i := 70) (by decide +kernel) rfl
theorem w_551 : Cond.code ⟨"LaceBonds$Book", "copyFrom", "(LLaceBonds$Book;)V"⟩ prog_3_method_2_code 2 (none) ∈ gw := gt_3 (i := 71) (by decide +kernel) rfl
theorem w_552 : Cond.methodLink "LaceBonds$Book" 22 ⟨"java/lang/System", "arraycopy", "(Ljava/lang/Object;ILjava/lang/Object;II)V"⟩ ∈ gw := gt_3 (i := 72) (by decide +kernel) rfl
theorem w_557 : Cond.methodLink "LaceBonds" 102 ⟨"LaceBonds$Land", "copyFrom", "(LLaceBonds$Land;)V"⟩ ∈ gw := gt_3 (i := 77) (by decide +kernel) rfl
theorem w_558 : Cond.methodLink "LaceBonds" 140 ⟨"LaceBonds$Law", "copyFrom", "(LLaceBonds$Law;)V"⟩ ∈ gw := gt_3 (i := 78) (by decide +kernel) rfl
theorem w_559 : Cond.instanceMethod ⟨"LaceBonds$Law", "copyFrom", "(LLaceBonds$Law;)V"⟩ ∈ gw := gt_3 (i := 79) (by decide +kernel) rfl
theorem w_560 : Cond.selects "LaceBonds$Law" ⟨"LaceBonds$Law", "copyFrom", "(LLaceBonds$Law;)V"⟩ ⟨"LaceBonds$Law", "copyFrom", "(LLaceBonds$Law;)V"⟩ ∈ gw := gt_3 (i := 80) (by decide +kernel) rfl
theorem w_561 : Cond.code ⟨"LaceBonds$Law", "copyFrom", "(LLaceBonds$Law;)V"⟩ prog_6_method_3_code 2 (none) ∈ gw := gt_3 (i := 81) (by decide +kernel) rfl
theorem w_562 : Cond.methodLink "LaceBonds$Law" 44 ⟨"java/lang/System", "arraycopy", "(Ljava/lang/Object;ILjava/lang/Object;II)V"⟩ ∈ gw := gt_3 (i := 82) (by decide +kernel) rfl
theorem w_567 : Cond.methodLink "LaceBonds" 128 ⟨"LaceBonds$Acts", "forget", "()V"⟩ ∈ gw := gt_3 (i := 87) (by decide +kernel) rfl
theorem w_568 : Cond.instanceMethod ⟨"LaceBonds$Acts", "forget", "()V"⟩ ∈ gw := gt_3 (i := 88) (by decide +kernel) rfl
theorem w_569 : Cond.selects "LaceBonds$Acts" ⟨"LaceBonds$Acts", "forget", "()V"⟩ ⟨"LaceBonds$Acts", "forget", "()V"⟩ ∈ gw := gt_3 (i := 89) (by decide +kernel) rfl
theorem w_570 : Cond.code ⟨"LaceBonds$Acts", "forget", "()V"⟩ prog_2_method_4_code 1 (none) ∈ gw := gt_3 (i := 90) (by decide +kernel) rfl
theorem w_575 : Cond.methodLink "LaceBonds" 423 ⟨"LaceBonds$Land", "allPurses", "()I"⟩ ∈ gw := gt_3 (i := 95) (by decide +kernel) rfl
theorem w_576 : Cond.instanceMethod ⟨"LaceBonds$Land", "allPurses", "()I"⟩ ∈ gw := gt_3 (i := 96) (by decide +kernel) rfl
theorem w_577 : Cond.selects "LaceBonds$Land" ⟨"LaceBonds$Land", "allPurses", "()I"⟩ ⟨"LaceBonds$Land", "allPurses", "()I"⟩ ∈ gw := gt_3 (i := 97) (by decide +kernel) rfl
theorem w_578 : Cond.code ⟨"LaceBonds$Land", "allPurses", "()I"⟩ prog_4_method_19_code 3 (Option.some ClassFile.FieldType.int) ∈ gw := gt_3 (i := 98) (by decide +kernel) rfl
theorem w_582 : Cond.classLink "LaceBondsLaw" 13 "java/lang/IllegalArgumentException" ∈ gw := gt_3 (i := 102) (by decide +kernel) rfl
theorem w_583 : Cond.classLink "LaceBondsLaw" 15 "java/lang/UnsupportedOperationException" ∈ gw := gt_3 (i := 103) (by decide +kernel) rfl
theorem w_584 : Cond.methodLink "LaceBondsLaw" 7 ⟨"LaceBonds", "land", "()I"⟩ ∈ gw := gt_3 (i := 104) (by decide +kernel) rfl
theorem w_585 : Cond.instanceMethod ⟨"LaceBonds", "land", "()I"⟩ ∈ gw := gt_3 (i := 105) (by decide +kernel) rfl
theorem w_586 : Cond.selects "LaceBonds" ⟨"LaceBonds", "land", "()I"⟩ ⟨"LaceBonds", "land", "()I"⟩ ∈ gw := gt_3 (i := 106) (by decide +kernel) rfl
theorem w_587 : Cond.code ⟨"LaceBonds", "land", "()I"⟩ prog_1_method_4_code 1 (Option.some ClassFile.FieldType.int) ∈ gw := gt_3 (i := 107) (by decide +kernel) rfl
theorem w_588 : Cond.methodLink "LaceBonds" 106 ⟨"LaceBonds$LandReader", "readAll", "()V"⟩ ∈ gw := gt_3 (i := 108) (by decide +kernel) rfl
theorem w_589 : Cond.sameMethod "LaceBonds$LandReader" "LaceBonds$Reader" "readAll" "()V" ∈ gw := gt_3 (i := 109) (by decide +kernel) rfl
theorem w_591 : Cond.selects "LaceBonds$LandReader" ⟨"LaceBonds$LandReader", "readAll", "()V"⟩ ⟨"LaceBonds$Reader", "readAll", "()V"⟩ ∈ gw := gt_3 (i := 111) (by decide +kernel) rfl
theorem w_592 : Cond.instanceMethod ⟨"LaceBonds$Reader", "readAll", "()V"⟩ ∈ gw := gt_3 (i := 112) (by decide +kernel) rfl
theorem w_593 : Cond.code ⟨"LaceBonds$Reader", "readAll", "()V"⟩ prog_8_method_3_code 3 (none) ∈ gw := gt_3 (i := 113) (by decide +kernel) rfl
theorem w_594 : Cond.methodLink "LaceBonds$Reader" 17 ⟨"LaceBonds$Tape", "openText", "()V"⟩ ∈ gw := gt_3 (i := 114) (by decide +kernel) rfl
theorem w_595 : Cond.instanceMethod ⟨"LaceBonds$Tape", "openText", "()V"⟩ ∈ gw := gt_3 (i := 115) (by decide +kernel) rfl
theorem w_596 : Cond.selects "LaceBonds$Tape" ⟨"LaceBonds$Tape", "openText", "()V"⟩ ⟨"LaceBonds$Tape", "openText", "()V"⟩ ∈ gw := gt_3 (i := 116) (by decide +kernel) rfl
theorem w_597 : Cond.code ⟨"LaceBonds$Tape", "openText", "()V"⟩ prog_10_method_4_code 1 (none) ∈ gw := gt_3 (i := 117) (by decide +kernel) rfl
theorem w_598 : Cond.methodLink "LaceBonds$Tape" 28 ⟨"LaceBonds$Tape", "useUp", "()I"⟩ ∈ gw := gt_3 (i := 118) (by decide +kernel) rfl
theorem w_599 : Cond.instanceMethod ⟨"LaceBonds$Tape", "useUp", "()I"⟩ ∈ gw := gt_3 (i := 119) (by decide +kernel) rfl
theorem w_6 : Cond.initialized "LaceBonds$Reader" ∈ gw := gt_1 (i := 6) (by decide +kernel) rfl
theorem w_600 : Cond.selects "LaceBonds$Tape" ⟨"LaceBonds$Tape", "useUp", "()I"⟩ ⟨"LaceBonds$Tape", "useUp", "()I"⟩ ∈ gw := gt_3 (i := 120) (by decide +kernel) rfl
theorem w_601 : Cond.code ⟨"LaceBonds$Tape", "useUp", "()I"⟩ prog_10_method_3_code 2 (Option.some ClassFile.FieldType.int) ∈ gw := gt_3 (i := 121) (by decide +kernel) rfl
theorem w_602 : Cond.methodLink "LaceBonds$Tape" 32 ⟨"LaceBonds$Tape", "moveTo", "(I)V"⟩ ∈ gw := gt_3 (i := 122) (by decide +kernel) rfl
theorem w_604 : Cond.instanceMethod ⟨"LaceBonds$Tape", "moveTo", "(I)V"⟩ ∈ gw := gt_3 (i := 124) (by decide +kernel) rfl
theorem w_605 : Cond.code ⟨"LaceBonds$Tape", "moveTo", "(I)V"⟩ prog_10_method_15_code 2 (none) ∈ gw := gt_3 (i := 125) (by decide +kernel) rfl
theorem w_606 : Cond.methodLink "LaceBonds$Reader" 22 ⟨"LaceBonds$Tape", "isOver", "()Z"⟩ ∈ gw := gt_3 (i := 126) (by decide +kernel) rfl
theorem w_607 : Cond.instanceMethod ⟨"LaceBonds$Tape", "isOver", "()Z"⟩ ∈ gw := gt_3 (i := 127) (by decide +kernel) rfl
theorem w_608 : Cond.selects "LaceBonds$Tape" ⟨"LaceBonds$Tape", "isOver", "()Z"⟩ ⟨"LaceBonds$Tape", "isOver", "()Z"⟩ ∈ gw := gt_3 (i := 128) (by decide +kernel) rfl
theorem w_609 : Cond.code ⟨"LaceBonds$Tape", "isOver", "()Z"⟩ prog_10_method_6_code 1 (Option.some ClassFile.FieldType.boolean) ∈ gw := gt_3 (i := 129) (by decide +kernel) rfl
theorem w_610 : Cond.methodLink "LaceBonds$Reader" 26 ⟨"LaceBonds$Reader", "readLine", "()V"⟩ ∈ gw := gt_3 (i := 130) (by decide +kernel) rfl
theorem w_612 : Cond.sameMethod "LaceBonds$Reader" "LaceBonds$Reader" "readLine" "()V" ∈ gw := gt_3 (i := 132) (by decide +kernel) rfl
theorem w_613 : Cond.selects "LaceBonds$LandReader" ⟨"LaceBonds$Reader", "readLine", "()V"⟩ ⟨"LaceBonds$LandReader", "readLine", "()V"⟩ ∈ gw := gt_3 (i := 133) (by decide +kernel) rfl
theorem w_614 : Cond.instanceMethod ⟨"LaceBonds$LandReader", "readLine", "()V"⟩ ∈ gw := gt_3 (i := 134) (by decide +kernel) rfl
theorem w_615 : Cond.code ⟨"LaceBonds$LandReader", "readLine", "()V"⟩ prog_5_method_2_code 2 (none) ∈ gw := gt_3 (i := 135) (by decide +kernel) rfl
theorem w_617 : Cond.methodLink "LaceBonds$LandReader" 27 ⟨"LaceBonds$Tape", "takesWord", "(Ljava/lang/String;)Z"⟩ ∈ gw := gt_3 (i := 137) (by decide +kernel) rfl
theorem w_618 : Cond.instanceMethod ⟨"LaceBonds$Tape", "takesWord", "(Ljava/lang/String;)Z"⟩ ∈ gw := gt_3 (i := 138) (by decide +kernel) rfl
theorem w_619 : Cond.selects "LaceBonds$Tape" ⟨"LaceBonds$Tape", "takesWord", "(Ljava/lang/String;)Z"⟩ ⟨"LaceBonds$Tape", "takesWord", "(Ljava/lang/String;)Z"⟩ ∈ gw := gt_3 (i := 139) (by decide +kernel) rfl
theorem w_620 : Cond.code ⟨"LaceBonds$Tape", "takesWord", "(Ljava/lang/String;)Z"⟩ prog_10_method_8_code 4 (Option.some ClassFile.FieldType.boolean) ∈ gw := gt_3 (i := 140) (by decide +kernel) rfl
theorem w_621 : Cond.methodLink "LaceBonds$Tape" 36 ⟨"LaceBonds$Tape", "runOf", "(CC)I"⟩ ∈ gw := gt_3 (i := 141) (by decide +kernel) rfl
theorem w_623 : Cond.instanceMethod ⟨"LaceBonds$Tape", "runOf", "(CC)I"⟩ ∈ gw := gt_3 (i := 143) (by decide +kernel) rfl
theorem w_624 : Cond.code ⟨"LaceBonds$Tape", "runOf", "(CC)I"⟩ prog_10_method_14_code 4 (Option.some ClassFile.FieldType.int) ∈ gw := gt_3 (i := 144) (by decide +kernel) rfl
theorem w_625 : Cond.methodLink "LaceBonds$Tape" 40 ⟨"java/lang/String", "length", "()I"⟩ ∈ gw := gt_3 (i := 145) (by decide +kernel) rfl
theorem w_626 : Cond.instanceMethod ⟨"java/lang/String", "length", "()I"⟩ ∈ gw := gt_3 (i := 146) (by decide +kernel) rfl
theorem w_627 : Cond.selects "java/lang/String" ⟨"java/lang/String", "length", "()I"⟩ ⟨"java/lang/String", "length", "()I"⟩ ∈ gw := gt_3 (i := 147) (by decide +kernel) rfl
theorem w_628 : Cond.code ⟨"java/lang/String", "length", "()I"⟩ prog_25_method_54_code 1 (Option.some ClassFile.FieldType.int) ∈ gw := gt_3 (i := 148) (by decide +kernel) rfl
theorem w_629 : Cond.methodLink "java/lang/String" 335 ⟨"java/lang/String", "coder", "()B"⟩ ∈ gw := gt_3 (i := 149) (by decide +kernel) rfl
theorem w_630 : Cond.instanceMethod ⟨"java/lang/String", "coder", "()B"⟩ ∈ gw := gt_3 (i := 150) (by decide +kernel) rfl
theorem w_631 : Cond.selects "java/lang/String" ⟨"java/lang/String", "coder", "()B"⟩ ⟨"java/lang/String", "coder", "()B"⟩ ∈ gw := gt_3 (i := 151) (by decide +kernel) rfl
theorem w_632 : Cond.code ⟨"java/lang/String", "coder", "()B"⟩ prog_25_method_152_code 1 (Option.some ClassFile.FieldType.byte) ∈ gw := gt_3 (i := 152) (by decide +kernel) rfl
theorem w_633 : Cond.fieldLink "java/lang/String" 38 "java/lang/String" "COMPACT_STRINGS" "Z" ∈ gw := gt_3 (i := 153) (by decide +kernel) rfl
theorem w_635 : Cond.methodLink "LaceBonds$Tape" 44 ⟨"java/lang/String", "charAt", "(I)C"⟩ ∈ gw := gt_3 (i := 155) (by decide +kernel) rfl
theorem w_636 : Cond.instanceMethod ⟨"java/lang/String", "charAt", "(I)C"⟩ ∈ gw := gt_3 (i := 156) (by decide +kernel) rfl
theorem w_637 : Cond.selects "java/lang/String" ⟨"java/lang/String", "charAt", "(I)C"⟩ ⟨"java/lang/String", "charAt", "(I)C"⟩ ∈ gw := gt_3 (i := 157) (by decide +kernel) rfl
theorem w_638 : Cond.code ⟨"java/lang/String", "charAt", "(I)C"⟩ prog_25_method_56_code 2 (Option.some ClassFile.FieldType.char) ∈ gw := gt_3 (i := 158) (by decide +kernel) rfl
theorem w_639 : Cond.methodLink "java/lang/String" 492 ⟨"java/lang/String", "isLatin1", "()Z"⟩ ∈ gw := gt_3 (i := 159) (by decide +kernel) rfl
theorem w_640 : Cond.instanceMethod ⟨"java/lang/String", "isLatin1", "()Z"⟩ ∈ gw := gt_3 (i := 160) (by decide +kernel) rfl
theorem w_641 : Cond.selects "java/lang/String" ⟨"java/lang/String", "isLatin1", "()Z"⟩ ⟨"java/lang/String", "isLatin1", "()Z"⟩ ∈ gw := gt_3 (i := 161) (by decide +kernel) rfl
theorem w_642 : Cond.code ⟨"java/lang/String", "isLatin1", "()Z"⟩ prog_25_method_154_code 1 (Option.some ClassFile.FieldType.boolean) ∈ gw := gt_3 (i := 162) (by decide +kernel) rfl
theorem w_643 : Cond.methodLink "java/lang/String" 495 ⟨"java/lang/StringLatin1", "charAt", "([BI)C"⟩ ∈ gw := gt_3 (i := 163) (by decide +kernel) rfl
theorem w_644 : Cond.static ⟨"java/lang/StringLatin1", "charAt", "([BI)C"⟩ ∈ gw := gt_3 (i := 164) (by decide +kernel) rfl
theorem w_645 : Cond.code ⟨"java/lang/StringLatin1", "charAt", "([BI)C"⟩ prog_26_method_2_code 2 (Option.some ClassFile.FieldType.char) ∈ gw := gt_3 (i := 165) (by decide +kernel) rfl
theorem w_646 : Cond.methodLink "java/lang/StringLatin1" 9 ⟨"java/lang/String", "checkIndex", "(II)V"⟩ ∈ gw := gt_3 (i := 166) (by decide +kernel) rfl
theorem w_647 : Cond.static ⟨"java/lang/String", "checkIndex", "(II)V"⟩ ∈ gw := gt_3 (i := 167) (by decide +kernel) rfl
theorem w_648 : Cond.code ⟨"java/lang/String", "checkIndex", "(II)V"⟩ prog_25_method_155_code 2 (none) ∈ gw := gt_3 (i := 168) (by decide +kernel) rfl
theorem w_649 : Cond.fieldLink "java/lang/String" 1053 "jdk/internal/util/Preconditions" "SIOOBE_FORMATTER" "Ljava/util/function/BiFunction;" ∈ gw := gt_3 (i := 169) (by decide +kernel) rfl
theorem w_651 : Cond.methodLink "java/lang/String" 1059 ⟨"jdk/internal/util/Preconditions", "checkIndex", "(IILjava/util/function/BiFunction;)I"⟩ ∈ gw := gt_3 (i := 171) (by decide +kernel) rfl
theorem w_652 : Cond.static ⟨"jdk/internal/util/Preconditions", "checkIndex", "(IILjava/util/function/BiFunction;)I"⟩ ∈ gw := gt_3 (i := 172) (by decide +kernel) rfl
theorem w_653 : Cond.code ⟨"jdk/internal/util/Preconditions", "checkIndex", "(IILjava/util/function/BiFunction;)I"⟩ prog_34_method_11_code 3 (Option.some ClassFile.FieldType.int) ∈ gw := gt_3 (i := 173) (by decide +kernel) rfl
theorem w_673 : Cond.methodLink "LaceBonds$LandReader" 31 ⟨"LaceBonds$LandReader", "readPerson", "(I)V"⟩ ∈ gw := gt_3 (i := 193) (by decide +kernel) rfl
theorem w_675 : Cond.instanceMethod ⟨"LaceBonds$LandReader", "readPerson", "(I)V"⟩ ∈ gw := gt_3 (i := 195) (by decide +kernel) rfl
theorem w_676 : Cond.code ⟨"LaceBonds$LandReader", "readPerson", "(I)V"⟩ prog_5_method_3_code 5 (none) ∈ gw := gt_3 (i := 196) (by decide +kernel) rfl
theorem w_677 : Cond.methodLink "LaceBonds$LandReader" 65 ⟨"LaceBonds$Tape", "refuse", "(I)V"⟩ ∈ gw := gt_3 (i := 197) (by decide +kernel) rfl
theorem w_678 : Cond.instanceMethod ⟨"LaceBonds$Tape", "refuse", "(I)V"⟩ ∈ gw := gt_3 (i := 198) (by decide +kernel) rfl
theorem w_679 : Cond.selects "LaceBonds$Tape" ⟨"LaceBonds$Tape", "refuse", "(I)V"⟩ ⟨"LaceBonds$Tape", "refuse", "(I)V"⟩ ∈ gw := gt_3 (i := 199) (by decide +kernel) rfl
theorem w_680 : Cond.code ⟨"LaceBonds$Tape", "refuse", "(I)V"⟩ prog_10_method_7_code 2 (none) ∈ gw := gt_3 (i := 200) (by decide +kernel) rfl
theorem w_681 : Cond.methodLink "LaceBonds$LandReader" 53 ⟨"LaceBonds$Tape", "takeNumber", "(II)I"⟩ ∈ gw := gt_3 (i := 201) (by decide +kernel) rfl
theorem w_682 : Cond.instanceMethod ⟨"LaceBonds$Tape", "takeNumber", "(II)I"⟩ ∈ gw := gt_3 (i := 202) (by decide +kernel) rfl
theorem w_683 : Cond.selects "LaceBonds$Tape" ⟨"LaceBonds$Tape", "takeNumber", "(II)I"⟩ ⟨"LaceBonds$Tape", "takeNumber", "(II)I"⟩ ∈ gw := gt_3 (i := 203) (by decide +kernel) rfl
theorem w_684 : Cond.code ⟨"LaceBonds$Tape", "takeNumber", "(II)I"⟩ prog_10_method_12_code 6 (Option.some ClassFile.FieldType.int) ∈ gw := gt_3 (i := 204) (by decide +kernel) rfl
theorem w_685 : Cond.methodLink "LaceBonds$Tape" 52 ⟨"LaceBonds$Tape", "refuse", "(I)V"⟩ ∈ gw := gt_3 (i := 205) (by decide +kernel) rfl
theorem w_687 : Cond.static ⟨"LaceBonds", "isOutside", "(III)Z"⟩ ∈ gw := gt_3 (i := 207) (by decide +kernel) rfl
theorem w_688 : Cond.code ⟨"LaceBonds", "isOutside", "(III)Z"⟩ prog_1_method_62_code 3 (Option.some ClassFile.FieldType.boolean) ∈ gw := gt_3 (i := 208) (by decide +kernel) rfl
theorem w_690 : Cond.methodLink "LaceBonds$LandReader" 73 ⟨"LaceBonds$Tape", "needWord", "(Ljava/lang/String;)V"⟩ ∈ gw := gt_3 (i := 210) (by decide +kernel) rfl
theorem w_691 : Cond.instanceMethod ⟨"LaceBonds$Tape", "needWord", "(Ljava/lang/String;)V"⟩ ∈ gw := gt_3 (i := 211) (by decide +kernel) rfl
theorem w_692 : Cond.selects "LaceBonds$Tape" ⟨"LaceBonds$Tape", "needWord", "(Ljava/lang/String;)V"⟩ ⟨"LaceBonds$Tape", "needWord", "(Ljava/lang/String;)V"⟩ ∈ gw := gt_3 (i := 212) (by decide +kernel) rfl
theorem w_693 : Cond.code ⟨"LaceBonds$Tape", "needWord", "(Ljava/lang/String;)V"⟩ prog_10_method_10_code 2 (none) ∈ gw := gt_3 (i := 213) (by decide +kernel) rfl
theorem w_694 : Cond.methodLink "LaceBonds$Tape" 48 ⟨"LaceBonds$Tape", "takesWord", "(Ljava/lang/String;)Z"⟩ ∈ gw := gt_3 (i := 214) (by decide +kernel) rfl
theorem w_696 : Cond.methodLink "LaceBonds$LandReader" 78 ⟨"LaceBonds$Tape", "isRight", "()Z"⟩ ∈ gw := gt_3 (i := 216) (by decide +kernel) rfl
theorem w_697 : Cond.instanceMethod ⟨"LaceBonds$Tape", "isRight", "()Z"⟩ ∈ gw := gt_3 (i := 217) (by decide +kernel) rfl
theorem w_698 : Cond.selects "LaceBonds$Tape" ⟨"LaceBonds$Tape", "isRight", "()Z"⟩ ⟨"LaceBonds$Tape", "isRight", "()Z"⟩ ∈ gw := gt_3 (i := 218) (by decide +kernel) rfl
theorem w_699 : Cond.code ⟨"LaceBonds$Tape", "isRight", "()Z"⟩ prog_10_method_5_code 1 (Option.some ClassFile.FieldType.boolean) ∈ gw := gt_3 (i := 219) (by decide +kernel) rfl
theorem w_7 : Cond.initialized "LaceBonds$LandReader" ∈ gw := gt_1 (i := 7) (by decide +kernel) rfl
theorem w_700 : Cond.methodLink "LaceBonds$LandReader" 82 ⟨"LaceBonds$Land", "addPerson", "(III)V"⟩ ∈ gw := gt_3 (i := 220) (by decide +kernel) rfl
theorem w_701 : Cond.instanceMethod ⟨"LaceBonds$Land", "addPerson", "(III)V"⟩ ∈ gw := gt_3 (i := 221) (by decide +kernel) rfl
theorem w_702 : Cond.selects "LaceBonds$Land" ⟨"LaceBonds$Land", "addPerson", "(III)V"⟩ ⟨"LaceBonds$Land", "addPerson", "(III)V"⟩ ∈ gw := gt_3 (i := 222) (by decide +kernel) rfl
theorem w_703 : Cond.code ⟨"LaceBonds$Land", "addPerson", "(III)V"⟩ prog_4_method_3_code 4 (none) ∈ gw := gt_3 (i := 223) (by decide +kernel) rfl
theorem w_704 : Cond.methodLink "LaceBonds$Land" 84 ⟨"LaceBonds$Land", "letGo", "(III)V"⟩ ∈ gw := gt_3 (i := 224) (by decide +kernel) rfl
theorem w_706 : Cond.instanceMethod ⟨"LaceBonds$Land", "letGo", "(III)V"⟩ ∈ gw := gt_3 (i := 226) (by decide +kernel) rfl
theorem w_707 : Cond.code ⟨"LaceBonds$Land", "letGo", "(III)V"⟩ prog_4_method_30_code 4 (none) ∈ gw := gt_3 (i := 227) (by decide +kernel) rfl
theorem w_709 : Cond.methodLink "LaceBonds$LandReader" 37 ⟨"LaceBonds$LandReader", "readPledge", "()V"⟩ ∈ gw := gt_3 (i := 229) (by decide +kernel) rfl
theorem w_711 : Cond.instanceMethod ⟨"LaceBonds$LandReader", "readPledge", "()V"⟩ ∈ gw := gt_3 (i := 231) (by decide +kernel) rfl
theorem w_712 : Cond.code ⟨"LaceBonds$LandReader", "readPledge", "()V"⟩ prog_5_method_4_code 8 (none) ∈ gw := gt_3 (i := 232) (by decide +kernel) rfl
theorem w_713 : Cond.methodLink "LaceBonds$LandReader" 86 ⟨"LaceBonds$LandReader", "takeLaceInShoe", "()I"⟩ ∈ gw := gt_3 (i := 233) (by decide +kernel) rfl
theorem w_715 : Cond.instanceMethod ⟨"LaceBonds$LandReader", "takeLaceInShoe", "()I"⟩ ∈ gw := gt_3 (i := 235) (by decide +kernel) rfl
theorem w_716 : Cond.code ⟨"LaceBonds$LandReader", "takeLaceInShoe", "()I"⟩ prog_5_method_7_code 3 (Option.some ClassFile.FieldType.int) ∈ gw := gt_3 (i := 236) (by decide +kernel) rfl
theorem w_719 : Cond.methodLink "LaceBonds$LandReader" 96 ⟨"LaceBonds$LandReader", "takeOther", "(II)I"⟩ ∈ gw := gt_3 (i := 239) (by decide +kernel) rfl
theorem w_721 : Cond.instanceMethod ⟨"LaceBonds$LandReader", "takeOther", "(II)I"⟩ ∈ gw := gt_4 (i := 1) (by decide +kernel) rfl
theorem w_722 : Cond.code ⟨"LaceBonds$LandReader", "takeOther", "(II)I"⟩ prog_5_method_8_code 5 (Option.some ClassFile.FieldType.int) ∈ gw := gt_4 (i := 2) (by decide +kernel) rfl
theorem w_727 : Cond.methodLink "LaceBonds$LandReader" 107 ⟨"LaceBonds$Land", "pledge", "(IIIIII)V"⟩ ∈ gw := gt_4 (i := 7) (by decide +kernel) rfl
theorem w_728 : Cond.instanceMethod ⟨"LaceBonds$Land", "pledge", "(IIIIII)V"⟩ ∈ gw := gt_4 (i := 8) (by decide +kernel) rfl
theorem w_729 : Cond.selects "LaceBonds$Land" ⟨"LaceBonds$Land", "pledge", "(IIIIII)V"⟩ ⟨"LaceBonds$Land", "pledge", "(IIIIII)V"⟩ ∈ gw := gt_4 (i := 9) (by decide +kernel) rfl
theorem w_730 : Cond.code ⟨"LaceBonds$Land", "pledge", "(IIIIII)V"⟩ prog_4_method_4_code 7 (none) ∈ gw := gt_4 (i := 10) (by decide +kernel) rfl
theorem w_732 : Cond.methodLink "LaceBonds$LandReader" 43 ⟨"LaceBonds$LandReader", "readMud", "()V"⟩ ∈ gw := gt_4 (i := 12) (by decide +kernel) rfl
theorem w_734 : Cond.instanceMethod ⟨"LaceBonds$LandReader", "readMud", "()V"⟩ ∈ gw := gt_4 (i := 14) (by decide +kernel) rfl
theorem w_735 : Cond.code ⟨"LaceBonds$LandReader", "readMud", "()V"⟩ prog_5_method_5_code 3 (none) ∈ gw := gt_4 (i := 15) (by decide +kernel) rfl
theorem w_737 : Cond.methodLink "LaceBonds$LandReader" 48 ⟨"LaceBonds$LandReader", "readGoal", "()V"⟩ ∈ gw := gt_4 (i := 17) (by decide +kernel) rfl
theorem w_739 : Cond.instanceMethod ⟨"LaceBonds$LandReader", "readGoal", "()V"⟩ ∈ gw := gt_4 (i := 19) (by decide +kernel) rfl
theorem w_740 : Cond.code ⟨"LaceBonds$LandReader", "readGoal", "()V"⟩ prog_5_method_6_code 3 (none) ∈ gw := gt_4 (i := 20) (by decide +kernel) rfl
theorem w_743 : Cond.selects "LaceBonds$LawReader" ⟨"LaceBonds$Reader", "readLine", "()V"⟩ ⟨"LaceBonds$LawReader", "readLine", "()V"⟩ ∈ gw := gt_4 (i := 23) (by decide +kernel) rfl
theorem w_744 : Cond.instanceMethod ⟨"LaceBonds$LawReader", "readLine", "()V"⟩ ∈ gw := gt_4 (i := 24) (by decide +kernel) rfl
theorem w_745 : Cond.code ⟨"LaceBonds$LawReader", "readLine", "()V"⟩ prog_7_method_2_code 3 (none) ∈ gw := gt_4 (i := 25) (by decide +kernel) rfl
theorem w_746 : Cond.methodLink "LaceBonds$LawReader" 15 ⟨"LaceBonds$LawReader", "takeKind", "()I"⟩ ∈ gw := gt_4 (i := 26) (by decide +kernel) rfl
theorem w_748 : Cond.instanceMethod ⟨"LaceBonds$LawReader", "takeKind", "()I"⟩ ∈ gw := gt_4 (i := 28) (by decide +kernel) rfl
theorem w_749 : Cond.code ⟨"LaceBonds$LawReader", "takeKind", "()I"⟩ prog_7_method_3_code 1 (Option.some ClassFile.FieldType.int) ∈ gw := gt_4 (i := 29) (by decide +kernel) rfl
theorem w_751 : Cond.methodLink "LaceBonds$LawReader" 37 ⟨"LaceBonds$Tape", "takesWord", "(Ljava/lang/String;)Z"⟩ ∈ gw := gt_4 (i := 31) (by decide +kernel) rfl
theorem w_754 : Cond.methodLink "LaceBonds$LawReader" 55 ⟨"LaceBonds$Tape", "needWord", "(Ljava/lang/String;)V"⟩ ∈ gw := gt_4 (i := 34) (by decide +kernel) rfl
theorem w_755 : Cond.methodLink "LaceBonds$LawReader" 23 ⟨"LaceBonds$Tape", "takeNumber", "(II)I"⟩ ∈ gw := gt_4 (i := 35) (by decide +kernel) rfl
theorem w_756 : Cond.methodLink "LaceBonds$LawReader" 29 ⟨"LaceBonds$Law", "openLine", "(II)V"⟩ ∈ gw := gt_4 (i := 36) (by decide +kernel) rfl
theorem w_757 : Cond.instanceMethod ⟨"LaceBonds$Law", "openLine", "(II)V"⟩ ∈ gw := gt_4 (i := 37) (by decide +kernel) rfl
theorem w_758 : Cond.selects "LaceBonds$Law" ⟨"LaceBonds$Law", "openLine", "(II)V"⟩ ⟨"LaceBonds$Law", "openLine", "(II)V"⟩ ∈ gw := gt_4 (i := 38) (by decide +kernel) rfl
theorem w_759 : Cond.code ⟨"LaceBonds$Law", "openLine", "(II)V"⟩ prog_6_method_4_code 3 (none) ∈ gw := gt_4 (i := 39) (by decide +kernel) rfl
theorem w_761 : Cond.methodLink "LaceBonds$LawReader" 41 ⟨"LaceBonds$LawReader", "readAny", "(I)V"⟩ ∈ gw := gt_4 (i := 41) (by decide +kernel) rfl
theorem w_763 : Cond.instanceMethod ⟨"LaceBonds$LawReader", "readAny", "(I)V"⟩ ∈ gw := gt_4 (i := 43) (by decide +kernel) rfl
theorem w_764 : Cond.code ⟨"LaceBonds$LawReader", "readAny", "(I)V"⟩ prog_7_method_4_code 3 (none) ∈ gw := gt_4 (i := 44) (by decide +kernel) rfl
theorem w_765 : Cond.methodLink "LaceBonds$LawReader" 59 ⟨"LaceBonds$LawReader", "readEach", "(I)V"⟩ ∈ gw := gt_4 (i := 45) (by decide +kernel) rfl
theorem w_767 : Cond.instanceMethod ⟨"LaceBonds$LawReader", "readEach", "(I)V"⟩ ∈ gw := gt_4 (i := 47) (by decide +kernel) rfl
theorem w_768 : Cond.code ⟨"LaceBonds$LawReader", "readEach", "(I)V"⟩ prog_7_method_5_code 3 (none) ∈ gw := gt_4 (i := 48) (by decide +kernel) rfl
theorem w_769 : Cond.methodLink "LaceBonds$LawReader" 67 ⟨"LaceBonds$LawReader", "readAtom", "(I)V"⟩ ∈ gw := gt_4 (i := 49) (by decide +kernel) rfl
theorem w_771 : Cond.instanceMethod ⟨"LaceBonds$LawReader", "readAtom", "(I)V"⟩ ∈ gw := gt_4 (i := 51) (by decide +kernel) rfl
theorem w_772 : Cond.code ⟨"LaceBonds$LawReader", "readAtom", "(I)V"⟩ prog_7_method_6_code 3 (none) ∈ gw := gt_4 (i := 52) (by decide +kernel) rfl
theorem w_774 : Cond.methodLink "LaceBonds$LawReader" 78 ⟨"LaceBonds$Tape", "refuse", "(I)V"⟩ ∈ gw := gt_4 (i := 54) (by decide +kernel) rfl
theorem w_775 : Cond.methodLink "LaceBonds$LawReader" 64 ⟨"LaceBonds$Law", "addStep", "(I)V"⟩ ∈ gw := gt_4 (i := 55) (by decide +kernel) rfl
theorem w_776 : Cond.instanceMethod ⟨"LaceBonds$Law", "addStep", "(I)V"⟩ ∈ gw := gt_4 (i := 56) (by decide +kernel) rfl
theorem w_777 : Cond.selects "LaceBonds$Law" ⟨"LaceBonds$Law", "addStep", "(I)V"⟩ ⟨"LaceBonds$Law", "addStep", "(I)V"⟩ ∈ gw := gt_4 (i := 57) (by decide +kernel) rfl
theorem w_778 : Cond.code ⟨"LaceBonds$Law", "addStep", "(I)V"⟩ prog_6_method_5_code 2 (none) ∈ gw := gt_4 (i := 58) (by decide +kernel) rfl
theorem w_779 : Cond.methodLink "LaceBonds$LawReader" 81 ⟨"LaceBonds$Tape", "takesSign", "(C)Z"⟩ ∈ gw := gt_4 (i := 59) (by decide +kernel) rfl
theorem w_780 : Cond.instanceMethod ⟨"LaceBonds$Tape", "takesSign", "(C)Z"⟩ ∈ gw := gt_4 (i := 60) (by decide +kernel) rfl
theorem w_781 : Cond.selects "LaceBonds$Tape" ⟨"LaceBonds$Tape", "takesSign", "(C)Z"⟩ ⟨"LaceBonds$Tape", "takesSign", "(C)Z"⟩ ∈ gw := gt_4 (i := 61) (by decide +kernel) rfl
theorem w_782 : Cond.code ⟨"LaceBonds$Tape", "takesSign", "(C)Z"⟩ prog_10_method_9_code 2 (Option.some ClassFile.FieldType.boolean) ∈ gw := gt_4 (i := 62) (by decide +kernel) rfl
theorem w_783 : Cond.methodLink "LaceBonds$LawReader" 85 ⟨"LaceBonds$Tape", "needSign", "(C)V"⟩ ∈ gw := gt_4 (i := 63) (by decide +kernel) rfl
theorem w_784 : Cond.instanceMethod ⟨"LaceBonds$Tape", "needSign", "(C)V"⟩ ∈ gw := gt_4 (i := 64) (by decide +kernel) rfl
theorem w_785 : Cond.selects "LaceBonds$Tape" ⟨"LaceBonds$Tape", "needSign", "(C)V"⟩ ⟨"LaceBonds$Tape", "needSign", "(C)V"⟩ ∈ gw := gt_4 (i := 65) (by decide +kernel) rfl
theorem w_786 : Cond.code ⟨"LaceBonds$Tape", "needSign", "(C)V"⟩ prog_10_method_11_code 2 (none) ∈ gw := gt_4 (i := 66) (by decide +kernel) rfl
theorem w_787 : Cond.methodLink "LaceBonds$Tape" 55 ⟨"LaceBonds$Tape", "takesSign", "(C)Z"⟩ ∈ gw := gt_4 (i := 67) (by decide +kernel) rfl
theorem w_79 : Cond.fieldLink "LaceBonds$Book" 9 "LaceBonds$Book" "rows" "[I" ∈ gw := gt_1 (i := 79) (by decide +kernel) rfl
theorem w_790 : Cond.methodLink "LaceBonds$LawReader" 93 ⟨"LaceBonds$LawReader", "readComparison", "()V"⟩ ∈ gw := gt_4 (i := 70) (by decide +kernel) rfl
theorem w_792 : Cond.instanceMethod ⟨"LaceBonds$LawReader", "readComparison", "()V"⟩ ∈ gw := gt_4 (i := 72) (by decide +kernel) rfl
theorem w_793 : Cond.code ⟨"LaceBonds$LawReader", "readComparison", "()V"⟩ prog_7_method_7_code 1 (none) ∈ gw := gt_4 (i := 73) (by decide +kernel) rfl
theorem w_794 : Cond.methodLink "LaceBonds$LawReader" 96 ⟨"LaceBonds$LawReader", "readSum", "()V"⟩ ∈ gw := gt_4 (i := 74) (by decide +kernel) rfl
theorem w_796 : Cond.instanceMethod ⟨"LaceBonds$LawReader", "readSum", "()V"⟩ ∈ gw := gt_4 (i := 76) (by decide +kernel) rfl
theorem w_797 : Cond.code ⟨"LaceBonds$LawReader", "readSum", "()V"⟩ prog_7_method_8_code 2 (none) ∈ gw := gt_4 (i := 77) (by decide +kernel) rfl
theorem w_798 : Cond.methodLink "LaceBonds$LawReader" 99 ⟨"LaceBonds$LawReader", "readPart", "()V"⟩ ∈ gw := gt_4 (i := 78) (by decide +kernel) rfl
theorem w_8 : Cond.initialized "LaceBonds$LawReader" ∈ gw := gt_1 (i := 8) (by decide +kernel) rfl
theorem w_80 : Cond.fieldLink "LaceBonds$Book" 15 "LaceBonds$Book" "next" "I" ∈ gw := gt_1 (i := 80) (by decide +kernel) rfl
theorem w_800 : Cond.instanceMethod ⟨"LaceBonds$LawReader", "readPart", "()V"⟩ ∈ gw := gt_4 (i := 80) (by decide +kernel) rfl
theorem w_801 : Cond.code ⟨"LaceBonds$LawReader", "readPart", "()V"⟩ prog_7_method_9_code 1 (none) ∈ gw := gt_4 (i := 81) (by decide +kernel) rfl
theorem w_802 : Cond.methodLink "LaceBonds$LawReader" 102 ⟨"LaceBonds$Tape", "isAtNumber", "()Z"⟩ ∈ gw := gt_4 (i := 82) (by decide +kernel) rfl
theorem w_803 : Cond.instanceMethod ⟨"LaceBonds$Tape", "isAtNumber", "()Z"⟩ ∈ gw := gt_4 (i := 83) (by decide +kernel) rfl
theorem w_804 : Cond.selects "LaceBonds$Tape" ⟨"LaceBonds$Tape", "isAtNumber", "()Z"⟩ ⟨"LaceBonds$Tape", "isAtNumber", "()Z"⟩ ∈ gw := gt_4 (i := 84) (by decide +kernel) rfl
theorem w_805 : Cond.code ⟨"LaceBonds$Tape", "isAtNumber", "()Z"⟩ prog_10_method_13_code 1 (Option.some ClassFile.FieldType.boolean) ∈ gw := gt_4 (i := 85) (by decide +kernel) rfl
theorem w_81 : Cond.fieldLink "LaceBonds$Book" 19 "LaceBonds$Book" "size" "I" ∈ gw := gt_1 (i := 81) (by decide +kernel) rfl
theorem w_815 : Cond.methodLink "LaceBonds$LawReader" 45 ⟨"LaceBonds$Law", "closeLine", "()V"⟩ ∈ gw := gt_4 (i := 95) (by decide +kernel) rfl
theorem w_816 : Cond.instanceMethod ⟨"LaceBonds$Law", "closeLine", "()V"⟩ ∈ gw := gt_4 (i := 96) (by decide +kernel) rfl
theorem w_817 : Cond.selects "LaceBonds$Law" ⟨"LaceBonds$Law", "closeLine", "()V"⟩ ⟨"LaceBonds$Law", "closeLine", "()V"⟩ ∈ gw := gt_4 (i := 97) (by decide +kernel) rfl
theorem w_818 : Cond.code ⟨"LaceBonds$Law", "closeLine", "()V"⟩ prog_6_method_6_code 1 (none) ∈ gw := gt_4 (i := 98) (by decide +kernel) rfl
theorem w_819 : Cond.methodLink "LaceBonds$Reader" 32 ⟨"LaceBonds$Tape", "refuse", "(I)V"⟩ ∈ gw := gt_4 (i := 99) (by decide +kernel) rfl
theorem w_82 : Cond.fieldLink "LaceBonds" 403 "LaceBonds$Book" "size" "I" ∈ gw := gt_1 (i := 82) (by decide +kernel) rfl
theorem w_820 : Cond.methodLink "LaceBonds$Reader" 36 ⟨"LaceBonds$Tape", "takesSign", "(C)Z"⟩ ∈ gw := gt_4 (i := 100) (by decide +kernel) rfl
theorem w_821 : Cond.methodLink "LaceBonds" 109 ⟨"LaceBonds$Tape", "isRight", "()Z"⟩ ∈ gw := gt_4 (i := 101) (by decide +kernel) rfl
theorem w_822 : Cond.classLink "LaceBonds" 113 "java/lang/IllegalArgumentException" ∈ gw := gt_4 (i := 102) (by decide +kernel) rfl
theorem w_892 : Cond.classLink "LaceBonds" 123 "java/lang/UnsupportedOperationException" ∈ gw := gt_4 (i := 172) (by decide +kernel) rfl
theorem w_9 : Cond.initialized "LaceBonds$Acts" ∈ gw := gt_1 (i := 9) (by decide +kernel) rfl
theorem w_90 : Cond.fieldLink "LaceBonds$Land" 9 "LaceBonds$Land" "people" "I" ∈ gw := gt_1 (i := 90) (by decide +kernel) rfl
theorem w_91 : Cond.fieldLink "LaceBonds$LandReader" 68 "LaceBonds$Land" "people" "I" ∈ gw := gt_1 (i := 91) (by decide +kernel) rfl
theorem w_911 : Cond.methodLink "LaceBondsLaw" 17 ⟨"LaceBonds", "law", "()I"⟩ ∈ gw := gt_4 (i := 191) (by decide +kernel) rfl
theorem w_912 : Cond.instanceMethod ⟨"LaceBonds", "law", "()I"⟩ ∈ gw := gt_4 (i := 192) (by decide +kernel) rfl
theorem w_913 : Cond.selects "LaceBonds" ⟨"LaceBonds", "law", "()I"⟩ ⟨"LaceBonds", "law", "()I"⟩ ∈ gw := gt_4 (i := 193) (by decide +kernel) rfl
theorem w_914 : Cond.code ⟨"LaceBonds", "law", "()I"⟩ prog_1_method_5_code 1 (Option.some ClassFile.FieldType.int) ∈ gw := gt_4 (i := 194) (by decide +kernel) rfl
theorem w_915 : Cond.methodLink "LaceBonds" 131 ⟨"LaceBonds$Law", "clear", "()V"⟩ ∈ gw := gt_4 (i := 195) (by decide +kernel) rfl
theorem w_916 : Cond.instanceMethod ⟨"LaceBonds$Law", "clear", "()V"⟩ ∈ gw := gt_4 (i := 196) (by decide +kernel) rfl
theorem w_917 : Cond.selects "LaceBonds$Law" ⟨"LaceBonds$Law", "clear", "()V"⟩ ⟨"LaceBonds$Law", "clear", "()V"⟩ ∈ gw := gt_4 (i := 197) (by decide +kernel) rfl
theorem w_918 : Cond.code ⟨"LaceBonds$Law", "clear", "()V"⟩ prog_6_method_2_code 1 (none) ∈ gw := gt_4 (i := 198) (by decide +kernel) rfl
theorem w_919 : Cond.methodLink "LaceBonds" 134 ⟨"LaceBonds$LawReader", "readAll", "()V"⟩ ∈ gw := gt_4 (i := 199) (by decide +kernel) rfl
theorem w_92 : Cond.fieldLink "LaceBonds$Rings" 58 "LaceBonds$Land" "people" "I" ∈ gw := gt_1 (i := 92) (by decide +kernel) rfl
theorem w_920 : Cond.sameMethod "LaceBonds$LawReader" "LaceBonds$Reader" "readAll" "()V" ∈ gw := gt_4 (i := 200) (by decide +kernel) rfl
theorem w_921 : Cond.selects "LaceBonds$LawReader" ⟨"LaceBonds$LawReader", "readAll", "()V"⟩ ⟨"LaceBonds$Reader", "readAll", "()V"⟩ ∈ gw := gt_4 (i := 201) (by decide +kernel) rfl
theorem w_926 : Cond.classLink "LaceBondsLaw" 24 "java/lang/IndexOutOfBoundsException" ∈ gw := gt_4 (i := 206) (by decide +kernel) rfl
theorem w_927 : Cond.classLink "LaceBondsLaw" 26 "java/util/NoSuchElementException" ∈ gw := gt_4 (i := 207) (by decide +kernel) rfl
theorem w_928 : Cond.methodLink "LaceBondsLaw" 20 ⟨"LaceBonds", "person", "(II)I"⟩ ∈ gw := gt_4 (i := 208) (by decide +kernel) rfl
theorem w_929 : Cond.instanceMethod ⟨"LaceBonds", "person", "(II)I"⟩ ∈ gw := gt_4 (i := 209) (by decide +kernel) rfl
theorem w_93 : Cond.fieldLink "LaceBonds" 291 "LaceBonds$Land" "people" "I" ∈ gw := gt_1 (i := 93) (by decide +kernel) rfl
theorem w_930 : Cond.selects "LaceBonds" ⟨"LaceBonds", "person", "(II)I"⟩ ⟨"LaceBonds", "person", "(II)I"⟩ ∈ gw := gt_4 (i := 210) (by decide +kernel) rfl
theorem w_931 : Cond.code ⟨"LaceBonds", "person", "(II)I"⟩ prog_1_method_7_code 3 (Option.some ClassFile.FieldType.int) ∈ gw := gt_4 (i := 211) (by decide +kernel) rfl
theorem w_932 : Cond.methodLink "LaceBonds" 149 ⟨"LaceBonds", "needPerson", "(I)V"⟩ ∈ gw := gt_4 (i := 212) (by decide +kernel) rfl
theorem w_934 : Cond.instanceMethod ⟨"LaceBonds", "needPerson", "(I)V"⟩ ∈ gw := gt_4 (i := 214) (by decide +kernel) rfl
theorem w_935 : Cond.code ⟨"LaceBonds", "needPerson", "(I)V"⟩ prog_1_method_50_code 2 (none) ∈ gw := gt_4 (i := 215) (by decide +kernel) rfl
theorem w_936 : Cond.methodLink "LaceBonds" 237 ⟨"LaceBonds", "isOutside", "(III)Z"⟩ ∈ gw := gt_4 (i := 216) (by decide +kernel) rfl
theorem w_937 : Cond.classLink "LaceBonds" 430 "java/lang/IndexOutOfBoundsException" ∈ gw := gt_4 (i := 217) (by decide +kernel) rfl
theorem w_94 : Cond.fieldLink "LaceBonds$Land" 15 "LaceBonds$Land" "texts" "I" ∈ gw := gt_1 (i := 94) (by decide +kernel) rfl
theorem w_95 : Cond.fieldLink "LaceBonds" 120 "LaceBonds$Land" "texts" "I" ∈ gw := gt_1 (i := 95) (by decide +kernel) rfl
theorem w_953 : Cond.methodLink "LaceBonds" 168 ⟨"LaceBonds$Land", "gaitOf", "(I)I"⟩ ∈ gw := gt_4 (i := 233) (by decide +kernel) rfl
theorem w_954 : Cond.methodLink "LaceBonds" 172 ⟨"LaceBonds$Land", "heldBy", "(I)I"⟩ ∈ gw := gt_4 (i := 234) (by decide +kernel) rfl
theorem w_955 : Cond.methodLink "LaceBonds" 178 ⟨"LaceBonds$Land", "dueTo", "(I)I"⟩ ∈ gw := gt_4 (i := 235) (by decide +kernel) rfl
theorem w_956 : Cond.instanceMethod ⟨"LaceBonds$Land", "dueTo", "(I)I"⟩ ∈ gw := gt_4 (i := 236) (by decide +kernel) rfl
theorem w_957 : Cond.selects "LaceBonds$Land" ⟨"LaceBonds$Land", "dueTo", "(I)I"⟩ ⟨"LaceBonds$Land", "dueTo", "(I)I"⟩ ∈ gw := gt_4 (i := 237) (by decide +kernel) rfl
theorem w_958 : Cond.code ⟨"LaceBonds$Land", "dueTo", "(I)I"⟩ prog_4_method_17_code 2 (Option.some ClassFile.FieldType.int) ∈ gw := gt_4 (i := 238) (by decide +kernel) rfl
theorem w_959 : Cond.methodLink "LaceBonds$Land" 152 ⟨"LaceBonds$Land", "heldBy", "(I)I"⟩ ∈ gw := gt_4 (i := 239) (by decide +kernel) rfl
theorem w_96 : Cond.fieldLink "LaceBonds$Land" 18 "LaceBonds$Land" "day" "I" ∈ gw := gt_1 (i := 96) (by decide +kernel) rfl
theorem w_960 : Cond.methodLink "LaceBonds" 181 ⟨"LaceBonds$Land", "shareOf", "(I)I"⟩ ∈ gw := gt_5 (i := 0) (by decide +kernel) rfl
theorem w_961 : Cond.instanceMethod ⟨"LaceBonds$Land", "shareOf", "(I)I"⟩ ∈ gw := gt_5 (i := 1) (by decide +kernel) rfl
theorem w_962 : Cond.selects "LaceBonds$Land" ⟨"LaceBonds$Land", "shareOf", "(I)I"⟩ ⟨"LaceBonds$Land", "shareOf", "(I)I"⟩ ∈ gw := gt_5 (i := 2) (by decide +kernel) rfl
theorem w_963 : Cond.code ⟨"LaceBonds$Land", "shareOf", "(I)I"⟩ prog_4_method_20_code 4 (Option.some ClassFile.FieldType.int) ∈ gw := gt_5 (i := 3) (by decide +kernel) rfl
theorem w_964 : Cond.methodLink "LaceBonds$Land" 159 ⟨"LaceBonds$Land", "lacesThatAre", "(I)I"⟩ ∈ gw := gt_5 (i := 4) (by decide +kernel) rfl
theorem w_965 : Cond.classLink "LaceBonds" 184 "java/util/NoSuchElementException" ∈ gw := gt_5 (i := 5) (by decide +kernel) rfl
theorem w_97 : Cond.fieldLink "LaceBonds$LandReader" 63 "LaceBonds$Land" "day" "I" ∈ gw := gt_1 (i := 97) (by decide +kernel) rfl
theorem w_98 : Cond.fieldLink "LaceBonds$Law" 81 "LaceBonds$Land" "day" "I" ∈ gw := gt_1 (i := 98) (by decide +kernel) rfl
theorem w_984 : Cond.methodLink "LaceBondsLaw" 28 ⟨"LaceBonds", "lace", "(II)I"⟩ ∈ gw := gt_5 (i := 24) (by decide +kernel) rfl
theorem w_985 : Cond.instanceMethod ⟨"LaceBonds", "lace", "(II)I"⟩ ∈ gw := gt_5 (i := 25) (by decide +kernel) rfl
theorem w_986 : Cond.selects "LaceBonds" ⟨"LaceBonds", "lace", "(II)I"⟩ ⟨"LaceBonds", "lace", "(II)I"⟩ ∈ gw := gt_5 (i := 26) (by decide +kernel) rfl
theorem w_987 : Cond.code ⟨"LaceBonds", "lace", "(II)I"⟩ prog_1_method_8_code 3 (Option.some ClassFile.FieldType.int) ∈ gw := gt_5 (i := 27) (by decide +kernel) rfl
theorem w_988 : Cond.methodLink "LaceBonds" 189 ⟨"LaceBonds", "needLace", "(I)V"⟩ ∈ gw := gt_5 (i := 28) (by decide +kernel) rfl
theorem w_99 : Cond.fieldLink "LaceBonds" 263 "LaceBonds$Land" "day" "I" ∈ gw := gt_1 (i := 99) (by decide +kernel) rfl
theorem w_990 : Cond.instanceMethod ⟨"LaceBonds", "needLace", "(I)V"⟩ ∈ gw := gt_5 (i := 30) (by decide +kernel) rfl
theorem w_991 : Cond.code ⟨"LaceBonds", "needLace", "(I)V"⟩ prog_1_method_51_code 2 (none) ∈ gw := gt_5 (i := 31) (by decide +kernel) rfl
theorem w_997 : Cond.methodLink "LaceBondsLaw" 31 ⟨"LaceBonds", "mud", "(I)I"⟩ ∈ gw := gt_5 (i := 37) (by decide +kernel) rfl
theorem w_998 : Cond.instanceMethod ⟨"LaceBonds", "mud", "(I)I"⟩ ∈ gw := gt_5 (i := 38) (by decide +kernel) rfl
theorem w_999 : Cond.selects "LaceBonds" ⟨"LaceBonds", "mud", "(I)I"⟩ ⟨"LaceBonds", "mud", "(I)I"⟩ ∈ gw := gt_5 (i := 39) (by decide +kernel) rfl
theorem ws_0 : Cond.selects "LaceBonds$Rings" ⟨"LaceBonds$Rings", "gather", "(LLaceBonds$Land;)I"⟩ ⟨"LaceBonds$Rings", "gather", "(LLaceBonds$Land;)I"⟩ ∈ gw := gw_in (i := 0) (by decide +kernel) rfl
theorem ws_1 : Cond.selects "LaceBonds$Rings" ⟨"LaceBonds$Rings", "isBalanced", "()Z"⟩ ⟨"LaceBonds$Rings", "isBalanced", "()Z"⟩ ∈ gw := gw_in (i := 1) (by decide +kernel) rfl
theorem ws_10 : Cond.selects "LaceBonds$LandReader" ⟨"LaceBonds$LandReader", "readPledge", "()V"⟩ ⟨"LaceBonds$LandReader", "readPledge", "()V"⟩ ∈ gw := gw_in (i := 10) (by decide +kernel) rfl
theorem ws_100 : Cond.selects "LaceBondsModel" ⟨"LaceBondsModel", "isPaid", "(II)V"⟩ ⟨"LaceBondsModel", "isPaid", "(II)V"⟩ ∈ gw := gw_in (i := 100) (by decide +kernel) rfl
theorem ws_101 : Cond.selects "LaceBondsModel" ⟨"LaceBondsModel", "oneDay", "(Z)V"⟩ ⟨"LaceBondsModel", "oneDay", "(Z)V"⟩ ∈ gw := gw_in (i := 101) (by decide +kernel) rfl
theorem ws_102 : Cond.selects "LaceBondsModel" ⟨"LaceBondsModel", "drawn", "(I)I"⟩ ⟨"LaceBondsModel", "drawn", "(I)I"⟩ ∈ gw := gw_in (i := 102) (by decide +kernel) rfl
theorem ws_103 : Cond.selects "LaceBondsModel" ⟨"LaceBondsModel", "falls", "(I)V"⟩ ⟨"LaceBondsModel", "falls", "(I)V"⟩ ∈ gw := gw_in (i := 103) (by decide +kernel) rfl
theorem ws_104 : Cond.selects "LaceBondsModel" ⟨"LaceBondsModel", "walksOn", "(I)V"⟩ ⟨"LaceBondsModel", "walksOn", "(I)V"⟩ ∈ gw := gw_in (i := 104) (by decide +kernel) rfl
theorem ws_105 : Cond.selects "LaceBondsModel" ⟨"LaceBondsModel", "isCalled", "(I)V"⟩ ⟨"LaceBondsModel", "isCalled", "(I)V"⟩ ∈ gw := gw_in (i := 105) (by decide +kernel) rfl
theorem ws_106 : Cond.selects "LaceBondsModel" ⟨"LaceBondsModel", "isLostNow", "(I)V"⟩ ⟨"LaceBondsModel", "isLostNow", "(I)V"⟩ ∈ gw := gw_in (i := 106) (by decide +kernel) rfl
theorem ws_107 : Cond.selects "LaceBondsModel" ⟨"LaceBondsModel", "keepsAll", "()V"⟩ ⟨"LaceBondsModel", "keepsAll", "()V"⟩ ∈ gw := gw_in (i := 107) (by decide +kernel) rfl
theorem ws_108 : Cond.selects "LaceBondsModel" ⟨"LaceBondsModel", "bringsBack", "()V"⟩ ⟨"LaceBondsModel", "bringsBack", "()V"⟩ ∈ gw := gw_in (i := 108) (by decide +kernel) rfl
theorem ws_109 : Cond.selects "LaceBondsModel" ⟨"LaceBondsModel", "comesTo", "(II)I"⟩ ⟨"LaceBondsModel", "comesTo", "(II)I"⟩ ∈ gw := gw_in (i := 109) (by decide +kernel) rfl
theorem ws_11 : Cond.selects "LaceBonds$LandReader" ⟨"LaceBonds$LandReader", "takeLaceInShoe", "()I"⟩ ⟨"LaceBonds$LandReader", "takeLaceInShoe", "()I"⟩ ∈ gw := gw_in (i := 11) (by decide +kernel) rfl
theorem ws_110 : Cond.selects "LaceBondsModel" ⟨"LaceBondsModel", "laysLeast", "()V"⟩ ⟨"LaceBondsModel", "laysLeast", "()V"⟩ ∈ gw := gw_in (i := 110) (by decide +kernel) rfl
theorem ws_111 : Cond.selects "LaceBondsModel" ⟨"LaceBondsModel", "leastBy", "(III)I"⟩ ⟨"LaceBondsModel", "leastBy", "(III)I"⟩ ∈ gw := gw_in (i := 111) (by decide +kernel) rfl
theorem ws_112 : Cond.selects "LaceBondsModel" ⟨"LaceBondsModel", "leastOf", "(II)I"⟩ ⟨"LaceBondsModel", "leastOf", "(II)I"⟩ ∈ gw := gw_in (i := 112) (by decide +kernel) rfl
theorem ws_113 : Cond.selects "LaceBondsModel" ⟨"LaceBondsModel", "pledgedOnes", "()I"⟩ ⟨"LaceBondsModel", "pledgedOnes", "()I"⟩ ∈ gw := gw_in (i := 113) (by decide +kernel) rfl
theorem ws_114 : Cond.selects "LaceBondsModel" ⟨"LaceBondsModel", "isRing", "(I)Z"⟩ ⟨"LaceBondsModel", "isRing", "(I)Z"⟩ ∈ gw := gw_in (i := 114) (by decide +kernel) rfl
theorem ws_115 : Cond.selects "LaceBondsModel" ⟨"LaceBondsModel", "leadsFrom", "(I)I"⟩ ⟨"LaceBondsModel", "leadsFrom", "(I)I"⟩ ∈ gw := gw_in (i := 115) (by decide +kernel) rfl
theorem ws_116 : Cond.selects "LaceBondsModel" ⟨"LaceBondsModel", "holdersOf", "(I)I"⟩ ⟨"LaceBondsModel", "holdersOf", "(I)I"⟩ ∈ gw := gw_in (i := 116) (by decide +kernel) rfl
theorem ws_117 : Cond.selects "LaceBondsModel" ⟨"LaceBondsModel", "amountOf", "(I)I"⟩ ⟨"LaceBondsModel", "amountOf", "(I)I"⟩ ∈ gw := gw_in (i := 117) (by decide +kernel) rfl
theorem ws_118 : Cond.selects "LaceBondsModel" ⟨"LaceBondsModel", "canBePaid", "(I)Z"⟩ ⟨"LaceBondsModel", "canBePaid", "(I)Z"⟩ ∈ gw := gw_in (i := 118) (by decide +kernel) rfl
theorem ws_119 : Cond.selects "LaceBondsModel" ⟨"LaceBondsModel", "isLostBy", "(II)Z"⟩ ⟨"LaceBondsModel", "isLostBy", "(II)Z"⟩ ∈ gw := gw_in (i := 119) (by decide +kernel) rfl
theorem ws_12 : Cond.selects "LaceBonds$LandReader" ⟨"LaceBonds$LandReader", "takeOther", "(II)I"⟩ ⟨"LaceBonds$LandReader", "takeOther", "(II)I"⟩ ∈ gw := gw_in (i := 12) (by decide +kernel) rfl
theorem ws_120 : Cond.selects "LaceBondsModel" ⟨"LaceBondsModel", "hangsOn", "(I)I"⟩ ⟨"LaceBondsModel", "hangsOn", "(I)I"⟩ ∈ gw := gw_in (i := 120) (by decide +kernel) rfl
theorem ws_121 : Cond.selects "LaceBondsModel" ⟨"LaceBondsModel", "everybody", "()I"⟩ ⟨"LaceBondsModel", "everybody", "()I"⟩ ∈ gw := gw_in (i := 121) (by decide +kernel) rfl
theorem ws_122 : Cond.selects "LaceBondsModel" ⟨"LaceBondsModel", "isNeeded", "(I)Z"⟩ ⟨"LaceBondsModel", "isNeeded", "(I)Z"⟩ ∈ gw := gw_in (i := 122) (by decide +kernel) rfl
theorem ws_123 : Cond.selects "LaceBondsModel" ⟨"LaceBondsModel", "isTold", "()Z"⟩ ⟨"LaceBondsModel", "isTold", "()Z"⟩ ∈ gw := gw_in (i := 123) (by decide +kernel) rfl
theorem ws_124 : Cond.selects "LaceBondsModel" ⟨"LaceBondsModel", "fits", "(I)Z"⟩ ⟨"LaceBondsModel", "fits", "(I)Z"⟩ ∈ gw := gw_in (i := 124) (by decide +kernel) rfl
theorem ws_125 : Cond.selects "LaceBondsModel" ⟨"LaceBondsModel", "asFastAs", "(I)I"⟩ ⟨"LaceBondsModel", "asFastAs", "(I)I"⟩ ∈ gw := gw_in (i := 125) (by decide +kernel) rfl
theorem ws_126 : Cond.selects "LaceBondsModel" ⟨"LaceBondsModel", "ofLog", "(II)I"⟩ ⟨"LaceBondsModel", "ofLog", "(II)I"⟩ ∈ gw := gw_in (i := 126) (by decide +kernel) rfl
theorem ws_127 : Cond.selects "LaceBondsModel" ⟨"LaceBondsModel", "pursesOfAll", "()I"⟩ ⟨"LaceBondsModel", "pursesOfAll", "()I"⟩ ∈ gw := gw_in (i := 127) (by decide +kernel) rfl
theorem ws_13 : Cond.selects "LaceBonds$LandReader" ⟨"LaceBonds$LandReader", "readMud", "()V"⟩ ⟨"LaceBonds$LandReader", "readMud", "()V"⟩ ∈ gw := gw_in (i := 13) (by decide +kernel) rfl
theorem ws_14 : Cond.selects "LaceBonds$LandReader" ⟨"LaceBonds$LandReader", "readGoal", "()V"⟩ ⟨"LaceBonds$LandReader", "readGoal", "()V"⟩ ∈ gw := gw_in (i := 14) (by decide +kernel) rfl
theorem ws_15 : Cond.selects "LaceBonds$LawReader" ⟨"LaceBonds$LawReader", "takeKind", "()I"⟩ ⟨"LaceBonds$LawReader", "takeKind", "()I"⟩ ∈ gw := gw_in (i := 15) (by decide +kernel) rfl
theorem ws_16 : Cond.selects "LaceBonds$LawReader" ⟨"LaceBonds$LawReader", "readAny", "(I)V"⟩ ⟨"LaceBonds$LawReader", "readAny", "(I)V"⟩ ∈ gw := gw_in (i := 16) (by decide +kernel) rfl
theorem ws_17 : Cond.selects "LaceBonds$LawReader" ⟨"LaceBonds$LawReader", "readEach", "(I)V"⟩ ⟨"LaceBonds$LawReader", "readEach", "(I)V"⟩ ∈ gw := gw_in (i := 17) (by decide +kernel) rfl
theorem ws_18 : Cond.selects "LaceBonds$LawReader" ⟨"LaceBonds$LawReader", "readAtom", "(I)V"⟩ ⟨"LaceBonds$LawReader", "readAtom", "(I)V"⟩ ∈ gw := gw_in (i := 18) (by decide +kernel) rfl
theorem ws_19 : Cond.selects "LaceBonds$LawReader" ⟨"LaceBonds$LawReader", "readComparison", "()V"⟩ ⟨"LaceBonds$LawReader", "readComparison", "()V"⟩ ∈ gw := gw_in (i := 19) (by decide +kernel) rfl
theorem ws_2 : Cond.selects "LaceBonds$Rings" ⟨"LaceBonds$Rings", "take", "(I)V"⟩ ⟨"LaceBonds$Rings", "take", "(I)V"⟩ ∈ gw := gw_in (i := 2) (by decide +kernel) rfl
theorem ws_20 : Cond.selects "LaceBonds$LawReader" ⟨"LaceBonds$LawReader", "readSum", "()V"⟩ ⟨"LaceBonds$LawReader", "readSum", "()V"⟩ ∈ gw := gw_in (i := 20) (by decide +kernel) rfl
theorem ws_21 : Cond.selects "LaceBonds$LawReader" ⟨"LaceBonds$LawReader", "readPart", "()V"⟩ ⟨"LaceBonds$LawReader", "readPart", "()V"⟩ ∈ gw := gw_in (i := 21) (by decide +kernel) rfl
theorem ws_23 : Cond.selects "LaceBonds" ⟨"LaceBonds", "needPerson", "(I)V"⟩ ⟨"LaceBonds", "needPerson", "(I)V"⟩ ∈ gw := gw_in (i := 23) (by decide +kernel) rfl
theorem ws_24 : Cond.selects "LaceBonds" ⟨"LaceBonds", "needLace", "(I)V"⟩ ⟨"LaceBonds", "needLace", "(I)V"⟩ ∈ gw := gw_in (i := 24) (by decide +kernel) rfl
theorem ws_25 : Cond.selects "LaceBonds" ⟨"LaceBonds", "needPlace", "(I)V"⟩ ⟨"LaceBonds", "needPlace", "(I)V"⟩ ∈ gw := gw_in (i := 25) (by decide +kernel) rfl
theorem ws_26 : Cond.selects "LaceBonds" ⟨"LaceBonds", "needPledged", "(I)V"⟩ ⟨"LaceBonds", "needPledged", "(I)V"⟩ ∈ gw := gw_in (i := 26) (by decide +kernel) rfl
theorem ws_27 : Cond.selects "LaceBonds$Land" ⟨"LaceBonds$Land", "walkAll", "(LLaceBonds$Law;Z)I"⟩ ⟨"LaceBonds$Land", "walkAll", "(LLaceBonds$Law;Z)I"⟩ ∈ gw := gw_in (i := 27) (by decide +kernel) rfl
theorem ws_28 : Cond.selects "LaceBonds$Land" ⟨"LaceBonds$Land", "draw", "()I"⟩ ⟨"LaceBonds$Land", "draw", "()I"⟩ ∈ gw := gw_in (i := 28) (by decide +kernel) rfl
theorem ws_29 : Cond.selects "LaceBonds$Land" ⟨"LaceBonds$Land", "fall", "(I)V"⟩ ⟨"LaceBonds$Land", "fall", "(I)V"⟩ ∈ gw := gw_in (i := 29) (by decide +kernel) rfl
theorem ws_3 : Cond.selects "LaceBonds$Land" ⟨"LaceBonds$Land", "partiesOf", "(I)I"⟩ ⟨"LaceBonds$Land", "partiesOf", "(I)I"⟩ ∈ gw := gw_in (i := 3) (by decide +kernel) rfl
theorem ws_30 : Cond.selects "LaceBonds$Land" ⟨"LaceBonds$Land", "walk", "(II)V"⟩ ⟨"LaceBonds$Land", "walk", "(II)V"⟩ ∈ gw := gw_in (i := 30) (by decide +kernel) rfl
theorem ws_31 : Cond.selects "LaceBonds$Land" ⟨"LaceBonds$Land", "settle", "(I)V"⟩ ⟨"LaceBonds$Land", "settle", "(I)V"⟩ ∈ gw := gw_in (i := 31) (by decide +kernel) rfl
theorem ws_32 : Cond.selects "LaceBonds" ⟨"LaceBonds", "daysTo", "(II)I"⟩ ⟨"LaceBonds", "daysTo", "(II)I"⟩ ∈ gw := gw_in (i := 32) (by decide +kernel) rfl
theorem ws_33 : Cond.selects "LaceBonds" ⟨"LaceBonds", "tellsPlaces", "(I)Z"⟩ ⟨"LaceBonds", "tellsPlaces", "(I)Z"⟩ ∈ gw := gw_in (i := 33) (by decide +kernel) rfl
theorem ws_34 : Cond.selects "LaceBonds$Ways" ⟨"LaceBonds$Ways", "with", "(II)I"⟩ ⟨"LaceBonds$Ways", "with", "(II)I"⟩ ∈ gw := gw_in (i := 34) (by decide +kernel) rfl
theorem ws_35 : Cond.selects "LaceBonds$Ways" ⟨"LaceBonds$Ways", "firstBest", "(I)I"⟩ ⟨"LaceBonds$Ways", "firstBest", "(I)I"⟩ ∈ gw := gw_in (i := 35) (by decide +kernel) rfl
theorem ws_36 : Cond.selects "LaceBonds" ⟨"LaceBonds", "needAhead", "(I)V"⟩ ⟨"LaceBonds", "needAhead", "(I)V"⟩ ∈ gw := gw_in (i := 36) (by decide +kernel) rfl
theorem ws_37 : Cond.selects "LaceBonds$Land" ⟨"LaceBonds$Land", "directCreditorsOf", "(I)I"⟩ ⟨"LaceBonds$Land", "directCreditorsOf", "(I)I"⟩ ∈ gw := gw_in (i := 37) (by decide +kernel) rfl
theorem ws_38 : Cond.selects "LaceBonds$Land" ⟨"LaceBonds$Land", "creditorOf", "(I)I"⟩ ⟨"LaceBonds$Land", "creditorOf", "(I)I"⟩ ∈ gw := gw_in (i := 38) (by decide +kernel) rfl
theorem ws_39 : Cond.selects "LaceBonds$Land" ⟨"LaceBonds$Land", "laceFor", "(II)I"⟩ ⟨"LaceBonds$Land", "laceFor", "(II)I"⟩ ∈ gw := gw_in (i := 39) (by decide +kernel) rfl
theorem ws_4 : Cond.selects "LaceBonds$Law" ⟨"LaceBonds$Law", "ask", "(LLaceBonds$Land;I)V"⟩ ⟨"LaceBonds$Law", "ask", "(LLaceBonds$Land;I)V"⟩ ∈ gw := gw_in (i := 4) (by decide +kernel) rfl
theorem ws_40 : Cond.selects "LaceBonds$Land" ⟨"LaceBonds$Land", "betterCall", "(III)I"⟩ ⟨"LaceBonds$Land", "betterCall", "(III)I"⟩ ∈ gw := gw_in (i := 40) (by decide +kernel) rfl
theorem ws_41 : Cond.selects "LaceBonds" ⟨"LaceBonds", "isSpared", "(II)Z"⟩ ⟨"LaceBonds", "isSpared", "(II)Z"⟩ ∈ gw := gw_in (i := 41) (by decide +kernel) rfl
theorem ws_42 : Cond.selects "LaceBonds" ⟨"LaceBonds", "needWearers", "(I)V"⟩ ⟨"LaceBonds", "needWearers", "(I)V"⟩ ∈ gw := gw_in (i := 42) (by decide +kernel) rfl
theorem ws_43 : Cond.selects "LaceBonds$Wearers" ⟨"LaceBonds$Wearers", "fits", "(II)Z"⟩ ⟨"LaceBonds$Wearers", "fits", "(II)Z"⟩ ∈ gw := gw_in (i := 43) (by decide +kernel) rfl
theorem ws_44 : Cond.selects "LaceBonds$Wearers" ⟨"LaceBonds$Wearers", "take", "(I)V"⟩ ⟨"LaceBonds$Wearers", "take", "(I)V"⟩ ∈ gw := gw_in (i := 44) (by decide +kernel) rfl
theorem ws_45 : Cond.selects "LaceBonds$Book" ⟨"LaceBonds$Book", "rowAt", "(I)I"⟩ ⟨"LaceBonds$Book", "rowAt", "(I)I"⟩ ∈ gw := gw_in (i := 45) (by decide +kernel) rfl
theorem ws_46 : Cond.selects "LaceBondsModel" ⟨"LaceBondsModel", "comesBack", "(I)V"⟩ ⟨"LaceBondsModel", "comesBack", "(I)V"⟩ ∈ gw := gw_in (i := 46) (by decide +kernel) rfl
theorem ws_47 : Cond.selects "LaceBondsModel" ⟨"LaceBondsModel", "tellsLace", "(IIIIII)V"⟩ ⟨"LaceBondsModel", "tellsLace", "(IIIIII)V"⟩ ∈ gw := gw_in (i := 47) (by decide +kernel) rfl
theorem ws_48 : Cond.selects "LaceBondsModel" ⟨"LaceBondsModel", "readAll", "(Z)I"⟩ ⟨"LaceBondsModel", "readAll", "(Z)I"⟩ ∈ gw := gw_in (i := 48) (by decide +kernel) rfl
theorem ws_49 : Cond.selects "LaceBondsModel" ⟨"LaceBondsModel", "uses", "()V"⟩ ⟨"LaceBondsModel", "uses", "()V"⟩ ∈ gw := gw_in (i := 49) (by decide +kernel) rfl
theorem ws_5 : Cond.selects "LaceBonds$Law" ⟨"LaceBonds$Law", "holds", "(I)Z"⟩ ⟨"LaceBonds$Law", "holds", "(I)Z"⟩ ∈ gw := gw_in (i := 5) (by decide +kernel) rfl
theorem ws_50 : Cond.selects "LaceBondsModel" ⟨"LaceBondsModel", "blanks", "()V"⟩ ⟨"LaceBondsModel", "blanks", "()V"⟩ ∈ gw := gw_in (i := 50) (by decide +kernel) rfl
theorem ws_51 : Cond.selects "LaceBondsModel" ⟨"LaceBondsModel", "isAt", "(II)Z"⟩ ⟨"LaceBondsModel", "isAt", "(II)Z"⟩ ∈ gw := gw_in (i := 51) (by decide +kernel) rfl
theorem ws_52 : Cond.selects "LaceBondsModel" ⟨"LaceBondsModel", "readLine", "(ZI)Z"⟩ ⟨"LaceBondsModel", "readLine", "(ZI)Z"⟩ ∈ gw := gw_in (i := 52) (by decide +kernel) rfl
theorem ws_53 : Cond.selects "LaceBondsModel" ⟨"LaceBondsModel", "letters", "()V"⟩ ⟨"LaceBondsModel", "letters", "()V"⟩ ∈ gw := gw_in (i := 53) (by decide +kernel) rfl
theorem ws_54 : Cond.selects "LaceBondsModel" ⟨"LaceBondsModel", "readLandLine", "()Z"⟩ ⟨"LaceBondsModel", "readLandLine", "()Z"⟩ ∈ gw := gw_in (i := 54) (by decide +kernel) rfl
theorem ws_55 : Cond.selects "LaceBondsModel" ⟨"LaceBondsModel", "isWord", "(Ljava/lang/String;)Z"⟩ ⟨"LaceBondsModel", "isWord", "(Ljava/lang/String;)Z"⟩ ∈ gw := gw_in (i := 55) (by decide +kernel) rfl
theorem ws_56 : Cond.selects "LaceBondsModel" ⟨"LaceBondsModel", "readPerson", "()Z"⟩ ⟨"LaceBondsModel", "readPerson", "()Z"⟩ ∈ gw := gw_in (i := 56) (by decide +kernel) rfl
theorem ws_57 : Cond.selects "LaceBondsModel" ⟨"LaceBondsModel", "people", "()I"⟩ ⟨"LaceBondsModel", "people", "()I"⟩ ∈ gw := gw_in (i := 57) (by decide +kernel) rfl
theorem ws_58 : Cond.selects "LaceBondsModel" ⟨"LaceBondsModel", "number", "(II)I"⟩ ⟨"LaceBondsModel", "number", "(II)I"⟩ ∈ gw := gw_in (i := 58) (by decide +kernel) rfl
theorem ws_59 : Cond.selects "LaceBondsModel" ⟨"LaceBondsModel", "after", "(Ljava/lang/String;II)I"⟩ ⟨"LaceBondsModel", "after", "(Ljava/lang/String;II)I"⟩ ∈ gw := gw_in (i := 59) (by decide +kernel) rfl
theorem ws_6 : Cond.selects "LaceBonds$Tape" ⟨"LaceBonds$Tape", "moveTo", "(I)V"⟩ ⟨"LaceBonds$Tape", "moveTo", "(I)V"⟩ ∈ gw := gw_in (i := 6) (by decide +kernel) rfl
theorem ws_60 : Cond.selects "LaceBondsModel" ⟨"LaceBondsModel", "readPledge", "()Z"⟩ ⟨"LaceBondsModel", "readPledge", "()Z"⟩ ∈ gw := gw_in (i := 60) (by decide +kernel) rfl
theorem ws_61 : Cond.selects "LaceBondsModel" ⟨"LaceBondsModel", "laces", "()I"⟩ ⟨"LaceBondsModel", "laces", "()I"⟩ ∈ gw := gw_in (i := 61) (by decide +kernel) rfl
theorem ws_62 : Cond.selects "LaceBondsModel" ⟨"LaceBondsModel", "isIn", "(I)Z"⟩ ⟨"LaceBondsModel", "isIn", "(I)Z"⟩ ∈ gw := gw_in (i := 62) (by decide +kernel) rfl
theorem ws_63 : Cond.selects "LaceBondsModel" ⟨"LaceBondsModel", "ofLace", "(II)I"⟩ ⟨"LaceBondsModel", "ofLace", "(II)I"⟩ ∈ gw := gw_in (i := 63) (by decide +kernel) rfl
theorem ws_64 : Cond.selects "LaceBondsModel" ⟨"LaceBondsModel", "passes", "(Ljava/lang/String;)Z"⟩ ⟨"LaceBondsModel", "passes", "(Ljava/lang/String;)Z"⟩ ∈ gw := gw_in (i := 64) (by decide +kernel) rfl
theorem ws_65 : Cond.selects "LaceBondsModel" ⟨"LaceBondsModel", "readMud", "()Z"⟩ ⟨"LaceBondsModel", "readMud", "()Z"⟩ ∈ gw := gw_in (i := 65) (by decide +kernel) rfl
theorem ws_66 : Cond.selects "LaceBondsModel" ⟨"LaceBondsModel", "readNumber", "(II)Z"⟩ ⟨"LaceBondsModel", "readNumber", "(II)Z"⟩ ∈ gw := gw_in (i := 66) (by decide +kernel) rfl
theorem ws_67 : Cond.selects "LaceBondsModel" ⟨"LaceBondsModel", "readGoal", "()Z"⟩ ⟨"LaceBondsModel", "readGoal", "()Z"⟩ ∈ gw := gw_in (i := 67) (by decide +kernel) rfl
theorem ws_68 : Cond.selects "LaceBondsModel" ⟨"LaceBondsModel", "readLawLine", "(I)Z"⟩ ⟨"LaceBondsModel", "readLawLine", "(I)Z"⟩ ∈ gw := gw_in (i := 68) (by decide +kernel) rfl
theorem ws_69 : Cond.selects "LaceBondsModel" ⟨"LaceBondsModel", "readCond", "()Z"⟩ ⟨"LaceBondsModel", "readCond", "()Z"⟩ ∈ gw := gw_in (i := 69) (by decide +kernel) rfl
theorem ws_7 : Cond.selects "LaceBonds$Tape" ⟨"LaceBonds$Tape", "runOf", "(CC)I"⟩ ⟨"LaceBonds$Tape", "runOf", "(CC)I"⟩ ∈ gw := gw_in (i := 7) (by decide +kernel) rfl
theorem ws_70 : Cond.selects "LaceBondsModel" ⟨"LaceBondsModel", "readAllOf", "()Z"⟩ ⟨"LaceBondsModel", "readAllOf", "()Z"⟩ ∈ gw := gw_in (i := 70) (by decide +kernel) rfl
theorem ws_71 : Cond.selects "LaceBondsModel" ⟨"LaceBondsModel", "readAtom", "()Z"⟩ ⟨"LaceBondsModel", "readAtom", "()Z"⟩ ∈ gw := gw_in (i := 71) (by decide +kernel) rfl
theorem ws_72 : Cond.selects "LaceBondsModel" ⟨"LaceBondsModel", "sign", "(I)Z"⟩ ⟨"LaceBondsModel", "sign", "(I)Z"⟩ ∈ gw := gw_in (i := 72) (by decide +kernel) rfl
theorem ws_73 : Cond.selects "LaceBondsModel" ⟨"LaceBondsModel", "emits", "(II)V"⟩ ⟨"LaceBondsModel", "emits", "(II)V"⟩ ∈ gw := gw_in (i := 73) (by decide +kernel) rfl
theorem ws_74 : Cond.selects "LaceBondsModel" ⟨"LaceBondsModel", "readTag", "()Z"⟩ ⟨"LaceBondsModel", "readTag", "()Z"⟩ ∈ gw := gw_in (i := 74) (by decide +kernel) rfl
theorem ws_75 : Cond.selects "LaceBondsModel" ⟨"LaceBondsModel", "readSum", "()Z"⟩ ⟨"LaceBondsModel", "readSum", "()Z"⟩ ∈ gw := gw_in (i := 75) (by decide +kernel) rfl
theorem ws_76 : Cond.selects "LaceBondsModel" ⟨"LaceBondsModel", "readPart", "()Z"⟩ ⟨"LaceBondsModel", "readPart", "()Z"⟩ ∈ gw := gw_in (i := 76) (by decide +kernel) rfl
theorem ws_77 : Cond.selects "LaceBondsModel" ⟨"LaceBondsModel", "throwsIf", "(ZI)Z"⟩ ⟨"LaceBondsModel", "throwsIf", "(ZI)Z"⟩ ∈ gw := gw_in (i := 77) (by decide +kernel) rfl
theorem ws_78 : Cond.selects "LaceBondsModel" ⟨"LaceBondsModel", "noPerson", "(I)Z"⟩ ⟨"LaceBondsModel", "noPerson", "(I)Z"⟩ ∈ gw := gw_in (i := 78) (by decide +kernel) rfl
theorem ws_79 : Cond.selects "LaceBondsModel" ⟨"LaceBondsModel", "heldBy", "(I)I"⟩ ⟨"LaceBondsModel", "heldBy", "(I)I"⟩ ∈ gw := gw_in (i := 79) (by decide +kernel) rfl
theorem ws_8 : Cond.selects "LaceBonds$LandReader" ⟨"LaceBonds$LandReader", "readPerson", "(I)V"⟩ ⟨"LaceBonds$LandReader", "readPerson", "(I)V"⟩ ∈ gw := gw_in (i := 8) (by decide +kernel) rfl
theorem ws_80 : Cond.selects "LaceBondsModel" ⟨"LaceBondsModel", "owesOf", "(I)I"⟩ ⟨"LaceBondsModel", "owesOf", "(I)I"⟩ ∈ gw := gw_in (i := 80) (by decide +kernel) rfl
theorem ws_81 : Cond.selects "LaceBondsModel" ⟨"LaceBondsModel", "isPledged", "(I)Z"⟩ ⟨"LaceBondsModel", "isPledged", "(I)Z"⟩ ∈ gw := gw_in (i := 81) (by decide +kernel) rfl
theorem ws_82 : Cond.selects "LaceBondsModel" ⟨"LaceBondsModel", "dueTo", "(I)I"⟩ ⟨"LaceBondsModel", "dueTo", "(I)I"⟩ ∈ gw := gw_in (i := 82) (by decide +kernel) rfl
theorem ws_83 : Cond.selects "LaceBondsModel" ⟨"LaceBondsModel", "of", "(II)I"⟩ ⟨"LaceBondsModel", "of", "(II)I"⟩ ∈ gw := gw_in (i := 83) (by decide +kernel) rfl
theorem ws_84 : Cond.selects "LaceBondsModel" ⟨"LaceBondsModel", "shareOf", "(I)I"⟩ ⟨"LaceBondsModel", "shareOf", "(I)I"⟩ ∈ gw := gw_in (i := 84) (by decide +kernel) rfl
theorem ws_85 : Cond.selects "LaceBondsModel" ⟨"LaceBondsModel", "lostOnes", "()I"⟩ ⟨"LaceBondsModel", "lostOnes", "()I"⟩ ∈ gw := gw_in (i := 85) (by decide +kernel) rfl
theorem ws_86 : Cond.selects "LaceBondsModel" ⟨"LaceBondsModel", "isLost", "(I)Z"⟩ ⟨"LaceBondsModel", "isLost", "(I)Z"⟩ ∈ gw := gw_in (i := 86) (by decide +kernel) rfl
theorem ws_87 : Cond.selects "LaceBondsModel" ⟨"LaceBondsModel", "noLace", "(I)Z"⟩ ⟨"LaceBondsModel", "noLace", "(I)Z"⟩ ∈ gw := gw_in (i := 87) (by decide +kernel) rfl
theorem ws_88 : Cond.selects "LaceBondsModel" ⟨"LaceBondsModel", "walksBy", "(I)I"⟩ ⟨"LaceBondsModel", "walksBy", "(I)I"⟩ ∈ gw := gw_in (i := 88) (by decide +kernel) rfl
theorem ws_89 : Cond.selects "LaceBondsModel" ⟨"LaceBondsModel", "hasLaw", "()Z"⟩ ⟨"LaceBondsModel", "hasLaw", "()Z"⟩ ∈ gw := gw_in (i := 89) (by decide +kernel) rfl
theorem ws_9 : Cond.selects "LaceBonds$Land" ⟨"LaceBonds$Land", "letGo", "(III)V"⟩ ⟨"LaceBonds$Land", "letGo", "(III)V"⟩ ∈ gw := gw_in (i := 9) (by decide +kernel) rfl
theorem ws_90 : Cond.selects "LaceBondsModel" ⟨"LaceBondsModel", "sumOf", "(II)I"⟩ ⟨"LaceBondsModel", "sumOf", "(II)I"⟩ ∈ gw := gw_in (i := 90) (by decide +kernel) rfl
theorem ws_91 : Cond.selects "LaceBondsModel" ⟨"LaceBondsModel", "holdsLine", "(II)Z"⟩ ⟨"LaceBondsModel", "holdsLine", "(II)Z"⟩ ∈ gw := gw_in (i := 91) (by decide +kernel) rfl
theorem ws_92 : Cond.selects "LaceBondsModel" ⟨"LaceBondsModel", "factOf", "(III)I"⟩ ⟨"LaceBondsModel", "factOf", "(III)I"⟩ ∈ gw := gw_in (i := 92) (by decide +kernel) rfl
theorem ws_93 : Cond.selects "LaceBondsModel" ⟨"LaceBondsModel", "slackOf", "(I)I"⟩ ⟨"LaceBondsModel", "slackOf", "(I)I"⟩ ∈ gw := gw_in (i := 93) (by decide +kernel) rfl
theorem ws_94 : Cond.selects "LaceBondsModel" ⟨"LaceBondsModel", "isThere", "(I)Z"⟩ ⟨"LaceBondsModel", "isThere", "(I)Z"⟩ ∈ gw := gw_in (i := 94) (by decide +kernel) rfl
theorem ws_95 : Cond.selects "LaceBondsModel" ⟨"LaceBondsModel", "fallsBy", "(I)I"⟩ ⟨"LaceBondsModel", "fallsBy", "(I)I"⟩ ∈ gw := gw_in (i := 95) (by decide +kernel) rfl
theorem ws_96 : Cond.selects "LaceBondsModel" ⟨"LaceBondsModel", "growsBy", "(I)I"⟩ ⟨"LaceBondsModel", "growsBy", "(I)I"⟩ ∈ gw := gw_in (i := 96) (by decide +kernel) rfl
theorem ws_97 : Cond.selects "LaceBondsModel" ⟨"LaceBondsModel", "remembers", "()V"⟩ ⟨"LaceBondsModel", "remembers", "()V"⟩ ∈ gw := gw_in (i := 97) (by decide +kernel) rfl
theorem ws_98 : Cond.selects "LaceBondsModel" ⟨"LaceBondsModel", "gets", "(II)V"⟩ ⟨"LaceBondsModel", "gets", "(II)V"⟩ ∈ gw := gw_in (i := 98) (by decide +kernel) rfl
theorem ws_99 : Cond.selects "LaceBondsModel" ⟨"LaceBondsModel", "tells", "(III)V"⟩ ⟨"LaceBondsModel", "tells", "(III)V"⟩ ∈ gw := gw_in (i := 99) (by decide +kernel) rfl
theorem in_0 : ∀ w ∈ u_ws RX0 TX0 3, w ∈ gw := gw_ins [(2, 29), (2, 31), (2, 33)] (by decide +kernel)
theorem in_1 : ∀ w ∈ u_ws RX1 TX1 3, w ∈ gw := gw_ins [(1, 83), (1, 85), (1, 87)] (by decide +kernel)
theorem in_10 : ∀ w ∈ u_ws RX10 TX10 5, w ∈ gw := gw_ins [(2, 86), (2, 88), (2, 90), (2, 92), (2, 94)] (by decide +kernel)
theorem in_11 : ∀ w ∈ u_ws RX11 TX11 14, w ∈ gw := gw_ins [(2, 111), (2, 113), (2, 115), (2, 117), (2, 119), (2, 121), (2, 123), (2, 125), (2, 127), (2, 129), (2, 131), (2, 133), (2, 135), (2, 137)] (by decide +kernel)
theorem in_12 : ∀ w ∈ u_ws RX12 TX12 20, w ∈ gw := gw_ins [(7, 34), (7, 36), (7, 38), (7, 40), (7, 42), (7, 44), (7, 46), (7, 48), (7, 50), (7, 52), (7, 54), (7, 56), (7, 58), (7, 60), (7, 62), (7, 64), (7, 66), (7, 68), (7, 70), (7, 72)] (by decide +kernel)
theorem in_2 : ∀ w ∈ u_ws RX2 TX2 19, w ∈ gw := gw_ins [(1, 142), (1, 144), (1, 146), (1, 148), (1, 150), (1, 152), (1, 154), (1, 156), (1, 158), (1, 160), (1, 162), (1, 164), (1, 166), (1, 168), (1, 170), (1, 172), (1, 174), (1, 176), (1, 178)] (by decide +kernel)
theorem in_3 : ∀ w ∈ u_ws RX3 TX3 3, w ∈ gw := gw_ins [(1, 239), (2, 1), (1, 237)] (by decide +kernel)
theorem in_4 : ∀ w ∈ u_ws RX4 TX4 10, w ∈ gw := gw_ins [(1, 200), (1, 202), (1, 204), (1, 206), (1, 208), (1, 210), (1, 212), (1, 214), (1, 216), (1, 218)] (by decide +kernel)
theorem in_5 : ∀ w ∈ u_ws RX5 TX5 3, w ∈ gw := gw_ins [(2, 13), (2, 14), (2, 11)] (by decide +kernel)
theorem in_7 : ∀ w ∈ u_ws RX7 TX7 4, w ∈ gw := gw_ins [(2, 48), (2, 50), (2, 52), (2, 54)] (by decide +kernel)
theorem in_8 : ∀ w ∈ u_ws RX8 TX8 5, w ∈ gw := gw_ins [(1, 55), (1, 57), (1, 59), (1, 61), (1, 63)] (by decide +kernel)
theorem in_9 : ∀ w ∈ u_ws RX9 TX9 3, w ∈ gw := gw_ins [(2, 66), (2, 68), (2, 70)] (by decide +kernel)
theorem pt_0_1 : Pt9 0 1 .int := ⟨RX0, TX0, 3, tyX0, clX0, tyX0_ok, nmX0, rfl, by decide +kernel⟩
theorem pt_0_2 : Pt9 0 2 .int := ⟨RX0, TX0, 3, tyX0, clX0, tyX0_ok, nmX0, rfl, by decide +kernel⟩
theorem pt_10_2 : Pt9 10 2 .int := ⟨RX10, TX10, 5, tyX10, clX10, tyX10_ok, nmX10, rfl, by decide +kernel⟩
theorem pt_10_3 : Pt9 10 3 .int := ⟨RX10, TX10, 5, tyX10, clX10, tyX10_ok, nmX10, rfl, by decide +kernel⟩
theorem pt_10_4 : Pt9 10 4 .int := ⟨RX10, TX10, 5, tyX10, clX10, tyX10_ok, nmX10, rfl, by decide +kernel⟩
theorem pt_11_13 : Pt9 11 13 .boolean := ⟨RX11, TX11, 14, tyX11, clX11, tyX11_ok, nmX11, rfl, by decide +kernel⟩
theorem pt_12_0 : Pt9 12 0 .int := ⟨RX12, TX12, 20, tyX12, clX12, tyX12_ok, nmX12, rfl, by decide +kernel⟩
theorem pt_12_10 : Pt9 12 10 .int := ⟨RX12, TX12, 20, tyX12, clX12, tyX12_ok, nmX12, rfl, by decide +kernel⟩
theorem pt_12_11 : Pt9 12 11 .int := ⟨RX12, TX12, 20, tyX12, clX12, tyX12_ok, nmX12, rfl, by decide +kernel⟩
theorem pt_12_12 : Pt9 12 12 .int := ⟨RX12, TX12, 20, tyX12, clX12, tyX12_ok, nmX12, rfl, by decide +kernel⟩
theorem pt_12_13 : Pt9 12 13 .int := ⟨RX12, TX12, 20, tyX12, clX12, tyX12_ok, nmX12, rfl, by decide +kernel⟩
theorem pt_12_14 : Pt9 12 14 .int := ⟨RX12, TX12, 20, tyX12, clX12, tyX12_ok, nmX12, rfl, by decide +kernel⟩
theorem pt_12_16 : Pt9 12 16 .int := ⟨RX12, TX12, 20, tyX12, clX12, tyX12_ok, nmX12, rfl, by decide +kernel⟩
theorem pt_12_6 : Pt9 12 6 .boolean := ⟨RX12, TX12, 20, tyX12, clX12, tyX12_ok, nmX12, rfl, by decide +kernel⟩
theorem pt_12_7 : Pt9 12 7 .int := ⟨RX12, TX12, 20, tyX12, clX12, tyX12_ok, nmX12, rfl, by decide +kernel⟩
theorem pt_12_9 : Pt9 12 9 .int := ⟨RX12, TX12, 20, tyX12, clX12, tyX12_ok, nmX12, rfl, by decide +kernel⟩
theorem pt_1_1 : Pt9 1 1 .int := ⟨RX1, TX1, 3, tyX1, clX1, tyX1_ok, nmX1, rfl, by decide +kernel⟩
theorem pt_1_2 : Pt9 1 2 .int := ⟨RX1, TX1, 3, tyX1, clX1, tyX1_ok, nmX1, rfl, by decide +kernel⟩
theorem pt_2_0 : Pt9 2 0 .int := ⟨RX2, TX2, 19, tyX2, clX2, tyX2_ok, nmX2, rfl, by decide +kernel⟩
theorem pt_2_1 : Pt9 2 1 .int := ⟨RX2, TX2, 19, tyX2, clX2, tyX2_ok, nmX2, rfl, by decide +kernel⟩
theorem pt_2_2 : Pt9 2 2 .int := ⟨RX2, TX2, 19, tyX2, clX2, tyX2_ok, nmX2, rfl, by decide +kernel⟩
theorem pt_2_3 : Pt9 2 3 .int := ⟨RX2, TX2, 19, tyX2, clX2, tyX2_ok, nmX2, rfl, by decide +kernel⟩
theorem pt_2_4 : Pt9 2 4 .int := ⟨RX2, TX2, 19, tyX2, clX2, tyX2_ok, nmX2, rfl, by decide +kernel⟩
theorem pt_2_5 : Pt9 2 5 .int := ⟨RX2, TX2, 19, tyX2, clX2, tyX2_ok, nmX2, rfl, by decide +kernel⟩
theorem pt_4_0 : Pt9 4 0 .boolean := ⟨RX4, TX4, 10, tyX4, clX4, tyX4_ok, nmX4, rfl, by decide +kernel⟩
theorem pt_4_1 : Pt9 4 1 .int := ⟨RX4, TX4, 10, tyX4, clX4, tyX4_ok, nmX4, rfl, by decide +kernel⟩
theorem pt_4_2 : Pt9 4 2 .int := ⟨RX4, TX4, 10, tyX4, clX4, tyX4_ok, nmX4, rfl, by decide +kernel⟩
theorem pt_7_2 : Pt9 7 2 .int := ⟨RX7, TX7, 4, tyX7, clX7, tyX7_ok, nmX7, rfl, by decide +kernel⟩
theorem pt_7_3 : Pt9 7 3 .int := ⟨RX7, TX7, 4, tyX7, clX7, tyX7_ok, nmX7, rfl, by decide +kernel⟩
theorem pt_8_1 : Pt9 8 1 .int := ⟨RX8, TX8, 5, tyX8, clX8, tyX8_ok, nmX8, rfl, by decide +kernel⟩
theorem pt_8_2 : Pt9 8 2 .int := ⟨RX8, TX8, 5, tyX8, clX8, tyX8_ok, nmX8, rfl, by decide +kernel⟩
theorem pt_8_3 : Pt9 8 3 .int := ⟨RX8, TX8, 5, tyX8, clX8, tyX8_ok, nmX8, rfl, by decide +kernel⟩
theorem pt_8_4 : Pt9 8 4 .int := ⟨RX8, TX8, 5, tyX8, clX8, tyX8_ok, nmX8, rfl, by decide +kernel⟩
theorem pt_9_2 : Pt9 9 2 .int := ⟨RX9, TX9, 3, tyX9, clX9, tyX9_ok, nmX9, rfl, by decide +kernel⟩
