def F_L_law_ : Fi := (RL, cL_law_, 7, 43, 500000, 5000000, [])
theorem w_0 : Cond.initialized "LaceBondsLaw" ∈ gw := gt_1 (i := 0) (by decide +kernel) rfl
theorem w_1006 : Cond.methodLink "LaceBondsLaw" 166 ⟨"LaceBondsLaw", "walks", "(LLaceBonds;II[J)I"⟩ ∈ gw := gt_5 (i := 46) (by decide +kernel) rfl
theorem w_1007 : Cond.static ⟨"LaceBondsLaw", "walks", "(LLaceBonds;II[J)I"⟩ ∈ gw := gt_5 (i := 47) (by decide +kernel) rfl
theorem w_1008 : Cond.codeWith ⟨"LaceBondsLaw", "walks", "(LLaceBonds;II[J)I"⟩ method_8_code 5 (Option.some ClassFile.FieldType.int) [(0, 10, 13, 24), (0, 10, 17, 26)] ∈ gw := gt_5 (i := 48) (by decide +kernel) rfl
theorem w_1021 : Cond.methodLink "LaceBondsLaw" 169 ⟨"LaceBondsLaw", "grows", "(LLaceBonds;I[J)I"⟩ ∈ gw := gt_5 (i := 61) (by decide +kernel) rfl
theorem w_1022 : Cond.static ⟨"LaceBondsLaw", "grows", "(LLaceBonds;I[J)I"⟩ ∈ gw := gt_5 (i := 62) (by decide +kernel) rfl
theorem w_1023 : Cond.codeWith ⟨"LaceBondsLaw", "grows", "(LLaceBonds;I[J)I"⟩ method_9_code 4 (Option.some ClassFile.FieldType.int) [(0, 9, 12, 24)] ∈ gw := gt_5 (i := 63) (by decide +kernel) rfl
theorem w_1033 : Cond.methodLink "LaceBondsLaw" 172 ⟨"LaceBondsLaw", "lend", "(LLaceBonds;IIIII[J)I"⟩ ∈ gw := gt_5 (i := 73) (by decide +kernel) rfl
theorem w_1034 : Cond.static ⟨"LaceBondsLaw", "lend", "(LLaceBonds;IIIII[J)I"⟩ ∈ gw := gt_5 (i := 74) (by decide +kernel) rfl
theorem w_1035 : Cond.codeWith ⟨"LaceBondsLaw", "lend", "(LLaceBonds;IIIII[J)I"⟩ method_10_code 8 (Option.some ClassFile.FieldType.int) [(0, 16, 19, 24), (0, 16, 23, 13), (0, 16, 27, 45)] ∈ gw := gt_5 (i := 75) (by decide +kernel) rfl
theorem w_1074 : Cond.methodLink "LaceBondsLaw" 176 ⟨"LaceBondsLaw", "pay", "(LLaceBonds;I[J)I"⟩ ∈ gw := gt_5 (i := 114) (by decide +kernel) rfl
theorem w_1075 : Cond.static ⟨"LaceBondsLaw", "pay", "(LLaceBonds;I[J)I"⟩ ∈ gw := gt_5 (i := 115) (by decide +kernel) rfl
theorem w_1076 : Cond.codeWith ⟨"LaceBondsLaw", "pay", "(LLaceBonds;I[J)I"⟩ method_11_code 4 (Option.some ClassFile.FieldType.int) [(0, 9, 12, 24), (0, 9, 15, 45)] ∈ gw := gt_5 (i := 116) (by decide +kernel) rfl
theorem w_1088 : Cond.methodLink "LaceBondsLaw" 179 ⟨"LaceBondsLaw", "surety", "(LLaceBonds;II[J)I"⟩ ∈ gw := gt_5 (i := 128) (by decide +kernel) rfl
theorem w_1089 : Cond.static ⟨"LaceBondsLaw", "surety", "(LLaceBonds;II[J)I"⟩ ∈ gw := gt_5 (i := 129) (by decide +kernel) rfl
theorem w_1090 : Cond.codeWith ⟨"LaceBondsLaw", "surety", "(LLaceBonds;II[J)I"⟩ method_12_code 5 (Option.some ClassFile.FieldType.int) [(0, 10, 13, 24), (0, 10, 17, 13), (0, 10, 21, 45)] ∈ gw := gt_5 (i := 130) (by decide +kernel) rfl
theorem w_1101 : Cond.methodLink "LaceBondsLaw" 182 ⟨"LaceBondsLaw", "give", "(LLaceBonds;II[J)I"⟩ ∈ gw := gt_5 (i := 141) (by decide +kernel) rfl
theorem w_1102 : Cond.static ⟨"LaceBondsLaw", "give", "(LLaceBonds;II[J)I"⟩ ∈ gw := gt_5 (i := 142) (by decide +kernel) rfl
theorem w_1103 : Cond.codeWith ⟨"LaceBondsLaw", "give", "(LLaceBonds;II[J)I"⟩ method_13_code 5 (Option.some ClassFile.FieldType.int) [(0, 10, 13, 24), (0, 10, 17, 13), (0, 10, 21, 45)] ∈ gw := gt_5 (i := 143) (by decide +kernel) rfl
theorem w_1110 : Cond.methodLink "LaceBondsLaw" 185 ⟨"LaceBondsLaw", "goal", "(LLaceBonds;II[J)I"⟩ ∈ gw := gt_5 (i := 150) (by decide +kernel) rfl
theorem w_1111 : Cond.static ⟨"LaceBondsLaw", "goal", "(LLaceBonds;II[J)I"⟩ ∈ gw := gt_5 (i := 151) (by decide +kernel) rfl
theorem w_1112 : Cond.codeWith ⟨"LaceBondsLaw", "goal", "(LLaceBonds;II[J)I"⟩ method_14_code 5 (Option.some ClassFile.FieldType.int) [(0, 10, 13, 24)] ∈ gw := gt_5 (i := 152) (by decide +kernel) rfl
theorem w_1117 : Cond.methodLink "LaceBondsLaw" 188 ⟨"LaceBondsLaw", "rest", "(LLaceBonds;I[J)I"⟩ ∈ gw := gt_5 (i := 157) (by decide +kernel) rfl
theorem w_1118 : Cond.static ⟨"LaceBondsLaw", "rest", "(LLaceBonds;I[J)I"⟩ ∈ gw := gt_5 (i := 158) (by decide +kernel) rfl
theorem w_1119 : Cond.codeWith ⟨"LaceBondsLaw", "rest", "(LLaceBonds;I[J)I"⟩ method_15_code 4 (Option.some ClassFile.FieldType.int) [(0, 9, 12, 24)] ∈ gw := gt_5 (i := 159) (by decide +kernel) rfl
theorem w_1124 : Cond.methodLink "LaceBondsLaw" 191 ⟨"LaceBondsLaw", "days", "(LLaceBonds;I[J)I"⟩ ∈ gw := gt_5 (i := 164) (by decide +kernel) rfl
theorem w_1125 : Cond.static ⟨"LaceBondsLaw", "days", "(LLaceBonds;I[J)I"⟩ ∈ gw := gt_5 (i := 165) (by decide +kernel) rfl
theorem w_1126 : Cond.codeWith ⟨"LaceBondsLaw", "days", "(LLaceBonds;I[J)I"⟩ method_16_code 4 (Option.some ClassFile.FieldType.int) [(0, 9, 12, 13)] ∈ gw := gt_5 (i := 166) (by decide +kernel) rfl
theorem w_1161 : Cond.methodLink "LaceBondsLaw" 198 ⟨"LaceBondsLaw", "comes", "(LLaceBonds;II[J)I"⟩ ∈ gw := gt_5 (i := 201) (by decide +kernel) rfl
theorem w_1162 : Cond.static ⟨"LaceBondsLaw", "comes", "(LLaceBonds;II[J)I"⟩ ∈ gw := gt_5 (i := 202) (by decide +kernel) rfl
theorem w_1163 : Cond.codeWith ⟨"LaceBondsLaw", "comes", "(LLaceBonds;II[J)I"⟩ method_17_code 5 (Option.some ClassFile.FieldType.int) [(0, 10, 13, 24)] ∈ gw := gt_5 (i := 203) (by decide +kernel) rfl
theorem w_1172 : Cond.methodLink "LaceBondsLaw" 201 ⟨"LaceBondsLaw", "soonest", "(LLaceBonds;I[J)I"⟩ ∈ gw := gt_5 (i := 212) (by decide +kernel) rfl
theorem w_1173 : Cond.static ⟨"LaceBondsLaw", "soonest", "(LLaceBonds;I[J)I"⟩ ∈ gw := gt_5 (i := 213) (by decide +kernel) rfl
theorem w_1174 : Cond.codeWith ⟨"LaceBondsLaw", "soonest", "(LLaceBonds;I[J)I"⟩ method_18_code 4 (Option.some ClassFile.FieldType.int) [(0, 9, 12, 24)] ∈ gw := gt_5 (i := 214) (by decide +kernel) rfl
theorem w_1179 : Cond.methodLink "LaceBondsLaw" 204 ⟨"LaceBondsLaw", "carry", "(LLaceBonds;I[J)I"⟩ ∈ gw := gt_5 (i := 219) (by decide +kernel) rfl
theorem w_1180 : Cond.static ⟨"LaceBondsLaw", "carry", "(LLaceBonds;I[J)I"⟩ ∈ gw := gt_5 (i := 220) (by decide +kernel) rfl
theorem w_1181 : Cond.codeWith ⟨"LaceBondsLaw", "carry", "(LLaceBonds;I[J)I"⟩ method_19_code 4 (Option.some ClassFile.FieldType.int) [(0, 9, 12, 24), (0, 9, 15, 13)] ∈ gw := gt_5 (i := 221) (by decide +kernel) rfl
theorem w_1220 : Cond.methodLink "LaceBondsLaw" 207 ⟨"LaceBondsLaw", "ahead", "(LLaceBonds;IIZ[J)I"⟩ ∈ gw := gt_6 (i := 20) (by decide +kernel) rfl
theorem w_1221 : Cond.static ⟨"LaceBondsLaw", "ahead", "(LLaceBonds;IIZ[J)I"⟩ ∈ gw := gt_6 (i := 21) (by decide +kernel) rfl
theorem w_1222 : Cond.codeWith ⟨"LaceBondsLaw", "ahead", "(LLaceBonds;IIZ[J)I"⟩ method_20_code 6 (Option.some ClassFile.FieldType.int) [(0, 12, 15, 24), (0, 12, 19, 13)] ∈ gw := gt_6 (i := 22) (by decide +kernel) rfl
theorem w_1232 : Cond.methodLink "LaceBondsLaw" 219 ⟨"LaceBondsLaw", "owes", "(LLaceBonds;II[J)I"⟩ ∈ gw := gt_6 (i := 32) (by decide +kernel) rfl
theorem w_1233 : Cond.static ⟨"LaceBondsLaw", "owes", "(LLaceBonds;II[J)I"⟩ ∈ gw := gt_6 (i := 33) (by decide +kernel) rfl
theorem w_1234 : Cond.codeWith ⟨"LaceBondsLaw", "owes", "(LLaceBonds;II[J)I"⟩ method_21_code 5 (Option.some ClassFile.FieldType.int) [(0, 17, 20, 24), (0, 17, 24, 13)] ∈ gw := gt_6 (i := 34) (by decide +kernel) rfl
theorem w_1253 : Cond.methodLink "LaceBondsLaw" 222 ⟨"LaceBondsLaw", "leads", "(LLaceBonds;I[J)I"⟩ ∈ gw := gt_6 (i := 53) (by decide +kernel) rfl
theorem w_1254 : Cond.static ⟨"LaceBondsLaw", "leads", "(LLaceBonds;I[J)I"⟩ ∈ gw := gt_6 (i := 54) (by decide +kernel) rfl
theorem w_1255 : Cond.codeWith ⟨"LaceBondsLaw", "leads", "(LLaceBonds;I[J)I"⟩ method_22_code 4 (Option.some ClassFile.FieldType.int) [(0, 9, 12, 24)] ∈ gw := gt_6 (i := 55) (by decide +kernel) rfl
theorem w_1260 : Cond.methodLink "LaceBondsLaw" 225 ⟨"LaceBondsLaw", "call", "(LLaceBonds;IZ[J)I"⟩ ∈ gw := gt_6 (i := 60) (by decide +kernel) rfl
theorem w_1261 : Cond.static ⟨"LaceBondsLaw", "call", "(LLaceBonds;IZ[J)I"⟩ ∈ gw := gt_6 (i := 61) (by decide +kernel) rfl
theorem w_1262 : Cond.codeWith ⟨"LaceBondsLaw", "call", "(LLaceBonds;IZ[J)I"⟩ method_23_code 5 (Option.some ClassFile.FieldType.int) [(0, 10, 13, 24)] ∈ gw := gt_6 (i := 62) (by decide +kernel) rfl
theorem w_1279 : Cond.methodLink "LaceBondsLaw" 229 ⟨"LaceBondsLaw", "breaks", "(LLaceBonds;I[J)I"⟩ ∈ gw := gt_6 (i := 79) (by decide +kernel) rfl
theorem w_1280 : Cond.static ⟨"LaceBondsLaw", "breaks", "(LLaceBonds;I[J)I"⟩ ∈ gw := gt_6 (i := 80) (by decide +kernel) rfl
theorem w_1281 : Cond.codeWith ⟨"LaceBondsLaw", "breaks", "(LLaceBonds;I[J)I"⟩ method_24_code 4 (Option.some ClassFile.FieldType.int) [(0, 9, 12, 13)] ∈ gw := gt_6 (i := 81) (by decide +kernel) rfl
theorem w_1286 : Cond.methodLink "LaceBondsLaw" 232 ⟨"LaceBondsLaw", "mercy", "(LLaceBonds;I[J)I"⟩ ∈ gw := gt_6 (i := 86) (by decide +kernel) rfl
theorem w_1287 : Cond.static ⟨"LaceBondsLaw", "mercy", "(LLaceBonds;I[J)I"⟩ ∈ gw := gt_6 (i := 87) (by decide +kernel) rfl
theorem w_1288 : Cond.codeWith ⟨"LaceBondsLaw", "mercy", "(LLaceBonds;I[J)I"⟩ method_25_code 4 (Option.some ClassFile.FieldType.int) [(0, 9, 12, 24)] ∈ gw := gt_6 (i := 88) (by decide +kernel) rfl
theorem w_1298 : Cond.methodLink "LaceBondsLaw" 235 ⟨"LaceBondsLaw", "hangs", "(LLaceBonds;I[J)I"⟩ ∈ gw := gt_6 (i := 98) (by decide +kernel) rfl
theorem w_1299 : Cond.static ⟨"LaceBondsLaw", "hangs", "(LLaceBonds;I[J)I"⟩ ∈ gw := gt_6 (i := 99) (by decide +kernel) rfl
theorem w_1300 : Cond.codeWith ⟨"LaceBondsLaw", "hangs", "(LLaceBonds;I[J)I"⟩ method_26_code 4 (Option.some ClassFile.FieldType.int) [(0, 9, 12, 24)] ∈ gw := gt_6 (i := 100) (by decide +kernel) rfl
theorem w_1305 : Cond.methodLink "LaceBondsLaw" 246 ⟨"LaceBondsLaw", "wear", "(LLaceBonds;Z[J)I"⟩ ∈ gw := gt_6 (i := 105) (by decide +kernel) rfl
theorem w_1306 : Cond.static ⟨"LaceBondsLaw", "wear", "(LLaceBonds;Z[J)I"⟩ ∈ gw := gt_6 (i := 106) (by decide +kernel) rfl
theorem w_1307 : Cond.codeWith ⟨"LaceBondsLaw", "wear", "(LLaceBonds;Z[J)I"⟩ method_27_code 4 (Option.some ClassFile.FieldType.int) [(0, 9, 12, 13)] ∈ gw := gt_6 (i := 107) (by decide +kernel) rfl
theorem w_1335 : Cond.methodLink "LaceBondsLaw" 250 ⟨"LaceBondsLaw", "look", "(LLaceBonds;[J)I"⟩ ∈ gw := gt_6 (i := 135) (by decide +kernel) rfl
theorem w_1336 : Cond.static ⟨"LaceBondsLaw", "look", "(LLaceBonds;[J)I"⟩ ∈ gw := gt_6 (i := 136) (by decide +kernel) rfl
theorem w_1337 : Cond.codeWith ⟨"LaceBondsLaw", "look", "(LLaceBonds;[J)I"⟩ method_28_code 3 (Option.some ClassFile.FieldType.int) [(0, 8, 11, 13)] ∈ gw := gt_6 (i := 137) (by decide +kernel) rfl
theorem w_1347 : Cond.methodLink "LaceBondsLaw" 253 ⟨"LaceBondsLaw", "race", "(LLaceBonds;I[J)I"⟩ ∈ gw := gt_6 (i := 147) (by decide +kernel) rfl
theorem w_1348 : Cond.static ⟨"LaceBondsLaw", "race", "(LLaceBonds;I[J)I"⟩ ∈ gw := gt_6 (i := 148) (by decide +kernel) rfl
theorem w_1349 : Cond.codeWith ⟨"LaceBondsLaw", "race", "(LLaceBonds;I[J)I"⟩ method_29_code 4 (Option.some ClassFile.FieldType.int) [(0, 9, 12, 24)] ∈ gw := gt_6 (i := 149) (by decide +kernel) rfl
theorem w_1354 : Cond.methodLink "LaceBondsLaw" 260 ⟨"LaceBondsLaw", "lends", "(LLaceBonds;I[J)I"⟩ ∈ gw := gt_6 (i := 154) (by decide +kernel) rfl
theorem w_1355 : Cond.static ⟨"LaceBondsLaw", "lends", "(LLaceBonds;I[J)I"⟩ ∈ gw := gt_6 (i := 155) (by decide +kernel) rfl
theorem w_1356 : Cond.codeWith ⟨"LaceBondsLaw", "lends", "(LLaceBonds;I[J)I"⟩ method_30_code 4 (Option.some ClassFile.FieldType.int) [(0, 9, 12, 13)] ∈ gw := gt_6 (i := 156) (by decide +kernel) rfl
theorem w_1363 : Cond.methodLink "LaceBondsLaw" 263 ⟨"LaceBondsLaw", "loose", "(LLaceBonds;I[J)I"⟩ ∈ gw := gt_6 (i := 163) (by decide +kernel) rfl
theorem w_1364 : Cond.static ⟨"LaceBondsLaw", "loose", "(LLaceBonds;I[J)I"⟩ ∈ gw := gt_6 (i := 164) (by decide +kernel) rfl
theorem w_1365 : Cond.codeWith ⟨"LaceBondsLaw", "loose", "(LLaceBonds;I[J)I"⟩ method_31_code 4 (Option.some ClassFile.FieldType.int) [(0, 9, 12, 24)] ∈ gw := gt_6 (i := 165) (by decide +kernel) rfl
theorem w_1370 : Cond.methodLink "LaceBondsLaw" 270 ⟨"LaceBondsLaw", "trial", "(LLaceBonds;IZ[J)I"⟩ ∈ gw := gt_6 (i := 170) (by decide +kernel) rfl
theorem w_1371 : Cond.static ⟨"LaceBondsLaw", "trial", "(LLaceBonds;IZ[J)I"⟩ ∈ gw := gt_6 (i := 171) (by decide +kernel) rfl
theorem w_1372 : Cond.codeWith ⟨"LaceBondsLaw", "trial", "(LLaceBonds;IZ[J)I"⟩ method_32_code 5 (Option.some ClassFile.FieldType.int) [(0, 10, 13, 13)] ∈ gw := gt_6 (i := 172) (by decide +kernel) rfl
theorem w_1377 : Cond.methodLink "LaceBondsLaw" 273 ⟨"LaceBondsLaw", "span", "(LLaceBonds;IZ[J)I"⟩ ∈ gw := gt_6 (i := 177) (by decide +kernel) rfl
theorem w_1378 : Cond.static ⟨"LaceBondsLaw", "span", "(LLaceBonds;IZ[J)I"⟩ ∈ gw := gt_6 (i := 178) (by decide +kernel) rfl
theorem w_1379 : Cond.codeWith ⟨"LaceBondsLaw", "span", "(LLaceBonds;IZ[J)I"⟩ method_33_code 5 (Option.some ClassFile.FieldType.int) [(0, 10, 13, 13)] ∈ gw := gt_6 (i := 179) (by decide +kernel) rfl
theorem w_1385 : Cond.methodLink "LaceBondsLaw" 276 ⟨"LaceBondsLaw", "led", "(LLaceBonds;IZ[J)I"⟩ ∈ gw := gt_6 (i := 185) (by decide +kernel) rfl
theorem w_1386 : Cond.static ⟨"LaceBondsLaw", "led", "(LLaceBonds;IZ[J)I"⟩ ∈ gw := gt_6 (i := 186) (by decide +kernel) rfl
theorem w_1387 : Cond.codeWith ⟨"LaceBondsLaw", "led", "(LLaceBonds;IZ[J)I"⟩ method_34_code 5 (Option.some ClassFile.FieldType.int) [(0, 10, 13, 24)] ∈ gw := gt_6 (i := 187) (by decide +kernel) rfl
theorem w_1415 : Cond.methodLink "LaceBondsLaw" 279 ⟨"LaceBondsLaw", "log", "(LLaceBonds;II[J)I"⟩ ∈ gw := gt_6 (i := 215) (by decide +kernel) rfl
theorem w_1416 : Cond.static ⟨"LaceBondsLaw", "log", "(LLaceBonds;II[J)I"⟩ ∈ gw := gt_6 (i := 216) (by decide +kernel) rfl
theorem w_1417 : Cond.codeWith ⟨"LaceBondsLaw", "log", "(LLaceBonds;II[J)I"⟩ method_35_code 5 (Option.some ClassFile.FieldType.int) [(0, 10, 13, 26)] ∈ gw := gt_6 (i := 217) (by decide +kernel) rfl
theorem w_1433 : Cond.methodLink "LaceBondsLaw" 145 ⟨"LaceBondsModel", "thrown", "()I"⟩ ∈ gw := gt_6 (i := 233) (by decide +kernel) rfl
theorem w_1434 : Cond.instanceMethod ⟨"LaceBondsModel", "thrown", "()I"⟩ ∈ gw := gt_6 (i := 234) (by decide +kernel) rfl
theorem w_1435 : Cond.selects "LaceBondsModel" ⟨"LaceBondsModel", "thrown", "()I"⟩ ⟨"LaceBondsModel", "thrown", "()I"⟩ ∈ gw := gt_6 (i := 235) (by decide +kernel) rfl
theorem w_1436 : Cond.code ⟨"LaceBondsModel", "thrown", "()I"⟩ prog_14_method_1_code 1 (Option.some ClassFile.FieldType.int) ∈ gw := gt_6 (i := 236) (by decide +kernel) rfl
theorem w_1515 : Cond.methodLink "LaceBondsLaw" 294 ⟨"LaceBondsModel", "image", "()V"⟩ ∈ gw := gt_7 (i := 75) (by decide +kernel) rfl
theorem w_1516 : Cond.instanceMethod ⟨"LaceBondsModel", "image", "()V"⟩ ∈ gw := gt_7 (i := 76) (by decide +kernel) rfl
theorem w_1517 : Cond.selects "LaceBondsModel" ⟨"LaceBondsModel", "image", "()V"⟩ ⟨"LaceBondsModel", "image", "()V"⟩ ∈ gw := gt_7 (i := 77) (by decide +kernel) rfl
theorem w_1518 : Cond.code ⟨"LaceBondsModel", "image", "()V"⟩ prog_14_method_6_code 2 (none) ∈ gw := gt_7 (i := 78) (by decide +kernel) rfl
theorem w_1519 : Cond.methodLink "LaceBondsLaw" 298 ⟨"LaceBondsModel", "back", "()Z"⟩ ∈ gw := gt_7 (i := 79) (by decide +kernel) rfl
theorem w_1520 : Cond.instanceMethod ⟨"LaceBondsModel", "back", "()Z"⟩ ∈ gw := gt_7 (i := 80) (by decide +kernel) rfl
theorem w_1521 : Cond.selects "LaceBondsModel" ⟨"LaceBondsModel", "back", "()Z"⟩ ⟨"LaceBondsModel", "back", "()Z"⟩ ∈ gw := gt_7 (i := 81) (by decide +kernel) rfl
theorem w_1522 : Cond.code ⟨"LaceBondsModel", "back", "()Z"⟩ prog_14_method_7_code 2 (Option.some ClassFile.FieldType.boolean) ∈ gw := gt_7 (i := 82) (by decide +kernel) rfl
theorem w_1523 : Cond.methodLink "LaceBondsLaw" 290 ⟨"LaceBondsModel", "undo", "()Z"⟩ ∈ gw := gt_7 (i := 83) (by decide +kernel) rfl
theorem w_1524 : Cond.instanceMethod ⟨"LaceBondsModel", "undo", "()Z"⟩ ∈ gw := gt_7 (i := 84) (by decide +kernel) rfl
theorem w_1525 : Cond.selects "LaceBondsModel" ⟨"LaceBondsModel", "undo", "()Z"⟩ ⟨"LaceBondsModel", "undo", "()Z"⟩ ∈ gw := gt_7 (i := 85) (by decide +kernel) rfl
theorem w_1526 : Cond.code ⟨"LaceBondsModel", "undo", "()Z"⟩ prog_14_method_9_code 2 (Option.some ClassFile.FieldType.boolean) ∈ gw := gt_7 (i := 86) (by decide +kernel) rfl
theorem w_1527 : Cond.methodLink "LaceBondsLaw" 133 ⟨"LaceBondsModel", "feed", "(IIIII)I"⟩ ∈ gw := gt_7 (i := 87) (by decide +kernel) rfl
theorem w_1528 : Cond.instanceMethod ⟨"LaceBondsModel", "feed", "(IIIII)I"⟩ ∈ gw := gt_7 (i := 88) (by decide +kernel) rfl
theorem w_1529 : Cond.selects "LaceBondsModel" ⟨"LaceBondsModel", "feed", "(IIIII)I"⟩ ⟨"LaceBondsModel", "feed", "(IIIII)I"⟩ ∈ gw := gt_7 (i := 89) (by decide +kernel) rfl
theorem w_1530 : Cond.code ⟨"LaceBondsModel", "feed", "(IIIII)I"⟩ prog_14_method_28_code 7 (Option.some ClassFile.FieldType.int) ∈ gw := gt_7 (i := 90) (by decide +kernel) rfl
theorem w_1531 : Cond.methodLink "LaceBondsLaw" 138 ⟨"LaceBondsModel", "end", "(I)Z"⟩ ∈ gw := gt_7 (i := 91) (by decide +kernel) rfl
theorem w_1532 : Cond.instanceMethod ⟨"LaceBondsModel", "end", "(I)Z"⟩ ∈ gw := gt_7 (i := 92) (by decide +kernel) rfl
theorem w_1533 : Cond.selects "LaceBondsModel" ⟨"LaceBondsModel", "end", "(I)Z"⟩ ⟨"LaceBondsModel", "end", "(I)Z"⟩ ∈ gw := gt_7 (i := 93) (by decide +kernel) rfl
theorem w_1534 : Cond.code ⟨"LaceBondsModel", "end", "(I)Z"⟩ prog_14_method_29_code 2 (Option.some ClassFile.FieldType.boolean) ∈ gw := gt_7 (i := 94) (by decide +kernel) rfl
theorem w_1535 : Cond.methodLink "LaceBondsLaw" 154 ⟨"LaceBondsModel", "fault", "()I"⟩ ∈ gw := gt_7 (i := 95) (by decide +kernel) rfl
theorem w_1536 : Cond.instanceMethod ⟨"LaceBondsModel", "fault", "()I"⟩ ∈ gw := gt_7 (i := 96) (by decide +kernel) rfl
theorem w_1537 : Cond.selects "LaceBondsModel" ⟨"LaceBondsModel", "fault", "()I"⟩ ⟨"LaceBondsModel", "fault", "()I"⟩ ∈ gw := gt_7 (i := 97) (by decide +kernel) rfl
theorem w_1538 : Cond.code ⟨"LaceBondsModel", "fault", "()I"⟩ prog_14_method_38_code 1 (Option.some ClassFile.FieldType.int) ∈ gw := gt_7 (i := 98) (by decide +kernel) rfl
theorem w_1539 : Cond.methodLink "LaceBondsLaw" 144 ⟨"LaceBondsModel", "land", "()I"⟩ ∈ gw := gt_7 (i := 99) (by decide +kernel) rfl
theorem w_1540 : Cond.instanceMethod ⟨"LaceBondsModel", "land", "()I"⟩ ∈ gw := gt_7 (i := 100) (by decide +kernel) rfl
theorem w_1541 : Cond.selects "LaceBondsModel" ⟨"LaceBondsModel", "land", "()I"⟩ ⟨"LaceBondsModel", "land", "()I"⟩ ∈ gw := gt_7 (i := 101) (by decide +kernel) rfl
theorem w_1542 : Cond.code ⟨"LaceBondsModel", "land", "()I"⟩ prog_14_method_56_code 3 (Option.some ClassFile.FieldType.int) ∈ gw := gt_7 (i := 102) (by decide +kernel) rfl
theorem w_1698 : Cond.methodLink "LaceBondsLaw" 150 ⟨"LaceBondsModel", "law", "()I"⟩ ∈ gw := gt_8 (i := 18) (by decide +kernel) rfl
theorem w_1699 : Cond.instanceMethod ⟨"LaceBondsModel", "law", "()I"⟩ ∈ gw := gt_8 (i := 19) (by decide +kernel) rfl
theorem w_1700 : Cond.selects "LaceBondsModel" ⟨"LaceBondsModel", "law", "()I"⟩ ⟨"LaceBondsModel", "law", "()I"⟩ ∈ gw := gt_8 (i := 20) (by decide +kernel) rfl
theorem w_1701 : Cond.code ⟨"LaceBondsModel", "law", "()I"⟩ prog_14_method_57_code 3 (Option.some ClassFile.FieldType.int) ∈ gw := gt_8 (i := 21) (by decide +kernel) rfl
theorem w_1702 : Cond.methodLink "LaceBondsLaw" 158 ⟨"LaceBondsModel", "person", "(II)I"⟩ ∈ gw := gt_8 (i := 22) (by decide +kernel) rfl
theorem w_1703 : Cond.instanceMethod ⟨"LaceBondsModel", "person", "(II)I"⟩ ∈ gw := gt_8 (i := 23) (by decide +kernel) rfl
theorem w_1704 : Cond.selects "LaceBondsModel" ⟨"LaceBondsModel", "person", "(II)I"⟩ ⟨"LaceBondsModel", "person", "(II)I"⟩ ∈ gw := gt_8 (i := 24) (by decide +kernel) rfl
theorem w_1705 : Cond.code ⟨"LaceBondsModel", "person", "(II)I"⟩ prog_14_method_73_code 3 (Option.some ClassFile.FieldType.int) ∈ gw := gt_8 (i := 25) (by decide +kernel) rfl
theorem w_1746 : Cond.methodLink "LaceBondsLaw" 161 ⟨"LaceBondsModel", "lace", "(II)I"⟩ ∈ gw := gt_8 (i := 66) (by decide +kernel) rfl
theorem w_1747 : Cond.instanceMethod ⟨"LaceBondsModel", "lace", "(II)I"⟩ ∈ gw := gt_8 (i := 67) (by decide +kernel) rfl
theorem w_1748 : Cond.selects "LaceBondsModel" ⟨"LaceBondsModel", "lace", "(II)I"⟩ ⟨"LaceBondsModel", "lace", "(II)I"⟩ ∈ gw := gt_8 (i := 68) (by decide +kernel) rfl
theorem w_1749 : Cond.code ⟨"LaceBondsModel", "lace", "(II)I"⟩ prog_14_method_74_code 3 (Option.some ClassFile.FieldType.int) ∈ gw := gt_8 (i := 69) (by decide +kernel) rfl
theorem w_1754 : Cond.methodLink "LaceBondsLaw" 165 ⟨"LaceBondsModel", "mud", "(I)I"⟩ ∈ gw := gt_8 (i := 74) (by decide +kernel) rfl
theorem w_1755 : Cond.instanceMethod ⟨"LaceBondsModel", "mud", "(I)I"⟩ ∈ gw := gt_8 (i := 75) (by decide +kernel) rfl
theorem w_1756 : Cond.selects "LaceBondsModel" ⟨"LaceBondsModel", "mud", "(I)I"⟩ ⟨"LaceBondsModel", "mud", "(I)I"⟩ ∈ gw := gt_8 (i := 76) (by decide +kernel) rfl
theorem w_1757 : Cond.code ⟨"LaceBondsModel", "mud", "(I)I"⟩ prog_14_method_75_code 2 (Option.some ClassFile.FieldType.int) ∈ gw := gt_8 (i := 77) (by decide +kernel) rfl
theorem w_1761 : Cond.methodLink "LaceBondsLaw" 168 ⟨"LaceBondsModel", "walks", "(II)I"⟩ ∈ gw := gt_8 (i := 81) (by decide +kernel) rfl
theorem w_1762 : Cond.instanceMethod ⟨"LaceBondsModel", "walks", "(II)I"⟩ ∈ gw := gt_8 (i := 82) (by decide +kernel) rfl
theorem w_1763 : Cond.selects "LaceBondsModel" ⟨"LaceBondsModel", "walks", "(II)I"⟩ ⟨"LaceBondsModel", "walks", "(II)I"⟩ ∈ gw := gt_8 (i := 83) (by decide +kernel) rfl
theorem w_1764 : Cond.code ⟨"LaceBondsModel", "walks", "(II)I"⟩ prog_14_method_76_code 3 (Option.some ClassFile.FieldType.int) ∈ gw := gt_8 (i := 84) (by decide +kernel) rfl
theorem w_1799 : Cond.methodLink "LaceBondsLaw" 171 ⟨"LaceBondsModel", "grows", "(I)I"⟩ ∈ gw := gt_8 (i := 119) (by decide +kernel) rfl
theorem w_1800 : Cond.instanceMethod ⟨"LaceBondsModel", "grows", "(I)I"⟩ ∈ gw := gt_8 (i := 120) (by decide +kernel) rfl
theorem w_1801 : Cond.selects "LaceBondsModel" ⟨"LaceBondsModel", "grows", "(I)I"⟩ ⟨"LaceBondsModel", "grows", "(I)I"⟩ ∈ gw := gt_8 (i := 121) (by decide +kernel) rfl
theorem w_1802 : Cond.code ⟨"LaceBondsModel", "grows", "(I)I"⟩ prog_14_method_77_code 2 (Option.some ClassFile.FieldType.int) ∈ gw := gt_8 (i := 122) (by decide +kernel) rfl
theorem w_1807 : Cond.methodLink "LaceBondsLaw" 175 ⟨"LaceBondsModel", "lend", "(IIIII)I"⟩ ∈ gw := gt_8 (i := 127) (by decide +kernel) rfl
theorem w_1808 : Cond.instanceMethod ⟨"LaceBondsModel", "lend", "(IIIII)I"⟩ ∈ gw := gt_8 (i := 128) (by decide +kernel) rfl
theorem w_1809 : Cond.selects "LaceBondsModel" ⟨"LaceBondsModel", "lend", "(IIIII)I"⟩ ⟨"LaceBondsModel", "lend", "(IIIII)I"⟩ ∈ gw := gt_8 (i := 129) (by decide +kernel) rfl
theorem w_1810 : Cond.code ⟨"LaceBondsModel", "lend", "(IIIII)I"⟩ prog_14_method_81_code 6 (Option.some ClassFile.FieldType.int) ∈ gw := gt_8 (i := 130) (by decide +kernel) rfl
theorem w_1823 : Cond.methodLink "LaceBondsLaw" 178 ⟨"LaceBondsModel", "pay", "(I)I"⟩ ∈ gw := gt_8 (i := 143) (by decide +kernel) rfl
theorem w_1824 : Cond.instanceMethod ⟨"LaceBondsModel", "pay", "(I)I"⟩ ∈ gw := gt_8 (i := 144) (by decide +kernel) rfl
theorem w_1825 : Cond.selects "LaceBondsModel" ⟨"LaceBondsModel", "pay", "(I)I"⟩ ⟨"LaceBondsModel", "pay", "(I)I"⟩ ∈ gw := gt_8 (i := 145) (by decide +kernel) rfl
theorem w_1826 : Cond.code ⟨"LaceBondsModel", "pay", "(I)I"⟩ prog_14_method_82_code 3 (Option.some ClassFile.FieldType.int) ∈ gw := gt_8 (i := 146) (by decide +kernel) rfl
theorem w_1831 : Cond.methodLink "LaceBondsLaw" 181 ⟨"LaceBondsModel", "surety", "(II)I"⟩ ∈ gw := gt_8 (i := 151) (by decide +kernel) rfl
theorem w_1832 : Cond.instanceMethod ⟨"LaceBondsModel", "surety", "(II)I"⟩ ∈ gw := gt_8 (i := 152) (by decide +kernel) rfl
theorem w_1833 : Cond.selects "LaceBondsModel" ⟨"LaceBondsModel", "surety", "(II)I"⟩ ⟨"LaceBondsModel", "surety", "(II)I"⟩ ∈ gw := gt_8 (i := 153) (by decide +kernel) rfl
theorem w_1834 : Cond.code ⟨"LaceBondsModel", "surety", "(II)I"⟩ prog_14_method_83_code 4 (Option.some ClassFile.FieldType.int) ∈ gw := gt_8 (i := 154) (by decide +kernel) rfl
theorem w_1835 : Cond.methodLink "LaceBondsLaw" 184 ⟨"LaceBondsModel", "give", "(II)I"⟩ ∈ gw := gt_8 (i := 155) (by decide +kernel) rfl
theorem w_1836 : Cond.instanceMethod ⟨"LaceBondsModel", "give", "(II)I"⟩ ∈ gw := gt_8 (i := 156) (by decide +kernel) rfl
theorem w_1837 : Cond.selects "LaceBondsModel" ⟨"LaceBondsModel", "give", "(II)I"⟩ ⟨"LaceBondsModel", "give", "(II)I"⟩ ∈ gw := gt_8 (i := 157) (by decide +kernel) rfl
theorem w_1838 : Cond.code ⟨"LaceBondsModel", "give", "(II)I"⟩ prog_14_method_84_code 4 (Option.some ClassFile.FieldType.int) ∈ gw := gt_8 (i := 158) (by decide +kernel) rfl
theorem w_1839 : Cond.methodLink "LaceBondsLaw" 187 ⟨"LaceBondsModel", "goal", "(II)I"⟩ ∈ gw := gt_8 (i := 159) (by decide +kernel) rfl
theorem w_1840 : Cond.instanceMethod ⟨"LaceBondsModel", "goal", "(II)I"⟩ ∈ gw := gt_8 (i := 160) (by decide +kernel) rfl
theorem w_1841 : Cond.selects "LaceBondsModel" ⟨"LaceBondsModel", "goal", "(II)I"⟩ ⟨"LaceBondsModel", "goal", "(II)I"⟩ ∈ gw := gt_8 (i := 161) (by decide +kernel) rfl
theorem w_1842 : Cond.code ⟨"LaceBondsModel", "goal", "(II)I"⟩ prog_14_method_85_code 4 (Option.some ClassFile.FieldType.int) ∈ gw := gt_8 (i := 162) (by decide +kernel) rfl
theorem w_1843 : Cond.methodLink "LaceBondsLaw" 190 ⟨"LaceBondsModel", "rest", "(I)I"⟩ ∈ gw := gt_8 (i := 163) (by decide +kernel) rfl
theorem w_1844 : Cond.instanceMethod ⟨"LaceBondsModel", "rest", "(I)I"⟩ ∈ gw := gt_8 (i := 164) (by decide +kernel) rfl
theorem w_1845 : Cond.selects "LaceBondsModel" ⟨"LaceBondsModel", "rest", "(I)I"⟩ ⟨"LaceBondsModel", "rest", "(I)I"⟩ ∈ gw := gt_8 (i := 165) (by decide +kernel) rfl
theorem w_1846 : Cond.code ⟨"LaceBondsModel", "rest", "(I)I"⟩ prog_14_method_86_code 3 (Option.some ClassFile.FieldType.int) ∈ gw := gt_8 (i := 166) (by decide +kernel) rfl
theorem w_1847 : Cond.methodLink "LaceBondsLaw" 193 ⟨"LaceBondsModel", "days", "(I)I"⟩ ∈ gw := gt_8 (i := 167) (by decide +kernel) rfl
theorem w_1848 : Cond.instanceMethod ⟨"LaceBondsModel", "days", "(I)I"⟩ ∈ gw := gt_8 (i := 168) (by decide +kernel) rfl
theorem w_1849 : Cond.selects "LaceBondsModel" ⟨"LaceBondsModel", "days", "(I)I"⟩ ⟨"LaceBondsModel", "days", "(I)I"⟩ ∈ gw := gt_8 (i := 169) (by decide +kernel) rfl
theorem w_1850 : Cond.code ⟨"LaceBondsModel", "days", "(I)I"⟩ prog_14_method_93_code 4 (Option.some ClassFile.FieldType.int) ∈ gw := gt_8 (i := 170) (by decide +kernel) rfl
theorem w_1879 : Cond.methodLink "LaceBondsLaw" 210 ⟨"LaceBondsModel", "ahead", "(IIZ)I"⟩ ∈ gw := gt_8 (i := 199) (by decide +kernel) rfl
theorem w_1880 : Cond.instanceMethod ⟨"LaceBondsModel", "ahead", "(IIZ)I"⟩ ∈ gw := gt_8 (i := 200) (by decide +kernel) rfl
theorem w_1881 : Cond.selects "LaceBondsModel" ⟨"LaceBondsModel", "ahead", "(IIZ)I"⟩ ⟨"LaceBondsModel", "ahead", "(IIZ)I"⟩ ∈ gw := gt_8 (i := 201) (by decide +kernel) rfl
theorem w_1882 : Cond.code ⟨"LaceBondsModel", "ahead", "(IIZ)I"⟩ prog_14_method_94_code 5 (Option.some ClassFile.FieldType.int) ∈ gw := gt_8 (i := 202) (by decide +kernel) rfl
theorem w_1891 : Cond.methodLink "LaceBondsLaw" 200 ⟨"LaceBondsModel", "comes", "(II)I"⟩ ∈ gw := gt_8 (i := 211) (by decide +kernel) rfl
theorem w_1892 : Cond.instanceMethod ⟨"LaceBondsModel", "comes", "(II)I"⟩ ∈ gw := gt_8 (i := 212) (by decide +kernel) rfl
theorem w_1893 : Cond.selects "LaceBondsModel" ⟨"LaceBondsModel", "comes", "(II)I"⟩ ⟨"LaceBondsModel", "comes", "(II)I"⟩ ∈ gw := gt_8 (i := 213) (by decide +kernel) rfl
theorem w_1894 : Cond.code ⟨"LaceBondsModel", "comes", "(II)I"⟩ prog_14_method_96_code 4 (Option.some ClassFile.FieldType.int) ∈ gw := gt_8 (i := 214) (by decide +kernel) rfl
theorem w_1900 : Cond.methodLink "LaceBondsLaw" 203 ⟨"LaceBondsModel", "soonest", "(I)I"⟩ ∈ gw := gt_8 (i := 220) (by decide +kernel) rfl
theorem w_1901 : Cond.instanceMethod ⟨"LaceBondsModel", "soonest", "(I)I"⟩ ∈ gw := gt_8 (i := 221) (by decide +kernel) rfl
theorem w_1902 : Cond.selects "LaceBondsModel" ⟨"LaceBondsModel", "soonest", "(I)I"⟩ ⟨"LaceBondsModel", "soonest", "(I)I"⟩ ∈ gw := gt_8 (i := 222) (by decide +kernel) rfl
theorem w_1903 : Cond.code ⟨"LaceBondsModel", "soonest", "(I)I"⟩ prog_14_method_97_code 6 (Option.some ClassFile.FieldType.int) ∈ gw := gt_8 (i := 223) (by decide +kernel) rfl
theorem w_1904 : Cond.methodLink "LaceBondsLaw" 206 ⟨"LaceBondsModel", "carry", "(I)I"⟩ ∈ gw := gt_8 (i := 224) (by decide +kernel) rfl
theorem w_1905 : Cond.instanceMethod ⟨"LaceBondsModel", "carry", "(I)I"⟩ ∈ gw := gt_8 (i := 225) (by decide +kernel) rfl
theorem w_1906 : Cond.selects "LaceBondsModel" ⟨"LaceBondsModel", "carry", "(I)I"⟩ ⟨"LaceBondsModel", "carry", "(I)I"⟩ ∈ gw := gt_8 (i := 226) (by decide +kernel) rfl
theorem w_1907 : Cond.code ⟨"LaceBondsModel", "carry", "(I)I"⟩ prog_14_method_101_code 6 (Option.some ClassFile.FieldType.int) ∈ gw := gt_8 (i := 227) (by decide +kernel) rfl
theorem w_1923 : Cond.methodLink "LaceBondsLaw" 197 ⟨"LaceBondsModel", "solvent", "()I"⟩ ∈ gw := gt_9 (i := 3) (by decide +kernel) rfl
theorem w_1924 : Cond.instanceMethod ⟨"LaceBondsModel", "solvent", "()I"⟩ ∈ gw := gt_9 (i := 4) (by decide +kernel) rfl
theorem w_1925 : Cond.selects "LaceBondsModel" ⟨"LaceBondsModel", "solvent", "()I"⟩ ⟨"LaceBondsModel", "solvent", "()I"⟩ ∈ gw := gt_9 (i := 5) (by decide +kernel) rfl
theorem w_1926 : Cond.code ⟨"LaceBondsModel", "solvent", "()I"⟩ prog_14_method_102_code 3 (Option.some ClassFile.FieldType.int) ∈ gw := gt_9 (i := 6) (by decide +kernel) rfl
theorem w_1927 : Cond.methodLink "LaceBondsLaw" 214 ⟨"LaceBondsModel", "rings", "()I"⟩ ∈ gw := gt_9 (i := 7) (by decide +kernel) rfl
theorem w_1928 : Cond.instanceMethod ⟨"LaceBondsModel", "rings", "()I"⟩ ∈ gw := gt_9 (i := 8) (by decide +kernel) rfl
theorem w_1929 : Cond.selects "LaceBondsModel" ⟨"LaceBondsModel", "rings", "()I"⟩ ⟨"LaceBondsModel", "rings", "()I"⟩ ∈ gw := gt_9 (i := 9) (by decide +kernel) rfl
theorem w_1930 : Cond.code ⟨"LaceBondsModel", "rings", "()I"⟩ prog_14_method_104_code 4 (Option.some ClassFile.FieldType.int) ∈ gw := gt_9 (i := 10) (by decide +kernel) rfl
theorem w_1939 : Cond.methodLink "LaceBondsLaw" 218 ⟨"LaceBondsModel", "untie", "(Z)I"⟩ ∈ gw := gt_9 (i := 19) (by decide +kernel) rfl
theorem w_1940 : Cond.instanceMethod ⟨"LaceBondsModel", "untie", "(Z)I"⟩ ∈ gw := gt_9 (i := 20) (by decide +kernel) rfl
theorem w_1941 : Cond.selects "LaceBondsModel" ⟨"LaceBondsModel", "untie", "(Z)I"⟩ ⟨"LaceBondsModel", "untie", "(Z)I"⟩ ∈ gw := gt_9 (i := 21) (by decide +kernel) rfl
theorem w_1942 : Cond.code ⟨"LaceBondsModel", "untie", "(Z)I"⟩ prog_14_method_105_code 5 (Option.some ClassFile.FieldType.int) ∈ gw := gt_9 (i := 22) (by decide +kernel) rfl
theorem w_1943 : Cond.methodLink "LaceBondsLaw" 221 ⟨"LaceBondsModel", "owes", "(II)Z"⟩ ∈ gw := gt_9 (i := 23) (by decide +kernel) rfl
theorem w_1944 : Cond.instanceMethod ⟨"LaceBondsModel", "owes", "(II)Z"⟩ ∈ gw := gt_9 (i := 24) (by decide +kernel) rfl
theorem w_1945 : Cond.selects "LaceBondsModel" ⟨"LaceBondsModel", "owes", "(II)Z"⟩ ⟨"LaceBondsModel", "owes", "(II)Z"⟩ ∈ gw := gt_9 (i := 25) (by decide +kernel) rfl
theorem w_1946 : Cond.code ⟨"LaceBondsModel", "owes", "(II)Z"⟩ prog_14_method_108_code 3 (Option.some ClassFile.FieldType.boolean) ∈ gw := gt_9 (i := 26) (by decide +kernel) rfl
theorem w_1955 : Cond.methodLink "LaceBondsLaw" 224 ⟨"LaceBondsModel", "leads", "(I)I"⟩ ∈ gw := gt_9 (i := 35) (by decide +kernel) rfl
theorem w_1956 : Cond.instanceMethod ⟨"LaceBondsModel", "leads", "(I)I"⟩ ∈ gw := gt_9 (i := 36) (by decide +kernel) rfl
theorem w_1957 : Cond.selects "LaceBondsModel" ⟨"LaceBondsModel", "leads", "(I)I"⟩ ⟨"LaceBondsModel", "leads", "(I)I"⟩ ∈ gw := gt_9 (i := 37) (by decide +kernel) rfl
theorem w_1958 : Cond.code ⟨"LaceBondsModel", "leads", "(I)I"⟩ prog_14_method_109_code 2 (Option.some ClassFile.FieldType.int) ∈ gw := gt_9 (i := 38) (by decide +kernel) rfl
theorem w_1959 : Cond.methodLink "LaceBondsLaw" 228 ⟨"LaceBondsModel", "call", "(IZ)I"⟩ ∈ gw := gt_9 (i := 39) (by decide +kernel) rfl
theorem w_1960 : Cond.instanceMethod ⟨"LaceBondsModel", "call", "(IZ)I"⟩ ∈ gw := gt_9 (i := 40) (by decide +kernel) rfl
theorem w_1961 : Cond.selects "LaceBondsModel" ⟨"LaceBondsModel", "call", "(IZ)I"⟩ ⟨"LaceBondsModel", "call", "(IZ)I"⟩ ∈ gw := gt_9 (i := 41) (by decide +kernel) rfl
theorem w_1962 : Cond.code ⟨"LaceBondsModel", "call", "(IZ)I"⟩ prog_14_method_112_code 6 (Option.some ClassFile.FieldType.int) ∈ gw := gt_9 (i := 42) (by decide +kernel) rfl
theorem w_1971 : Cond.methodLink "LaceBondsLaw" 231 ⟨"LaceBondsModel", "breaks", "(I)I"⟩ ∈ gw := gt_9 (i := 51) (by decide +kernel) rfl
theorem w_1972 : Cond.instanceMethod ⟨"LaceBondsModel", "breaks", "(I)I"⟩ ∈ gw := gt_9 (i := 52) (by decide +kernel) rfl
theorem w_1973 : Cond.selects "LaceBondsModel" ⟨"LaceBondsModel", "breaks", "(I)I"⟩ ⟨"LaceBondsModel", "breaks", "(I)I"⟩ ∈ gw := gt_9 (i := 53) (by decide +kernel) rfl
theorem w_1974 : Cond.code ⟨"LaceBondsModel", "breaks", "(I)I"⟩ prog_14_method_113_code 4 (Option.some ClassFile.FieldType.int) ∈ gw := gt_9 (i := 54) (by decide +kernel) rfl
theorem w_1975 : Cond.methodLink "LaceBondsLaw" 234 ⟨"LaceBondsModel", "mercy", "(I)I"⟩ ∈ gw := gt_9 (i := 55) (by decide +kernel) rfl
theorem w_1976 : Cond.instanceMethod ⟨"LaceBondsModel", "mercy", "(I)I"⟩ ∈ gw := gt_9 (i := 56) (by decide +kernel) rfl
theorem w_1977 : Cond.selects "LaceBondsModel" ⟨"LaceBondsModel", "mercy", "(I)I"⟩ ⟨"LaceBondsModel", "mercy", "(I)I"⟩ ∈ gw := gt_9 (i := 57) (by decide +kernel) rfl
theorem w_1978 : Cond.code ⟨"LaceBondsModel", "mercy", "(I)I"⟩ prog_14_method_115_code 3 (Option.some ClassFile.FieldType.int) ∈ gw := gt_9 (i := 58) (by decide +kernel) rfl
theorem w_1983 : Cond.methodLink "LaceBondsLaw" 237 ⟨"LaceBondsModel", "hangs", "(I)I"⟩ ∈ gw := gt_9 (i := 63) (by decide +kernel) rfl
theorem w_1984 : Cond.instanceMethod ⟨"LaceBondsModel", "hangs", "(I)I"⟩ ∈ gw := gt_9 (i := 64) (by decide +kernel) rfl
theorem w_1985 : Cond.selects "LaceBondsModel" ⟨"LaceBondsModel", "hangs", "(I)I"⟩ ⟨"LaceBondsModel", "hangs", "(I)I"⟩ ∈ gw := gt_9 (i := 65) (by decide +kernel) rfl
theorem w_1986 : Cond.code ⟨"LaceBondsModel", "hangs", "(I)I"⟩ prog_14_method_117_code 2 (Option.some ClassFile.FieldType.int) ∈ gw := gt_9 (i := 66) (by decide +kernel) rfl
theorem w_1991 : Cond.methodLink "LaceBondsLaw" 241 ⟨"LaceBondsModel", "trust", "()I"⟩ ∈ gw := gt_9 (i := 71) (by decide +kernel) rfl
theorem w_1992 : Cond.instanceMethod ⟨"LaceBondsModel", "trust", "()I"⟩ ∈ gw := gt_9 (i := 72) (by decide +kernel) rfl
theorem w_1993 : Cond.selects "LaceBondsModel" ⟨"LaceBondsModel", "trust", "()I"⟩ ⟨"LaceBondsModel", "trust", "()I"⟩ ∈ gw := gt_9 (i := 73) (by decide +kernel) rfl
theorem w_1994 : Cond.code ⟨"LaceBondsModel", "trust", "()I"⟩ prog_14_method_118_code 5 (Option.some ClassFile.FieldType.int) ∈ gw := gt_9 (i := 74) (by decide +kernel) rfl
theorem w_1995 : Cond.methodLink "LaceBondsLaw" 245 ⟨"LaceBondsModel", "needed", "()I"⟩ ∈ gw := gt_9 (i := 75) (by decide +kernel) rfl
theorem w_1996 : Cond.instanceMethod ⟨"LaceBondsModel", "needed", "()I"⟩ ∈ gw := gt_9 (i := 76) (by decide +kernel) rfl
theorem w_1997 : Cond.selects "LaceBondsModel" ⟨"LaceBondsModel", "needed", "()I"⟩ ⟨"LaceBondsModel", "needed", "()I"⟩ ∈ gw := gt_9 (i := 77) (by decide +kernel) rfl
theorem w_1998 : Cond.code ⟨"LaceBondsModel", "needed", "()I"⟩ prog_14_method_120_code 3 (Option.some ClassFile.FieldType.int) ∈ gw := gt_9 (i := 78) (by decide +kernel) rfl
theorem w_2007 : Cond.methodLink "LaceBondsLaw" 249 ⟨"LaceBondsModel", "wear", "(Z)I"⟩ ∈ gw := gt_9 (i := 87) (by decide +kernel) rfl
theorem w_2008 : Cond.instanceMethod ⟨"LaceBondsModel", "wear", "(Z)I"⟩ ∈ gw := gt_9 (i := 88) (by decide +kernel) rfl
theorem w_2009 : Cond.selects "LaceBondsModel" ⟨"LaceBondsModel", "wear", "(Z)I"⟩ ⟨"LaceBondsModel", "wear", "(Z)I"⟩ ∈ gw := gt_9 (i := 89) (by decide +kernel) rfl
theorem w_2010 : Cond.code ⟨"LaceBondsModel", "wear", "(Z)I"⟩ prog_14_method_123_code 5 (Option.some ClassFile.FieldType.int) ∈ gw := gt_9 (i := 90) (by decide +kernel) rfl
theorem w_2019 : Cond.methodLink "LaceBondsLaw" 252 ⟨"LaceBondsModel", "look", "()I"⟩ ∈ gw := gt_9 (i := 99) (by decide +kernel) rfl
theorem w_2020 : Cond.instanceMethod ⟨"LaceBondsModel", "look", "()I"⟩ ∈ gw := gt_9 (i := 100) (by decide +kernel) rfl
theorem w_2021 : Cond.selects "LaceBondsModel" ⟨"LaceBondsModel", "look", "()I"⟩ ⟨"LaceBondsModel", "look", "()I"⟩ ∈ gw := gt_9 (i := 101) (by decide +kernel) rfl
theorem w_2022 : Cond.code ⟨"LaceBondsModel", "look", "()I"⟩ prog_14_method_124_code 7 (Option.some ClassFile.FieldType.int) ∈ gw := gt_9 (i := 102) (by decide +kernel) rfl
theorem w_2023 : Cond.methodLink "LaceBondsLaw" 255 ⟨"LaceBondsModel", "race", "(I)I"⟩ ∈ gw := gt_9 (i := 103) (by decide +kernel) rfl
theorem w_2024 : Cond.instanceMethod ⟨"LaceBondsModel", "race", "(I)I"⟩ ∈ gw := gt_9 (i := 104) (by decide +kernel) rfl
theorem w_2025 : Cond.selects "LaceBondsModel" ⟨"LaceBondsModel", "race", "(I)I"⟩ ⟨"LaceBondsModel", "race", "(I)I"⟩ ∈ gw := gt_9 (i := 105) (by decide +kernel) rfl
theorem w_2026 : Cond.code ⟨"LaceBondsModel", "race", "(I)I"⟩ prog_14_method_126_code 2 (Option.some ClassFile.FieldType.int) ∈ gw := gt_9 (i := 106) (by decide +kernel) rfl
theorem w_2031 : Cond.methodLink "LaceBondsLaw" 259 ⟨"LaceBondsModel", "pairs", "()I"⟩ ∈ gw := gt_9 (i := 111) (by decide +kernel) rfl
theorem w_2032 : Cond.instanceMethod ⟨"LaceBondsModel", "pairs", "()I"⟩ ∈ gw := gt_9 (i := 112) (by decide +kernel) rfl
theorem w_2033 : Cond.selects "LaceBondsModel" ⟨"LaceBondsModel", "pairs", "()I"⟩ ⟨"LaceBondsModel", "pairs", "()I"⟩ ∈ gw := gt_9 (i := 113) (by decide +kernel) rfl
theorem w_2034 : Cond.code ⟨"LaceBondsModel", "pairs", "()I"⟩ prog_14_method_127_code 3 (Option.some ClassFile.FieldType.int) ∈ gw := gt_9 (i := 114) (by decide +kernel) rfl
theorem w_2035 : Cond.methodLink "LaceBondsLaw" 262 ⟨"LaceBondsModel", "lends", "(I)I"⟩ ∈ gw := gt_9 (i := 115) (by decide +kernel) rfl
theorem w_2036 : Cond.instanceMethod ⟨"LaceBondsModel", "lends", "(I)I"⟩ ∈ gw := gt_9 (i := 116) (by decide +kernel) rfl
theorem w_2037 : Cond.selects "LaceBondsModel" ⟨"LaceBondsModel", "lends", "(I)I"⟩ ⟨"LaceBondsModel", "lends", "(I)I"⟩ ∈ gw := gt_9 (i := 117) (by decide +kernel) rfl
theorem w_2038 : Cond.code ⟨"LaceBondsModel", "lends", "(I)I"⟩ prog_14_method_128_code 5 (Option.some ClassFile.FieldType.int) ∈ gw := gt_9 (i := 118) (by decide +kernel) rfl
theorem w_2039 : Cond.methodLink "LaceBondsLaw" 265 ⟨"LaceBondsModel", "loose", "(I)I"⟩ ∈ gw := gt_9 (i := 119) (by decide +kernel) rfl
theorem w_2040 : Cond.instanceMethod ⟨"LaceBondsModel", "loose", "(I)I"⟩ ∈ gw := gt_9 (i := 120) (by decide +kernel) rfl
theorem w_2041 : Cond.selects "LaceBondsModel" ⟨"LaceBondsModel", "loose", "(I)I"⟩ ⟨"LaceBondsModel", "loose", "(I)I"⟩ ∈ gw := gt_9 (i := 121) (by decide +kernel) rfl
theorem w_2042 : Cond.code ⟨"LaceBondsModel", "loose", "(I)I"⟩ prog_14_method_129_code 4 (Option.some ClassFile.FieldType.int) ∈ gw := gt_9 (i := 122) (by decide +kernel) rfl
theorem w_2043 : Cond.methodLink "LaceBondsLaw" 269 ⟨"LaceBondsModel", "rail", "()I"⟩ ∈ gw := gt_9 (i := 123) (by decide +kernel) rfl
theorem w_2044 : Cond.instanceMethod ⟨"LaceBondsModel", "rail", "()I"⟩ ∈ gw := gt_9 (i := 124) (by decide +kernel) rfl
theorem w_2045 : Cond.selects "LaceBondsModel" ⟨"LaceBondsModel", "rail", "()I"⟩ ⟨"LaceBondsModel", "rail", "()I"⟩ ∈ gw := gt_9 (i := 125) (by decide +kernel) rfl
theorem w_2046 : Cond.code ⟨"LaceBondsModel", "rail", "()I"⟩ prog_14_method_130_code 1 (Option.some ClassFile.FieldType.int) ∈ gw := gt_9 (i := 126) (by decide +kernel) rfl
theorem w_2047 : Cond.methodLink "LaceBondsLaw" 272 ⟨"LaceBondsModel", "trial", "(IZ)I"⟩ ∈ gw := gt_9 (i := 127) (by decide +kernel) rfl
theorem w_2048 : Cond.instanceMethod ⟨"LaceBondsModel", "trial", "(IZ)I"⟩ ∈ gw := gt_9 (i := 128) (by decide +kernel) rfl
theorem w_2049 : Cond.selects "LaceBondsModel" ⟨"LaceBondsModel", "trial", "(IZ)I"⟩ ⟨"LaceBondsModel", "trial", "(IZ)I"⟩ ∈ gw := gt_9 (i := 129) (by decide +kernel) rfl
theorem w_2050 : Cond.code ⟨"LaceBondsModel", "trial", "(IZ)I"⟩ prog_14_method_131_code 4 (Option.some ClassFile.FieldType.int) ∈ gw := gt_9 (i := 130) (by decide +kernel) rfl
theorem w_2051 : Cond.methodLink "LaceBondsLaw" 275 ⟨"LaceBondsModel", "span", "(IZ)I"⟩ ∈ gw := gt_9 (i := 131) (by decide +kernel) rfl
theorem w_2052 : Cond.instanceMethod ⟨"LaceBondsModel", "span", "(IZ)I"⟩ ∈ gw := gt_9 (i := 132) (by decide +kernel) rfl
theorem w_2053 : Cond.selects "LaceBondsModel" ⟨"LaceBondsModel", "span", "(IZ)I"⟩ ⟨"LaceBondsModel", "span", "(IZ)I"⟩ ∈ gw := gt_9 (i := 133) (by decide +kernel) rfl
theorem w_2054 : Cond.code ⟨"LaceBondsModel", "span", "(IZ)I"⟩ prog_14_method_132_code 6 (Option.some ClassFile.FieldType.int) ∈ gw := gt_9 (i := 134) (by decide +kernel) rfl
theorem w_2055 : Cond.methodLink "LaceBondsLaw" 278 ⟨"LaceBondsModel", "led", "(IZ)I"⟩ ∈ gw := gt_9 (i := 135) (by decide +kernel) rfl
theorem w_2056 : Cond.instanceMethod ⟨"LaceBondsModel", "led", "(IZ)I"⟩ ∈ gw := gt_9 (i := 136) (by decide +kernel) rfl
theorem w_2057 : Cond.selects "LaceBondsModel" ⟨"LaceBondsModel", "led", "(IZ)I"⟩ ⟨"LaceBondsModel", "led", "(IZ)I"⟩ ∈ gw := gt_9 (i := 137) (by decide +kernel) rfl
theorem w_2058 : Cond.code ⟨"LaceBondsModel", "led", "(IZ)I"⟩ prog_14_method_134_code 6 (Option.some ClassFile.FieldType.int) ∈ gw := gt_9 (i := 138) (by decide +kernel) rfl
theorem w_2063 : Cond.methodLink "LaceBondsLaw" 281 ⟨"LaceBondsModel", "log", "(II)I"⟩ ∈ gw := gt_9 (i := 143) (by decide +kernel) rfl
theorem w_2064 : Cond.instanceMethod ⟨"LaceBondsModel", "log", "(II)I"⟩ ∈ gw := gt_9 (i := 144) (by decide +kernel) rfl
theorem w_2065 : Cond.selects "LaceBondsModel" ⟨"LaceBondsModel", "log", "(II)I"⟩ ⟨"LaceBondsModel", "log", "(II)I"⟩ ∈ gw := gt_9 (i := 145) (by decide +kernel) rfl
theorem w_2066 : Cond.code ⟨"LaceBondsModel", "log", "(II)I"⟩ prog_14_method_135_code 3 (Option.some ClassFile.FieldType.int) ∈ gw := gt_9 (i := 146) (by decide +kernel) rfl
theorem w_2067 : Cond.methodLink "LaceBondsLaw" 285 ⟨"LaceBondsModel", "seed", "(I)I"⟩ ∈ gw := gt_9 (i := 147) (by decide +kernel) rfl
theorem w_2068 : Cond.instanceMethod ⟨"LaceBondsModel", "seed", "(I)I"⟩ ∈ gw := gt_9 (i := 148) (by decide +kernel) rfl
theorem w_2069 : Cond.selects "LaceBondsModel" ⟨"LaceBondsModel", "seed", "(I)I"⟩ ⟨"LaceBondsModel", "seed", "(I)I"⟩ ∈ gw := gt_9 (i := 149) (by decide +kernel) rfl
theorem w_2070 : Cond.code ⟨"LaceBondsModel", "seed", "(I)I"⟩ prog_14_method_136_code 3 (Option.some ClassFile.FieldType.int) ∈ gw := gt_9 (i := 150) (by decide +kernel) rfl
theorem w_2071 : Cond.methodLink "LaceBondsLaw" 302 ⟨"LaceBondsModel", "count", "(I)I"⟩ ∈ gw := gt_9 (i := 151) (by decide +kernel) rfl
theorem w_2072 : Cond.instanceMethod ⟨"LaceBondsModel", "count", "(I)I"⟩ ∈ gw := gt_9 (i := 152) (by decide +kernel) rfl
theorem w_2073 : Cond.selects "LaceBondsModel" ⟨"LaceBondsModel", "count", "(I)I"⟩ ⟨"LaceBondsModel", "count", "(I)I"⟩ ∈ gw := gt_9 (i := 153) (by decide +kernel) rfl
theorem w_2074 : Cond.code ⟨"LaceBondsModel", "count", "(I)I"⟩ prog_14_method_138_code 2 (Option.some ClassFile.FieldType.int) ∈ gw := gt_9 (i := 154) (by decide +kernel) rfl
theorem w_380 : Cond.methodLink "LaceBondsLaw" 130 ⟨"LaceBonds", "feed", "(IIIII)I"⟩ ∈ gw := gt_2 (i := 140) (by decide +kernel) rfl
theorem w_381 : Cond.instanceMethod ⟨"LaceBonds", "feed", "(IIIII)I"⟩ ∈ gw := gt_2 (i := 141) (by decide +kernel) rfl
theorem w_382 : Cond.selects "LaceBonds" ⟨"LaceBonds", "feed", "(IIIII)I"⟩ ⟨"LaceBonds", "feed", "(IIIII)I"⟩ ∈ gw := gt_2 (i := 142) (by decide +kernel) rfl
theorem w_383 : Cond.code ⟨"LaceBonds", "feed", "(IIIII)I"⟩ prog_1_method_2_code 6 (Option.some ClassFile.FieldType.int) ∈ gw := gt_2 (i := 143) (by decide +kernel) rfl
theorem w_388 : Cond.methodLink "LaceBondsLaw" 134 ⟨"LaceBonds", "end", "(I)Z"⟩ ∈ gw := gt_2 (i := 148) (by decide +kernel) rfl
theorem w_389 : Cond.instanceMethod ⟨"LaceBonds", "end", "(I)Z"⟩ ∈ gw := gt_2 (i := 149) (by decide +kernel) rfl
theorem w_390 : Cond.selects "LaceBonds" ⟨"LaceBonds", "end", "(I)Z"⟩ ⟨"LaceBonds", "end", "(I)Z"⟩ ∈ gw := gt_2 (i := 150) (by decide +kernel) rfl
theorem w_391 : Cond.code ⟨"LaceBonds", "end", "(I)Z"⟩ prog_1_method_3_code 2 (Option.some ClassFile.FieldType.boolean) ∈ gw := gt_2 (i := 151) (by decide +kernel) rfl
theorem w_392 : Cond.methodLink "LaceBondsLaw" 151 ⟨"LaceBonds", "fault", "()I"⟩ ∈ gw := gt_2 (i := 152) (by decide +kernel) rfl
theorem w_393 : Cond.instanceMethod ⟨"LaceBonds", "fault", "()I"⟩ ∈ gw := gt_2 (i := 153) (by decide +kernel) rfl
theorem w_394 : Cond.selects "LaceBonds" ⟨"LaceBonds", "fault", "()I"⟩ ⟨"LaceBonds", "fault", "()I"⟩ ∈ gw := gt_2 (i := 154) (by decide +kernel) rfl
theorem w_395 : Cond.code ⟨"LaceBonds", "fault", "()I"⟩ prog_1_method_6_code 1 (Option.some ClassFile.FieldType.int) ∈ gw := gt_2 (i := 155) (by decide +kernel) rfl
theorem w_396 : Cond.methodLink "LaceBondsLaw" 194 ⟨"LaceBonds", "solvent", "()I"⟩ ∈ gw := gt_2 (i := 156) (by decide +kernel) rfl
theorem w_397 : Cond.instanceMethod ⟨"LaceBonds", "solvent", "()I"⟩ ∈ gw := gt_2 (i := 157) (by decide +kernel) rfl
theorem w_398 : Cond.selects "LaceBonds" ⟨"LaceBonds", "solvent", "()I"⟩ ⟨"LaceBonds", "solvent", "()I"⟩ ∈ gw := gt_2 (i := 158) (by decide +kernel) rfl
theorem w_399 : Cond.code ⟨"LaceBonds", "solvent", "()I"⟩ prog_1_method_19_code 3 (Option.some ClassFile.FieldType.int) ∈ gw := gt_2 (i := 159) (by decide +kernel) rfl
theorem w_414 : Cond.methodLink "LaceBondsLaw" 211 ⟨"LaceBonds", "rings", "()I"⟩ ∈ gw := gt_2 (i := 174) (by decide +kernel) rfl
theorem w_415 : Cond.instanceMethod ⟨"LaceBonds", "rings", "()I"⟩ ∈ gw := gt_2 (i := 175) (by decide +kernel) rfl
theorem w_416 : Cond.selects "LaceBonds" ⟨"LaceBonds", "rings", "()I"⟩ ⟨"LaceBonds", "rings", "()I"⟩ ∈ gw := gt_2 (i := 176) (by decide +kernel) rfl
theorem w_417 : Cond.code ⟨"LaceBonds", "rings", "()I"⟩ prog_1_method_24_code 1 (Option.some ClassFile.FieldType.int) ∈ gw := gt_2 (i := 177) (by decide +kernel) rfl
theorem w_452 : Cond.methodLink "LaceBondsLaw" 215 ⟨"LaceBonds", "untie", "(Z)I"⟩ ∈ gw := gt_2 (i := 212) (by decide +kernel) rfl
theorem w_453 : Cond.instanceMethod ⟨"LaceBonds", "untie", "(Z)I"⟩ ∈ gw := gt_2 (i := 213) (by decide +kernel) rfl
theorem w_454 : Cond.selects "LaceBonds" ⟨"LaceBonds", "untie", "(Z)I"⟩ ⟨"LaceBonds", "untie", "(Z)I"⟩ ∈ gw := gt_2 (i := 214) (by decide +kernel) rfl
theorem w_455 : Cond.code ⟨"LaceBonds", "untie", "(Z)I"⟩ prog_1_method_25_code 2 (Option.some ClassFile.FieldType.int) ∈ gw := gt_2 (i := 215) (by decide +kernel) rfl
theorem w_457 : Cond.methodLink "LaceBondsLaw" 238 ⟨"LaceBonds", "trust", "()I"⟩ ∈ gw := gt_2 (i := 217) (by decide +kernel) rfl
theorem w_458 : Cond.instanceMethod ⟨"LaceBonds", "trust", "()I"⟩ ∈ gw := gt_2 (i := 218) (by decide +kernel) rfl
theorem w_459 : Cond.selects "LaceBonds" ⟨"LaceBonds", "trust", "()I"⟩ ⟨"LaceBonds", "trust", "()I"⟩ ∈ gw := gt_2 (i := 219) (by decide +kernel) rfl
theorem w_460 : Cond.code ⟨"LaceBonds", "trust", "()I"⟩ prog_1_method_32_code 5 (Option.some ClassFile.FieldType.int) ∈ gw := gt_2 (i := 220) (by decide +kernel) rfl
theorem w_466 : Cond.methodLink "LaceBondsLaw" 242 ⟨"LaceBonds", "needed", "()I"⟩ ∈ gw := gt_2 (i := 226) (by decide +kernel) rfl
theorem w_467 : Cond.instanceMethod ⟨"LaceBonds", "needed", "()I"⟩ ∈ gw := gt_2 (i := 227) (by decide +kernel) rfl
theorem w_468 : Cond.selects "LaceBonds" ⟨"LaceBonds", "needed", "()I"⟩ ⟨"LaceBonds", "needed", "()I"⟩ ∈ gw := gt_2 (i := 228) (by decide +kernel) rfl
theorem w_469 : Cond.code ⟨"LaceBonds", "needed", "()I"⟩ prog_1_method_33_code 3 (Option.some ClassFile.FieldType.int) ∈ gw := gt_2 (i := 229) (by decide +kernel) rfl
theorem w_480 : Cond.methodLink "LaceBondsLaw" 256 ⟨"LaceBonds", "pairs", "()I"⟩ ∈ gw := gt_3 (i := 0) (by decide +kernel) rfl
theorem w_481 : Cond.instanceMethod ⟨"LaceBonds", "pairs", "()I"⟩ ∈ gw := gt_3 (i := 1) (by decide +kernel) rfl
theorem w_482 : Cond.selects "LaceBonds" ⟨"LaceBonds", "pairs", "()I"⟩ ⟨"LaceBonds", "pairs", "()I"⟩ ∈ gw := gt_3 (i := 2) (by decide +kernel) rfl
theorem w_483 : Cond.code ⟨"LaceBonds", "pairs", "()I"⟩ prog_1_method_37_code 5 (Option.some ClassFile.FieldType.int) ∈ gw := gt_3 (i := 3) (by decide +kernel) rfl
theorem w_521 : Cond.methodLink "LaceBondsLaw" 266 ⟨"LaceBonds", "rail", "()I"⟩ ∈ gw := gt_3 (i := 41) (by decide +kernel) rfl
theorem w_522 : Cond.instanceMethod ⟨"LaceBonds", "rail", "()I"⟩ ∈ gw := gt_3 (i := 42) (by decide +kernel) rfl
theorem w_523 : Cond.selects "LaceBonds" ⟨"LaceBonds", "rail", "()I"⟩ ⟨"LaceBonds", "rail", "()I"⟩ ∈ gw := gt_3 (i := 43) (by decide +kernel) rfl
theorem w_524 : Cond.code ⟨"LaceBonds", "rail", "()I"⟩ prog_1_method_40_code 1 (Option.some ClassFile.FieldType.int) ∈ gw := gt_3 (i := 44) (by decide +kernel) rfl
theorem w_529 : Cond.methodLink "LaceBondsLaw" 282 ⟨"LaceBonds", "seed", "(I)I"⟩ ∈ gw := gt_3 (i := 49) (by decide +kernel) rfl
theorem w_530 : Cond.instanceMethod ⟨"LaceBonds", "seed", "(I)I"⟩ ∈ gw := gt_3 (i := 50) (by decide +kernel) rfl
theorem w_531 : Cond.selects "LaceBonds" ⟨"LaceBonds", "seed", "(I)I"⟩ ⟨"LaceBonds", "seed", "(I)I"⟩ ∈ gw := gt_3 (i := 51) (by decide +kernel) rfl
theorem w_532 : Cond.code ⟨"LaceBonds", "seed", "(I)I"⟩ prog_1_method_45_code 3 (Option.some ClassFile.FieldType.int) ∈ gw := gt_3 (i := 52) (by decide +kernel) rfl
theorem w_533 : Cond.methodLink "LaceBondsLaw" 286 ⟨"LaceBonds", "undo", "()Z"⟩ ∈ gw := gt_3 (i := 53) (by decide +kernel) rfl
theorem w_534 : Cond.instanceMethod ⟨"LaceBonds", "undo", "()Z"⟩ ∈ gw := gt_3 (i := 54) (by decide +kernel) rfl
theorem w_535 : Cond.selects "LaceBonds" ⟨"LaceBonds", "undo", "()Z"⟩ ⟨"LaceBonds", "undo", "()Z"⟩ ∈ gw := gt_3 (i := 55) (by decide +kernel) rfl
theorem w_536 : Cond.code ⟨"LaceBonds", "undo", "()Z"⟩ prog_1_method_46_code 1 (Option.some ClassFile.FieldType.boolean) ∈ gw := gt_3 (i := 56) (by decide +kernel) rfl
theorem w_553 : Cond.methodLink "LaceBondsLaw" 291 ⟨"LaceBonds", "image", "()V"⟩ ∈ gw := gt_3 (i := 73) (by decide +kernel) rfl
theorem w_554 : Cond.instanceMethod ⟨"LaceBonds", "image", "()V"⟩ ∈ gw := gt_3 (i := 74) (by decide +kernel) rfl
theorem w_555 : Cond.selects "LaceBonds" ⟨"LaceBonds", "image", "()V"⟩ ⟨"LaceBonds", "image", "()V"⟩ ∈ gw := gt_3 (i := 75) (by decide +kernel) rfl
theorem w_556 : Cond.code ⟨"LaceBonds", "image", "()V"⟩ prog_1_method_47_code 1 (none) ∈ gw := gt_3 (i := 76) (by decide +kernel) rfl
theorem w_563 : Cond.methodLink "LaceBondsLaw" 295 ⟨"LaceBonds", "back", "()Z"⟩ ∈ gw := gt_3 (i := 83) (by decide +kernel) rfl
theorem w_564 : Cond.instanceMethod ⟨"LaceBonds", "back", "()Z"⟩ ∈ gw := gt_3 (i := 84) (by decide +kernel) rfl
theorem w_565 : Cond.selects "LaceBonds" ⟨"LaceBonds", "back", "()Z"⟩ ⟨"LaceBonds", "back", "()Z"⟩ ∈ gw := gt_3 (i := 85) (by decide +kernel) rfl
theorem w_566 : Cond.code ⟨"LaceBonds", "back", "()Z"⟩ prog_1_method_48_code 1 (Option.some ClassFile.FieldType.boolean) ∈ gw := gt_3 (i := 86) (by decide +kernel) rfl
theorem w_571 : Cond.methodLink "LaceBondsLaw" 299 ⟨"LaceBonds", "count", "(I)I"⟩ ∈ gw := gt_3 (i := 91) (by decide +kernel) rfl
theorem w_572 : Cond.instanceMethod ⟨"LaceBonds", "count", "(I)I"⟩ ∈ gw := gt_3 (i := 92) (by decide +kernel) rfl
theorem w_573 : Cond.selects "LaceBonds" ⟨"LaceBonds", "count", "(I)I"⟩ ⟨"LaceBonds", "count", "(I)I"⟩ ∈ gw := gt_3 (i := 93) (by decide +kernel) rfl
theorem w_574 : Cond.code ⟨"LaceBonds", "count", "(I)I"⟩ prog_1_method_49_code 2 (Option.some ClassFile.FieldType.int) ∈ gw := gt_3 (i := 94) (by decide +kernel) rfl
theorem w_579 : Cond.methodLink "LaceBondsLaw" 139 ⟨"LaceBondsLaw", "land", "(LLaceBonds;[J)I"⟩ ∈ gw := gt_3 (i := 99) (by decide +kernel) rfl
theorem w_580 : Cond.static ⟨"LaceBondsLaw", "land", "(LLaceBonds;[J)I"⟩ ∈ gw := gt_3 (i := 100) (by decide +kernel) rfl
theorem w_581 : Cond.codeWith ⟨"LaceBondsLaw", "land", "(LLaceBonds;[J)I"⟩ method_3_code 3 (Option.some ClassFile.FieldType.int) [(0, 8, 11, 13), (0, 8, 14, 15)] ∈ gw := gt_3 (i := 101) (by decide +kernel) rfl
theorem w_908 : Cond.methodLink "LaceBondsLaw" 148 ⟨"LaceBondsLaw", "law", "(LLaceBonds;[J)I"⟩ ∈ gw := gt_4 (i := 188) (by decide +kernel) rfl
theorem w_909 : Cond.static ⟨"LaceBondsLaw", "law", "(LLaceBonds;[J)I"⟩ ∈ gw := gt_4 (i := 189) (by decide +kernel) rfl
theorem w_910 : Cond.codeWith ⟨"LaceBondsLaw", "law", "(LLaceBonds;[J)I"⟩ method_4_code 3 (Option.some ClassFile.FieldType.int) [(0, 8, 11, 13)] ∈ gw := gt_4 (i := 190) (by decide +kernel) rfl
theorem w_923 : Cond.methodLink "LaceBondsLaw" 155 ⟨"LaceBondsLaw", "person", "(LLaceBonds;II[J)I"⟩ ∈ gw := gt_4 (i := 203) (by decide +kernel) rfl
theorem w_924 : Cond.static ⟨"LaceBondsLaw", "person", "(LLaceBonds;II[J)I"⟩ ∈ gw := gt_4 (i := 204) (by decide +kernel) rfl
theorem w_925 : Cond.codeWith ⟨"LaceBondsLaw", "person", "(LLaceBonds;II[J)I"⟩ method_5_code 5 (Option.some ClassFile.FieldType.int) [(0, 10, 13, 24), (0, 10, 17, 26)] ∈ gw := gt_4 (i := 205) (by decide +kernel) rfl
theorem w_981 : Cond.methodLink "LaceBondsLaw" 159 ⟨"LaceBondsLaw", "lace", "(LLaceBonds;II[J)I"⟩ ∈ gw := gt_5 (i := 21) (by decide +kernel) rfl
theorem w_982 : Cond.static ⟨"LaceBondsLaw", "lace", "(LLaceBonds;II[J)I"⟩ ∈ gw := gt_5 (i := 22) (by decide +kernel) rfl
theorem w_983 : Cond.codeWith ⟨"LaceBondsLaw", "lace", "(LLaceBonds;II[J)I"⟩ method_6_code 5 (Option.some ClassFile.FieldType.int) [(0, 10, 13, 24), (0, 10, 17, 26)] ∈ gw := gt_5 (i := 23) (by decide +kernel) rfl
theorem w_994 : Cond.methodLink "LaceBondsLaw" 162 ⟨"LaceBondsLaw", "mud", "(LLaceBonds;I[J)I"⟩ ∈ gw := gt_5 (i := 34) (by decide +kernel) rfl
theorem w_995 : Cond.static ⟨"LaceBondsLaw", "mud", "(LLaceBonds;I[J)I"⟩ ∈ gw := gt_5 (i := 35) (by decide +kernel) rfl
theorem w_996 : Cond.codeWith ⟨"LaceBondsLaw", "mud", "(LLaceBonds;I[J)I"⟩ method_7_code 4 (Option.some ClassFile.FieldType.int) [(0, 9, 12, 24)] ∈ gw := gt_5 (i := 36) (by decide +kernel) rfl
theorem ks_RL_139 : LkS RL 139 yL_land := ⟨w_579, w_580⟩
theorem ks_RL_148 : LkS RL 148 yL_law := ⟨w_908, w_909⟩
theorem ks_RL_155 : LkS RL 155 yL_person := ⟨w_923, w_924⟩
theorem ks_RL_159 : LkS RL 159 yL_lace := ⟨w_981, w_982⟩
theorem ks_RL_162 : LkS RL 162 yL_mud := ⟨w_994, w_995⟩
theorem ks_RL_166 : LkS RL 166 yL_walks := ⟨w_1006, w_1007⟩
theorem ks_RL_169 : LkS RL 169 yL_grows := ⟨w_1021, w_1022⟩
theorem ks_RL_172 : LkS RL 172 yL_lend := ⟨w_1033, w_1034⟩
theorem ks_RL_176 : LkS RL 176 yL_pay := ⟨w_1074, w_1075⟩
theorem ks_RL_179 : LkS RL 179 yL_surety := ⟨w_1088, w_1089⟩
theorem ks_RL_182 : LkS RL 182 yL_give := ⟨w_1101, w_1102⟩
theorem ks_RL_185 : LkS RL 185 yL_goal := ⟨w_1110, w_1111⟩
theorem ks_RL_188 : LkS RL 188 yL_rest := ⟨w_1117, w_1118⟩
theorem ks_RL_191 : LkS RL 191 yL_days := ⟨w_1124, w_1125⟩
theorem ks_RL_198 : LkS RL 198 yL_comes := ⟨w_1161, w_1162⟩
theorem ks_RL_201 : LkS RL 201 yL_soonest := ⟨w_1172, w_1173⟩
theorem ks_RL_204 : LkS RL 204 yL_carry := ⟨w_1179, w_1180⟩
theorem ks_RL_207 : LkS RL 207 yL_ahead := ⟨w_1220, w_1221⟩
theorem ks_RL_219 : LkS RL 219 yL_owes := ⟨w_1232, w_1233⟩
theorem ks_RL_222 : LkS RL 222 yL_leads := ⟨w_1253, w_1254⟩
theorem ks_RL_225 : LkS RL 225 yL_call := ⟨w_1260, w_1261⟩
theorem ks_RL_229 : LkS RL 229 yL_breaks := ⟨w_1279, w_1280⟩
theorem ks_RL_232 : LkS RL 232 yL_mercy := ⟨w_1286, w_1287⟩
theorem ks_RL_235 : LkS RL 235 yL_hangs := ⟨w_1298, w_1299⟩
theorem ks_RL_246 : LkS RL 246 yL_wear := ⟨w_1305, w_1306⟩
theorem ks_RL_250 : LkS RL 250 yL_look := ⟨w_1335, w_1336⟩
theorem ks_RL_253 : LkS RL 253 yL_race := ⟨w_1347, w_1348⟩
theorem ks_RL_260 : LkS RL 260 yL_lends := ⟨w_1354, w_1355⟩
theorem ks_RL_263 : LkS RL 263 yL_loose := ⟨w_1363, w_1364⟩
theorem ks_RL_270 : LkS RL 270 yL_trial := ⟨w_1370, w_1371⟩
theorem ks_RL_273 : LkS RL 273 yL_span := ⟨w_1377, w_1378⟩
theorem ks_RL_276 : LkS RL 276 yL_led := ⟨w_1385, w_1386⟩
theorem ks_RL_279 : LkS RL 279 yL_log := ⟨w_1415, w_1416⟩
theorem kv_RL_130 : LkV RL 130 yX11_feed := ⟨w_380, w_381, w_382⟩
theorem kv_RL_133 : LkV RL 133 yX12_feed := ⟨w_1527, w_1528, w_1529⟩
theorem kv_RL_134 : LkV RL 134 yX11_end := ⟨w_388, w_389, w_390⟩
theorem kv_RL_138 : LkV RL 138 yX12_end := ⟨w_1531, w_1532, w_1533⟩
theorem kv_RL_144 : LkV RL 144 yX12_land := ⟨w_1539, w_1540, w_1541⟩
theorem kv_RL_145 : LkV RL 145 yX12_thrown := ⟨w_1433, w_1434, w_1435⟩
theorem kv_RL_150 : LkV RL 150 yX12_law := ⟨w_1698, w_1699, w_1700⟩
theorem kv_RL_151 : LkV RL 151 yX11_fault := ⟨w_392, w_393, w_394⟩
theorem kv_RL_154 : LkV RL 154 yX12_fault := ⟨w_1535, w_1536, w_1537⟩
theorem kv_RL_158 : LkV RL 158 yX12_person := ⟨w_1702, w_1703, w_1704⟩
theorem kv_RL_161 : LkV RL 161 yX12_lace := ⟨w_1746, w_1747, w_1748⟩
theorem kv_RL_165 : LkV RL 165 yX12_mud := ⟨w_1754, w_1755, w_1756⟩
theorem kv_RL_168 : LkV RL 168 yX12_walks := ⟨w_1761, w_1762, w_1763⟩
theorem kv_RL_171 : LkV RL 171 yX12_grows := ⟨w_1799, w_1800, w_1801⟩
theorem kv_RL_175 : LkV RL 175 yX12_lend := ⟨w_1807, w_1808, w_1809⟩
theorem kv_RL_178 : LkV RL 178 yX12_pay := ⟨w_1823, w_1824, w_1825⟩
theorem kv_RL_181 : LkV RL 181 yX12_surety := ⟨w_1831, w_1832, w_1833⟩
theorem kv_RL_184 : LkV RL 184 yX12_give := ⟨w_1835, w_1836, w_1837⟩
theorem kv_RL_187 : LkV RL 187 yX12_goal := ⟨w_1839, w_1840, w_1841⟩
theorem kv_RL_190 : LkV RL 190 yX12_rest := ⟨w_1843, w_1844, w_1845⟩
theorem kv_RL_193 : LkV RL 193 yX12_days := ⟨w_1847, w_1848, w_1849⟩
theorem kv_RL_194 : LkV RL 194 yX11_solvent := ⟨w_396, w_397, w_398⟩
theorem kv_RL_197 : LkV RL 197 yX12_solvent := ⟨w_1923, w_1924, w_1925⟩
theorem kv_RL_200 : LkV RL 200 yX12_comes := ⟨w_1891, w_1892, w_1893⟩
theorem kv_RL_203 : LkV RL 203 yX12_soonest := ⟨w_1900, w_1901, w_1902⟩
theorem kv_RL_206 : LkV RL 206 yX12_carry := ⟨w_1904, w_1905, w_1906⟩
theorem kv_RL_210 : LkV RL 210 yX12_ahead := ⟨w_1879, w_1880, w_1881⟩
theorem kv_RL_211 : LkV RL 211 yX11_rings := ⟨w_414, w_415, w_416⟩
theorem kv_RL_214 : LkV RL 214 yX12_rings := ⟨w_1927, w_1928, w_1929⟩
theorem kv_RL_215 : LkV RL 215 yX11_untie := ⟨w_452, w_453, w_454⟩
theorem kv_RL_218 : LkV RL 218 yX12_untie := ⟨w_1939, w_1940, w_1941⟩
theorem kv_RL_221 : LkV RL 221 yX12_owes := ⟨w_1943, w_1944, w_1945⟩
theorem kv_RL_224 : LkV RL 224 yX12_leads := ⟨w_1955, w_1956, w_1957⟩
theorem kv_RL_228 : LkV RL 228 yX12_call := ⟨w_1959, w_1960, w_1961⟩
theorem kv_RL_231 : LkV RL 231 yX12_breaks := ⟨w_1971, w_1972, w_1973⟩
theorem kv_RL_234 : LkV RL 234 yX12_mercy := ⟨w_1975, w_1976, w_1977⟩
theorem kv_RL_237 : LkV RL 237 yX12_hangs := ⟨w_1983, w_1984, w_1985⟩
theorem kv_RL_238 : LkV RL 238 yX11_trust := ⟨w_457, w_458, w_459⟩
theorem kv_RL_241 : LkV RL 241 yX12_trust := ⟨w_1991, w_1992, w_1993⟩
theorem kv_RL_242 : LkV RL 242 yX11_needed := ⟨w_466, w_467, w_468⟩
theorem kv_RL_245 : LkV RL 245 yX12_needed := ⟨w_1995, w_1996, w_1997⟩
theorem kv_RL_249 : LkV RL 249 yX12_wear := ⟨w_2007, w_2008, w_2009⟩
theorem kv_RL_252 : LkV RL 252 yX12_look := ⟨w_2019, w_2020, w_2021⟩
theorem kv_RL_255 : LkV RL 255 yX12_race := ⟨w_2023, w_2024, w_2025⟩
theorem kv_RL_256 : LkV RL 256 yX11_pairs := ⟨w_480, w_481, w_482⟩
theorem kv_RL_259 : LkV RL 259 yX12_pairs := ⟨w_2031, w_2032, w_2033⟩
theorem kv_RL_262 : LkV RL 262 yX12_lends := ⟨w_2035, w_2036, w_2037⟩
theorem kv_RL_265 : LkV RL 265 yX12_loose := ⟨w_2039, w_2040, w_2041⟩
theorem kv_RL_266 : LkV RL 266 yX11_rail := ⟨w_521, w_522, w_523⟩
theorem kv_RL_269 : LkV RL 269 yX12_rail := ⟨w_2043, w_2044, w_2045⟩
theorem kv_RL_272 : LkV RL 272 yX12_trial := ⟨w_2047, w_2048, w_2049⟩
theorem kv_RL_275 : LkV RL 275 yX12_span := ⟨w_2051, w_2052, w_2053⟩
theorem kv_RL_278 : LkV RL 278 yX12_led := ⟨w_2055, w_2056, w_2057⟩
theorem kv_RL_281 : LkV RL 281 yX12_log := ⟨w_2063, w_2064, w_2065⟩
theorem kv_RL_282 : LkV RL 282 yX11_seed := ⟨w_529, w_530, w_531⟩
theorem kv_RL_285 : LkV RL 285 yX12_seed := ⟨w_2067, w_2068, w_2069⟩
theorem kv_RL_286 : LkV RL 286 yX11_undo := ⟨w_533, w_534, w_535⟩
theorem kv_RL_290 : LkV RL 290 yX12_undo := ⟨w_1523, w_1524, w_1525⟩
theorem kv_RL_291 : LkV RL 291 yX11_image := ⟨w_553, w_554, w_555⟩
theorem kv_RL_294 : LkV RL 294 yX12_image := ⟨w_1515, w_1516, w_1517⟩
theorem kv_RL_295 : LkV RL 295 yX11_back := ⟨w_563, w_564, w_565⟩
theorem kv_RL_298 : LkV RL 298 yX12_back := ⟨w_1519, w_1520, w_1521⟩
theorem kv_RL_299 : LkV RL 299 yX11_count := ⟨w_571, w_572, w_573⟩
theorem kv_RL_302 : LkV RL 302 yX12_count := ⟨w_2071, w_2072, w_2073⟩
theorem m_L_ahead : LkM yL_ahead F_L_ahead (.codeWith yL_ahead F_L_ahead.2.1 F_L_ahead.2.2.1 (some .int) F_L_ahead.2.2.2.2.2.2) 5 := ⟨w_1222, w_0, ⟨by decide, by decide⟩, by decide +kernel, by decide⟩
theorem m_L_breaks : LkM yL_breaks F_L_breaks (.codeWith yL_breaks F_L_breaks.2.1 F_L_breaks.2.2.1 (some .int) F_L_breaks.2.2.2.2.2.2) 3 := ⟨w_1281, w_0, ⟨by decide, by decide⟩, by decide +kernel, by decide⟩
theorem m_L_call : LkM yL_call F_L_call (.codeWith yL_call F_L_call.2.1 F_L_call.2.2.1 (some .int) F_L_call.2.2.2.2.2.2) 4 := ⟨w_1262, w_0, ⟨by decide, by decide⟩, by decide +kernel, by decide⟩
theorem m_L_carry : LkM yL_carry F_L_carry (.codeWith yL_carry F_L_carry.2.1 F_L_carry.2.2.1 (some .int) F_L_carry.2.2.2.2.2.2) 3 := ⟨w_1181, w_0, ⟨by decide, by decide⟩, by decide +kernel, by decide⟩
theorem m_L_comes : LkM yL_comes F_L_comes (.codeWith yL_comes F_L_comes.2.1 F_L_comes.2.2.1 (some .int) F_L_comes.2.2.2.2.2.2) 4 := ⟨w_1163, w_0, ⟨by decide, by decide⟩, by decide +kernel, by decide⟩
theorem m_L_days : LkM yL_days F_L_days (.codeWith yL_days F_L_days.2.1 F_L_days.2.2.1 (some .int) F_L_days.2.2.2.2.2.2) 3 := ⟨w_1126, w_0, ⟨by decide, by decide⟩, by decide +kernel, by decide⟩
theorem m_L_give : LkM yL_give F_L_give (.codeWith yL_give F_L_give.2.1 F_L_give.2.2.1 (some .int) F_L_give.2.2.2.2.2.2) 4 := ⟨w_1103, w_0, ⟨by decide, by decide⟩, by decide +kernel, by decide⟩
theorem m_L_goal : LkM yL_goal F_L_goal (.codeWith yL_goal F_L_goal.2.1 F_L_goal.2.2.1 (some .int) F_L_goal.2.2.2.2.2.2) 4 := ⟨w_1112, w_0, ⟨by decide, by decide⟩, by decide +kernel, by decide⟩
theorem m_L_grows : LkM yL_grows F_L_grows (.codeWith yL_grows F_L_grows.2.1 F_L_grows.2.2.1 (some .int) F_L_grows.2.2.2.2.2.2) 3 := ⟨w_1023, w_0, ⟨by decide, by decide⟩, by decide +kernel, by decide⟩
theorem m_L_hangs : LkM yL_hangs F_L_hangs (.codeWith yL_hangs F_L_hangs.2.1 F_L_hangs.2.2.1 (some .int) F_L_hangs.2.2.2.2.2.2) 3 := ⟨w_1300, w_0, ⟨by decide, by decide⟩, by decide +kernel, by decide⟩
theorem m_L_lace : LkM yL_lace F_L_lace (.codeWith yL_lace F_L_lace.2.1 F_L_lace.2.2.1 (some .int) F_L_lace.2.2.2.2.2.2) 4 := ⟨w_983, w_0, ⟨by decide, by decide⟩, by decide +kernel, by decide⟩
theorem m_L_land : LkM yL_land F_L_land (.codeWith yL_land F_L_land.2.1 F_L_land.2.2.1 (some .int) F_L_land.2.2.2.2.2.2) 2 := ⟨w_581, w_0, ⟨by decide, by decide⟩, by decide +kernel, by decide⟩
theorem m_L_law : LkM yL_law F_L_law (.codeWith yL_law F_L_law.2.1 F_L_law.2.2.1 (some .int) F_L_law.2.2.2.2.2.2) 2 := ⟨w_910, w_0, ⟨by decide, by decide⟩, by decide +kernel, by decide⟩
theorem m_L_leads : LkM yL_leads F_L_leads (.codeWith yL_leads F_L_leads.2.1 F_L_leads.2.2.1 (some .int) F_L_leads.2.2.2.2.2.2) 3 := ⟨w_1255, w_0, ⟨by decide, by decide⟩, by decide +kernel, by decide⟩
theorem m_L_led : LkM yL_led F_L_led (.codeWith yL_led F_L_led.2.1 F_L_led.2.2.1 (some .int) F_L_led.2.2.2.2.2.2) 4 := ⟨w_1387, w_0, ⟨by decide, by decide⟩, by decide +kernel, by decide⟩
theorem m_L_lend : LkM yL_lend F_L_lend (.codeWith yL_lend F_L_lend.2.1 F_L_lend.2.2.1 (some .int) F_L_lend.2.2.2.2.2.2) 7 := ⟨w_1035, w_0, ⟨by decide, by decide⟩, by decide +kernel, by decide⟩
theorem m_L_lends : LkM yL_lends F_L_lends (.codeWith yL_lends F_L_lends.2.1 F_L_lends.2.2.1 (some .int) F_L_lends.2.2.2.2.2.2) 3 := ⟨w_1356, w_0, ⟨by decide, by decide⟩, by decide +kernel, by decide⟩
theorem m_L_log : LkM yL_log F_L_log (.codeWith yL_log F_L_log.2.1 F_L_log.2.2.1 (some .int) F_L_log.2.2.2.2.2.2) 4 := ⟨w_1417, w_0, ⟨by decide, by decide⟩, by decide +kernel, by decide⟩
theorem m_L_look : LkM yL_look F_L_look (.codeWith yL_look F_L_look.2.1 F_L_look.2.2.1 (some .int) F_L_look.2.2.2.2.2.2) 2 := ⟨w_1337, w_0, ⟨by decide, by decide⟩, by decide +kernel, by decide⟩
theorem m_L_loose : LkM yL_loose F_L_loose (.codeWith yL_loose F_L_loose.2.1 F_L_loose.2.2.1 (some .int) F_L_loose.2.2.2.2.2.2) 3 := ⟨w_1365, w_0, ⟨by decide, by decide⟩, by decide +kernel, by decide⟩
theorem m_L_mercy : LkM yL_mercy F_L_mercy (.codeWith yL_mercy F_L_mercy.2.1 F_L_mercy.2.2.1 (some .int) F_L_mercy.2.2.2.2.2.2) 3 := ⟨w_1288, w_0, ⟨by decide, by decide⟩, by decide +kernel, by decide⟩
theorem m_L_mud : LkM yL_mud F_L_mud (.codeWith yL_mud F_L_mud.2.1 F_L_mud.2.2.1 (some .int) F_L_mud.2.2.2.2.2.2) 3 := ⟨w_996, w_0, ⟨by decide, by decide⟩, by decide +kernel, by decide⟩
theorem m_L_owes : LkM yL_owes F_L_owes (.codeWith yL_owes F_L_owes.2.1 F_L_owes.2.2.1 (some .int) F_L_owes.2.2.2.2.2.2) 4 := ⟨w_1234, w_0, ⟨by decide, by decide⟩, by decide +kernel, by decide⟩
theorem m_L_pay : LkM yL_pay F_L_pay (.codeWith yL_pay F_L_pay.2.1 F_L_pay.2.2.1 (some .int) F_L_pay.2.2.2.2.2.2) 3 := ⟨w_1076, w_0, ⟨by decide, by decide⟩, by decide +kernel, by decide⟩
theorem m_L_person : LkM yL_person F_L_person (.codeWith yL_person F_L_person.2.1 F_L_person.2.2.1 (some .int) F_L_person.2.2.2.2.2.2) 4 := ⟨w_925, w_0, ⟨by decide, by decide⟩, by decide +kernel, by decide⟩
theorem m_L_race : LkM yL_race F_L_race (.codeWith yL_race F_L_race.2.1 F_L_race.2.2.1 (some .int) F_L_race.2.2.2.2.2.2) 3 := ⟨w_1349, w_0, ⟨by decide, by decide⟩, by decide +kernel, by decide⟩
theorem m_L_rest : LkM yL_rest F_L_rest (.codeWith yL_rest F_L_rest.2.1 F_L_rest.2.2.1 (some .int) F_L_rest.2.2.2.2.2.2) 3 := ⟨w_1119, w_0, ⟨by decide, by decide⟩, by decide +kernel, by decide⟩
theorem m_L_soonest : LkM yL_soonest F_L_soonest (.codeWith yL_soonest F_L_soonest.2.1 F_L_soonest.2.2.1 (some .int) F_L_soonest.2.2.2.2.2.2) 3 := ⟨w_1174, w_0, ⟨by decide, by decide⟩, by decide +kernel, by decide⟩
theorem m_L_span : LkM yL_span F_L_span (.codeWith yL_span F_L_span.2.1 F_L_span.2.2.1 (some .int) F_L_span.2.2.2.2.2.2) 4 := ⟨w_1379, w_0, ⟨by decide, by decide⟩, by decide +kernel, by decide⟩
theorem m_L_surety : LkM yL_surety F_L_surety (.codeWith yL_surety F_L_surety.2.1 F_L_surety.2.2.1 (some .int) F_L_surety.2.2.2.2.2.2) 4 := ⟨w_1090, w_0, ⟨by decide, by decide⟩, by decide +kernel, by decide⟩
theorem m_L_trial : LkM yL_trial F_L_trial (.codeWith yL_trial F_L_trial.2.1 F_L_trial.2.2.1 (some .int) F_L_trial.2.2.2.2.2.2) 4 := ⟨w_1372, w_0, ⟨by decide, by decide⟩, by decide +kernel, by decide⟩
theorem m_L_walks : LkM yL_walks F_L_walks (.codeWith yL_walks F_L_walks.2.1 F_L_walks.2.2.1 (some .int) F_L_walks.2.2.2.2.2.2) 4 := ⟨w_1008, w_0, ⟨by decide, by decide⟩, by decide +kernel, by decide⟩
theorem m_L_wear : LkM yL_wear F_L_wear (.codeWith yL_wear F_L_wear.2.1 F_L_wear.2.2.1 (some .int) F_L_wear.2.2.2.2.2.2) 3 := ⟨w_1307, w_0, ⟨by decide, by decide⟩, by decide +kernel, by decide⟩
theorem m_X11_back : LkM yX11_back F_X11_back (.code yX11_back F_X11_back.2.1 F_X11_back.2.2.1 (some .boolean)) 0 := ⟨w_566, w_1, ⟨by decide, by decide⟩, by decide +kernel, by decide⟩
theorem m_X11_count : LkM yX11_count F_X11_count (.code yX11_count F_X11_count.2.1 F_X11_count.2.2.1 (some .int)) 1 := ⟨w_574, w_1, ⟨by decide, by decide⟩, by decide +kernel, by decide⟩
theorem m_X11_end : LkM yX11_end F_X11_end (.code yX11_end F_X11_end.2.1 F_X11_end.2.2.1 (some .boolean)) 1 := ⟨w_391, w_1, ⟨by decide, by decide⟩, by decide +kernel, by decide⟩
theorem m_X11_fault : LkM yX11_fault F_X11_fault (.code yX11_fault F_X11_fault.2.1 F_X11_fault.2.2.1 (some .int)) 0 := ⟨w_395, w_1, ⟨by decide, by decide⟩, by decide +kernel, by decide⟩
theorem m_X11_feed : LkM yX11_feed F_X11_feed (.code yX11_feed F_X11_feed.2.1 F_X11_feed.2.2.1 (some .int)) 5 := ⟨w_383, w_1, ⟨by decide, by decide⟩, by decide +kernel, by decide⟩
theorem m_X11_image : LkM yX11_image F_X11_image (.code yX11_image F_X11_image.2.1 F_X11_image.2.2.1 none) 0 := ⟨w_556, w_1, ⟨by decide, by decide⟩, by decide +kernel, by decide⟩
theorem m_X11_needed : LkM yX11_needed F_X11_needed (.code yX11_needed F_X11_needed.2.1 F_X11_needed.2.2.1 (some .int)) 0 := ⟨w_469, w_1, ⟨by decide, by decide⟩, by decide +kernel, by decide⟩
theorem m_X11_pairs : LkM yX11_pairs F_X11_pairs (.code yX11_pairs F_X11_pairs.2.1 F_X11_pairs.2.2.1 (some .int)) 0 := ⟨w_483, w_1, ⟨by decide, by decide⟩, by decide +kernel, by decide⟩
theorem m_X11_rail : LkM yX11_rail F_X11_rail (.code yX11_rail F_X11_rail.2.1 F_X11_rail.2.2.1 (some .int)) 0 := ⟨w_524, w_1, ⟨by decide, by decide⟩, by decide +kernel, by decide⟩
theorem m_X11_rings : LkM yX11_rings F_X11_rings (.code yX11_rings F_X11_rings.2.1 F_X11_rings.2.2.1 (some .int)) 0 := ⟨w_417, w_1, ⟨by decide, by decide⟩, by decide +kernel, by decide⟩
theorem m_X11_seed : LkM yX11_seed F_X11_seed (.code yX11_seed F_X11_seed.2.1 F_X11_seed.2.2.1 (some .int)) 1 := ⟨w_532, w_1, ⟨by decide, by decide⟩, by decide +kernel, by decide⟩
theorem m_X11_solvent : LkM yX11_solvent F_X11_solvent (.code yX11_solvent F_X11_solvent.2.1 F_X11_solvent.2.2.1 (some .int)) 0 := ⟨w_399, w_1, ⟨by decide, by decide⟩, by decide +kernel, by decide⟩
theorem m_X11_trust : LkM yX11_trust F_X11_trust (.code yX11_trust F_X11_trust.2.1 F_X11_trust.2.2.1 (some .int)) 0 := ⟨w_460, w_1, ⟨by decide, by decide⟩, by decide +kernel, by decide⟩
theorem m_X11_undo : LkM yX11_undo F_X11_undo (.code yX11_undo F_X11_undo.2.1 F_X11_undo.2.2.1 (some .boolean)) 0 := ⟨w_536, w_1, ⟨by decide, by decide⟩, by decide +kernel, by decide⟩
theorem m_X11_untie : LkM yX11_untie F_X11_untie (.code yX11_untie F_X11_untie.2.1 F_X11_untie.2.2.1 (some .int)) 1 := ⟨w_455, w_1, ⟨by decide, by decide⟩, by decide +kernel, by decide⟩
theorem m_X12_ahead : LkM yX12_ahead F_X12_ahead (.code yX12_ahead F_X12_ahead.2.1 F_X12_ahead.2.2.1 (some .int)) 3 := ⟨w_1882, w_13, ⟨by decide, by decide⟩, by decide +kernel, by decide⟩
theorem m_X12_back : LkM yX12_back F_X12_back (.code yX12_back F_X12_back.2.1 F_X12_back.2.2.1 (some .boolean)) 0 := ⟨w_1522, w_13, ⟨by decide, by decide⟩, by decide +kernel, by decide⟩
theorem m_X12_breaks : LkM yX12_breaks F_X12_breaks (.code yX12_breaks F_X12_breaks.2.1 F_X12_breaks.2.2.1 (some .int)) 1 := ⟨w_1974, w_13, ⟨by decide, by decide⟩, by decide +kernel, by decide⟩
theorem m_X12_call : LkM yX12_call F_X12_call (.code yX12_call F_X12_call.2.1 F_X12_call.2.2.1 (some .int)) 2 := ⟨w_1962, w_13, ⟨by decide, by decide⟩, by decide +kernel, by decide⟩
theorem m_X12_carry : LkM yX12_carry F_X12_carry (.code yX12_carry F_X12_carry.2.1 F_X12_carry.2.2.1 (some .int)) 1 := ⟨w_1907, w_13, ⟨by decide, by decide⟩, by decide +kernel, by decide⟩
theorem m_X12_comes : LkM yX12_comes F_X12_comes (.code yX12_comes F_X12_comes.2.1 F_X12_comes.2.2.1 (some .int)) 2 := ⟨w_1894, w_13, ⟨by decide, by decide⟩, by decide +kernel, by decide⟩
theorem m_X12_count : LkM yX12_count F_X12_count (.code yX12_count F_X12_count.2.1 F_X12_count.2.2.1 (some .int)) 1 := ⟨w_2074, w_13, ⟨by decide, by decide⟩, by decide +kernel, by decide⟩
theorem m_X12_days : LkM yX12_days F_X12_days (.code yX12_days F_X12_days.2.1 F_X12_days.2.2.1 (some .int)) 1 := ⟨w_1850, w_13, ⟨by decide, by decide⟩, by decide +kernel, by decide⟩
theorem m_X12_end : LkM yX12_end F_X12_end (.code yX12_end F_X12_end.2.1 F_X12_end.2.2.1 (some .boolean)) 1 := ⟨w_1534, w_13, ⟨by decide, by decide⟩, by decide +kernel, by decide⟩
theorem m_X12_fault : LkM yX12_fault F_X12_fault (.code yX12_fault F_X12_fault.2.1 F_X12_fault.2.2.1 (some .int)) 0 := ⟨w_1538, w_13, ⟨by decide, by decide⟩, by decide +kernel, by decide⟩
theorem m_X12_feed : LkM yX12_feed F_X12_feed (.code yX12_feed F_X12_feed.2.1 F_X12_feed.2.2.1 (some .int)) 5 := ⟨w_1530, w_13, ⟨by decide, by decide⟩, by decide +kernel, by decide⟩
theorem m_X12_give : LkM yX12_give F_X12_give (.code yX12_give F_X12_give.2.1 F_X12_give.2.2.1 (some .int)) 2 := ⟨w_1838, w_13, ⟨by decide, by decide⟩, by decide +kernel, by decide⟩
theorem m_X12_goal : LkM yX12_goal F_X12_goal (.code yX12_goal F_X12_goal.2.1 F_X12_goal.2.2.1 (some .int)) 2 := ⟨w_1842, w_13, ⟨by decide, by decide⟩, by decide +kernel, by decide⟩
theorem m_X12_grows : LkM yX12_grows F_X12_grows (.code yX12_grows F_X12_grows.2.1 F_X12_grows.2.2.1 (some .int)) 1 := ⟨w_1802, w_13, ⟨by decide, by decide⟩, by decide +kernel, by decide⟩
theorem m_X12_hangs : LkM yX12_hangs F_X12_hangs (.code yX12_hangs F_X12_hangs.2.1 F_X12_hangs.2.2.1 (some .int)) 1 := ⟨w_1986, w_13, ⟨by decide, by decide⟩, by decide +kernel, by decide⟩
theorem m_X12_image : LkM yX12_image F_X12_image (.code yX12_image F_X12_image.2.1 F_X12_image.2.2.1 none) 0 := ⟨w_1518, w_13, ⟨by decide, by decide⟩, by decide +kernel, by decide⟩
theorem m_X12_lace : LkM yX12_lace F_X12_lace (.code yX12_lace F_X12_lace.2.1 F_X12_lace.2.2.1 (some .int)) 2 := ⟨w_1749, w_13, ⟨by decide, by decide⟩, by decide +kernel, by decide⟩
theorem m_X12_land : LkM yX12_land F_X12_land (.code yX12_land F_X12_land.2.1 F_X12_land.2.2.1 (some .int)) 0 := ⟨w_1542, w_13, ⟨by decide, by decide⟩, by decide +kernel, by decide⟩
theorem m_X12_law : LkM yX12_law F_X12_law (.code yX12_law F_X12_law.2.1 F_X12_law.2.2.1 (some .int)) 0 := ⟨w_1701, w_13, ⟨by decide, by decide⟩, by decide +kernel, by decide⟩
theorem m_X12_leads : LkM yX12_leads F_X12_leads (.code yX12_leads F_X12_leads.2.1 F_X12_leads.2.2.1 (some .int)) 1 := ⟨w_1958, w_13, ⟨by decide, by decide⟩, by decide +kernel, by decide⟩
theorem m_X12_led : LkM yX12_led F_X12_led (.code yX12_led F_X12_led.2.1 F_X12_led.2.2.1 (some .int)) 2 := ⟨w_2058, w_13, ⟨by decide, by decide⟩, by decide +kernel, by decide⟩
theorem m_X12_lend : LkM yX12_lend F_X12_lend (.code yX12_lend F_X12_lend.2.1 F_X12_lend.2.2.1 (some .int)) 5 := ⟨w_1810, w_13, ⟨by decide, by decide⟩, by decide +kernel, by decide⟩
theorem m_X12_lends : LkM yX12_lends F_X12_lends (.code yX12_lends F_X12_lends.2.1 F_X12_lends.2.2.1 (some .int)) 1 := ⟨w_2038, w_13, ⟨by decide, by decide⟩, by decide +kernel, by decide⟩
theorem m_X12_log : LkM yX12_log F_X12_log (.code yX12_log F_X12_log.2.1 F_X12_log.2.2.1 (some .int)) 2 := ⟨w_2066, w_13, ⟨by decide, by decide⟩, by decide +kernel, by decide⟩
theorem m_X12_look : LkM yX12_look F_X12_look (.code yX12_look F_X12_look.2.1 F_X12_look.2.2.1 (some .int)) 0 := ⟨w_2022, w_13, ⟨by decide, by decide⟩, by decide +kernel, by decide⟩
theorem m_X12_loose : LkM yX12_loose F_X12_loose (.code yX12_loose F_X12_loose.2.1 F_X12_loose.2.2.1 (some .int)) 1 := ⟨w_2042, w_13, ⟨by decide, by decide⟩, by decide +kernel, by decide⟩
theorem m_X12_mercy : LkM yX12_mercy F_X12_mercy (.code yX12_mercy F_X12_mercy.2.1 F_X12_mercy.2.2.1 (some .int)) 1 := ⟨w_1978, w_13, ⟨by decide, by decide⟩, by decide +kernel, by decide⟩
theorem m_X12_mud : LkM yX12_mud F_X12_mud (.code yX12_mud F_X12_mud.2.1 F_X12_mud.2.2.1 (some .int)) 1 := ⟨w_1757, w_13, ⟨by decide, by decide⟩, by decide +kernel, by decide⟩
theorem m_X12_needed : LkM yX12_needed F_X12_needed (.code yX12_needed F_X12_needed.2.1 F_X12_needed.2.2.1 (some .int)) 0 := ⟨w_1998, w_13, ⟨by decide, by decide⟩, by decide +kernel, by decide⟩
theorem m_X12_owes : LkM yX12_owes F_X12_owes (.code yX12_owes F_X12_owes.2.1 F_X12_owes.2.2.1 (some .boolean)) 2 := ⟨w_1946, w_13, ⟨by decide, by decide⟩, by decide +kernel, by decide⟩
theorem m_X12_pairs : LkM yX12_pairs F_X12_pairs (.code yX12_pairs F_X12_pairs.2.1 F_X12_pairs.2.2.1 (some .int)) 0 := ⟨w_2034, w_13, ⟨by decide, by decide⟩, by decide +kernel, by decide⟩
theorem m_X12_pay : LkM yX12_pay F_X12_pay (.code yX12_pay F_X12_pay.2.1 F_X12_pay.2.2.1 (some .int)) 1 := ⟨w_1826, w_13, ⟨by decide, by decide⟩, by decide +kernel, by decide⟩
theorem m_X12_person : LkM yX12_person F_X12_person (.code yX12_person F_X12_person.2.1 F_X12_person.2.2.1 (some .int)) 2 := ⟨w_1705, w_13, ⟨by decide, by decide⟩, by decide +kernel, by decide⟩
theorem m_X12_race : LkM yX12_race F_X12_race (.code yX12_race F_X12_race.2.1 F_X12_race.2.2.1 (some .int)) 1 := ⟨w_2026, w_13, ⟨by decide, by decide⟩, by decide +kernel, by decide⟩
theorem m_X12_rail : LkM yX12_rail F_X12_rail (.code yX12_rail F_X12_rail.2.1 F_X12_rail.2.2.1 (some .int)) 0 := ⟨w_2046, w_13, ⟨by decide, by decide⟩, by decide +kernel, by decide⟩
theorem m_X12_rest : LkM yX12_rest F_X12_rest (.code yX12_rest F_X12_rest.2.1 F_X12_rest.2.2.1 (some .int)) 1 := ⟨w_1846, w_13, ⟨by decide, by decide⟩, by decide +kernel, by decide⟩
theorem m_X12_rings : LkM yX12_rings F_X12_rings (.code yX12_rings F_X12_rings.2.1 F_X12_rings.2.2.1 (some .int)) 0 := ⟨w_1930, w_13, ⟨by decide, by decide⟩, by decide +kernel, by decide⟩
theorem m_X12_seed : LkM yX12_seed F_X12_seed (.code yX12_seed F_X12_seed.2.1 F_X12_seed.2.2.1 (some .int)) 1 := ⟨w_2070, w_13, ⟨by decide, by decide⟩, by decide +kernel, by decide⟩
theorem m_X12_solvent : LkM yX12_solvent F_X12_solvent (.code yX12_solvent F_X12_solvent.2.1 F_X12_solvent.2.2.1 (some .int)) 0 := ⟨w_1926, w_13, ⟨by decide, by decide⟩, by decide +kernel, by decide⟩
theorem m_X12_soonest : LkM yX12_soonest F_X12_soonest (.code yX12_soonest F_X12_soonest.2.1 F_X12_soonest.2.2.1 (some .int)) 1 := ⟨w_1903, w_13, ⟨by decide, by decide⟩, by decide +kernel, by decide⟩
theorem m_X12_span : LkM yX12_span F_X12_span (.code yX12_span F_X12_span.2.1 F_X12_span.2.2.1 (some .int)) 2 := ⟨w_2054, w_13, ⟨by decide, by decide⟩, by decide +kernel, by decide⟩
theorem m_X12_surety : LkM yX12_surety F_X12_surety (.code yX12_surety F_X12_surety.2.1 F_X12_surety.2.2.1 (some .int)) 2 := ⟨w_1834, w_13, ⟨by decide, by decide⟩, by decide +kernel, by decide⟩
theorem m_X12_thrown : LkM yX12_thrown F_X12_thrown (.code yX12_thrown F_X12_thrown.2.1 F_X12_thrown.2.2.1 (some .int)) 0 := ⟨w_1436, w_13, ⟨by decide, by decide⟩, by decide +kernel, by decide⟩
theorem m_X12_trial : LkM yX12_trial F_X12_trial (.code yX12_trial F_X12_trial.2.1 F_X12_trial.2.2.1 (some .int)) 2 := ⟨w_2050, w_13, ⟨by decide, by decide⟩, by decide +kernel, by decide⟩
theorem m_X12_trust : LkM yX12_trust F_X12_trust (.code yX12_trust F_X12_trust.2.1 F_X12_trust.2.2.1 (some .int)) 0 := ⟨w_1994, w_13, ⟨by decide, by decide⟩, by decide +kernel, by decide⟩
theorem m_X12_undo : LkM yX12_undo F_X12_undo (.code yX12_undo F_X12_undo.2.1 F_X12_undo.2.2.1 (some .boolean)) 0 := ⟨w_1526, w_13, ⟨by decide, by decide⟩, by decide +kernel, by decide⟩
theorem m_X12_untie : LkM yX12_untie F_X12_untie (.code yX12_untie F_X12_untie.2.1 F_X12_untie.2.2.1 (some .int)) 1 := ⟨w_1942, w_13, ⟨by decide, by decide⟩, by decide +kernel, by decide⟩
theorem m_X12_walks : LkM yX12_walks F_X12_walks (.code yX12_walks F_X12_walks.2.1 F_X12_walks.2.2.1 (some .int)) 2 := ⟨w_1764, w_13, ⟨by decide, by decide⟩, by decide +kernel, by decide⟩
theorem m_X12_wear : LkM yX12_wear F_X12_wear (.code yX12_wear F_X12_wear.2.1 F_X12_wear.2.2.1 (some .int)) 1 := ⟨w_2010, w_13, ⟨by decide, by decide⟩, by decide +kernel, by decide⟩
theorem d_L_law__0 : decode cL_law_ 0 = .ok (.new 8, 3) := by decide +kernel
theorem d_L_law__3 : decode cL_law_ 3 = .ok (.dup, 1) := by decide +kernel
theorem d_L_law__4 : decode cL_law_ 4 = .ok (.invokespecial 126, 3) := by decide +kernel
theorem d_L_law__7 : decode cL_law_ 7 = .ok (.astore_n 1, 1) := by decide +kernel
theorem d_L_law__8 : decode cL_law_ 8 = .ok (.new 127, 3) := by decide +kernel
theorem d_L_law__11 : decode cL_law_ 11 = .ok (.dup, 1) := by decide +kernel
theorem d_L_law__12 : decode cL_law_ 12 = .ok (.invokespecial 129, 3) := by decide +kernel
theorem d_L_law__15 : decode cL_law_ 15 = .ok (.astore_n 2, 1) := by decide +kernel
theorem d_L_law__16 : decode cL_law_ 16 = .ok (.iconst 1, 1) := by decide +kernel
theorem d_L_law__17 : decode cL_law_ 17 = .ok (.newarray .long, 2) := by decide +kernel
theorem d_L_law__19 : decode cL_law_ 19 = .ok (.astore_n 3, 1) := by decide +kernel
theorem d_L_law__20 : decode cL_law_ 20 = .ok (.iconst 0, 1) := by decide +kernel
theorem d_L_law__21 : decode cL_law_ 21 = .ok (.istore 4, 2) := by decide +kernel
theorem d_L_law__23 : decode cL_law_ 23 = .ok (.iload 4, 2) := by decide +kernel
theorem d_L_law__25 : decode cL_law_ 25 = .ok (.aload_n 0, 1) := by decide +kernel
theorem d_L_law__26 : decode cL_law_ 26 = .ok (.arraylength, 1) := by decide +kernel
theorem d_L_law__27 : decode cL_law_ 27 = .ok (.bipush 6, 2) := by decide +kernel
theorem d_L_law__29 : decode cL_law_ 29 = .ok (.isub, 1) := by decide +kernel
theorem d_L_law__30 : decode cL_law_ 30 = .ok (.if_icmp .gt 2684, 3) := by decide +kernel
theorem d_L_law__33 : decode cL_law_ 33 = .ok (.aload_n 0, 1) := by decide +kernel
theorem d_L_law__34 : decode cL_law_ 34 = .ok (.iload 4, 2) := by decide +kernel
theorem d_L_law__36 : decode cL_law_ 36 = .ok (.iaload, 1) := by decide +kernel
theorem d_L_law__37 : decode cL_law_ 37 = .ok (.bipush 63, 2) := by decide +kernel
theorem d_L_law__39 : decode cL_law_ 39 = .ok (.iand, 1) := by decide +kernel
theorem d_L_law__40 : decode cL_law_ 40 = .ok (.tableswitch 2668 0 47 #[208, 281, 306, 350, 394, 407, 475, 543, 599, 667, 723, 827, 883, 951, 1019, 1087, 1143, 1199, 1212, 1280, 1336, 1392, 1488, 1501, 1542, 1617, 1673, 1757, 1813, 1869, 1925, 1938, 1951, 2023, 2067, 2123, 2136, 2192, 2248, 2261, 2345, 2429, 2513, 2581, 2606, 2619, 2630, 2643], 208) := by decide +kernel
theorem d_L_law__248 : decode cL_law_ 248 = .ok (.aload_n 1, 1) := by decide +kernel
theorem d_L_law__249 : decode cL_law_ 249 = .ok (.aload_n 0, 1) := by decide +kernel
theorem d_L_law__250 : decode cL_law_ 250 = .ok (.iload 4, 2) := by decide +kernel
theorem d_L_law__252 : decode cL_law_ 252 = .ok (.iconst 1, 1) := by decide +kernel
theorem d_L_law__253 : decode cL_law_ 253 = .ok (.iadd, 1) := by decide +kernel
theorem d_L_law__254 : decode cL_law_ 254 = .ok (.iaload, 1) := by decide +kernel
theorem d_L_law__255 : decode cL_law_ 255 = .ok (.aload_n 0, 1) := by decide +kernel
theorem d_L_law__256 : decode cL_law_ 256 = .ok (.iload 4, 2) := by decide +kernel
theorem d_L_law__258 : decode cL_law_ 258 = .ok (.iconst 2, 1) := by decide +kernel
theorem d_L_law__259 : decode cL_law_ 259 = .ok (.iadd, 1) := by decide +kernel
theorem d_L_law__260 : decode cL_law_ 260 = .ok (.iaload, 1) := by decide +kernel
theorem d_L_law__261 : decode cL_law_ 261 = .ok (.aload_n 0, 1) := by decide +kernel
theorem d_L_law__262 : decode cL_law_ 262 = .ok (.iload 4, 2) := by decide +kernel
theorem d_L_law__264 : decode cL_law_ 264 = .ok (.iconst 3, 1) := by decide +kernel
theorem d_L_law__265 : decode cL_law_ 265 = .ok (.iadd, 1) := by decide +kernel
theorem d_L_law__266 : decode cL_law_ 266 = .ok (.iaload, 1) := by decide +kernel
theorem d_L_law__267 : decode cL_law_ 267 = .ok (.aload_n 0, 1) := by decide +kernel
theorem d_L_law__268 : decode cL_law_ 268 = .ok (.iload 4, 2) := by decide +kernel
theorem d_L_law__270 : decode cL_law_ 270 = .ok (.iconst 4, 1) := by decide +kernel
theorem d_L_law__271 : decode cL_law_ 271 = .ok (.iadd, 1) := by decide +kernel
theorem d_L_law__272 : decode cL_law_ 272 = .ok (.iaload, 1) := by decide +kernel
theorem d_L_law__273 : decode cL_law_ 273 = .ok (.aload_n 0, 1) := by decide +kernel
theorem d_L_law__274 : decode cL_law_ 274 = .ok (.iload 4, 2) := by decide +kernel
theorem d_L_law__276 : decode cL_law_ 276 = .ok (.iconst 5, 1) := by decide +kernel
theorem d_L_law__277 : decode cL_law_ 277 = .ok (.iadd, 1) := by decide +kernel
theorem d_L_law__278 : decode cL_law_ 278 = .ok (.iaload, 1) := by decide +kernel
theorem d_L_law__279 : decode cL_law_ 279 = .ok (.invokevirtual 130, 3) := by decide +kernel
theorem d_L_law__282 : decode cL_law_ 282 = .ok (.aload_n 2, 1) := by decide +kernel
theorem d_L_law__283 : decode cL_law_ 283 = .ok (.aload_n 0, 1) := by decide +kernel
theorem d_L_law__284 : decode cL_law_ 284 = .ok (.iload 4, 2) := by decide +kernel
theorem d_L_law__286 : decode cL_law_ 286 = .ok (.iconst 1, 1) := by decide +kernel
theorem d_L_law__287 : decode cL_law_ 287 = .ok (.iadd, 1) := by decide +kernel
theorem d_L_law__288 : decode cL_law_ 288 = .ok (.iaload, 1) := by decide +kernel
theorem d_L_law__289 : decode cL_law_ 289 = .ok (.aload_n 0, 1) := by decide +kernel
theorem d_L_law__290 : decode cL_law_ 290 = .ok (.iload 4, 2) := by decide +kernel
theorem d_L_law__292 : decode cL_law_ 292 = .ok (.iconst 2, 1) := by decide +kernel
theorem d_L_law__293 : decode cL_law_ 293 = .ok (.iadd, 1) := by decide +kernel
theorem d_L_law__294 : decode cL_law_ 294 = .ok (.iaload, 1) := by decide +kernel
theorem d_L_law__295 : decode cL_law_ 295 = .ok (.aload_n 0, 1) := by decide +kernel
theorem d_L_law__296 : decode cL_law_ 296 = .ok (.iload 4, 2) := by decide +kernel
theorem d_L_law__298 : decode cL_law_ 298 = .ok (.iconst 3, 1) := by decide +kernel
theorem d_L_law__299 : decode cL_law_ 299 = .ok (.iadd, 1) := by decide +kernel
theorem d_L_law__300 : decode cL_law_ 300 = .ok (.iaload, 1) := by decide +kernel
theorem d_L_law__301 : decode cL_law_ 301 = .ok (.aload_n 0, 1) := by decide +kernel
theorem d_L_law__302 : decode cL_law_ 302 = .ok (.iload 4, 2) := by decide +kernel
theorem d_L_law__304 : decode cL_law_ 304 = .ok (.iconst 4, 1) := by decide +kernel
theorem d_L_law__305 : decode cL_law_ 305 = .ok (.iadd, 1) := by decide +kernel
theorem d_L_law__306 : decode cL_law_ 306 = .ok (.iaload, 1) := by decide +kernel
theorem d_L_law__307 : decode cL_law_ 307 = .ok (.aload_n 0, 1) := by decide +kernel
theorem d_L_law__308 : decode cL_law_ 308 = .ok (.iload 4, 2) := by decide +kernel
theorem d_L_law__310 : decode cL_law_ 310 = .ok (.iconst 5, 1) := by decide +kernel
theorem d_L_law__311 : decode cL_law_ 311 = .ok (.iadd, 1) := by decide +kernel
theorem d_L_law__312 : decode cL_law_ 312 = .ok (.iaload, 1) := by decide +kernel
theorem d_L_law__313 : decode cL_law_ 313 = .ok (.invokevirtual 133, 3) := by decide +kernel
theorem d_L_law__316 : decode cL_law_ 316 = .ok (.if_icmp .eq 2392, 3) := by decide +kernel
theorem d_L_law__319 : decode cL_law_ 319 = .ok (.iconst 0, 1) := by decide +kernel
theorem d_L_law__321 : decode cL_law_ 321 = .ok (.aload_n 1, 1) := by decide +kernel
theorem d_L_law__322 : decode cL_law_ 322 = .ok (.aload_n 0, 1) := by decide +kernel
theorem d_L_law__323 : decode cL_law_ 323 = .ok (.iload 4, 2) := by decide +kernel
theorem d_L_law__325 : decode cL_law_ 325 = .ok (.iconst 1, 1) := by decide +kernel
theorem d_L_law__326 : decode cL_law_ 326 = .ok (.iadd, 1) := by decide +kernel
theorem d_L_law__327 : decode cL_law_ 327 = .ok (.iaload, 1) := by decide +kernel
theorem d_L_law__328 : decode cL_law_ 328 = .ok (.invokevirtual 134, 3) := by decide +kernel
theorem d_L_law__331 : decode cL_law_ 331 = .ok (.aload_n 2, 1) := by decide +kernel
theorem d_L_law__332 : decode cL_law_ 332 = .ok (.aload_n 0, 1) := by decide +kernel
theorem d_L_law__333 : decode cL_law_ 333 = .ok (.iload 4, 2) := by decide +kernel
theorem d_L_law__335 : decode cL_law_ 335 = .ok (.iconst 1, 1) := by decide +kernel
theorem d_L_law__336 : decode cL_law_ 336 = .ok (.iadd, 1) := by decide +kernel
theorem d_L_law__337 : decode cL_law_ 337 = .ok (.iaload, 1) := by decide +kernel
theorem d_L_law__338 : decode cL_law_ 338 = .ok (.invokevirtual 138, 3) := by decide +kernel
theorem d_L_law__341 : decode cL_law_ 341 = .ok (.if_icmp .eq 2367, 3) := by decide +kernel
theorem d_L_law__344 : decode cL_law_ 344 = .ok (.iconst 0, 1) := by decide +kernel
theorem d_L_law__346 : decode cL_law_ 346 = .ok (.aload_n 1, 1) := by decide +kernel
theorem d_L_law__347 : decode cL_law_ 347 = .ok (.aload_n 3, 1) := by decide +kernel
theorem d_L_law__348 : decode cL_law_ 348 = .ok (.invokestatic 139, 3) := by decide +kernel
theorem d_L_law__351 : decode cL_law_ 351 = .ok (.istore 5, 2) := by decide +kernel
theorem d_L_law__353 : decode cL_law_ 353 = .ok (.aload_n 2, 1) := by decide +kernel
theorem d_L_law__354 : decode cL_law_ 354 = .ok (.invokevirtual 144, 3) := by decide +kernel
theorem d_L_law__357 : decode cL_law_ 357 = .ok (.istore 6, 2) := by decide +kernel
theorem d_L_law__359 : decode cL_law_ 359 = .ok (.aload_n 2, 1) := by decide +kernel
theorem d_L_law__360 : decode cL_law_ 360 = .ok (.invokevirtual 145, 3) := by decide +kernel
theorem d_L_law__363 : decode cL_law_ 363 = .ok (.iload 5, 2) := by decide +kernel
theorem d_L_law__365 : decode cL_law_ 365 = .ok (.if_icmp .eq 5, 3) := by decide +kernel
theorem d_L_law__368 : decode cL_law_ 368 = .ok (.iconst 0, 1) := by decide +kernel
theorem d_L_law__370 : decode cL_law_ 370 = .ok (.iload 5, 2) := by decide +kernel
theorem d_L_law__372 : decode cL_law_ 372 = .ok (.ifCond .ne 15, 3) := by decide +kernel
theorem d_L_law__375 : decode cL_law_ 375 = .ok (.aload_n 3, 1) := by decide +kernel
theorem d_L_law__376 : decode cL_law_ 376 = .ok (.iconst 0, 1) := by decide +kernel
theorem d_L_law__377 : decode cL_law_ 377 = .ok (.laload, 1) := by decide +kernel
theorem d_L_law__378 : decode cL_law_ 378 = .ok (.iload 6, 2) := by decide +kernel
theorem d_L_law__380 : decode cL_law_ 380 = .ok (.i2l, 1) := by decide +kernel
theorem d_L_law__381 : decode cL_law_ 381 = .ok (.lcmp, 1) := by decide +kernel
theorem d_L_law__382 : decode cL_law_ 382 = .ok (.ifCond .eq 5, 3) := by decide +kernel
theorem d_L_law__385 : decode cL_law_ 385 = .ok (.iconst 0, 1) := by decide +kernel
theorem d_L_law__387 : decode cL_law_ 387 = .ok (.goto 2321, 3) := by decide +kernel
theorem d_L_law__390 : decode cL_law_ 390 = .ok (.aload_n 1, 1) := by decide +kernel
theorem d_L_law__391 : decode cL_law_ 391 = .ok (.aload_n 3, 1) := by decide +kernel
theorem d_L_law__392 : decode cL_law_ 392 = .ok (.invokestatic 148, 3) := by decide +kernel
theorem d_L_law__395 : decode cL_law_ 395 = .ok (.istore 5, 2) := by decide +kernel
theorem d_L_law__397 : decode cL_law_ 397 = .ok (.aload_n 2, 1) := by decide +kernel
theorem d_L_law__398 : decode cL_law_ 398 = .ok (.invokevirtual 150, 3) := by decide +kernel
theorem d_L_law__401 : decode cL_law_ 401 = .ok (.istore 6, 2) := by decide +kernel
theorem d_L_law__403 : decode cL_law_ 403 = .ok (.aload_n 2, 1) := by decide +kernel
theorem d_L_law__404 : decode cL_law_ 404 = .ok (.invokevirtual 145, 3) := by decide +kernel
theorem d_L_law__407 : decode cL_law_ 407 = .ok (.iload 5, 2) := by decide +kernel
theorem d_L_law__409 : decode cL_law_ 409 = .ok (.if_icmp .eq 5, 3) := by decide +kernel
theorem d_L_law__412 : decode cL_law_ 412 = .ok (.iconst 0, 1) := by decide +kernel
theorem d_L_law__414 : decode cL_law_ 414 = .ok (.iload 5, 2) := by decide +kernel
theorem d_L_law__416 : decode cL_law_ 416 = .ok (.ifCond .ne 15, 3) := by decide +kernel
theorem d_L_law__419 : decode cL_law_ 419 = .ok (.aload_n 3, 1) := by decide +kernel
theorem d_L_law__420 : decode cL_law_ 420 = .ok (.iconst 0, 1) := by decide +kernel
theorem d_L_law__421 : decode cL_law_ 421 = .ok (.laload, 1) := by decide +kernel
theorem d_L_law__422 : decode cL_law_ 422 = .ok (.iload 6, 2) := by decide +kernel
theorem d_L_law__424 : decode cL_law_ 424 = .ok (.i2l, 1) := by decide +kernel
theorem d_L_law__425 : decode cL_law_ 425 = .ok (.lcmp, 1) := by decide +kernel
theorem d_L_law__426 : decode cL_law_ 426 = .ok (.ifCond .eq 5, 3) := by decide +kernel
theorem d_L_law__429 : decode cL_law_ 429 = .ok (.iconst 0, 1) := by decide +kernel
theorem d_L_law__431 : decode cL_law_ 431 = .ok (.goto 2277, 3) := by decide +kernel
theorem d_L_law__434 : decode cL_law_ 434 = .ok (.aload_n 1, 1) := by decide +kernel
theorem d_L_law__435 : decode cL_law_ 435 = .ok (.invokevirtual 151, 3) := by decide +kernel
theorem d_L_law__438 : decode cL_law_ 438 = .ok (.aload_n 2, 1) := by decide +kernel
theorem d_L_law__439 : decode cL_law_ 439 = .ok (.invokevirtual 154, 3) := by decide +kernel
theorem d_L_law__442 : decode cL_law_ 442 = .ok (.if_icmp .eq 2266, 3) := by decide +kernel
theorem d_L_law__445 : decode cL_law_ 445 = .ok (.iconst 0, 1) := by decide +kernel
theorem d_L_law__447 : decode cL_law_ 447 = .ok (.aload_n 1, 1) := by decide +kernel
theorem d_L_law__448 : decode cL_law_ 448 = .ok (.aload_n 0, 1) := by decide +kernel
theorem d_L_law__449 : decode cL_law_ 449 = .ok (.iload 4, 2) := by decide +kernel
theorem d_L_law__451 : decode cL_law_ 451 = .ok (.iconst 1, 1) := by decide +kernel
theorem d_L_law__452 : decode cL_law_ 452 = .ok (.iadd, 1) := by decide +kernel
theorem d_L_law__453 : decode cL_law_ 453 = .ok (.iaload, 1) := by decide +kernel
theorem d_L_law__454 : decode cL_law_ 454 = .ok (.aload_n 0, 1) := by decide +kernel
theorem d_L_law__455 : decode cL_law_ 455 = .ok (.iload 4, 2) := by decide +kernel
theorem d_L_law__457 : decode cL_law_ 457 = .ok (.iconst 2, 1) := by decide +kernel
theorem d_L_law__458 : decode cL_law_ 458 = .ok (.iadd, 1) := by decide +kernel
theorem d_L_law__459 : decode cL_law_ 459 = .ok (.iaload, 1) := by decide +kernel
theorem d_L_law__460 : decode cL_law_ 460 = .ok (.aload_n 3, 1) := by decide +kernel
theorem d_L_law__461 : decode cL_law_ 461 = .ok (.invokestatic 155, 3) := by decide +kernel
theorem d_L_law__464 : decode cL_law_ 464 = .ok (.istore 5, 2) := by decide +kernel
theorem d_L_law__466 : decode cL_law_ 466 = .ok (.aload_n 2, 1) := by decide +kernel
theorem d_L_law__467 : decode cL_law_ 467 = .ok (.aload_n 0, 1) := by decide +kernel
theorem d_L_law__468 : decode cL_law_ 468 = .ok (.iload 4, 2) := by decide +kernel
theorem d_L_law__470 : decode cL_law_ 470 = .ok (.iconst 1, 1) := by decide +kernel
theorem d_L_law__471 : decode cL_law_ 471 = .ok (.iadd, 1) := by decide +kernel
theorem d_L_law__472 : decode cL_law_ 472 = .ok (.iaload, 1) := by decide +kernel
theorem d_L_law__473 : decode cL_law_ 473 = .ok (.aload_n 0, 1) := by decide +kernel
theorem d_L_law__474 : decode cL_law_ 474 = .ok (.iload 4, 2) := by decide +kernel
theorem d_L_law__476 : decode cL_law_ 476 = .ok (.iconst 2, 1) := by decide +kernel
theorem d_L_law__477 : decode cL_law_ 477 = .ok (.iadd, 1) := by decide +kernel
theorem d_L_law__478 : decode cL_law_ 478 = .ok (.iaload, 1) := by decide +kernel
theorem d_L_law__479 : decode cL_law_ 479 = .ok (.invokevirtual 158, 3) := by decide +kernel
theorem d_L_law__482 : decode cL_law_ 482 = .ok (.istore 6, 2) := by decide +kernel
theorem d_L_law__484 : decode cL_law_ 484 = .ok (.aload_n 2, 1) := by decide +kernel
theorem d_L_law__485 : decode cL_law_ 485 = .ok (.invokevirtual 145, 3) := by decide +kernel
theorem d_L_law__488 : decode cL_law_ 488 = .ok (.iload 5, 2) := by decide +kernel
theorem d_L_law__490 : decode cL_law_ 490 = .ok (.if_icmp .eq 5, 3) := by decide +kernel
theorem d_L_law__493 : decode cL_law_ 493 = .ok (.iconst 0, 1) := by decide +kernel
theorem d_L_law__495 : decode cL_law_ 495 = .ok (.iload 5, 2) := by decide +kernel
theorem d_L_law__497 : decode cL_law_ 497 = .ok (.ifCond .ne 15, 3) := by decide +kernel
theorem d_L_law__500 : decode cL_law_ 500 = .ok (.aload_n 3, 1) := by decide +kernel
theorem d_L_law__501 : decode cL_law_ 501 = .ok (.iconst 0, 1) := by decide +kernel
theorem d_L_law__502 : decode cL_law_ 502 = .ok (.laload, 1) := by decide +kernel
theorem d_L_law__503 : decode cL_law_ 503 = .ok (.iload 6, 2) := by decide +kernel
theorem d_L_law__505 : decode cL_law_ 505 = .ok (.i2l, 1) := by decide +kernel
theorem d_L_law__506 : decode cL_law_ 506 = .ok (.lcmp, 1) := by decide +kernel
theorem d_L_law__507 : decode cL_law_ 507 = .ok (.ifCond .eq 5, 3) := by decide +kernel
theorem d_L_law__510 : decode cL_law_ 510 = .ok (.iconst 0, 1) := by decide +kernel
theorem d_L_law__512 : decode cL_law_ 512 = .ok (.goto 2196, 3) := by decide +kernel
theorem d_L_law__515 : decode cL_law_ 515 = .ok (.aload_n 1, 1) := by decide +kernel
theorem d_L_law__516 : decode cL_law_ 516 = .ok (.aload_n 0, 1) := by decide +kernel
theorem d_L_law__517 : decode cL_law_ 517 = .ok (.iload 4, 2) := by decide +kernel
theorem d_L_law__519 : decode cL_law_ 519 = .ok (.iconst 1, 1) := by decide +kernel
theorem d_L_law__520 : decode cL_law_ 520 = .ok (.iadd, 1) := by decide +kernel
theorem d_L_law__521 : decode cL_law_ 521 = .ok (.iaload, 1) := by decide +kernel
theorem d_L_law__522 : decode cL_law_ 522 = .ok (.aload_n 0, 1) := by decide +kernel
theorem d_L_law__523 : decode cL_law_ 523 = .ok (.iload 4, 2) := by decide +kernel
theorem d_L_law__525 : decode cL_law_ 525 = .ok (.iconst 2, 1) := by decide +kernel
theorem d_L_law__526 : decode cL_law_ 526 = .ok (.iadd, 1) := by decide +kernel
theorem d_L_law__527 : decode cL_law_ 527 = .ok (.iaload, 1) := by decide +kernel
theorem d_L_law__528 : decode cL_law_ 528 = .ok (.aload_n 3, 1) := by decide +kernel
theorem d_L_law__529 : decode cL_law_ 529 = .ok (.invokestatic 159, 3) := by decide +kernel
theorem d_L_law__532 : decode cL_law_ 532 = .ok (.istore 5, 2) := by decide +kernel
theorem d_L_law__534 : decode cL_law_ 534 = .ok (.aload_n 2, 1) := by decide +kernel
theorem d_L_law__535 : decode cL_law_ 535 = .ok (.aload_n 0, 1) := by decide +kernel
theorem d_L_law__536 : decode cL_law_ 536 = .ok (.iload 4, 2) := by decide +kernel
theorem d_L_law__538 : decode cL_law_ 538 = .ok (.iconst 1, 1) := by decide +kernel
theorem d_L_law__539 : decode cL_law_ 539 = .ok (.iadd, 1) := by decide +kernel
theorem d_L_law__540 : decode cL_law_ 540 = .ok (.iaload, 1) := by decide +kernel
theorem d_L_law__541 : decode cL_law_ 541 = .ok (.aload_n 0, 1) := by decide +kernel
theorem d_L_law__542 : decode cL_law_ 542 = .ok (.iload 4, 2) := by decide +kernel
theorem d_L_law__544 : decode cL_law_ 544 = .ok (.iconst 2, 1) := by decide +kernel
theorem d_L_law__545 : decode cL_law_ 545 = .ok (.iadd, 1) := by decide +kernel
theorem d_L_law__546 : decode cL_law_ 546 = .ok (.iaload, 1) := by decide +kernel
theorem d_L_law__547 : decode cL_law_ 547 = .ok (.invokevirtual 161, 3) := by decide +kernel
theorem d_L_law__550 : decode cL_law_ 550 = .ok (.istore 6, 2) := by decide +kernel
theorem d_L_law__552 : decode cL_law_ 552 = .ok (.aload_n 2, 1) := by decide +kernel
theorem d_L_law__553 : decode cL_law_ 553 = .ok (.invokevirtual 145, 3) := by decide +kernel
theorem d_L_law__556 : decode cL_law_ 556 = .ok (.iload 5, 2) := by decide +kernel
theorem d_L_law__558 : decode cL_law_ 558 = .ok (.if_icmp .eq 5, 3) := by decide +kernel
theorem d_L_law__561 : decode cL_law_ 561 = .ok (.iconst 0, 1) := by decide +kernel
theorem d_L_law__563 : decode cL_law_ 563 = .ok (.iload 5, 2) := by decide +kernel
theorem d_L_law__565 : decode cL_law_ 565 = .ok (.ifCond .ne 15, 3) := by decide +kernel
theorem d_L_law__568 : decode cL_law_ 568 = .ok (.aload_n 3, 1) := by decide +kernel
theorem d_L_law__569 : decode cL_law_ 569 = .ok (.iconst 0, 1) := by decide +kernel
theorem d_L_law__570 : decode cL_law_ 570 = .ok (.laload, 1) := by decide +kernel
theorem d_L_law__571 : decode cL_law_ 571 = .ok (.iload 6, 2) := by decide +kernel
theorem d_L_law__573 : decode cL_law_ 573 = .ok (.i2l, 1) := by decide +kernel
theorem d_L_law__574 : decode cL_law_ 574 = .ok (.lcmp, 1) := by decide +kernel
theorem d_L_law__575 : decode cL_law_ 575 = .ok (.ifCond .eq 5, 3) := by decide +kernel
theorem d_L_law__578 : decode cL_law_ 578 = .ok (.iconst 0, 1) := by decide +kernel
theorem d_L_law__580 : decode cL_law_ 580 = .ok (.goto 2128, 3) := by decide +kernel
theorem d_L_law__583 : decode cL_law_ 583 = .ok (.aload_n 1, 1) := by decide +kernel
theorem d_L_law__584 : decode cL_law_ 584 = .ok (.aload_n 0, 1) := by decide +kernel
theorem d_L_law__585 : decode cL_law_ 585 = .ok (.iload 4, 2) := by decide +kernel
theorem d_L_law__587 : decode cL_law_ 587 = .ok (.iconst 1, 1) := by decide +kernel
theorem d_L_law__588 : decode cL_law_ 588 = .ok (.iadd, 1) := by decide +kernel
theorem d_L_law__589 : decode cL_law_ 589 = .ok (.iaload, 1) := by decide +kernel
theorem d_L_law__590 : decode cL_law_ 590 = .ok (.aload_n 3, 1) := by decide +kernel
theorem d_L_law__591 : decode cL_law_ 591 = .ok (.invokestatic 162, 3) := by decide +kernel
theorem d_L_law__594 : decode cL_law_ 594 = .ok (.istore 5, 2) := by decide +kernel
theorem d_L_law__596 : decode cL_law_ 596 = .ok (.aload_n 2, 1) := by decide +kernel
theorem d_L_law__597 : decode cL_law_ 597 = .ok (.aload_n 0, 1) := by decide +kernel
theorem d_L_law__598 : decode cL_law_ 598 = .ok (.iload 4, 2) := by decide +kernel
theorem d_L_law__600 : decode cL_law_ 600 = .ok (.iconst 1, 1) := by decide +kernel
theorem d_L_law__601 : decode cL_law_ 601 = .ok (.iadd, 1) := by decide +kernel
theorem d_L_law__602 : decode cL_law_ 602 = .ok (.iaload, 1) := by decide +kernel
theorem d_L_law__603 : decode cL_law_ 603 = .ok (.invokevirtual 165, 3) := by decide +kernel
theorem d_L_law__606 : decode cL_law_ 606 = .ok (.istore 6, 2) := by decide +kernel
theorem d_L_law__608 : decode cL_law_ 608 = .ok (.aload_n 2, 1) := by decide +kernel
theorem d_L_law__609 : decode cL_law_ 609 = .ok (.invokevirtual 145, 3) := by decide +kernel
theorem d_L_law__612 : decode cL_law_ 612 = .ok (.iload 5, 2) := by decide +kernel
theorem d_L_law__614 : decode cL_law_ 614 = .ok (.if_icmp .eq 5, 3) := by decide +kernel
theorem d_L_law__617 : decode cL_law_ 617 = .ok (.iconst 0, 1) := by decide +kernel
theorem d_L_law__619 : decode cL_law_ 619 = .ok (.iload 5, 2) := by decide +kernel
theorem d_L_law__621 : decode cL_law_ 621 = .ok (.ifCond .ne 15, 3) := by decide +kernel
theorem d_L_law__624 : decode cL_law_ 624 = .ok (.aload_n 3, 1) := by decide +kernel
theorem d_L_law__625 : decode cL_law_ 625 = .ok (.iconst 0, 1) := by decide +kernel
theorem d_L_law__626 : decode cL_law_ 626 = .ok (.laload, 1) := by decide +kernel
theorem d_L_law__627 : decode cL_law_ 627 = .ok (.iload 6, 2) := by decide +kernel
theorem d_L_law__629 : decode cL_law_ 629 = .ok (.i2l, 1) := by decide +kernel
theorem d_L_law__630 : decode cL_law_ 630 = .ok (.lcmp, 1) := by decide +kernel
theorem d_L_law__631 : decode cL_law_ 631 = .ok (.ifCond .eq 5, 3) := by decide +kernel
theorem d_L_law__634 : decode cL_law_ 634 = .ok (.iconst 0, 1) := by decide +kernel
theorem d_L_law__636 : decode cL_law_ 636 = .ok (.goto 2072, 3) := by decide +kernel
theorem d_L_law__639 : decode cL_law_ 639 = .ok (.aload_n 1, 1) := by decide +kernel
theorem d_L_law__640 : decode cL_law_ 640 = .ok (.aload_n 0, 1) := by decide +kernel
theorem d_L_law__641 : decode cL_law_ 641 = .ok (.iload 4, 2) := by decide +kernel
theorem d_L_law__643 : decode cL_law_ 643 = .ok (.iconst 1, 1) := by decide +kernel
theorem d_L_law__644 : decode cL_law_ 644 = .ok (.iadd, 1) := by decide +kernel
theorem d_L_law__645 : decode cL_law_ 645 = .ok (.iaload, 1) := by decide +kernel
theorem d_L_law__646 : decode cL_law_ 646 = .ok (.aload_n 0, 1) := by decide +kernel
theorem d_L_law__647 : decode cL_law_ 647 = .ok (.iload 4, 2) := by decide +kernel
theorem d_L_law__649 : decode cL_law_ 649 = .ok (.iconst 2, 1) := by decide +kernel
theorem d_L_law__650 : decode cL_law_ 650 = .ok (.iadd, 1) := by decide +kernel
theorem d_L_law__651 : decode cL_law_ 651 = .ok (.iaload, 1) := by decide +kernel
theorem d_L_law__652 : decode cL_law_ 652 = .ok (.aload_n 3, 1) := by decide +kernel
theorem d_L_law__653 : decode cL_law_ 653 = .ok (.invokestatic 166, 3) := by decide +kernel
theorem d_L_law__656 : decode cL_law_ 656 = .ok (.istore 5, 2) := by decide +kernel
theorem d_L_law__658 : decode cL_law_ 658 = .ok (.aload_n 2, 1) := by decide +kernel
theorem d_L_law__659 : decode cL_law_ 659 = .ok (.aload_n 0, 1) := by decide +kernel
theorem d_L_law__660 : decode cL_law_ 660 = .ok (.iload 4, 2) := by decide +kernel
theorem d_L_law__662 : decode cL_law_ 662 = .ok (.iconst 1, 1) := by decide +kernel
theorem d_L_law__663 : decode cL_law_ 663 = .ok (.iadd, 1) := by decide +kernel
theorem d_L_law__664 : decode cL_law_ 664 = .ok (.iaload, 1) := by decide +kernel
theorem d_L_law__665 : decode cL_law_ 665 = .ok (.aload_n 0, 1) := by decide +kernel
theorem d_L_law__666 : decode cL_law_ 666 = .ok (.iload 4, 2) := by decide +kernel
theorem d_L_law__668 : decode cL_law_ 668 = .ok (.iconst 2, 1) := by decide +kernel
theorem d_L_law__669 : decode cL_law_ 669 = .ok (.iadd, 1) := by decide +kernel
theorem d_L_law__670 : decode cL_law_ 670 = .ok (.iaload, 1) := by decide +kernel
theorem d_L_law__671 : decode cL_law_ 671 = .ok (.invokevirtual 168, 3) := by decide +kernel
theorem d_L_law__674 : decode cL_law_ 674 = .ok (.istore 6, 2) := by decide +kernel
theorem d_L_law__676 : decode cL_law_ 676 = .ok (.aload_n 2, 1) := by decide +kernel
theorem d_L_law__677 : decode cL_law_ 677 = .ok (.invokevirtual 145, 3) := by decide +kernel
theorem d_L_law__680 : decode cL_law_ 680 = .ok (.iload 5, 2) := by decide +kernel
theorem d_L_law__682 : decode cL_law_ 682 = .ok (.if_icmp .eq 5, 3) := by decide +kernel
theorem d_L_law__685 : decode cL_law_ 685 = .ok (.iconst 0, 1) := by decide +kernel
theorem d_L_law__687 : decode cL_law_ 687 = .ok (.iload 5, 2) := by decide +kernel
theorem d_L_law__689 : decode cL_law_ 689 = .ok (.ifCond .ne 15, 3) := by decide +kernel
theorem d_L_law__692 : decode cL_law_ 692 = .ok (.aload_n 3, 1) := by decide +kernel
theorem d_L_law__693 : decode cL_law_ 693 = .ok (.iconst 0, 1) := by decide +kernel
theorem d_L_law__694 : decode cL_law_ 694 = .ok (.laload, 1) := by decide +kernel
theorem d_L_law__695 : decode cL_law_ 695 = .ok (.iload 6, 2) := by decide +kernel
theorem d_L_law__697 : decode cL_law_ 697 = .ok (.i2l, 1) := by decide +kernel
theorem d_L_law__698 : decode cL_law_ 698 = .ok (.lcmp, 1) := by decide +kernel
theorem d_L_law__699 : decode cL_law_ 699 = .ok (.ifCond .eq 5, 3) := by decide +kernel
theorem d_L_law__702 : decode cL_law_ 702 = .ok (.iconst 0, 1) := by decide +kernel
theorem d_L_law__704 : decode cL_law_ 704 = .ok (.goto 2004, 3) := by decide +kernel
theorem d_L_law__707 : decode cL_law_ 707 = .ok (.aload_n 1, 1) := by decide +kernel
theorem d_L_law__708 : decode cL_law_ 708 = .ok (.aload_n 0, 1) := by decide +kernel
theorem d_L_law__709 : decode cL_law_ 709 = .ok (.iload 4, 2) := by decide +kernel
theorem d_L_law__711 : decode cL_law_ 711 = .ok (.iconst 1, 1) := by decide +kernel
theorem d_L_law__712 : decode cL_law_ 712 = .ok (.iadd, 1) := by decide +kernel
theorem d_L_law__713 : decode cL_law_ 713 = .ok (.iaload, 1) := by decide +kernel
theorem d_L_law__714 : decode cL_law_ 714 = .ok (.aload_n 3, 1) := by decide +kernel
theorem d_L_law__715 : decode cL_law_ 715 = .ok (.invokestatic 169, 3) := by decide +kernel
theorem d_L_law__718 : decode cL_law_ 718 = .ok (.istore 5, 2) := by decide +kernel
theorem d_L_law__720 : decode cL_law_ 720 = .ok (.aload_n 2, 1) := by decide +kernel
theorem d_L_law__721 : decode cL_law_ 721 = .ok (.aload_n 0, 1) := by decide +kernel
theorem d_L_law__722 : decode cL_law_ 722 = .ok (.iload 4, 2) := by decide +kernel
theorem d_L_law__724 : decode cL_law_ 724 = .ok (.iconst 1, 1) := by decide +kernel
theorem d_L_law__725 : decode cL_law_ 725 = .ok (.iadd, 1) := by decide +kernel
theorem d_L_law__726 : decode cL_law_ 726 = .ok (.iaload, 1) := by decide +kernel
theorem d_L_law__727 : decode cL_law_ 727 = .ok (.invokevirtual 171, 3) := by decide +kernel
theorem d_L_law__730 : decode cL_law_ 730 = .ok (.istore 6, 2) := by decide +kernel
theorem d_L_law__732 : decode cL_law_ 732 = .ok (.aload_n 2, 1) := by decide +kernel
theorem d_L_law__733 : decode cL_law_ 733 = .ok (.invokevirtual 145, 3) := by decide +kernel
theorem d_L_law__736 : decode cL_law_ 736 = .ok (.iload 5, 2) := by decide +kernel
theorem d_L_law__738 : decode cL_law_ 738 = .ok (.if_icmp .eq 5, 3) := by decide +kernel
theorem d_L_law__741 : decode cL_law_ 741 = .ok (.iconst 0, 1) := by decide +kernel
theorem d_L_law__743 : decode cL_law_ 743 = .ok (.iload 5, 2) := by decide +kernel
theorem d_L_law__745 : decode cL_law_ 745 = .ok (.ifCond .ne 15, 3) := by decide +kernel
theorem d_L_law__748 : decode cL_law_ 748 = .ok (.aload_n 3, 1) := by decide +kernel
theorem d_L_law__749 : decode cL_law_ 749 = .ok (.iconst 0, 1) := by decide +kernel
theorem d_L_law__750 : decode cL_law_ 750 = .ok (.laload, 1) := by decide +kernel
theorem d_L_law__751 : decode cL_law_ 751 = .ok (.iload 6, 2) := by decide +kernel
theorem d_L_law__753 : decode cL_law_ 753 = .ok (.i2l, 1) := by decide +kernel
theorem d_L_law__754 : decode cL_law_ 754 = .ok (.lcmp, 1) := by decide +kernel
theorem d_L_law__755 : decode cL_law_ 755 = .ok (.ifCond .eq 5, 3) := by decide +kernel
theorem d_L_law__758 : decode cL_law_ 758 = .ok (.iconst 0, 1) := by decide +kernel
theorem d_L_law__760 : decode cL_law_ 760 = .ok (.goto 1948, 3) := by decide +kernel
theorem d_L_law__763 : decode cL_law_ 763 = .ok (.aload_n 1, 1) := by decide +kernel
theorem d_L_law__764 : decode cL_law_ 764 = .ok (.aload_n 0, 1) := by decide +kernel
theorem d_L_law__765 : decode cL_law_ 765 = .ok (.iload 4, 2) := by decide +kernel
theorem d_L_law__767 : decode cL_law_ 767 = .ok (.iconst 1, 1) := by decide +kernel
theorem d_L_law__768 : decode cL_law_ 768 = .ok (.iadd, 1) := by decide +kernel
theorem d_L_law__769 : decode cL_law_ 769 = .ok (.iaload, 1) := by decide +kernel
theorem d_L_law__770 : decode cL_law_ 770 = .ok (.aload_n 0, 1) := by decide +kernel
theorem d_L_law__771 : decode cL_law_ 771 = .ok (.iload 4, 2) := by decide +kernel
theorem d_L_law__773 : decode cL_law_ 773 = .ok (.iconst 2, 1) := by decide +kernel
theorem d_L_law__774 : decode cL_law_ 774 = .ok (.iadd, 1) := by decide +kernel
theorem d_L_law__775 : decode cL_law_ 775 = .ok (.iaload, 1) := by decide +kernel
theorem d_L_law__776 : decode cL_law_ 776 = .ok (.aload_n 0, 1) := by decide +kernel
theorem d_L_law__777 : decode cL_law_ 777 = .ok (.iload 4, 2) := by decide +kernel
theorem d_L_law__779 : decode cL_law_ 779 = .ok (.iconst 3, 1) := by decide +kernel
theorem d_L_law__780 : decode cL_law_ 780 = .ok (.iadd, 1) := by decide +kernel
theorem d_L_law__781 : decode cL_law_ 781 = .ok (.iaload, 1) := by decide +kernel
theorem d_L_law__782 : decode cL_law_ 782 = .ok (.aload_n 0, 1) := by decide +kernel
theorem d_L_law__783 : decode cL_law_ 783 = .ok (.iload 4, 2) := by decide +kernel
theorem d_L_law__785 : decode cL_law_ 785 = .ok (.iconst 4, 1) := by decide +kernel
theorem d_L_law__786 : decode cL_law_ 786 = .ok (.iadd, 1) := by decide +kernel
theorem d_L_law__787 : decode cL_law_ 787 = .ok (.iaload, 1) := by decide +kernel
theorem d_L_law__788 : decode cL_law_ 788 = .ok (.aload_n 0, 1) := by decide +kernel
theorem d_L_law__789 : decode cL_law_ 789 = .ok (.iload 4, 2) := by decide +kernel
theorem d_L_law__791 : decode cL_law_ 791 = .ok (.iconst 5, 1) := by decide +kernel
theorem d_L_law__792 : decode cL_law_ 792 = .ok (.iadd, 1) := by decide +kernel
theorem d_L_law__793 : decode cL_law_ 793 = .ok (.iaload, 1) := by decide +kernel
theorem d_L_law__794 : decode cL_law_ 794 = .ok (.aload_n 3, 1) := by decide +kernel
theorem d_L_law__795 : decode cL_law_ 795 = .ok (.invokestatic 172, 3) := by decide +kernel
theorem d_L_law__798 : decode cL_law_ 798 = .ok (.istore 5, 2) := by decide +kernel
theorem d_L_law__800 : decode cL_law_ 800 = .ok (.aload_n 2, 1) := by decide +kernel
theorem d_L_law__801 : decode cL_law_ 801 = .ok (.aload_n 0, 1) := by decide +kernel
theorem d_L_law__802 : decode cL_law_ 802 = .ok (.iload 4, 2) := by decide +kernel
theorem d_L_law__804 : decode cL_law_ 804 = .ok (.iconst 1, 1) := by decide +kernel
theorem d_L_law__805 : decode cL_law_ 805 = .ok (.iadd, 1) := by decide +kernel
theorem d_L_law__806 : decode cL_law_ 806 = .ok (.iaload, 1) := by decide +kernel
theorem d_L_law__807 : decode cL_law_ 807 = .ok (.aload_n 0, 1) := by decide +kernel
theorem d_L_law__808 : decode cL_law_ 808 = .ok (.iload 4, 2) := by decide +kernel
theorem d_L_law__810 : decode cL_law_ 810 = .ok (.iconst 2, 1) := by decide +kernel
theorem d_L_law__811 : decode cL_law_ 811 = .ok (.iadd, 1) := by decide +kernel
theorem d_L_law__812 : decode cL_law_ 812 = .ok (.iaload, 1) := by decide +kernel
theorem d_L_law__813 : decode cL_law_ 813 = .ok (.aload_n 0, 1) := by decide +kernel
theorem d_L_law__814 : decode cL_law_ 814 = .ok (.iload 4, 2) := by decide +kernel
theorem d_L_law__816 : decode cL_law_ 816 = .ok (.iconst 3, 1) := by decide +kernel
theorem d_L_law__817 : decode cL_law_ 817 = .ok (.iadd, 1) := by decide +kernel
theorem d_L_law__818 : decode cL_law_ 818 = .ok (.iaload, 1) := by decide +kernel
theorem d_L_law__819 : decode cL_law_ 819 = .ok (.aload_n 0, 1) := by decide +kernel
theorem d_L_law__820 : decode cL_law_ 820 = .ok (.iload 4, 2) := by decide +kernel
theorem d_L_law__822 : decode cL_law_ 822 = .ok (.iconst 4, 1) := by decide +kernel
theorem d_L_law__823 : decode cL_law_ 823 = .ok (.iadd, 1) := by decide +kernel
theorem d_L_law__824 : decode cL_law_ 824 = .ok (.iaload, 1) := by decide +kernel
theorem d_L_law__825 : decode cL_law_ 825 = .ok (.aload_n 0, 1) := by decide +kernel
theorem d_L_law__826 : decode cL_law_ 826 = .ok (.iload 4, 2) := by decide +kernel
theorem d_L_law__828 : decode cL_law_ 828 = .ok (.iconst 5, 1) := by decide +kernel
theorem d_L_law__829 : decode cL_law_ 829 = .ok (.iadd, 1) := by decide +kernel
theorem d_L_law__830 : decode cL_law_ 830 = .ok (.iaload, 1) := by decide +kernel
theorem d_L_law__831 : decode cL_law_ 831 = .ok (.invokevirtual 175, 3) := by decide +kernel
theorem d_L_law__834 : decode cL_law_ 834 = .ok (.istore 6, 2) := by decide +kernel
theorem d_L_law__836 : decode cL_law_ 836 = .ok (.aload_n 2, 1) := by decide +kernel
theorem d_L_law__837 : decode cL_law_ 837 = .ok (.invokevirtual 145, 3) := by decide +kernel
theorem d_L_law__840 : decode cL_law_ 840 = .ok (.iload 5, 2) := by decide +kernel
theorem d_L_law__842 : decode cL_law_ 842 = .ok (.if_icmp .eq 5, 3) := by decide +kernel
theorem d_L_law__845 : decode cL_law_ 845 = .ok (.iconst 0, 1) := by decide +kernel
theorem d_L_law__847 : decode cL_law_ 847 = .ok (.iload 5, 2) := by decide +kernel
theorem d_L_law__849 : decode cL_law_ 849 = .ok (.ifCond .ne 15, 3) := by decide +kernel
theorem d_L_law__852 : decode cL_law_ 852 = .ok (.aload_n 3, 1) := by decide +kernel
theorem d_L_law__853 : decode cL_law_ 853 = .ok (.iconst 0, 1) := by decide +kernel
theorem d_L_law__854 : decode cL_law_ 854 = .ok (.laload, 1) := by decide +kernel
theorem d_L_law__855 : decode cL_law_ 855 = .ok (.iload 6, 2) := by decide +kernel
theorem d_L_law__857 : decode cL_law_ 857 = .ok (.i2l, 1) := by decide +kernel
theorem d_L_law__858 : decode cL_law_ 858 = .ok (.lcmp, 1) := by decide +kernel
theorem d_L_law__859 : decode cL_law_ 859 = .ok (.ifCond .eq 5, 3) := by decide +kernel
theorem d_L_law__862 : decode cL_law_ 862 = .ok (.iconst 0, 1) := by decide +kernel
theorem d_L_law__864 : decode cL_law_ 864 = .ok (.goto 1844, 3) := by decide +kernel
theorem d_L_law__867 : decode cL_law_ 867 = .ok (.aload_n 1, 1) := by decide +kernel
theorem d_L_law__868 : decode cL_law_ 868 = .ok (.aload_n 0, 1) := by decide +kernel
theorem d_L_law__869 : decode cL_law_ 869 = .ok (.iload 4, 2) := by decide +kernel
theorem d_L_law__871 : decode cL_law_ 871 = .ok (.iconst 1, 1) := by decide +kernel
theorem d_L_law__872 : decode cL_law_ 872 = .ok (.iadd, 1) := by decide +kernel
theorem d_L_law__873 : decode cL_law_ 873 = .ok (.iaload, 1) := by decide +kernel
theorem d_L_law__874 : decode cL_law_ 874 = .ok (.aload_n 3, 1) := by decide +kernel
theorem d_L_law__875 : decode cL_law_ 875 = .ok (.invokestatic 176, 3) := by decide +kernel
theorem d_L_law__878 : decode cL_law_ 878 = .ok (.istore 5, 2) := by decide +kernel
theorem d_L_law__880 : decode cL_law_ 880 = .ok (.aload_n 2, 1) := by decide +kernel
theorem d_L_law__881 : decode cL_law_ 881 = .ok (.aload_n 0, 1) := by decide +kernel
theorem d_L_law__882 : decode cL_law_ 882 = .ok (.iload 4, 2) := by decide +kernel
theorem d_L_law__884 : decode cL_law_ 884 = .ok (.iconst 1, 1) := by decide +kernel
theorem d_L_law__885 : decode cL_law_ 885 = .ok (.iadd, 1) := by decide +kernel
theorem d_L_law__886 : decode cL_law_ 886 = .ok (.iaload, 1) := by decide +kernel
theorem d_L_law__887 : decode cL_law_ 887 = .ok (.invokevirtual 178, 3) := by decide +kernel
theorem d_L_law__890 : decode cL_law_ 890 = .ok (.istore 6, 2) := by decide +kernel
theorem d_L_law__892 : decode cL_law_ 892 = .ok (.aload_n 2, 1) := by decide +kernel
theorem d_L_law__893 : decode cL_law_ 893 = .ok (.invokevirtual 145, 3) := by decide +kernel
theorem d_L_law__896 : decode cL_law_ 896 = .ok (.iload 5, 2) := by decide +kernel
theorem d_L_law__898 : decode cL_law_ 898 = .ok (.if_icmp .eq 5, 3) := by decide +kernel
theorem d_L_law__901 : decode cL_law_ 901 = .ok (.iconst 0, 1) := by decide +kernel
theorem d_L_law__903 : decode cL_law_ 903 = .ok (.iload 5, 2) := by decide +kernel
theorem d_L_law__905 : decode cL_law_ 905 = .ok (.ifCond .ne 15, 3) := by decide +kernel
theorem d_L_law__908 : decode cL_law_ 908 = .ok (.aload_n 3, 1) := by decide +kernel
theorem d_L_law__909 : decode cL_law_ 909 = .ok (.iconst 0, 1) := by decide +kernel
theorem d_L_law__910 : decode cL_law_ 910 = .ok (.laload, 1) := by decide +kernel
theorem d_L_law__911 : decode cL_law_ 911 = .ok (.iload 6, 2) := by decide +kernel
theorem d_L_law__913 : decode cL_law_ 913 = .ok (.i2l, 1) := by decide +kernel
theorem d_L_law__914 : decode cL_law_ 914 = .ok (.lcmp, 1) := by decide +kernel
theorem d_L_law__915 : decode cL_law_ 915 = .ok (.ifCond .eq 5, 3) := by decide +kernel
theorem d_L_law__918 : decode cL_law_ 918 = .ok (.iconst 0, 1) := by decide +kernel
theorem d_L_law__920 : decode cL_law_ 920 = .ok (.goto 1788, 3) := by decide +kernel
theorem d_L_law__923 : decode cL_law_ 923 = .ok (.aload_n 1, 1) := by decide +kernel
theorem d_L_law__924 : decode cL_law_ 924 = .ok (.aload_n 0, 1) := by decide +kernel
theorem d_L_law__925 : decode cL_law_ 925 = .ok (.iload 4, 2) := by decide +kernel
theorem d_L_law__927 : decode cL_law_ 927 = .ok (.iconst 1, 1) := by decide +kernel
theorem d_L_law__928 : decode cL_law_ 928 = .ok (.iadd, 1) := by decide +kernel
theorem d_L_law__929 : decode cL_law_ 929 = .ok (.iaload, 1) := by decide +kernel
theorem d_L_law__930 : decode cL_law_ 930 = .ok (.aload_n 0, 1) := by decide +kernel
theorem d_L_law__931 : decode cL_law_ 931 = .ok (.iload 4, 2) := by decide +kernel
theorem d_L_law__933 : decode cL_law_ 933 = .ok (.iconst 2, 1) := by decide +kernel
theorem d_L_law__934 : decode cL_law_ 934 = .ok (.iadd, 1) := by decide +kernel
theorem d_L_law__935 : decode cL_law_ 935 = .ok (.iaload, 1) := by decide +kernel
theorem d_L_law__936 : decode cL_law_ 936 = .ok (.aload_n 3, 1) := by decide +kernel
theorem d_L_law__937 : decode cL_law_ 937 = .ok (.invokestatic 179, 3) := by decide +kernel
theorem d_L_law__940 : decode cL_law_ 940 = .ok (.istore 5, 2) := by decide +kernel
theorem d_L_law__942 : decode cL_law_ 942 = .ok (.aload_n 2, 1) := by decide +kernel
theorem d_L_law__943 : decode cL_law_ 943 = .ok (.aload_n 0, 1) := by decide +kernel
theorem d_L_law__944 : decode cL_law_ 944 = .ok (.iload 4, 2) := by decide +kernel
theorem d_L_law__946 : decode cL_law_ 946 = .ok (.iconst 1, 1) := by decide +kernel
theorem d_L_law__947 : decode cL_law_ 947 = .ok (.iadd, 1) := by decide +kernel
theorem d_L_law__948 : decode cL_law_ 948 = .ok (.iaload, 1) := by decide +kernel
theorem d_L_law__949 : decode cL_law_ 949 = .ok (.aload_n 0, 1) := by decide +kernel
theorem d_L_law__950 : decode cL_law_ 950 = .ok (.iload 4, 2) := by decide +kernel
theorem d_L_law__952 : decode cL_law_ 952 = .ok (.iconst 2, 1) := by decide +kernel
theorem d_L_law__953 : decode cL_law_ 953 = .ok (.iadd, 1) := by decide +kernel
theorem d_L_law__954 : decode cL_law_ 954 = .ok (.iaload, 1) := by decide +kernel
theorem d_L_law__955 : decode cL_law_ 955 = .ok (.invokevirtual 181, 3) := by decide +kernel
theorem d_L_law__958 : decode cL_law_ 958 = .ok (.istore 6, 2) := by decide +kernel
theorem d_L_law__960 : decode cL_law_ 960 = .ok (.aload_n 2, 1) := by decide +kernel
theorem d_L_law__961 : decode cL_law_ 961 = .ok (.invokevirtual 145, 3) := by decide +kernel
theorem d_L_law__964 : decode cL_law_ 964 = .ok (.iload 5, 2) := by decide +kernel
theorem d_L_law__966 : decode cL_law_ 966 = .ok (.if_icmp .eq 5, 3) := by decide +kernel
theorem d_L_law__969 : decode cL_law_ 969 = .ok (.iconst 0, 1) := by decide +kernel
theorem d_L_law__971 : decode cL_law_ 971 = .ok (.iload 5, 2) := by decide +kernel
theorem d_L_law__973 : decode cL_law_ 973 = .ok (.ifCond .ne 15, 3) := by decide +kernel
theorem d_L_law__976 : decode cL_law_ 976 = .ok (.aload_n 3, 1) := by decide +kernel
theorem d_L_law__977 : decode cL_law_ 977 = .ok (.iconst 0, 1) := by decide +kernel
theorem d_L_law__978 : decode cL_law_ 978 = .ok (.laload, 1) := by decide +kernel
theorem d_L_law__979 : decode cL_law_ 979 = .ok (.iload 6, 2) := by decide +kernel
theorem d_L_law__981 : decode cL_law_ 981 = .ok (.i2l, 1) := by decide +kernel
theorem d_L_law__982 : decode cL_law_ 982 = .ok (.lcmp, 1) := by decide +kernel
theorem d_L_law__983 : decode cL_law_ 983 = .ok (.ifCond .eq 5, 3) := by decide +kernel
theorem d_L_law__986 : decode cL_law_ 986 = .ok (.iconst 0, 1) := by decide +kernel
theorem d_L_law__988 : decode cL_law_ 988 = .ok (.goto 1720, 3) := by decide +kernel
theorem d_L_law__991 : decode cL_law_ 991 = .ok (.aload_n 1, 1) := by decide +kernel
theorem d_L_law__992 : decode cL_law_ 992 = .ok (.aload_n 0, 1) := by decide +kernel
theorem d_L_law__993 : decode cL_law_ 993 = .ok (.iload 4, 2) := by decide +kernel
theorem d_L_law__995 : decode cL_law_ 995 = .ok (.iconst 1, 1) := by decide +kernel
theorem d_L_law__996 : decode cL_law_ 996 = .ok (.iadd, 1) := by decide +kernel
theorem d_L_law__997 : decode cL_law_ 997 = .ok (.iaload, 1) := by decide +kernel
theorem d_L_law__998 : decode cL_law_ 998 = .ok (.aload_n 0, 1) := by decide +kernel
theorem d_L_law__999 : decode cL_law_ 999 = .ok (.iload 4, 2) := by decide +kernel
theorem d_L_law__1001 : decode cL_law_ 1001 = .ok (.iconst 2, 1) := by decide +kernel
theorem d_L_law__1002 : decode cL_law_ 1002 = .ok (.iadd, 1) := by decide +kernel
theorem d_L_law__1003 : decode cL_law_ 1003 = .ok (.iaload, 1) := by decide +kernel
theorem d_L_law__1004 : decode cL_law_ 1004 = .ok (.aload_n 3, 1) := by decide +kernel
theorem d_L_law__1005 : decode cL_law_ 1005 = .ok (.invokestatic 182, 3) := by decide +kernel
theorem d_L_law__1008 : decode cL_law_ 1008 = .ok (.istore 5, 2) := by decide +kernel
theorem d_L_law__1010 : decode cL_law_ 1010 = .ok (.aload_n 2, 1) := by decide +kernel
theorem d_L_law__1011 : decode cL_law_ 1011 = .ok (.aload_n 0, 1) := by decide +kernel
theorem d_L_law__1012 : decode cL_law_ 1012 = .ok (.iload 4, 2) := by decide +kernel
theorem d_L_law__1014 : decode cL_law_ 1014 = .ok (.iconst 1, 1) := by decide +kernel
theorem d_L_law__1015 : decode cL_law_ 1015 = .ok (.iadd, 1) := by decide +kernel
theorem d_L_law__1016 : decode cL_law_ 1016 = .ok (.iaload, 1) := by decide +kernel
theorem d_L_law__1017 : decode cL_law_ 1017 = .ok (.aload_n 0, 1) := by decide +kernel
theorem d_L_law__1018 : decode cL_law_ 1018 = .ok (.iload 4, 2) := by decide +kernel
theorem d_L_law__1020 : decode cL_law_ 1020 = .ok (.iconst 2, 1) := by decide +kernel
theorem d_L_law__1021 : decode cL_law_ 1021 = .ok (.iadd, 1) := by decide +kernel
theorem d_L_law__1022 : decode cL_law_ 1022 = .ok (.iaload, 1) := by decide +kernel
theorem d_L_law__1023 : decode cL_law_ 1023 = .ok (.invokevirtual 184, 3) := by decide +kernel
theorem d_L_law__1026 : decode cL_law_ 1026 = .ok (.istore 6, 2) := by decide +kernel
theorem d_L_law__1028 : decode cL_law_ 1028 = .ok (.aload_n 2, 1) := by decide +kernel
theorem d_L_law__1029 : decode cL_law_ 1029 = .ok (.invokevirtual 145, 3) := by decide +kernel
theorem d_L_law__1032 : decode cL_law_ 1032 = .ok (.iload 5, 2) := by decide +kernel
theorem d_L_law__1034 : decode cL_law_ 1034 = .ok (.if_icmp .eq 5, 3) := by decide +kernel
theorem d_L_law__1037 : decode cL_law_ 1037 = .ok (.iconst 0, 1) := by decide +kernel
theorem d_L_law__1039 : decode cL_law_ 1039 = .ok (.iload 5, 2) := by decide +kernel
theorem d_L_law__1041 : decode cL_law_ 1041 = .ok (.ifCond .ne 15, 3) := by decide +kernel
theorem d_L_law__1044 : decode cL_law_ 1044 = .ok (.aload_n 3, 1) := by decide +kernel
theorem d_L_law__1045 : decode cL_law_ 1045 = .ok (.iconst 0, 1) := by decide +kernel
theorem d_L_law__1046 : decode cL_law_ 1046 = .ok (.laload, 1) := by decide +kernel
theorem d_L_law__1047 : decode cL_law_ 1047 = .ok (.iload 6, 2) := by decide +kernel
theorem d_L_law__1049 : decode cL_law_ 1049 = .ok (.i2l, 1) := by decide +kernel
theorem d_L_law__1050 : decode cL_law_ 1050 = .ok (.lcmp, 1) := by decide +kernel
theorem d_L_law__1051 : decode cL_law_ 1051 = .ok (.ifCond .eq 5, 3) := by decide +kernel
theorem d_L_law__1054 : decode cL_law_ 1054 = .ok (.iconst 0, 1) := by decide +kernel
theorem d_L_law__1056 : decode cL_law_ 1056 = .ok (.goto 1652, 3) := by decide +kernel
theorem d_L_law__1059 : decode cL_law_ 1059 = .ok (.aload_n 1, 1) := by decide +kernel
theorem d_L_law__1060 : decode cL_law_ 1060 = .ok (.aload_n 0, 1) := by decide +kernel
theorem d_L_law__1061 : decode cL_law_ 1061 = .ok (.iload 4, 2) := by decide +kernel
theorem d_L_law__1063 : decode cL_law_ 1063 = .ok (.iconst 1, 1) := by decide +kernel
theorem d_L_law__1064 : decode cL_law_ 1064 = .ok (.iadd, 1) := by decide +kernel
theorem d_L_law__1065 : decode cL_law_ 1065 = .ok (.iaload, 1) := by decide +kernel
theorem d_L_law__1066 : decode cL_law_ 1066 = .ok (.aload_n 0, 1) := by decide +kernel
theorem d_L_law__1067 : decode cL_law_ 1067 = .ok (.iload 4, 2) := by decide +kernel
theorem d_L_law__1069 : decode cL_law_ 1069 = .ok (.iconst 2, 1) := by decide +kernel
theorem d_L_law__1070 : decode cL_law_ 1070 = .ok (.iadd, 1) := by decide +kernel
theorem d_L_law__1071 : decode cL_law_ 1071 = .ok (.iaload, 1) := by decide +kernel
theorem d_L_law__1072 : decode cL_law_ 1072 = .ok (.aload_n 3, 1) := by decide +kernel
theorem d_L_law__1073 : decode cL_law_ 1073 = .ok (.invokestatic 185, 3) := by decide +kernel
theorem d_L_law__1076 : decode cL_law_ 1076 = .ok (.istore 5, 2) := by decide +kernel
theorem d_L_law__1078 : decode cL_law_ 1078 = .ok (.aload_n 2, 1) := by decide +kernel
theorem d_L_law__1079 : decode cL_law_ 1079 = .ok (.aload_n 0, 1) := by decide +kernel
theorem d_L_law__1080 : decode cL_law_ 1080 = .ok (.iload 4, 2) := by decide +kernel
theorem d_L_law__1082 : decode cL_law_ 1082 = .ok (.iconst 1, 1) := by decide +kernel
theorem d_L_law__1083 : decode cL_law_ 1083 = .ok (.iadd, 1) := by decide +kernel
theorem d_L_law__1084 : decode cL_law_ 1084 = .ok (.iaload, 1) := by decide +kernel
theorem d_L_law__1085 : decode cL_law_ 1085 = .ok (.aload_n 0, 1) := by decide +kernel
theorem d_L_law__1086 : decode cL_law_ 1086 = .ok (.iload 4, 2) := by decide +kernel
theorem d_L_law__1088 : decode cL_law_ 1088 = .ok (.iconst 2, 1) := by decide +kernel
theorem d_L_law__1089 : decode cL_law_ 1089 = .ok (.iadd, 1) := by decide +kernel
theorem d_L_law__1090 : decode cL_law_ 1090 = .ok (.iaload, 1) := by decide +kernel
theorem d_L_law__1091 : decode cL_law_ 1091 = .ok (.invokevirtual 187, 3) := by decide +kernel
theorem d_L_law__1094 : decode cL_law_ 1094 = .ok (.istore 6, 2) := by decide +kernel
theorem d_L_law__1096 : decode cL_law_ 1096 = .ok (.aload_n 2, 1) := by decide +kernel
theorem d_L_law__1097 : decode cL_law_ 1097 = .ok (.invokevirtual 145, 3) := by decide +kernel
theorem d_L_law__1100 : decode cL_law_ 1100 = .ok (.iload 5, 2) := by decide +kernel
theorem d_L_law__1102 : decode cL_law_ 1102 = .ok (.if_icmp .eq 5, 3) := by decide +kernel
theorem d_L_law__1105 : decode cL_law_ 1105 = .ok (.iconst 0, 1) := by decide +kernel
theorem d_L_law__1107 : decode cL_law_ 1107 = .ok (.iload 5, 2) := by decide +kernel
theorem d_L_law__1109 : decode cL_law_ 1109 = .ok (.ifCond .ne 15, 3) := by decide +kernel
theorem d_L_law__1112 : decode cL_law_ 1112 = .ok (.aload_n 3, 1) := by decide +kernel
theorem d_L_law__1113 : decode cL_law_ 1113 = .ok (.iconst 0, 1) := by decide +kernel
theorem d_L_law__1114 : decode cL_law_ 1114 = .ok (.laload, 1) := by decide +kernel
theorem d_L_law__1115 : decode cL_law_ 1115 = .ok (.iload 6, 2) := by decide +kernel
theorem d_L_law__1117 : decode cL_law_ 1117 = .ok (.i2l, 1) := by decide +kernel
theorem d_L_law__1118 : decode cL_law_ 1118 = .ok (.lcmp, 1) := by decide +kernel
theorem d_L_law__1119 : decode cL_law_ 1119 = .ok (.ifCond .eq 5, 3) := by decide +kernel
theorem d_L_law__1122 : decode cL_law_ 1122 = .ok (.iconst 0, 1) := by decide +kernel
theorem d_L_law__1124 : decode cL_law_ 1124 = .ok (.goto 1584, 3) := by decide +kernel
theorem d_L_law__1127 : decode cL_law_ 1127 = .ok (.aload_n 1, 1) := by decide +kernel
theorem d_L_law__1128 : decode cL_law_ 1128 = .ok (.aload_n 0, 1) := by decide +kernel
theorem d_L_law__1129 : decode cL_law_ 1129 = .ok (.iload 4, 2) := by decide +kernel
theorem d_L_law__1131 : decode cL_law_ 1131 = .ok (.iconst 1, 1) := by decide +kernel
theorem d_L_law__1132 : decode cL_law_ 1132 = .ok (.iadd, 1) := by decide +kernel
theorem d_L_law__1133 : decode cL_law_ 1133 = .ok (.iaload, 1) := by decide +kernel
theorem d_L_law__1134 : decode cL_law_ 1134 = .ok (.aload_n 3, 1) := by decide +kernel
theorem d_L_law__1135 : decode cL_law_ 1135 = .ok (.invokestatic 188, 3) := by decide +kernel
theorem d_L_law__1138 : decode cL_law_ 1138 = .ok (.istore 5, 2) := by decide +kernel
theorem d_L_law__1140 : decode cL_law_ 1140 = .ok (.aload_n 2, 1) := by decide +kernel
theorem d_L_law__1141 : decode cL_law_ 1141 = .ok (.aload_n 0, 1) := by decide +kernel
theorem d_L_law__1142 : decode cL_law_ 1142 = .ok (.iload 4, 2) := by decide +kernel
theorem d_L_law__1144 : decode cL_law_ 1144 = .ok (.iconst 1, 1) := by decide +kernel
theorem d_L_law__1145 : decode cL_law_ 1145 = .ok (.iadd, 1) := by decide +kernel
theorem d_L_law__1146 : decode cL_law_ 1146 = .ok (.iaload, 1) := by decide +kernel
theorem d_L_law__1147 : decode cL_law_ 1147 = .ok (.invokevirtual 190, 3) := by decide +kernel
theorem d_L_law__1150 : decode cL_law_ 1150 = .ok (.istore 6, 2) := by decide +kernel
theorem d_L_law__1152 : decode cL_law_ 1152 = .ok (.aload_n 2, 1) := by decide +kernel
theorem d_L_law__1153 : decode cL_law_ 1153 = .ok (.invokevirtual 145, 3) := by decide +kernel
theorem d_L_law__1156 : decode cL_law_ 1156 = .ok (.iload 5, 2) := by decide +kernel
theorem d_L_law__1158 : decode cL_law_ 1158 = .ok (.if_icmp .eq 5, 3) := by decide +kernel
theorem d_L_law__1161 : decode cL_law_ 1161 = .ok (.iconst 0, 1) := by decide +kernel
theorem d_L_law__1163 : decode cL_law_ 1163 = .ok (.iload 5, 2) := by decide +kernel
theorem d_L_law__1165 : decode cL_law_ 1165 = .ok (.ifCond .ne 15, 3) := by decide +kernel
theorem d_L_law__1168 : decode cL_law_ 1168 = .ok (.aload_n 3, 1) := by decide +kernel
theorem d_L_law__1169 : decode cL_law_ 1169 = .ok (.iconst 0, 1) := by decide +kernel
theorem d_L_law__1170 : decode cL_law_ 1170 = .ok (.laload, 1) := by decide +kernel
theorem d_L_law__1171 : decode cL_law_ 1171 = .ok (.iload 6, 2) := by decide +kernel
theorem d_L_law__1173 : decode cL_law_ 1173 = .ok (.i2l, 1) := by decide +kernel
theorem d_L_law__1174 : decode cL_law_ 1174 = .ok (.lcmp, 1) := by decide +kernel
theorem d_L_law__1175 : decode cL_law_ 1175 = .ok (.ifCond .eq 5, 3) := by decide +kernel
theorem d_L_law__1178 : decode cL_law_ 1178 = .ok (.iconst 0, 1) := by decide +kernel
theorem d_L_law__1180 : decode cL_law_ 1180 = .ok (.goto 1528, 3) := by decide +kernel
theorem d_L_law__1183 : decode cL_law_ 1183 = .ok (.aload_n 1, 1) := by decide +kernel
theorem d_L_law__1184 : decode cL_law_ 1184 = .ok (.aload_n 0, 1) := by decide +kernel
theorem d_L_law__1185 : decode cL_law_ 1185 = .ok (.iload 4, 2) := by decide +kernel
theorem d_L_law__1187 : decode cL_law_ 1187 = .ok (.iconst 1, 1) := by decide +kernel
theorem d_L_law__1188 : decode cL_law_ 1188 = .ok (.iadd, 1) := by decide +kernel
theorem d_L_law__1189 : decode cL_law_ 1189 = .ok (.iaload, 1) := by decide +kernel
theorem d_L_law__1190 : decode cL_law_ 1190 = .ok (.aload_n 3, 1) := by decide +kernel
theorem d_L_law__1191 : decode cL_law_ 1191 = .ok (.invokestatic 191, 3) := by decide +kernel
theorem d_L_law__1194 : decode cL_law_ 1194 = .ok (.istore 5, 2) := by decide +kernel
theorem d_L_law__1196 : decode cL_law_ 1196 = .ok (.aload_n 2, 1) := by decide +kernel
theorem d_L_law__1197 : decode cL_law_ 1197 = .ok (.aload_n 0, 1) := by decide +kernel
theorem d_L_law__1198 : decode cL_law_ 1198 = .ok (.iload 4, 2) := by decide +kernel
theorem d_L_law__1200 : decode cL_law_ 1200 = .ok (.iconst 1, 1) := by decide +kernel
theorem d_L_law__1201 : decode cL_law_ 1201 = .ok (.iadd, 1) := by decide +kernel
theorem d_L_law__1202 : decode cL_law_ 1202 = .ok (.iaload, 1) := by decide +kernel
theorem d_L_law__1203 : decode cL_law_ 1203 = .ok (.invokevirtual 193, 3) := by decide +kernel
theorem d_L_law__1206 : decode cL_law_ 1206 = .ok (.istore 6, 2) := by decide +kernel
theorem d_L_law__1208 : decode cL_law_ 1208 = .ok (.aload_n 2, 1) := by decide +kernel
theorem d_L_law__1209 : decode cL_law_ 1209 = .ok (.invokevirtual 145, 3) := by decide +kernel
theorem d_L_law__1212 : decode cL_law_ 1212 = .ok (.iload 5, 2) := by decide +kernel
theorem d_L_law__1214 : decode cL_law_ 1214 = .ok (.if_icmp .eq 5, 3) := by decide +kernel
theorem d_L_law__1217 : decode cL_law_ 1217 = .ok (.iconst 0, 1) := by decide +kernel
theorem d_L_law__1219 : decode cL_law_ 1219 = .ok (.iload 5, 2) := by decide +kernel
theorem d_L_law__1221 : decode cL_law_ 1221 = .ok (.ifCond .ne 15, 3) := by decide +kernel
theorem d_L_law__1224 : decode cL_law_ 1224 = .ok (.aload_n 3, 1) := by decide +kernel
theorem d_L_law__1225 : decode cL_law_ 1225 = .ok (.iconst 0, 1) := by decide +kernel
theorem d_L_law__1226 : decode cL_law_ 1226 = .ok (.laload, 1) := by decide +kernel
theorem d_L_law__1227 : decode cL_law_ 1227 = .ok (.iload 6, 2) := by decide +kernel
theorem d_L_law__1229 : decode cL_law_ 1229 = .ok (.i2l, 1) := by decide +kernel
theorem d_L_law__1230 : decode cL_law_ 1230 = .ok (.lcmp, 1) := by decide +kernel
theorem d_L_law__1231 : decode cL_law_ 1231 = .ok (.ifCond .eq 5, 3) := by decide +kernel
theorem d_L_law__1234 : decode cL_law_ 1234 = .ok (.iconst 0, 1) := by decide +kernel
theorem d_L_law__1236 : decode cL_law_ 1236 = .ok (.goto 1472, 3) := by decide +kernel
theorem d_L_law__1239 : decode cL_law_ 1239 = .ok (.aload_n 1, 1) := by decide +kernel
theorem d_L_law__1240 : decode cL_law_ 1240 = .ok (.invokevirtual 194, 3) := by decide +kernel
theorem d_L_law__1243 : decode cL_law_ 1243 = .ok (.aload_n 2, 1) := by decide +kernel
theorem d_L_law__1244 : decode cL_law_ 1244 = .ok (.invokevirtual 197, 3) := by decide +kernel
theorem d_L_law__1247 : decode cL_law_ 1247 = .ok (.if_icmp .eq 1461, 3) := by decide +kernel
theorem d_L_law__1250 : decode cL_law_ 1250 = .ok (.iconst 0, 1) := by decide +kernel
theorem d_L_law__1252 : decode cL_law_ 1252 = .ok (.aload_n 1, 1) := by decide +kernel
theorem d_L_law__1253 : decode cL_law_ 1253 = .ok (.aload_n 0, 1) := by decide +kernel
theorem d_L_law__1254 : decode cL_law_ 1254 = .ok (.iload 4, 2) := by decide +kernel
theorem d_L_law__1256 : decode cL_law_ 1256 = .ok (.iconst 1, 1) := by decide +kernel
theorem d_L_law__1257 : decode cL_law_ 1257 = .ok (.iadd, 1) := by decide +kernel
theorem d_L_law__1258 : decode cL_law_ 1258 = .ok (.iaload, 1) := by decide +kernel
theorem d_L_law__1259 : decode cL_law_ 1259 = .ok (.aload_n 0, 1) := by decide +kernel
theorem d_L_law__1260 : decode cL_law_ 1260 = .ok (.iload 4, 2) := by decide +kernel
theorem d_L_law__1262 : decode cL_law_ 1262 = .ok (.iconst 2, 1) := by decide +kernel
theorem d_L_law__1263 : decode cL_law_ 1263 = .ok (.iadd, 1) := by decide +kernel
theorem d_L_law__1264 : decode cL_law_ 1264 = .ok (.iaload, 1) := by decide +kernel
theorem d_L_law__1265 : decode cL_law_ 1265 = .ok (.aload_n 3, 1) := by decide +kernel
theorem d_L_law__1266 : decode cL_law_ 1266 = .ok (.invokestatic 198, 3) := by decide +kernel
theorem d_L_law__1269 : decode cL_law_ 1269 = .ok (.istore 5, 2) := by decide +kernel
theorem d_L_law__1271 : decode cL_law_ 1271 = .ok (.aload_n 2, 1) := by decide +kernel
theorem d_L_law__1272 : decode cL_law_ 1272 = .ok (.aload_n 0, 1) := by decide +kernel
theorem d_L_law__1273 : decode cL_law_ 1273 = .ok (.iload 4, 2) := by decide +kernel
theorem d_L_law__1275 : decode cL_law_ 1275 = .ok (.iconst 1, 1) := by decide +kernel
theorem d_L_law__1276 : decode cL_law_ 1276 = .ok (.iadd, 1) := by decide +kernel
theorem d_L_law__1277 : decode cL_law_ 1277 = .ok (.iaload, 1) := by decide +kernel
theorem d_L_law__1278 : decode cL_law_ 1278 = .ok (.aload_n 0, 1) := by decide +kernel
theorem d_L_law__1279 : decode cL_law_ 1279 = .ok (.iload 4, 2) := by decide +kernel
theorem d_L_law__1281 : decode cL_law_ 1281 = .ok (.iconst 2, 1) := by decide +kernel
theorem d_L_law__1282 : decode cL_law_ 1282 = .ok (.iadd, 1) := by decide +kernel
theorem d_L_law__1283 : decode cL_law_ 1283 = .ok (.iaload, 1) := by decide +kernel
theorem d_L_law__1284 : decode cL_law_ 1284 = .ok (.invokevirtual 200, 3) := by decide +kernel
theorem d_L_law__1287 : decode cL_law_ 1287 = .ok (.istore 6, 2) := by decide +kernel
theorem d_L_law__1289 : decode cL_law_ 1289 = .ok (.aload_n 2, 1) := by decide +kernel
theorem d_L_law__1290 : decode cL_law_ 1290 = .ok (.invokevirtual 145, 3) := by decide +kernel
theorem d_L_law__1293 : decode cL_law_ 1293 = .ok (.iload 5, 2) := by decide +kernel
theorem d_L_law__1295 : decode cL_law_ 1295 = .ok (.if_icmp .eq 5, 3) := by decide +kernel
theorem d_L_law__1298 : decode cL_law_ 1298 = .ok (.iconst 0, 1) := by decide +kernel
theorem d_L_law__1300 : decode cL_law_ 1300 = .ok (.iload 5, 2) := by decide +kernel
theorem d_L_law__1302 : decode cL_law_ 1302 = .ok (.ifCond .ne 15, 3) := by decide +kernel
theorem d_L_law__1305 : decode cL_law_ 1305 = .ok (.aload_n 3, 1) := by decide +kernel
theorem d_L_law__1306 : decode cL_law_ 1306 = .ok (.iconst 0, 1) := by decide +kernel
theorem d_L_law__1307 : decode cL_law_ 1307 = .ok (.laload, 1) := by decide +kernel
theorem d_L_law__1308 : decode cL_law_ 1308 = .ok (.iload 6, 2) := by decide +kernel
theorem d_L_law__1310 : decode cL_law_ 1310 = .ok (.i2l, 1) := by decide +kernel
theorem d_L_law__1311 : decode cL_law_ 1311 = .ok (.lcmp, 1) := by decide +kernel
theorem d_L_law__1312 : decode cL_law_ 1312 = .ok (.ifCond .eq 5, 3) := by decide +kernel
theorem d_L_law__1315 : decode cL_law_ 1315 = .ok (.iconst 0, 1) := by decide +kernel
theorem d_L_law__1317 : decode cL_law_ 1317 = .ok (.goto 1391, 3) := by decide +kernel
theorem d_L_law__1320 : decode cL_law_ 1320 = .ok (.aload_n 1, 1) := by decide +kernel
theorem d_L_law__1321 : decode cL_law_ 1321 = .ok (.aload_n 0, 1) := by decide +kernel
theorem d_L_law__1322 : decode cL_law_ 1322 = .ok (.iload 4, 2) := by decide +kernel
theorem d_L_law__1324 : decode cL_law_ 1324 = .ok (.iconst 1, 1) := by decide +kernel
theorem d_L_law__1325 : decode cL_law_ 1325 = .ok (.iadd, 1) := by decide +kernel
theorem d_L_law__1326 : decode cL_law_ 1326 = .ok (.iaload, 1) := by decide +kernel
theorem d_L_law__1327 : decode cL_law_ 1327 = .ok (.aload_n 3, 1) := by decide +kernel
theorem d_L_law__1328 : decode cL_law_ 1328 = .ok (.invokestatic 201, 3) := by decide +kernel
theorem d_L_law__1331 : decode cL_law_ 1331 = .ok (.istore 5, 2) := by decide +kernel
theorem d_L_law__1333 : decode cL_law_ 1333 = .ok (.aload_n 2, 1) := by decide +kernel
theorem d_L_law__1334 : decode cL_law_ 1334 = .ok (.aload_n 0, 1) := by decide +kernel
theorem d_L_law__1335 : decode cL_law_ 1335 = .ok (.iload 4, 2) := by decide +kernel
theorem d_L_law__1337 : decode cL_law_ 1337 = .ok (.iconst 1, 1) := by decide +kernel
theorem d_L_law__1338 : decode cL_law_ 1338 = .ok (.iadd, 1) := by decide +kernel
theorem d_L_law__1339 : decode cL_law_ 1339 = .ok (.iaload, 1) := by decide +kernel
theorem d_L_law__1340 : decode cL_law_ 1340 = .ok (.invokevirtual 203, 3) := by decide +kernel
theorem d_L_law__1343 : decode cL_law_ 1343 = .ok (.istore 6, 2) := by decide +kernel
theorem d_L_law__1345 : decode cL_law_ 1345 = .ok (.aload_n 2, 1) := by decide +kernel
theorem d_L_law__1346 : decode cL_law_ 1346 = .ok (.invokevirtual 145, 3) := by decide +kernel
theorem d_L_law__1349 : decode cL_law_ 1349 = .ok (.iload 5, 2) := by decide +kernel
theorem d_L_law__1351 : decode cL_law_ 1351 = .ok (.if_icmp .eq 5, 3) := by decide +kernel
theorem d_L_law__1354 : decode cL_law_ 1354 = .ok (.iconst 0, 1) := by decide +kernel
theorem d_L_law__1356 : decode cL_law_ 1356 = .ok (.iload 5, 2) := by decide +kernel
theorem d_L_law__1358 : decode cL_law_ 1358 = .ok (.ifCond .ne 15, 3) := by decide +kernel
theorem d_L_law__1361 : decode cL_law_ 1361 = .ok (.aload_n 3, 1) := by decide +kernel
theorem d_L_law__1362 : decode cL_law_ 1362 = .ok (.iconst 0, 1) := by decide +kernel
theorem d_L_law__1363 : decode cL_law_ 1363 = .ok (.laload, 1) := by decide +kernel
theorem d_L_law__1364 : decode cL_law_ 1364 = .ok (.iload 6, 2) := by decide +kernel
theorem d_L_law__1366 : decode cL_law_ 1366 = .ok (.i2l, 1) := by decide +kernel
theorem d_L_law__1367 : decode cL_law_ 1367 = .ok (.lcmp, 1) := by decide +kernel
theorem d_L_law__1368 : decode cL_law_ 1368 = .ok (.ifCond .eq 5, 3) := by decide +kernel
theorem d_L_law__1371 : decode cL_law_ 1371 = .ok (.iconst 0, 1) := by decide +kernel
theorem d_L_law__1373 : decode cL_law_ 1373 = .ok (.goto 1335, 3) := by decide +kernel
theorem d_L_law__1376 : decode cL_law_ 1376 = .ok (.aload_n 1, 1) := by decide +kernel
theorem d_L_law__1377 : decode cL_law_ 1377 = .ok (.aload_n 0, 1) := by decide +kernel
theorem d_L_law__1378 : decode cL_law_ 1378 = .ok (.iload 4, 2) := by decide +kernel
theorem d_L_law__1380 : decode cL_law_ 1380 = .ok (.iconst 1, 1) := by decide +kernel
theorem d_L_law__1381 : decode cL_law_ 1381 = .ok (.iadd, 1) := by decide +kernel
theorem d_L_law__1382 : decode cL_law_ 1382 = .ok (.iaload, 1) := by decide +kernel
theorem d_L_law__1383 : decode cL_law_ 1383 = .ok (.aload_n 3, 1) := by decide +kernel
theorem d_L_law__1384 : decode cL_law_ 1384 = .ok (.invokestatic 204, 3) := by decide +kernel
theorem d_L_law__1387 : decode cL_law_ 1387 = .ok (.istore 5, 2) := by decide +kernel
theorem d_L_law__1389 : decode cL_law_ 1389 = .ok (.aload_n 2, 1) := by decide +kernel
theorem d_L_law__1390 : decode cL_law_ 1390 = .ok (.aload_n 0, 1) := by decide +kernel
theorem d_L_law__1391 : decode cL_law_ 1391 = .ok (.iload 4, 2) := by decide +kernel
theorem d_L_law__1393 : decode cL_law_ 1393 = .ok (.iconst 1, 1) := by decide +kernel
theorem d_L_law__1394 : decode cL_law_ 1394 = .ok (.iadd, 1) := by decide +kernel
theorem d_L_law__1395 : decode cL_law_ 1395 = .ok (.iaload, 1) := by decide +kernel
theorem d_L_law__1396 : decode cL_law_ 1396 = .ok (.invokevirtual 206, 3) := by decide +kernel
theorem d_L_law__1399 : decode cL_law_ 1399 = .ok (.istore 6, 2) := by decide +kernel
theorem d_L_law__1401 : decode cL_law_ 1401 = .ok (.aload_n 2, 1) := by decide +kernel
theorem d_L_law__1402 : decode cL_law_ 1402 = .ok (.invokevirtual 145, 3) := by decide +kernel
theorem d_L_law__1405 : decode cL_law_ 1405 = .ok (.iload 5, 2) := by decide +kernel
theorem d_L_law__1407 : decode cL_law_ 1407 = .ok (.if_icmp .eq 5, 3) := by decide +kernel
theorem d_L_law__1410 : decode cL_law_ 1410 = .ok (.iconst 0, 1) := by decide +kernel
theorem d_L_law__1412 : decode cL_law_ 1412 = .ok (.iload 5, 2) := by decide +kernel
theorem d_L_law__1414 : decode cL_law_ 1414 = .ok (.ifCond .ne 15, 3) := by decide +kernel
theorem d_L_law__1417 : decode cL_law_ 1417 = .ok (.aload_n 3, 1) := by decide +kernel
theorem d_L_law__1418 : decode cL_law_ 1418 = .ok (.iconst 0, 1) := by decide +kernel
theorem d_L_law__1419 : decode cL_law_ 1419 = .ok (.laload, 1) := by decide +kernel
theorem d_L_law__1420 : decode cL_law_ 1420 = .ok (.iload 6, 2) := by decide +kernel
theorem d_L_law__1422 : decode cL_law_ 1422 = .ok (.i2l, 1) := by decide +kernel
theorem d_L_law__1423 : decode cL_law_ 1423 = .ok (.lcmp, 1) := by decide +kernel
theorem d_L_law__1424 : decode cL_law_ 1424 = .ok (.ifCond .eq 5, 3) := by decide +kernel
theorem d_L_law__1427 : decode cL_law_ 1427 = .ok (.iconst 0, 1) := by decide +kernel
theorem d_L_law__1429 : decode cL_law_ 1429 = .ok (.goto 1279, 3) := by decide +kernel
theorem d_L_law__1432 : decode cL_law_ 1432 = .ok (.aload_n 1, 1) := by decide +kernel
theorem d_L_law__1433 : decode cL_law_ 1433 = .ok (.aload_n 0, 1) := by decide +kernel
theorem d_L_law__1434 : decode cL_law_ 1434 = .ok (.iload 4, 2) := by decide +kernel
theorem d_L_law__1436 : decode cL_law_ 1436 = .ok (.iconst 1, 1) := by decide +kernel
theorem d_L_law__1437 : decode cL_law_ 1437 = .ok (.iadd, 1) := by decide +kernel
theorem d_L_law__1438 : decode cL_law_ 1438 = .ok (.iaload, 1) := by decide +kernel
theorem d_L_law__1439 : decode cL_law_ 1439 = .ok (.aload_n 0, 1) := by decide +kernel
theorem d_L_law__1440 : decode cL_law_ 1440 = .ok (.iload 4, 2) := by decide +kernel
theorem d_L_law__1442 : decode cL_law_ 1442 = .ok (.iconst 2, 1) := by decide +kernel
theorem d_L_law__1443 : decode cL_law_ 1443 = .ok (.iadd, 1) := by decide +kernel
theorem d_L_law__1444 : decode cL_law_ 1444 = .ok (.iaload, 1) := by decide +kernel
theorem d_L_law__1445 : decode cL_law_ 1445 = .ok (.aload_n 0, 1) := by decide +kernel
theorem d_L_law__1446 : decode cL_law_ 1446 = .ok (.iload 4, 2) := by decide +kernel
theorem d_L_law__1448 : decode cL_law_ 1448 = .ok (.iconst 3, 1) := by decide +kernel
theorem d_L_law__1449 : decode cL_law_ 1449 = .ok (.iadd, 1) := by decide +kernel
theorem d_L_law__1450 : decode cL_law_ 1450 = .ok (.iaload, 1) := by decide +kernel
theorem d_L_law__1451 : decode cL_law_ 1451 = .ok (.ifCond .eq 7, 3) := by decide +kernel
theorem d_L_law__1454 : decode cL_law_ 1454 = .ok (.iconst 1, 1) := by decide +kernel
theorem d_L_law__1455 : decode cL_law_ 1455 = .ok (.goto 4, 3) := by decide +kernel
theorem d_L_law__1458 : decode cL_law_ 1458 = .ok (.iconst 0, 1) := by decide +kernel
theorem d_L_law__1459 : decode cL_law_ 1459 = .ok (.aload_n 3, 1) := by decide +kernel
theorem d_L_law__1460 : decode cL_law_ 1460 = .ok (.invokestatic 207, 3) := by decide +kernel
theorem d_L_law__1463 : decode cL_law_ 1463 = .ok (.istore 5, 2) := by decide +kernel
theorem d_L_law__1465 : decode cL_law_ 1465 = .ok (.aload_n 2, 1) := by decide +kernel
theorem d_L_law__1466 : decode cL_law_ 1466 = .ok (.aload_n 0, 1) := by decide +kernel
theorem d_L_law__1467 : decode cL_law_ 1467 = .ok (.iload 4, 2) := by decide +kernel
theorem d_L_law__1469 : decode cL_law_ 1469 = .ok (.iconst 1, 1) := by decide +kernel
theorem d_L_law__1470 : decode cL_law_ 1470 = .ok (.iadd, 1) := by decide +kernel
theorem d_L_law__1471 : decode cL_law_ 1471 = .ok (.iaload, 1) := by decide +kernel
theorem d_L_law__1472 : decode cL_law_ 1472 = .ok (.aload_n 0, 1) := by decide +kernel
theorem d_L_law__1473 : decode cL_law_ 1473 = .ok (.iload 4, 2) := by decide +kernel
theorem d_L_law__1475 : decode cL_law_ 1475 = .ok (.iconst 2, 1) := by decide +kernel
theorem d_L_law__1476 : decode cL_law_ 1476 = .ok (.iadd, 1) := by decide +kernel
theorem d_L_law__1477 : decode cL_law_ 1477 = .ok (.iaload, 1) := by decide +kernel
theorem d_L_law__1478 : decode cL_law_ 1478 = .ok (.aload_n 0, 1) := by decide +kernel
theorem d_L_law__1479 : decode cL_law_ 1479 = .ok (.iload 4, 2) := by decide +kernel
theorem d_L_law__1481 : decode cL_law_ 1481 = .ok (.iconst 3, 1) := by decide +kernel
theorem d_L_law__1482 : decode cL_law_ 1482 = .ok (.iadd, 1) := by decide +kernel
theorem d_L_law__1483 : decode cL_law_ 1483 = .ok (.iaload, 1) := by decide +kernel
theorem d_L_law__1484 : decode cL_law_ 1484 = .ok (.ifCond .eq 7, 3) := by decide +kernel
theorem d_L_law__1487 : decode cL_law_ 1487 = .ok (.iconst 1, 1) := by decide +kernel
theorem d_L_law__1488 : decode cL_law_ 1488 = .ok (.goto 4, 3) := by decide +kernel
theorem d_L_law__1491 : decode cL_law_ 1491 = .ok (.iconst 0, 1) := by decide +kernel
theorem d_L_law__1492 : decode cL_law_ 1492 = .ok (.invokevirtual 210, 3) := by decide +kernel
theorem d_L_law__1495 : decode cL_law_ 1495 = .ok (.istore 6, 2) := by decide +kernel
theorem d_L_law__1497 : decode cL_law_ 1497 = .ok (.aload_n 2, 1) := by decide +kernel
theorem d_L_law__1498 : decode cL_law_ 1498 = .ok (.invokevirtual 145, 3) := by decide +kernel
theorem d_L_law__1501 : decode cL_law_ 1501 = .ok (.iload 5, 2) := by decide +kernel
theorem d_L_law__1503 : decode cL_law_ 1503 = .ok (.if_icmp .eq 5, 3) := by decide +kernel
theorem d_L_law__1506 : decode cL_law_ 1506 = .ok (.iconst 0, 1) := by decide +kernel
theorem d_L_law__1508 : decode cL_law_ 1508 = .ok (.iload 5, 2) := by decide +kernel
theorem d_L_law__1510 : decode cL_law_ 1510 = .ok (.ifCond .ne 15, 3) := by decide +kernel
theorem d_L_law__1513 : decode cL_law_ 1513 = .ok (.aload_n 3, 1) := by decide +kernel
theorem d_L_law__1514 : decode cL_law_ 1514 = .ok (.iconst 0, 1) := by decide +kernel
theorem d_L_law__1515 : decode cL_law_ 1515 = .ok (.laload, 1) := by decide +kernel
theorem d_L_law__1516 : decode cL_law_ 1516 = .ok (.iload 6, 2) := by decide +kernel
theorem d_L_law__1518 : decode cL_law_ 1518 = .ok (.i2l, 1) := by decide +kernel
theorem d_L_law__1519 : decode cL_law_ 1519 = .ok (.lcmp, 1) := by decide +kernel
theorem d_L_law__1520 : decode cL_law_ 1520 = .ok (.ifCond .eq 5, 3) := by decide +kernel
theorem d_L_law__1523 : decode cL_law_ 1523 = .ok (.iconst 0, 1) := by decide +kernel
theorem d_L_law__1525 : decode cL_law_ 1525 = .ok (.goto 1183, 3) := by decide +kernel
theorem d_L_law__1528 : decode cL_law_ 1528 = .ok (.aload_n 1, 1) := by decide +kernel
theorem d_L_law__1529 : decode cL_law_ 1529 = .ok (.invokevirtual 211, 3) := by decide +kernel
theorem d_L_law__1532 : decode cL_law_ 1532 = .ok (.aload_n 2, 1) := by decide +kernel
theorem d_L_law__1533 : decode cL_law_ 1533 = .ok (.invokevirtual 214, 3) := by decide +kernel
theorem d_L_law__1536 : decode cL_law_ 1536 = .ok (.if_icmp .eq 1172, 3) := by decide +kernel
theorem d_L_law__1539 : decode cL_law_ 1539 = .ok (.iconst 0, 1) := by decide +kernel
theorem d_L_law__1541 : decode cL_law_ 1541 = .ok (.aload_n 1, 1) := by decide +kernel
theorem d_L_law__1542 : decode cL_law_ 1542 = .ok (.aload_n 0, 1) := by decide +kernel
theorem d_L_law__1543 : decode cL_law_ 1543 = .ok (.iload 4, 2) := by decide +kernel
theorem d_L_law__1545 : decode cL_law_ 1545 = .ok (.iconst 1, 1) := by decide +kernel
theorem d_L_law__1546 : decode cL_law_ 1546 = .ok (.iadd, 1) := by decide +kernel
theorem d_L_law__1547 : decode cL_law_ 1547 = .ok (.iaload, 1) := by decide +kernel
theorem d_L_law__1548 : decode cL_law_ 1548 = .ok (.ifCond .eq 7, 3) := by decide +kernel
theorem d_L_law__1551 : decode cL_law_ 1551 = .ok (.iconst 1, 1) := by decide +kernel
theorem d_L_law__1552 : decode cL_law_ 1552 = .ok (.goto 4, 3) := by decide +kernel
theorem d_L_law__1555 : decode cL_law_ 1555 = .ok (.iconst 0, 1) := by decide +kernel
theorem d_L_law__1556 : decode cL_law_ 1556 = .ok (.invokevirtual 215, 3) := by decide +kernel
theorem d_L_law__1559 : decode cL_law_ 1559 = .ok (.aload_n 2, 1) := by decide +kernel
theorem d_L_law__1560 : decode cL_law_ 1560 = .ok (.aload_n 0, 1) := by decide +kernel
theorem d_L_law__1561 : decode cL_law_ 1561 = .ok (.iload 4, 2) := by decide +kernel
theorem d_L_law__1563 : decode cL_law_ 1563 = .ok (.iconst 1, 1) := by decide +kernel
theorem d_L_law__1564 : decode cL_law_ 1564 = .ok (.iadd, 1) := by decide +kernel
theorem d_L_law__1565 : decode cL_law_ 1565 = .ok (.iaload, 1) := by decide +kernel
theorem d_L_law__1566 : decode cL_law_ 1566 = .ok (.ifCond .eq 7, 3) := by decide +kernel
theorem d_L_law__1569 : decode cL_law_ 1569 = .ok (.iconst 1, 1) := by decide +kernel
theorem d_L_law__1570 : decode cL_law_ 1570 = .ok (.goto 4, 3) := by decide +kernel
theorem d_L_law__1573 : decode cL_law_ 1573 = .ok (.iconst 0, 1) := by decide +kernel
theorem d_L_law__1574 : decode cL_law_ 1574 = .ok (.invokevirtual 218, 3) := by decide +kernel
theorem d_L_law__1577 : decode cL_law_ 1577 = .ok (.if_icmp .eq 1131, 3) := by decide +kernel
theorem d_L_law__1580 : decode cL_law_ 1580 = .ok (.iconst 0, 1) := by decide +kernel
theorem d_L_law__1582 : decode cL_law_ 1582 = .ok (.aload_n 1, 1) := by decide +kernel
theorem d_L_law__1583 : decode cL_law_ 1583 = .ok (.aload_n 0, 1) := by decide +kernel
theorem d_L_law__1584 : decode cL_law_ 1584 = .ok (.iload 4, 2) := by decide +kernel
theorem d_L_law__1586 : decode cL_law_ 1586 = .ok (.iconst 1, 1) := by decide +kernel
theorem d_L_law__1587 : decode cL_law_ 1587 = .ok (.iadd, 1) := by decide +kernel
theorem d_L_law__1588 : decode cL_law_ 1588 = .ok (.iaload, 1) := by decide +kernel
theorem d_L_law__1589 : decode cL_law_ 1589 = .ok (.aload_n 0, 1) := by decide +kernel
theorem d_L_law__1590 : decode cL_law_ 1590 = .ok (.iload 4, 2) := by decide +kernel
theorem d_L_law__1592 : decode cL_law_ 1592 = .ok (.iconst 2, 1) := by decide +kernel
theorem d_L_law__1593 : decode cL_law_ 1593 = .ok (.iadd, 1) := by decide +kernel
theorem d_L_law__1594 : decode cL_law_ 1594 = .ok (.iaload, 1) := by decide +kernel
theorem d_L_law__1595 : decode cL_law_ 1595 = .ok (.aload_n 3, 1) := by decide +kernel
theorem d_L_law__1596 : decode cL_law_ 1596 = .ok (.invokestatic 219, 3) := by decide +kernel
theorem d_L_law__1599 : decode cL_law_ 1599 = .ok (.istore 5, 2) := by decide +kernel
theorem d_L_law__1601 : decode cL_law_ 1601 = .ok (.aload_n 2, 1) := by decide +kernel
theorem d_L_law__1602 : decode cL_law_ 1602 = .ok (.aload_n 0, 1) := by decide +kernel
theorem d_L_law__1603 : decode cL_law_ 1603 = .ok (.iload 4, 2) := by decide +kernel
theorem d_L_law__1605 : decode cL_law_ 1605 = .ok (.iconst 1, 1) := by decide +kernel
theorem d_L_law__1606 : decode cL_law_ 1606 = .ok (.iadd, 1) := by decide +kernel
theorem d_L_law__1607 : decode cL_law_ 1607 = .ok (.iaload, 1) := by decide +kernel
theorem d_L_law__1608 : decode cL_law_ 1608 = .ok (.aload_n 0, 1) := by decide +kernel
theorem d_L_law__1609 : decode cL_law_ 1609 = .ok (.iload 4, 2) := by decide +kernel
theorem d_L_law__1611 : decode cL_law_ 1611 = .ok (.iconst 2, 1) := by decide +kernel
theorem d_L_law__1612 : decode cL_law_ 1612 = .ok (.iadd, 1) := by decide +kernel
theorem d_L_law__1613 : decode cL_law_ 1613 = .ok (.iaload, 1) := by decide +kernel
theorem d_L_law__1614 : decode cL_law_ 1614 = .ok (.invokevirtual 221, 3) := by decide +kernel
theorem d_L_law__1617 : decode cL_law_ 1617 = .ok (.istore 6, 2) := by decide +kernel
theorem d_L_law__1619 : decode cL_law_ 1619 = .ok (.aload_n 2, 1) := by decide +kernel
theorem d_L_law__1620 : decode cL_law_ 1620 = .ok (.invokevirtual 145, 3) := by decide +kernel
theorem d_L_law__1623 : decode cL_law_ 1623 = .ok (.iload 5, 2) := by decide +kernel
theorem d_L_law__1625 : decode cL_law_ 1625 = .ok (.if_icmp .eq 5, 3) := by decide +kernel
theorem d_L_law__1628 : decode cL_law_ 1628 = .ok (.iconst 0, 1) := by decide +kernel
theorem d_L_law__1630 : decode cL_law_ 1630 = .ok (.iload 5, 2) := by decide +kernel
theorem d_L_law__1632 : decode cL_law_ 1632 = .ok (.ifCond .ne 22, 3) := by decide +kernel
theorem d_L_law__1635 : decode cL_law_ 1635 = .ok (.aload_n 3, 1) := by decide +kernel
theorem d_L_law__1636 : decode cL_law_ 1636 = .ok (.iconst 0, 1) := by decide +kernel
theorem d_L_law__1637 : decode cL_law_ 1637 = .ok (.laload, 1) := by decide +kernel
theorem d_L_law__1638 : decode cL_law_ 1638 = .ok (.iload 6, 2) := by decide +kernel
theorem d_L_law__1640 : decode cL_law_ 1640 = .ok (.ifCond .eq 7, 3) := by decide +kernel
theorem d_L_law__1643 : decode cL_law_ 1643 = .ok (.lconst 1, 1) := by decide +kernel
theorem d_L_law__1644 : decode cL_law_ 1644 = .ok (.goto 4, 3) := by decide +kernel
theorem d_L_law__1647 : decode cL_law_ 1647 = .ok (.lconst 0, 1) := by decide +kernel
theorem d_L_law__1648 : decode cL_law_ 1648 = .ok (.lcmp, 1) := by decide +kernel
theorem d_L_law__1649 : decode cL_law_ 1649 = .ok (.ifCond .eq 5, 3) := by decide +kernel
theorem d_L_law__1652 : decode cL_law_ 1652 = .ok (.iconst 0, 1) := by decide +kernel
theorem d_L_law__1654 : decode cL_law_ 1654 = .ok (.goto 1054, 3) := by decide +kernel
theorem d_L_law__1657 : decode cL_law_ 1657 = .ok (.aload_n 1, 1) := by decide +kernel
theorem d_L_law__1658 : decode cL_law_ 1658 = .ok (.aload_n 0, 1) := by decide +kernel
theorem d_L_law__1659 : decode cL_law_ 1659 = .ok (.iload 4, 2) := by decide +kernel
theorem d_L_law__1661 : decode cL_law_ 1661 = .ok (.iconst 1, 1) := by decide +kernel
theorem d_L_law__1662 : decode cL_law_ 1662 = .ok (.iadd, 1) := by decide +kernel
theorem d_L_law__1663 : decode cL_law_ 1663 = .ok (.iaload, 1) := by decide +kernel
theorem d_L_law__1664 : decode cL_law_ 1664 = .ok (.aload_n 3, 1) := by decide +kernel
theorem d_L_law__1665 : decode cL_law_ 1665 = .ok (.invokestatic 222, 3) := by decide +kernel
theorem d_L_law__1668 : decode cL_law_ 1668 = .ok (.istore 5, 2) := by decide +kernel
theorem d_L_law__1670 : decode cL_law_ 1670 = .ok (.aload_n 2, 1) := by decide +kernel
theorem d_L_law__1671 : decode cL_law_ 1671 = .ok (.aload_n 0, 1) := by decide +kernel
theorem d_L_law__1672 : decode cL_law_ 1672 = .ok (.iload 4, 2) := by decide +kernel
theorem d_L_law__1674 : decode cL_law_ 1674 = .ok (.iconst 1, 1) := by decide +kernel
theorem d_L_law__1675 : decode cL_law_ 1675 = .ok (.iadd, 1) := by decide +kernel
theorem d_L_law__1676 : decode cL_law_ 1676 = .ok (.iaload, 1) := by decide +kernel
theorem d_L_law__1677 : decode cL_law_ 1677 = .ok (.invokevirtual 224, 3) := by decide +kernel
theorem d_L_law__1680 : decode cL_law_ 1680 = .ok (.istore 6, 2) := by decide +kernel
theorem d_L_law__1682 : decode cL_law_ 1682 = .ok (.aload_n 2, 1) := by decide +kernel
theorem d_L_law__1683 : decode cL_law_ 1683 = .ok (.invokevirtual 145, 3) := by decide +kernel
theorem d_L_law__1686 : decode cL_law_ 1686 = .ok (.iload 5, 2) := by decide +kernel
theorem d_L_law__1688 : decode cL_law_ 1688 = .ok (.if_icmp .eq 5, 3) := by decide +kernel
theorem d_L_law__1691 : decode cL_law_ 1691 = .ok (.iconst 0, 1) := by decide +kernel
theorem d_L_law__1693 : decode cL_law_ 1693 = .ok (.iload 5, 2) := by decide +kernel
theorem d_L_law__1695 : decode cL_law_ 1695 = .ok (.ifCond .ne 15, 3) := by decide +kernel
theorem d_L_law__1698 : decode cL_law_ 1698 = .ok (.aload_n 3, 1) := by decide +kernel
theorem d_L_law__1699 : decode cL_law_ 1699 = .ok (.iconst 0, 1) := by decide +kernel
theorem d_L_law__1700 : decode cL_law_ 1700 = .ok (.laload, 1) := by decide +kernel
theorem d_L_law__1701 : decode cL_law_ 1701 = .ok (.iload 6, 2) := by decide +kernel
theorem d_L_law__1703 : decode cL_law_ 1703 = .ok (.i2l, 1) := by decide +kernel
theorem d_L_law__1704 : decode cL_law_ 1704 = .ok (.lcmp, 1) := by decide +kernel
theorem d_L_law__1705 : decode cL_law_ 1705 = .ok (.ifCond .eq 5, 3) := by decide +kernel
theorem d_L_law__1708 : decode cL_law_ 1708 = .ok (.iconst 0, 1) := by decide +kernel
theorem d_L_law__1710 : decode cL_law_ 1710 = .ok (.goto 998, 3) := by decide +kernel
theorem d_L_law__1713 : decode cL_law_ 1713 = .ok (.aload_n 1, 1) := by decide +kernel
theorem d_L_law__1714 : decode cL_law_ 1714 = .ok (.aload_n 0, 1) := by decide +kernel
theorem d_L_law__1715 : decode cL_law_ 1715 = .ok (.iload 4, 2) := by decide +kernel
theorem d_L_law__1717 : decode cL_law_ 1717 = .ok (.iconst 1, 1) := by decide +kernel
theorem d_L_law__1718 : decode cL_law_ 1718 = .ok (.iadd, 1) := by decide +kernel
theorem d_L_law__1719 : decode cL_law_ 1719 = .ok (.iaload, 1) := by decide +kernel
theorem d_L_law__1720 : decode cL_law_ 1720 = .ok (.aload_n 0, 1) := by decide +kernel
theorem d_L_law__1721 : decode cL_law_ 1721 = .ok (.iload 4, 2) := by decide +kernel
theorem d_L_law__1723 : decode cL_law_ 1723 = .ok (.iconst 2, 1) := by decide +kernel
theorem d_L_law__1724 : decode cL_law_ 1724 = .ok (.iadd, 1) := by decide +kernel
theorem d_L_law__1725 : decode cL_law_ 1725 = .ok (.iaload, 1) := by decide +kernel
theorem d_L_law__1726 : decode cL_law_ 1726 = .ok (.ifCond .eq 7, 3) := by decide +kernel
theorem d_L_law__1729 : decode cL_law_ 1729 = .ok (.iconst 1, 1) := by decide +kernel
theorem d_L_law__1730 : decode cL_law_ 1730 = .ok (.goto 4, 3) := by decide +kernel
theorem d_L_law__1733 : decode cL_law_ 1733 = .ok (.iconst 0, 1) := by decide +kernel
theorem d_L_law__1734 : decode cL_law_ 1734 = .ok (.aload_n 3, 1) := by decide +kernel
theorem d_L_law__1735 : decode cL_law_ 1735 = .ok (.invokestatic 225, 3) := by decide +kernel
theorem d_L_law__1738 : decode cL_law_ 1738 = .ok (.istore 5, 2) := by decide +kernel
theorem d_L_law__1740 : decode cL_law_ 1740 = .ok (.aload_n 2, 1) := by decide +kernel
theorem d_L_law__1741 : decode cL_law_ 1741 = .ok (.aload_n 0, 1) := by decide +kernel
theorem d_L_law__1742 : decode cL_law_ 1742 = .ok (.iload 4, 2) := by decide +kernel
theorem d_L_law__1744 : decode cL_law_ 1744 = .ok (.iconst 1, 1) := by decide +kernel
theorem d_L_law__1745 : decode cL_law_ 1745 = .ok (.iadd, 1) := by decide +kernel
theorem d_L_law__1746 : decode cL_law_ 1746 = .ok (.iaload, 1) := by decide +kernel
theorem d_L_law__1747 : decode cL_law_ 1747 = .ok (.aload_n 0, 1) := by decide +kernel
theorem d_L_law__1748 : decode cL_law_ 1748 = .ok (.iload 4, 2) := by decide +kernel
theorem d_L_law__1750 : decode cL_law_ 1750 = .ok (.iconst 2, 1) := by decide +kernel
theorem d_L_law__1751 : decode cL_law_ 1751 = .ok (.iadd, 1) := by decide +kernel
theorem d_L_law__1752 : decode cL_law_ 1752 = .ok (.iaload, 1) := by decide +kernel
theorem d_L_law__1753 : decode cL_law_ 1753 = .ok (.ifCond .eq 7, 3) := by decide +kernel
theorem d_L_law__1756 : decode cL_law_ 1756 = .ok (.iconst 1, 1) := by decide +kernel
theorem d_L_law__1757 : decode cL_law_ 1757 = .ok (.goto 4, 3) := by decide +kernel
theorem d_L_law__1760 : decode cL_law_ 1760 = .ok (.iconst 0, 1) := by decide +kernel
theorem d_L_law__1761 : decode cL_law_ 1761 = .ok (.invokevirtual 228, 3) := by decide +kernel
theorem d_L_law__1764 : decode cL_law_ 1764 = .ok (.istore 6, 2) := by decide +kernel
theorem d_L_law__1766 : decode cL_law_ 1766 = .ok (.aload_n 2, 1) := by decide +kernel
theorem d_L_law__1767 : decode cL_law_ 1767 = .ok (.invokevirtual 145, 3) := by decide +kernel
theorem d_L_law__1770 : decode cL_law_ 1770 = .ok (.iload 5, 2) := by decide +kernel
theorem d_L_law__1772 : decode cL_law_ 1772 = .ok (.if_icmp .eq 5, 3) := by decide +kernel
theorem d_L_law__1775 : decode cL_law_ 1775 = .ok (.iconst 0, 1) := by decide +kernel
theorem d_L_law__1777 : decode cL_law_ 1777 = .ok (.iload 5, 2) := by decide +kernel
theorem d_L_law__1779 : decode cL_law_ 1779 = .ok (.ifCond .ne 15, 3) := by decide +kernel
theorem d_L_law__1782 : decode cL_law_ 1782 = .ok (.aload_n 3, 1) := by decide +kernel
theorem d_L_law__1783 : decode cL_law_ 1783 = .ok (.iconst 0, 1) := by decide +kernel
theorem d_L_law__1784 : decode cL_law_ 1784 = .ok (.laload, 1) := by decide +kernel
theorem d_L_law__1785 : decode cL_law_ 1785 = .ok (.iload 6, 2) := by decide +kernel
theorem d_L_law__1787 : decode cL_law_ 1787 = .ok (.i2l, 1) := by decide +kernel
theorem d_L_law__1788 : decode cL_law_ 1788 = .ok (.lcmp, 1) := by decide +kernel
theorem d_L_law__1789 : decode cL_law_ 1789 = .ok (.ifCond .eq 5, 3) := by decide +kernel
theorem d_L_law__1792 : decode cL_law_ 1792 = .ok (.iconst 0, 1) := by decide +kernel
theorem d_L_law__1794 : decode cL_law_ 1794 = .ok (.goto 914, 3) := by decide +kernel
theorem d_L_law__1797 : decode cL_law_ 1797 = .ok (.aload_n 1, 1) := by decide +kernel
theorem d_L_law__1798 : decode cL_law_ 1798 = .ok (.aload_n 0, 1) := by decide +kernel
theorem d_L_law__1799 : decode cL_law_ 1799 = .ok (.iload 4, 2) := by decide +kernel
theorem d_L_law__1801 : decode cL_law_ 1801 = .ok (.iconst 1, 1) := by decide +kernel
theorem d_L_law__1802 : decode cL_law_ 1802 = .ok (.iadd, 1) := by decide +kernel
theorem d_L_law__1803 : decode cL_law_ 1803 = .ok (.iaload, 1) := by decide +kernel
theorem d_L_law__1804 : decode cL_law_ 1804 = .ok (.aload_n 3, 1) := by decide +kernel
theorem d_L_law__1805 : decode cL_law_ 1805 = .ok (.invokestatic 229, 3) := by decide +kernel
theorem d_L_law__1808 : decode cL_law_ 1808 = .ok (.istore 5, 2) := by decide +kernel
theorem d_L_law__1810 : decode cL_law_ 1810 = .ok (.aload_n 2, 1) := by decide +kernel
theorem d_L_law__1811 : decode cL_law_ 1811 = .ok (.aload_n 0, 1) := by decide +kernel
theorem d_L_law__1812 : decode cL_law_ 1812 = .ok (.iload 4, 2) := by decide +kernel
theorem d_L_law__1814 : decode cL_law_ 1814 = .ok (.iconst 1, 1) := by decide +kernel
theorem d_L_law__1815 : decode cL_law_ 1815 = .ok (.iadd, 1) := by decide +kernel
theorem d_L_law__1816 : decode cL_law_ 1816 = .ok (.iaload, 1) := by decide +kernel
theorem d_L_law__1817 : decode cL_law_ 1817 = .ok (.invokevirtual 231, 3) := by decide +kernel
theorem d_L_law__1820 : decode cL_law_ 1820 = .ok (.istore 6, 2) := by decide +kernel
theorem d_L_law__1822 : decode cL_law_ 1822 = .ok (.aload_n 2, 1) := by decide +kernel
theorem d_L_law__1823 : decode cL_law_ 1823 = .ok (.invokevirtual 145, 3) := by decide +kernel
theorem d_L_law__1826 : decode cL_law_ 1826 = .ok (.iload 5, 2) := by decide +kernel
theorem d_L_law__1828 : decode cL_law_ 1828 = .ok (.if_icmp .eq 5, 3) := by decide +kernel
theorem d_L_law__1831 : decode cL_law_ 1831 = .ok (.iconst 0, 1) := by decide +kernel
theorem d_L_law__1833 : decode cL_law_ 1833 = .ok (.iload 5, 2) := by decide +kernel
theorem d_L_law__1835 : decode cL_law_ 1835 = .ok (.ifCond .ne 15, 3) := by decide +kernel
theorem d_L_law__1838 : decode cL_law_ 1838 = .ok (.aload_n 3, 1) := by decide +kernel
theorem d_L_law__1839 : decode cL_law_ 1839 = .ok (.iconst 0, 1) := by decide +kernel
theorem d_L_law__1840 : decode cL_law_ 1840 = .ok (.laload, 1) := by decide +kernel
theorem d_L_law__1841 : decode cL_law_ 1841 = .ok (.iload 6, 2) := by decide +kernel
theorem d_L_law__1843 : decode cL_law_ 1843 = .ok (.i2l, 1) := by decide +kernel
theorem d_L_law__1844 : decode cL_law_ 1844 = .ok (.lcmp, 1) := by decide +kernel
theorem d_L_law__1845 : decode cL_law_ 1845 = .ok (.ifCond .eq 5, 3) := by decide +kernel
theorem d_L_law__1848 : decode cL_law_ 1848 = .ok (.iconst 0, 1) := by decide +kernel
theorem d_L_law__1850 : decode cL_law_ 1850 = .ok (.goto 858, 3) := by decide +kernel
theorem d_L_law__1853 : decode cL_law_ 1853 = .ok (.aload_n 1, 1) := by decide +kernel
theorem d_L_law__1854 : decode cL_law_ 1854 = .ok (.aload_n 0, 1) := by decide +kernel
theorem d_L_law__1855 : decode cL_law_ 1855 = .ok (.iload 4, 2) := by decide +kernel
theorem d_L_law__1857 : decode cL_law_ 1857 = .ok (.iconst 1, 1) := by decide +kernel
theorem d_L_law__1858 : decode cL_law_ 1858 = .ok (.iadd, 1) := by decide +kernel
theorem d_L_law__1859 : decode cL_law_ 1859 = .ok (.iaload, 1) := by decide +kernel
theorem d_L_law__1860 : decode cL_law_ 1860 = .ok (.aload_n 3, 1) := by decide +kernel
theorem d_L_law__1861 : decode cL_law_ 1861 = .ok (.invokestatic 232, 3) := by decide +kernel
theorem d_L_law__1864 : decode cL_law_ 1864 = .ok (.istore 5, 2) := by decide +kernel
theorem d_L_law__1866 : decode cL_law_ 1866 = .ok (.aload_n 2, 1) := by decide +kernel
theorem d_L_law__1867 : decode cL_law_ 1867 = .ok (.aload_n 0, 1) := by decide +kernel
theorem d_L_law__1868 : decode cL_law_ 1868 = .ok (.iload 4, 2) := by decide +kernel
theorem d_L_law__1870 : decode cL_law_ 1870 = .ok (.iconst 1, 1) := by decide +kernel
theorem d_L_law__1871 : decode cL_law_ 1871 = .ok (.iadd, 1) := by decide +kernel
theorem d_L_law__1872 : decode cL_law_ 1872 = .ok (.iaload, 1) := by decide +kernel
theorem d_L_law__1873 : decode cL_law_ 1873 = .ok (.invokevirtual 234, 3) := by decide +kernel
theorem d_L_law__1876 : decode cL_law_ 1876 = .ok (.istore 6, 2) := by decide +kernel
theorem d_L_law__1878 : decode cL_law_ 1878 = .ok (.aload_n 2, 1) := by decide +kernel
theorem d_L_law__1879 : decode cL_law_ 1879 = .ok (.invokevirtual 145, 3) := by decide +kernel
theorem d_L_law__1882 : decode cL_law_ 1882 = .ok (.iload 5, 2) := by decide +kernel
theorem d_L_law__1884 : decode cL_law_ 1884 = .ok (.if_icmp .eq 5, 3) := by decide +kernel
theorem d_L_law__1887 : decode cL_law_ 1887 = .ok (.iconst 0, 1) := by decide +kernel
theorem d_L_law__1889 : decode cL_law_ 1889 = .ok (.iload 5, 2) := by decide +kernel
theorem d_L_law__1891 : decode cL_law_ 1891 = .ok (.ifCond .ne 15, 3) := by decide +kernel
theorem d_L_law__1894 : decode cL_law_ 1894 = .ok (.aload_n 3, 1) := by decide +kernel
theorem d_L_law__1895 : decode cL_law_ 1895 = .ok (.iconst 0, 1) := by decide +kernel
theorem d_L_law__1896 : decode cL_law_ 1896 = .ok (.laload, 1) := by decide +kernel
theorem d_L_law__1897 : decode cL_law_ 1897 = .ok (.iload 6, 2) := by decide +kernel
theorem d_L_law__1899 : decode cL_law_ 1899 = .ok (.i2l, 1) := by decide +kernel
theorem d_L_law__1900 : decode cL_law_ 1900 = .ok (.lcmp, 1) := by decide +kernel
theorem d_L_law__1901 : decode cL_law_ 1901 = .ok (.ifCond .eq 5, 3) := by decide +kernel
theorem d_L_law__1904 : decode cL_law_ 1904 = .ok (.iconst 0, 1) := by decide +kernel
theorem d_L_law__1906 : decode cL_law_ 1906 = .ok (.goto 802, 3) := by decide +kernel
theorem d_L_law__1909 : decode cL_law_ 1909 = .ok (.aload_n 1, 1) := by decide +kernel
theorem d_L_law__1910 : decode cL_law_ 1910 = .ok (.aload_n 0, 1) := by decide +kernel
theorem d_L_law__1911 : decode cL_law_ 1911 = .ok (.iload 4, 2) := by decide +kernel
theorem d_L_law__1913 : decode cL_law_ 1913 = .ok (.iconst 1, 1) := by decide +kernel
theorem d_L_law__1914 : decode cL_law_ 1914 = .ok (.iadd, 1) := by decide +kernel
theorem d_L_law__1915 : decode cL_law_ 1915 = .ok (.iaload, 1) := by decide +kernel
theorem d_L_law__1916 : decode cL_law_ 1916 = .ok (.aload_n 3, 1) := by decide +kernel
theorem d_L_law__1917 : decode cL_law_ 1917 = .ok (.invokestatic 235, 3) := by decide +kernel
theorem d_L_law__1920 : decode cL_law_ 1920 = .ok (.istore 5, 2) := by decide +kernel
theorem d_L_law__1922 : decode cL_law_ 1922 = .ok (.aload_n 2, 1) := by decide +kernel
theorem d_L_law__1923 : decode cL_law_ 1923 = .ok (.aload_n 0, 1) := by decide +kernel
theorem d_L_law__1924 : decode cL_law_ 1924 = .ok (.iload 4, 2) := by decide +kernel
theorem d_L_law__1926 : decode cL_law_ 1926 = .ok (.iconst 1, 1) := by decide +kernel
theorem d_L_law__1927 : decode cL_law_ 1927 = .ok (.iadd, 1) := by decide +kernel
theorem d_L_law__1928 : decode cL_law_ 1928 = .ok (.iaload, 1) := by decide +kernel
theorem d_L_law__1929 : decode cL_law_ 1929 = .ok (.invokevirtual 237, 3) := by decide +kernel
theorem d_L_law__1932 : decode cL_law_ 1932 = .ok (.istore 6, 2) := by decide +kernel
theorem d_L_law__1934 : decode cL_law_ 1934 = .ok (.aload_n 2, 1) := by decide +kernel
theorem d_L_law__1935 : decode cL_law_ 1935 = .ok (.invokevirtual 145, 3) := by decide +kernel
theorem d_L_law__1938 : decode cL_law_ 1938 = .ok (.iload 5, 2) := by decide +kernel
theorem d_L_law__1940 : decode cL_law_ 1940 = .ok (.if_icmp .eq 5, 3) := by decide +kernel
theorem d_L_law__1943 : decode cL_law_ 1943 = .ok (.iconst 0, 1) := by decide +kernel
theorem d_L_law__1945 : decode cL_law_ 1945 = .ok (.iload 5, 2) := by decide +kernel
theorem d_L_law__1947 : decode cL_law_ 1947 = .ok (.ifCond .ne 15, 3) := by decide +kernel
theorem d_L_law__1950 : decode cL_law_ 1950 = .ok (.aload_n 3, 1) := by decide +kernel
theorem d_L_law__1951 : decode cL_law_ 1951 = .ok (.iconst 0, 1) := by decide +kernel
theorem d_L_law__1952 : decode cL_law_ 1952 = .ok (.laload, 1) := by decide +kernel
theorem d_L_law__1953 : decode cL_law_ 1953 = .ok (.iload 6, 2) := by decide +kernel
theorem d_L_law__1955 : decode cL_law_ 1955 = .ok (.i2l, 1) := by decide +kernel
theorem d_L_law__1956 : decode cL_law_ 1956 = .ok (.lcmp, 1) := by decide +kernel
theorem d_L_law__1957 : decode cL_law_ 1957 = .ok (.ifCond .eq 5, 3) := by decide +kernel
theorem d_L_law__1960 : decode cL_law_ 1960 = .ok (.iconst 0, 1) := by decide +kernel
theorem d_L_law__1962 : decode cL_law_ 1962 = .ok (.goto 746, 3) := by decide +kernel
theorem d_L_law__1965 : decode cL_law_ 1965 = .ok (.aload_n 1, 1) := by decide +kernel
theorem d_L_law__1966 : decode cL_law_ 1966 = .ok (.invokevirtual 238, 3) := by decide +kernel
theorem d_L_law__1969 : decode cL_law_ 1969 = .ok (.aload_n 2, 1) := by decide +kernel
theorem d_L_law__1970 : decode cL_law_ 1970 = .ok (.invokevirtual 241, 3) := by decide +kernel
theorem d_L_law__1973 : decode cL_law_ 1973 = .ok (.if_icmp .eq 735, 3) := by decide +kernel
theorem d_L_law__1976 : decode cL_law_ 1976 = .ok (.iconst 0, 1) := by decide +kernel
theorem d_L_law__1978 : decode cL_law_ 1978 = .ok (.aload_n 1, 1) := by decide +kernel
theorem d_L_law__1979 : decode cL_law_ 1979 = .ok (.invokevirtual 242, 3) := by decide +kernel
theorem d_L_law__1982 : decode cL_law_ 1982 = .ok (.aload_n 2, 1) := by decide +kernel
theorem d_L_law__1983 : decode cL_law_ 1983 = .ok (.invokevirtual 245, 3) := by decide +kernel
theorem d_L_law__1986 : decode cL_law_ 1986 = .ok (.if_icmp .eq 722, 3) := by decide +kernel
theorem d_L_law__1989 : decode cL_law_ 1989 = .ok (.iconst 0, 1) := by decide +kernel
theorem d_L_law__1991 : decode cL_law_ 1991 = .ok (.aload_n 1, 1) := by decide +kernel
theorem d_L_law__1992 : decode cL_law_ 1992 = .ok (.aload_n 0, 1) := by decide +kernel
theorem d_L_law__1993 : decode cL_law_ 1993 = .ok (.iload 4, 2) := by decide +kernel
theorem d_L_law__1995 : decode cL_law_ 1995 = .ok (.iconst 1, 1) := by decide +kernel
theorem d_L_law__1996 : decode cL_law_ 1996 = .ok (.iadd, 1) := by decide +kernel
theorem d_L_law__1997 : decode cL_law_ 1997 = .ok (.iaload, 1) := by decide +kernel
theorem d_L_law__1998 : decode cL_law_ 1998 = .ok (.ifCond .eq 7, 3) := by decide +kernel
theorem d_L_law__2001 : decode cL_law_ 2001 = .ok (.iconst 1, 1) := by decide +kernel
theorem d_L_law__2002 : decode cL_law_ 2002 = .ok (.goto 4, 3) := by decide +kernel
theorem d_L_law__2005 : decode cL_law_ 2005 = .ok (.iconst 0, 1) := by decide +kernel
theorem d_L_law__2006 : decode cL_law_ 2006 = .ok (.aload_n 3, 1) := by decide +kernel
theorem d_L_law__2007 : decode cL_law_ 2007 = .ok (.invokestatic 246, 3) := by decide +kernel
theorem d_L_law__2010 : decode cL_law_ 2010 = .ok (.istore 5, 2) := by decide +kernel
theorem d_L_law__2012 : decode cL_law_ 2012 = .ok (.aload_n 2, 1) := by decide +kernel
theorem d_L_law__2013 : decode cL_law_ 2013 = .ok (.aload_n 0, 1) := by decide +kernel
theorem d_L_law__2014 : decode cL_law_ 2014 = .ok (.iload 4, 2) := by decide +kernel
theorem d_L_law__2016 : decode cL_law_ 2016 = .ok (.iconst 1, 1) := by decide +kernel
theorem d_L_law__2017 : decode cL_law_ 2017 = .ok (.iadd, 1) := by decide +kernel
theorem d_L_law__2018 : decode cL_law_ 2018 = .ok (.iaload, 1) := by decide +kernel
theorem d_L_law__2019 : decode cL_law_ 2019 = .ok (.ifCond .eq 7, 3) := by decide +kernel
theorem d_L_law__2022 : decode cL_law_ 2022 = .ok (.iconst 1, 1) := by decide +kernel
theorem d_L_law__2023 : decode cL_law_ 2023 = .ok (.goto 4, 3) := by decide +kernel
theorem d_L_law__2026 : decode cL_law_ 2026 = .ok (.iconst 0, 1) := by decide +kernel
theorem d_L_law__2027 : decode cL_law_ 2027 = .ok (.invokevirtual 249, 3) := by decide +kernel
theorem d_L_law__2030 : decode cL_law_ 2030 = .ok (.istore 6, 2) := by decide +kernel
theorem d_L_law__2032 : decode cL_law_ 2032 = .ok (.aload_n 2, 1) := by decide +kernel
theorem d_L_law__2033 : decode cL_law_ 2033 = .ok (.invokevirtual 145, 3) := by decide +kernel
theorem d_L_law__2036 : decode cL_law_ 2036 = .ok (.iload 5, 2) := by decide +kernel
theorem d_L_law__2038 : decode cL_law_ 2038 = .ok (.if_icmp .eq 5, 3) := by decide +kernel
theorem d_L_law__2041 : decode cL_law_ 2041 = .ok (.iconst 0, 1) := by decide +kernel
theorem d_L_law__2043 : decode cL_law_ 2043 = .ok (.iload 5, 2) := by decide +kernel
theorem d_L_law__2045 : decode cL_law_ 2045 = .ok (.ifCond .ne 15, 3) := by decide +kernel
theorem d_L_law__2048 : decode cL_law_ 2048 = .ok (.aload_n 3, 1) := by decide +kernel
theorem d_L_law__2049 : decode cL_law_ 2049 = .ok (.iconst 0, 1) := by decide +kernel
theorem d_L_law__2050 : decode cL_law_ 2050 = .ok (.laload, 1) := by decide +kernel
theorem d_L_law__2051 : decode cL_law_ 2051 = .ok (.iload 6, 2) := by decide +kernel
theorem d_L_law__2053 : decode cL_law_ 2053 = .ok (.i2l, 1) := by decide +kernel
theorem d_L_law__2054 : decode cL_law_ 2054 = .ok (.lcmp, 1) := by decide +kernel
theorem d_L_law__2055 : decode cL_law_ 2055 = .ok (.ifCond .eq 5, 3) := by decide +kernel
theorem d_L_law__2058 : decode cL_law_ 2058 = .ok (.iconst 0, 1) := by decide +kernel
theorem d_L_law__2060 : decode cL_law_ 2060 = .ok (.goto 648, 3) := by decide +kernel
theorem d_L_law__2063 : decode cL_law_ 2063 = .ok (.aload_n 1, 1) := by decide +kernel
theorem d_L_law__2064 : decode cL_law_ 2064 = .ok (.aload_n 3, 1) := by decide +kernel
theorem d_L_law__2065 : decode cL_law_ 2065 = .ok (.invokestatic 250, 3) := by decide +kernel
theorem d_L_law__2068 : decode cL_law_ 2068 = .ok (.istore 5, 2) := by decide +kernel
theorem d_L_law__2070 : decode cL_law_ 2070 = .ok (.aload_n 2, 1) := by decide +kernel
theorem d_L_law__2071 : decode cL_law_ 2071 = .ok (.invokevirtual 252, 3) := by decide +kernel
theorem d_L_law__2074 : decode cL_law_ 2074 = .ok (.istore 6, 2) := by decide +kernel
theorem d_L_law__2076 : decode cL_law_ 2076 = .ok (.aload_n 2, 1) := by decide +kernel
theorem d_L_law__2077 : decode cL_law_ 2077 = .ok (.invokevirtual 145, 3) := by decide +kernel
theorem d_L_law__2080 : decode cL_law_ 2080 = .ok (.iload 5, 2) := by decide +kernel
theorem d_L_law__2082 : decode cL_law_ 2082 = .ok (.if_icmp .eq 5, 3) := by decide +kernel
theorem d_L_law__2085 : decode cL_law_ 2085 = .ok (.iconst 0, 1) := by decide +kernel
theorem d_L_law__2087 : decode cL_law_ 2087 = .ok (.iload 5, 2) := by decide +kernel
theorem d_L_law__2089 : decode cL_law_ 2089 = .ok (.ifCond .ne 15, 3) := by decide +kernel
theorem d_L_law__2092 : decode cL_law_ 2092 = .ok (.aload_n 3, 1) := by decide +kernel
theorem d_L_law__2093 : decode cL_law_ 2093 = .ok (.iconst 0, 1) := by decide +kernel
theorem d_L_law__2094 : decode cL_law_ 2094 = .ok (.laload, 1) := by decide +kernel
theorem d_L_law__2095 : decode cL_law_ 2095 = .ok (.iload 6, 2) := by decide +kernel
theorem d_L_law__2097 : decode cL_law_ 2097 = .ok (.i2l, 1) := by decide +kernel
theorem d_L_law__2098 : decode cL_law_ 2098 = .ok (.lcmp, 1) := by decide +kernel
theorem d_L_law__2099 : decode cL_law_ 2099 = .ok (.ifCond .eq 5, 3) := by decide +kernel
theorem d_L_law__2102 : decode cL_law_ 2102 = .ok (.iconst 0, 1) := by decide +kernel
theorem d_L_law__2104 : decode cL_law_ 2104 = .ok (.goto 604, 3) := by decide +kernel
theorem d_L_law__2107 : decode cL_law_ 2107 = .ok (.aload_n 1, 1) := by decide +kernel
theorem d_L_law__2108 : decode cL_law_ 2108 = .ok (.aload_n 0, 1) := by decide +kernel
theorem d_L_law__2109 : decode cL_law_ 2109 = .ok (.iload 4, 2) := by decide +kernel
theorem d_L_law__2111 : decode cL_law_ 2111 = .ok (.iconst 1, 1) := by decide +kernel
theorem d_L_law__2112 : decode cL_law_ 2112 = .ok (.iadd, 1) := by decide +kernel
theorem d_L_law__2113 : decode cL_law_ 2113 = .ok (.iaload, 1) := by decide +kernel
theorem d_L_law__2114 : decode cL_law_ 2114 = .ok (.aload_n 3, 1) := by decide +kernel
theorem d_L_law__2115 : decode cL_law_ 2115 = .ok (.invokestatic 253, 3) := by decide +kernel
theorem d_L_law__2118 : decode cL_law_ 2118 = .ok (.istore 5, 2) := by decide +kernel
theorem d_L_law__2120 : decode cL_law_ 2120 = .ok (.aload_n 2, 1) := by decide +kernel
theorem d_L_law__2121 : decode cL_law_ 2121 = .ok (.aload_n 0, 1) := by decide +kernel
theorem d_L_law__2122 : decode cL_law_ 2122 = .ok (.iload 4, 2) := by decide +kernel
theorem d_L_law__2124 : decode cL_law_ 2124 = .ok (.iconst 1, 1) := by decide +kernel
theorem d_L_law__2125 : decode cL_law_ 2125 = .ok (.iadd, 1) := by decide +kernel
theorem d_L_law__2126 : decode cL_law_ 2126 = .ok (.iaload, 1) := by decide +kernel
theorem d_L_law__2127 : decode cL_law_ 2127 = .ok (.invokevirtual 255, 3) := by decide +kernel
theorem d_L_law__2130 : decode cL_law_ 2130 = .ok (.istore 6, 2) := by decide +kernel
theorem d_L_law__2132 : decode cL_law_ 2132 = .ok (.aload_n 2, 1) := by decide +kernel
theorem d_L_law__2133 : decode cL_law_ 2133 = .ok (.invokevirtual 145, 3) := by decide +kernel
theorem d_L_law__2136 : decode cL_law_ 2136 = .ok (.iload 5, 2) := by decide +kernel
theorem d_L_law__2138 : decode cL_law_ 2138 = .ok (.if_icmp .eq 5, 3) := by decide +kernel
theorem d_L_law__2141 : decode cL_law_ 2141 = .ok (.iconst 0, 1) := by decide +kernel
theorem d_L_law__2143 : decode cL_law_ 2143 = .ok (.iload 5, 2) := by decide +kernel
theorem d_L_law__2145 : decode cL_law_ 2145 = .ok (.ifCond .ne 15, 3) := by decide +kernel
theorem d_L_law__2148 : decode cL_law_ 2148 = .ok (.aload_n 3, 1) := by decide +kernel
theorem d_L_law__2149 : decode cL_law_ 2149 = .ok (.iconst 0, 1) := by decide +kernel
theorem d_L_law__2150 : decode cL_law_ 2150 = .ok (.laload, 1) := by decide +kernel
theorem d_L_law__2151 : decode cL_law_ 2151 = .ok (.iload 6, 2) := by decide +kernel
theorem d_L_law__2153 : decode cL_law_ 2153 = .ok (.i2l, 1) := by decide +kernel
theorem d_L_law__2154 : decode cL_law_ 2154 = .ok (.lcmp, 1) := by decide +kernel
theorem d_L_law__2155 : decode cL_law_ 2155 = .ok (.ifCond .eq 5, 3) := by decide +kernel
theorem d_L_law__2158 : decode cL_law_ 2158 = .ok (.iconst 0, 1) := by decide +kernel
theorem d_L_law__2160 : decode cL_law_ 2160 = .ok (.goto 548, 3) := by decide +kernel
theorem d_L_law__2163 : decode cL_law_ 2163 = .ok (.aload_n 1, 1) := by decide +kernel
theorem d_L_law__2164 : decode cL_law_ 2164 = .ok (.invokevirtual 256, 3) := by decide +kernel
theorem d_L_law__2167 : decode cL_law_ 2167 = .ok (.aload_n 2, 1) := by decide +kernel
theorem d_L_law__2168 : decode cL_law_ 2168 = .ok (.invokevirtual 259, 3) := by decide +kernel
theorem d_L_law__2171 : decode cL_law_ 2171 = .ok (.if_icmp .eq 537, 3) := by decide +kernel
theorem d_L_law__2174 : decode cL_law_ 2174 = .ok (.iconst 0, 1) := by decide +kernel
theorem d_L_law__2176 : decode cL_law_ 2176 = .ok (.aload_n 1, 1) := by decide +kernel
theorem d_L_law__2177 : decode cL_law_ 2177 = .ok (.aload_n 0, 1) := by decide +kernel
theorem d_L_law__2178 : decode cL_law_ 2178 = .ok (.iload 4, 2) := by decide +kernel
theorem d_L_law__2180 : decode cL_law_ 2180 = .ok (.iconst 1, 1) := by decide +kernel
theorem d_L_law__2181 : decode cL_law_ 2181 = .ok (.iadd, 1) := by decide +kernel
theorem d_L_law__2182 : decode cL_law_ 2182 = .ok (.iaload, 1) := by decide +kernel
theorem d_L_law__2183 : decode cL_law_ 2183 = .ok (.aload_n 3, 1) := by decide +kernel
theorem d_L_law__2184 : decode cL_law_ 2184 = .ok (.invokestatic 260, 3) := by decide +kernel
theorem d_L_law__2187 : decode cL_law_ 2187 = .ok (.istore 5, 2) := by decide +kernel
theorem d_L_law__2189 : decode cL_law_ 2189 = .ok (.aload_n 2, 1) := by decide +kernel
theorem d_L_law__2190 : decode cL_law_ 2190 = .ok (.aload_n 0, 1) := by decide +kernel
theorem d_L_law__2191 : decode cL_law_ 2191 = .ok (.iload 4, 2) := by decide +kernel
theorem d_L_law__2193 : decode cL_law_ 2193 = .ok (.iconst 1, 1) := by decide +kernel
theorem d_L_law__2194 : decode cL_law_ 2194 = .ok (.iadd, 1) := by decide +kernel
theorem d_L_law__2195 : decode cL_law_ 2195 = .ok (.iaload, 1) := by decide +kernel
theorem d_L_law__2196 : decode cL_law_ 2196 = .ok (.invokevirtual 262, 3) := by decide +kernel
theorem d_L_law__2199 : decode cL_law_ 2199 = .ok (.istore 6, 2) := by decide +kernel
theorem d_L_law__2201 : decode cL_law_ 2201 = .ok (.aload_n 2, 1) := by decide +kernel
theorem d_L_law__2202 : decode cL_law_ 2202 = .ok (.invokevirtual 145, 3) := by decide +kernel
theorem d_L_law__2205 : decode cL_law_ 2205 = .ok (.iload 5, 2) := by decide +kernel
theorem d_L_law__2207 : decode cL_law_ 2207 = .ok (.if_icmp .eq 5, 3) := by decide +kernel
theorem d_L_law__2210 : decode cL_law_ 2210 = .ok (.iconst 0, 1) := by decide +kernel
theorem d_L_law__2212 : decode cL_law_ 2212 = .ok (.iload 5, 2) := by decide +kernel
theorem d_L_law__2214 : decode cL_law_ 2214 = .ok (.ifCond .ne 15, 3) := by decide +kernel
theorem d_L_law__2217 : decode cL_law_ 2217 = .ok (.aload_n 3, 1) := by decide +kernel
theorem d_L_law__2218 : decode cL_law_ 2218 = .ok (.iconst 0, 1) := by decide +kernel
theorem d_L_law__2219 : decode cL_law_ 2219 = .ok (.laload, 1) := by decide +kernel
theorem d_L_law__2220 : decode cL_law_ 2220 = .ok (.iload 6, 2) := by decide +kernel
theorem d_L_law__2222 : decode cL_law_ 2222 = .ok (.i2l, 1) := by decide +kernel
theorem d_L_law__2223 : decode cL_law_ 2223 = .ok (.lcmp, 1) := by decide +kernel
theorem d_L_law__2224 : decode cL_law_ 2224 = .ok (.ifCond .eq 5, 3) := by decide +kernel
theorem d_L_law__2227 : decode cL_law_ 2227 = .ok (.iconst 0, 1) := by decide +kernel
theorem d_L_law__2229 : decode cL_law_ 2229 = .ok (.goto 479, 3) := by decide +kernel
theorem d_L_law__2232 : decode cL_law_ 2232 = .ok (.aload_n 1, 1) := by decide +kernel
theorem d_L_law__2233 : decode cL_law_ 2233 = .ok (.aload_n 0, 1) := by decide +kernel
theorem d_L_law__2234 : decode cL_law_ 2234 = .ok (.iload 4, 2) := by decide +kernel
theorem d_L_law__2236 : decode cL_law_ 2236 = .ok (.iconst 1, 1) := by decide +kernel
theorem d_L_law__2237 : decode cL_law_ 2237 = .ok (.iadd, 1) := by decide +kernel
theorem d_L_law__2238 : decode cL_law_ 2238 = .ok (.iaload, 1) := by decide +kernel
theorem d_L_law__2239 : decode cL_law_ 2239 = .ok (.aload_n 3, 1) := by decide +kernel
theorem d_L_law__2240 : decode cL_law_ 2240 = .ok (.invokestatic 263, 3) := by decide +kernel
theorem d_L_law__2243 : decode cL_law_ 2243 = .ok (.istore 5, 2) := by decide +kernel
theorem d_L_law__2245 : decode cL_law_ 2245 = .ok (.aload_n 2, 1) := by decide +kernel
theorem d_L_law__2246 : decode cL_law_ 2246 = .ok (.aload_n 0, 1) := by decide +kernel
theorem d_L_law__2247 : decode cL_law_ 2247 = .ok (.iload 4, 2) := by decide +kernel
theorem d_L_law__2249 : decode cL_law_ 2249 = .ok (.iconst 1, 1) := by decide +kernel
theorem d_L_law__2250 : decode cL_law_ 2250 = .ok (.iadd, 1) := by decide +kernel
theorem d_L_law__2251 : decode cL_law_ 2251 = .ok (.iaload, 1) := by decide +kernel
theorem d_L_law__2252 : decode cL_law_ 2252 = .ok (.invokevirtual 265, 3) := by decide +kernel
theorem d_L_law__2255 : decode cL_law_ 2255 = .ok (.istore 6, 2) := by decide +kernel
theorem d_L_law__2257 : decode cL_law_ 2257 = .ok (.aload_n 2, 1) := by decide +kernel
theorem d_L_law__2258 : decode cL_law_ 2258 = .ok (.invokevirtual 145, 3) := by decide +kernel
theorem d_L_law__2261 : decode cL_law_ 2261 = .ok (.iload 5, 2) := by decide +kernel
theorem d_L_law__2263 : decode cL_law_ 2263 = .ok (.if_icmp .eq 5, 3) := by decide +kernel
theorem d_L_law__2266 : decode cL_law_ 2266 = .ok (.iconst 0, 1) := by decide +kernel
theorem d_L_law__2268 : decode cL_law_ 2268 = .ok (.iload 5, 2) := by decide +kernel
theorem d_L_law__2270 : decode cL_law_ 2270 = .ok (.ifCond .ne 15, 3) := by decide +kernel
theorem d_L_law__2273 : decode cL_law_ 2273 = .ok (.aload_n 3, 1) := by decide +kernel
theorem d_L_law__2274 : decode cL_law_ 2274 = .ok (.iconst 0, 1) := by decide +kernel
theorem d_L_law__2275 : decode cL_law_ 2275 = .ok (.laload, 1) := by decide +kernel
theorem d_L_law__2276 : decode cL_law_ 2276 = .ok (.iload 6, 2) := by decide +kernel
theorem d_L_law__2278 : decode cL_law_ 2278 = .ok (.i2l, 1) := by decide +kernel
theorem d_L_law__2279 : decode cL_law_ 2279 = .ok (.lcmp, 1) := by decide +kernel
theorem d_L_law__2280 : decode cL_law_ 2280 = .ok (.ifCond .eq 5, 3) := by decide +kernel
theorem d_L_law__2283 : decode cL_law_ 2283 = .ok (.iconst 0, 1) := by decide +kernel
theorem d_L_law__2285 : decode cL_law_ 2285 = .ok (.goto 423, 3) := by decide +kernel
theorem d_L_law__2288 : decode cL_law_ 2288 = .ok (.aload_n 1, 1) := by decide +kernel
theorem d_L_law__2289 : decode cL_law_ 2289 = .ok (.invokevirtual 266, 3) := by decide +kernel
theorem d_L_law__2292 : decode cL_law_ 2292 = .ok (.aload_n 2, 1) := by decide +kernel
theorem d_L_law__2293 : decode cL_law_ 2293 = .ok (.invokevirtual 269, 3) := by decide +kernel
theorem d_L_law__2296 : decode cL_law_ 2296 = .ok (.if_icmp .eq 412, 3) := by decide +kernel
theorem d_L_law__2299 : decode cL_law_ 2299 = .ok (.iconst 0, 1) := by decide +kernel
theorem d_L_law__2301 : decode cL_law_ 2301 = .ok (.aload_n 1, 1) := by decide +kernel
theorem d_L_law__2302 : decode cL_law_ 2302 = .ok (.aload_n 0, 1) := by decide +kernel
theorem d_L_law__2303 : decode cL_law_ 2303 = .ok (.iload 4, 2) := by decide +kernel
theorem d_L_law__2305 : decode cL_law_ 2305 = .ok (.iconst 1, 1) := by decide +kernel
theorem d_L_law__2306 : decode cL_law_ 2306 = .ok (.iadd, 1) := by decide +kernel
theorem d_L_law__2307 : decode cL_law_ 2307 = .ok (.iaload, 1) := by decide +kernel
theorem d_L_law__2308 : decode cL_law_ 2308 = .ok (.aload_n 0, 1) := by decide +kernel
theorem d_L_law__2309 : decode cL_law_ 2309 = .ok (.iload 4, 2) := by decide +kernel
theorem d_L_law__2311 : decode cL_law_ 2311 = .ok (.iconst 2, 1) := by decide +kernel
theorem d_L_law__2312 : decode cL_law_ 2312 = .ok (.iadd, 1) := by decide +kernel
theorem d_L_law__2313 : decode cL_law_ 2313 = .ok (.iaload, 1) := by decide +kernel
theorem d_L_law__2314 : decode cL_law_ 2314 = .ok (.ifCond .eq 7, 3) := by decide +kernel
theorem d_L_law__2317 : decode cL_law_ 2317 = .ok (.iconst 1, 1) := by decide +kernel
theorem d_L_law__2318 : decode cL_law_ 2318 = .ok (.goto 4, 3) := by decide +kernel
theorem d_L_law__2321 : decode cL_law_ 2321 = .ok (.iconst 0, 1) := by decide +kernel
theorem d_L_law__2322 : decode cL_law_ 2322 = .ok (.aload_n 3, 1) := by decide +kernel
theorem d_L_law__2323 : decode cL_law_ 2323 = .ok (.invokestatic 270, 3) := by decide +kernel
theorem d_L_law__2326 : decode cL_law_ 2326 = .ok (.istore 5, 2) := by decide +kernel
theorem d_L_law__2328 : decode cL_law_ 2328 = .ok (.aload_n 2, 1) := by decide +kernel
theorem d_L_law__2329 : decode cL_law_ 2329 = .ok (.aload_n 0, 1) := by decide +kernel
theorem d_L_law__2330 : decode cL_law_ 2330 = .ok (.iload 4, 2) := by decide +kernel
theorem d_L_law__2332 : decode cL_law_ 2332 = .ok (.iconst 1, 1) := by decide +kernel
theorem d_L_law__2333 : decode cL_law_ 2333 = .ok (.iadd, 1) := by decide +kernel
theorem d_L_law__2334 : decode cL_law_ 2334 = .ok (.iaload, 1) := by decide +kernel
theorem d_L_law__2335 : decode cL_law_ 2335 = .ok (.aload_n 0, 1) := by decide +kernel
theorem d_L_law__2336 : decode cL_law_ 2336 = .ok (.iload 4, 2) := by decide +kernel
theorem d_L_law__2338 : decode cL_law_ 2338 = .ok (.iconst 2, 1) := by decide +kernel
theorem d_L_law__2339 : decode cL_law_ 2339 = .ok (.iadd, 1) := by decide +kernel
theorem d_L_law__2340 : decode cL_law_ 2340 = .ok (.iaload, 1) := by decide +kernel
theorem d_L_law__2341 : decode cL_law_ 2341 = .ok (.ifCond .eq 7, 3) := by decide +kernel
theorem d_L_law__2344 : decode cL_law_ 2344 = .ok (.iconst 1, 1) := by decide +kernel
theorem d_L_law__2345 : decode cL_law_ 2345 = .ok (.goto 4, 3) := by decide +kernel
theorem d_L_law__2348 : decode cL_law_ 2348 = .ok (.iconst 0, 1) := by decide +kernel
theorem d_L_law__2349 : decode cL_law_ 2349 = .ok (.invokevirtual 272, 3) := by decide +kernel
theorem d_L_law__2352 : decode cL_law_ 2352 = .ok (.istore 6, 2) := by decide +kernel
theorem d_L_law__2354 : decode cL_law_ 2354 = .ok (.aload_n 2, 1) := by decide +kernel
theorem d_L_law__2355 : decode cL_law_ 2355 = .ok (.invokevirtual 145, 3) := by decide +kernel
theorem d_L_law__2358 : decode cL_law_ 2358 = .ok (.iload 5, 2) := by decide +kernel
theorem d_L_law__2360 : decode cL_law_ 2360 = .ok (.if_icmp .eq 5, 3) := by decide +kernel
theorem d_L_law__2363 : decode cL_law_ 2363 = .ok (.iconst 0, 1) := by decide +kernel
theorem d_L_law__2365 : decode cL_law_ 2365 = .ok (.iload 5, 2) := by decide +kernel
theorem d_L_law__2367 : decode cL_law_ 2367 = .ok (.ifCond .ne 15, 3) := by decide +kernel
theorem d_L_law__2370 : decode cL_law_ 2370 = .ok (.aload_n 3, 1) := by decide +kernel
theorem d_L_law__2371 : decode cL_law_ 2371 = .ok (.iconst 0, 1) := by decide +kernel
theorem d_L_law__2372 : decode cL_law_ 2372 = .ok (.laload, 1) := by decide +kernel
theorem d_L_law__2373 : decode cL_law_ 2373 = .ok (.iload 6, 2) := by decide +kernel
theorem d_L_law__2375 : decode cL_law_ 2375 = .ok (.i2l, 1) := by decide +kernel
theorem d_L_law__2376 : decode cL_law_ 2376 = .ok (.lcmp, 1) := by decide +kernel
theorem d_L_law__2377 : decode cL_law_ 2377 = .ok (.ifCond .eq 5, 3) := by decide +kernel
theorem d_L_law__2380 : decode cL_law_ 2380 = .ok (.iconst 0, 1) := by decide +kernel
theorem d_L_law__2382 : decode cL_law_ 2382 = .ok (.goto 326, 3) := by decide +kernel
theorem d_L_law__2385 : decode cL_law_ 2385 = .ok (.aload_n 1, 1) := by decide +kernel
theorem d_L_law__2386 : decode cL_law_ 2386 = .ok (.aload_n 0, 1) := by decide +kernel
theorem d_L_law__2387 : decode cL_law_ 2387 = .ok (.iload 4, 2) := by decide +kernel
theorem d_L_law__2389 : decode cL_law_ 2389 = .ok (.iconst 1, 1) := by decide +kernel
theorem d_L_law__2390 : decode cL_law_ 2390 = .ok (.iadd, 1) := by decide +kernel
theorem d_L_law__2391 : decode cL_law_ 2391 = .ok (.iaload, 1) := by decide +kernel
theorem d_L_law__2392 : decode cL_law_ 2392 = .ok (.aload_n 0, 1) := by decide +kernel
theorem d_L_law__2393 : decode cL_law_ 2393 = .ok (.iload 4, 2) := by decide +kernel
theorem d_L_law__2395 : decode cL_law_ 2395 = .ok (.iconst 2, 1) := by decide +kernel
theorem d_L_law__2396 : decode cL_law_ 2396 = .ok (.iadd, 1) := by decide +kernel
theorem d_L_law__2397 : decode cL_law_ 2397 = .ok (.iaload, 1) := by decide +kernel
theorem d_L_law__2398 : decode cL_law_ 2398 = .ok (.ifCond .eq 7, 3) := by decide +kernel
theorem d_L_law__2401 : decode cL_law_ 2401 = .ok (.iconst 1, 1) := by decide +kernel
theorem d_L_law__2402 : decode cL_law_ 2402 = .ok (.goto 4, 3) := by decide +kernel
theorem d_L_law__2405 : decode cL_law_ 2405 = .ok (.iconst 0, 1) := by decide +kernel
theorem d_L_law__2406 : decode cL_law_ 2406 = .ok (.aload_n 3, 1) := by decide +kernel
theorem d_L_law__2407 : decode cL_law_ 2407 = .ok (.invokestatic 273, 3) := by decide +kernel
theorem d_L_law__2410 : decode cL_law_ 2410 = .ok (.istore 5, 2) := by decide +kernel
theorem d_L_law__2412 : decode cL_law_ 2412 = .ok (.aload_n 2, 1) := by decide +kernel
theorem d_L_law__2413 : decode cL_law_ 2413 = .ok (.aload_n 0, 1) := by decide +kernel
theorem d_L_law__2414 : decode cL_law_ 2414 = .ok (.iload 4, 2) := by decide +kernel
theorem d_L_law__2416 : decode cL_law_ 2416 = .ok (.iconst 1, 1) := by decide +kernel
theorem d_L_law__2417 : decode cL_law_ 2417 = .ok (.iadd, 1) := by decide +kernel
theorem d_L_law__2418 : decode cL_law_ 2418 = .ok (.iaload, 1) := by decide +kernel
theorem d_L_law__2419 : decode cL_law_ 2419 = .ok (.aload_n 0, 1) := by decide +kernel
theorem d_L_law__2420 : decode cL_law_ 2420 = .ok (.iload 4, 2) := by decide +kernel
theorem d_L_law__2422 : decode cL_law_ 2422 = .ok (.iconst 2, 1) := by decide +kernel
theorem d_L_law__2423 : decode cL_law_ 2423 = .ok (.iadd, 1) := by decide +kernel
theorem d_L_law__2424 : decode cL_law_ 2424 = .ok (.iaload, 1) := by decide +kernel
theorem d_L_law__2425 : decode cL_law_ 2425 = .ok (.ifCond .eq 7, 3) := by decide +kernel
theorem d_L_law__2428 : decode cL_law_ 2428 = .ok (.iconst 1, 1) := by decide +kernel
theorem d_L_law__2429 : decode cL_law_ 2429 = .ok (.goto 4, 3) := by decide +kernel
theorem d_L_law__2432 : decode cL_law_ 2432 = .ok (.iconst 0, 1) := by decide +kernel
theorem d_L_law__2433 : decode cL_law_ 2433 = .ok (.invokevirtual 275, 3) := by decide +kernel
theorem d_L_law__2436 : decode cL_law_ 2436 = .ok (.istore 6, 2) := by decide +kernel
theorem d_L_law__2438 : decode cL_law_ 2438 = .ok (.aload_n 2, 1) := by decide +kernel
theorem d_L_law__2439 : decode cL_law_ 2439 = .ok (.invokevirtual 145, 3) := by decide +kernel
theorem d_L_law__2442 : decode cL_law_ 2442 = .ok (.iload 5, 2) := by decide +kernel
theorem d_L_law__2444 : decode cL_law_ 2444 = .ok (.if_icmp .eq 5, 3) := by decide +kernel
theorem d_L_law__2447 : decode cL_law_ 2447 = .ok (.iconst 0, 1) := by decide +kernel
theorem d_L_law__2449 : decode cL_law_ 2449 = .ok (.iload 5, 2) := by decide +kernel
theorem d_L_law__2451 : decode cL_law_ 2451 = .ok (.ifCond .ne 15, 3) := by decide +kernel
theorem d_L_law__2454 : decode cL_law_ 2454 = .ok (.aload_n 3, 1) := by decide +kernel
theorem d_L_law__2455 : decode cL_law_ 2455 = .ok (.iconst 0, 1) := by decide +kernel
theorem d_L_law__2456 : decode cL_law_ 2456 = .ok (.laload, 1) := by decide +kernel
theorem d_L_law__2457 : decode cL_law_ 2457 = .ok (.iload 6, 2) := by decide +kernel
theorem d_L_law__2459 : decode cL_law_ 2459 = .ok (.i2l, 1) := by decide +kernel
theorem d_L_law__2460 : decode cL_law_ 2460 = .ok (.lcmp, 1) := by decide +kernel
theorem d_L_law__2461 : decode cL_law_ 2461 = .ok (.ifCond .eq 5, 3) := by decide +kernel
theorem d_L_law__2464 : decode cL_law_ 2464 = .ok (.iconst 0, 1) := by decide +kernel
theorem d_L_law__2466 : decode cL_law_ 2466 = .ok (.goto 242, 3) := by decide +kernel
theorem d_L_law__2469 : decode cL_law_ 2469 = .ok (.aload_n 1, 1) := by decide +kernel
theorem d_L_law__2470 : decode cL_law_ 2470 = .ok (.aload_n 0, 1) := by decide +kernel
theorem d_L_law__2471 : decode cL_law_ 2471 = .ok (.iload 4, 2) := by decide +kernel
theorem d_L_law__2473 : decode cL_law_ 2473 = .ok (.iconst 1, 1) := by decide +kernel
theorem d_L_law__2474 : decode cL_law_ 2474 = .ok (.iadd, 1) := by decide +kernel
theorem d_L_law__2475 : decode cL_law_ 2475 = .ok (.iaload, 1) := by decide +kernel
theorem d_L_law__2476 : decode cL_law_ 2476 = .ok (.aload_n 0, 1) := by decide +kernel
theorem d_L_law__2477 : decode cL_law_ 2477 = .ok (.iload 4, 2) := by decide +kernel
theorem d_L_law__2479 : decode cL_law_ 2479 = .ok (.iconst 2, 1) := by decide +kernel
theorem d_L_law__2480 : decode cL_law_ 2480 = .ok (.iadd, 1) := by decide +kernel
theorem d_L_law__2481 : decode cL_law_ 2481 = .ok (.iaload, 1) := by decide +kernel
theorem d_L_law__2482 : decode cL_law_ 2482 = .ok (.ifCond .eq 7, 3) := by decide +kernel
theorem d_L_law__2485 : decode cL_law_ 2485 = .ok (.iconst 1, 1) := by decide +kernel
theorem d_L_law__2486 : decode cL_law_ 2486 = .ok (.goto 4, 3) := by decide +kernel
theorem d_L_law__2489 : decode cL_law_ 2489 = .ok (.iconst 0, 1) := by decide +kernel
theorem d_L_law__2490 : decode cL_law_ 2490 = .ok (.aload_n 3, 1) := by decide +kernel
theorem d_L_law__2491 : decode cL_law_ 2491 = .ok (.invokestatic 276, 3) := by decide +kernel
theorem d_L_law__2494 : decode cL_law_ 2494 = .ok (.istore 5, 2) := by decide +kernel
theorem d_L_law__2496 : decode cL_law_ 2496 = .ok (.aload_n 2, 1) := by decide +kernel
theorem d_L_law__2497 : decode cL_law_ 2497 = .ok (.aload_n 0, 1) := by decide +kernel
theorem d_L_law__2498 : decode cL_law_ 2498 = .ok (.iload 4, 2) := by decide +kernel
theorem d_L_law__2500 : decode cL_law_ 2500 = .ok (.iconst 1, 1) := by decide +kernel
theorem d_L_law__2501 : decode cL_law_ 2501 = .ok (.iadd, 1) := by decide +kernel
theorem d_L_law__2502 : decode cL_law_ 2502 = .ok (.iaload, 1) := by decide +kernel
theorem d_L_law__2503 : decode cL_law_ 2503 = .ok (.aload_n 0, 1) := by decide +kernel
theorem d_L_law__2504 : decode cL_law_ 2504 = .ok (.iload 4, 2) := by decide +kernel
theorem d_L_law__2506 : decode cL_law_ 2506 = .ok (.iconst 2, 1) := by decide +kernel
theorem d_L_law__2507 : decode cL_law_ 2507 = .ok (.iadd, 1) := by decide +kernel
theorem d_L_law__2508 : decode cL_law_ 2508 = .ok (.iaload, 1) := by decide +kernel
theorem d_L_law__2509 : decode cL_law_ 2509 = .ok (.ifCond .eq 7, 3) := by decide +kernel
theorem d_L_law__2512 : decode cL_law_ 2512 = .ok (.iconst 1, 1) := by decide +kernel
theorem d_L_law__2513 : decode cL_law_ 2513 = .ok (.goto 4, 3) := by decide +kernel
theorem d_L_law__2516 : decode cL_law_ 2516 = .ok (.iconst 0, 1) := by decide +kernel
theorem d_L_law__2517 : decode cL_law_ 2517 = .ok (.invokevirtual 278, 3) := by decide +kernel
theorem d_L_law__2520 : decode cL_law_ 2520 = .ok (.istore 6, 2) := by decide +kernel
theorem d_L_law__2522 : decode cL_law_ 2522 = .ok (.aload_n 2, 1) := by decide +kernel
theorem d_L_law__2523 : decode cL_law_ 2523 = .ok (.invokevirtual 145, 3) := by decide +kernel
theorem d_L_law__2526 : decode cL_law_ 2526 = .ok (.iload 5, 2) := by decide +kernel
theorem d_L_law__2528 : decode cL_law_ 2528 = .ok (.if_icmp .eq 5, 3) := by decide +kernel
theorem d_L_law__2531 : decode cL_law_ 2531 = .ok (.iconst 0, 1) := by decide +kernel
theorem d_L_law__2533 : decode cL_law_ 2533 = .ok (.iload 5, 2) := by decide +kernel
theorem d_L_law__2535 : decode cL_law_ 2535 = .ok (.ifCond .ne 15, 3) := by decide +kernel
theorem d_L_law__2538 : decode cL_law_ 2538 = .ok (.aload_n 3, 1) := by decide +kernel
theorem d_L_law__2539 : decode cL_law_ 2539 = .ok (.iconst 0, 1) := by decide +kernel
theorem d_L_law__2540 : decode cL_law_ 2540 = .ok (.laload, 1) := by decide +kernel
theorem d_L_law__2541 : decode cL_law_ 2541 = .ok (.iload 6, 2) := by decide +kernel
theorem d_L_law__2543 : decode cL_law_ 2543 = .ok (.i2l, 1) := by decide +kernel
theorem d_L_law__2544 : decode cL_law_ 2544 = .ok (.lcmp, 1) := by decide +kernel
theorem d_L_law__2545 : decode cL_law_ 2545 = .ok (.ifCond .eq 5, 3) := by decide +kernel
theorem d_L_law__2548 : decode cL_law_ 2548 = .ok (.iconst 0, 1) := by decide +kernel
theorem d_L_law__2550 : decode cL_law_ 2550 = .ok (.goto 158, 3) := by decide +kernel
theorem d_L_law__2553 : decode cL_law_ 2553 = .ok (.aload_n 1, 1) := by decide +kernel
theorem d_L_law__2554 : decode cL_law_ 2554 = .ok (.aload_n 0, 1) := by decide +kernel
theorem d_L_law__2555 : decode cL_law_ 2555 = .ok (.iload 4, 2) := by decide +kernel
theorem d_L_law__2557 : decode cL_law_ 2557 = .ok (.iconst 1, 1) := by decide +kernel
theorem d_L_law__2558 : decode cL_law_ 2558 = .ok (.iadd, 1) := by decide +kernel
theorem d_L_law__2559 : decode cL_law_ 2559 = .ok (.iaload, 1) := by decide +kernel
theorem d_L_law__2560 : decode cL_law_ 2560 = .ok (.aload_n 0, 1) := by decide +kernel
theorem d_L_law__2561 : decode cL_law_ 2561 = .ok (.iload 4, 2) := by decide +kernel
theorem d_L_law__2563 : decode cL_law_ 2563 = .ok (.iconst 2, 1) := by decide +kernel
theorem d_L_law__2564 : decode cL_law_ 2564 = .ok (.iadd, 1) := by decide +kernel
theorem d_L_law__2565 : decode cL_law_ 2565 = .ok (.iaload, 1) := by decide +kernel
theorem d_L_law__2566 : decode cL_law_ 2566 = .ok (.aload_n 3, 1) := by decide +kernel
theorem d_L_law__2567 : decode cL_law_ 2567 = .ok (.invokestatic 279, 3) := by decide +kernel
theorem d_L_law__2570 : decode cL_law_ 2570 = .ok (.istore 5, 2) := by decide +kernel
theorem d_L_law__2572 : decode cL_law_ 2572 = .ok (.aload_n 2, 1) := by decide +kernel
theorem d_L_law__2573 : decode cL_law_ 2573 = .ok (.aload_n 0, 1) := by decide +kernel
theorem d_L_law__2574 : decode cL_law_ 2574 = .ok (.iload 4, 2) := by decide +kernel
theorem d_L_law__2576 : decode cL_law_ 2576 = .ok (.iconst 1, 1) := by decide +kernel
theorem d_L_law__2577 : decode cL_law_ 2577 = .ok (.iadd, 1) := by decide +kernel
theorem d_L_law__2578 : decode cL_law_ 2578 = .ok (.iaload, 1) := by decide +kernel
theorem d_L_law__2579 : decode cL_law_ 2579 = .ok (.aload_n 0, 1) := by decide +kernel
theorem d_L_law__2580 : decode cL_law_ 2580 = .ok (.iload 4, 2) := by decide +kernel
theorem d_L_law__2582 : decode cL_law_ 2582 = .ok (.iconst 2, 1) := by decide +kernel
theorem d_L_law__2583 : decode cL_law_ 2583 = .ok (.iadd, 1) := by decide +kernel
theorem d_L_law__2584 : decode cL_law_ 2584 = .ok (.iaload, 1) := by decide +kernel
theorem d_L_law__2585 : decode cL_law_ 2585 = .ok (.invokevirtual 281, 3) := by decide +kernel
theorem d_L_law__2588 : decode cL_law_ 2588 = .ok (.istore 6, 2) := by decide +kernel
theorem d_L_law__2590 : decode cL_law_ 2590 = .ok (.aload_n 2, 1) := by decide +kernel
theorem d_L_law__2591 : decode cL_law_ 2591 = .ok (.invokevirtual 145, 3) := by decide +kernel
theorem d_L_law__2594 : decode cL_law_ 2594 = .ok (.iload 5, 2) := by decide +kernel
theorem d_L_law__2596 : decode cL_law_ 2596 = .ok (.if_icmp .eq 5, 3) := by decide +kernel
theorem d_L_law__2599 : decode cL_law_ 2599 = .ok (.iconst 0, 1) := by decide +kernel
theorem d_L_law__2601 : decode cL_law_ 2601 = .ok (.iload 5, 2) := by decide +kernel
theorem d_L_law__2603 : decode cL_law_ 2603 = .ok (.ifCond .ne 15, 3) := by decide +kernel
theorem d_L_law__2606 : decode cL_law_ 2606 = .ok (.aload_n 3, 1) := by decide +kernel
theorem d_L_law__2607 : decode cL_law_ 2607 = .ok (.iconst 0, 1) := by decide +kernel
theorem d_L_law__2608 : decode cL_law_ 2608 = .ok (.laload, 1) := by decide +kernel
theorem d_L_law__2609 : decode cL_law_ 2609 = .ok (.iload 6, 2) := by decide +kernel
theorem d_L_law__2611 : decode cL_law_ 2611 = .ok (.i2l, 1) := by decide +kernel
theorem d_L_law__2612 : decode cL_law_ 2612 = .ok (.lcmp, 1) := by decide +kernel
theorem d_L_law__2613 : decode cL_law_ 2613 = .ok (.ifCond .eq 5, 3) := by decide +kernel
theorem d_L_law__2616 : decode cL_law_ 2616 = .ok (.iconst 0, 1) := by decide +kernel
theorem d_L_law__2618 : decode cL_law_ 2618 = .ok (.goto 90, 3) := by decide +kernel
theorem d_L_law__2621 : decode cL_law_ 2621 = .ok (.aload_n 1, 1) := by decide +kernel
theorem d_L_law__2622 : decode cL_law_ 2622 = .ok (.aload_n 0, 1) := by decide +kernel
theorem d_L_law__2623 : decode cL_law_ 2623 = .ok (.iload 4, 2) := by decide +kernel
theorem d_L_law__2625 : decode cL_law_ 2625 = .ok (.iconst 1, 1) := by decide +kernel
theorem d_L_law__2626 : decode cL_law_ 2626 = .ok (.iadd, 1) := by decide +kernel
theorem d_L_law__2627 : decode cL_law_ 2627 = .ok (.iaload, 1) := by decide +kernel
theorem d_L_law__2628 : decode cL_law_ 2628 = .ok (.invokevirtual 282, 3) := by decide +kernel
theorem d_L_law__2631 : decode cL_law_ 2631 = .ok (.aload_n 2, 1) := by decide +kernel
theorem d_L_law__2632 : decode cL_law_ 2632 = .ok (.aload_n 0, 1) := by decide +kernel
theorem d_L_law__2633 : decode cL_law_ 2633 = .ok (.iload 4, 2) := by decide +kernel
theorem d_L_law__2635 : decode cL_law_ 2635 = .ok (.iconst 1, 1) := by decide +kernel
theorem d_L_law__2636 : decode cL_law_ 2636 = .ok (.iadd, 1) := by decide +kernel
theorem d_L_law__2637 : decode cL_law_ 2637 = .ok (.iaload, 1) := by decide +kernel
theorem d_L_law__2638 : decode cL_law_ 2638 = .ok (.invokevirtual 285, 3) := by decide +kernel
theorem d_L_law__2641 : decode cL_law_ 2641 = .ok (.if_icmp .eq 67, 3) := by decide +kernel
theorem d_L_law__2644 : decode cL_law_ 2644 = .ok (.iconst 0, 1) := by decide +kernel
theorem d_L_law__2646 : decode cL_law_ 2646 = .ok (.aload_n 1, 1) := by decide +kernel
theorem d_L_law__2647 : decode cL_law_ 2647 = .ok (.invokevirtual 286, 3) := by decide +kernel
theorem d_L_law__2650 : decode cL_law_ 2650 = .ok (.aload_n 2, 1) := by decide +kernel
theorem d_L_law__2651 : decode cL_law_ 2651 = .ok (.invokevirtual 290, 3) := by decide +kernel
theorem d_L_law__2654 : decode cL_law_ 2654 = .ok (.if_icmp .eq 54, 3) := by decide +kernel
theorem d_L_law__2657 : decode cL_law_ 2657 = .ok (.iconst 0, 1) := by decide +kernel
theorem d_L_law__2659 : decode cL_law_ 2659 = .ok (.aload_n 1, 1) := by decide +kernel
theorem d_L_law__2660 : decode cL_law_ 2660 = .ok (.invokevirtual 291, 3) := by decide +kernel
theorem d_L_law__2663 : decode cL_law_ 2663 = .ok (.aload_n 2, 1) := by decide +kernel
theorem d_L_law__2664 : decode cL_law_ 2664 = .ok (.invokevirtual 294, 3) := by decide +kernel
theorem d_L_law__2667 : decode cL_law_ 2667 = .ok (.goto 41, 3) := by decide +kernel
theorem d_L_law__2670 : decode cL_law_ 2670 = .ok (.aload_n 1, 1) := by decide +kernel
theorem d_L_law__2671 : decode cL_law_ 2671 = .ok (.invokevirtual 295, 3) := by decide +kernel
theorem d_L_law__2674 : decode cL_law_ 2674 = .ok (.aload_n 2, 1) := by decide +kernel
theorem d_L_law__2675 : decode cL_law_ 2675 = .ok (.invokevirtual 298, 3) := by decide +kernel
theorem d_L_law__2678 : decode cL_law_ 2678 = .ok (.if_icmp .eq 30, 3) := by decide +kernel
theorem d_L_law__2681 : decode cL_law_ 2681 = .ok (.iconst 0, 1) := by decide +kernel
theorem d_L_law__2683 : decode cL_law_ 2683 = .ok (.aload_n 1, 1) := by decide +kernel
theorem d_L_law__2684 : decode cL_law_ 2684 = .ok (.aload_n 0, 1) := by decide +kernel
theorem d_L_law__2685 : decode cL_law_ 2685 = .ok (.iload 4, 2) := by decide +kernel
theorem d_L_law__2687 : decode cL_law_ 2687 = .ok (.iconst 1, 1) := by decide +kernel
theorem d_L_law__2688 : decode cL_law_ 2688 = .ok (.iadd, 1) := by decide +kernel
theorem d_L_law__2689 : decode cL_law_ 2689 = .ok (.iaload, 1) := by decide +kernel
theorem d_L_law__2690 : decode cL_law_ 2690 = .ok (.invokevirtual 299, 3) := by decide +kernel
theorem d_L_law__2693 : decode cL_law_ 2693 = .ok (.aload_n 2, 1) := by decide +kernel
theorem d_L_law__2694 : decode cL_law_ 2694 = .ok (.aload_n 0, 1) := by decide +kernel
theorem d_L_law__2695 : decode cL_law_ 2695 = .ok (.iload 4, 2) := by decide +kernel
theorem d_L_law__2697 : decode cL_law_ 2697 = .ok (.iconst 1, 1) := by decide +kernel
theorem d_L_law__2698 : decode cL_law_ 2698 = .ok (.iadd, 1) := by decide +kernel
theorem d_L_law__2699 : decode cL_law_ 2699 = .ok (.iaload, 1) := by decide +kernel
theorem d_L_law__2700 : decode cL_law_ 2700 = .ok (.invokevirtual 302, 3) := by decide +kernel
theorem d_L_law__2703 : decode cL_law_ 2703 = .ok (.if_icmp .eq 5, 3) := by decide +kernel
theorem d_L_law__2706 : decode cL_law_ 2706 = .ok (.iconst 0, 1) := by decide +kernel
theorem d_L_law__2708 : decode cL_law_ 2708 = .ok (.iinc 4 6, 3) := by decide +kernel
theorem d_L_law__2711 : decode cL_law_ 2711 = .ok (.goto (-2688), 3) := by decide +kernel
theorem d_L_law__2714 : decode cL_law_ 2714 = .ok (.iconst 1, 1) := by decide +kernel
theorem d_L_law__2715 : decode cL_law_ 2715 = .ok (.ireturn, 1) := by decide +kernel
