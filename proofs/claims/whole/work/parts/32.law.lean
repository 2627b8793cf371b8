def F_L_law_ : Fi := (RL, cL_law_, 7, 44, 500000, 5000000, [])
theorem w_0 : Cond.initialized "LaceBondsLaw" ∈ gw := gt_1 (i := 0) (by decide +kernel) rfl
theorem w_1006 : Cond.methodLink "LaceBondsLaw" 166 ⟨"LaceBondsLaw", "walks", "(LLaceBonds;II[J)I"⟩ ∈ gw := gt_5 (i := 46) (by decide +kernel) rfl
theorem w_1007 : Cond.static ⟨"LaceBondsLaw", "walks", "(LLaceBonds;II[J)I"⟩ ∈ gw := gt_5 (i := 47) (by decide +kernel) rfl
theorem w_1008 : Cond.codeWith ⟨"LaceBondsLaw", "walks", "(LLaceBonds;II[J)I"⟩ method_8_code 5 (Option.some ClassFile.FieldType.int) [(0, 10, 13, 24), (0, 10, 17, 26)] ∈ gw := gt_5 (i := 48) (by decide +kernel) rfl
theorem w_1021 : Cond.methodLink "LaceBondsLaw" 169 ⟨"LaceBondsLaw", "grows", "(LLaceBonds;I[J)I"⟩ ∈ gw := gt_5 (i := 61) (by decide +kernel) rfl
theorem w_1022 : Cond.static ⟨"LaceBondsLaw", "grows", "(LLaceBonds;I[J)I"⟩ ∈ gw := gt_5 (i := 62) (by decide +kernel) rfl
theorem w_1023 : Cond.codeWith ⟨"LaceBondsLaw", "grows", "(LLaceBonds;I[J)I"⟩ method_9_code 4 (Option.some ClassFile.FieldType.int) [(0, 9, 12, 24)] ∈ gw := gt_5 (i := 63) (by decide +kernel) rfl
theorem w_1033 : Cond.methodLink "LaceBondsLaw" 172 ⟨"LaceBondsLaw", "lend", "(LLaceBonds;IIIII[J)I"⟩ ∈ gw := gt_5 (i := 73) (by decide +kernel) rfl
theorem w_1034 : Cond.static ⟨"LaceBondsLaw", "lend", "(LLaceBonds;IIIII[J)I"⟩ ∈ gw := gt_5 (i := 74) (by decide +kernel) rfl
theorem w_1035 : Cond.codeWith ⟨"LaceBondsLaw", "lend", "(LLaceBonds;IIIII[J)I"⟩ method_10_code 8 (Option.some ClassFile.FieldType.int) [(0, 16, 19, 24), (0, 16, 23, 13), (0, 16, 27, 45)] ∈ gw := gt_5 (i := 75) (by decide +kernel) rfl
theorem w_1074 : Cond.methodLink "LaceBondsLaw" 176 ⟨"LaceBondsLaw", "pay", "(LLaceBonds;I[J)I"⟩ ∈ gw := gt_5 (i := 114) (by decide +kernel) rfl
theorem w_1075 : Cond.static ⟨"LaceBondsLaw", "pay", "(LLaceBonds;I[J)I"⟩ ∈ gw := gt_5 (i := 115) (by decide +kernel) rfl
theorem w_1076 : Cond.codeWith ⟨"LaceBondsLaw", "pay", "(LLaceBonds;I[J)I"⟩ method_11_code 4 (Option.some ClassFile.FieldType.int) [(0, 9, 12, 24), (0, 9, 15, 45)] ∈ gw := gt_5 (i := 116) (by decide +kernel) rfl
theorem w_1088 : Cond.methodLink "LaceBondsLaw" 179 ⟨"LaceBondsLaw", "surety", "(LLaceBonds;II[J)I"⟩ ∈ gw := gt_5 (i := 128) (by decide +kernel) rfl
theorem w_1089 : Cond.static ⟨"LaceBondsLaw", "surety", "(LLaceBonds;II[J)I"⟩ ∈ gw := gt_5 (i := 129) (by decide +kernel) rfl
theorem w_1090 : Cond.codeWith ⟨"LaceBondsLaw", "surety", "(LLaceBonds;II[J)I"⟩ method_12_code 5 (Option.some ClassFile.FieldType.int) [(0, 10, 13, 24), (0, 10, 17, 13), (0, 10, 21, 45)] ∈ gw := gt_5 (i := 130) (by decide +kernel) rfl
theorem w_1101 : Cond.methodLink "LaceBondsLaw" 182 ⟨"LaceBondsLaw", "give", "(LLaceBonds;II[J)I"⟩ ∈ gw := gt_5 (i := 141) (by decide +kernel) rfl
theorem w_1102 : Cond.static ⟨"LaceBondsLaw", "give", "(LLaceBonds;II[J)I"⟩ ∈ gw := gt_5 (i := 142) (by decide +kernel) rfl
theorem w_1103 : Cond.codeWith ⟨"LaceBondsLaw", "give", "(LLaceBonds;II[J)I"⟩ method_13_code 5 (Option.some ClassFile.FieldType.int) [(0, 10, 13, 24), (0, 10, 17, 13), (0, 10, 21, 45)] ∈ gw := gt_5 (i := 143) (by decide +kernel) rfl
theorem w_1110 : Cond.methodLink "LaceBondsLaw" 185 ⟨"LaceBondsLaw", "goal", "(LLaceBonds;II[J)I"⟩ ∈ gw := gt_5 (i := 150) (by decide +kernel) rfl
theorem w_1111 : Cond.static ⟨"LaceBondsLaw", "goal", "(LLaceBonds;II[J)I"⟩ ∈ gw := gt_5 (i := 151) (by decide +kernel) rfl
theorem w_1112 : Cond.codeWith ⟨"LaceBondsLaw", "goal", "(LLaceBonds;II[J)I"⟩ method_14_code 5 (Option.some ClassFile.FieldType.int) [(0, 10, 13, 24)] ∈ gw := gt_5 (i := 152) (by decide +kernel) rfl
theorem w_1117 : Cond.methodLink "LaceBondsLaw" 188 ⟨"LaceBondsLaw", "rest", "(LLaceBonds;I[J)I"⟩ ∈ gw := gt_5 (i := 157) (by decide +kernel) rfl
theorem w_1118 : Cond.static ⟨"LaceBondsLaw", "rest", "(LLaceBonds;I[J)I"⟩ ∈ gw := gt_5 (i := 158) (by decide +kernel) rfl
theorem w_1119 : Cond.codeWith ⟨"LaceBondsLaw", "rest", "(LLaceBonds;I[J)I"⟩ method_15_code 4 (Option.some ClassFile.FieldType.int) [(0, 9, 12, 24)] ∈ gw := gt_5 (i := 159) (by decide +kernel) rfl
theorem w_1124 : Cond.methodLink "LaceBondsLaw" 191 ⟨"LaceBondsLaw", "days", "(LLaceBonds;I[J)I"⟩ ∈ gw := gt_5 (i := 164) (by decide +kernel) rfl
theorem w_1125 : Cond.static ⟨"LaceBondsLaw", "days", "(LLaceBonds;I[J)I"⟩ ∈ gw := gt_5 (i := 165) (by decide +kernel) rfl
theorem w_1126 : Cond.codeWith ⟨"LaceBondsLaw", "days", "(LLaceBonds;I[J)I"⟩ method_16_code 4 (Option.some ClassFile.FieldType.int) [(0, 9, 12, 13)] ∈ gw := gt_5 (i := 166) (by decide +kernel) rfl
theorem w_1161 : Cond.methodLink "LaceBondsLaw" 198 ⟨"LaceBondsLaw", "comes", "(LLaceBonds;II[J)I"⟩ ∈ gw := gt_5 (i := 201) (by decide +kernel) rfl
theorem w_1162 : Cond.static ⟨"LaceBondsLaw", "comes", "(LLaceBonds;II[J)I"⟩ ∈ gw := gt_5 (i := 202) (by decide +kernel) rfl
theorem w_1163 : Cond.codeWith ⟨"LaceBondsLaw", "comes", "(LLaceBonds;II[J)I"⟩ method_17_code 5 (Option.some ClassFile.FieldType.int) [(0, 10, 13, 24)] ∈ gw := gt_5 (i := 203) (by decide +kernel) rfl
theorem w_1172 : Cond.methodLink "LaceBondsLaw" 201 ⟨"LaceBondsLaw", "soonest", "(LLaceBonds;I[J)I"⟩ ∈ gw := gt_5 (i := 212) (by decide +kernel) rfl
theorem w_1173 : Cond.static ⟨"LaceBondsLaw", "soonest", "(LLaceBonds;I[J)I"⟩ ∈ gw := gt_5 (i := 213) (by decide +kernel) rfl
theorem w_1174 : Cond.codeWith ⟨"LaceBondsLaw", "soonest", "(LLaceBonds;I[J)I"⟩ method_18_code 4 (Option.some ClassFile.FieldType.int) [(0, 9, 12, 24)] ∈ gw := gt_5 (i := 214) (by decide +kernel) rfl
theorem w_1179 : Cond.methodLink "LaceBondsLaw" 204 ⟨"LaceBondsLaw", "carry", "(LLaceBonds;I[J)I"⟩ ∈ gw := gt_5 (i := 219) (by decide +kernel) rfl
theorem w_1180 : Cond.static ⟨"LaceBondsLaw", "carry", "(LLaceBonds;I[J)I"⟩ ∈ gw := gt_5 (i := 220) (by decide +kernel) rfl
theorem w_1181 : Cond.codeWith ⟨"LaceBondsLaw", "carry", "(LLaceBonds;I[J)I"⟩ method_19_code 4 (Option.some ClassFile.FieldType.int) [(0, 9, 12, 24), (0, 9, 15, 13)] ∈ gw := gt_5 (i := 221) (by decide +kernel) rfl
theorem w_1220 : Cond.methodLink "LaceBondsLaw" 207 ⟨"LaceBondsLaw", "ahead", "(LLaceBonds;IIZ[J)I"⟩ ∈ gw := gt_6 (i := 20) (by decide +kernel) rfl
theorem w_1221 : Cond.static ⟨"LaceBondsLaw", "ahead", "(LLaceBonds;IIZ[J)I"⟩ ∈ gw := gt_6 (i := 21) (by decide +kernel) rfl
theorem w_1222 : Cond.codeWith ⟨"LaceBondsLaw", "ahead", "(LLaceBonds;IIZ[J)I"⟩ method_20_code 6 (Option.some ClassFile.FieldType.int) [(0, 12, 15, 24), (0, 12, 19, 13)] ∈ gw := gt_6 (i := 22) (by decide +kernel) rfl
theorem w_1232 : Cond.methodLink "LaceBondsLaw" 219 ⟨"LaceBondsLaw", "owes", "(LLaceBonds;II[J)I"⟩ ∈ gw := gt_6 (i := 32) (by decide +kernel) rfl
theorem w_1233 : Cond.static ⟨"LaceBondsLaw", "owes", "(LLaceBonds;II[J)I"⟩ ∈ gw := gt_6 (i := 33) (by decide +kernel) rfl
theorem w_1234 : Cond.codeWith ⟨"LaceBondsLaw", "owes", "(LLaceBonds;II[J)I"⟩ method_21_code 5 (Option.some ClassFile.FieldType.int) [(0, 17, 20, 24), (0, 17, 24, 13)] ∈ gw := gt_6 (i := 34) (by decide +kernel) rfl
theorem w_1253 : Cond.methodLink "LaceBondsLaw" 222 ⟨"LaceBondsLaw", "leads", "(LLaceBonds;I[J)I"⟩ ∈ gw := gt_6 (i := 53) (by decide +kernel) rfl
theorem w_1254 : Cond.static ⟨"LaceBondsLaw", "leads", "(LLaceBonds;I[J)I"⟩ ∈ gw := gt_6 (i := 54) (by decide +kernel) rfl
theorem w_1255 : Cond.codeWith ⟨"LaceBondsLaw", "leads", "(LLaceBonds;I[J)I"⟩ method_22_code 4 (Option.some ClassFile.FieldType.int) [(0, 9, 12, 24)] ∈ gw := gt_6 (i := 55) (by decide +kernel) rfl
theorem w_1260 : Cond.methodLink "LaceBondsLaw" 225 ⟨"LaceBondsLaw", "call", "(LLaceBonds;IZ[J)I"⟩ ∈ gw := gt_6 (i := 60) (by decide +kernel) rfl
theorem w_1261 : Cond.static ⟨"LaceBondsLaw", "call", "(LLaceBonds;IZ[J)I"⟩ ∈ gw := gt_6 (i := 61) (by decide +kernel) rfl
theorem w_1262 : Cond.codeWith ⟨"LaceBondsLaw", "call", "(LLaceBonds;IZ[J)I"⟩ method_23_code 5 (Option.some ClassFile.FieldType.int) [(0, 10, 13, 24)] ∈ gw := gt_6 (i := 62) (by decide +kernel) rfl
theorem w_1279 : Cond.methodLink "LaceBondsLaw" 229 ⟨"LaceBondsLaw", "breaks", "(LLaceBonds;I[J)I"⟩ ∈ gw := gt_6 (i := 79) (by decide +kernel) rfl
theorem w_1280 : Cond.static ⟨"LaceBondsLaw", "breaks", "(LLaceBonds;I[J)I"⟩ ∈ gw := gt_6 (i := 80) (by decide +kernel) rfl
theorem w_1281 : Cond.codeWith ⟨"LaceBondsLaw", "breaks", "(LLaceBonds;I[J)I"⟩ method_24_code 4 (Option.some ClassFile.FieldType.int) [(0, 9, 12, 13)] ∈ gw := gt_6 (i := 81) (by decide +kernel) rfl
theorem w_1286 : Cond.methodLink "LaceBondsLaw" 232 ⟨"LaceBondsLaw", "mercy", "(LLaceBonds;I[J)I"⟩ ∈ gw := gt_6 (i := 86) (by decide +kernel) rfl
theorem w_1287 : Cond.static ⟨"LaceBondsLaw", "mercy", "(LLaceBonds;I[J)I"⟩ ∈ gw := gt_6 (i := 87) (by decide +kernel) rfl
theorem w_1288 : Cond.codeWith ⟨"LaceBondsLaw", "mercy", "(LLaceBonds;I[J)I"⟩ method_25_code 4 (Option.some ClassFile.FieldType.int) [(0, 9, 12, 24)] ∈ gw := gt_6 (i := 88) (by decide +kernel) rfl
theorem w_1298 : Cond.methodLink "LaceBondsLaw" 235 ⟨"LaceBondsLaw", "hangs", "(LLaceBonds;I[J)I"⟩ ∈ gw := gt_6 (i := 98) (by decide +kernel) rfl
theorem w_1299 : Cond.static ⟨"LaceBondsLaw", "hangs", "(LLaceBonds;I[J)I"⟩ ∈ gw := gt_6 (i := 99) (by decide +kernel) rfl
theorem w_1300 : Cond.codeWith ⟨"LaceBondsLaw", "hangs", "(LLaceBonds;I[J)I"⟩ method_26_code 4 (Option.some ClassFile.FieldType.int) [(0, 9, 12, 24)] ∈ gw := gt_6 (i := 100) (by decide +kernel) rfl
theorem w_1305 : Cond.methodLink "LaceBondsLaw" 246 ⟨"LaceBondsLaw", "wear", "(LLaceBonds;Z[J)I"⟩ ∈ gw := gt_6 (i := 105) (by decide +kernel) rfl
theorem w_1306 : Cond.static ⟨"LaceBondsLaw", "wear", "(LLaceBonds;Z[J)I"⟩ ∈ gw := gt_6 (i := 106) (by decide +kernel) rfl
theorem w_1307 : Cond.codeWith ⟨"LaceBondsLaw", "wear", "(LLaceBonds;Z[J)I"⟩ method_27_code 4 (Option.some ClassFile.FieldType.int) [(0, 9, 12, 13)] ∈ gw := gt_6 (i := 107) (by decide +kernel) rfl
theorem w_1335 : Cond.methodLink "LaceBondsLaw" 250 ⟨"LaceBondsLaw", "look", "(LLaceBonds;[J)I"⟩ ∈ gw := gt_6 (i := 135) (by decide +kernel) rfl
theorem w_1336 : Cond.static ⟨"LaceBondsLaw", "look", "(LLaceBonds;[J)I"⟩ ∈ gw := gt_6 (i := 136) (by decide +kernel) rfl
theorem w_1337 : Cond.codeWith ⟨"LaceBondsLaw", "look", "(LLaceBonds;[J)I"⟩ method_28_code 3 (Option.some ClassFile.FieldType.int) [(0, 8, 11, 13)] ∈ gw := gt_6 (i := 137) (by decide +kernel) rfl
theorem w_1347 : Cond.methodLink "LaceBondsLaw" 253 ⟨"LaceBondsLaw", "race", "(LLaceBonds;I[J)I"⟩ ∈ gw := gt_6 (i := 147) (by decide +kernel) rfl
theorem w_1348 : Cond.static ⟨"LaceBondsLaw", "race", "(LLaceBonds;I[J)I"⟩ ∈ gw := gt_6 (i := 148) (by decide +kernel) rfl
theorem w_1349 : Cond.codeWith ⟨"LaceBondsLaw", "race", "(LLaceBonds;I[J)I"⟩ method_29_code 4 (Option.some ClassFile.FieldType.int) [(0, 9, 12, 24)] ∈ gw := gt_6 (i := 149) (by decide +kernel) rfl
theorem w_1354 : Cond.methodLink "LaceBondsLaw" 260 ⟨"LaceBondsLaw", "lends", "(LLaceBonds;I[J)I"⟩ ∈ gw := gt_6 (i := 154) (by decide +kernel) rfl
theorem w_1355 : Cond.static ⟨"LaceBondsLaw", "lends", "(LLaceBonds;I[J)I"⟩ ∈ gw := gt_6 (i := 155) (by decide +kernel) rfl
theorem w_1356 : Cond.codeWith ⟨"LaceBondsLaw", "lends", "(LLaceBonds;I[J)I"⟩ method_30_code 4 (Option.some ClassFile.FieldType.int) [(0, 9, 12, 13)] ∈ gw := gt_6 (i := 156) (by decide +kernel) rfl
theorem w_1363 : Cond.methodLink "LaceBondsLaw" 263 ⟨"LaceBondsLaw", "loose", "(LLaceBonds;I[J)I"⟩ ∈ gw := gt_6 (i := 163) (by decide +kernel) rfl
theorem w_1364 : Cond.static ⟨"LaceBondsLaw", "loose", "(LLaceBonds;I[J)I"⟩ ∈ gw := gt_6 (i := 164) (by decide +kernel) rfl
theorem w_1365 : Cond.codeWith ⟨"LaceBondsLaw", "loose", "(LLaceBonds;I[J)I"⟩ method_31_code 4 (Option.some ClassFile.FieldType.int) [(0, 9, 12, 24)] ∈ gw := gt_6 (i := 165) (by decide +kernel) rfl
theorem w_1370 : Cond.methodLink "LaceBondsLaw" 270 ⟨"LaceBondsLaw", "trial", "(LLaceBonds;IZ[J)I"⟩ ∈ gw := gt_6 (i := 170) (by decide +kernel) rfl
theorem w_1371 : Cond.static ⟨"LaceBondsLaw", "trial", "(LLaceBonds;IZ[J)I"⟩ ∈ gw := gt_6 (i := 171) (by decide +kernel) rfl
theorem w_1372 : Cond.codeWith ⟨"LaceBondsLaw", "trial", "(LLaceBonds;IZ[J)I"⟩ method_32_code 5 (Option.some ClassFile.FieldType.int) [(0, 10, 13, 13)] ∈ gw := gt_6 (i := 172) (by decide +kernel) rfl
theorem w_1377 : Cond.methodLink "LaceBondsLaw" 273 ⟨"LaceBondsLaw", "span", "(LLaceBonds;IZ[J)I"⟩ ∈ gw := gt_6 (i := 177) (by decide +kernel) rfl
theorem w_1378 : Cond.static ⟨"LaceBondsLaw", "span", "(LLaceBonds;IZ[J)I"⟩ ∈ gw := gt_6 (i := 178) (by decide +kernel) rfl
theorem w_1379 : Cond.codeWith ⟨"LaceBondsLaw", "span", "(LLaceBonds;IZ[J)I"⟩ method_33_code 5 (Option.some ClassFile.FieldType.int) [(0, 10, 13, 13)] ∈ gw := gt_6 (i := 179) (by decide +kernel) rfl
theorem w_1386 : Cond.methodLink "LaceBondsLaw" 276 ⟨"LaceBondsLaw", "led", "(LLaceBonds;IZ[J)I"⟩ ∈ gw := gt_6 (i := 186) (by decide +kernel) rfl
theorem w_1387 : Cond.static ⟨"LaceBondsLaw", "led", "(LLaceBonds;IZ[J)I"⟩ ∈ gw := gt_6 (i := 187) (by decide +kernel) rfl
theorem w_1388 : Cond.codeWith ⟨"LaceBondsLaw", "led", "(LLaceBonds;IZ[J)I"⟩ method_34_code 5 (Option.some ClassFile.FieldType.int) [(0, 10, 13, 24)] ∈ gw := gt_6 (i := 188) (by decide +kernel) rfl
theorem w_1416 : Cond.methodLink "LaceBondsLaw" 279 ⟨"LaceBondsLaw", "log", "(LLaceBonds;II[J)I"⟩ ∈ gw := gt_6 (i := 216) (by decide +kernel) rfl
theorem w_1417 : Cond.static ⟨"LaceBondsLaw", "log", "(LLaceBonds;II[J)I"⟩ ∈ gw := gt_6 (i := 217) (by decide +kernel) rfl
theorem w_1418 : Cond.codeWith ⟨"LaceBondsLaw", "log", "(LLaceBonds;II[J)I"⟩ method_35_code 5 (Option.some ClassFile.FieldType.int) [(0, 10, 13, 26)] ∈ gw := gt_6 (i := 218) (by decide +kernel) rfl
theorem w_1434 : Cond.methodLink "LaceBondsLaw" 145 ⟨"LaceBondsModel", "thrown", "()I"⟩ ∈ gw := gt_6 (i := 234) (by decide +kernel) rfl
theorem w_1435 : Cond.instanceMethod ⟨"LaceBondsModel", "thrown", "()I"⟩ ∈ gw := gt_6 (i := 235) (by decide +kernel) rfl
theorem w_1436 : Cond.selects "LaceBondsModel" ⟨"LaceBondsModel", "thrown", "()I"⟩ ⟨"LaceBondsModel", "thrown", "()I"⟩ ∈ gw := gt_6 (i := 236) (by decide +kernel) rfl
theorem w_1437 : Cond.code ⟨"LaceBondsModel", "thrown", "()I"⟩ prog_14_method_1_code 1 (Option.some ClassFile.FieldType.int) ∈ gw := gt_6 (i := 237) (by decide +kernel) rfl
theorem w_1516 : Cond.methodLink "LaceBondsLaw" 294 ⟨"LaceBondsModel", "image", "()V"⟩ ∈ gw := gt_7 (i := 76) (by decide +kernel) rfl
theorem w_1517 : Cond.instanceMethod ⟨"LaceBondsModel", "image", "()V"⟩ ∈ gw := gt_7 (i := 77) (by decide +kernel) rfl
theorem w_1518 : Cond.selects "LaceBondsModel" ⟨"LaceBondsModel", "image", "()V"⟩ ⟨"LaceBondsModel", "image", "()V"⟩ ∈ gw := gt_7 (i := 78) (by decide +kernel) rfl
theorem w_1519 : Cond.code ⟨"LaceBondsModel", "image", "()V"⟩ prog_14_method_6_code 2 (none) ∈ gw := gt_7 (i := 79) (by decide +kernel) rfl
theorem w_1520 : Cond.methodLink "LaceBondsLaw" 298 ⟨"LaceBondsModel", "back", "()Z"⟩ ∈ gw := gt_7 (i := 80) (by decide +kernel) rfl
theorem w_1521 : Cond.instanceMethod ⟨"LaceBondsModel", "back", "()Z"⟩ ∈ gw := gt_7 (i := 81) (by decide +kernel) rfl
theorem w_1522 : Cond.selects "LaceBondsModel" ⟨"LaceBondsModel", "back", "()Z"⟩ ⟨"LaceBondsModel", "back", "()Z"⟩ ∈ gw := gt_7 (i := 82) (by decide +kernel) rfl
theorem w_1523 : Cond.code ⟨"LaceBondsModel", "back", "()Z"⟩ prog_14_method_7_code 2 (Option.some ClassFile.FieldType.boolean) ∈ gw := gt_7 (i := 83) (by decide +kernel) rfl
theorem w_1524 : Cond.methodLink "LaceBondsLaw" 290 ⟨"LaceBondsModel", "undo", "()Z"⟩ ∈ gw := gt_7 (i := 84) (by decide +kernel) rfl
theorem w_1525 : Cond.instanceMethod ⟨"LaceBondsModel", "undo", "()Z"⟩ ∈ gw := gt_7 (i := 85) (by decide +kernel) rfl
theorem w_1526 : Cond.selects "LaceBondsModel" ⟨"LaceBondsModel", "undo", "()Z"⟩ ⟨"LaceBondsModel", "undo", "()Z"⟩ ∈ gw := gt_7 (i := 86) (by decide +kernel) rfl
theorem w_1527 : Cond.code ⟨"LaceBondsModel", "undo", "()Z"⟩ prog_14_method_9_code 2 (Option.some ClassFile.FieldType.boolean) ∈ gw := gt_7 (i := 87) (by decide +kernel) rfl
theorem w_1528 : Cond.methodLink "LaceBondsLaw" 133 ⟨"LaceBondsModel", "feed", "(IIIII)I"⟩ ∈ gw := gt_7 (i := 88) (by decide +kernel) rfl
theorem w_1529 : Cond.instanceMethod ⟨"LaceBondsModel", "feed", "(IIIII)I"⟩ ∈ gw := gt_7 (i := 89) (by decide +kernel) rfl
theorem w_1530 : Cond.selects "LaceBondsModel" ⟨"LaceBondsModel", "feed", "(IIIII)I"⟩ ⟨"LaceBondsModel", "feed", "(IIIII)I"⟩ ∈ gw := gt_7 (i := 90) (by decide +kernel) rfl
theorem w_1531 : Cond.code ⟨"LaceBondsModel", "feed", "(IIIII)I"⟩ prog_14_method_28_code 7 (Option.some ClassFile.FieldType.int) ∈ gw := gt_7 (i := 91) (by decide +kernel) rfl
theorem w_1532 : Cond.methodLink "LaceBondsLaw" 138 ⟨"LaceBondsModel", "end", "(I)Z"⟩ ∈ gw := gt_7 (i := 92) (by decide +kernel) rfl
theorem w_1533 : Cond.instanceMethod ⟨"LaceBondsModel", "end", "(I)Z"⟩ ∈ gw := gt_7 (i := 93) (by decide +kernel) rfl
theorem w_1534 : Cond.selects "LaceBondsModel" ⟨"LaceBondsModel", "end", "(I)Z"⟩ ⟨"LaceBondsModel", "end", "(I)Z"⟩ ∈ gw := gt_7 (i := 94) (by decide +kernel) rfl
theorem w_1535 : Cond.code ⟨"LaceBondsModel", "end", "(I)Z"⟩ prog_14_method_29_code 2 (Option.some ClassFile.FieldType.boolean) ∈ gw := gt_7 (i := 95) (by decide +kernel) rfl
theorem w_1536 : Cond.methodLink "LaceBondsLaw" 154 ⟨"LaceBondsModel", "fault", "()I"⟩ ∈ gw := gt_7 (i := 96) (by decide +kernel) rfl
theorem w_1537 : Cond.instanceMethod ⟨"LaceBondsModel", "fault", "()I"⟩ ∈ gw := gt_7 (i := 97) (by decide +kernel) rfl
theorem w_1538 : Cond.selects "LaceBondsModel" ⟨"LaceBondsModel", "fault", "()I"⟩ ⟨"LaceBondsModel", "fault", "()I"⟩ ∈ gw := gt_7 (i := 98) (by decide +kernel) rfl
theorem w_1539 : Cond.code ⟨"LaceBondsModel", "fault", "()I"⟩ prog_14_method_38_code 1 (Option.some ClassFile.FieldType.int) ∈ gw := gt_7 (i := 99) (by decide +kernel) rfl
theorem w_1540 : Cond.methodLink "LaceBondsLaw" 144 ⟨"LaceBondsModel", "land", "()I"⟩ ∈ gw := gt_7 (i := 100) (by decide +kernel) rfl
theorem w_1541 : Cond.instanceMethod ⟨"LaceBondsModel", "land", "()I"⟩ ∈ gw := gt_7 (i := 101) (by decide +kernel) rfl
theorem w_1542 : Cond.selects "LaceBondsModel" ⟨"LaceBondsModel", "land", "()I"⟩ ⟨"LaceBondsModel", "land", "()I"⟩ ∈ gw := gt_7 (i := 102) (by decide +kernel) rfl
theorem w_1543 : Cond.code ⟨"LaceBondsModel", "land", "()I"⟩ prog_14_method_56_code 3 (Option.some ClassFile.FieldType.int) ∈ gw := gt_7 (i := 103) (by decide +kernel) rfl
theorem w_1699 : Cond.methodLink "LaceBondsLaw" 150 ⟨"LaceBondsModel", "law", "()I"⟩ ∈ gw := gt_8 (i := 19) (by decide +kernel) rfl
theorem w_1700 : Cond.instanceMethod ⟨"LaceBondsModel", "law", "()I"⟩ ∈ gw := gt_8 (i := 20) (by decide +kernel) rfl
theorem w_1701 : Cond.selects "LaceBondsModel" ⟨"LaceBondsModel", "law", "()I"⟩ ⟨"LaceBondsModel", "law", "()I"⟩ ∈ gw := gt_8 (i := 21) (by decide +kernel) rfl
theorem w_1702 : Cond.code ⟨"LaceBondsModel", "law", "()I"⟩ prog_14_method_57_code 3 (Option.some ClassFile.FieldType.int) ∈ gw := gt_8 (i := 22) (by decide +kernel) rfl
theorem w_1703 : Cond.methodLink "LaceBondsLaw" 158 ⟨"LaceBondsModel", "person", "(II)I"⟩ ∈ gw := gt_8 (i := 23) (by decide +kernel) rfl
theorem w_1704 : Cond.instanceMethod ⟨"LaceBondsModel", "person", "(II)I"⟩ ∈ gw := gt_8 (i := 24) (by decide +kernel) rfl
theorem w_1705 : Cond.selects "LaceBondsModel" ⟨"LaceBondsModel", "person", "(II)I"⟩ ⟨"LaceBondsModel", "person", "(II)I"⟩ ∈ gw := gt_8 (i := 25) (by decide +kernel) rfl
theorem w_1706 : Cond.code ⟨"LaceBondsModel", "person", "(II)I"⟩ prog_14_method_73_code 3 (Option.some ClassFile.FieldType.int) ∈ gw := gt_8 (i := 26) (by decide +kernel) rfl
theorem w_1747 : Cond.methodLink "LaceBondsLaw" 161 ⟨"LaceBondsModel", "lace", "(II)I"⟩ ∈ gw := gt_8 (i := 67) (by decide +kernel) rfl
theorem w_1748 : Cond.instanceMethod ⟨"LaceBondsModel", "lace", "(II)I"⟩ ∈ gw := gt_8 (i := 68) (by decide +kernel) rfl
theorem w_1749 : Cond.selects "LaceBondsModel" ⟨"LaceBondsModel", "lace", "(II)I"⟩ ⟨"LaceBondsModel", "lace", "(II)I"⟩ ∈ gw := gt_8 (i := 69) (by decide +kernel) rfl
theorem w_1750 : Cond.code ⟨"LaceBondsModel", "lace", "(II)I"⟩ prog_14_method_74_code 3 (Option.some ClassFile.FieldType.int) ∈ gw := gt_8 (i := 70) (by decide +kernel) rfl
theorem w_1755 : Cond.methodLink "LaceBondsLaw" 165 ⟨"LaceBondsModel", "mud", "(I)I"⟩ ∈ gw := gt_8 (i := 75) (by decide +kernel) rfl
theorem w_1756 : Cond.instanceMethod ⟨"LaceBondsModel", "mud", "(I)I"⟩ ∈ gw := gt_8 (i := 76) (by decide +kernel) rfl
theorem w_1757 : Cond.selects "LaceBondsModel" ⟨"LaceBondsModel", "mud", "(I)I"⟩ ⟨"LaceBondsModel", "mud", "(I)I"⟩ ∈ gw := gt_8 (i := 77) (by decide +kernel) rfl
theorem w_1758 : Cond.code ⟨"LaceBondsModel", "mud", "(I)I"⟩ prog_14_method_75_code 2 (Option.some ClassFile.FieldType.int) ∈ gw := gt_8 (i := 78) (by decide +kernel) rfl
theorem w_1762 : Cond.methodLink "LaceBondsLaw" 168 ⟨"LaceBondsModel", "walks", "(II)I"⟩ ∈ gw := gt_8 (i := 82) (by decide +kernel) rfl
theorem w_1763 : Cond.instanceMethod ⟨"LaceBondsModel", "walks", "(II)I"⟩ ∈ gw := gt_8 (i := 83) (by decide +kernel) rfl
theorem w_1764 : Cond.selects "LaceBondsModel" ⟨"LaceBondsModel", "walks", "(II)I"⟩ ⟨"LaceBondsModel", "walks", "(II)I"⟩ ∈ gw := gt_8 (i := 84) (by decide +kernel) rfl
theorem w_1765 : Cond.code ⟨"LaceBondsModel", "walks", "(II)I"⟩ prog_14_method_76_code 3 (Option.some ClassFile.FieldType.int) ∈ gw := gt_8 (i := 85) (by decide +kernel) rfl
theorem w_1800 : Cond.methodLink "LaceBondsLaw" 171 ⟨"LaceBondsModel", "grows", "(I)I"⟩ ∈ gw := gt_8 (i := 120) (by decide +kernel) rfl
theorem w_1801 : Cond.instanceMethod ⟨"LaceBondsModel", "grows", "(I)I"⟩ ∈ gw := gt_8 (i := 121) (by decide +kernel) rfl
theorem w_1802 : Cond.selects "LaceBondsModel" ⟨"LaceBondsModel", "grows", "(I)I"⟩ ⟨"LaceBondsModel", "grows", "(I)I"⟩ ∈ gw := gt_8 (i := 122) (by decide +kernel) rfl
theorem w_1803 : Cond.code ⟨"LaceBondsModel", "grows", "(I)I"⟩ prog_14_method_77_code 2 (Option.some ClassFile.FieldType.int) ∈ gw := gt_8 (i := 123) (by decide +kernel) rfl
theorem w_1808 : Cond.methodLink "LaceBondsLaw" 175 ⟨"LaceBondsModel", "lend", "(IIIII)I"⟩ ∈ gw := gt_8 (i := 128) (by decide +kernel) rfl
theorem w_1809 : Cond.instanceMethod ⟨"LaceBondsModel", "lend", "(IIIII)I"⟩ ∈ gw := gt_8 (i := 129) (by decide +kernel) rfl
theorem w_1810 : Cond.selects "LaceBondsModel" ⟨"LaceBondsModel", "lend", "(IIIII)I"⟩ ⟨"LaceBondsModel", "lend", "(IIIII)I"⟩ ∈ gw := gt_8 (i := 130) (by decide +kernel) rfl
theorem w_1811 : Cond.code ⟨"LaceBondsModel", "lend", "(IIIII)I"⟩ prog_14_method_81_code 6 (Option.some ClassFile.FieldType.int) ∈ gw := gt_8 (i := 131) (by decide +kernel) rfl
theorem w_1824 : Cond.methodLink "LaceBondsLaw" 178 ⟨"LaceBondsModel", "pay", "(I)I"⟩ ∈ gw := gt_8 (i := 144) (by decide +kernel) rfl
theorem w_1825 : Cond.instanceMethod ⟨"LaceBondsModel", "pay", "(I)I"⟩ ∈ gw := gt_8 (i := 145) (by decide +kernel) rfl
theorem w_1826 : Cond.selects "LaceBondsModel" ⟨"LaceBondsModel", "pay", "(I)I"⟩ ⟨"LaceBondsModel", "pay", "(I)I"⟩ ∈ gw := gt_8 (i := 146) (by decide +kernel) rfl
theorem w_1827 : Cond.code ⟨"LaceBondsModel", "pay", "(I)I"⟩ prog_14_method_82_code 3 (Option.some ClassFile.FieldType.int) ∈ gw := gt_8 (i := 147) (by decide +kernel) rfl
theorem w_1832 : Cond.methodLink "LaceBondsLaw" 181 ⟨"LaceBondsModel", "surety", "(II)I"⟩ ∈ gw := gt_8 (i := 152) (by decide +kernel) rfl
theorem w_1833 : Cond.instanceMethod ⟨"LaceBondsModel", "surety", "(II)I"⟩ ∈ gw := gt_8 (i := 153) (by decide +kernel) rfl
theorem w_1834 : Cond.selects "LaceBondsModel" ⟨"LaceBondsModel", "surety", "(II)I"⟩ ⟨"LaceBondsModel", "surety", "(II)I"⟩ ∈ gw := gt_8 (i := 154) (by decide +kernel) rfl
theorem w_1835 : Cond.code ⟨"LaceBondsModel", "surety", "(II)I"⟩ prog_14_method_83_code 4 (Option.some ClassFile.FieldType.int) ∈ gw := gt_8 (i := 155) (by decide +kernel) rfl
theorem w_1836 : Cond.methodLink "LaceBondsLaw" 184 ⟨"LaceBondsModel", "give", "(II)I"⟩ ∈ gw := gt_8 (i := 156) (by decide +kernel) rfl
theorem w_1837 : Cond.instanceMethod ⟨"LaceBondsModel", "give", "(II)I"⟩ ∈ gw := gt_8 (i := 157) (by decide +kernel) rfl
theorem w_1838 : Cond.selects "LaceBondsModel" ⟨"LaceBondsModel", "give", "(II)I"⟩ ⟨"LaceBondsModel", "give", "(II)I"⟩ ∈ gw := gt_8 (i := 158) (by decide +kernel) rfl
theorem w_1839 : Cond.code ⟨"LaceBondsModel", "give", "(II)I"⟩ prog_14_method_84_code 4 (Option.some ClassFile.FieldType.int) ∈ gw := gt_8 (i := 159) (by decide +kernel) rfl
theorem w_1840 : Cond.methodLink "LaceBondsLaw" 187 ⟨"LaceBondsModel", "goal", "(II)I"⟩ ∈ gw := gt_8 (i := 160) (by decide +kernel) rfl
theorem w_1841 : Cond.instanceMethod ⟨"LaceBondsModel", "goal", "(II)I"⟩ ∈ gw := gt_8 (i := 161) (by decide +kernel) rfl
theorem w_1842 : Cond.selects "LaceBondsModel" ⟨"LaceBondsModel", "goal", "(II)I"⟩ ⟨"LaceBondsModel", "goal", "(II)I"⟩ ∈ gw := gt_8 (i := 162) (by decide +kernel) rfl
theorem w_1843 : Cond.code ⟨"LaceBondsModel", "goal", "(II)I"⟩ prog_14_method_85_code 4 (Option.some ClassFile.FieldType.int) ∈ gw := gt_8 (i := 163) (by decide +kernel) rfl
theorem w_1844 : Cond.methodLink "LaceBondsLaw" 190 ⟨"LaceBondsModel", "rest", "(I)I"⟩ ∈ gw := gt_8 (i := 164) (by decide +kernel) rfl
theorem w_1845 : Cond.instanceMethod ⟨"LaceBondsModel", "rest", "(I)I"⟩ ∈ gw := gt_8 (i := 165) (by decide +kernel) rfl
theorem w_1846 : Cond.selects "LaceBondsModel" ⟨"LaceBondsModel", "rest", "(I)I"⟩ ⟨"LaceBondsModel", "rest", "(I)I"⟩ ∈ gw := gt_8 (i := 166) (by decide +kernel) rfl
theorem w_1847 : Cond.code ⟨"LaceBondsModel", "rest", "(I)I"⟩ prog_14_method_86_code 3 (Option.some ClassFile.FieldType.int) ∈ gw := gt_8 (i := 167) (by decide +kernel) rfl
theorem w_1848 : Cond.methodLink "LaceBondsLaw" 193 ⟨"LaceBondsModel", "days", "(I)I"⟩ ∈ gw := gt_8 (i := 168) (by decide +kernel) rfl
theorem w_1849 : Cond.instanceMethod ⟨"LaceBondsModel", "days", "(I)I"⟩ ∈ gw := gt_8 (i := 169) (by decide +kernel) rfl
theorem w_1850 : Cond.selects "LaceBondsModel" ⟨"LaceBondsModel", "days", "(I)I"⟩ ⟨"LaceBondsModel", "days", "(I)I"⟩ ∈ gw := gt_8 (i := 170) (by decide +kernel) rfl
theorem w_1851 : Cond.code ⟨"LaceBondsModel", "days", "(I)I"⟩ prog_14_method_93_code 4 (Option.some ClassFile.FieldType.int) ∈ gw := gt_8 (i := 171) (by decide +kernel) rfl
theorem w_1880 : Cond.methodLink "LaceBondsLaw" 210 ⟨"LaceBondsModel", "ahead", "(IIZ)I"⟩ ∈ gw := gt_8 (i := 200) (by decide +kernel) rfl
theorem w_1881 : Cond.instanceMethod ⟨"LaceBondsModel", "ahead", "(IIZ)I"⟩ ∈ gw := gt_8 (i := 201) (by decide +kernel) rfl
theorem w_1882 : Cond.selects "LaceBondsModel" ⟨"LaceBondsModel", "ahead", "(IIZ)I"⟩ ⟨"LaceBondsModel", "ahead", "(IIZ)I"⟩ ∈ gw := gt_8 (i := 202) (by decide +kernel) rfl
theorem w_1883 : Cond.code ⟨"LaceBondsModel", "ahead", "(IIZ)I"⟩ prog_14_method_94_code 5 (Option.some ClassFile.FieldType.int) ∈ gw := gt_8 (i := 203) (by decide +kernel) rfl
theorem w_1892 : Cond.methodLink "LaceBondsLaw" 200 ⟨"LaceBondsModel", "comes", "(II)I"⟩ ∈ gw := gt_8 (i := 212) (by decide +kernel) rfl
theorem w_1893 : Cond.instanceMethod ⟨"LaceBondsModel", "comes", "(II)I"⟩ ∈ gw := gt_8 (i := 213) (by decide +kernel) rfl
theorem w_1894 : Cond.selects "LaceBondsModel" ⟨"LaceBondsModel", "comes", "(II)I"⟩ ⟨"LaceBondsModel", "comes", "(II)I"⟩ ∈ gw := gt_8 (i := 214) (by decide +kernel) rfl
theorem w_1895 : Cond.code ⟨"LaceBondsModel", "comes", "(II)I"⟩ prog_14_method_96_code 4 (Option.some ClassFile.FieldType.int) ∈ gw := gt_8 (i := 215) (by decide +kernel) rfl
theorem w_1901 : Cond.methodLink "LaceBondsLaw" 203 ⟨"LaceBondsModel", "soonest", "(I)I"⟩ ∈ gw := gt_8 (i := 221) (by decide +kernel) rfl
theorem w_1902 : Cond.instanceMethod ⟨"LaceBondsModel", "soonest", "(I)I"⟩ ∈ gw := gt_8 (i := 222) (by decide +kernel) rfl
theorem w_1903 : Cond.selects "LaceBondsModel" ⟨"LaceBondsModel", "soonest", "(I)I"⟩ ⟨"LaceBondsModel", "soonest", "(I)I"⟩ ∈ gw := gt_8 (i := 223) (by decide +kernel) rfl
theorem w_1904 : Cond.code ⟨"LaceBondsModel", "soonest", "(I)I"⟩ prog_14_method_97_code 6 (Option.some ClassFile.FieldType.int) ∈ gw := gt_8 (i := 224) (by decide +kernel) rfl
theorem w_1905 : Cond.methodLink "LaceBondsLaw" 206 ⟨"LaceBondsModel", "carry", "(I)I"⟩ ∈ gw := gt_8 (i := 225) (by decide +kernel) rfl
theorem w_1906 : Cond.instanceMethod ⟨"LaceBondsModel", "carry", "(I)I"⟩ ∈ gw := gt_8 (i := 226) (by decide +kernel) rfl
theorem w_1907 : Cond.selects "LaceBondsModel" ⟨"LaceBondsModel", "carry", "(I)I"⟩ ⟨"LaceBondsModel", "carry", "(I)I"⟩ ∈ gw := gt_8 (i := 227) (by decide +kernel) rfl
theorem w_1908 : Cond.code ⟨"LaceBondsModel", "carry", "(I)I"⟩ prog_14_method_101_code 6 (Option.some ClassFile.FieldType.int) ∈ gw := gt_8 (i := 228) (by decide +kernel) rfl
theorem w_1924 : Cond.methodLink "LaceBondsLaw" 197 ⟨"LaceBondsModel", "solvent", "()I"⟩ ∈ gw := gt_9 (i := 4) (by decide +kernel) rfl
theorem w_1925 : Cond.instanceMethod ⟨"LaceBondsModel", "solvent", "()I"⟩ ∈ gw := gt_9 (i := 5) (by decide +kernel) rfl
theorem w_1926 : Cond.selects "LaceBondsModel" ⟨"LaceBondsModel", "solvent", "()I"⟩ ⟨"LaceBondsModel", "solvent", "()I"⟩ ∈ gw := gt_9 (i := 6) (by decide +kernel) rfl
theorem w_1927 : Cond.code ⟨"LaceBondsModel", "solvent", "()I"⟩ prog_14_method_102_code 3 (Option.some ClassFile.FieldType.int) ∈ gw := gt_9 (i := 7) (by decide +kernel) rfl
theorem w_1928 : Cond.methodLink "LaceBondsLaw" 214 ⟨"LaceBondsModel", "rings", "()I"⟩ ∈ gw := gt_9 (i := 8) (by decide +kernel) rfl
theorem w_1929 : Cond.instanceMethod ⟨"LaceBondsModel", "rings", "()I"⟩ ∈ gw := gt_9 (i := 9) (by decide +kernel) rfl
theorem w_1930 : Cond.selects "LaceBondsModel" ⟨"LaceBondsModel", "rings", "()I"⟩ ⟨"LaceBondsModel", "rings", "()I"⟩ ∈ gw := gt_9 (i := 10) (by decide +kernel) rfl
theorem w_1931 : Cond.code ⟨"LaceBondsModel", "rings", "()I"⟩ prog_14_method_104_code 4 (Option.some ClassFile.FieldType.int) ∈ gw := gt_9 (i := 11) (by decide +kernel) rfl
theorem w_1940 : Cond.methodLink "LaceBondsLaw" 218 ⟨"LaceBondsModel", "untie", "(Z)I"⟩ ∈ gw := gt_9 (i := 20) (by decide +kernel) rfl
theorem w_1941 : Cond.instanceMethod ⟨"LaceBondsModel", "untie", "(Z)I"⟩ ∈ gw := gt_9 (i := 21) (by decide +kernel) rfl
theorem w_1942 : Cond.selects "LaceBondsModel" ⟨"LaceBondsModel", "untie", "(Z)I"⟩ ⟨"LaceBondsModel", "untie", "(Z)I"⟩ ∈ gw := gt_9 (i := 22) (by decide +kernel) rfl
theorem w_1943 : Cond.code ⟨"LaceBondsModel", "untie", "(Z)I"⟩ prog_14_method_105_code 5 (Option.some ClassFile.FieldType.int) ∈ gw := gt_9 (i := 23) (by decide +kernel) rfl
theorem w_1944 : Cond.methodLink "LaceBondsLaw" 221 ⟨"LaceBondsModel", "owes", "(II)Z"⟩ ∈ gw := gt_9 (i := 24) (by decide +kernel) rfl
theorem w_1945 : Cond.instanceMethod ⟨"LaceBondsModel", "owes", "(II)Z"⟩ ∈ gw := gt_9 (i := 25) (by decide +kernel) rfl
theorem w_1946 : Cond.selects "LaceBondsModel" ⟨"LaceBondsModel", "owes", "(II)Z"⟩ ⟨"LaceBondsModel", "owes", "(II)Z"⟩ ∈ gw := gt_9 (i := 26) (by decide +kernel) rfl
theorem w_1947 : Cond.code ⟨"LaceBondsModel", "owes", "(II)Z"⟩ prog_14_method_108_code 3 (Option.some ClassFile.FieldType.boolean) ∈ gw := gt_9 (i := 27) (by decide +kernel) rfl
theorem w_1956 : Cond.methodLink "LaceBondsLaw" 224 ⟨"LaceBondsModel", "leads", "(I)I"⟩ ∈ gw := gt_9 (i := 36) (by decide +kernel) rfl
theorem w_1957 : Cond.instanceMethod ⟨"LaceBondsModel", "leads", "(I)I"⟩ ∈ gw := gt_9 (i := 37) (by decide +kernel) rfl
theorem w_1958 : Cond.selects "LaceBondsModel" ⟨"LaceBondsModel", "leads", "(I)I"⟩ ⟨"LaceBondsModel", "leads", "(I)I"⟩ ∈ gw := gt_9 (i := 38) (by decide +kernel) rfl
theorem w_1959 : Cond.code ⟨"LaceBondsModel", "leads", "(I)I"⟩ prog_14_method_109_code 2 (Option.some ClassFile.FieldType.int) ∈ gw := gt_9 (i := 39) (by decide +kernel) rfl
theorem w_1960 : Cond.methodLink "LaceBondsLaw" 228 ⟨"LaceBondsModel", "call", "(IZ)I"⟩ ∈ gw := gt_9 (i := 40) (by decide +kernel) rfl
theorem w_1961 : Cond.instanceMethod ⟨"LaceBondsModel", "call", "(IZ)I"⟩ ∈ gw := gt_9 (i := 41) (by decide +kernel) rfl
theorem w_1962 : Cond.selects "LaceBondsModel" ⟨"LaceBondsModel", "call", "(IZ)I"⟩ ⟨"LaceBondsModel", "call", "(IZ)I"⟩ ∈ gw := gt_9 (i := 42) (by decide +kernel) rfl
theorem w_1963 : Cond.code ⟨"LaceBondsModel", "call", "(IZ)I"⟩ prog_14_method_112_code 6 (Option.some ClassFile.FieldType.int) ∈ gw := gt_9 (i := 43) (by decide +kernel) rfl
theorem w_1972 : Cond.methodLink "LaceBondsLaw" 231 ⟨"LaceBondsModel", "breaks", "(I)I"⟩ ∈ gw := gt_9 (i := 52) (by decide +kernel) rfl
theorem w_1973 : Cond.instanceMethod ⟨"LaceBondsModel", "breaks", "(I)I"⟩ ∈ gw := gt_9 (i := 53) (by decide +kernel) rfl
theorem w_1974 : Cond.selects "LaceBondsModel" ⟨"LaceBondsModel", "breaks", "(I)I"⟩ ⟨"LaceBondsModel", "breaks", "(I)I"⟩ ∈ gw := gt_9 (i := 54) (by decide +kernel) rfl
theorem w_1975 : Cond.code ⟨"LaceBondsModel", "breaks", "(I)I"⟩ prog_14_method_113_code 4 (Option.some ClassFile.FieldType.int) ∈ gw := gt_9 (i := 55) (by decide +kernel) rfl
theorem w_1976 : Cond.methodLink "LaceBondsLaw" 234 ⟨"LaceBondsModel", "mercy", "(I)I"⟩ ∈ gw := gt_9 (i := 56) (by decide +kernel) rfl
theorem w_1977 : Cond.instanceMethod ⟨"LaceBondsModel", "mercy", "(I)I"⟩ ∈ gw := gt_9 (i := 57) (by decide +kernel) rfl
theorem w_1978 : Cond.selects "LaceBondsModel" ⟨"LaceBondsModel", "mercy", "(I)I"⟩ ⟨"LaceBondsModel", "mercy", "(I)I"⟩ ∈ gw := gt_9 (i := 58) (by decide +kernel) rfl
theorem w_1979 : Cond.code ⟨"LaceBondsModel", "mercy", "(I)I"⟩ prog_14_method_115_code 3 (Option.some ClassFile.FieldType.int) ∈ gw := gt_9 (i := 59) (by decide +kernel) rfl
theorem w_1984 : Cond.methodLink "LaceBondsLaw" 237 ⟨"LaceBondsModel", "hangs", "(I)I"⟩ ∈ gw := gt_9 (i := 64) (by decide +kernel) rfl
theorem w_1985 : Cond.instanceMethod ⟨"LaceBondsModel", "hangs", "(I)I"⟩ ∈ gw := gt_9 (i := 65) (by decide +kernel) rfl
theorem w_1986 : Cond.selects "LaceBondsModel" ⟨"LaceBondsModel", "hangs", "(I)I"⟩ ⟨"LaceBondsModel", "hangs", "(I)I"⟩ ∈ gw := gt_9 (i := 66) (by decide +kernel) rfl
theorem w_1987 : Cond.code ⟨"LaceBondsModel", "hangs", "(I)I"⟩ prog_14_method_117_code 2 (Option.some ClassFile.FieldType.int) ∈ gw := gt_9 (i := 67) (by decide +kernel) rfl
theorem w_1992 : Cond.methodLink "LaceBondsLaw" 241 ⟨"LaceBondsModel", "trust", "()I"⟩ ∈ gw := gt_9 (i := 72) (by decide +kernel) rfl
theorem w_1993 : Cond.instanceMethod ⟨"LaceBondsModel", "trust", "()I"⟩ ∈ gw := gt_9 (i := 73) (by decide +kernel) rfl
theorem w_1994 : Cond.selects "LaceBondsModel" ⟨"LaceBondsModel", "trust", "()I"⟩ ⟨"LaceBondsModel", "trust", "()I"⟩ ∈ gw := gt_9 (i := 74) (by decide +kernel) rfl
theorem w_1995 : Cond.code ⟨"LaceBondsModel", "trust", "()I"⟩ prog_14_method_118_code 5 (Option.some ClassFile.FieldType.int) ∈ gw := gt_9 (i := 75) (by decide +kernel) rfl
theorem w_1996 : Cond.methodLink "LaceBondsLaw" 245 ⟨"LaceBondsModel", "needed", "()I"⟩ ∈ gw := gt_9 (i := 76) (by decide +kernel) rfl
theorem w_1997 : Cond.instanceMethod ⟨"LaceBondsModel", "needed", "()I"⟩ ∈ gw := gt_9 (i := 77) (by decide +kernel) rfl
theorem w_1998 : Cond.selects "LaceBondsModel" ⟨"LaceBondsModel", "needed", "()I"⟩ ⟨"LaceBondsModel", "needed", "()I"⟩ ∈ gw := gt_9 (i := 78) (by decide +kernel) rfl
theorem w_1999 : Cond.code ⟨"LaceBondsModel", "needed", "()I"⟩ prog_14_method_120_code 3 (Option.some ClassFile.FieldType.int) ∈ gw := gt_9 (i := 79) (by decide +kernel) rfl
theorem w_2008 : Cond.methodLink "LaceBondsLaw" 249 ⟨"LaceBondsModel", "wear", "(Z)I"⟩ ∈ gw := gt_9 (i := 88) (by decide +kernel) rfl
theorem w_2009 : Cond.instanceMethod ⟨"LaceBondsModel", "wear", "(Z)I"⟩ ∈ gw := gt_9 (i := 89) (by decide +kernel) rfl
theorem w_2010 : Cond.selects "LaceBondsModel" ⟨"LaceBondsModel", "wear", "(Z)I"⟩ ⟨"LaceBondsModel", "wear", "(Z)I"⟩ ∈ gw := gt_9 (i := 90) (by decide +kernel) rfl
theorem w_2011 : Cond.code ⟨"LaceBondsModel", "wear", "(Z)I"⟩ prog_14_method_123_code 5 (Option.some ClassFile.FieldType.int) ∈ gw := gt_9 (i := 91) (by decide +kernel) rfl
theorem w_2020 : Cond.methodLink "LaceBondsLaw" 252 ⟨"LaceBondsModel", "look", "()I"⟩ ∈ gw := gt_9 (i := 100) (by decide +kernel) rfl
theorem w_2021 : Cond.instanceMethod ⟨"LaceBondsModel", "look", "()I"⟩ ∈ gw := gt_9 (i := 101) (by decide +kernel) rfl
theorem w_2022 : Cond.selects "LaceBondsModel" ⟨"LaceBondsModel", "look", "()I"⟩ ⟨"LaceBondsModel", "look", "()I"⟩ ∈ gw := gt_9 (i := 102) (by decide +kernel) rfl
theorem w_2023 : Cond.code ⟨"LaceBondsModel", "look", "()I"⟩ prog_14_method_124_code 7 (Option.some ClassFile.FieldType.int) ∈ gw := gt_9 (i := 103) (by decide +kernel) rfl
theorem w_2024 : Cond.methodLink "LaceBondsLaw" 255 ⟨"LaceBondsModel", "race", "(I)I"⟩ ∈ gw := gt_9 (i := 104) (by decide +kernel) rfl
theorem w_2025 : Cond.instanceMethod ⟨"LaceBondsModel", "race", "(I)I"⟩ ∈ gw := gt_9 (i := 105) (by decide +kernel) rfl
theorem w_2026 : Cond.selects "LaceBondsModel" ⟨"LaceBondsModel", "race", "(I)I"⟩ ⟨"LaceBondsModel", "race", "(I)I"⟩ ∈ gw := gt_9 (i := 106) (by decide +kernel) rfl
theorem w_2027 : Cond.code ⟨"LaceBondsModel", "race", "(I)I"⟩ prog_14_method_126_code 2 (Option.some ClassFile.FieldType.int) ∈ gw := gt_9 (i := 107) (by decide +kernel) rfl
theorem w_2032 : Cond.methodLink "LaceBondsLaw" 259 ⟨"LaceBondsModel", "pairs", "()I"⟩ ∈ gw := gt_9 (i := 112) (by decide +kernel) rfl
theorem w_2033 : Cond.instanceMethod ⟨"LaceBondsModel", "pairs", "()I"⟩ ∈ gw := gt_9 (i := 113) (by decide +kernel) rfl
theorem w_2034 : Cond.selects "LaceBondsModel" ⟨"LaceBondsModel", "pairs", "()I"⟩ ⟨"LaceBondsModel", "pairs", "()I"⟩ ∈ gw := gt_9 (i := 114) (by decide +kernel) rfl
theorem w_2035 : Cond.code ⟨"LaceBondsModel", "pairs", "()I"⟩ prog_14_method_127_code 3 (Option.some ClassFile.FieldType.int) ∈ gw := gt_9 (i := 115) (by decide +kernel) rfl
theorem w_2036 : Cond.methodLink "LaceBondsLaw" 262 ⟨"LaceBondsModel", "lends", "(I)I"⟩ ∈ gw := gt_9 (i := 116) (by decide +kernel) rfl
theorem w_2037 : Cond.instanceMethod ⟨"LaceBondsModel", "lends", "(I)I"⟩ ∈ gw := gt_9 (i := 117) (by decide +kernel) rfl
theorem w_2038 : Cond.selects "LaceBondsModel" ⟨"LaceBondsModel", "lends", "(I)I"⟩ ⟨"LaceBondsModel", "lends", "(I)I"⟩ ∈ gw := gt_9 (i := 118) (by decide +kernel) rfl
theorem w_2039 : Cond.code ⟨"LaceBondsModel", "lends", "(I)I"⟩ prog_14_method_128_code 5 (Option.some ClassFile.FieldType.int) ∈ gw := gt_9 (i := 119) (by decide +kernel) rfl
theorem w_2040 : Cond.methodLink "LaceBondsLaw" 265 ⟨"LaceBondsModel", "loose", "(I)I"⟩ ∈ gw := gt_9 (i := 120) (by decide +kernel) rfl
theorem w_2041 : Cond.instanceMethod ⟨"LaceBondsModel", "loose", "(I)I"⟩ ∈ gw := gt_9 (i := 121) (by decide +kernel) rfl
theorem w_2042 : Cond.selects "LaceBondsModel" ⟨"LaceBondsModel", "loose", "(I)I"⟩ ⟨"LaceBondsModel", "loose", "(I)I"⟩ ∈ gw := gt_9 (i := 122) (by decide +kernel) rfl
theorem w_2043 : Cond.code ⟨"LaceBondsModel", "loose", "(I)I"⟩ prog_14_method_129_code 4 (Option.some ClassFile.FieldType.int) ∈ gw := gt_9 (i := 123) (by decide +kernel) rfl
theorem w_2044 : Cond.methodLink "LaceBondsLaw" 269 ⟨"LaceBondsModel", "rail", "()I"⟩ ∈ gw := gt_9 (i := 124) (by decide +kernel) rfl
theorem w_2045 : Cond.instanceMethod ⟨"LaceBondsModel", "rail", "()I"⟩ ∈ gw := gt_9 (i := 125) (by decide +kernel) rfl
theorem w_2046 : Cond.selects "LaceBondsModel" ⟨"LaceBondsModel", "rail", "()I"⟩ ⟨"LaceBondsModel", "rail", "()I"⟩ ∈ gw := gt_9 (i := 126) (by decide +kernel) rfl
theorem w_2047 : Cond.code ⟨"LaceBondsModel", "rail", "()I"⟩ prog_14_method_130_code 1 (Option.some ClassFile.FieldType.int) ∈ gw := gt_9 (i := 127) (by decide +kernel) rfl
theorem w_2048 : Cond.methodLink "LaceBondsLaw" 272 ⟨"LaceBondsModel", "trial", "(IZ)I"⟩ ∈ gw := gt_9 (i := 128) (by decide +kernel) rfl
theorem w_2049 : Cond.instanceMethod ⟨"LaceBondsModel", "trial", "(IZ)I"⟩ ∈ gw := gt_9 (i := 129) (by decide +kernel) rfl
theorem w_2050 : Cond.selects "LaceBondsModel" ⟨"LaceBondsModel", "trial", "(IZ)I"⟩ ⟨"LaceBondsModel", "trial", "(IZ)I"⟩ ∈ gw := gt_9 (i := 130) (by decide +kernel) rfl
theorem w_2051 : Cond.code ⟨"LaceBondsModel", "trial", "(IZ)I"⟩ prog_14_method_131_code 4 (Option.some ClassFile.FieldType.int) ∈ gw := gt_9 (i := 131) (by decide +kernel) rfl
theorem w_2052 : Cond.methodLink "LaceBondsLaw" 275 ⟨"LaceBondsModel", "span", "(IZ)I"⟩ ∈ gw := gt_9 (i := 132) (by decide +kernel) rfl
theorem w_2053 : Cond.instanceMethod ⟨"LaceBondsModel", "span", "(IZ)I"⟩ ∈ gw := gt_9 (i := 133) (by decide +kernel) rfl
theorem w_2054 : Cond.selects "LaceBondsModel" ⟨"LaceBondsModel", "span", "(IZ)I"⟩ ⟨"LaceBondsModel", "span", "(IZ)I"⟩ ∈ gw := gt_9 (i := 134) (by decide +kernel) rfl
theorem w_2055 : Cond.code ⟨"LaceBondsModel", "span", "(IZ)I"⟩ prog_14_method_132_code 6 (Option.some ClassFile.FieldType.int) ∈ gw := gt_9 (i := 135) (by decide +kernel) rfl
theorem w_2056 : Cond.methodLink "LaceBondsLaw" 278 ⟨"LaceBondsModel", "led", "(IZ)I"⟩ ∈ gw := gt_9 (i := 136) (by decide +kernel) rfl
theorem w_2057 : Cond.instanceMethod ⟨"LaceBondsModel", "led", "(IZ)I"⟩ ∈ gw := gt_9 (i := 137) (by decide +kernel) rfl
theorem w_2058 : Cond.selects "LaceBondsModel" ⟨"LaceBondsModel", "led", "(IZ)I"⟩ ⟨"LaceBondsModel", "led", "(IZ)I"⟩ ∈ gw := gt_9 (i := 138) (by decide +kernel) rfl
theorem w_2059 : Cond.code ⟨"LaceBondsModel", "led", "(IZ)I"⟩ prog_14_method_134_code 6 (Option.some ClassFile.FieldType.int) ∈ gw := gt_9 (i := 139) (by decide +kernel) rfl
theorem w_2064 : Cond.methodLink "LaceBondsLaw" 281 ⟨"LaceBondsModel", "log", "(II)I"⟩ ∈ gw := gt_9 (i := 144) (by decide +kernel) rfl
theorem w_2065 : Cond.instanceMethod ⟨"LaceBondsModel", "log", "(II)I"⟩ ∈ gw := gt_9 (i := 145) (by decide +kernel) rfl
theorem w_2066 : Cond.selects "LaceBondsModel" ⟨"LaceBondsModel", "log", "(II)I"⟩ ⟨"LaceBondsModel", "log", "(II)I"⟩ ∈ gw := gt_9 (i := 146) (by decide +kernel) rfl
theorem w_2067 : Cond.code ⟨"LaceBondsModel", "log", "(II)I"⟩ prog_14_method_135_code 3 (Option.some ClassFile.FieldType.int) ∈ gw := gt_9 (i := 147) (by decide +kernel) rfl
theorem w_2068 : Cond.methodLink "LaceBondsLaw" 285 ⟨"LaceBondsModel", "seed", "(I)I"⟩ ∈ gw := gt_9 (i := 148) (by decide +kernel) rfl
theorem w_2069 : Cond.instanceMethod ⟨"LaceBondsModel", "seed", "(I)I"⟩ ∈ gw := gt_9 (i := 149) (by decide +kernel) rfl
theorem w_2070 : Cond.selects "LaceBondsModel" ⟨"LaceBondsModel", "seed", "(I)I"⟩ ⟨"LaceBondsModel", "seed", "(I)I"⟩ ∈ gw := gt_9 (i := 150) (by decide +kernel) rfl
theorem w_2071 : Cond.code ⟨"LaceBondsModel", "seed", "(I)I"⟩ prog_14_method_136_code 3 (Option.some ClassFile.FieldType.int) ∈ gw := gt_9 (i := 151) (by decide +kernel) rfl
theorem w_2072 : Cond.methodLink "LaceBondsLaw" 302 ⟨"LaceBondsModel", "count", "(I)I"⟩ ∈ gw := gt_9 (i := 152) (by decide +kernel) rfl
theorem w_2073 : Cond.instanceMethod ⟨"LaceBondsModel", "count", "(I)I"⟩ ∈ gw := gt_9 (i := 153) (by decide +kernel) rfl
theorem w_2074 : Cond.selects "LaceBondsModel" ⟨"LaceBondsModel", "count", "(I)I"⟩ ⟨"LaceBondsModel", "count", "(I)I"⟩ ∈ gw := gt_9 (i := 154) (by decide +kernel) rfl
theorem w_2075 : Cond.code ⟨"LaceBondsModel", "count", "(I)I"⟩ prog_14_method_138_code 2 (Option.some ClassFile.FieldType.int) ∈ gw := gt_9 (i := 155) (by decide +kernel) rfl
theorem w_380 : Cond.methodLink "LaceBondsLaw" 130 ⟨"LaceBonds", "feed", "(IIIII)I"⟩ ∈ gw := gt_2 (i := 140) (by decide +kernel) rfl
theorem w_381 : Cond.instanceMethod ⟨"LaceBonds", "feed", "(IIIII)I"⟩ ∈ gw := gt_2 (i := 141) (by decide +kernel) rfl
theorem w_382 : Cond.selects "LaceBonds" ⟨"LaceBonds", "feed", "(IIIII)I"⟩ ⟨"LaceBonds", "feed", "(IIIII)I"⟩ ∈ gw := gt_2 (i := 142) (by decide +kernel) rfl
theorem w_383 : Cond.code ⟨"LaceBonds", "feed", "(IIIII)I"⟩ prog_1_method_2_code 6 (Option.some ClassFile.FieldType.int) ∈ gw := gt_2 (i := 143) (by decide +kernel) rfl
theorem w_388 : Cond.methodLink "LaceBondsLaw" 134 ⟨"LaceBonds", "end", "(I)Z"⟩ ∈ gw := gt_2 (i := 148) (by decide +kernel) rfl
theorem w_389 : Cond.instanceMethod ⟨"LaceBonds", "end", "(I)Z"⟩ ∈ gw := gt_2 (i := 149) (by decide +kernel) rfl
theorem w_390 : Cond.selects "LaceBonds" ⟨"LaceBonds", "end", "(I)Z"⟩ ⟨"LaceBonds", "end", "(I)Z"⟩ ∈ gw := gt_2 (i := 150) (by decide +kernel) rfl
theorem w_391 : Cond.code ⟨"LaceBonds", "end", "(I)Z"⟩ prog_1_method_3_code 2 (Option.some ClassFile.FieldType.boolean) ∈ gw := gt_2 (i := 151) (by decide +kernel) rfl
theorem w_392 : Cond.methodLink "LaceBondsLaw" 151 ⟨"LaceBonds", "fault", "()I"⟩ ∈ gw := gt_2 (i := 152) (by decide +kernel) rfl
theorem w_393 : Cond.instanceMethod ⟨"LaceBonds", "fault", "()I"⟩ ∈ gw := gt_2 (i := 153) (by decide +kernel) rfl
theorem w_394 : Cond.selects "LaceBonds" ⟨"LaceBonds", "fault", "()I"⟩ ⟨"LaceBonds", "fault", "()I"⟩ ∈ gw := gt_2 (i := 154) (by decide +kernel) rfl
theorem w_395 : Cond.code ⟨"LaceBonds", "fault", "()I"⟩ prog_1_method_6_code 1 (Option.some ClassFile.FieldType.int) ∈ gw := gt_2 (i := 155) (by decide +kernel) rfl
theorem w_396 : Cond.methodLink "LaceBondsLaw" 194 ⟨"LaceBonds", "solvent", "()I"⟩ ∈ gw := gt_2 (i := 156) (by decide +kernel) rfl
theorem w_397 : Cond.instanceMethod ⟨"LaceBonds", "solvent", "()I"⟩ ∈ gw := gt_2 (i := 157) (by decide +kernel) rfl
theorem w_398 : Cond.selects "LaceBonds" ⟨"LaceBonds", "solvent", "()I"⟩ ⟨"LaceBonds", "solvent", "()I"⟩ ∈ gw := gt_2 (i := 158) (by decide +kernel) rfl
theorem w_399 : Cond.code ⟨"LaceBonds", "solvent", "()I"⟩ prog_1_method_19_code 3 (Option.some ClassFile.FieldType.int) ∈ gw := gt_2 (i := 159) (by decide +kernel) rfl
theorem w_414 : Cond.methodLink "LaceBondsLaw" 211 ⟨"LaceBonds", "rings", "()I"⟩ ∈ gw := gt_2 (i := 174) (by decide +kernel) rfl
theorem w_415 : Cond.instanceMethod ⟨"LaceBonds", "rings", "()I"⟩ ∈ gw := gt_2 (i := 175) (by decide +kernel) rfl
theorem w_416 : Cond.selects "LaceBonds" ⟨"LaceBonds", "rings", "()I"⟩ ⟨"LaceBonds", "rings", "()I"⟩ ∈ gw := gt_2 (i := 176) (by decide +kernel) rfl
theorem w_417 : Cond.code ⟨"LaceBonds", "rings", "()I"⟩ prog_1_method_24_code 1 (Option.some ClassFile.FieldType.int) ∈ gw := gt_2 (i := 177) (by decide +kernel) rfl
theorem w_452 : Cond.methodLink "LaceBondsLaw" 215 ⟨"LaceBonds", "untie", "(Z)I"⟩ ∈ gw := gt_2 (i := 212) (by decide +kernel) rfl
theorem w_453 : Cond.instanceMethod ⟨"LaceBonds", "untie", "(Z)I"⟩ ∈ gw := gt_2 (i := 213) (by decide +kernel) rfl
theorem w_454 : Cond.selects "LaceBonds" ⟨"LaceBonds", "untie", "(Z)I"⟩ ⟨"LaceBonds", "untie", "(Z)I"⟩ ∈ gw := gt_2 (i := 214) (by decide +kernel) rfl
theorem w_455 : Cond.code ⟨"LaceBonds", "untie", "(Z)I"⟩ prog_1_method_25_code 2 (Option.some ClassFile.FieldType.int) ∈ gw := gt_2 (i := 215) (by decide +kernel) rfl
theorem w_457 : Cond.methodLink "LaceBondsLaw" 238 ⟨"LaceBonds", "trust", "()I"⟩ ∈ gw := gt_2 (i := 217) (by decide +kernel) rfl
theorem w_458 : Cond.instanceMethod ⟨"LaceBonds", "trust", "()I"⟩ ∈ gw := gt_2 (i := 218) (by decide +kernel) rfl
theorem w_459 : Cond.selects "LaceBonds" ⟨"LaceBonds", "trust", "()I"⟩ ⟨"LaceBonds", "trust", "()I"⟩ ∈ gw := gt_2 (i := 219) (by decide +kernel) rfl
theorem w_460 : Cond.code ⟨"LaceBonds", "trust", "()I"⟩ prog_1_method_32_code 5 (Option.some ClassFile.FieldType.int) ∈ gw := gt_2 (i := 220) (by decide +kernel) rfl
theorem w_466 : Cond.methodLink "LaceBondsLaw" 242 ⟨"LaceBonds", "needed", "()I"⟩ ∈ gw := gt_2 (i := 226) (by decide +kernel) rfl
theorem w_467 : Cond.instanceMethod ⟨"LaceBonds", "needed", "()I"⟩ ∈ gw := gt_2 (i := 227) (by decide +kernel) rfl
theorem w_468 : Cond.selects "LaceBonds" ⟨"LaceBonds", "needed", "()I"⟩ ⟨"LaceBonds", "needed", "()I"⟩ ∈ gw := gt_2 (i := 228) (by decide +kernel) rfl
theorem w_469 : Cond.code ⟨"LaceBonds", "needed", "()I"⟩ prog_1_method_33_code 3 (Option.some ClassFile.FieldType.int) ∈ gw := gt_2 (i := 229) (by decide +kernel) rfl
theorem w_480 : Cond.methodLink "LaceBondsLaw" 256 ⟨"LaceBonds", "pairs", "()I"⟩ ∈ gw := gt_3 (i := 0) (by decide +kernel) rfl
theorem w_481 : Cond.instanceMethod ⟨"LaceBonds", "pairs", "()I"⟩ ∈ gw := gt_3 (i := 1) (by decide +kernel) rfl
theorem w_482 : Cond.selects "LaceBonds" ⟨"LaceBonds", "pairs", "()I"⟩ ⟨"LaceBonds", "pairs", "()I"⟩ ∈ gw := gt_3 (i := 2) (by decide +kernel) rfl
theorem w_483 : Cond.code ⟨"LaceBonds", "pairs", "()I"⟩ prog_1_method_37_code 5 (Option.some ClassFile.FieldType.int) ∈ gw := gt_3 (i := 3) (by decide +kernel) rfl
theorem w_521 : Cond.methodLink "LaceBondsLaw" 266 ⟨"LaceBonds", "rail", "()I"⟩ ∈ gw := gt_3 (i := 41) (by decide +kernel) rfl
theorem w_522 : Cond.instanceMethod ⟨"LaceBonds", "rail", "()I"⟩ ∈ gw := gt_3 (i := 42) (by decide +kernel) rfl
theorem w_523 : Cond.selects "LaceBonds" ⟨"LaceBonds", "rail", "()I"⟩ ⟨"LaceBonds", "rail", "()I"⟩ ∈ gw := gt_3 (i := 43) (by decide +kernel) rfl
theorem w_524 : Cond.code ⟨"LaceBonds", "rail", "()I"⟩ prog_1_method_40_code 1 (Option.some ClassFile.FieldType.int) ∈ gw := gt_3 (i := 44) (by decide +kernel) rfl
theorem w_529 : Cond.methodLink "LaceBondsLaw" 282 ⟨"LaceBonds", "seed", "(I)I"⟩ ∈ gw := gt_3 (i := 49) (by decide +kernel) rfl
theorem w_530 : Cond.instanceMethod ⟨"LaceBonds", "seed", "(I)I"⟩ ∈ gw := gt_3 (i := 50) (by decide +kernel) rfl
theorem w_531 : Cond.selects "LaceBonds" ⟨"LaceBonds", "seed", "(I)I"⟩ ⟨"LaceBonds", "seed", "(I)I"⟩ ∈ gw := gt_3 (i := 51) (by decide +kernel) rfl
theorem w_532 : Cond.code ⟨"LaceBonds", "seed", "(I)I"⟩ prog_1_method_45_code 3 (Option.some ClassFile.FieldType.int) ∈ gw := gt_3 (i := 52) (by decide +kernel) rfl
theorem w_533 : Cond.methodLink "LaceBondsLaw" 286 ⟨"LaceBonds", "undo", "()Z"⟩ ∈ gw := gt_3 (i := 53) (by decide +kernel) rfl
theorem w_534 : Cond.instanceMethod ⟨"LaceBonds", "undo", "()Z"⟩ ∈ gw := gt_3 (i := 54) (by decide +kernel) rfl
theorem w_535 : Cond.selects "LaceBonds" ⟨"LaceBonds", "undo", "()Z"⟩ ⟨"LaceBonds", "undo", "()Z"⟩ ∈ gw := gt_3 (i := 55) (by decide +kernel) rfl
theorem w_536 : Cond.code ⟨"LaceBonds", "undo", "()Z"⟩ prog_1_method_46_code 1 (Option.some ClassFile.FieldType.boolean) ∈ gw := gt_3 (i := 56) (by decide +kernel) rfl
theorem w_553 : Cond.methodLink "LaceBondsLaw" 291 ⟨"LaceBonds", "image", "()V"⟩ ∈ gw := gt_3 (i := 73) (by decide +kernel) rfl
theorem w_554 : Cond.instanceMethod ⟨"LaceBonds", "image", "()V"⟩ ∈ gw := gt_3 (i := 74) (by decide +kernel) rfl
theorem w_555 : Cond.selects "LaceBonds" ⟨"LaceBonds", "image", "()V"⟩ ⟨"LaceBonds", "image", "()V"⟩ ∈ gw := gt_3 (i := 75) (by decide +kernel) rfl
theorem w_556 : Cond.code ⟨"LaceBonds", "image", "()V"⟩ prog_1_method_47_code 1 (none) ∈ gw := gt_3 (i := 76) (by decide +kernel) rfl
theorem w_563 : Cond.methodLink "LaceBondsLaw" 295 ⟨"LaceBonds", "back", "()Z"⟩ ∈ gw := gt_3 (i := 83) (by decide +kernel) rfl
theorem w_564 : Cond.instanceMethod ⟨"LaceBonds", "back", "()Z"⟩ ∈ gw := gt_3 (i := 84) (by decide +kernel) rfl
theorem w_565 : Cond.selects "LaceBonds" ⟨"LaceBonds", "back", "()Z"⟩ ⟨"LaceBonds", "back", "()Z"⟩ ∈ gw := gt_3 (i := 85) (by decide +kernel) rfl
theorem w_566 : Cond.code ⟨"LaceBonds", "back", "()Z"⟩ prog_1_method_48_code 1 (Option.some ClassFile.FieldType.boolean) ∈ gw := gt_3 (i := 86) (by decide +kernel) rfl
theorem w_571 : Cond.methodLink "LaceBondsLaw" 299 ⟨"LaceBonds", "count", "(I)I"⟩ ∈ gw := gt_3 (i := 91) (by decide +kernel) rfl
theorem w_572 : Cond.instanceMethod ⟨"LaceBonds", "count", "(I)I"⟩ ∈ gw := gt_3 (i := 92) (by decide +kernel) rfl
theorem w_573 : Cond.selects "LaceBonds" ⟨"LaceBonds", "count", "(I)I"⟩ ⟨"LaceBonds", "count", "(I)I"⟩ ∈ gw := gt_3 (i := 93) (by decide +kernel) rfl
theorem w_574 : Cond.code ⟨"LaceBonds", "count", "(I)I"⟩ prog_1_method_49_code 2 (Option.some ClassFile.FieldType.int) ∈ gw := gt_3 (i := 94) (by decide +kernel) rfl
theorem w_579 : Cond.methodLink "LaceBondsLaw" 139 ⟨"LaceBondsLaw", "land", "(LLaceBonds;[J)I"⟩ ∈ gw := gt_3 (i := 99) (by decide +kernel) rfl
theorem w_580 : Cond.static ⟨"LaceBondsLaw", "land", "(LLaceBonds;[J)I"⟩ ∈ gw := gt_3 (i := 100) (by decide +kernel) rfl
theorem w_581 : Cond.codeWith ⟨"LaceBondsLaw", "land", "(LLaceBonds;[J)I"⟩ method_3_code 3 (Option.some ClassFile.FieldType.int) [(0, 8, 11, 13), (0, 8, 14, 15)] ∈ gw := gt_3 (i := 101) (by decide +kernel) rfl
theorem w_908 : Cond.methodLink "LaceBondsLaw" 148 ⟨"LaceBondsLaw", "law", "(LLaceBonds;[J)I"⟩ ∈ gw := gt_4 (i := 188) (by decide +kernel) rfl
theorem w_909 : Cond.static ⟨"LaceBondsLaw", "law", "(LLaceBonds;[J)I"⟩ ∈ gw := gt_4 (i := 189) (by decide +kernel) rfl
theorem w_910 : Cond.codeWith ⟨"LaceBondsLaw", "law", "(LLaceBonds;[J)I"⟩ method_4_code 3 (Option.some ClassFile.FieldType.int) [(0, 8, 11, 13)] ∈ gw := gt_4 (i := 190) (by decide +kernel) rfl
theorem w_923 : Cond.methodLink "LaceBondsLaw" 155 ⟨"LaceBondsLaw", "person", "(LLaceBonds;II[J)I"⟩ ∈ gw := gt_4 (i := 203) (by decide +kernel) rfl
theorem w_924 : Cond.static ⟨"LaceBondsLaw", "person", "(LLaceBonds;II[J)I"⟩ ∈ gw := gt_4 (i := 204) (by decide +kernel) rfl
theorem w_925 : Cond.codeWith ⟨"LaceBondsLaw", "person", "(LLaceBonds;II[J)I"⟩ method_5_code 5 (Option.some ClassFile.FieldType.int) [(0, 10, 13, 24), (0, 10, 17, 26)] ∈ gw := gt_4 (i := 205) (by decide +kernel) rfl
theorem w_981 : Cond.methodLink "LaceBondsLaw" 159 ⟨"LaceBondsLaw", "lace", "(LLaceBonds;II[J)I"⟩ ∈ gw := gt_5 (i := 21) (by decide +kernel) rfl
theorem w_982 : Cond.static ⟨"LaceBondsLaw", "lace", "(LLaceBonds;II[J)I"⟩ ∈ gw := gt_5 (i := 22) (by decide +kernel) rfl
theorem w_983 : Cond.codeWith ⟨"LaceBondsLaw", "lace", "(LLaceBonds;II[J)I"⟩ method_6_code 5 (Option.some ClassFile.FieldType.int) [(0, 10, 13, 24), (0, 10, 17, 26)] ∈ gw := gt_5 (i := 23) (by decide +kernel) rfl
theorem w_994 : Cond.methodLink "LaceBondsLaw" 162 ⟨"LaceBondsLaw", "mud", "(LLaceBonds;I[J)I"⟩ ∈ gw := gt_5 (i := 34) (by decide +kernel) rfl
theorem w_995 : Cond.static ⟨"LaceBondsLaw", "mud", "(LLaceBonds;I[J)I"⟩ ∈ gw := gt_5 (i := 35) (by decide +kernel) rfl
theorem w_996 : Cond.codeWith ⟨"LaceBondsLaw", "mud", "(LLaceBonds;I[J)I"⟩ method_7_code 4 (Option.some ClassFile.FieldType.int) [(0, 9, 12, 24)] ∈ gw := gt_5 (i := 36) (by decide +kernel) rfl
theorem ks_RL_139 : LkS RL 139 yL_land := ⟨w_579, w_580⟩
theorem ks_RL_148 : LkS RL 148 yL_law := ⟨w_908, w_909⟩
theorem ks_RL_155 : LkS RL 155 yL_person := ⟨w_923, w_924⟩
theorem ks_RL_159 : LkS RL 159 yL_lace := ⟨w_981, w_982⟩
theorem ks_RL_162 : LkS RL 162 yL_mud := ⟨w_994, w_995⟩
theorem ks_RL_166 : LkS RL 166 yL_walks := ⟨w_1006, w_1007⟩
theorem ks_RL_169 : LkS RL 169 yL_grows := ⟨w_1021, w_1022⟩
theorem ks_RL_172 : LkS RL 172 yL_lend := ⟨w_1033, w_1034⟩
theorem ks_RL_176 : LkS RL 176 yL_pay := ⟨w_1074, w_1075⟩
theorem ks_RL_179 : LkS RL 179 yL_surety := ⟨w_1088, w_1089⟩
theorem ks_RL_182 : LkS RL 182 yL_give := ⟨w_1101, w_1102⟩
theorem ks_RL_185 : LkS RL 185 yL_goal := ⟨w_1110, w_1111⟩
theorem ks_RL_188 : LkS RL 188 yL_rest := ⟨w_1117, w_1118⟩
theorem ks_RL_191 : LkS RL 191 yL_days := ⟨w_1124, w_1125⟩
theorem ks_RL_198 : LkS RL 198 yL_comes := ⟨w_1161, w_1162⟩
theorem ks_RL_201 : LkS RL 201 yL_soonest := ⟨w_1172, w_1173⟩
theorem ks_RL_204 : LkS RL 204 yL_carry := ⟨w_1179, w_1180⟩
theorem ks_RL_207 : LkS RL 207 yL_ahead := ⟨w_1220, w_1221⟩
theorem ks_RL_219 : LkS RL 219 yL_owes := ⟨w_1232, w_1233⟩
theorem ks_RL_222 : LkS RL 222 yL_leads := ⟨w_1253, w_1254⟩
theorem ks_RL_225 : LkS RL 225 yL_call := ⟨w_1260, w_1261⟩
theorem ks_RL_229 : LkS RL 229 yL_breaks := ⟨w_1279, w_1280⟩
theorem ks_RL_232 : LkS RL 232 yL_mercy := ⟨w_1286, w_1287⟩
theorem ks_RL_235 : LkS RL 235 yL_hangs := ⟨w_1298, w_1299⟩
theorem ks_RL_246 : LkS RL 246 yL_wear := ⟨w_1305, w_1306⟩
theorem ks_RL_250 : LkS RL 250 yL_look := ⟨w_1335, w_1336⟩
theorem ks_RL_253 : LkS RL 253 yL_race := ⟨w_1347, w_1348⟩
theorem ks_RL_260 : LkS RL 260 yL_lends := ⟨w_1354, w_1355⟩
theorem ks_RL_263 : LkS RL 263 yL_loose := ⟨w_1363, w_1364⟩
theorem ks_RL_270 : LkS RL 270 yL_trial := ⟨w_1370, w_1371⟩
theorem ks_RL_273 : LkS RL 273 yL_span := ⟨w_1377, w_1378⟩
theorem ks_RL_276 : LkS RL 276 yL_led := ⟨w_1386, w_1387⟩
theorem ks_RL_279 : LkS RL 279 yL_log := ⟨w_1416, w_1417⟩
theorem kv_RL_130 : LkV RL 130 yX11_feed := ⟨w_380, w_381, w_382⟩
theorem kv_RL_133 : LkV RL 133 yX12_feed := ⟨w_1528, w_1529, w_1530⟩
theorem kv_RL_134 : LkV RL 134 yX11_end := ⟨w_388, w_389, w_390⟩
theorem kv_RL_138 : LkV RL 138 yX12_end := ⟨w_1532, w_1533, w_1534⟩
theorem kv_RL_144 : LkV RL 144 yX12_land := ⟨w_1540, w_1541, w_1542⟩
theorem kv_RL_145 : LkV RL 145 yX12_thrown := ⟨w_1434, w_1435, w_1436⟩
theorem kv_RL_150 : LkV RL 150 yX12_law := ⟨w_1699, w_1700, w_1701⟩
theorem kv_RL_151 : LkV RL 151 yX11_fault := ⟨w_392, w_393, w_394⟩
theorem kv_RL_154 : LkV RL 154 yX12_fault := ⟨w_1536, w_1537, w_1538⟩
theorem kv_RL_158 : LkV RL 158 yX12_person := ⟨w_1703, w_1704, w_1705⟩
theorem kv_RL_161 : LkV RL 161 yX12_lace := ⟨w_1747, w_1748, w_1749⟩
theorem kv_RL_165 : LkV RL 165 yX12_mud := ⟨w_1755, w_1756, w_1757⟩
theorem kv_RL_168 : LkV RL 168 yX12_walks := ⟨w_1762, w_1763, w_1764⟩
theorem kv_RL_171 : LkV RL 171 yX12_grows := ⟨w_1800, w_1801, w_1802⟩
theorem kv_RL_175 : LkV RL 175 yX12_lend := ⟨w_1808, w_1809, w_1810⟩
theorem kv_RL_178 : LkV RL 178 yX12_pay := ⟨w_1824, w_1825, w_1826⟩
theorem kv_RL_181 : LkV RL 181 yX12_surety := ⟨w_1832, w_1833, w_1834⟩
theorem kv_RL_184 : LkV RL 184 yX12_give := ⟨w_1836, w_1837, w_1838⟩
theorem kv_RL_187 : LkV RL 187 yX12_goal := ⟨w_1840, w_1841, w_1842⟩
theorem kv_RL_190 : LkV RL 190 yX12_rest := ⟨w_1844, w_1845, w_1846⟩
theorem kv_RL_193 : LkV RL 193 yX12_days := ⟨w_1848, w_1849, w_1850⟩
theorem kv_RL_194 : LkV RL 194 yX11_solvent := ⟨w_396, w_397, w_398⟩
theorem kv_RL_197 : LkV RL 197 yX12_solvent := ⟨w_1924, w_1925, w_1926⟩
theorem kv_RL_200 : LkV RL 200 yX12_comes := ⟨w_1892, w_1893, w_1894⟩
theorem kv_RL_203 : LkV RL 203 yX12_soonest := ⟨w_1901, w_1902, w_1903⟩
theorem kv_RL_206 : LkV RL 206 yX12_carry := ⟨w_1905, w_1906, w_1907⟩
theorem kv_RL_210 : LkV RL 210 yX12_ahead := ⟨w_1880, w_1881, w_1882⟩
theorem kv_RL_211 : LkV RL 211 yX11_rings := ⟨w_414, w_415, w_416⟩
theorem kv_RL_214 : LkV RL 214 yX12_rings := ⟨w_1928, w_1929, w_1930⟩
theorem kv_RL_215 : LkV RL 215 yX11_untie := ⟨w_452, w_453, w_454⟩
theorem kv_RL_218 : LkV RL 218 yX12_untie := ⟨w_1940, w_1941, w_1942⟩
theorem kv_RL_221 : LkV RL 221 yX12_owes := ⟨w_1944, w_1945, w_1946⟩
theorem kv_RL_224 : LkV RL 224 yX12_leads := ⟨w_1956, w_1957, w_1958⟩
theorem kv_RL_228 : LkV RL 228 yX12_call := ⟨w_1960, w_1961, w_1962⟩
theorem kv_RL_231 : LkV RL 231 yX12_breaks := ⟨w_1972, w_1973, w_1974⟩
theorem kv_RL_234 : LkV RL 234 yX12_mercy := ⟨w_1976, w_1977, w_1978⟩
theorem kv_RL_237 : LkV RL 237 yX12_hangs := ⟨w_1984, w_1985, w_1986⟩
theorem kv_RL_238 : LkV RL 238 yX11_trust := ⟨w_457, w_458, w_459⟩
theorem kv_RL_241 : LkV RL 241 yX12_trust := ⟨w_1992, w_1993, w_1994⟩
theorem kv_RL_242 : LkV RL 242 yX11_needed := ⟨w_466, w_467, w_468⟩
theorem kv_RL_245 : LkV RL 245 yX12_needed := ⟨w_1996, w_1997, w_1998⟩
theorem kv_RL_249 : LkV RL 249 yX12_wear := ⟨w_2008, w_2009, w_2010⟩
theorem kv_RL_252 : LkV RL 252 yX12_look := ⟨w_2020, w_2021, w_2022⟩
theorem kv_RL_255 : LkV RL 255 yX12_race := ⟨w_2024, w_2025, w_2026⟩
theorem kv_RL_256 : LkV RL 256 yX11_pairs := ⟨w_480, w_481, w_482⟩
theorem kv_RL_259 : LkV RL 259 yX12_pairs := ⟨w_2032, w_2033, w_2034⟩
theorem kv_RL_262 : LkV RL 262 yX12_lends := ⟨w_2036, w_2037, w_2038⟩
theorem kv_RL_265 : LkV RL 265 yX12_loose := ⟨w_2040, w_2041, w_2042⟩
theorem kv_RL_266 : LkV RL 266 yX11_rail := ⟨w_521, w_522, w_523⟩
theorem kv_RL_269 : LkV RL 269 yX12_rail := ⟨w_2044, w_2045, w_2046⟩
theorem kv_RL_272 : LkV RL 272 yX12_trial := ⟨w_2048, w_2049, w_2050⟩
theorem kv_RL_275 : LkV RL 275 yX12_span := ⟨w_2052, w_2053, w_2054⟩
theorem kv_RL_278 : LkV RL 278 yX12_led := ⟨w_2056, w_2057, w_2058⟩
theorem kv_RL_281 : LkV RL 281 yX12_log := ⟨w_2064, w_2065, w_2066⟩
theorem kv_RL_282 : LkV RL 282 yX11_seed := ⟨w_529, w_530, w_531⟩
theorem kv_RL_285 : LkV RL 285 yX12_seed := ⟨w_2068, w_2069, w_2070⟩
theorem kv_RL_286 : LkV RL 286 yX11_undo := ⟨w_533, w_534, w_535⟩
theorem kv_RL_290 : LkV RL 290 yX12_undo := ⟨w_1524, w_1525, w_1526⟩
theorem kv_RL_291 : LkV RL 291 yX11_image := ⟨w_553, w_554, w_555⟩
theorem kv_RL_294 : LkV RL 294 yX12_image := ⟨w_1516, w_1517, w_1518⟩
theorem kv_RL_295 : LkV RL 295 yX11_back := ⟨w_563, w_564, w_565⟩
theorem kv_RL_298 : LkV RL 298 yX12_back := ⟨w_1520, w_1521, w_1522⟩
theorem kv_RL_299 : LkV RL 299 yX11_count := ⟨w_571, w_572, w_573⟩
theorem kv_RL_302 : LkV RL 302 yX12_count := ⟨w_2072, w_2073, w_2074⟩
theorem m_L_ahead : LkM yL_ahead F_L_ahead (.codeWith yL_ahead F_L_ahead.2.1 F_L_ahead.2.2.1 (some .int) F_L_ahead.2.2.2.2.2.2) 5 := ⟨w_1222, w_0, ⟨by decide, by decide⟩, by decide +kernel, by decide⟩
theorem m_L_breaks : LkM yL_breaks F_L_breaks (.codeWith yL_breaks F_L_breaks.2.1 F_L_breaks.2.2.1 (some .int) F_L_breaks.2.2.2.2.2.2) 3 := ⟨w_1281, w_0, ⟨by decide, by decide⟩, by decide +kernel, by decide⟩
theorem m_L_call : LkM yL_call F_L_call (.codeWith yL_call F_L_call.2.1 F_L_call.2.2.1 (some .int) F_L_call.2.2.2.2.2.2) 4 := ⟨w_1262, w_0, ⟨by decide, by decide⟩, by decide +kernel, by decide⟩
theorem m_L_carry : LkM yL_carry F_L_carry (.codeWith yL_carry F_L_carry.2.1 F_L_carry.2.2.1 (some .int) F_L_carry.2.2.2.2.2.2) 3 := ⟨w_1181, w_0, ⟨by decide, by decide⟩, by decide +kernel, by decide⟩
theorem m_L_comes : LkM yL_comes F_L_comes (.codeWith yL_comes F_L_comes.2.1 F_L_comes.2.2.1 (some .int) F_L_comes.2.2.2.2.2.2) 4 := ⟨w_1163, w_0, ⟨by decide, by decide⟩, by decide +kernel, by decide⟩
theorem m_L_days : LkM yL_days F_L_days (.codeWith yL_days F_L_days.2.1 F_L_days.2.2.1 (some .int) F_L_days.2.2.2.2.2.2) 3 := ⟨w_1126, w_0, ⟨by decide, by decide⟩, by decide +kernel, by decide⟩
theorem m_L_give : LkM yL_give F_L_give (.codeWith yL_give F_L_give.2.1 F_L_give.2.2.1 (some .int) F_L_give.2.2.2.2.2.2) 4 := ⟨w_1103, w_0, ⟨by decide, by decide⟩, by decide +kernel, by decide⟩
theorem m_L_goal : LkM yL_goal F_L_goal (.codeWith yL_goal F_L_goal.2.1 F_L_goal.2.2.1 (some .int) F_L_goal.2.2.2.2.2.2) 4 := ⟨w_1112, w_0, ⟨by decide, by decide⟩, by decide +kernel, by decide⟩
theorem m_L_grows : LkM yL_grows F_L_grows (.codeWith yL_grows F_L_grows.2.1 F_L_grows.2.2.1 (some .int) F_L_grows.2.2.2.2.2.2) 3 := ⟨w_1023, w_0, ⟨by decide, by decide⟩, by decide +kernel, by decide⟩
theorem m_L_hangs : LkM yL_hangs F_L_hangs (.codeWith yL_hangs F_L_hangs.2.1 F_L_hangs.2.2.1 (some .int) F_L_hangs.2.2.2.2.2.2) 3 := ⟨w_1300, w_0, ⟨by decide, by decide⟩, by decide +kernel, by decide⟩
theorem m_L_lace : LkM yL_lace F_L_lace (.codeWith yL_lace F_L_lace.2.1 F_L_lace.2.2.1 (some .int) F_L_lace.2.2.2.2.2.2) 4 := ⟨w_983, w_0, ⟨by decide, by decide⟩, by decide +kernel, by decide⟩
theorem m_L_land : LkM yL_land F_L_land (.codeWith yL_land F_L_land.2.1 F_L_land.2.2.1 (some .int) F_L_land.2.2.2.2.2.2) 2 := ⟨w_581, w_0, ⟨by decide, by decide⟩, by decide +kernel, by decide⟩
theorem m_L_law : LkM yL_law F_L_law (.codeWith yL_law F_L_law.2.1 F_L_law.2.2.1 (some .int) F_L_law.2.2.2.2.2.2) 2 := ⟨w_910, w_0, ⟨by decide, by decide⟩, by decide +kernel, by decide⟩
theorem m_L_leads : LkM yL_leads F_L_leads (.codeWith yL_leads F_L_leads.2.1 F_L_leads.2.2.1 (some .int) F_L_leads.2.2.2.2.2.2) 3 := ⟨w_1255, w_0, ⟨by decide, by decide⟩, by decide +kernel, by decide⟩
theorem m_L_led : LkM yL_led F_L_led (.codeWith yL_led F_L_led.2.1 F_L_led.2.2.1 (some .int) F_L_led.2.2.2.2.2.2) 4 := ⟨w_1388, w_0, ⟨by decide, by decide⟩, by decide +kernel, by decide⟩
theorem m_L_lend : LkM yL_lend F_L_lend (.codeWith yL_lend F_L_lend.2.1 F_L_lend.2.2.1 (some .int) F_L_lend.2.2.2.2.2.2) 7 := ⟨w_1035, w_0, ⟨by decide, by decide⟩, by decide +kernel, by decide⟩
theorem m_L_lends : LkM yL_lends F_L_lends (.codeWith yL_lends F_L_lends.2.1 F_L_lends.2.2.1 (some .int) F_L_lends.2.2.2.2.2.2) 3 := ⟨w_1356, w_0, ⟨by decide, by decide⟩, by decide +kernel, by decide⟩
theorem m_L_log : LkM yL_log F_L_log (.codeWith yL_log F_L_log.2.1 F_L_log.2.2.1 (some .int) F_L_log.2.2.2.2.2.2) 4 := ⟨w_1418, w_0, ⟨by decide, by decide⟩, by decide +kernel, by decide⟩
theorem m_L_look : LkM yL_look F_L_look (.codeWith yL_look F_L_look.2.1 F_L_look.2.2.1 (some .int) F_L_look.2.2.2.2.2.2) 2 := ⟨w_1337, w_0, ⟨by decide, by decide⟩, by decide +kernel, by decide⟩
theorem m_L_loose : LkM yL_loose F_L_loose (.codeWith yL_loose F_L_loose.2.1 F_L_loose.2.2.1 (some .int) F_L_loose.2.2.2.2.2.2) 3 := ⟨w_1365, w_0, ⟨by decide, by decide⟩, by decide +kernel, by decide⟩
theorem m_L_mercy : LkM yL_mercy F_L_mercy (.codeWith yL_mercy F_L_mercy.2.1 F_L_mercy.2.2.1 (some .int) F_L_mercy.2.2.2.2.2.2) 3 := ⟨w_1288, w_0, ⟨by decide, by decide⟩, by decide +kernel, by decide⟩
theorem m_L_mud : LkM yL_mud F_L_mud (.codeWith yL_mud F_L_mud.2.1 F_L_mud.2.2.1 (some .int) F_L_mud.2.2.2.2.2.2) 3 := ⟨w_996, w_0, ⟨by decide, by decide⟩, by decide +kernel, by decide⟩
theorem m_L_owes : LkM yL_owes F_L_owes (.codeWith yL_owes F_L_owes.2.1 F_L_owes.2.2.1 (some .int) F_L_owes.2.2.2.2.2.2) 4 := ⟨w_1234, w_0, ⟨by decide, by decide⟩, by decide +kernel, by decide⟩
theorem m_L_pay : LkM yL_pay F_L_pay (.codeWith yL_pay F_L_pay.2.1 F_L_pay.2.2.1 (some .int) F_L_pay.2.2.2.2.2.2) 3 := ⟨w_1076, w_0, ⟨by decide, by decide⟩, by decide +kernel, by decide⟩
theorem m_L_person : LkM yL_person F_L_person (.codeWith yL_person F_L_person.2.1 F_L_person.2.2.1 (some .int) F_L_person.2.2.2.2.2.2) 4 := ⟨w_925, w_0, ⟨by decide, by decide⟩, by decide +kernel, by decide⟩
theorem m_L_race : LkM yL_race F_L_race (.codeWith yL_race F_L_race.2.1 F_L_race.2.2.1 (some .int) F_L_race.2.2.2.2.2.2) 3 := ⟨w_1349, w_0, ⟨by decide, by decide⟩, by decide +kernel, by decide⟩
theorem m_L_rest : LkM yL_rest F_L_rest (.codeWith yL_rest F_L_rest.2.1 F_L_rest.2.2.1 (some .int) F_L_rest.2.2.2.2.2.2) 3 := ⟨w_1119, w_0, ⟨by decide, by decide⟩, by decide +kernel, by decide⟩
theorem m_L_soonest : LkM yL_soonest F_L_soonest (.codeWith yL_soonest F_L_soonest.2.1 F_L_soonest.2.2.1 (some .int) F_L_soonest.2.2.2.2.2.2) 3 := ⟨w_1174, w_0, ⟨by decide, by decide⟩, by decide +kernel, by decide⟩
theorem m_L_span : LkM yL_span F_L_span (.codeWith yL_span F_L_span.2.1 F_L_span.2.2.1 (some .int) F_L_span.2.2.2.2.2.2) 4 := ⟨w_1379, w_0, ⟨by decide, by decide⟩, by decide +kernel, by decide⟩
theorem m_L_surety : LkM yL_surety F_L_surety (.codeWith yL_surety F_L_surety.2.1 F_L_surety.2.2.1 (some .int) F_L_surety.2.2.2.2.2.2) 4 := ⟨w_1090, w_0, ⟨by decide, by decide⟩, by decide +kernel, by decide⟩
theorem m_L_trial : LkM yL_trial F_L_trial (.codeWith yL_trial F_L_trial.2.1 F_L_trial.2.2.1 (some .int) F_L_trial.2.2.2.2.2.2) 4 := ⟨w_1372, w_0, ⟨by decide, by decide⟩, by decide +kernel, by decide⟩
theorem m_L_walks : LkM yL_walks F_L_walks (.codeWith yL_walks F_L_walks.2.1 F_L_walks.2.2.1 (some .int) F_L_walks.2.2.2.2.2.2) 4 := ⟨w_1008, w_0, ⟨by decide, by decide⟩, by decide +kernel, by decide⟩
theorem m_L_wear : LkM yL_wear F_L_wear (.codeWith yL_wear F_L_wear.2.1 F_L_wear.2.2.1 (some .int) F_L_wear.2.2.2.2.2.2) 3 := ⟨w_1307, w_0, ⟨by decide, by decide⟩, by decide +kernel, by decide⟩
theorem m_X11_back : LkM yX11_back F_X11_back (.code yX11_back F_X11_back.2.1 F_X11_back.2.2.1 (some .boolean)) 0 := ⟨w_566, w_1, ⟨by decide, by decide⟩, by decide +kernel, by decide⟩
theorem m_X11_count : LkM yX11_count F_X11_count (.code yX11_count F_X11_count.2.1 F_X11_count.2.2.1 (some .int)) 1 := ⟨w_574, w_1, ⟨by decide, by decide⟩, by decide +kernel, by decide⟩
theorem m_X11_end : LkM yX11_end F_X11_end (.code yX11_end F_X11_end.2.1 F_X11_end.2.2.1 (some .boolean)) 1 := ⟨w_391, w_1, ⟨by decide, by decide⟩, by decide +kernel, by decide⟩
theorem m_X11_fault : LkM yX11_fault F_X11_fault (.code yX11_fault F_X11_fault.2.1 F_X11_fault.2.2.1 (some .int)) 0 := ⟨w_395, w_1, ⟨by decide, by decide⟩, by decide +kernel, by decide⟩
theorem m_X11_feed : LkM yX11_feed F_X11_feed (.code yX11_feed F_X11_feed.2.1 F_X11_feed.2.2.1 (some .int)) 5 := ⟨w_383, w_1, ⟨by decide, by decide⟩, by decide +kernel, by decide⟩
theorem m_X11_image : LkM yX11_image F_X11_image (.code yX11_image F_X11_image.2.1 F_X11_image.2.2.1 none) 0 := ⟨w_556, w_1, ⟨by decide, by decide⟩, by decide +kernel, by decide⟩
theorem m_X11_needed : LkM yX11_needed F_X11_needed (.code yX11_needed F_X11_needed.2.1 F_X11_needed.2.2.1 (some .int)) 0 := ⟨w_469, w_1, ⟨by decide, by decide⟩, by decide +kernel, by decide⟩
theorem m_X11_pairs : LkM yX11_pairs F_X11_pairs (.code yX11_pairs F_X11_pairs.2.1 F_X11_pairs.2.2.1 (some .int)) 0 := ⟨w_483, w_1, ⟨by decide, by decide⟩, by decide +kernel, by decide⟩
theorem m_X11_rail : LkM yX11_rail F_X11_rail (.code yX11_rail F_X11_rail.2.1 F_X11_rail.2.2.1 (some .int)) 0 := ⟨w_524, w_1, ⟨by decide, by decide⟩, by decide +kernel, by decide⟩
theorem m_X11_rings : LkM yX11_rings F_X11_rings (.code yX11_rings F_X11_rings.2.1 F_X11_rings.2.2.1 (some .int)) 0 := ⟨w_417, w_1, ⟨by decide, by decide⟩, by decide +kernel, by decide⟩
theorem m_X11_seed : LkM yX11_seed F_X11_seed (.code yX11_seed F_X11_seed.2.1 F_X11_seed.2.2.1 (some .int)) 1 := ⟨w_532, w_1, ⟨by decide, by decide⟩, by decide +kernel, by decide⟩
theorem m_X11_solvent : LkM yX11_solvent F_X11_solvent (.code yX11_solvent F_X11_solvent.2.1 F_X11_solvent.2.2.1 (some .int)) 0 := ⟨w_399, w_1, ⟨by decide, by decide⟩, by decide +kernel, by decide⟩
theorem m_X11_trust : LkM yX11_trust F_X11_trust (.code yX11_trust F_X11_trust.2.1 F_X11_trust.2.2.1 (some .int)) 0 := ⟨w_460, w_1, ⟨by decide, by decide⟩, by decide +kernel, by decide⟩
theorem m_X11_undo : LkM yX11_undo F_X11_undo (.code yX11_undo F_X11_undo.2.1 F_X11_undo.2.2.1 (some .boolean)) 0 := ⟨w_536, w_1, ⟨by decide, by decide⟩, by decide +kernel, by decide⟩
theorem m_X11_untie : LkM yX11_untie F_X11_untie (.code yX11_untie F_X11_untie.2.1 F_X11_untie.2.2.1 (some .int)) 1 := ⟨w_455, w_1, ⟨by decide, by decide⟩, by decide +kernel, by decide⟩
theorem m_X12_ahead : LkM yX12_ahead F_X12_ahead (.code yX12_ahead F_X12_ahead.2.1 F_X12_ahead.2.2.1 (some .int)) 3 := ⟨w_1883, w_13, ⟨by decide, by decide⟩, by decide +kernel, by decide⟩
theorem m_X12_back : LkM yX12_back F_X12_back (.code yX12_back F_X12_back.2.1 F_X12_back.2.2.1 (some .boolean)) 0 := ⟨w_1523, w_13, ⟨by decide, by decide⟩, by decide +kernel, by decide⟩
theorem m_X12_breaks : LkM yX12_breaks F_X12_breaks (.code yX12_breaks F_X12_breaks.2.1 F_X12_breaks.2.2.1 (some .int)) 1 := ⟨w_1975, w_13, ⟨by decide, by decide⟩, by decide +kernel, by decide⟩
theorem m_X12_call : LkM yX12_call F_X12_call (.code yX12_call F_X12_call.2.1 F_X12_call.2.2.1 (some .int)) 2 := ⟨w_1963, w_13, ⟨by decide, by decide⟩, by decide +kernel, by decide⟩
theorem m_X12_carry : LkM yX12_carry F_X12_carry (.code yX12_carry F_X12_carry.2.1 F_X12_carry.2.2.1 (some .int)) 1 := ⟨w_1908, w_13, ⟨by decide, by decide⟩, by decide +kernel, by decide⟩
theorem m_X12_comes : LkM yX12_comes F_X12_comes (.code yX12_comes F_X12_comes.2.1 F_X12_comes.2.2.1 (some .int)) 2 := ⟨w_1895, w_13, ⟨by decide, by decide⟩, by decide +kernel, by decide⟩
theorem m_X12_count : LkM yX12_count F_X12_count (.code yX12_count F_X12_count.2.1 F_X12_count.2.2.1 (some .int)) 1 := ⟨w_2075, w_13, ⟨by decide, by decide⟩, by decide +kernel, by decide⟩
theorem m_X12_days : LkM yX12_days F_X12_days (.code yX12_days F_X12_days.2.1 F_X12_days.2.2.1 (some .int)) 1 := ⟨w_1851, w_13, ⟨by decide, by decide⟩, by decide +kernel, by decide⟩
theorem m_X12_end : LkM yX12_end F_X12_end (.code yX12_end F_X12_end.2.1 F_X12_end.2.2.1 (some .boolean)) 1 := ⟨w_1535, w_13, ⟨by decide, by decide⟩, by decide +kernel, by decide⟩
theorem m_X12_fault : LkM yX12_fault F_X12_fault (.code yX12_fault F_X12_fault.2.1 F_X12_fault.2.2.1 (some .int)) 0 := ⟨w_1539, w_13, ⟨by decide, by decide⟩, by decide +kernel, by decide⟩
theorem m_X12_feed : LkM yX12_feed F_X12_feed (.code yX12_feed F_X12_feed.2.1 F_X12_feed.2.2.1 (some .int)) 5 := ⟨w_1531, w_13, ⟨by decide, by decide⟩, by decide +kernel, by decide⟩
theorem m_X12_give : LkM yX12_give F_X12_give (.code yX12_give F_X12_give.2.1 F_X12_give.2.2.1 (some .int)) 2 := ⟨w_1839, w_13, ⟨by decide, by decide⟩, by decide +kernel, by decide⟩
theorem m_X12_goal : LkM yX12_goal F_X12_goal (.code yX12_goal F_X12_goal.2.1 F_X12_goal.2.2.1 (some .int)) 2 := ⟨w_1843, w_13, ⟨by decide, by decide⟩, by decide +kernel, by decide⟩
theorem m_X12_grows : LkM yX12_grows F_X12_grows (.code yX12_grows F_X12_grows.2.1 F_X12_grows.2.2.1 (some .int)) 1 := ⟨w_1803, w_13, ⟨by decide, by decide⟩, by decide +kernel, by decide⟩
theorem m_X12_hangs : LkM yX12_hangs F_X12_hangs (.code yX12_hangs F_X12_hangs.2.1 F_X12_hangs.2.2.1 (some .int)) 1 := ⟨w_1987, w_13, ⟨by decide, by decide⟩, by decide +kernel, by decide⟩
theorem m_X12_image : LkM yX12_image F_X12_image (.code yX12_image F_X12_image.2.1 F_X12_image.2.2.1 none) 0 := ⟨w_1519, w_13, ⟨by decide, by decide⟩, by decide +kernel, by decide⟩
theorem m_X12_lace : LkM yX12_lace F_X12_lace (.code yX12_lace F_X12_lace.2.1 F_X12_lace.2.2.1 (some .int)) 2 := ⟨w_1750, w_13, ⟨by decide, by decide⟩, by decide +kernel, by decide⟩
theorem m_X12_land : LkM yX12_land F_X12_land (.code yX12_land F_X12_land.2.1 F_X12_land.2.2.1 (some .int)) 0 := ⟨w_1543, w_13, ⟨by decide, by decide⟩, by decide +kernel, by decide⟩
theorem m_X12_law : LkM yX12_law F_X12_law (.code yX12_law F_X12_law.2.1 F_X12_law.2.2.1 (some .int)) 0 := ⟨w_1702, w_13, ⟨by decide, by decide⟩, by decide +kernel, by decide⟩
theorem m_X12_leads : LkM yX12_leads F_X12_leads (.code yX12_leads F_X12_leads.2.1 F_X12_leads.2.2.1 (some .int)) 1 := ⟨w_1959, w_13, ⟨by decide, by decide⟩, by decide +kernel, by decide⟩
theorem m_X12_led : LkM yX12_led F_X12_led (.code yX12_led F_X12_led.2.1 F_X12_led.2.2.1 (some .int)) 2 := ⟨w_2059, w_13, ⟨by decide, by decide⟩, by decide +kernel, by decide⟩
theorem m_X12_lend : LkM yX12_lend F_X12_lend (.code yX12_lend F_X12_lend.2.1 F_X12_lend.2.2.1 (some .int)) 5 := ⟨w_1811, w_13, ⟨by decide, by decide⟩, by decide +kernel, by decide⟩
theorem m_X12_lends : LkM yX12_lends F_X12_lends (.code yX12_lends F_X12_lends.2.1 F_X12_lends.2.2.1 (some .int)) 1 := ⟨w_2039, w_13, ⟨by decide, by decide⟩, by decide +kernel, by decide⟩
theorem m_X12_log : LkM yX12_log F_X12_log (.code yX12_log F_X12_log.2.1 F_X12_log.2.2.1 (some .int)) 2 := ⟨w_2067, w_13, ⟨by decide, by decide⟩, by decide +kernel, by decide⟩
theorem m_X12_look : LkM yX12_look F_X12_look (.code yX12_look F_X12_look.2.1 F_X12_look.2.2.1 (some .int)) 0 := ⟨w_2023, w_13, ⟨by decide, by decide⟩, by decide +kernel, by decide⟩
theorem m_X12_loose : LkM yX12_loose F_X12_loose (.code yX12_loose F_X12_loose.2.1 F_X12_loose.2.2.1 (some .int)) 1 := ⟨w_2043, w_13, ⟨by decide, by decide⟩, by decide +kernel, by decide⟩
theorem m_X12_mercy : LkM yX12_mercy F_X12_mercy (.code yX12_mercy F_X12_mercy.2.1 F_X12_mercy.2.2.1 (some .int)) 1 := ⟨w_1979, w_13, ⟨by decide, by decide⟩, by decide +kernel, by decide⟩
theorem m_X12_mud : LkM yX12_mud F_X12_mud (.code yX12_mud F_X12_mud.2.1 F_X12_mud.2.2.1 (some .int)) 1 := ⟨w_1758, w_13, ⟨by decide, by decide⟩, by decide +kernel, by decide⟩
theorem m_X12_needed : LkM yX12_needed F_X12_needed (.code yX12_needed F_X12_needed.2.1 F_X12_needed.2.2.1 (some .int)) 0 := ⟨w_1999, w_13, ⟨by decide, by decide⟩, by decide +kernel, by decide⟩
theorem m_X12_owes : LkM yX12_owes F_X12_owes (.code yX12_owes F_X12_owes.2.1 F_X12_owes.2.2.1 (some .boolean)) 2 := ⟨w_1947, w_13, ⟨by decide, by decide⟩, by decide +kernel, by decide⟩
theorem m_X12_pairs : LkM yX12_pairs F_X12_pairs (.code yX12_pairs F_X12_pairs.2.1 F_X12_pairs.2.2.1 (some .int)) 0 := ⟨w_2035, w_13, ⟨by decide, by decide⟩, by decide +kernel, by decide⟩
theorem m_X12_pay : LkM yX12_pay F_X12_pay (.code yX12_pay F_X12_pay.2.1 F_X12_pay.2.2.1 (some .int)) 1 := ⟨w_1827, w_13, ⟨by decide, by decide⟩, by decide +kernel, by decide⟩
theorem m_X12_person : LkM yX12_person F_X12_person (.code yX12_person F_X12_person.2.1 F_X12_person.2.2.1 (some .int)) 2 := ⟨w_1706, w_13, ⟨by decide, by decide⟩, by decide +kernel, by decide⟩
theorem m_X12_race : LkM yX12_race F_X12_race (.code yX12_race F_X12_race.2.1 F_X12_race.2.2.1 (some .int)) 1 := ⟨w_2027, w_13, ⟨by decide, by decide⟩, by decide +kernel, by decide⟩
theorem m_X12_rail : LkM yX12_rail F_X12_rail (.code yX12_rail F_X12_rail.2.1 F_X12_rail.2.2.1 (some .int)) 0 := ⟨w_2047, w_13, ⟨by decide, by decide⟩, by decide +kernel, by decide⟩
theorem m_X12_rest : LkM yX12_rest F_X12_rest (.code yX12_rest F_X12_rest.2.1 F_X12_rest.2.2.1 (some .int)) 1 := ⟨w_1847, w_13, ⟨by decide, by decide⟩, by decide +kernel, by decide⟩
theorem m_X12_rings : LkM yX12_rings F_X12_rings (.code yX12_rings F_X12_rings.2.1 F_X12_rings.2.2.1 (some .int)) 0 := ⟨w_1931, w_13, ⟨by decide, by decide⟩, by decide +kernel, by decide⟩
theorem m_X12_seed : LkM yX12_seed F_X12_seed (.code yX12_seed F_X12_seed.2.1 F_X12_seed.2.2.1 (some .int)) 1 := ⟨w_2071, w_13, ⟨by decide, by decide⟩, by decide +kernel, by decide⟩
theorem m_X12_solvent : LkM yX12_solvent F_X12_solvent (.code yX12_solvent F_X12_solvent.2.1 F_X12_solvent.2.2.1 (some .int)) 0 := ⟨w_1927, w_13, ⟨by decide, by decide⟩, by decide +kernel, by decide⟩
theorem m_X12_soonest : LkM yX12_soonest F_X12_soonest (.code yX12_soonest F_X12_soonest.2.1 F_X12_soonest.2.2.1 (some .int)) 1 := ⟨w_1904, w_13, ⟨by decide, by decide⟩, by decide +kernel, by decide⟩
theorem m_X12_span : LkM yX12_span F_X12_span (.code yX12_span F_X12_span.2.1 F_X12_span.2.2.1 (some .int)) 2 := ⟨w_2055, w_13, ⟨by decide, by decide⟩, by decide +kernel, by decide⟩
theorem m_X12_surety : LkM yX12_surety F_X12_surety (.code yX12_surety F_X12_surety.2.1 F_X12_surety.2.2.1 (some .int)) 2 := ⟨w_1835, w_13, ⟨by decide, by decide⟩, by decide +kernel, by decide⟩
theorem m_X12_thrown : LkM yX12_thrown F_X12_thrown (.code yX12_thrown F_X12_thrown.2.1 F_X12_thrown.2.2.1 (some .int)) 0 := ⟨w_1437, w_13, ⟨by decide, by decide⟩, by decide +kernel, by decide⟩
theorem m_X12_trial : LkM yX12_trial F_X12_trial (.code yX12_trial F_X12_trial.2.1 F_X12_trial.2.2.1 (some .int)) 2 := ⟨w_2051, w_13, ⟨by decide, by decide⟩, by decide +kernel, by decide⟩
theorem m_X12_trust : LkM yX12_trust F_X12_trust (.code yX12_trust F_X12_trust.2.1 F_X12_trust.2.2.1 (some .int)) 0 := ⟨w_1995, w_13, ⟨by decide, by decide⟩, by decide +kernel, by decide⟩
theorem m_X12_undo : LkM yX12_undo F_X12_undo (.code yX12_undo F_X12_undo.2.1 F_X12_undo.2.2.1 (some .boolean)) 0 := ⟨w_1527, w_13, ⟨by decide, by decide⟩, by decide +kernel, by decide⟩
theorem m_X12_untie : LkM yX12_untie F_X12_untie (.code yX12_untie F_X12_untie.2.1 F_X12_untie.2.2.1 (some .int)) 1 := ⟨w_1943, w_13, ⟨by decide, by decide⟩, by decide +kernel, by decide⟩
theorem m_X12_walks : LkM yX12_walks F_X12_walks (.code yX12_walks F_X12_walks.2.1 F_X12_walks.2.2.1 (some .int)) 2 := ⟨w_1765, w_13, ⟨by decide, by decide⟩, by decide +kernel, by decide⟩
theorem m_X12_wear : LkM yX12_wear F_X12_wear (.code yX12_wear F_X12_wear.2.1 F_X12_wear.2.2.1 (some .int)) 1 := ⟨w_2011, w_13, ⟨by decide, by decide⟩, by decide +kernel, by decide⟩
theorem d_L_law__0 : decode cL_law_ 0 = .ok (.new 8, 3) := by decide +kernel
theorem d_L_law__3 : decode cL_law_ 3 = .ok (.dup, 1) := by decide +kernel
theorem d_L_law__4 : decode cL_law_ 4 = .ok (.invokespecial 126, 3) := by decide +kernel
theorem d_L_law__7 : decode cL_law_ 7 = .ok (.astore_n 1, 1) := by decide +kernel
theorem d_L_law__8 : decode cL_law_ 8 = .ok (.new 127, 3) := by decide +kernel
theorem d_L_law__11 : decode cL_law_ 11 = .ok (.dup, 1) := by decide +kernel
theorem d_L_law__12 : decode cL_law_ 12 = .ok (.invokespecial 129, 3) := by decide +kernel
theorem d_L_law__15 : decode cL_law_ 15 = .ok (.astore_n 2, 1) := by decide +kernel
theorem d_L_law__16 : decode cL_law_ 16 = .ok (.iconst 1, 1) := by decide +kernel
theorem d_L_law__17 : decode cL_law_ 17 = .ok (.newarray .long, 2) := by decide +kernel
theorem d_L_law__19 : decode cL_law_ 19 = .ok (.astore_n 3, 1) := by decide +kernel
theorem d_L_law__20 : decode cL_law_ 20 = .ok (.iconst 0, 1) := by decide +kernel
theorem d_L_law__21 : decode cL_law_ 21 = .ok (.istore 4, 2) := by decide +kernel
theorem d_L_law__23 : decode cL_law_ 23 = .ok (.iload 4, 2) := by decide +kernel
theorem d_L_law__25 : decode cL_law_ 25 = .ok (.aload_n 0, 1) := by decide +kernel
theorem d_L_law__26 : decode cL_law_ 26 = .ok (.arraylength, 1) := by decide +kernel
theorem d_L_law__27 : decode cL_law_ 27 = .ok (.bipush 6, 2) := by decide +kernel
theorem d_L_law__29 : decode cL_law_ 29 = .ok (.isub, 1) := by decide +kernel
theorem d_L_law__30 : decode cL_law_ 30 = .ok (.if_icmp .gt 2684, 3) := by decide +kernel
theorem d_L_law__33 : decode cL_law_ 33 = .ok (.aload_n 0, 1) := by decide +kernel
theorem d_L_law__34 : decode cL_law_ 34 = .ok (.iload 4, 2) := by decide +kernel
theorem d_L_law__36 : decode cL_law_ 36 = .ok (.iaload, 1) := by decide +kernel
theorem d_L_law__37 : decode cL_law_ 37 = .ok (.bipush 63, 2) := by decide +kernel
theorem d_L_law__39 : decode cL_law_ 39 = .ok (.iand, 1) := by decide +kernel
theorem d_L_law__40 : decode cL_law_ 40 = .ok (.tableswitch 2668 0 47 #[208, 281, 306, 350, 394, 407, 475, 543, 599, 667, 723, 827, 883, 951, 1019, 1087, 1143, 1199, 1212, 1280, 1336, 1392, 1488, 1501, 1542, 1617, 1673, 1757, 1813, 1869, 1925, 1938, 1951, 2023, 2067, 2123, 2136, 2192, 2248, 2261, 2345, 2429, 2513, 2581, 2606, 2619, 2630, 2643], 208) := by decide +kernel
theorem d_L_law__248 : decode cL_law_ 248 = .ok (.aload_n 1, 1) := by decide +kernel
theorem d_L_law__249 : decode cL_law_ 249 = .ok (.aload_n 0, 1) := by decide +kernel
theorem d_L_law__250 : decode cL_law_ 250 = .ok (.iload 4, 2) := by decide +kernel
theorem d_L_law__252 : decode cL_law_ 252 = .ok (.iconst 1, 1) := by decide +kernel
theorem d_L_law__253 : decode cL_law_ 253 = .ok (.iadd, 1) := by decide +kernel
theorem d_L_law__254 : decode cL_law_ 254 = .ok (.iaload, 1) := by decide +kernel
theorem d_L_law__255 : decode cL_law_ 255 = .ok (.aload_n 0, 1) := by decide +kernel
theorem d_L_law__256 : decode cL_law_ 256 = .ok (.iload 4, 2) := by decide +kernel
theorem d_L_law__258 : decode cL_law_ 258 = .ok (.iconst 2, 1) := by decide +kernel
theorem d_L_law__259 : decode cL_law_ 259 = .ok (.iadd, 1) := by decide +kernel
theorem d_L_law__260 : decode cL_law_ 260 = .ok (.iaload, 1) := by decide +kernel
theorem d_L_law__261 : decode cL_law_ 261 = .ok (.aload_n 0, 1) := by decide +kernel
theorem d_L_law__262 : decode cL_law_ 262 = .ok (.iload 4, 2) := by decide +kernel
theorem d_L_law__264 : decode cL_law_ 264 = .ok (.iconst 3, 1) := by decide +kernel
theorem d_L_law__265 : decode cL_law_ 265 = .ok (.iadd, 1) := by decide +kernel
theorem d_L_law__266 : decode cL_law_ 266 = .ok (.iaload, 1) := by decide +kernel
theorem d_L_law__267 : decode cL_law_ 267 = .ok (.aload_n 0, 1) := by decide +kernel
theorem d_L_law__268 : decode cL_law_ 268 = .ok (.iload 4, 2) := by decide +kernel
theorem d_L_law__270 : decode cL_law_ 270 = .ok (.iconst 4, 1) := by decide +kernel
theorem d_L_law__271 : decode cL_law_ 271 = .ok (.iadd, 1) := by decide +kernel
theorem d_L_law__272 : decode cL_law_ 272 = .ok (.iaload, 1) := by decide +kernel
theorem d_L_law__273 : decode cL_law_ 273 = .ok (.aload_n 0, 1) := by decide +kernel
theorem d_L_law__274 : decode cL_law_ 274 = .ok (.iload 4, 2) := by decide +kernel
theorem d_L_law__276 : decode cL_law_ 276 = .ok (.iconst 5, 1) := by decide +kernel
theorem d_L_law__277 : decode cL_law_ 277 = .ok (.iadd, 1) := by decide +kernel
theorem d_L_law__278 : decode cL_law_ 278 = .ok (.iaload, 1) := by decide +kernel
theorem d_L_law__279 : decode cL_law_ 279 = .ok (.invokevirtual 130, 3) := by decide +kernel
theorem d_L_law__282 : decode cL_law_ 282 = .ok (.aload_n 2, 1) := by decide +kernel
theorem d_L_law__283 : decode cL_law_ 283 = .ok (.aload_n 0, 1) := by decide +kernel
theorem d_L_law__284 : decode cL_law_ 284 = .ok (.iload 4, 2) := by decide +kernel
theorem d_L_law__286 : decode cL_law_ 286 = .ok (.iconst 1, 1) := by decide +kernel
theorem d_L_law__287 : decode cL_law_ 287 = .ok (.iadd, 1) := by decide +kernel
theorem d_L_law__288 : decode cL_law_ 288 = .ok (.iaload, 1) := by decide +kernel
theorem d_L_law__289 : decode cL_law_ 289 = .ok (.aload_n 0, 1) := by decide +kernel
theorem d_L_law__290 : decode cL_law_ 290 = .ok (.iload 4, 2) := by decide +kernel
theorem d_L_law__292 : decode cL_law_ 292 = .ok (.iconst 2, 1) := by decide +kernel
theorem d_L_law__293 : decode cL_law_ 293 = .ok (.iadd, 1) := by decide +kernel
theorem d_L_law__294 : decode cL_law_ 294 = .ok (.iaload, 1) := by decide +kernel
theorem d_L_law__295 : decode cL_law_ 295 = .ok (.aload_n 0, 1) := by decide +kernel
theorem d_L_law__296 : decode cL_law_ 296 = .ok (.iload 4, 2) := by decide +kernel
theorem d_L_law__298 : decode cL_law_ 298 = .ok (.iconst 3, 1) := by decide +kernel
theorem d_L_law__299 : decode cL_law_ 299 = .ok (.iadd, 1) := by decide +kernel
theorem d_L_law__300 : decode cL_law_ 300 = .ok (.iaload, 1) := by decide +kernel
theorem d_L_law__301 : decode cL_law_ 301 = .ok (.aload_n 0, 1) := by decide +kernel
theorem d_L_law__302 : decode cL_law_ 302 = .ok (.iload 4, 2) := by decide +kernel
theorem d_L_law__304 : decode cL_law_ 304 = .ok (.iconst 4, 1) := by decide +kernel
theorem d_L_law__305 : decode cL_law_ 305 = .ok (.iadd, 1) := by decide +kernel
theorem d_L_law__306 : decode cL_law_ 306 = .ok (.iaload, 1) := by decide +kernel
theorem d_L_law__307 : decode cL_law_ 307 = .ok (.aload_n 0, 1) := by decide +kernel
theorem d_L_law__308 : decode cL_law_ 308 = .ok (.iload 4, 2) := by decide +kernel
theorem d_L_law__310 : decode cL_law_ 310 = .ok (.iconst 5, 1) := by decide +kernel
theorem d_L_law__311 : decode cL_law_ 311 = .ok (.iadd, 1) := by decide +kernel
theorem d_L_law__312 : decode cL_law_ 312 = .ok (.iaload, 1) := by decide +kernel
theorem d_L_law__313 : decode cL_law_ 313 = .ok (.invokevirtual 133, 3) := by decide +kernel
theorem d_L_law__316 : decode cL_law_ 316 = .ok (.if_icmp .eq 2392, 3) := by decide +kernel
theorem d_L_law__319 : decode cL_law_ 319 = .ok (.iconst 0, 1) := by decide +kernel
theorem d_L_law__321 : decode cL_law_ 321 = .ok (.aload_n 1, 1) := by decide +kernel
theorem d_L_law__322 : decode cL_law_ 322 = .ok (.aload_n 0, 1) := by decide +kernel
theorem d_L_law__323 : decode cL_law_ 323 = .ok (.iload 4, 2) := by decide +kernel
theorem d_L_law__325 : decode cL_law_ 325 = .ok (.iconst 1, 1) := by decide +kernel
theorem d_L_law__326 : decode cL_law_ 326 = .ok (.iadd, 1) := by decide +kernel
theorem d_L_law__327 : decode cL_law_ 327 = .ok (.iaload, 1) := by decide +kernel
theorem d_L_law__328 : decode cL_law_ 328 = .ok (.invokevirtual 134, 3) := by decide +kernel
theorem d_L_law__331 : decode cL_law_ 331 = .ok (.aload_n 2, 1) := by decide +kernel
theorem d_L_law__332 : decode cL_law_ 332 = .ok (.aload_n 0, 1) := by decide +kernel
theorem d_L_law__333 : decode cL_law_ 333 = .ok (.iload 4, 2) := by decide +kernel
theorem d_L_law__335 : decode cL_law_ 335 = .ok (.iconst 1, 1) := by decide +kernel
theorem d_L_law__336 : decode cL_law_ 336 = .ok (.iadd, 1) := by decide +kernel
theorem d_L_law__337 : decode cL_law_ 337 = .ok (.iaload, 1) := by decide +kernel
theorem d_L_law__338 : decode cL_law_ 338 = .ok (.invokevirtual 138, 3) := by decide +kernel
theorem d_L_law__341 : decode cL_law_ 341 = .ok (.if_icmp .eq 2367, 3) := by decide +kernel
theorem d_L_law__344 : decode cL_law_ 344 = .ok (.iconst 0, 1) := by decide +kernel
theorem d_L_law__346 : decode cL_law_ 346 = .ok (.aload_n 1, 1) := by decide +kernel
theorem d_L_law__347 : decode cL_law_ 347 = .ok (.aload_n 3, 1) := by decide +kernel
theorem d_L_law__348 : decode cL_law_ 348 = .ok (.invokestatic 139, 3) := by decide +kernel
theorem d_L_law__351 : decode cL_law_ 351 = .ok (.istore 5, 2) := by decide +kernel
theorem d_L_law__353 : decode cL_law_ 353 = .ok (.aload_n 2, 1) := by decide +kernel
theorem d_L_law__354 : decode cL_law_ 354 = .ok (.invokevirtual 144, 3) := by decide +kernel
theorem d_L_law__357 : decode cL_law_ 357 = .ok (.istore 6, 2) := by decide +kernel
theorem d_L_law__359 : decode cL_law_ 359 = .ok (.aload_n 2, 1) := by decide +kernel
theorem d_L_law__360 : decode cL_law_ 360 = .ok (.invokevirtual 145, 3) := by decide +kernel
theorem d_L_law__363 : decode cL_law_ 363 = .ok (.iload 5, 2) := by decide +kernel
theorem d_L_law__365 : decode cL_law_ 365 = .ok (.if_icmp .eq 5, 3) := by decide +kernel
theorem d_L_law__368 : decode cL_law_ 368 = .ok (.iconst 0, 1) := by decide +kernel
theorem d_L_law__370 : decode cL_law_ 370 = .ok (.iload 5, 2) := by decide +kernel
theorem d_L_law__372 : decode cL_law_ 372 = .ok (.ifCond .ne 15, 3) := by decide +kernel
theorem d_L_law__375 : decode cL_law_ 375 = .ok (.aload_n 3, 1) := by decide +kernel
theorem d_L_law__376 : decode cL_law_ 376 = .ok (.iconst 0, 1) := by decide +kernel
theorem d_L_law__377 : decode cL_law_ 377 = .ok (.laload, 1) := by decide +kernel
theorem d_L_law__378 : decode cL_law_ 378 = .ok (.iload 6, 2) := by decide +kernel
theorem d_L_law__380 : decode cL_law_ 380 = .ok (.i2l, 1) := by decide +kernel
theorem d_L_law__381 : decode cL_law_ 381 = .ok (.lcmp, 1) := by decide +kernel
theorem d_L_law__382 : decode cL_law_ 382 = .ok (.ifCond .eq 5, 3) := by decide +kernel
theorem d_L_law__385 : decode cL_law_ 385 = .ok (.iconst 0, 1) := by decide +kernel
theorem d_L_law__387 : decode cL_law_ 387 = .ok (.goto 2321, 3) := by decide +kernel
theorem d_L_law__390 : decode cL_law_ 390 = .ok (.aload_n 1, 1) := by decide +kernel
theorem d_L_law__391 : decode cL_law_ 391 = .ok (.aload_n 3, 1) := by decide +kernel
theorem d_L_law__392 : decode cL_law_ 392 = .ok (.invokestatic 148, 3) := by decide +kernel
theorem d_L_law__395 : decode cL_law_ 395 = .ok (.istore 5, 2) := by decide +kernel
theorem d_L_law__397 : decode cL_law_ 397 = .ok (.aload_n 2, 1) := by decide +kernel
theorem d_L_law__398 : decode cL_law_ 398 = .ok (.invokevirtual 150, 3) := by decide +kernel
theorem d_L_law__401 : decode cL_law_ 401 = .ok (.istore 6, 2) := by decide +kernel
theorem d_L_law__403 : decode cL_law_ 403 = .ok (.aload_n 2, 1) := by decide +kernel
theorem d_L_law__404 : decode cL_law_ 404 = .ok (.invokevirtual 145, 3) := by decide +kernel
theorem d_L_law__407 : decode cL_law_ 407 = .ok (.iload 5, 2) := by decide +kernel
theorem d_L_law__409 : decode cL_law_ 409 = .ok (.if_icmp .eq 5, 3) := by decide +kernel
theorem d_L_law__412 : decode cL_law_ 412 = .ok (.iconst 0, 1) := by decide +kernel
theorem d_L_law__414 : decode cL_law_ 414 = .ok (.iload 5, 2) := by decide +kernel
theorem d_L_law__416 : decode cL_law_ 416 = .ok (.ifCond .ne 15, 3) := by decide +kernel
theorem d_L_law__419 : decode cL_law_ 419 = .ok (.aload_n 3, 1) := by decide +kernel
theorem d_L_law__420 : decode cL_law_ 420 = .ok (.iconst 0, 1) := by decide +kernel
theorem d_L_law__421 : decode cL_law_ 421 = .ok (.laload, 1) := by decide +kernel
theorem d_L_law__422 : decode cL_law_ 422 = .ok (.iload 6, 2) := by decide +kernel
theorem d_L_law__424 : decode cL_law_ 424 = .ok (.i2l, 1) := by decide +kernel
theorem d_L_law__425 : decode cL_law_ 425 = .ok (.lcmp, 1) := by decide +kernel
theorem d_L_law__426 : decode cL_law_ 426 = .ok (.ifCond .eq 5, 3) := by decide +kernel
theorem d_L_law__429 : decode cL_law_ 429 = .ok (.iconst 0, 1) := by decide +kernel
theorem d_L_law__431 : decode cL_law_ 431 = .ok (.goto 2277, 3) := by decide +kernel
theorem d_L_law__434 : decode cL_law_ 434 = .ok (.aload_n 1, 1) := by decide +kernel
theorem d_L_law__435 : decode cL_law_ 435 = .ok (.invokevirtual 151, 3) := by decide +kernel
theorem d_L_law__438 : decode cL_law_ 438 = .ok (.aload_n 2, 1) := by decide +kernel
theorem d_L_law__439 : decode cL_law_ 439 = .ok (.invokevirtual 154, 3) := by decide +kernel
theorem d_L_law__442 : decode cL_law_ 442 = .ok (.if_icmp .eq 2266, 3) := by decide +kernel
theorem d_L_law__445 : decode cL_law_ 445 = .ok (.iconst 0, 1) := by decide +kernel
theorem d_L_law__447 : decode cL_law_ 447 = .ok (.aload_n 1, 1) := by decide +kernel
theorem d_L_law__448 : decode cL_law_ 448 = .ok (.aload_n 0, 1) := by decide +kernel
theorem d_L_law__449 : decode cL_law_ 449 = .ok (.iload 4, 2) := by decide +kernel
theorem d_L_law__451 : decode cL_law_ 451 = .ok (.iconst 1, 1) := by decide +kernel
theorem d_L_law__452 : decode cL_law_ 452 = .ok (.iadd, 1) := by decide +kernel
theorem d_L_law__453 : decode cL_law_ 453 = .ok (.iaload, 1) := by decide +kernel
theorem d_L_law__454 : decode cL_law_ 454 = .ok (.aload_n 0, 1) := by decide +kernel
theorem d_L_law__455 : decode cL_law_ 455 = .ok (.iload 4, 2) := by decide +kernel
theorem d_L_law__457 : decode cL_law_ 457 = .ok (.iconst 2, 1) := by decide +kernel
theorem d_L_law__458 : decode cL_law_ 458 = .ok (.iadd, 1) := by decide +kernel
theorem d_L_law__459 : decode cL_law_ 459 = .ok (.iaload, 1) := by decide +kernel
theorem d_L_law__460 : decode cL_law_ 460 = .ok (.aload_n 3, 1) := by decide +kernel
theorem d_L_law__461 : decode cL_law_ 461 = .ok (.invokestatic 155, 3) := by decide +kernel
theorem d_L_law__464 : decode cL_law_ 464 = .ok (.istore 5, 2) := by decide +kernel
theorem d_L_law__466 : decode cL_law_ 466 = .ok (.aload_n 2, 1) := by decide +kernel
theorem d_L_law__467 : decode cL_law_ 467 = .ok (.aload_n 0, 1) := by decide +kernel
theorem d_L_law__468 : decode cL_law_ 468 = .ok (.iload 4, 2) := by decide +kernel
theorem d_L_law__470 : decode cL_law_ 470 = .ok (.iconst 1, 1) := by decide +kernel
theorem d_L_law__471 : decode cL_law_ 471 = .ok (.iadd, 1) := by decide +kernel
theorem d_L_law__472 : decode cL_law_ 472 = .ok (.iaload, 1) := by decide +kernel
theorem d_L_law__473 : decode cL_law_ 473 = .ok (.aload_n 0, 1) := by decide +kernel
theorem d_L_law__474 : decode cL_law_ 474 = .ok (.iload 4, 2) := by decide +kernel
theorem d_L_law__476 : decode cL_law_ 476 = .ok (.iconst 2, 1) := by decide +kernel
theorem d_L_law__477 : decode cL_law_ 477 = .ok (.iadd, 1) := by decide +kernel
theorem d_L_law__478 : decode cL_law_ 478 = .ok (.iaload, 1) := by decide +kernel
theorem d_L_law__479 : decode cL_law_ 479 = .ok (.invokevirtual 158, 3) := by decide +kernel
theorem d_L_law__482 : decode cL_law_ 482 = .ok (.istore 6, 2) := by decide +kernel
theorem d_L_law__484 : decode cL_law_ 484 = .ok (.aload_n 2, 1) := by decide +kernel
theorem d_L_law__485 : decode cL_law_ 485 = .ok (.invokevirtual 145, 3) := by decide +kernel
theorem d_L_law__488 : decode cL_law_ 488 = .ok (.iload 5, 2) := by decide +kernel
theorem d_L_law__490 : decode cL_law_ 490 = .ok (.if_icmp .eq 5, 3) := by decide +kernel
theorem d_L_law__493 : decode cL_law_ 493 = .ok (.iconst 0, 1) := by decide +kernel
theorem d_L_law__495 : decode cL_law_ 495 = .ok (.iload 5, 2) := by decide +kernel
theorem d_L_law__497 : decode cL_law_ 497 = .ok (.ifCond .ne 15, 3) := by decide +kernel
theorem d_L_law__500 : decode cL_law_ 500 = .ok (.aload_n 3, 1) := by decide +kernel
theorem d_L_law__501 : decode cL_law_ 501 = .ok (.iconst 0, 1) := by decide +kernel
theorem d_L_law__502 : decode cL_law_ 502 = .ok (.laload, 1) := by decide +kernel
theorem d_L_law__503 : decode cL_law_ 503 = .ok (.iload 6, 2) := by decide +kernel
theorem d_L_law__505 : decode cL_law_ 505 = .ok (.i2l, 1) := by decide +kernel
theorem d_L_law__506 : decode cL_law_ 506 = .ok (.lcmp, 1) := by decide +kernel
theorem d_L_law__507 : decode cL_law_ 507 = .ok (.ifCond .eq 5, 3) := by decide +kernel
theorem d_L_law__510 : decode cL_law_ 510 = .ok (.iconst 0, 1) := by decide +kernel
theorem d_L_law__512 : decode cL_law_ 512 = .ok (.goto 2196, 3) := by decide +kernel
theorem d_L_law__515 : decode cL_law_ 515 = .ok (.aload_n 1, 1) := by decide +kernel
theorem d_L_law__516 : decode cL_law_ 516 = .ok (.aload_n 0, 1) := by decide +kernel
theorem d_L_law__517 : decode cL_law_ 517 = .ok (.iload 4, 2) := by decide +kernel
theorem d_L_law__519 : decode cL_law_ 519 = .ok (.iconst 1, 1) := by decide +kernel
theorem d_L_law__520 : decode cL_law_ 520 = .ok (.iadd, 1) := by decide +kernel
theorem d_L_law__521 : decode cL_law_ 521 = .ok (.iaload, 1) := by decide +kernel
theorem d_L_law__522 : decode cL_law_ 522 = .ok (.aload_n 0, 1) := by decide +kernel
theorem d_L_law__523 : decode cL_law_ 523 = .ok (.iload 4, 2) := by decide +kernel
theorem d_L_law__525 : decode cL_law_ 525 = .ok (.iconst 2, 1) := by decide +kernel
theorem d_L_law__526 : decode cL_law_ 526 = .ok (.iadd, 1) := by decide +kernel
theorem d_L_law__527 : decode cL_law_ 527 = .ok (.iaload, 1) := by decide +kernel
theorem d_L_law__528 : decode cL_law_ 528 = .ok (.aload_n 3, 1) := by decide +kernel
theorem d_L_law__529 : decode cL_law_ 529 = .ok (.invokestatic 159, 3) := by decide +kernel
theorem d_L_law__532 : decode cL_law_ 532 = .ok (.istore 5, 2) := by decide +kernel
theorem d_L_law__534 : decode cL_law_ 534 = .ok (.aload_n 2, 1) := by decide +kernel
theorem d_L_law__535 : decode cL_law_ 535 = .ok (.aload_n 0, 1) := by decide +kernel
theorem d_L_law__536 : decode cL_law_ 536 = .ok (.iload 4, 2) := by decide +kernel
theorem d_L_law__538 : decode cL_law_ 538 = .ok (.iconst 1, 1) := by decide +kernel
theorem d_L_law__539 : decode cL_law_ 539 = .ok (.iadd, 1) := by decide +kernel
theorem d_L_law__540 : decode cL_law_ 540 = .ok (.iaload, 1) := by decide +kernel
theorem d_L_law__541 : decode cL_law_ 541 = .ok (.aload_n 0, 1) := by decide +kernel
theorem d_L_law__542 : decode cL_law_ 542 = .ok (.iload 4, 2) := by decide +kernel
theorem d_L_law__544 : decode cL_law_ 544 = .ok (.iconst 2, 1) := by decide +kernel
theorem d_L_law__545 : decode cL_law_ 545 = .ok (.iadd, 1) := by decide +kernel
theorem d_L_law__546 : decode cL_law_ 546 = .ok (.iaload, 1) := by decide +kernel
theorem d_L_law__547 : decode cL_law_ 547 = .ok (.invokevirtual 161, 3) := by decide +kernel
theorem d_L_law__550 : decode cL_law_ 550 = .ok (.istore 6, 2) := by decide +kernel
theorem d_L_law__552 : decode cL_law_ 552 = .ok (.aload_n 2, 1) := by decide +kernel
theorem d_L_law__553 : decode cL_law_ 553 = .ok (.invokevirtual 145, 3) := by decide +kernel
theorem d_L_law__556 : decode cL_law_ 556 = .ok (.iload 5, 2) := by decide +kernel
theorem d_L_law__558 : decode cL_law_ 558 = .ok (.if_icmp .eq 5, 3) := by decide +kernel
theorem d_L_law__561 : decode cL_law_ 561 = .ok (.iconst 0, 1) := by decide +kernel
theorem d_L_law__563 : decode cL_law_ 563 = .ok (.iload 5, 2) := by decide +kernel
theorem d_L_law__565 : decode cL_law_ 565 = .ok (.ifCond .ne 15, 3) := by decide +kernel
theorem d_L_law__568 : decode cL_law_ 568 = .ok (.aload_n 3, 1) := by decide +kernel
theorem d_L_law__569 : decode cL_law_ 569 = .ok (.iconst 0, 1) := by decide +kernel
theorem d_L_law__570 : decode cL_law_ 570 = .ok (.laload, 1) := by decide +kernel
theorem d_L_law__571 : decode cL_law_ 571 = .ok (.iload 6, 2) := by decide +kernel
theorem d_L_law__573 : decode cL_law_ 573 = .ok (.i2l, 1) := by decide +kernel
theorem d_L_law__574 : decode cL_law_ 574 = .ok (.lcmp, 1) := by decide +kernel
theorem d_L_law__575 : decode cL_law_ 575 = .ok (.ifCond .eq 5, 3) := by decide +kernel
theorem d_L_law__578 : decode cL_law_ 578 = .ok (.iconst 0, 1) := by decide +kernel
theorem d_L_law__580 : decode cL_law_ 580 = .ok (.goto 2128, 3) := by decide +kernel
theorem d_L_law__583 : decode cL_law_ 583 = .ok (.aload_n 1, 1) := by decide +kernel
theorem d_L_law__584 : decode cL_law_ 584 = .ok (.aload_n 0, 1) := by decide +kernel
theorem d_L_law__585 : decode cL_law_ 585 = .ok (.iload 4, 2) := by decide +kernel
theorem d_L_law__587 : decode cL_law_ 587 = .ok (.iconst 1, 1) := by decide +kernel
theorem d_L_law__588 : decode cL_law_ 588 = .ok (.iadd, 1) := by decide +kernel
theorem d_L_law__589 : decode cL_law_ 589 = .ok (.iaload, 1) := by decide +kernel
theorem d_L_law__590 : decode cL_law_ 590 = .ok (.aload_n 3, 1) := by decide +kernel
theorem d_L_law__591 : decode cL_law_ 591 = .ok (.invokestatic 162, 3) := by decide +kernel
theorem d_L_law__594 : decode cL_law_ 594 = .ok (.istore 5, 2) := by decide +kernel
theorem d_L_law__596 : decode cL_law_ 596 = .ok (.aload_n 2, 1) := by decide +kernel
theorem d_L_law__597 : decode cL_law_ 597 = .ok (.aload_n 0, 1) := by decide +kernel
theorem d_L_law__598 : decode cL_law_ 598 = .ok (.iload 4, 2) := by decide +kernel
theorem d_L_law__600 : decode cL_law_ 600 = .ok (.iconst 1, 1) := by decide +kernel
theorem d_L_law__601 : decode cL_law_ 601 = .ok (.iadd, 1) := by decide +kernel
theorem d_L_law__602 : decode cL_law_ 602 = .ok (.iaload, 1) := by decide +kernel
theorem d_L_law__603 : decode cL_law_ 603 = .ok (.invokevirtual 165, 3) := by decide +kernel
theorem d_L_law__606 : decode cL_law_ 606 = .ok (.istore 6, 2) := by decide +kernel
theorem d_L_law__608 : decode cL_law_ 608 = .ok (.aload_n 2, 1) := by decide +kernel
theorem d_L_law__609 : decode cL_law_ 609 = .ok (.invokevirtual 145, 3) := by decide +kernel
theorem d_L_law__612 : decode cL_law_ 612 = .ok (.iload 5, 2) := by decide +kernel
theorem d_L_law__614 : decode cL_law_ 614 = .ok (.if_icmp .eq 5, 3) := by decide +kernel
theorem d_L_law__617 : decode cL_law_ 617 = .ok (.iconst 0, 1) := by decide +kernel
theorem d_L_law__619 : decode cL_law_ 619 = .ok (.iload 5, 2) := by decide +kernel
theorem d_L_law__621 : decode cL_law_ 621 = .ok (.ifCond .ne 15, 3) := by decide +kernel
theorem d_L_law__624 : decode cL_law_ 624 = .ok (.aload_n 3, 1) := by decide +kernel
theorem d_L_law__625 : decode cL_law_ 625 = .ok (.iconst 0, 1) := by decide +kernel
theorem d_L_law__626 : decode cL_law_ 626 = .ok (.laload, 1) := by decide +kernel
theorem d_L_law__627 : decode cL_law_ 627 = .ok (.iload 6, 2) := by decide +kernel
theorem d_L_law__629 : decode cL_law_ 629 = .ok (.i2l, 1) := by decide +kernel
theorem d_L_law__630 : decode cL_law_ 630 = .ok (.lcmp, 1) := by decide +kernel
theorem d_L_law__631 : decode cL_law_ 631 = .ok (.ifCond .eq 5, 3) := by decide +kernel
theorem d_L_law__634 : decode cL_law_ 634 = .ok (.iconst 0, 1) := by decide +kernel
theorem d_L_law__636 : decode cL_law_ 636 = .ok (.goto 2072, 3) := by decide +kernel
theorem d_L_law__639 : decode cL_law_ 639 = .ok (.aload_n 1, 1) := by decide +kernel
theorem d_L_law__640 : decode cL_law_ 640 = .ok (.aload_n 0, 1) := by decide +kernel
theorem d_L_law__641 : decode cL_law_ 641 = .ok (.iload 4, 2) := by decide +kernel
theorem d_L_law__643 : decode cL_law_ 643 = .ok (.iconst 1, 1) := by decide +kernel
theorem d_L_law__644 : decode cL_law_ 644 = .ok (.iadd, 1) := by decide +kernel
theorem d_L_law__645 : decode cL_law_ 645 = .ok (.iaload, 1) := by decide +kernel
theorem d_L_law__646 : decode cL_law_ 646 = .ok (.aload_n 0, 1) := by decide +kernel
theorem d_L_law__647 : decode cL_law_ 647 = .ok (.iload 4, 2) := by decide +kernel
theorem d_L_law__649 : decode cL_law_ 649 = .ok (.iconst 2, 1) := by decide +kernel
theorem d_L_law__650 : decode cL_law_ 650 = .ok (.iadd, 1) := by decide +kernel
theorem d_L_law__651 : decode cL_law_ 651 = .ok (.iaload, 1) := by decide +kernel
theorem d_L_law__652 : decode cL_law_ 652 = .ok (.aload_n 3, 1) := by decide +kernel
theorem d_L_law__653 : decode cL_law_ 653 = .ok (.invokestatic 166, 3) := by decide +kernel
theorem d_L_law__656 : decode cL_law_ 656 = .ok (.istore 5, 2) := by decide +kernel
theorem d_L_law__658 : decode cL_law_ 658 = .ok (.aload_n 2, 1) := by decide +kernel
theorem d_L_law__659 : decode cL_law_ 659 = .ok (.aload_n 0, 1) := by decide +kernel
theorem d_L_law__660 : decode cL_law_ 660 = .ok (.iload 4, 2) := by decide +kernel
theorem d_L_law__662 : decode cL_law_ 662 = .ok (.iconst 1, 1) := by decide +kernel
theorem d_L_law__663 : decode cL_law_ 663 = .ok (.iadd, 1) := by decide +kernel
theorem d_L_law__664 : decode cL_law_ 664 = .ok (.iaload, 1) := by decide +kernel
theorem d_L_law__665 : decode cL_law_ 665 = .ok (.aload_n 0, 1) := by decide +kernel
theorem d_L_law__666 : decode cL_law_ 666 = .ok (.iload 4, 2) := by decide +kernel
theorem d_L_law__668 : decode cL_law_ 668 = .ok (.iconst 2, 1) := by decide +kernel
theorem d_L_law__669 : decode cL_law_ 669 = .ok (.iadd, 1) := by decide +kernel
theorem d_L_law__670 : decode cL_law_ 670 = .ok (.iaload, 1) := by decide +kernel
theorem d_L_law__671 : decode cL_law_ 671 = .ok (.invokevirtual 168, 3) := by decide +kernel
theorem d_L_law__674 : decode cL_law_ 674 = .ok (.istore 6, 2) := by decide +kernel
theorem d_L_law__676 : decode cL_law_ 676 = .ok (.aload_n 2, 1) := by decide +kernel
theorem d_L_law__677 : decode cL_law_ 677 = .ok (.invokevirtual 145, 3) := by decide +kernel
theorem d_L_law__680 : decode cL_law_ 680 = .ok (.iload 5, 2) := by decide +kernel
theorem d_L_law__682 : decode cL_law_ 682 = .ok (.if_icmp .eq 5, 3) := by decide +kernel
theorem d_L_law__685 : decode cL_law_ 685 = .ok (.iconst 0, 1) := by decide +kernel
theorem d_L_law__687 : decode cL_law_ 687 = .ok (.iload 5, 2) := by decide +kernel
theorem d_L_law__689 : decode cL_law_ 689 = .ok (.ifCond .ne 15, 3) := by decide +kernel
theorem d_L_law__692 : decode cL_law_ 692 = .ok (.aload_n 3, 1) := by decide +kernel
theorem d_L_law__693 : decode cL_law_ 693 = .ok (.iconst 0, 1) := by decide +kernel
theorem d_L_law__694 : decode cL_law_ 694 = .ok (.laload, 1) := by decide +kernel
theorem d_L_law__695 : decode cL_law_ 695 = .ok (.iload 6, 2) := by decide +kernel
theorem d_L_law__697 : decode cL_law_ 697 = .ok (.i2l, 1) := by decide +kernel
theorem d_L_law__698 : decode cL_law_ 698 = .ok (.lcmp, 1) := by decide +kernel
theorem d_L_law__699 : decode cL_law_ 699 = .ok (.ifCond .eq 5, 3) := by decide +kernel
theorem d_L_law__702 : decode cL_law_ 702 = .ok (.iconst 0, 1) := by decide +kernel
theorem d_L_law__704 : decode cL_law_ 704 = .ok (.goto 2004, 3) := by decide +kernel
theorem d_L_law__707 : decode cL_law_ 707 = .ok (.aload_n 1, 1) := by decide +kernel
theorem d_L_law__708 : decode cL_law_ 708 = .ok (.aload_n 0, 1) := by decide +kernel
theorem d_L_law__709 : decode cL_law_ 709 = .ok (.iload 4, 2) := by decide +kernel
theorem d_L_law__711 : decode cL_law_ 711 = .ok (.iconst 1, 1) := by decide +kernel
theorem d_L_law__712 : decode cL_law_ 712 = .ok (.iadd, 1) := by decide +kernel
theorem d_L_law__713 : decode cL_law_ 713 = .ok (.iaload, 1) := by decide +kernel
theorem d_L_law__714 : decode cL_law_ 714 = .ok (.aload_n 3, 1) := by decide +kernel
theorem d_L_law__715 : decode cL_law_ 715 = .ok (.invokestatic 169, 3) := by decide +kernel
theorem d_L_law__718 : decode cL_law_ 718 = .ok (.istore 5, 2) := by decide +kernel
theorem d_L_law__720 : decode cL_law_ 720 = .ok (.aload_n 2, 1) := by decide +kernel
theorem d_L_law__721 : decode cL_law_ 721 = .ok (.aload_n 0, 1) := by decide +kernel
theorem d_L_law__722 : decode cL_law_ 722 = .ok (.iload 4, 2) := by decide +kernel
theorem d_L_law__724 : decode cL_law_ 724 = .ok (.iconst 1, 1) := by decide +kernel
theorem d_L_law__725 : decode cL_law_ 725 = .ok (.iadd, 1) := by decide +kernel
theorem d_L_law__726 : decode cL_law_ 726 = .ok (.iaload, 1) := by decide +kernel
theorem d_L_law__727 : decode cL_law_ 727 = .ok (.invokevirtual 171, 3) := by decide +kernel
theorem d_L_law__730 : decode cL_law_ 730 = .ok (.istore 6, 2) := by decide +kernel
theorem d_L_law__732 : decode cL_law_ 732 = .ok (.aload_n 2, 1) := by decide +kernel
theorem d_L_law__733 : decode cL_law_ 733 = .ok (.invokevirtual 145, 3) := by decide +kernel
theorem d_L_law__736 : decode cL_law_ 736 = .ok (.iload 5, 2) := by decide +kernel
theorem d_L_law__738 : decode cL_law_ 738 = .ok (.if_icmp .eq 5, 3) := by decide +kernel
theorem d_L_law__741 : decode cL_law_ 741 = .ok (.iconst 0, 1) := by decide +kernel
theorem d_L_law__743 : decode cL_law_ 743 = .ok (.iload 5, 2) := by decide +kernel
theorem d_L_law__745 : decode cL_law_ 745 = .ok (.ifCond .ne 15, 3) := by decide +kernel
theorem d_L_law__748 : decode cL_law_ 748 = .ok (.aload_n 3, 1) := by decide +kernel
theorem d_L_law__749 : decode cL_law_ 749 = .ok (.iconst 0, 1) := by decide +kernel
theorem d_L_law__750 : decode cL_law_ 750 = .ok (.laload, 1) := by decide +kernel
theorem d_L_law__751 : decode cL_law_ 751 = .ok (.iload 6, 2) := by decide +kernel
theorem d_L_law__753 : decode cL_law_ 753 = .ok (.i2l, 1) := by decide +kernel
theorem d_L_law__754 : decode cL_law_ 754 = .ok (.lcmp, 1) := by decide +kernel
theorem d_L_law__755 : decode cL_law_ 755 = .ok (.ifCond .eq 5, 3) := by decide +kernel
theorem d_L_law__758 : decode cL_law_ 758 = .ok (.iconst 0, 1) := by decide +kernel
theorem d_L_law__760 : decode cL_law_ 760 = .ok (.goto 1948, 3) := by decide +kernel
theorem d_L_law__763 : decode cL_law_ 763 = .ok (.aload_n 1, 1) := by decide +kernel
theorem d_L_law__764 : decode cL_law_ 764 = .ok (.aload_n 0, 1) := by decide +kernel
theorem d_L_law__765 : decode cL_law_ 765 = .ok (.iload 4, 2) := by decide +kernel
theorem d_L_law__767 : decode cL_law_ 767 = .ok (.iconst 1, 1) := by decide +kernel
theorem d_L_law__768 : decode cL_law_ 768 = .ok (.iadd, 1) := by decide +kernel
theorem d_L_law__769 : decode cL_law_ 769 = .ok (.iaload, 1) := by decide +kernel
theorem d_L_law__770 : decode cL_law_ 770 = .ok (.aload_n 0, 1) := by decide +kernel
theorem d_L_law__771 : decode cL_law_ 771 = .ok (.iload 4, 2) := by decide +kernel
theorem d_L_law__773 : decode cL_law_ 773 = .ok (.iconst 2, 1) := by decide +kernel
theorem d_L_law__774 : decode cL_law_ 774 = .ok (.iadd, 1) := by decide +kernel
theorem d_L_law__775 : decode cL_law_ 775 = .ok (.iaload, 1) := by decide +kernel
theorem d_L_law__776 : decode cL_law_ 776 = .ok (.aload_n 0, 1) := by decide +kernel
theorem d_L_law__777 : decode cL_law_ 777 = .ok (.iload 4, 2) := by decide +kernel
theorem d_L_law__779 : decode cL_law_ 779 = .ok (.iconst 3, 1) := by decide +kernel
theorem d_L_law__780 : decode cL_law_ 780 = .ok (.iadd, 1) := by decide +kernel
theorem d_L_law__781 : decode cL_law_ 781 = .ok (.iaload, 1) := by decide +kernel
theorem d_L_law__782 : decode cL_law_ 782 = .ok (.aload_n 0, 1) := by decide +kernel
theorem d_L_law__783 : decode cL_law_ 783 = .ok (.iload 4, 2) := by decide +kernel
theorem d_L_law__785 : decode cL_law_ 785 = .ok (.iconst 4, 1) := by decide +kernel
theorem d_L_law__786 : decode cL_law_ 786 = .ok (.iadd, 1) := by decide +kernel
theorem d_L_law__787 : decode cL_law_ 787 = .ok (.iaload, 1) := by decide +kernel
theorem d_L_law__788 : decode cL_law_ 788 = .ok (.aload_n 0, 1) := by decide +kernel
theorem d_L_law__789 : decode cL_law_ 789 = .ok (.iload 4, 2) := by decide +kernel
theorem d_L_law__791 : decode cL_law_ 791 = .ok (.iconst 5, 1) := by decide +kernel
theorem d_L_law__792 : decode cL_law_ 792 = .ok (.iadd, 1) := by decide +kernel
theorem d_L_law__793 : decode cL_law_ 793 = .ok (.iaload, 1) := by decide +kernel
theorem d_L_law__794 : decode cL_law_ 794 = .ok (.aload_n 3, 1) := by decide +kernel
theorem d_L_law__795 : decode cL_law_ 795 = .ok (.invokestatic 172, 3) := by decide +kernel
theorem d_L_law__798 : decode cL_law_ 798 = .ok (.istore 5, 2) := by decide +kernel
theorem d_L_law__800 : decode cL_law_ 800 = .ok (.aload_n 2, 1) := by decide +kernel
theorem d_L_law__801 : decode cL_law_ 801 = .ok (.aload_n 0, 1) := by decide +kernel
theorem d_L_law__802 : decode cL_law_ 802 = .ok (.iload 4, 2) := by decide +kernel
theorem d_L_law__804 : decode cL_law_ 804 = .ok (.iconst 1, 1) := by decide +kernel
theorem d_L_law__805 : decode cL_law_ 805 = .ok (.iadd, 1) := by decide +kernel
theorem d_L_law__806 : decode cL_law_ 806 = .ok (.iaload, 1) := by decide +kernel
theorem d_L_law__807 : decode cL_law_ 807 = .ok (.aload_n 0, 1) := by decide +kernel
theorem d_L_law__808 : decode cL_law_ 808 = .ok (.iload 4, 2) := by decide +kernel
theorem d_L_law__810 : decode cL_law_ 810 = .ok (.iconst 2, 1) := by decide +kernel
theorem d_L_law__811 : decode cL_law_ 811 = .ok (.iadd, 1) := by decide +kernel
theorem d_L_law__812 : decode cL_law_ 812 = .ok (.iaload, 1) := by decide +kernel
theorem d_L_law__813 : decode cL_law_ 813 = .ok (.aload_n 0, 1) := by decide +kernel
theorem d_L_law__814 : decode cL_law_ 814 = .ok (.iload 4, 2) := by decide +kernel
theorem d_L_law__816 : decode cL_law_ 816 = .ok (.iconst 3, 1) := by decide +kernel
theorem d_L_law__817 : decode cL_law_ 817 = .ok (.iadd, 1) := by decide +kernel
theorem d_L_law__818 : decode cL_law_ 818 = .ok (.iaload, 1) := by decide +kernel
theorem d_L_law__819 : decode cL_law_ 819 = .ok (.aload_n 0, 1) := by decide +kernel
theorem d_L_law__820 : decode cL_law_ 820 = .ok (.iload 4, 2) := by decide +kernel
theorem d_L_law__822 : decode cL_law_ 822 = .ok (.iconst 4, 1) := by decide +kernel
theorem d_L_law__823 : decode cL_law_ 823 = .ok (.iadd, 1) := by decide +kernel
theorem d_L_law__824 : decode cL_law_ 824 = .ok (.iaload, 1) := by decide +kernel
theorem d_L_law__825 : decode cL_law_ 825 = .ok (.aload_n 0, 1) := by decide +kernel
theorem d_L_law__826 : decode cL_law_ 826 = .ok (.iload 4, 2) := by decide +kernel
theorem d_L_law__828 : decode cL_law_ 828 = .ok (.iconst 5, 1) := by decide +kernel
theorem d_L_law__829 : decode cL_law_ 829 = .ok (.iadd, 1) := by decide +kernel
theorem d_L_law__830 : decode cL_law_ 830 = .ok (.iaload, 1) := by decide +kernel
theorem d_L_law__831 : decode cL_law_ 831 = .ok (.invokevirtual 175, 3) := by decide +kernel
theorem d_L_law__834 : decode cL_law_ 834 = .ok (.istore 6, 2) := by decide +kernel
theorem d_L_law__836 : decode cL_law_ 836 = .ok (.aload_n 2, 1) := by decide +kernel
theorem d_L_law__837 : decode cL_law_ 837 = .ok (.invokevirtual 145, 3) := by decide +kernel
theorem d_L_law__840 : decode cL_law_ 840 = .ok (.iload 5, 2) := by decide +kernel
theorem d_L_law__842 : decode cL_law_ 842 = .ok (.if_icmp .eq 5, 3) := by decide +kernel
theorem d_L_law__845 : decode cL_law_ 845 = .ok (.iconst 0, 1) := by decide +kernel
theorem d_L_law__847 : decode cL_law_ 847 = .ok (.iload 5, 2) := by decide +kernel
theorem d_L_law__849 : decode cL_law_ 849 = .ok (.ifCond .ne 15, 3) := by decide +kernel
theorem d_L_law__852 : decode cL_law_ 852 = .ok (.aload_n 3, 1) := by decide +kernel
theorem d_L_law__853 : decode cL_law_ 853 = .ok (.iconst 0, 1) := by decide +kernel
theorem d_L_law__854 : decode cL_law_ 854 = .ok (.laload, 1) := by decide +kernel
theorem d_L_law__855 : decode cL_law_ 855 = .ok (.iload 6, 2) := by decide +kernel
theorem d_L_law__857 : decode cL_law_ 857 = .ok (.i2l, 1) := by decide +kernel
theorem d_L_law__858 : decode cL_law_ 858 = .ok (.lcmp, 1) := by decide +kernel
theorem d_L_law__859 : decode cL_law_ 859 = .ok (.ifCond .eq 5, 3) := by decide +kernel
theorem d_L_law__862 : decode cL_law_ 862 = .ok (.iconst 0, 1) := by decide +kernel
theorem d_L_law__864 : decode cL_law_ 864 = .ok (.goto 1844, 3) := by decide +kernel
theorem d_L_law__867 : decode cL_law_ 867 = .ok (.aload_n 1, 1) := by decide +kernel
theorem d_L_law__868 : decode cL_law_ 868 = .ok (.aload_n 0, 1) := by decide +kernel
theorem d_L_law__869 : decode cL_law_ 869 = .ok (.iload 4, 2) := by decide +kernel
theorem d_L_law__871 : decode cL_law_ 871 = .ok (.iconst 1, 1) := by decide +kernel
theorem d_L_law__872 : decode cL_law_ 872 = .ok (.iadd, 1) := by decide +kernel
theorem d_L_law__873 : decode cL_law_ 873 = .ok (.iaload, 1) := by decide +kernel
theorem d_L_law__874 : decode cL_law_ 874 = .ok (.aload_n 3, 1) := by decide +kernel
theorem d_L_law__875 : decode cL_law_ 875 = .ok (.invokestatic 176, 3) := by decide +kernel
theorem d_L_law__878 : decode cL_law_ 878 = .ok (.istore 5, 2) := by decide +kernel
theorem d_L_law__880 : decode cL_law_ 880 = .ok (.aload_n 2, 1) := by decide +kernel
theorem d_L_law__881 : decode cL_law_ 881 = .ok (.aload_n 0, 1) := by decide +kernel
theorem d_L_law__882 : decode cL_law_ 882 = .ok (.iload 4, 2) := by decide +kernel
theorem d_L_law__884 : decode cL_law_ 884 = .ok (.iconst 1, 1) := by decide +kernel
theorem d_L_law__885 : decode cL_law_ 885 = .ok (.iadd, 1) := by decide +kernel
theorem d_L_law__886 : decode cL_law_ 886 = .ok (.iaload, 1) := by decide +kernel
theorem d_L_law__887 : decode cL_law_ 887 = .ok (.invokevirtual 178, 3) := by decide +kernel
theorem d_L_law__890 : decode cL_law_ 890 = .ok (.istore 6, 2) := by decide +kernel
theorem d_L_law__892 : decode cL_law_ 892 = .ok (.aload_n 2, 1) := by decide +kernel
theorem d_L_law__893 : decode cL_law_ 893 = .ok (.invokevirtual 145, 3) := by decide +kernel
theorem d_L_law__896 : decode cL_law_ 896 = .ok (.iload 5, 2) := by decide +kernel
theorem d_L_law__898 : decode cL_law_ 898 = .ok (.if_icmp .eq 5, 3) := by decide +kernel
theorem d_L_law__901 : decode cL_law_ 901 = .ok (.iconst 0, 1) := by decide +kernel
theorem d_L_law__903 : decode cL_law_ 903 = .ok (.iload 5, 2) := by decide +kernel
theorem d_L_law__905 : decode cL_law_ 905 = .ok (.ifCond .ne 15, 3) := by decide +kernel
theorem d_L_law__908 : decode cL_law_ 908 = .ok (.aload_n 3, 1) := by decide +kernel
theorem d_L_law__909 : decode cL_law_ 909 = .ok (.iconst 0, 1) := by decide +kernel
theorem d_L_law__910 : decode cL_law_ 910 = .ok (.laload, 1) := by decide +kernel
theorem d_L_law__911 : decode cL_law_ 911 = .ok (.iload 6, 2) := by decide +kernel
theorem d_L_law__913 : decode cL_law_ 913 = .ok (.i2l, 1) := by decide +kernel
theorem d_L_law__914 : decode cL_law_ 914 = .ok (.lcmp, 1) := by decide +kernel
theorem d_L_law__915 : decode cL_law_ 915 = .ok (.ifCond .eq 5, 3) := by decide +kernel
theorem d_L_law__918 : decode cL_law_ 918 = .ok (.iconst 0, 1) := by decide +kernel
theorem d_L_law__920 : decode cL_law_ 920 = .ok (.goto 1788, 3) := by decide +kernel
theorem d_L_law__923 : decode cL_law_ 923 = .ok (.aload_n 1, 1) := by decide +kernel
theorem d_L_law__924 : decode cL_law_ 924 = .ok (.aload_n 0, 1) := by decide +kernel
theorem d_L_law__925 : decode cL_law_ 925 = .ok (.iload 4, 2) := by decide +kernel
theorem d_L_law__927 : decode cL_law_ 927 = .ok (.iconst 1, 1) := by decide +kernel
theorem d_L_law__928 : decode cL_law_ 928 = .ok (.iadd, 1) := by decide +kernel
theorem d_L_law__929 : decode cL_law_ 929 = .ok (.iaload, 1) := by decide +kernel
theorem d_L_law__930 : decode cL_law_ 930 = .ok (.aload_n 0, 1) := by decide +kernel
theorem d_L_law__931 : decode cL_law_ 931 = .ok (.iload 4, 2) := by decide +kernel
theorem d_L_law__933 : decode cL_law_ 933 = .ok (.iconst 2, 1) := by decide +kernel
theorem d_L_law__934 : decode cL_law_ 934 = .ok (.iadd, 1) := by decide +kernel
theorem d_L_law__935 : decode cL_law_ 935 = .ok (.iaload, 1) := by decide +kernel
theorem d_L_law__936 : decode cL_law_ 936 = .ok (.aload_n 3, 1) := by decide +kernel
theorem d_L_law__937 : decode cL_law_ 937 = .ok (.invokestatic 179, 3) := by decide +kernel
theorem d_L_law__940 : decode cL_law_ 940 = .ok (.istore 5, 2) := by decide +kernel
theorem d_L_law__942 : decode cL_law_ 942 = .ok (.aload_n 2, 1) := by decide +kernel
theorem d_L_law__943 : decode cL_law_ 943 = .ok (.aload_n 0, 1) := by decide +kernel
theorem d_L_law__944 : decode cL_law_ 944 = .ok (.iload 4, 2) := by decide +kernel
theorem d_L_law__946 : decode cL_law_ 946 = .ok (.iconst 1, 1) := by decide +kernel
theorem d_L_law__947 : decode cL_law_ 947 = .ok (.iadd, 1) := by decide +kernel
theorem d_L_law__948 : decode cL_law_ 948 = .ok (.iaload, 1) := by decide +kernel
theorem d_L_law__949 : decode cL_law_ 949 = .ok (.aload_n 0, 1) := by decide +kernel
theorem d_L_law__950 : decode cL_law_ 950 = .ok (.iload 4, 2) := by decide +kernel
theorem d_L_law__952 : decode cL_law_ 952 = .ok (.iconst 2, 1) := by decide +kernel
theorem d_L_law__953 : decode cL_law_ 953 = .ok (.iadd, 1) := by decide +kernel
theorem d_L_law__954 : decode cL_law_ 954 = .ok (.iaload, 1) := by decide +kernel
theorem d_L_law__955 : decode cL_law_ 955 = .ok (.invokevirtual 181, 3) := by decide +kernel
theorem d_L_law__958 : decode cL_law_ 958 = .ok (.istore 6, 2) := by decide +kernel
theorem d_L_law__960 : decode cL_law_ 960 = .ok (.aload_n 2, 1) := by decide +kernel
theorem d_L_law__961 : decode cL_law_ 961 = .ok (.invokevirtual 145, 3) := by decide +kernel
theorem d_L_law__964 : decode cL_law_ 964 = .ok (.iload 5, 2) := by decide +kernel
theorem d_L_law__966 : decode cL_law_ 966 = .ok (.if_icmp .eq 5, 3) := by decide +kernel
theorem d_L_law__969 : decode cL_law_ 969 = .ok (.iconst 0, 1) := by decide +kernel
theorem d_L_law__971 : decode cL_law_ 971 = .ok (.iload 5, 2) := by decide +kernel
theorem d_L_law__973 : decode cL_law_ 973 = .ok (.ifCond .ne 15, 3) := by decide +kernel
theorem d_L_law__976 : decode cL_law_ 976 = .ok (.aload_n 3, 1) := by decide +kernel
theorem d_L_law__977 : decode cL_law_ 977 = .ok (.iconst 0, 1) := by decide +kernel
theorem d_L_law__978 : decode cL_law_ 978 = .ok (.laload, 1) := by decide +kernel
theorem d_L_law__979 : decode cL_law_ 979 = .ok (.iload 6, 2) := by decide +kernel
theorem d_L_law__981 : decode cL_law_ 981 = .ok (.i2l, 1) := by decide +kernel
theorem d_L_law__982 : decode cL_law_ 982 = .ok (.lcmp, 1) := by decide +kernel
theorem d_L_law__983 : decode cL_law_ 983 = .ok (.ifCond .eq 5, 3) := by decide +kernel
theorem d_L_law__986 : decode cL_law_ 986 = .ok (.iconst 0, 1) := by decide +kernel
theorem d_L_law__988 : decode cL_law_ 988 = .ok (.goto 1720, 3) := by decide +kernel
theorem d_L_law__991 : decode cL_law_ 991 = .ok (.aload_n 1, 1) := by decide +kernel
theorem d_L_law__992 : decode cL_law_ 992 = .ok (.aload_n 0, 1) := by decide +kernel
theorem d_L_law__993 : decode cL_law_ 993 = .ok (.iload 4, 2) := by decide +kernel
theorem d_L_law__995 : decode cL_law_ 995 = .ok (.iconst 1, 1) := by decide +kernel
theorem d_L_law__996 : decode cL_law_ 996 = .ok (.iadd, 1) := by decide +kernel
theorem d_L_law__997 : decode cL_law_ 997 = .ok (.iaload, 1) := by decide +kernel
theorem d_L_law__998 : decode cL_law_ 998 = .ok (.aload_n 0, 1) := by decide +kernel
theorem d_L_law__999 : decode cL_law_ 999 = .ok (.iload 4, 2) := by decide +kernel
theorem d_L_law__1001 : decode cL_law_ 1001 = .ok (.iconst 2, 1) := by decide +kernel
theorem d_L_law__1002 : decode cL_law_ 1002 = .ok (.iadd, 1) := by decide +kernel
theorem d_L_law__1003 : decode cL_law_ 1003 = .ok (.iaload, 1) := by decide +kernel
theorem d_L_law__1004 : decode cL_law_ 1004 = .ok (.aload_n 3, 1) := by decide +kernel
theorem d_L_law__1005 : decode cL_law_ 1005 = .ok (.invokestatic 182, 3) := by decide +kernel
theorem d_L_law__1008 : decode cL_law_ 1008 = .ok (.istore 5, 2) := by decide +kernel
theorem d_L_law__1010 : decode cL_law_ 1010 = .ok (.aload_n 2, 1) := by decide +kernel
theorem d_L_law__1011 : decode cL_law_ 1011 = .ok (.aload_n 0, 1) := by decide +kernel
theorem d_L_law__1012 : decode cL_law_ 1012 = .ok (.iload 4, 2) := by decide +kernel
theorem d_L_law__1014 : decode cL_law_ 1014 = .ok (.iconst 1, 1) := by decide +kernel
theorem d_L_law__1015 : decode cL_law_ 1015 = .ok (.iadd, 1) := by decide +kernel
theorem d_L_law__1016 : decode cL_law_ 1016 = .ok (.iaload, 1) := by decide +kernel
theorem d_L_law__1017 : decode cL_law_ 1017 = .ok (.aload_n 0, 1) := by decide +kernel
theorem d_L_law__1018 : decode cL_law_ 1018 = .ok (.iload 4, 2) := by decide +kernel
theorem d_L_law__1020 : decode cL_law_ 1020 = .ok (.iconst 2, 1) := by decide +kernel
theorem d_L_law__1021 : decode cL_law_ 1021 = .ok (.iadd, 1) := by decide +kernel
theorem d_L_law__1022 : decode cL_law_ 1022 = .ok (.iaload, 1) := by decide +kernel
theorem d_L_law__1023 : decode cL_law_ 1023 = .ok (.invokevirtual 184, 3) := by decide +kernel
theorem d_L_law__1026 : decode cL_law_ 1026 = .ok (.istore 6, 2) := by decide +kernel
theorem d_L_law__1028 : decode cL_law_ 1028 = .ok (.aload_n 2, 1) := by decide +kernel
theorem d_L_law__1029 : decode cL_law_ 1029 = .ok (.invokevirtual 145, 3) := by decide +kernel
theorem d_L_law__1032 : decode cL_law_ 1032 = .ok (.iload 5, 2) := by decide +kernel
theorem d_L_law__1034 : decode cL_law_ 1034 = .ok (.if_icmp .eq 5, 3) := by decide +kernel
theorem d_L_law__1037 : decode cL_law_ 1037 = .ok (.iconst 0, 1) := by decide +kernel
theorem d_L_law__1039 : decode cL_law_ 1039 = .ok (.iload 5, 2) := by decide +kernel
theorem d_L_law__1041 : decode cL_law_ 1041 = .ok (.ifCond .ne 15, 3) := by decide +kernel
theorem d_L_law__1044 : decode cL_law_ 1044 = .ok (.aload_n 3, 1) := by decide +kernel
theorem d_L_law__1045 : decode cL_law_ 1045 = .ok (.iconst 0, 1) := by decide +kernel
theorem d_L_law__1046 : decode cL_law_ 1046 = .ok (.laload, 1) := by decide +kernel
theorem d_L_law__1047 : decode cL_law_ 1047 = .ok (.iload 6, 2) := by decide +kernel
theorem d_L_law__1049 : decode cL_law_ 1049 = .ok (.i2l, 1) := by decide +kernel
theorem d_L_law__1050 : decode cL_law_ 1050 = .ok (.lcmp, 1) := by decide +kernel
theorem d_L_law__1051 : decode cL_law_ 1051 = .ok (.ifCond .eq 5, 3) := by decide +kernel
theorem d_L_law__1054 : decode cL_law_ 1054 = .ok (.iconst 0, 1) := by decide +kernel
theorem d_L_law__1056 : decode cL_law_ 1056 = .ok (.goto 1652, 3) := by decide +kernel
theorem d_L_law__1059 : decode cL_law_ 1059 = .ok (.aload_n 1, 1) := by decide +kernel
theorem d_L_law__1060 : decode cL_law_ 1060 = .ok (.aload_n 0, 1) := by decide +kernel
theorem d_L_law__1061 : decode cL_law_ 1061 = .ok (.iload 4, 2) := by decide +kernel
theorem d_L_law__1063 : decode cL_law_ 1063 = .ok (.iconst 1, 1) := by decide +kernel
theorem d_L_law__1064 : decode cL_law_ 1064 = .ok (.iadd, 1) := by decide +kernel
theorem d_L_law__1065 : decode cL_law_ 1065 = .ok (.iaload, 1) := by decide +kernel
theorem d_L_law__1066 : decode cL_law_ 1066 = .ok (.aload_n 0, 1) := by decide +kernel
theorem d_L_law__1067 : decode cL_law_ 1067 = .ok (.iload 4, 2) := by decide +kernel
theorem d_L_law__1069 : decode cL_law_ 1069 = .ok (.iconst 2, 1) := by decide +kernel
theorem d_L_law__1070 : decode cL_law_ 1070 = .ok (.iadd, 1) := by decide +kernel
theorem d_L_law__1071 : decode cL_law_ 1071 = .ok (.iaload, 1) := by decide +kernel
theorem d_L_law__1072 : decode cL_law_ 1072 = .ok (.aload_n 3, 1) := by decide +kernel
theorem d_L_law__1073 : decode cL_law_ 1073 = .ok (.invokestatic 185, 3) := by decide +kernel
theorem d_L_law__1076 : decode cL_law_ 1076 = .ok (.istore 5, 2) := by decide +kernel
theorem d_L_law__1078 : decode cL_law_ 1078 = .ok (.aload_n 2, 1) := by decide +kernel
theorem d_L_law__1079 : decode cL_law_ 1079 = .ok (.aload_n 0, 1) := by decide +kernel
theorem d_L_law__1080 : decode cL_law_ 1080 = .ok (.iload 4, 2) := by decide +kernel
theorem d_L_law__1082 : decode cL_law_ 1082 = .ok (.iconst 1, 1) := by decide +kernel
theorem d_L_law__1083 : decode cL_law_ 1083 = .ok (.iadd, 1) := by decide +kernel
theorem d_L_law__1084 : decode cL_law_ 1084 = .ok (.iaload, 1) := by decide +kernel
theorem d_L_law__1085 : decode cL_law_ 1085 = .ok (.aload_n 0, 1) := by decide +kernel
theorem d_L_law__1086 : decode cL_law_ 1086 = .ok (.iload 4, 2) := by decide +kernel
theorem d_L_law__1088 : decode cL_law_ 1088 = .ok (.iconst 2, 1) := by decide +kernel
theorem d_L_law__1089 : decode cL_law_ 1089 = .ok (.iadd, 1) := by decide +kernel
theorem d_L_law__1090 : decode cL_law_ 1090 = .ok (.iaload, 1) := by decide +kernel
theorem d_L_law__1091 : decode cL_law_ 1091 = .ok (.invokevirtual 187, 3) := by decide +kernel
theorem d_L_law__1094 : decode cL_law_ 1094 = .ok (.istore 6, 2) := by decide +kernel
theorem d_L_law__1096 : decode cL_law_ 1096 = .ok (.aload_n 2, 1) := by decide +kernel
theorem d_L_law__1097 : decode cL_law_ 1097 = .ok (.invokevirtual 145, 3) := by decide +kernel
theorem d_L_law__1100 : decode cL_law_ 1100 = .ok (.iload 5, 2) := by decide +kernel
theorem d_L_law__1102 : decode cL_law_ 1102 = .ok (.if_icmp .eq 5, 3) := by decide +kernel
theorem d_L_law__1105 : decode cL_law_ 1105 = .ok (.iconst 0, 1) := by decide +kernel
theorem d_L_law__1107 : decode cL_law_ 1107 = .ok (.iload 5, 2) := by decide +kernel
theorem d_L_law__1109 : decode cL_law_ 1109 = .ok (.ifCond .ne 15, 3) := by decide +kernel
theorem d_L_law__1112 : decode cL_law_ 1112 = .ok (.aload_n 3, 1) := by decide +kernel
theorem d_L_law__1113 : decode cL_law_ 1113 = .ok (.iconst 0, 1) := by decide +kernel
theorem d_L_law__1114 : decode cL_law_ 1114 = .ok (.laload, 1) := by decide +kernel
theorem d_L_law__1115 : decode cL_law_ 1115 = .ok (.iload 6, 2) := by decide +kernel
theorem d_L_law__1117 : decode cL_law_ 1117 = .ok (.i2l, 1) := by decide +kernel
theorem d_L_law__1118 : decode cL_law_ 1118 = .ok (.lcmp, 1) := by decide +kernel
theorem d_L_law__1119 : decode cL_law_ 1119 = .ok (.ifCond .eq 5, 3) := by decide +kernel
theorem d_L_law__1122 : decode cL_law_ 1122 = .ok (.iconst 0, 1) := by decide +kernel
theorem d_L_law__1124 : decode cL_law_ 1124 = .ok (.goto 1584, 3) := by decide +kernel
theorem d_L_law__1127 : decode cL_law_ 1127 = .ok (.aload_n 1, 1) := by decide +kernel
theorem d_L_law__1128 : decode cL_law_ 1128 = .ok (.aload_n 0, 1) := by decide +kernel
theorem d_L_law__1129 : decode cL_law_ 1129 = .ok (.iload 4, 2) := by decide +kernel
theorem d_L_law__1131 : decode cL_law_ 1131 = .ok (.iconst 1, 1) := by decide +kernel
theorem d_L_law__1132 : decode cL_law_ 1132 = .ok (.iadd, 1) := by decide +kernel
theorem d_L_law__1133 : decode cL_law_ 1133 = .ok (.iaload, 1) := by decide +kernel
theorem d_L_law__1134 : decode cL_law_ 1134 = .ok (.aload_n 3, 1) := by decide +kernel
theorem d_L_law__1135 : decode cL_law_ 1135 = .ok (.invokestatic 188, 3) := by decide +kernel
theorem d_L_law__1138 : decode cL_law_ 1138 = .ok (.istore 5, 2) := by decide +kernel
theorem d_L_law__1140 : decode cL_law_ 1140 = .ok (.aload_n 2, 1) := by decide +kernel
theorem d_L_law__1141 : decode cL_law_ 1141 = .ok (.aload_n 0, 1) := by decide +kernel
theorem d_L_law__1142 : decode cL_law_ 1142 = .ok (.iload 4, 2) := by decide +kernel
theorem d_L_law__1144 : decode cL_law_ 1144 = .ok (.iconst 1, 1) := by decide +kernel
theorem d_L_law__1145 : decode cL_law_ 1145 = .ok (.iadd, 1) := by decide +kernel
theorem d_L_law__1146 : decode cL_law_ 1146 = .ok (.iaload, 1) := by decide +kernel
theorem d_L_law__1147 : decode cL_law_ 1147 = .ok (.invokevirtual 190, 3) := by decide +kernel
theorem d_L_law__1150 : decode cL_law_ 1150 = .ok (.istore 6, 2) := by decide +kernel
theorem d_L_law__1152 : decode cL_law_ 1152 = .ok (.aload_n 2, 1) := by decide +kernel
theorem d_L_law__1153 : decode cL_law_ 1153 = .ok (.invokevirtual 145, 3) := by decide +kernel
theorem d_L_law__1156 : decode cL_law_ 1156 = .ok (.iload 5, 2) := by decide +kernel
theorem d_L_law__1158 : decode cL_law_ 1158 = .ok (.if_icmp .eq 5, 3) := by decide +kernel
theorem d_L_law__1161 : decode cL_law_ 1161 = .ok (.iconst 0, 1) := by decide +kernel
theorem d_L_law__1163 : decode cL_law_ 1163 = .ok (.iload 5, 2) := by decide +kernel
theorem d_L_law__1165 : decode cL_law_ 1165 = .ok (.ifCond .ne 15, 3) := by decide +kernel
theorem d_L_law__1168 : decode cL_law_ 1168 = .ok (.aload_n 3, 1) := by decide +kernel
theorem d_L_law__1169 : decode cL_law_ 1169 = .ok (.iconst 0, 1) := by decide +kernel
theorem d_L_law__1170 : decode cL_law_ 1170 = .ok (.laload, 1) := by decide +kernel
theorem d_L_law__1171 : decode cL_law_ 1171 = .ok (.iload 6, 2) := by decide +kernel
theorem d_L_law__1173 : decode cL_law_ 1173 = .ok (.i2l, 1) := by decide +kernel
theorem d_L_law__1174 : decode cL_law_ 1174 = .ok (.lcmp, 1) := by decide +kernel
theorem d_L_law__1175 : decode cL_law_ 1175 = .ok (.ifCond .eq 5, 3) := by decide +kernel
theorem d_L_law__1178 : decode cL_law_ 1178 = .ok (.iconst 0, 1) := by decide +kernel
theorem d_L_law__1180 : decode cL_law_ 1180 = .ok (.goto 1528, 3) := by decide +kernel
theorem d_L_law__1183 : decode cL_law_ 1183 = .ok (.aload_n 1, 1) := by decide +kernel
theorem d_L_law__1184 : decode cL_law_ 1184 = .ok (.aload_n 0, 1) := by decide +kernel
theorem d_L_law__1185 : decode cL_law_ 1185 = .ok (.iload 4, 2) := by decide +kernel
theorem d_L_law__1187 : decode cL_law_ 1187 = .ok (.iconst 1, 1) := by decide +kernel
theorem d_L_law__1188 : decode cL_law_ 1188 = .ok (.iadd, 1) := by decide +kernel
theorem d_L_law__1189 : decode cL_law_ 1189 = .ok (.iaload, 1) := by decide +kernel
theorem d_L_law__1190 : decode cL_law_ 1190 = .ok (.aload_n 3, 1) := by decide +kernel
theorem d_L_law__1191 : decode cL_law_ 1191 = .ok (.invokestatic 191, 3) := by decide +kernel
theorem d_L_law__1194 : decode cL_law_ 1194 = .ok (.istore 5, 2) := by decide +kernel
theorem d_L_law__1196 : decode cL_law_ 1196 = .ok (.aload_n 2, 1) := by decide +kernel
theorem d_L_law__1197 : decode cL_law_ 1197 = .ok (.aload_n 0, 1) := by decide +kernel
theorem d_L_law__1198 : decode cL_law_ 1198 = .ok (.iload 4, 2) := by decide +kernel
theorem d_L_law__1200 : decode cL_law_ 1200 = .ok (.iconst 1, 1) := by decide +kernel
theorem d_L_law__1201 : decode cL_law_ 1201 = .ok (.iadd, 1) := by decide +kernel
theorem d_L_law__1202 : decode cL_law_ 1202 = .ok (.iaload, 1) := by decide +kernel
theorem d_L_law__1203 : decode cL_law_ 1203 = .ok (.invokevirtual 193, 3) := by decide +kernel
theorem d_L_law__1206 : decode cL_law_ 1206 = .ok (.istore 6, 2) := by decide +kernel
theorem d_L_law__1208 : decode cL_law_ 1208 = .ok (.aload_n 2, 1) := by decide +kernel
theorem d_L_law__1209 : decode cL_law_ 1209 = .ok (.invokevirtual 145, 3) := by decide +kernel
theorem d_L_law__1212 : decode cL_law_ 1212 = .ok (.iload 5, 2) := by decide +kernel
theorem d_L_law__1214 : decode cL_law_ 1214 = .ok (.if_icmp .eq 5, 3) := by decide +kernel
theorem d_L_law__1217 : decode cL_law_ 1217 = .ok (.iconst 0, 1) := by decide +kernel
theorem d_L_law__1219 : decode cL_law_ 1219 = .ok (.iload 5, 2) := by decide +kernel
theorem d_L_law__1221 : decode cL_law_ 1221 = .ok (.ifCond .ne 15, 3) := by decide +kernel
theorem d_L_law__1224 : decode cL_law_ 1224 = .ok (.aload_n 3, 1) := by decide +kernel
theorem d_L_law__1225 : decode cL_law_ 1225 = .ok (.iconst 0, 1) := by decide +kernel
theorem d_L_law__1226 : decode cL_law_ 1226 = .ok (.laload, 1) := by decide +kernel
theorem d_L_law__1227 : decode cL_law_ 1227 = .ok (.iload 6, 2) := by decide +kernel
theorem d_L_law__1229 : decode cL_law_ 1229 = .ok (.i2l, 1) := by decide +kernel
theorem d_L_law__1230 : decode cL_law_ 1230 = .ok (.lcmp, 1) := by decide +kernel
theorem d_L_law__1231 : decode cL_law_ 1231 = .ok (.ifCond .eq 5, 3) := by decide +kernel
theorem d_L_law__1234 : decode cL_law_ 1234 = .ok (.iconst 0, 1) := by decide +kernel
theorem d_L_law__1236 : decode cL_law_ 1236 = .ok (.goto 1472, 3) := by decide +kernel
theorem d_L_law__1239 : decode cL_law_ 1239 = .ok (.aload_n 1, 1) := by decide +kernel
theorem d_L_law__1240 : decode cL_law_ 1240 = .ok (.invokevirtual 194, 3) := by decide +kernel
theorem d_L_law__1243 : decode cL_law_ 1243 = .ok (.aload_n 2, 1) := by decide +kernel
theorem d_L_law__1244 : decode cL_law_ 1244 = .ok (.invokevirtual 197, 3) := by decide +kernel
theorem d_L_law__1247 : decode cL_law_ 1247 = .ok (.if_icmp .eq 1461, 3) := by decide +kernel
theorem d_L_law__1250 : decode cL_law_ 1250 = .ok (.iconst 0, 1) := by decide +kernel
theorem d_L_law__1252 : decode cL_law_ 1252 = .ok (.aload_n 1, 1) := by decide +kernel
theorem d_L_law__1253 : decode cL_law_ 1253 = .ok (.aload_n 0, 1) := by decide +kernel
theorem d_L_law__1254 : decode cL_law_ 1254 = .ok (.iload 4, 2) := by decide +kernel
theorem d_L_law__1256 : decode cL_law_ 1256 = .ok (.iconst 1, 1) := by decide +kernel
theorem d_L_law__1257 : decode cL_law_ 1257 = .ok (.iadd, 1) := by decide +kernel
theorem d_L_law__1258 : decode cL_law_ 1258 = .ok (.iaload, 1) := by decide +kernel
theorem d_L_law__1259 : decode cL_law_ 1259 = .ok (.aload_n 0, 1) := by decide +kernel
theorem d_L_law__1260 : decode cL_law_ 1260 = .ok (.iload 4, 2) := by decide +kernel
theorem d_L_law__1262 : decode cL_law_ 1262 = .ok (.iconst 2, 1) := by decide +kernel
theorem d_L_law__1263 : decode cL_law_ 1263 = .ok (.iadd, 1) := by decide +kernel
theorem d_L_law__1264 : decode cL_law_ 1264 = .ok (.iaload, 1) := by decide +kernel
theorem d_L_law__1265 : decode cL_law_ 1265 = .ok (.aload_n 3, 1) := by decide +kernel
theorem d_L_law__1266 : decode cL_law_ 1266 = .ok (.invokestatic 198, 3) := by decide +kernel
theorem d_L_law__1269 : decode cL_law_ 1269 = .ok (.istore 5, 2) := by decide +kernel
theorem d_L_law__1271 : decode cL_law_ 1271 = .ok (.aload_n 2, 1) := by decide +kernel
theorem d_L_law__1272 : decode cL_law_ 1272 = .ok (.aload_n 0, 1) := by decide +kernel
theorem d_L_law__1273 : decode cL_law_ 1273 = .ok (.iload 4, 2) := by decide +kernel
theorem d_L_law__1275 : decode cL_law_ 1275 = .ok (.iconst 1, 1) := by decide +kernel
theorem d_L_law__1276 : decode cL_law_ 1276 = .ok (.iadd, 1) := by decide +kernel
theorem d_L_law__1277 : decode cL_law_ 1277 = .ok (.iaload, 1) := by decide +kernel
theorem d_L_law__1278 : decode cL_law_ 1278 = .ok (.aload_n 0, 1) := by decide +kernel
theorem d_L_law__1279 : decode cL_law_ 1279 = .ok (.iload 4, 2) := by decide +kernel
theorem d_L_law__1281 : decode cL_law_ 1281 = .ok (.iconst 2, 1) := by decide +kernel
theorem d_L_law__1282 : decode cL_law_ 1282 = .ok (.iadd, 1) := by decide +kernel
theorem d_L_law__1283 : decode cL_law_ 1283 = .ok (.iaload, 1) := by decide +kernel
theorem d_L_law__1284 : decode cL_law_ 1284 = .ok (.invokevirtual 200, 3) := by decide +kernel
theorem d_L_law__1287 : decode cL_law_ 1287 = .ok (.istore 6, 2) := by decide +kernel
theorem d_L_law__1289 : decode cL_law_ 1289 = .ok (.aload_n 2, 1) := by decide +kernel
theorem d_L_law__1290 : decode cL_law_ 1290 = .ok (.invokevirtual 145, 3) := by decide +kernel
theorem d_L_law__1293 : decode cL_law_ 1293 = .ok (.iload 5, 2) := by decide +kernel
theorem d_L_law__1295 : decode cL_law_ 1295 = .ok (.if_icmp .eq 5, 3) := by decide +kernel
theorem d_L_law__1298 : decode cL_law_ 1298 = .ok (.iconst 0, 1) := by decide +kernel
theorem d_L_law__1300 : decode cL_law_ 1300 = .ok (.iload 5, 2) := by decide +kernel
theorem d_L_law__1302 : decode cL_law_ 1302 = .ok (.ifCond .ne 15, 3) := by decide +kernel
theorem d_L_law__1305 : decode cL_law_ 1305 = .ok (.aload_n 3, 1) := by decide +kernel
theorem d_L_law__1306 : decode cL_law_ 1306 = .ok (.iconst 0, 1) := by decide +kernel
theorem d_L_law__1307 : decode cL_law_ 1307 = .ok (.laload, 1) := by decide +kernel
theorem d_L_law__1308 : decode cL_law_ 1308 = .ok (.iload 6, 2) := by decide +kernel
theorem d_L_law__1310 : decode cL_law_ 1310 = .ok (.i2l, 1) := by decide +kernel
theorem d_L_law__1311 : decode cL_law_ 1311 = .ok (.lcmp, 1) := by decide +kernel
theorem d_L_law__1312 : decode cL_law_ 1312 = .ok (.ifCond .eq 5, 3) := by decide +kernel
theorem d_L_law__1315 : decode cL_law_ 1315 = .ok (.iconst 0, 1) := by decide +kernel
theorem d_L_law__1317 : decode cL_law_ 1317 = .ok (.goto 1391, 3) := by decide +kernel
theorem d_L_law__1320 : decode cL_law_ 1320 = .ok (.aload_n 1, 1) := by decide +kernel
theorem d_L_law__1321 : decode cL_law_ 1321 = .ok (.aload_n 0, 1) := by decide +kernel
theorem d_L_law__1322 : decode cL_law_ 1322 = .ok (.iload 4, 2) := by decide +kernel
theorem d_L_law__1324 : decode cL_law_ 1324 = .ok (.iconst 1, 1) := by decide +kernel
theorem d_L_law__1325 : decode cL_law_ 1325 = .ok (.iadd, 1) := by decide +kernel
theorem d_L_law__1326 : decode cL_law_ 1326 = .ok (.iaload, 1) := by decide +kernel
theorem d_L_law__1327 : decode cL_law_ 1327 = .ok (.aload_n 3, 1) := by decide +kernel
theorem d_L_law__1328 : decode cL_law_ 1328 = .ok (.invokestatic 201, 3) := by decide +kernel
theorem d_L_law__1331 : decode cL_law_ 1331 = .ok (.istore 5, 2) := by decide +kernel
theorem d_L_law__1333 : decode cL_law_ 1333 = .ok (.aload_n 2, 1) := by decide +kernel
theorem d_L_law__1334 : decode cL_law_ 1334 = .ok (.aload_n 0, 1) := by decide +kernel
theorem d_L_law__1335 : decode cL_law_ 1335 = .ok (.iload 4, 2) := by decide +kernel
theorem d_L_law__1337 : decode cL_law_ 1337 = .ok (.iconst 1, 1) := by decide +kernel
theorem d_L_law__1338 : decode cL_law_ 1338 = .ok (.iadd, 1) := by decide +kernel
theorem d_L_law__1339 : decode cL_law_ 1339 = .ok (.iaload, 1) := by decide +kernel
theorem d_L_law__1340 : decode cL_law_ 1340 = .ok (.invokevirtual 203, 3) := by decide +kernel
theorem d_L_law__1343 : decode cL_law_ 1343 = .ok (.istore 6, 2) := by decide +kernel
theorem d_L_law__1345 : decode cL_law_ 1345 = .ok (.aload_n 2, 1) := by decide +kernel
theorem d_L_law__1346 : decode cL_law_ 1346 = .ok (.invokevirtual 145, 3) := by decide +kernel
theorem d_L_law__1349 : decode cL_law_ 1349 = .ok (.iload 5, 2) := by decide +kernel
theorem d_L_law__1351 : decode cL_law_ 1351 = .ok (.if_icmp .eq 5, 3) := by decide +kernel
theorem d_L_law__1354 : decode cL_law_ 1354 = .ok (.iconst 0, 1) := by decide +kernel
theorem d_L_law__1356 : decode cL_law_ 1356 = .ok (.iload 5, 2) := by decide +kernel
theorem d_L_law__1358 : decode cL_law_ 1358 = .ok (.ifCond .ne 15, 3) := by decide +kernel
theorem d_L_law__1361 : decode cL_law_ 1361 = .ok (.aload_n 3, 1) := by decide +kernel
theorem d_L_law__1362 : decode cL_law_ 1362 = .ok (.iconst 0, 1) := by decide +kernel
theorem d_L_law__1363 : decode cL_law_ 1363 = .ok (.laload, 1) := by decide +kernel
theorem d_L_law__1364 : decode cL_law_ 1364 = .ok (.iload 6, 2) := by decide +kernel
theorem d_L_law__1366 : decode cL_law_ 1366 = .ok (.i2l, 1) := by decide +kernel
theorem d_L_law__1367 : decode cL_law_ 1367 = .ok (.lcmp, 1) := by decide +kernel
theorem d_L_law__1368 : decode cL_law_ 1368 = .ok (.ifCond .eq 5, 3) := by decide +kernel
theorem d_L_law__1371 : decode cL_law_ 1371 = .ok (.iconst 0, 1) := by decide +kernel
theorem d_L_law__1373 : decode cL_law_ 1373 = .ok (.goto 1335, 3) := by decide +kernel
theorem d_L_law__1376 : decode cL_law_ 1376 = .ok (.aload_n 1, 1) := by decide +kernel
theorem d_L_law__1377 : decode cL_law_ 1377 = .ok (.aload_n 0, 1) := by decide +kernel
theorem d_L_law__1378 : decode cL_law_ 1378 = .ok (.iload 4, 2) := by decide +kernel
theorem d_L_law__1380 : decode cL_law_ 1380 = .ok (.iconst 1, 1) := by decide +kernel
theorem d_L_law__1381 : decode cL_law_ 1381 = .ok (.iadd, 1) := by decide +kernel
theorem d_L_law__1382 : decode cL_law_ 1382 = .ok (.iaload, 1) := by decide +kernel
theorem d_L_law__1383 : decode cL_law_ 1383 = .ok (.aload_n 3, 1) := by decide +kernel
theorem d_L_law__1384 : decode cL_law_ 1384 = .ok (.invokestatic 204, 3) := by decide +kernel
theorem d_L_law__1387 : decode cL_law_ 1387 = .ok (.istore 5, 2) := by decide +kernel
theorem d_L_law__1389 : decode cL_law_ 1389 = .ok (.aload_n 2, 1) := by decide +kernel
theorem d_L_law__1390 : decode cL_law_ 1390 = .ok (.aload_n 0, 1) := by decide +kernel
theorem d_L_law__1391 : decode cL_law_ 1391 = .ok (.iload 4, 2) := by decide +kernel
theorem d_L_law__1393 : decode cL_law_ 1393 = .ok (.iconst 1, 1) := by decide +kernel
theorem d_L_law__1394 : decode cL_law_ 1394 = .ok (.iadd, 1) := by decide +kernel
theorem d_L_law__1395 : decode cL_law_ 1395 = .ok (.iaload, 1) := by decide +kernel
theorem d_L_law__1396 : decode cL_law_ 1396 = .ok (.invokevirtual 206, 3) := by decide +kernel
theorem d_L_law__1399 : decode cL_law_ 1399 = .ok (.istore 6, 2) := by decide +kernel
theorem d_L_law__1401 : decode cL_law_ 1401 = .ok (.aload_n 2, 1) := by decide +kernel
theorem d_L_law__1402 : decode cL_law_ 1402 = .ok (.invokevirtual 145, 3) := by decide +kernel
theorem d_L_law__1405 : decode cL_law_ 1405 = .ok (.iload 5, 2) := by decide +kernel
theorem d_L_law__1407 : decode cL_law_ 1407 = .ok (.if_icmp .eq 5, 3) := by decide +kernel
theorem d_L_law__1410 : decode cL_law_ 1410 = .ok (.iconst 0, 1) := by decide +kernel
theorem d_L_law__1412 : decode cL_law_ 1412 = .ok (.iload 5, 2) := by decide +kernel
theorem d_L_law__1414 : decode cL_law_ 1414 = .ok (.ifCond .ne 15, 3) := by decide +kernel
theorem d_L_law__1417 : decode cL_law_ 1417 = .ok (.aload_n 3, 1) := by decide +kernel
theorem d_L_law__1418 : decode cL_law_ 1418 = .ok (.iconst 0, 1) := by decide +kernel
theorem d_L_law__1419 : decode cL_law_ 1419 = .ok (.laload, 1) := by decide +kernel
theorem d_L_law__1420 : decode cL_law_ 1420 = .ok (.iload 6, 2) := by decide +kernel
theorem d_L_law__1422 : decode cL_law_ 1422 = .ok (.i2l, 1) := by decide +kernel
theorem d_L_law__1423 : decode cL_law_ 1423 = .ok (.lcmp, 1) := by decide +kernel
theorem d_L_law__1424 : decode cL_law_ 1424 = .ok (.ifCond .eq 5, 3) := by decide +kernel
theorem d_L_law__1427 : decode cL_law_ 1427 = .ok (.iconst 0, 1) := by decide +kernel
theorem d_L_law__1429 : decode cL_law_ 1429 = .ok (.goto 1279, 3) := by decide +kernel
theorem d_L_law__1432 : decode cL_law_ 1432 = .ok (.aload_n 1, 1) := by decide +kernel
theorem d_L_law__1433 : decode cL_law_ 1433 = .ok (.aload_n 0, 1) := by decide +kernel
theorem d_L_law__1434 : decode cL_law_ 1434 = .ok (.iload 4, 2) := by decide +kernel
theorem d_L_law__1436 : decode cL_law_ 1436 = .ok (.iconst 1, 1) := by decide +kernel
theorem d_L_law__1437 : decode cL_law_ 1437 = .ok (.iadd, 1) := by decide +kernel
theorem d_L_law__1438 : decode cL_law_ 1438 = .ok (.iaload, 1) := by decide +kernel
theorem d_L_law__1439 : decode cL_law_ 1439 = .ok (.aload_n 0, 1) := by decide +kernel
theorem d_L_law__1440 : decode cL_law_ 1440 = .ok (.iload 4, 2) := by decide +kernel
theorem d_L_law__1442 : decode cL_law_ 1442 = .ok (.iconst 2, 1) := by decide +kernel
theorem d_L_law__1443 : decode cL_law_ 1443 = .ok (.iadd, 1) := by decide +kernel
theorem d_L_law__1444 : decode cL_law_ 1444 = .ok (.iaload, 1) := by decide +kernel
theorem d_L_law__1445 : decode cL_law_ 1445 = .ok (.aload_n 0, 1) := by decide +kernel
theorem d_L_law__1446 : decode cL_law_ 1446 = .ok (.iload 4, 2) := by decide +kernel
theorem d_L_law__1448 : decode cL_law_ 1448 = .ok (.iconst 3, 1) := by decide +kernel
theorem d_L_law__1449 : decode cL_law_ 1449 = .ok (.iadd, 1) := by decide +kernel
theorem d_L_law__1450 : decode cL_law_ 1450 = .ok (.iaload, 1) := by decide +kernel
theorem d_L_law__1451 : decode cL_law_ 1451 = .ok (.ifCond .eq 7, 3) := by decide +kernel
theorem d_L_law__1454 : decode cL_law_ 1454 = .ok (.iconst 1, 1) := by decide +kernel
theorem d_L_law__1455 : decode cL_law_ 1455 = .ok (.goto 4, 3) := by decide +kernel
theorem d_L_law__1458 : decode cL_law_ 1458 = .ok (.iconst 0, 1) := by decide +kernel
theorem d_L_law__1459 : decode cL_law_ 1459 = .ok (.aload_n 3, 1) := by decide +kernel
theorem d_L_law__1460 : decode cL_law_ 1460 = .ok (.invokestatic 207, 3) := by decide +kernel
theorem d_L_law__1463 : decode cL_law_ 1463 = .ok (.istore 5, 2) := by decide +kernel
theorem d_L_law__1465 : decode cL_law_ 1465 = .ok (.aload_n 2, 1) := by decide +kernel
theorem d_L_law__1466 : decode cL_law_ 1466 = .ok (.aload_n 0, 1) := by decide +kernel
theorem d_L_law__1467 : decode cL_law_ 1467 = .ok (.iload 4, 2) := by decide +kernel
theorem d_L_law__1469 : decode cL_law_ 1469 = .ok (.iconst 1, 1) := by decide +kernel
theorem d_L_law__1470 : decode cL_law_ 1470 = .ok (.iadd, 1) := by decide +kernel
theorem d_L_law__1471 : decode cL_law_ 1471 = .ok (.iaload, 1) := by decide +kernel
theorem d_L_law__1472 : decode cL_law_ 1472 = .ok (.aload_n 0, 1) := by decide +kernel
theorem d_L_law__1473 : decode cL_law_ 1473 = .ok (.iload 4, 2) := by decide +kernel
theorem d_L_law__1475 : decode cL_law_ 1475 = .ok (.iconst 2, 1) := by decide +kernel
theorem d_L_law__1476 : decode cL_law_ 1476 = .ok (.iadd, 1) := by decide +kernel
theorem d_L_law__1477 : decode cL_law_ 1477 = .ok (.iaload, 1) := by decide +kernel
theorem d_L_law__1478 : decode cL_law_ 1478 = .ok (.aload_n 0, 1) := by decide +kernel
theorem d_L_law__1479 : decode cL_law_ 1479 = .ok (.iload 4, 2) := by decide +kernel
theorem d_L_law__1481 : decode cL_law_ 1481 = .ok (.iconst 3, 1) := by decide +kernel
theorem d_L_law__1482 : decode cL_law_ 1482 = .ok (.iadd, 1) := by decide +kernel
theorem d_L_law__1483 : decode cL_law_ 1483 = .ok (.iaload, 1) := by decide +kernel
theorem d_L_law__1484 : decode cL_law_ 1484 = .ok (.ifCond .eq 7, 3) := by decide +kernel
theorem d_L_law__1487 : decode cL_law_ 1487 = .ok (.iconst 1, 1) := by decide +kernel
theorem d_L_law__1488 : decode cL_law_ 1488 = .ok (.goto 4, 3) := by decide +kernel
theorem d_L_law__1491 : decode cL_law_ 1491 = .ok (.iconst 0, 1) := by decide +kernel
theorem d_L_law__1492 : decode cL_law_ 1492 = .ok (.invokevirtual 210, 3) := by decide +kernel
theorem d_L_law__1495 : decode cL_law_ 1495 = .ok (.istore 6, 2) := by decide +kernel
theorem d_L_law__1497 : decode cL_law_ 1497 = .ok (.aload_n 2, 1) := by decide +kernel
theorem d_L_law__1498 : decode cL_law_ 1498 = .ok (.invokevirtual 145, 3) := by decide +kernel
theorem d_L_law__1501 : decode cL_law_ 1501 = .ok (.iload 5, 2) := by decide +kernel
theorem d_L_law__1503 : decode cL_law_ 1503 = .ok (.if_icmp .eq 5, 3) := by decide +kernel
theorem d_L_law__1506 : decode cL_law_ 1506 = .ok (.iconst 0, 1) := by decide +kernel
theorem d_L_law__1508 : decode cL_law_ 1508 = .ok (.iload 5, 2) := by decide +kernel
theorem d_L_law__1510 : decode cL_law_ 1510 = .ok (.ifCond .ne 15, 3) := by decide +kernel
theorem d_L_law__1513 : decode cL_law_ 1513 = .ok (.aload_n 3, 1) := by decide +kernel
theorem d_L_law__1514 : decode cL_law_ 1514 = .ok (.iconst 0, 1) := by decide +kernel
theorem d_L_law__1515 : decode cL_law_ 1515 = .ok (.laload, 1) := by decide +kernel
theorem d_L_law__1516 : decode cL_law_ 1516 = .ok (.iload 6, 2) := by decide +kernel
theorem d_L_law__1518 : decode cL_law_ 1518 = .ok (.i2l, 1) := by decide +kernel
theorem d_L_law__1519 : decode cL_law_ 1519 = .ok (.lcmp, 1) := by decide +kernel
theorem d_L_law__1520 : decode cL_law_ 1520 = .ok (.ifCond .eq 5, 3) := by decide +kernel
theorem d_L_law__1523 : decode cL_law_ 1523 = .ok (.iconst 0, 1) := by decide +kernel
theorem d_L_law__1525 : decode cL_law_ 1525 = .ok (.goto 1183, 3) := by decide +kernel
theorem d_L_law__1528 : decode cL_law_ 1528 = .ok (.aload_n 1, 1) := by decide +kernel
theorem d_L_law__1529 : decode cL_law_ 1529 = .ok (.invokevirtual 211, 3) := by decide +kernel
theorem d_L_law__1532 : decode cL_law_ 1532 = .ok (.aload_n 2, 1) := by decide +kernel
theorem d_L_law__1533 : decode cL_law_ 1533 = .ok (.invokevirtual 214, 3) := by decide +kernel
theorem d_L_law__1536 : decode cL_law_ 1536 = .ok (.if_icmp .eq 1172, 3) := by decide +kernel
theorem d_L_law__1539 : decode cL_law_ 1539 = .ok (.iconst 0, 1) := by decide +kernel
theorem d_L_law__1541 : decode cL_law_ 1541 = .ok (.aload_n 1, 1) := by decide +kernel
theorem d_L_law__1542 : decode cL_law_ 1542 = .ok (.aload_n 0, 1) := by decide +kernel
theorem d_L_law__1543 : decode cL_law_ 1543 = .ok (.iload 4, 2) := by decide +kernel
theorem d_L_law__1545 : decode cL_law_ 1545 = .ok (.iconst 1, 1) := by decide +kernel
theorem d_L_law__1546 : decode cL_law_ 1546 = .ok (.iadd, 1) := by decide +kernel
theorem d_L_law__1547 : decode cL_law_ 1547 = .ok (.iaload, 1) := by decide +kernel
theorem d_L_law__1548 : decode cL_law_ 1548 = .ok (.ifCond .eq 7, 3) := by decide +kernel
theorem d_L_law__1551 : decode cL_law_ 1551 = .ok (.iconst 1, 1) := by decide +kernel
theorem d_L_law__1552 : decode cL_law_ 1552 = .ok (.goto 4, 3) := by decide +kernel
theorem d_L_law__1555 : decode cL_law_ 1555 = .ok (.iconst 0, 1) := by decide +kernel
theorem d_L_law__1556 : decode cL_law_ 1556 = .ok (.invokevirtual 215, 3) := by decide +kernel
theorem d_L_law__1559 : decode cL_law_ 1559 = .ok (.aload_n 2, 1) := by decide +kernel
theorem d_L_law__1560 : decode cL_law_ 1560 = .ok (.aload_n 0, 1) := by decide +kernel
theorem d_L_law__1561 : decode cL_law_ 1561 = .ok (.iload 4, 2) := by decide +kernel
theorem d_L_law__1563 : decode cL_law_ 1563 = .ok (.iconst 1, 1) := by decide +kernel
theorem d_L_law__1564 : decode cL_law_ 1564 = .ok (.iadd, 1) := by decide +kernel
theorem d_L_law__1565 : decode cL_law_ 1565 = .ok (.iaload, 1) := by decide +kernel
theorem d_L_law__1566 : decode cL_law_ 1566 = .ok (.ifCond .eq 7, 3) := by decide +kernel
theorem d_L_law__1569 : decode cL_law_ 1569 = .ok (.iconst 1, 1) := by decide +kernel
theorem d_L_law__1570 : decode cL_law_ 1570 = .ok (.goto 4, 3) := by decide +kernel
theorem d_L_law__1573 : decode cL_law_ 1573 = .ok (.iconst 0, 1) := by decide +kernel
theorem d_L_law__1574 : decode cL_law_ 1574 = .ok (.invokevirtual 218, 3) := by decide +kernel
theorem d_L_law__1577 : decode cL_law_ 1577 = .ok (.if_icmp .eq 1131, 3) := by decide +kernel
theorem d_L_law__1580 : decode cL_law_ 1580 = .ok (.iconst 0, 1) := by decide +kernel
theorem d_L_law__1582 : decode cL_law_ 1582 = .ok (.aload_n 1, 1) := by decide +kernel
theorem d_L_law__1583 : decode cL_law_ 1583 = .ok (.aload_n 0, 1) := by decide +kernel
theorem d_L_law__1584 : decode cL_law_ 1584 = .ok (.iload 4, 2) := by decide +kernel
theorem d_L_law__1586 : decode cL_law_ 1586 = .ok (.iconst 1, 1) := by decide +kernel
theorem d_L_law__1587 : decode cL_law_ 1587 = .ok (.iadd, 1) := by decide +kernel
theorem d_L_law__1588 : decode cL_law_ 1588 = .ok (.iaload, 1) := by decide +kernel
theorem d_L_law__1589 : decode cL_law_ 1589 = .ok (.aload_n 0, 1) := by decide +kernel
theorem d_L_law__1590 : decode cL_law_ 1590 = .ok (.iload 4, 2) := by decide +kernel
theorem d_L_law__1592 : decode cL_law_ 1592 = .ok (.iconst 2, 1) := by decide +kernel
theorem d_L_law__1593 : decode cL_law_ 1593 = .ok (.iadd, 1) := by decide +kernel
theorem d_L_law__1594 : decode cL_law_ 1594 = .ok (.iaload, 1) := by decide +kernel
theorem d_L_law__1595 : decode cL_law_ 1595 = .ok (.aload_n 3, 1) := by decide +kernel
theorem d_L_law__1596 : decode cL_law_ 1596 = .ok (.invokestatic 219, 3) := by decide +kernel
theorem d_L_law__1599 : decode cL_law_ 1599 = .ok (.istore 5, 2) := by decide +kernel
theorem d_L_law__1601 : decode cL_law_ 1601 = .ok (.aload_n 2, 1) := by decide +kernel
theorem d_L_law__1602 : decode cL_law_ 1602 = .ok (.aload_n 0, 1) := by decide +kernel
theorem d_L_law__1603 : decode cL_law_ 1603 = .ok (.iload 4, 2) := by decide +kernel
theorem d_L_law__1605 : decode cL_law_ 1605 = .ok (.iconst 1, 1) := by decide +kernel
theorem d_L_law__1606 : decode cL_law_ 1606 = .ok (.iadd, 1) := by decide +kernel
theorem d_L_law__1607 : decode cL_law_ 1607 = .ok (.iaload, 1) := by decide +kernel
theorem d_L_law__1608 : decode cL_law_ 1608 = .ok (.aload_n 0, 1) := by decide +kernel
theorem d_L_law__1609 : decode cL_law_ 1609 = .ok (.iload 4, 2) := by decide +kernel
theorem d_L_law__1611 : decode cL_law_ 1611 = .ok (.iconst 2, 1) := by decide +kernel
theorem d_L_law__1612 : decode cL_law_ 1612 = .ok (.iadd, 1) := by decide +kernel
theorem d_L_law__1613 : decode cL_law_ 1613 = .ok (.iaload, 1) := by decide +kernel
theorem d_L_law__1614 : decode cL_law_ 1614 = .ok (.invokevirtual 221, 3) := by decide +kernel
theorem d_L_law__1617 : decode cL_law_ 1617 = .ok (.istore 6, 2) := by decide +kernel
theorem d_L_law__1619 : decode cL_law_ 1619 = .ok (.aload_n 2, 1) := by decide +kernel
theorem d_L_law__1620 : decode cL_law_ 1620 = .ok (.invokevirtual 145, 3) := by decide +kernel
theorem d_L_law__1623 : decode cL_law_ 1623 = .ok (.iload 5, 2) := by decide +kernel
theorem d_L_law__1625 : decode cL_law_ 1625 = .ok (.if_icmp .eq 5, 3) := by decide +kernel
theorem d_L_law__1628 : decode cL_law_ 1628 = .ok (.iconst 0, 1) := by decide +kernel
theorem d_L_law__1630 : decode cL_law_ 1630 = .ok (.iload 5, 2) := by decide +kernel
theorem d_L_law__1632 : decode cL_law_ 1632 = .ok (.ifCond .ne 22, 3) := by decide +kernel
theorem d_L_law__1635 : decode cL_law_ 1635 = .ok (.aload_n 3, 1) := by decide +kernel
theorem d_L_law__1636 : decode cL_law_ 1636 = .ok (.iconst 0, 1) := by decide +kernel
theorem d_L_law__1637 : decode cL_law_ 1637 = .ok (.laload, 1) := by decide +kernel
theorem d_L_law__1638 : decode cL_law_ 1638 = .ok (.iload 6, 2) := by decide +kernel
theorem d_L_law__1640 : decode cL_law_ 1640 = .ok (.ifCond .eq 7, 3) := by decide +kernel
theorem d_L_law__1643 : decode cL_law_ 1643 = .ok (.lconst 1, 1) := by decide +kernel
theorem d_L_law__1644 : decode cL_law_ 1644 = .ok (.goto 4, 3) := by decide +kernel
theorem d_L_law__1647 : decode cL_law_ 1647 = .ok (.lconst 0, 1) := by decide +kernel
theorem d_L_law__1648 : decode cL_law_ 1648 = .ok (.lcmp, 1) := by decide +kernel
theorem d_L_law__1649 : decode cL_law_ 1649 = .ok (.ifCond .eq 5, 3) := by decide +kernel
theorem d_L_law__1652 : decode cL_law_ 1652 = .ok (.iconst 0, 1) := by decide +kernel
theorem d_L_law__1654 : decode cL_law_ 1654 = .ok (.goto 1054, 3) := by decide +kernel
theorem d_L_law__1657 : decode cL_law_ 1657 = .ok (.aload_n 1, 1) := by decide +kernel
theorem d_L_law__1658 : decode cL_law_ 1658 = .ok (.aload_n 0, 1) := by decide +kernel
theorem d_L_law__1659 : decode cL_law_ 1659 = .ok (.iload 4, 2) := by decide +kernel
theorem d_L_law__1661 : decode cL_law_ 1661 = .ok (.iconst 1, 1) := by decide +kernel
theorem d_L_law__1662 : decode cL_law_ 1662 = .ok (.iadd, 1) := by decide +kernel
theorem d_L_law__1663 : decode cL_law_ 1663 = .ok (.iaload, 1) := by decide +kernel
theorem d_L_law__1664 : decode cL_law_ 1664 = .ok (.aload_n 3, 1) := by decide +kernel
theorem d_L_law__1665 : decode cL_law_ 1665 = .ok (.invokestatic 222, 3) := by decide +kernel
theorem d_L_law__1668 : decode cL_law_ 1668 = .ok (.istore 5, 2) := by decide +kernel
theorem d_L_law__1670 : decode cL_law_ 1670 = .ok (.aload_n 2, 1) := by decide +kernel
theorem d_L_law__1671 : decode cL_law_ 1671 = .ok (.aload_n 0, 1) := by decide +kernel
theorem d_L_law__1672 : decode cL_law_ 1672 = .ok (.iload 4, 2) := by decide +kernel
theorem d_L_law__1674 : decode cL_law_ 1674 = .ok (.iconst 1, 1) := by decide +kernel
theorem d_L_law__1675 : decode cL_law_ 1675 = .ok (.iadd, 1) := by decide +kernel
theorem d_L_law__1676 : decode cL_law_ 1676 = .ok (.iaload, 1) := by decide +kernel
theorem d_L_law__1677 : decode cL_law_ 1677 = .ok (.invokevirtual 224, 3) := by decide +kernel
theorem d_L_law__1680 : decode cL_law_ 1680 = .ok (.istore 6, 2) := by decide +kernel
theorem d_L_law__1682 : decode cL_law_ 1682 = .ok (.aload_n 2, 1) := by decide +kernel
theorem d_L_law__1683 : decode cL_law_ 1683 = .ok (.invokevirtual 145, 3) := by decide +kernel
theorem d_L_law__1686 : decode cL_law_ 1686 = .ok (.iload 5, 2) := by decide +kernel
theorem d_L_law__1688 : decode cL_law_ 1688 = .ok (.if_icmp .eq 5, 3) := by decide +kernel
theorem d_L_law__1691 : decode cL_law_ 1691 = .ok (.iconst 0, 1) := by decide +kernel
theorem d_L_law__1693 : decode cL_law_ 1693 = .ok (.iload 5, 2) := by decide +kernel
theorem d_L_law__1695 : decode cL_law_ 1695 = .ok (.ifCond .ne 15, 3) := by decide +kernel
theorem d_L_law__1698 : decode cL_law_ 1698 = .ok (.aload_n 3, 1) := by decide +kernel
theorem d_L_law__1699 : decode cL_law_ 1699 = .ok (.iconst 0, 1) := by decide +kernel
theorem d_L_law__1700 : decode cL_law_ 1700 = .ok (.laload, 1) := by decide +kernel
theorem d_L_law__1701 : decode cL_law_ 1701 = .ok (.iload 6, 2) := by decide +kernel
theorem d_L_law__1703 : decode cL_law_ 1703 = .ok (.i2l, 1) := by decide +kernel
theorem d_L_law__1704 : decode cL_law_ 1704 = .ok (.lcmp, 1) := by decide +kernel
theorem d_L_law__1705 : decode cL_law_ 1705 = .ok (.ifCond .eq 5, 3) := by decide +kernel
theorem d_L_law__1708 : decode cL_law_ 1708 = .ok (.iconst 0, 1) := by decide +kernel
theorem d_L_law__1710 : decode cL_law_ 1710 = .ok (.goto 998, 3) := by decide +kernel
theorem d_L_law__1713 : decode cL_law_ 1713 = .ok (.aload_n 1, 1) := by decide +kernel
theorem d_L_law__1714 : decode cL_law_ 1714 = .ok (.aload_n 0, 1) := by decide +kernel
theorem d_L_law__1715 : decode cL_law_ 1715 = .ok (.iload 4, 2) := by decide +kernel
theorem d_L_law__1717 : decode cL_law_ 1717 = .ok (.iconst 1, 1) := by decide +kernel
theorem d_L_law__1718 : decode cL_law_ 1718 = .ok (.iadd, 1) := by decide +kernel
theorem d_L_law__1719 : decode cL_law_ 1719 = .ok (.iaload, 1) := by decide +kernel
theorem d_L_law__1720 : decode cL_law_ 1720 = .ok (.aload_n 0, 1) := by decide +kernel
theorem d_L_law__1721 : decode cL_law_ 1721 = .ok (.iload 4, 2) := by decide +kernel
theorem d_L_law__1723 : decode cL_law_ 1723 = .ok (.iconst 2, 1) := by decide +kernel
theorem d_L_law__1724 : decode cL_law_ 1724 = .ok (.iadd, 1) := by decide +kernel
theorem d_L_law__1725 : decode cL_law_ 1725 = .ok (.iaload, 1) := by decide +kernel
theorem d_L_law__1726 : decode cL_law_ 1726 = .ok (.ifCond .eq 7, 3) := by decide +kernel
theorem d_L_law__1729 : decode cL_law_ 1729 = .ok (.iconst 1, 1) := by decide +kernel
theorem d_L_law__1730 : decode cL_law_ 1730 = .ok (.goto 4, 3) := by decide +kernel
theorem d_L_law__1733 : decode cL_law_ 1733 = .ok (.iconst 0, 1) := by decide +kernel
theorem d_L_law__1734 : decode cL_law_ 1734 = .ok (.aload_n 3, 1) := by decide +kernel
theorem d_L_law__1735 : decode cL_law_ 1735 = .ok (.invokestatic 225, 3) := by decide +kernel
theorem d_L_law__1738 : decode cL_law_ 1738 = .ok (.istore 5, 2) := by decide +kernel
theorem d_L_law__1740 : decode cL_law_ 1740 = .ok (.aload_n 2, 1) := by decide +kernel
theorem d_L_law__1741 : decode cL_law_ 1741 = .ok (.aload_n 0, 1) := by decide +kernel
theorem d_L_law__1742 : decode cL_law_ 1742 = .ok (.iload 4, 2) := by decide +kernel
theorem d_L_law__1744 : decode cL_law_ 1744 = .ok (.iconst 1, 1) := by decide +kernel
theorem d_L_law__1745 : decode cL_law_ 1745 = .ok (.iadd, 1) := by decide +kernel
theorem d_L_law__1746 : decode cL_law_ 1746 = .ok (.iaload, 1) := by decide +kernel
theorem d_L_law__1747 : decode cL_law_ 1747 = .ok (.aload_n 0, 1) := by decide +kernel
theorem d_L_law__1748 : decode cL_law_ 1748 = .ok (.iload 4, 2) := by decide +kernel
theorem d_L_law__1750 : decode cL_law_ 1750 = .ok (.iconst 2, 1) := by decide +kernel
theorem d_L_law__1751 : decode cL_law_ 1751 = .ok (.iadd, 1) := by decide +kernel
theorem d_L_law__1752 : decode cL_law_ 1752 = .ok (.iaload, 1) := by decide +kernel
theorem d_L_law__1753 : decode cL_law_ 1753 = .ok (.ifCond .eq 7, 3) := by decide +kernel
theorem d_L_law__1756 : decode cL_law_ 1756 = .ok (.iconst 1, 1) := by decide +kernel
theorem d_L_law__1757 : decode cL_law_ 1757 = .ok (.goto 4, 3) := by decide +kernel
theorem d_L_law__1760 : decode cL_law_ 1760 = .ok (.iconst 0, 1) := by decide +kernel
theorem d_L_law__1761 : decode cL_law_ 1761 = .ok (.invokevirtual 228, 3) := by decide +kernel
theorem d_L_law__1764 : decode cL_law_ 1764 = .ok (.istore 6, 2) := by decide +kernel
theorem d_L_law__1766 : decode cL_law_ 1766 = .ok (.aload_n 2, 1) := by decide +kernel
theorem d_L_law__1767 : decode cL_law_ 1767 = .ok (.invokevirtual 145, 3) := by decide +kernel
theorem d_L_law__1770 : decode cL_law_ 1770 = .ok (.iload 5, 2) := by decide +kernel
theorem d_L_law__1772 : decode cL_law_ 1772 = .ok (.if_icmp .eq 5, 3) := by decide +kernel
theorem d_L_law__1775 : decode cL_law_ 1775 = .ok (.iconst 0, 1) := by decide +kernel
theorem d_L_law__1777 : decode cL_law_ 1777 = .ok (.iload 5, 2) := by decide +kernel
theorem d_L_law__1779 : decode cL_law_ 1779 = .ok (.ifCond .ne 15, 3) := by decide +kernel
theorem d_L_law__1782 : decode cL_law_ 1782 = .ok (.aload_n 3, 1) := by decide +kernel
theorem d_L_law__1783 : decode cL_law_ 1783 = .ok (.iconst 0, 1) := by decide +kernel
theorem d_L_law__1784 : decode cL_law_ 1784 = .ok (.laload, 1) := by decide +kernel
theorem d_L_law__1785 : decode cL_law_ 1785 = .ok (.iload 6, 2) := by decide +kernel
theorem d_L_law__1787 : decode cL_law_ 1787 = .ok (.i2l, 1) := by decide +kernel
theorem d_L_law__1788 : decode cL_law_ 1788 = .ok (.lcmp, 1) := by decide +kernel
theorem d_L_law__1789 : decode cL_law_ 1789 = .ok (.ifCond .eq 5, 3) := by decide +kernel
theorem d_L_law__1792 : decode cL_law_ 1792 = .ok (.iconst 0, 1) := by decide +kernel
theorem d_L_law__1794 : decode cL_law_ 1794 = .ok (.goto 914, 3) := by decide +kernel
theorem d_L_law__1797 : decode cL_law_ 1797 = .ok (.aload_n 1, 1) := by decide +kernel
theorem d_L_law__1798 : decode cL_law_ 1798 = .ok (.aload_n 0, 1) := by decide +kernel
theorem d_L_law__1799 : decode cL_law_ 1799 = .ok (.iload 4, 2) := by decide +kernel
theorem d_L_law__1801 : decode cL_law_ 1801 = .ok (.iconst 1, 1) := by decide +kernel
theorem d_L_law__1802 : decode cL_law_ 1802 = .ok (.iadd, 1) := by decide +kernel
theorem d_L_law__1803 : decode cL_law_ 1803 = .ok (.iaload, 1) := by decide +kernel
theorem d_L_law__1804 : decode cL_law_ 1804 = .ok (.aload_n 3, 1) := by decide +kernel
theorem d_L_law__1805 : decode cL_law_ 1805 = .ok (.invokestatic 229, 3) := by decide +kernel
theorem d_L_law__1808 : decode cL_law_ 1808 = .ok (.istore 5, 2) := by decide +kernel
theorem d_L_law__1810 : decode cL_law_ 1810 = .ok (.aload_n 2, 1) := by decide +kernel
theorem d_L_law__1811 : decode cL_law_ 1811 = .ok (.aload_n 0, 1) := by decide +kernel
theorem d_L_law__1812 : decode cL_law_ 1812 = .ok (.iload 4, 2) := by decide +kernel
theorem d_L_law__1814 : decode cL_law_ 1814 = .ok (.iconst 1, 1) := by decide +kernel
theorem d_L_law__1815 : decode cL_law_ 1815 = .ok (.iadd, 1) := by decide +kernel
theorem d_L_law__1816 : decode cL_law_ 1816 = .ok (.iaload, 1) := by decide +kernel
theorem d_L_law__1817 : decode cL_law_ 1817 = .ok (.invokevirtual 231, 3) := by decide +kernel
theorem d_L_law__1820 : decode cL_law_ 1820 = .ok (.istore 6, 2) := by decide +kernel
theorem d_L_law__1822 : decode cL_law_ 1822 = .ok (.aload_n 2, 1) := by decide +kernel
theorem d_L_law__1823 : decode cL_law_ 1823 = .ok (.invokevirtual 145, 3) := by decide +kernel
theorem d_L_law__1826 : decode cL_law_ 1826 = .ok (.iload 5, 2) := by decide +kernel
theorem d_L_law__1828 : decode cL_law_ 1828 = .ok (.if_icmp .eq 5, 3) := by decide +kernel
theorem d_L_law__1831 : decode cL_law_ 1831 = .ok (.iconst 0, 1) := by decide +kernel
theorem d_L_law__1833 : decode cL_law_ 1833 = .ok (.iload 5, 2) := by decide +kernel
theorem d_L_law__1835 : decode cL_law_ 1835 = .ok (.ifCond .ne 15, 3) := by decide +kernel
theorem d_L_law__1838 : decode cL_law_ 1838 = .ok (.aload_n 3, 1) := by decide +kernel
theorem d_L_law__1839 : decode cL_law_ 1839 = .ok (.iconst 0, 1) := by decide +kernel
theorem d_L_law__1840 : decode cL_law_ 1840 = .ok (.laload, 1) := by decide +kernel
theorem d_L_law__1841 : decode cL_law_ 1841 = .ok (.iload 6, 2) := by decide +kernel
theorem d_L_law__1843 : decode cL_law_ 1843 = .ok (.i2l, 1) := by decide +kernel
theorem d_L_law__1844 : decode cL_law_ 1844 = .ok (.lcmp, 1) := by decide +kernel
theorem d_L_law__1845 : decode cL_law_ 1845 = .ok (.ifCond .eq 5, 3) := by decide +kernel
theorem d_L_law__1848 : decode cL_law_ 1848 = .ok (.iconst 0, 1) := by decide +kernel
theorem d_L_law__1850 : decode cL_law_ 1850 = .ok (.goto 858, 3) := by decide +kernel
theorem d_L_law__1853 : decode cL_law_ 1853 = .ok (.aload_n 1, 1) := by decide +kernel
theorem d_L_law__1854 : decode cL_law_ 1854 = .ok (.aload_n 0, 1) := by decide +kernel
theorem d_L_law__1855 : decode cL_law_ 1855 = .ok (.iload 4, 2) := by decide +kernel
theorem d_L_law__1857 : decode cL_law_ 1857 = .ok (.iconst 1, 1) := by decide +kernel
theorem d_L_law__1858 : decode cL_law_ 1858 = .ok (.iadd, 1) := by decide +kernel
theorem d_L_law__1859 : decode cL_law_ 1859 = .ok (.iaload, 1) := by decide +kernel
theorem d_L_law__1860 : decode cL_law_ 1860 = .ok (.aload_n 3, 1) := by decide +kernel
theorem d_L_law__1861 : decode cL_law_ 1861 = .ok (.invokestatic 232, 3) := by decide +kernel
theorem d_L_law__1864 : decode cL_law_ 1864 = .ok (.istore 5, 2) := by decide +kernel
theorem d_L_law__1866 : decode cL_law_ 1866 = .ok (.aload_n 2, 1) := by decide +kernel
theorem d_L_law__1867 : decode cL_law_ 1867 = .ok (.aload_n 0, 1) := by decide +kernel
theorem d_L_law__1868 : decode cL_law_ 1868 = .ok (.iload 4, 2) := by decide +kernel
theorem d_L_law__1870 : decode cL_law_ 1870 = .ok (.iconst 1, 1) := by decide +kernel
theorem d_L_law__1871 : decode cL_law_ 1871 = .ok (.iadd, 1) := by decide +kernel
theorem d_L_law__1872 : decode cL_law_ 1872 = .ok (.iaload, 1) := by decide +kernel
theorem d_L_law__1873 : decode cL_law_ 1873 = .ok (.invokevirtual 234, 3) := by decide +kernel
theorem d_L_law__1876 : decode cL_law_ 1876 = .ok (.istore 6, 2) := by decide +kernel
theorem d_L_law__1878 : decode cL_law_ 1878 = .ok (.aload_n 2, 1) := by decide +kernel
theorem d_L_law__1879 : decode cL_law_ 1879 = .ok (.invokevirtual 145, 3) := by decide +kernel
theorem d_L_law__1882 : decode cL_law_ 1882 = .ok (.iload 5, 2) := by decide +kernel
theorem d_L_law__1884 : decode cL_law_ 1884 = .ok (.if_icmp .eq 5, 3) := by decide +kernel
theorem d_L_law__1887 : decode cL_law_ 1887 = .ok (.iconst 0, 1) := by decide +kernel
theorem d_L_law__1889 : decode cL_law_ 1889 = .ok (.iload 5, 2) := by decide +kernel
theorem d_L_law__1891 : decode cL_law_ 1891 = .ok (.ifCond .ne 15, 3) := by decide +kernel
theorem d_L_law__1894 : decode cL_law_ 1894 = .ok (.aload_n 3, 1) := by decide +kernel
theorem d_L_law__1895 : decode cL_law_ 1895 = .ok (.iconst 0, 1) := by decide +kernel
theorem d_L_law__1896 : decode cL_law_ 1896 = .ok (.laload, 1) := by decide +kernel
theorem d_L_law__1897 : decode cL_law_ 1897 = .ok (.iload 6, 2) := by decide +kernel
theorem d_L_law__1899 : decode cL_law_ 1899 = .ok (.i2l, 1) := by decide +kernel
theorem d_L_law__1900 : decode cL_law_ 1900 = .ok (.lcmp, 1) := by decide +kernel
theorem d_L_law__1901 : decode cL_law_ 1901 = .ok (.ifCond .eq 5, 3) := by decide +kernel
theorem d_L_law__1904 : decode cL_law_ 1904 = .ok (.iconst 0, 1) := by decide +kernel
theorem d_L_law__1906 : decode cL_law_ 1906 = .ok (.goto 802, 3) := by decide +kernel
theorem d_L_law__1909 : decode cL_law_ 1909 = .ok (.aload_n 1, 1) := by decide +kernel
theorem d_L_law__1910 : decode cL_law_ 1910 = .ok (.aload_n 0, 1) := by decide +kernel
theorem d_L_law__1911 : decode cL_law_ 1911 = .ok (.iload 4, 2) := by decide +kernel
theorem d_L_law__1913 : decode cL_law_ 1913 = .ok (.iconst 1, 1) := by decide +kernel
theorem d_L_law__1914 : decode cL_law_ 1914 = .ok (.iadd, 1) := by decide +kernel
theorem d_L_law__1915 : decode cL_law_ 1915 = .ok (.iaload, 1) := by decide +kernel
theorem d_L_law__1916 : decode cL_law_ 1916 = .ok (.aload_n 3, 1) := by decide +kernel
theorem d_L_law__1917 : decode cL_law_ 1917 = .ok (.invokestatic 235, 3) := by decide +kernel
theorem d_L_law__1920 : decode cL_law_ 1920 = .ok (.istore 5, 2) := by decide +kernel
theorem d_L_law__1922 : decode cL_law_ 1922 = .ok (.aload_n 2, 1) := by decide +kernel
theorem d_L_law__1923 : decode cL_law_ 1923 = .ok (.aload_n 0, 1) := by decide +kernel
theorem d_L_law__1924 : decode cL_law_ 1924 = .ok (.iload 4, 2) := by decide +kernel
theorem d_L_law__1926 : decode cL_law_ 1926 = .ok (.iconst 1, 1) := by decide +kernel
theorem d_L_law__1927 : decode cL_law_ 1927 = .ok (.iadd, 1) := by decide +kernel
theorem d_L_law__1928 : decode cL_law_ 1928 = .ok (.iaload, 1) := by decide +kernel
theorem d_L_law__1929 : decode cL_law_ 1929 = .ok (.invokevirtual 237, 3) := by decide +kernel
theorem d_L_law__1932 : decode cL_law_ 1932 = .ok (.istore 6, 2) := by decide +kernel
theorem d_L_law__1934 : decode cL_law_ 1934 = .ok (.aload_n 2, 1) := by decide +kernel
theorem d_L_law__1935 : decode cL_law_ 1935 = .ok (.invokevirtual 145, 3) := by decide +kernel
theorem d_L_law__1938 : decode cL_law_ 1938 = .ok (.iload 5, 2) := by decide +kernel
theorem d_L_law__1940 : decode cL_law_ 1940 = .ok (.if_icmp .eq 5, 3) := by decide +kernel
theorem d_L_law__1943 : decode cL_law_ 1943 = .ok (.iconst 0, 1) := by decide +kernel
theorem d_L_law__1945 : decode cL_law_ 1945 = .ok (.iload 5, 2) := by decide +kernel
theorem d_L_law__1947 : decode cL_law_ 1947 = .ok (.ifCond .ne 15, 3) := by decide +kernel
theorem d_L_law__1950 : decode cL_law_ 1950 = .ok (.aload_n 3, 1) := by decide +kernel
theorem d_L_law__1951 : decode cL_law_ 1951 = .ok (.iconst 0, 1) := by decide +kernel
theorem d_L_law__1952 : decode cL_law_ 1952 = .ok (.laload, 1) := by decide +kernel
theorem d_L_law__1953 : decode cL_law_ 1953 = .ok (.iload 6, 2) := by decide +kernel
theorem d_L_law__1955 : decode cL_law_ 1955 = .ok (.i2l, 1) := by decide +kernel
theorem d_L_law__1956 : decode cL_law_ 1956 = .ok (.lcmp, 1) := by decide +kernel
theorem d_L_law__1957 : decode cL_law_ 1957 = .ok (.ifCond .eq 5, 3) := by decide +kernel
theorem d_L_law__1960 : decode cL_law_ 1960 = .ok (.iconst 0, 1) := by decide +kernel
theorem d_L_law__1962 : decode cL_law_ 1962 = .ok (.goto 746, 3) := by decide +kernel
theorem d_L_law__1965 : decode cL_law_ 1965 = .ok (.aload_n 1, 1) := by decide +kernel
theorem d_L_law__1966 : decode cL_law_ 1966 = .ok (.invokevirtual 238, 3) := by decide +kernel
theorem d_L_law__1969 : decode cL_law_ 1969 = .ok (.aload_n 2, 1) := by decide +kernel
theorem d_L_law__1970 : decode cL_law_ 1970 = .ok (.invokevirtual 241, 3) := by decide +kernel
theorem d_L_law__1973 : decode cL_law_ 1973 = .ok (.if_icmp .eq 735, 3) := by decide +kernel
theorem d_L_law__1976 : decode cL_law_ 1976 = .ok (.iconst 0, 1) := by decide +kernel
theorem d_L_law__1978 : decode cL_law_ 1978 = .ok (.aload_n 1, 1) := by decide +kernel
theorem d_L_law__1979 : decode cL_law_ 1979 = .ok (.invokevirtual 242, 3) := by decide +kernel
theorem d_L_law__1982 : decode cL_law_ 1982 = .ok (.aload_n 2, 1) := by decide +kernel
theorem d_L_law__1983 : decode cL_law_ 1983 = .ok (.invokevirtual 245, 3) := by decide +kernel
theorem d_L_law__1986 : decode cL_law_ 1986 = .ok (.if_icmp .eq 722, 3) := by decide +kernel
theorem d_L_law__1989 : decode cL_law_ 1989 = .ok (.iconst 0, 1) := by decide +kernel
theorem d_L_law__1991 : decode cL_law_ 1991 = .ok (.aload_n 1, 1) := by decide +kernel
theorem d_L_law__1992 : decode cL_law_ 1992 = .ok (.aload_n 0, 1) := by decide +kernel
theorem d_L_law__1993 : decode cL_law_ 1993 = .ok (.iload 4, 2) := by decide +kernel
theorem d_L_law__1995 : decode cL_law_ 1995 = .ok (.iconst 1, 1) := by decide +kernel
theorem d_L_law__1996 : decode cL_law_ 1996 = .ok (.iadd, 1) := by decide +kernel
theorem d_L_law__1997 : decode cL_law_ 1997 = .ok (.iaload, 1) := by decide +kernel
theorem d_L_law__1998 : decode cL_law_ 1998 = .ok (.ifCond .eq 7, 3) := by decide +kernel
theorem d_L_law__2001 : decode cL_law_ 2001 = .ok (.iconst 1, 1) := by decide +kernel
theorem d_L_law__2002 : decode cL_law_ 2002 = .ok (.goto 4, 3) := by decide +kernel
theorem d_L_law__2005 : decode cL_law_ 2005 = .ok (.iconst 0, 1) := by decide +kernel
theorem d_L_law__2006 : decode cL_law_ 2006 = .ok (.aload_n 3, 1) := by decide +kernel
theorem d_L_law__2007 : decode cL_law_ 2007 = .ok (.invokestatic 246, 3) := by decide +kernel
theorem d_L_law__2010 : decode cL_law_ 2010 = .ok (.istore 5, 2) := by decide +kernel
theorem d_L_law__2012 : decode cL_law_ 2012 = .ok (.aload_n 2, 1) := by decide +kernel
theorem d_L_law__2013 : decode cL_law_ 2013 = .ok (.aload_n 0, 1) := by decide +kernel
theorem d_L_law__2014 : decode cL_law_ 2014 = .ok (.iload 4, 2) := by decide +kernel
theorem d_L_law__2016 : decode cL_law_ 2016 = .ok (.iconst 1, 1) := by decide +kernel
theorem d_L_law__2017 : decode cL_law_ 2017 = .ok (.iadd, 1) := by decide +kernel
theorem d_L_law__2018 : decode cL_law_ 2018 = .ok (.iaload, 1) := by decide +kernel
theorem d_L_law__2019 : decode cL_law_ 2019 = .ok (.ifCond .eq 7, 3) := by decide +kernel
theorem d_L_law__2022 : decode cL_law_ 2022 = .ok (.iconst 1, 1) := by decide +kernel
theorem d_L_law__2023 : decode cL_law_ 2023 = .ok (.goto 4, 3) := by decide +kernel
theorem d_L_law__2026 : decode cL_law_ 2026 = .ok (.iconst 0, 1) := by decide +kernel
theorem d_L_law__2027 : decode cL_law_ 2027 = .ok (.invokevirtual 249, 3) := by decide +kernel
theorem d_L_law__2030 : decode cL_law_ 2030 = .ok (.istore 6, 2) := by decide +kernel
theorem d_L_law__2032 : decode cL_law_ 2032 = .ok (.aload_n 2, 1) := by decide +kernel
theorem d_L_law__2033 : decode cL_law_ 2033 = .ok (.invokevirtual 145, 3) := by decide +kernel
theorem d_L_law__2036 : decode cL_law_ 2036 = .ok (.iload 5, 2) := by decide +kernel
theorem d_L_law__2038 : decode cL_law_ 2038 = .ok (.if_icmp .eq 5, 3) := by decide +kernel
theorem d_L_law__2041 : decode cL_law_ 2041 = .ok (.iconst 0, 1) := by decide +kernel
theorem d_L_law__2043 : decode cL_law_ 2043 = .ok (.iload 5, 2) := by decide +kernel
theorem d_L_law__2045 : decode cL_law_ 2045 = .ok (.ifCond .ne 15, 3) := by decide +kernel
theorem d_L_law__2048 : decode cL_law_ 2048 = .ok (.aload_n 3, 1) := by decide +kernel
theorem d_L_law__2049 : decode cL_law_ 2049 = .ok (.iconst 0, 1) := by decide +kernel
theorem d_L_law__2050 : decode cL_law_ 2050 = .ok (.laload, 1) := by decide +kernel
theorem d_L_law__2051 : decode cL_law_ 2051 = .ok (.iload 6, 2) := by decide +kernel
theorem d_L_law__2053 : decode cL_law_ 2053 = .ok (.i2l, 1) := by decide +kernel
theorem d_L_law__2054 : decode cL_law_ 2054 = .ok (.lcmp, 1) := by decide +kernel
theorem d_L_law__2055 : decode cL_law_ 2055 = .ok (.ifCond .eq 5, 3) := by decide +kernel
theorem d_L_law__2058 : decode cL_law_ 2058 = .ok (.iconst 0, 1) := by decide +kernel
theorem d_L_law__2060 : decode cL_law_ 2060 = .ok (.goto 648, 3) := by decide +kernel
theorem d_L_law__2063 : decode cL_law_ 2063 = .ok (.aload_n 1, 1) := by decide +kernel
theorem d_L_law__2064 : decode cL_law_ 2064 = .ok (.aload_n 3, 1) := by decide +kernel
theorem d_L_law__2065 : decode cL_law_ 2065 = .ok (.invokestatic 250, 3) := by decide +kernel
theorem d_L_law__2068 : decode cL_law_ 2068 = .ok (.istore 5, 2) := by decide +kernel
theorem d_L_law__2070 : decode cL_law_ 2070 = .ok (.aload_n 2, 1) := by decide +kernel
theorem d_L_law__2071 : decode cL_law_ 2071 = .ok (.invokevirtual 252, 3) := by decide +kernel
theorem d_L_law__2074 : decode cL_law_ 2074 = .ok (.istore 6, 2) := by decide +kernel
theorem d_L_law__2076 : decode cL_law_ 2076 = .ok (.aload_n 2, 1) := by decide +kernel
theorem d_L_law__2077 : decode cL_law_ 2077 = .ok (.invokevirtual 145, 3) := by decide +kernel
theorem d_L_law__2080 : decode cL_law_ 2080 = .ok (.iload 5, 2) := by decide +kernel
theorem d_L_law__2082 : decode cL_law_ 2082 = .ok (.if_icmp .eq 5, 3) := by decide +kernel
theorem d_L_law__2085 : decode cL_law_ 2085 = .ok (.iconst 0, 1) := by decide +kernel
theorem d_L_law__2087 : decode cL_law_ 2087 = .ok (.iload 5, 2) := by decide +kernel
theorem d_L_law__2089 : decode cL_law_ 2089 = .ok (.ifCond .ne 15, 3) := by decide +kernel
theorem d_L_law__2092 : decode cL_law_ 2092 = .ok (.aload_n 3, 1) := by decide +kernel
theorem d_L_law__2093 : decode cL_law_ 2093 = .ok (.iconst 0, 1) := by decide +kernel
theorem d_L_law__2094 : decode cL_law_ 2094 = .ok (.laload, 1) := by decide +kernel
theorem d_L_law__2095 : decode cL_law_ 2095 = .ok (.iload 6, 2) := by decide +kernel
theorem d_L_law__2097 : decode cL_law_ 2097 = .ok (.i2l, 1) := by decide +kernel
theorem d_L_law__2098 : decode cL_law_ 2098 = .ok (.lcmp, 1) := by decide +kernel
theorem d_L_law__2099 : decode cL_law_ 2099 = .ok (.ifCond .eq 5, 3) := by decide +kernel
theorem d_L_law__2102 : decode cL_law_ 2102 = .ok (.iconst 0, 1) := by decide +kernel
theorem d_L_law__2104 : decode cL_law_ 2104 = .ok (.goto 604, 3) := by decide +kernel
theorem d_L_law__2107 : decode cL_law_ 2107 = .ok (.aload_n 1, 1) := by decide +kernel
theorem d_L_law__2108 : decode cL_law_ 2108 = .ok (.aload_n 0, 1) := by decide +kernel
theorem d_L_law__2109 : decode cL_law_ 2109 = .ok (.iload 4, 2) := by decide +kernel
theorem d_L_law__2111 : decode cL_law_ 2111 = .ok (.iconst 1, 1) := by decide +kernel
theorem d_L_law__2112 : decode cL_law_ 2112 = .ok (.iadd, 1) := by decide +kernel
theorem d_L_law__2113 : decode cL_law_ 2113 = .ok (.iaload, 1) := by decide +kernel
theorem d_L_law__2114 : decode cL_law_ 2114 = .ok (.aload_n 3, 1) := by decide +kernel
theorem d_L_law__2115 : decode cL_law_ 2115 = .ok (.invokestatic 253, 3) := by decide +kernel
theorem d_L_law__2118 : decode cL_law_ 2118 = .ok (.istore 5, 2) := by decide +kernel
theorem d_L_law__2120 : decode cL_law_ 2120 = .ok (.aload_n 2, 1) := by decide +kernel
theorem d_L_law__2121 : decode cL_law_ 2121 = .ok (.aload_n 0, 1) := by decide +kernel
theorem d_L_law__2122 : decode cL_law_ 2122 = .ok (.iload 4, 2) := by decide +kernel
theorem d_L_law__2124 : decode cL_law_ 2124 = .ok (.iconst 1, 1) := by decide +kernel
theorem d_L_law__2125 : decode cL_law_ 2125 = .ok (.iadd, 1) := by decide +kernel
theorem d_L_law__2126 : decode cL_law_ 2126 = .ok (.iaload, 1) := by decide +kernel
theorem d_L_law__2127 : decode cL_law_ 2127 = .ok (.invokevirtual 255, 3) := by decide +kernel
theorem d_L_law__2130 : decode cL_law_ 2130 = .ok (.istore 6, 2) := by decide +kernel
theorem d_L_law__2132 : decode cL_law_ 2132 = .ok (.aload_n 2, 1) := by decide +kernel
theorem d_L_law__2133 : decode cL_law_ 2133 = .ok (.invokevirtual 145, 3) := by decide +kernel
theorem d_L_law__2136 : decode cL_law_ 2136 = .ok (.iload 5, 2) := by decide +kernel
theorem d_L_law__2138 : decode cL_law_ 2138 = .ok (.if_icmp .eq 5, 3) := by decide +kernel
theorem d_L_law__2141 : decode cL_law_ 2141 = .ok (.iconst 0, 1) := by decide +kernel
theorem d_L_law__2143 : decode cL_law_ 2143 = .ok (.iload 5, 2) := by decide +kernel
theorem d_L_law__2145 : decode cL_law_ 2145 = .ok (.ifCond .ne 15, 3) := by decide +kernel
theorem d_L_law__2148 : decode cL_law_ 2148 = .ok (.aload_n 3, 1) := by decide +kernel
theorem d_L_law__2149 : decode cL_law_ 2149 = .ok (.iconst 0, 1) := by decide +kernel
theorem d_L_law__2150 : decode cL_law_ 2150 = .ok (.laload, 1) := by decide +kernel
theorem d_L_law__2151 : decode cL_law_ 2151 = .ok (.iload 6, 2) := by decide +kernel
theorem d_L_law__2153 : decode cL_law_ 2153 = .ok (.i2l, 1) := by decide +kernel
theorem d_L_law__2154 : decode cL_law_ 2154 = .ok (.lcmp, 1) := by decide +kernel
theorem d_L_law__2155 : decode cL_law_ 2155 = .ok (.ifCond .eq 5, 3) := by decide +kernel
theorem d_L_law__2158 : decode cL_law_ 2158 = .ok (.iconst 0, 1) := by decide +kernel
theorem d_L_law__2160 : decode cL_law_ 2160 = .ok (.goto 548, 3) := by decide +kernel
theorem d_L_law__2163 : decode cL_law_ 2163 = .ok (.aload_n 1, 1) := by decide +kernel
theorem d_L_law__2164 : decode cL_law_ 2164 = .ok (.invokevirtual 256, 3) := by decide +kernel
theorem d_L_law__2167 : decode cL_law_ 2167 = .ok (.aload_n 2, 1) := by decide +kernel
theorem d_L_law__2168 : decode cL_law_ 2168 = .ok (.invokevirtual 259, 3) := by decide +kernel
theorem d_L_law__2171 : decode cL_law_ 2171 = .ok (.if_icmp .eq 537, 3) := by decide +kernel
theorem d_L_law__2174 : decode cL_law_ 2174 = .ok (.iconst 0, 1) := by decide +kernel
theorem d_L_law__2176 : decode cL_law_ 2176 = .ok (.aload_n 1, 1) := by decide +kernel
theorem d_L_law__2177 : decode cL_law_ 2177 = .ok (.aload_n 0, 1) := by decide +kernel
theorem d_L_law__2178 : decode cL_law_ 2178 = .ok (.iload 4, 2) := by decide +kernel
theorem d_L_law__2180 : decode cL_law_ 2180 = .ok (.iconst 1, 1) := by decide +kernel
theorem d_L_law__2181 : decode cL_law_ 2181 = .ok (.iadd, 1) := by decide +kernel
theorem d_L_law__2182 : decode cL_law_ 2182 = .ok (.iaload, 1) := by decide +kernel
theorem d_L_law__2183 : decode cL_law_ 2183 = .ok (.aload_n 3, 1) := by decide +kernel
theorem d_L_law__2184 : decode cL_law_ 2184 = .ok (.invokestatic 260, 3) := by decide +kernel
theorem d_L_law__2187 : decode cL_law_ 2187 = .ok (.istore 5, 2) := by decide +kernel
theorem d_L_law__2189 : decode cL_law_ 2189 = .ok (.aload_n 2, 1) := by decide +kernel
theorem d_L_law__2190 : decode cL_law_ 2190 = .ok (.aload_n 0, 1) := by decide +kernel
theorem d_L_law__2191 : decode cL_law_ 2191 = .ok (.iload 4, 2) := by decide +kernel
theorem d_L_law__2193 : decode cL_law_ 2193 = .ok (.iconst 1, 1) := by decide +kernel
theorem d_L_law__2194 : decode cL_law_ 2194 = .ok (.iadd, 1) := by decide +kernel
theorem d_L_law__2195 : decode cL_law_ 2195 = .ok (.iaload, 1) := by decide +kernel
theorem d_L_law__2196 : decode cL_law_ 2196 = .ok (.invokevirtual 262, 3) := by decide +kernel
theorem d_L_law__2199 : decode cL_law_ 2199 = .ok (.istore 6, 2) := by decide +kernel
theorem d_L_law__2201 : decode cL_law_ 2201 = .ok (.aload_n 2, 1) := by decide +kernel
theorem d_L_law__2202 : decode cL_law_ 2202 = .ok (.invokevirtual 145, 3) := by decide +kernel
theorem d_L_law__2205 : decode cL_law_ 2205 = .ok (.iload 5, 2) := by decide +kernel
theorem d_L_law__2207 : decode cL_law_ 2207 = .ok (.if_icmp .eq 5, 3) := by decide +kernel
theorem d_L_law__2210 : decode cL_law_ 2210 = .ok (.iconst 0, 1) := by decide +kernel
theorem d_L_law__2212 : decode cL_law_ 2212 = .ok (.iload 5, 2) := by decide +kernel
theorem d_L_law__2214 : decode cL_law_ 2214 = .ok (.ifCond .ne 15, 3) := by decide +kernel
theorem d_L_law__2217 : decode cL_law_ 2217 = .ok (.aload_n 3, 1) := by decide +kernel
theorem d_L_law__2218 : decode cL_law_ 2218 = .ok (.iconst 0, 1) := by decide +kernel
theorem d_L_law__2219 : decode cL_law_ 2219 = .ok (.laload, 1) := by decide +kernel
theorem d_L_law__2220 : decode cL_law_ 2220 = .ok (.iload 6, 2) := by decide +kernel
theorem d_L_law__2222 : decode cL_law_ 2222 = .ok (.i2l, 1) := by decide +kernel
theorem d_L_law__2223 : decode cL_law_ 2223 = .ok (.lcmp, 1) := by decide +kernel
theorem d_L_law__2224 : decode cL_law_ 2224 = .ok (.ifCond .eq 5, 3) := by decide +kernel
theorem d_L_law__2227 : decode cL_law_ 2227 = .ok (.iconst 0, 1) := by decide +kernel
theorem d_L_law__2229 : decode cL_law_ 2229 = .ok (.goto 479, 3) := by decide +kernel
theorem d_L_law__2232 : decode cL_law_ 2232 = .ok (.aload_n 1, 1) := by decide +kernel
theorem d_L_law__2233 : decode cL_law_ 2233 = .ok (.aload_n 0, 1) := by decide +kernel
theorem d_L_law__2234 : decode cL_law_ 2234 = .ok (.iload 4, 2) := by decide +kernel
theorem d_L_law__2236 : decode cL_law_ 2236 = .ok (.iconst 1, 1) := by decide +kernel
theorem d_L_law__2237 : decode cL_law_ 2237 = .ok (.iadd, 1) := by decide +kernel
theorem d_L_law__2238 : decode cL_law_ 2238 = .ok (.iaload, 1) := by decide +kernel
theorem d_L_law__2239 : decode cL_law_ 2239 = .ok (.aload_n 3, 1) := by decide +kernel
theorem d_L_law__2240 : decode cL_law_ 2240 = .ok (.invokestatic 263, 3) := by decide +kernel
theorem d_L_law__2243 : decode cL_law_ 2243 = .ok (.istore 5, 2) := by decide +kernel
theorem d_L_law__2245 : decode cL_law_ 2245 = .ok (.aload_n 2, 1) := by decide +kernel
theorem d_L_law__2246 : decode cL_law_ 2246 = .ok (.aload_n 0, 1) := by decide +kernel
theorem d_L_law__2247 : decode cL_law_ 2247 = .ok (.iload 4, 2) := by decide +kernel
theorem d_L_law__2249 : decode cL_law_ 2249 = .ok (.iconst 1, 1) := by decide +kernel
theorem d_L_law__2250 : decode cL_law_ 2250 = .ok (.iadd, 1) := by decide +kernel
theorem d_L_law__2251 : decode cL_law_ 2251 = .ok (.iaload, 1) := by decide +kernel
theorem d_L_law__2252 : decode cL_law_ 2252 = .ok (.invokevirtual 265, 3) := by decide +kernel
theorem d_L_law__2255 : decode cL_law_ 2255 = .ok (.istore 6, 2) := by decide +kernel
theorem d_L_law__2257 : decode cL_law_ 2257 = .ok (.aload_n 2, 1) := by decide +kernel
theorem d_L_law__2258 : decode cL_law_ 2258 = .ok (.invokevirtual 145, 3) := by decide +kernel
theorem d_L_law__2261 : decode cL_law_ 2261 = .ok (.iload 5, 2) := by decide +kernel
theorem d_L_law__2263 : decode cL_law_ 2263 = .ok (.if_icmp .eq 5, 3) := by decide +kernel
theorem d_L_law__2266 : decode cL_law_ 2266 = .ok (.iconst 0, 1) := by decide +kernel
theorem d_L_law__2268 : decode cL_law_ 2268 = .ok (.iload 5, 2) := by decide +kernel
theorem d_L_law__2270 : decode cL_law_ 2270 = .ok (.ifCond .ne 15, 3) := by decide +kernel
theorem d_L_law__2273 : decode cL_law_ 2273 = .ok (.aload_n 3, 1) := by decide +kernel
theorem d_L_law__2274 : decode cL_law_ 2274 = .ok (.iconst 0, 1) := by decide +kernel
theorem d_L_law__2275 : decode cL_law_ 2275 = .ok (.laload, 1) := by decide +kernel
theorem d_L_law__2276 : decode cL_law_ 2276 = .ok (.iload 6, 2) := by decide +kernel
theorem d_L_law__2278 : decode cL_law_ 2278 = .ok (.i2l, 1) := by decide +kernel
theorem d_L_law__2279 : decode cL_law_ 2279 = .ok (.lcmp, 1) := by decide +kernel
theorem d_L_law__2280 : decode cL_law_ 2280 = .ok (.ifCond .eq 5, 3) := by decide +kernel
theorem d_L_law__2283 : decode cL_law_ 2283 = .ok (.iconst 0, 1) := by decide +kernel
theorem d_L_law__2285 : decode cL_law_ 2285 = .ok (.goto 423, 3) := by decide +kernel
theorem d_L_law__2288 : decode cL_law_ 2288 = .ok (.aload_n 1, 1) := by decide +kernel
theorem d_L_law__2289 : decode cL_law_ 2289 = .ok (.invokevirtual 266, 3) := by decide +kernel
theorem d_L_law__2292 : decode cL_law_ 2292 = .ok (.aload_n 2, 1) := by decide +kernel
theorem d_L_law__2293 : decode cL_law_ 2293 = .ok (.invokevirtual 269, 3) := by decide +kernel
theorem d_L_law__2296 : decode cL_law_ 2296 = .ok (.if_icmp .eq 412, 3) := by decide +kernel
theorem d_L_law__2299 : decode cL_law_ 2299 = .ok (.iconst 0, 1) := by decide +kernel
theorem d_L_law__2301 : decode cL_law_ 2301 = .ok (.aload_n 1, 1) := by decide +kernel
theorem d_L_law__2302 : decode cL_law_ 2302 = .ok (.aload_n 0, 1) := by decide +kernel
theorem d_L_law__2303 : decode cL_law_ 2303 = .ok (.iload 4, 2) := by decide +kernel
theorem d_L_law__2305 : decode cL_law_ 2305 = .ok (.iconst 1, 1) := by decide +kernel
theorem d_L_law__2306 : decode cL_law_ 2306 = .ok (.iadd, 1) := by decide +kernel
theorem d_L_law__2307 : decode cL_law_ 2307 = .ok (.iaload, 1) := by decide +kernel
theorem d_L_law__2308 : decode cL_law_ 2308 = .ok (.aload_n 0, 1) := by decide +kernel
theorem d_L_law__2309 : decode cL_law_ 2309 = .ok (.iload 4, 2) := by decide +kernel
theorem d_L_law__2311 : decode cL_law_ 2311 = .ok (.iconst 2, 1) := by decide +kernel
theorem d_L_law__2312 : decode cL_law_ 2312 = .ok (.iadd, 1) := by decide +kernel
theorem d_L_law__2313 : decode cL_law_ 2313 = .ok (.iaload, 1) := by decide +kernel
theorem d_L_law__2314 : decode cL_law_ 2314 = .ok (.ifCond .eq 7, 3) := by decide +kernel
theorem d_L_law__2317 : decode cL_law_ 2317 = .ok (.iconst 1, 1) := by decide +kernel
theorem d_L_law__2318 : decode cL_law_ 2318 = .ok (.goto 4, 3) := by decide +kernel
theorem d_L_law__2321 : decode cL_law_ 2321 = .ok (.iconst 0, 1) := by decide +kernel
theorem d_L_law__2322 : decode cL_law_ 2322 = .ok (.aload_n 3, 1) := by decide +kernel
theorem d_L_law__2323 : decode cL_law_ 2323 = .ok (.invokestatic 270, 3) := by decide +kernel
theorem d_L_law__2326 : decode cL_law_ 2326 = .ok (.istore 5, 2) := by decide +kernel
theorem d_L_law__2328 : decode cL_law_ 2328 = .ok (.aload_n 2, 1) := by decide +kernel
theorem d_L_law__2329 : decode cL_law_ 2329 = .ok (.aload_n 0, 1) := by decide +kernel
theorem d_L_law__2330 : decode cL_law_ 2330 = .ok (.iload 4, 2) := by decide +kernel
theorem d_L_law__2332 : decode cL_law_ 2332 = .ok (.iconst 1, 1) := by decide +kernel
theorem d_L_law__2333 : decode cL_law_ 2333 = .ok (.iadd, 1) := by decide +kernel
theorem d_L_law__2334 : decode cL_law_ 2334 = .ok (.iaload, 1) := by decide +kernel
theorem d_L_law__2335 : decode cL_law_ 2335 = .ok (.aload_n 0, 1) := by decide +kernel
theorem d_L_law__2336 : decode cL_law_ 2336 = .ok (.iload 4, 2) := by decide +kernel
theorem d_L_law__2338 : decode cL_law_ 2338 = .ok (.iconst 2, 1) := by decide +kernel
theorem d_L_law__2339 : decode cL_law_ 2339 = .ok (.iadd, 1) := by decide +kernel
theorem d_L_law__2340 : decode cL_law_ 2340 = .ok (.iaload, 1) := by decide +kernel
theorem d_L_law__2341 : decode cL_law_ 2341 = .ok (.ifCond .eq 7, 3) := by decide +kernel
theorem d_L_law__2344 : decode cL_law_ 2344 = .ok (.iconst 1, 1) := by decide +kernel
theorem d_L_law__2345 : decode cL_law_ 2345 = .ok (.goto 4, 3) := by decide +kernel
theorem d_L_law__2348 : decode cL_law_ 2348 = .ok (.iconst 0, 1) := by decide +kernel
theorem d_L_law__2349 : decode cL_law_ 2349 = .ok (.invokevirtual 272, 3) := by decide +kernel
theorem d_L_law__2352 : decode cL_law_ 2352 = .ok (.istore 6, 2) := by decide +kernel
theorem d_L_law__2354 : decode cL_law_ 2354 = .ok (.aload_n 2, 1) := by decide +kernel
theorem d_L_law__2355 : decode cL_law_ 2355 = .ok (.invokevirtual 145, 3) := by decide +kernel
theorem d_L_law__2358 : decode cL_law_ 2358 = .ok (.iload 5, 2) := by decide +kernel
theorem d_L_law__2360 : decode cL_law_ 2360 = .ok (.if_icmp .eq 5, 3) := by decide +kernel
theorem d_L_law__2363 : decode cL_law_ 2363 = .ok (.iconst 0, 1) := by decide +kernel
theorem d_L_law__2365 : decode cL_law_ 2365 = .ok (.iload 5, 2) := by decide +kernel
theorem d_L_law__2367 : decode cL_law_ 2367 = .ok (.ifCond .ne 15, 3) := by decide +kernel
theorem d_L_law__2370 : decode cL_law_ 2370 = .ok (.aload_n 3, 1) := by decide +kernel
theorem d_L_law__2371 : decode cL_law_ 2371 = .ok (.iconst 0, 1) := by decide +kernel
theorem d_L_law__2372 : decode cL_law_ 2372 = .ok (.laload, 1) := by decide +kernel
theorem d_L_law__2373 : decode cL_law_ 2373 = .ok (.iload 6, 2) := by decide +kernel
theorem d_L_law__2375 : decode cL_law_ 2375 = .ok (.i2l, 1) := by decide +kernel
theorem d_L_law__2376 : decode cL_law_ 2376 = .ok (.lcmp, 1) := by decide +kernel
theorem d_L_law__2377 : decode cL_law_ 2377 = .ok (.ifCond .eq 5, 3) := by decide +kernel
theorem d_L_law__2380 : decode cL_law_ 2380 = .ok (.iconst 0, 1) := by decide +kernel
theorem d_L_law__2382 : decode cL_law_ 2382 = .ok (.goto 326, 3) := by decide +kernel
theorem d_L_law__2385 : decode cL_law_ 2385 = .ok (.aload_n 1, 1) := by decide +kernel
theorem d_L_law__2386 : decode cL_law_ 2386 = .ok (.aload_n 0, 1) := by decide +kernel
theorem d_L_law__2387 : decode cL_law_ 2387 = .ok (.iload 4, 2) := by decide +kernel
theorem d_L_law__2389 : decode cL_law_ 2389 = .ok (.iconst 1, 1) := by decide +kernel
theorem d_L_law__2390 : decode cL_law_ 2390 = .ok (.iadd, 1) := by decide +kernel
theorem d_L_law__2391 : decode cL_law_ 2391 = .ok (.iaload, 1) := by decide +kernel
theorem d_L_law__2392 : decode cL_law_ 2392 = .ok (.aload_n 0, 1) := by decide +kernel
theorem d_L_law__2393 : decode cL_law_ 2393 = .ok (.iload 4, 2) := by decide +kernel
theorem d_L_law__2395 : decode cL_law_ 2395 = .ok (.iconst 2, 1) := by decide +kernel
theorem d_L_law__2396 : decode cL_law_ 2396 = .ok (.iadd, 1) := by decide +kernel
theorem d_L_law__2397 : decode cL_law_ 2397 = .ok (.iaload, 1) := by decide +kernel
theorem d_L_law__2398 : decode cL_law_ 2398 = .ok (.ifCond .eq 7, 3) := by decide +kernel
theorem d_L_law__2401 : decode cL_law_ 2401 = .ok (.iconst 1, 1) := by decide +kernel
theorem d_L_law__2402 : decode cL_law_ 2402 = .ok (.goto 4, 3) := by decide +kernel
theorem d_L_law__2405 : decode cL_law_ 2405 = .ok (.iconst 0, 1) := by decide +kernel
theorem d_L_law__2406 : decode cL_law_ 2406 = .ok (.aload_n 3, 1) := by decide +kernel
theorem d_L_law__2407 : decode cL_law_ 2407 = .ok (.invokestatic 273, 3) := by decide +kernel
theorem d_L_law__2410 : decode cL_law_ 2410 = .ok (.istore 5, 2) := by decide +kernel
theorem d_L_law__2412 : decode cL_law_ 2412 = .ok (.aload_n 2, 1) := by decide +kernel
theorem d_L_law__2413 : decode cL_law_ 2413 = .ok (.aload_n 0, 1) := by decide +kernel
theorem d_L_law__2414 : decode cL_law_ 2414 = .ok (.iload 4, 2) := by decide +kernel
theorem d_L_law__2416 : decode cL_law_ 2416 = .ok (.iconst 1, 1) := by decide +kernel
theorem d_L_law__2417 : decode cL_law_ 2417 = .ok (.iadd, 1) := by decide +kernel
theorem d_L_law__2418 : decode cL_law_ 2418 = .ok (.iaload, 1) := by decide +kernel
theorem d_L_law__2419 : decode cL_law_ 2419 = .ok (.aload_n 0, 1) := by decide +kernel
theorem d_L_law__2420 : decode cL_law_ 2420 = .ok (.iload 4, 2) := by decide +kernel
theorem d_L_law__2422 : decode cL_law_ 2422 = .ok (.iconst 2, 1) := by decide +kernel
theorem d_L_law__2423 : decode cL_law_ 2423 = .ok (.iadd, 1) := by decide +kernel
theorem d_L_law__2424 : decode cL_law_ 2424 = .ok (.iaload, 1) := by decide +kernel
theorem d_L_law__2425 : decode cL_law_ 2425 = .ok (.ifCond .eq 7, 3) := by decide +kernel
theorem d_L_law__2428 : decode cL_law_ 2428 = .ok (.iconst 1, 1) := by decide +kernel
theorem d_L_law__2429 : decode cL_law_ 2429 = .ok (.goto 4, 3) := by decide +kernel
theorem d_L_law__2432 : decode cL_law_ 2432 = .ok (.iconst 0, 1) := by decide +kernel
theorem d_L_law__2433 : decode cL_law_ 2433 = .ok (.invokevirtual 275, 3) := by decide +kernel
theorem d_L_law__2436 : decode cL_law_ 2436 = .ok (.istore 6, 2) := by decide +kernel
theorem d_L_law__2438 : decode cL_law_ 2438 = .ok (.aload_n 2, 1) := by decide +kernel
theorem d_L_law__2439 : decode cL_law_ 2439 = .ok (.invokevirtual 145, 3) := by decide +kernel
theorem d_L_law__2442 : decode cL_law_ 2442 = .ok (.iload 5, 2) := by decide +kernel
theorem d_L_law__2444 : decode cL_law_ 2444 = .ok (.if_icmp .eq 5, 3) := by decide +kernel
theorem d_L_law__2447 : decode cL_law_ 2447 = .ok (.iconst 0, 1) := by decide +kernel
theorem d_L_law__2449 : decode cL_law_ 2449 = .ok (.iload 5, 2) := by decide +kernel
theorem d_L_law__2451 : decode cL_law_ 2451 = .ok (.ifCond .ne 15, 3) := by decide +kernel
theorem d_L_law__2454 : decode cL_law_ 2454 = .ok (.aload_n 3, 1) := by decide +kernel
theorem d_L_law__2455 : decode cL_law_ 2455 = .ok (.iconst 0, 1) := by decide +kernel
theorem d_L_law__2456 : decode cL_law_ 2456 = .ok (.laload, 1) := by decide +kernel
theorem d_L_law__2457 : decode cL_law_ 2457 = .ok (.iload 6, 2) := by decide +kernel
theorem d_L_law__2459 : decode cL_law_ 2459 = .ok (.i2l, 1) := by decide +kernel
theorem d_L_law__2460 : decode cL_law_ 2460 = .ok (.lcmp, 1) := by decide +kernel
theorem d_L_law__2461 : decode cL_law_ 2461 = .ok (.ifCond .eq 5, 3) := by decide +kernel
theorem d_L_law__2464 : decode cL_law_ 2464 = .ok (.iconst 0, 1) := by decide +kernel
theorem d_L_law__2466 : decode cL_law_ 2466 = .ok (.goto 242, 3) := by decide +kernel
theorem d_L_law__2469 : decode cL_law_ 2469 = .ok (.aload_n 1, 1) := by decide +kernel
theorem d_L_law__2470 : decode cL_law_ 2470 = .ok (.aload_n 0, 1) := by decide +kernel
theorem d_L_law__2471 : decode cL_law_ 2471 = .ok (.iload 4, 2) := by decide +kernel
theorem d_L_law__2473 : decode cL_law_ 2473 = .ok (.iconst 1, 1) := by decide +kernel
theorem d_L_law__2474 : decode cL_law_ 2474 = .ok (.iadd, 1) := by decide +kernel
theorem d_L_law__2475 : decode cL_law_ 2475 = .ok (.iaload, 1) := by decide +kernel
theorem d_L_law__2476 : decode cL_law_ 2476 = .ok (.aload_n 0, 1) := by decide +kernel
theorem d_L_law__2477 : decode cL_law_ 2477 = .ok (.iload 4, 2) := by decide +kernel
theorem d_L_law__2479 : decode cL_law_ 2479 = .ok (.iconst 2, 1) := by decide +kernel
theorem d_L_law__2480 : decode cL_law_ 2480 = .ok (.iadd, 1) := by decide +kernel
theorem d_L_law__2481 : decode cL_law_ 2481 = .ok (.iaload, 1) := by decide +kernel
theorem d_L_law__2482 : decode cL_law_ 2482 = .ok (.ifCond .eq 7, 3) := by decide +kernel
theorem d_L_law__2485 : decode cL_law_ 2485 = .ok (.iconst 1, 1) := by decide +kernel
theorem d_L_law__2486 : decode cL_law_ 2486 = .ok (.goto 4, 3) := by decide +kernel
theorem d_L_law__2489 : decode cL_law_ 2489 = .ok (.iconst 0, 1) := by decide +kernel
theorem d_L_law__2490 : decode cL_law_ 2490 = .ok (.aload_n 3, 1) := by decide +kernel
theorem d_L_law__2491 : decode cL_law_ 2491 = .ok (.invokestatic 276, 3) := by decide +kernel
theorem d_L_law__2494 : decode cL_law_ 2494 = .ok (.istore 5, 2) := by decide +kernel
theorem d_L_law__2496 : decode cL_law_ 2496 = .ok (.aload_n 2, 1) := by decide +kernel
theorem d_L_law__2497 : decode cL_law_ 2497 = .ok (.aload_n 0, 1) := by decide +kernel
theorem d_L_law__2498 : decode cL_law_ 2498 = .ok (.iload 4, 2) := by decide +kernel
theorem d_L_law__2500 : decode cL_law_ 2500 = .ok (.iconst 1, 1) := by decide +kernel
theorem d_L_law__2501 : decode cL_law_ 2501 = .ok (.iadd, 1) := by decide +kernel
theorem d_L_law__2502 : decode cL_law_ 2502 = .ok (.iaload, 1) := by decide +kernel
theorem d_L_law__2503 : decode cL_law_ 2503 = .ok (.aload_n 0, 1) := by decide +kernel
theorem d_L_law__2504 : decode cL_law_ 2504 = .ok (.iload 4, 2) := by decide +kernel
theorem d_L_law__2506 : decode cL_law_ 2506 = .ok (.iconst 2, 1) := by decide +kernel
theorem d_L_law__2507 : decode cL_law_ 2507 = .ok (.iadd, 1) := by decide +kernel
theorem d_L_law__2508 : decode cL_law_ 2508 = .ok (.iaload, 1) := by decide +kernel
theorem d_L_law__2509 : decode cL_law_ 2509 = .ok (.ifCond .eq 7, 3) := by decide +kernel
theorem d_L_law__2512 : decode cL_law_ 2512 = .ok (.iconst 1, 1) := by decide +kernel
theorem d_L_law__2513 : decode cL_law_ 2513 = .ok (.goto 4, 3) := by decide +kernel
theorem d_L_law__2516 : decode cL_law_ 2516 = .ok (.iconst 0, 1) := by decide +kernel
theorem d_L_law__2517 : decode cL_law_ 2517 = .ok (.invokevirtual 278, 3) := by decide +kernel
theorem d_L_law__2520 : decode cL_law_ 2520 = .ok (.istore 6, 2) := by decide +kernel
theorem d_L_law__2522 : decode cL_law_ 2522 = .ok (.aload_n 2, 1) := by decide +kernel
theorem d_L_law__2523 : decode cL_law_ 2523 = .ok (.invokevirtual 145, 3) := by decide +kernel
theorem d_L_law__2526 : decode cL_law_ 2526 = .ok (.iload 5, 2) := by decide +kernel
theorem d_L_law__2528 : decode cL_law_ 2528 = .ok (.if_icmp .eq 5, 3) := by decide +kernel
theorem d_L_law__2531 : decode cL_law_ 2531 = .ok (.iconst 0, 1) := by decide +kernel
theorem d_L_law__2533 : decode cL_law_ 2533 = .ok (.iload 5, 2) := by decide +kernel
theorem d_L_law__2535 : decode cL_law_ 2535 = .ok (.ifCond .ne 15, 3) := by decide +kernel
theorem d_L_law__2538 : decode cL_law_ 2538 = .ok (.aload_n 3, 1) := by decide +kernel
theorem d_L_law__2539 : decode cL_law_ 2539 = .ok (.iconst 0, 1) := by decide +kernel
theorem d_L_law__2540 : decode cL_law_ 2540 = .ok (.laload, 1) := by decide +kernel
theorem d_L_law__2541 : decode cL_law_ 2541 = .ok (.iload 6, 2) := by decide +kernel
theorem d_L_law__2543 : decode cL_law_ 2543 = .ok (.i2l, 1) := by decide +kernel
theorem d_L_law__2544 : decode cL_law_ 2544 = .ok (.lcmp, 1) := by decide +kernel
theorem d_L_law__2545 : decode cL_law_ 2545 = .ok (.ifCond .eq 5, 3) := by decide +kernel
theorem d_L_law__2548 : decode cL_law_ 2548 = .ok (.iconst 0, 1) := by decide +kernel
theorem d_L_law__2550 : decode cL_law_ 2550 = .ok (.goto 158, 3) := by decide +kernel
theorem d_L_law__2553 : decode cL_law_ 2553 = .ok (.aload_n 1, 1) := by decide +kernel
theorem d_L_law__2554 : decode cL_law_ 2554 = .ok (.aload_n 0, 1) := by decide +kernel
theorem d_L_law__2555 : decode cL_law_ 2555 = .ok (.iload 4, 2) := by decide +kernel
theorem d_L_law__2557 : decode cL_law_ 2557 = .ok (.iconst 1, 1) := by decide +kernel
theorem d_L_law__2558 : decode cL_law_ 2558 = .ok (.iadd, 1) := by decide +kernel
theorem d_L_law__2559 : decode cL_law_ 2559 = .ok (.iaload, 1) := by decide +kernel
theorem d_L_law__2560 : decode cL_law_ 2560 = .ok (.aload_n 0, 1) := by decide +kernel
theorem d_L_law__2561 : decode cL_law_ 2561 = .ok (.iload 4, 2) := by decide +kernel
theorem d_L_law__2563 : decode cL_law_ 2563 = .ok (.iconst 2, 1) := by decide +kernel
theorem d_L_law__2564 : decode cL_law_ 2564 = .ok (.iadd, 1) := by decide +kernel
theorem d_L_law__2565 : decode cL_law_ 2565 = .ok (.iaload, 1) := by decide +kernel
theorem d_L_law__2566 : decode cL_law_ 2566 = .ok (.aload_n 3, 1) := by decide +kernel
theorem d_L_law__2567 : decode cL_law_ 2567 = .ok (.invokestatic 279, 3) := by decide +kernel
theorem d_L_law__2570 : decode cL_law_ 2570 = .ok (.istore 5, 2) := by decide +kernel
theorem d_L_law__2572 : decode cL_law_ 2572 = .ok (.aload_n 2, 1) := by decide +kernel
theorem d_L_law__2573 : decode cL_law_ 2573 = .ok (.aload_n 0, 1) := by decide +kernel
theorem d_L_law__2574 : decode cL_law_ 2574 = .ok (.iload 4, 2) := by decide +kernel
theorem d_L_law__2576 : decode cL_law_ 2576 = .ok (.iconst 1, 1) := by decide +kernel
theorem d_L_law__2577 : decode cL_law_ 2577 = .ok (.iadd, 1) := by decide +kernel
theorem d_L_law__2578 : decode cL_law_ 2578 = .ok (.iaload, 1) := by decide +kernel
theorem d_L_law__2579 : decode cL_law_ 2579 = .ok (.aload_n 0, 1) := by decide +kernel
theorem d_L_law__2580 : decode cL_law_ 2580 = .ok (.iload 4, 2) := by decide +kernel
theorem d_L_law__2582 : decode cL_law_ 2582 = .ok (.iconst 2, 1) := by decide +kernel
theorem d_L_law__2583 : decode cL_law_ 2583 = .ok (.iadd, 1) := by decide +kernel
theorem d_L_law__2584 : decode cL_law_ 2584 = .ok (.iaload, 1) := by decide +kernel
theorem d_L_law__2585 : decode cL_law_ 2585 = .ok (.invokevirtual 281, 3) := by decide +kernel
theorem d_L_law__2588 : decode cL_law_ 2588 = .ok (.istore 6, 2) := by decide +kernel
theorem d_L_law__2590 : decode cL_law_ 2590 = .ok (.aload_n 2, 1) := by decide +kernel
theorem d_L_law__2591 : decode cL_law_ 2591 = .ok (.invokevirtual 145, 3) := by decide +kernel
theorem d_L_law__2594 : decode cL_law_ 2594 = .ok (.iload 5, 2) := by decide +kernel
theorem d_L_law__2596 : decode cL_law_ 2596 = .ok (.if_icmp .eq 5, 3) := by decide +kernel
theorem d_L_law__2599 : decode cL_law_ 2599 = .ok (.iconst 0, 1) := by decide +kernel
theorem d_L_law__2601 : decode cL_law_ 2601 = .ok (.iload 5, 2) := by decide +kernel
theorem d_L_law__2603 : decode cL_law_ 2603 = .ok (.ifCond .ne 15, 3) := by decide +kernel
theorem d_L_law__2606 : decode cL_law_ 2606 = .ok (.aload_n 3, 1) := by decide +kernel
theorem d_L_law__2607 : decode cL_law_ 2607 = .ok (.iconst 0, 1) := by decide +kernel
theorem d_L_law__2608 : decode cL_law_ 2608 = .ok (.laload, 1) := by decide +kernel
theorem d_L_law__2609 : decode cL_law_ 2609 = .ok (.iload 6, 2) := by decide +kernel
theorem d_L_law__2611 : decode cL_law_ 2611 = .ok (.i2l, 1) := by decide +kernel
theorem d_L_law__2612 : decode cL_law_ 2612 = .ok (.lcmp, 1) := by decide +kernel
theorem d_L_law__2613 : decode cL_law_ 2613 = .ok (.ifCond .eq 5, 3) := by decide +kernel
theorem d_L_law__2616 : decode cL_law_ 2616 = .ok (.iconst 0, 1) := by decide +kernel
theorem d_L_law__2618 : decode cL_law_ 2618 = .ok (.goto 90, 3) := by decide +kernel
theorem d_L_law__2621 : decode cL_law_ 2621 = .ok (.aload_n 1, 1) := by decide +kernel
theorem d_L_law__2622 : decode cL_law_ 2622 = .ok (.aload_n 0, 1) := by decide +kernel
theorem d_L_law__2623 : decode cL_law_ 2623 = .ok (.iload 4, 2) := by decide +kernel
theorem d_L_law__2625 : decode cL_law_ 2625 = .ok (.iconst 1, 1) := by decide +kernel
theorem d_L_law__2626 : decode cL_law_ 2626 = .ok (.iadd, 1) := by decide +kernel
theorem d_L_law__2627 : decode cL_law_ 2627 = .ok (.iaload, 1) := by decide +kernel
theorem d_L_law__2628 : decode cL_law_ 2628 = .ok (.invokevirtual 282, 3) := by decide +kernel
theorem d_L_law__2631 : decode cL_law_ 2631 = .ok (.aload_n 2, 1) := by decide +kernel
theorem d_L_law__2632 : decode cL_law_ 2632 = .ok (.aload_n 0, 1) := by decide +kernel
theorem d_L_law__2633 : decode cL_law_ 2633 = .ok (.iload 4, 2) := by decide +kernel
theorem d_L_law__2635 : decode cL_law_ 2635 = .ok (.iconst 1, 1) := by decide +kernel
theorem d_L_law__2636 : decode cL_law_ 2636 = .ok (.iadd, 1) := by decide +kernel
theorem d_L_law__2637 : decode cL_law_ 2637 = .ok (.iaload, 1) := by decide +kernel
theorem d_L_law__2638 : decode cL_law_ 2638 = .ok (.invokevirtual 285, 3) := by decide +kernel
theorem d_L_law__2641 : decode cL_law_ 2641 = .ok (.if_icmp .eq 67, 3) := by decide +kernel
theorem d_L_law__2644 : decode cL_law_ 2644 = .ok (.iconst 0, 1) := by decide +kernel
theorem d_L_law__2646 : decode cL_law_ 2646 = .ok (.aload_n 1, 1) := by decide +kernel
theorem d_L_law__2647 : decode cL_law_ 2647 = .ok (.invokevirtual 286, 3) := by decide +kernel
theorem d_L_law__2650 : decode cL_law_ 2650 = .ok (.aload_n 2, 1) := by decide +kernel
theorem d_L_law__2651 : decode cL_law_ 2651 = .ok (.invokevirtual 290, 3) := by decide +kernel
theorem d_L_law__2654 : decode cL_law_ 2654 = .ok (.if_icmp .eq 54, 3) := by decide +kernel
theorem d_L_law__2657 : decode cL_law_ 2657 = .ok (.iconst 0, 1) := by decide +kernel
theorem d_L_law__2659 : decode cL_law_ 2659 = .ok (.aload_n 1, 1) := by decide +kernel
theorem d_L_law__2660 : decode cL_law_ 2660 = .ok (.invokevirtual 291, 3) := by decide +kernel
theorem d_L_law__2663 : decode cL_law_ 2663 = .ok (.aload_n 2, 1) := by decide +kernel
theorem d_L_law__2664 : decode cL_law_ 2664 = .ok (.invokevirtual 294, 3) := by decide +kernel
theorem d_L_law__2667 : decode cL_law_ 2667 = .ok (.goto 41, 3) := by decide +kernel
theorem d_L_law__2670 : decode cL_law_ 2670 = .ok (.aload_n 1, 1) := by decide +kernel
theorem d_L_law__2671 : decode cL_law_ 2671 = .ok (.invokevirtual 295, 3) := by decide +kernel
theorem d_L_law__2674 : decode cL_law_ 2674 = .ok (.aload_n 2, 1) := by decide +kernel
theorem d_L_law__2675 : decode cL_law_ 2675 = .ok (.invokevirtual 298, 3) := by decide +kernel
theorem d_L_law__2678 : decode cL_law_ 2678 = .ok (.if_icmp .eq 30, 3) := by decide +kernel
theorem d_L_law__2681 : decode cL_law_ 2681 = .ok (.iconst 0, 1) := by decide +kernel
theorem d_L_law__2683 : decode cL_law_ 2683 = .ok (.aload_n 1, 1) := by decide +kernel
theorem d_L_law__2684 : decode cL_law_ 2684 = .ok (.aload_n 0, 1) := by decide +kernel
theorem d_L_law__2685 : decode cL_law_ 2685 = .ok (.iload 4, 2) := by decide +kernel
theorem d_L_law__2687 : decode cL_law_ 2687 = .ok (.iconst 1, 1) := by decide +kernel
theorem d_L_law__2688 : decode cL_law_ 2688 = .ok (.iadd, 1) := by decide +kernel
theorem d_L_law__2689 : decode cL_law_ 2689 = .ok (.iaload, 1) := by decide +kernel
theorem d_L_law__2690 : decode cL_law_ 2690 = .ok (.invokevirtual 299, 3) := by decide +kernel
theorem d_L_law__2693 : decode cL_law_ 2693 = .ok (.aload_n 2, 1) := by decide +kernel
theorem d_L_law__2694 : decode cL_law_ 2694 = .ok (.aload_n 0, 1) := by decide +kernel
theorem d_L_law__2695 : decode cL_law_ 2695 = .ok (.iload 4, 2) := by decide +kernel
theorem d_L_law__2697 : decode cL_law_ 2697 = .ok (.iconst 1, 1) := by decide +kernel
theorem d_L_law__2698 : decode cL_law_ 2698 = .ok (.iadd, 1) := by decide +kernel
theorem d_L_law__2699 : decode cL_law_ 2699 = .ok (.iaload, 1) := by decide +kernel
theorem d_L_law__2700 : decode cL_law_ 2700 = .ok (.invokevirtual 302, 3) := by decide +kernel
theorem d_L_law__2703 : decode cL_law_ 2703 = .ok (.if_icmp .eq 5, 3) := by decide +kernel
theorem d_L_law__2706 : decode cL_law_ 2706 = .ok (.iconst 0, 1) := by decide +kernel
theorem d_L_law__2708 : decode cL_law_ 2708 = .ok (.iinc 4 6, 3) := by decide +kernel
theorem d_L_law__2711 : decode cL_law_ 2711 = .ok (.goto (-2688), 3) := by decide +kernel
theorem d_L_law__2714 : decode cL_law_ 2714 = .ok (.iconst 1, 1) := by decide +kernel
theorem d_L_law__2715 : decode cL_law_ 2715 = .ok (.ireturn, 1) := by decide +kernel
theorem s_L_law__j248 {G : Gl} (hG : G.1.stackTraces = false) {C : Cx} {n b9 K KS : Nat} {μ : Mem} {b9L : Nat} {xs : (Nat → Int32)} {l4 : Int32} (hX9 : ScX G C b9 b9L xs) (hKb : K + 8 ≤ 500000 ∧ KS + 48 ≤ 5000000) {r : Mem} (hf : f_L_law__j248 μ b9L xs l4 = some r) (hK : ∀ n, V G C F_L_law_ 2708 [some (.ref b9), some (.ref (G.2.1 + 0)), some (.ref (G.2.1 + 264)), some (.ref (G.2.1 + 275)), some (.int l4), none, none] [] (pic G r) n (K + 8) (KS + 48)) : V G C F_L_law_ 248 [some (.ref b9), some (.ref (G.2.1 + 0)), some (.ref (G.2.1 + 264)), some (.ref (G.2.1 + 275)), some (.int l4), none, none] [] (pic G μ) n (K + 0) (KS + 0) := by
  unfold f_L_law__j248 at hf
  refine V_aload_n d_L_law__248 rfl rfl ?_
  refine V_aload_n d_L_law__249 rfl rfl ?_
  refine V_iload d_L_law__250 rfl ?_
  refine V_iconst (v := 1) d_L_law__252 ic_1 ?_
  refine V_iadd d_L_law__253 ?_
  obtain ⟨t1, ht1, hf⟩ := ob hf
  refine V_sld hX9 ht1 d_L_law__254 ?_
  refine V_aload_n d_L_law__255 rfl rfl ?_
  refine V_iload d_L_law__256 rfl ?_
  refine V_iconst (v := 2) d_L_law__258 ic_2 ?_
  refine V_iadd d_L_law__259 ?_
  obtain ⟨t2, ht2, hf⟩ := ob hf
  refine V_sld hX9 ht2 d_L_law__260 ?_
  refine V_aload_n d_L_law__261 rfl rfl ?_
  refine V_iload d_L_law__262 rfl ?_
  refine V_iconst (v := 3) d_L_law__264 ic_3 ?_
  refine V_iadd d_L_law__265 ?_
  obtain ⟨t3, ht3, hf⟩ := ob hf
  refine V_sld hX9 ht3 d_L_law__266 ?_
  refine V_aload_n d_L_law__267 rfl rfl ?_
  refine V_iload d_L_law__268 rfl ?_
  refine V_iconst (v := 4) d_L_law__270 ic_4 ?_
  refine V_iadd d_L_law__271 ?_
  obtain ⟨t4, ht4, hf⟩ := ob hf
  refine V_sld hX9 ht4 d_L_law__272 ?_
  refine V_aload_n d_L_law__273 rfl rfl ?_
  refine V_iload d_L_law__274 rfl ?_
  refine V_iconst (v := 5) d_L_law__276 ic_5 ?_
  refine V_iadd d_L_law__277 ?_
  obtain ⟨t5, ht5, hf⟩ := ob hf
  refine V_sld hX9 ht5 d_L_law__278 ?_
  obtain ⟨q6, hq6, hf⟩ := ob hf
  refine B_callV1 (s_X11_feed hG hq6) k_0 clX11 m_X11_feed kv_RL_130 d_L_law__279 rfl (Nat.le_of_ble_eq_true rfl) ⟨rfl, rfl, (show K + 0 ≤ 500000 by omega), (show KS + 0 ≤ 5000000 by omega), Nat.le_of_ble_eq_true rfl⟩ (fun n => ?_)
  refine V_aload_n d_L_law__282 rfl rfl ?_
  refine V_aload_n d_L_law__283 rfl rfl ?_
  refine V_iload d_L_law__284 rfl ?_
  refine V_iconst (v := 1) d_L_law__286 ic_1 ?_
  refine V_iadd d_L_law__287 ?_
  obtain ⟨t7, ht7, hf⟩ := ob hf
  refine V_sld hX9 ht7 d_L_law__288 ?_
  refine V_aload_n d_L_law__289 rfl rfl ?_
  refine V_iload d_L_law__290 rfl ?_
  refine V_iconst (v := 2) d_L_law__292 ic_2 ?_
  refine V_iadd d_L_law__293 ?_
  obtain ⟨t8, ht8, hf⟩ := ob hf
  refine V_sld hX9 ht8 d_L_law__294 ?_
  refine V_aload_n d_L_law__295 rfl rfl ?_
  refine V_iload d_L_law__296 rfl ?_
  refine V_iconst (v := 3) d_L_law__298 ic_3 ?_
  refine V_iadd d_L_law__299 ?_
  obtain ⟨t9, ht9, hf⟩ := ob hf
  refine V_sld hX9 ht9 d_L_law__300 ?_
  refine V_aload_n d_L_law__301 rfl rfl ?_
  refine V_iload d_L_law__302 rfl ?_
  refine V_iconst (v := 4) d_L_law__304 ic_4 ?_
  refine V_iadd d_L_law__305 ?_
  obtain ⟨t10, ht10, hf⟩ := ob hf
  refine V_sld hX9 ht10 d_L_law__306 ?_
  refine V_aload_n d_L_law__307 rfl rfl ?_
  refine V_iload d_L_law__308 rfl ?_
  refine V_iconst (v := 5) d_L_law__310 ic_5 ?_
  refine V_iadd d_L_law__311 ?_
  obtain ⟨t11, ht11, hf⟩ := ob hf
  refine V_sld hX9 ht11 d_L_law__312 ?_
  obtain ⟨q12, hq12, hf⟩ := ob hf
  refine B_callV1 (s_X12_feed hG hq12) k_264 clX12 m_X12_feed kv_RL_133 d_L_law__313 rfl (Nat.le_of_ble_eq_true rfl) ⟨rfl, rfl, (show K + 0 ≤ 500000 by omega), (show KS + 0 ≤ 5000000 by omega), Nat.le_of_ble_eq_true rfl⟩ (fun n => ?_)
  refine V_icmp_eq (tgt := 2708) d_L_law__316 (by decide) (fun c316 => ?_) (fun c316 => ?_)
  · replace hf := iteT c316 hf
    refine V_widen (k2 := K + 8) (s2 := KS + 48) (by omega) (by omega) ?_
    refine V_less (ls' := [some _, some _, some _, some _, some _, none, none]) ⟨rfl, rfl, rfl, rfl, rfl, trivial⟩ ?_
    cases hf
    exact hK _
  · replace hf := iteF c316 hf
    refine V_iconst (v := 0) d_L_law__319 ic_0 ?_
    cases hf
theorem s_L_law__j321 {G : Gl} (hG : G.1.stackTraces = false) {C : Cx} {n b9 K KS : Nat} {μ : Mem} {b9L : Nat} {xs : (Nat → Int32)} {l4 : Int32} (hX9 : ScX G C b9 b9L xs) (hKb : K + 8 ≤ 500000 ∧ KS + 48 ≤ 5000000) {r : Mem} (hf : f_L_law__j321 μ b9L xs l4 = some r) (hK : ∀ n, V G C F_L_law_ 2708 [some (.ref b9), some (.ref (G.2.1 + 0)), some (.ref (G.2.1 + 264)), some (.ref (G.2.1 + 275)), some (.int l4), none, none] [] (pic G r) n (K + 8) (KS + 48)) : V G C F_L_law_ 321 [some (.ref b9), some (.ref (G.2.1 + 0)), some (.ref (G.2.1 + 264)), some (.ref (G.2.1 + 275)), some (.int l4), none, none] [] (pic G μ) n (K + 0) (KS + 0) := by
  unfold f_L_law__j321 at hf
  refine V_aload_n d_L_law__321 rfl rfl ?_
  refine V_aload_n d_L_law__322 rfl rfl ?_
  refine V_iload d_L_law__323 rfl ?_
  refine V_iconst (v := 1) d_L_law__325 ic_1 ?_
  refine V_iadd d_L_law__326 ?_
  obtain ⟨t1, ht1, hf⟩ := ob hf
  refine V_sld hX9 ht1 d_L_law__327 ?_
  obtain ⟨q2, hq2, hf⟩ := ob hf
  refine B_callV1 (s_X11_end hG hq2) k_0 clX11 m_X11_end kv_RL_134 d_L_law__328 rfl (Nat.le_of_ble_eq_true rfl) ⟨rfl, rfl, (show K + 0 ≤ 500000 by omega), (show KS + 0 ≤ 5000000 by omega), Nat.le_of_ble_eq_true rfl⟩ (fun n => ?_)
  refine V_aload_n d_L_law__331 rfl rfl ?_
  refine V_aload_n d_L_law__332 rfl rfl ?_
  refine V_iload d_L_law__333 rfl ?_
  refine V_iconst (v := 1) d_L_law__335 ic_1 ?_
  refine V_iadd d_L_law__336 ?_
  obtain ⟨t3, ht3, hf⟩ := ob hf
  refine V_sld hX9 ht3 d_L_law__337 ?_
  obtain ⟨q4, hq4, hf⟩ := ob hf
  refine B_callV1 (s_X12_end hG hq4) k_264 clX12 m_X12_end kv_RL_138 d_L_law__338 rfl (Nat.le_of_ble_eq_true rfl) ⟨rfl, rfl, (show K + 0 ≤ 500000 by omega), (show KS + 0 ≤ 5000000 by omega), Nat.le_of_ble_eq_true rfl⟩ (fun n => ?_)
  refine V_icmp_eq (tgt := 2708) d_L_law__341 (by decide) (fun c341 => ?_) (fun c341 => ?_)
  · replace hf := iteT c341 hf
    refine V_widen (k2 := K + 8) (s2 := KS + 48) (by omega) (by omega) ?_
    refine V_less (ls' := [some _, some _, some _, some _, some _, none, none]) ⟨rfl, rfl, rfl, rfl, rfl, trivial⟩ ?_
    cases hf
    exact hK _
  · replace hf := iteF c341 hf
    refine V_iconst (v := 0) d_L_law__344 ic_0 ?_
    cases hf
theorem s_L_law__j387 {G : Gl} (hG : G.1.stackTraces = false) {C : Cx} {n b9 K KS : Nat} {μ : Mem} {b9L : Nat} {xs : (Nat → Int32)} {l4 : Int32} (hX9 : ScX G C b9 b9L xs) (hKb : K + 8 ≤ 500000 ∧ KS + 48 ≤ 5000000) {r : Mem} (hf : f_L_law__j387 μ b9L xs l4 = some r) (hK : ∀ n, V G C F_L_law_ 2708 [some (.ref b9), some (.ref (G.2.1 + 0)), some (.ref (G.2.1 + 264)), some (.ref (G.2.1 + 275)), some (.int l4), none, none] [] (pic G r) n (K + 8) (KS + 48)) : V G C F_L_law_ 387 [some (.ref b9), some (.ref (G.2.1 + 0)), some (.ref (G.2.1 + 264)), some (.ref (G.2.1 + 275)), some (.int l4), none, none] [] (pic G μ) n (K + 2) (KS + 12) := by
  unfold f_L_law__j387 at hf
  refine V_goto (tgt := 2708) d_L_law__387 (by decide) ?_
  refine V_widen (k2 := K + 8) (s2 := KS + 48) (by omega) (by omega) ?_
  refine V_less (ls' := [some _, some _, some _, some _, some _, none, none]) ⟨rfl, rfl, rfl, rfl, rfl, trivial⟩ ?_
  cases hf
  exact hK _
theorem s_L_law__j346 {G : Gl} (hG : G.1.stackTraces = false) {C : Cx} {n b9 K KS : Nat} {μ : Mem} {b9L : Nat} {xs : (Nat → Int32)} {l4 : Int32} (hX9 : ScX G C b9 b9L xs) (hKb : K + 8 ≤ 500000 ∧ KS + 48 ≤ 5000000) {r : Mem} (hf : f_L_law__j346 μ b9L xs l4 = some r) (hK : ∀ n, V G C F_L_law_ 2708 [some (.ref b9), some (.ref (G.2.1 + 0)), some (.ref (G.2.1 + 264)), some (.ref (G.2.1 + 275)), some (.int l4), none, none] [] (pic G r) n (K + 8) (KS + 48)) : V G C F_L_law_ 346 [some (.ref b9), some (.ref (G.2.1 + 0)), some (.ref (G.2.1 + 264)), some (.ref (G.2.1 + 275)), some (.int l4), none, none] [] (pic G μ) n (K + 0) (KS + 0) := by
  unfold f_L_law__j346 at hf
  refine V_aload_n d_L_law__346 rfl rfl ?_
  refine V_aload_n d_L_law__347 rfl rfl ?_
  obtain ⟨q1, hq1, hf⟩ := ob hf
  refine B_callSH (s_L_land hG hq1) (kc' := (K + 2)) (ks' := (KS + 12)) m_L_land ks_RL_139 d_L_law__348 rfl (Nat.le_of_ble_eq_true rfl) ⟨rfl, rfl, (show K + 2 ≤ 500000 by omega), (show KS + 12 ≤ 5000000 by omega), Nat.le_of_ble_eq_true rfl⟩ (fun n => ?_)
  refine V_istore (ls' := [_, _, _, _, _, _, _]) d_L_law__351 rfl rfl ?_
  refine V_aload_n d_L_law__353 rfl rfl ?_
  obtain ⟨q2, hq2, hf⟩ := ob hf
  refine B_callV1 (s_X12_land hG hq2) k_264 clX12 m_X12_land kv_RL_144 d_L_law__354 rfl (Nat.le_of_ble_eq_true rfl) ⟨rfl, rfl, (show K + 2 ≤ 500000 by omega), (show KS + 12 ≤ 5000000 by omega), Nat.le_of_ble_eq_true rfl⟩ (fun n => ?_)
  refine V_istore (ls' := [_, _, _, _, _, _, _]) d_L_law__357 rfl rfl ?_
  refine V_aload_n d_L_law__359 rfl rfl ?_
  obtain ⟨t3, ht3, hf⟩ := ob hf
  refine B_callV1 (s_X12_thrown hG ht3) k_264 clX12 m_X12_thrown kv_RL_145 d_L_law__360 rfl (Nat.le_of_ble_eq_true rfl) ⟨rfl, rfl, (show K + 2 ≤ 500000 by omega), (show KS + 12 ≤ 5000000 by omega), Nat.le_of_ble_eq_true rfl⟩ (fun n => ?_)
  refine V_iload d_L_law__363 rfl ?_
  refine V_icmp_eq (tgt := 370) d_L_law__365 (by decide) (fun c365 => ?_) (fun c365 => ?_)
  · replace hf := iteT c365 hf
    refine V_iload d_L_law__370 rfl ?_
    refine V_if_ne (tgt := 387) d_L_law__372 (by decide) (fun c372 => ?_) (fun c372 => ?_)
    · replace hf := iteF c372 hf
      refine V_less (ls' := [some _, some _, some _, some _, some _, none, none]) ⟨rfl, rfl, rfl, rfl, rfl, trivial⟩ ?_
      exact s_L_law__j387 hG hX9 hKb hf hK
    · replace hf := iteT c372 hf
      refine V_aload_n d_L_law__375 rfl rfl ?_
      refine V_iconst (v := 0) d_L_law__376 ic_0 ?_
      obtain ⟨t4, ht4, hf⟩ := ob hf
      refine B_lald k_275 ht4 d_L_law__377 ?_
      refine V_iload d_L_law__378 rfl ?_
      refine V_i2l d_L_law__380 ?_
      refine V_lcmp d_L_law__381 ?_
      refine V_if_eq (tgt := 387) d_L_law__382 (by decide) (fun c382 => ?_) (fun c382 => ?_)
      · replace hf := iteT c382 hf
        refine V_less (ls' := [some _, some _, some _, some _, some _, none, none]) ⟨rfl, rfl, rfl, rfl, rfl, trivial⟩ ?_
        exact s_L_law__j387 hG hX9 hKb hf hK
      · replace hf := iteF c382 hf
        refine V_iconst (v := 0) d_L_law__385 ic_0 ?_
        cases hf
  · replace hf := iteF c365 hf
    refine V_iconst (v := 0) d_L_law__368 ic_0 ?_
    cases hf
theorem s_L_law__j431 {G : Gl} (hG : G.1.stackTraces = false) {C : Cx} {n b9 K KS : Nat} {μ : Mem} {b9L : Nat} {xs : (Nat → Int32)} {l4 : Int32} (hX9 : ScX G C b9 b9L xs) (hKb : K + 8 ≤ 500000 ∧ KS + 48 ≤ 5000000) {r : Mem} (hf : f_L_law__j431 μ b9L xs l4 = some r) (hK : ∀ n, V G C F_L_law_ 2708 [some (.ref b9), some (.ref (G.2.1 + 0)), some (.ref (G.2.1 + 264)), some (.ref (G.2.1 + 275)), some (.int l4), none, none] [] (pic G r) n (K + 8) (KS + 48)) : V G C F_L_law_ 431 [some (.ref b9), some (.ref (G.2.1 + 0)), some (.ref (G.2.1 + 264)), some (.ref (G.2.1 + 275)), some (.int l4), none, none] [] (pic G μ) n (K + 1) (KS + 6) := by
  unfold f_L_law__j431 at hf
  refine V_goto (tgt := 2708) d_L_law__431 (by decide) ?_
  refine V_widen (k2 := K + 8) (s2 := KS + 48) (by omega) (by omega) ?_
  refine V_less (ls' := [some _, some _, some _, some _, some _, none, none]) ⟨rfl, rfl, rfl, rfl, rfl, trivial⟩ ?_
  cases hf
  exact hK _
theorem s_L_law__j390 {G : Gl} (hG : G.1.stackTraces = false) {C : Cx} {n b9 K KS : Nat} {μ : Mem} {b9L : Nat} {xs : (Nat → Int32)} {l4 : Int32} (hX9 : ScX G C b9 b9L xs) (hKb : K + 8 ≤ 500000 ∧ KS + 48 ≤ 5000000) {r : Mem} (hf : f_L_law__j390 μ b9L xs l4 = some r) (hK : ∀ n, V G C F_L_law_ 2708 [some (.ref b9), some (.ref (G.2.1 + 0)), some (.ref (G.2.1 + 264)), some (.ref (G.2.1 + 275)), some (.int l4), none, none] [] (pic G r) n (K + 8) (KS + 48)) : V G C F_L_law_ 390 [some (.ref b9), some (.ref (G.2.1 + 0)), some (.ref (G.2.1 + 264)), some (.ref (G.2.1 + 275)), some (.int l4), none, none] [] (pic G μ) n (K + 0) (KS + 0) := by
  unfold f_L_law__j390 at hf
  refine V_aload_n d_L_law__390 rfl rfl ?_
  refine V_aload_n d_L_law__391 rfl rfl ?_
  obtain ⟨q1, hq1, hf⟩ := ob hf
  refine B_callSH (s_L_law hG hq1) (kc' := (K + 1)) (ks' := (KS + 6)) m_L_law ks_RL_148 d_L_law__392 rfl (Nat.le_of_ble_eq_true rfl) ⟨rfl, rfl, (show K + 1 ≤ 500000 by omega), (show KS + 6 ≤ 5000000 by omega), Nat.le_of_ble_eq_true rfl⟩ (fun n => ?_)
  refine V_istore (ls' := [_, _, _, _, _, _, _]) d_L_law__395 rfl rfl ?_
  refine V_aload_n d_L_law__397 rfl rfl ?_
  obtain ⟨q2, hq2, hf⟩ := ob hf
  refine B_callV1 (s_X12_law hG hq2) k_264 clX12 m_X12_law kv_RL_150 d_L_law__398 rfl (Nat.le_of_ble_eq_true rfl) ⟨rfl, rfl, (show K + 1 ≤ 500000 by omega), (show KS + 6 ≤ 5000000 by omega), Nat.le_of_ble_eq_true rfl⟩ (fun n => ?_)
  refine V_istore (ls' := [_, _, _, _, _, _, _]) d_L_law__401 rfl rfl ?_
  refine V_aload_n d_L_law__403 rfl rfl ?_
  obtain ⟨t3, ht3, hf⟩ := ob hf
  refine B_callV1 (s_X12_thrown hG ht3) k_264 clX12 m_X12_thrown kv_RL_145 d_L_law__404 rfl (Nat.le_of_ble_eq_true rfl) ⟨rfl, rfl, (show K + 1 ≤ 500000 by omega), (show KS + 6 ≤ 5000000 by omega), Nat.le_of_ble_eq_true rfl⟩ (fun n => ?_)
  refine V_iload d_L_law__407 rfl ?_
  refine V_icmp_eq (tgt := 414) d_L_law__409 (by decide) (fun c409 => ?_) (fun c409 => ?_)
  · replace hf := iteT c409 hf
    refine V_iload d_L_law__414 rfl ?_
    refine V_if_ne (tgt := 431) d_L_law__416 (by decide) (fun c416 => ?_) (fun c416 => ?_)
    · replace hf := iteF c416 hf
      refine V_less (ls' := [some _, some _, some _, some _, some _, none, none]) ⟨rfl, rfl, rfl, rfl, rfl, trivial⟩ ?_
      exact s_L_law__j431 hG hX9 hKb hf hK
    · replace hf := iteT c416 hf
      refine V_aload_n d_L_law__419 rfl rfl ?_
      refine V_iconst (v := 0) d_L_law__420 ic_0 ?_
      obtain ⟨t4, ht4, hf⟩ := ob hf
      refine B_lald k_275 ht4 d_L_law__421 ?_
      refine V_iload d_L_law__422 rfl ?_
      refine V_i2l d_L_law__424 ?_
      refine V_lcmp d_L_law__425 ?_
      refine V_if_eq (tgt := 431) d_L_law__426 (by decide) (fun c426 => ?_) (fun c426 => ?_)
      · replace hf := iteT c426 hf
        refine V_less (ls' := [some _, some _, some _, some _, some _, none, none]) ⟨rfl, rfl, rfl, rfl, rfl, trivial⟩ ?_
        exact s_L_law__j431 hG hX9 hKb hf hK
      · replace hf := iteF c426 hf
        refine V_iconst (v := 0) d_L_law__429 ic_0 ?_
        cases hf
  · replace hf := iteF c409 hf
    refine V_iconst (v := 0) d_L_law__412 ic_0 ?_
    cases hf
theorem s_L_law__j434 {G : Gl} (hG : G.1.stackTraces = false) {C : Cx} {n b9 K KS : Nat} {μ : Mem} {b9L : Nat} {xs : (Nat → Int32)} {l4 : Int32} (hX9 : ScX G C b9 b9L xs) (hKb : K + 8 ≤ 500000 ∧ KS + 48 ≤ 5000000) {r : Mem} (hf : f_L_law__j434 μ b9L xs l4 = some r) (hK : ∀ n, V G C F_L_law_ 2708 [some (.ref b9), some (.ref (G.2.1 + 0)), some (.ref (G.2.1 + 264)), some (.ref (G.2.1 + 275)), some (.int l4), none, none] [] (pic G r) n (K + 8) (KS + 48)) : V G C F_L_law_ 434 [some (.ref b9), some (.ref (G.2.1 + 0)), some (.ref (G.2.1 + 264)), some (.ref (G.2.1 + 275)), some (.int l4), none, none] [] (pic G μ) n (K + 0) (KS + 0) := by
  unfold f_L_law__j434 at hf
  refine V_aload_n d_L_law__434 rfl rfl ?_
  obtain ⟨t1, ht1, hf⟩ := ob hf
  refine B_callV1 (s_X11_fault hG ht1) k_0 clX11 m_X11_fault kv_RL_151 d_L_law__435 rfl (Nat.le_of_ble_eq_true rfl) ⟨rfl, rfl, (show K + 0 ≤ 500000 by omega), (show KS + 0 ≤ 5000000 by omega), Nat.le_of_ble_eq_true rfl⟩ (fun n => ?_)
  refine V_aload_n d_L_law__438 rfl rfl ?_
  obtain ⟨q2, hq2, hf⟩ := ob hf
  refine B_callV1 (s_X12_fault hG hq2) k_264 clX12 m_X12_fault kv_RL_154 d_L_law__439 rfl (Nat.le_of_ble_eq_true rfl) ⟨rfl, rfl, (show K + 0 ≤ 500000 by omega), (show KS + 0 ≤ 5000000 by omega), Nat.le_of_ble_eq_true rfl⟩ (fun n => ?_)
  refine V_icmp_eq (tgt := 2708) d_L_law__442 (by decide) (fun c442 => ?_) (fun c442 => ?_)
  · replace hf := iteT c442 hf
    refine V_widen (k2 := K + 8) (s2 := KS + 48) (by omega) (by omega) ?_
    refine V_less (ls' := [some _, some _, some _, some _, some _, none, none]) ⟨rfl, rfl, rfl, rfl, rfl, trivial⟩ ?_
    cases hf
    exact hK _
  · replace hf := iteF c442 hf
    refine V_iconst (v := 0) d_L_law__445 ic_0 ?_
    cases hf
theorem s_L_law__j512 {G : Gl} (hG : G.1.stackTraces = false) {C : Cx} {n b9 K KS : Nat} {μ : Mem} {b9L : Nat} {xs : (Nat → Int32)} {l4 : Int32} (hX9 : ScX G C b9 b9L xs) (hKb : K + 8 ≤ 500000 ∧ KS + 48 ≤ 5000000) {r : Mem} (hf : f_L_law__j512 μ b9L xs l4 = some r) (hK : ∀ n, V G C F_L_law_ 2708 [some (.ref b9), some (.ref (G.2.1 + 0)), some (.ref (G.2.1 + 264)), some (.ref (G.2.1 + 275)), some (.int l4), none, none] [] (pic G r) n (K + 8) (KS + 48)) : V G C F_L_law_ 512 [some (.ref b9), some (.ref (G.2.1 + 0)), some (.ref (G.2.1 + 264)), some (.ref (G.2.1 + 275)), some (.int l4), none, none] [] (pic G μ) n (K + 2) (KS + 12) := by
  unfold f_L_law__j512 at hf
  refine V_goto (tgt := 2708) d_L_law__512 (by decide) ?_
  refine V_widen (k2 := K + 8) (s2 := KS + 48) (by omega) (by omega) ?_
  refine V_less (ls' := [some _, some _, some _, some _, some _, none, none]) ⟨rfl, rfl, rfl, rfl, rfl, trivial⟩ ?_
  cases hf
  exact hK _
theorem s_L_law__j447 {G : Gl} (hG : G.1.stackTraces = false) {C : Cx} {n b9 K KS : Nat} {μ : Mem} {b9L : Nat} {xs : (Nat → Int32)} {l4 : Int32} (hX9 : ScX G C b9 b9L xs) (hKb : K + 8 ≤ 500000 ∧ KS + 48 ≤ 5000000) {r : Mem} (hf : f_L_law__j447 μ b9L xs l4 = some r) (hK : ∀ n, V G C F_L_law_ 2708 [some (.ref b9), some (.ref (G.2.1 + 0)), some (.ref (G.2.1 + 264)), some (.ref (G.2.1 + 275)), some (.int l4), none, none] [] (pic G r) n (K + 8) (KS + 48)) : V G C F_L_law_ 447 [some (.ref b9), some (.ref (G.2.1 + 0)), some (.ref (G.2.1 + 264)), some (.ref (G.2.1 + 275)), some (.int l4), none, none] [] (pic G μ) n (K + 0) (KS + 0) := by
  unfold f_L_law__j447 at hf
  refine V_aload_n d_L_law__447 rfl rfl ?_
  refine V_aload_n d_L_law__448 rfl rfl ?_
  refine V_iload d_L_law__449 rfl ?_
  refine V_iconst (v := 1) d_L_law__451 ic_1 ?_
  refine V_iadd d_L_law__452 ?_
  obtain ⟨t1, ht1, hf⟩ := ob hf
  refine V_sld hX9 ht1 d_L_law__453 ?_
  refine V_aload_n d_L_law__454 rfl rfl ?_
  refine V_iload d_L_law__455 rfl ?_
  refine V_iconst (v := 2) d_L_law__457 ic_2 ?_
  refine V_iadd d_L_law__458 ?_
  obtain ⟨t2, ht2, hf⟩ := ob hf
  refine V_sld hX9 ht2 d_L_law__459 ?_
  refine V_aload_n d_L_law__460 rfl rfl ?_
  obtain ⟨q3, hq3, hf⟩ := ob hf
  refine B_callSH (s_L_person hG hq3) (kc' := (K + 2)) (ks' := (KS + 12)) m_L_person ks_RL_155 d_L_law__461 rfl (Nat.le_of_ble_eq_true rfl) ⟨rfl, rfl, (show K + 2 ≤ 500000 by omega), (show KS + 12 ≤ 5000000 by omega), Nat.le_of_ble_eq_true rfl⟩ (fun n => ?_)
  refine V_istore (ls' := [_, _, _, _, _, _, _]) d_L_law__464 rfl rfl ?_
  refine V_aload_n d_L_law__466 rfl rfl ?_
  refine V_aload_n d_L_law__467 rfl rfl ?_
  refine V_iload d_L_law__468 rfl ?_
  refine V_iconst (v := 1) d_L_law__470 ic_1 ?_
  refine V_iadd d_L_law__471 ?_
  obtain ⟨t4, ht4, hf⟩ := ob hf
  refine V_sld hX9 ht4 d_L_law__472 ?_
  refine V_aload_n d_L_law__473 rfl rfl ?_
  refine V_iload d_L_law__474 rfl ?_
  refine V_iconst (v := 2) d_L_law__476 ic_2 ?_
  refine V_iadd d_L_law__477 ?_
  obtain ⟨t5, ht5, hf⟩ := ob hf
  refine V_sld hX9 ht5 d_L_law__478 ?_
  obtain ⟨q6, hq6, hf⟩ := ob hf
  refine B_callV1 (s_X12_person hG hq6) k_264 clX12 m_X12_person kv_RL_158 d_L_law__479 rfl (Nat.le_of_ble_eq_true rfl) ⟨rfl, rfl, (show K + 2 ≤ 500000 by omega), (show KS + 12 ≤ 5000000 by omega), Nat.le_of_ble_eq_true rfl⟩ (fun n => ?_)
  refine V_istore (ls' := [_, _, _, _, _, _, _]) d_L_law__482 rfl rfl ?_
  refine V_aload_n d_L_law__484 rfl rfl ?_
  obtain ⟨t7, ht7, hf⟩ := ob hf
  refine B_callV1 (s_X12_thrown hG ht7) k_264 clX12 m_X12_thrown kv_RL_145 d_L_law__485 rfl (Nat.le_of_ble_eq_true rfl) ⟨rfl, rfl, (show K + 2 ≤ 500000 by omega), (show KS + 12 ≤ 5000000 by omega), Nat.le_of_ble_eq_true rfl⟩ (fun n => ?_)
  refine V_iload d_L_law__488 rfl ?_
  refine V_icmp_eq (tgt := 495) d_L_law__490 (by decide) (fun c490 => ?_) (fun c490 => ?_)
  · replace hf := iteT c490 hf
    refine V_iload d_L_law__495 rfl ?_
    refine V_if_ne (tgt := 512) d_L_law__497 (by decide) (fun c497 => ?_) (fun c497 => ?_)
    · replace hf := iteF c497 hf
      refine V_less (ls' := [some _, some _, some _, some _, some _, none, none]) ⟨rfl, rfl, rfl, rfl, rfl, trivial⟩ ?_
      exact s_L_law__j512 hG hX9 hKb hf hK
    · replace hf := iteT c497 hf
      refine V_aload_n d_L_law__500 rfl rfl ?_
      refine V_iconst (v := 0) d_L_law__501 ic_0 ?_
      obtain ⟨t8, ht8, hf⟩ := ob hf
      refine B_lald k_275 ht8 d_L_law__502 ?_
      refine V_iload d_L_law__503 rfl ?_
      refine V_i2l d_L_law__505 ?_
      refine V_lcmp d_L_law__506 ?_
      refine V_if_eq (tgt := 512) d_L_law__507 (by decide) (fun c507 => ?_) (fun c507 => ?_)
      · replace hf := iteT c507 hf
        refine V_less (ls' := [some _, some _, some _, some _, some _, none, none]) ⟨rfl, rfl, rfl, rfl, rfl, trivial⟩ ?_
        exact s_L_law__j512 hG hX9 hKb hf hK
      · replace hf := iteF c507 hf
        refine V_iconst (v := 0) d_L_law__510 ic_0 ?_
        cases hf
  · replace hf := iteF c490 hf
    refine V_iconst (v := 0) d_L_law__493 ic_0 ?_
    cases hf
theorem s_L_law__j580 {G : Gl} (hG : G.1.stackTraces = false) {C : Cx} {n b9 K KS : Nat} {μ : Mem} {b9L : Nat} {xs : (Nat → Int32)} {l4 : Int32} (hX9 : ScX G C b9 b9L xs) (hKb : K + 8 ≤ 500000 ∧ KS + 48 ≤ 5000000) {r : Mem} (hf : f_L_law__j580 μ b9L xs l4 = some r) (hK : ∀ n, V G C F_L_law_ 2708 [some (.ref b9), some (.ref (G.2.1 + 0)), some (.ref (G.2.1 + 264)), some (.ref (G.2.1 + 275)), some (.int l4), none, none] [] (pic G r) n (K + 8) (KS + 48)) : V G C F_L_law_ 580 [some (.ref b9), some (.ref (G.2.1 + 0)), some (.ref (G.2.1 + 264)), some (.ref (G.2.1 + 275)), some (.int l4), none, none] [] (pic G μ) n (K + 2) (KS + 12) := by
  unfold f_L_law__j580 at hf
  refine V_goto (tgt := 2708) d_L_law__580 (by decide) ?_
  refine V_widen (k2 := K + 8) (s2 := KS + 48) (by omega) (by omega) ?_
  refine V_less (ls' := [some _, some _, some _, some _, some _, none, none]) ⟨rfl, rfl, rfl, rfl, rfl, trivial⟩ ?_
  cases hf
  exact hK _
theorem s_L_law__j515 {G : Gl} (hG : G.1.stackTraces = false) {C : Cx} {n b9 K KS : Nat} {μ : Mem} {b9L : Nat} {xs : (Nat → Int32)} {l4 : Int32} (hX9 : ScX G C b9 b9L xs) (hKb : K + 8 ≤ 500000 ∧ KS + 48 ≤ 5000000) {r : Mem} (hf : f_L_law__j515 μ b9L xs l4 = some r) (hK : ∀ n, V G C F_L_law_ 2708 [some (.ref b9), some (.ref (G.2.1 + 0)), some (.ref (G.2.1 + 264)), some (.ref (G.2.1 + 275)), some (.int l4), none, none] [] (pic G r) n (K + 8) (KS + 48)) : V G C F_L_law_ 515 [some (.ref b9), some (.ref (G.2.1 + 0)), some (.ref (G.2.1 + 264)), some (.ref (G.2.1 + 275)), some (.int l4), none, none] [] (pic G μ) n (K + 0) (KS + 0) := by
  unfold f_L_law__j515 at hf
  refine V_aload_n d_L_law__515 rfl rfl ?_
  refine V_aload_n d_L_law__516 rfl rfl ?_
  refine V_iload d_L_law__517 rfl ?_
  refine V_iconst (v := 1) d_L_law__519 ic_1 ?_
  refine V_iadd d_L_law__520 ?_
  obtain ⟨t1, ht1, hf⟩ := ob hf
  refine V_sld hX9 ht1 d_L_law__521 ?_
  refine V_aload_n d_L_law__522 rfl rfl ?_
  refine V_iload d_L_law__523 rfl ?_
  refine V_iconst (v := 2) d_L_law__525 ic_2 ?_
  refine V_iadd d_L_law__526 ?_
  obtain ⟨t2, ht2, hf⟩ := ob hf
  refine V_sld hX9 ht2 d_L_law__527 ?_
  refine V_aload_n d_L_law__528 rfl rfl ?_
  obtain ⟨q3, hq3, hf⟩ := ob hf
  refine B_callSH (s_L_lace hG hq3) (kc' := (K + 2)) (ks' := (KS + 12)) m_L_lace ks_RL_159 d_L_law__529 rfl (Nat.le_of_ble_eq_true rfl) ⟨rfl, rfl, (show K + 2 ≤ 500000 by omega), (show KS + 12 ≤ 5000000 by omega), Nat.le_of_ble_eq_true rfl⟩ (fun n => ?_)
  refine V_istore (ls' := [_, _, _, _, _, _, _]) d_L_law__532 rfl rfl ?_
  refine V_aload_n d_L_law__534 rfl rfl ?_
  refine V_aload_n d_L_law__535 rfl rfl ?_
  refine V_iload d_L_law__536 rfl ?_
  refine V_iconst (v := 1) d_L_law__538 ic_1 ?_
  refine V_iadd d_L_law__539 ?_
  obtain ⟨t4, ht4, hf⟩ := ob hf
  refine V_sld hX9 ht4 d_L_law__540 ?_
  refine V_aload_n d_L_law__541 rfl rfl ?_
  refine V_iload d_L_law__542 rfl ?_
  refine V_iconst (v := 2) d_L_law__544 ic_2 ?_
  refine V_iadd d_L_law__545 ?_
  obtain ⟨t5, ht5, hf⟩ := ob hf
  refine V_sld hX9 ht5 d_L_law__546 ?_
  obtain ⟨q6, hq6, hf⟩ := ob hf
  refine B_callV1 (s_X12_lace hG hq6) k_264 clX12 m_X12_lace kv_RL_161 d_L_law__547 rfl (Nat.le_of_ble_eq_true rfl) ⟨rfl, rfl, (show K + 2 ≤ 500000 by omega), (show KS + 12 ≤ 5000000 by omega), Nat.le_of_ble_eq_true rfl⟩ (fun n => ?_)
  refine V_istore (ls' := [_, _, _, _, _, _, _]) d_L_law__550 rfl rfl ?_
  refine V_aload_n d_L_law__552 rfl rfl ?_
  obtain ⟨t7, ht7, hf⟩ := ob hf
  refine B_callV1 (s_X12_thrown hG ht7) k_264 clX12 m_X12_thrown kv_RL_145 d_L_law__553 rfl (Nat.le_of_ble_eq_true rfl) ⟨rfl, rfl, (show K + 2 ≤ 500000 by omega), (show KS + 12 ≤ 5000000 by omega), Nat.le_of_ble_eq_true rfl⟩ (fun n => ?_)
  refine V_iload d_L_law__556 rfl ?_
  refine V_icmp_eq (tgt := 563) d_L_law__558 (by decide) (fun c558 => ?_) (fun c558 => ?_)
  · replace hf := iteT c558 hf
    refine V_iload d_L_law__563 rfl ?_
    refine V_if_ne (tgt := 580) d_L_law__565 (by decide) (fun c565 => ?_) (fun c565 => ?_)
    · replace hf := iteF c565 hf
      refine V_less (ls' := [some _, some _, some _, some _, some _, none, none]) ⟨rfl, rfl, rfl, rfl, rfl, trivial⟩ ?_
      exact s_L_law__j580 hG hX9 hKb hf hK
    · replace hf := iteT c565 hf
      refine V_aload_n d_L_law__568 rfl rfl ?_
      refine V_iconst (v := 0) d_L_law__569 ic_0 ?_
      obtain ⟨t8, ht8, hf⟩ := ob hf
      refine B_lald k_275 ht8 d_L_law__570 ?_
      refine V_iload d_L_law__571 rfl ?_
      refine V_i2l d_L_law__573 ?_
      refine V_lcmp d_L_law__574 ?_
      refine V_if_eq (tgt := 580) d_L_law__575 (by decide) (fun c575 => ?_) (fun c575 => ?_)
      · replace hf := iteT c575 hf
        refine V_less (ls' := [some _, some _, some _, some _, some _, none, none]) ⟨rfl, rfl, rfl, rfl, rfl, trivial⟩ ?_
        exact s_L_law__j580 hG hX9 hKb hf hK
      · replace hf := iteF c575 hf
        refine V_iconst (v := 0) d_L_law__578 ic_0 ?_
        cases hf
  · replace hf := iteF c558 hf
    refine V_iconst (v := 0) d_L_law__561 ic_0 ?_
    cases hf
theorem s_L_law__j636 {G : Gl} (hG : G.1.stackTraces = false) {C : Cx} {n b9 K KS : Nat} {μ : Mem} {b9L : Nat} {xs : (Nat → Int32)} {l4 : Int32} (hX9 : ScX G C b9 b9L xs) (hKb : K + 8 ≤ 500000 ∧ KS + 48 ≤ 5000000) {r : Mem} (hf : f_L_law__j636 μ b9L xs l4 = some r) (hK : ∀ n, V G C F_L_law_ 2708 [some (.ref b9), some (.ref (G.2.1 + 0)), some (.ref (G.2.1 + 264)), some (.ref (G.2.1 + 275)), some (.int l4), none, none] [] (pic G r) n (K + 8) (KS + 48)) : V G C F_L_law_ 636 [some (.ref b9), some (.ref (G.2.1 + 0)), some (.ref (G.2.1 + 264)), some (.ref (G.2.1 + 275)), some (.int l4), none, none] [] (pic G μ) n (K + 1) (KS + 6) := by
  unfold f_L_law__j636 at hf
  refine V_goto (tgt := 2708) d_L_law__636 (by decide) ?_
  refine V_widen (k2 := K + 8) (s2 := KS + 48) (by omega) (by omega) ?_
  refine V_less (ls' := [some _, some _, some _, some _, some _, none, none]) ⟨rfl, rfl, rfl, rfl, rfl, trivial⟩ ?_
  cases hf
  exact hK _
theorem s_L_law__j583 {G : Gl} (hG : G.1.stackTraces = false) {C : Cx} {n b9 K KS : Nat} {μ : Mem} {b9L : Nat} {xs : (Nat → Int32)} {l4 : Int32} (hX9 : ScX G C b9 b9L xs) (hKb : K + 8 ≤ 500000 ∧ KS + 48 ≤ 5000000) {r : Mem} (hf : f_L_law__j583 μ b9L xs l4 = some r) (hK : ∀ n, V G C F_L_law_ 2708 [some (.ref b9), some (.ref (G.2.1 + 0)), some (.ref (G.2.1 + 264)), some (.ref (G.2.1 + 275)), some (.int l4), none, none] [] (pic G r) n (K + 8) (KS + 48)) : V G C F_L_law_ 583 [some (.ref b9), some (.ref (G.2.1 + 0)), some (.ref (G.2.1 + 264)), some (.ref (G.2.1 + 275)), some (.int l4), none, none] [] (pic G μ) n (K + 0) (KS + 0) := by
  unfold f_L_law__j583 at hf
  refine V_aload_n d_L_law__583 rfl rfl ?_
  refine V_aload_n d_L_law__584 rfl rfl ?_
  refine V_iload d_L_law__585 rfl ?_
  refine V_iconst (v := 1) d_L_law__587 ic_1 ?_
  refine V_iadd d_L_law__588 ?_
  obtain ⟨t1, ht1, hf⟩ := ob hf
  refine V_sld hX9 ht1 d_L_law__589 ?_
  refine V_aload_n d_L_law__590 rfl rfl ?_
  obtain ⟨q2, hq2, hf⟩ := ob hf
  refine B_callSH (s_L_mud hG hq2) (kc' := (K + 1)) (ks' := (KS + 6)) m_L_mud ks_RL_162 d_L_law__591 rfl (Nat.le_of_ble_eq_true rfl) ⟨rfl, rfl, (show K + 1 ≤ 500000 by omega), (show KS + 6 ≤ 5000000 by omega), Nat.le_of_ble_eq_true rfl⟩ (fun n => ?_)
  refine V_istore (ls' := [_, _, _, _, _, _, _]) d_L_law__594 rfl rfl ?_
  refine V_aload_n d_L_law__596 rfl rfl ?_
  refine V_aload_n d_L_law__597 rfl rfl ?_
  refine V_iload d_L_law__598 rfl ?_
  refine V_iconst (v := 1) d_L_law__600 ic_1 ?_
  refine V_iadd d_L_law__601 ?_
  obtain ⟨t3, ht3, hf⟩ := ob hf
  refine V_sld hX9 ht3 d_L_law__602 ?_
  obtain ⟨q4, hq4, hf⟩ := ob hf
  refine B_callV1 (s_X12_mud hG hq4) k_264 clX12 m_X12_mud kv_RL_165 d_L_law__603 rfl (Nat.le_of_ble_eq_true rfl) ⟨rfl, rfl, (show K + 1 ≤ 500000 by omega), (show KS + 6 ≤ 5000000 by omega), Nat.le_of_ble_eq_true rfl⟩ (fun n => ?_)
  refine V_istore (ls' := [_, _, _, _, _, _, _]) d_L_law__606 rfl rfl ?_
  refine V_aload_n d_L_law__608 rfl rfl ?_
  obtain ⟨t5, ht5, hf⟩ := ob hf
  refine B_callV1 (s_X12_thrown hG ht5) k_264 clX12 m_X12_thrown kv_RL_145 d_L_law__609 rfl (Nat.le_of_ble_eq_true rfl) ⟨rfl, rfl, (show K + 1 ≤ 500000 by omega), (show KS + 6 ≤ 5000000 by omega), Nat.le_of_ble_eq_true rfl⟩ (fun n => ?_)
  refine V_iload d_L_law__612 rfl ?_
  refine V_icmp_eq (tgt := 619) d_L_law__614 (by decide) (fun c614 => ?_) (fun c614 => ?_)
  · replace hf := iteT c614 hf
    refine V_iload d_L_law__619 rfl ?_
    refine V_if_ne (tgt := 636) d_L_law__621 (by decide) (fun c621 => ?_) (fun c621 => ?_)
    · replace hf := iteF c621 hf
      refine V_less (ls' := [some _, some _, some _, some _, some _, none, none]) ⟨rfl, rfl, rfl, rfl, rfl, trivial⟩ ?_
      exact s_L_law__j636 hG hX9 hKb hf hK
    · replace hf := iteT c621 hf
      refine V_aload_n d_L_law__624 rfl rfl ?_
      refine V_iconst (v := 0) d_L_law__625 ic_0 ?_
      obtain ⟨t6, ht6, hf⟩ := ob hf
      refine B_lald k_275 ht6 d_L_law__626 ?_
      refine V_iload d_L_law__627 rfl ?_
      refine V_i2l d_L_law__629 ?_
      refine V_lcmp d_L_law__630 ?_
      refine V_if_eq (tgt := 636) d_L_law__631 (by decide) (fun c631 => ?_) (fun c631 => ?_)
      · replace hf := iteT c631 hf
        refine V_less (ls' := [some _, some _, some _, some _, some _, none, none]) ⟨rfl, rfl, rfl, rfl, rfl, trivial⟩ ?_
        exact s_L_law__j636 hG hX9 hKb hf hK
      · replace hf := iteF c631 hf
        refine V_iconst (v := 0) d_L_law__634 ic_0 ?_
        cases hf
  · replace hf := iteF c614 hf
    refine V_iconst (v := 0) d_L_law__617 ic_0 ?_
    cases hf
theorem s_L_law__j704 {G : Gl} (hG : G.1.stackTraces = false) {C : Cx} {n b9 K KS : Nat} {μ : Mem} {b9L : Nat} {xs : (Nat → Int32)} {l4 : Int32} (hX9 : ScX G C b9 b9L xs) (hKb : K + 8 ≤ 500000 ∧ KS + 48 ≤ 5000000) {r : Mem} (hf : f_L_law__j704 μ b9L xs l4 = some r) (hK : ∀ n, V G C F_L_law_ 2708 [some (.ref b9), some (.ref (G.2.1 + 0)), some (.ref (G.2.1 + 264)), some (.ref (G.2.1 + 275)), some (.int l4), none, none] [] (pic G r) n (K + 8) (KS + 48)) : V G C F_L_law_ 704 [some (.ref b9), some (.ref (G.2.1 + 0)), some (.ref (G.2.1 + 264)), some (.ref (G.2.1 + 275)), some (.int l4), none, none] [] (pic G μ) n (K + 2) (KS + 12) := by
  unfold f_L_law__j704 at hf
  refine V_goto (tgt := 2708) d_L_law__704 (by decide) ?_
  refine V_widen (k2 := K + 8) (s2 := KS + 48) (by omega) (by omega) ?_
  refine V_less (ls' := [some _, some _, some _, some _, some _, none, none]) ⟨rfl, rfl, rfl, rfl, rfl, trivial⟩ ?_
  cases hf
  exact hK _
theorem s_L_law__j639 {G : Gl} (hG : G.1.stackTraces = false) {C : Cx} {n b9 K KS : Nat} {μ : Mem} {b9L : Nat} {xs : (Nat → Int32)} {l4 : Int32} (hX9 : ScX G C b9 b9L xs) (hKb : K + 8 ≤ 500000 ∧ KS + 48 ≤ 5000000) {r : Mem} (hf : f_L_law__j639 μ b9L xs l4 = some r) (hK : ∀ n, V G C F_L_law_ 2708 [some (.ref b9), some (.ref (G.2.1 + 0)), some (.ref (G.2.1 + 264)), some (.ref (G.2.1 + 275)), some (.int l4), none, none] [] (pic G r) n (K + 8) (KS + 48)) : V G C F_L_law_ 639 [some (.ref b9), some (.ref (G.2.1 + 0)), some (.ref (G.2.1 + 264)), some (.ref (G.2.1 + 275)), some (.int l4), none, none] [] (pic G μ) n (K + 0) (KS + 0) := by
  unfold f_L_law__j639 at hf
  refine V_aload_n d_L_law__639 rfl rfl ?_
  refine V_aload_n d_L_law__640 rfl rfl ?_
  refine V_iload d_L_law__641 rfl ?_
  refine V_iconst (v := 1) d_L_law__643 ic_1 ?_
  refine V_iadd d_L_law__644 ?_
  obtain ⟨t1, ht1, hf⟩ := ob hf
  refine V_sld hX9 ht1 d_L_law__645 ?_
  refine V_aload_n d_L_law__646 rfl rfl ?_
  refine V_iload d_L_law__647 rfl ?_
  refine V_iconst (v := 2) d_L_law__649 ic_2 ?_
  refine V_iadd d_L_law__650 ?_
  obtain ⟨t2, ht2, hf⟩ := ob hf
  refine V_sld hX9 ht2 d_L_law__651 ?_
  refine V_aload_n d_L_law__652 rfl rfl ?_
  obtain ⟨q3, hq3, hf⟩ := ob hf
  refine B_callSH (s_L_walks hG hq3) (kc' := (K + 2)) (ks' := (KS + 12)) m_L_walks ks_RL_166 d_L_law__653 rfl (Nat.le_of_ble_eq_true rfl) ⟨rfl, rfl, (show K + 2 ≤ 500000 by omega), (show KS + 12 ≤ 5000000 by omega), Nat.le_of_ble_eq_true rfl⟩ (fun n => ?_)
  refine V_istore (ls' := [_, _, _, _, _, _, _]) d_L_law__656 rfl rfl ?_
  refine V_aload_n d_L_law__658 rfl rfl ?_
  refine V_aload_n d_L_law__659 rfl rfl ?_
  refine V_iload d_L_law__660 rfl ?_
  refine V_iconst (v := 1) d_L_law__662 ic_1 ?_
  refine V_iadd d_L_law__663 ?_
  obtain ⟨t4, ht4, hf⟩ := ob hf
  refine V_sld hX9 ht4 d_L_law__664 ?_
  refine V_aload_n d_L_law__665 rfl rfl ?_
  refine V_iload d_L_law__666 rfl ?_
  refine V_iconst (v := 2) d_L_law__668 ic_2 ?_
  refine V_iadd d_L_law__669 ?_
  obtain ⟨t5, ht5, hf⟩ := ob hf
  refine V_sld hX9 ht5 d_L_law__670 ?_
  obtain ⟨q6, hq6, hf⟩ := ob hf
  refine B_callV1 (s_X12_walks hG hq6) k_264 clX12 m_X12_walks kv_RL_168 d_L_law__671 rfl (Nat.le_of_ble_eq_true rfl) ⟨rfl, rfl, (show K + 2 ≤ 500000 by omega), (show KS + 12 ≤ 5000000 by omega), Nat.le_of_ble_eq_true rfl⟩ (fun n => ?_)
  refine V_istore (ls' := [_, _, _, _, _, _, _]) d_L_law__674 rfl rfl ?_
  refine V_aload_n d_L_law__676 rfl rfl ?_
  obtain ⟨t7, ht7, hf⟩ := ob hf
  refine B_callV1 (s_X12_thrown hG ht7) k_264 clX12 m_X12_thrown kv_RL_145 d_L_law__677 rfl (Nat.le_of_ble_eq_true rfl) ⟨rfl, rfl, (show K + 2 ≤ 500000 by omega), (show KS + 12 ≤ 5000000 by omega), Nat.le_of_ble_eq_true rfl⟩ (fun n => ?_)
  refine V_iload d_L_law__680 rfl ?_
  refine V_icmp_eq (tgt := 687) d_L_law__682 (by decide) (fun c682 => ?_) (fun c682 => ?_)
  · replace hf := iteT c682 hf
    refine V_iload d_L_law__687 rfl ?_
    refine V_if_ne (tgt := 704) d_L_law__689 (by decide) (fun c689 => ?_) (fun c689 => ?_)
    · replace hf := iteF c689 hf
      refine V_less (ls' := [some _, some _, some _, some _, some _, none, none]) ⟨rfl, rfl, rfl, rfl, rfl, trivial⟩ ?_
      exact s_L_law__j704 hG hX9 hKb hf hK
    · replace hf := iteT c689 hf
      refine V_aload_n d_L_law__692 rfl rfl ?_
      refine V_iconst (v := 0) d_L_law__693 ic_0 ?_
      obtain ⟨t8, ht8, hf⟩ := ob hf
      refine B_lald k_275 ht8 d_L_law__694 ?_
      refine V_iload d_L_law__695 rfl ?_
      refine V_i2l d_L_law__697 ?_
      refine V_lcmp d_L_law__698 ?_
      refine V_if_eq (tgt := 704) d_L_law__699 (by decide) (fun c699 => ?_) (fun c699 => ?_)
      · replace hf := iteT c699 hf
        refine V_less (ls' := [some _, some _, some _, some _, some _, none, none]) ⟨rfl, rfl, rfl, rfl, rfl, trivial⟩ ?_
        exact s_L_law__j704 hG hX9 hKb hf hK
      · replace hf := iteF c699 hf
        refine V_iconst (v := 0) d_L_law__702 ic_0 ?_
        cases hf
  · replace hf := iteF c682 hf
    refine V_iconst (v := 0) d_L_law__685 ic_0 ?_
    cases hf
theorem s_L_law__j760 {G : Gl} (hG : G.1.stackTraces = false) {C : Cx} {n b9 K KS : Nat} {μ : Mem} {b9L : Nat} {xs : (Nat → Int32)} {l4 : Int32} (hX9 : ScX G C b9 b9L xs) (hKb : K + 8 ≤ 500000 ∧ KS + 48 ≤ 5000000) {r : Mem} (hf : f_L_law__j760 μ b9L xs l4 = some r) (hK : ∀ n, V G C F_L_law_ 2708 [some (.ref b9), some (.ref (G.2.1 + 0)), some (.ref (G.2.1 + 264)), some (.ref (G.2.1 + 275)), some (.int l4), none, none] [] (pic G r) n (K + 8) (KS + 48)) : V G C F_L_law_ 760 [some (.ref b9), some (.ref (G.2.1 + 0)), some (.ref (G.2.1 + 264)), some (.ref (G.2.1 + 275)), some (.int l4), none, none] [] (pic G μ) n (K + 1) (KS + 6) := by
  unfold f_L_law__j760 at hf
  refine V_goto (tgt := 2708) d_L_law__760 (by decide) ?_
  refine V_widen (k2 := K + 8) (s2 := KS + 48) (by omega) (by omega) ?_
  refine V_less (ls' := [some _, some _, some _, some _, some _, none, none]) ⟨rfl, rfl, rfl, rfl, rfl, trivial⟩ ?_
  cases hf
  exact hK _
theorem s_L_law__j707 {G : Gl} (hG : G.1.stackTraces = false) {C : Cx} {n b9 K KS : Nat} {μ : Mem} {b9L : Nat} {xs : (Nat → Int32)} {l4 : Int32} (hX9 : ScX G C b9 b9L xs) (hKb : K + 8 ≤ 500000 ∧ KS + 48 ≤ 5000000) {r : Mem} (hf : f_L_law__j707 μ b9L xs l4 = some r) (hK : ∀ n, V G C F_L_law_ 2708 [some (.ref b9), some (.ref (G.2.1 + 0)), some (.ref (G.2.1 + 264)), some (.ref (G.2.1 + 275)), some (.int l4), none, none] [] (pic G r) n (K + 8) (KS + 48)) : V G C F_L_law_ 707 [some (.ref b9), some (.ref (G.2.1 + 0)), some (.ref (G.2.1 + 264)), some (.ref (G.2.1 + 275)), some (.int l4), none, none] [] (pic G μ) n (K + 0) (KS + 0) := by
  unfold f_L_law__j707 at hf
  refine V_aload_n d_L_law__707 rfl rfl ?_
  refine V_aload_n d_L_law__708 rfl rfl ?_
  refine V_iload d_L_law__709 rfl ?_
  refine V_iconst (v := 1) d_L_law__711 ic_1 ?_
  refine V_iadd d_L_law__712 ?_
  obtain ⟨t1, ht1, hf⟩ := ob hf
  refine V_sld hX9 ht1 d_L_law__713 ?_
  refine V_aload_n d_L_law__714 rfl rfl ?_
  obtain ⟨q2, hq2, hf⟩ := ob hf
  refine B_callSH (s_L_grows hG hq2) (kc' := (K + 1)) (ks' := (KS + 6)) m_L_grows ks_RL_169 d_L_law__715 rfl (Nat.le_of_ble_eq_true rfl) ⟨rfl, rfl, (show K + 1 ≤ 500000 by omega), (show KS + 6 ≤ 5000000 by omega), Nat.le_of_ble_eq_true rfl⟩ (fun n => ?_)
  refine V_istore (ls' := [_, _, _, _, _, _, _]) d_L_law__718 rfl rfl ?_
  refine V_aload_n d_L_law__720 rfl rfl ?_
  refine V_aload_n d_L_law__721 rfl rfl ?_
  refine V_iload d_L_law__722 rfl ?_
  refine V_iconst (v := 1) d_L_law__724 ic_1 ?_
  refine V_iadd d_L_law__725 ?_
  obtain ⟨t3, ht3, hf⟩ := ob hf
  refine V_sld hX9 ht3 d_L_law__726 ?_
  obtain ⟨q4, hq4, hf⟩ := ob hf
  refine B_callV1 (s_X12_grows hG hq4) k_264 clX12 m_X12_grows kv_RL_171 d_L_law__727 rfl (Nat.le_of_ble_eq_true rfl) ⟨rfl, rfl, (show K + 1 ≤ 500000 by omega), (show KS + 6 ≤ 5000000 by omega), Nat.le_of_ble_eq_true rfl⟩ (fun n => ?_)
  refine V_istore (ls' := [_, _, _, _, _, _, _]) d_L_law__730 rfl rfl ?_
  refine V_aload_n d_L_law__732 rfl rfl ?_
  obtain ⟨t5, ht5, hf⟩ := ob hf
  refine B_callV1 (s_X12_thrown hG ht5) k_264 clX12 m_X12_thrown kv_RL_145 d_L_law__733 rfl (Nat.le_of_ble_eq_true rfl) ⟨rfl, rfl, (show K + 1 ≤ 500000 by omega), (show KS + 6 ≤ 5000000 by omega), Nat.le_of_ble_eq_true rfl⟩ (fun n => ?_)
  refine V_iload d_L_law__736 rfl ?_
  refine V_icmp_eq (tgt := 743) d_L_law__738 (by decide) (fun c738 => ?_) (fun c738 => ?_)
  · replace hf := iteT c738 hf
    refine V_iload d_L_law__743 rfl ?_
    refine V_if_ne (tgt := 760) d_L_law__745 (by decide) (fun c745 => ?_) (fun c745 => ?_)
    · replace hf := iteF c745 hf
      refine V_less (ls' := [some _, some _, some _, some _, some _, none, none]) ⟨rfl, rfl, rfl, rfl, rfl, trivial⟩ ?_
      exact s_L_law__j760 hG hX9 hKb hf hK
    · replace hf := iteT c745 hf
      refine V_aload_n d_L_law__748 rfl rfl ?_
      refine V_iconst (v := 0) d_L_law__749 ic_0 ?_
      obtain ⟨t6, ht6, hf⟩ := ob hf
      refine B_lald k_275 ht6 d_L_law__750 ?_
      refine V_iload d_L_law__751 rfl ?_
      refine V_i2l d_L_law__753 ?_
      refine V_lcmp d_L_law__754 ?_
      refine V_if_eq (tgt := 760) d_L_law__755 (by decide) (fun c755 => ?_) (fun c755 => ?_)
      · replace hf := iteT c755 hf
        refine V_less (ls' := [some _, some _, some _, some _, some _, none, none]) ⟨rfl, rfl, rfl, rfl, rfl, trivial⟩ ?_
        exact s_L_law__j760 hG hX9 hKb hf hK
      · replace hf := iteF c755 hf
        refine V_iconst (v := 0) d_L_law__758 ic_0 ?_
        cases hf
  · replace hf := iteF c738 hf
    refine V_iconst (v := 0) d_L_law__741 ic_0 ?_
    cases hf
theorem s_L_law__j864 {G : Gl} (hG : G.1.stackTraces = false) {C : Cx} {n b9 K KS : Nat} {μ : Mem} {b9L : Nat} {xs : (Nat → Int32)} {l4 : Int32} (hX9 : ScX G C b9 b9L xs) (hKb : K + 8 ≤ 500000 ∧ KS + 48 ≤ 5000000) {r : Mem} (hf : f_L_law__j864 μ b9L xs l4 = some r) (hK : ∀ n, V G C F_L_law_ 2708 [some (.ref b9), some (.ref (G.2.1 + 0)), some (.ref (G.2.1 + 264)), some (.ref (G.2.1 + 275)), some (.int l4), none, none] [] (pic G r) n (K + 8) (KS + 48)) : V G C F_L_law_ 864 [some (.ref b9), some (.ref (G.2.1 + 0)), some (.ref (G.2.1 + 264)), some (.ref (G.2.1 + 275)), some (.int l4), none, none] [] (pic G μ) n (K + 4) (KS + 24) := by
  unfold f_L_law__j864 at hf
  refine V_goto (tgt := 2708) d_L_law__864 (by decide) ?_
  refine V_widen (k2 := K + 8) (s2 := KS + 48) (by omega) (by omega) ?_
  refine V_less (ls' := [some _, some _, some _, some _, some _, none, none]) ⟨rfl, rfl, rfl, rfl, rfl, trivial⟩ ?_
  cases hf
  exact hK _
theorem s_L_law__j763 {G : Gl} (hG : G.1.stackTraces = false) {C : Cx} {n b9 K KS : Nat} {μ : Mem} {b9L : Nat} {xs : (Nat → Int32)} {l4 : Int32} (hX9 : ScX G C b9 b9L xs) (hKb : K + 8 ≤ 500000 ∧ KS + 48 ≤ 5000000) {r : Mem} (hf : f_L_law__j763 μ b9L xs l4 = some r) (hK : ∀ n, V G C F_L_law_ 2708 [some (.ref b9), some (.ref (G.2.1 + 0)), some (.ref (G.2.1 + 264)), some (.ref (G.2.1 + 275)), some (.int l4), none, none] [] (pic G r) n (K + 8) (KS + 48)) : V G C F_L_law_ 763 [some (.ref b9), some (.ref (G.2.1 + 0)), some (.ref (G.2.1 + 264)), some (.ref (G.2.1 + 275)), some (.int l4), none, none] [] (pic G μ) n (K + 0) (KS + 0) := by
  unfold f_L_law__j763 at hf
  refine V_aload_n d_L_law__763 rfl rfl ?_
  refine V_aload_n d_L_law__764 rfl rfl ?_
  refine V_iload d_L_law__765 rfl ?_
  refine V_iconst (v := 1) d_L_law__767 ic_1 ?_
  refine V_iadd d_L_law__768 ?_
  obtain ⟨t1, ht1, hf⟩ := ob hf
  refine V_sld hX9 ht1 d_L_law__769 ?_
  refine V_aload_n d_L_law__770 rfl rfl ?_
  refine V_iload d_L_law__771 rfl ?_
  refine V_iconst (v := 2) d_L_law__773 ic_2 ?_
  refine V_iadd d_L_law__774 ?_
  obtain ⟨t2, ht2, hf⟩ := ob hf
  refine V_sld hX9 ht2 d_L_law__775 ?_
  refine V_aload_n d_L_law__776 rfl rfl ?_
  refine V_iload d_L_law__777 rfl ?_
  refine V_iconst (v := 3) d_L_law__779 ic_3 ?_
  refine V_iadd d_L_law__780 ?_
  obtain ⟨t3, ht3, hf⟩ := ob hf
  refine V_sld hX9 ht3 d_L_law__781 ?_
  refine V_aload_n d_L_law__782 rfl rfl ?_
  refine V_iload d_L_law__783 rfl ?_
  refine V_iconst (v := 4) d_L_law__785 ic_4 ?_
  refine V_iadd d_L_law__786 ?_
  obtain ⟨t4, ht4, hf⟩ := ob hf
  refine V_sld hX9 ht4 d_L_law__787 ?_
  refine V_aload_n d_L_law__788 rfl rfl ?_
  refine V_iload d_L_law__789 rfl ?_
  refine V_iconst (v := 5) d_L_law__791 ic_5 ?_
  refine V_iadd d_L_law__792 ?_
  obtain ⟨t5, ht5, hf⟩ := ob hf
  refine V_sld hX9 ht5 d_L_law__793 ?_
  refine V_aload_n d_L_law__794 rfl rfl ?_
  obtain ⟨q6, hq6, hf⟩ := ob hf
  refine B_callSH (s_L_lend hG hq6) (kc' := (K + 4)) (ks' := (KS + 24)) m_L_lend ks_RL_172 d_L_law__795 rfl (Nat.le_of_ble_eq_true rfl) ⟨rfl, rfl, (show K + 4 ≤ 500000 by omega), (show KS + 24 ≤ 5000000 by omega), Nat.le_of_ble_eq_true rfl⟩ (fun n => ?_)
  refine V_istore (ls' := [_, _, _, _, _, _, _]) d_L_law__798 rfl rfl ?_
  refine V_aload_n d_L_law__800 rfl rfl ?_
  refine V_aload_n d_L_law__801 rfl rfl ?_
  refine V_iload d_L_law__802 rfl ?_
  refine V_iconst (v := 1) d_L_law__804 ic_1 ?_
  refine V_iadd d_L_law__805 ?_
  obtain ⟨t7, ht7, hf⟩ := ob hf
  refine V_sld hX9 ht7 d_L_law__806 ?_
  refine V_aload_n d_L_law__807 rfl rfl ?_
  refine V_iload d_L_law__808 rfl ?_
  refine V_iconst (v := 2) d_L_law__810 ic_2 ?_
  refine V_iadd d_L_law__811 ?_
  obtain ⟨t8, ht8, hf⟩ := ob hf
  refine V_sld hX9 ht8 d_L_law__812 ?_
  refine V_aload_n d_L_law__813 rfl rfl ?_
  refine V_iload d_L_law__814 rfl ?_
  refine V_iconst (v := 3) d_L_law__816 ic_3 ?_
  refine V_iadd d_L_law__817 ?_
  obtain ⟨t9, ht9, hf⟩ := ob hf
  refine V_sld hX9 ht9 d_L_law__818 ?_
  refine V_aload_n d_L_law__819 rfl rfl ?_
  refine V_iload d_L_law__820 rfl ?_
  refine V_iconst (v := 4) d_L_law__822 ic_4 ?_
  refine V_iadd d_L_law__823 ?_
  obtain ⟨t10, ht10, hf⟩ := ob hf
  refine V_sld hX9 ht10 d_L_law__824 ?_
  refine V_aload_n d_L_law__825 rfl rfl ?_
  refine V_iload d_L_law__826 rfl ?_
  refine V_iconst (v := 5) d_L_law__828 ic_5 ?_
  refine V_iadd d_L_law__829 ?_
  obtain ⟨t11, ht11, hf⟩ := ob hf
  refine V_sld hX9 ht11 d_L_law__830 ?_
  obtain ⟨q12, hq12, hf⟩ := ob hf
  refine B_callV1 (s_X12_lend hG hq12) k_264 clX12 m_X12_lend kv_RL_175 d_L_law__831 rfl (Nat.le_of_ble_eq_true rfl) ⟨rfl, rfl, (show K + 4 ≤ 500000 by omega), (show KS + 24 ≤ 5000000 by omega), Nat.le_of_ble_eq_true rfl⟩ (fun n => ?_)
  refine V_istore (ls' := [_, _, _, _, _, _, _]) d_L_law__834 rfl rfl ?_
  refine V_aload_n d_L_law__836 rfl rfl ?_
  obtain ⟨t13, ht13, hf⟩ := ob hf
  refine B_callV1 (s_X12_thrown hG ht13) k_264 clX12 m_X12_thrown kv_RL_145 d_L_law__837 rfl (Nat.le_of_ble_eq_true rfl) ⟨rfl, rfl, (show K + 4 ≤ 500000 by omega), (show KS + 24 ≤ 5000000 by omega), Nat.le_of_ble_eq_true rfl⟩ (fun n => ?_)
  refine V_iload d_L_law__840 rfl ?_
  refine V_icmp_eq (tgt := 847) d_L_law__842 (by decide) (fun c842 => ?_) (fun c842 => ?_)
  · replace hf := iteT c842 hf
    refine V_iload d_L_law__847 rfl ?_
    refine V_if_ne (tgt := 864) d_L_law__849 (by decide) (fun c849 => ?_) (fun c849 => ?_)
    · replace hf := iteF c849 hf
      refine V_less (ls' := [some _, some _, some _, some _, some _, none, none]) ⟨rfl, rfl, rfl, rfl, rfl, trivial⟩ ?_
      exact s_L_law__j864 hG hX9 hKb hf hK
    · replace hf := iteT c849 hf
      refine V_aload_n d_L_law__852 rfl rfl ?_
      refine V_iconst (v := 0) d_L_law__853 ic_0 ?_
      obtain ⟨t14, ht14, hf⟩ := ob hf
      refine B_lald k_275 ht14 d_L_law__854 ?_
      refine V_iload d_L_law__855 rfl ?_
      refine V_i2l d_L_law__857 ?_
      refine V_lcmp d_L_law__858 ?_
      refine V_if_eq (tgt := 864) d_L_law__859 (by decide) (fun c859 => ?_) (fun c859 => ?_)
      · replace hf := iteT c859 hf
        refine V_less (ls' := [some _, some _, some _, some _, some _, none, none]) ⟨rfl, rfl, rfl, rfl, rfl, trivial⟩ ?_
        exact s_L_law__j864 hG hX9 hKb hf hK
      · replace hf := iteF c859 hf
        refine V_iconst (v := 0) d_L_law__862 ic_0 ?_
        cases hf
  · replace hf := iteF c842 hf
    refine V_iconst (v := 0) d_L_law__845 ic_0 ?_
    cases hf
theorem s_L_law__j920 {G : Gl} (hG : G.1.stackTraces = false) {C : Cx} {n b9 K KS : Nat} {μ : Mem} {b9L : Nat} {xs : (Nat → Int32)} {l4 : Int32} (hX9 : ScX G C b9 b9L xs) (hKb : K + 8 ≤ 500000 ∧ KS + 48 ≤ 5000000) {r : Mem} (hf : f_L_law__j920 μ b9L xs l4 = some r) (hK : ∀ n, V G C F_L_law_ 2708 [some (.ref b9), some (.ref (G.2.1 + 0)), some (.ref (G.2.1 + 264)), some (.ref (G.2.1 + 275)), some (.int l4), none, none] [] (pic G r) n (K + 8) (KS + 48)) : V G C F_L_law_ 920 [some (.ref b9), some (.ref (G.2.1 + 0)), some (.ref (G.2.1 + 264)), some (.ref (G.2.1 + 275)), some (.int l4), none, none] [] (pic G μ) n (K + 2) (KS + 12) := by
  unfold f_L_law__j920 at hf
  refine V_goto (tgt := 2708) d_L_law__920 (by decide) ?_
  refine V_widen (k2 := K + 8) (s2 := KS + 48) (by omega) (by omega) ?_
  refine V_less (ls' := [some _, some _, some _, some _, some _, none, none]) ⟨rfl, rfl, rfl, rfl, rfl, trivial⟩ ?_
  cases hf
  exact hK _
theorem s_L_law__j867 {G : Gl} (hG : G.1.stackTraces = false) {C : Cx} {n b9 K KS : Nat} {μ : Mem} {b9L : Nat} {xs : (Nat → Int32)} {l4 : Int32} (hX9 : ScX G C b9 b9L xs) (hKb : K + 8 ≤ 500000 ∧ KS + 48 ≤ 5000000) {r : Mem} (hf : f_L_law__j867 μ b9L xs l4 = some r) (hK : ∀ n, V G C F_L_law_ 2708 [some (.ref b9), some (.ref (G.2.1 + 0)), some (.ref (G.2.1 + 264)), some (.ref (G.2.1 + 275)), some (.int l4), none, none] [] (pic G r) n (K + 8) (KS + 48)) : V G C F_L_law_ 867 [some (.ref b9), some (.ref (G.2.1 + 0)), some (.ref (G.2.1 + 264)), some (.ref (G.2.1 + 275)), some (.int l4), none, none] [] (pic G μ) n (K + 0) (KS + 0) := by
  unfold f_L_law__j867 at hf
  refine V_aload_n d_L_law__867 rfl rfl ?_
  refine V_aload_n d_L_law__868 rfl rfl ?_
  refine V_iload d_L_law__869 rfl ?_
  refine V_iconst (v := 1) d_L_law__871 ic_1 ?_
  refine V_iadd d_L_law__872 ?_
  obtain ⟨t1, ht1, hf⟩ := ob hf
  refine V_sld hX9 ht1 d_L_law__873 ?_
  refine V_aload_n d_L_law__874 rfl rfl ?_
  obtain ⟨q2, hq2, hf⟩ := ob hf
  refine B_callSH (s_L_pay hG hq2) (kc' := (K + 2)) (ks' := (KS + 12)) m_L_pay ks_RL_176 d_L_law__875 rfl (Nat.le_of_ble_eq_true rfl) ⟨rfl, rfl, (show K + 2 ≤ 500000 by omega), (show KS + 12 ≤ 5000000 by omega), Nat.le_of_ble_eq_true rfl⟩ (fun n => ?_)
  refine V_istore (ls' := [_, _, _, _, _, _, _]) d_L_law__878 rfl rfl ?_
  refine V_aload_n d_L_law__880 rfl rfl ?_
  refine V_aload_n d_L_law__881 rfl rfl ?_
  refine V_iload d_L_law__882 rfl ?_
  refine V_iconst (v := 1) d_L_law__884 ic_1 ?_
  refine V_iadd d_L_law__885 ?_
  obtain ⟨t3, ht3, hf⟩ := ob hf
  refine V_sld hX9 ht3 d_L_law__886 ?_
  obtain ⟨q4, hq4, hf⟩ := ob hf
  refine B_callV1 (s_X12_pay hG hq4) k_264 clX12 m_X12_pay kv_RL_178 d_L_law__887 rfl (Nat.le_of_ble_eq_true rfl) ⟨rfl, rfl, (show K + 2 ≤ 500000 by omega), (show KS + 12 ≤ 5000000 by omega), Nat.le_of_ble_eq_true rfl⟩ (fun n => ?_)
  refine V_istore (ls' := [_, _, _, _, _, _, _]) d_L_law__890 rfl rfl ?_
  refine V_aload_n d_L_law__892 rfl rfl ?_
  obtain ⟨t5, ht5, hf⟩ := ob hf
  refine B_callV1 (s_X12_thrown hG ht5) k_264 clX12 m_X12_thrown kv_RL_145 d_L_law__893 rfl (Nat.le_of_ble_eq_true rfl) ⟨rfl, rfl, (show K + 2 ≤ 500000 by omega), (show KS + 12 ≤ 5000000 by omega), Nat.le_of_ble_eq_true rfl⟩ (fun n => ?_)
  refine V_iload d_L_law__896 rfl ?_
  refine V_icmp_eq (tgt := 903) d_L_law__898 (by decide) (fun c898 => ?_) (fun c898 => ?_)
  · replace hf := iteT c898 hf
    refine V_iload d_L_law__903 rfl ?_
    refine V_if_ne (tgt := 920) d_L_law__905 (by decide) (fun c905 => ?_) (fun c905 => ?_)
    · replace hf := iteF c905 hf
      refine V_less (ls' := [some _, some _, some _, some _, some _, none, none]) ⟨rfl, rfl, rfl, rfl, rfl, trivial⟩ ?_
      exact s_L_law__j920 hG hX9 hKb hf hK
    · replace hf := iteT c905 hf
      refine V_aload_n d_L_law__908 rfl rfl ?_
      refine V_iconst (v := 0) d_L_law__909 ic_0 ?_
      obtain ⟨t6, ht6, hf⟩ := ob hf
      refine B_lald k_275 ht6 d_L_law__910 ?_
      refine V_iload d_L_law__911 rfl ?_
      refine V_i2l d_L_law__913 ?_
      refine V_lcmp d_L_law__914 ?_
      refine V_if_eq (tgt := 920) d_L_law__915 (by decide) (fun c915 => ?_) (fun c915 => ?_)
      · replace hf := iteT c915 hf
        refine V_less (ls' := [some _, some _, some _, some _, some _, none, none]) ⟨rfl, rfl, rfl, rfl, rfl, trivial⟩ ?_
        exact s_L_law__j920 hG hX9 hKb hf hK
      · replace hf := iteF c915 hf
        refine V_iconst (v := 0) d_L_law__918 ic_0 ?_
        cases hf
  · replace hf := iteF c898 hf
    refine V_iconst (v := 0) d_L_law__901 ic_0 ?_
    cases hf
theorem s_L_law__j988 {G : Gl} (hG : G.1.stackTraces = false) {C : Cx} {n b9 K KS : Nat} {μ : Mem} {b9L : Nat} {xs : (Nat → Int32)} {l4 : Int32} (hX9 : ScX G C b9 b9L xs) (hKb : K + 8 ≤ 500000 ∧ KS + 48 ≤ 5000000) {r : Mem} (hf : f_L_law__j988 μ b9L xs l4 = some r) (hK : ∀ n, V G C F_L_law_ 2708 [some (.ref b9), some (.ref (G.2.1 + 0)), some (.ref (G.2.1 + 264)), some (.ref (G.2.1 + 275)), some (.int l4), none, none] [] (pic G r) n (K + 8) (KS + 48)) : V G C F_L_law_ 988 [some (.ref b9), some (.ref (G.2.1 + 0)), some (.ref (G.2.1 + 264)), some (.ref (G.2.1 + 275)), some (.int l4), none, none] [] (pic G μ) n (K + 4) (KS + 24) := by
  unfold f_L_law__j988 at hf
  refine V_goto (tgt := 2708) d_L_law__988 (by decide) ?_
  refine V_widen (k2 := K + 8) (s2 := KS + 48) (by omega) (by omega) ?_
  refine V_less (ls' := [some _, some _, some _, some _, some _, none, none]) ⟨rfl, rfl, rfl, rfl, rfl, trivial⟩ ?_
  cases hf
  exact hK _
theorem s_L_law__j923 {G : Gl} (hG : G.1.stackTraces = false) {C : Cx} {n b9 K KS : Nat} {μ : Mem} {b9L : Nat} {xs : (Nat → Int32)} {l4 : Int32} (hX9 : ScX G C b9 b9L xs) (hKb : K + 8 ≤ 500000 ∧ KS + 48 ≤ 5000000) {r : Mem} (hf : f_L_law__j923 μ b9L xs l4 = some r) (hK : ∀ n, V G C F_L_law_ 2708 [some (.ref b9), some (.ref (G.2.1 + 0)), some (.ref (G.2.1 + 264)), some (.ref (G.2.1 + 275)), some (.int l4), none, none] [] (pic G r) n (K + 8) (KS + 48)) : V G C F_L_law_ 923 [some (.ref b9), some (.ref (G.2.1 + 0)), some (.ref (G.2.1 + 264)), some (.ref (G.2.1 + 275)), some (.int l4), none, none] [] (pic G μ) n (K + 0) (KS + 0) := by
  unfold f_L_law__j923 at hf
  refine V_aload_n d_L_law__923 rfl rfl ?_
  refine V_aload_n d_L_law__924 rfl rfl ?_
  refine V_iload d_L_law__925 rfl ?_
  refine V_iconst (v := 1) d_L_law__927 ic_1 ?_
  refine V_iadd d_L_law__928 ?_
  obtain ⟨t1, ht1, hf⟩ := ob hf
  refine V_sld hX9 ht1 d_L_law__929 ?_
  refine V_aload_n d_L_law__930 rfl rfl ?_
  refine V_iload d_L_law__931 rfl ?_
  refine V_iconst (v := 2) d_L_law__933 ic_2 ?_
  refine V_iadd d_L_law__934 ?_
  obtain ⟨t2, ht2, hf⟩ := ob hf
  refine V_sld hX9 ht2 d_L_law__935 ?_
  refine V_aload_n d_L_law__936 rfl rfl ?_
  obtain ⟨q3, hq3, hf⟩ := ob hf
  refine B_callSH (s_L_surety hG hq3) (kc' := (K + 4)) (ks' := (KS + 24)) m_L_surety ks_RL_179 d_L_law__937 rfl (Nat.le_of_ble_eq_true rfl) ⟨rfl, rfl, (show K + 4 ≤ 500000 by omega), (show KS + 24 ≤ 5000000 by omega), Nat.le_of_ble_eq_true rfl⟩ (fun n => ?_)
  refine V_istore (ls' := [_, _, _, _, _, _, _]) d_L_law__940 rfl rfl ?_
  refine V_aload_n d_L_law__942 rfl rfl ?_
  refine V_aload_n d_L_law__943 rfl rfl ?_
  refine V_iload d_L_law__944 rfl ?_
  refine V_iconst (v := 1) d_L_law__946 ic_1 ?_
  refine V_iadd d_L_law__947 ?_
  obtain ⟨t4, ht4, hf⟩ := ob hf
  refine V_sld hX9 ht4 d_L_law__948 ?_
  refine V_aload_n d_L_law__949 rfl rfl ?_
  refine V_iload d_L_law__950 rfl ?_
  refine V_iconst (v := 2) d_L_law__952 ic_2 ?_
  refine V_iadd d_L_law__953 ?_
  obtain ⟨t5, ht5, hf⟩ := ob hf
  refine V_sld hX9 ht5 d_L_law__954 ?_
  obtain ⟨q6, hq6, hf⟩ := ob hf
  refine B_callV1 (s_X12_surety hG hq6) k_264 clX12 m_X12_surety kv_RL_181 d_L_law__955 rfl (Nat.le_of_ble_eq_true rfl) ⟨rfl, rfl, (show K + 4 ≤ 500000 by omega), (show KS + 24 ≤ 5000000 by omega), Nat.le_of_ble_eq_true rfl⟩ (fun n => ?_)
  refine V_istore (ls' := [_, _, _, _, _, _, _]) d_L_law__958 rfl rfl ?_
  refine V_aload_n d_L_law__960 rfl rfl ?_
  obtain ⟨t7, ht7, hf⟩ := ob hf
  refine B_callV1 (s_X12_thrown hG ht7) k_264 clX12 m_X12_thrown kv_RL_145 d_L_law__961 rfl (Nat.le_of_ble_eq_true rfl) ⟨rfl, rfl, (show K + 4 ≤ 500000 by omega), (show KS + 24 ≤ 5000000 by omega), Nat.le_of_ble_eq_true rfl⟩ (fun n => ?_)
  refine V_iload d_L_law__964 rfl ?_
  refine V_icmp_eq (tgt := 971) d_L_law__966 (by decide) (fun c966 => ?_) (fun c966 => ?_)
  · replace hf := iteT c966 hf
    refine V_iload d_L_law__971 rfl ?_
    refine V_if_ne (tgt := 988) d_L_law__973 (by decide) (fun c973 => ?_) (fun c973 => ?_)
    · replace hf := iteF c973 hf
      refine V_less (ls' := [some _, some _, some _, some _, some _, none, none]) ⟨rfl, rfl, rfl, rfl, rfl, trivial⟩ ?_
      exact s_L_law__j988 hG hX9 hKb hf hK
    · replace hf := iteT c973 hf
      refine V_aload_n d_L_law__976 rfl rfl ?_
      refine V_iconst (v := 0) d_L_law__977 ic_0 ?_
      obtain ⟨t8, ht8, hf⟩ := ob hf
      refine B_lald k_275 ht8 d_L_law__978 ?_
      refine V_iload d_L_law__979 rfl ?_
      refine V_i2l d_L_law__981 ?_
      refine V_lcmp d_L_law__982 ?_
      refine V_if_eq (tgt := 988) d_L_law__983 (by decide) (fun c983 => ?_) (fun c983 => ?_)
      · replace hf := iteT c983 hf
        refine V_less (ls' := [some _, some _, some _, some _, some _, none, none]) ⟨rfl, rfl, rfl, rfl, rfl, trivial⟩ ?_
        exact s_L_law__j988 hG hX9 hKb hf hK
      · replace hf := iteF c983 hf
        refine V_iconst (v := 0) d_L_law__986 ic_0 ?_
        cases hf
  · replace hf := iteF c966 hf
    refine V_iconst (v := 0) d_L_law__969 ic_0 ?_
    cases hf
theorem s_L_law__j1056 {G : Gl} (hG : G.1.stackTraces = false) {C : Cx} {n b9 K KS : Nat} {μ : Mem} {b9L : Nat} {xs : (Nat → Int32)} {l4 : Int32} (hX9 : ScX G C b9 b9L xs) (hKb : K + 8 ≤ 500000 ∧ KS + 48 ≤ 5000000) {r : Mem} (hf : f_L_law__j1056 μ b9L xs l4 = some r) (hK : ∀ n, V G C F_L_law_ 2708 [some (.ref b9), some (.ref (G.2.1 + 0)), some (.ref (G.2.1 + 264)), some (.ref (G.2.1 + 275)), some (.int l4), none, none] [] (pic G r) n (K + 8) (KS + 48)) : V G C F_L_law_ 1056 [some (.ref b9), some (.ref (G.2.1 + 0)), some (.ref (G.2.1 + 264)), some (.ref (G.2.1 + 275)), some (.int l4), none, none] [] (pic G μ) n (K + 5) (KS + 30) := by
  unfold f_L_law__j1056 at hf
  refine V_goto (tgt := 2708) d_L_law__1056 (by decide) ?_
  refine V_widen (k2 := K + 8) (s2 := KS + 48) (by omega) (by omega) ?_
  refine V_less (ls' := [some _, some _, some _, some _, some _, none, none]) ⟨rfl, rfl, rfl, rfl, rfl, trivial⟩ ?_
  cases hf
  exact hK _
theorem s_L_law__j991 {G : Gl} (hG : G.1.stackTraces = false) {C : Cx} {n b9 K KS : Nat} {μ : Mem} {b9L : Nat} {xs : (Nat → Int32)} {l4 : Int32} (hX9 : ScX G C b9 b9L xs) (hKb : K + 8 ≤ 500000 ∧ KS + 48 ≤ 5000000) {r : Mem} (hf : f_L_law__j991 μ b9L xs l4 = some r) (hK : ∀ n, V G C F_L_law_ 2708 [some (.ref b9), some (.ref (G.2.1 + 0)), some (.ref (G.2.1 + 264)), some (.ref (G.2.1 + 275)), some (.int l4), none, none] [] (pic G r) n (K + 8) (KS + 48)) : V G C F_L_law_ 991 [some (.ref b9), some (.ref (G.2.1 + 0)), some (.ref (G.2.1 + 264)), some (.ref (G.2.1 + 275)), some (.int l4), none, none] [] (pic G μ) n (K + 0) (KS + 0) := by
  unfold f_L_law__j991 at hf
  refine V_aload_n d_L_law__991 rfl rfl ?_
  refine V_aload_n d_L_law__992 rfl rfl ?_
  refine V_iload d_L_law__993 rfl ?_
  refine V_iconst (v := 1) d_L_law__995 ic_1 ?_
  refine V_iadd d_L_law__996 ?_
  obtain ⟨t1, ht1, hf⟩ := ob hf
  refine V_sld hX9 ht1 d_L_law__997 ?_
  refine V_aload_n d_L_law__998 rfl rfl ?_
  refine V_iload d_L_law__999 rfl ?_
  refine V_iconst (v := 2) d_L_law__1001 ic_2 ?_
  refine V_iadd d_L_law__1002 ?_
  obtain ⟨t2, ht2, hf⟩ := ob hf
  refine V_sld hX9 ht2 d_L_law__1003 ?_
  refine V_aload_n d_L_law__1004 rfl rfl ?_
  obtain ⟨q3, hq3, hf⟩ := ob hf
  refine B_callSH (s_L_give hG hq3) (kc' := (K + 5)) (ks' := (KS + 30)) m_L_give ks_RL_182 d_L_law__1005 rfl (Nat.le_of_ble_eq_true rfl) ⟨rfl, rfl, (show K + 5 ≤ 500000 by omega), (show KS + 30 ≤ 5000000 by omega), Nat.le_of_ble_eq_true rfl⟩ (fun n => ?_)
  refine V_istore (ls' := [_, _, _, _, _, _, _]) d_L_law__1008 rfl rfl ?_
  refine V_aload_n d_L_law__1010 rfl rfl ?_
  refine V_aload_n d_L_law__1011 rfl rfl ?_
  refine V_iload d_L_law__1012 rfl ?_
  refine V_iconst (v := 1) d_L_law__1014 ic_1 ?_
  refine V_iadd d_L_law__1015 ?_
  obtain ⟨t4, ht4, hf⟩ := ob hf
  refine V_sld hX9 ht4 d_L_law__1016 ?_
  refine V_aload_n d_L_law__1017 rfl rfl ?_
  refine V_iload d_L_law__1018 rfl ?_
  refine V_iconst (v := 2) d_L_law__1020 ic_2 ?_
  refine V_iadd d_L_law__1021 ?_
  obtain ⟨t5, ht5, hf⟩ := ob hf
  refine V_sld hX9 ht5 d_L_law__1022 ?_
  obtain ⟨q6, hq6, hf⟩ := ob hf
  refine B_callV1 (s_X12_give hG hq6) k_264 clX12 m_X12_give kv_RL_184 d_L_law__1023 rfl (Nat.le_of_ble_eq_true rfl) ⟨rfl, rfl, (show K + 5 ≤ 500000 by omega), (show KS + 30 ≤ 5000000 by omega), Nat.le_of_ble_eq_true rfl⟩ (fun n => ?_)
  refine V_istore (ls' := [_, _, _, _, _, _, _]) d_L_law__1026 rfl rfl ?_
  refine V_aload_n d_L_law__1028 rfl rfl ?_
  obtain ⟨t7, ht7, hf⟩ := ob hf
  refine B_callV1 (s_X12_thrown hG ht7) k_264 clX12 m_X12_thrown kv_RL_145 d_L_law__1029 rfl (Nat.le_of_ble_eq_true rfl) ⟨rfl, rfl, (show K + 5 ≤ 500000 by omega), (show KS + 30 ≤ 5000000 by omega), Nat.le_of_ble_eq_true rfl⟩ (fun n => ?_)
  refine V_iload d_L_law__1032 rfl ?_
  refine V_icmp_eq (tgt := 1039) d_L_law__1034 (by decide) (fun c1034 => ?_) (fun c1034 => ?_)
  · replace hf := iteT c1034 hf
    refine V_iload d_L_law__1039 rfl ?_
    refine V_if_ne (tgt := 1056) d_L_law__1041 (by decide) (fun c1041 => ?_) (fun c1041 => ?_)
    · replace hf := iteF c1041 hf
      refine V_less (ls' := [some _, some _, some _, some _, some _, none, none]) ⟨rfl, rfl, rfl, rfl, rfl, trivial⟩ ?_
      exact s_L_law__j1056 hG hX9 hKb hf hK
    · replace hf := iteT c1041 hf
      refine V_aload_n d_L_law__1044 rfl rfl ?_
      refine V_iconst (v := 0) d_L_law__1045 ic_0 ?_
      obtain ⟨t8, ht8, hf⟩ := ob hf
      refine B_lald k_275 ht8 d_L_law__1046 ?_
      refine V_iload d_L_law__1047 rfl ?_
      refine V_i2l d_L_law__1049 ?_
      refine V_lcmp d_L_law__1050 ?_
      refine V_if_eq (tgt := 1056) d_L_law__1051 (by decide) (fun c1051 => ?_) (fun c1051 => ?_)
      · replace hf := iteT c1051 hf
        refine V_less (ls' := [some _, some _, some _, some _, some _, none, none]) ⟨rfl, rfl, rfl, rfl, rfl, trivial⟩ ?_
        exact s_L_law__j1056 hG hX9 hKb hf hK
      · replace hf := iteF c1051 hf
        refine V_iconst (v := 0) d_L_law__1054 ic_0 ?_
        cases hf
  · replace hf := iteF c1034 hf
    refine V_iconst (v := 0) d_L_law__1037 ic_0 ?_
    cases hf
theorem s_L_law__j1124 {G : Gl} (hG : G.1.stackTraces = false) {C : Cx} {n b9 K KS : Nat} {μ : Mem} {b9L : Nat} {xs : (Nat → Int32)} {l4 : Int32} (hX9 : ScX G C b9 b9L xs) (hKb : K + 8 ≤ 500000 ∧ KS + 48 ≤ 5000000) {r : Mem} (hf : f_L_law__j1124 μ b9L xs l4 = some r) (hK : ∀ n, V G C F_L_law_ 2708 [some (.ref b9), some (.ref (G.2.1 + 0)), some (.ref (G.2.1 + 264)), some (.ref (G.2.1 + 275)), some (.int l4), none, none] [] (pic G r) n (K + 8) (KS + 48)) : V G C F_L_law_ 1124 [some (.ref b9), some (.ref (G.2.1 + 0)), some (.ref (G.2.1 + 264)), some (.ref (G.2.1 + 275)), some (.int l4), none, none] [] (pic G μ) n (K + 2) (KS + 12) := by
  unfold f_L_law__j1124 at hf
  refine V_goto (tgt := 2708) d_L_law__1124 (by decide) ?_
  refine V_widen (k2 := K + 8) (s2 := KS + 48) (by omega) (by omega) ?_
  refine V_less (ls' := [some _, some _, some _, some _, some _, none, none]) ⟨rfl, rfl, rfl, rfl, rfl, trivial⟩ ?_
  cases hf
  exact hK _
theorem s_L_law__j1059 {G : Gl} (hG : G.1.stackTraces = false) {C : Cx} {n b9 K KS : Nat} {μ : Mem} {b9L : Nat} {xs : (Nat → Int32)} {l4 : Int32} (hX9 : ScX G C b9 b9L xs) (hKb : K + 8 ≤ 500000 ∧ KS + 48 ≤ 5000000) {r : Mem} (hf : f_L_law__j1059 μ b9L xs l4 = some r) (hK : ∀ n, V G C F_L_law_ 2708 [some (.ref b9), some (.ref (G.2.1 + 0)), some (.ref (G.2.1 + 264)), some (.ref (G.2.1 + 275)), some (.int l4), none, none] [] (pic G r) n (K + 8) (KS + 48)) : V G C F_L_law_ 1059 [some (.ref b9), some (.ref (G.2.1 + 0)), some (.ref (G.2.1 + 264)), some (.ref (G.2.1 + 275)), some (.int l4), none, none] [] (pic G μ) n (K + 0) (KS + 0) := by
  unfold f_L_law__j1059 at hf
  refine V_aload_n d_L_law__1059 rfl rfl ?_
  refine V_aload_n d_L_law__1060 rfl rfl ?_
  refine V_iload d_L_law__1061 rfl ?_
  refine V_iconst (v := 1) d_L_law__1063 ic_1 ?_
  refine V_iadd d_L_law__1064 ?_
  obtain ⟨t1, ht1, hf⟩ := ob hf
  refine V_sld hX9 ht1 d_L_law__1065 ?_
  refine V_aload_n d_L_law__1066 rfl rfl ?_
  refine V_iload d_L_law__1067 rfl ?_
  refine V_iconst (v := 2) d_L_law__1069 ic_2 ?_
  refine V_iadd d_L_law__1070 ?_
  obtain ⟨t2, ht2, hf⟩ := ob hf
  refine V_sld hX9 ht2 d_L_law__1071 ?_
  refine V_aload_n d_L_law__1072 rfl rfl ?_
  obtain ⟨q3, hq3, hf⟩ := ob hf
  refine B_callSH (s_L_goal hG hq3) (kc' := (K + 2)) (ks' := (KS + 12)) m_L_goal ks_RL_185 d_L_law__1073 rfl (Nat.le_of_ble_eq_true rfl) ⟨rfl, rfl, (show K + 2 ≤ 500000 by omega), (show KS + 12 ≤ 5000000 by omega), Nat.le_of_ble_eq_true rfl⟩ (fun n => ?_)
  refine V_istore (ls' := [_, _, _, _, _, _, _]) d_L_law__1076 rfl rfl ?_
  refine V_aload_n d_L_law__1078 rfl rfl ?_
  refine V_aload_n d_L_law__1079 rfl rfl ?_
  refine V_iload d_L_law__1080 rfl ?_
  refine V_iconst (v := 1) d_L_law__1082 ic_1 ?_
  refine V_iadd d_L_law__1083 ?_
  obtain ⟨t4, ht4, hf⟩ := ob hf
  refine V_sld hX9 ht4 d_L_law__1084 ?_
  refine V_aload_n d_L_law__1085 rfl rfl ?_
  refine V_iload d_L_law__1086 rfl ?_
  refine V_iconst (v := 2) d_L_law__1088 ic_2 ?_
  refine V_iadd d_L_law__1089 ?_
  obtain ⟨t5, ht5, hf⟩ := ob hf
  refine V_sld hX9 ht5 d_L_law__1090 ?_
  obtain ⟨q6, hq6, hf⟩ := ob hf
  refine B_callV1 (s_X12_goal hG hq6) k_264 clX12 m_X12_goal kv_RL_187 d_L_law__1091 rfl (Nat.le_of_ble_eq_true rfl) ⟨rfl, rfl, (show K + 2 ≤ 500000 by omega), (show KS + 12 ≤ 5000000 by omega), Nat.le_of_ble_eq_true rfl⟩ (fun n => ?_)
  refine V_istore (ls' := [_, _, _, _, _, _, _]) d_L_law__1094 rfl rfl ?_
  refine V_aload_n d_L_law__1096 rfl rfl ?_
  obtain ⟨t7, ht7, hf⟩ := ob hf
  refine B_callV1 (s_X12_thrown hG ht7) k_264 clX12 m_X12_thrown kv_RL_145 d_L_law__1097 rfl (Nat.le_of_ble_eq_true rfl) ⟨rfl, rfl, (show K + 2 ≤ 500000 by omega), (show KS + 12 ≤ 5000000 by omega), Nat.le_of_ble_eq_true rfl⟩ (fun n => ?_)
  refine V_iload d_L_law__1100 rfl ?_
  refine V_icmp_eq (tgt := 1107) d_L_law__1102 (by decide) (fun c1102 => ?_) (fun c1102 => ?_)
  · replace hf := iteT c1102 hf
    refine V_iload d_L_law__1107 rfl ?_
    refine V_if_ne (tgt := 1124) d_L_law__1109 (by decide) (fun c1109 => ?_) (fun c1109 => ?_)
    · replace hf := iteF c1109 hf
      refine V_less (ls' := [some _, some _, some _, some _, some _, none, none]) ⟨rfl, rfl, rfl, rfl, rfl, trivial⟩ ?_
      exact s_L_law__j1124 hG hX9 hKb hf hK
    · replace hf := iteT c1109 hf
      refine V_aload_n d_L_law__1112 rfl rfl ?_
      refine V_iconst (v := 0) d_L_law__1113 ic_0 ?_
      obtain ⟨t8, ht8, hf⟩ := ob hf
      refine B_lald k_275 ht8 d_L_law__1114 ?_
      refine V_iload d_L_law__1115 rfl ?_
      refine V_i2l d_L_law__1117 ?_
      refine V_lcmp d_L_law__1118 ?_
      refine V_if_eq (tgt := 1124) d_L_law__1119 (by decide) (fun c1119 => ?_) (fun c1119 => ?_)
      · replace hf := iteT c1119 hf
        refine V_less (ls' := [some _, some _, some _, some _, some _, none, none]) ⟨rfl, rfl, rfl, rfl, rfl, trivial⟩ ?_
        exact s_L_law__j1124 hG hX9 hKb hf hK
      · replace hf := iteF c1119 hf
        refine V_iconst (v := 0) d_L_law__1122 ic_0 ?_
        cases hf
  · replace hf := iteF c1102 hf
    refine V_iconst (v := 0) d_L_law__1105 ic_0 ?_
    cases hf
theorem s_L_law__j1180 {G : Gl} (hG : G.1.stackTraces = false) {C : Cx} {n b9 K KS : Nat} {μ : Mem} {b9L : Nat} {xs : (Nat → Int32)} {l4 : Int32} (hX9 : ScX G C b9 b9L xs) (hKb : K + 8 ≤ 500000 ∧ KS + 48 ≤ 5000000) {r : Mem} (hf : f_L_law__j1180 μ b9L xs l4 = some r) (hK : ∀ n, V G C F_L_law_ 2708 [some (.ref b9), some (.ref (G.2.1 + 0)), some (.ref (G.2.1 + 264)), some (.ref (G.2.1 + 275)), some (.int l4), none, none] [] (pic G r) n (K + 8) (KS + 48)) : V G C F_L_law_ 1180 [some (.ref b9), some (.ref (G.2.1 + 0)), some (.ref (G.2.1 + 264)), some (.ref (G.2.1 + 275)), some (.int l4), none, none] [] (pic G μ) n (K + 1) (KS + 6) := by
  unfold f_L_law__j1180 at hf
  refine V_goto (tgt := 2708) d_L_law__1180 (by decide) ?_
  refine V_widen (k2 := K + 8) (s2 := KS + 48) (by omega) (by omega) ?_
  refine V_less (ls' := [some _, some _, some _, some _, some _, none, none]) ⟨rfl, rfl, rfl, rfl, rfl, trivial⟩ ?_
  cases hf
  exact hK _
theorem s_L_law__j1127 {G : Gl} (hG : G.1.stackTraces = false) {C : Cx} {n b9 K KS : Nat} {μ : Mem} {b9L : Nat} {xs : (Nat → Int32)} {l4 : Int32} (hX9 : ScX G C b9 b9L xs) (hKb : K + 8 ≤ 500000 ∧ KS + 48 ≤ 5000000) {r : Mem} (hf : f_L_law__j1127 μ b9L xs l4 = some r) (hK : ∀ n, V G C F_L_law_ 2708 [some (.ref b9), some (.ref (G.2.1 + 0)), some (.ref (G.2.1 + 264)), some (.ref (G.2.1 + 275)), some (.int l4), none, none] [] (pic G r) n (K + 8) (KS + 48)) : V G C F_L_law_ 1127 [some (.ref b9), some (.ref (G.2.1 + 0)), some (.ref (G.2.1 + 264)), some (.ref (G.2.1 + 275)), some (.int l4), none, none] [] (pic G μ) n (K + 0) (KS + 0) := by
  unfold f_L_law__j1127 at hf
  refine V_aload_n d_L_law__1127 rfl rfl ?_
  refine V_aload_n d_L_law__1128 rfl rfl ?_
  refine V_iload d_L_law__1129 rfl ?_
  refine V_iconst (v := 1) d_L_law__1131 ic_1 ?_
  refine V_iadd d_L_law__1132 ?_
  obtain ⟨t1, ht1, hf⟩ := ob hf
  refine V_sld hX9 ht1 d_L_law__1133 ?_
  refine V_aload_n d_L_law__1134 rfl rfl ?_
  obtain ⟨q2, hq2, hf⟩ := ob hf
  refine B_callSH (s_L_rest hG hq2) (kc' := (K + 1)) (ks' := (KS + 6)) m_L_rest ks_RL_188 d_L_law__1135 rfl (Nat.le_of_ble_eq_true rfl) ⟨rfl, rfl, (show K + 1 ≤ 500000 by omega), (show KS + 6 ≤ 5000000 by omega), Nat.le_of_ble_eq_true rfl⟩ (fun n => ?_)
  refine V_istore (ls' := [_, _, _, _, _, _, _]) d_L_law__1138 rfl rfl ?_
  refine V_aload_n d_L_law__1140 rfl rfl ?_
  refine V_aload_n d_L_law__1141 rfl rfl ?_
  refine V_iload d_L_law__1142 rfl ?_
  refine V_iconst (v := 1) d_L_law__1144 ic_1 ?_
  refine V_iadd d_L_law__1145 ?_
  obtain ⟨t3, ht3, hf⟩ := ob hf
  refine V_sld hX9 ht3 d_L_law__1146 ?_
  obtain ⟨q4, hq4, hf⟩ := ob hf
  refine B_callV1 (s_X12_rest hG hq4) k_264 clX12 m_X12_rest kv_RL_190 d_L_law__1147 rfl (Nat.le_of_ble_eq_true rfl) ⟨rfl, rfl, (show K + 1 ≤ 500000 by omega), (show KS + 6 ≤ 5000000 by omega), Nat.le_of_ble_eq_true rfl⟩ (fun n => ?_)
  refine V_istore (ls' := [_, _, _, _, _, _, _]) d_L_law__1150 rfl rfl ?_
  refine V_aload_n d_L_law__1152 rfl rfl ?_
  obtain ⟨t5, ht5, hf⟩ := ob hf
  refine B_callV1 (s_X12_thrown hG ht5) k_264 clX12 m_X12_thrown kv_RL_145 d_L_law__1153 rfl (Nat.le_of_ble_eq_true rfl) ⟨rfl, rfl, (show K + 1 ≤ 500000 by omega), (show KS + 6 ≤ 5000000 by omega), Nat.le_of_ble_eq_true rfl⟩ (fun n => ?_)
  refine V_iload d_L_law__1156 rfl ?_
  refine V_icmp_eq (tgt := 1163) d_L_law__1158 (by decide) (fun c1158 => ?_) (fun c1158 => ?_)
  · replace hf := iteT c1158 hf
    refine V_iload d_L_law__1163 rfl ?_
    refine V_if_ne (tgt := 1180) d_L_law__1165 (by decide) (fun c1165 => ?_) (fun c1165 => ?_)
    · replace hf := iteF c1165 hf
      refine V_less (ls' := [some _, some _, some _, some _, some _, none, none]) ⟨rfl, rfl, rfl, rfl, rfl, trivial⟩ ?_
      exact s_L_law__j1180 hG hX9 hKb hf hK
    · replace hf := iteT c1165 hf
      refine V_aload_n d_L_law__1168 rfl rfl ?_
      refine V_iconst (v := 0) d_L_law__1169 ic_0 ?_
      obtain ⟨t6, ht6, hf⟩ := ob hf
      refine B_lald k_275 ht6 d_L_law__1170 ?_
      refine V_iload d_L_law__1171 rfl ?_
      refine V_i2l d_L_law__1173 ?_
      refine V_lcmp d_L_law__1174 ?_
      refine V_if_eq (tgt := 1180) d_L_law__1175 (by decide) (fun c1175 => ?_) (fun c1175 => ?_)
      · replace hf := iteT c1175 hf
        refine V_less (ls' := [some _, some _, some _, some _, some _, none, none]) ⟨rfl, rfl, rfl, rfl, rfl, trivial⟩ ?_
        exact s_L_law__j1180 hG hX9 hKb hf hK
      · replace hf := iteF c1175 hf
        refine V_iconst (v := 0) d_L_law__1178 ic_0 ?_
        cases hf
  · replace hf := iteF c1158 hf
    refine V_iconst (v := 0) d_L_law__1161 ic_0 ?_
    cases hf
theorem s_L_law__j1236 {G : Gl} (hG : G.1.stackTraces = false) {C : Cx} {n b9 K KS : Nat} {μ : Mem} {b9L : Nat} {xs : (Nat → Int32)} {l4 : Int32} (hX9 : ScX G C b9 b9L xs) (hKb : K + 8 ≤ 500000 ∧ KS + 48 ≤ 5000000) {r : Mem} (hf : f_L_law__j1236 μ b9L xs l4 = some r) (hK : ∀ n, V G C F_L_law_ 2708 [some (.ref b9), some (.ref (G.2.1 + 0)), some (.ref (G.2.1 + 264)), some (.ref (G.2.1 + 275)), some (.int l4), none, none] [] (pic G r) n (K + 8) (KS + 48)) : V G C F_L_law_ 1236 [some (.ref b9), some (.ref (G.2.1 + 0)), some (.ref (G.2.1 + 264)), some (.ref (G.2.1 + 275)), some (.int l4), none, none] [] (pic G μ) n (K + 1) (KS + 6) := by
  unfold f_L_law__j1236 at hf
  refine V_goto (tgt := 2708) d_L_law__1236 (by decide) ?_
  refine V_widen (k2 := K + 8) (s2 := KS + 48) (by omega) (by omega) ?_
  refine V_less (ls' := [some _, some _, some _, some _, some _, none, none]) ⟨rfl, rfl, rfl, rfl, rfl, trivial⟩ ?_
  cases hf
  exact hK _
theorem s_L_law__j1183 {G : Gl} (hG : G.1.stackTraces = false) {C : Cx} {n b9 K KS : Nat} {μ : Mem} {b9L : Nat} {xs : (Nat → Int32)} {l4 : Int32} (hX9 : ScX G C b9 b9L xs) (hKb : K + 8 ≤ 500000 ∧ KS + 48 ≤ 5000000) {r : Mem} (hf : f_L_law__j1183 μ b9L xs l4 = some r) (hK : ∀ n, V G C F_L_law_ 2708 [some (.ref b9), some (.ref (G.2.1 + 0)), some (.ref (G.2.1 + 264)), some (.ref (G.2.1 + 275)), some (.int l4), none, none] [] (pic G r) n (K + 8) (KS + 48)) : V G C F_L_law_ 1183 [some (.ref b9), some (.ref (G.2.1 + 0)), some (.ref (G.2.1 + 264)), some (.ref (G.2.1 + 275)), some (.int l4), none, none] [] (pic G μ) n (K + 0) (KS + 0) := by
  unfold f_L_law__j1183 at hf
  refine V_aload_n d_L_law__1183 rfl rfl ?_
  refine V_aload_n d_L_law__1184 rfl rfl ?_
  refine V_iload d_L_law__1185 rfl ?_
  refine V_iconst (v := 1) d_L_law__1187 ic_1 ?_
  refine V_iadd d_L_law__1188 ?_
  obtain ⟨t1, ht1, hf⟩ := ob hf
  refine V_sld hX9 ht1 d_L_law__1189 ?_
  refine V_aload_n d_L_law__1190 rfl rfl ?_
  obtain ⟨q2, hq2, hf⟩ := ob hf
  refine B_callSH (s_L_days hG hq2) (kc' := (K + 1)) (ks' := (KS + 6)) m_L_days ks_RL_191 d_L_law__1191 rfl (Nat.le_of_ble_eq_true rfl) ⟨rfl, rfl, (show K + 1 ≤ 500000 by omega), (show KS + 6 ≤ 5000000 by omega), Nat.le_of_ble_eq_true rfl⟩ (fun n => ?_)
  refine V_istore (ls' := [_, _, _, _, _, _, _]) d_L_law__1194 rfl rfl ?_
  refine V_aload_n d_L_law__1196 rfl rfl ?_
  refine V_aload_n d_L_law__1197 rfl rfl ?_
  refine V_iload d_L_law__1198 rfl ?_
  refine V_iconst (v := 1) d_L_law__1200 ic_1 ?_
  refine V_iadd d_L_law__1201 ?_
  obtain ⟨t3, ht3, hf⟩ := ob hf
  refine V_sld hX9 ht3 d_L_law__1202 ?_
  obtain ⟨q4, hq4, hf⟩ := ob hf
  refine B_callV1 (s_X12_days hG hq4) k_264 clX12 m_X12_days kv_RL_193 d_L_law__1203 rfl (Nat.le_of_ble_eq_true rfl) ⟨rfl, rfl, (show K + 1 ≤ 500000 by omega), (show KS + 6 ≤ 5000000 by omega), Nat.le_of_ble_eq_true rfl⟩ (fun n => ?_)
  refine V_istore (ls' := [_, _, _, _, _, _, _]) d_L_law__1206 rfl rfl ?_
  refine V_aload_n d_L_law__1208 rfl rfl ?_
  obtain ⟨t5, ht5, hf⟩ := ob hf
  refine B_callV1 (s_X12_thrown hG ht5) k_264 clX12 m_X12_thrown kv_RL_145 d_L_law__1209 rfl (Nat.le_of_ble_eq_true rfl) ⟨rfl, rfl, (show K + 1 ≤ 500000 by omega), (show KS + 6 ≤ 5000000 by omega), Nat.le_of_ble_eq_true rfl⟩ (fun n => ?_)
  refine V_iload d_L_law__1212 rfl ?_
  refine V_icmp_eq (tgt := 1219) d_L_law__1214 (by decide) (fun c1214 => ?_) (fun c1214 => ?_)
  · replace hf := iteT c1214 hf
    refine V_iload d_L_law__1219 rfl ?_
    refine V_if_ne (tgt := 1236) d_L_law__1221 (by decide) (fun c1221 => ?_) (fun c1221 => ?_)
    · replace hf := iteF c1221 hf
      refine V_less (ls' := [some _, some _, some _, some _, some _, none, none]) ⟨rfl, rfl, rfl, rfl, rfl, trivial⟩ ?_
      exact s_L_law__j1236 hG hX9 hKb hf hK
    · replace hf := iteT c1221 hf
      refine V_aload_n d_L_law__1224 rfl rfl ?_
      refine V_iconst (v := 0) d_L_law__1225 ic_0 ?_
      obtain ⟨t6, ht6, hf⟩ := ob hf
      refine B_lald k_275 ht6 d_L_law__1226 ?_
      refine V_iload d_L_law__1227 rfl ?_
      refine V_i2l d_L_law__1229 ?_
      refine V_lcmp d_L_law__1230 ?_
      refine V_if_eq (tgt := 1236) d_L_law__1231 (by decide) (fun c1231 => ?_) (fun c1231 => ?_)
      · replace hf := iteT c1231 hf
        refine V_less (ls' := [some _, some _, some _, some _, some _, none, none]) ⟨rfl, rfl, rfl, rfl, rfl, trivial⟩ ?_
        exact s_L_law__j1236 hG hX9 hKb hf hK
      · replace hf := iteF c1231 hf
        refine V_iconst (v := 0) d_L_law__1234 ic_0 ?_
        cases hf
  · replace hf := iteF c1214 hf
    refine V_iconst (v := 0) d_L_law__1217 ic_0 ?_
    cases hf
theorem s_L_law__j1239 {G : Gl} (hG : G.1.stackTraces = false) {C : Cx} {n b9 K KS : Nat} {μ : Mem} {b9L : Nat} {xs : (Nat → Int32)} {l4 : Int32} (hX9 : ScX G C b9 b9L xs) (hKb : K + 8 ≤ 500000 ∧ KS + 48 ≤ 5000000) {r : Mem} (hf : f_L_law__j1239 μ b9L xs l4 = some r) (hK : ∀ n, V G C F_L_law_ 2708 [some (.ref b9), some (.ref (G.2.1 + 0)), some (.ref (G.2.1 + 264)), some (.ref (G.2.1 + 275)), some (.int l4), none, none] [] (pic G r) n (K + 8) (KS + 48)) : V G C F_L_law_ 1239 [some (.ref b9), some (.ref (G.2.1 + 0)), some (.ref (G.2.1 + 264)), some (.ref (G.2.1 + 275)), some (.int l4), none, none] [] (pic G μ) n (K + 0) (KS + 0) := by
  unfold f_L_law__j1239 at hf
  refine V_aload_n d_L_law__1239 rfl rfl ?_
  obtain ⟨t1, ht1, hf⟩ := ob hf
  refine B_callV1 (s_X11_solvent hG ht1) k_0 clX11 m_X11_solvent kv_RL_194 d_L_law__1240 rfl (Nat.le_of_ble_eq_true rfl) ⟨rfl, rfl, (show K + 0 ≤ 500000 by omega), (show KS + 0 ≤ 5000000 by omega), Nat.le_of_ble_eq_true rfl⟩ (fun n => ?_)
  refine V_aload_n d_L_law__1243 rfl rfl ?_
  obtain ⟨q2, hq2, hf⟩ := ob hf
  refine B_callV1 (s_X12_solvent hG hq2) k_264 clX12 m_X12_solvent kv_RL_197 d_L_law__1244 rfl (Nat.le_of_ble_eq_true rfl) ⟨rfl, rfl, (show K + 0 ≤ 500000 by omega), (show KS + 0 ≤ 5000000 by omega), Nat.le_of_ble_eq_true rfl⟩ (fun n => ?_)
  refine V_icmp_eq (tgt := 2708) d_L_law__1247 (by decide) (fun c1247 => ?_) (fun c1247 => ?_)
  · replace hf := iteT c1247 hf
    refine V_widen (k2 := K + 8) (s2 := KS + 48) (by omega) (by omega) ?_
    refine V_less (ls' := [some _, some _, some _, some _, some _, none, none]) ⟨rfl, rfl, rfl, rfl, rfl, trivial⟩ ?_
    cases hf
    exact hK _
  · replace hf := iteF c1247 hf
    refine V_iconst (v := 0) d_L_law__1250 ic_0 ?_
    cases hf
theorem s_L_law__j1317 {G : Gl} (hG : G.1.stackTraces = false) {C : Cx} {n b9 K KS : Nat} {μ : Mem} {b9L : Nat} {xs : (Nat → Int32)} {l4 : Int32} (hX9 : ScX G C b9 b9L xs) (hKb : K + 8 ≤ 500000 ∧ KS + 48 ≤ 5000000) {r : Mem} (hf : f_L_law__j1317 μ b9L xs l4 = some r) (hK : ∀ n, V G C F_L_law_ 2708 [some (.ref b9), some (.ref (G.2.1 + 0)), some (.ref (G.2.1 + 264)), some (.ref (G.2.1 + 275)), some (.int l4), none, none] [] (pic G r) n (K + 8) (KS + 48)) : V G C F_L_law_ 1317 [some (.ref b9), some (.ref (G.2.1 + 0)), some (.ref (G.2.1 + 264)), some (.ref (G.2.1 + 275)), some (.int l4), none, none] [] (pic G μ) n (K + 2) (KS + 12) := by
  unfold f_L_law__j1317 at hf
  refine V_goto (tgt := 2708) d_L_law__1317 (by decide) ?_
  refine V_widen (k2 := K + 8) (s2 := KS + 48) (by omega) (by omega) ?_
  refine V_less (ls' := [some _, some _, some _, some _, some _, none, none]) ⟨rfl, rfl, rfl, rfl, rfl, trivial⟩ ?_
  cases hf
  exact hK _
theorem s_L_law__j1252 {G : Gl} (hG : G.1.stackTraces = false) {C : Cx} {n b9 K KS : Nat} {μ : Mem} {b9L : Nat} {xs : (Nat → Int32)} {l4 : Int32} (hX9 : ScX G C b9 b9L xs) (hKb : K + 8 ≤ 500000 ∧ KS + 48 ≤ 5000000) {r : Mem} (hf : f_L_law__j1252 μ b9L xs l4 = some r) (hK : ∀ n, V G C F_L_law_ 2708 [some (.ref b9), some (.ref (G.2.1 + 0)), some (.ref (G.2.1 + 264)), some (.ref (G.2.1 + 275)), some (.int l4), none, none] [] (pic G r) n (K + 8) (KS + 48)) : V G C F_L_law_ 1252 [some (.ref b9), some (.ref (G.2.1 + 0)), some (.ref (G.2.1 + 264)), some (.ref (G.2.1 + 275)), some (.int l4), none, none] [] (pic G μ) n (K + 0) (KS + 0) := by
  unfold f_L_law__j1252 at hf
  refine V_aload_n d_L_law__1252 rfl rfl ?_
  refine V_aload_n d_L_law__1253 rfl rfl ?_
  refine V_iload d_L_law__1254 rfl ?_
  refine V_iconst (v := 1) d_L_law__1256 ic_1 ?_
  refine V_iadd d_L_law__1257 ?_
  obtain ⟨t1, ht1, hf⟩ := ob hf
  refine V_sld hX9 ht1 d_L_law__1258 ?_
  refine V_aload_n d_L_law__1259 rfl rfl ?_
  refine V_iload d_L_law__1260 rfl ?_
  refine V_iconst (v := 2) d_L_law__1262 ic_2 ?_
  refine V_iadd d_L_law__1263 ?_
  obtain ⟨t2, ht2, hf⟩ := ob hf
  refine V_sld hX9 ht2 d_L_law__1264 ?_
  refine V_aload_n d_L_law__1265 rfl rfl ?_
  obtain ⟨q3, hq3, hf⟩ := ob hf
  refine B_callSH (s_L_comes hG hq3) (kc' := (K + 2)) (ks' := (KS + 12)) m_L_comes ks_RL_198 d_L_law__1266 rfl (Nat.le_of_ble_eq_true rfl) ⟨rfl, rfl, (show K + 2 ≤ 500000 by omega), (show KS + 12 ≤ 5000000 by omega), Nat.le_of_ble_eq_true rfl⟩ (fun n => ?_)
  refine V_istore (ls' := [_, _, _, _, _, _, _]) d_L_law__1269 rfl rfl ?_
  refine V_aload_n d_L_law__1271 rfl rfl ?_
  refine V_aload_n d_L_law__1272 rfl rfl ?_
  refine V_iload d_L_law__1273 rfl ?_
  refine V_iconst (v := 1) d_L_law__1275 ic_1 ?_
  refine V_iadd d_L_law__1276 ?_
  obtain ⟨t4, ht4, hf⟩ := ob hf
  refine V_sld hX9 ht4 d_L_law__1277 ?_
  refine V_aload_n d_L_law__1278 rfl rfl ?_
  refine V_iload d_L_law__1279 rfl ?_
  refine V_iconst (v := 2) d_L_law__1281 ic_2 ?_
  refine V_iadd d_L_law__1282 ?_
  obtain ⟨t5, ht5, hf⟩ := ob hf
  refine V_sld hX9 ht5 d_L_law__1283 ?_
  obtain ⟨q6, hq6, hf⟩ := ob hf
  refine B_callV1 (s_X12_comes hG hq6) k_264 clX12 m_X12_comes kv_RL_200 d_L_law__1284 rfl (Nat.le_of_ble_eq_true rfl) ⟨rfl, rfl, (show K + 2 ≤ 500000 by omega), (show KS + 12 ≤ 5000000 by omega), Nat.le_of_ble_eq_true rfl⟩ (fun n => ?_)
  refine V_istore (ls' := [_, _, _, _, _, _, _]) d_L_law__1287 rfl rfl ?_
  refine V_aload_n d_L_law__1289 rfl rfl ?_
  obtain ⟨t7, ht7, hf⟩ := ob hf
  refine B_callV1 (s_X12_thrown hG ht7) k_264 clX12 m_X12_thrown kv_RL_145 d_L_law__1290 rfl (Nat.le_of_ble_eq_true rfl) ⟨rfl, rfl, (show K + 2 ≤ 500000 by omega), (show KS + 12 ≤ 5000000 by omega), Nat.le_of_ble_eq_true rfl⟩ (fun n => ?_)
  refine V_iload d_L_law__1293 rfl ?_
  refine V_icmp_eq (tgt := 1300) d_L_law__1295 (by decide) (fun c1295 => ?_) (fun c1295 => ?_)
  · replace hf := iteT c1295 hf
    refine V_iload d_L_law__1300 rfl ?_
    refine V_if_ne (tgt := 1317) d_L_law__1302 (by decide) (fun c1302 => ?_) (fun c1302 => ?_)
    · replace hf := iteF c1302 hf
      refine V_less (ls' := [some _, some _, some _, some _, some _, none, none]) ⟨rfl, rfl, rfl, rfl, rfl, trivial⟩ ?_
      exact s_L_law__j1317 hG hX9 hKb hf hK
    · replace hf := iteT c1302 hf
      refine V_aload_n d_L_law__1305 rfl rfl ?_
      refine V_iconst (v := 0) d_L_law__1306 ic_0 ?_
      obtain ⟨t8, ht8, hf⟩ := ob hf
      refine B_lald k_275 ht8 d_L_law__1307 ?_
      refine V_iload d_L_law__1308 rfl ?_
      refine V_i2l d_L_law__1310 ?_
      refine V_lcmp d_L_law__1311 ?_
      refine V_if_eq (tgt := 1317) d_L_law__1312 (by decide) (fun c1312 => ?_) (fun c1312 => ?_)
      · replace hf := iteT c1312 hf
        refine V_less (ls' := [some _, some _, some _, some _, some _, none, none]) ⟨rfl, rfl, rfl, rfl, rfl, trivial⟩ ?_
        exact s_L_law__j1317 hG hX9 hKb hf hK
      · replace hf := iteF c1312 hf
        refine V_iconst (v := 0) d_L_law__1315 ic_0 ?_
        cases hf
  · replace hf := iteF c1295 hf
    refine V_iconst (v := 0) d_L_law__1298 ic_0 ?_
    cases hf
theorem s_L_law__j1373 {G : Gl} (hG : G.1.stackTraces = false) {C : Cx} {n b9 K KS : Nat} {μ : Mem} {b9L : Nat} {xs : (Nat → Int32)} {l4 : Int32} (hX9 : ScX G C b9 b9L xs) (hKb : K + 8 ≤ 500000 ∧ KS + 48 ≤ 5000000) {r : Mem} (hf : f_L_law__j1373 μ b9L xs l4 = some r) (hK : ∀ n, V G C F_L_law_ 2708 [some (.ref b9), some (.ref (G.2.1 + 0)), some (.ref (G.2.1 + 264)), some (.ref (G.2.1 + 275)), some (.int l4), none, none] [] (pic G r) n (K + 8) (KS + 48)) : V G C F_L_law_ 1373 [some (.ref b9), some (.ref (G.2.1 + 0)), some (.ref (G.2.1 + 264)), some (.ref (G.2.1 + 275)), some (.int l4), none, none] [] (pic G μ) n (K + 1) (KS + 6) := by
  unfold f_L_law__j1373 at hf
  refine V_goto (tgt := 2708) d_L_law__1373 (by decide) ?_
  refine V_widen (k2 := K + 8) (s2 := KS + 48) (by omega) (by omega) ?_
  refine V_less (ls' := [some _, some _, some _, some _, some _, none, none]) ⟨rfl, rfl, rfl, rfl, rfl, trivial⟩ ?_
  cases hf
  exact hK _
theorem s_L_law__j1320 {G : Gl} (hG : G.1.stackTraces = false) {C : Cx} {n b9 K KS : Nat} {μ : Mem} {b9L : Nat} {xs : (Nat → Int32)} {l4 : Int32} (hX9 : ScX G C b9 b9L xs) (hKb : K + 8 ≤ 500000 ∧ KS + 48 ≤ 5000000) {r : Mem} (hf : f_L_law__j1320 μ b9L xs l4 = some r) (hK : ∀ n, V G C F_L_law_ 2708 [some (.ref b9), some (.ref (G.2.1 + 0)), some (.ref (G.2.1 + 264)), some (.ref (G.2.1 + 275)), some (.int l4), none, none] [] (pic G r) n (K + 8) (KS + 48)) : V G C F_L_law_ 1320 [some (.ref b9), some (.ref (G.2.1 + 0)), some (.ref (G.2.1 + 264)), some (.ref (G.2.1 + 275)), some (.int l4), none, none] [] (pic G μ) n (K + 0) (KS + 0) := by
  unfold f_L_law__j1320 at hf
  refine V_aload_n d_L_law__1320 rfl rfl ?_
  refine V_aload_n d_L_law__1321 rfl rfl ?_
  refine V_iload d_L_law__1322 rfl ?_
  refine V_iconst (v := 1) d_L_law__1324 ic_1 ?_
  refine V_iadd d_L_law__1325 ?_
  obtain ⟨t1, ht1, hf⟩ := ob hf
  refine V_sld hX9 ht1 d_L_law__1326 ?_
  refine V_aload_n d_L_law__1327 rfl rfl ?_
  obtain ⟨q2, hq2, hf⟩ := ob hf
  refine B_callSH (s_L_soonest hG hq2) (kc' := (K + 1)) (ks' := (KS + 6)) m_L_soonest ks_RL_201 d_L_law__1328 rfl (Nat.le_of_ble_eq_true rfl) ⟨rfl, rfl, (show K + 1 ≤ 500000 by omega), (show KS + 6 ≤ 5000000 by omega), Nat.le_of_ble_eq_true rfl⟩ (fun n => ?_)
  refine V_istore (ls' := [_, _, _, _, _, _, _]) d_L_law__1331 rfl rfl ?_
  refine V_aload_n d_L_law__1333 rfl rfl ?_
  refine V_aload_n d_L_law__1334 rfl rfl ?_
  refine V_iload d_L_law__1335 rfl ?_
  refine V_iconst (v := 1) d_L_law__1337 ic_1 ?_
  refine V_iadd d_L_law__1338 ?_
  obtain ⟨t3, ht3, hf⟩ := ob hf
  refine V_sld hX9 ht3 d_L_law__1339 ?_
  obtain ⟨q4, hq4, hf⟩ := ob hf
  refine B_callV1 (s_X12_soonest hG hq4) k_264 clX12 m_X12_soonest kv_RL_203 d_L_law__1340 rfl (Nat.le_of_ble_eq_true rfl) ⟨rfl, rfl, (show K + 1 ≤ 500000 by omega), (show KS + 6 ≤ 5000000 by omega), Nat.le_of_ble_eq_true rfl⟩ (fun n => ?_)
  refine V_istore (ls' := [_, _, _, _, _, _, _]) d_L_law__1343 rfl rfl ?_
  refine V_aload_n d_L_law__1345 rfl rfl ?_
  obtain ⟨t5, ht5, hf⟩ := ob hf
  refine B_callV1 (s_X12_thrown hG ht5) k_264 clX12 m_X12_thrown kv_RL_145 d_L_law__1346 rfl (Nat.le_of_ble_eq_true rfl) ⟨rfl, rfl, (show K + 1 ≤ 500000 by omega), (show KS + 6 ≤ 5000000 by omega), Nat.le_of_ble_eq_true rfl⟩ (fun n => ?_)
  refine V_iload d_L_law__1349 rfl ?_
  refine V_icmp_eq (tgt := 1356) d_L_law__1351 (by decide) (fun c1351 => ?_) (fun c1351 => ?_)
  · replace hf := iteT c1351 hf
    refine V_iload d_L_law__1356 rfl ?_
    refine V_if_ne (tgt := 1373) d_L_law__1358 (by decide) (fun c1358 => ?_) (fun c1358 => ?_)
    · replace hf := iteF c1358 hf
      refine V_less (ls' := [some _, some _, some _, some _, some _, none, none]) ⟨rfl, rfl, rfl, rfl, rfl, trivial⟩ ?_
      exact s_L_law__j1373 hG hX9 hKb hf hK
    · replace hf := iteT c1358 hf
      refine V_aload_n d_L_law__1361 rfl rfl ?_
      refine V_iconst (v := 0) d_L_law__1362 ic_0 ?_
      obtain ⟨t6, ht6, hf⟩ := ob hf
      refine B_lald k_275 ht6 d_L_law__1363 ?_
      refine V_iload d_L_law__1364 rfl ?_
      refine V_i2l d_L_law__1366 ?_
      refine V_lcmp d_L_law__1367 ?_
      refine V_if_eq (tgt := 1373) d_L_law__1368 (by decide) (fun c1368 => ?_) (fun c1368 => ?_)
      · replace hf := iteT c1368 hf
        refine V_less (ls' := [some _, some _, some _, some _, some _, none, none]) ⟨rfl, rfl, rfl, rfl, rfl, trivial⟩ ?_
        exact s_L_law__j1373 hG hX9 hKb hf hK
      · replace hf := iteF c1368 hf
        refine V_iconst (v := 0) d_L_law__1371 ic_0 ?_
        cases hf
  · replace hf := iteF c1351 hf
    refine V_iconst (v := 0) d_L_law__1354 ic_0 ?_
    cases hf
theorem s_L_law__j1429 {G : Gl} (hG : G.1.stackTraces = false) {C : Cx} {n b9 K KS : Nat} {μ : Mem} {b9L : Nat} {xs : (Nat → Int32)} {l4 : Int32} (hX9 : ScX G C b9 b9L xs) (hKb : K + 8 ≤ 500000 ∧ KS + 48 ≤ 5000000) {r : Mem} (hf : f_L_law__j1429 μ b9L xs l4 = some r) (hK : ∀ n, V G C F_L_law_ 2708 [some (.ref b9), some (.ref (G.2.1 + 0)), some (.ref (G.2.1 + 264)), some (.ref (G.2.1 + 275)), some (.int l4), none, none] [] (pic G r) n (K + 8) (KS + 48)) : V G C F_L_law_ 1429 [some (.ref b9), some (.ref (G.2.1 + 0)), some (.ref (G.2.1 + 264)), some (.ref (G.2.1 + 275)), some (.int l4), none, none] [] (pic G μ) n (K + 2) (KS + 12) := by
  unfold f_L_law__j1429 at hf
  refine V_goto (tgt := 2708) d_L_law__1429 (by decide) ?_
  refine V_widen (k2 := K + 8) (s2 := KS + 48) (by omega) (by omega) ?_
  refine V_less (ls' := [some _, some _, some _, some _, some _, none, none]) ⟨rfl, rfl, rfl, rfl, rfl, trivial⟩ ?_
  cases hf
  exact hK _
theorem s_L_law__j1376 {G : Gl} (hG : G.1.stackTraces = false) {C : Cx} {n b9 K KS : Nat} {μ : Mem} {b9L : Nat} {xs : (Nat → Int32)} {l4 : Int32} (hX9 : ScX G C b9 b9L xs) (hKb : K + 8 ≤ 500000 ∧ KS + 48 ≤ 5000000) {r : Mem} (hf : f_L_law__j1376 μ b9L xs l4 = some r) (hK : ∀ n, V G C F_L_law_ 2708 [some (.ref b9), some (.ref (G.2.1 + 0)), some (.ref (G.2.1 + 264)), some (.ref (G.2.1 + 275)), some (.int l4), none, none] [] (pic G r) n (K + 8) (KS + 48)) : V G C F_L_law_ 1376 [some (.ref b9), some (.ref (G.2.1 + 0)), some (.ref (G.2.1 + 264)), some (.ref (G.2.1 + 275)), some (.int l4), none, none] [] (pic G μ) n (K + 0) (KS + 0) := by
  unfold f_L_law__j1376 at hf
  refine V_aload_n d_L_law__1376 rfl rfl ?_
  refine V_aload_n d_L_law__1377 rfl rfl ?_
  refine V_iload d_L_law__1378 rfl ?_
  refine V_iconst (v := 1) d_L_law__1380 ic_1 ?_
  refine V_iadd d_L_law__1381 ?_
  obtain ⟨t1, ht1, hf⟩ := ob hf
  refine V_sld hX9 ht1 d_L_law__1382 ?_
  refine V_aload_n d_L_law__1383 rfl rfl ?_
  obtain ⟨q2, hq2, hf⟩ := ob hf
  refine B_callSH (s_L_carry hG hq2) (kc' := (K + 2)) (ks' := (KS + 12)) m_L_carry ks_RL_204 d_L_law__1384 rfl (Nat.le_of_ble_eq_true rfl) ⟨rfl, rfl, (show K + 2 ≤ 500000 by omega), (show KS + 12 ≤ 5000000 by omega), Nat.le_of_ble_eq_true rfl⟩ (fun n => ?_)
  refine V_istore (ls' := [_, _, _, _, _, _, _]) d_L_law__1387 rfl rfl ?_
  refine V_aload_n d_L_law__1389 rfl rfl ?_
  refine V_aload_n d_L_law__1390 rfl rfl ?_
  refine V_iload d_L_law__1391 rfl ?_
  refine V_iconst (v := 1) d_L_law__1393 ic_1 ?_
  refine V_iadd d_L_law__1394 ?_
  obtain ⟨t3, ht3, hf⟩ := ob hf
  refine V_sld hX9 ht3 d_L_law__1395 ?_
  obtain ⟨q4, hq4, hf⟩ := ob hf
  refine B_callV1 (s_X12_carry hG hq4) k_264 clX12 m_X12_carry kv_RL_206 d_L_law__1396 rfl (Nat.le_of_ble_eq_true rfl) ⟨rfl, rfl, (show K + 2 ≤ 500000 by omega), (show KS + 12 ≤ 5000000 by omega), Nat.le_of_ble_eq_true rfl⟩ (fun n => ?_)
  refine V_istore (ls' := [_, _, _, _, _, _, _]) d_L_law__1399 rfl rfl ?_
  refine V_aload_n d_L_law__1401 rfl rfl ?_
  obtain ⟨t5, ht5, hf⟩ := ob hf
  refine B_callV1 (s_X12_thrown hG ht5) k_264 clX12 m_X12_thrown kv_RL_145 d_L_law__1402 rfl (Nat.le_of_ble_eq_true rfl) ⟨rfl, rfl, (show K + 2 ≤ 500000 by omega), (show KS + 12 ≤ 5000000 by omega), Nat.le_of_ble_eq_true rfl⟩ (fun n => ?_)
  refine V_iload d_L_law__1405 rfl ?_
  refine V_icmp_eq (tgt := 1412) d_L_law__1407 (by decide) (fun c1407 => ?_) (fun c1407 => ?_)
  · replace hf := iteT c1407 hf
    refine V_iload d_L_law__1412 rfl ?_
    refine V_if_ne (tgt := 1429) d_L_law__1414 (by decide) (fun c1414 => ?_) (fun c1414 => ?_)
    · replace hf := iteF c1414 hf
      refine V_less (ls' := [some _, some _, some _, some _, some _, none, none]) ⟨rfl, rfl, rfl, rfl, rfl, trivial⟩ ?_
      exact s_L_law__j1429 hG hX9 hKb hf hK
    · replace hf := iteT c1414 hf
      refine V_aload_n d_L_law__1417 rfl rfl ?_
      refine V_iconst (v := 0) d_L_law__1418 ic_0 ?_
      obtain ⟨t6, ht6, hf⟩ := ob hf
      refine B_lald k_275 ht6 d_L_law__1419 ?_
      refine V_iload d_L_law__1420 rfl ?_
      refine V_i2l d_L_law__1422 ?_
      refine V_lcmp d_L_law__1423 ?_
      refine V_if_eq (tgt := 1429) d_L_law__1424 (by decide) (fun c1424 => ?_) (fun c1424 => ?_)
      · replace hf := iteT c1424 hf
        refine V_less (ls' := [some _, some _, some _, some _, some _, none, none]) ⟨rfl, rfl, rfl, rfl, rfl, trivial⟩ ?_
        exact s_L_law__j1429 hG hX9 hKb hf hK
      · replace hf := iteF c1424 hf
        refine V_iconst (v := 0) d_L_law__1427 ic_0 ?_
        cases hf
  · replace hf := iteF c1407 hf
    refine V_iconst (v := 0) d_L_law__1410 ic_0 ?_
    cases hf
theorem s_L_law__j1525 {G : Gl} (hG : G.1.stackTraces = false) {C : Cx} {n b9 K KS : Nat} {μ : Mem} {b9L : Nat} {xs : (Nat → Int32)} {l4 : Int32} (hX9 : ScX G C b9 b9L xs) (hKb : K + 8 ≤ 500000 ∧ KS + 48 ≤ 5000000) {r : Mem} (hf : f_L_law__j1525 μ b9L xs l4 = some r) (hK : ∀ n, V G C F_L_law_ 2708 [some (.ref b9), some (.ref (G.2.1 + 0)), some (.ref (G.2.1 + 264)), some (.ref (G.2.1 + 275)), some (.int l4), none, none] [] (pic G r) n (K + 8) (KS + 48)) : V G C F_L_law_ 1525 [some (.ref b9), some (.ref (G.2.1 + 0)), some (.ref (G.2.1 + 264)), some (.ref (G.2.1 + 275)), some (.int l4), none, none] [] (pic G μ) n (K + 2) (KS + 12) := by
  unfold f_L_law__j1525 at hf
  refine V_goto (tgt := 2708) d_L_law__1525 (by decide) ?_
  refine V_widen (k2 := K + 8) (s2 := KS + 48) (by omega) (by omega) ?_
  refine V_less (ls' := [some _, some _, some _, some _, some _, none, none]) ⟨rfl, rfl, rfl, rfl, rfl, trivial⟩ ?_
  cases hf
  exact hK _
theorem s_L_law__j1432 {G : Gl} (hG : G.1.stackTraces = false) {C : Cx} {n b9 K KS : Nat} {μ : Mem} {b9L : Nat} {xs : (Nat → Int32)} {l4 : Int32} (hX9 : ScX G C b9 b9L xs) (hKb : K + 8 ≤ 500000 ∧ KS + 48 ≤ 5000000) {r : Mem} (hf : f_L_law__j1432 μ b9L xs l4 = some r) (hK : ∀ n, V G C F_L_law_ 2708 [some (.ref b9), some (.ref (G.2.1 + 0)), some (.ref (G.2.1 + 264)), some (.ref (G.2.1 + 275)), some (.int l4), none, none] [] (pic G r) n (K + 8) (KS + 48)) : V G C F_L_law_ 1432 [some (.ref b9), some (.ref (G.2.1 + 0)), some (.ref (G.2.1 + 264)), some (.ref (G.2.1 + 275)), some (.int l4), none, none] [] (pic G μ) n (K + 0) (KS + 0) := by
  unfold f_L_law__j1432 at hf
  refine V_aload_n d_L_law__1432 rfl rfl ?_
  refine V_aload_n d_L_law__1433 rfl rfl ?_
  refine V_iload d_L_law__1434 rfl ?_
  refine V_iconst (v := 1) d_L_law__1436 ic_1 ?_
  refine V_iadd d_L_law__1437 ?_
  obtain ⟨t1, ht1, hf⟩ := ob hf
  refine V_sld hX9 ht1 d_L_law__1438 ?_
  refine V_aload_n d_L_law__1439 rfl rfl ?_
  refine V_iload d_L_law__1440 rfl ?_
  refine V_iconst (v := 2) d_L_law__1442 ic_2 ?_
  refine V_iadd d_L_law__1443 ?_
  obtain ⟨t2, ht2, hf⟩ := ob hf
  refine V_sld hX9 ht2 d_L_law__1444 ?_
  refine V_aload_n d_L_law__1445 rfl rfl ?_
  refine V_iload d_L_law__1446 rfl ?_
  refine V_iconst (v := 3) d_L_law__1448 ic_3 ?_
  refine V_iadd d_L_law__1449 ?_
  obtain ⟨t3, ht3, hf⟩ := ob hf
  refine V_sld hX9 ht3 d_L_law__1450 ?_
  have hJj4 : ∀ j4 : Bool, j4 = (if t3 = 0 then (false : Bool) else true) → V G C F_L_law_ 1459 [some (.ref b9), some (.ref (G.2.1 + 0)), some (.ref (G.2.1 + 264)), some (.ref (G.2.1 + 275)), some (.int l4), none, none] [.int (b2i j4), .int t2, .int t1, .ref (G.2.1 + 0)] (pic G μ) n (K + 0) (KS + 0) := by
    intro j4 ej4
    subst ej4
    refine V_aload_n d_L_law__1459 rfl rfl ?_
    obtain ⟨q5, hq5, hf⟩ := ob hf
    refine B_callSH (s_L_ahead hG hq5) (kc' := (K + 2)) (ks' := (KS + 12)) m_L_ahead ks_RL_207 d_L_law__1460 rfl (Nat.le_of_ble_eq_true rfl) ⟨rfl, rfl, (show K + 2 ≤ 500000 by omega), (show KS + 12 ≤ 5000000 by omega), Nat.le_of_ble_eq_true rfl⟩ (fun n => ?_)
    refine V_istore (ls' := [_, _, _, _, _, _, _]) d_L_law__1463 rfl rfl ?_
    refine V_aload_n d_L_law__1465 rfl rfl ?_
    refine V_aload_n d_L_law__1466 rfl rfl ?_
    refine V_iload d_L_law__1467 rfl ?_
    refine V_iconst (v := 1) d_L_law__1469 ic_1 ?_
    refine V_iadd d_L_law__1470 ?_
    obtain ⟨t6, ht6, hf⟩ := ob hf
    refine V_sld hX9 ht6 d_L_law__1471 ?_
    refine V_aload_n d_L_law__1472 rfl rfl ?_
    refine V_iload d_L_law__1473 rfl ?_
    refine V_iconst (v := 2) d_L_law__1475 ic_2 ?_
    refine V_iadd d_L_law__1476 ?_
    obtain ⟨t7, ht7, hf⟩ := ob hf
    refine V_sld hX9 ht7 d_L_law__1477 ?_
    refine V_aload_n d_L_law__1478 rfl rfl ?_
    refine V_iload d_L_law__1479 rfl ?_
    refine V_iconst (v := 3) d_L_law__1481 ic_3 ?_
    refine V_iadd d_L_law__1482 ?_
    obtain ⟨t8, ht8, hf⟩ := ob hf
    refine V_sld hX9 ht8 d_L_law__1483 ?_
    have hJj9 : ∀ j9 : Bool, j9 = (if t8 = 0 then (false : Bool) else true) → V G C F_L_law_ 1492 [some (.ref b9), some (.ref (G.2.1 + 0)), some (.ref (G.2.1 + 264)), some (.ref (G.2.1 + 275)), some (.int l4), some (.int q5.1), none] [.int (b2i j9), .int t7, .int t6, .ref (G.2.1 + 264)] (pic G q5.2) n (K + 2) (KS + 12) := by
      intro j9 ej9
      subst ej9
      obtain ⟨q10, hq10, hf⟩ := ob hf
      refine B_callV1 (s_X12_ahead hG hq10) k_264 clX12 m_X12_ahead kv_RL_210 d_L_law__1492 rfl (Nat.le_of_ble_eq_true rfl) ⟨rfl, rfl, (show K + 2 ≤ 500000 by omega), (show KS + 12 ≤ 5000000 by omega), Nat.le_of_ble_eq_true rfl⟩ (fun n => ?_)
      refine V_istore (ls' := [_, _, _, _, _, _, _]) d_L_law__1495 rfl rfl ?_
      refine V_aload_n d_L_law__1497 rfl rfl ?_
      obtain ⟨t11, ht11, hf⟩ := ob hf
      refine B_callV1 (s_X12_thrown hG ht11) k_264 clX12 m_X12_thrown kv_RL_145 d_L_law__1498 rfl (Nat.le_of_ble_eq_true rfl) ⟨rfl, rfl, (show K + 2 ≤ 500000 by omega), (show KS + 12 ≤ 5000000 by omega), Nat.le_of_ble_eq_true rfl⟩ (fun n => ?_)
      refine V_iload d_L_law__1501 rfl ?_
      refine V_icmp_eq (tgt := 1508) d_L_law__1503 (by decide) (fun c1503 => ?_) (fun c1503 => ?_)
      · replace hf := iteT c1503 hf
        refine V_iload d_L_law__1508 rfl ?_
        refine V_if_ne (tgt := 1525) d_L_law__1510 (by decide) (fun c1510 => ?_) (fun c1510 => ?_)
        · replace hf := iteF c1510 hf
          refine V_less (ls' := [some _, some _, some _, some _, some _, none, none]) ⟨rfl, rfl, rfl, rfl, rfl, trivial⟩ ?_
          exact s_L_law__j1525 hG hX9 hKb hf hK
        · replace hf := iteT c1510 hf
          refine V_aload_n d_L_law__1513 rfl rfl ?_
          refine V_iconst (v := 0) d_L_law__1514 ic_0 ?_
          obtain ⟨t12, ht12, hf⟩ := ob hf
          refine B_lald k_275 ht12 d_L_law__1515 ?_
          refine V_iload d_L_law__1516 rfl ?_
          refine V_i2l d_L_law__1518 ?_
          refine V_lcmp d_L_law__1519 ?_
          refine V_if_eq (tgt := 1525) d_L_law__1520 (by decide) (fun c1520 => ?_) (fun c1520 => ?_)
          · replace hf := iteT c1520 hf
            refine V_less (ls' := [some _, some _, some _, some _, some _, none, none]) ⟨rfl, rfl, rfl, rfl, rfl, trivial⟩ ?_
            exact s_L_law__j1525 hG hX9 hKb hf hK
          · replace hf := iteF c1520 hf
            refine V_iconst (v := 0) d_L_law__1523 ic_0 ?_
            cases hf
      · replace hf := iteF c1503 hf
        refine V_iconst (v := 0) d_L_law__1506 ic_0 ?_
        cases hf
    refine V_if_eq (tgt := 1491) d_L_law__1484 (by decide) (fun c1484 => ?_) (fun c1484 => ?_)
    · refine V_iconst (v := 0) d_L_law__1491 ic_0 ?_
      refine V_less (ls' := [some _, some _, some _, some _, some _, some _, none]) ⟨rfl, rfl, rfl, rfl, rfl, rfl, trivial⟩ ?_
      exact hJj9 false (by rw [if_pos c1484])
    · refine V_iconst (v := 1) d_L_law__1487 ic_1 ?_
      refine V_goto (tgt := 1492) d_L_law__1488 (by decide) ?_
      refine V_less (ls' := [some _, some _, some _, some _, some _, some _, none]) ⟨rfl, rfl, rfl, rfl, rfl, rfl, trivial⟩ ?_
      exact hJj9 true (by rw [if_neg c1484])
  refine V_if_eq (tgt := 1458) d_L_law__1451 (by decide) (fun c1451 => ?_) (fun c1451 => ?_)
  · refine V_iconst (v := 0) d_L_law__1458 ic_0 ?_
    refine V_less (ls' := [some _, some _, some _, some _, some _, none, none]) ⟨rfl, rfl, rfl, rfl, rfl, trivial⟩ ?_
    exact hJj4 false (by rw [if_pos c1451])
  · refine V_iconst (v := 1) d_L_law__1454 ic_1 ?_
    refine V_goto (tgt := 1459) d_L_law__1455 (by decide) ?_
    refine V_less (ls' := [some _, some _, some _, some _, some _, none, none]) ⟨rfl, rfl, rfl, rfl, rfl, trivial⟩ ?_
    exact hJj4 true (by rw [if_neg c1451])
theorem s_L_law__j1528 {G : Gl} (hG : G.1.stackTraces = false) {C : Cx} {n b9 K KS : Nat} {μ : Mem} {b9L : Nat} {xs : (Nat → Int32)} {l4 : Int32} (hX9 : ScX G C b9 b9L xs) (hKb : K + 8 ≤ 500000 ∧ KS + 48 ≤ 5000000) {r : Mem} (hf : f_L_law__j1528 μ b9L xs l4 = some r) (hK : ∀ n, V G C F_L_law_ 2708 [some (.ref b9), some (.ref (G.2.1 + 0)), some (.ref (G.2.1 + 264)), some (.ref (G.2.1 + 275)), some (.int l4), none, none] [] (pic G r) n (K + 8) (KS + 48)) : V G C F_L_law_ 1528 [some (.ref b9), some (.ref (G.2.1 + 0)), some (.ref (G.2.1 + 264)), some (.ref (G.2.1 + 275)), some (.int l4), none, none] [] (pic G μ) n (K + 0) (KS + 0) := by
  unfold f_L_law__j1528 at hf
  refine V_aload_n d_L_law__1528 rfl rfl ?_
  obtain ⟨q1, hq1, hf⟩ := ob hf
  refine B_callV1 (s_X11_rings hG hq1) k_0 clX11 m_X11_rings kv_RL_211 d_L_law__1529 rfl (Nat.le_of_ble_eq_true rfl) ⟨rfl, rfl, (show K + 0 ≤ 500000 by omega), (show KS + 0 ≤ 5000000 by omega), Nat.le_of_ble_eq_true rfl⟩ (fun n => ?_)
  refine V_aload_n d_L_law__1532 rfl rfl ?_
  obtain ⟨q2, hq2, hf⟩ := ob hf
  refine B_callV1 (s_X12_rings hG hq2) k_264 clX12 m_X12_rings kv_RL_214 d_L_law__1533 rfl (Nat.le_of_ble_eq_true rfl) ⟨rfl, rfl, (show K + 0 ≤ 500000 by omega), (show KS + 0 ≤ 5000000 by omega), Nat.le_of_ble_eq_true rfl⟩ (fun n => ?_)
  refine V_icmp_eq (tgt := 2708) d_L_law__1536 (by decide) (fun c1536 => ?_) (fun c1536 => ?_)
  · replace hf := iteT c1536 hf
    refine V_widen (k2 := K + 8) (s2 := KS + 48) (by omega) (by omega) ?_
    refine V_less (ls' := [some _, some _, some _, some _, some _, none, none]) ⟨rfl, rfl, rfl, rfl, rfl, trivial⟩ ?_
    cases hf
    exact hK _
  · replace hf := iteF c1536 hf
    refine V_iconst (v := 0) d_L_law__1539 ic_0 ?_
    cases hf
theorem s_L_law__j1541 {G : Gl} (hG : G.1.stackTraces = false) {C : Cx} {n b9 K KS : Nat} {μ : Mem} {b9L : Nat} {xs : (Nat → Int32)} {l4 : Int32} (hX9 : ScX G C b9 b9L xs) (hKb : K + 8 ≤ 500000 ∧ KS + 48 ≤ 5000000) {r : Mem} (hf : f_L_law__j1541 μ b9L xs l4 = some r) (hK : ∀ n, V G C F_L_law_ 2708 [some (.ref b9), some (.ref (G.2.1 + 0)), some (.ref (G.2.1 + 264)), some (.ref (G.2.1 + 275)), some (.int l4), none, none] [] (pic G r) n (K + 8) (KS + 48)) : V G C F_L_law_ 1541 [some (.ref b9), some (.ref (G.2.1 + 0)), some (.ref (G.2.1 + 264)), some (.ref (G.2.1 + 275)), some (.int l4), none, none] [] (pic G μ) n (K + 0) (KS + 0) := by
  unfold f_L_law__j1541 at hf
  refine V_aload_n d_L_law__1541 rfl rfl ?_
  refine V_aload_n d_L_law__1542 rfl rfl ?_
  refine V_iload d_L_law__1543 rfl ?_
  refine V_iconst (v := 1) d_L_law__1545 ic_1 ?_
  refine V_iadd d_L_law__1546 ?_
  obtain ⟨t1, ht1, hf⟩ := ob hf
  refine V_sld hX9 ht1 d_L_law__1547 ?_
  have hJj2 : ∀ j2 : Bool, j2 = (if t1 = 0 then (false : Bool) else true) → V G C F_L_law_ 1556 [some (.ref b9), some (.ref (G.2.1 + 0)), some (.ref (G.2.1 + 264)), some (.ref (G.2.1 + 275)), some (.int l4), none, none] [.int (b2i j2), .ref (G.2.1 + 0)] (pic G μ) n (K + 0) (KS + 0) := by
    intro j2 ej2
    subst ej2
    obtain ⟨q3, hq3, hf⟩ := ob hf
    refine B_callV1 (s_X11_untie hG hq3) k_0 clX11 m_X11_untie kv_RL_215 d_L_law__1556 rfl (Nat.le_of_ble_eq_true rfl) ⟨rfl, rfl, (show K + 0 ≤ 500000 by omega), (show KS + 0 ≤ 5000000 by omega), Nat.le_of_ble_eq_true rfl⟩ (fun n => ?_)
    refine V_aload_n d_L_law__1559 rfl rfl ?_
    refine V_aload_n d_L_law__1560 rfl rfl ?_
    refine V_iload d_L_law__1561 rfl ?_
    refine V_iconst (v := 1) d_L_law__1563 ic_1 ?_
    refine V_iadd d_L_law__1564 ?_
    obtain ⟨t4, ht4, hf⟩ := ob hf
    refine V_sld hX9 ht4 d_L_law__1565 ?_
    have hJj5 : ∀ j5 : Bool, j5 = (if t4 = 0 then (false : Bool) else true) → V G C F_L_law_ 1574 [some (.ref b9), some (.ref (G.2.1 + 0)), some (.ref (G.2.1 + 264)), some (.ref (G.2.1 + 275)), some (.int l4), none, none] [.int (b2i j5), .ref (G.2.1 + 264), .int q3.1] (pic G q3.2) n (K + 0) (KS + 0) := by
      intro j5 ej5
      subst ej5
      obtain ⟨q6, hq6, hf⟩ := ob hf
      refine B_callV1 (s_X12_untie hG hq6) k_264 clX12 m_X12_untie kv_RL_218 d_L_law__1574 rfl (Nat.le_of_ble_eq_true rfl) ⟨rfl, rfl, (show K + 0 ≤ 500000 by omega), (show KS + 0 ≤ 5000000 by omega), Nat.le_of_ble_eq_true rfl⟩ (fun n => ?_)
      refine V_icmp_eq (tgt := 2708) d_L_law__1577 (by decide) (fun c1577 => ?_) (fun c1577 => ?_)
      · replace hf := iteT c1577 hf
        refine V_widen (k2 := K + 8) (s2 := KS + 48) (by omega) (by omega) ?_
        refine V_less (ls' := [some _, some _, some _, some _, some _, none, none]) ⟨rfl, rfl, rfl, rfl, rfl, trivial⟩ ?_
        cases hf
        exact hK _
      · replace hf := iteF c1577 hf
        refine V_iconst (v := 0) d_L_law__1580 ic_0 ?_
        cases hf
    refine V_if_eq (tgt := 1573) d_L_law__1566 (by decide) (fun c1566 => ?_) (fun c1566 => ?_)
    · refine V_iconst (v := 0) d_L_law__1573 ic_0 ?_
      refine V_less (ls' := [some _, some _, some _, some _, some _, none, none]) ⟨rfl, rfl, rfl, rfl, rfl, trivial⟩ ?_
      exact hJj5 false (by rw [if_pos c1566])
    · refine V_iconst (v := 1) d_L_law__1569 ic_1 ?_
      refine V_goto (tgt := 1574) d_L_law__1570 (by decide) ?_
      refine V_less (ls' := [some _, some _, some _, some _, some _, none, none]) ⟨rfl, rfl, rfl, rfl, rfl, trivial⟩ ?_
      exact hJj5 true (by rw [if_neg c1566])
  refine V_if_eq (tgt := 1555) d_L_law__1548 (by decide) (fun c1548 => ?_) (fun c1548 => ?_)
  · refine V_iconst (v := 0) d_L_law__1555 ic_0 ?_
    refine V_less (ls' := [some _, some _, some _, some _, some _, none, none]) ⟨rfl, rfl, rfl, rfl, rfl, trivial⟩ ?_
    exact hJj2 false (by rw [if_pos c1548])
  · refine V_iconst (v := 1) d_L_law__1551 ic_1 ?_
    refine V_goto (tgt := 1556) d_L_law__1552 (by decide) ?_
    refine V_less (ls' := [some _, some _, some _, some _, some _, none, none]) ⟨rfl, rfl, rfl, rfl, rfl, trivial⟩ ?_
    exact hJj2 true (by rw [if_neg c1548])
theorem s_L_law__j1654 {G : Gl} (hG : G.1.stackTraces = false) {C : Cx} {n b9 K KS : Nat} {μ : Mem} {b9L : Nat} {xs : (Nat → Int32)} {l4 : Int32} (hX9 : ScX G C b9 b9L xs) (hKb : K + 8 ≤ 500000 ∧ KS + 48 ≤ 5000000) {r : Mem} (hf : f_L_law__j1654 μ b9L xs l4 = some r) (hK : ∀ n, V G C F_L_law_ 2708 [some (.ref b9), some (.ref (G.2.1 + 0)), some (.ref (G.2.1 + 264)), some (.ref (G.2.1 + 275)), some (.int l4), none, none] [] (pic G r) n (K + 8) (KS + 48)) : V G C F_L_law_ 1654 [some (.ref b9), some (.ref (G.2.1 + 0)), some (.ref (G.2.1 + 264)), some (.ref (G.2.1 + 275)), some (.int l4), none, none] [] (pic G μ) n (K + 3) (KS + 18) := by
  unfold f_L_law__j1654 at hf
  refine V_goto (tgt := 2708) d_L_law__1654 (by decide) ?_
  refine V_widen (k2 := K + 8) (s2 := KS + 48) (by omega) (by omega) ?_
  refine V_less (ls' := [some _, some _, some _, some _, some _, none, none]) ⟨rfl, rfl, rfl, rfl, rfl, trivial⟩ ?_
  cases hf
  exact hK _
theorem s_L_law__j1648 {G : Gl} (hG : G.1.stackTraces = false) {C : Cx} {n b9 K KS : Nat} {μ : Mem} {b9L : Nat} {xs : (Nat → Int32)} {l4 : Int32} {k0 : Int32} {k1 : Int32} (hX9 : ScX G C b9 b9L xs) (hKb : K + 8 ≤ 500000 ∧ KS + 48 ≤ 5000000) {r : Mem} (hf : f_L_law__j1648 μ b9L xs l4 k0 k1 = some r) (hK : ∀ n, V G C F_L_law_ 2708 [some (.ref b9), some (.ref (G.2.1 + 0)), some (.ref (G.2.1 + 264)), some (.ref (G.2.1 + 275)), some (.int l4), none, none] [] (pic G r) n (K + 8) (KS + 48)) : V G C F_L_law_ 1648 [some (.ref b9), some (.ref (G.2.1 + 0)), some (.ref (G.2.1 + 264)), some (.ref (G.2.1 + 275)), some (.int l4), none, none] [.long (Int32.toInt64 k1), .long (Int32.toInt64 k0)] (pic G μ) n (K + 3) (KS + 18) := by
  unfold f_L_law__j1648 at hf
  refine V_lcmp d_L_law__1648 ?_
  refine V_if_eq (tgt := 1654) d_L_law__1649 (by decide) (fun c1649 => ?_) (fun c1649 => ?_)
  · replace hf := iteT c1649 hf
    refine V_less (ls' := [some _, some _, some _, some _, some _, none, none]) ⟨rfl, rfl, rfl, rfl, rfl, trivial⟩ ?_
    exact s_L_law__j1654 hG hX9 hKb hf hK
  · replace hf := iteF c1649 hf
    refine V_iconst (v := 0) d_L_law__1652 ic_0 ?_
    cases hf
theorem s_L_law__j1582 {G : Gl} (hG : G.1.stackTraces = false) {C : Cx} {n b9 K KS : Nat} {μ : Mem} {b9L : Nat} {xs : (Nat → Int32)} {l4 : Int32} (hX9 : ScX G C b9 b9L xs) (hKb : K + 8 ≤ 500000 ∧ KS + 48 ≤ 5000000) {r : Mem} (hf : f_L_law__j1582 μ b9L xs l4 = some r) (hK : ∀ n, V G C F_L_law_ 2708 [some (.ref b9), some (.ref (G.2.1 + 0)), some (.ref (G.2.1 + 264)), some (.ref (G.2.1 + 275)), some (.int l4), none, none] [] (pic G r) n (K + 8) (KS + 48)) : V G C F_L_law_ 1582 [some (.ref b9), some (.ref (G.2.1 + 0)), some (.ref (G.2.1 + 264)), some (.ref (G.2.1 + 275)), some (.int l4), none, none] [] (pic G μ) n (K + 0) (KS + 0) := by
  unfold f_L_law__j1582 at hf
  refine V_aload_n d_L_law__1582 rfl rfl ?_
  refine V_aload_n d_L_law__1583 rfl rfl ?_
  refine V_iload d_L_law__1584 rfl ?_
  refine V_iconst (v := 1) d_L_law__1586 ic_1 ?_
  refine V_iadd d_L_law__1587 ?_
  obtain ⟨t1, ht1, hf⟩ := ob hf
  refine V_sld hX9 ht1 d_L_law__1588 ?_
  refine V_aload_n d_L_law__1589 rfl rfl ?_
  refine V_iload d_L_law__1590 rfl ?_
  refine V_iconst (v := 2) d_L_law__1592 ic_2 ?_
  refine V_iadd d_L_law__1593 ?_
  obtain ⟨t2, ht2, hf⟩ := ob hf
  refine V_sld hX9 ht2 d_L_law__1594 ?_
  refine V_aload_n d_L_law__1595 rfl rfl ?_
  obtain ⟨q3, hq3, hf⟩ := ob hf
  refine B_callSH (s_L_owes hG hq3) (kc' := (K + 3)) (ks' := (KS + 18)) m_L_owes ks_RL_219 d_L_law__1596 rfl (Nat.le_of_ble_eq_true rfl) ⟨rfl, rfl, (show K + 3 ≤ 500000 by omega), (show KS + 18 ≤ 5000000 by omega), Nat.le_of_ble_eq_true rfl⟩ (fun n => ?_)
  refine V_istore (ls' := [_, _, _, _, _, _, _]) d_L_law__1599 rfl rfl ?_
  refine V_aload_n d_L_law__1601 rfl rfl ?_
  refine V_aload_n d_L_law__1602 rfl rfl ?_
  refine V_iload d_L_law__1603 rfl ?_
  refine V_iconst (v := 1) d_L_law__1605 ic_1 ?_
  refine V_iadd d_L_law__1606 ?_
  obtain ⟨t4, ht4, hf⟩ := ob hf
  refine V_sld hX9 ht4 d_L_law__1607 ?_
  refine V_aload_n d_L_law__1608 rfl rfl ?_
  refine V_iload d_L_law__1609 rfl ?_
  refine V_iconst (v := 2) d_L_law__1611 ic_2 ?_
  refine V_iadd d_L_law__1612 ?_
  obtain ⟨t5, ht5, hf⟩ := ob hf
  refine V_sld hX9 ht5 d_L_law__1613 ?_
  obtain ⟨q6, hq6, hf⟩ := ob hf
  refine B_callV1 (s_X12_owes hG hq6) k_264 clX12 m_X12_owes kv_RL_221 d_L_law__1614 rfl (Nat.le_of_ble_eq_true rfl) ⟨rfl, rfl, (show K + 3 ≤ 500000 by omega), (show KS + 18 ≤ 5000000 by omega), Nat.le_of_ble_eq_true rfl⟩ (fun n => ?_)
  refine V_istore (ls' := [_, _, _, _, _, _, _]) d_L_law__1617 rfl rfl ?_
  refine V_aload_n d_L_law__1619 rfl rfl ?_
  obtain ⟨t7, ht7, hf⟩ := ob hf
  refine B_callV1 (s_X12_thrown hG ht7) k_264 clX12 m_X12_thrown kv_RL_145 d_L_law__1620 rfl (Nat.le_of_ble_eq_true rfl) ⟨rfl, rfl, (show K + 3 ≤ 500000 by omega), (show KS + 18 ≤ 5000000 by omega), Nat.le_of_ble_eq_true rfl⟩ (fun n => ?_)
  refine V_iload d_L_law__1623 rfl ?_
  refine V_icmp_eq (tgt := 1630) d_L_law__1625 (by decide) (fun c1625 => ?_) (fun c1625 => ?_)
  · replace hf := iteT c1625 hf
    refine V_iload d_L_law__1630 rfl ?_
    refine V_if_ne (tgt := 1654) d_L_law__1632 (by decide) (fun c1632 => ?_) (fun c1632 => ?_)
    · replace hf := iteF c1632 hf
      refine V_less (ls' := [some _, some _, some _, some _, some _, none, none]) ⟨rfl, rfl, rfl, rfl, rfl, trivial⟩ ?_
      exact s_L_law__j1654 hG hX9 hKb hf hK
    · replace hf := iteT c1632 hf
      refine V_aload_n d_L_law__1635 rfl rfl ?_
      refine V_iconst (v := 0) d_L_law__1636 ic_0 ?_
      obtain ⟨t8, ht8, hf⟩ := ob hf
      refine B_lald k_275 ht8 d_L_law__1637 ?_
      refine V_iload d_L_law__1638 rfl ?_
      refine V_if_eq (tgt := 1647) d_L_law__1640 (by decide) (fun c1640 => ?_) (fun c1640 => ?_)
      · replace hf := iteF (b2i_nt (b2i_eq0 c1640)) hf
        refine V_lconst (v := Int32.toInt64 0) d_L_law__1647 lc_0 ?_
        refine V_less (ls' := [some _, some _, some _, some _, some _, none, none]) ⟨rfl, rfl, rfl, rfl, rfl, trivial⟩ ?_
        exact s_L_law__j1648 hG hX9 hKb hf hK
      · replace hf := iteT (b2i_ne0 c1640) hf
        refine V_lconst (v := Int32.toInt64 1) d_L_law__1643 lc_1 ?_
        refine V_goto (tgt := 1648) d_L_law__1644 (by decide) ?_
        refine V_less (ls' := [some _, some _, some _, some _, some _, none, none]) ⟨rfl, rfl, rfl, rfl, rfl, trivial⟩ ?_
        exact s_L_law__j1648 hG hX9 hKb hf hK
  · replace hf := iteF c1625 hf
    refine V_iconst (v := 0) d_L_law__1628 ic_0 ?_
    cases hf
theorem s_L_law__j1710 {G : Gl} (hG : G.1.stackTraces = false) {C : Cx} {n b9 K KS : Nat} {μ : Mem} {b9L : Nat} {xs : (Nat → Int32)} {l4 : Int32} (hX9 : ScX G C b9 b9L xs) (hKb : K + 8 ≤ 500000 ∧ KS + 48 ≤ 5000000) {r : Mem} (hf : f_L_law__j1710 μ b9L xs l4 = some r) (hK : ∀ n, V G C F_L_law_ 2708 [some (.ref b9), some (.ref (G.2.1 + 0)), some (.ref (G.2.1 + 264)), some (.ref (G.2.1 + 275)), some (.int l4), none, none] [] (pic G r) n (K + 8) (KS + 48)) : V G C F_L_law_ 1710 [some (.ref b9), some (.ref (G.2.1 + 0)), some (.ref (G.2.1 + 264)), some (.ref (G.2.1 + 275)), some (.int l4), none, none] [] (pic G μ) n (K + 1) (KS + 6) := by
  unfold f_L_law__j1710 at hf
  refine V_goto (tgt := 2708) d_L_law__1710 (by decide) ?_
  refine V_widen (k2 := K + 8) (s2 := KS + 48) (by omega) (by omega) ?_
  refine V_less (ls' := [some _, some _, some _, some _, some _, none, none]) ⟨rfl, rfl, rfl, rfl, rfl, trivial⟩ ?_
  cases hf
  exact hK _
theorem s_L_law__j1657 {G : Gl} (hG : G.1.stackTraces = false) {C : Cx} {n b9 K KS : Nat} {μ : Mem} {b9L : Nat} {xs : (Nat → Int32)} {l4 : Int32} (hX9 : ScX G C b9 b9L xs) (hKb : K + 8 ≤ 500000 ∧ KS + 48 ≤ 5000000) {r : Mem} (hf : f_L_law__j1657 μ b9L xs l4 = some r) (hK : ∀ n, V G C F_L_law_ 2708 [some (.ref b9), some (.ref (G.2.1 + 0)), some (.ref (G.2.1 + 264)), some (.ref (G.2.1 + 275)), some (.int l4), none, none] [] (pic G r) n (K + 8) (KS + 48)) : V G C F_L_law_ 1657 [some (.ref b9), some (.ref (G.2.1 + 0)), some (.ref (G.2.1 + 264)), some (.ref (G.2.1 + 275)), some (.int l4), none, none] [] (pic G μ) n (K + 0) (KS + 0) := by
  unfold f_L_law__j1657 at hf
  refine V_aload_n d_L_law__1657 rfl rfl ?_
  refine V_aload_n d_L_law__1658 rfl rfl ?_
  refine V_iload d_L_law__1659 rfl ?_
  refine V_iconst (v := 1) d_L_law__1661 ic_1 ?_
  refine V_iadd d_L_law__1662 ?_
  obtain ⟨t1, ht1, hf⟩ := ob hf
  refine V_sld hX9 ht1 d_L_law__1663 ?_
  refine V_aload_n d_L_law__1664 rfl rfl ?_
  obtain ⟨q2, hq2, hf⟩ := ob hf
  refine B_callSH (s_L_leads hG hq2) (kc' := (K + 1)) (ks' := (KS + 6)) m_L_leads ks_RL_222 d_L_law__1665 rfl (Nat.le_of_ble_eq_true rfl) ⟨rfl, rfl, (show K + 1 ≤ 500000 by omega), (show KS + 6 ≤ 5000000 by omega), Nat.le_of_ble_eq_true rfl⟩ (fun n => ?_)
  refine V_istore (ls' := [_, _, _, _, _, _, _]) d_L_law__1668 rfl rfl ?_
  refine V_aload_n d_L_law__1670 rfl rfl ?_
  refine V_aload_n d_L_law__1671 rfl rfl ?_
  refine V_iload d_L_law__1672 rfl ?_
  refine V_iconst (v := 1) d_L_law__1674 ic_1 ?_
  refine V_iadd d_L_law__1675 ?_
  obtain ⟨t3, ht3, hf⟩ := ob hf
  refine V_sld hX9 ht3 d_L_law__1676 ?_
  obtain ⟨q4, hq4, hf⟩ := ob hf
  refine B_callV1 (s_X12_leads hG hq4) k_264 clX12 m_X12_leads kv_RL_224 d_L_law__1677 rfl (Nat.le_of_ble_eq_true rfl) ⟨rfl, rfl, (show K + 1 ≤ 500000 by omega), (show KS + 6 ≤ 5000000 by omega), Nat.le_of_ble_eq_true rfl⟩ (fun n => ?_)
  refine V_istore (ls' := [_, _, _, _, _, _, _]) d_L_law__1680 rfl rfl ?_
  refine V_aload_n d_L_law__1682 rfl rfl ?_
  obtain ⟨t5, ht5, hf⟩ := ob hf
  refine B_callV1 (s_X12_thrown hG ht5) k_264 clX12 m_X12_thrown kv_RL_145 d_L_law__1683 rfl (Nat.le_of_ble_eq_true rfl) ⟨rfl, rfl, (show K + 1 ≤ 500000 by omega), (show KS + 6 ≤ 5000000 by omega), Nat.le_of_ble_eq_true rfl⟩ (fun n => ?_)
  refine V_iload d_L_law__1686 rfl ?_
  refine V_icmp_eq (tgt := 1693) d_L_law__1688 (by decide) (fun c1688 => ?_) (fun c1688 => ?_)
  · replace hf := iteT c1688 hf
    refine V_iload d_L_law__1693 rfl ?_
    refine V_if_ne (tgt := 1710) d_L_law__1695 (by decide) (fun c1695 => ?_) (fun c1695 => ?_)
    · replace hf := iteF c1695 hf
      refine V_less (ls' := [some _, some _, some _, some _, some _, none, none]) ⟨rfl, rfl, rfl, rfl, rfl, trivial⟩ ?_
      exact s_L_law__j1710 hG hX9 hKb hf hK
    · replace hf := iteT c1695 hf
      refine V_aload_n d_L_law__1698 rfl rfl ?_
      refine V_iconst (v := 0) d_L_law__1699 ic_0 ?_
      obtain ⟨t6, ht6, hf⟩ := ob hf
      refine B_lald k_275 ht6 d_L_law__1700 ?_
      refine V_iload d_L_law__1701 rfl ?_
      refine V_i2l d_L_law__1703 ?_
      refine V_lcmp d_L_law__1704 ?_
      refine V_if_eq (tgt := 1710) d_L_law__1705 (by decide) (fun c1705 => ?_) (fun c1705 => ?_)
      · replace hf := iteT c1705 hf
        refine V_less (ls' := [some _, some _, some _, some _, some _, none, none]) ⟨rfl, rfl, rfl, rfl, rfl, trivial⟩ ?_
        exact s_L_law__j1710 hG hX9 hKb hf hK
      · replace hf := iteF c1705 hf
        refine V_iconst (v := 0) d_L_law__1708 ic_0 ?_
        cases hf
  · replace hf := iteF c1688 hf
    refine V_iconst (v := 0) d_L_law__1691 ic_0 ?_
    cases hf
theorem s_L_law__j1794 {G : Gl} (hG : G.1.stackTraces = false) {C : Cx} {n b9 K KS : Nat} {μ : Mem} {b9L : Nat} {xs : (Nat → Int32)} {l4 : Int32} (hX9 : ScX G C b9 b9L xs) (hKb : K + 8 ≤ 500000 ∧ KS + 48 ≤ 5000000) {r : Mem} (hf : f_L_law__j1794 μ b9L xs l4 = some r) (hK : ∀ n, V G C F_L_law_ 2708 [some (.ref b9), some (.ref (G.2.1 + 0)), some (.ref (G.2.1 + 264)), some (.ref (G.2.1 + 275)), some (.int l4), none, none] [] (pic G r) n (K + 8) (KS + 48)) : V G C F_L_law_ 1794 [some (.ref b9), some (.ref (G.2.1 + 0)), some (.ref (G.2.1 + 264)), some (.ref (G.2.1 + 275)), some (.int l4), none, none] [] (pic G μ) n (K + 1) (KS + 6) := by
  unfold f_L_law__j1794 at hf
  refine V_goto (tgt := 2708) d_L_law__1794 (by decide) ?_
  refine V_widen (k2 := K + 8) (s2 := KS + 48) (by omega) (by omega) ?_
  refine V_less (ls' := [some _, some _, some _, some _, some _, none, none]) ⟨rfl, rfl, rfl, rfl, rfl, trivial⟩ ?_
  cases hf
  exact hK _
theorem s_L_law__j1713 {G : Gl} (hG : G.1.stackTraces = false) {C : Cx} {n b9 K KS : Nat} {μ : Mem} {b9L : Nat} {xs : (Nat → Int32)} {l4 : Int32} (hX9 : ScX G C b9 b9L xs) (hKb : K + 8 ≤ 500000 ∧ KS + 48 ≤ 5000000) {r : Mem} (hf : f_L_law__j1713 μ b9L xs l4 = some r) (hK : ∀ n, V G C F_L_law_ 2708 [some (.ref b9), some (.ref (G.2.1 + 0)), some (.ref (G.2.1 + 264)), some (.ref (G.2.1 + 275)), some (.int l4), none, none] [] (pic G r) n (K + 8) (KS + 48)) : V G C F_L_law_ 1713 [some (.ref b9), some (.ref (G.2.1 + 0)), some (.ref (G.2.1 + 264)), some (.ref (G.2.1 + 275)), some (.int l4), none, none] [] (pic G μ) n (K + 0) (KS + 0) := by
  unfold f_L_law__j1713 at hf
  refine V_aload_n d_L_law__1713 rfl rfl ?_
  refine V_aload_n d_L_law__1714 rfl rfl ?_
  refine V_iload d_L_law__1715 rfl ?_
  refine V_iconst (v := 1) d_L_law__1717 ic_1 ?_
  refine V_iadd d_L_law__1718 ?_
  obtain ⟨t1, ht1, hf⟩ := ob hf
  refine V_sld hX9 ht1 d_L_law__1719 ?_
  refine V_aload_n d_L_law__1720 rfl rfl ?_
  refine V_iload d_L_law__1721 rfl ?_
  refine V_iconst (v := 2) d_L_law__1723 ic_2 ?_
  refine V_iadd d_L_law__1724 ?_
  obtain ⟨t2, ht2, hf⟩ := ob hf
  refine V_sld hX9 ht2 d_L_law__1725 ?_
  have hJj3 : ∀ j3 : Bool, j3 = (if t2 = 0 then (false : Bool) else true) → V G C F_L_law_ 1734 [some (.ref b9), some (.ref (G.2.1 + 0)), some (.ref (G.2.1 + 264)), some (.ref (G.2.1 + 275)), some (.int l4), none, none] [.int (b2i j3), .int t1, .ref (G.2.1 + 0)] (pic G μ) n (K + 0) (KS + 0) := by
    intro j3 ej3
    subst ej3
    refine V_aload_n d_L_law__1734 rfl rfl ?_
    obtain ⟨q4, hq4, hf⟩ := ob hf
    refine B_callSH (s_L_call hG hq4) (kc' := (K + 1)) (ks' := (KS + 6)) m_L_call ks_RL_225 d_L_law__1735 rfl (Nat.le_of_ble_eq_true rfl) ⟨rfl, rfl, (show K + 1 ≤ 500000 by omega), (show KS + 6 ≤ 5000000 by omega), Nat.le_of_ble_eq_true rfl⟩ (fun n => ?_)
    refine V_istore (ls' := [_, _, _, _, _, _, _]) d_L_law__1738 rfl rfl ?_
    refine V_aload_n d_L_law__1740 rfl rfl ?_
    refine V_aload_n d_L_law__1741 rfl rfl ?_
    refine V_iload d_L_law__1742 rfl ?_
    refine V_iconst (v := 1) d_L_law__1744 ic_1 ?_
    refine V_iadd d_L_law__1745 ?_
    obtain ⟨t5, ht5, hf⟩ := ob hf
    refine V_sld hX9 ht5 d_L_law__1746 ?_
    refine V_aload_n d_L_law__1747 rfl rfl ?_
    refine V_iload d_L_law__1748 rfl ?_
    refine V_iconst (v := 2) d_L_law__1750 ic_2 ?_
    refine V_iadd d_L_law__1751 ?_
    obtain ⟨t6, ht6, hf⟩ := ob hf
    refine V_sld hX9 ht6 d_L_law__1752 ?_
    have hJj7 : ∀ j7 : Bool, j7 = (if t6 = 0 then (false : Bool) else true) → V G C F_L_law_ 1761 [some (.ref b9), some (.ref (G.2.1 + 0)), some (.ref (G.2.1 + 264)), some (.ref (G.2.1 + 275)), some (.int l4), some (.int q4.1), none] [.int (b2i j7), .int t5, .ref (G.2.1 + 264)] (pic G q4.2) n (K + 1) (KS + 6) := by
      intro j7 ej7
      subst ej7
      obtain ⟨q8, hq8, hf⟩ := ob hf
      refine B_callV1 (s_X12_call hG hq8) k_264 clX12 m_X12_call kv_RL_228 d_L_law__1761 rfl (Nat.le_of_ble_eq_true rfl) ⟨rfl, rfl, (show K + 1 ≤ 500000 by omega), (show KS + 6 ≤ 5000000 by omega), Nat.le_of_ble_eq_true rfl⟩ (fun n => ?_)
      refine V_istore (ls' := [_, _, _, _, _, _, _]) d_L_law__1764 rfl rfl ?_
      refine V_aload_n d_L_law__1766 rfl rfl ?_
      obtain ⟨t9, ht9, hf⟩ := ob hf
      refine B_callV1 (s_X12_thrown hG ht9) k_264 clX12 m_X12_thrown kv_RL_145 d_L_law__1767 rfl (Nat.le_of_ble_eq_true rfl) ⟨rfl, rfl, (show K + 1 ≤ 500000 by omega), (show KS + 6 ≤ 5000000 by omega), Nat.le_of_ble_eq_true rfl⟩ (fun n => ?_)
      refine V_iload d_L_law__1770 rfl ?_
      refine V_icmp_eq (tgt := 1777) d_L_law__1772 (by decide) (fun c1772 => ?_) (fun c1772 => ?_)
      · replace hf := iteT c1772 hf
        refine V_iload d_L_law__1777 rfl ?_
        refine V_if_ne (tgt := 1794) d_L_law__1779 (by decide) (fun c1779 => ?_) (fun c1779 => ?_)
        · replace hf := iteF c1779 hf
          refine V_less (ls' := [some _, some _, some _, some _, some _, none, none]) ⟨rfl, rfl, rfl, rfl, rfl, trivial⟩ ?_
          exact s_L_law__j1794 hG hX9 hKb hf hK
        · replace hf := iteT c1779 hf
          refine V_aload_n d_L_law__1782 rfl rfl ?_
          refine V_iconst (v := 0) d_L_law__1783 ic_0 ?_
          obtain ⟨t10, ht10, hf⟩ := ob hf
          refine B_lald k_275 ht10 d_L_law__1784 ?_
          refine V_iload d_L_law__1785 rfl ?_
          refine V_i2l d_L_law__1787 ?_
          refine V_lcmp d_L_law__1788 ?_
          refine V_if_eq (tgt := 1794) d_L_law__1789 (by decide) (fun c1789 => ?_) (fun c1789 => ?_)
          · replace hf := iteT c1789 hf
            refine V_less (ls' := [some _, some _, some _, some _, some _, none, none]) ⟨rfl, rfl, rfl, rfl, rfl, trivial⟩ ?_
            exact s_L_law__j1794 hG hX9 hKb hf hK
          · replace hf := iteF c1789 hf
            refine V_iconst (v := 0) d_L_law__1792 ic_0 ?_
            cases hf
      · replace hf := iteF c1772 hf
        refine V_iconst (v := 0) d_L_law__1775 ic_0 ?_
        cases hf
    refine V_if_eq (tgt := 1760) d_L_law__1753 (by decide) (fun c1753 => ?_) (fun c1753 => ?_)
    · refine V_iconst (v := 0) d_L_law__1760 ic_0 ?_
      refine V_less (ls' := [some _, some _, some _, some _, some _, some _, none]) ⟨rfl, rfl, rfl, rfl, rfl, rfl, trivial⟩ ?_
      exact hJj7 false (by rw [if_pos c1753])
    · refine V_iconst (v := 1) d_L_law__1756 ic_1 ?_
      refine V_goto (tgt := 1761) d_L_law__1757 (by decide) ?_
      refine V_less (ls' := [some _, some _, some _, some _, some _, some _, none]) ⟨rfl, rfl, rfl, rfl, rfl, rfl, trivial⟩ ?_
      exact hJj7 true (by rw [if_neg c1753])
  refine V_if_eq (tgt := 1733) d_L_law__1726 (by decide) (fun c1726 => ?_) (fun c1726 => ?_)
  · refine V_iconst (v := 0) d_L_law__1733 ic_0 ?_
    refine V_less (ls' := [some _, some _, some _, some _, some _, none, none]) ⟨rfl, rfl, rfl, rfl, rfl, trivial⟩ ?_
    exact hJj3 false (by rw [if_pos c1726])
  · refine V_iconst (v := 1) d_L_law__1729 ic_1 ?_
    refine V_goto (tgt := 1734) d_L_law__1730 (by decide) ?_
    refine V_less (ls' := [some _, some _, some _, some _, some _, none, none]) ⟨rfl, rfl, rfl, rfl, rfl, trivial⟩ ?_
    exact hJj3 true (by rw [if_neg c1726])
theorem s_L_law__j1850 {G : Gl} (hG : G.1.stackTraces = false) {C : Cx} {n b9 K KS : Nat} {μ : Mem} {b9L : Nat} {xs : (Nat → Int32)} {l4 : Int32} (hX9 : ScX G C b9 b9L xs) (hKb : K + 8 ≤ 500000 ∧ KS + 48 ≤ 5000000) {r : Mem} (hf : f_L_law__j1850 μ b9L xs l4 = some r) (hK : ∀ n, V G C F_L_law_ 2708 [some (.ref b9), some (.ref (G.2.1 + 0)), some (.ref (G.2.1 + 264)), some (.ref (G.2.1 + 275)), some (.int l4), none, none] [] (pic G r) n (K + 8) (KS + 48)) : V G C F_L_law_ 1850 [some (.ref b9), some (.ref (G.2.1 + 0)), some (.ref (G.2.1 + 264)), some (.ref (G.2.1 + 275)), some (.int l4), none, none] [] (pic G μ) n (K + 1) (KS + 6) := by
  unfold f_L_law__j1850 at hf
  refine V_goto (tgt := 2708) d_L_law__1850 (by decide) ?_
  refine V_widen (k2 := K + 8) (s2 := KS + 48) (by omega) (by omega) ?_
  refine V_less (ls' := [some _, some _, some _, some _, some _, none, none]) ⟨rfl, rfl, rfl, rfl, rfl, trivial⟩ ?_
  cases hf
  exact hK _
theorem s_L_law__j1797 {G : Gl} (hG : G.1.stackTraces = false) {C : Cx} {n b9 K KS : Nat} {μ : Mem} {b9L : Nat} {xs : (Nat → Int32)} {l4 : Int32} (hX9 : ScX G C b9 b9L xs) (hKb : K + 8 ≤ 500000 ∧ KS + 48 ≤ 5000000) {r : Mem} (hf : f_L_law__j1797 μ b9L xs l4 = some r) (hK : ∀ n, V G C F_L_law_ 2708 [some (.ref b9), some (.ref (G.2.1 + 0)), some (.ref (G.2.1 + 264)), some (.ref (G.2.1 + 275)), some (.int l4), none, none] [] (pic G r) n (K + 8) (KS + 48)) : V G C F_L_law_ 1797 [some (.ref b9), some (.ref (G.2.1 + 0)), some (.ref (G.2.1 + 264)), some (.ref (G.2.1 + 275)), some (.int l4), none, none] [] (pic G μ) n (K + 0) (KS + 0) := by
  unfold f_L_law__j1797 at hf
  refine V_aload_n d_L_law__1797 rfl rfl ?_
  refine V_aload_n d_L_law__1798 rfl rfl ?_
  refine V_iload d_L_law__1799 rfl ?_
  refine V_iconst (v := 1) d_L_law__1801 ic_1 ?_
  refine V_iadd d_L_law__1802 ?_
  obtain ⟨t1, ht1, hf⟩ := ob hf
  refine V_sld hX9 ht1 d_L_law__1803 ?_
  refine V_aload_n d_L_law__1804 rfl rfl ?_
  obtain ⟨q2, hq2, hf⟩ := ob hf
  refine B_callSH (s_L_breaks hG hq2) (kc' := (K + 1)) (ks' := (KS + 6)) m_L_breaks ks_RL_229 d_L_law__1805 rfl (Nat.le_of_ble_eq_true rfl) ⟨rfl, rfl, (show K + 1 ≤ 500000 by omega), (show KS + 6 ≤ 5000000 by omega), Nat.le_of_ble_eq_true rfl⟩ (fun n => ?_)
  refine V_istore (ls' := [_, _, _, _, _, _, _]) d_L_law__1808 rfl rfl ?_
  refine V_aload_n d_L_law__1810 rfl rfl ?_
  refine V_aload_n d_L_law__1811 rfl rfl ?_
  refine V_iload d_L_law__1812 rfl ?_
  refine V_iconst (v := 1) d_L_law__1814 ic_1 ?_
  refine V_iadd d_L_law__1815 ?_
  obtain ⟨t3, ht3, hf⟩ := ob hf
  refine V_sld hX9 ht3 d_L_law__1816 ?_
  obtain ⟨q4, hq4, hf⟩ := ob hf
  refine B_callV1 (s_X12_breaks hG hq4) k_264 clX12 m_X12_breaks kv_RL_231 d_L_law__1817 rfl (Nat.le_of_ble_eq_true rfl) ⟨rfl, rfl, (show K + 1 ≤ 500000 by omega), (show KS + 6 ≤ 5000000 by omega), Nat.le_of_ble_eq_true rfl⟩ (fun n => ?_)
  refine V_istore (ls' := [_, _, _, _, _, _, _]) d_L_law__1820 rfl rfl ?_
  refine V_aload_n d_L_law__1822 rfl rfl ?_
  obtain ⟨t5, ht5, hf⟩ := ob hf
  refine B_callV1 (s_X12_thrown hG ht5) k_264 clX12 m_X12_thrown kv_RL_145 d_L_law__1823 rfl (Nat.le_of_ble_eq_true rfl) ⟨rfl, rfl, (show K + 1 ≤ 500000 by omega), (show KS + 6 ≤ 5000000 by omega), Nat.le_of_ble_eq_true rfl⟩ (fun n => ?_)
  refine V_iload d_L_law__1826 rfl ?_
  refine V_icmp_eq (tgt := 1833) d_L_law__1828 (by decide) (fun c1828 => ?_) (fun c1828 => ?_)
  · replace hf := iteT c1828 hf
    refine V_iload d_L_law__1833 rfl ?_
    refine V_if_ne (tgt := 1850) d_L_law__1835 (by decide) (fun c1835 => ?_) (fun c1835 => ?_)
    · replace hf := iteF c1835 hf
      refine V_less (ls' := [some _, some _, some _, some _, some _, none, none]) ⟨rfl, rfl, rfl, rfl, rfl, trivial⟩ ?_
      exact s_L_law__j1850 hG hX9 hKb hf hK
    · replace hf := iteT c1835 hf
      refine V_aload_n d_L_law__1838 rfl rfl ?_
      refine V_iconst (v := 0) d_L_law__1839 ic_0 ?_
      obtain ⟨t6, ht6, hf⟩ := ob hf
      refine B_lald k_275 ht6 d_L_law__1840 ?_
      refine V_iload d_L_law__1841 rfl ?_
      refine V_i2l d_L_law__1843 ?_
      refine V_lcmp d_L_law__1844 ?_
      refine V_if_eq (tgt := 1850) d_L_law__1845 (by decide) (fun c1845 => ?_) (fun c1845 => ?_)
      · replace hf := iteT c1845 hf
        refine V_less (ls' := [some _, some _, some _, some _, some _, none, none]) ⟨rfl, rfl, rfl, rfl, rfl, trivial⟩ ?_
        exact s_L_law__j1850 hG hX9 hKb hf hK
      · replace hf := iteF c1845 hf
        refine V_iconst (v := 0) d_L_law__1848 ic_0 ?_
        cases hf
  · replace hf := iteF c1828 hf
    refine V_iconst (v := 0) d_L_law__1831 ic_0 ?_
    cases hf
theorem s_L_law__j1906 {G : Gl} (hG : G.1.stackTraces = false) {C : Cx} {n b9 K KS : Nat} {μ : Mem} {b9L : Nat} {xs : (Nat → Int32)} {l4 : Int32} (hX9 : ScX G C b9 b9L xs) (hKb : K + 8 ≤ 500000 ∧ KS + 48 ≤ 5000000) {r : Mem} (hf : f_L_law__j1906 μ b9L xs l4 = some r) (hK : ∀ n, V G C F_L_law_ 2708 [some (.ref b9), some (.ref (G.2.1 + 0)), some (.ref (G.2.1 + 264)), some (.ref (G.2.1 + 275)), some (.int l4), none, none] [] (pic G r) n (K + 8) (KS + 48)) : V G C F_L_law_ 1906 [some (.ref b9), some (.ref (G.2.1 + 0)), some (.ref (G.2.1 + 264)), some (.ref (G.2.1 + 275)), some (.int l4), none, none] [] (pic G μ) n (K + 1) (KS + 6) := by
  unfold f_L_law__j1906 at hf
  refine V_goto (tgt := 2708) d_L_law__1906 (by decide) ?_
  refine V_widen (k2 := K + 8) (s2 := KS + 48) (by omega) (by omega) ?_
  refine V_less (ls' := [some _, some _, some _, some _, some _, none, none]) ⟨rfl, rfl, rfl, rfl, rfl, trivial⟩ ?_
  cases hf
  exact hK _
theorem s_L_law__j1853 {G : Gl} (hG : G.1.stackTraces = false) {C : Cx} {n b9 K KS : Nat} {μ : Mem} {b9L : Nat} {xs : (Nat → Int32)} {l4 : Int32} (hX9 : ScX G C b9 b9L xs) (hKb : K + 8 ≤ 500000 ∧ KS + 48 ≤ 5000000) {r : Mem} (hf : f_L_law__j1853 μ b9L xs l4 = some r) (hK : ∀ n, V G C F_L_law_ 2708 [some (.ref b9), some (.ref (G.2.1 + 0)), some (.ref (G.2.1 + 264)), some (.ref (G.2.1 + 275)), some (.int l4), none, none] [] (pic G r) n (K + 8) (KS + 48)) : V G C F_L_law_ 1853 [some (.ref b9), some (.ref (G.2.1 + 0)), some (.ref (G.2.1 + 264)), some (.ref (G.2.1 + 275)), some (.int l4), none, none] [] (pic G μ) n (K + 0) (KS + 0) := by
  unfold f_L_law__j1853 at hf
  refine V_aload_n d_L_law__1853 rfl rfl ?_
  refine V_aload_n d_L_law__1854 rfl rfl ?_
  refine V_iload d_L_law__1855 rfl ?_
  refine V_iconst (v := 1) d_L_law__1857 ic_1 ?_
  refine V_iadd d_L_law__1858 ?_
  obtain ⟨t1, ht1, hf⟩ := ob hf
  refine V_sld hX9 ht1 d_L_law__1859 ?_
  refine V_aload_n d_L_law__1860 rfl rfl ?_
  obtain ⟨q2, hq2, hf⟩ := ob hf
  refine B_callSH (s_L_mercy hG hq2) (kc' := (K + 1)) (ks' := (KS + 6)) m_L_mercy ks_RL_232 d_L_law__1861 rfl (Nat.le_of_ble_eq_true rfl) ⟨rfl, rfl, (show K + 1 ≤ 500000 by omega), (show KS + 6 ≤ 5000000 by omega), Nat.le_of_ble_eq_true rfl⟩ (fun n => ?_)
  refine V_istore (ls' := [_, _, _, _, _, _, _]) d_L_law__1864 rfl rfl ?_
  refine V_aload_n d_L_law__1866 rfl rfl ?_
  refine V_aload_n d_L_law__1867 rfl rfl ?_
  refine V_iload d_L_law__1868 rfl ?_
  refine V_iconst (v := 1) d_L_law__1870 ic_1 ?_
  refine V_iadd d_L_law__1871 ?_
  obtain ⟨t3, ht3, hf⟩ := ob hf
  refine V_sld hX9 ht3 d_L_law__1872 ?_
  obtain ⟨q4, hq4, hf⟩ := ob hf
  refine B_callV1 (s_X12_mercy hG hq4) k_264 clX12 m_X12_mercy kv_RL_234 d_L_law__1873 rfl (Nat.le_of_ble_eq_true rfl) ⟨rfl, rfl, (show K + 1 ≤ 500000 by omega), (show KS + 6 ≤ 5000000 by omega), Nat.le_of_ble_eq_true rfl⟩ (fun n => ?_)
  refine V_istore (ls' := [_, _, _, _, _, _, _]) d_L_law__1876 rfl rfl ?_
  refine V_aload_n d_L_law__1878 rfl rfl ?_
  obtain ⟨t5, ht5, hf⟩ := ob hf
  refine B_callV1 (s_X12_thrown hG ht5) k_264 clX12 m_X12_thrown kv_RL_145 d_L_law__1879 rfl (Nat.le_of_ble_eq_true rfl) ⟨rfl, rfl, (show K + 1 ≤ 500000 by omega), (show KS + 6 ≤ 5000000 by omega), Nat.le_of_ble_eq_true rfl⟩ (fun n => ?_)
  refine V_iload d_L_law__1882 rfl ?_
  refine V_icmp_eq (tgt := 1889) d_L_law__1884 (by decide) (fun c1884 => ?_) (fun c1884 => ?_)
  · replace hf := iteT c1884 hf
    refine V_iload d_L_law__1889 rfl ?_
    refine V_if_ne (tgt := 1906) d_L_law__1891 (by decide) (fun c1891 => ?_) (fun c1891 => ?_)
    · replace hf := iteF c1891 hf
      refine V_less (ls' := [some _, some _, some _, some _, some _, none, none]) ⟨rfl, rfl, rfl, rfl, rfl, trivial⟩ ?_
      exact s_L_law__j1906 hG hX9 hKb hf hK
    · replace hf := iteT c1891 hf
      refine V_aload_n d_L_law__1894 rfl rfl ?_
      refine V_iconst (v := 0) d_L_law__1895 ic_0 ?_
      obtain ⟨t6, ht6, hf⟩ := ob hf
      refine B_lald k_275 ht6 d_L_law__1896 ?_
      refine V_iload d_L_law__1897 rfl ?_
      refine V_i2l d_L_law__1899 ?_
      refine V_lcmp d_L_law__1900 ?_
      refine V_if_eq (tgt := 1906) d_L_law__1901 (by decide) (fun c1901 => ?_) (fun c1901 => ?_)
      · replace hf := iteT c1901 hf
        refine V_less (ls' := [some _, some _, some _, some _, some _, none, none]) ⟨rfl, rfl, rfl, rfl, rfl, trivial⟩ ?_
        exact s_L_law__j1906 hG hX9 hKb hf hK
      · replace hf := iteF c1901 hf
        refine V_iconst (v := 0) d_L_law__1904 ic_0 ?_
        cases hf
  · replace hf := iteF c1884 hf
    refine V_iconst (v := 0) d_L_law__1887 ic_0 ?_
    cases hf
theorem s_L_law__j1962 {G : Gl} (hG : G.1.stackTraces = false) {C : Cx} {n b9 K KS : Nat} {μ : Mem} {b9L : Nat} {xs : (Nat → Int32)} {l4 : Int32} (hX9 : ScX G C b9 b9L xs) (hKb : K + 8 ≤ 500000 ∧ KS + 48 ≤ 5000000) {r : Mem} (hf : f_L_law__j1962 μ b9L xs l4 = some r) (hK : ∀ n, V G C F_L_law_ 2708 [some (.ref b9), some (.ref (G.2.1 + 0)), some (.ref (G.2.1 + 264)), some (.ref (G.2.1 + 275)), some (.int l4), none, none] [] (pic G r) n (K + 8) (KS + 48)) : V G C F_L_law_ 1962 [some (.ref b9), some (.ref (G.2.1 + 0)), some (.ref (G.2.1 + 264)), some (.ref (G.2.1 + 275)), some (.int l4), none, none] [] (pic G μ) n (K + 1) (KS + 6) := by
  unfold f_L_law__j1962 at hf
  refine V_goto (tgt := 2708) d_L_law__1962 (by decide) ?_
  refine V_widen (k2 := K + 8) (s2 := KS + 48) (by omega) (by omega) ?_
  refine V_less (ls' := [some _, some _, some _, some _, some _, none, none]) ⟨rfl, rfl, rfl, rfl, rfl, trivial⟩ ?_
  cases hf
  exact hK _
theorem s_L_law__j1909 {G : Gl} (hG : G.1.stackTraces = false) {C : Cx} {n b9 K KS : Nat} {μ : Mem} {b9L : Nat} {xs : (Nat → Int32)} {l4 : Int32} (hX9 : ScX G C b9 b9L xs) (hKb : K + 8 ≤ 500000 ∧ KS + 48 ≤ 5000000) {r : Mem} (hf : f_L_law__j1909 μ b9L xs l4 = some r) (hK : ∀ n, V G C F_L_law_ 2708 [some (.ref b9), some (.ref (G.2.1 + 0)), some (.ref (G.2.1 + 264)), some (.ref (G.2.1 + 275)), some (.int l4), none, none] [] (pic G r) n (K + 8) (KS + 48)) : V G C F_L_law_ 1909 [some (.ref b9), some (.ref (G.2.1 + 0)), some (.ref (G.2.1 + 264)), some (.ref (G.2.1 + 275)), some (.int l4), none, none] [] (pic G μ) n (K + 0) (KS + 0) := by
  unfold f_L_law__j1909 at hf
  refine V_aload_n d_L_law__1909 rfl rfl ?_
  refine V_aload_n d_L_law__1910 rfl rfl ?_
  refine V_iload d_L_law__1911 rfl ?_
  refine V_iconst (v := 1) d_L_law__1913 ic_1 ?_
  refine V_iadd d_L_law__1914 ?_
  obtain ⟨t1, ht1, hf⟩ := ob hf
  refine V_sld hX9 ht1 d_L_law__1915 ?_
  refine V_aload_n d_L_law__1916 rfl rfl ?_
  obtain ⟨q2, hq2, hf⟩ := ob hf
  refine B_callSH (s_L_hangs hG hq2) (kc' := (K + 1)) (ks' := (KS + 6)) m_L_hangs ks_RL_235 d_L_law__1917 rfl (Nat.le_of_ble_eq_true rfl) ⟨rfl, rfl, (show K + 1 ≤ 500000 by omega), (show KS + 6 ≤ 5000000 by omega), Nat.le_of_ble_eq_true rfl⟩ (fun n => ?_)
  refine V_istore (ls' := [_, _, _, _, _, _, _]) d_L_law__1920 rfl rfl ?_
  refine V_aload_n d_L_law__1922 rfl rfl ?_
  refine V_aload_n d_L_law__1923 rfl rfl ?_
  refine V_iload d_L_law__1924 rfl ?_
  refine V_iconst (v := 1) d_L_law__1926 ic_1 ?_
  refine V_iadd d_L_law__1927 ?_
  obtain ⟨t3, ht3, hf⟩ := ob hf
  refine V_sld hX9 ht3 d_L_law__1928 ?_
  obtain ⟨q4, hq4, hf⟩ := ob hf
  refine B_callV1 (s_X12_hangs hG hq4) k_264 clX12 m_X12_hangs kv_RL_237 d_L_law__1929 rfl (Nat.le_of_ble_eq_true rfl) ⟨rfl, rfl, (show K + 1 ≤ 500000 by omega), (show KS + 6 ≤ 5000000 by omega), Nat.le_of_ble_eq_true rfl⟩ (fun n => ?_)
  refine V_istore (ls' := [_, _, _, _, _, _, _]) d_L_law__1932 rfl rfl ?_
  refine V_aload_n d_L_law__1934 rfl rfl ?_
  obtain ⟨t5, ht5, hf⟩ := ob hf
  refine B_callV1 (s_X12_thrown hG ht5) k_264 clX12 m_X12_thrown kv_RL_145 d_L_law__1935 rfl (Nat.le_of_ble_eq_true rfl) ⟨rfl, rfl, (show K + 1 ≤ 500000 by omega), (show KS + 6 ≤ 5000000 by omega), Nat.le_of_ble_eq_true rfl⟩ (fun n => ?_)
  refine V_iload d_L_law__1938 rfl ?_
  refine V_icmp_eq (tgt := 1945) d_L_law__1940 (by decide) (fun c1940 => ?_) (fun c1940 => ?_)
  · replace hf := iteT c1940 hf
    refine V_iload d_L_law__1945 rfl ?_
    refine V_if_ne (tgt := 1962) d_L_law__1947 (by decide) (fun c1947 => ?_) (fun c1947 => ?_)
    · replace hf := iteF c1947 hf
      refine V_less (ls' := [some _, some _, some _, some _, some _, none, none]) ⟨rfl, rfl, rfl, rfl, rfl, trivial⟩ ?_
      exact s_L_law__j1962 hG hX9 hKb hf hK
    · replace hf := iteT c1947 hf
      refine V_aload_n d_L_law__1950 rfl rfl ?_
      refine V_iconst (v := 0) d_L_law__1951 ic_0 ?_
      obtain ⟨t6, ht6, hf⟩ := ob hf
      refine B_lald k_275 ht6 d_L_law__1952 ?_
      refine V_iload d_L_law__1953 rfl ?_
      refine V_i2l d_L_law__1955 ?_
      refine V_lcmp d_L_law__1956 ?_
      refine V_if_eq (tgt := 1962) d_L_law__1957 (by decide) (fun c1957 => ?_) (fun c1957 => ?_)
      · replace hf := iteT c1957 hf
        refine V_less (ls' := [some _, some _, some _, some _, some _, none, none]) ⟨rfl, rfl, rfl, rfl, rfl, trivial⟩ ?_
        exact s_L_law__j1962 hG hX9 hKb hf hK
      · replace hf := iteF c1957 hf
        refine V_iconst (v := 0) d_L_law__1960 ic_0 ?_
        cases hf
  · replace hf := iteF c1940 hf
    refine V_iconst (v := 0) d_L_law__1943 ic_0 ?_
    cases hf
theorem s_L_law__j1965 {G : Gl} (hG : G.1.stackTraces = false) {C : Cx} {n b9 K KS : Nat} {μ : Mem} {b9L : Nat} {xs : (Nat → Int32)} {l4 : Int32} (hX9 : ScX G C b9 b9L xs) (hKb : K + 8 ≤ 500000 ∧ KS + 48 ≤ 5000000) {r : Mem} (hf : f_L_law__j1965 μ b9L xs l4 = some r) (hK : ∀ n, V G C F_L_law_ 2708 [some (.ref b9), some (.ref (G.2.1 + 0)), some (.ref (G.2.1 + 264)), some (.ref (G.2.1 + 275)), some (.int l4), none, none] [] (pic G r) n (K + 8) (KS + 48)) : V G C F_L_law_ 1965 [some (.ref b9), some (.ref (G.2.1 + 0)), some (.ref (G.2.1 + 264)), some (.ref (G.2.1 + 275)), some (.int l4), none, none] [] (pic G μ) n (K + 0) (KS + 0) := by
  unfold f_L_law__j1965 at hf
  refine V_aload_n d_L_law__1965 rfl rfl ?_
  obtain ⟨t1, ht1, hf⟩ := ob hf
  refine B_callV1 (s_X11_trust hG ht1) k_0 clX11 m_X11_trust kv_RL_238 d_L_law__1966 rfl (Nat.le_of_ble_eq_true rfl) ⟨rfl, rfl, (show K + 0 ≤ 500000 by omega), (show KS + 0 ≤ 5000000 by omega), Nat.le_of_ble_eq_true rfl⟩ (fun n => ?_)
  refine V_aload_n d_L_law__1969 rfl rfl ?_
  obtain ⟨q2, hq2, hf⟩ := ob hf
  refine B_callV1 (s_X12_trust hG hq2) k_264 clX12 m_X12_trust kv_RL_241 d_L_law__1970 rfl (Nat.le_of_ble_eq_true rfl) ⟨rfl, rfl, (show K + 0 ≤ 500000 by omega), (show KS + 0 ≤ 5000000 by omega), Nat.le_of_ble_eq_true rfl⟩ (fun n => ?_)
  refine V_icmp_eq (tgt := 2708) d_L_law__1973 (by decide) (fun c1973 => ?_) (fun c1973 => ?_)
  · replace hf := iteT c1973 hf
    refine V_widen (k2 := K + 8) (s2 := KS + 48) (by omega) (by omega) ?_
    refine V_less (ls' := [some _, some _, some _, some _, some _, none, none]) ⟨rfl, rfl, rfl, rfl, rfl, trivial⟩ ?_
    cases hf
    exact hK _
  · replace hf := iteF c1973 hf
    refine V_iconst (v := 0) d_L_law__1976 ic_0 ?_
    cases hf
theorem s_L_law__j1978 {G : Gl} (hG : G.1.stackTraces = false) {C : Cx} {n b9 K KS : Nat} {μ : Mem} {b9L : Nat} {xs : (Nat → Int32)} {l4 : Int32} (hX9 : ScX G C b9 b9L xs) (hKb : K + 8 ≤ 500000 ∧ KS + 48 ≤ 5000000) {r : Mem} (hf : f_L_law__j1978 μ b9L xs l4 = some r) (hK : ∀ n, V G C F_L_law_ 2708 [some (.ref b9), some (.ref (G.2.1 + 0)), some (.ref (G.2.1 + 264)), some (.ref (G.2.1 + 275)), some (.int l4), none, none] [] (pic G r) n (K + 8) (KS + 48)) : V G C F_L_law_ 1978 [some (.ref b9), some (.ref (G.2.1 + 0)), some (.ref (G.2.1 + 264)), some (.ref (G.2.1 + 275)), some (.int l4), none, none] [] (pic G μ) n (K + 0) (KS + 0) := by
  unfold f_L_law__j1978 at hf
  refine V_aload_n d_L_law__1978 rfl rfl ?_
  obtain ⟨t1, ht1, hf⟩ := ob hf
  refine B_callV1 (s_X11_needed hG ht1) k_0 clX11 m_X11_needed kv_RL_242 d_L_law__1979 rfl (Nat.le_of_ble_eq_true rfl) ⟨rfl, rfl, (show K + 0 ≤ 500000 by omega), (show KS + 0 ≤ 5000000 by omega), Nat.le_of_ble_eq_true rfl⟩ (fun n => ?_)
  refine V_aload_n d_L_law__1982 rfl rfl ?_
  obtain ⟨q2, hq2, hf⟩ := ob hf
  refine B_callV1 (s_X12_needed hG hq2) k_264 clX12 m_X12_needed kv_RL_245 d_L_law__1983 rfl (Nat.le_of_ble_eq_true rfl) ⟨rfl, rfl, (show K + 0 ≤ 500000 by omega), (show KS + 0 ≤ 5000000 by omega), Nat.le_of_ble_eq_true rfl⟩ (fun n => ?_)
  refine V_icmp_eq (tgt := 2708) d_L_law__1986 (by decide) (fun c1986 => ?_) (fun c1986 => ?_)
  · replace hf := iteT c1986 hf
    refine V_widen (k2 := K + 8) (s2 := KS + 48) (by omega) (by omega) ?_
    refine V_less (ls' := [some _, some _, some _, some _, some _, none, none]) ⟨rfl, rfl, rfl, rfl, rfl, trivial⟩ ?_
    cases hf
    exact hK _
  · replace hf := iteF c1986 hf
    refine V_iconst (v := 0) d_L_law__1989 ic_0 ?_
    cases hf
theorem s_L_law__j2060 {G : Gl} (hG : G.1.stackTraces = false) {C : Cx} {n b9 K KS : Nat} {μ : Mem} {b9L : Nat} {xs : (Nat → Int32)} {l4 : Int32} (hX9 : ScX G C b9 b9L xs) (hKb : K + 8 ≤ 500000 ∧ KS + 48 ≤ 5000000) {r : Mem} (hf : f_L_law__j2060 μ b9L xs l4 = some r) (hK : ∀ n, V G C F_L_law_ 2708 [some (.ref b9), some (.ref (G.2.1 + 0)), some (.ref (G.2.1 + 264)), some (.ref (G.2.1 + 275)), some (.int l4), none, none] [] (pic G r) n (K + 8) (KS + 48)) : V G C F_L_law_ 2060 [some (.ref b9), some (.ref (G.2.1 + 0)), some (.ref (G.2.1 + 264)), some (.ref (G.2.1 + 275)), some (.int l4), none, none] [] (pic G μ) n (K + 1) (KS + 6) := by
  unfold f_L_law__j2060 at hf
  refine V_goto (tgt := 2708) d_L_law__2060 (by decide) ?_
  refine V_widen (k2 := K + 8) (s2 := KS + 48) (by omega) (by omega) ?_
  refine V_less (ls' := [some _, some _, some _, some _, some _, none, none]) ⟨rfl, rfl, rfl, rfl, rfl, trivial⟩ ?_
  cases hf
  exact hK _
theorem s_L_law__j1991 {G : Gl} (hG : G.1.stackTraces = false) {C : Cx} {n b9 K KS : Nat} {μ : Mem} {b9L : Nat} {xs : (Nat → Int32)} {l4 : Int32} (hX9 : ScX G C b9 b9L xs) (hKb : K + 8 ≤ 500000 ∧ KS + 48 ≤ 5000000) {r : Mem} (hf : f_L_law__j1991 μ b9L xs l4 = some r) (hK : ∀ n, V G C F_L_law_ 2708 [some (.ref b9), some (.ref (G.2.1 + 0)), some (.ref (G.2.1 + 264)), some (.ref (G.2.1 + 275)), some (.int l4), none, none] [] (pic G r) n (K + 8) (KS + 48)) : V G C F_L_law_ 1991 [some (.ref b9), some (.ref (G.2.1 + 0)), some (.ref (G.2.1 + 264)), some (.ref (G.2.1 + 275)), some (.int l4), none, none] [] (pic G μ) n (K + 0) (KS + 0) := by
  unfold f_L_law__j1991 at hf
  refine V_aload_n d_L_law__1991 rfl rfl ?_
  refine V_aload_n d_L_law__1992 rfl rfl ?_
  refine V_iload d_L_law__1993 rfl ?_
  refine V_iconst (v := 1) d_L_law__1995 ic_1 ?_
  refine V_iadd d_L_law__1996 ?_
  obtain ⟨t1, ht1, hf⟩ := ob hf
  refine V_sld hX9 ht1 d_L_law__1997 ?_
  have hJj2 : ∀ j2 : Bool, j2 = (if t1 = 0 then (false : Bool) else true) → V G C F_L_law_ 2006 [some (.ref b9), some (.ref (G.2.1 + 0)), some (.ref (G.2.1 + 264)), some (.ref (G.2.1 + 275)), some (.int l4), none, none] [.int (b2i j2), .ref (G.2.1 + 0)] (pic G μ) n (K + 0) (KS + 0) := by
    intro j2 ej2
    subst ej2
    refine V_aload_n d_L_law__2006 rfl rfl ?_
    obtain ⟨q3, hq3, hf⟩ := ob hf
    refine B_callSH (s_L_wear hG hq3) (kc' := (K + 1)) (ks' := (KS + 6)) m_L_wear ks_RL_246 d_L_law__2007 rfl (Nat.le_of_ble_eq_true rfl) ⟨rfl, rfl, (show K + 1 ≤ 500000 by omega), (show KS + 6 ≤ 5000000 by omega), Nat.le_of_ble_eq_true rfl⟩ (fun n => ?_)
    refine V_istore (ls' := [_, _, _, _, _, _, _]) d_L_law__2010 rfl rfl ?_
    refine V_aload_n d_L_law__2012 rfl rfl ?_
    refine V_aload_n d_L_law__2013 rfl rfl ?_
    refine V_iload d_L_law__2014 rfl ?_
    refine V_iconst (v := 1) d_L_law__2016 ic_1 ?_
    refine V_iadd d_L_law__2017 ?_
    obtain ⟨t4, ht4, hf⟩ := ob hf
    refine V_sld hX9 ht4 d_L_law__2018 ?_
    have hJj5 : ∀ j5 : Bool, j5 = (if t4 = 0 then (false : Bool) else true) → V G C F_L_law_ 2027 [some (.ref b9), some (.ref (G.2.1 + 0)), some (.ref (G.2.1 + 264)), some (.ref (G.2.1 + 275)), some (.int l4), some (.int q3.1), none] [.int (b2i j5), .ref (G.2.1 + 264)] (pic G q3.2) n (K + 1) (KS + 6) := by
      intro j5 ej5
      subst ej5
      obtain ⟨q6, hq6, hf⟩ := ob hf
      refine B_callV1 (s_X12_wear hG hq6) k_264 clX12 m_X12_wear kv_RL_249 d_L_law__2027 rfl (Nat.le_of_ble_eq_true rfl) ⟨rfl, rfl, (show K + 1 ≤ 500000 by omega), (show KS + 6 ≤ 5000000 by omega), Nat.le_of_ble_eq_true rfl⟩ (fun n => ?_)
      refine V_istore (ls' := [_, _, _, _, _, _, _]) d_L_law__2030 rfl rfl ?_
      refine V_aload_n d_L_law__2032 rfl rfl ?_
      obtain ⟨t7, ht7, hf⟩ := ob hf
      refine B_callV1 (s_X12_thrown hG ht7) k_264 clX12 m_X12_thrown kv_RL_145 d_L_law__2033 rfl (Nat.le_of_ble_eq_true rfl) ⟨rfl, rfl, (show K + 1 ≤ 500000 by omega), (show KS + 6 ≤ 5000000 by omega), Nat.le_of_ble_eq_true rfl⟩ (fun n => ?_)
      refine V_iload d_L_law__2036 rfl ?_
      refine V_icmp_eq (tgt := 2043) d_L_law__2038 (by decide) (fun c2038 => ?_) (fun c2038 => ?_)
      · replace hf := iteT c2038 hf
        refine V_iload d_L_law__2043 rfl ?_
        refine V_if_ne (tgt := 2060) d_L_law__2045 (by decide) (fun c2045 => ?_) (fun c2045 => ?_)
        · replace hf := iteF c2045 hf
          refine V_less (ls' := [some _, some _, some _, some _, some _, none, none]) ⟨rfl, rfl, rfl, rfl, rfl, trivial⟩ ?_
          exact s_L_law__j2060 hG hX9 hKb hf hK
        · replace hf := iteT c2045 hf
          refine V_aload_n d_L_law__2048 rfl rfl ?_
          refine V_iconst (v := 0) d_L_law__2049 ic_0 ?_
          obtain ⟨t8, ht8, hf⟩ := ob hf
          refine B_lald k_275 ht8 d_L_law__2050 ?_
          refine V_iload d_L_law__2051 rfl ?_
          refine V_i2l d_L_law__2053 ?_
          refine V_lcmp d_L_law__2054 ?_
          refine V_if_eq (tgt := 2060) d_L_law__2055 (by decide) (fun c2055 => ?_) (fun c2055 => ?_)
          · replace hf := iteT c2055 hf
            refine V_less (ls' := [some _, some _, some _, some _, some _, none, none]) ⟨rfl, rfl, rfl, rfl, rfl, trivial⟩ ?_
            exact s_L_law__j2060 hG hX9 hKb hf hK
          · replace hf := iteF c2055 hf
            refine V_iconst (v := 0) d_L_law__2058 ic_0 ?_
            cases hf
      · replace hf := iteF c2038 hf
        refine V_iconst (v := 0) d_L_law__2041 ic_0 ?_
        cases hf
    refine V_if_eq (tgt := 2026) d_L_law__2019 (by decide) (fun c2019 => ?_) (fun c2019 => ?_)
    · refine V_iconst (v := 0) d_L_law__2026 ic_0 ?_
      refine V_less (ls' := [some _, some _, some _, some _, some _, some _, none]) ⟨rfl, rfl, rfl, rfl, rfl, rfl, trivial⟩ ?_
      exact hJj5 false (by rw [if_pos c2019])
    · refine V_iconst (v := 1) d_L_law__2022 ic_1 ?_
      refine V_goto (tgt := 2027) d_L_law__2023 (by decide) ?_
      refine V_less (ls' := [some _, some _, some _, some _, some _, some _, none]) ⟨rfl, rfl, rfl, rfl, rfl, rfl, trivial⟩ ?_
      exact hJj5 true (by rw [if_neg c2019])
  refine V_if_eq (tgt := 2005) d_L_law__1998 (by decide) (fun c1998 => ?_) (fun c1998 => ?_)
  · refine V_iconst (v := 0) d_L_law__2005 ic_0 ?_
    refine V_less (ls' := [some _, some _, some _, some _, some _, none, none]) ⟨rfl, rfl, rfl, rfl, rfl, trivial⟩ ?_
    exact hJj2 false (by rw [if_pos c1998])
  · refine V_iconst (v := 1) d_L_law__2001 ic_1 ?_
    refine V_goto (tgt := 2006) d_L_law__2002 (by decide) ?_
    refine V_less (ls' := [some _, some _, some _, some _, some _, none, none]) ⟨rfl, rfl, rfl, rfl, rfl, trivial⟩ ?_
    exact hJj2 true (by rw [if_neg c1998])
theorem s_L_law__j2104 {G : Gl} (hG : G.1.stackTraces = false) {C : Cx} {n b9 K KS : Nat} {μ : Mem} {b9L : Nat} {xs : (Nat → Int32)} {l4 : Int32} (hX9 : ScX G C b9 b9L xs) (hKb : K + 8 ≤ 500000 ∧ KS + 48 ≤ 5000000) {r : Mem} (hf : f_L_law__j2104 μ b9L xs l4 = some r) (hK : ∀ n, V G C F_L_law_ 2708 [some (.ref b9), some (.ref (G.2.1 + 0)), some (.ref (G.2.1 + 264)), some (.ref (G.2.1 + 275)), some (.int l4), none, none] [] (pic G r) n (K + 8) (KS + 48)) : V G C F_L_law_ 2104 [some (.ref b9), some (.ref (G.2.1 + 0)), some (.ref (G.2.1 + 264)), some (.ref (G.2.1 + 275)), some (.int l4), none, none] [] (pic G μ) n (K + 1) (KS + 6) := by
  unfold f_L_law__j2104 at hf
  refine V_goto (tgt := 2708) d_L_law__2104 (by decide) ?_
  refine V_widen (k2 := K + 8) (s2 := KS + 48) (by omega) (by omega) ?_
  refine V_less (ls' := [some _, some _, some _, some _, some _, none, none]) ⟨rfl, rfl, rfl, rfl, rfl, trivial⟩ ?_
  cases hf
  exact hK _
theorem s_L_law__j2063 {G : Gl} (hG : G.1.stackTraces = false) {C : Cx} {n b9 K KS : Nat} {μ : Mem} {b9L : Nat} {xs : (Nat → Int32)} {l4 : Int32} (hX9 : ScX G C b9 b9L xs) (hKb : K + 8 ≤ 500000 ∧ KS + 48 ≤ 5000000) {r : Mem} (hf : f_L_law__j2063 μ b9L xs l4 = some r) (hK : ∀ n, V G C F_L_law_ 2708 [some (.ref b9), some (.ref (G.2.1 + 0)), some (.ref (G.2.1 + 264)), some (.ref (G.2.1 + 275)), some (.int l4), none, none] [] (pic G r) n (K + 8) (KS + 48)) : V G C F_L_law_ 2063 [some (.ref b9), some (.ref (G.2.1 + 0)), some (.ref (G.2.1 + 264)), some (.ref (G.2.1 + 275)), some (.int l4), none, none] [] (pic G μ) n (K + 0) (KS + 0) := by
  unfold f_L_law__j2063 at hf
  refine V_aload_n d_L_law__2063 rfl rfl ?_
  refine V_aload_n d_L_law__2064 rfl rfl ?_
  obtain ⟨q1, hq1, hf⟩ := ob hf
  refine B_callSH (s_L_look hG hq1) (kc' := (K + 1)) (ks' := (KS + 6)) m_L_look ks_RL_250 d_L_law__2065 rfl (Nat.le_of_ble_eq_true rfl) ⟨rfl, rfl, (show K + 1 ≤ 500000 by omega), (show KS + 6 ≤ 5000000 by omega), Nat.le_of_ble_eq_true rfl⟩ (fun n => ?_)
  refine V_istore (ls' := [_, _, _, _, _, _, _]) d_L_law__2068 rfl rfl ?_
  refine V_aload_n d_L_law__2070 rfl rfl ?_
  obtain ⟨q2, hq2, hf⟩ := ob hf
  refine B_callV1 (s_X12_look hG hq2) k_264 clX12 m_X12_look kv_RL_252 d_L_law__2071 rfl (Nat.le_of_ble_eq_true rfl) ⟨rfl, rfl, (show K + 1 ≤ 500000 by omega), (show KS + 6 ≤ 5000000 by omega), Nat.le_of_ble_eq_true rfl⟩ (fun n => ?_)
  refine V_istore (ls' := [_, _, _, _, _, _, _]) d_L_law__2074 rfl rfl ?_
  refine V_aload_n d_L_law__2076 rfl rfl ?_
  obtain ⟨t3, ht3, hf⟩ := ob hf
  refine B_callV1 (s_X12_thrown hG ht3) k_264 clX12 m_X12_thrown kv_RL_145 d_L_law__2077 rfl (Nat.le_of_ble_eq_true rfl) ⟨rfl, rfl, (show K + 1 ≤ 500000 by omega), (show KS + 6 ≤ 5000000 by omega), Nat.le_of_ble_eq_true rfl⟩ (fun n => ?_)
  refine V_iload d_L_law__2080 rfl ?_
  refine V_icmp_eq (tgt := 2087) d_L_law__2082 (by decide) (fun c2082 => ?_) (fun c2082 => ?_)
  · replace hf := iteT c2082 hf
    refine V_iload d_L_law__2087 rfl ?_
    refine V_if_ne (tgt := 2104) d_L_law__2089 (by decide) (fun c2089 => ?_) (fun c2089 => ?_)
    · replace hf := iteF c2089 hf
      refine V_less (ls' := [some _, some _, some _, some _, some _, none, none]) ⟨rfl, rfl, rfl, rfl, rfl, trivial⟩ ?_
      exact s_L_law__j2104 hG hX9 hKb hf hK
    · replace hf := iteT c2089 hf
      refine V_aload_n d_L_law__2092 rfl rfl ?_
      refine V_iconst (v := 0) d_L_law__2093 ic_0 ?_
      obtain ⟨t4, ht4, hf⟩ := ob hf
      refine B_lald k_275 ht4 d_L_law__2094 ?_
      refine V_iload d_L_law__2095 rfl ?_
      refine V_i2l d_L_law__2097 ?_
      refine V_lcmp d_L_law__2098 ?_
      refine V_if_eq (tgt := 2104) d_L_law__2099 (by decide) (fun c2099 => ?_) (fun c2099 => ?_)
      · replace hf := iteT c2099 hf
        refine V_less (ls' := [some _, some _, some _, some _, some _, none, none]) ⟨rfl, rfl, rfl, rfl, rfl, trivial⟩ ?_
        exact s_L_law__j2104 hG hX9 hKb hf hK
      · replace hf := iteF c2099 hf
        refine V_iconst (v := 0) d_L_law__2102 ic_0 ?_
        cases hf
  · replace hf := iteF c2082 hf
    refine V_iconst (v := 0) d_L_law__2085 ic_0 ?_
    cases hf
theorem s_L_law__j2160 {G : Gl} (hG : G.1.stackTraces = false) {C : Cx} {n b9 K KS : Nat} {μ : Mem} {b9L : Nat} {xs : (Nat → Int32)} {l4 : Int32} (hX9 : ScX G C b9 b9L xs) (hKb : K + 8 ≤ 500000 ∧ KS + 48 ≤ 5000000) {r : Mem} (hf : f_L_law__j2160 μ b9L xs l4 = some r) (hK : ∀ n, V G C F_L_law_ 2708 [some (.ref b9), some (.ref (G.2.1 + 0)), some (.ref (G.2.1 + 264)), some (.ref (G.2.1 + 275)), some (.int l4), none, none] [] (pic G r) n (K + 8) (KS + 48)) : V G C F_L_law_ 2160 [some (.ref b9), some (.ref (G.2.1 + 0)), some (.ref (G.2.1 + 264)), some (.ref (G.2.1 + 275)), some (.int l4), none, none] [] (pic G μ) n (K + 1) (KS + 6) := by
  unfold f_L_law__j2160 at hf
  refine V_goto (tgt := 2708) d_L_law__2160 (by decide) ?_
  refine V_widen (k2 := K + 8) (s2 := KS + 48) (by omega) (by omega) ?_
  refine V_less (ls' := [some _, some _, some _, some _, some _, none, none]) ⟨rfl, rfl, rfl, rfl, rfl, trivial⟩ ?_
  cases hf
  exact hK _
theorem s_L_law__j2107 {G : Gl} (hG : G.1.stackTraces = false) {C : Cx} {n b9 K KS : Nat} {μ : Mem} {b9L : Nat} {xs : (Nat → Int32)} {l4 : Int32} (hX9 : ScX G C b9 b9L xs) (hKb : K + 8 ≤ 500000 ∧ KS + 48 ≤ 5000000) {r : Mem} (hf : f_L_law__j2107 μ b9L xs l4 = some r) (hK : ∀ n, V G C F_L_law_ 2708 [some (.ref b9), some (.ref (G.2.1 + 0)), some (.ref (G.2.1 + 264)), some (.ref (G.2.1 + 275)), some (.int l4), none, none] [] (pic G r) n (K + 8) (KS + 48)) : V G C F_L_law_ 2107 [some (.ref b9), some (.ref (G.2.1 + 0)), some (.ref (G.2.1 + 264)), some (.ref (G.2.1 + 275)), some (.int l4), none, none] [] (pic G μ) n (K + 0) (KS + 0) := by
  unfold f_L_law__j2107 at hf
  refine V_aload_n d_L_law__2107 rfl rfl ?_
  refine V_aload_n d_L_law__2108 rfl rfl ?_
  refine V_iload d_L_law__2109 rfl ?_
  refine V_iconst (v := 1) d_L_law__2111 ic_1 ?_
  refine V_iadd d_L_law__2112 ?_
  obtain ⟨t1, ht1, hf⟩ := ob hf
  refine V_sld hX9 ht1 d_L_law__2113 ?_
  refine V_aload_n d_L_law__2114 rfl rfl ?_
  obtain ⟨q2, hq2, hf⟩ := ob hf
  refine B_callSH (s_L_race hG hq2) (kc' := (K + 1)) (ks' := (KS + 6)) m_L_race ks_RL_253 d_L_law__2115 rfl (Nat.le_of_ble_eq_true rfl) ⟨rfl, rfl, (show K + 1 ≤ 500000 by omega), (show KS + 6 ≤ 5000000 by omega), Nat.le_of_ble_eq_true rfl⟩ (fun n => ?_)
  refine V_istore (ls' := [_, _, _, _, _, _, _]) d_L_law__2118 rfl rfl ?_
  refine V_aload_n d_L_law__2120 rfl rfl ?_
  refine V_aload_n d_L_law__2121 rfl rfl ?_
  refine V_iload d_L_law__2122 rfl ?_
  refine V_iconst (v := 1) d_L_law__2124 ic_1 ?_
  refine V_iadd d_L_law__2125 ?_
  obtain ⟨t3, ht3, hf⟩ := ob hf
  refine V_sld hX9 ht3 d_L_law__2126 ?_
  obtain ⟨q4, hq4, hf⟩ := ob hf
  refine B_callV1 (s_X12_race hG hq4) k_264 clX12 m_X12_race kv_RL_255 d_L_law__2127 rfl (Nat.le_of_ble_eq_true rfl) ⟨rfl, rfl, (show K + 1 ≤ 500000 by omega), (show KS + 6 ≤ 5000000 by omega), Nat.le_of_ble_eq_true rfl⟩ (fun n => ?_)
  refine V_istore (ls' := [_, _, _, _, _, _, _]) d_L_law__2130 rfl rfl ?_
  refine V_aload_n d_L_law__2132 rfl rfl ?_
  obtain ⟨t5, ht5, hf⟩ := ob hf
  refine B_callV1 (s_X12_thrown hG ht5) k_264 clX12 m_X12_thrown kv_RL_145 d_L_law__2133 rfl (Nat.le_of_ble_eq_true rfl) ⟨rfl, rfl, (show K + 1 ≤ 500000 by omega), (show KS + 6 ≤ 5000000 by omega), Nat.le_of_ble_eq_true rfl⟩ (fun n => ?_)
  refine V_iload d_L_law__2136 rfl ?_
  refine V_icmp_eq (tgt := 2143) d_L_law__2138 (by decide) (fun c2138 => ?_) (fun c2138 => ?_)
  · replace hf := iteT c2138 hf
    refine V_iload d_L_law__2143 rfl ?_
    refine V_if_ne (tgt := 2160) d_L_law__2145 (by decide) (fun c2145 => ?_) (fun c2145 => ?_)
    · replace hf := iteF c2145 hf
      refine V_less (ls' := [some _, some _, some _, some _, some _, none, none]) ⟨rfl, rfl, rfl, rfl, rfl, trivial⟩ ?_
      exact s_L_law__j2160 hG hX9 hKb hf hK
    · replace hf := iteT c2145 hf
      refine V_aload_n d_L_law__2148 rfl rfl ?_
      refine V_iconst (v := 0) d_L_law__2149 ic_0 ?_
      obtain ⟨t6, ht6, hf⟩ := ob hf
      refine B_lald k_275 ht6 d_L_law__2150 ?_
      refine V_iload d_L_law__2151 rfl ?_
      refine V_i2l d_L_law__2153 ?_
      refine V_lcmp d_L_law__2154 ?_
      refine V_if_eq (tgt := 2160) d_L_law__2155 (by decide) (fun c2155 => ?_) (fun c2155 => ?_)
      · replace hf := iteT c2155 hf
        refine V_less (ls' := [some _, some _, some _, some _, some _, none, none]) ⟨rfl, rfl, rfl, rfl, rfl, trivial⟩ ?_
        exact s_L_law__j2160 hG hX9 hKb hf hK
      · replace hf := iteF c2155 hf
        refine V_iconst (v := 0) d_L_law__2158 ic_0 ?_
        cases hf
  · replace hf := iteF c2138 hf
    refine V_iconst (v := 0) d_L_law__2141 ic_0 ?_
    cases hf
theorem s_L_law__j2163 {G : Gl} (hG : G.1.stackTraces = false) {C : Cx} {n b9 K KS : Nat} {μ : Mem} {b9L : Nat} {xs : (Nat → Int32)} {l4 : Int32} (hX9 : ScX G C b9 b9L xs) (hKb : K + 8 ≤ 500000 ∧ KS + 48 ≤ 5000000) {r : Mem} (hf : f_L_law__j2163 μ b9L xs l4 = some r) (hK : ∀ n, V G C F_L_law_ 2708 [some (.ref b9), some (.ref (G.2.1 + 0)), some (.ref (G.2.1 + 264)), some (.ref (G.2.1 + 275)), some (.int l4), none, none] [] (pic G r) n (K + 8) (KS + 48)) : V G C F_L_law_ 2163 [some (.ref b9), some (.ref (G.2.1 + 0)), some (.ref (G.2.1 + 264)), some (.ref (G.2.1 + 275)), some (.int l4), none, none] [] (pic G μ) n (K + 0) (KS + 0) := by
  unfold f_L_law__j2163 at hf
  refine V_aload_n d_L_law__2163 rfl rfl ?_
  obtain ⟨q1, hq1, hf⟩ := ob hf
  refine B_callV1 (s_X11_pairs hG hq1) k_0 clX11 m_X11_pairs kv_RL_256 d_L_law__2164 rfl (Nat.le_of_ble_eq_true rfl) ⟨rfl, rfl, (show K + 0 ≤ 500000 by omega), (show KS + 0 ≤ 5000000 by omega), Nat.le_of_ble_eq_true rfl⟩ (fun n => ?_)
  refine V_aload_n d_L_law__2167 rfl rfl ?_
  obtain ⟨q2, hq2, hf⟩ := ob hf
  refine B_callV1 (s_X12_pairs hG hq2) k_264 clX12 m_X12_pairs kv_RL_259 d_L_law__2168 rfl (Nat.le_of_ble_eq_true rfl) ⟨rfl, rfl, (show K + 0 ≤ 500000 by omega), (show KS + 0 ≤ 5000000 by omega), Nat.le_of_ble_eq_true rfl⟩ (fun n => ?_)
  refine V_icmp_eq (tgt := 2708) d_L_law__2171 (by decide) (fun c2171 => ?_) (fun c2171 => ?_)
  · replace hf := iteT c2171 hf
    refine V_widen (k2 := K + 8) (s2 := KS + 48) (by omega) (by omega) ?_
    refine V_less (ls' := [some _, some _, some _, some _, some _, none, none]) ⟨rfl, rfl, rfl, rfl, rfl, trivial⟩ ?_
    cases hf
    exact hK _
  · replace hf := iteF c2171 hf
    refine V_iconst (v := 0) d_L_law__2174 ic_0 ?_
    cases hf
theorem s_L_law__j2229 {G : Gl} (hG : G.1.stackTraces = false) {C : Cx} {n b9 K KS : Nat} {μ : Mem} {b9L : Nat} {xs : (Nat → Int32)} {l4 : Int32} (hX9 : ScX G C b9 b9L xs) (hKb : K + 8 ≤ 500000 ∧ KS + 48 ≤ 5000000) {r : Mem} (hf : f_L_law__j2229 μ b9L xs l4 = some r) (hK : ∀ n, V G C F_L_law_ 2708 [some (.ref b9), some (.ref (G.2.1 + 0)), some (.ref (G.2.1 + 264)), some (.ref (G.2.1 + 275)), some (.int l4), none, none] [] (pic G r) n (K + 8) (KS + 48)) : V G C F_L_law_ 2229 [some (.ref b9), some (.ref (G.2.1 + 0)), some (.ref (G.2.1 + 264)), some (.ref (G.2.1 + 275)), some (.int l4), none, none] [] (pic G μ) n (K + 1) (KS + 6) := by
  unfold f_L_law__j2229 at hf
  refine V_goto (tgt := 2708) d_L_law__2229 (by decide) ?_
  refine V_widen (k2 := K + 8) (s2 := KS + 48) (by omega) (by omega) ?_
  refine V_less (ls' := [some _, some _, some _, some _, some _, none, none]) ⟨rfl, rfl, rfl, rfl, rfl, trivial⟩ ?_
  cases hf
  exact hK _
theorem s_L_law__j2176 {G : Gl} (hG : G.1.stackTraces = false) {C : Cx} {n b9 K KS : Nat} {μ : Mem} {b9L : Nat} {xs : (Nat → Int32)} {l4 : Int32} (hX9 : ScX G C b9 b9L xs) (hKb : K + 8 ≤ 500000 ∧ KS + 48 ≤ 5000000) {r : Mem} (hf : f_L_law__j2176 μ b9L xs l4 = some r) (hK : ∀ n, V G C F_L_law_ 2708 [some (.ref b9), some (.ref (G.2.1 + 0)), some (.ref (G.2.1 + 264)), some (.ref (G.2.1 + 275)), some (.int l4), none, none] [] (pic G r) n (K + 8) (KS + 48)) : V G C F_L_law_ 2176 [some (.ref b9), some (.ref (G.2.1 + 0)), some (.ref (G.2.1 + 264)), some (.ref (G.2.1 + 275)), some (.int l4), none, none] [] (pic G μ) n (K + 0) (KS + 0) := by
  unfold f_L_law__j2176 at hf
  refine V_aload_n d_L_law__2176 rfl rfl ?_
  refine V_aload_n d_L_law__2177 rfl rfl ?_
  refine V_iload d_L_law__2178 rfl ?_
  refine V_iconst (v := 1) d_L_law__2180 ic_1 ?_
  refine V_iadd d_L_law__2181 ?_
  obtain ⟨t1, ht1, hf⟩ := ob hf
  refine V_sld hX9 ht1 d_L_law__2182 ?_
  refine V_aload_n d_L_law__2183 rfl rfl ?_
  obtain ⟨q2, hq2, hf⟩ := ob hf
  refine B_callSH (s_L_lends hG hq2) (kc' := (K + 1)) (ks' := (KS + 6)) m_L_lends ks_RL_260 d_L_law__2184 rfl (Nat.le_of_ble_eq_true rfl) ⟨rfl, rfl, (show K + 1 ≤ 500000 by omega), (show KS + 6 ≤ 5000000 by omega), Nat.le_of_ble_eq_true rfl⟩ (fun n => ?_)
  refine V_istore (ls' := [_, _, _, _, _, _, _]) d_L_law__2187 rfl rfl ?_
  refine V_aload_n d_L_law__2189 rfl rfl ?_
  refine V_aload_n d_L_law__2190 rfl rfl ?_
  refine V_iload d_L_law__2191 rfl ?_
  refine V_iconst (v := 1) d_L_law__2193 ic_1 ?_
  refine V_iadd d_L_law__2194 ?_
  obtain ⟨t3, ht3, hf⟩ := ob hf
  refine V_sld hX9 ht3 d_L_law__2195 ?_
  obtain ⟨q4, hq4, hf⟩ := ob hf
  refine B_callV1 (s_X12_lends hG hq4) k_264 clX12 m_X12_lends kv_RL_262 d_L_law__2196 rfl (Nat.le_of_ble_eq_true rfl) ⟨rfl, rfl, (show K + 1 ≤ 500000 by omega), (show KS + 6 ≤ 5000000 by omega), Nat.le_of_ble_eq_true rfl⟩ (fun n => ?_)
  refine V_istore (ls' := [_, _, _, _, _, _, _]) d_L_law__2199 rfl rfl ?_
  refine V_aload_n d_L_law__2201 rfl rfl ?_
  obtain ⟨t5, ht5, hf⟩ := ob hf
  refine B_callV1 (s_X12_thrown hG ht5) k_264 clX12 m_X12_thrown kv_RL_145 d_L_law__2202 rfl (Nat.le_of_ble_eq_true rfl) ⟨rfl, rfl, (show K + 1 ≤ 500000 by omega), (show KS + 6 ≤ 5000000 by omega), Nat.le_of_ble_eq_true rfl⟩ (fun n => ?_)
  refine V_iload d_L_law__2205 rfl ?_
  refine V_icmp_eq (tgt := 2212) d_L_law__2207 (by decide) (fun c2207 => ?_) (fun c2207 => ?_)
  · replace hf := iteT c2207 hf
    refine V_iload d_L_law__2212 rfl ?_
    refine V_if_ne (tgt := 2229) d_L_law__2214 (by decide) (fun c2214 => ?_) (fun c2214 => ?_)
    · replace hf := iteF c2214 hf
      refine V_less (ls' := [some _, some _, some _, some _, some _, none, none]) ⟨rfl, rfl, rfl, rfl, rfl, trivial⟩ ?_
      exact s_L_law__j2229 hG hX9 hKb hf hK
    · replace hf := iteT c2214 hf
      refine V_aload_n d_L_law__2217 rfl rfl ?_
      refine V_iconst (v := 0) d_L_law__2218 ic_0 ?_
      obtain ⟨t6, ht6, hf⟩ := ob hf
      refine B_lald k_275 ht6 d_L_law__2219 ?_
      refine V_iload d_L_law__2220 rfl ?_
      refine V_i2l d_L_law__2222 ?_
      refine V_lcmp d_L_law__2223 ?_
      refine V_if_eq (tgt := 2229) d_L_law__2224 (by decide) (fun c2224 => ?_) (fun c2224 => ?_)
      · replace hf := iteT c2224 hf
        refine V_less (ls' := [some _, some _, some _, some _, some _, none, none]) ⟨rfl, rfl, rfl, rfl, rfl, trivial⟩ ?_
        exact s_L_law__j2229 hG hX9 hKb hf hK
      · replace hf := iteF c2224 hf
        refine V_iconst (v := 0) d_L_law__2227 ic_0 ?_
        cases hf
  · replace hf := iteF c2207 hf
    refine V_iconst (v := 0) d_L_law__2210 ic_0 ?_
    cases hf
theorem s_L_law__j2285 {G : Gl} (hG : G.1.stackTraces = false) {C : Cx} {n b9 K KS : Nat} {μ : Mem} {b9L : Nat} {xs : (Nat → Int32)} {l4 : Int32} (hX9 : ScX G C b9 b9L xs) (hKb : K + 8 ≤ 500000 ∧ KS + 48 ≤ 5000000) {r : Mem} (hf : f_L_law__j2285 μ b9L xs l4 = some r) (hK : ∀ n, V G C F_L_law_ 2708 [some (.ref b9), some (.ref (G.2.1 + 0)), some (.ref (G.2.1 + 264)), some (.ref (G.2.1 + 275)), some (.int l4), none, none] [] (pic G r) n (K + 8) (KS + 48)) : V G C F_L_law_ 2285 [some (.ref b9), some (.ref (G.2.1 + 0)), some (.ref (G.2.1 + 264)), some (.ref (G.2.1 + 275)), some (.int l4), none, none] [] (pic G μ) n (K + 1) (KS + 6) := by
  unfold f_L_law__j2285 at hf
  refine V_goto (tgt := 2708) d_L_law__2285 (by decide) ?_
  refine V_widen (k2 := K + 8) (s2 := KS + 48) (by omega) (by omega) ?_
  refine V_less (ls' := [some _, some _, some _, some _, some _, none, none]) ⟨rfl, rfl, rfl, rfl, rfl, trivial⟩ ?_
  cases hf
  exact hK _
theorem s_L_law__j2232 {G : Gl} (hG : G.1.stackTraces = false) {C : Cx} {n b9 K KS : Nat} {μ : Mem} {b9L : Nat} {xs : (Nat → Int32)} {l4 : Int32} (hX9 : ScX G C b9 b9L xs) (hKb : K + 8 ≤ 500000 ∧ KS + 48 ≤ 5000000) {r : Mem} (hf : f_L_law__j2232 μ b9L xs l4 = some r) (hK : ∀ n, V G C F_L_law_ 2708 [some (.ref b9), some (.ref (G.2.1 + 0)), some (.ref (G.2.1 + 264)), some (.ref (G.2.1 + 275)), some (.int l4), none, none] [] (pic G r) n (K + 8) (KS + 48)) : V G C F_L_law_ 2232 [some (.ref b9), some (.ref (G.2.1 + 0)), some (.ref (G.2.1 + 264)), some (.ref (G.2.1 + 275)), some (.int l4), none, none] [] (pic G μ) n (K + 0) (KS + 0) := by
  unfold f_L_law__j2232 at hf
  refine V_aload_n d_L_law__2232 rfl rfl ?_
  refine V_aload_n d_L_law__2233 rfl rfl ?_
  refine V_iload d_L_law__2234 rfl ?_
  refine V_iconst (v := 1) d_L_law__2236 ic_1 ?_
  refine V_iadd d_L_law__2237 ?_
  obtain ⟨t1, ht1, hf⟩ := ob hf
  refine V_sld hX9 ht1 d_L_law__2238 ?_
  refine V_aload_n d_L_law__2239 rfl rfl ?_
  obtain ⟨q2, hq2, hf⟩ := ob hf
  refine B_callSH (s_L_loose hG hq2) (kc' := (K + 1)) (ks' := (KS + 6)) m_L_loose ks_RL_263 d_L_law__2240 rfl (Nat.le_of_ble_eq_true rfl) ⟨rfl, rfl, (show K + 1 ≤ 500000 by omega), (show KS + 6 ≤ 5000000 by omega), Nat.le_of_ble_eq_true rfl⟩ (fun n => ?_)
  refine V_istore (ls' := [_, _, _, _, _, _, _]) d_L_law__2243 rfl rfl ?_
  refine V_aload_n d_L_law__2245 rfl rfl ?_
  refine V_aload_n d_L_law__2246 rfl rfl ?_
  refine V_iload d_L_law__2247 rfl ?_
  refine V_iconst (v := 1) d_L_law__2249 ic_1 ?_
  refine V_iadd d_L_law__2250 ?_
  obtain ⟨t3, ht3, hf⟩ := ob hf
  refine V_sld hX9 ht3 d_L_law__2251 ?_
  obtain ⟨q4, hq4, hf⟩ := ob hf
  refine B_callV1 (s_X12_loose hG hq4) k_264 clX12 m_X12_loose kv_RL_265 d_L_law__2252 rfl (Nat.le_of_ble_eq_true rfl) ⟨rfl, rfl, (show K + 1 ≤ 500000 by omega), (show KS + 6 ≤ 5000000 by omega), Nat.le_of_ble_eq_true rfl⟩ (fun n => ?_)
  refine V_istore (ls' := [_, _, _, _, _, _, _]) d_L_law__2255 rfl rfl ?_
  refine V_aload_n d_L_law__2257 rfl rfl ?_
  obtain ⟨t5, ht5, hf⟩ := ob hf
  refine B_callV1 (s_X12_thrown hG ht5) k_264 clX12 m_X12_thrown kv_RL_145 d_L_law__2258 rfl (Nat.le_of_ble_eq_true rfl) ⟨rfl, rfl, (show K + 1 ≤ 500000 by omega), (show KS + 6 ≤ 5000000 by omega), Nat.le_of_ble_eq_true rfl⟩ (fun n => ?_)
  refine V_iload d_L_law__2261 rfl ?_
  refine V_icmp_eq (tgt := 2268) d_L_law__2263 (by decide) (fun c2263 => ?_) (fun c2263 => ?_)
  · replace hf := iteT c2263 hf
    refine V_iload d_L_law__2268 rfl ?_
    refine V_if_ne (tgt := 2285) d_L_law__2270 (by decide) (fun c2270 => ?_) (fun c2270 => ?_)
    · replace hf := iteF c2270 hf
      refine V_less (ls' := [some _, some _, some _, some _, some _, none, none]) ⟨rfl, rfl, rfl, rfl, rfl, trivial⟩ ?_
      exact s_L_law__j2285 hG hX9 hKb hf hK
    · replace hf := iteT c2270 hf
      refine V_aload_n d_L_law__2273 rfl rfl ?_
      refine V_iconst (v := 0) d_L_law__2274 ic_0 ?_
      obtain ⟨t6, ht6, hf⟩ := ob hf
      refine B_lald k_275 ht6 d_L_law__2275 ?_
      refine V_iload d_L_law__2276 rfl ?_
      refine V_i2l d_L_law__2278 ?_
      refine V_lcmp d_L_law__2279 ?_
      refine V_if_eq (tgt := 2285) d_L_law__2280 (by decide) (fun c2280 => ?_) (fun c2280 => ?_)
      · replace hf := iteT c2280 hf
        refine V_less (ls' := [some _, some _, some _, some _, some _, none, none]) ⟨rfl, rfl, rfl, rfl, rfl, trivial⟩ ?_
        exact s_L_law__j2285 hG hX9 hKb hf hK
      · replace hf := iteF c2280 hf
        refine V_iconst (v := 0) d_L_law__2283 ic_0 ?_
        cases hf
  · replace hf := iteF c2263 hf
    refine V_iconst (v := 0) d_L_law__2266 ic_0 ?_
    cases hf
theorem s_L_law__j2288 {G : Gl} (hG : G.1.stackTraces = false) {C : Cx} {n b9 K KS : Nat} {μ : Mem} {b9L : Nat} {xs : (Nat → Int32)} {l4 : Int32} (hX9 : ScX G C b9 b9L xs) (hKb : K + 8 ≤ 500000 ∧ KS + 48 ≤ 5000000) {r : Mem} (hf : f_L_law__j2288 μ b9L xs l4 = some r) (hK : ∀ n, V G C F_L_law_ 2708 [some (.ref b9), some (.ref (G.2.1 + 0)), some (.ref (G.2.1 + 264)), some (.ref (G.2.1 + 275)), some (.int l4), none, none] [] (pic G r) n (K + 8) (KS + 48)) : V G C F_L_law_ 2288 [some (.ref b9), some (.ref (G.2.1 + 0)), some (.ref (G.2.1 + 264)), some (.ref (G.2.1 + 275)), some (.int l4), none, none] [] (pic G μ) n (K + 0) (KS + 0) := by
  unfold f_L_law__j2288 at hf
  refine V_aload_n d_L_law__2288 rfl rfl ?_
  obtain ⟨t1, ht1, hf⟩ := ob hf
  refine B_callV1 (s_X11_rail hG ht1) k_0 clX11 m_X11_rail kv_RL_266 d_L_law__2289 rfl (Nat.le_of_ble_eq_true rfl) ⟨rfl, rfl, (show K + 0 ≤ 500000 by omega), (show KS + 0 ≤ 5000000 by omega), Nat.le_of_ble_eq_true rfl⟩ (fun n => ?_)
  refine V_aload_n d_L_law__2292 rfl rfl ?_
  obtain ⟨q2, hq2, hf⟩ := ob hf
  refine B_callV1 (s_X12_rail hG hq2) k_264 clX12 m_X12_rail kv_RL_269 d_L_law__2293 rfl (Nat.le_of_ble_eq_true rfl) ⟨rfl, rfl, (show K + 0 ≤ 500000 by omega), (show KS + 0 ≤ 5000000 by omega), Nat.le_of_ble_eq_true rfl⟩ (fun n => ?_)
  refine V_icmp_eq (tgt := 2708) d_L_law__2296 (by decide) (fun c2296 => ?_) (fun c2296 => ?_)
  · replace hf := iteT c2296 hf
    refine V_widen (k2 := K + 8) (s2 := KS + 48) (by omega) (by omega) ?_
    refine V_less (ls' := [some _, some _, some _, some _, some _, none, none]) ⟨rfl, rfl, rfl, rfl, rfl, trivial⟩ ?_
    cases hf
    exact hK _
  · replace hf := iteF c2296 hf
    refine V_iconst (v := 0) d_L_law__2299 ic_0 ?_
    cases hf
theorem s_L_law__j2382 {G : Gl} (hG : G.1.stackTraces = false) {C : Cx} {n b9 K KS : Nat} {μ : Mem} {b9L : Nat} {xs : (Nat → Int32)} {l4 : Int32} (hX9 : ScX G C b9 b9L xs) (hKb : K + 8 ≤ 500000 ∧ KS + 48 ≤ 5000000) {r : Mem} (hf : f_L_law__j2382 μ b9L xs l4 = some r) (hK : ∀ n, V G C F_L_law_ 2708 [some (.ref b9), some (.ref (G.2.1 + 0)), some (.ref (G.2.1 + 264)), some (.ref (G.2.1 + 275)), some (.int l4), none, none] [] (pic G r) n (K + 8) (KS + 48)) : V G C F_L_law_ 2382 [some (.ref b9), some (.ref (G.2.1 + 0)), some (.ref (G.2.1 + 264)), some (.ref (G.2.1 + 275)), some (.int l4), none, none] [] (pic G μ) n (K + 1) (KS + 6) := by
  unfold f_L_law__j2382 at hf
  refine V_goto (tgt := 2708) d_L_law__2382 (by decide) ?_
  refine V_widen (k2 := K + 8) (s2 := KS + 48) (by omega) (by omega) ?_
  refine V_less (ls' := [some _, some _, some _, some _, some _, none, none]) ⟨rfl, rfl, rfl, rfl, rfl, trivial⟩ ?_
  cases hf
  exact hK _
theorem s_L_law__j2301 {G : Gl} (hG : G.1.stackTraces = false) {C : Cx} {n b9 K KS : Nat} {μ : Mem} {b9L : Nat} {xs : (Nat → Int32)} {l4 : Int32} (hX9 : ScX G C b9 b9L xs) (hKb : K + 8 ≤ 500000 ∧ KS + 48 ≤ 5000000) {r : Mem} (hf : f_L_law__j2301 μ b9L xs l4 = some r) (hK : ∀ n, V G C F_L_law_ 2708 [some (.ref b9), some (.ref (G.2.1 + 0)), some (.ref (G.2.1 + 264)), some (.ref (G.2.1 + 275)), some (.int l4), none, none] [] (pic G r) n (K + 8) (KS + 48)) : V G C F_L_law_ 2301 [some (.ref b9), some (.ref (G.2.1 + 0)), some (.ref (G.2.1 + 264)), some (.ref (G.2.1 + 275)), some (.int l4), none, none] [] (pic G μ) n (K + 0) (KS + 0) := by
  unfold f_L_law__j2301 at hf
  refine V_aload_n d_L_law__2301 rfl rfl ?_
  refine V_aload_n d_L_law__2302 rfl rfl ?_
  refine V_iload d_L_law__2303 rfl ?_
  refine V_iconst (v := 1) d_L_law__2305 ic_1 ?_
  refine V_iadd d_L_law__2306 ?_
  obtain ⟨t1, ht1, hf⟩ := ob hf
  refine V_sld hX9 ht1 d_L_law__2307 ?_
  refine V_aload_n d_L_law__2308 rfl rfl ?_
  refine V_iload d_L_law__2309 rfl ?_
  refine V_iconst (v := 2) d_L_law__2311 ic_2 ?_
  refine V_iadd d_L_law__2312 ?_
  obtain ⟨t2, ht2, hf⟩ := ob hf
  refine V_sld hX9 ht2 d_L_law__2313 ?_
  have hJj3 : ∀ j3 : Bool, j3 = (if t2 = 0 then (false : Bool) else true) → V G C F_L_law_ 2322 [some (.ref b9), some (.ref (G.2.1 + 0)), some (.ref (G.2.1 + 264)), some (.ref (G.2.1 + 275)), some (.int l4), none, none] [.int (b2i j3), .int t1, .ref (G.2.1 + 0)] (pic G μ) n (K + 0) (KS + 0) := by
    intro j3 ej3
    subst ej3
    refine V_aload_n d_L_law__2322 rfl rfl ?_
    obtain ⟨q4, hq4, hf⟩ := ob hf
    refine B_callSH (s_L_trial hG hq4) (kc' := (K + 1)) (ks' := (KS + 6)) m_L_trial ks_RL_270 d_L_law__2323 rfl (Nat.le_of_ble_eq_true rfl) ⟨rfl, rfl, (show K + 1 ≤ 500000 by omega), (show KS + 6 ≤ 5000000 by omega), Nat.le_of_ble_eq_true rfl⟩ (fun n => ?_)
    refine V_istore (ls' := [_, _, _, _, _, _, _]) d_L_law__2326 rfl rfl ?_
    refine V_aload_n d_L_law__2328 rfl rfl ?_
    refine V_aload_n d_L_law__2329 rfl rfl ?_
    refine V_iload d_L_law__2330 rfl ?_
    refine V_iconst (v := 1) d_L_law__2332 ic_1 ?_
    refine V_iadd d_L_law__2333 ?_
    obtain ⟨t5, ht5, hf⟩ := ob hf
    refine V_sld hX9 ht5 d_L_law__2334 ?_
    refine V_aload_n d_L_law__2335 rfl rfl ?_
    refine V_iload d_L_law__2336 rfl ?_
    refine V_iconst (v := 2) d_L_law__2338 ic_2 ?_
    refine V_iadd d_L_law__2339 ?_
    obtain ⟨t6, ht6, hf⟩ := ob hf
    refine V_sld hX9 ht6 d_L_law__2340 ?_
    have hJj7 : ∀ j7 : Bool, j7 = (if t6 = 0 then (false : Bool) else true) → V G C F_L_law_ 2349 [some (.ref b9), some (.ref (G.2.1 + 0)), some (.ref (G.2.1 + 264)), some (.ref (G.2.1 + 275)), some (.int l4), some (.int q4.1), none] [.int (b2i j7), .int t5, .ref (G.2.1 + 264)] (pic G q4.2) n (K + 1) (KS + 6) := by
      intro j7 ej7
      subst ej7
      obtain ⟨q8, hq8, hf⟩ := ob hf
      refine B_callV1 (s_X12_trial hG hq8) k_264 clX12 m_X12_trial kv_RL_272 d_L_law__2349 rfl (Nat.le_of_ble_eq_true rfl) ⟨rfl, rfl, (show K + 1 ≤ 500000 by omega), (show KS + 6 ≤ 5000000 by omega), Nat.le_of_ble_eq_true rfl⟩ (fun n => ?_)
      refine V_istore (ls' := [_, _, _, _, _, _, _]) d_L_law__2352 rfl rfl ?_
      refine V_aload_n d_L_law__2354 rfl rfl ?_
      obtain ⟨t9, ht9, hf⟩ := ob hf
      refine B_callV1 (s_X12_thrown hG ht9) k_264 clX12 m_X12_thrown kv_RL_145 d_L_law__2355 rfl (Nat.le_of_ble_eq_true rfl) ⟨rfl, rfl, (show K + 1 ≤ 500000 by omega), (show KS + 6 ≤ 5000000 by omega), Nat.le_of_ble_eq_true rfl⟩ (fun n => ?_)
      refine V_iload d_L_law__2358 rfl ?_
      refine V_icmp_eq (tgt := 2365) d_L_law__2360 (by decide) (fun c2360 => ?_) (fun c2360 => ?_)
      · replace hf := iteT c2360 hf
        refine V_iload d_L_law__2365 rfl ?_
        refine V_if_ne (tgt := 2382) d_L_law__2367 (by decide) (fun c2367 => ?_) (fun c2367 => ?_)
        · replace hf := iteF c2367 hf
          refine V_less (ls' := [some _, some _, some _, some _, some _, none, none]) ⟨rfl, rfl, rfl, rfl, rfl, trivial⟩ ?_
          exact s_L_law__j2382 hG hX9 hKb hf hK
        · replace hf := iteT c2367 hf
          refine V_aload_n d_L_law__2370 rfl rfl ?_
          refine V_iconst (v := 0) d_L_law__2371 ic_0 ?_
          obtain ⟨t10, ht10, hf⟩ := ob hf
          refine B_lald k_275 ht10 d_L_law__2372 ?_
          refine V_iload d_L_law__2373 rfl ?_
          refine V_i2l d_L_law__2375 ?_
          refine V_lcmp d_L_law__2376 ?_
          refine V_if_eq (tgt := 2382) d_L_law__2377 (by decide) (fun c2377 => ?_) (fun c2377 => ?_)
          · replace hf := iteT c2377 hf
            refine V_less (ls' := [some _, some _, some _, some _, some _, none, none]) ⟨rfl, rfl, rfl, rfl, rfl, trivial⟩ ?_
            exact s_L_law__j2382 hG hX9 hKb hf hK
          · replace hf := iteF c2377 hf
            refine V_iconst (v := 0) d_L_law__2380 ic_0 ?_
            cases hf
      · replace hf := iteF c2360 hf
        refine V_iconst (v := 0) d_L_law__2363 ic_0 ?_
        cases hf
    refine V_if_eq (tgt := 2348) d_L_law__2341 (by decide) (fun c2341 => ?_) (fun c2341 => ?_)
    · refine V_iconst (v := 0) d_L_law__2348 ic_0 ?_
      refine V_less (ls' := [some _, some _, some _, some _, some _, some _, none]) ⟨rfl, rfl, rfl, rfl, rfl, rfl, trivial⟩ ?_
      exact hJj7 false (by rw [if_pos c2341])
    · refine V_iconst (v := 1) d_L_law__2344 ic_1 ?_
      refine V_goto (tgt := 2349) d_L_law__2345 (by decide) ?_
      refine V_less (ls' := [some _, some _, some _, some _, some _, some _, none]) ⟨rfl, rfl, rfl, rfl, rfl, rfl, trivial⟩ ?_
      exact hJj7 true (by rw [if_neg c2341])
  refine V_if_eq (tgt := 2321) d_L_law__2314 (by decide) (fun c2314 => ?_) (fun c2314 => ?_)
  · refine V_iconst (v := 0) d_L_law__2321 ic_0 ?_
    refine V_less (ls' := [some _, some _, some _, some _, some _, none, none]) ⟨rfl, rfl, rfl, rfl, rfl, trivial⟩ ?_
    exact hJj3 false (by rw [if_pos c2314])
  · refine V_iconst (v := 1) d_L_law__2317 ic_1 ?_
    refine V_goto (tgt := 2322) d_L_law__2318 (by decide) ?_
    refine V_less (ls' := [some _, some _, some _, some _, some _, none, none]) ⟨rfl, rfl, rfl, rfl, rfl, trivial⟩ ?_
    exact hJj3 true (by rw [if_neg c2314])
theorem s_L_law__j2466 {G : Gl} (hG : G.1.stackTraces = false) {C : Cx} {n b9 K KS : Nat} {μ : Mem} {b9L : Nat} {xs : (Nat → Int32)} {l4 : Int32} (hX9 : ScX G C b9 b9L xs) (hKb : K + 8 ≤ 500000 ∧ KS + 48 ≤ 5000000) {r : Mem} (hf : f_L_law__j2466 μ b9L xs l4 = some r) (hK : ∀ n, V G C F_L_law_ 2708 [some (.ref b9), some (.ref (G.2.1 + 0)), some (.ref (G.2.1 + 264)), some (.ref (G.2.1 + 275)), some (.int l4), none, none] [] (pic G r) n (K + 8) (KS + 48)) : V G C F_L_law_ 2466 [some (.ref b9), some (.ref (G.2.1 + 0)), some (.ref (G.2.1 + 264)), some (.ref (G.2.1 + 275)), some (.int l4), none, none] [] (pic G μ) n (K + 1) (KS + 6) := by
  unfold f_L_law__j2466 at hf
  refine V_goto (tgt := 2708) d_L_law__2466 (by decide) ?_
  refine V_widen (k2 := K + 8) (s2 := KS + 48) (by omega) (by omega) ?_
  refine V_less (ls' := [some _, some _, some _, some _, some _, none, none]) ⟨rfl, rfl, rfl, rfl, rfl, trivial⟩ ?_
  cases hf
  exact hK _
theorem s_L_law__j2385 {G : Gl} (hG : G.1.stackTraces = false) {C : Cx} {n b9 K KS : Nat} {μ : Mem} {b9L : Nat} {xs : (Nat → Int32)} {l4 : Int32} (hX9 : ScX G C b9 b9L xs) (hKb : K + 8 ≤ 500000 ∧ KS + 48 ≤ 5000000) {r : Mem} (hf : f_L_law__j2385 μ b9L xs l4 = some r) (hK : ∀ n, V G C F_L_law_ 2708 [some (.ref b9), some (.ref (G.2.1 + 0)), some (.ref (G.2.1 + 264)), some (.ref (G.2.1 + 275)), some (.int l4), none, none] [] (pic G r) n (K + 8) (KS + 48)) : V G C F_L_law_ 2385 [some (.ref b9), some (.ref (G.2.1 + 0)), some (.ref (G.2.1 + 264)), some (.ref (G.2.1 + 275)), some (.int l4), none, none] [] (pic G μ) n (K + 0) (KS + 0) := by
  unfold f_L_law__j2385 at hf
  refine V_aload_n d_L_law__2385 rfl rfl ?_
  refine V_aload_n d_L_law__2386 rfl rfl ?_
  refine V_iload d_L_law__2387 rfl ?_
  refine V_iconst (v := 1) d_L_law__2389 ic_1 ?_
  refine V_iadd d_L_law__2390 ?_
  obtain ⟨t1, ht1, hf⟩ := ob hf
  refine V_sld hX9 ht1 d_L_law__2391 ?_
  refine V_aload_n d_L_law__2392 rfl rfl ?_
  refine V_iload d_L_law__2393 rfl ?_
  refine V_iconst (v := 2) d_L_law__2395 ic_2 ?_
  refine V_iadd d_L_law__2396 ?_
  obtain ⟨t2, ht2, hf⟩ := ob hf
  refine V_sld hX9 ht2 d_L_law__2397 ?_
  have hJj3 : ∀ j3 : Bool, j3 = (if t2 = 0 then (false : Bool) else true) → V G C F_L_law_ 2406 [some (.ref b9), some (.ref (G.2.1 + 0)), some (.ref (G.2.1 + 264)), some (.ref (G.2.1 + 275)), some (.int l4), none, none] [.int (b2i j3), .int t1, .ref (G.2.1 + 0)] (pic G μ) n (K + 0) (KS + 0) := by
    intro j3 ej3
    subst ej3
    refine V_aload_n d_L_law__2406 rfl rfl ?_
    obtain ⟨q4, hq4, hf⟩ := ob hf
    refine B_callSH (s_L_span hG hq4) (kc' := (K + 1)) (ks' := (KS + 6)) m_L_span ks_RL_273 d_L_law__2407 rfl (Nat.le_of_ble_eq_true rfl) ⟨rfl, rfl, (show K + 1 ≤ 500000 by omega), (show KS + 6 ≤ 5000000 by omega), Nat.le_of_ble_eq_true rfl⟩ (fun n => ?_)
    refine V_istore (ls' := [_, _, _, _, _, _, _]) d_L_law__2410 rfl rfl ?_
    refine V_aload_n d_L_law__2412 rfl rfl ?_
    refine V_aload_n d_L_law__2413 rfl rfl ?_
    refine V_iload d_L_law__2414 rfl ?_
    refine V_iconst (v := 1) d_L_law__2416 ic_1 ?_
    refine V_iadd d_L_law__2417 ?_
    obtain ⟨t5, ht5, hf⟩ := ob hf
    refine V_sld hX9 ht5 d_L_law__2418 ?_
    refine V_aload_n d_L_law__2419 rfl rfl ?_
    refine V_iload d_L_law__2420 rfl ?_
    refine V_iconst (v := 2) d_L_law__2422 ic_2 ?_
    refine V_iadd d_L_law__2423 ?_
    obtain ⟨t6, ht6, hf⟩ := ob hf
    refine V_sld hX9 ht6 d_L_law__2424 ?_
    have hJj7 : ∀ j7 : Bool, j7 = (if t6 = 0 then (false : Bool) else true) → V G C F_L_law_ 2433 [some (.ref b9), some (.ref (G.2.1 + 0)), some (.ref (G.2.1 + 264)), some (.ref (G.2.1 + 275)), some (.int l4), some (.int q4.1), none] [.int (b2i j7), .int t5, .ref (G.2.1 + 264)] (pic G q4.2) n (K + 1) (KS + 6) := by
      intro j7 ej7
      subst ej7
      obtain ⟨q8, hq8, hf⟩ := ob hf
      refine B_callV1 (s_X12_span hG hq8) k_264 clX12 m_X12_span kv_RL_275 d_L_law__2433 rfl (Nat.le_of_ble_eq_true rfl) ⟨rfl, rfl, (show K + 1 ≤ 500000 by omega), (show KS + 6 ≤ 5000000 by omega), Nat.le_of_ble_eq_true rfl⟩ (fun n => ?_)
      refine V_istore (ls' := [_, _, _, _, _, _, _]) d_L_law__2436 rfl rfl ?_
      refine V_aload_n d_L_law__2438 rfl rfl ?_
      obtain ⟨t9, ht9, hf⟩ := ob hf
      refine B_callV1 (s_X12_thrown hG ht9) k_264 clX12 m_X12_thrown kv_RL_145 d_L_law__2439 rfl (Nat.le_of_ble_eq_true rfl) ⟨rfl, rfl, (show K + 1 ≤ 500000 by omega), (show KS + 6 ≤ 5000000 by omega), Nat.le_of_ble_eq_true rfl⟩ (fun n => ?_)
      refine V_iload d_L_law__2442 rfl ?_
      refine V_icmp_eq (tgt := 2449) d_L_law__2444 (by decide) (fun c2444 => ?_) (fun c2444 => ?_)
      · replace hf := iteT c2444 hf
        refine V_iload d_L_law__2449 rfl ?_
        refine V_if_ne (tgt := 2466) d_L_law__2451 (by decide) (fun c2451 => ?_) (fun c2451 => ?_)
        · replace hf := iteF c2451 hf
          refine V_less (ls' := [some _, some _, some _, some _, some _, none, none]) ⟨rfl, rfl, rfl, rfl, rfl, trivial⟩ ?_
          exact s_L_law__j2466 hG hX9 hKb hf hK
        · replace hf := iteT c2451 hf
          refine V_aload_n d_L_law__2454 rfl rfl ?_
          refine V_iconst (v := 0) d_L_law__2455 ic_0 ?_
          obtain ⟨t10, ht10, hf⟩ := ob hf
          refine B_lald k_275 ht10 d_L_law__2456 ?_
          refine V_iload d_L_law__2457 rfl ?_
          refine V_i2l d_L_law__2459 ?_
          refine V_lcmp d_L_law__2460 ?_
          refine V_if_eq (tgt := 2466) d_L_law__2461 (by decide) (fun c2461 => ?_) (fun c2461 => ?_)
          · replace hf := iteT c2461 hf
            refine V_less (ls' := [some _, some _, some _, some _, some _, none, none]) ⟨rfl, rfl, rfl, rfl, rfl, trivial⟩ ?_
            exact s_L_law__j2466 hG hX9 hKb hf hK
          · replace hf := iteF c2461 hf
            refine V_iconst (v := 0) d_L_law__2464 ic_0 ?_
            cases hf
      · replace hf := iteF c2444 hf
        refine V_iconst (v := 0) d_L_law__2447 ic_0 ?_
        cases hf
    refine V_if_eq (tgt := 2432) d_L_law__2425 (by decide) (fun c2425 => ?_) (fun c2425 => ?_)
    · refine V_iconst (v := 0) d_L_law__2432 ic_0 ?_
      refine V_less (ls' := [some _, some _, some _, some _, some _, some _, none]) ⟨rfl, rfl, rfl, rfl, rfl, rfl, trivial⟩ ?_
      exact hJj7 false (by rw [if_pos c2425])
    · refine V_iconst (v := 1) d_L_law__2428 ic_1 ?_
      refine V_goto (tgt := 2433) d_L_law__2429 (by decide) ?_
      refine V_less (ls' := [some _, some _, some _, some _, some _, some _, none]) ⟨rfl, rfl, rfl, rfl, rfl, rfl, trivial⟩ ?_
      exact hJj7 true (by rw [if_neg c2425])
  refine V_if_eq (tgt := 2405) d_L_law__2398 (by decide) (fun c2398 => ?_) (fun c2398 => ?_)
  · refine V_iconst (v := 0) d_L_law__2405 ic_0 ?_
    refine V_less (ls' := [some _, some _, some _, some _, some _, none, none]) ⟨rfl, rfl, rfl, rfl, rfl, trivial⟩ ?_
    exact hJj3 false (by rw [if_pos c2398])
  · refine V_iconst (v := 1) d_L_law__2401 ic_1 ?_
    refine V_goto (tgt := 2406) d_L_law__2402 (by decide) ?_
    refine V_less (ls' := [some _, some _, some _, some _, some _, none, none]) ⟨rfl, rfl, rfl, rfl, rfl, trivial⟩ ?_
    exact hJj3 true (by rw [if_neg c2398])
theorem s_L_law__j2550 {G : Gl} (hG : G.1.stackTraces = false) {C : Cx} {n b9 K KS : Nat} {μ : Mem} {b9L : Nat} {xs : (Nat → Int32)} {l4 : Int32} (hX9 : ScX G C b9 b9L xs) (hKb : K + 8 ≤ 500000 ∧ KS + 48 ≤ 5000000) {r : Mem} (hf : f_L_law__j2550 μ b9L xs l4 = some r) (hK : ∀ n, V G C F_L_law_ 2708 [some (.ref b9), some (.ref (G.2.1 + 0)), some (.ref (G.2.1 + 264)), some (.ref (G.2.1 + 275)), some (.int l4), none, none] [] (pic G r) n (K + 8) (KS + 48)) : V G C F_L_law_ 2550 [some (.ref b9), some (.ref (G.2.1 + 0)), some (.ref (G.2.1 + 264)), some (.ref (G.2.1 + 275)), some (.int l4), none, none] [] (pic G μ) n (K + 1) (KS + 6) := by
  unfold f_L_law__j2550 at hf
  refine V_goto (tgt := 2708) d_L_law__2550 (by decide) ?_
  refine V_widen (k2 := K + 8) (s2 := KS + 48) (by omega) (by omega) ?_
  refine V_less (ls' := [some _, some _, some _, some _, some _, none, none]) ⟨rfl, rfl, rfl, rfl, rfl, trivial⟩ ?_
  cases hf
  exact hK _
theorem s_L_law__j2469 {G : Gl} (hG : G.1.stackTraces = false) {C : Cx} {n b9 K KS : Nat} {μ : Mem} {b9L : Nat} {xs : (Nat → Int32)} {l4 : Int32} (hX9 : ScX G C b9 b9L xs) (hKb : K + 8 ≤ 500000 ∧ KS + 48 ≤ 5000000) {r : Mem} (hf : f_L_law__j2469 μ b9L xs l4 = some r) (hK : ∀ n, V G C F_L_law_ 2708 [some (.ref b9), some (.ref (G.2.1 + 0)), some (.ref (G.2.1 + 264)), some (.ref (G.2.1 + 275)), some (.int l4), none, none] [] (pic G r) n (K + 8) (KS + 48)) : V G C F_L_law_ 2469 [some (.ref b9), some (.ref (G.2.1 + 0)), some (.ref (G.2.1 + 264)), some (.ref (G.2.1 + 275)), some (.int l4), none, none] [] (pic G μ) n (K + 0) (KS + 0) := by
  unfold f_L_law__j2469 at hf
  refine V_aload_n d_L_law__2469 rfl rfl ?_
  refine V_aload_n d_L_law__2470 rfl rfl ?_
  refine V_iload d_L_law__2471 rfl ?_
  refine V_iconst (v := 1) d_L_law__2473 ic_1 ?_
  refine V_iadd d_L_law__2474 ?_
  obtain ⟨t1, ht1, hf⟩ := ob hf
  refine V_sld hX9 ht1 d_L_law__2475 ?_
  refine V_aload_n d_L_law__2476 rfl rfl ?_
  refine V_iload d_L_law__2477 rfl ?_
  refine V_iconst (v := 2) d_L_law__2479 ic_2 ?_
  refine V_iadd d_L_law__2480 ?_
  obtain ⟨t2, ht2, hf⟩ := ob hf
  refine V_sld hX9 ht2 d_L_law__2481 ?_
  have hJj3 : ∀ j3 : Bool, j3 = (if t2 = 0 then (false : Bool) else true) → V G C F_L_law_ 2490 [some (.ref b9), some (.ref (G.2.1 + 0)), some (.ref (G.2.1 + 264)), some (.ref (G.2.1 + 275)), some (.int l4), none, none] [.int (b2i j3), .int t1, .ref (G.2.1 + 0)] (pic G μ) n (K + 0) (KS + 0) := by
    intro j3 ej3
    subst ej3
    refine V_aload_n d_L_law__2490 rfl rfl ?_
    obtain ⟨q4, hq4, hf⟩ := ob hf
    refine B_callSH (s_L_led hG hq4) (kc' := (K + 1)) (ks' := (KS + 6)) m_L_led ks_RL_276 d_L_law__2491 rfl (Nat.le_of_ble_eq_true rfl) ⟨rfl, rfl, (show K + 1 ≤ 500000 by omega), (show KS + 6 ≤ 5000000 by omega), Nat.le_of_ble_eq_true rfl⟩ (fun n => ?_)
    refine V_istore (ls' := [_, _, _, _, _, _, _]) d_L_law__2494 rfl rfl ?_
    refine V_aload_n d_L_law__2496 rfl rfl ?_
    refine V_aload_n d_L_law__2497 rfl rfl ?_
    refine V_iload d_L_law__2498 rfl ?_
    refine V_iconst (v := 1) d_L_law__2500 ic_1 ?_
    refine V_iadd d_L_law__2501 ?_
    obtain ⟨t5, ht5, hf⟩ := ob hf
    refine V_sld hX9 ht5 d_L_law__2502 ?_
    refine V_aload_n d_L_law__2503 rfl rfl ?_
    refine V_iload d_L_law__2504 rfl ?_
    refine V_iconst (v := 2) d_L_law__2506 ic_2 ?_
    refine V_iadd d_L_law__2507 ?_
    obtain ⟨t6, ht6, hf⟩ := ob hf
    refine V_sld hX9 ht6 d_L_law__2508 ?_
    have hJj7 : ∀ j7 : Bool, j7 = (if t6 = 0 then (false : Bool) else true) → V G C F_L_law_ 2517 [some (.ref b9), some (.ref (G.2.1 + 0)), some (.ref (G.2.1 + 264)), some (.ref (G.2.1 + 275)), some (.int l4), some (.int q4.1), none] [.int (b2i j7), .int t5, .ref (G.2.1 + 264)] (pic G q4.2) n (K + 1) (KS + 6) := by
      intro j7 ej7
      subst ej7
      obtain ⟨q8, hq8, hf⟩ := ob hf
      refine B_callV1 (s_X12_led hG hq8) k_264 clX12 m_X12_led kv_RL_278 d_L_law__2517 rfl (Nat.le_of_ble_eq_true rfl) ⟨rfl, rfl, (show K + 1 ≤ 500000 by omega), (show KS + 6 ≤ 5000000 by omega), Nat.le_of_ble_eq_true rfl⟩ (fun n => ?_)
      refine V_istore (ls' := [_, _, _, _, _, _, _]) d_L_law__2520 rfl rfl ?_
      refine V_aload_n d_L_law__2522 rfl rfl ?_
      obtain ⟨t9, ht9, hf⟩ := ob hf
      refine B_callV1 (s_X12_thrown hG ht9) k_264 clX12 m_X12_thrown kv_RL_145 d_L_law__2523 rfl (Nat.le_of_ble_eq_true rfl) ⟨rfl, rfl, (show K + 1 ≤ 500000 by omega), (show KS + 6 ≤ 5000000 by omega), Nat.le_of_ble_eq_true rfl⟩ (fun n => ?_)
      refine V_iload d_L_law__2526 rfl ?_
      refine V_icmp_eq (tgt := 2533) d_L_law__2528 (by decide) (fun c2528 => ?_) (fun c2528 => ?_)
      · replace hf := iteT c2528 hf
        refine V_iload d_L_law__2533 rfl ?_
        refine V_if_ne (tgt := 2550) d_L_law__2535 (by decide) (fun c2535 => ?_) (fun c2535 => ?_)
        · replace hf := iteF c2535 hf
          refine V_less (ls' := [some _, some _, some _, some _, some _, none, none]) ⟨rfl, rfl, rfl, rfl, rfl, trivial⟩ ?_
          exact s_L_law__j2550 hG hX9 hKb hf hK
        · replace hf := iteT c2535 hf
          refine V_aload_n d_L_law__2538 rfl rfl ?_
          refine V_iconst (v := 0) d_L_law__2539 ic_0 ?_
          obtain ⟨t10, ht10, hf⟩ := ob hf
          refine B_lald k_275 ht10 d_L_law__2540 ?_
          refine V_iload d_L_law__2541 rfl ?_
          refine V_i2l d_L_law__2543 ?_
          refine V_lcmp d_L_law__2544 ?_
          refine V_if_eq (tgt := 2550) d_L_law__2545 (by decide) (fun c2545 => ?_) (fun c2545 => ?_)
          · replace hf := iteT c2545 hf
            refine V_less (ls' := [some _, some _, some _, some _, some _, none, none]) ⟨rfl, rfl, rfl, rfl, rfl, trivial⟩ ?_
            exact s_L_law__j2550 hG hX9 hKb hf hK
          · replace hf := iteF c2545 hf
            refine V_iconst (v := 0) d_L_law__2548 ic_0 ?_
            cases hf
      · replace hf := iteF c2528 hf
        refine V_iconst (v := 0) d_L_law__2531 ic_0 ?_
        cases hf
    refine V_if_eq (tgt := 2516) d_L_law__2509 (by decide) (fun c2509 => ?_) (fun c2509 => ?_)
    · refine V_iconst (v := 0) d_L_law__2516 ic_0 ?_
      refine V_less (ls' := [some _, some _, some _, some _, some _, some _, none]) ⟨rfl, rfl, rfl, rfl, rfl, rfl, trivial⟩ ?_
      exact hJj7 false (by rw [if_pos c2509])
    · refine V_iconst (v := 1) d_L_law__2512 ic_1 ?_
      refine V_goto (tgt := 2517) d_L_law__2513 (by decide) ?_
      refine V_less (ls' := [some _, some _, some _, some _, some _, some _, none]) ⟨rfl, rfl, rfl, rfl, rfl, rfl, trivial⟩ ?_
      exact hJj7 true (by rw [if_neg c2509])
  refine V_if_eq (tgt := 2489) d_L_law__2482 (by decide) (fun c2482 => ?_) (fun c2482 => ?_)
  · refine V_iconst (v := 0) d_L_law__2489 ic_0 ?_
    refine V_less (ls' := [some _, some _, some _, some _, some _, none, none]) ⟨rfl, rfl, rfl, rfl, rfl, trivial⟩ ?_
    exact hJj3 false (by rw [if_pos c2482])
  · refine V_iconst (v := 1) d_L_law__2485 ic_1 ?_
    refine V_goto (tgt := 2490) d_L_law__2486 (by decide) ?_
    refine V_less (ls' := [some _, some _, some _, some _, some _, none, none]) ⟨rfl, rfl, rfl, rfl, rfl, trivial⟩ ?_
    exact hJj3 true (by rw [if_neg c2482])
theorem s_L_law__j2618 {G : Gl} (hG : G.1.stackTraces = false) {C : Cx} {n b9 K KS : Nat} {μ : Mem} {b9L : Nat} {xs : (Nat → Int32)} {l4 : Int32} (hX9 : ScX G C b9 b9L xs) (hKb : K + 8 ≤ 500000 ∧ KS + 48 ≤ 5000000) {r : Mem} (hf : f_L_law__j2618 μ b9L xs l4 = some r) (hK : ∀ n, V G C F_L_law_ 2708 [some (.ref b9), some (.ref (G.2.1 + 0)), some (.ref (G.2.1 + 264)), some (.ref (G.2.1 + 275)), some (.int l4), none, none] [] (pic G r) n (K + 8) (KS + 48)) : V G C F_L_law_ 2618 [some (.ref b9), some (.ref (G.2.1 + 0)), some (.ref (G.2.1 + 264)), some (.ref (G.2.1 + 275)), some (.int l4), none, none] [] (pic G μ) n (K + 1) (KS + 6) := by
  unfold f_L_law__j2618 at hf
  refine V_goto (tgt := 2708) d_L_law__2618 (by decide) ?_
  refine V_widen (k2 := K + 8) (s2 := KS + 48) (by omega) (by omega) ?_
  refine V_less (ls' := [some _, some _, some _, some _, some _, none, none]) ⟨rfl, rfl, rfl, rfl, rfl, trivial⟩ ?_
  cases hf
  exact hK _
theorem s_L_law__j2553 {G : Gl} (hG : G.1.stackTraces = false) {C : Cx} {n b9 K KS : Nat} {μ : Mem} {b9L : Nat} {xs : (Nat → Int32)} {l4 : Int32} (hX9 : ScX G C b9 b9L xs) (hKb : K + 8 ≤ 500000 ∧ KS + 48 ≤ 5000000) {r : Mem} (hf : f_L_law__j2553 μ b9L xs l4 = some r) (hK : ∀ n, V G C F_L_law_ 2708 [some (.ref b9), some (.ref (G.2.1 + 0)), some (.ref (G.2.1 + 264)), some (.ref (G.2.1 + 275)), some (.int l4), none, none] [] (pic G r) n (K + 8) (KS + 48)) : V G C F_L_law_ 2553 [some (.ref b9), some (.ref (G.2.1 + 0)), some (.ref (G.2.1 + 264)), some (.ref (G.2.1 + 275)), some (.int l4), none, none] [] (pic G μ) n (K + 0) (KS + 0) := by
  unfold f_L_law__j2553 at hf
  refine V_aload_n d_L_law__2553 rfl rfl ?_
  refine V_aload_n d_L_law__2554 rfl rfl ?_
  refine V_iload d_L_law__2555 rfl ?_
  refine V_iconst (v := 1) d_L_law__2557 ic_1 ?_
  refine V_iadd d_L_law__2558 ?_
  obtain ⟨t1, ht1, hf⟩ := ob hf
  refine V_sld hX9 ht1 d_L_law__2559 ?_
  refine V_aload_n d_L_law__2560 rfl rfl ?_
  refine V_iload d_L_law__2561 rfl ?_
  refine V_iconst (v := 2) d_L_law__2563 ic_2 ?_
  refine V_iadd d_L_law__2564 ?_
  obtain ⟨t2, ht2, hf⟩ := ob hf
  refine V_sld hX9 ht2 d_L_law__2565 ?_
  refine V_aload_n d_L_law__2566 rfl rfl ?_
  obtain ⟨q3, hq3, hf⟩ := ob hf
  refine B_callSH (s_L_log hG hq3) (kc' := (K + 1)) (ks' := (KS + 6)) m_L_log ks_RL_279 d_L_law__2567 rfl (Nat.le_of_ble_eq_true rfl) ⟨rfl, rfl, (show K + 1 ≤ 500000 by omega), (show KS + 6 ≤ 5000000 by omega), Nat.le_of_ble_eq_true rfl⟩ (fun n => ?_)
  refine V_istore (ls' := [_, _, _, _, _, _, _]) d_L_law__2570 rfl rfl ?_
  refine V_aload_n d_L_law__2572 rfl rfl ?_
  refine V_aload_n d_L_law__2573 rfl rfl ?_
  refine V_iload d_L_law__2574 rfl ?_
  refine V_iconst (v := 1) d_L_law__2576 ic_1 ?_
  refine V_iadd d_L_law__2577 ?_
  obtain ⟨t4, ht4, hf⟩ := ob hf
  refine V_sld hX9 ht4 d_L_law__2578 ?_
  refine V_aload_n d_L_law__2579 rfl rfl ?_
  refine V_iload d_L_law__2580 rfl ?_
  refine V_iconst (v := 2) d_L_law__2582 ic_2 ?_
  refine V_iadd d_L_law__2583 ?_
  obtain ⟨t5, ht5, hf⟩ := ob hf
  refine V_sld hX9 ht5 d_L_law__2584 ?_
  obtain ⟨q6, hq6, hf⟩ := ob hf
  refine B_callV1 (s_X12_log hG hq6) k_264 clX12 m_X12_log kv_RL_281 d_L_law__2585 rfl (Nat.le_of_ble_eq_true rfl) ⟨rfl, rfl, (show K + 1 ≤ 500000 by omega), (show KS + 6 ≤ 5000000 by omega), Nat.le_of_ble_eq_true rfl⟩ (fun n => ?_)
  refine V_istore (ls' := [_, _, _, _, _, _, _]) d_L_law__2588 rfl rfl ?_
  refine V_aload_n d_L_law__2590 rfl rfl ?_
  obtain ⟨t7, ht7, hf⟩ := ob hf
  refine B_callV1 (s_X12_thrown hG ht7) k_264 clX12 m_X12_thrown kv_RL_145 d_L_law__2591 rfl (Nat.le_of_ble_eq_true rfl) ⟨rfl, rfl, (show K + 1 ≤ 500000 by omega), (show KS + 6 ≤ 5000000 by omega), Nat.le_of_ble_eq_true rfl⟩ (fun n => ?_)
  refine V_iload d_L_law__2594 rfl ?_
  refine V_icmp_eq (tgt := 2601) d_L_law__2596 (by decide) (fun c2596 => ?_) (fun c2596 => ?_)
  · replace hf := iteT c2596 hf
    refine V_iload d_L_law__2601 rfl ?_
    refine V_if_ne (tgt := 2618) d_L_law__2603 (by decide) (fun c2603 => ?_) (fun c2603 => ?_)
    · replace hf := iteF c2603 hf
      refine V_less (ls' := [some _, some _, some _, some _, some _, none, none]) ⟨rfl, rfl, rfl, rfl, rfl, trivial⟩ ?_
      exact s_L_law__j2618 hG hX9 hKb hf hK
    · replace hf := iteT c2603 hf
      refine V_aload_n d_L_law__2606 rfl rfl ?_
      refine V_iconst (v := 0) d_L_law__2607 ic_0 ?_
      obtain ⟨t8, ht8, hf⟩ := ob hf
      refine B_lald k_275 ht8 d_L_law__2608 ?_
      refine V_iload d_L_law__2609 rfl ?_
      refine V_i2l d_L_law__2611 ?_
      refine V_lcmp d_L_law__2612 ?_
      refine V_if_eq (tgt := 2618) d_L_law__2613 (by decide) (fun c2613 => ?_) (fun c2613 => ?_)
      · replace hf := iteT c2613 hf
        refine V_less (ls' := [some _, some _, some _, some _, some _, none, none]) ⟨rfl, rfl, rfl, rfl, rfl, trivial⟩ ?_
        exact s_L_law__j2618 hG hX9 hKb hf hK
      · replace hf := iteF c2613 hf
        refine V_iconst (v := 0) d_L_law__2616 ic_0 ?_
        cases hf
  · replace hf := iteF c2596 hf
    refine V_iconst (v := 0) d_L_law__2599 ic_0 ?_
    cases hf
theorem s_L_law__j2621 {G : Gl} (hG : G.1.stackTraces = false) {C : Cx} {n b9 K KS : Nat} {μ : Mem} {b9L : Nat} {xs : (Nat → Int32)} {l4 : Int32} (hX9 : ScX G C b9 b9L xs) (hKb : K + 8 ≤ 500000 ∧ KS + 48 ≤ 5000000) {r : Mem} (hf : f_L_law__j2621 μ b9L xs l4 = some r) (hK : ∀ n, V G C F_L_law_ 2708 [some (.ref b9), some (.ref (G.2.1 + 0)), some (.ref (G.2.1 + 264)), some (.ref (G.2.1 + 275)), some (.int l4), none, none] [] (pic G r) n (K + 8) (KS + 48)) : V G C F_L_law_ 2621 [some (.ref b9), some (.ref (G.2.1 + 0)), some (.ref (G.2.1 + 264)), some (.ref (G.2.1 + 275)), some (.int l4), none, none] [] (pic G μ) n (K + 0) (KS + 0) := by
  unfold f_L_law__j2621 at hf
  refine V_aload_n d_L_law__2621 rfl rfl ?_
  refine V_aload_n d_L_law__2622 rfl rfl ?_
  refine V_iload d_L_law__2623 rfl ?_
  refine V_iconst (v := 1) d_L_law__2625 ic_1 ?_
  refine V_iadd d_L_law__2626 ?_
  obtain ⟨t1, ht1, hf⟩ := ob hf
  refine V_sld hX9 ht1 d_L_law__2627 ?_
  obtain ⟨q2, hq2, hf⟩ := ob hf
  refine B_callV1 (s_X11_seed hG hq2) k_0 clX11 m_X11_seed kv_RL_282 d_L_law__2628 rfl (Nat.le_of_ble_eq_true rfl) ⟨rfl, rfl, (show K + 0 ≤ 500000 by omega), (show KS + 0 ≤ 5000000 by omega), Nat.le_of_ble_eq_true rfl⟩ (fun n => ?_)
  refine V_aload_n d_L_law__2631 rfl rfl ?_
  refine V_aload_n d_L_law__2632 rfl rfl ?_
  refine V_iload d_L_law__2633 rfl ?_
  refine V_iconst (v := 1) d_L_law__2635 ic_1 ?_
  refine V_iadd d_L_law__2636 ?_
  obtain ⟨t3, ht3, hf⟩ := ob hf
  refine V_sld hX9 ht3 d_L_law__2637 ?_
  obtain ⟨q4, hq4, hf⟩ := ob hf
  refine B_callV1 (s_X12_seed hG hq4) k_264 clX12 m_X12_seed kv_RL_285 d_L_law__2638 rfl (Nat.le_of_ble_eq_true rfl) ⟨rfl, rfl, (show K + 0 ≤ 500000 by omega), (show KS + 0 ≤ 5000000 by omega), Nat.le_of_ble_eq_true rfl⟩ (fun n => ?_)
  refine V_icmp_eq (tgt := 2708) d_L_law__2641 (by decide) (fun c2641 => ?_) (fun c2641 => ?_)
  · replace hf := iteT c2641 hf
    refine V_widen (k2 := K + 8) (s2 := KS + 48) (by omega) (by omega) ?_
    refine V_less (ls' := [some _, some _, some _, some _, some _, none, none]) ⟨rfl, rfl, rfl, rfl, rfl, trivial⟩ ?_
    cases hf
    exact hK _
  · replace hf := iteF c2641 hf
    refine V_iconst (v := 0) d_L_law__2644 ic_0 ?_
    cases hf
theorem s_L_law__j2646 {G : Gl} (hG : G.1.stackTraces = false) {C : Cx} {n b9 K KS : Nat} {μ : Mem} {b9L : Nat} {xs : (Nat → Int32)} {l4 : Int32} (hX9 : ScX G C b9 b9L xs) (hKb : K + 8 ≤ 500000 ∧ KS + 48 ≤ 5000000) {r : Mem} (hf : f_L_law__j2646 μ b9L xs l4 = some r) (hK : ∀ n, V G C F_L_law_ 2708 [some (.ref b9), some (.ref (G.2.1 + 0)), some (.ref (G.2.1 + 264)), some (.ref (G.2.1 + 275)), some (.int l4), none, none] [] (pic G r) n (K + 8) (KS + 48)) : V G C F_L_law_ 2646 [some (.ref b9), some (.ref (G.2.1 + 0)), some (.ref (G.2.1 + 264)), some (.ref (G.2.1 + 275)), some (.int l4), none, none] [] (pic G μ) n (K + 0) (KS + 0) := by
  unfold f_L_law__j2646 at hf
  refine V_aload_n d_L_law__2646 rfl rfl ?_
  obtain ⟨q1, hq1, hf⟩ := ob hf
  refine B_callV1 (s_X11_undo hG hq1) k_0 clX11 m_X11_undo kv_RL_286 d_L_law__2647 rfl (Nat.le_of_ble_eq_true rfl) ⟨rfl, rfl, (show K + 0 ≤ 500000 by omega), (show KS + 0 ≤ 5000000 by omega), Nat.le_of_ble_eq_true rfl⟩ (fun n => ?_)
  refine V_aload_n d_L_law__2650 rfl rfl ?_
  obtain ⟨q2, hq2, hf⟩ := ob hf
  refine B_callV1 (s_X12_undo hG hq2) k_264 clX12 m_X12_undo kv_RL_290 d_L_law__2651 rfl (Nat.le_of_ble_eq_true rfl) ⟨rfl, rfl, (show K + 0 ≤ 500000 by omega), (show KS + 0 ≤ 5000000 by omega), Nat.le_of_ble_eq_true rfl⟩ (fun n => ?_)
  refine V_icmp_eq (tgt := 2708) d_L_law__2654 (by decide) (fun c2654 => ?_) (fun c2654 => ?_)
  · replace hf := iteT c2654 hf
    refine V_widen (k2 := K + 8) (s2 := KS + 48) (by omega) (by omega) ?_
    refine V_less (ls' := [some _, some _, some _, some _, some _, none, none]) ⟨rfl, rfl, rfl, rfl, rfl, trivial⟩ ?_
    cases hf
    exact hK _
  · replace hf := iteF c2654 hf
    refine V_iconst (v := 0) d_L_law__2657 ic_0 ?_
    cases hf
theorem s_L_law__j2659 {G : Gl} (hG : G.1.stackTraces = false) {C : Cx} {n b9 K KS : Nat} {μ : Mem} {b9L : Nat} {xs : (Nat → Int32)} {l4 : Int32} (hX9 : ScX G C b9 b9L xs) (hKb : K + 8 ≤ 500000 ∧ KS + 48 ≤ 5000000) {r : Mem} (hf : f_L_law__j2659 μ b9L xs l4 = some r) (hK : ∀ n, V G C F_L_law_ 2708 [some (.ref b9), some (.ref (G.2.1 + 0)), some (.ref (G.2.1 + 264)), some (.ref (G.2.1 + 275)), some (.int l4), none, none] [] (pic G r) n (K + 8) (KS + 48)) : V G C F_L_law_ 2659 [some (.ref b9), some (.ref (G.2.1 + 0)), some (.ref (G.2.1 + 264)), some (.ref (G.2.1 + 275)), some (.int l4), none, none] [] (pic G μ) n (K + 0) (KS + 0) := by
  unfold f_L_law__j2659 at hf
  refine V_aload_n d_L_law__2659 rfl rfl ?_
  obtain ⟨q1, hq1, hf⟩ := ob hf
  refine B_callV0 (s_X11_image hG hq1) k_0 clX11 m_X11_image kv_RL_291 d_L_law__2660 rfl (Nat.le_of_ble_eq_true rfl) ⟨rfl, rfl, (show K + 0 ≤ 500000 by omega), (show KS + 0 ≤ 5000000 by omega), Nat.le_of_ble_eq_true rfl⟩ (fun n => ?_)
  refine V_aload_n d_L_law__2663 rfl rfl ?_
  obtain ⟨q2, hq2, hf⟩ := ob hf
  refine B_callV0 (s_X12_image hG hq2) k_264 clX12 m_X12_image kv_RL_294 d_L_law__2664 rfl (Nat.le_of_ble_eq_true rfl) ⟨rfl, rfl, (show K + 0 ≤ 500000 by omega), (show KS + 0 ≤ 5000000 by omega), Nat.le_of_ble_eq_true rfl⟩ (fun n => ?_)
  refine V_goto (tgt := 2708) d_L_law__2667 (by decide) ?_
  refine V_widen (k2 := K + 8) (s2 := KS + 48) (by omega) (by omega) ?_
  refine V_less (ls' := [some _, some _, some _, some _, some _, none, none]) ⟨rfl, rfl, rfl, rfl, rfl, trivial⟩ ?_
  cases hf
  exact hK _
theorem s_L_law__j2670 {G : Gl} (hG : G.1.stackTraces = false) {C : Cx} {n b9 K KS : Nat} {μ : Mem} {b9L : Nat} {xs : (Nat → Int32)} {l4 : Int32} (hX9 : ScX G C b9 b9L xs) (hKb : K + 8 ≤ 500000 ∧ KS + 48 ≤ 5000000) {r : Mem} (hf : f_L_law__j2670 μ b9L xs l4 = some r) (hK : ∀ n, V G C F_L_law_ 2708 [some (.ref b9), some (.ref (G.2.1 + 0)), some (.ref (G.2.1 + 264)), some (.ref (G.2.1 + 275)), some (.int l4), none, none] [] (pic G r) n (K + 8) (KS + 48)) : V G C F_L_law_ 2670 [some (.ref b9), some (.ref (G.2.1 + 0)), some (.ref (G.2.1 + 264)), some (.ref (G.2.1 + 275)), some (.int l4), none, none] [] (pic G μ) n (K + 0) (KS + 0) := by
  unfold f_L_law__j2670 at hf
  refine V_aload_n d_L_law__2670 rfl rfl ?_
  obtain ⟨q1, hq1, hf⟩ := ob hf
  refine B_callV1 (s_X11_back hG hq1) k_0 clX11 m_X11_back kv_RL_295 d_L_law__2671 rfl (Nat.le_of_ble_eq_true rfl) ⟨rfl, rfl, (show K + 0 ≤ 500000 by omega), (show KS + 0 ≤ 5000000 by omega), Nat.le_of_ble_eq_true rfl⟩ (fun n => ?_)
  refine V_aload_n d_L_law__2674 rfl rfl ?_
  obtain ⟨q2, hq2, hf⟩ := ob hf
  refine B_callV1 (s_X12_back hG hq2) k_264 clX12 m_X12_back kv_RL_298 d_L_law__2675 rfl (Nat.le_of_ble_eq_true rfl) ⟨rfl, rfl, (show K + 0 ≤ 500000 by omega), (show KS + 0 ≤ 5000000 by omega), Nat.le_of_ble_eq_true rfl⟩ (fun n => ?_)
  refine V_icmp_eq (tgt := 2708) d_L_law__2678 (by decide) (fun c2678 => ?_) (fun c2678 => ?_)
  · replace hf := iteT c2678 hf
    refine V_widen (k2 := K + 8) (s2 := KS + 48) (by omega) (by omega) ?_
    refine V_less (ls' := [some _, some _, some _, some _, some _, none, none]) ⟨rfl, rfl, rfl, rfl, rfl, trivial⟩ ?_
    cases hf
    exact hK _
  · replace hf := iteF c2678 hf
    refine V_iconst (v := 0) d_L_law__2681 ic_0 ?_
    cases hf
theorem s_L_law__j2683 {G : Gl} (hG : G.1.stackTraces = false) {C : Cx} {n b9 K KS : Nat} {μ : Mem} {b9L : Nat} {xs : (Nat → Int32)} {l4 : Int32} (hX9 : ScX G C b9 b9L xs) (hKb : K + 8 ≤ 500000 ∧ KS + 48 ≤ 5000000) {r : Mem} (hf : f_L_law__j2683 μ b9L xs l4 = some r) (hK : ∀ n, V G C F_L_law_ 2708 [some (.ref b9), some (.ref (G.2.1 + 0)), some (.ref (G.2.1 + 264)), some (.ref (G.2.1 + 275)), some (.int l4), none, none] [] (pic G r) n (K + 8) (KS + 48)) : V G C F_L_law_ 2683 [some (.ref b9), some (.ref (G.2.1 + 0)), some (.ref (G.2.1 + 264)), some (.ref (G.2.1 + 275)), some (.int l4), none, none] [] (pic G μ) n (K + 0) (KS + 0) := by
  unfold f_L_law__j2683 at hf
  refine V_aload_n d_L_law__2683 rfl rfl ?_
  refine V_aload_n d_L_law__2684 rfl rfl ?_
  refine V_iload d_L_law__2685 rfl ?_
  refine V_iconst (v := 1) d_L_law__2687 ic_1 ?_
  refine V_iadd d_L_law__2688 ?_
  obtain ⟨t1, ht1, hf⟩ := ob hf
  refine V_sld hX9 ht1 d_L_law__2689 ?_
  obtain ⟨t2, ht2, hf⟩ := ob hf
  refine B_callV1 (s_X11_count hG ht2) k_0 clX11 m_X11_count kv_RL_299 d_L_law__2690 rfl (Nat.le_of_ble_eq_true rfl) ⟨rfl, rfl, (show K + 0 ≤ 500000 by omega), (show KS + 0 ≤ 5000000 by omega), Nat.le_of_ble_eq_true rfl⟩ (fun n => ?_)
  refine V_aload_n d_L_law__2693 rfl rfl ?_
  refine V_aload_n d_L_law__2694 rfl rfl ?_
  refine V_iload d_L_law__2695 rfl ?_
  refine V_iconst (v := 1) d_L_law__2697 ic_1 ?_
  refine V_iadd d_L_law__2698 ?_
  obtain ⟨t3, ht3, hf⟩ := ob hf
  refine V_sld hX9 ht3 d_L_law__2699 ?_
  obtain ⟨q4, hq4, hf⟩ := ob hf
  refine B_callV1 (s_X12_count hG hq4) k_264 clX12 m_X12_count kv_RL_302 d_L_law__2700 rfl (Nat.le_of_ble_eq_true rfl) ⟨rfl, rfl, (show K + 0 ≤ 500000 by omega), (show KS + 0 ≤ 5000000 by omega), Nat.le_of_ble_eq_true rfl⟩ (fun n => ?_)
  refine V_icmp_eq (tgt := 2708) d_L_law__2703 (by decide) (fun c2703 => ?_) (fun c2703 => ?_)
  · replace hf := iteT c2703 hf
    refine V_widen (k2 := K + 8) (s2 := KS + 48) (by omega) (by omega) ?_
    refine V_less (ls' := [some _, some _, some _, some _, some _, none, none]) ⟨rfl, rfl, rfl, rfl, rfl, trivial⟩ ?_
    cases hf
    exact hK _
  · replace hf := iteF c2703 hf
    refine V_iconst (v := 0) d_L_law__2706 ic_0 ?_
    cases hf
theorem s_L_law__j33 {G : Gl} (hG : G.1.stackTraces = false) {C : Cx} {n b9 K KS : Nat} {μ : Mem} {b9L : Nat} {xs : (Nat → Int32)} {l4 : Int32} (hX9 : ScX G C b9 b9L xs) (hKb : K + 8 ≤ 500000 ∧ KS + 48 ≤ 5000000) {r : Mem} (hf : f_L_law__j33 μ b9L xs l4 = some r) (hK : ∀ n, V G C F_L_law_ 2708 [some (.ref b9), some (.ref (G.2.1 + 0)), some (.ref (G.2.1 + 264)), some (.ref (G.2.1 + 275)), some (.int l4), none, none] [] (pic G r) n (K + 8) (KS + 48)) : V G C F_L_law_ 33 [some (.ref b9), some (.ref (G.2.1 + 0)), some (.ref (G.2.1 + 264)), some (.ref (G.2.1 + 275)), some (.int l4), none, none] [] (pic G μ) n (K + 0) (KS + 0) := by
  unfold f_L_law__j33 at hf
  refine V_aload_n d_L_law__33 rfl rfl ?_
  refine V_iload d_L_law__34 rfl ?_
  obtain ⟨t1, ht1, hf⟩ := ob hf
  refine V_sld hX9 ht1 d_L_law__36 ?_
  refine V_bipush (v := 63) d_L_law__37 bp_63 ?_
  refine V_iand d_L_law__39 ?_
  by_cases c40_0 : (t1 &&& 63) = 0
  · replace hf := iteT c40_0 hf
    refine V_tabC (q := 0) (off := 208) (tgt := 248) d_L_law__40 c40_0 (by decide) (by decide) ?_
    refine V_less (ls' := [some _, some _, some _, some _, some _, none, none]) ⟨rfl, rfl, rfl, rfl, rfl, trivial⟩ ?_
    exact s_L_law__j248 hG hX9 hKb hf hK
  replace hf := iteF c40_0 hf
  by_cases c40_1 : (t1 &&& 63) = 1
  · replace hf := iteT c40_1 hf
    refine V_tabC (q := 1) (off := 281) (tgt := 321) d_L_law__40 c40_1 (by decide) (by decide) ?_
    refine V_less (ls' := [some _, some _, some _, some _, some _, none, none]) ⟨rfl, rfl, rfl, rfl, rfl, trivial⟩ ?_
    exact s_L_law__j321 hG hX9 hKb hf hK
  replace hf := iteF c40_1 hf
  by_cases c40_2 : (t1 &&& 63) = 2
  · replace hf := iteT c40_2 hf
    refine V_tabC (q := 2) (off := 306) (tgt := 346) d_L_law__40 c40_2 (by decide) (by decide) ?_
    refine V_less (ls' := [some _, some _, some _, some _, some _, none, none]) ⟨rfl, rfl, rfl, rfl, rfl, trivial⟩ ?_
    exact s_L_law__j346 hG hX9 hKb hf hK
  replace hf := iteF c40_2 hf
  by_cases c40_3 : (t1 &&& 63) = 3
  · replace hf := iteT c40_3 hf
    refine V_tabC (q := 3) (off := 350) (tgt := 390) d_L_law__40 c40_3 (by decide) (by decide) ?_
    refine V_less (ls' := [some _, some _, some _, some _, some _, none, none]) ⟨rfl, rfl, rfl, rfl, rfl, trivial⟩ ?_
    exact s_L_law__j390 hG hX9 hKb hf hK
  replace hf := iteF c40_3 hf
  by_cases c40_4 : (t1 &&& 63) = 4
  · replace hf := iteT c40_4 hf
    refine V_tabC (q := 4) (off := 394) (tgt := 434) d_L_law__40 c40_4 (by decide) (by decide) ?_
    refine V_less (ls' := [some _, some _, some _, some _, some _, none, none]) ⟨rfl, rfl, rfl, rfl, rfl, trivial⟩ ?_
    exact s_L_law__j434 hG hX9 hKb hf hK
  replace hf := iteF c40_4 hf
  by_cases c40_5 : (t1 &&& 63) = 5
  · replace hf := iteT c40_5 hf
    refine V_tabC (q := 5) (off := 407) (tgt := 447) d_L_law__40 c40_5 (by decide) (by decide) ?_
    refine V_less (ls' := [some _, some _, some _, some _, some _, none, none]) ⟨rfl, rfl, rfl, rfl, rfl, trivial⟩ ?_
    exact s_L_law__j447 hG hX9 hKb hf hK
  replace hf := iteF c40_5 hf
  by_cases c40_6 : (t1 &&& 63) = 6
  · replace hf := iteT c40_6 hf
    refine V_tabC (q := 6) (off := 475) (tgt := 515) d_L_law__40 c40_6 (by decide) (by decide) ?_
    refine V_less (ls' := [some _, some _, some _, some _, some _, none, none]) ⟨rfl, rfl, rfl, rfl, rfl, trivial⟩ ?_
    exact s_L_law__j515 hG hX9 hKb hf hK
  replace hf := iteF c40_6 hf
  by_cases c40_7 : (t1 &&& 63) = 7
  · replace hf := iteT c40_7 hf
    refine V_tabC (q := 7) (off := 543) (tgt := 583) d_L_law__40 c40_7 (by decide) (by decide) ?_
    refine V_less (ls' := [some _, some _, some _, some _, some _, none, none]) ⟨rfl, rfl, rfl, rfl, rfl, trivial⟩ ?_
    exact s_L_law__j583 hG hX9 hKb hf hK
  replace hf := iteF c40_7 hf
  by_cases c40_8 : (t1 &&& 63) = 8
  · replace hf := iteT c40_8 hf
    refine V_tabC (q := 8) (off := 599) (tgt := 639) d_L_law__40 c40_8 (by decide) (by decide) ?_
    refine V_less (ls' := [some _, some _, some _, some _, some _, none, none]) ⟨rfl, rfl, rfl, rfl, rfl, trivial⟩ ?_
    exact s_L_law__j639 hG hX9 hKb hf hK
  replace hf := iteF c40_8 hf
  by_cases c40_9 : (t1 &&& 63) = 9
  · replace hf := iteT c40_9 hf
    refine V_tabC (q := 9) (off := 667) (tgt := 707) d_L_law__40 c40_9 (by decide) (by decide) ?_
    refine V_less (ls' := [some _, some _, some _, some _, some _, none, none]) ⟨rfl, rfl, rfl, rfl, rfl, trivial⟩ ?_
    exact s_L_law__j707 hG hX9 hKb hf hK
  replace hf := iteF c40_9 hf
  by_cases c40_10 : (t1 &&& 63) = 10
  · replace hf := iteT c40_10 hf
    refine V_tabC (q := 10) (off := 723) (tgt := 763) d_L_law__40 c40_10 (by decide) (by decide) ?_
    refine V_less (ls' := [some _, some _, some _, some _, some _, none, none]) ⟨rfl, rfl, rfl, rfl, rfl, trivial⟩ ?_
    exact s_L_law__j763 hG hX9 hKb hf hK
  replace hf := iteF c40_10 hf
  by_cases c40_11 : (t1 &&& 63) = 11
  · replace hf := iteT c40_11 hf
    refine V_tabC (q := 11) (off := 827) (tgt := 867) d_L_law__40 c40_11 (by decide) (by decide) ?_
    refine V_less (ls' := [some _, some _, some _, some _, some _, none, none]) ⟨rfl, rfl, rfl, rfl, rfl, trivial⟩ ?_
    exact s_L_law__j867 hG hX9 hKb hf hK
  replace hf := iteF c40_11 hf
  by_cases c40_12 : (t1 &&& 63) = 12
  · replace hf := iteT c40_12 hf
    refine V_tabC (q := 12) (off := 883) (tgt := 923) d_L_law__40 c40_12 (by decide) (by decide) ?_
    refine V_less (ls' := [some _, some _, some _, some _, some _, none, none]) ⟨rfl, rfl, rfl, rfl, rfl, trivial⟩ ?_
    exact s_L_law__j923 hG hX9 hKb hf hK
  replace hf := iteF c40_12 hf
  by_cases c40_13 : (t1 &&& 63) = 13
  · replace hf := iteT c40_13 hf
    refine V_tabC (q := 13) (off := 951) (tgt := 991) d_L_law__40 c40_13 (by decide) (by decide) ?_
    refine V_less (ls' := [some _, some _, some _, some _, some _, none, none]) ⟨rfl, rfl, rfl, rfl, rfl, trivial⟩ ?_
    exact s_L_law__j991 hG hX9 hKb hf hK
  replace hf := iteF c40_13 hf
  by_cases c40_14 : (t1 &&& 63) = 14
  · replace hf := iteT c40_14 hf
    refine V_tabC (q := 14) (off := 1019) (tgt := 1059) d_L_law__40 c40_14 (by decide) (by decide) ?_
    refine V_less (ls' := [some _, some _, some _, some _, some _, none, none]) ⟨rfl, rfl, rfl, rfl, rfl, trivial⟩ ?_
    exact s_L_law__j1059 hG hX9 hKb hf hK
  replace hf := iteF c40_14 hf
  by_cases c40_15 : (t1 &&& 63) = 15
  · replace hf := iteT c40_15 hf
    refine V_tabC (q := 15) (off := 1087) (tgt := 1127) d_L_law__40 c40_15 (by decide) (by decide) ?_
    refine V_less (ls' := [some _, some _, some _, some _, some _, none, none]) ⟨rfl, rfl, rfl, rfl, rfl, trivial⟩ ?_
    exact s_L_law__j1127 hG hX9 hKb hf hK
  replace hf := iteF c40_15 hf
  by_cases c40_16 : (t1 &&& 63) = 16
  · replace hf := iteT c40_16 hf
    refine V_tabC (q := 16) (off := 1143) (tgt := 1183) d_L_law__40 c40_16 (by decide) (by decide) ?_
    refine V_less (ls' := [some _, some _, some _, some _, some _, none, none]) ⟨rfl, rfl, rfl, rfl, rfl, trivial⟩ ?_
    exact s_L_law__j1183 hG hX9 hKb hf hK
  replace hf := iteF c40_16 hf
  by_cases c40_17 : (t1 &&& 63) = 17
  · replace hf := iteT c40_17 hf
    refine V_tabC (q := 17) (off := 1199) (tgt := 1239) d_L_law__40 c40_17 (by decide) (by decide) ?_
    refine V_less (ls' := [some _, some _, some _, some _, some _, none, none]) ⟨rfl, rfl, rfl, rfl, rfl, trivial⟩ ?_
    exact s_L_law__j1239 hG hX9 hKb hf hK
  replace hf := iteF c40_17 hf
  by_cases c40_18 : (t1 &&& 63) = 18
  · replace hf := iteT c40_18 hf
    refine V_tabC (q := 18) (off := 1212) (tgt := 1252) d_L_law__40 c40_18 (by decide) (by decide) ?_
    refine V_less (ls' := [some _, some _, some _, some _, some _, none, none]) ⟨rfl, rfl, rfl, rfl, rfl, trivial⟩ ?_
    exact s_L_law__j1252 hG hX9 hKb hf hK
  replace hf := iteF c40_18 hf
  by_cases c40_19 : (t1 &&& 63) = 19
  · replace hf := iteT c40_19 hf
    refine V_tabC (q := 19) (off := 1280) (tgt := 1320) d_L_law__40 c40_19 (by decide) (by decide) ?_
    refine V_less (ls' := [some _, some _, some _, some _, some _, none, none]) ⟨rfl, rfl, rfl, rfl, rfl, trivial⟩ ?_
    exact s_L_law__j1320 hG hX9 hKb hf hK
  replace hf := iteF c40_19 hf
  by_cases c40_20 : (t1 &&& 63) = 20
  · replace hf := iteT c40_20 hf
    refine V_tabC (q := 20) (off := 1336) (tgt := 1376) d_L_law__40 c40_20 (by decide) (by decide) ?_
    refine V_less (ls' := [some _, some _, some _, some _, some _, none, none]) ⟨rfl, rfl, rfl, rfl, rfl, trivial⟩ ?_
    exact s_L_law__j1376 hG hX9 hKb hf hK
  replace hf := iteF c40_20 hf
  by_cases c40_21 : (t1 &&& 63) = 21
  · replace hf := iteT c40_21 hf
    refine V_tabC (q := 21) (off := 1392) (tgt := 1432) d_L_law__40 c40_21 (by decide) (by decide) ?_
    refine V_less (ls' := [some _, some _, some _, some _, some _, none, none]) ⟨rfl, rfl, rfl, rfl, rfl, trivial⟩ ?_
    exact s_L_law__j1432 hG hX9 hKb hf hK
  replace hf := iteF c40_21 hf
  by_cases c40_22 : (t1 &&& 63) = 22
  · replace hf := iteT c40_22 hf
    refine V_tabC (q := 22) (off := 1488) (tgt := 1528) d_L_law__40 c40_22 (by decide) (by decide) ?_
    refine V_less (ls' := [some _, some _, some _, some _, some _, none, none]) ⟨rfl, rfl, rfl, rfl, rfl, trivial⟩ ?_
    exact s_L_law__j1528 hG hX9 hKb hf hK
  replace hf := iteF c40_22 hf
  by_cases c40_23 : (t1 &&& 63) = 23
  · replace hf := iteT c40_23 hf
    refine V_tabC (q := 23) (off := 1501) (tgt := 1541) d_L_law__40 c40_23 (by decide) (by decide) ?_
    refine V_less (ls' := [some _, some _, some _, some _, some _, none, none]) ⟨rfl, rfl, rfl, rfl, rfl, trivial⟩ ?_
    exact s_L_law__j1541 hG hX9 hKb hf hK
  replace hf := iteF c40_23 hf
  by_cases c40_24 : (t1 &&& 63) = 24
  · replace hf := iteT c40_24 hf
    refine V_tabC (q := 24) (off := 1542) (tgt := 1582) d_L_law__40 c40_24 (by decide) (by decide) ?_
    refine V_less (ls' := [some _, some _, some _, some _, some _, none, none]) ⟨rfl, rfl, rfl, rfl, rfl, trivial⟩ ?_
    exact s_L_law__j1582 hG hX9 hKb hf hK
  replace hf := iteF c40_24 hf
  by_cases c40_25 : (t1 &&& 63) = 25
  · replace hf := iteT c40_25 hf
    refine V_tabC (q := 25) (off := 1617) (tgt := 1657) d_L_law__40 c40_25 (by decide) (by decide) ?_
    refine V_less (ls' := [some _, some _, some _, some _, some _, none, none]) ⟨rfl, rfl, rfl, rfl, rfl, trivial⟩ ?_
    exact s_L_law__j1657 hG hX9 hKb hf hK
  replace hf := iteF c40_25 hf
  by_cases c40_26 : (t1 &&& 63) = 26
  · replace hf := iteT c40_26 hf
    refine V_tabC (q := 26) (off := 1673) (tgt := 1713) d_L_law__40 c40_26 (by decide) (by decide) ?_
    refine V_less (ls' := [some _, some _, some _, some _, some _, none, none]) ⟨rfl, rfl, rfl, rfl, rfl, trivial⟩ ?_
    exact s_L_law__j1713 hG hX9 hKb hf hK
  replace hf := iteF c40_26 hf
  by_cases c40_27 : (t1 &&& 63) = 27
  · replace hf := iteT c40_27 hf
    refine V_tabC (q := 27) (off := 1757) (tgt := 1797) d_L_law__40 c40_27 (by decide) (by decide) ?_
    refine V_less (ls' := [some _, some _, some _, some _, some _, none, none]) ⟨rfl, rfl, rfl, rfl, rfl, trivial⟩ ?_
    exact s_L_law__j1797 hG hX9 hKb hf hK
  replace hf := iteF c40_27 hf
  by_cases c40_28 : (t1 &&& 63) = 28
  · replace hf := iteT c40_28 hf
    refine V_tabC (q := 28) (off := 1813) (tgt := 1853) d_L_law__40 c40_28 (by decide) (by decide) ?_
    refine V_less (ls' := [some _, some _, some _, some _, some _, none, none]) ⟨rfl, rfl, rfl, rfl, rfl, trivial⟩ ?_
    exact s_L_law__j1853 hG hX9 hKb hf hK
  replace hf := iteF c40_28 hf
  by_cases c40_29 : (t1 &&& 63) = 29
  · replace hf := iteT c40_29 hf
    refine V_tabC (q := 29) (off := 1869) (tgt := 1909) d_L_law__40 c40_29 (by decide) (by decide) ?_
    refine V_less (ls' := [some _, some _, some _, some _, some _, none, none]) ⟨rfl, rfl, rfl, rfl, rfl, trivial⟩ ?_
    exact s_L_law__j1909 hG hX9 hKb hf hK
  replace hf := iteF c40_29 hf
  by_cases c40_30 : (t1 &&& 63) = 30
  · replace hf := iteT c40_30 hf
    refine V_tabC (q := 30) (off := 1925) (tgt := 1965) d_L_law__40 c40_30 (by decide) (by decide) ?_
    refine V_less (ls' := [some _, some _, some _, some _, some _, none, none]) ⟨rfl, rfl, rfl, rfl, rfl, trivial⟩ ?_
    exact s_L_law__j1965 hG hX9 hKb hf hK
  replace hf := iteF c40_30 hf
  by_cases c40_31 : (t1 &&& 63) = 31
  · replace hf := iteT c40_31 hf
    refine V_tabC (q := 31) (off := 1938) (tgt := 1978) d_L_law__40 c40_31 (by decide) (by decide) ?_
    refine V_less (ls' := [some _, some _, some _, some _, some _, none, none]) ⟨rfl, rfl, rfl, rfl, rfl, trivial⟩ ?_
    exact s_L_law__j1978 hG hX9 hKb hf hK
  replace hf := iteF c40_31 hf
  by_cases c40_32 : (t1 &&& 63) = 32
  · replace hf := iteT c40_32 hf
    refine V_tabC (q := 32) (off := 1951) (tgt := 1991) d_L_law__40 c40_32 (by decide) (by decide) ?_
    refine V_less (ls' := [some _, some _, some _, some _, some _, none, none]) ⟨rfl, rfl, rfl, rfl, rfl, trivial⟩ ?_
    exact s_L_law__j1991 hG hX9 hKb hf hK
  replace hf := iteF c40_32 hf
  by_cases c40_33 : (t1 &&& 63) = 33
  · replace hf := iteT c40_33 hf
    refine V_tabC (q := 33) (off := 2023) (tgt := 2063) d_L_law__40 c40_33 (by decide) (by decide) ?_
    refine V_less (ls' := [some _, some _, some _, some _, some _, none, none]) ⟨rfl, rfl, rfl, rfl, rfl, trivial⟩ ?_
    exact s_L_law__j2063 hG hX9 hKb hf hK
  replace hf := iteF c40_33 hf
  by_cases c40_34 : (t1 &&& 63) = 34
  · replace hf := iteT c40_34 hf
    refine V_tabC (q := 34) (off := 2067) (tgt := 2107) d_L_law__40 c40_34 (by decide) (by decide) ?_
    refine V_less (ls' := [some _, some _, some _, some _, some _, none, none]) ⟨rfl, rfl, rfl, rfl, rfl, trivial⟩ ?_
    exact s_L_law__j2107 hG hX9 hKb hf hK
  replace hf := iteF c40_34 hf
  by_cases c40_35 : (t1 &&& 63) = 35
  · replace hf := iteT c40_35 hf
    refine V_tabC (q := 35) (off := 2123) (tgt := 2163) d_L_law__40 c40_35 (by decide) (by decide) ?_
    refine V_less (ls' := [some _, some _, some _, some _, some _, none, none]) ⟨rfl, rfl, rfl, rfl, rfl, trivial⟩ ?_
    exact s_L_law__j2163 hG hX9 hKb hf hK
  replace hf := iteF c40_35 hf
  by_cases c40_36 : (t1 &&& 63) = 36
  · replace hf := iteT c40_36 hf
    refine V_tabC (q := 36) (off := 2136) (tgt := 2176) d_L_law__40 c40_36 (by decide) (by decide) ?_
    refine V_less (ls' := [some _, some _, some _, some _, some _, none, none]) ⟨rfl, rfl, rfl, rfl, rfl, trivial⟩ ?_
    exact s_L_law__j2176 hG hX9 hKb hf hK
  replace hf := iteF c40_36 hf
  by_cases c40_37 : (t1 &&& 63) = 37
  · replace hf := iteT c40_37 hf
    refine V_tabC (q := 37) (off := 2192) (tgt := 2232) d_L_law__40 c40_37 (by decide) (by decide) ?_
    refine V_less (ls' := [some _, some _, some _, some _, some _, none, none]) ⟨rfl, rfl, rfl, rfl, rfl, trivial⟩ ?_
    exact s_L_law__j2232 hG hX9 hKb hf hK
  replace hf := iteF c40_37 hf
  by_cases c40_38 : (t1 &&& 63) = 38
  · replace hf := iteT c40_38 hf
    refine V_tabC (q := 38) (off := 2248) (tgt := 2288) d_L_law__40 c40_38 (by decide) (by decide) ?_
    refine V_less (ls' := [some _, some _, some _, some _, some _, none, none]) ⟨rfl, rfl, rfl, rfl, rfl, trivial⟩ ?_
    exact s_L_law__j2288 hG hX9 hKb hf hK
  replace hf := iteF c40_38 hf
  by_cases c40_39 : (t1 &&& 63) = 39
  · replace hf := iteT c40_39 hf
    refine V_tabC (q := 39) (off := 2261) (tgt := 2301) d_L_law__40 c40_39 (by decide) (by decide) ?_
    refine V_less (ls' := [some _, some _, some _, some _, some _, none, none]) ⟨rfl, rfl, rfl, rfl, rfl, trivial⟩ ?_
    exact s_L_law__j2301 hG hX9 hKb hf hK
  replace hf := iteF c40_39 hf
  by_cases c40_40 : (t1 &&& 63) = 40
  · replace hf := iteT c40_40 hf
    refine V_tabC (q := 40) (off := 2345) (tgt := 2385) d_L_law__40 c40_40 (by decide) (by decide) ?_
    refine V_less (ls' := [some _, some _, some _, some _, some _, none, none]) ⟨rfl, rfl, rfl, rfl, rfl, trivial⟩ ?_
    exact s_L_law__j2385 hG hX9 hKb hf hK
  replace hf := iteF c40_40 hf
  by_cases c40_41 : (t1 &&& 63) = 41
  · replace hf := iteT c40_41 hf
    refine V_tabC (q := 41) (off := 2429) (tgt := 2469) d_L_law__40 c40_41 (by decide) (by decide) ?_
    refine V_less (ls' := [some _, some _, some _, some _, some _, none, none]) ⟨rfl, rfl, rfl, rfl, rfl, trivial⟩ ?_
    exact s_L_law__j2469 hG hX9 hKb hf hK
  replace hf := iteF c40_41 hf
  by_cases c40_42 : (t1 &&& 63) = 42
  · replace hf := iteT c40_42 hf
    refine V_tabC (q := 42) (off := 2513) (tgt := 2553) d_L_law__40 c40_42 (by decide) (by decide) ?_
    refine V_less (ls' := [some _, some _, some _, some _, some _, none, none]) ⟨rfl, rfl, rfl, rfl, rfl, trivial⟩ ?_
    exact s_L_law__j2553 hG hX9 hKb hf hK
  replace hf := iteF c40_42 hf
  by_cases c40_43 : (t1 &&& 63) = 43
  · replace hf := iteT c40_43 hf
    refine V_tabC (q := 43) (off := 2581) (tgt := 2621) d_L_law__40 c40_43 (by decide) (by decide) ?_
    refine V_less (ls' := [some _, some _, some _, some _, some _, none, none]) ⟨rfl, rfl, rfl, rfl, rfl, trivial⟩ ?_
    exact s_L_law__j2621 hG hX9 hKb hf hK
  replace hf := iteF c40_43 hf
  by_cases c40_44 : (t1 &&& 63) = 44
  · replace hf := iteT c40_44 hf
    refine V_tabC (q := 44) (off := 2606) (tgt := 2646) d_L_law__40 c40_44 (by decide) (by decide) ?_
    refine V_less (ls' := [some _, some _, some _, some _, some _, none, none]) ⟨rfl, rfl, rfl, rfl, rfl, trivial⟩ ?_
    exact s_L_law__j2646 hG hX9 hKb hf hK
  replace hf := iteF c40_44 hf
  by_cases c40_45 : (t1 &&& 63) = 45
  · replace hf := iteT c40_45 hf
    refine V_tabC (q := 45) (off := 2619) (tgt := 2659) d_L_law__40 c40_45 (by decide) (by decide) ?_
    refine V_less (ls' := [some _, some _, some _, some _, some _, none, none]) ⟨rfl, rfl, rfl, rfl, rfl, trivial⟩ ?_
    exact s_L_law__j2659 hG hX9 hKb hf hK
  replace hf := iteF c40_45 hf
  by_cases c40_46 : (t1 &&& 63) = 46
  · replace hf := iteT c40_46 hf
    refine V_tabC (q := 46) (off := 2630) (tgt := 2670) d_L_law__40 c40_46 (by decide) (by decide) ?_
    refine V_less (ls' := [some _, some _, some _, some _, some _, none, none]) ⟨rfl, rfl, rfl, rfl, rfl, trivial⟩ ?_
    exact s_L_law__j2670 hG hX9 hKb hf hK
  replace hf := iteF c40_46 hf
  by_cases c40_47 : (t1 &&& 63) = 47
  · replace hf := iteT c40_47 hf
    refine V_tabC (q := 47) (off := 2643) (tgt := 2683) d_L_law__40 c40_47 (by decide) (by decide) ?_
    refine V_less (ls' := [some _, some _, some _, some _, some _, none, none]) ⟨rfl, rfl, rfl, rfl, rfl, trivial⟩ ?_
    exact s_L_law__j2683 hG hX9 hKb hf hK
  replace hf := iteF c40_47 hf
  refine V_tabD (ks9 := [0, 1, 2, 3, 4, 5, 6, 7, 8, 9, 10, 11, 12, 13, 14, 15, 16, 17, 18, 19, 20, 21, 22, 23, 24, 25, 26, 27, 28, 29, 30, 31, 32, 33, 34, 35, 36, 37, 38, 39, 40, 41, 42, 43, 44, 45, 46, 47]) (tgt := 2708) d_L_law__40 ⟨c40_0, c40_1, c40_2, c40_3, c40_4, c40_5, c40_6, c40_7, c40_8, c40_9, c40_10, c40_11, c40_12, c40_13, c40_14, c40_15, c40_16, c40_17, c40_18, c40_19, c40_20, c40_21, c40_22, c40_23, c40_24, c40_25, c40_26, c40_27, c40_28, c40_29, c40_30, c40_31, c40_32, c40_33, c40_34, c40_35, c40_36, c40_37, c40_38, c40_39, c40_40, c40_41, c40_42, c40_43, c40_44, c40_45, c40_46, c40_47, trivial⟩ (by decide) (by decide) ?_
  refine V_widen (k2 := K + 8) (s2 := KS + 48) (by omega) (by omega) ?_
  refine V_less (ls' := [some _, some _, some _, some _, some _, none, none]) ⟨rfl, rfl, rfl, rfl, rfl, trivial⟩ ?_
  cases hf
  exact hK _
theorem s_L_law_loop {G : Gl} (hG : G.1.stackTraces = false) {C : Cx} {b9 b9L : Nat} {xs : Nat → Int32} (hX9 : ScX G C b9 b9L xs)
    (hR : ∀ (ls : List (Option Value)) (h : Hm) (n kc ks : Nat), kc ≤ 500000 → ks ≤ 5000000 → V G C F_L_law_ 2715 ls [.int 1] h n kc ks) :
    ∀ (k K KS : Nat) (μ : Mem) (l4 : Int32), f_L_law_loop b9L xs k μ l4 = some () → K + 8 * k ≤ 500000 → KS + 48 * k ≤ 5000000 → ∀ n, V G C F_L_law_ 23 [some (.ref b9), some (.ref (G.2.1 + 0)), some (.ref (G.2.1 + 264)), some (.ref (G.2.1 + 275)), some (.int l4), none, none] [] (pic G μ) n K KS
  | 0, _, _, _, _, hf, _, _ => by cases hf
  | k + 1, K, KS, μ, l4, hf, hk, hs => by
    intro n
    have hf : (if (Int32.ofNat b9L) - 6 < l4 then some () else Option.bind (f_L_law__j33 μ b9L xs l4) fun μ' => f_L_law_loop b9L xs k μ' (l4 + 6)) = some () := hf
    refine V_iload d_L_law__23 rfl ?_
    refine V_aload_n d_L_law__25 rfl rfl ?_
    refine V_slen hX9 d_L_law__26 ?_
    refine V_bipush (v := 6) d_L_law__27 bp_6 ?_
    refine V_isub d_L_law__29 ?_
    refine V_icmp_gt (tgt := 2714) d_L_law__30 (by decide) (fun c => ?_) (fun c => ?_)
    · refine V_iconst (v := 1) d_L_law__2714 ic_1 ?_
      exact hR _ _ _ _ _ (by omega) (by omega)
    · replace hf := iteF c hf
      obtain ⟨μ1, h1, hf⟩ := ob hf
      refine s_L_law__j33 (K := K) (KS := KS) hG hX9 ⟨by omega, by omega⟩ h1 (fun n => ?_)
      refine V_iinc (v := l4 + 6) (ls' := [_, _, _, _, _, _, _]) d_L_law__2708 rfl (by rw [show Int32.ofInt 6 = 6 from by decide]) rfl ?_
      refine V_goto (tgt := 23) d_L_law__2711 (by decide) ?_
      exact s_L_law_loop hG hX9 hR k (K + 8) (KS + 48) μ1 (l4 + 6) hf (by omega) (by omega) n
