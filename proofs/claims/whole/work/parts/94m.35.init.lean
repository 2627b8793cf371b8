/-! CONSTRUCTORS (printed by wip/whole/con3.py) -/
theorem w_1441 : Cond.code ⟨"LaceBondsModel", "<init>", "()V"⟩ prog_14_method_5_code 2 (none) ∈ gw := gt_7 (i := 1) (by decide +kernel) rfl
theorem w_1442 : Cond.methodLink "LaceBondsModel" 7 ⟨"java/lang/Object", "<init>", "()V"⟩ ∈ gw := gt_7 (i := 2) (by decide +kernel) rfl
theorem w_181 : Cond.classLink "LaceBonds" 29 "LaceBonds$Law" ∈ gw := gt_1 (i := 181) (by decide +kernel) rfl
theorem w_182 : Cond.instantiable "LaceBonds$Law" 10 ∈ gw := gt_1 (i := 182) (by decide +kernel) rfl
theorem w_184 : Cond.instanceMethod ⟨"LaceBonds$Law", "<init>", "()V"⟩ ∈ gw := gt_1 (i := 184) (by decide +kernel) rfl
theorem w_185 : Cond.code ⟨"LaceBonds$Law", "<init>", "()V"⟩ prog_6_method_1_code 1 (none) ∈ gw := gt_1 (i := 185) (by decide +kernel) rfl
theorem w_186 : Cond.methodLink "LaceBonds$Law" 3 ⟨"java/lang/Object", "<init>", "()V"⟩ ∈ gw := gt_1 (i := 186) (by decide +kernel) rfl
theorem w_2079 : Cond.arrayClass ClassFile.FieldType.long ∈ gw := gt_9 (i := 159) (by decide +kernel) rfl
theorem w_221 : Cond.classLink "LaceBonds" 42 "LaceBonds$LandReader" ∈ gw := gt_1 (i := 221) (by decide +kernel) rfl
theorem w_222 : Cond.instantiable "LaceBonds$LandReader" 3 ∈ gw := gt_1 (i := 222) (by decide +kernel) rfl
theorem w_223 : Cond.methodLink "LaceBonds" 44 ⟨"LaceBonds$LandReader", "<init>", "(LLaceBonds$Tape;LLaceBonds$Land;)V"⟩ ∈ gw := gt_1 (i := 223) (by decide +kernel) rfl
theorem w_224 : Cond.instanceMethod ⟨"LaceBonds$LandReader", "<init>", "(LLaceBonds$Tape;LLaceBonds$Land;)V"⟩ ∈ gw := gt_1 (i := 224) (by decide +kernel) rfl
theorem w_225 : Cond.code ⟨"LaceBonds$LandReader", "<init>", "(LLaceBonds$Tape;LLaceBonds$Land;)V"⟩ prog_5_method_1_code 3 (none) ∈ gw := gt_1 (i := 225) (by decide +kernel) rfl
theorem w_226 : Cond.methodLink "LaceBonds$LandReader" 3 ⟨"LaceBonds$Reader", "<init>", "(LLaceBonds$Tape;I)V"⟩ ∈ gw := gt_1 (i := 226) (by decide +kernel) rfl
theorem w_227 : Cond.instanceMethod ⟨"LaceBonds$Reader", "<init>", "(LLaceBonds$Tape;I)V"⟩ ∈ gw := gt_1 (i := 227) (by decide +kernel) rfl
theorem w_228 : Cond.code ⟨"LaceBonds$Reader", "<init>", "(LLaceBonds$Tape;I)V"⟩ prog_8_method_1_code 3 (none) ∈ gw := gt_1 (i := 228) (by decide +kernel) rfl
theorem w_229 : Cond.methodLink "LaceBonds$Reader" 1 ⟨"java/lang/Object", "<init>", "()V"⟩ ∈ gw := gt_1 (i := 229) (by decide +kernel) rfl
theorem w_244 : Cond.classLink "LaceBonds" 51 "LaceBonds$LawReader" ∈ gw := gt_2 (i := 4) (by decide +kernel) rfl
theorem w_245 : Cond.instantiable "LaceBonds$LawReader" 3 ∈ gw := gt_2 (i := 5) (by decide +kernel) rfl
theorem w_246 : Cond.methodLink "LaceBonds" 53 ⟨"LaceBonds$LawReader", "<init>", "(LLaceBonds$Tape;LLaceBonds$Law;)V"⟩ ∈ gw := gt_2 (i := 6) (by decide +kernel) rfl
theorem w_247 : Cond.instanceMethod ⟨"LaceBonds$LawReader", "<init>", "(LLaceBonds$Tape;LLaceBonds$Law;)V"⟩ ∈ gw := gt_2 (i := 7) (by decide +kernel) rfl
theorem w_248 : Cond.code ⟨"LaceBonds$LawReader", "<init>", "(LLaceBonds$Tape;LLaceBonds$Law;)V"⟩ prog_7_method_1_code 3 (none) ∈ gw := gt_2 (i := 8) (by decide +kernel) rfl
theorem w_249 : Cond.methodLink "LaceBonds$LawReader" 3 ⟨"LaceBonds$Reader", "<init>", "(LLaceBonds$Tape;I)V"⟩ ∈ gw := gt_2 (i := 9) (by decide +kernel) rfl
theorem w_256 : Cond.classLink "LaceBonds" 60 "LaceBonds$Acts" ∈ gw := gt_2 (i := 16) (by decide +kernel) rfl
theorem w_257 : Cond.instantiable "LaceBonds$Acts" 3 ∈ gw := gt_2 (i := 17) (by decide +kernel) rfl
theorem w_258 : Cond.methodLink "LaceBonds" 62 ⟨"LaceBonds$Acts", "<init>", "()V"⟩ ∈ gw := gt_2 (i := 18) (by decide +kernel) rfl
theorem w_259 : Cond.instanceMethod ⟨"LaceBonds$Acts", "<init>", "()V"⟩ ∈ gw := gt_2 (i := 19) (by decide +kernel) rfl
theorem w_260 : Cond.code ⟨"LaceBonds$Acts", "<init>", "()V"⟩ prog_2_method_1_code 2 (none) ∈ gw := gt_2 (i := 20) (by decide +kernel) rfl
theorem w_261 : Cond.methodLink "LaceBonds$Acts" 3 ⟨"java/lang/Object", "<init>", "()V"⟩ ∈ gw := gt_2 (i := 21) (by decide +kernel) rfl
theorem w_262 : Cond.classLink "LaceBonds$Acts" 9 "LaceBonds$Land" ∈ gw := gt_2 (i := 22) (by decide +kernel) rfl
theorem w_276 : Cond.classLink "LaceBonds" 67 "LaceBonds$Rings" ∈ gw := gt_2 (i := 36) (by decide +kernel) rfl
theorem w_277 : Cond.instantiable "LaceBonds$Rings" 4 ∈ gw := gt_2 (i := 37) (by decide +kernel) rfl
theorem w_279 : Cond.instanceMethod ⟨"LaceBonds$Rings", "<init>", "()V"⟩ ∈ gw := gt_2 (i := 39) (by decide +kernel) rfl
theorem w_280 : Cond.code ⟨"LaceBonds$Rings", "<init>", "()V"⟩ prog_9_method_1_code 1 (none) ∈ gw := gt_2 (i := 40) (by decide +kernel) rfl
theorem w_281 : Cond.methodLink "LaceBonds$Rings" 3 ⟨"java/lang/Object", "<init>", "()V"⟩ ∈ gw := gt_2 (i := 41) (by decide +kernel) rfl
theorem w_297 : Cond.classLink "LaceBonds" 74 "LaceBonds$Ways" ∈ gw := gt_2 (i := 57) (by decide +kernel) rfl
theorem w_298 : Cond.instantiable "LaceBonds$Ways" 3 ∈ gw := gt_2 (i := 58) (by decide +kernel) rfl
theorem w_300 : Cond.instanceMethod ⟨"LaceBonds$Ways", "<init>", "()V"⟩ ∈ gw := gt_2 (i := 60) (by decide +kernel) rfl
theorem w_301 : Cond.code ⟨"LaceBonds$Ways", "<init>", "()V"⟩ prog_11_method_1_code 1 (none) ∈ gw := gt_2 (i := 61) (by decide +kernel) rfl
theorem w_302 : Cond.methodLink "LaceBonds$Ways" 3 ⟨"java/lang/Object", "<init>", "()V"⟩ ∈ gw := gt_2 (i := 62) (by decide +kernel) rfl
theorem w_313 : Cond.classLink "LaceBonds" 81 "LaceBonds$Wearers" ∈ gw := gt_2 (i := 73) (by decide +kernel) rfl
theorem w_314 : Cond.instantiable "LaceBonds$Wearers" 5 ∈ gw := gt_2 (i := 74) (by decide +kernel) rfl
theorem w_315 : Cond.methodLink "LaceBonds" 83 ⟨"LaceBonds$Wearers", "<init>", "(LLaceBonds$Tape;)V"⟩ ∈ gw := gt_2 (i := 75) (by decide +kernel) rfl
theorem w_316 : Cond.instanceMethod ⟨"LaceBonds$Wearers", "<init>", "(LLaceBonds$Tape;)V"⟩ ∈ gw := gt_2 (i := 76) (by decide +kernel) rfl
theorem w_317 : Cond.code ⟨"LaceBonds$Wearers", "<init>", "(LLaceBonds$Tape;)V"⟩ prog_12_method_1_code 2 (none) ∈ gw := gt_2 (i := 77) (by decide +kernel) rfl
theorem w_318 : Cond.methodLink "LaceBonds$Wearers" 3 ⟨"java/lang/Object", "<init>", "()V"⟩ ∈ gw := gt_2 (i := 78) (by decide +kernel) rfl
theorem w_33 : Cond.code ⟨"LaceBonds", "<init>", "()V"⟩ prog_1_method_1_code 1 (none) ∈ gw := gt_1 (i := 33) (by decide +kernel) rfl
theorem w_34 : Cond.methodLink "LaceBonds" 1 ⟨"java/lang/Object", "<init>", "()V"⟩ ∈ gw := gt_1 (i := 34) (by decide +kernel) rfl
theorem w_35 : Cond.instanceMethod ⟨"java/lang/Object", "<init>", "()V"⟩ ∈ gw := gt_1 (i := 35) (by decide +kernel) rfl
theorem w_36 : Cond.code ⟨"java/lang/Object", "<init>", "()V"⟩ object_method_1_code 1 (none) ∈ gw := gt_1 (i := 36) (by decide +kernel) rfl
theorem w_37 : Cond.classLink "LaceBonds" 7 "LaceBonds$Tape" ∈ gw := gt_1 (i := 37) (by decide +kernel) rfl
theorem w_38 : Cond.instantiable "LaceBonds$Tape" 5 ∈ gw := gt_1 (i := 38) (by decide +kernel) rfl
theorem w_40 : Cond.instanceMethod ⟨"LaceBonds$Tape", "<init>", "()V"⟩ ∈ gw := gt_1 (i := 40) (by decide +kernel) rfl
theorem w_41 : Cond.code ⟨"LaceBonds$Tape", "<init>", "()V"⟩ prog_10_method_1_code 1 (none) ∈ gw := gt_1 (i := 41) (by decide +kernel) rfl
theorem w_42 : Cond.methodLink "LaceBonds$Tape" 3 ⟨"java/lang/Object", "<init>", "()V"⟩ ∈ gw := gt_1 (i := 42) (by decide +kernel) rfl
theorem w_66 : Cond.arrayClass ClassFile.FieldType.int ∈ gw := gt_1 (i := 66) (by decide +kernel) rfl
theorem w_67 : Cond.classLink "LaceBonds" 16 "LaceBonds$Land" ∈ gw := gt_1 (i := 67) (by decide +kernel) rfl
theorem w_68 : Cond.instantiable "LaceBonds$Land" 19 ∈ gw := gt_1 (i := 68) (by decide +kernel) rfl
theorem w_70 : Cond.instanceMethod ⟨"LaceBonds$Land", "<init>", "()V"⟩ ∈ gw := gt_1 (i := 70) (by decide +kernel) rfl
theorem w_71 : Cond.code ⟨"LaceBonds$Land", "<init>", "()V"⟩ prog_4_method_1_code 1 (none) ∈ gw := gt_1 (i := 71) (by decide +kernel) rfl
theorem w_72 : Cond.methodLink "LaceBonds$Land" 3 ⟨"java/lang/Object", "<init>", "()V"⟩ ∈ gw := gt_1 (i := 72) (by decide +kernel) rfl
theorem w_73 : Cond.classLink "LaceBonds$Land" 67 "LaceBonds$Book" ∈ gw := gt_1 (i := 73) (by decide +kernel) rfl
theorem w_74 : Cond.instantiable "LaceBonds$Book" 3 ∈ gw := gt_1 (i := 74) (by decide +kernel) rfl
theorem w_76 : Cond.instanceMethod ⟨"LaceBonds$Book", "<init>", "()V"⟩ ∈ gw := gt_1 (i := 76) (by decide +kernel) rfl
theorem w_77 : Cond.code ⟨"LaceBonds$Book", "<init>", "()V"⟩ prog_3_method_1_code 1 (none) ∈ gw := gt_1 (i := 77) (by decide +kernel) rfl
theorem w_78 : Cond.methodLink "LaceBonds$Book" 3 ⟨"java/lang/Object", "<init>", "()V"⟩ ∈ gw := gt_1 (i := 78) (by decide +kernel) rfl
theorem w_891 : Cond.arrayClass ClassFile.FieldType.byte ∈ gw := gt_4 (i := 171) (by decide +kernel) rfl
def F_X0_init : Fi := (RX0, cX0_init, 2, 4, 181, 2460, [])
def F_X10_init : Fi := (RX10, cX10_init, 2, 2, 1, 6, [])
def F_X11_init : Fi := (RX11, cX11_init, 1, 6, 263, 5095, [])
def F_X12_init : Fi := (RX12, cX12_init, 2, 8, 10, 10605, [])
def F_X1_init : Fi := (RX1, cX1_init, 1, 2, 1, 60, [])
def F_X2_init : Fi := (RX2, cX2_init, 1, 3, 14, 185, [])
def F_X3_init : Fi := (RX3, cX3_init, 3, 3, 0, 0, [])
def F_X4_init : Fi := (RX4, cX4_init, 1, 2, 7, 481, [])
def F_X5_init : Fi := (RX5, cX5_init, 3, 3, 0, 0, [])
def F_X6_init : Fi := (RX6, cX6_init, 3, 2, 0, 0, [])
def F_X7_init : Fi := (RX7, cX7_init, 1, 2, 2, 18, [])
def F_X8_init : Fi := (RX8, cX8_init, 1, 2, 1, 400, [])
def F_X9_init : Fi := (RX9, cX9_init, 1, 2, 2, 100, [])
theorem m_X0_init : LkM yX0_init F_X0_init (.code yX0_init F_X0_init.2.1 F_X0_init.2.2.1 none) 0 := ⟨w_260, w_9, ⟨by decide, by decide⟩, by decide +kernel, by decide⟩
theorem m_X10_init : LkM yX10_init F_X10_init (.code yX10_init F_X10_init.2.1 F_X10_init.2.2.1 none) 1 := ⟨w_317, w_12, ⟨by decide, by decide⟩, by decide +kernel, by decide⟩
theorem m_X11_init : LkM yX11_init F_X11_init (.code yX11_init F_X11_init.2.1 F_X11_init.2.2.1 none) 0 := ⟨w_33, w_1, ⟨by decide, by decide⟩, by decide +kernel, by decide⟩
theorem m_X12_init : LkM yX12_init F_X12_init (.code yX12_init F_X12_init.2.1 F_X12_init.2.2.1 none) 0 := ⟨w_1441, w_13, ⟨by decide, by decide⟩, by decide +kernel, by decide⟩
theorem m_X1_init : LkM yX1_init F_X1_init (.code yX1_init F_X1_init.2.1 F_X1_init.2.2.1 none) 0 := ⟨w_77, w_4, ⟨by decide, by decide⟩, by decide +kernel, by decide⟩
theorem m_X2_init : LkM yX2_init F_X2_init (.code yX2_init F_X2_init.2.1 F_X2_init.2.2.1 none) 0 := ⟨w_71, w_3, ⟨by decide, by decide⟩, by decide +kernel, by decide⟩
theorem m_X3_init : LkM yX3_init F_X3_init (.code yX3_init F_X3_init.2.1 F_X3_init.2.2.1 none) 2 := ⟨w_225, w_7, ⟨by decide, by decide⟩, by decide +kernel, by decide⟩
theorem m_X4_init : LkM yX4_init F_X4_init (.code yX4_init F_X4_init.2.1 F_X4_init.2.2.1 none) 0 := ⟨w_185, w_5, ⟨by decide, by decide⟩, by decide +kernel, by decide⟩
theorem m_X5_init : LkM yX5_init F_X5_init (.code yX5_init F_X5_init.2.1 F_X5_init.2.2.1 none) 2 := ⟨w_248, w_8, ⟨by decide, by decide⟩, by decide +kernel, by decide⟩
theorem m_X6_init : LkM yX6_init F_X6_init (.code yX6_init F_X6_init.2.1 F_X6_init.2.2.1 none) 2 := ⟨w_228, w_6, ⟨by decide, by decide⟩, by decide +kernel, by decide⟩
theorem m_X7_init : LkM yX7_init F_X7_init (.code yX7_init F_X7_init.2.1 F_X7_init.2.2.1 none) 0 := ⟨w_280, w_10, ⟨by decide, by decide⟩, by decide +kernel, by decide⟩
theorem m_X8_init : LkM yX8_init F_X8_init (.code yX8_init F_X8_init.2.1 F_X8_init.2.2.1 none) 0 := ⟨w_41, w_2, ⟨by decide, by decide⟩, by decide +kernel, by decide⟩
theorem m_X9_init : LkM yX9_init F_X9_init (.code yX9_init F_X9_init.2.1 F_X9_init.2.2.1 none) 0 := ⟨w_301, w_11, ⟨by decide, by decide⟩, by decide +kernel, by decide⟩
theorem nw_RX0_9 : Nw9 RX0 9 2 [.int 0, .int 0, .int 0, .int 0, .int 0, .int 0, .null, .null, .null, .null, .null, .null, .null, .null, .null, .null, .null, .null, .null] 19 := ⟨RX2, TX2, tyX2, clX2, in_2, tyX2_ok, w_262, w_68, w_3, by decide +kernel⟩
theorem nw_RX11_16 : Nw9 RX11 16 2 [.int 0, .int 0, .int 0, .int 0, .int 0, .int 0, .null, .null, .null, .null, .null, .null, .null, .null, .null, .null, .null, .null, .null] 19 := ⟨RX2, TX2, tyX2, clX2, in_2, tyX2_ok, w_67, w_68, w_3, by decide +kernel⟩
theorem nw_RX11_29 : Nw9 RX11 29 4 [.int 0, .int 0, .int 0, .null, .null, .null, .null, .null, .null, .null] 10 := ⟨RX4, TX4, tyX4, clX4, in_4, tyX4_ok, w_181, w_182, w_5, by decide +kernel⟩
theorem nw_RX11_42 : Nw9 RX11 42 3 [.null, .int 0, .null] 3 := ⟨RX3, TX3, tyX3, clX3, in_3, tyX3_ok, w_221, w_222, w_7, by decide +kernel⟩
theorem nw_RX11_51 : Nw9 RX11 51 5 [.null, .int 0, .null] 3 := ⟨RX5, TX5, tyX5, clX5, in_5, tyX5_ok, w_244, w_245, w_8, by decide +kernel⟩
theorem nw_RX11_60 : Nw9 RX11 60 0 [.null, .int 0, .int 0] 3 := ⟨RX0, TX0, tyX0, clX0, in_0, tyX0_ok, w_256, w_257, w_9, by decide +kernel⟩
theorem nw_RX11_67 : Nw9 RX11 67 7 [.null, .null, .int 0, .int 0] 4 := ⟨RX7, TX7, tyX7, clX7, in_7, tyX7_ok, w_276, w_277, w_10, by decide +kernel⟩
theorem nw_RX11_7 : Nw9 RX11 7 8 [.null, .int 0, .int 0, .int 0, .int 0] 5 := ⟨RX8, TX8, tyX8, clX8, in_8, tyX8_ok, w_37, w_38, w_2, by decide +kernel⟩
theorem nw_RX11_74 : Nw9 RX11 74 9 [.null, .null, .int 0] 3 := ⟨RX9, TX9, tyX9, clX9, in_9, tyX9_ok, w_297, w_298, w_11, by decide +kernel⟩
theorem nw_RX11_81 : Nw9 RX11 81 10 [.null, .null, .int 0, .int 0, .int 0] 5 := ⟨RX10, TX10, tyX10, clX10, in_10, tyX10_ok, w_313, w_314, w_12, by decide +kernel⟩
theorem nw_RX2_67 : Nw9 RX2 67 1 [.null, .int 0, .int 0] 3 := ⟨RX1, TX1, tyX1, clX1, in_1, tyX1_ok, w_73, w_74, w_4, by decide +kernel⟩
theorem pf_RX0_0_0 : PtF RX0 0 0 (.array (.object "LaceBonds$Land")) := ⟨RX0, TX0, 3, tyX0, clX0, by decide, in_0, tyX0_ok, nmX0, rfl, rfl, by decide +kernel⟩
theorem pf_RX10_10_0 : PtF RX10 10 0 (.object "LaceBonds$Tape") := ⟨RX10, TX10, 5, tyX10, clX10, by decide, in_10, tyX10_ok, nmX10, rfl, rfl, by decide +kernel⟩
theorem pf_RX10_10_1 : PtF RX10 10 1 (.array .int) := ⟨RX10, TX10, 5, tyX10, clX10, by decide, in_10, tyX10_ok, nmX10, rfl, rfl, by decide +kernel⟩
theorem pf_RX11_11_0 : PtF RX11 11 0 (.object "LaceBonds$Tape") := ⟨RX11, TX11, 14, tyX11, clX11, by decide, in_11, tyX11_ok, nmX11, rfl, rfl, by decide +kernel⟩
theorem pf_RX11_11_1 : PtF RX11 11 1 (.object "LaceBonds$Land") := ⟨RX11, TX11, 14, tyX11, clX11, by decide, in_11, tyX11_ok, nmX11, rfl, rfl, by decide +kernel⟩
theorem pf_RX11_11_10 : PtF RX11 11 10 (.object "LaceBonds$Rings") := ⟨RX11, TX11, 14, tyX11, clX11, by decide, in_11, tyX11_ok, nmX11, rfl, rfl, by decide +kernel⟩
theorem pf_RX11_11_11 : PtF RX11 11 11 (.object "LaceBonds$Ways") := ⟨RX11, TX11, 14, tyX11, clX11, by decide, in_11, tyX11_ok, nmX11, rfl, rfl, by decide +kernel⟩
theorem pf_RX11_11_12 : PtF RX11 11 12 (.object "LaceBonds$Wearers") := ⟨RX11, TX11, 14, tyX11, clX11, by decide, in_11, tyX11_ok, nmX11, rfl, rfl, by decide +kernel⟩
theorem pf_RX11_11_2 : PtF RX11 11 2 (.object "LaceBonds$Land") := ⟨RX11, TX11, 14, tyX11, clX11, by decide, in_11, tyX11_ok, nmX11, rfl, rfl, by decide +kernel⟩
theorem pf_RX11_11_3 : PtF RX11 11 3 (.object "LaceBonds$Land") := ⟨RX11, TX11, 14, tyX11, clX11, by decide, in_11, tyX11_ok, nmX11, rfl, rfl, by decide +kernel⟩
theorem pf_RX11_11_4 : PtF RX11 11 4 (.object "LaceBonds$Law") := ⟨RX11, TX11, 14, tyX11, clX11, by decide, in_11, tyX11_ok, nmX11, rfl, rfl, by decide +kernel⟩
theorem pf_RX11_11_5 : PtF RX11 11 5 (.object "LaceBonds$Law") := ⟨RX11, TX11, 14, tyX11, clX11, by decide, in_11, tyX11_ok, nmX11, rfl, rfl, by decide +kernel⟩
theorem pf_RX11_11_6 : PtF RX11 11 6 (.object "LaceBonds$Law") := ⟨RX11, TX11, 14, tyX11, clX11, by decide, in_11, tyX11_ok, nmX11, rfl, rfl, by decide +kernel⟩
theorem pf_RX11_11_7 : PtF RX11 11 7 (.object "LaceBonds$LandReader") := ⟨RX11, TX11, 14, tyX11, clX11, by decide, in_11, tyX11_ok, nmX11, rfl, rfl, by decide +kernel⟩
theorem pf_RX11_11_8 : PtF RX11 11 8 (.object "LaceBonds$LawReader") := ⟨RX11, TX11, 14, tyX11, clX11, by decide, in_11, tyX11_ok, nmX11, rfl, rfl, by decide +kernel⟩
theorem pf_RX11_11_9 : PtF RX11 11 9 (.object "LaceBonds$Acts") := ⟨RX11, TX11, 14, tyX11, clX11, by decide, in_11, tyX11_ok, nmX11, rfl, rfl, by decide +kernel⟩
theorem pf_RX12_12_1 : PtF RX12 12 1 (.array .int) := ⟨RX12, TX12, 20, tyX12, clX12, by decide, in_12, tyX12_ok, nmX12, rfl, rfl, by decide +kernel⟩
theorem pf_RX12_12_15 : PtF RX12 12 15 (.array .int) := ⟨RX12, TX12, 20, tyX12, clX12, by decide, in_12, tyX12_ok, nmX12, rfl, rfl, by decide +kernel⟩
theorem pf_RX12_12_17 : PtF RX12 12 17 (.array .int) := ⟨RX12, TX12, 20, tyX12, clX12, by decide, in_12, tyX12_ok, nmX12, rfl, rfl, by decide +kernel⟩
theorem pf_RX12_12_18 : PtF RX12 12 18 (.array .int) := ⟨RX12, TX12, 20, tyX12, clX12, by decide, in_12, tyX12_ok, nmX12, rfl, rfl, by decide +kernel⟩
theorem pf_RX12_12_19 : PtF RX12 12 19 (.array .int) := ⟨RX12, TX12, 20, tyX12, clX12, by decide, in_12, tyX12_ok, nmX12, rfl, rfl, by decide +kernel⟩
theorem pf_RX12_12_2 : PtF RX12 12 2 (.array .int) := ⟨RX12, TX12, 20, tyX12, clX12, by decide, in_12, tyX12_ok, nmX12, rfl, rfl, by decide +kernel⟩
theorem pf_RX12_12_3 : PtF RX12 12 3 (.array .int) := ⟨RX12, TX12, 20, tyX12, clX12, by decide, in_12, tyX12_ok, nmX12, rfl, rfl, by decide +kernel⟩
theorem pf_RX12_12_4 : PtF RX12 12 4 (.array .int) := ⟨RX12, TX12, 20, tyX12, clX12, by decide, in_12, tyX12_ok, nmX12, rfl, rfl, by decide +kernel⟩
theorem pf_RX12_12_5 : PtF RX12 12 5 (.array .int) := ⟨RX12, TX12, 20, tyX12, clX12, by decide, in_12, tyX12_ok, nmX12, rfl, rfl, by decide +kernel⟩
theorem pf_RX12_12_8 : PtF RX12 12 8 (.array .byte) := ⟨RX12, TX12, 20, tyX12, clX12, by decide, in_12, tyX12_ok, nmX12, rfl, rfl, by decide +kernel⟩
theorem pf_RX1_1_0 : PtF RX1 1 0 (.array .int) := ⟨RX1, TX1, 3, tyX1, clX1, by decide, in_1, tyX1_ok, nmX1, rfl, rfl, by decide +kernel⟩
theorem pf_RX2_2_10 : PtF RX2 2 10 (.array .int) := ⟨RX2, TX2, 19, tyX2, clX2, by decide, in_2, tyX2_ok, nmX2, rfl, rfl, by decide +kernel⟩
theorem pf_RX2_2_11 : PtF RX2 2 11 (.array .int) := ⟨RX2, TX2, 19, tyX2, clX2, by decide, in_2, tyX2_ok, nmX2, rfl, rfl, by decide +kernel⟩
theorem pf_RX2_2_12 : PtF RX2 2 12 (.array .int) := ⟨RX2, TX2, 19, tyX2, clX2, by decide, in_2, tyX2_ok, nmX2, rfl, rfl, by decide +kernel⟩
theorem pf_RX2_2_13 : PtF RX2 2 13 (.array .int) := ⟨RX2, TX2, 19, tyX2, clX2, by decide, in_2, tyX2_ok, nmX2, rfl, rfl, by decide +kernel⟩
theorem pf_RX2_2_14 : PtF RX2 2 14 (.array .int) := ⟨RX2, TX2, 19, tyX2, clX2, by decide, in_2, tyX2_ok, nmX2, rfl, rfl, by decide +kernel⟩
theorem pf_RX2_2_15 : PtF RX2 2 15 (.array .int) := ⟨RX2, TX2, 19, tyX2, clX2, by decide, in_2, tyX2_ok, nmX2, rfl, rfl, by decide +kernel⟩
theorem pf_RX2_2_16 : PtF RX2 2 16 (.array .int) := ⟨RX2, TX2, 19, tyX2, clX2, by decide, in_2, tyX2_ok, nmX2, rfl, rfl, by decide +kernel⟩
theorem pf_RX2_2_17 : PtF RX2 2 17 (.array .int) := ⟨RX2, TX2, 19, tyX2, clX2, by decide, in_2, tyX2_ok, nmX2, rfl, rfl, by decide +kernel⟩
theorem pf_RX2_2_18 : PtF RX2 2 18 (.object "LaceBonds$Book") := ⟨RX2, TX2, 19, tyX2, clX2, by decide, in_2, tyX2_ok, nmX2, rfl, rfl, by decide +kernel⟩
theorem pf_RX2_2_6 : PtF RX2 2 6 (.array .int) := ⟨RX2, TX2, 19, tyX2, clX2, by decide, in_2, tyX2_ok, nmX2, rfl, rfl, by decide +kernel⟩
theorem pf_RX2_2_7 : PtF RX2 2 7 (.array .int) := ⟨RX2, TX2, 19, tyX2, clX2, by decide, in_2, tyX2_ok, nmX2, rfl, rfl, by decide +kernel⟩
theorem pf_RX2_2_8 : PtF RX2 2 8 (.array .int) := ⟨RX2, TX2, 19, tyX2, clX2, by decide, in_2, tyX2_ok, nmX2, rfl, rfl, by decide +kernel⟩
theorem pf_RX2_2_9 : PtF RX2 2 9 (.array .int) := ⟨RX2, TX2, 19, tyX2, clX2, by decide, in_2, tyX2_ok, nmX2, rfl, rfl, by decide +kernel⟩
theorem pf_RX3_3_2 : PtF RX3 3 2 (.object "LaceBonds$Land") := ⟨RX3, TX3, 3, tyX3, clX3, by decide, in_3, tyX3_ok, nmX3, rfl, rfl, by decide +kernel⟩
theorem pf_RX4_4_3 : PtF RX4 4 3 (.array .int) := ⟨RX4, TX4, 10, tyX4, clX4, by decide, in_4, tyX4_ok, nmX4, rfl, rfl, by decide +kernel⟩
theorem pf_RX4_4_4 : PtF RX4 4 4 (.array .int) := ⟨RX4, TX4, 10, tyX4, clX4, by decide, in_4, tyX4_ok, nmX4, rfl, rfl, by decide +kernel⟩
theorem pf_RX4_4_5 : PtF RX4 4 5 (.array .int) := ⟨RX4, TX4, 10, tyX4, clX4, by decide, in_4, tyX4_ok, nmX4, rfl, rfl, by decide +kernel⟩
theorem pf_RX4_4_6 : PtF RX4 4 6 (.array .int) := ⟨RX4, TX4, 10, tyX4, clX4, by decide, in_4, tyX4_ok, nmX4, rfl, rfl, by decide +kernel⟩
theorem pf_RX4_4_7 : PtF RX4 4 7 (.array .int) := ⟨RX4, TX4, 10, tyX4, clX4, by decide, in_4, tyX4_ok, nmX4, rfl, rfl, by decide +kernel⟩
theorem pf_RX4_4_8 : PtF RX4 4 8 (.array .int) := ⟨RX4, TX4, 10, tyX4, clX4, by decide, in_4, tyX4_ok, nmX4, rfl, rfl, by decide +kernel⟩
theorem pf_RX4_4_9 : PtF RX4 4 9 (.array .int) := ⟨RX4, TX4, 10, tyX4, clX4, by decide, in_4, tyX4_ok, nmX4, rfl, rfl, by decide +kernel⟩
theorem pf_RX5_5_2 : PtF RX5 5 2 (.object "LaceBonds$Law") := ⟨RX5, TX5, 3, tyX5, clX5, by decide, in_5, tyX5_ok, nmX5, rfl, rfl, by decide +kernel⟩
theorem pf_RX6_3_0 : PtF RX6 3 0 (.object "LaceBonds$Tape") := ⟨RX3, TX3, 3, tyX3, clX3, by decide, in_3, tyX3_ok, nmX3, rfl, rfl, by decide +kernel⟩
theorem pf_RX6_3_1 : PtF RX6 3 1 .int := ⟨RX3, TX3, 3, tyX3, clX3, by decide, in_3, tyX3_ok, nmX3, rfl, rfl, by decide +kernel⟩
theorem pf_RX6_5_0 : PtF RX6 5 0 (.object "LaceBonds$Tape") := ⟨RX5, TX5, 3, tyX5, clX5, by decide, in_5, tyX5_ok, nmX5, rfl, rfl, by decide +kernel⟩
theorem pf_RX6_5_1 : PtF RX6 5 1 .int := ⟨RX5, TX5, 3, tyX5, clX5, by decide, in_5, tyX5_ok, nmX5, rfl, rfl, by decide +kernel⟩
theorem pf_RX7_7_0 : PtF RX7 7 0 (.array .int) := ⟨RX7, TX7, 4, tyX7, clX7, by decide, in_7, tyX7_ok, nmX7, rfl, rfl, by decide +kernel⟩
theorem pf_RX7_7_1 : PtF RX7 7 1 (.array .int) := ⟨RX7, TX7, 4, tyX7, clX7, by decide, in_7, tyX7_ok, nmX7, rfl, rfl, by decide +kernel⟩
theorem pf_RX8_8_0 : PtF RX8 8 0 (.array .int) := ⟨RX8, TX8, 5, tyX8, clX8, by decide, in_8, tyX8_ok, nmX8, rfl, rfl, by decide +kernel⟩
theorem pf_RX9_9_0 : PtF RX9 9 0 (.array .int) := ⟨RX9, TX9, 3, tyX9, clX9, by decide, in_9, tyX9_ok, nmX9, rfl, rfl, by decide +kernel⟩
theorem pf_RX9_9_1 : PtF RX9 9 1 (.array .int) := ⟨RX9, TX9, 3, tyX9, clX9, by decide, in_9, tyX9_ok, nmX9, rfl, rfl, by decide +kernel⟩
theorem d_X8_init_0 : decode cX8_init 0 = .ok (.aload_n 0, 1) := by decide +kernel
theorem d_X8_init_1 : decode cX8_init 1 = .ok (.invokespecial 3, 3) := by decide +kernel
theorem d_X8_init_4 : decode cX8_init 4 = .ok (.aload_n 0, 1) := by decide +kernel
theorem d_X8_init_5 : decode cX8_init 5 = .ok (.sipush 400, 3) := by decide +kernel
theorem d_X8_init_8 : decode cX8_init 8 = .ok (.newarray .int, 2) := by decide +kernel
theorem d_X8_init_10 : decode cX8_init 10 = .ok (.putfield 9, 3) := by decide +kernel
theorem d_X8_init_13 : decode cX8_init 13 = .ok (.aload_n 0, 1) := by decide +kernel
theorem d_X8_init_14 : decode cX8_init 14 = .ok (.iconst 0, 1) := by decide +kernel
theorem d_X8_init_15 : decode cX8_init 15 = .ok (.putfield 15, 3) := by decide +kernel
theorem d_X8_init_18 : decode cX8_init 18 = .ok (.aload_n 0, 1) := by decide +kernel
theorem d_X8_init_19 : decode cX8_init 19 = .ok (.iconst 0, 1) := by decide +kernel
theorem d_X8_init_20 : decode cX8_init 20 = .ok (.putfield 19, 3) := by decide +kernel
theorem d_X8_init_23 : decode cX8_init 23 = .ok (.aload_n 0, 1) := by decide +kernel
theorem d_X8_init_24 : decode cX8_init 24 = .ok (.iconst 0, 1) := by decide +kernel
theorem d_X8_init_25 : decode cX8_init 25 = .ok (.putfield 22, 3) := by decide +kernel
theorem d_X8_init_28 : decode cX8_init 28 = .ok (.aload_n 0, 1) := by decide +kernel
theorem d_X8_init_29 : decode cX8_init 29 = .ok (.iconst (-1), 1) := by decide +kernel
theorem d_X8_init_30 : decode cX8_init 30 = .ok (.putfield 25, 3) := by decide +kernel
theorem d_X8_init_33 : decode cX8_init 33 = .ok (.return_, 1) := by decide +kernel
def ar_X8_init (G : Gl) (j : Nat) : va_E := ([.inl (G.2.2.2.1 0, 400, .inl (fun _ => 0))] : List va_E).getD j (.inr (0, []))
theorem s_X8_init {G : Gl} (hG : G.1.stackTraces = false) {h : Hm} {a : Nat}  : Sd G yX8_init F_X8_init (.code yX8_init F_X8_init.2.1 F_X8_init.2.2.1 none) [.ref (G.2.1 + a)] (stg h a 8 [.null, .int 0, .int 0, .int 0, .int 0] 0 (ar_X8_init G)) (a + 1) (fun r9 h9 n9 => r9 = none ∧ h9 = stg h a 8 [.ref (G.2.1 + (a + 1 + 0)), .int 0, .int 0, .int 0, .int (-1)] 1 (ar_X8_init G) ∧ n9 = a + 1 + 1) (fun _ _ _ => False) := Sd.ofI hG ⟨by decide +kernel, rfl, rfl⟩ rfl rfl (Nat.le_of_ble_eq_true rfl) rfl (fun C hK hI => by
  refine V_n (n' := a + 1 + 0) rfl ?_
  refine V_aload_n d_X8_init_0 rfl rfl ?_
  refine V_objI w_42 w_35 w_36 d_X8_init_1 (Nat.le_of_ble_eq_true rfl) ?_
  refine V_aload_n d_X8_init_4 rfl rfl ?_
  refine V_sipush (v := 400) d_X8_init_5 (by decide) ?_
  refine CI_arr (k := 0) (len := 400) hI ⟨⟨by decide, by decide⟩, by decide⟩ w_66 rfl fl_RX8_9 pf_RX8_8_0 d_X8_init_8 d_X8_init_10 (Nat.le_of_ble_eq_true rfl) (Nat.le_of_ble_eq_true rfl) (Nat.le_of_ble_eq_true rfl) ?_
  refine V_aload_n d_X8_init_13 rfl rfl ?_
  refine V_iconst (v := 0) d_X8_init_14 (by decide) ?_
  refine CI_put fl_RX8_15 pt_8_1 d_X8_init_15 rfl rfl (Nat.le_of_ble_eq_true rfl) ?_
  refine V_aload_n d_X8_init_18 rfl rfl ?_
  refine V_iconst (v := 0) d_X8_init_19 (by decide) ?_
  refine CI_put fl_RX8_19 pt_8_2 d_X8_init_20 rfl rfl (Nat.le_of_ble_eq_true rfl) ?_
  refine V_aload_n d_X8_init_23 rfl rfl ?_
  refine V_iconst (v := 0) d_X8_init_24 (by decide) ?_
  refine CI_put fl_RX8_22 pt_8_3 d_X8_init_25 rfl rfl (Nat.le_of_ble_eq_true rfl) ?_
  refine V_aload_n d_X8_init_28 rfl rfl ?_
  refine V_iconst (v := (-1)) d_X8_init_29 (by decide) ?_
  refine CI_put fl_RX8_25 pt_8_4 d_X8_init_30 rfl rfl (Nat.le_of_ble_eq_true rfl) ?_
  exact V_vret hK d_X8_init_33 (Nat.le_of_ble_eq_true rfl) (Nat.le_of_ble_eq_true rfl) ⟨rfl, rfl, rfl⟩)
theorem d_X1_init_0 : decode cX1_init 0 = .ok (.aload_n 0, 1) := by decide +kernel
theorem d_X1_init_1 : decode cX1_init 1 = .ok (.invokespecial 3, 3) := by decide +kernel
theorem d_X1_init_4 : decode cX1_init 4 = .ok (.aload_n 0, 1) := by decide +kernel
theorem d_X1_init_5 : decode cX1_init 5 = .ok (.bipush 60, 2) := by decide +kernel
theorem d_X1_init_7 : decode cX1_init 7 = .ok (.newarray .int, 2) := by decide +kernel
theorem d_X1_init_9 : decode cX1_init 9 = .ok (.putfield 9, 3) := by decide +kernel
theorem d_X1_init_12 : decode cX1_init 12 = .ok (.aload_n 0, 1) := by decide +kernel
theorem d_X1_init_13 : decode cX1_init 13 = .ok (.iconst 0, 1) := by decide +kernel
theorem d_X1_init_14 : decode cX1_init 14 = .ok (.putfield 15, 3) := by decide +kernel
theorem d_X1_init_17 : decode cX1_init 17 = .ok (.aload_n 0, 1) := by decide +kernel
theorem d_X1_init_18 : decode cX1_init 18 = .ok (.iconst 0, 1) := by decide +kernel
theorem d_X1_init_19 : decode cX1_init 19 = .ok (.putfield 19, 3) := by decide +kernel
theorem d_X1_init_22 : decode cX1_init 22 = .ok (.return_, 1) := by decide +kernel
def ar_X1_init (G : Gl) (j : Nat) : va_E := ([.inl (G.2.2.2.1 0, 60, .inl (fun _ => 0))] : List va_E).getD j (.inr (0, []))
theorem s_X1_init {G : Gl} (hG : G.1.stackTraces = false) {h : Hm} {a : Nat}  : Sd G yX1_init F_X1_init (.code yX1_init F_X1_init.2.1 F_X1_init.2.2.1 none) [.ref (G.2.1 + a)] (stg h a 1 [.null, .int 0, .int 0] 0 (ar_X1_init G)) (a + 1) (fun r9 h9 n9 => r9 = none ∧ h9 = stg h a 1 [.ref (G.2.1 + (a + 1 + 0)), .int 0, .int 0] 1 (ar_X1_init G) ∧ n9 = a + 1 + 1) (fun _ _ _ => False) := Sd.ofI hG ⟨by decide +kernel, rfl, rfl⟩ rfl rfl (Nat.le_of_ble_eq_true rfl) rfl (fun C hK hI => by
  refine V_n (n' := a + 1 + 0) rfl ?_
  refine V_aload_n d_X1_init_0 rfl rfl ?_
  refine V_objI w_78 w_35 w_36 d_X1_init_1 (Nat.le_of_ble_eq_true rfl) ?_
  refine V_aload_n d_X1_init_4 rfl rfl ?_
  refine V_bipush (v := 60) d_X1_init_5 (by decide) ?_
  refine CI_arr (k := 0) (len := 60) hI ⟨⟨by decide, by decide⟩, by decide⟩ w_66 rfl fl_RX1_9 pf_RX1_1_0 d_X1_init_7 d_X1_init_9 (Nat.le_of_ble_eq_true rfl) (Nat.le_of_ble_eq_true rfl) (Nat.le_of_ble_eq_true rfl) ?_
  refine V_aload_n d_X1_init_12 rfl rfl ?_
  refine V_iconst (v := 0) d_X1_init_13 (by decide) ?_
  refine CI_put fl_RX1_15 pt_1_1 d_X1_init_14 rfl rfl (Nat.le_of_ble_eq_true rfl) ?_
  refine V_aload_n d_X1_init_17 rfl rfl ?_
  refine V_iconst (v := 0) d_X1_init_18 (by decide) ?_
  refine CI_put fl_RX1_19 pt_1_2 d_X1_init_19 rfl rfl (Nat.le_of_ble_eq_true rfl) ?_
  exact V_vret hK d_X1_init_22 (Nat.le_of_ble_eq_true rfl) (Nat.le_of_ble_eq_true rfl) ⟨rfl, rfl, rfl⟩)
theorem d_X4_init_0 : decode cX4_init 0 = .ok (.aload_n 0, 1) := by decide +kernel
theorem d_X4_init_1 : decode cX4_init 1 = .ok (.invokespecial 3, 3) := by decide +kernel
theorem d_X4_init_4 : decode cX4_init 4 = .ok (.aload_n 0, 1) := by decide +kernel
theorem d_X4_init_5 : decode cX4_init 5 = .ok (.iconst 0, 1) := by decide +kernel
theorem d_X4_init_6 : decode cX4_init 6 = .ok (.putfield 9, 3) := by decide +kernel
theorem d_X4_init_9 : decode cX4_init 9 = .ok (.aload_n 0, 1) := by decide +kernel
theorem d_X4_init_10 : decode cX4_init 10 = .ok (.iconst 0, 1) := by decide +kernel
theorem d_X4_init_11 : decode cX4_init 11 = .ok (.putfield 15, 3) := by decide +kernel
theorem d_X4_init_14 : decode cX4_init 14 = .ok (.aload_n 0, 1) := by decide +kernel
theorem d_X4_init_15 : decode cX4_init 15 = .ok (.iconst 0, 1) := by decide +kernel
theorem d_X4_init_16 : decode cX4_init 16 = .ok (.putfield 19, 3) := by decide +kernel
theorem d_X4_init_19 : decode cX4_init 19 = .ok (.aload_n 0, 1) := by decide +kernel
theorem d_X4_init_20 : decode cX4_init 20 = .ok (.bipush 12, 2) := by decide +kernel
theorem d_X4_init_22 : decode cX4_init 22 = .ok (.newarray .int, 2) := by decide +kernel
theorem d_X4_init_24 : decode cX4_init 24 = .ok (.putfield 22, 3) := by decide +kernel
theorem d_X4_init_27 : decode cX4_init 27 = .ok (.aload_n 0, 1) := by decide +kernel
theorem d_X4_init_28 : decode cX4_init 28 = .ok (.bipush 12, 2) := by decide +kernel
theorem d_X4_init_30 : decode cX4_init 30 = .ok (.newarray .int, 2) := by decide +kernel
theorem d_X4_init_32 : decode cX4_init 32 = .ok (.putfield 26, 3) := by decide +kernel
theorem d_X4_init_35 : decode cX4_init 35 = .ok (.aload_n 0, 1) := by decide +kernel
theorem d_X4_init_36 : decode cX4_init 36 = .ok (.bipush 12, 2) := by decide +kernel
theorem d_X4_init_38 : decode cX4_init 38 = .ok (.newarray .int, 2) := by decide +kernel
theorem d_X4_init_40 : decode cX4_init 40 = .ok (.putfield 29, 3) := by decide +kernel
theorem d_X4_init_43 : decode cX4_init 43 = .ok (.aload_n 0, 1) := by decide +kernel
theorem d_X4_init_44 : decode cX4_init 44 = .ok (.bipush 12, 2) := by decide +kernel
theorem d_X4_init_46 : decode cX4_init 46 = .ok (.newarray .int, 2) := by decide +kernel
theorem d_X4_init_48 : decode cX4_init 48 = .ok (.putfield 32, 3) := by decide +kernel
theorem d_X4_init_51 : decode cX4_init 51 = .ok (.aload_n 0, 1) := by decide +kernel
theorem d_X4_init_52 : decode cX4_init 52 = .ok (.sipush 400, 3) := by decide +kernel
theorem d_X4_init_55 : decode cX4_init 55 = .ok (.newarray .int, 2) := by decide +kernel
theorem d_X4_init_57 : decode cX4_init 57 = .ok (.putfield 35, 3) := by decide +kernel
theorem d_X4_init_60 : decode cX4_init 60 = .ok (.aload_n 0, 1) := by decide +kernel
theorem d_X4_init_61 : decode cX4_init 61 = .ok (.bipush 9, 2) := by decide +kernel
theorem d_X4_init_63 : decode cX4_init 63 = .ok (.newarray .int, 2) := by decide +kernel
theorem d_X4_init_65 : decode cX4_init 65 = .ok (.putfield 38, 3) := by decide +kernel
theorem d_X4_init_68 : decode cX4_init 68 = .ok (.aload_n 0, 1) := by decide +kernel
theorem d_X4_init_69 : decode cX4_init 69 = .ok (.bipush 24, 2) := by decide +kernel
theorem d_X4_init_71 : decode cX4_init 71 = .ok (.newarray .int, 2) := by decide +kernel
theorem d_X4_init_73 : decode cX4_init 73 = .ok (.putfield 41, 3) := by decide +kernel
theorem d_X4_init_76 : decode cX4_init 76 = .ok (.return_, 1) := by decide +kernel
def ar_X4_init (G : Gl) (j : Nat) : va_E := ([.inl (G.2.2.2.1 0, 12, .inl (fun _ => 0)), .inl (G.2.2.2.1 0, 12, .inl (fun _ => 0)), .inl (G.2.2.2.1 0, 12, .inl (fun _ => 0)), .inl (G.2.2.2.1 0, 12, .inl (fun _ => 0)), .inl (G.2.2.2.1 0, 400, .inl (fun _ => 0)), .inl (G.2.2.2.1 0, 9, .inl (fun _ => 0)), .inl (G.2.2.2.1 0, 24, .inl (fun _ => 0))] : List va_E).getD j (.inr (0, []))
theorem s_X4_init {G : Gl} (hG : G.1.stackTraces = false) {h : Hm} {a : Nat}  : Sd G yX4_init F_X4_init (.code yX4_init F_X4_init.2.1 F_X4_init.2.2.1 none) [.ref (G.2.1 + a)] (stg h a 4 [.int 0, .int 0, .int 0, .null, .null, .null, .null, .null, .null, .null] 0 (ar_X4_init G)) (a + 1) (fun r9 h9 n9 => r9 = none ∧ h9 = stg h a 4 [.int 0, .int 0, .int 0, .ref (G.2.1 + (a + 1 + 0)), .ref (G.2.1 + (a + 1 + 1)), .ref (G.2.1 + (a + 1 + 2)), .ref (G.2.1 + (a + 1 + 3)), .ref (G.2.1 + (a + 1 + 4)), .ref (G.2.1 + (a + 1 + 5)), .ref (G.2.1 + (a + 1 + 6))] 7 (ar_X4_init G) ∧ n9 = a + 1 + 7) (fun _ _ _ => False) := Sd.ofI hG ⟨by decide +kernel, rfl, rfl⟩ rfl rfl (Nat.le_of_ble_eq_true rfl) rfl (fun C hK hI => by
  refine V_n (n' := a + 1 + 0) rfl ?_
  refine V_aload_n d_X4_init_0 rfl rfl ?_
  refine V_objI w_186 w_35 w_36 d_X4_init_1 (Nat.le_of_ble_eq_true rfl) ?_
  refine V_aload_n d_X4_init_4 rfl rfl ?_
  refine V_iconst (v := 0) d_X4_init_5 (by decide) ?_
  refine CI_put fl_RX4_9 pt_4_0 d_X4_init_6 rfl rfl (Nat.le_of_ble_eq_true rfl) ?_
  refine V_aload_n d_X4_init_9 rfl rfl ?_
  refine V_iconst (v := 0) d_X4_init_10 (by decide) ?_
  refine CI_put fl_RX4_15 pt_4_1 d_X4_init_11 rfl rfl (Nat.le_of_ble_eq_true rfl) ?_
  refine V_aload_n d_X4_init_14 rfl rfl ?_
  refine V_iconst (v := 0) d_X4_init_15 (by decide) ?_
  refine CI_put fl_RX4_19 pt_4_2 d_X4_init_16 rfl rfl (Nat.le_of_ble_eq_true rfl) ?_
  refine V_aload_n d_X4_init_19 rfl rfl ?_
  refine V_bipush (v := 12) d_X4_init_20 (by decide) ?_
  refine CI_arr (k := 0) (len := 12) hI ⟨⟨by decide, by decide⟩, by decide⟩ w_66 rfl fl_RX4_22 pf_RX4_4_3 d_X4_init_22 d_X4_init_24 (Nat.le_of_ble_eq_true rfl) (Nat.le_of_ble_eq_true rfl) (Nat.le_of_ble_eq_true rfl) ?_
  refine V_aload_n d_X4_init_27 rfl rfl ?_
  refine V_bipush (v := 12) d_X4_init_28 (by decide) ?_
  refine CI_arr (k := 1) (len := 12) hI ⟨⟨by decide, by decide⟩, by decide⟩ w_66 rfl fl_RX4_26 pf_RX4_4_4 d_X4_init_30 d_X4_init_32 (Nat.le_of_ble_eq_true rfl) (Nat.le_of_ble_eq_true rfl) (Nat.le_of_ble_eq_true rfl) ?_
  refine V_aload_n d_X4_init_35 rfl rfl ?_
  refine V_bipush (v := 12) d_X4_init_36 (by decide) ?_
  refine CI_arr (k := 2) (len := 12) hI ⟨⟨by decide, by decide⟩, by decide⟩ w_66 rfl fl_RX4_29 pf_RX4_4_5 d_X4_init_38 d_X4_init_40 (Nat.le_of_ble_eq_true rfl) (Nat.le_of_ble_eq_true rfl) (Nat.le_of_ble_eq_true rfl) ?_
  refine V_aload_n d_X4_init_43 rfl rfl ?_
  refine V_bipush (v := 12) d_X4_init_44 (by decide) ?_
  refine CI_arr (k := 3) (len := 12) hI ⟨⟨by decide, by decide⟩, by decide⟩ w_66 rfl fl_RX4_32 pf_RX4_4_6 d_X4_init_46 d_X4_init_48 (Nat.le_of_ble_eq_true rfl) (Nat.le_of_ble_eq_true rfl) (Nat.le_of_ble_eq_true rfl) ?_
  refine V_aload_n d_X4_init_51 rfl rfl ?_
  refine V_sipush (v := 400) d_X4_init_52 (by decide) ?_
  refine CI_arr (k := 4) (len := 400) hI ⟨⟨by decide, by decide⟩, by decide⟩ w_66 rfl fl_RX4_35 pf_RX4_4_7 d_X4_init_55 d_X4_init_57 (Nat.le_of_ble_eq_true rfl) (Nat.le_of_ble_eq_true rfl) (Nat.le_of_ble_eq_true rfl) ?_
  refine V_aload_n d_X4_init_60 rfl rfl ?_
  refine V_bipush (v := 9) d_X4_init_61 (by decide) ?_
  refine CI_arr (k := 5) (len := 9) hI ⟨⟨by decide, by decide⟩, by decide⟩ w_66 rfl fl_RX4_38 pf_RX4_4_8 d_X4_init_63 d_X4_init_65 (Nat.le_of_ble_eq_true rfl) (Nat.le_of_ble_eq_true rfl) (Nat.le_of_ble_eq_true rfl) ?_
  refine V_aload_n d_X4_init_68 rfl rfl ?_
  refine V_bipush (v := 24) d_X4_init_69 (by decide) ?_
  refine CI_arr (k := 6) (len := 24) hI ⟨⟨by decide, by decide⟩, by decide⟩ w_66 rfl fl_RX4_41 pf_RX4_4_9 d_X4_init_71 d_X4_init_73 (Nat.le_of_ble_eq_true rfl) (Nat.le_of_ble_eq_true rfl) (Nat.le_of_ble_eq_true rfl) ?_
  exact V_vret hK d_X4_init_76 (Nat.le_of_ble_eq_true rfl) (Nat.le_of_ble_eq_true rfl) ⟨rfl, rfl, rfl⟩)
theorem d_X7_init_0 : decode cX7_init 0 = .ok (.aload_n 0, 1) := by decide +kernel
theorem d_X7_init_1 : decode cX7_init 1 = .ok (.invokespecial 3, 3) := by decide +kernel
theorem d_X7_init_4 : decode cX7_init 4 = .ok (.aload_n 0, 1) := by decide +kernel
theorem d_X7_init_5 : decode cX7_init 5 = .ok (.bipush 12, 2) := by decide +kernel
theorem d_X7_init_7 : decode cX7_init 7 = .ok (.newarray .int, 2) := by decide +kernel
theorem d_X7_init_9 : decode cX7_init 9 = .ok (.putfield 9, 3) := by decide +kernel
theorem d_X7_init_12 : decode cX7_init 12 = .ok (.aload_n 0, 1) := by decide +kernel
theorem d_X7_init_13 : decode cX7_init 13 = .ok (.bipush 6, 2) := by decide +kernel
theorem d_X7_init_15 : decode cX7_init 15 = .ok (.newarray .int, 2) := by decide +kernel
theorem d_X7_init_17 : decode cX7_init 17 = .ok (.putfield 15, 3) := by decide +kernel
theorem d_X7_init_20 : decode cX7_init 20 = .ok (.aload_n 0, 1) := by decide +kernel
theorem d_X7_init_21 : decode cX7_init 21 = .ok (.iconst 0, 1) := by decide +kernel
theorem d_X7_init_22 : decode cX7_init 22 = .ok (.putfield 18, 3) := by decide +kernel
theorem d_X7_init_25 : decode cX7_init 25 = .ok (.aload_n 0, 1) := by decide +kernel
theorem d_X7_init_26 : decode cX7_init 26 = .ok (.iconst 0, 1) := by decide +kernel
theorem d_X7_init_27 : decode cX7_init 27 = .ok (.putfield 22, 3) := by decide +kernel
theorem d_X7_init_30 : decode cX7_init 30 = .ok (.return_, 1) := by decide +kernel
def ar_X7_init (G : Gl) (j : Nat) : va_E := ([.inl (G.2.2.2.1 0, 12, .inl (fun _ => 0)), .inl (G.2.2.2.1 0, 6, .inl (fun _ => 0))] : List va_E).getD j (.inr (0, []))
theorem s_X7_init {G : Gl} (hG : G.1.stackTraces = false) {h : Hm} {a : Nat}  : Sd G yX7_init F_X7_init (.code yX7_init F_X7_init.2.1 F_X7_init.2.2.1 none) [.ref (G.2.1 + a)] (stg h a 7 [.null, .null, .int 0, .int 0] 0 (ar_X7_init G)) (a + 1) (fun r9 h9 n9 => r9 = none ∧ h9 = stg h a 7 [.ref (G.2.1 + (a + 1 + 0)), .ref (G.2.1 + (a + 1 + 1)), .int 0, .int 0] 2 (ar_X7_init G) ∧ n9 = a + 1 + 2) (fun _ _ _ => False) := Sd.ofI hG ⟨by decide +kernel, rfl, rfl⟩ rfl rfl (Nat.le_of_ble_eq_true rfl) rfl (fun C hK hI => by
  refine V_n (n' := a + 1 + 0) rfl ?_
  refine V_aload_n d_X7_init_0 rfl rfl ?_
  refine V_objI w_281 w_35 w_36 d_X7_init_1 (Nat.le_of_ble_eq_true rfl) ?_
  refine V_aload_n d_X7_init_4 rfl rfl ?_
  refine V_bipush (v := 12) d_X7_init_5 (by decide) ?_
  refine CI_arr (k := 0) (len := 12) hI ⟨⟨by decide, by decide⟩, by decide⟩ w_66 rfl fl_RX7_9 pf_RX7_7_0 d_X7_init_7 d_X7_init_9 (Nat.le_of_ble_eq_true rfl) (Nat.le_of_ble_eq_true rfl) (Nat.le_of_ble_eq_true rfl) ?_
  refine V_aload_n d_X7_init_12 rfl rfl ?_
  refine V_bipush (v := 6) d_X7_init_13 (by decide) ?_
  refine CI_arr (k := 1) (len := 6) hI ⟨⟨by decide, by decide⟩, by decide⟩ w_66 rfl fl_RX7_15 pf_RX7_7_1 d_X7_init_15 d_X7_init_17 (Nat.le_of_ble_eq_true rfl) (Nat.le_of_ble_eq_true rfl) (Nat.le_of_ble_eq_true rfl) ?_
  refine V_aload_n d_X7_init_20 rfl rfl ?_
  refine V_iconst (v := 0) d_X7_init_21 (by decide) ?_
  refine CI_put fl_RX7_18 pt_7_2 d_X7_init_22 rfl rfl (Nat.le_of_ble_eq_true rfl) ?_
  refine V_aload_n d_X7_init_25 rfl rfl ?_
  refine V_iconst (v := 0) d_X7_init_26 (by decide) ?_
  refine CI_put fl_RX7_22 pt_7_3 d_X7_init_27 rfl rfl (Nat.le_of_ble_eq_true rfl) ?_
  exact V_vret hK d_X7_init_30 (Nat.le_of_ble_eq_true rfl) (Nat.le_of_ble_eq_true rfl) ⟨rfl, rfl, rfl⟩)
theorem d_X9_init_0 : decode cX9_init 0 = .ok (.aload_n 0, 1) := by decide +kernel
theorem d_X9_init_1 : decode cX9_init 1 = .ok (.invokespecial 3, 3) := by decide +kernel
theorem d_X9_init_4 : decode cX9_init 4 = .ok (.aload_n 0, 1) := by decide +kernel
theorem d_X9_init_5 : decode cX9_init 5 = .ok (.bipush 36, 2) := by decide +kernel
theorem d_X9_init_7 : decode cX9_init 7 = .ok (.newarray .int, 2) := by decide +kernel
theorem d_X9_init_9 : decode cX9_init 9 = .ok (.putfield 9, 3) := by decide +kernel
theorem d_X9_init_12 : decode cX9_init 12 = .ok (.aload_n 0, 1) := by decide +kernel
theorem d_X9_init_13 : decode cX9_init 13 = .ok (.bipush 64, 2) := by decide +kernel
theorem d_X9_init_15 : decode cX9_init 15 = .ok (.newarray .int, 2) := by decide +kernel
theorem d_X9_init_17 : decode cX9_init 17 = .ok (.putfield 15, 3) := by decide +kernel
theorem d_X9_init_20 : decode cX9_init 20 = .ok (.aload_n 0, 1) := by decide +kernel
theorem d_X9_init_21 : decode cX9_init 21 = .ok (.iconst 0, 1) := by decide +kernel
theorem d_X9_init_22 : decode cX9_init 22 = .ok (.putfield 18, 3) := by decide +kernel
theorem d_X9_init_25 : decode cX9_init 25 = .ok (.return_, 1) := by decide +kernel
def ar_X9_init (G : Gl) (j : Nat) : va_E := ([.inl (G.2.2.2.1 0, 36, .inl (fun _ => 0)), .inl (G.2.2.2.1 0, 64, .inl (fun _ => 0))] : List va_E).getD j (.inr (0, []))
theorem s_X9_init {G : Gl} (hG : G.1.stackTraces = false) {h : Hm} {a : Nat}  : Sd G yX9_init F_X9_init (.code yX9_init F_X9_init.2.1 F_X9_init.2.2.1 none) [.ref (G.2.1 + a)] (stg h a 9 [.null, .null, .int 0] 0 (ar_X9_init G)) (a + 1) (fun r9 h9 n9 => r9 = none ∧ h9 = stg h a 9 [.ref (G.2.1 + (a + 1 + 0)), .ref (G.2.1 + (a + 1 + 1)), .int 0] 2 (ar_X9_init G) ∧ n9 = a + 1 + 2) (fun _ _ _ => False) := Sd.ofI hG ⟨by decide +kernel, rfl, rfl⟩ rfl rfl (Nat.le_of_ble_eq_true rfl) rfl (fun C hK hI => by
  refine V_n (n' := a + 1 + 0) rfl ?_
  refine V_aload_n d_X9_init_0 rfl rfl ?_
  refine V_objI w_302 w_35 w_36 d_X9_init_1 (Nat.le_of_ble_eq_true rfl) ?_
  refine V_aload_n d_X9_init_4 rfl rfl ?_
  refine V_bipush (v := 36) d_X9_init_5 (by decide) ?_
  refine CI_arr (k := 0) (len := 36) hI ⟨⟨by decide, by decide⟩, by decide⟩ w_66 rfl fl_RX9_9 pf_RX9_9_0 d_X9_init_7 d_X9_init_9 (Nat.le_of_ble_eq_true rfl) (Nat.le_of_ble_eq_true rfl) (Nat.le_of_ble_eq_true rfl) ?_
  refine V_aload_n d_X9_init_12 rfl rfl ?_
  refine V_bipush (v := 64) d_X9_init_13 (by decide) ?_
  refine CI_arr (k := 1) (len := 64) hI ⟨⟨by decide, by decide⟩, by decide⟩ w_66 rfl fl_RX9_15 pf_RX9_9_1 d_X9_init_15 d_X9_init_17 (Nat.le_of_ble_eq_true rfl) (Nat.le_of_ble_eq_true rfl) (Nat.le_of_ble_eq_true rfl) ?_
  refine V_aload_n d_X9_init_20 rfl rfl ?_
  refine V_iconst (v := 0) d_X9_init_21 (by decide) ?_
  refine CI_put fl_RX9_18 pt_9_2 d_X9_init_22 rfl rfl (Nat.le_of_ble_eq_true rfl) ?_
  exact V_vret hK d_X9_init_25 (Nat.le_of_ble_eq_true rfl) (Nat.le_of_ble_eq_true rfl) ⟨rfl, rfl, rfl⟩)
theorem d_X10_init_0 : decode cX10_init 0 = .ok (.aload_n 0, 1) := by decide +kernel
theorem d_X10_init_1 : decode cX10_init 1 = .ok (.invokespecial 3, 3) := by decide +kernel
theorem d_X10_init_4 : decode cX10_init 4 = .ok (.aload_n 0, 1) := by decide +kernel
theorem d_X10_init_5 : decode cX10_init 5 = .ok (.bipush 6, 2) := by decide +kernel
theorem d_X10_init_7 : decode cX10_init 7 = .ok (.newarray .int, 2) := by decide +kernel
theorem d_X10_init_9 : decode cX10_init 9 = .ok (.putfield 9, 3) := by decide +kernel
theorem d_X10_init_12 : decode cX10_init 12 = .ok (.aload_n 0, 1) := by decide +kernel
theorem d_X10_init_13 : decode cX10_init 13 = .ok (.iconst 0, 1) := by decide +kernel
theorem d_X10_init_14 : decode cX10_init 14 = .ok (.putfield 15, 3) := by decide +kernel
theorem d_X10_init_17 : decode cX10_init 17 = .ok (.aload_n 0, 1) := by decide +kernel
theorem d_X10_init_18 : decode cX10_init 18 = .ok (.iconst 0, 1) := by decide +kernel
theorem d_X10_init_19 : decode cX10_init 19 = .ok (.putfield 19, 3) := by decide +kernel
theorem d_X10_init_22 : decode cX10_init 22 = .ok (.aload_n 0, 1) := by decide +kernel
theorem d_X10_init_23 : decode cX10_init 23 = .ok (.iconst 0, 1) := by decide +kernel
theorem d_X10_init_24 : decode cX10_init 24 = .ok (.putfield 22, 3) := by decide +kernel
theorem d_X10_init_27 : decode cX10_init 27 = .ok (.aload_n 0, 1) := by decide +kernel
theorem d_X10_init_28 : decode cX10_init 28 = .ok (.aload_n 1, 1) := by decide +kernel
theorem d_X10_init_29 : decode cX10_init 29 = .ok (.putfield 25, 3) := by decide +kernel
theorem d_X10_init_32 : decode cX10_init 32 = .ok (.return_, 1) := by decide +kernel
def ar_X10_init (G : Gl) (j : Nat) : va_E := ([.inl (G.2.2.2.1 0, 6, .inl (fun _ => 0))] : List va_E).getD j (.inr (0, []))
theorem s_X10_init {G : Gl} (hG : G.1.stackTraces = false) {h : Hm} {a : Nat} {t : Nat}  : Sd G yX10_init F_X10_init (.code yX10_init F_X10_init.2.1 F_X10_init.2.2.1 none) [.ref (G.2.1 + a), .ref t] (stg h a 10 [.null, .null, .int 0, .int 0, .int 0] 0 (ar_X10_init G)) (a + 1) (fun r9 h9 n9 => r9 = none ∧ h9 = stg h a 10 [.ref t, .ref (G.2.1 + (a + 1 + 0)), .int 0, .int 0, .int 0] 1 (ar_X10_init G) ∧ n9 = a + 1 + 1) (fun _ _ _ => False) := Sd.ofI hG ⟨by decide +kernel, rfl, rfl⟩ rfl rfl (Nat.le_of_ble_eq_true rfl) rfl (fun C hK hI => by
  refine V_n (n' := a + 1 + 0) rfl ?_
  refine V_aload_n d_X10_init_0 rfl rfl ?_
  refine V_objI w_318 w_35 w_36 d_X10_init_1 (Nat.le_of_ble_eq_true rfl) ?_
  refine V_aload_n d_X10_init_4 rfl rfl ?_
  refine V_bipush (v := 6) d_X10_init_5 (by decide) ?_
  refine CI_arr (k := 0) (len := 6) hI ⟨⟨by decide, by decide⟩, by decide⟩ w_66 rfl fl_RX10_9 pf_RX10_10_1 d_X10_init_7 d_X10_init_9 (Nat.le_of_ble_eq_true rfl) (Nat.le_of_ble_eq_true rfl) (Nat.le_of_ble_eq_true rfl) ?_
  refine V_aload_n d_X10_init_12 rfl rfl ?_
  refine V_iconst (v := 0) d_X10_init_13 (by decide) ?_
  refine CI_put fl_RX10_15 pt_10_2 d_X10_init_14 rfl rfl (Nat.le_of_ble_eq_true rfl) ?_
  refine V_aload_n d_X10_init_17 rfl rfl ?_
  refine V_iconst (v := 0) d_X10_init_18 (by decide) ?_
  refine CI_put fl_RX10_19 pt_10_3 d_X10_init_19 rfl rfl (Nat.le_of_ble_eq_true rfl) ?_
  refine V_aload_n d_X10_init_22 rfl rfl ?_
  refine V_iconst (v := 0) d_X10_init_23 (by decide) ?_
  refine CI_put fl_RX10_22 pt_10_4 d_X10_init_24 rfl rfl (Nat.le_of_ble_eq_true rfl) ?_
  refine V_aload_n d_X10_init_27 rfl rfl ?_
  refine V_aload_n d_X10_init_28 rfl rfl ?_
  refine CI_putF hI fl_RX10_25 pf_RX10_10_0 d_X10_init_29 rfl rfl (Nat.le_of_ble_eq_true rfl) ?_
  exact V_vret hK d_X10_init_32 (Nat.le_of_ble_eq_true rfl) (Nat.le_of_ble_eq_true rfl) ⟨rfl, rfl, rfl⟩)
theorem d_X6_init_0 : decode cX6_init 0 = .ok (.aload_n 0, 1) := by decide +kernel
theorem d_X6_init_1 : decode cX6_init 1 = .ok (.invokespecial 1, 3) := by decide +kernel
theorem d_X6_init_4 : decode cX6_init 4 = .ok (.aload_n 0, 1) := by decide +kernel
theorem d_X6_init_5 : decode cX6_init 5 = .ok (.aload_n 1, 1) := by decide +kernel
theorem d_X6_init_6 : decode cX6_init 6 = .ok (.putfield 7, 3) := by decide +kernel
theorem d_X6_init_9 : decode cX6_init 9 = .ok (.aload_n 0, 1) := by decide +kernel
theorem d_X6_init_10 : decode cX6_init 10 = .ok (.iload_n 2, 1) := by decide +kernel
theorem d_X6_init_11 : decode cX6_init 11 = .ok (.putfield 13, 3) := by decide +kernel
theorem d_X6_init_14 : decode cX6_init 14 = .ok (.return_, 1) := by decide +kernel
theorem s_X6_init_3 {G : Gl} (hG : G.1.stackTraces = false) {h : Hm} {a : Nat} {t : Nat} {m9 : Int32}  {ar : Nat → va_E} : Sd G yX6_init F_X6_init (.code yX6_init F_X6_init.2.1 F_X6_init.2.2.1 none) [.ref (G.2.1 + a), .ref t, .int m9] (stg h a 3 [.null, .int 0, .null] 0 ar) (a + 1) (fun r9 h9 n9 => r9 = none ∧ h9 = stg h a 3 [.ref t, .int m9, .null] 0 ar ∧ n9 = a + 1 + 0) (fun _ _ _ => False) := Sd.ofI hG ⟨by decide +kernel, rfl, rfl⟩ rfl rfl (Nat.le_of_ble_eq_true rfl) rfl (fun C hK hI => by
  refine V_n (n' := a + 1 + 0) rfl ?_
  refine V_aload_n d_X6_init_0 rfl rfl ?_
  refine V_objI w_229 w_35 w_36 d_X6_init_1 (Nat.le_of_ble_eq_true rfl) ?_
  refine V_aload_n d_X6_init_4 rfl rfl ?_
  refine V_aload_n d_X6_init_5 rfl rfl ?_
  refine CI_putF hI fl_RX6_7_3 pf_RX6_3_0 d_X6_init_6 rfl rfl (Nat.le_of_ble_eq_true rfl) ?_
  refine V_aload_n d_X6_init_9 rfl rfl ?_
  refine V_iload_n d_X6_init_10 rfl rfl ?_
  refine CI_putF hI fl_RX6_13_3 pf_RX6_3_1 d_X6_init_11 rfl rfl (Nat.le_of_ble_eq_true rfl) ?_
  exact V_vret hK d_X6_init_14 (Nat.le_of_ble_eq_true rfl) (Nat.le_of_ble_eq_true rfl) ⟨rfl, rfl, rfl⟩)
theorem s_X6_init_5 {G : Gl} (hG : G.1.stackTraces = false) {h : Hm} {a : Nat} {t : Nat} {m9 : Int32}  {ar : Nat → va_E} : Sd G yX6_init F_X6_init (.code yX6_init F_X6_init.2.1 F_X6_init.2.2.1 none) [.ref (G.2.1 + a), .ref t, .int m9] (stg h a 5 [.null, .int 0, .null] 0 ar) (a + 1) (fun r9 h9 n9 => r9 = none ∧ h9 = stg h a 5 [.ref t, .int m9, .null] 0 ar ∧ n9 = a + 1 + 0) (fun _ _ _ => False) := Sd.ofI hG ⟨by decide +kernel, rfl, rfl⟩ rfl rfl (Nat.le_of_ble_eq_true rfl) rfl (fun C hK hI => by
  refine V_n (n' := a + 1 + 0) rfl ?_
  refine V_aload_n d_X6_init_0 rfl rfl ?_
  refine V_objI w_229 w_35 w_36 d_X6_init_1 (Nat.le_of_ble_eq_true rfl) ?_
  refine V_aload_n d_X6_init_4 rfl rfl ?_
  refine V_aload_n d_X6_init_5 rfl rfl ?_
  refine CI_putF hI fl_RX6_7_5 pf_RX6_5_0 d_X6_init_6 rfl rfl (Nat.le_of_ble_eq_true rfl) ?_
  refine V_aload_n d_X6_init_9 rfl rfl ?_
  refine V_iload_n d_X6_init_10 rfl rfl ?_
  refine CI_putF hI fl_RX6_13_5 pf_RX6_5_1 d_X6_init_11 rfl rfl (Nat.le_of_ble_eq_true rfl) ?_
  exact V_vret hK d_X6_init_14 (Nat.le_of_ble_eq_true rfl) (Nat.le_of_ble_eq_true rfl) ⟨rfl, rfl, rfl⟩)
section Rows11
variable {G : Gl} {C : Cx} {F F' : Fi} {pc : Nat} {ls ls' : List (Option Value)} {st st0 : List Value} {h h' : Hm} {n kc ks kc' ks' : Nat} {a ci i idx k : Nat} {fs : List Value} {ar : Nat → va_E} {ty : FieldType}
theorem stg_lo {cj mj : Nat} {gs : List Value} {arj : Nat → va_E} : stg (stg h a ci fs k ar) (a + 1 + k) cj gs mj arj a = some (.inr (ci, fs)) := by unfold stg; rw [if_neg (by omega), if_neg (by omega), if_pos (by omega), if_pos rfl]
theorem CI_end {cj mj : Nat} {gs : List Value} {arj : Nat → va_E} (hI : NmI C) (har0 : ar k = .inr (cj, gs)) (har : ∀ j, j < mj → ar (k + 1 + j) = arj j) (hf : Fl F.1 idx ci i) (hp : PtF F.1 ci i ty) (hd : decode F.2.1 pc = .ok (.putfield idx, 3)) (hn : narrow ty (.ref (G.2.1 + (a + 1 + k))) = .ref (G.2.1 + (a + 1 + k))) (hfit : fits ty (.ref (G.2.1 + (a + 1 + k))) = true) (hl : i < fs.length) (kk : V G C F (pc + 3) ls st (stg h a ci (fs.set i (.ref (G.2.1 + (a + 1 + k)))) (k + 1 + mj) ar) (a + 1 + (k + 1 + mj)) kc ks) : V G C F pc ls (.ref (G.2.1 + (a + 1 + k)) :: .ref (G.2.1 + a) :: st) (stg (stg h a ci fs k ar) (a + 1 + k) cj gs mj arj) (a + 1 + k + 1 + mj) kc ks :=
  V_putF hI hf hp hd hn hfit stg_lo hl (V_sub (stg_end har0 har) (V_n (by omega) kk))
end Rows11
def mu0 : Mem := fun b i => if landL.contains b = true then (if i = 3 then 5 else if i = 4 then 1 else 0) else if b = 1 then (if i = 4 then -1 else 0) else if b = 72 then (if i = 1 then 14 else 0) else if b = 73 then (if i = 1 then 12 else 0) else if b = 264 then (if i = 14 then -1 else 0) else 0
theorem d_X3_init_0 : decode cX3_init 0 = .ok (.aload_n 0, 1) := by decide +kernel
theorem d_X3_init_1 : decode cX3_init 1 = .ok (.aload_n 1, 1) := by decide +kernel
theorem d_X3_init_2 : decode cX3_init 2 = .ok (.bipush 14, 2) := by decide +kernel
theorem d_X3_init_4 : decode cX3_init 4 = .ok (.invokespecial 3, 3) := by decide +kernel
theorem d_X3_init_7 : decode cX3_init 7 = .ok (.aload_n 0, 1) := by decide +kernel
theorem d_X3_init_8 : decode cX3_init 8 = .ok (.aload_n 2, 1) := by decide +kernel
theorem d_X3_init_9 : decode cX3_init 9 = .ok (.putfield 9, 3) := by decide +kernel
theorem d_X3_init_12 : decode cX3_init 12 = .ok (.return_, 1) := by decide +kernel
theorem s_X3_init {G : Gl} (hG : G.1.stackTraces = false) {h : Hm} {a t q : Nat} {ar : Nat → va_E} : Sd G yX3_init F_X3_init (.code yX3_init F_X3_init.2.1 F_X3_init.2.2.1 none) [.ref (G.2.1 + a), .ref t, .ref q] (stg h a 3 [.null, .int 0, .null] 0 ar) (a + 1) (fun r9 h9 n9 => r9 = none ∧ h9 = stg h a 3 [.ref t, .int 14, .ref q] 0 ar ∧ n9 = a + 1 + 0) (fun _ _ _ => False) := Sd.ofI hG ⟨by decide +kernel, rfl, rfl⟩ rfl rfl (Nat.le_of_ble_eq_true rfl) rfl (fun C hK hI => by
  refine V_aload_n d_X3_init_0 rfl rfl ?_
  refine V_aload_n d_X3_init_1 rfl rfl ?_
  refine V_bipush (v := 14) d_X3_init_2 (by decide) ?_
  refine V_callI (As := [.ref t, .int 14]) (s_X6_init_3 hG) m_X6_init ⟨w_226, w_227⟩ rfl d_X3_init_4 rfl (Nat.le_of_ble_eq_true rfl) ⟨Nat.le_of_ble_eq_true rfl, Nat.le_of_ble_eq_true rfl, Nat.le_of_ble_eq_true rfl⟩ (fun r9 h9 n9 q9 => ?_)
  obtain ⟨rfl, rfl, rfl⟩ := q9
  refine V_aload_n (st := []) d_X3_init_7 rfl rfl ?_
  refine V_aload_n d_X3_init_8 rfl rfl ?_
  refine CI_putF hI fl_RX3_9 pf_RX3_3_2 d_X3_init_9 rfl rfl (Nat.le_of_ble_eq_true rfl) ?_
  exact V_vret hK d_X3_init_12 (Nat.le_of_ble_eq_true rfl) (Nat.le_of_ble_eq_true rfl) ⟨rfl, rfl, rfl⟩)
theorem d_X5_init_0 : decode cX5_init 0 = .ok (.aload_n 0, 1) := by decide +kernel
theorem d_X5_init_1 : decode cX5_init 1 = .ok (.aload_n 1, 1) := by decide +kernel
theorem d_X5_init_2 : decode cX5_init 2 = .ok (.bipush 12, 2) := by decide +kernel
theorem d_X5_init_4 : decode cX5_init 4 = .ok (.invokespecial 3, 3) := by decide +kernel
theorem d_X5_init_7 : decode cX5_init 7 = .ok (.aload_n 0, 1) := by decide +kernel
theorem d_X5_init_8 : decode cX5_init 8 = .ok (.aload_n 2, 1) := by decide +kernel
theorem d_X5_init_9 : decode cX5_init 9 = .ok (.putfield 9, 3) := by decide +kernel
theorem d_X5_init_12 : decode cX5_init 12 = .ok (.return_, 1) := by decide +kernel
theorem s_X5_init {G : Gl} (hG : G.1.stackTraces = false) {h : Hm} {a t q : Nat} {ar : Nat → va_E} : Sd G yX5_init F_X5_init (.code yX5_init F_X5_init.2.1 F_X5_init.2.2.1 none) [.ref (G.2.1 + a), .ref t, .ref q] (stg h a 5 [.null, .int 0, .null] 0 ar) (a + 1) (fun r9 h9 n9 => r9 = none ∧ h9 = stg h a 5 [.ref t, .int 12, .ref q] 0 ar ∧ n9 = a + 1 + 0) (fun _ _ _ => False) := Sd.ofI hG ⟨by decide +kernel, rfl, rfl⟩ rfl rfl (Nat.le_of_ble_eq_true rfl) rfl (fun C hK hI => by
  refine V_aload_n d_X5_init_0 rfl rfl ?_
  refine V_aload_n d_X5_init_1 rfl rfl ?_
  refine V_bipush (v := 12) d_X5_init_2 (by decide) ?_
  refine V_callI (As := [.ref t, .int 12]) (s_X6_init_5 hG) m_X6_init ⟨w_249, w_227⟩ rfl d_X5_init_4 rfl (Nat.le_of_ble_eq_true rfl) ⟨Nat.le_of_ble_eq_true rfl, Nat.le_of_ble_eq_true rfl, Nat.le_of_ble_eq_true rfl⟩ (fun r9 h9 n9 q9 => ?_)
  obtain ⟨rfl, rfl, rfl⟩ := q9
  refine V_aload_n (st := []) d_X5_init_7 rfl rfl ?_
  refine V_aload_n d_X5_init_8 rfl rfl ?_
  refine CI_putF hI fl_RX5_9 pf_RX5_5_2 d_X5_init_9 rfl rfl (Nat.le_of_ble_eq_true rfl) ?_
  exact V_vret hK d_X5_init_12 (Nat.le_of_ble_eq_true rfl) (Nat.le_of_ble_eq_true rfl) ⟨rfl, rfl, rfl⟩)
theorem d_X2_init_0 : decode cX2_init 0 = .ok (.aload_n 0, 1) := by decide +kernel
theorem d_X2_init_1 : decode cX2_init 1 = .ok (.invokespecial 3, 3) := by decide +kernel
theorem d_X2_init_4 : decode cX2_init 4 = .ok (.aload_n 0, 1) := by decide +kernel
theorem d_X2_init_5 : decode cX2_init 5 = .ok (.iconst 0, 1) := by decide +kernel
theorem d_X2_init_6 : decode cX2_init 6 = .ok (.putfield 9, 3) := by decide +kernel
theorem d_X2_init_9 : decode cX2_init 9 = .ok (.aload_n 0, 1) := by decide +kernel
theorem d_X2_init_10 : decode cX2_init 10 = .ok (.iconst 0, 1) := by decide +kernel
theorem d_X2_init_11 : decode cX2_init 11 = .ok (.putfield 15, 3) := by decide +kernel
theorem d_X2_init_14 : decode cX2_init 14 = .ok (.aload_n 0, 1) := by decide +kernel
theorem d_X2_init_15 : decode cX2_init 15 = .ok (.iconst 0, 1) := by decide +kernel
theorem d_X2_init_16 : decode cX2_init 16 = .ok (.putfield 18, 3) := by decide +kernel
theorem d_X2_init_19 : decode cX2_init 19 = .ok (.aload_n 0, 1) := by decide +kernel
theorem d_X2_init_20 : decode cX2_init 20 = .ok (.iconst 5, 1) := by decide +kernel
theorem d_X2_init_21 : decode cX2_init 21 = .ok (.putfield 21, 3) := by decide +kernel
theorem d_X2_init_24 : decode cX2_init 24 = .ok (.aload_n 0, 1) := by decide +kernel
theorem d_X2_init_25 : decode cX2_init 25 = .ok (.iconst 1, 1) := by decide +kernel
theorem d_X2_init_26 : decode cX2_init 26 = .ok (.putfield 24, 3) := by decide +kernel
theorem d_X2_init_29 : decode cX2_init 29 = .ok (.aload_n 0, 1) := by decide +kernel
theorem d_X2_init_30 : decode cX2_init 30 = .ok (.iconst 0, 1) := by decide +kernel
theorem d_X2_init_31 : decode cX2_init 31 = .ok (.putfield 27, 3) := by decide +kernel
theorem d_X2_init_34 : decode cX2_init 34 = .ok (.aload_n 0, 1) := by decide +kernel
theorem d_X2_init_35 : decode cX2_init 35 = .ok (.bipush 6, 2) := by decide +kernel
theorem d_X2_init_37 : decode cX2_init 37 = .ok (.newarray .int, 2) := by decide +kernel
theorem d_X2_init_39 : decode cX2_init 39 = .ok (.putfield 30, 3) := by decide +kernel
theorem d_X2_init_42 : decode cX2_init 42 = .ok (.aload_n 0, 1) := by decide +kernel
theorem d_X2_init_43 : decode cX2_init 43 = .ok (.bipush 6, 2) := by decide +kernel
theorem d_X2_init_45 : decode cX2_init 45 = .ok (.newarray .int, 2) := by decide +kernel
theorem d_X2_init_47 : decode cX2_init 47 = .ok (.putfield 34, 3) := by decide +kernel
theorem d_X2_init_50 : decode cX2_init 50 = .ok (.aload_n 0, 1) := by decide +kernel
theorem d_X2_init_51 : decode cX2_init 51 = .ok (.bipush 6, 2) := by decide +kernel
theorem d_X2_init_53 : decode cX2_init 53 = .ok (.newarray .int, 2) := by decide +kernel
theorem d_X2_init_55 : decode cX2_init 55 = .ok (.putfield 37, 3) := by decide +kernel
theorem d_X2_init_58 : decode cX2_init 58 = .ok (.aload_n 0, 1) := by decide +kernel
theorem d_X2_init_59 : decode cX2_init 59 = .ok (.bipush 6, 2) := by decide +kernel
theorem d_X2_init_61 : decode cX2_init 61 = .ok (.newarray .int, 2) := by decide +kernel
theorem d_X2_init_63 : decode cX2_init 63 = .ok (.putfield 40, 3) := by decide +kernel
theorem d_X2_init_66 : decode cX2_init 66 = .ok (.aload_n 0, 1) := by decide +kernel
theorem d_X2_init_67 : decode cX2_init 67 = .ok (.bipush 6, 2) := by decide +kernel
theorem d_X2_init_69 : decode cX2_init 69 = .ok (.newarray .int, 2) := by decide +kernel
theorem d_X2_init_71 : decode cX2_init 71 = .ok (.putfield 43, 3) := by decide +kernel
theorem d_X2_init_74 : decode cX2_init 74 = .ok (.aload_n 0, 1) := by decide +kernel
theorem d_X2_init_75 : decode cX2_init 75 = .ok (.bipush 12, 2) := by decide +kernel
theorem d_X2_init_77 : decode cX2_init 77 = .ok (.newarray .int, 2) := by decide +kernel
theorem d_X2_init_79 : decode cX2_init 79 = .ok (.putfield 46, 3) := by decide +kernel
theorem d_X2_init_82 : decode cX2_init 82 = .ok (.aload_n 0, 1) := by decide +kernel
theorem d_X2_init_83 : decode cX2_init 83 = .ok (.bipush 12, 2) := by decide +kernel
theorem d_X2_init_85 : decode cX2_init 85 = .ok (.newarray .int, 2) := by decide +kernel
theorem d_X2_init_87 : decode cX2_init 87 = .ok (.putfield 49, 3) := by decide +kernel
theorem d_X2_init_90 : decode cX2_init 90 = .ok (.aload_n 0, 1) := by decide +kernel
theorem d_X2_init_91 : decode cX2_init 91 = .ok (.bipush 12, 2) := by decide +kernel
theorem d_X2_init_93 : decode cX2_init 93 = .ok (.newarray .int, 2) := by decide +kernel
theorem d_X2_init_95 : decode cX2_init 95 = .ok (.putfield 52, 3) := by decide +kernel
theorem d_X2_init_98 : decode cX2_init 98 = .ok (.aload_n 0, 1) := by decide +kernel
theorem d_X2_init_99 : decode cX2_init 99 = .ok (.bipush 12, 2) := by decide +kernel
theorem d_X2_init_101 : decode cX2_init 101 = .ok (.newarray .int, 2) := by decide +kernel
theorem d_X2_init_103 : decode cX2_init 103 = .ok (.putfield 55, 3) := by decide +kernel
theorem d_X2_init_106 : decode cX2_init 106 = .ok (.aload_n 0, 1) := by decide +kernel
theorem d_X2_init_107 : decode cX2_init 107 = .ok (.bipush 12, 2) := by decide +kernel
theorem d_X2_init_109 : decode cX2_init 109 = .ok (.newarray .int, 2) := by decide +kernel
theorem d_X2_init_111 : decode cX2_init 111 = .ok (.putfield 58, 3) := by decide +kernel
theorem d_X2_init_114 : decode cX2_init 114 = .ok (.aload_n 0, 1) := by decide +kernel
theorem d_X2_init_115 : decode cX2_init 115 = .ok (.bipush 12, 2) := by decide +kernel
theorem d_X2_init_117 : decode cX2_init 117 = .ok (.newarray .int, 2) := by decide +kernel
theorem d_X2_init_119 : decode cX2_init 119 = .ok (.putfield 61, 3) := by decide +kernel
theorem d_X2_init_122 : decode cX2_init 122 = .ok (.aload_n 0, 1) := by decide +kernel
theorem d_X2_init_123 : decode cX2_init 123 = .ok (.bipush 20, 2) := by decide +kernel
theorem d_X2_init_125 : decode cX2_init 125 = .ok (.newarray .int, 2) := by decide +kernel
theorem d_X2_init_127 : decode cX2_init 127 = .ok (.putfield 64, 3) := by decide +kernel
theorem d_X2_init_130 : decode cX2_init 130 = .ok (.aload_n 0, 1) := by decide +kernel
theorem d_X2_init_131 : decode cX2_init 131 = .ok (.new 67, 3) := by decide +kernel
theorem d_X2_init_134 : decode cX2_init 134 = .ok (.dup, 1) := by decide +kernel
theorem d_X2_init_135 : decode cX2_init 135 = .ok (.invokespecial 69, 3) := by decide +kernel
theorem d_X2_init_138 : decode cX2_init 138 = .ok (.putfield 70, 3) := by decide +kernel
theorem d_X2_init_141 : decode cX2_init 141 = .ok (.return_, 1) := by decide +kernel
def ar_X2_init (G : Gl) (a j : Nat) : va_E := ([.inl (G.2.2.2.1 0, 6, .inl (fun _ => 0)), .inl (G.2.2.2.1 0, 6, .inl (fun _ => 0)), .inl (G.2.2.2.1 0, 6, .inl (fun _ => 0)), .inl (G.2.2.2.1 0, 6, .inl (fun _ => 0)), .inl (G.2.2.2.1 0, 6, .inl (fun _ => 0)), .inl (G.2.2.2.1 0, 12, .inl (fun _ => 0)), .inl (G.2.2.2.1 0, 12, .inl (fun _ => 0)), .inl (G.2.2.2.1 0, 12, .inl (fun _ => 0)), .inl (G.2.2.2.1 0, 12, .inl (fun _ => 0)), .inl (G.2.2.2.1 0, 12, .inl (fun _ => 0)), .inl (G.2.2.2.1 0, 12, .inl (fun _ => 0)), .inl (G.2.2.2.1 0, 20, .inl (fun _ => 0)), .inr (1, [.ref (G.2.1 + (a + 1 + 12 + 1 + 0)), .int 0, .int 0]), .inl (G.2.2.2.1 0, 60, .inl (fun _ => 0))] : List va_E).getD j (.inr (0, []))
theorem s_X2_init {G : Gl} (hG : G.1.stackTraces = false) {h : Hm} {a : Nat} : Sd G yX2_init F_X2_init (.code yX2_init F_X2_init.2.1 F_X2_init.2.2.1 none) [.ref (G.2.1 + a)] (stg h a 2 [.int 0, .int 0, .int 0, .int 0, .int 0, .int 0, .null, .null, .null, .null, .null, .null, .null, .null, .null, .null, .null, .null, .null] 0 (ar_X2_init G a)) (a + 1) (fun r9 h9 n9 => r9 = none ∧ h9 = stg h a 2 [.int 0, .int 0, .int 0, .int 5, .int 1, .int 0, .ref (G.2.1 + (a + 1 + 0)), .ref (G.2.1 + (a + 1 + 1)), .ref (G.2.1 + (a + 1 + 2)), .ref (G.2.1 + (a + 1 + 3)), .ref (G.2.1 + (a + 1 + 4)), .ref (G.2.1 + (a + 1 + 5)), .ref (G.2.1 + (a + 1 + 6)), .ref (G.2.1 + (a + 1 + 7)), .ref (G.2.1 + (a + 1 + 8)), .ref (G.2.1 + (a + 1 + 9)), .ref (G.2.1 + (a + 1 + 10)), .ref (G.2.1 + (a + 1 + 11)), .ref (G.2.1 + (a + 1 + 12))] 14 (ar_X2_init G a) ∧ n9 = a + 1 + 14) (fun _ _ _ => False) := Sd.ofI hG ⟨by decide +kernel, rfl, rfl⟩ rfl rfl (Nat.le_of_ble_eq_true rfl) rfl (fun C hK hI => by
  refine V_n (n' := a + 1 + 0) rfl ?_
  refine V_aload_n d_X2_init_0 rfl rfl ?_
  refine V_objI w_72 w_35 w_36 d_X2_init_1 (Nat.le_of_ble_eq_true rfl) ?_
  refine V_aload_n d_X2_init_4 rfl rfl ?_
  refine V_iconst (v := 0) d_X2_init_5 (by decide) ?_
  refine CI_put fl_RX2_9 pt_2_0 d_X2_init_6 rfl rfl (Nat.le_of_ble_eq_true rfl) ?_
  refine V_aload_n d_X2_init_9 rfl rfl ?_
  refine V_iconst (v := 0) d_X2_init_10 (by decide) ?_
  refine CI_put fl_RX2_15 pt_2_1 d_X2_init_11 rfl rfl (Nat.le_of_ble_eq_true rfl) ?_
  refine V_aload_n d_X2_init_14 rfl rfl ?_
  refine V_iconst (v := 0) d_X2_init_15 (by decide) ?_
  refine CI_put fl_RX2_18 pt_2_2 d_X2_init_16 rfl rfl (Nat.le_of_ble_eq_true rfl) ?_
  refine V_aload_n d_X2_init_19 rfl rfl ?_
  refine V_iconst (v := 5) d_X2_init_20 (by decide) ?_
  refine CI_put fl_RX2_21 pt_2_3 d_X2_init_21 rfl rfl (Nat.le_of_ble_eq_true rfl) ?_
  refine V_aload_n d_X2_init_24 rfl rfl ?_
  refine V_iconst (v := 1) d_X2_init_25 (by decide) ?_
  refine CI_put fl_RX2_24 pt_2_4 d_X2_init_26 rfl rfl (Nat.le_of_ble_eq_true rfl) ?_
  refine V_aload_n d_X2_init_29 rfl rfl ?_
  refine V_iconst (v := 0) d_X2_init_30 (by decide) ?_
  refine CI_put fl_RX2_27 pt_2_5 d_X2_init_31 rfl rfl (Nat.le_of_ble_eq_true rfl) ?_
  refine V_aload_n d_X2_init_34 rfl rfl ?_
  refine V_bipush (v := 6) d_X2_init_35 (by decide) ?_
  refine CI_arr (k := 0) (len := 6) hI ⟨⟨by decide, by decide⟩, by decide⟩ w_66 rfl fl_RX2_30 pf_RX2_2_6 d_X2_init_37 d_X2_init_39 (Nat.le_of_ble_eq_true rfl) (Nat.le_of_ble_eq_true rfl) (Nat.le_of_ble_eq_true rfl) ?_
  refine V_aload_n d_X2_init_42 rfl rfl ?_
  refine V_bipush (v := 6) d_X2_init_43 (by decide) ?_
  refine CI_arr (k := 1) (len := 6) hI ⟨⟨by decide, by decide⟩, by decide⟩ w_66 rfl fl_RX2_34 pf_RX2_2_7 d_X2_init_45 d_X2_init_47 (Nat.le_of_ble_eq_true rfl) (Nat.le_of_ble_eq_true rfl) (Nat.le_of_ble_eq_true rfl) ?_
  refine V_aload_n d_X2_init_50 rfl rfl ?_
  refine V_bipush (v := 6) d_X2_init_51 (by decide) ?_
  refine CI_arr (k := 2) (len := 6) hI ⟨⟨by decide, by decide⟩, by decide⟩ w_66 rfl fl_RX2_37 pf_RX2_2_8 d_X2_init_53 d_X2_init_55 (Nat.le_of_ble_eq_true rfl) (Nat.le_of_ble_eq_true rfl) (Nat.le_of_ble_eq_true rfl) ?_
  refine V_aload_n d_X2_init_58 rfl rfl ?_
  refine V_bipush (v := 6) d_X2_init_59 (by decide) ?_
  refine CI_arr (k := 3) (len := 6) hI ⟨⟨by decide, by decide⟩, by decide⟩ w_66 rfl fl_RX2_40 pf_RX2_2_9 d_X2_init_61 d_X2_init_63 (Nat.le_of_ble_eq_true rfl) (Nat.le_of_ble_eq_true rfl) (Nat.le_of_ble_eq_true rfl) ?_
  refine V_aload_n d_X2_init_66 rfl rfl ?_
  refine V_bipush (v := 6) d_X2_init_67 (by decide) ?_
  refine CI_arr (k := 4) (len := 6) hI ⟨⟨by decide, by decide⟩, by decide⟩ w_66 rfl fl_RX2_43 pf_RX2_2_10 d_X2_init_69 d_X2_init_71 (Nat.le_of_ble_eq_true rfl) (Nat.le_of_ble_eq_true rfl) (Nat.le_of_ble_eq_true rfl) ?_
  refine V_aload_n d_X2_init_74 rfl rfl ?_
  refine V_bipush (v := 12) d_X2_init_75 (by decide) ?_
  refine CI_arr (k := 5) (len := 12) hI ⟨⟨by decide, by decide⟩, by decide⟩ w_66 rfl fl_RX2_46 pf_RX2_2_11 d_X2_init_77 d_X2_init_79 (Nat.le_of_ble_eq_true rfl) (Nat.le_of_ble_eq_true rfl) (Nat.le_of_ble_eq_true rfl) ?_
  refine V_aload_n d_X2_init_82 rfl rfl ?_
  refine V_bipush (v := 12) d_X2_init_83 (by decide) ?_
  refine CI_arr (k := 6) (len := 12) hI ⟨⟨by decide, by decide⟩, by decide⟩ w_66 rfl fl_RX2_49 pf_RX2_2_12 d_X2_init_85 d_X2_init_87 (Nat.le_of_ble_eq_true rfl) (Nat.le_of_ble_eq_true rfl) (Nat.le_of_ble_eq_true rfl) ?_
  refine V_aload_n d_X2_init_90 rfl rfl ?_
  refine V_bipush (v := 12) d_X2_init_91 (by decide) ?_
  refine CI_arr (k := 7) (len := 12) hI ⟨⟨by decide, by decide⟩, by decide⟩ w_66 rfl fl_RX2_52 pf_RX2_2_13 d_X2_init_93 d_X2_init_95 (Nat.le_of_ble_eq_true rfl) (Nat.le_of_ble_eq_true rfl) (Nat.le_of_ble_eq_true rfl) ?_
  refine V_aload_n d_X2_init_98 rfl rfl ?_
  refine V_bipush (v := 12) d_X2_init_99 (by decide) ?_
  refine CI_arr (k := 8) (len := 12) hI ⟨⟨by decide, by decide⟩, by decide⟩ w_66 rfl fl_RX2_55 pf_RX2_2_14 d_X2_init_101 d_X2_init_103 (Nat.le_of_ble_eq_true rfl) (Nat.le_of_ble_eq_true rfl) (Nat.le_of_ble_eq_true rfl) ?_
  refine V_aload_n d_X2_init_106 rfl rfl ?_
  refine V_bipush (v := 12) d_X2_init_107 (by decide) ?_
  refine CI_arr (k := 9) (len := 12) hI ⟨⟨by decide, by decide⟩, by decide⟩ w_66 rfl fl_RX2_58 pf_RX2_2_15 d_X2_init_109 d_X2_init_111 (Nat.le_of_ble_eq_true rfl) (Nat.le_of_ble_eq_true rfl) (Nat.le_of_ble_eq_true rfl) ?_
  refine V_aload_n d_X2_init_114 rfl rfl ?_
  refine V_bipush (v := 12) d_X2_init_115 (by decide) ?_
  refine CI_arr (k := 10) (len := 12) hI ⟨⟨by decide, by decide⟩, by decide⟩ w_66 rfl fl_RX2_61 pf_RX2_2_16 d_X2_init_117 d_X2_init_119 (Nat.le_of_ble_eq_true rfl) (Nat.le_of_ble_eq_true rfl) (Nat.le_of_ble_eq_true rfl) ?_
  refine V_aload_n d_X2_init_122 rfl rfl ?_
  refine V_bipush (v := 20) d_X2_init_123 (by decide) ?_
  refine CI_arr (k := 11) (len := 20) hI ⟨⟨by decide, by decide⟩, by decide⟩ w_66 rfl fl_RX2_64 pf_RX2_2_17 d_X2_init_125 d_X2_init_127 (Nat.le_of_ble_eq_true rfl) (Nat.le_of_ble_eq_true rfl) (Nat.le_of_ble_eq_true rfl) ?_
  refine V_aload_n d_X2_init_130 rfl rfl ?_
  refine V_new nw_RX2_67 d_X2_init_131 (Nat.le_of_ble_eq_true rfl) (Nat.le_of_ble_eq_true rfl) ?_
  refine V_dup d_X2_init_134 rfl ?_
  refine V_sub (stg_obj (arj := ar_X1_init G)) ?_
  refine V_callIN (As := []) (s_X1_init hG) m_X1_init ⟨⟨"LaceBonds", List.mem_of_getElem? (i := 5) rfl⟩, w_76⟩ rfl d_X2_init_135 rfl (Nat.le_of_ble_eq_true rfl) ⟨Nat.le_of_ble_eq_true rfl, Nat.le_of_ble_eq_true rfl, Nat.le_of_ble_eq_true rfl⟩ (fun r9 h9 n9 q9 => ?_)
  obtain ⟨rfl, rfl, rfl⟩ := q9
  refine CI_end (st := []) (k := 12) hI rfl (fun j hj => by have hj : j = 0 := (by omega); subst hj; rfl) fl_RX2_70 pf_RX2_2_18 d_X2_init_138 rfl rfl (Nat.le_of_ble_eq_true rfl) ?_
  exact V_vret hK d_X2_init_141 (Nat.le_of_ble_eq_true rfl) (Nat.le_of_ble_eq_true rfl) ⟨rfl, rfl, rfl⟩)
theorem d_X0_init_0 : decode cX0_init 0 = .ok (.aload_n 0, 1) := by decide +kernel
theorem d_X0_init_1 : decode cX0_init 1 = .ok (.invokespecial 3, 3) := by decide +kernel
theorem d_X0_init_4 : decode cX0_init 4 = .ok (.aload_n 0, 1) := by decide +kernel
theorem d_X0_init_5 : decode cX0_init 5 = .ok (.bipush 12, 2) := by decide +kernel
theorem d_X0_init_7 : decode cX0_init 7 = .ok (.anewarray 9, 3) := by decide +kernel
theorem d_X0_init_10 : decode cX0_init 10 = .ok (.putfield 11, 3) := by decide +kernel
theorem d_X0_init_13 : decode cX0_init 13 = .ok (.aload_n 0, 1) := by decide +kernel
theorem d_X0_init_14 : decode cX0_init 14 = .ok (.iconst 0, 1) := by decide +kernel
theorem d_X0_init_15 : decode cX0_init 15 = .ok (.putfield 17, 3) := by decide +kernel
theorem d_X0_init_18 : decode cX0_init 18 = .ok (.aload_n 0, 1) := by decide +kernel
theorem d_X0_init_19 : decode cX0_init 19 = .ok (.iconst 0, 1) := by decide +kernel
theorem d_X0_init_20 : decode cX0_init 20 = .ok (.putfield 21, 3) := by decide +kernel
theorem d_X0_init_23 : decode cX0_init 23 = .ok (.iconst 0, 1) := by decide +kernel
theorem d_X0_init_24 : decode cX0_init 24 = .ok (.istore_n 1, 1) := by decide +kernel
theorem d_X0_init_25 : decode cX0_init 25 = .ok (.iload_n 1, 1) := by decide +kernel
theorem d_X0_init_26 : decode cX0_init 26 = .ok (.bipush 12, 2) := by decide +kernel
theorem d_X0_init_28 : decode cX0_init 28 = .ok (.if_icmp .ge 22, 3) := by decide +kernel
theorem d_X0_init_31 : decode cX0_init 31 = .ok (.aload_n 0, 1) := by decide +kernel
theorem d_X0_init_32 : decode cX0_init 32 = .ok (.getfield 11, 3) := by decide +kernel
theorem d_X0_init_35 : decode cX0_init 35 = .ok (.iload_n 1, 1) := by decide +kernel
theorem d_X0_init_36 : decode cX0_init 36 = .ok (.new 9, 3) := by decide +kernel
theorem d_X0_init_39 : decode cX0_init 39 = .ok (.dup, 1) := by decide +kernel
theorem d_X0_init_40 : decode cX0_init 40 = .ok (.invokespecial 24, 3) := by decide +kernel
theorem d_X0_init_43 : decode cX0_init 43 = .ok (.aastore, 1) := by decide +kernel
theorem d_X0_init_44 : decode cX0_init 44 = .ok (.iinc 1 1, 3) := by decide +kernel
theorem d_X0_init_47 : decode cX0_init 47 = .ok (.goto (-22), 3) := by decide +kernel
theorem d_X0_init_50 : decode cX0_init 50 = .ok (.return_, 1) := by decide +kernel
def actP (G : Gl) (h : Hm) (fs : List Value) (i : Nat) (b9 : Bool) : Hm := fun b => if b = 74 then some (.inr (0, fs)) else if b = 75 then (if b9 = true then some (.inl (G.2.2.2.1 3, 12, .inr (.inr (.inr (.inr (fun j => if j < i then some (G.2.1 + (76 + 15 * j)) else none)))))) else none) else if b < 74 then h b else if b < 76 + 15 * i then pic G mu0 b else none
theorem landPic {G : Gl} : ∀ i, i < 12 → ∀ b, 76 + 15 * i ≤ b → b < 76 + 15 * i + 15 → ∀ h : Hm, stg h (76 + 15 * i) 2 [.int 0, .int 0, .int 0, .int 5, .int 1, .int 0, .ref (G.2.1 + (76 + 15 * i + 1 + 0)), .ref (G.2.1 + (76 + 15 * i + 1 + 1)), .ref (G.2.1 + (76 + 15 * i + 1 + 2)), .ref (G.2.1 + (76 + 15 * i + 1 + 3)), .ref (G.2.1 + (76 + 15 * i + 1 + 4)), .ref (G.2.1 + (76 + 15 * i + 1 + 5)), .ref (G.2.1 + (76 + 15 * i + 1 + 6)), .ref (G.2.1 + (76 + 15 * i + 1 + 7)), .ref (G.2.1 + (76 + 15 * i + 1 + 8)), .ref (G.2.1 + (76 + 15 * i + 1 + 9)), .ref (G.2.1 + (76 + 15 * i + 1 + 10)), .ref (G.2.1 + (76 + 15 * i + 1 + 11)), .ref (G.2.1 + (76 + 15 * i + 1 + 12))] 14 (ar_X2_init G (76 + 15 * i)) b = pic G mu0 b
  | 0, _, b, h1, h2, h => by
    rcases (show b = 76 ∨ b = 77 ∨ b = 78 ∨ b = 79 ∨ b = 80 ∨ b = 81 ∨ b = 82 ∨ b = 83 ∨ b = 84 ∨ b = 85 ∨ b = 86 ∨ b = 87 ∨ b = 88 ∨ b = 89 ∨ b = 90 by omega) with rfl | rfl | rfl | rfl | rfl | rfl | rfl | rfl | rfl | rfl | rfl | rfl | rfl | rfl | rfl
    · rfl
    · rfl
    · rfl
    · rfl
    · rfl
    · rfl
    · rfl
    · rfl
    · rfl
    · rfl
    · rfl
    · rfl
    · rfl
    · rfl
    · rfl
  | 1, _, b, h1, h2, h => by
    rcases (show b = 91 ∨ b = 92 ∨ b = 93 ∨ b = 94 ∨ b = 95 ∨ b = 96 ∨ b = 97 ∨ b = 98 ∨ b = 99 ∨ b = 100 ∨ b = 101 ∨ b = 102 ∨ b = 103 ∨ b = 104 ∨ b = 105 by omega) with rfl | rfl | rfl | rfl | rfl | rfl | rfl | rfl | rfl | rfl | rfl | rfl | rfl | rfl | rfl
    · rfl
    · rfl
    · rfl
    · rfl
    · rfl
    · rfl
    · rfl
    · rfl
    · rfl
    · rfl
    · rfl
    · rfl
    · rfl
    · rfl
    · rfl
  | 2, _, b, h1, h2, h => by
    rcases (show b = 106 ∨ b = 107 ∨ b = 108 ∨ b = 109 ∨ b = 110 ∨ b = 111 ∨ b = 112 ∨ b = 113 ∨ b = 114 ∨ b = 115 ∨ b = 116 ∨ b = 117 ∨ b = 118 ∨ b = 119 ∨ b = 120 by omega) with rfl | rfl | rfl | rfl | rfl | rfl | rfl | rfl | rfl | rfl | rfl | rfl | rfl | rfl | rfl
    · rfl
    · rfl
    · rfl
    · rfl
    · rfl
    · rfl
    · rfl
    · rfl
    · rfl
    · rfl
    · rfl
    · rfl
    · rfl
    · rfl
    · rfl
  | 3, _, b, h1, h2, h => by
    rcases (show b = 121 ∨ b = 122 ∨ b = 123 ∨ b = 124 ∨ b = 125 ∨ b = 126 ∨ b = 127 ∨ b = 128 ∨ b = 129 ∨ b = 130 ∨ b = 131 ∨ b = 132 ∨ b = 133 ∨ b = 134 ∨ b = 135 by omega) with rfl | rfl | rfl | rfl | rfl | rfl | rfl | rfl | rfl | rfl | rfl | rfl | rfl | rfl | rfl
    · rfl
    · rfl
    · rfl
    · rfl
    · rfl
    · rfl
    · rfl
    · rfl
    · rfl
    · rfl
    · rfl
    · rfl
    · rfl
    · rfl
    · rfl
  | 4, _, b, h1, h2, h => by
    rcases (show b = 136 ∨ b = 137 ∨ b = 138 ∨ b = 139 ∨ b = 140 ∨ b = 141 ∨ b = 142 ∨ b = 143 ∨ b = 144 ∨ b = 145 ∨ b = 146 ∨ b = 147 ∨ b = 148 ∨ b = 149 ∨ b = 150 by omega) with rfl | rfl | rfl | rfl | rfl | rfl | rfl | rfl | rfl | rfl | rfl | rfl | rfl | rfl | rfl
    · rfl
    · rfl
    · rfl
    · rfl
    · rfl
    · rfl
    · rfl
    · rfl
    · rfl
    · rfl
    · rfl
    · rfl
    · rfl
    · rfl
    · rfl
  | 5, _, b, h1, h2, h => by
    rcases (show b = 151 ∨ b = 152 ∨ b = 153 ∨ b = 154 ∨ b = 155 ∨ b = 156 ∨ b = 157 ∨ b = 158 ∨ b = 159 ∨ b = 160 ∨ b = 161 ∨ b = 162 ∨ b = 163 ∨ b = 164 ∨ b = 165 by omega) with rfl | rfl | rfl | rfl | rfl | rfl | rfl | rfl | rfl | rfl | rfl | rfl | rfl | rfl | rfl
    · rfl
    · rfl
    · rfl
    · rfl
    · rfl
    · rfl
    · rfl
    · rfl
    · rfl
    · rfl
    · rfl
    · rfl
    · rfl
    · rfl
    · rfl
  | 6, _, b, h1, h2, h => by
    rcases (show b = 166 ∨ b = 167 ∨ b = 168 ∨ b = 169 ∨ b = 170 ∨ b = 171 ∨ b = 172 ∨ b = 173 ∨ b = 174 ∨ b = 175 ∨ b = 176 ∨ b = 177 ∨ b = 178 ∨ b = 179 ∨ b = 180 by omega) with rfl | rfl | rfl | rfl | rfl | rfl | rfl | rfl | rfl | rfl | rfl | rfl | rfl | rfl | rfl
    · rfl
    · rfl
    · rfl
    · rfl
    · rfl
    · rfl
    · rfl
    · rfl
    · rfl
    · rfl
    · rfl
    · rfl
    · rfl
    · rfl
    · rfl
  | 7, _, b, h1, h2, h => by
    rcases (show b = 181 ∨ b = 182 ∨ b = 183 ∨ b = 184 ∨ b = 185 ∨ b = 186 ∨ b = 187 ∨ b = 188 ∨ b = 189 ∨ b = 190 ∨ b = 191 ∨ b = 192 ∨ b = 193 ∨ b = 194 ∨ b = 195 by omega) with rfl | rfl | rfl | rfl | rfl | rfl | rfl | rfl | rfl | rfl | rfl | rfl | rfl | rfl | rfl
    · rfl
    · rfl
    · rfl
    · rfl
    · rfl
    · rfl
    · rfl
    · rfl
    · rfl
    · rfl
    · rfl
    · rfl
    · rfl
    · rfl
    · rfl
  | 8, _, b, h1, h2, h => by
    rcases (show b = 196 ∨ b = 197 ∨ b = 198 ∨ b = 199 ∨ b = 200 ∨ b = 201 ∨ b = 202 ∨ b = 203 ∨ b = 204 ∨ b = 205 ∨ b = 206 ∨ b = 207 ∨ b = 208 ∨ b = 209 ∨ b = 210 by omega) with rfl | rfl | rfl | rfl | rfl | rfl | rfl | rfl | rfl | rfl | rfl | rfl | rfl | rfl | rfl
    · rfl
    · rfl
    · rfl
    · rfl
    · rfl
    · rfl
    · rfl
    · rfl
    · rfl
    · rfl
    · rfl
    · rfl
    · rfl
    · rfl
    · rfl
  | 9, _, b, h1, h2, h => by
    rcases (show b = 211 ∨ b = 212 ∨ b = 213 ∨ b = 214 ∨ b = 215 ∨ b = 216 ∨ b = 217 ∨ b = 218 ∨ b = 219 ∨ b = 220 ∨ b = 221 ∨ b = 222 ∨ b = 223 ∨ b = 224 ∨ b = 225 by omega) with rfl | rfl | rfl | rfl | rfl | rfl | rfl | rfl | rfl | rfl | rfl | rfl | rfl | rfl | rfl
    · rfl
    · rfl
    · rfl
    · rfl
    · rfl
    · rfl
    · rfl
    · rfl
    · rfl
    · rfl
    · rfl
    · rfl
    · rfl
    · rfl
    · rfl
  | 10, _, b, h1, h2, h => by
    rcases (show b = 226 ∨ b = 227 ∨ b = 228 ∨ b = 229 ∨ b = 230 ∨ b = 231 ∨ b = 232 ∨ b = 233 ∨ b = 234 ∨ b = 235 ∨ b = 236 ∨ b = 237 ∨ b = 238 ∨ b = 239 ∨ b = 240 by omega) with rfl | rfl | rfl | rfl | rfl | rfl | rfl | rfl | rfl | rfl | rfl | rfl | rfl | rfl | rfl
    · rfl
    · rfl
    · rfl
    · rfl
    · rfl
    · rfl
    · rfl
    · rfl
    · rfl
    · rfl
    · rfl
    · rfl
    · rfl
    · rfl
    · rfl
  | 11, _, b, h1, h2, h => by
    rcases (show b = 241 ∨ b = 242 ∨ b = 243 ∨ b = 244 ∨ b = 245 ∨ b = 246 ∨ b = 247 ∨ b = 248 ∨ b = 249 ∨ b = 250 ∨ b = 251 ∨ b = 252 ∨ b = 253 ∨ b = 254 ∨ b = 255 by omega) with rfl | rfl | rfl | rfl | rfl | rfl | rfl | rfl | rfl | rfl | rfl | rfl | rfl | rfl | rfl
    · rfl
    · rfl
    · rfl
    · rfl
    · rfl
    · rfl
    · rfl
    · rfl
    · rfl
    · rfl
    · rfl
    · rfl
    · rfl
    · rfl
    · rfl
  | i + 12, hi, _, _, _, _ => absurd hi (by omega)
theorem actLoop {G : Gl} (hG : G.1.stackTraces = false) {C : Cx} {h : Hm} (hK : Fin9 G C F_X0_init none (fun r9 h9 n9 => r9 = none ∧ h9 = actP G h [.ref (G.2.1 + 75), .int 0, .int 0] 12 true ∧ n9 = 256) (fun _ _ _ => False)) : ∀ (d i kc ks : Nat), i + d = 12 → kc + 15 * d ≤ 181 → ks + 204 * d ≤ 2460 → V G C F_X0_init 25 [some (.ref (G.2.1 + 74)), some (.int (nI i))] [] (actP G h [.ref (G.2.1 + 75), .int 0, .int 0] i true) (76 + 15 * i) kc ks := by
  intro d
  induction d with
  | zero =>
    intro i kc ks hd hk hs
    have hi : i = 12 := by omega
    subst hi
    refine V_iload_n d_X0_init_25 rfl rfl ?_
    refine V_bipush (v := 12) d_X0_init_26 (by decide) ?_
    refine V_icmp_ge (tgt := 50) d_X0_init_28 (by decide) (fun _ => ?_) (fun c => absurd (by decide) c)
    exact V_vret hK d_X0_init_50 (show kc ≤ 181 by omega) (show ks ≤ 2460 by omega) ⟨rfl, rfl, rfl⟩
  | succ d ih =>
    intro i kc ks hd hk hs
    refine V_iload_n d_X0_init_25 rfl rfl ?_
    refine V_bipush (v := 12) d_X0_init_26 (by decide) ?_
    refine V_icmp_ge (tgt := 50) d_X0_init_28 (by decide) (fun c => absurd c (nI_ge (a := i) (b := 12) (by omega) (by decide))) (fun _ => ?_)
    refine V_aload_n d_X0_init_31 rfl rfl ?_
    refine V_get (ci := 0) (i := 0) (fs := [.ref (G.2.1 + 75), .int 0, .int 0]) (v := .ref (G.2.1 + 75)) fl_RX0_11 d_X0_init_32 rfl rfl ?_
    refine V_iload_n d_X0_init_35 rfl rfl ?_
    refine V_new nw_RX0_9 d_X0_init_36 (show kc + 1 ≤ 181 by omega) (show ks + 19 ≤ 2460 by omega) ?_
    refine V_dup d_X0_init_39 rfl ?_
    refine V_sub (h' := stg (actP G h [.ref (G.2.1 + 75), .int 0, .int 0] i true) (76 + 15 * i) 2 [.int 0, .int 0, .int 0, .int 0, .int 0, .int 0, .null, .null, .null, .null, .null, .null, .null, .null, .null, .null, .null, .null, .null] 0 (ar_X2_init G (76 + 15 * i))) (fun b e hb => ?_) ?_
    · unfold stg at hb
      unfold hup
      by_cases h1 : b = 76 + 15 * i
      · rw [if_pos h1] at hb ⊢
        exact hb
      · rw [if_neg h1] at hb ⊢
        rw [if_neg (by omega)] at hb
        by_cases h2 : b < 76 + 15 * i
        · rw [if_pos h2] at hb
          exact hb
        · rw [if_neg h2] at hb
          cases hb
    · refine V_callIN (As := []) (s_X2_init hG) m_X2_init ⟨⟨"LaceBonds", List.mem_of_getElem? (i := 6) rfl⟩, w_70⟩ rfl d_X0_init_40 rfl (Nat.le_of_ble_eq_true rfl) ⟨Nat.le_of_ble_eq_true rfl, show kc + 1 + 14 ≤ 181 by omega, show ks + 19 + 185 ≤ 2460 by omega⟩ (fun r9 h9 n9 q9 => ?_)
      obtain ⟨rfl, rfl, rfl⟩ := q9
      have i9 : vp_in (nI i) 12 := vp_in_nI (by omega) (by decide)
      have c9 : (nI i).toNatClampNeg = i := nI_clamp (by omega)
      refine V_aastq (a := 75) (b := 76 + 15 * i) (ci := 2) (m9 := 12) rfl d_X0_init_43 (f := fun j => if j < i then some (G.2.1 + (76 + 15 * j)) else none) ?_ stg_at i9 ?_
      · unfold stg
        rw [if_neg (by omega), if_neg (by omega), if_pos (by omega)]
        rfl
      · rw [c9]
        refine V_iinc (v := nI (i + 1)) (ls' := [_, _]) d_X0_init_44 rfl (by rw [show Int32.ofInt 1 = 1 from by decide]; exact nI_1 i) rfl ?_
        refine V_goto (tgt := 25) d_X0_init_47 (by decide) ?_
        refine V_n (n' := 76 + 15 * (i + 1)) (by omega) ?_
        refine V_sub (h' := actP G h [.ref (G.2.1 + 75), .int 0, .int 0] (i + 1) true) (fun b e hb => ?_) (ih (i + 1) _ _ (by omega) (show kc + 1 + 14 + 15 * d ≤ 181 by omega) (show ks + 19 + 185 + 204 * d ≤ 2460 by omega))
        unfold hup
        by_cases h1 : b = 75
        · subst h1
          rw [if_pos rfl, ← hb]
          show _ = some _
          congr 6
          refine congrArg Sum.inr (congrArg Sum.inr ?_)
          funext j
          unfold va_up
          by_cases h2 : j = i
          · rw [if_pos h2, if_pos (by omega), h2]
          · rw [if_neg h2]
            show (if j < i then some (G.2.1 + (76 + 15 * j)) else none) = _
            by_cases h3 : j < i
            · rw [if_pos h3, if_pos (by omega)]
            · rw [if_neg h3, if_neg (by omega)]
        · rw [if_neg h1]
          by_cases h2 : 76 + 15 * i ≤ b ∧ b < 76 + 15 * i + 15
          · rw [landPic i (by omega) b h2.1 h2.2, ← hb]
            unfold actP
            rw [if_neg (by omega), if_neg h1, if_neg (by omega), if_pos (by omega)]
          · unfold stg
            rw [if_neg (by omega), if_neg (by omega)]
            by_cases h3 : b < 76 + 15 * i
            · rw [if_pos h3, ← hb]
              unfold actP
              by_cases h4 : b = 74
              · rw [if_pos h4, if_pos h4]
              · rw [if_neg h4, if_neg h4, if_neg h1, if_neg h1]
                by_cases h5 : b < 74
                · rw [if_pos h5, if_pos h5]
                · rw [if_neg h5, if_neg h5, if_pos h3, if_pos (by omega)]
            · exfalso
              unfold actP at hb
              rw [if_neg (by omega), if_neg h1, if_neg (by omega), if_neg (by omega)] at hb
              cases hb
theorem s_X0_init {G : Gl} (hG : G.1.stackTraces = false) {h : Hm} {ar : Nat → va_E} : Sd G yX0_init F_X0_init (.code yX0_init F_X0_init.2.1 F_X0_init.2.2.1 none) [.ref (G.2.1 + 74)] (stg h 74 0 [.null, .int 0, .int 0] 0 ar) 75 (fun r9 h9 n9 => r9 = none ∧ h9 = actP G h [.ref (G.2.1 + 75), .int 0, .int 0] 12 true ∧ n9 = 256) (fun _ _ _ => False) := Sd.ofI hG ⟨by decide +kernel, rfl, rfl⟩ rfl rfl (Nat.le_of_ble_eq_true rfl) rfl (fun C hK hI => by
  refine V_aload_n d_X0_init_0 rfl rfl ?_
  refine V_objI w_261 w_35 w_36 d_X0_init_1 (Nat.le_of_ble_eq_true rfl) ?_
  refine V_aload_n d_X0_init_4 rfl rfl ?_
  refine V_bipush (v := 12) d_X0_init_5 (by decide) ?_
  refine V_newQ (len := 12) ⟨⟨by decide, by decide⟩, by decide⟩ w_262 d_X0_init_7 (Nat.le_of_ble_eq_true rfl) (Nat.le_of_ble_eq_true rfl) ?_
  refine V_putF (ci := 0) (i := 0) (fs := [.null, .int 0, .int 0]) hI fl_RX0_11 pf_RX0_0_0 d_X0_init_10 rfl rfl rfl (by decide) ?_
  refine V_sub (h' := actP G h [.ref (G.2.1 + 75), .int 0, .int 0] 0 true) (fun b e hb => ?_) ?_
  · unfold actP at hb
    unfold hup
    by_cases h1 : b = 74
    · rw [if_pos h1] at hb ⊢
      exact hb
    · rw [if_neg h1] at hb ⊢
      by_cases h2 : b = 75
      · rw [if_pos h2] at hb ⊢
        rw [if_pos rfl] at hb
        rw [← hb]
        congr 6
      · rw [if_neg h2] at hb ⊢
        unfold stg
        rw [if_neg h1, if_neg (by omega)]
        by_cases h3 : b < 74
        · rw [if_pos h3] at hb ⊢
          exact hb
        · rw [if_neg h3, if_neg (by omega)] at hb
          cases hb
  · refine V_aload_n d_X0_init_13 rfl rfl ?_
    refine V_iconst (v := 0) d_X0_init_14 (by decide) ?_
    refine V_put (ci := 0) (i := 1) (fs := [.ref (G.2.1 + 75), .int 0, .int 0]) fl_RX0_17 pt_0_1 d_X0_init_15 rfl rfl rfl (Nat.le_of_ble_eq_true rfl) ?_
    refine V_sub (h' := actP G h [.ref (G.2.1 + 75), .int 0, .int 0] 0 true) (fun b e hb => ?_) ?_
    · unfold hup
      by_cases h1 : b = 74
      · subst h1
        exact hb
      · rw [if_neg h1]
        exact hb
    · refine V_aload_n d_X0_init_18 rfl rfl ?_
      refine V_iconst (v := 0) d_X0_init_19 (by decide) ?_
      refine V_put (ci := 0) (i := 2) (fs := [.ref (G.2.1 + 75), .int 0, .int 0]) fl_RX0_21 pt_0_2 d_X0_init_20 rfl rfl rfl (Nat.le_of_ble_eq_true rfl) ?_
      refine V_sub (h' := actP G h [.ref (G.2.1 + 75), .int 0, .int 0] 0 true) (fun b e hb => ?_) ?_
      · unfold hup
        by_cases h1 : b = 74
        · subst h1
          exact hb
        · rw [if_neg h1]
          exact hb
      · refine V_iconst (v := 0) d_X0_init_23 (by decide) ?_
        refine V_istore_n (ls' := [_, _]) d_X0_init_24 rfl rfl rfl ?_
        exact actLoop hG hK 12 0 _ _ (by omega) (Nat.le_of_ble_eq_true rfl) (Nat.le_of_ble_eq_true rfl))
