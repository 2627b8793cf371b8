theorem d_X1_copyFrom_0 : decode cX1_copyFrom 0 = .ok (.aload_n 0, 1) := by decide +kernel
theorem d_X1_copyFrom_1 : decode cX1_copyFrom 1 = .ok (.aload_n 1, 1) := by decide +kernel
theorem d_X1_copyFrom_2 : decode cX1_copyFrom 2 = .ok (.getfield 15, 3) := by decide +kernel
theorem d_X1_copyFrom_5 : decode cX1_copyFrom 5 = .ok (.putfield 15, 3) := by decide +kernel
theorem d_X1_copyFrom_8 : decode cX1_copyFrom 8 = .ok (.aload_n 0, 1) := by decide +kernel
theorem d_X1_copyFrom_9 : decode cX1_copyFrom 9 = .ok (.aload_n 1, 1) := by decide +kernel
theorem d_X1_copyFrom_10 : decode cX1_copyFrom 10 = .ok (.getfield 19, 3) := by decide +kernel
theorem d_X1_copyFrom_13 : decode cX1_copyFrom 13 = .ok (.putfield 19, 3) := by decide +kernel
theorem d_X1_copyFrom_16 : decode cX1_copyFrom 16 = .ok (.aload_n 1, 1) := by decide +kernel
theorem d_X1_copyFrom_17 : decode cX1_copyFrom 17 = .ok (.getfield 9, 3) := by decide +kernel
theorem d_X1_copyFrom_20 : decode cX1_copyFrom 20 = .ok (.iconst 0, 1) := by decide +kernel
theorem d_X1_copyFrom_21 : decode cX1_copyFrom 21 = .ok (.aload_n 0, 1) := by decide +kernel
theorem d_X1_copyFrom_22 : decode cX1_copyFrom 22 = .ok (.getfield 9, 3) := by decide +kernel
theorem d_X1_copyFrom_25 : decode cX1_copyFrom 25 = .ok (.iconst 0, 1) := by decide +kernel
theorem d_X1_copyFrom_26 : decode cX1_copyFrom 26 = .ok (.bipush 60, 2) := by decide +kernel
theorem d_X1_copyFrom_28 : decode cX1_copyFrom 28 = .ok (.invokestatic 22, 3) := by decide +kernel
theorem d_X1_copyFrom_31 : decode cX1_copyFrom 31 = .ok (.return_, 1) := by decide +kernel
theorem s_X1_copyFrom_e {G : Gl} (hG : G.1.stackTraces = false) {C : Cx} {n : Nat} {μ : Mem} {a0 : Nat} {a1 : Nat} (ha0 : a0 ∈ bookL) (ha1 : a1 ∈ bookL) {r : Mem} (hf : f_X1_copyFrom μ a0 a1 = some r) (hK : FinR G C F_X1_copyFrom none none r) : V G C F_X1_copyFrom 0 [some (.ref (G.2.1 + a0)), some (.ref (G.2.1 + a1))] [] (pic G μ) n 0 0 := by
  unfold f_X1_copyFrom at hf
  refine V_aload_n d_X1_copyFrom_0 rfl rfl ?_
  refine V_aload_n d_X1_copyFrom_1 rfl rfl ?_
  refine B_get (kBook _ ha1) fl_RX1_15 d_X1_copyFrom_2 g_1_1 ?_
  refine B_putI (kBook _ ha0) fl_RX1_15 pt_1_1 (Nat.le_of_ble_eq_true rfl) p_1_1 d_X1_copyFrom_5 ?_
  refine V_aload_n d_X1_copyFrom_8 rfl rfl ?_
  refine V_aload_n d_X1_copyFrom_9 rfl rfl ?_
  refine B_get (kBook _ ha1) fl_RX1_19 d_X1_copyFrom_10 g_1_2 ?_
  refine B_putI (kBook _ ha0) fl_RX1_19 pt_1_2 (Nat.le_of_ble_eq_true rfl) p_1_2 d_X1_copyFrom_13 ?_
  refine V_aload_n d_X1_copyFrom_16 rfl rfl ?_
  refine B_get (kBook _ ha1) fl_RX1_9 d_X1_copyFrom_17 g_1_0 ?_
  refine V_iconst (v := 0) d_X1_copyFrom_20 ic_0 ?_
  refine V_aload_n d_X1_copyFrom_21 rfl rfl ?_
  refine B_get (kBook _ ha0) fl_RX1_9 d_X1_copyFrom_22 g_1_0 ?_
  refine V_iconst (v := 0) d_X1_copyFrom_25 ic_0 ?_
  refine V_bipush (v := 60) d_X1_copyFrom_26 bp_60 ?_
  obtain ⟨μ1, hμ1, hf⟩ := ob hf
  refine B_acopy (kBook_1 _ ha1) (kBook_1 _ ha0) hμ1 w_552 w_547 w_546 w_14 d_X1_copyFrom_28 (Nat.le_of_ble_eq_true rfl) ?_
  cases hf
  exact R_v hK d_X1_copyFrom_31 (Nat.le_of_ble_eq_true rfl) (Nat.le_of_ble_eq_true rfl)
theorem s_X1_copyFrom {G : Gl} (hG : G.1.stackTraces = false) {μ : Mem} {a0 : Nat} {a1 : Nat} (ha0 : a0 ∈ bookL) (ha1 : a1 ∈ bookL) {r : Mem} (hf : f_X1_copyFrom μ a0 a1 = some r) : Rt G yX1_copyFrom F_X1_copyFrom none [.ref (G.2.1 + a0), .ref (G.2.1 + a1)] μ none r := fun n => Sd.of hG ⟨by decide +kernel, rfl, rfl⟩ rfl (Nat.le_of_ble_eq_true rfl) rfl (fun C hK => s_X1_copyFrom_e hG ha0 ha1 hf hK)
theorem d_X2_copyFrom_0 : decode cX2_copyFrom 0 = .ok (.aload_n 0, 1) := by decide +kernel
theorem d_X2_copyFrom_1 : decode cX2_copyFrom 1 = .ok (.aload_n 1, 1) := by decide +kernel
theorem d_X2_copyFrom_2 : decode cX2_copyFrom 2 = .ok (.getfield 9, 3) := by decide +kernel
theorem d_X2_copyFrom_5 : decode cX2_copyFrom 5 = .ok (.putfield 9, 3) := by decide +kernel
theorem d_X2_copyFrom_8 : decode cX2_copyFrom 8 = .ok (.aload_n 0, 1) := by decide +kernel
theorem d_X2_copyFrom_9 : decode cX2_copyFrom 9 = .ok (.aload_n 1, 1) := by decide +kernel
theorem d_X2_copyFrom_10 : decode cX2_copyFrom 10 = .ok (.getfield 15, 3) := by decide +kernel
theorem d_X2_copyFrom_13 : decode cX2_copyFrom 13 = .ok (.putfield 15, 3) := by decide +kernel
theorem d_X2_copyFrom_16 : decode cX2_copyFrom 16 = .ok (.aload_n 0, 1) := by decide +kernel
theorem d_X2_copyFrom_17 : decode cX2_copyFrom 17 = .ok (.aload_n 1, 1) := by decide +kernel
theorem d_X2_copyFrom_18 : decode cX2_copyFrom 18 = .ok (.getfield 18, 3) := by decide +kernel
theorem d_X2_copyFrom_21 : decode cX2_copyFrom 21 = .ok (.putfield 18, 3) := by decide +kernel
theorem d_X2_copyFrom_24 : decode cX2_copyFrom 24 = .ok (.aload_n 0, 1) := by decide +kernel
theorem d_X2_copyFrom_25 : decode cX2_copyFrom 25 = .ok (.aload_n 1, 1) := by decide +kernel
theorem d_X2_copyFrom_26 : decode cX2_copyFrom 26 = .ok (.getfield 21, 3) := by decide +kernel
theorem d_X2_copyFrom_29 : decode cX2_copyFrom 29 = .ok (.putfield 21, 3) := by decide +kernel
theorem d_X2_copyFrom_32 : decode cX2_copyFrom 32 = .ok (.aload_n 0, 1) := by decide +kernel
theorem d_X2_copyFrom_33 : decode cX2_copyFrom 33 = .ok (.aload_n 1, 1) := by decide +kernel
theorem d_X2_copyFrom_34 : decode cX2_copyFrom 34 = .ok (.getfield 24, 3) := by decide +kernel
theorem d_X2_copyFrom_37 : decode cX2_copyFrom 37 = .ok (.putfield 24, 3) := by decide +kernel
theorem d_X2_copyFrom_40 : decode cX2_copyFrom 40 = .ok (.aload_n 0, 1) := by decide +kernel
theorem d_X2_copyFrom_41 : decode cX2_copyFrom 41 = .ok (.aload_n 1, 1) := by decide +kernel
theorem d_X2_copyFrom_42 : decode cX2_copyFrom 42 = .ok (.getfield 27, 3) := by decide +kernel
theorem d_X2_copyFrom_45 : decode cX2_copyFrom 45 = .ok (.putfield 27, 3) := by decide +kernel
theorem d_X2_copyFrom_48 : decode cX2_copyFrom 48 = .ok (.aload_n 1, 1) := by decide +kernel
theorem d_X2_copyFrom_49 : decode cX2_copyFrom 49 = .ok (.getfield 30, 3) := by decide +kernel
theorem d_X2_copyFrom_52 : decode cX2_copyFrom 52 = .ok (.iconst 0, 1) := by decide +kernel
theorem d_X2_copyFrom_53 : decode cX2_copyFrom 53 = .ok (.aload_n 0, 1) := by decide +kernel
theorem d_X2_copyFrom_54 : decode cX2_copyFrom 54 = .ok (.getfield 30, 3) := by decide +kernel
theorem d_X2_copyFrom_57 : decode cX2_copyFrom 57 = .ok (.iconst 0, 1) := by decide +kernel
theorem d_X2_copyFrom_58 : decode cX2_copyFrom 58 = .ok (.bipush 6, 2) := by decide +kernel
theorem d_X2_copyFrom_60 : decode cX2_copyFrom 60 = .ok (.invokestatic 74, 3) := by decide +kernel
theorem d_X2_copyFrom_63 : decode cX2_copyFrom 63 = .ok (.aload_n 1, 1) := by decide +kernel
theorem d_X2_copyFrom_64 : decode cX2_copyFrom 64 = .ok (.getfield 34, 3) := by decide +kernel
theorem d_X2_copyFrom_67 : decode cX2_copyFrom 67 = .ok (.iconst 0, 1) := by decide +kernel
theorem d_X2_copyFrom_68 : decode cX2_copyFrom 68 = .ok (.aload_n 0, 1) := by decide +kernel
theorem d_X2_copyFrom_69 : decode cX2_copyFrom 69 = .ok (.getfield 34, 3) := by decide +kernel
theorem d_X2_copyFrom_72 : decode cX2_copyFrom 72 = .ok (.iconst 0, 1) := by decide +kernel
theorem d_X2_copyFrom_73 : decode cX2_copyFrom 73 = .ok (.bipush 6, 2) := by decide +kernel
theorem d_X2_copyFrom_75 : decode cX2_copyFrom 75 = .ok (.invokestatic 74, 3) := by decide +kernel
theorem d_X2_copyFrom_78 : decode cX2_copyFrom 78 = .ok (.aload_n 1, 1) := by decide +kernel
theorem d_X2_copyFrom_79 : decode cX2_copyFrom 79 = .ok (.getfield 37, 3) := by decide +kernel
theorem d_X2_copyFrom_82 : decode cX2_copyFrom 82 = .ok (.iconst 0, 1) := by decide +kernel
theorem d_X2_copyFrom_83 : decode cX2_copyFrom 83 = .ok (.aload_n 0, 1) := by decide +kernel
theorem d_X2_copyFrom_84 : decode cX2_copyFrom 84 = .ok (.getfield 37, 3) := by decide +kernel
theorem d_X2_copyFrom_87 : decode cX2_copyFrom 87 = .ok (.iconst 0, 1) := by decide +kernel
theorem d_X2_copyFrom_88 : decode cX2_copyFrom 88 = .ok (.bipush 6, 2) := by decide +kernel
theorem d_X2_copyFrom_90 : decode cX2_copyFrom 90 = .ok (.invokestatic 74, 3) := by decide +kernel
theorem d_X2_copyFrom_93 : decode cX2_copyFrom 93 = .ok (.aload_n 1, 1) := by decide +kernel
theorem d_X2_copyFrom_94 : decode cX2_copyFrom 94 = .ok (.getfield 40, 3) := by decide +kernel
theorem d_X2_copyFrom_97 : decode cX2_copyFrom 97 = .ok (.iconst 0, 1) := by decide +kernel
theorem d_X2_copyFrom_98 : decode cX2_copyFrom 98 = .ok (.aload_n 0, 1) := by decide +kernel
theorem d_X2_copyFrom_99 : decode cX2_copyFrom 99 = .ok (.getfield 40, 3) := by decide +kernel
theorem d_X2_copyFrom_102 : decode cX2_copyFrom 102 = .ok (.iconst 0, 1) := by decide +kernel
theorem d_X2_copyFrom_103 : decode cX2_copyFrom 103 = .ok (.bipush 6, 2) := by decide +kernel
theorem d_X2_copyFrom_105 : decode cX2_copyFrom 105 = .ok (.invokestatic 74, 3) := by decide +kernel
theorem d_X2_copyFrom_108 : decode cX2_copyFrom 108 = .ok (.aload_n 1, 1) := by decide +kernel
theorem d_X2_copyFrom_109 : decode cX2_copyFrom 109 = .ok (.getfield 43, 3) := by decide +kernel
theorem d_X2_copyFrom_112 : decode cX2_copyFrom 112 = .ok (.iconst 0, 1) := by decide +kernel
theorem d_X2_copyFrom_113 : decode cX2_copyFrom 113 = .ok (.aload_n 0, 1) := by decide +kernel
theorem d_X2_copyFrom_114 : decode cX2_copyFrom 114 = .ok (.getfield 43, 3) := by decide +kernel
theorem d_X2_copyFrom_117 : decode cX2_copyFrom 117 = .ok (.iconst 0, 1) := by decide +kernel
theorem d_X2_copyFrom_118 : decode cX2_copyFrom 118 = .ok (.bipush 6, 2) := by decide +kernel
theorem d_X2_copyFrom_120 : decode cX2_copyFrom 120 = .ok (.invokestatic 74, 3) := by decide +kernel
theorem d_X2_copyFrom_123 : decode cX2_copyFrom 123 = .ok (.aload_n 1, 1) := by decide +kernel
theorem d_X2_copyFrom_124 : decode cX2_copyFrom 124 = .ok (.getfield 46, 3) := by decide +kernel
theorem d_X2_copyFrom_127 : decode cX2_copyFrom 127 = .ok (.iconst 0, 1) := by decide +kernel
theorem d_X2_copyFrom_128 : decode cX2_copyFrom 128 = .ok (.aload_n 0, 1) := by decide +kernel
theorem d_X2_copyFrom_129 : decode cX2_copyFrom 129 = .ok (.getfield 46, 3) := by decide +kernel
theorem d_X2_copyFrom_132 : decode cX2_copyFrom 132 = .ok (.iconst 0, 1) := by decide +kernel
theorem d_X2_copyFrom_133 : decode cX2_copyFrom 133 = .ok (.bipush 12, 2) := by decide +kernel
theorem d_X2_copyFrom_135 : decode cX2_copyFrom 135 = .ok (.invokestatic 74, 3) := by decide +kernel
theorem d_X2_copyFrom_138 : decode cX2_copyFrom 138 = .ok (.aload_n 1, 1) := by decide +kernel
theorem d_X2_copyFrom_139 : decode cX2_copyFrom 139 = .ok (.getfield 49, 3) := by decide +kernel
theorem d_X2_copyFrom_142 : decode cX2_copyFrom 142 = .ok (.iconst 0, 1) := by decide +kernel
theorem d_X2_copyFrom_143 : decode cX2_copyFrom 143 = .ok (.aload_n 0, 1) := by decide +kernel
theorem d_X2_copyFrom_144 : decode cX2_copyFrom 144 = .ok (.getfield 49, 3) := by decide +kernel
theorem d_X2_copyFrom_147 : decode cX2_copyFrom 147 = .ok (.iconst 0, 1) := by decide +kernel
theorem d_X2_copyFrom_148 : decode cX2_copyFrom 148 = .ok (.bipush 12, 2) := by decide +kernel
theorem d_X2_copyFrom_150 : decode cX2_copyFrom 150 = .ok (.invokestatic 74, 3) := by decide +kernel
theorem d_X2_copyFrom_153 : decode cX2_copyFrom 153 = .ok (.aload_n 1, 1) := by decide +kernel
theorem d_X2_copyFrom_154 : decode cX2_copyFrom 154 = .ok (.getfield 52, 3) := by decide +kernel
theorem d_X2_copyFrom_157 : decode cX2_copyFrom 157 = .ok (.iconst 0, 1) := by decide +kernel
theorem d_X2_copyFrom_158 : decode cX2_copyFrom 158 = .ok (.aload_n 0, 1) := by decide +kernel
theorem d_X2_copyFrom_159 : decode cX2_copyFrom 159 = .ok (.getfield 52, 3) := by decide +kernel
theorem d_X2_copyFrom_162 : decode cX2_copyFrom 162 = .ok (.iconst 0, 1) := by decide +kernel
theorem d_X2_copyFrom_163 : decode cX2_copyFrom 163 = .ok (.bipush 12, 2) := by decide +kernel
theorem d_X2_copyFrom_165 : decode cX2_copyFrom 165 = .ok (.invokestatic 74, 3) := by decide +kernel
theorem d_X2_copyFrom_168 : decode cX2_copyFrom 168 = .ok (.aload_n 1, 1) := by decide +kernel
theorem d_X2_copyFrom_169 : decode cX2_copyFrom 169 = .ok (.getfield 55, 3) := by decide +kernel
theorem d_X2_copyFrom_172 : decode cX2_copyFrom 172 = .ok (.iconst 0, 1) := by decide +kernel
theorem d_X2_copyFrom_173 : decode cX2_copyFrom 173 = .ok (.aload_n 0, 1) := by decide +kernel
theorem d_X2_copyFrom_174 : decode cX2_copyFrom 174 = .ok (.getfield 55, 3) := by decide +kernel
theorem d_X2_copyFrom_177 : decode cX2_copyFrom 177 = .ok (.iconst 0, 1) := by decide +kernel
theorem d_X2_copyFrom_178 : decode cX2_copyFrom 178 = .ok (.bipush 12, 2) := by decide +kernel
theorem d_X2_copyFrom_180 : decode cX2_copyFrom 180 = .ok (.invokestatic 74, 3) := by decide +kernel
theorem d_X2_copyFrom_183 : decode cX2_copyFrom 183 = .ok (.aload_n 1, 1) := by decide +kernel
theorem d_X2_copyFrom_184 : decode cX2_copyFrom 184 = .ok (.getfield 58, 3) := by decide +kernel
theorem d_X2_copyFrom_187 : decode cX2_copyFrom 187 = .ok (.iconst 0, 1) := by decide +kernel
theorem d_X2_copyFrom_188 : decode cX2_copyFrom 188 = .ok (.aload_n 0, 1) := by decide +kernel
theorem d_X2_copyFrom_189 : decode cX2_copyFrom 189 = .ok (.getfield 58, 3) := by decide +kernel
theorem d_X2_copyFrom_192 : decode cX2_copyFrom 192 = .ok (.iconst 0, 1) := by decide +kernel
theorem d_X2_copyFrom_193 : decode cX2_copyFrom 193 = .ok (.bipush 12, 2) := by decide +kernel
theorem d_X2_copyFrom_195 : decode cX2_copyFrom 195 = .ok (.invokestatic 74, 3) := by decide +kernel
theorem d_X2_copyFrom_198 : decode cX2_copyFrom 198 = .ok (.aload_n 1, 1) := by decide +kernel
theorem d_X2_copyFrom_199 : decode cX2_copyFrom 199 = .ok (.getfield 61, 3) := by decide +kernel
theorem d_X2_copyFrom_202 : decode cX2_copyFrom 202 = .ok (.iconst 0, 1) := by decide +kernel
theorem d_X2_copyFrom_203 : decode cX2_copyFrom 203 = .ok (.aload_n 0, 1) := by decide +kernel
theorem d_X2_copyFrom_204 : decode cX2_copyFrom 204 = .ok (.getfield 61, 3) := by decide +kernel
theorem d_X2_copyFrom_207 : decode cX2_copyFrom 207 = .ok (.iconst 0, 1) := by decide +kernel
theorem d_X2_copyFrom_208 : decode cX2_copyFrom 208 = .ok (.bipush 12, 2) := by decide +kernel
theorem d_X2_copyFrom_210 : decode cX2_copyFrom 210 = .ok (.invokestatic 74, 3) := by decide +kernel
theorem d_X2_copyFrom_213 : decode cX2_copyFrom 213 = .ok (.aload_n 1, 1) := by decide +kernel
theorem d_X2_copyFrom_214 : decode cX2_copyFrom 214 = .ok (.getfield 64, 3) := by decide +kernel
theorem d_X2_copyFrom_217 : decode cX2_copyFrom 217 = .ok (.iconst 0, 1) := by decide +kernel
theorem d_X2_copyFrom_218 : decode cX2_copyFrom 218 = .ok (.aload_n 0, 1) := by decide +kernel
theorem d_X2_copyFrom_219 : decode cX2_copyFrom 219 = .ok (.getfield 64, 3) := by decide +kernel
theorem d_X2_copyFrom_222 : decode cX2_copyFrom 222 = .ok (.iconst 0, 1) := by decide +kernel
theorem d_X2_copyFrom_223 : decode cX2_copyFrom 223 = .ok (.bipush 20, 2) := by decide +kernel
theorem d_X2_copyFrom_225 : decode cX2_copyFrom 225 = .ok (.invokestatic 74, 3) := by decide +kernel
theorem d_X2_copyFrom_228 : decode cX2_copyFrom 228 = .ok (.aload_n 0, 1) := by decide +kernel
theorem d_X2_copyFrom_229 : decode cX2_copyFrom 229 = .ok (.getfield 70, 3) := by decide +kernel
theorem d_X2_copyFrom_232 : decode cX2_copyFrom 232 = .ok (.aload_n 1, 1) := by decide +kernel
theorem d_X2_copyFrom_233 : decode cX2_copyFrom 233 = .ok (.getfield 70, 3) := by decide +kernel
theorem d_X2_copyFrom_236 : decode cX2_copyFrom 236 = .ok (.invokevirtual 80, 3) := by decide +kernel
theorem d_X2_copyFrom_239 : decode cX2_copyFrom 239 = .ok (.return_, 1) := by decide +kernel
theorem s_X2_copyFrom_e {G : Gl} (hG : G.1.stackTraces = false) {C : Cx} {n : Nat} {μ : Mem} {a0 : Nat} {a1 : Nat} (ha0 : a0 ∈ landL) (ha1 : a1 ∈ landL) {r : Mem} (hf : f_X2_copyFrom μ a0 a1 = some r) (hK : FinR G C F_X2_copyFrom none none r) : V G C F_X2_copyFrom 0 [some (.ref (G.2.1 + a0)), some (.ref (G.2.1 + a1))] [] (pic G μ) n 0 0 := by
  unfold f_X2_copyFrom at hf
  refine V_aload_n d_X2_copyFrom_0 rfl rfl ?_
  refine V_aload_n d_X2_copyFrom_1 rfl rfl ?_
  refine B_get (kLand _ ha1) fl_RX2_9 d_X2_copyFrom_2 g_2_0 ?_
  refine B_putI (kLand _ ha0) fl_RX2_9 pt_2_0 (Nat.le_of_ble_eq_true rfl) p_2_0 d_X2_copyFrom_5 ?_
  refine V_aload_n d_X2_copyFrom_8 rfl rfl ?_
  refine V_aload_n d_X2_copyFrom_9 rfl rfl ?_
  refine B_get (kLand _ ha1) fl_RX2_15 d_X2_copyFrom_10 g_2_1 ?_
  refine B_putI (kLand _ ha0) fl_RX2_15 pt_2_1 (Nat.le_of_ble_eq_true rfl) p_2_1 d_X2_copyFrom_13 ?_
  refine V_aload_n d_X2_copyFrom_16 rfl rfl ?_
  refine V_aload_n d_X2_copyFrom_17 rfl rfl ?_
  refine B_get (kLand _ ha1) fl_RX2_18 d_X2_copyFrom_18 g_2_2 ?_
  refine B_putI (kLand _ ha0) fl_RX2_18 pt_2_2 (Nat.le_of_ble_eq_true rfl) p_2_2 d_X2_copyFrom_21 ?_
  refine V_aload_n d_X2_copyFrom_24 rfl rfl ?_
  refine V_aload_n d_X2_copyFrom_25 rfl rfl ?_
  refine B_get (kLand _ ha1) fl_RX2_21 d_X2_copyFrom_26 g_2_3 ?_
  refine B_putI (kLand _ ha0) fl_RX2_21 pt_2_3 (Nat.le_of_ble_eq_true rfl) p_2_3 d_X2_copyFrom_29 ?_
  refine V_aload_n d_X2_copyFrom_32 rfl rfl ?_
  refine V_aload_n d_X2_copyFrom_33 rfl rfl ?_
  refine B_get (kLand _ ha1) fl_RX2_24 d_X2_copyFrom_34 g_2_4 ?_
  refine B_putI (kLand _ ha0) fl_RX2_24 pt_2_4 (Nat.le_of_ble_eq_true rfl) p_2_4 d_X2_copyFrom_37 ?_
  refine V_aload_n d_X2_copyFrom_40 rfl rfl ?_
  refine V_aload_n d_X2_copyFrom_41 rfl rfl ?_
  refine B_get (kLand _ ha1) fl_RX2_27 d_X2_copyFrom_42 g_2_5 ?_
  refine B_putI (kLand _ ha0) fl_RX2_27 pt_2_5 (Nat.le_of_ble_eq_true rfl) p_2_5 d_X2_copyFrom_45 ?_
  refine V_aload_n d_X2_copyFrom_48 rfl rfl ?_
  refine B_get (kLand _ ha1) fl_RX2_30 d_X2_copyFrom_49 g_2_6 ?_
  refine V_iconst (v := 0) d_X2_copyFrom_52 ic_0 ?_
  refine V_aload_n d_X2_copyFrom_53 rfl rfl ?_
  refine B_get (kLand _ ha0) fl_RX2_30 d_X2_copyFrom_54 g_2_6 ?_
  refine V_iconst (v := 0) d_X2_copyFrom_57 ic_0 ?_
  refine V_bipush (v := 6) d_X2_copyFrom_58 bp_6 ?_
  obtain ⟨μ1, hμ1, hf⟩ := ob hf
  refine B_acopy (kLand_1 _ ha1) (kLand_1 _ ha0) hμ1 w_545 w_547 w_546 w_14 d_X2_copyFrom_60 (Nat.le_of_ble_eq_true rfl) ?_
  refine V_aload_n d_X2_copyFrom_63 rfl rfl ?_
  refine B_get (kLand _ ha1) fl_RX2_34 d_X2_copyFrom_64 g_2_7 ?_
  refine V_iconst (v := 0) d_X2_copyFrom_67 ic_0 ?_
  refine V_aload_n d_X2_copyFrom_68 rfl rfl ?_
  refine B_get (kLand _ ha0) fl_RX2_34 d_X2_copyFrom_69 g_2_7 ?_
  refine V_iconst (v := 0) d_X2_copyFrom_72 ic_0 ?_
  refine V_bipush (v := 6) d_X2_copyFrom_73 bp_6 ?_
  obtain ⟨μ2, hμ2, hf⟩ := ob hf
  refine B_acopy (kLand_2 _ ha1) (kLand_2 _ ha0) hμ2 w_545 w_547 w_546 w_14 d_X2_copyFrom_75 (Nat.le_of_ble_eq_true rfl) ?_
  refine V_aload_n d_X2_copyFrom_78 rfl rfl ?_
  refine B_get (kLand _ ha1) fl_RX2_37 d_X2_copyFrom_79 g_2_8 ?_
  refine V_iconst (v := 0) d_X2_copyFrom_82 ic_0 ?_
  refine V_aload_n d_X2_copyFrom_83 rfl rfl ?_
  refine B_get (kLand _ ha0) fl_RX2_37 d_X2_copyFrom_84 g_2_8 ?_
  refine V_iconst (v := 0) d_X2_copyFrom_87 ic_0 ?_
  refine V_bipush (v := 6) d_X2_copyFrom_88 bp_6 ?_
  obtain ⟨μ3, hμ3, hf⟩ := ob hf
  refine B_acopy (kLand_3 _ ha1) (kLand_3 _ ha0) hμ3 w_545 w_547 w_546 w_14 d_X2_copyFrom_90 (Nat.le_of_ble_eq_true rfl) ?_
  refine V_aload_n d_X2_copyFrom_93 rfl rfl ?_
  refine B_get (kLand _ ha1) fl_RX2_40 d_X2_copyFrom_94 g_2_9 ?_
  refine V_iconst (v := 0) d_X2_copyFrom_97 ic_0 ?_
  refine V_aload_n d_X2_copyFrom_98 rfl rfl ?_
  refine B_get (kLand _ ha0) fl_RX2_40 d_X2_copyFrom_99 g_2_9 ?_
  refine V_iconst (v := 0) d_X2_copyFrom_102 ic_0 ?_
  refine V_bipush (v := 6) d_X2_copyFrom_103 bp_6 ?_
  obtain ⟨μ4, hμ4, hf⟩ := ob hf
  refine B_acopy (kLand_4 _ ha1) (kLand_4 _ ha0) hμ4 w_545 w_547 w_546 w_14 d_X2_copyFrom_105 (Nat.le_of_ble_eq_true rfl) ?_
  refine V_aload_n d_X2_copyFrom_108 rfl rfl ?_
  refine B_get (kLand _ ha1) fl_RX2_43 d_X2_copyFrom_109 g_2_10 ?_
  refine V_iconst (v := 0) d_X2_copyFrom_112 ic_0 ?_
  refine V_aload_n d_X2_copyFrom_113 rfl rfl ?_
  refine B_get (kLand _ ha0) fl_RX2_43 d_X2_copyFrom_114 g_2_10 ?_
  refine V_iconst (v := 0) d_X2_copyFrom_117 ic_0 ?_
  refine V_bipush (v := 6) d_X2_copyFrom_118 bp_6 ?_
  obtain ⟨μ5, hμ5, hf⟩ := ob hf
  refine B_acopy (kLand_5 _ ha1) (kLand_5 _ ha0) hμ5 w_545 w_547 w_546 w_14 d_X2_copyFrom_120 (Nat.le_of_ble_eq_true rfl) ?_
  refine V_aload_n d_X2_copyFrom_123 rfl rfl ?_
  refine B_get (kLand _ ha1) fl_RX2_46 d_X2_copyFrom_124 g_2_11 ?_
  refine V_iconst (v := 0) d_X2_copyFrom_127 ic_0 ?_
  refine V_aload_n d_X2_copyFrom_128 rfl rfl ?_
  refine B_get (kLand _ ha0) fl_RX2_46 d_X2_copyFrom_129 g_2_11 ?_
  refine V_iconst (v := 0) d_X2_copyFrom_132 ic_0 ?_
  refine V_bipush (v := 12) d_X2_copyFrom_133 bp_12 ?_
  obtain ⟨μ6, hμ6, hf⟩ := ob hf
  refine B_acopy (kLand_6 _ ha1) (kLand_6 _ ha0) hμ6 w_545 w_547 w_546 w_14 d_X2_copyFrom_135 (Nat.le_of_ble_eq_true rfl) ?_
  refine V_aload_n d_X2_copyFrom_138 rfl rfl ?_
  refine B_get (kLand _ ha1) fl_RX2_49 d_X2_copyFrom_139 g_2_12 ?_
  refine V_iconst (v := 0) d_X2_copyFrom_142 ic_0 ?_
  refine V_aload_n d_X2_copyFrom_143 rfl rfl ?_
  refine B_get (kLand _ ha0) fl_RX2_49 d_X2_copyFrom_144 g_2_12 ?_
  refine V_iconst (v := 0) d_X2_copyFrom_147 ic_0 ?_
  refine V_bipush (v := 12) d_X2_copyFrom_148 bp_12 ?_
  obtain ⟨μ7, hμ7, hf⟩ := ob hf
  refine B_acopy (kLand_7 _ ha1) (kLand_7 _ ha0) hμ7 w_545 w_547 w_546 w_14 d_X2_copyFrom_150 (Nat.le_of_ble_eq_true rfl) ?_
  refine V_aload_n d_X2_copyFrom_153 rfl rfl ?_
  refine B_get (kLand _ ha1) fl_RX2_52 d_X2_copyFrom_154 g_2_13 ?_
  refine V_iconst (v := 0) d_X2_copyFrom_157 ic_0 ?_
  refine V_aload_n d_X2_copyFrom_158 rfl rfl ?_
  refine B_get (kLand _ ha0) fl_RX2_52 d_X2_copyFrom_159 g_2_13 ?_
  refine V_iconst (v := 0) d_X2_copyFrom_162 ic_0 ?_
  refine V_bipush (v := 12) d_X2_copyFrom_163 bp_12 ?_
  obtain ⟨μ8, hμ8, hf⟩ := ob hf
  refine B_acopy (kLand_8 _ ha1) (kLand_8 _ ha0) hμ8 w_545 w_547 w_546 w_14 d_X2_copyFrom_165 (Nat.le_of_ble_eq_true rfl) ?_
  refine V_aload_n d_X2_copyFrom_168 rfl rfl ?_
  refine B_get (kLand _ ha1) fl_RX2_55 d_X2_copyFrom_169 g_2_14 ?_
  refine V_iconst (v := 0) d_X2_copyFrom_172 ic_0 ?_
  refine V_aload_n d_X2_copyFrom_173 rfl rfl ?_
  refine B_get (kLand _ ha0) fl_RX2_55 d_X2_copyFrom_174 g_2_14 ?_
  refine V_iconst (v := 0) d_X2_copyFrom_177 ic_0 ?_
  refine V_bipush (v := 12) d_X2_copyFrom_178 bp_12 ?_
  obtain ⟨μ9, hμ9, hf⟩ := ob hf
  refine B_acopy (kLand_9 _ ha1) (kLand_9 _ ha0) hμ9 w_545 w_547 w_546 w_14 d_X2_copyFrom_180 (Nat.le_of_ble_eq_true rfl) ?_
  refine V_aload_n d_X2_copyFrom_183 rfl rfl ?_
  refine B_get (kLand _ ha1) fl_RX2_58 d_X2_copyFrom_184 g_2_15 ?_
  refine V_iconst (v := 0) d_X2_copyFrom_187 ic_0 ?_
  refine V_aload_n d_X2_copyFrom_188 rfl rfl ?_
  refine B_get (kLand _ ha0) fl_RX2_58 d_X2_copyFrom_189 g_2_15 ?_
  refine V_iconst (v := 0) d_X2_copyFrom_192 ic_0 ?_
  refine V_bipush (v := 12) d_X2_copyFrom_193 bp_12 ?_
  obtain ⟨μ10, hμ10, hf⟩ := ob hf
  refine B_acopy (kLand_10 _ ha1) (kLand_10 _ ha0) hμ10 w_545 w_547 w_546 w_14 d_X2_copyFrom_195 (Nat.le_of_ble_eq_true rfl) ?_
  refine V_aload_n d_X2_copyFrom_198 rfl rfl ?_
  refine B_get (kLand _ ha1) fl_RX2_61 d_X2_copyFrom_199 g_2_16 ?_
  refine V_iconst (v := 0) d_X2_copyFrom_202 ic_0 ?_
  refine V_aload_n d_X2_copyFrom_203 rfl rfl ?_
  refine B_get (kLand _ ha0) fl_RX2_61 d_X2_copyFrom_204 g_2_16 ?_
  refine V_iconst (v := 0) d_X2_copyFrom_207 ic_0 ?_
  refine V_bipush (v := 12) d_X2_copyFrom_208 bp_12 ?_
  obtain ⟨μ11, hμ11, hf⟩ := ob hf
  refine B_acopy (kLand_11 _ ha1) (kLand_11 _ ha0) hμ11 w_545 w_547 w_546 w_14 d_X2_copyFrom_210 (Nat.le_of_ble_eq_true rfl) ?_
  refine V_aload_n d_X2_copyFrom_213 rfl rfl ?_
  refine B_get (kLand _ ha1) fl_RX2_64 d_X2_copyFrom_214 g_2_17 ?_
  refine V_iconst (v := 0) d_X2_copyFrom_217 ic_0 ?_
  refine V_aload_n d_X2_copyFrom_218 rfl rfl ?_
  refine B_get (kLand _ ha0) fl_RX2_64 d_X2_copyFrom_219 g_2_17 ?_
  refine V_iconst (v := 0) d_X2_copyFrom_222 ic_0 ?_
  refine V_bipush (v := 20) d_X2_copyFrom_223 bp_20 ?_
  obtain ⟨μ12, hμ12, hf⟩ := ob hf
  refine B_acopy (kLand_12 _ ha1) (kLand_12 _ ha0) hμ12 w_545 w_547 w_546 w_14 d_X2_copyFrom_225 (Nat.le_of_ble_eq_true rfl) ?_
  refine V_aload_n d_X2_copyFrom_228 rfl rfl ?_
  refine B_get (kLand _ ha0) fl_RX2_70 d_X2_copyFrom_229 g_2_18 ?_
  refine V_aload_n d_X2_copyFrom_232 rfl rfl ?_
  refine B_get (kLand _ ha1) fl_RX2_70 d_X2_copyFrom_233 g_2_18 ?_
  obtain ⟨q13, hq13, hf⟩ := ob hf
  refine B_callV0 (s_X1_copyFrom hG (landBook _ ha0) (landBook _ ha1) hq13) (kBook _ (landBook _ ha0)) clX1 m_X1_copyFrom kv_RX2_80 d_X2_copyFrom_236 rfl (Nat.le_of_ble_eq_true rfl) ⟨rfl, rfl, Nat.le_of_ble_eq_true rfl, Nat.le_of_ble_eq_true rfl, Nat.le_of_ble_eq_true rfl⟩ (fun n => ?_)
  cases hf
  exact R_v hK d_X2_copyFrom_239 (Nat.le_of_ble_eq_true rfl) (Nat.le_of_ble_eq_true rfl)
theorem s_X2_copyFrom {G : Gl} (hG : G.1.stackTraces = false) {μ : Mem} {a0 : Nat} {a1 : Nat} (ha0 : a0 ∈ landL) (ha1 : a1 ∈ landL) {r : Mem} (hf : f_X2_copyFrom μ a0 a1 = some r) : Rt G yX2_copyFrom F_X2_copyFrom none [.ref (G.2.1 + a0), .ref (G.2.1 + a1)] μ none r := fun n => Sd.of hG ⟨by decide +kernel, rfl, rfl⟩ rfl (Nat.le_of_ble_eq_true rfl) rfl (fun C hK => s_X2_copyFrom_e hG ha0 ha1 hf hK)
theorem d_J9_min_7cf53_0 : decode cJ9_min_7cf53 0 = .ok (.iload_n 0, 1) := by decide +kernel
theorem d_J9_min_7cf53_1 : decode cJ9_min_7cf53 1 = .ok (.iload_n 1, 1) := by decide +kernel
theorem d_J9_min_7cf53_2 : decode cJ9_min_7cf53 2 = .ok (.if_icmp .gt 7, 3) := by decide +kernel
theorem d_J9_min_7cf53_5 : decode cJ9_min_7cf53 5 = .ok (.iload_n 0, 1) := by decide +kernel
theorem d_J9_min_7cf53_6 : decode cJ9_min_7cf53 6 = .ok (.goto 4, 3) := by decide +kernel
theorem d_J9_min_7cf53_9 : decode cJ9_min_7cf53 9 = .ok (.iload_n 1, 1) := by decide +kernel
theorem d_J9_min_7cf53_10 : decode cJ9_min_7cf53 10 = .ok (.ireturn, 1) := by decide +kernel
theorem s_J9_min_7cf53_e {G : Gl} (hG : G.1.stackTraces = false) {C : Cx} {n : Nat} {μ : Mem} {p0 : Int32} {p1 : Int32} {r : Int32} (hf : f_J9_min_7cf53 μ p0 p1 = some r) (hK : FinR G C F_J9_min_7cf53 (some .int) (some (.int r)) μ) : V G C F_J9_min_7cf53 0 [some (.int p0), some (.int p1)] [] (pic G μ) n 0 0 := by
  unfold f_J9_min_7cf53 at hf
  refine V_iload_n d_J9_min_7cf53_0 rfl rfl ?_
  refine V_iload_n d_J9_min_7cf53_1 rfl rfl ?_
  have hJj1 : ∀ j1 : Int32, j1 = (if p1 < p0 then (p1 : Int32) else p0) → V G C F_J9_min_7cf53 10 [none, none] [.int j1] (pic G μ) n 0 0 := by
    intro j1 ej1
    subst ej1
    cases hf
    exact R_i hK d_J9_min_7cf53_10 (Nat.le_of_ble_eq_true rfl) (Nat.le_of_ble_eq_true rfl)
  refine V_icmp_gt (tgt := 9) d_J9_min_7cf53_2 (by decide) (fun c2 => ?_) (fun c2 => ?_)
  · refine V_iload_n d_J9_min_7cf53_9 rfl rfl ?_
    refine V_less (ls' := [none, none]) trivial ?_
    exact hJj1 p1 (by rw [if_pos c2])
  · refine V_iload_n d_J9_min_7cf53_5 rfl rfl ?_
    refine V_goto (tgt := 10) d_J9_min_7cf53_6 (by decide) ?_
    refine V_less (ls' := [none, none]) trivial ?_
    exact hJj1 p0 (by rw [if_neg c2])
theorem s_J9_min_7cf53 {G : Gl} (hG : G.1.stackTraces = false) {μ : Mem} {p0 : Int32} {p1 : Int32} {r : Int32} (hf : f_J9_min_7cf53 μ p0 p1 = some r) : Rt G yJ9_min_7cf53 F_J9_min_7cf53 (some .int) [.int p0, .int p1] μ (some (.int r)) μ := fun n => Sd.ofJ hG ⟨by decide +kernel, rfl, rfl⟩ rfl (Nat.le_of_ble_eq_true rfl) rfl (fun C hK => s_J9_min_7cf53_e hG hf hK)
theorem d_X0_remember_0 : decode cX0_remember 0 = .ok (.aload_n 0, 1) := by decide +kernel
theorem d_X0_remember_1 : decode cX0_remember 1 = .ok (.getfield 11, 3) := by decide +kernel
theorem d_X0_remember_4 : decode cX0_remember 4 = .ok (.aload_n 0, 1) := by decide +kernel
theorem d_X0_remember_5 : decode cX0_remember 5 = .ok (.getfield 17, 3) := by decide +kernel
theorem d_X0_remember_8 : decode cX0_remember 8 = .ok (.aaload, 1) := by decide +kernel
theorem d_X0_remember_9 : decode cX0_remember 9 = .ok (.aload_n 1, 1) := by decide +kernel
theorem d_X0_remember_10 : decode cX0_remember 10 = .ok (.invokevirtual 25, 3) := by decide +kernel
theorem d_X0_remember_13 : decode cX0_remember 13 = .ok (.aload_n 0, 1) := by decide +kernel
theorem d_X0_remember_14 : decode cX0_remember 14 = .ok (.aload_n 0, 1) := by decide +kernel
theorem d_X0_remember_15 : decode cX0_remember 15 = .ok (.getfield 17, 3) := by decide +kernel
theorem d_X0_remember_18 : decode cX0_remember 18 = .ok (.iconst 1, 1) := by decide +kernel
theorem d_X0_remember_19 : decode cX0_remember 19 = .ok (.iadd, 1) := by decide +kernel
theorem d_X0_remember_20 : decode cX0_remember 20 = .ok (.bipush 12, 2) := by decide +kernel
theorem d_X0_remember_22 : decode cX0_remember 22 = .ok (.irem, 1) := by decide +kernel
theorem d_X0_remember_23 : decode cX0_remember 23 = .ok (.putfield 17, 3) := by decide +kernel
theorem d_X0_remember_26 : decode cX0_remember 26 = .ok (.aload_n 0, 1) := by decide +kernel
theorem d_X0_remember_27 : decode cX0_remember 27 = .ok (.aload_n 0, 1) := by decide +kernel
theorem d_X0_remember_28 : decode cX0_remember 28 = .ok (.getfield 21, 3) := by decide +kernel
theorem d_X0_remember_31 : decode cX0_remember 31 = .ok (.iconst 1, 1) := by decide +kernel
theorem d_X0_remember_32 : decode cX0_remember 32 = .ok (.iadd, 1) := by decide +kernel
theorem d_X0_remember_33 : decode cX0_remember 33 = .ok (.bipush 12, 2) := by decide +kernel
theorem d_X0_remember_35 : decode cX0_remember 35 = .ok (.invokestatic 29, 3) := by decide +kernel
theorem d_X0_remember_38 : decode cX0_remember 38 = .ok (.putfield 21, 3) := by decide +kernel
theorem d_X0_remember_41 : decode cX0_remember 41 = .ok (.return_, 1) := by decide +kernel
theorem s_X0_remember_e {G : Gl} (hG : G.1.stackTraces = false) {C : Cx} {n : Nat} {μ : Mem} {a1 : Nat} (ha1 : a1 ∈ landL) {r : Mem} (hf : f_X0_remember μ a1 = some r) (hK : FinR G C F_X0_remember none none r) : V G C F_X0_remember 0 [some (.ref (G.2.1 + 74)), some (.ref (G.2.1 + a1))] [] (pic G μ) n 0 0 := by
  unfold f_X0_remember at hf
  refine V_aload_n d_X0_remember_0 rfl rfl ?_
  refine B_get k_74 fl_RX0_11 d_X0_remember_1 g_0_0 ?_
  refine V_aload_n d_X0_remember_4 rfl rfl ?_
  refine B_get k_74 fl_RX0_17 d_X0_remember_5 g_0_1 ?_
  obtain ⟨t1, ht1, hf⟩ := ob hf
  refine B_aald ht1 d_X0_remember_8 ?_
  refine V_aload_n d_X0_remember_9 rfl rfl ?_
  obtain ⟨q2, hq2, hf⟩ := ob hf
  refine B_callV0 (s_X2_copyFrom hG (ldA_land ht1) ha1 hq2) (kLand _ (ldA_land ht1)) clX2 m_X2_copyFrom kv_RX0_25 d_X0_remember_10 rfl (Nat.le_of_ble_eq_true rfl) ⟨rfl, rfl, Nat.le_of_ble_eq_true rfl, Nat.le_of_ble_eq_true rfl, Nat.le_of_ble_eq_true rfl⟩ (fun n => ?_)
  refine V_aload_n d_X0_remember_13 rfl rfl ?_
  refine V_aload_n d_X0_remember_14 rfl rfl ?_
  refine B_get k_74 fl_RX0_17 d_X0_remember_15 g_0_1 ?_
  refine V_iconst (v := 1) d_X0_remember_18 ic_1 ?_
  refine V_iadd d_X0_remember_19 ?_
  refine V_bipush (v := 12) d_X0_remember_20 bp_12 ?_
  obtain ⟨t3, ht3, hf⟩ := ob hf
  obtain ⟨gt3, ht3⟩ := rm_some ht3
  refine V_irem d_X0_remember_22 gt3 ?_
  rw [ht3]
  refine B_putI k_74 fl_RX0_17 pt_0_1 (Nat.le_of_ble_eq_true rfl) p_0_1 d_X0_remember_23 ?_
  refine V_aload_n d_X0_remember_26 rfl rfl ?_
  refine V_aload_n d_X0_remember_27 rfl rfl ?_
  refine B_get k_74 fl_RX0_21 d_X0_remember_28 g_0_2 ?_
  refine V_iconst (v := 1) d_X0_remember_31 ic_1 ?_
  refine V_iadd d_X0_remember_32 ?_
  refine V_bipush (v := 12) d_X0_remember_33 bp_12 ?_
  obtain ⟨t4, ht4, hf⟩ := ob hf
  refine B_callS1 (s_J9_min_7cf53 hG ht4) m_J9_min_7cf53 ks_RX0_29 d_X0_remember_35 rfl (Nat.le_of_ble_eq_true rfl) ⟨rfl, rfl, Nat.le_of_ble_eq_true rfl, Nat.le_of_ble_eq_true rfl, Nat.le_of_ble_eq_true rfl⟩ (fun n => ?_)
  refine B_putI k_74 fl_RX0_21 pt_0_2 (Nat.le_of_ble_eq_true rfl) p_0_2 d_X0_remember_38 ?_
  cases hf
  exact R_v hK d_X0_remember_41 (Nat.le_of_ble_eq_true rfl) (Nat.le_of_ble_eq_true rfl)
theorem s_X0_remember {G : Gl} (hG : G.1.stackTraces = false) {μ : Mem} {a1 : Nat} (ha1 : a1 ∈ landL) {r : Mem} (hf : f_X0_remember μ a1 = some r) : Rt G yX0_remember F_X0_remember none [.ref (G.2.1 + 74), .ref (G.2.1 + a1)] μ none r := fun n => Sd.of hG ⟨by decide +kernel, rfl, rfl⟩ rfl (Nat.le_of_ble_eq_true rfl) rfl (fun C hK => s_X0_remember_e hG ha1 hf hK)
theorem d_X0_takeBack_0 : decode cX0_takeBack 0 = .ok (.aload_n 0, 1) := by decide +kernel
theorem d_X0_takeBack_1 : decode cX0_takeBack 1 = .ok (.getfield 21, 3) := by decide +kernel
theorem d_X0_takeBack_4 : decode cX0_takeBack 4 = .ok (.ifCond .ne 5, 3) := by decide +kernel
theorem d_X0_takeBack_7 : decode cX0_takeBack 7 = .ok (.iconst 0, 1) := by decide +kernel
theorem d_X0_takeBack_8 : decode cX0_takeBack 8 = .ok (.ireturn, 1) := by decide +kernel
theorem d_X0_takeBack_9 : decode cX0_takeBack 9 = .ok (.aload_n 0, 1) := by decide +kernel
theorem d_X0_takeBack_10 : decode cX0_takeBack 10 = .ok (.dup, 1) := by decide +kernel
theorem d_X0_takeBack_11 : decode cX0_takeBack 11 = .ok (.getfield 21, 3) := by decide +kernel
theorem d_X0_takeBack_14 : decode cX0_takeBack 14 = .ok (.iconst 1, 1) := by decide +kernel
theorem d_X0_takeBack_15 : decode cX0_takeBack 15 = .ok (.isub, 1) := by decide +kernel
theorem d_X0_takeBack_16 : decode cX0_takeBack 16 = .ok (.putfield 21, 3) := by decide +kernel
theorem d_X0_takeBack_19 : decode cX0_takeBack 19 = .ok (.aload_n 0, 1) := by decide +kernel
theorem d_X0_takeBack_20 : decode cX0_takeBack 20 = .ok (.aload_n 0, 1) := by decide +kernel
theorem d_X0_takeBack_21 : decode cX0_takeBack 21 = .ok (.getfield 17, 3) := by decide +kernel
theorem d_X0_takeBack_24 : decode cX0_takeBack 24 = .ok (.bipush 12, 2) := by decide +kernel
theorem d_X0_takeBack_26 : decode cX0_takeBack 26 = .ok (.iadd, 1) := by decide +kernel
theorem d_X0_takeBack_27 : decode cX0_takeBack 27 = .ok (.iconst 1, 1) := by decide +kernel
theorem d_X0_takeBack_28 : decode cX0_takeBack 28 = .ok (.isub, 1) := by decide +kernel
theorem d_X0_takeBack_29 : decode cX0_takeBack 29 = .ok (.bipush 12, 2) := by decide +kernel
theorem d_X0_takeBack_31 : decode cX0_takeBack 31 = .ok (.irem, 1) := by decide +kernel
theorem d_X0_takeBack_32 : decode cX0_takeBack 32 = .ok (.putfield 17, 3) := by decide +kernel
theorem d_X0_takeBack_35 : decode cX0_takeBack 35 = .ok (.aload_n 1, 1) := by decide +kernel
theorem d_X0_takeBack_36 : decode cX0_takeBack 36 = .ok (.aload_n 0, 1) := by decide +kernel
theorem d_X0_takeBack_37 : decode cX0_takeBack 37 = .ok (.getfield 11, 3) := by decide +kernel
theorem d_X0_takeBack_40 : decode cX0_takeBack 40 = .ok (.aload_n 0, 1) := by decide +kernel
theorem d_X0_takeBack_41 : decode cX0_takeBack 41 = .ok (.getfield 17, 3) := by decide +kernel
theorem d_X0_takeBack_44 : decode cX0_takeBack 44 = .ok (.aaload, 1) := by decide +kernel
theorem d_X0_takeBack_45 : decode cX0_takeBack 45 = .ok (.invokevirtual 25, 3) := by decide +kernel
theorem d_X0_takeBack_48 : decode cX0_takeBack 48 = .ok (.iconst 1, 1) := by decide +kernel
theorem d_X0_takeBack_49 : decode cX0_takeBack 49 = .ok (.ireturn, 1) := by decide +kernel
theorem s_X0_takeBack_e {G : Gl} (hG : G.1.stackTraces = false) {C : Cx} {n : Nat} {μ : Mem} {a1 : Nat} (ha1 : a1 ∈ landL) {r : (Bool × Mem)} (hf : f_X0_takeBack μ a1 = some r) (hK : FinR G C F_X0_takeBack (some .boolean) (some (.int (b2i r.1))) r.2) : V G C F_X0_takeBack 0 [some (.ref (G.2.1 + 74)), some (.ref (G.2.1 + a1))] [] (pic G μ) n 0 0 := by
  unfold f_X0_takeBack at hf
  refine V_aload_n d_X0_takeBack_0 rfl rfl ?_
  refine B_get k_74 fl_RX0_21 d_X0_takeBack_1 g_0_2 ?_
  refine V_if_ne (tgt := 9) d_X0_takeBack_4 (by decide) (fun c4 => ?_) (fun c4 => ?_)
  · replace hf := iteF c4 hf
    refine V_aload_n d_X0_takeBack_9 rfl rfl ?_
    refine V_dup d_X0_takeBack_10 rfl ?_
    refine B_get k_74 fl_RX0_21 d_X0_takeBack_11 g_0_2 ?_
    refine V_iconst (v := 1) d_X0_takeBack_14 ic_1 ?_
    refine V_isub d_X0_takeBack_15 ?_
    refine B_putI k_74 fl_RX0_21 pt_0_2 (Nat.le_of_ble_eq_true rfl) p_0_2 d_X0_takeBack_16 ?_
    refine V_aload_n d_X0_takeBack_19 rfl rfl ?_
    refine V_aload_n d_X0_takeBack_20 rfl rfl ?_
    refine B_get k_74 fl_RX0_17 d_X0_takeBack_21 g_0_1 ?_
    refine V_bipush (v := 12) d_X0_takeBack_24 bp_12 ?_
    refine V_iadd d_X0_takeBack_26 ?_
    refine V_iconst (v := 1) d_X0_takeBack_27 ic_1 ?_
    refine V_isub d_X0_takeBack_28 ?_
    refine V_bipush (v := 12) d_X0_takeBack_29 bp_12 ?_
    obtain ⟨t1, ht1, hf⟩ := ob hf
    obtain ⟨gt1, ht1⟩ := rm_some ht1
    refine V_irem d_X0_takeBack_31 gt1 ?_
    rw [ht1]
    refine B_putI k_74 fl_RX0_17 pt_0_1 (Nat.le_of_ble_eq_true rfl) p_0_1 d_X0_takeBack_32 ?_
    refine V_aload_n d_X0_takeBack_35 rfl rfl ?_
    refine V_aload_n d_X0_takeBack_36 rfl rfl ?_
    refine B_get k_74 fl_RX0_11 d_X0_takeBack_37 g_0_0 ?_
    refine V_aload_n d_X0_takeBack_40 rfl rfl ?_
    refine B_get k_74 fl_RX0_17 d_X0_takeBack_41 g_0_1 ?_
    obtain ⟨t2, ht2, hf⟩ := ob hf
    refine B_aald ht2 d_X0_takeBack_44 ?_
    obtain ⟨q3, hq3, hf⟩ := ob hf
    refine B_callV0 (s_X2_copyFrom hG ha1 (ldA_land ht2) hq3) (kLand _ ha1) clX2 m_X2_copyFrom kv_RX0_25 d_X0_takeBack_45 rfl (Nat.le_of_ble_eq_true rfl) ⟨rfl, rfl, Nat.le_of_ble_eq_true rfl, Nat.le_of_ble_eq_true rfl, Nat.le_of_ble_eq_true rfl⟩ (fun n => ?_)
    refine V_iconst (v := 1) d_X0_takeBack_48 ic_1 ?_
    cases hf
    exact R_z hK d_X0_takeBack_49 (Nat.le_of_ble_eq_true rfl) (Nat.le_of_ble_eq_true rfl)
  · replace hf := iteT c4 hf
    refine V_iconst (v := 0) d_X0_takeBack_7 ic_0 ?_
    cases hf
    exact R_z hK d_X0_takeBack_8 (Nat.le_of_ble_eq_true rfl) (Nat.le_of_ble_eq_true rfl)
theorem s_X0_takeBack {G : Gl} (hG : G.1.stackTraces = false) {μ : Mem} {a1 : Nat} (ha1 : a1 ∈ landL) {r : (Bool × Mem)} (hf : f_X0_takeBack μ a1 = some r) : Rt G yX0_takeBack F_X0_takeBack (some .boolean) [.ref (G.2.1 + 74), .ref (G.2.1 + a1)] μ (some (.int (b2i r.1))) r.2 := fun n => Sd.of hG ⟨by decide +kernel, rfl, rfl⟩ rfl (Nat.le_of_ble_eq_true rfl) rfl (fun C hK => s_X0_takeBack_e hG ha1 hf hK)
theorem d_X0_forget_0 : decode cX0_forget 0 = .ok (.aload_n 0, 1) := by decide +kernel
theorem d_X0_forget_1 : decode cX0_forget 1 = .ok (.iconst 0, 1) := by decide +kernel
theorem d_X0_forget_2 : decode cX0_forget 2 = .ok (.putfield 21, 3) := by decide +kernel
theorem d_X0_forget_5 : decode cX0_forget 5 = .ok (.return_, 1) := by decide +kernel
theorem s_X0_forget_e {G : Gl} (hG : G.1.stackTraces = false) {C : Cx} {n : Nat} {μ : Mem}  {r : Mem} (hf : f_X0_forget μ = some r) (hK : FinR G C F_X0_forget none none r) : V G C F_X0_forget 0 [some (.ref (G.2.1 + 74))] [] (pic G μ) n 0 0 := by
  unfold f_X0_forget at hf
  refine V_aload_n d_X0_forget_0 rfl rfl ?_
  refine V_iconst (v := 0) d_X0_forget_1 ic_0 ?_
  refine B_putI k_74 fl_RX0_21 pt_0_2 (Nat.le_of_ble_eq_true rfl) p_0_2 d_X0_forget_2 ?_
  cases hf
  exact R_v hK d_X0_forget_5 (Nat.le_of_ble_eq_true rfl) (Nat.le_of_ble_eq_true rfl)
theorem s_X0_forget {G : Gl} (hG : G.1.stackTraces = false) {μ : Mem} {r : Mem} (hf : f_X0_forget μ = some r) : Rt G yX0_forget F_X0_forget none [.ref (G.2.1 + 74)] μ none r := fun n => Sd.of hG ⟨by decide +kernel, rfl, rfl⟩ rfl (Nat.le_of_ble_eq_true rfl) rfl (fun C hK => s_X0_forget_e hG hf hK)
theorem d_X1_add_0 : decode cX1_add 0 = .ok (.aload_n 0, 1) := by decide +kernel
theorem d_X1_add_1 : decode cX1_add 1 = .ok (.getfield 9, 3) := by decide +kernel
theorem d_X1_add_4 : decode cX1_add 4 = .ok (.aload_n 0, 1) := by decide +kernel
theorem d_X1_add_5 : decode cX1_add 5 = .ok (.getfield 15, 3) := by decide +kernel
theorem d_X1_add_8 : decode cX1_add 8 = .ok (.iload_n 1, 1) := by decide +kernel
theorem d_X1_add_9 : decode cX1_add 9 = .ok (.bipush 16, 2) := by decide +kernel
theorem d_X1_add_11 : decode cX1_add 11 = .ok (.ishl, 1) := by decide +kernel
theorem d_X1_add_12 : decode cX1_add 12 = .ok (.iload_n 2, 1) := by decide +kernel
theorem d_X1_add_13 : decode cX1_add 13 = .ok (.bipush 12, 2) := by decide +kernel
theorem d_X1_add_15 : decode cX1_add 15 = .ok (.ishl, 1) := by decide +kernel
theorem d_X1_add_16 : decode cX1_add 16 = .ok (.ior, 1) := by decide +kernel
theorem d_X1_add_17 : decode cX1_add 17 = .ok (.iload_n 3, 1) := by decide +kernel
theorem d_X1_add_18 : decode cX1_add 18 = .ok (.bipush 10, 2) := by decide +kernel
theorem d_X1_add_20 : decode cX1_add 20 = .ok (.ishl, 1) := by decide +kernel
theorem d_X1_add_21 : decode cX1_add 21 = .ok (.ior, 1) := by decide +kernel
theorem d_X1_add_22 : decode cX1_add 22 = .ok (.iload 4, 2) := by decide +kernel
theorem d_X1_add_24 : decode cX1_add 24 = .ok (.ior, 1) := by decide +kernel
theorem d_X1_add_25 : decode cX1_add 25 = .ok (.iastore, 1) := by decide +kernel
theorem d_X1_add_26 : decode cX1_add 26 = .ok (.aload_n 0, 1) := by decide +kernel
theorem d_X1_add_27 : decode cX1_add 27 = .ok (.aload_n 0, 1) := by decide +kernel
theorem d_X1_add_28 : decode cX1_add 28 = .ok (.getfield 15, 3) := by decide +kernel
theorem d_X1_add_31 : decode cX1_add 31 = .ok (.iconst 1, 1) := by decide +kernel
theorem d_X1_add_32 : decode cX1_add 32 = .ok (.iadd, 1) := by decide +kernel
theorem d_X1_add_33 : decode cX1_add 33 = .ok (.bipush 60, 2) := by decide +kernel
theorem d_X1_add_35 : decode cX1_add 35 = .ok (.irem, 1) := by decide +kernel
theorem d_X1_add_36 : decode cX1_add 36 = .ok (.putfield 15, 3) := by decide +kernel
theorem d_X1_add_39 : decode cX1_add 39 = .ok (.aload_n 0, 1) := by decide +kernel
theorem d_X1_add_40 : decode cX1_add 40 = .ok (.aload_n 0, 1) := by decide +kernel
theorem d_X1_add_41 : decode cX1_add 41 = .ok (.getfield 19, 3) := by decide +kernel
theorem d_X1_add_44 : decode cX1_add 44 = .ok (.iconst 1, 1) := by decide +kernel
theorem d_X1_add_45 : decode cX1_add 45 = .ok (.iadd, 1) := by decide +kernel
theorem d_X1_add_46 : decode cX1_add 46 = .ok (.bipush 60, 2) := by decide +kernel
theorem d_X1_add_48 : decode cX1_add 48 = .ok (.invokestatic 28, 3) := by decide +kernel
theorem d_X1_add_51 : decode cX1_add 51 = .ok (.putfield 19, 3) := by decide +kernel
theorem d_X1_add_54 : decode cX1_add 54 = .ok (.return_, 1) := by decide +kernel
theorem s_X1_add_e {G : Gl} (hG : G.1.stackTraces = false) {C : Cx} {n : Nat} {μ : Mem} {a0 : Nat} {p1 : Int32} {p2 : Int32} {p3 : Int32} {p4 : Int32} (ha0 : a0 ∈ bookL) {r : Mem} (hf : f_X1_add μ a0 p1 p2 p3 p4 = some r) (hK : FinR G C F_X1_add none none r) : V G C F_X1_add 0 [some (.ref (G.2.1 + a0)), some (.int p1), some (.int p2), some (.int p3), some (.int p4)] [] (pic G μ) n 0 0 := by
  unfold f_X1_add at hf
  refine V_aload_n d_X1_add_0 rfl rfl ?_
  refine B_get (kBook _ ha0) fl_RX1_9 d_X1_add_1 g_1_0 ?_
  refine V_aload_n d_X1_add_4 rfl rfl ?_
  refine B_get (kBook _ ha0) fl_RX1_15 d_X1_add_5 g_1_1 ?_
  refine V_iload_n d_X1_add_8 rfl rfl ?_
  refine V_bipush (v := 16) d_X1_add_9 bp_16 ?_
  refine V_ishl d_X1_add_11 ?_
  refine V_iload_n d_X1_add_12 rfl rfl ?_
  refine V_bipush (v := 12) d_X1_add_13 bp_12 ?_
  refine V_ishl d_X1_add_15 ?_
  refine V_ior d_X1_add_16 ?_
  refine V_iload_n d_X1_add_17 rfl rfl ?_
  refine V_bipush (v := 10) d_X1_add_18 bp_10 ?_
  refine V_ishl d_X1_add_20 ?_
  refine V_ior d_X1_add_21 ?_
  refine V_iload d_X1_add_22 rfl ?_
  refine V_ior d_X1_add_24 ?_
  obtain ⟨μ1, hμ1, hf⟩ := ob hf
  refine B_iast (kBook_1 _ ha0) hμ1 d_X1_add_25 ?_
  refine V_aload_n d_X1_add_26 rfl rfl ?_
  refine V_aload_n d_X1_add_27 rfl rfl ?_
  refine B_get (kBook _ ha0) fl_RX1_15 d_X1_add_28 g_1_1 ?_
  refine V_iconst (v := 1) d_X1_add_31 ic_1 ?_
  refine V_iadd d_X1_add_32 ?_
  refine V_bipush (v := 60) d_X1_add_33 bp_60 ?_
  obtain ⟨t2, ht2, hf⟩ := ob hf
  obtain ⟨gt2, ht2⟩ := rm_some ht2
  refine V_irem d_X1_add_35 gt2 ?_
  rw [ht2]
  refine B_putI (kBook _ ha0) fl_RX1_15 pt_1_1 (Nat.le_of_ble_eq_true rfl) p_1_1 d_X1_add_36 ?_
  refine V_aload_n d_X1_add_39 rfl rfl ?_
  refine V_aload_n d_X1_add_40 rfl rfl ?_
  refine B_get (kBook _ ha0) fl_RX1_19 d_X1_add_41 g_1_2 ?_
  refine V_iconst (v := 1) d_X1_add_44 ic_1 ?_
  refine V_iadd d_X1_add_45 ?_
  refine V_bipush (v := 60) d_X1_add_46 bp_60 ?_
  obtain ⟨t3, ht3, hf⟩ := ob hf
  refine B_callS1 (s_J9_min_7cf53 hG ht3) m_J9_min_7cf53 ks_RX1_28 d_X1_add_48 rfl (Nat.le_of_ble_eq_true rfl) ⟨rfl, rfl, Nat.le_of_ble_eq_true rfl, Nat.le_of_ble_eq_true rfl, Nat.le_of_ble_eq_true rfl⟩ (fun n => ?_)
  refine B_putI (kBook _ ha0) fl_RX1_19 pt_1_2 (Nat.le_of_ble_eq_true rfl) p_1_2 d_X1_add_51 ?_
  cases hf
  exact R_v hK d_X1_add_54 (Nat.le_of_ble_eq_true rfl) (Nat.le_of_ble_eq_true rfl)
theorem s_X1_add {G : Gl} (hG : G.1.stackTraces = false) {μ : Mem} {a0 : Nat} {p1 : Int32} {p2 : Int32} {p3 : Int32} {p4 : Int32} (ha0 : a0 ∈ bookL) {r : Mem} (hf : f_X1_add μ a0 p1 p2 p3 p4 = some r) : Rt G yX1_add F_X1_add none [.ref (G.2.1 + a0), .int p1, .int p2, .int p3, .int p4] μ none r := fun n => Sd.of hG ⟨by decide +kernel, rfl, rfl⟩ rfl (Nat.le_of_ble_eq_true rfl) rfl (fun C hK => s_X1_add_e hG ha0 hf hK)
theorem d_J9_floorMod_7cf53_0 : decode cJ9_floorMod_7cf53 0 = .ok (.iload_n 0, 1) := by decide +kernel
theorem d_J9_floorMod_7cf53_1 : decode cJ9_floorMod_7cf53 1 = .ok (.iload_n 1, 1) := by decide +kernel
theorem d_J9_floorMod_7cf53_2 : decode cJ9_floorMod_7cf53 2 = .ok (.irem, 1) := by decide +kernel
theorem d_J9_floorMod_7cf53_3 : decode cJ9_floorMod_7cf53 3 = .ok (.istore_n 2, 1) := by decide +kernel
theorem d_J9_floorMod_7cf53_4 : decode cJ9_floorMod_7cf53 4 = .ok (.iload_n 0, 1) := by decide +kernel
theorem d_J9_floorMod_7cf53_5 : decode cJ9_floorMod_7cf53 5 = .ok (.iload_n 1, 1) := by decide +kernel
theorem d_J9_floorMod_7cf53_6 : decode cJ9_floorMod_7cf53 6 = .ok (.ixor, 1) := by decide +kernel
theorem d_J9_floorMod_7cf53_7 : decode cJ9_floorMod_7cf53 7 = .ok (.ifCond .ge 11, 3) := by decide +kernel
theorem d_J9_floorMod_7cf53_10 : decode cJ9_floorMod_7cf53 10 = .ok (.iload_n 2, 1) := by decide +kernel
theorem d_J9_floorMod_7cf53_11 : decode cJ9_floorMod_7cf53 11 = .ok (.ifCond .eq 7, 3) := by decide +kernel
theorem d_J9_floorMod_7cf53_14 : decode cJ9_floorMod_7cf53 14 = .ok (.iload_n 2, 1) := by decide +kernel
theorem d_J9_floorMod_7cf53_15 : decode cJ9_floorMod_7cf53 15 = .ok (.iload_n 1, 1) := by decide +kernel
theorem d_J9_floorMod_7cf53_16 : decode cJ9_floorMod_7cf53 16 = .ok (.iadd, 1) := by decide +kernel
theorem d_J9_floorMod_7cf53_17 : decode cJ9_floorMod_7cf53 17 = .ok (.ireturn, 1) := by decide +kernel
theorem d_J9_floorMod_7cf53_18 : decode cJ9_floorMod_7cf53 18 = .ok (.iload_n 2, 1) := by decide +kernel
theorem d_J9_floorMod_7cf53_19 : decode cJ9_floorMod_7cf53 19 = .ok (.ireturn, 1) := by decide +kernel
theorem s_J9_floorMod_7cf53_j18 {G : Gl} (hG : G.1.stackTraces = false) {C : Cx} {n : Nat} {μ : Mem} {l2 : Int32} {r : Int32} (hf : f_J9_floorMod_7cf53_j18 μ l2 = some r) (hK : FinR G C F_J9_floorMod_7cf53 (some .int) (some (.int r)) μ) : V G C F_J9_floorMod_7cf53 18 [none, none, some (.int l2)] [] (pic G μ) n 0 0 := by
  unfold f_J9_floorMod_7cf53_j18 at hf
  refine V_iload_n d_J9_floorMod_7cf53_18 rfl rfl ?_
  cases hf
  exact R_i hK d_J9_floorMod_7cf53_19 (Nat.le_of_ble_eq_true rfl) (Nat.le_of_ble_eq_true rfl)
theorem s_J9_floorMod_7cf53_e {G : Gl} (hG : G.1.stackTraces = false) {C : Cx} {n : Nat} {μ : Mem} {p0 : Int32} {p1 : Int32} {r : Int32} (hf : f_J9_floorMod_7cf53 μ p0 p1 = some r) (hK : FinR G C F_J9_floorMod_7cf53 (some .int) (some (.int r)) μ) : V G C F_J9_floorMod_7cf53 0 [some (.int p0), some (.int p1), none] [] (pic G μ) n 0 0 := by
  unfold f_J9_floorMod_7cf53 at hf
  refine V_iload_n d_J9_floorMod_7cf53_0 rfl rfl ?_
  refine V_iload_n d_J9_floorMod_7cf53_1 rfl rfl ?_
  obtain ⟨t1, ht1, hf⟩ := ob hf
  obtain ⟨gt1, ht1⟩ := rm_some ht1
  refine V_irem d_J9_floorMod_7cf53_2 gt1 ?_
  rw [ht1]
  refine V_istore_n (ls' := [_, _, _]) d_J9_floorMod_7cf53_3 rfl rfl rfl ?_
  refine V_iload_n d_J9_floorMod_7cf53_4 rfl rfl ?_
  refine V_iload_n d_J9_floorMod_7cf53_5 rfl rfl ?_
  refine V_ixor d_J9_floorMod_7cf53_6 ?_
  refine V_if_ge (tgt := 18) d_J9_floorMod_7cf53_7 (by decide) (fun c7 => ?_) (fun c7 => ?_)
  · replace hf := iteT c7 hf
    refine V_less (ls' := [none, none, some _]) ⟨rfl, trivial⟩ ?_
    exact s_J9_floorMod_7cf53_j18 hG hf hK
  · replace hf := iteF c7 hf
    refine V_iload_n d_J9_floorMod_7cf53_10 rfl rfl ?_
    refine V_if_eq (tgt := 18) d_J9_floorMod_7cf53_11 (by decide) (fun c11 => ?_) (fun c11 => ?_)
    · replace hf := iteT c11 hf
      refine V_less (ls' := [none, none, some _]) ⟨rfl, trivial⟩ ?_
      exact s_J9_floorMod_7cf53_j18 hG hf hK
    · replace hf := iteF c11 hf
      refine V_iload_n d_J9_floorMod_7cf53_14 rfl rfl ?_
      refine V_iload_n d_J9_floorMod_7cf53_15 rfl rfl ?_
      refine V_iadd d_J9_floorMod_7cf53_16 ?_
      cases hf
      exact R_i hK d_J9_floorMod_7cf53_17 (Nat.le_of_ble_eq_true rfl) (Nat.le_of_ble_eq_true rfl)
theorem s_J9_floorMod_7cf53 {G : Gl} (hG : G.1.stackTraces = false) {μ : Mem} {p0 : Int32} {p1 : Int32} {r : Int32} (hf : f_J9_floorMod_7cf53 μ p0 p1 = some r) : Rt G yJ9_floorMod_7cf53 F_J9_floorMod_7cf53 (some .int) [.int p0, .int p1] μ (some (.int r)) μ := fun n => Sd.ofJ hG ⟨by decide +kernel, rfl, rfl⟩ rfl (Nat.le_of_ble_eq_true rfl) rfl (fun C hK => s_J9_floorMod_7cf53_e hG hf hK)
theorem d_X1_rowAt_0 : decode cX1_rowAt 0 = .ok (.aload_n 0, 1) := by decide +kernel
theorem d_X1_rowAt_1 : decode cX1_rowAt 1 = .ok (.getfield 9, 3) := by decide +kernel
theorem d_X1_rowAt_4 : decode cX1_rowAt 4 = .ok (.aload_n 0, 1) := by decide +kernel
theorem d_X1_rowAt_5 : decode cX1_rowAt 5 = .ok (.getfield 15, 3) := by decide +kernel
theorem d_X1_rowAt_8 : decode cX1_rowAt 8 = .ok (.iconst 1, 1) := by decide +kernel
theorem d_X1_rowAt_9 : decode cX1_rowAt 9 = .ok (.isub, 1) := by decide +kernel
theorem d_X1_rowAt_10 : decode cX1_rowAt 10 = .ok (.iload_n 1, 1) := by decide +kernel
theorem d_X1_rowAt_11 : decode cX1_rowAt 11 = .ok (.isub, 1) := by decide +kernel
theorem d_X1_rowAt_12 : decode cX1_rowAt 12 = .ok (.bipush 60, 2) := by decide +kernel
theorem d_X1_rowAt_14 : decode cX1_rowAt 14 = .ok (.invokestatic 44, 3) := by decide +kernel
theorem d_X1_rowAt_17 : decode cX1_rowAt 17 = .ok (.iaload, 1) := by decide +kernel
theorem d_X1_rowAt_18 : decode cX1_rowAt 18 = .ok (.ireturn, 1) := by decide +kernel
theorem s_X1_rowAt_e {G : Gl} (hG : G.1.stackTraces = false) {C : Cx} {n : Nat} {μ : Mem} {a0 : Nat} {p1 : Int32} (ha0 : a0 ∈ bookL) {r : Int32} (hf : f_X1_rowAt μ a0 p1 = some r) (hK : FinR G C F_X1_rowAt (some .int) (some (.int r)) μ) : V G C F_X1_rowAt 0 [some (.ref (G.2.1 + a0)), some (.int p1)] [] (pic G μ) n 0 0 := by
  unfold f_X1_rowAt at hf
  refine V_aload_n d_X1_rowAt_0 rfl rfl ?_
  refine B_get (kBook _ ha0) fl_RX1_9 d_X1_rowAt_1 g_1_0 ?_
  refine V_aload_n d_X1_rowAt_4 rfl rfl ?_
  refine B_get (kBook _ ha0) fl_RX1_15 d_X1_rowAt_5 g_1_1 ?_
  refine V_iconst (v := 1) d_X1_rowAt_8 ic_1 ?_
  refine V_isub d_X1_rowAt_9 ?_
  refine V_iload_n d_X1_rowAt_10 rfl rfl ?_
  refine V_isub d_X1_rowAt_11 ?_
  refine V_bipush (v := 60) d_X1_rowAt_12 bp_60 ?_
  obtain ⟨t1, ht1, hf⟩ := ob hf
  refine B_callS1 (s_J9_floorMod_7cf53 hG ht1) m_J9_floorMod_7cf53 ks_RX1_44 d_X1_rowAt_14 rfl (Nat.le_of_ble_eq_true rfl) ⟨rfl, rfl, Nat.le_of_ble_eq_true rfl, Nat.le_of_ble_eq_true rfl, Nat.le_of_ble_eq_true rfl⟩ (fun n => ?_)
  obtain ⟨t2, ht2, hf⟩ := ob hf
  refine B_iald (kBook_1 _ ha0) ht2 d_X1_rowAt_17 ?_
  cases hf
  exact R_i hK d_X1_rowAt_18 (Nat.le_of_ble_eq_true rfl) (Nat.le_of_ble_eq_true rfl)
theorem s_X1_rowAt {G : Gl} (hG : G.1.stackTraces = false) {μ : Mem} {a0 : Nat} {p1 : Int32} (ha0 : a0 ∈ bookL) {r : Int32} (hf : f_X1_rowAt μ a0 p1 = some r) : Rt G yX1_rowAt F_X1_rowAt (some .int) [.ref (G.2.1 + a0), .int p1] μ (some (.int r)) μ := fun n => Sd.of hG ⟨by decide +kernel, rfl, rfl⟩ rfl (Nat.le_of_ble_eq_true rfl) rfl (fun C hK => s_X1_rowAt_e hG ha0 hf hK)
theorem d_X1_dayAt_0 : decode cX1_dayAt 0 = .ok (.aload_n 0, 1) := by decide +kernel
theorem d_X1_dayAt_1 : decode cX1_dayAt 1 = .ok (.iload_n 1, 1) := by decide +kernel
theorem d_X1_dayAt_2 : decode cX1_dayAt 2 = .ok (.invokevirtual 34, 3) := by decide +kernel
theorem d_X1_dayAt_5 : decode cX1_dayAt 5 = .ok (.bipush 16, 2) := by decide +kernel
theorem d_X1_dayAt_7 : decode cX1_dayAt 7 = .ok (.ishr, 1) := by decide +kernel
theorem d_X1_dayAt_8 : decode cX1_dayAt 8 = .ok (.ireturn, 1) := by decide +kernel
theorem s_X1_dayAt_e {G : Gl} (hG : G.1.stackTraces = false) {C : Cx} {n : Nat} {μ : Mem} {a0 : Nat} {p1 : Int32} (ha0 : a0 ∈ bookL) {r : Int32} (hf : f_X1_dayAt μ a0 p1 = some r) (hK : FinR G C F_X1_dayAt (some .int) (some (.int r)) μ) : V G C F_X1_dayAt 0 [some (.ref (G.2.1 + a0)), some (.int p1)] [] (pic G μ) n 0 0 := by
  unfold f_X1_dayAt at hf
  refine V_aload_n d_X1_dayAt_0 rfl rfl ?_
  refine V_iload_n d_X1_dayAt_1 rfl rfl ?_
  obtain ⟨t1, ht1, hf⟩ := ob hf
  refine B_callV1 (s_X1_rowAt hG ha0 ht1) (kBook _ ha0) clX1 m_X1_rowAt kv_RX1_34 d_X1_dayAt_2 rfl (Nat.le_of_ble_eq_true rfl) ⟨rfl, rfl, Nat.le_of_ble_eq_true rfl, Nat.le_of_ble_eq_true rfl, Nat.le_of_ble_eq_true rfl⟩ (fun n => ?_)
  refine V_bipush (v := 16) d_X1_dayAt_5 bp_16 ?_
  refine V_ishr d_X1_dayAt_7 ?_
  cases hf
  exact R_i hK d_X1_dayAt_8 (Nat.le_of_ble_eq_true rfl) (Nat.le_of_ble_eq_true rfl)
theorem s_X1_dayAt {G : Gl} (hG : G.1.stackTraces = false) {μ : Mem} {a0 : Nat} {p1 : Int32} (ha0 : a0 ∈ bookL) {r : Int32} (hf : f_X1_dayAt μ a0 p1 = some r) : Rt G yX1_dayAt F_X1_dayAt (some .int) [.ref (G.2.1 + a0), .int p1] μ (some (.int r)) μ := fun n => Sd.of hG ⟨by decide +kernel, rfl, rfl⟩ rfl (Nat.le_of_ble_eq_true rfl) rfl (fun C hK => s_X1_dayAt_e hG ha0 hf hK)
theorem d_X1_laceAt_0 : decode cX1_laceAt 0 = .ok (.aload_n 0, 1) := by decide +kernel
theorem d_X1_laceAt_1 : decode cX1_laceAt 1 = .ok (.iload_n 1, 1) := by decide +kernel
theorem d_X1_laceAt_2 : decode cX1_laceAt 2 = .ok (.invokevirtual 34, 3) := by decide +kernel
theorem d_X1_laceAt_5 : decode cX1_laceAt 5 = .ok (.bipush 12, 2) := by decide +kernel
theorem d_X1_laceAt_7 : decode cX1_laceAt 7 = .ok (.ishr, 1) := by decide +kernel
theorem d_X1_laceAt_8 : decode cX1_laceAt 8 = .ok (.bipush 15, 2) := by decide +kernel
theorem d_X1_laceAt_10 : decode cX1_laceAt 10 = .ok (.iand, 1) := by decide +kernel
theorem d_X1_laceAt_11 : decode cX1_laceAt 11 = .ok (.ireturn, 1) := by decide +kernel
theorem s_X1_laceAt_e {G : Gl} (hG : G.1.stackTraces = false) {C : Cx} {n : Nat} {μ : Mem} {a0 : Nat} {p1 : Int32} (ha0 : a0 ∈ bookL) {r : Int32} (hf : f_X1_laceAt μ a0 p1 = some r) (hK : FinR G C F_X1_laceAt (some .int) (some (.int r)) μ) : V G C F_X1_laceAt 0 [some (.ref (G.2.1 + a0)), some (.int p1)] [] (pic G μ) n 0 0 := by
  unfold f_X1_laceAt at hf
  refine V_aload_n d_X1_laceAt_0 rfl rfl ?_
  refine V_iload_n d_X1_laceAt_1 rfl rfl ?_
  obtain ⟨t1, ht1, hf⟩ := ob hf
  refine B_callV1 (s_X1_rowAt hG ha0 ht1) (kBook _ ha0) clX1 m_X1_rowAt kv_RX1_34 d_X1_laceAt_2 rfl (Nat.le_of_ble_eq_true rfl) ⟨rfl, rfl, Nat.le_of_ble_eq_true rfl, Nat.le_of_ble_eq_true rfl, Nat.le_of_ble_eq_true rfl⟩ (fun n => ?_)
  refine V_bipush (v := 12) d_X1_laceAt_5 bp_12 ?_
  refine V_ishr d_X1_laceAt_7 ?_
  refine V_bipush (v := 15) d_X1_laceAt_8 bp_15 ?_
  refine V_iand d_X1_laceAt_10 ?_
  cases hf
  exact R_i hK d_X1_laceAt_11 (Nat.le_of_ble_eq_true rfl) (Nat.le_of_ble_eq_true rfl)
theorem s_X1_laceAt {G : Gl} (hG : G.1.stackTraces = false) {μ : Mem} {a0 : Nat} {p1 : Int32} (ha0 : a0 ∈ bookL) {r : Int32} (hf : f_X1_laceAt μ a0 p1 = some r) : Rt G yX1_laceAt F_X1_laceAt (some .int) [.ref (G.2.1 + a0), .int p1] μ (some (.int r)) μ := fun n => Sd.of hG ⟨by decide +kernel, rfl, rfl⟩ rfl (Nat.le_of_ble_eq_true rfl) rfl (fun C hK => s_X1_laceAt_e hG ha0 hf hK)
theorem d_X1_whatAt_0 : decode cX1_whatAt 0 = .ok (.aload_n 0, 1) := by decide +kernel
theorem d_X1_whatAt_1 : decode cX1_whatAt 1 = .ok (.iload_n 1, 1) := by decide +kernel
theorem d_X1_whatAt_2 : decode cX1_whatAt 2 = .ok (.invokevirtual 34, 3) := by decide +kernel
theorem d_X1_whatAt_5 : decode cX1_whatAt 5 = .ok (.bipush 10, 2) := by decide +kernel
theorem d_X1_whatAt_7 : decode cX1_whatAt 7 = .ok (.ishr, 1) := by decide +kernel
theorem d_X1_whatAt_8 : decode cX1_whatAt 8 = .ok (.iconst 3, 1) := by decide +kernel
theorem d_X1_whatAt_9 : decode cX1_whatAt 9 = .ok (.iand, 1) := by decide +kernel
theorem d_X1_whatAt_10 : decode cX1_whatAt 10 = .ok (.ireturn, 1) := by decide +kernel
theorem s_X1_whatAt_e {G : Gl} (hG : G.1.stackTraces = false) {C : Cx} {n : Nat} {μ : Mem} {a0 : Nat} {p1 : Int32} (ha0 : a0 ∈ bookL) {r : Int32} (hf : f_X1_whatAt μ a0 p1 = some r) (hK : FinR G C F_X1_whatAt (some .int) (some (.int r)) μ) : V G C F_X1_whatAt 0 [some (.ref (G.2.1 + a0)), some (.int p1)] [] (pic G μ) n 0 0 := by
  unfold f_X1_whatAt at hf
  refine V_aload_n d_X1_whatAt_0 rfl rfl ?_
  refine V_iload_n d_X1_whatAt_1 rfl rfl ?_
  obtain ⟨t1, ht1, hf⟩ := ob hf
  refine B_callV1 (s_X1_rowAt hG ha0 ht1) (kBook _ ha0) clX1 m_X1_rowAt kv_RX1_34 d_X1_whatAt_2 rfl (Nat.le_of_ble_eq_true rfl) ⟨rfl, rfl, Nat.le_of_ble_eq_true rfl, Nat.le_of_ble_eq_true rfl, Nat.le_of_ble_eq_true rfl⟩ (fun n => ?_)
  refine V_bipush (v := 10) d_X1_whatAt_5 bp_10 ?_
  refine V_ishr d_X1_whatAt_7 ?_
  refine V_iconst (v := 3) d_X1_whatAt_8 ic_3 ?_
  refine V_iand d_X1_whatAt_9 ?_
  cases hf
  exact R_i hK d_X1_whatAt_10 (Nat.le_of_ble_eq_true rfl) (Nat.le_of_ble_eq_true rfl)
theorem s_X1_whatAt {G : Gl} (hG : G.1.stackTraces = false) {μ : Mem} {a0 : Nat} {p1 : Int32} (ha0 : a0 ∈ bookL) {r : Int32} (hf : f_X1_whatAt μ a0 p1 = some r) : Rt G yX1_whatAt F_X1_whatAt (some .int) [.ref (G.2.1 + a0), .int p1] μ (some (.int r)) μ := fun n => Sd.of hG ⟨by decide +kernel, rfl, rfl⟩ rfl (Nat.le_of_ble_eq_true rfl) rfl (fun C hK => s_X1_whatAt_e hG ha0 hf hK)
theorem d_X1_amountAt_0 : decode cX1_amountAt 0 = .ok (.aload_n 0, 1) := by decide +kernel
theorem d_X1_amountAt_1 : decode cX1_amountAt 1 = .ok (.iload_n 1, 1) := by decide +kernel
theorem d_X1_amountAt_2 : decode cX1_amountAt 2 = .ok (.invokevirtual 34, 3) := by decide +kernel
theorem d_X1_amountAt_5 : decode cX1_amountAt 5 = .ok (.sipush 1023, 3) := by decide +kernel
theorem d_X1_amountAt_8 : decode cX1_amountAt 8 = .ok (.iand, 1) := by decide +kernel
theorem d_X1_amountAt_9 : decode cX1_amountAt 9 = .ok (.ireturn, 1) := by decide +kernel
theorem s_X1_amountAt_e {G : Gl} (hG : G.1.stackTraces = false) {C : Cx} {n : Nat} {μ : Mem} {a0 : Nat} {p1 : Int32} (ha0 : a0 ∈ bookL) {r : Int32} (hf : f_X1_amountAt μ a0 p1 = some r) (hK : FinR G C F_X1_amountAt (some .int) (some (.int r)) μ) : V G C F_X1_amountAt 0 [some (.ref (G.2.1 + a0)), some (.int p1)] [] (pic G μ) n 0 0 := by
  unfold f_X1_amountAt at hf
  refine V_aload_n d_X1_amountAt_0 rfl rfl ?_
  refine V_iload_n d_X1_amountAt_1 rfl rfl ?_
  obtain ⟨t1, ht1, hf⟩ := ob hf
  refine B_callV1 (s_X1_rowAt hG ha0 ht1) (kBook _ ha0) clX1 m_X1_rowAt kv_RX1_34 d_X1_amountAt_2 rfl (Nat.le_of_ble_eq_true rfl) ⟨rfl, rfl, Nat.le_of_ble_eq_true rfl, Nat.le_of_ble_eq_true rfl, Nat.le_of_ble_eq_true rfl⟩ (fun n => ?_)
  refine V_sipush (v := 1023) d_X1_amountAt_5 sp_1023 ?_
  refine V_iand d_X1_amountAt_8 ?_
  cases hf
  exact R_i hK d_X1_amountAt_9 (Nat.le_of_ble_eq_true rfl) (Nat.le_of_ble_eq_true rfl)
theorem s_X1_amountAt {G : Gl} (hG : G.1.stackTraces = false) {μ : Mem} {a0 : Nat} {p1 : Int32} (ha0 : a0 ∈ bookL) {r : Int32} (hf : f_X1_amountAt μ a0 p1 = some r) : Rt G yX1_amountAt F_X1_amountAt (some .int) [.ref (G.2.1 + a0), .int p1] μ (some (.int r)) μ := fun n => Sd.of hG ⟨by decide +kernel, rfl, rfl⟩ rfl (Nat.le_of_ble_eq_true rfl) rfl (fun C hK => s_X1_amountAt_e hG ha0 hf hK)
theorem d_X1_rowsOf_0 : decode cX1_rowsOf 0 = .ok (.iconst 0, 1) := by decide +kernel
theorem d_X1_rowsOf_1 : decode cX1_rowsOf 1 = .ok (.istore_n 2, 1) := by decide +kernel
theorem d_X1_rowsOf_2 : decode cX1_rowsOf 2 = .ok (.iconst 0, 1) := by decide +kernel
theorem d_X1_rowsOf_3 : decode cX1_rowsOf 3 = .ok (.istore_n 3, 1) := by decide +kernel
theorem d_X1_rowsOf_4 : decode cX1_rowsOf 4 = .ok (.iload_n 3, 1) := by decide +kernel
theorem d_X1_rowsOf_5 : decode cX1_rowsOf 5 = .ok (.aload_n 0, 1) := by decide +kernel
theorem d_X1_rowsOf_6 : decode cX1_rowsOf 6 = .ok (.getfield 19, 3) := by decide +kernel
theorem d_X1_rowsOf_9 : decode cX1_rowsOf 9 = .ok (.if_icmp .ge 21, 3) := by decide +kernel
theorem d_X1_rowsOf_12 : decode cX1_rowsOf 12 = .ok (.aload_n 0, 1) := by decide +kernel
theorem d_X1_rowsOf_13 : decode cX1_rowsOf 13 = .ok (.iload_n 3, 1) := by decide +kernel
theorem d_X1_rowsOf_14 : decode cX1_rowsOf 14 = .ok (.invokevirtual 38, 3) := by decide +kernel
theorem d_X1_rowsOf_17 : decode cX1_rowsOf 17 = .ok (.iload_n 1, 1) := by decide +kernel
theorem d_X1_rowsOf_18 : decode cX1_rowsOf 18 = .ok (.if_icmp .ne 6, 3) := by decide +kernel
theorem d_X1_rowsOf_21 : decode cX1_rowsOf 21 = .ok (.iinc 2 1, 3) := by decide +kernel
theorem d_X1_rowsOf_24 : decode cX1_rowsOf 24 = .ok (.iinc 3 1, 3) := by decide +kernel
theorem d_X1_rowsOf_27 : decode cX1_rowsOf 27 = .ok (.goto (-23), 3) := by decide +kernel
theorem d_X1_rowsOf_30 : decode cX1_rowsOf 30 = .ok (.iload_n 2, 1) := by decide +kernel
theorem d_X1_rowsOf_31 : decode cX1_rowsOf 31 = .ok (.ireturn, 1) := by decide +kernel
theorem s_X1_rowsOf_b4 {G : Gl} (hG : G.1.stackTraces = false) {C : Cx} {n : Nat} {μ : Mem} {a0 : Nat} {l1 : Int32} {l2 : Int32} {l3 : Int32} (ha0 : a0 ∈ bookL) {y : ((Int32 × Int32) ⊕ Int32)} (hf : f_X1_rowsOf_b4 μ a0 l1 l2 l3 = some y) (hK : (∀ z', y = .inl z' → ∀ n, V G C F_X1_rowsOf 4 [some (.ref (G.2.1 + a0)), some (.int l1), some (.int z'.1), some (.int z'.2)] [] (pic G μ) n 0 0) ∧ (∀ x', y = .inr x' → ∀ n, V G C F_X1_rowsOf 30 [none, none, some (.int x'), none] [] (pic G μ) n 0 0)) : V G C F_X1_rowsOf 4 [some (.ref (G.2.1 + a0)), some (.int l1), some (.int l2), some (.int l3)] [] (pic G μ) n 0 0 := by
  unfold f_X1_rowsOf_b4 at hf
  refine V_iload_n d_X1_rowsOf_4 rfl rfl ?_
  refine V_aload_n d_X1_rowsOf_5 rfl rfl ?_
  refine B_get (kBook _ ha0) fl_RX1_19 d_X1_rowsOf_6 g_1_2 ?_
  refine V_icmp_ge (tgt := 30) d_X1_rowsOf_9 (by decide) (fun c9 => ?_) (fun c9 => ?_)
  · replace hf := iteT c9 hf
    refine V_less (ls' := [none, none, some _, none]) ⟨rfl, trivial⟩ ?_
    cases hf
    exact hK.2 _ rfl _
  · replace hf := iteF c9 hf
    refine V_aload_n d_X1_rowsOf_12 rfl rfl ?_
    refine V_iload_n d_X1_rowsOf_13 rfl rfl ?_
    obtain ⟨t1, ht1, hf⟩ := ob hf
    refine B_callV1 (s_X1_laceAt hG ha0 ht1) (kBook _ ha0) clX1 m_X1_laceAt kv_RX1_38 d_X1_rowsOf_14 rfl (Nat.le_of_ble_eq_true rfl) ⟨rfl, rfl, Nat.le_of_ble_eq_true rfl, Nat.le_of_ble_eq_true rfl, Nat.le_of_ble_eq_true rfl⟩ (fun n => ?_)
    refine V_iload_n d_X1_rowsOf_17 rfl rfl ?_
    have hJj2 : ∀ j2 : Int32, j2 = (if t1 = l1 then ((l2 + 1) : Int32) else l2) → V G C F_X1_rowsOf 24 [some (.ref (G.2.1 + a0)), some (.int l1), some (.int j2), some (.int l3)] [] (pic G μ) n 0 0 := by
      intro j2 ej2
      subst ej2
      refine V_iinc (v := (l3 + 1)) (ls' := [_, _, _, _]) d_X1_rowsOf_24 rfl (by rw [ic_1]) rfl ?_
      refine V_goto (tgt := 4) d_X1_rowsOf_27 (by decide) ?_
      refine V_less (ls' := [some _, some _, some _, some _]) ⟨rfl, rfl, rfl, rfl, trivial⟩ ?_
      cases hf
      exact hK.1 _ rfl _
    refine V_icmp_ne (tgt := 24) d_X1_rowsOf_18 (by decide) (fun c18 => ?_) (fun c18 => ?_)
    · refine V_less (ls' := [some _, some _, some _, some _]) ⟨rfl, rfl, rfl, rfl, trivial⟩ ?_
      exact hJj2 l2 (by rw [if_neg c18])
    · refine V_iinc (v := (l2 + 1)) (ls' := [_, _, _, _]) d_X1_rowsOf_21 rfl (by rw [ic_1]) rfl ?_
      refine V_less (ls' := [some _, some _, some _, some _]) ⟨rfl, rfl, rfl, rfl, trivial⟩ ?_
      exact hJj2 (l2 + 1) (by rw [if_pos c18])
theorem s_X1_rowsOf_j30 {G : Gl} (hG : G.1.stackTraces = false) {C : Cx} {n : Nat} {μ : Mem} {a0 : Nat} {l2 : Int32} (ha0 : a0 ∈ bookL) {r : Int32} (hf : f_X1_rowsOf_j30 μ a0 l2 = some r) (hK : FinR G C F_X1_rowsOf (some .int) (some (.int r)) μ) : V G C F_X1_rowsOf 30 [none, none, some (.int l2), none] [] (pic G μ) n 0 0 := by
  unfold f_X1_rowsOf_j30 at hf
  refine V_iload_n d_X1_rowsOf_30 rfl rfl ?_
  cases hf
  exact R_i hK d_X1_rowsOf_31 (Nat.le_of_ble_eq_true rfl) (Nat.le_of_ble_eq_true rfl)
theorem s_X1_rowsOf_l4 {G : Gl} (hG : G.1.stackTraces = false) {C : Cx} {n : Nat} {μ : Mem} {a0 : Nat} {l1 : Int32} {l2 : Int32} {l3 : Int32} (ha0 : a0 ∈ bookL) {r : Int32} (hf : f_X1_rowsOf_l4 μ a0 l1 l2 l3 = some r) (hK : FinR G C F_X1_rowsOf (some .int) (some (.int r)) μ) : V G C F_X1_rowsOf 4 [some (.ref (G.2.1 + a0)), some (.int l1), some (.int l2), some (.int l3)] [] (pic G μ) n 0 0 := by
  unfold f_X1_rowsOf_l4 at hf
  obtain ⟨t, hl, hf⟩ := ob hf
  refine loopV (P := fun z => ∀ n, V G C F_X1_rowsOf 4 [some (.ref (G.2.1 + a0)), some (.int l1), some (.int z.1), some (.int z.2)] [] (pic G μ) n 0 0) (t := t) ?_ _ _ hl n
  intro z y' hy hI hT n
  refine s_X1_rowsOf_b4 hG ha0 hy ⟨hI, fun x9 ex => ?_⟩
  have ex2 := hT x9 ex
  subst ex2
  intro n
  exact s_X1_rowsOf_j30 hG ha0 hf hK
theorem s_X1_rowsOf_e {G : Gl} (hG : G.1.stackTraces = false) {C : Cx} {n : Nat} {μ : Mem} {a0 : Nat} {p1 : Int32} (ha0 : a0 ∈ bookL) {r : Int32} (hf : f_X1_rowsOf μ a0 p1 = some r) (hK : FinR G C F_X1_rowsOf (some .int) (some (.int r)) μ) : V G C F_X1_rowsOf 0 [some (.ref (G.2.1 + a0)), some (.int p1), none, none] [] (pic G μ) n 0 0 := by
  unfold f_X1_rowsOf at hf
  refine V_iconst (v := 0) d_X1_rowsOf_0 ic_0 ?_
  refine V_istore_n (ls' := [_, _, _, _]) d_X1_rowsOf_1 rfl rfl rfl ?_
  refine V_iconst (v := 0) d_X1_rowsOf_2 ic_0 ?_
  refine V_istore_n (ls' := [_, _, _, _]) d_X1_rowsOf_3 rfl rfl rfl ?_
  refine V_less (ls' := [some _, some _, some _, some _]) ⟨rfl, rfl, rfl, rfl, trivial⟩ ?_
  exact s_X1_rowsOf_l4 hG ha0 hf hK
theorem s_X1_rowsOf {G : Gl} (hG : G.1.stackTraces = false) {μ : Mem} {a0 : Nat} {p1 : Int32} (ha0 : a0 ∈ bookL) {r : Int32} (hf : f_X1_rowsOf μ a0 p1 = some r) : Rt G yX1_rowsOf F_X1_rowsOf (some .int) [.ref (G.2.1 + a0), .int p1] μ (some (.int r)) μ := fun n => Sd.of hG ⟨by decide +kernel, rfl, rfl⟩ rfl (Nat.le_of_ble_eq_true rfl) rfl (fun C hK => s_X1_rowsOf_e hG ha0 hf hK)
theorem d_X1_latestDayOf_0 : decode cX1_latestDayOf 0 = .ok (.iconst 0, 1) := by decide +kernel
theorem d_X1_latestDayOf_1 : decode cX1_latestDayOf 1 = .ok (.istore_n 2, 1) := by decide +kernel
theorem d_X1_latestDayOf_2 : decode cX1_latestDayOf 2 = .ok (.iload_n 2, 1) := by decide +kernel
theorem d_X1_latestDayOf_3 : decode cX1_latestDayOf 3 = .ok (.aload_n 0, 1) := by decide +kernel
theorem d_X1_latestDayOf_4 : decode cX1_latestDayOf 4 = .ok (.getfield 19, 3) := by decide +kernel
theorem d_X1_latestDayOf_7 : decode cX1_latestDayOf 7 = .ok (.if_icmp .ge 24, 3) := by decide +kernel
theorem d_X1_latestDayOf_10 : decode cX1_latestDayOf 10 = .ok (.aload_n 0, 1) := by decide +kernel
theorem d_X1_latestDayOf_11 : decode cX1_latestDayOf 11 = .ok (.iload_n 2, 1) := by decide +kernel
theorem d_X1_latestDayOf_12 : decode cX1_latestDayOf 12 = .ok (.invokevirtual 38, 3) := by decide +kernel
theorem d_X1_latestDayOf_15 : decode cX1_latestDayOf 15 = .ok (.iload_n 1, 1) := by decide +kernel
theorem d_X1_latestDayOf_16 : decode cX1_latestDayOf 16 = .ok (.if_icmp .ne 9, 3) := by decide +kernel
theorem d_X1_latestDayOf_19 : decode cX1_latestDayOf 19 = .ok (.aload_n 0, 1) := by decide +kernel
theorem d_X1_latestDayOf_20 : decode cX1_latestDayOf 20 = .ok (.iload_n 2, 1) := by decide +kernel
theorem d_X1_latestDayOf_21 : decode cX1_latestDayOf 21 = .ok (.invokevirtual 41, 3) := by decide +kernel
theorem d_X1_latestDayOf_24 : decode cX1_latestDayOf 24 = .ok (.ireturn, 1) := by decide +kernel
theorem d_X1_latestDayOf_25 : decode cX1_latestDayOf 25 = .ok (.iinc 2 1, 3) := by decide +kernel
theorem d_X1_latestDayOf_28 : decode cX1_latestDayOf 28 = .ok (.goto (-26), 3) := by decide +kernel
theorem d_X1_latestDayOf_31 : decode cX1_latestDayOf 31 = .ok (.iconst (-1), 1) := by decide +kernel
theorem d_X1_latestDayOf_32 : decode cX1_latestDayOf 32 = .ok (.ireturn, 1) := by decide +kernel
theorem s_X1_latestDayOf_b2 {G : Gl} (hG : G.1.stackTraces = false) {C : Cx} {n : Nat} {μ : Mem} {a0 : Nat} {l1 : Int32} {l2 : Int32} (ha0 : a0 ∈ bookL) {y : (Int32 ⊕ (Unit ⊕ Int32))} (hf : f_X1_latestDayOf_b2 μ a0 l1 l2 = some y) (hK : (∀ z', y = .inl z' → ∀ n, V G C F_X1_latestDayOf 2 [some (.ref (G.2.1 + a0)), some (.int l1), some (.int z')] [] (pic G μ) n 0 0) ∧ (∀ x', y = .inr x' → ((∀ x'', x' = .inl x'' → ∀ n, V G C F_X1_latestDayOf 31 [none, none, none] [] (pic G μ) n 0 0) ∧ (∀ x''', x' = .inr x''' → FinR G C F_X1_latestDayOf (some .int) (some (.int x''')) μ)))) : V G C F_X1_latestDayOf 2 [some (.ref (G.2.1 + a0)), some (.int l1), some (.int l2)] [] (pic G μ) n 0 0 := by
  unfold f_X1_latestDayOf_b2 at hf
  refine V_iload_n d_X1_latestDayOf_2 rfl rfl ?_
  refine V_aload_n d_X1_latestDayOf_3 rfl rfl ?_
  refine B_get (kBook _ ha0) fl_RX1_19 d_X1_latestDayOf_4 g_1_2 ?_
  refine V_icmp_ge (tgt := 31) d_X1_latestDayOf_7 (by decide) (fun c7 => ?_) (fun c7 => ?_)
  · replace hf := iteT c7 hf
    refine V_less (ls' := [none, none, none]) trivial ?_
    cases hf
    exact (hK.2 _ rfl).1 _ rfl _
  · replace hf := iteF c7 hf
    refine V_aload_n d_X1_latestDayOf_10 rfl rfl ?_
    refine V_iload_n d_X1_latestDayOf_11 rfl rfl ?_
    obtain ⟨t1, ht1, hf⟩ := ob hf
    refine B_callV1 (s_X1_laceAt hG ha0 ht1) (kBook _ ha0) clX1 m_X1_laceAt kv_RX1_38 d_X1_latestDayOf_12 rfl (Nat.le_of_ble_eq_true rfl) ⟨rfl, rfl, Nat.le_of_ble_eq_true rfl, Nat.le_of_ble_eq_true rfl, Nat.le_of_ble_eq_true rfl⟩ (fun n => ?_)
    refine V_iload_n d_X1_latestDayOf_15 rfl rfl ?_
    refine V_icmp_ne (tgt := 25) d_X1_latestDayOf_16 (by decide) (fun c16 => ?_) (fun c16 => ?_)
    · replace hf := iteF c16 hf
      refine V_iinc (v := (l2 + 1)) (ls' := [_, _, _]) d_X1_latestDayOf_25 rfl (by rw [ic_1]) rfl ?_
      refine V_goto (tgt := 2) d_X1_latestDayOf_28 (by decide) ?_
      refine V_less (ls' := [some _, some _, some _]) ⟨rfl, rfl, rfl, trivial⟩ ?_
      cases hf
      exact hK.1 _ rfl _
    · replace hf := iteT c16 hf
      refine V_aload_n d_X1_latestDayOf_19 rfl rfl ?_
      refine V_iload_n d_X1_latestDayOf_20 rfl rfl ?_
      obtain ⟨t2, ht2, hf⟩ := ob hf
      refine B_callV1 (s_X1_dayAt hG ha0 ht2) (kBook _ ha0) clX1 m_X1_dayAt kv_RX1_41 d_X1_latestDayOf_21 rfl (Nat.le_of_ble_eq_true rfl) ⟨rfl, rfl, Nat.le_of_ble_eq_true rfl, Nat.le_of_ble_eq_true rfl, Nat.le_of_ble_eq_true rfl⟩ (fun n => ?_)
      cases hf
      exact R_i ((hK.2 _ rfl).2 _ rfl) d_X1_latestDayOf_24 (Nat.le_of_ble_eq_true rfl) (Nat.le_of_ble_eq_true rfl)
theorem s_X1_latestDayOf_j31 {G : Gl} (hG : G.1.stackTraces = false) {C : Cx} {n : Nat} {μ : Mem} {a0 : Nat} (ha0 : a0 ∈ bookL) {r : Int32} (hf : f_X1_latestDayOf_j31 μ a0 = some r) (hK : FinR G C F_X1_latestDayOf (some .int) (some (.int r)) μ) : V G C F_X1_latestDayOf 31 [none, none, none] [] (pic G μ) n 0 0 := by
  unfold f_X1_latestDayOf_j31 at hf
  refine V_iconst (v := (-1)) d_X1_latestDayOf_31 ic_m1 ?_
  cases hf
  exact R_i hK d_X1_latestDayOf_32 (Nat.le_of_ble_eq_true rfl) (Nat.le_of_ble_eq_true rfl)
theorem s_X1_latestDayOf_l2 {G : Gl} (hG : G.1.stackTraces = false) {C : Cx} {n : Nat} {μ : Mem} {a0 : Nat} {l1 : Int32} {l2 : Int32} (ha0 : a0 ∈ bookL) {r : Int32} (hf : f_X1_latestDayOf_l2 μ a0 l1 l2 = some r) (hK : FinR G C F_X1_latestDayOf (some .int) (some (.int r)) μ) : V G C F_X1_latestDayOf 2 [some (.ref (G.2.1 + a0)), some (.int l1), some (.int l2)] [] (pic G μ) n 0 0 := by
  unfold f_X1_latestDayOf_l2 at hf
  obtain ⟨t, hl, hf⟩ := ob hf
  refine loopV (P := fun z => ∀ n, V G C F_X1_latestDayOf 2 [some (.ref (G.2.1 + a0)), some (.int l1), some (.int z)] [] (pic G μ) n 0 0) (t := t) ?_ _ _ hl n
  intro z y' hy hI hT n
  refine s_X1_latestDayOf_b2 hG ha0 hy ⟨hI, fun x9 ex => ?_⟩
  have ex2 := hT x9 ex
  subst ex2
  refine ⟨fun e he => ?_, fun x2 hx => ?_⟩
  · subst he
    intro n
    exact s_X1_latestDayOf_j31 hG ha0 hf hK
  · subst hx
    cases hf
    exact hK
theorem s_X1_latestDayOf_e {G : Gl} (hG : G.1.stackTraces = false) {C : Cx} {n : Nat} {μ : Mem} {a0 : Nat} {p1 : Int32} (ha0 : a0 ∈ bookL) {r : Int32} (hf : f_X1_latestDayOf μ a0 p1 = some r) (hK : FinR G C F_X1_latestDayOf (some .int) (some (.int r)) μ) : V G C F_X1_latestDayOf 0 [some (.ref (G.2.1 + a0)), some (.int p1), none] [] (pic G μ) n 0 0 := by
  unfold f_X1_latestDayOf at hf
  refine V_iconst (v := 0) d_X1_latestDayOf_0 ic_0 ?_
  refine V_istore_n (ls' := [_, _, _]) d_X1_latestDayOf_1 rfl rfl rfl ?_
  refine V_less (ls' := [some _, some _, some _]) ⟨rfl, rfl, rfl, trivial⟩ ?_
  exact s_X1_latestDayOf_l2 hG ha0 hf hK
theorem s_X1_latestDayOf {G : Gl} (hG : G.1.stackTraces = false) {μ : Mem} {a0 : Nat} {p1 : Int32} (ha0 : a0 ∈ bookL) {r : Int32} (hf : f_X1_latestDayOf μ a0 p1 = some r) : Rt G yX1_latestDayOf F_X1_latestDayOf (some .int) [.ref (G.2.1 + a0), .int p1] μ (some (.int r)) μ := fun n => Sd.of hG ⟨by decide +kernel, rfl, rfl⟩ rfl (Nat.le_of_ble_eq_true rfl) rfl (fun C hK => s_X1_latestDayOf_e hG ha0 hf hK)
theorem d_X2_letGo_0 : decode cX2_letGo 0 = .ok (.aload_n 0, 1) := by decide +kernel
theorem d_X2_letGo_1 : decode cX2_letGo 1 = .ok (.getfield 46, 3) := by decide +kernel
theorem d_X2_letGo_4 : decode cX2_letGo 4 = .ok (.iload_n 1, 1) := by decide +kernel
theorem d_X2_letGo_5 : decode cX2_letGo 5 = .ok (.iload_n 2, 1) := by decide +kernel
theorem d_X2_letGo_6 : decode cX2_letGo 6 = .ok (.iastore, 1) := by decide +kernel
theorem d_X2_letGo_7 : decode cX2_letGo 7 = .ok (.aload_n 0, 1) := by decide +kernel
theorem d_X2_letGo_8 : decode cX2_letGo 8 = .ok (.getfield 49, 3) := by decide +kernel
theorem d_X2_letGo_11 : decode cX2_letGo 11 = .ok (.iload_n 1, 1) := by decide +kernel
theorem d_X2_letGo_12 : decode cX2_letGo 12 = .ok (.iload_n 3, 1) := by decide +kernel
theorem d_X2_letGo_13 : decode cX2_letGo 13 = .ok (.iastore, 1) := by decide +kernel
theorem d_X2_letGo_14 : decode cX2_letGo 14 = .ok (.aload_n 0, 1) := by decide +kernel
theorem d_X2_letGo_15 : decode cX2_letGo 15 = .ok (.getfield 52, 3) := by decide +kernel
theorem d_X2_letGo_18 : decode cX2_letGo 18 = .ok (.iload_n 1, 1) := by decide +kernel
theorem d_X2_letGo_19 : decode cX2_letGo 19 = .ok (.iconst 0, 1) := by decide +kernel
theorem d_X2_letGo_20 : decode cX2_letGo 20 = .ok (.iastore, 1) := by decide +kernel
theorem d_X2_letGo_21 : decode cX2_letGo 21 = .ok (.aload_n 0, 1) := by decide +kernel
theorem d_X2_letGo_22 : decode cX2_letGo 22 = .ok (.getfield 55, 3) := by decide +kernel
theorem d_X2_letGo_25 : decode cX2_letGo 25 = .ok (.iload_n 1, 1) := by decide +kernel
theorem d_X2_letGo_26 : decode cX2_letGo 26 = .ok (.iconst 0, 1) := by decide +kernel
theorem d_X2_letGo_27 : decode cX2_letGo 27 = .ok (.iastore, 1) := by decide +kernel
theorem d_X2_letGo_28 : decode cX2_letGo 28 = .ok (.aload_n 0, 1) := by decide +kernel
theorem d_X2_letGo_29 : decode cX2_letGo 29 = .ok (.getfield 58, 3) := by decide +kernel
theorem d_X2_letGo_32 : decode cX2_letGo 32 = .ok (.iload_n 1, 1) := by decide +kernel
theorem d_X2_letGo_33 : decode cX2_letGo 33 = .ok (.iconst 0, 1) := by decide +kernel
theorem d_X2_letGo_34 : decode cX2_letGo 34 = .ok (.iastore, 1) := by decide +kernel
theorem d_X2_letGo_35 : decode cX2_letGo 35 = .ok (.aload_n 0, 1) := by decide +kernel
theorem d_X2_letGo_36 : decode cX2_letGo 36 = .ok (.getfield 61, 3) := by decide +kernel
theorem d_X2_letGo_39 : decode cX2_letGo 39 = .ok (.iload_n 1, 1) := by decide +kernel
theorem d_X2_letGo_40 : decode cX2_letGo 40 = .ok (.iconst (-1), 1) := by decide +kernel
theorem d_X2_letGo_41 : decode cX2_letGo 41 = .ok (.iastore, 1) := by decide +kernel
theorem d_X2_letGo_42 : decode cX2_letGo 42 = .ok (.return_, 1) := by decide +kernel
theorem s_X2_letGo_e {G : Gl} (hG : G.1.stackTraces = false) {C : Cx} {n : Nat} {μ : Mem} {a0 : Nat} {p1 : Int32} {p2 : Int32} {p3 : Int32} (ha0 : a0 ∈ landL) {r : Mem} (hf : f_X2_letGo μ a0 p1 p2 p3 = some r) (hK : FinR G C F_X2_letGo none none r) : V G C F_X2_letGo 0 [some (.ref (G.2.1 + a0)), some (.int p1), some (.int p2), some (.int p3)] [] (pic G μ) n 0 0 := by
  unfold f_X2_letGo at hf
  refine V_aload_n d_X2_letGo_0 rfl rfl ?_
  refine B_get (kLand _ ha0) fl_RX2_46 d_X2_letGo_1 g_2_11 ?_
  refine V_iload_n d_X2_letGo_4 rfl rfl ?_
  refine V_iload_n d_X2_letGo_5 rfl rfl ?_
  obtain ⟨μ1, hμ1, hf⟩ := ob hf
  refine B_iast (kLand_6 _ ha0) hμ1 d_X2_letGo_6 ?_
  refine V_aload_n d_X2_letGo_7 rfl rfl ?_
  refine B_get (kLand _ ha0) fl_RX2_49 d_X2_letGo_8 g_2_12 ?_
  refine V_iload_n d_X2_letGo_11 rfl rfl ?_
  refine V_iload_n d_X2_letGo_12 rfl rfl ?_
  obtain ⟨μ2, hμ2, hf⟩ := ob hf
  refine B_iast (kLand_7 _ ha0) hμ2 d_X2_letGo_13 ?_
  refine V_aload_n d_X2_letGo_14 rfl rfl ?_
  refine B_get (kLand _ ha0) fl_RX2_52 d_X2_letGo_15 g_2_13 ?_
  refine V_iload_n d_X2_letGo_18 rfl rfl ?_
  refine V_iconst (v := 0) d_X2_letGo_19 ic_0 ?_
  obtain ⟨μ3, hμ3, hf⟩ := ob hf
  refine B_iast (kLand_8 _ ha0) hμ3 d_X2_letGo_20 ?_
  refine V_aload_n d_X2_letGo_21 rfl rfl ?_
  refine B_get (kLand _ ha0) fl_RX2_55 d_X2_letGo_22 g_2_14 ?_
  refine V_iload_n d_X2_letGo_25 rfl rfl ?_
  refine V_iconst (v := 0) d_X2_letGo_26 ic_0 ?_
  obtain ⟨μ4, hμ4, hf⟩ := ob hf
  refine B_iast (kLand_9 _ ha0) hμ4 d_X2_letGo_27 ?_
  refine V_aload_n d_X2_letGo_28 rfl rfl ?_
  refine B_get (kLand _ ha0) fl_RX2_58 d_X2_letGo_29 g_2_15 ?_
  refine V_iload_n d_X2_letGo_32 rfl rfl ?_
  refine V_iconst (v := 0) d_X2_letGo_33 ic_0 ?_
  obtain ⟨μ5, hμ5, hf⟩ := ob hf
  refine B_iast (kLand_10 _ ha0) hμ5 d_X2_letGo_34 ?_
  refine V_aload_n d_X2_letGo_35 rfl rfl ?_
  refine B_get (kLand _ ha0) fl_RX2_61 d_X2_letGo_36 g_2_16 ?_
  refine V_iload_n d_X2_letGo_39 rfl rfl ?_
  refine V_iconst (v := (-1)) d_X2_letGo_40 ic_m1 ?_
  obtain ⟨μ6, hμ6, hf⟩ := ob hf
  refine B_iast (kLand_11 _ ha0) hμ6 d_X2_letGo_41 ?_
  cases hf
  exact R_v hK d_X2_letGo_42 (Nat.le_of_ble_eq_true rfl) (Nat.le_of_ble_eq_true rfl)
theorem s_X2_letGo {G : Gl} (hG : G.1.stackTraces = false) {μ : Mem} {a0 : Nat} {p1 : Int32} {p2 : Int32} {p3 : Int32} (ha0 : a0 ∈ landL) {r : Mem} (hf : f_X2_letGo μ a0 p1 p2 p3 = some r) : Rt G yX2_letGo F_X2_letGo none [.ref (G.2.1 + a0), .int p1, .int p2, .int p3] μ none r := fun n => Sd.of hG ⟨by decide +kernel, rfl, rfl⟩ rfl (Nat.le_of_ble_eq_true rfl) rfl (fun C hK => s_X2_letGo_e hG ha0 hf hK)
theorem d_X2_addPerson_0 : decode cX2_addPerson 0 = .ok (.aload_n 0, 1) := by decide +kernel
theorem d_X2_addPerson_1 : decode cX2_addPerson 1 = .ok (.getfield 30, 3) := by decide +kernel
theorem d_X2_addPerson_4 : decode cX2_addPerson 4 = .ok (.aload_n 0, 1) := by decide +kernel
theorem d_X2_addPerson_5 : decode cX2_addPerson 5 = .ok (.getfield 9, 3) := by decide +kernel
theorem d_X2_addPerson_8 : decode cX2_addPerson 8 = .ok (.iload_n 1, 1) := by decide +kernel
theorem d_X2_addPerson_9 : decode cX2_addPerson 9 = .ok (.iastore, 1) := by decide +kernel
theorem d_X2_addPerson_10 : decode cX2_addPerson 10 = .ok (.aload_n 0, 1) := by decide +kernel
theorem d_X2_addPerson_11 : decode cX2_addPerson 11 = .ok (.getfield 34, 3) := by decide +kernel
theorem d_X2_addPerson_14 : decode cX2_addPerson 14 = .ok (.aload_n 0, 1) := by decide +kernel
theorem d_X2_addPerson_15 : decode cX2_addPerson 15 = .ok (.getfield 9, 3) := by decide +kernel
theorem d_X2_addPerson_18 : decode cX2_addPerson 18 = .ok (.iload_n 2, 1) := by decide +kernel
theorem d_X2_addPerson_19 : decode cX2_addPerson 19 = .ok (.iastore, 1) := by decide +kernel
theorem d_X2_addPerson_20 : decode cX2_addPerson 20 = .ok (.aload_n 0, 1) := by decide +kernel
theorem d_X2_addPerson_21 : decode cX2_addPerson 21 = .ok (.getfield 37, 3) := by decide +kernel
theorem d_X2_addPerson_24 : decode cX2_addPerson 24 = .ok (.aload_n 0, 1) := by decide +kernel
theorem d_X2_addPerson_25 : decode cX2_addPerson 25 = .ok (.getfield 9, 3) := by decide +kernel
theorem d_X2_addPerson_28 : decode cX2_addPerson 28 = .ok (.iload_n 3, 1) := by decide +kernel
theorem d_X2_addPerson_29 : decode cX2_addPerson 29 = .ok (.iastore, 1) := by decide +kernel
theorem d_X2_addPerson_30 : decode cX2_addPerson 30 = .ok (.aload_n 0, 1) := by decide +kernel
theorem d_X2_addPerson_31 : decode cX2_addPerson 31 = .ok (.getfield 40, 3) := by decide +kernel
theorem d_X2_addPerson_34 : decode cX2_addPerson 34 = .ok (.aload_n 0, 1) := by decide +kernel
theorem d_X2_addPerson_35 : decode cX2_addPerson 35 = .ok (.getfield 9, 3) := by decide +kernel
theorem d_X2_addPerson_38 : decode cX2_addPerson 38 = .ok (.iload_n 3, 1) := by decide +kernel
theorem d_X2_addPerson_39 : decode cX2_addPerson 39 = .ok (.iastore, 1) := by decide +kernel
theorem d_X2_addPerson_40 : decode cX2_addPerson 40 = .ok (.aload_n 0, 1) := by decide +kernel
theorem d_X2_addPerson_41 : decode cX2_addPerson 41 = .ok (.getfield 43, 3) := by decide +kernel
theorem d_X2_addPerson_44 : decode cX2_addPerson 44 = .ok (.aload_n 0, 1) := by decide +kernel
theorem d_X2_addPerson_45 : decode cX2_addPerson 45 = .ok (.getfield 9, 3) := by decide +kernel
theorem d_X2_addPerson_48 : decode cX2_addPerson 48 = .ok (.iconst 0, 1) := by decide +kernel
theorem d_X2_addPerson_49 : decode cX2_addPerson 49 = .ok (.iastore, 1) := by decide +kernel
theorem d_X2_addPerson_50 : decode cX2_addPerson 50 = .ok (.aload_n 0, 1) := by decide +kernel
theorem d_X2_addPerson_51 : decode cX2_addPerson 51 = .ok (.iconst 2, 1) := by decide +kernel
theorem d_X2_addPerson_52 : decode cX2_addPerson 52 = .ok (.aload_n 0, 1) := by decide +kernel
theorem d_X2_addPerson_53 : decode cX2_addPerson 53 = .ok (.getfield 9, 3) := by decide +kernel
theorem d_X2_addPerson_56 : decode cX2_addPerson 56 = .ok (.imul, 1) := by decide +kernel
theorem d_X2_addPerson_57 : decode cX2_addPerson 57 = .ok (.iconst 0, 1) := by decide +kernel
theorem d_X2_addPerson_58 : decode cX2_addPerson 58 = .ok (.iconst (-1), 1) := by decide +kernel
theorem d_X2_addPerson_59 : decode cX2_addPerson 59 = .ok (.invokevirtual 84, 3) := by decide +kernel
theorem d_X2_addPerson_62 : decode cX2_addPerson 62 = .ok (.aload_n 0, 1) := by decide +kernel
theorem d_X2_addPerson_63 : decode cX2_addPerson 63 = .ok (.iconst 2, 1) := by decide +kernel
theorem d_X2_addPerson_64 : decode cX2_addPerson 64 = .ok (.aload_n 0, 1) := by decide +kernel
theorem d_X2_addPerson_65 : decode cX2_addPerson 65 = .ok (.getfield 9, 3) := by decide +kernel
theorem d_X2_addPerson_68 : decode cX2_addPerson 68 = .ok (.imul, 1) := by decide +kernel
theorem d_X2_addPerson_69 : decode cX2_addPerson 69 = .ok (.iconst 1, 1) := by decide +kernel
theorem d_X2_addPerson_70 : decode cX2_addPerson 70 = .ok (.iadd, 1) := by decide +kernel
theorem d_X2_addPerson_71 : decode cX2_addPerson 71 = .ok (.iconst 0, 1) := by decide +kernel
theorem d_X2_addPerson_72 : decode cX2_addPerson 72 = .ok (.iconst (-1), 1) := by decide +kernel
theorem d_X2_addPerson_73 : decode cX2_addPerson 73 = .ok (.invokevirtual 84, 3) := by decide +kernel
theorem d_X2_addPerson_76 : decode cX2_addPerson 76 = .ok (.aload_n 0, 1) := by decide +kernel
theorem d_X2_addPerson_77 : decode cX2_addPerson 77 = .ok (.dup, 1) := by decide +kernel
theorem d_X2_addPerson_78 : decode cX2_addPerson 78 = .ok (.getfield 9, 3) := by decide +kernel
theorem d_X2_addPerson_81 : decode cX2_addPerson 81 = .ok (.iconst 1, 1) := by decide +kernel
theorem d_X2_addPerson_82 : decode cX2_addPerson 82 = .ok (.iadd, 1) := by decide +kernel
theorem d_X2_addPerson_83 : decode cX2_addPerson 83 = .ok (.putfield 9, 3) := by decide +kernel
theorem d_X2_addPerson_86 : decode cX2_addPerson 86 = .ok (.return_, 1) := by decide +kernel
theorem s_X2_addPerson_e {G : Gl} (hG : G.1.stackTraces = false) {C : Cx} {n : Nat} {μ : Mem} {a0 : Nat} {p1 : Int32} {p2 : Int32} {p3 : Int32} (ha0 : a0 ∈ landL) {r : Mem} (hf : f_X2_addPerson μ a0 p1 p2 p3 = some r) (hK : FinR G C F_X2_addPerson none none r) : V G C F_X2_addPerson 0 [some (.ref (G.2.1 + a0)), some (.int p1), some (.int p2), some (.int p3)] [] (pic G μ) n 0 0 := by
  unfold f_X2_addPerson at hf
  refine V_aload_n d_X2_addPerson_0 rfl rfl ?_
  refine B_get (kLand _ ha0) fl_RX2_30 d_X2_addPerson_1 g_2_6 ?_
  refine V_aload_n d_X2_addPerson_4 rfl rfl ?_
  refine B_get (kLand _ ha0) fl_RX2_9 d_X2_addPerson_5 g_2_0 ?_
  refine V_iload_n d_X2_addPerson_8 rfl rfl ?_
  obtain ⟨μ1, hμ1, hf⟩ := ob hf
  refine B_iast (kLand_1 _ ha0) hμ1 d_X2_addPerson_9 ?_
  refine V_aload_n d_X2_addPerson_10 rfl rfl ?_
  refine B_get (kLand _ ha0) fl_RX2_34 d_X2_addPerson_11 g_2_7 ?_
  refine V_aload_n d_X2_addPerson_14 rfl rfl ?_
  refine B_get (kLand _ ha0) fl_RX2_9 d_X2_addPerson_15 g_2_0 ?_
  refine V_iload_n d_X2_addPerson_18 rfl rfl ?_
  obtain ⟨μ2, hμ2, hf⟩ := ob hf
  refine B_iast (kLand_2 _ ha0) hμ2 d_X2_addPerson_19 ?_
  refine V_aload_n d_X2_addPerson_20 rfl rfl ?_
  refine B_get (kLand _ ha0) fl_RX2_37 d_X2_addPerson_21 g_2_8 ?_
  refine V_aload_n d_X2_addPerson_24 rfl rfl ?_
  refine B_get (kLand _ ha0) fl_RX2_9 d_X2_addPerson_25 g_2_0 ?_
  refine V_iload_n d_X2_addPerson_28 rfl rfl ?_
  obtain ⟨μ3, hμ3, hf⟩ := ob hf
  refine B_iast (kLand_3 _ ha0) hμ3 d_X2_addPerson_29 ?_
  refine V_aload_n d_X2_addPerson_30 rfl rfl ?_
  refine B_get (kLand _ ha0) fl_RX2_40 d_X2_addPerson_31 g_2_9 ?_
  refine V_aload_n d_X2_addPerson_34 rfl rfl ?_
  refine B_get (kLand _ ha0) fl_RX2_9 d_X2_addPerson_35 g_2_0 ?_
  refine V_iload_n d_X2_addPerson_38 rfl rfl ?_
  obtain ⟨μ4, hμ4, hf⟩ := ob hf
  refine B_iast (kLand_4 _ ha0) hμ4 d_X2_addPerson_39 ?_
  refine V_aload_n d_X2_addPerson_40 rfl rfl ?_
  refine B_get (kLand _ ha0) fl_RX2_43 d_X2_addPerson_41 g_2_10 ?_
  refine V_aload_n d_X2_addPerson_44 rfl rfl ?_
  refine B_get (kLand _ ha0) fl_RX2_9 d_X2_addPerson_45 g_2_0 ?_
  refine V_iconst (v := 0) d_X2_addPerson_48 ic_0 ?_
  obtain ⟨μ5, hμ5, hf⟩ := ob hf
  refine B_iast (kLand_5 _ ha0) hμ5 d_X2_addPerson_49 ?_
  refine V_aload_n d_X2_addPerson_50 rfl rfl ?_
  refine V_iconst (v := 2) d_X2_addPerson_51 ic_2 ?_
  refine V_aload_n d_X2_addPerson_52 rfl rfl ?_
  refine B_get (kLand _ ha0) fl_RX2_9 d_X2_addPerson_53 g_2_0 ?_
  refine V_imul d_X2_addPerson_56 ?_
  refine V_iconst (v := 0) d_X2_addPerson_57 ic_0 ?_
  refine V_iconst (v := (-1)) d_X2_addPerson_58 ic_m1 ?_
  obtain ⟨q6, hq6, hf⟩ := ob hf
  refine B_callV0 (s_X2_letGo hG ha0 hq6) (kLand _ ha0) clX2 m_X2_letGo kv_RX2_84 d_X2_addPerson_59 rfl (Nat.le_of_ble_eq_true rfl) ⟨rfl, rfl, Nat.le_of_ble_eq_true rfl, Nat.le_of_ble_eq_true rfl, Nat.le_of_ble_eq_true rfl⟩ (fun n => ?_)
  refine V_aload_n d_X2_addPerson_62 rfl rfl ?_
  refine V_iconst (v := 2) d_X2_addPerson_63 ic_2 ?_
  refine V_aload_n d_X2_addPerson_64 rfl rfl ?_
  refine B_get (kLand _ ha0) fl_RX2_9 d_X2_addPerson_65 g_2_0 ?_
  refine V_imul d_X2_addPerson_68 ?_
  refine V_iconst (v := 1) d_X2_addPerson_69 ic_1 ?_
  refine V_iadd d_X2_addPerson_70 ?_
  refine V_iconst (v := 0) d_X2_addPerson_71 ic_0 ?_
  refine V_iconst (v := (-1)) d_X2_addPerson_72 ic_m1 ?_
  obtain ⟨q7, hq7, hf⟩ := ob hf
  refine B_callV0 (s_X2_letGo hG ha0 hq7) (kLand _ ha0) clX2 m_X2_letGo kv_RX2_84 d_X2_addPerson_73 rfl (Nat.le_of_ble_eq_true rfl) ⟨rfl, rfl, Nat.le_of_ble_eq_true rfl, Nat.le_of_ble_eq_true rfl, Nat.le_of_ble_eq_true rfl⟩ (fun n => ?_)
  refine V_aload_n d_X2_addPerson_76 rfl rfl ?_
  refine V_dup d_X2_addPerson_77 rfl ?_
  refine B_get (kLand _ ha0) fl_RX2_9 d_X2_addPerson_78 g_2_0 ?_
  refine V_iconst (v := 1) d_X2_addPerson_81 ic_1 ?_
  refine V_iadd d_X2_addPerson_82 ?_
  refine B_putI (kLand _ ha0) fl_RX2_9 pt_2_0 (Nat.le_of_ble_eq_true rfl) p_2_0 d_X2_addPerson_83 ?_
  cases hf
  exact R_v hK d_X2_addPerson_86 (Nat.le_of_ble_eq_true rfl) (Nat.le_of_ble_eq_true rfl)
theorem s_X2_addPerson {G : Gl} (hG : G.1.stackTraces = false) {μ : Mem} {a0 : Nat} {p1 : Int32} {p2 : Int32} {p3 : Int32} (ha0 : a0 ∈ landL) {r : Mem} (hf : f_X2_addPerson μ a0 p1 p2 p3 = some r) : Rt G yX2_addPerson F_X2_addPerson none [.ref (G.2.1 + a0), .int p1, .int p2, .int p3] μ none r := fun n => Sd.of hG ⟨by decide +kernel, rfl, rfl⟩ rfl (Nat.le_of_ble_eq_true rfl) rfl (fun C hK => s_X2_addPerson_e hG ha0 hf hK)
theorem d_X2_pledge_0 : decode cX2_pledge 0 = .ok (.aload_n 0, 1) := by decide +kernel
theorem d_X2_pledge_1 : decode cX2_pledge 1 = .ok (.getfield 46, 3) := by decide +kernel
theorem d_X2_pledge_4 : decode cX2_pledge 4 = .ok (.iload_n 1, 1) := by decide +kernel
theorem d_X2_pledge_5 : decode cX2_pledge 5 = .ok (.iconst 1, 1) := by decide +kernel
theorem d_X2_pledge_6 : decode cX2_pledge 6 = .ok (.iastore, 1) := by decide +kernel
theorem d_X2_pledge_7 : decode cX2_pledge 7 = .ok (.aload_n 0, 1) := by decide +kernel
theorem d_X2_pledge_8 : decode cX2_pledge 8 = .ok (.getfield 49, 3) := by decide +kernel
theorem d_X2_pledge_11 : decode cX2_pledge 11 = .ok (.iload_n 1, 1) := by decide +kernel
theorem d_X2_pledge_12 : decode cX2_pledge 12 = .ok (.iload_n 2, 1) := by decide +kernel
theorem d_X2_pledge_13 : decode cX2_pledge 13 = .ok (.iastore, 1) := by decide +kernel
theorem d_X2_pledge_14 : decode cX2_pledge 14 = .ok (.aload_n 0, 1) := by decide +kernel
theorem d_X2_pledge_15 : decode cX2_pledge 15 = .ok (.getfield 52, 3) := by decide +kernel
theorem d_X2_pledge_18 : decode cX2_pledge 18 = .ok (.iload_n 1, 1) := by decide +kernel
theorem d_X2_pledge_19 : decode cX2_pledge 19 = .ok (.iload_n 3, 1) := by decide +kernel
theorem d_X2_pledge_20 : decode cX2_pledge 20 = .ok (.iastore, 1) := by decide +kernel
theorem d_X2_pledge_21 : decode cX2_pledge 21 = .ok (.aload_n 0, 1) := by decide +kernel
theorem d_X2_pledge_22 : decode cX2_pledge 22 = .ok (.getfield 55, 3) := by decide +kernel
theorem d_X2_pledge_25 : decode cX2_pledge 25 = .ok (.iload_n 1, 1) := by decide +kernel
theorem d_X2_pledge_26 : decode cX2_pledge 26 = .ok (.iload 4, 2) := by decide +kernel
theorem d_X2_pledge_28 : decode cX2_pledge 28 = .ok (.iastore, 1) := by decide +kernel
theorem d_X2_pledge_29 : decode cX2_pledge 29 = .ok (.aload_n 0, 1) := by decide +kernel
theorem d_X2_pledge_30 : decode cX2_pledge 30 = .ok (.getfield 58, 3) := by decide +kernel
theorem d_X2_pledge_33 : decode cX2_pledge 33 = .ok (.iload_n 1, 1) := by decide +kernel
theorem d_X2_pledge_34 : decode cX2_pledge 34 = .ok (.iload 5, 2) := by decide +kernel
theorem d_X2_pledge_36 : decode cX2_pledge 36 = .ok (.iastore, 1) := by decide +kernel
theorem d_X2_pledge_37 : decode cX2_pledge 37 = .ok (.aload_n 0, 1) := by decide +kernel
theorem d_X2_pledge_38 : decode cX2_pledge 38 = .ok (.getfield 61, 3) := by decide +kernel
theorem d_X2_pledge_41 : decode cX2_pledge 41 = .ok (.iload_n 1, 1) := by decide +kernel
theorem d_X2_pledge_42 : decode cX2_pledge 42 = .ok (.iload 6, 2) := by decide +kernel
theorem d_X2_pledge_44 : decode cX2_pledge 44 = .ok (.iastore, 1) := by decide +kernel
theorem d_X2_pledge_45 : decode cX2_pledge 45 = .ok (.return_, 1) := by decide +kernel
theorem s_X2_pledge_e {G : Gl} (hG : G.1.stackTraces = false) {C : Cx} {n : Nat} {μ : Mem} {a0 : Nat} {p1 : Int32} {p2 : Int32} {p3 : Int32} {p4 : Int32} {p5 : Int32} {p6 : Int32} (ha0 : a0 ∈ landL) {r : Mem} (hf : f_X2_pledge μ a0 p1 p2 p3 p4 p5 p6 = some r) (hK : FinR G C F_X2_pledge none none r) : V G C F_X2_pledge 0 [some (.ref (G.2.1 + a0)), some (.int p1), some (.int p2), some (.int p3), some (.int p4), some (.int p5), some (.int p6)] [] (pic G μ) n 0 0 := by
  unfold f_X2_pledge at hf
  refine V_aload_n d_X2_pledge_0 rfl rfl ?_
  refine B_get (kLand _ ha0) fl_RX2_46 d_X2_pledge_1 g_2_11 ?_
  refine V_iload_n d_X2_pledge_4 rfl rfl ?_
  refine V_iconst (v := 1) d_X2_pledge_5 ic_1 ?_
  obtain ⟨μ1, hμ1, hf⟩ := ob hf
  refine B_iast (kLand_6 _ ha0) hμ1 d_X2_pledge_6 ?_
  refine V_aload_n d_X2_pledge_7 rfl rfl ?_
  refine B_get (kLand _ ha0) fl_RX2_49 d_X2_pledge_8 g_2_12 ?_
  refine V_iload_n d_X2_pledge_11 rfl rfl ?_
  refine V_iload_n d_X2_pledge_12 rfl rfl ?_
  obtain ⟨μ2, hμ2, hf⟩ := ob hf
  refine B_iast (kLand_7 _ ha0) hμ2 d_X2_pledge_13 ?_
  refine V_aload_n d_X2_pledge_14 rfl rfl ?_
  refine B_get (kLand _ ha0) fl_RX2_52 d_X2_pledge_15 g_2_13 ?_
  refine V_iload_n d_X2_pledge_18 rfl rfl ?_
  refine V_iload_n d_X2_pledge_19 rfl rfl ?_
  obtain ⟨μ3, hμ3, hf⟩ := ob hf
  refine B_iast (kLand_8 _ ha0) hμ3 d_X2_pledge_20 ?_
  refine V_aload_n d_X2_pledge_21 rfl rfl ?_
  refine B_get (kLand _ ha0) fl_RX2_55 d_X2_pledge_22 g_2_14 ?_
  refine V_iload_n d_X2_pledge_25 rfl rfl ?_
  refine V_iload d_X2_pledge_26 rfl ?_
  obtain ⟨μ4, hμ4, hf⟩ := ob hf
  refine B_iast (kLand_9 _ ha0) hμ4 d_X2_pledge_28 ?_
  refine V_aload_n d_X2_pledge_29 rfl rfl ?_
  refine B_get (kLand _ ha0) fl_RX2_58 d_X2_pledge_30 g_2_15 ?_
  refine V_iload_n d_X2_pledge_33 rfl rfl ?_
  refine V_iload d_X2_pledge_34 rfl ?_
  obtain ⟨μ5, hμ5, hf⟩ := ob hf
  refine B_iast (kLand_10 _ ha0) hμ5 d_X2_pledge_36 ?_
  refine V_aload_n d_X2_pledge_37 rfl rfl ?_
  refine B_get (kLand _ ha0) fl_RX2_61 d_X2_pledge_38 g_2_16 ?_
  refine V_iload_n d_X2_pledge_41 rfl rfl ?_
  refine V_iload d_X2_pledge_42 rfl ?_
  obtain ⟨μ6, hμ6, hf⟩ := ob hf
  refine B_iast (kLand_11 _ ha0) hμ6 d_X2_pledge_44 ?_
  cases hf
  exact R_v hK d_X2_pledge_45 (Nat.le_of_ble_eq_true rfl) (Nat.le_of_ble_eq_true rfl)
theorem s_X2_pledge {G : Gl} (hG : G.1.stackTraces = false) {μ : Mem} {a0 : Nat} {p1 : Int32} {p2 : Int32} {p3 : Int32} {p4 : Int32} {p5 : Int32} {p6 : Int32} (ha0 : a0 ∈ landL) {r : Mem} (hf : f_X2_pledge μ a0 p1 p2 p3 p4 p5 p6 = some r) : Rt G yX2_pledge F_X2_pledge none [.ref (G.2.1 + a0), .int p1, .int p2, .int p3, .int p4, .int p5, .int p6] μ none r := fun n => Sd.of hG ⟨by decide +kernel, rfl, rfl⟩ rfl (Nat.le_of_ble_eq_true rfl) rfl (fun C hK => s_X2_pledge_e hG ha0 hf hK)
theorem d_X2_earn_0 : decode cX2_earn 0 = .ok (.aload_n 0, 1) := by decide +kernel
theorem d_X2_earn_1 : decode cX2_earn 1 = .ok (.getfield 30, 3) := by decide +kernel
theorem d_X2_earn_4 : decode cX2_earn 4 = .ok (.iload_n 1, 1) := by decide +kernel
theorem d_X2_earn_5 : decode cX2_earn 5 = .ok (.sipush 999, 3) := by decide +kernel
theorem d_X2_earn_8 : decode cX2_earn 8 = .ok (.aload_n 0, 1) := by decide +kernel
theorem d_X2_earn_9 : decode cX2_earn 9 = .ok (.getfield 30, 3) := by decide +kernel
theorem d_X2_earn_12 : decode cX2_earn 12 = .ok (.iload_n 1, 1) := by decide +kernel
theorem d_X2_earn_13 : decode cX2_earn 13 = .ok (.iaload, 1) := by decide +kernel
theorem d_X2_earn_14 : decode cX2_earn 14 = .ok (.iload_n 2, 1) := by decide +kernel
theorem d_X2_earn_15 : decode cX2_earn 15 = .ok (.iadd, 1) := by decide +kernel
theorem d_X2_earn_16 : decode cX2_earn 16 = .ok (.invokestatic 96, 3) := by decide +kernel
theorem d_X2_earn_19 : decode cX2_earn 19 = .ok (.iastore, 1) := by decide +kernel
theorem d_X2_earn_20 : decode cX2_earn 20 = .ok (.return_, 1) := by decide +kernel
theorem s_X2_earn_e {G : Gl} (hG : G.1.stackTraces = false) {C : Cx} {n : Nat} {μ : Mem} {a0 : Nat} {p1 : Int32} {p2 : Int32} (ha0 : a0 ∈ landL) {r : Mem} (hf : f_X2_earn μ a0 p1 p2 = some r) (hK : FinR G C F_X2_earn none none r) : V G C F_X2_earn 0 [some (.ref (G.2.1 + a0)), some (.int p1), some (.int p2)] [] (pic G μ) n 0 0 := by
  unfold f_X2_earn at hf
  refine V_aload_n d_X2_earn_0 rfl rfl ?_
  refine B_get (kLand _ ha0) fl_RX2_30 d_X2_earn_1 g_2_6 ?_
  refine V_iload_n d_X2_earn_4 rfl rfl ?_
  refine V_sipush (v := 999) d_X2_earn_5 sp_999 ?_
  refine V_aload_n d_X2_earn_8 rfl rfl ?_
  refine B_get (kLand _ ha0) fl_RX2_30 d_X2_earn_9 g_2_6 ?_
  refine V_iload_n d_X2_earn_12 rfl rfl ?_
  obtain ⟨t1, ht1, hf⟩ := ob hf
  refine B_iald (kLand_1 _ ha0) ht1 d_X2_earn_13 ?_
  refine V_iload_n d_X2_earn_14 rfl rfl ?_
  refine V_iadd d_X2_earn_15 ?_
  obtain ⟨t2, ht2, hf⟩ := ob hf
  refine B_callS1 (s_J9_min_7cf53 hG ht2) m_J9_min_7cf53 ks_RX2_96 d_X2_earn_16 rfl (Nat.le_of_ble_eq_true rfl) ⟨rfl, rfl, Nat.le_of_ble_eq_true rfl, Nat.le_of_ble_eq_true rfl, Nat.le_of_ble_eq_true rfl⟩ (fun n => ?_)
  obtain ⟨μ3, hμ3, hf⟩ := ob hf
  refine B_iast (kLand_1 _ ha0) hμ3 d_X2_earn_19 ?_
  cases hf
  exact R_v hK d_X2_earn_20 (Nat.le_of_ble_eq_true rfl) (Nat.le_of_ble_eq_true rfl)
theorem s_X2_earn {G : Gl} (hG : G.1.stackTraces = false) {μ : Mem} {a0 : Nat} {p1 : Int32} {p2 : Int32} (ha0 : a0 ∈ landL) {r : Mem} (hf : f_X2_earn μ a0 p1 p2 = some r) : Rt G yX2_earn F_X2_earn none [.ref (G.2.1 + a0), .int p1, .int p2] μ none r := fun n => Sd.of hG ⟨by decide +kernel, rfl, rfl⟩ rfl (Nat.le_of_ble_eq_true rfl) rfl (fun C hK => s_X2_earn_e hG ha0 hf hK)
theorem d_X2_payOff_0 : decode cX2_payOff 0 = .ok (.aload_n 0, 1) := by decide +kernel
theorem d_X2_payOff_1 : decode cX2_payOff 1 = .ok (.getfield 30, 3) := by decide +kernel
theorem d_X2_payOff_4 : decode cX2_payOff 4 = .ok (.iload_n 2, 1) := by decide +kernel
theorem d_X2_payOff_5 : decode cX2_payOff 5 = .ok (.dup2, 1) := by decide +kernel
theorem d_X2_payOff_6 : decode cX2_payOff 6 = .ok (.iaload, 1) := by decide +kernel
theorem d_X2_payOff_7 : decode cX2_payOff 7 = .ok (.aload_n 0, 1) := by decide +kernel
theorem d_X2_payOff_8 : decode cX2_payOff 8 = .ok (.getfield 52, 3) := by decide +kernel
theorem d_X2_payOff_11 : decode cX2_payOff 11 = .ok (.iload_n 1, 1) := by decide +kernel
theorem d_X2_payOff_12 : decode cX2_payOff 12 = .ok (.iaload, 1) := by decide +kernel
theorem d_X2_payOff_13 : decode cX2_payOff 13 = .ok (.isub, 1) := by decide +kernel
theorem d_X2_payOff_14 : decode cX2_payOff 14 = .ok (.iastore, 1) := by decide +kernel
theorem d_X2_payOff_15 : decode cX2_payOff 15 = .ok (.aload_n 0, 1) := by decide +kernel
theorem d_X2_payOff_16 : decode cX2_payOff 16 = .ok (.aload_n 0, 1) := by decide +kernel
theorem d_X2_payOff_17 : decode cX2_payOff 17 = .ok (.getfield 49, 3) := by decide +kernel
theorem d_X2_payOff_20 : decode cX2_payOff 20 = .ok (.iload_n 1, 1) := by decide +kernel
theorem d_X2_payOff_21 : decode cX2_payOff 21 = .ok (.iaload, 1) := by decide +kernel
theorem d_X2_payOff_22 : decode cX2_payOff 22 = .ok (.aload_n 0, 1) := by decide +kernel
theorem d_X2_payOff_23 : decode cX2_payOff 23 = .ok (.getfield 52, 3) := by decide +kernel
theorem d_X2_payOff_26 : decode cX2_payOff 26 = .ok (.iload_n 1, 1) := by decide +kernel
theorem d_X2_payOff_27 : decode cX2_payOff 27 = .ok (.iaload, 1) := by decide +kernel
theorem d_X2_payOff_28 : decode cX2_payOff 28 = .ok (.invokevirtual 88, 3) := by decide +kernel
theorem d_X2_payOff_31 : decode cX2_payOff 31 = .ok (.aload_n 0, 1) := by decide +kernel
theorem d_X2_payOff_32 : decode cX2_payOff 32 = .ok (.getfield 70, 3) := by decide +kernel
theorem d_X2_payOff_35 : decode cX2_payOff 35 = .ok (.aload_n 0, 1) := by decide +kernel
theorem d_X2_payOff_36 : decode cX2_payOff 36 = .ok (.getfield 18, 3) := by decide +kernel
theorem d_X2_payOff_39 : decode cX2_payOff 39 = .ok (.iload_n 1, 1) := by decide +kernel
theorem d_X2_payOff_40 : decode cX2_payOff 40 = .ok (.iconst 1, 1) := by decide +kernel
theorem d_X2_payOff_41 : decode cX2_payOff 41 = .ok (.aload_n 0, 1) := by decide +kernel
theorem d_X2_payOff_42 : decode cX2_payOff 42 = .ok (.getfield 52, 3) := by decide +kernel
theorem d_X2_payOff_45 : decode cX2_payOff 45 = .ok (.iload_n 1, 1) := by decide +kernel
theorem d_X2_payOff_46 : decode cX2_payOff 46 = .ok (.iaload, 1) := by decide +kernel
theorem d_X2_payOff_47 : decode cX2_payOff 47 = .ok (.invokevirtual 92, 3) := by decide +kernel
theorem d_X2_payOff_50 : decode cX2_payOff 50 = .ok (.aload_n 0, 1) := by decide +kernel
theorem d_X2_payOff_51 : decode cX2_payOff 51 = .ok (.iload_n 1, 1) := by decide +kernel
theorem d_X2_payOff_52 : decode cX2_payOff 52 = .ok (.iconst 0, 1) := by decide +kernel
theorem d_X2_payOff_53 : decode cX2_payOff 53 = .ok (.iconst (-1), 1) := by decide +kernel
theorem d_X2_payOff_54 : decode cX2_payOff 54 = .ok (.invokevirtual 84, 3) := by decide +kernel
theorem d_X2_payOff_57 : decode cX2_payOff 57 = .ok (.return_, 1) := by decide +kernel
theorem s_X2_payOff_e {G : Gl} (hG : G.1.stackTraces = false) {C : Cx} {n : Nat} {μ : Mem} {a0 : Nat} {p1 : Int32} {p2 : Int32} (ha0 : a0 ∈ landL) {r : Mem} (hf : f_X2_payOff μ a0 p1 p2 = some r) (hK : FinR G C F_X2_payOff none none r) : V G C F_X2_payOff 0 [some (.ref (G.2.1 + a0)), some (.int p1), some (.int p2)] [] (pic G μ) n 0 0 := by
  unfold f_X2_payOff at hf
  refine V_aload_n d_X2_payOff_0 rfl rfl ?_
  refine B_get (kLand _ ha0) fl_RX2_30 d_X2_payOff_1 g_2_6 ?_
  refine V_iload_n d_X2_payOff_4 rfl rfl ?_
  refine V_dup2 d_X2_payOff_5 rfl rfl ?_
  obtain ⟨t1, ht1, hf⟩ := ob hf
  refine B_iald (kLand_1 _ ha0) ht1 d_X2_payOff_6 ?_
  refine V_aload_n d_X2_payOff_7 rfl rfl ?_
  refine B_get (kLand _ ha0) fl_RX2_52 d_X2_payOff_8 g_2_13 ?_
  refine V_iload_n d_X2_payOff_11 rfl rfl ?_
  obtain ⟨t2, ht2, hf⟩ := ob hf
  refine B_iald (kLand_8 _ ha0) ht2 d_X2_payOff_12 ?_
  refine V_isub d_X2_payOff_13 ?_
  obtain ⟨μ3, hμ3, hf⟩ := ob hf
  refine B_iast (kLand_1 _ ha0) hμ3 d_X2_payOff_14 ?_
  refine V_aload_n d_X2_payOff_15 rfl rfl ?_
  refine V_aload_n d_X2_payOff_16 rfl rfl ?_
  refine B_get (kLand _ ha0) fl_RX2_49 d_X2_payOff_17 g_2_12 ?_
  refine V_iload_n d_X2_payOff_20 rfl rfl ?_
  obtain ⟨t4, ht4, hf⟩ := ob hf
  refine B_iald (kLand_7 _ ha0) ht4 d_X2_payOff_21 ?_
  refine V_aload_n d_X2_payOff_22 rfl rfl ?_
  refine B_get (kLand _ ha0) fl_RX2_52 d_X2_payOff_23 g_2_13 ?_
  refine V_iload_n d_X2_payOff_26 rfl rfl ?_
  obtain ⟨t5, ht5, hf⟩ := ob hf
  refine B_iald (kLand_8 _ ha0) ht5 d_X2_payOff_27 ?_
  obtain ⟨q6, hq6, hf⟩ := ob hf
  refine B_callV0 (s_X2_earn hG ha0 hq6) (kLand _ ha0) clX2 m_X2_earn kv_RX2_88 d_X2_payOff_28 rfl (Nat.le_of_ble_eq_true rfl) ⟨rfl, rfl, Nat.le_of_ble_eq_true rfl, Nat.le_of_ble_eq_true rfl, Nat.le_of_ble_eq_true rfl⟩ (fun n => ?_)
  refine V_aload_n d_X2_payOff_31 rfl rfl ?_
  refine B_get (kLand _ ha0) fl_RX2_70 d_X2_payOff_32 g_2_18 ?_
  refine V_aload_n d_X2_payOff_35 rfl rfl ?_
  refine B_get (kLand _ ha0) fl_RX2_18 d_X2_payOff_36 g_2_2 ?_
  refine V_iload_n d_X2_payOff_39 rfl rfl ?_
  refine V_iconst (v := 1) d_X2_payOff_40 ic_1 ?_
  refine V_aload_n d_X2_payOff_41 rfl rfl ?_
  refine B_get (kLand _ ha0) fl_RX2_52 d_X2_payOff_42 g_2_13 ?_
  refine V_iload_n d_X2_payOff_45 rfl rfl ?_
  obtain ⟨t7, ht7, hf⟩ := ob hf
  refine B_iald (kLand_8 _ ha0) ht7 d_X2_payOff_46 ?_
  obtain ⟨q8, hq8, hf⟩ := ob hf
  refine B_callV0 (s_X1_add hG (landBook _ ha0) hq8) (kBook _ (landBook _ ha0)) clX1 m_X1_add kv_RX2_92 d_X2_payOff_47 rfl (Nat.le_of_ble_eq_true rfl) ⟨rfl, rfl, Nat.le_of_ble_eq_true rfl, Nat.le_of_ble_eq_true rfl, Nat.le_of_ble_eq_true rfl⟩ (fun n => ?_)
  refine V_aload_n d_X2_payOff_50 rfl rfl ?_
  refine V_iload_n d_X2_payOff_51 rfl rfl ?_
  refine V_iconst (v := 0) d_X2_payOff_52 ic_0 ?_
  refine V_iconst (v := (-1)) d_X2_payOff_53 ic_m1 ?_
  obtain ⟨q9, hq9, hf⟩ := ob hf
  refine B_callV0 (s_X2_letGo hG ha0 hq9) (kLand _ ha0) clX2 m_X2_letGo kv_RX2_84 d_X2_payOff_54 rfl (Nat.le_of_ble_eq_true rfl) ⟨rfl, rfl, Nat.le_of_ble_eq_true rfl, Nat.le_of_ble_eq_true rfl, Nat.le_of_ble_eq_true rfl⟩ (fun n => ?_)
  cases hf
  exact R_v hK d_X2_payOff_57 (Nat.le_of_ble_eq_true rfl) (Nat.le_of_ble_eq_true rfl)
theorem s_X2_payOff {G : Gl} (hG : G.1.stackTraces = false) {μ : Mem} {a0 : Nat} {p1 : Int32} {p2 : Int32} (ha0 : a0 ∈ landL) {r : Mem} (hf : f_X2_payOff μ a0 p1 p2 = some r) : Rt G yX2_payOff F_X2_payOff none [.ref (G.2.1 + a0), .int p1, .int p2] μ none r := fun n => Sd.of hG ⟨by decide +kernel, rfl, rfl⟩ rfl (Nat.le_of_ble_eq_true rfl) rfl (fun C hK => s_X2_payOff_e hG ha0 hf hK)
theorem d_X2_draw_0 : decode cX2_draw 0 = .ok (.aload_n 0, 1) := by decide +kernel
theorem d_X2_draw_1 : decode cX2_draw 1 = .ok (.ldc 191, 2) := by decide +kernel
theorem d_X2_draw_3 : decode cX2_draw 3 = .ok (.aload_n 0, 1) := by decide +kernel
theorem d_X2_draw_4 : decode cX2_draw 4 = .ok (.getfield 24, 3) := by decide +kernel
theorem d_X2_draw_7 : decode cX2_draw 7 = .ok (.imul, 1) := by decide +kernel
theorem d_X2_draw_8 : decode cX2_draw 8 = .ok (.sipush 12345, 3) := by decide +kernel
theorem d_X2_draw_11 : decode cX2_draw 11 = .ok (.iadd, 1) := by decide +kernel
theorem d_X2_draw_12 : decode cX2_draw 12 = .ok (.putfield 24, 3) := by decide +kernel
theorem d_X2_draw_15 : decode cX2_draw 15 = .ok (.aload_n 0, 1) := by decide +kernel
theorem d_X2_draw_16 : decode cX2_draw 16 = .ok (.getfield 24, 3) := by decide +kernel
theorem d_X2_draw_19 : decode cX2_draw 19 = .ok (.bipush 16, 2) := by decide +kernel
theorem d_X2_draw_21 : decode cX2_draw 21 = .ok (.iushr, 1) := by decide +kernel
theorem d_X2_draw_22 : decode cX2_draw 22 = .ok (.sipush 32767, 3) := by decide +kernel
theorem d_X2_draw_25 : decode cX2_draw 25 = .ok (.iand, 1) := by decide +kernel
theorem d_X2_draw_26 : decode cX2_draw 26 = .ok (.ireturn, 1) := by decide +kernel
theorem s_X2_draw_e {G : Gl} (hG : G.1.stackTraces = false) {C : Cx} {n : Nat} {μ : Mem} {a0 : Nat} (ha0 : a0 ∈ landL) {r : (Int32 × Mem)} (hf : f_X2_draw μ a0 = some r) (hK : FinR G C F_X2_draw (some .int) (some (.int r.1)) r.2) : V G C F_X2_draw 0 [some (.ref (G.2.1 + a0))] [] (pic G μ) n 0 0 := by
  unfold f_X2_draw at hf
  refine V_aload_n d_X2_draw_0 rfl rfl ?_
  refine V_ldc (v := 1103515245) d_X2_draw_1 w_1144 ?_
  refine V_aload_n d_X2_draw_3 rfl rfl ?_
  refine B_get (kLand _ ha0) fl_RX2_24 d_X2_draw_4 g_2_4 ?_
  refine V_imul d_X2_draw_7 ?_
  refine V_sipush (v := 12345) d_X2_draw_8 sp_12345 ?_
  refine V_iadd d_X2_draw_11 ?_
  refine B_putI (kLand _ ha0) fl_RX2_24 pt_2_4 (Nat.le_of_ble_eq_true rfl) p_2_4 d_X2_draw_12 ?_
  refine V_aload_n d_X2_draw_15 rfl rfl ?_
  refine B_get (kLand _ ha0) fl_RX2_24 d_X2_draw_16 g_2_4 ?_
  refine V_bipush (v := 16) d_X2_draw_19 bp_16 ?_
  refine V_iushr d_X2_draw_21 ?_
  refine V_sipush (v := 32767) d_X2_draw_22 sp_32767 ?_
  refine V_iand d_X2_draw_25 ?_
  cases hf
  exact R_i hK d_X2_draw_26 (Nat.le_of_ble_eq_true rfl) (Nat.le_of_ble_eq_true rfl)
theorem s_X2_draw {G : Gl} (hG : G.1.stackTraces = false) {μ : Mem} {a0 : Nat} (ha0 : a0 ∈ landL) {r : (Int32 × Mem)} (hf : f_X2_draw μ a0 = some r) : Rt G yX2_draw F_X2_draw (some .int) [.ref (G.2.1 + a0)] μ (some (.int r.1)) r.2 := fun n => Sd.of hG ⟨by decide +kernel, rfl, rfl⟩ rfl (Nat.le_of_ble_eq_true rfl) rfl (fun C hK => s_X2_draw_e hG ha0 hf hK)
theorem d_X2_gaitOf_0 : decode cX2_gaitOf 0 = .ok (.aload_n 0, 1) := by decide +kernel
theorem d_X2_gaitOf_1 : decode cX2_gaitOf 1 = .ok (.getfield 46, 3) := by decide +kernel
theorem d_X2_gaitOf_4 : decode cX2_gaitOf 4 = .ok (.iconst 2, 1) := by decide +kernel
theorem d_X2_gaitOf_5 : decode cX2_gaitOf 5 = .ok (.iload_n 1, 1) := by decide +kernel
theorem d_X2_gaitOf_6 : decode cX2_gaitOf 6 = .ok (.imul, 1) := by decide +kernel
theorem d_X2_gaitOf_7 : decode cX2_gaitOf 7 = .ok (.iaload, 1) := by decide +kernel
theorem d_X2_gaitOf_8 : decode cX2_gaitOf 8 = .ok (.ifCond .eq 7, 3) := by decide +kernel
theorem d_X2_gaitOf_11 : decode cX2_gaitOf 11 = .ok (.iconst 1, 1) := by decide +kernel
theorem d_X2_gaitOf_12 : decode cX2_gaitOf 12 = .ok (.goto 4, 3) := by decide +kernel
theorem d_X2_gaitOf_15 : decode cX2_gaitOf 15 = .ok (.iconst 0, 1) := by decide +kernel
theorem d_X2_gaitOf_16 : decode cX2_gaitOf 16 = .ok (.istore_n 2, 1) := by decide +kernel
theorem d_X2_gaitOf_17 : decode cX2_gaitOf 17 = .ok (.aload_n 0, 1) := by decide +kernel
theorem d_X2_gaitOf_18 : decode cX2_gaitOf 18 = .ok (.getfield 46, 3) := by decide +kernel
theorem d_X2_gaitOf_21 : decode cX2_gaitOf 21 = .ok (.iconst 2, 1) := by decide +kernel
theorem d_X2_gaitOf_22 : decode cX2_gaitOf 22 = .ok (.iload_n 1, 1) := by decide +kernel
theorem d_X2_gaitOf_23 : decode cX2_gaitOf 23 = .ok (.imul, 1) := by decide +kernel
theorem d_X2_gaitOf_24 : decode cX2_gaitOf 24 = .ok (.iconst 1, 1) := by decide +kernel
theorem d_X2_gaitOf_25 : decode cX2_gaitOf 25 = .ok (.iadd, 1) := by decide +kernel
theorem d_X2_gaitOf_26 : decode cX2_gaitOf 26 = .ok (.iaload, 1) := by decide +kernel
theorem d_X2_gaitOf_27 : decode cX2_gaitOf 27 = .ok (.ifCond .eq 7, 3) := by decide +kernel
theorem d_X2_gaitOf_30 : decode cX2_gaitOf 30 = .ok (.iconst 2, 1) := by decide +kernel
theorem d_X2_gaitOf_31 : decode cX2_gaitOf 31 = .ok (.goto 4, 3) := by decide +kernel
theorem d_X2_gaitOf_34 : decode cX2_gaitOf 34 = .ok (.iconst 0, 1) := by decide +kernel
theorem d_X2_gaitOf_35 : decode cX2_gaitOf 35 = .ok (.istore_n 3, 1) := by decide +kernel
theorem d_X2_gaitOf_36 : decode cX2_gaitOf 36 = .ok (.iload_n 2, 1) := by decide +kernel
theorem d_X2_gaitOf_37 : decode cX2_gaitOf 37 = .ok (.iload_n 3, 1) := by decide +kernel
theorem d_X2_gaitOf_38 : decode cX2_gaitOf 38 = .ok (.iadd, 1) := by decide +kernel
theorem d_X2_gaitOf_39 : decode cX2_gaitOf 39 = .ok (.ireturn, 1) := by decide +kernel
theorem s_X2_gaitOf_e {G : Gl} (hG : G.1.stackTraces = false) {C : Cx} {n : Nat} {μ : Mem} {a0 : Nat} {p1 : Int32} (ha0 : a0 ∈ landL) {r : Int32} (hf : f_X2_gaitOf μ a0 p1 = some r) (hK : FinR G C F_X2_gaitOf (some .int) (some (.int r)) μ) : V G C F_X2_gaitOf 0 [some (.ref (G.2.1 + a0)), some (.int p1), none, none] [] (pic G μ) n 0 0 := by
  unfold f_X2_gaitOf at hf
  refine V_aload_n d_X2_gaitOf_0 rfl rfl ?_
  refine B_get (kLand _ ha0) fl_RX2_46 d_X2_gaitOf_1 g_2_11 ?_
  refine V_iconst (v := 2) d_X2_gaitOf_4 ic_2 ?_
  refine V_iload_n d_X2_gaitOf_5 rfl rfl ?_
  refine V_imul d_X2_gaitOf_6 ?_
  obtain ⟨t1, ht1, hf⟩ := ob hf
  refine B_iald (kLand_6 _ ha0) ht1 d_X2_gaitOf_7 ?_
  have hJj2 : ∀ j2 : Bool, j2 = (if t1 = 0 then (false : Bool) else true) → V G C F_X2_gaitOf 16 [some (.ref (G.2.1 + a0)), some (.int p1), none, none] [.int (b2i j2)] (pic G μ) n 0 0 := by
    intro j2 ej2
    subst ej2
    refine V_istore_n (ls' := [_, _, _, _]) d_X2_gaitOf_16 rfl rfl rfl ?_
    refine V_aload_n d_X2_gaitOf_17 rfl rfl ?_
    refine B_get (kLand _ ha0) fl_RX2_46 d_X2_gaitOf_18 g_2_11 ?_
    refine V_iconst (v := 2) d_X2_gaitOf_21 ic_2 ?_
    refine V_iload_n d_X2_gaitOf_22 rfl rfl ?_
    refine V_imul d_X2_gaitOf_23 ?_
    refine V_iconst (v := 1) d_X2_gaitOf_24 ic_1 ?_
    refine V_iadd d_X2_gaitOf_25 ?_
    obtain ⟨t3, ht3, hf⟩ := ob hf
    refine B_iald (kLand_6 _ ha0) ht3 d_X2_gaitOf_26 ?_
    have hJj4 : ∀ j4 : Int32, j4 = (if t3 = 0 then (0 : Int32) else 2) → V G C F_X2_gaitOf 35 [none, none, some (.int (b2i (if t1 = 0 then (false : Bool) else true))), none] [.int j4] (pic G μ) n 0 0 := by
      intro j4 ej4
      subst ej4
      refine V_istore_n (ls' := [_, _, _, _]) d_X2_gaitOf_35 rfl rfl rfl ?_
      refine V_iload_n d_X2_gaitOf_36 rfl rfl ?_
      refine V_iload_n d_X2_gaitOf_37 rfl rfl ?_
      refine V_iadd d_X2_gaitOf_38 ?_
      cases hf
      exact R_i hK d_X2_gaitOf_39 (Nat.le_of_ble_eq_true rfl) (Nat.le_of_ble_eq_true rfl)
    refine V_if_eq (tgt := 34) d_X2_gaitOf_27 (by decide) (fun c27 => ?_) (fun c27 => ?_)
    · refine V_iconst (v := 0) d_X2_gaitOf_34 ic_0 ?_
      refine V_less (ls' := [none, none, some _, none]) ⟨rfl, trivial⟩ ?_
      exact hJj4 0 (by rw [if_pos c27])
    · refine V_iconst (v := 2) d_X2_gaitOf_30 ic_2 ?_
      refine V_goto (tgt := 35) d_X2_gaitOf_31 (by decide) ?_
      refine V_less (ls' := [none, none, some _, none]) ⟨rfl, trivial⟩ ?_
      exact hJj4 2 (by rw [if_neg c27])
  refine V_if_eq (tgt := 15) d_X2_gaitOf_8 (by decide) (fun c8 => ?_) (fun c8 => ?_)
  · refine V_iconst (v := 0) d_X2_gaitOf_15 ic_0 ?_
    refine V_less (ls' := [some _, some _, none, none]) ⟨rfl, rfl, trivial⟩ ?_
    exact hJj2 false (by rw [if_pos c8])
  · refine V_iconst (v := 1) d_X2_gaitOf_11 ic_1 ?_
    refine V_goto (tgt := 16) d_X2_gaitOf_12 (by decide) ?_
    refine V_less (ls' := [some _, some _, none, none]) ⟨rfl, rfl, trivial⟩ ?_
    exact hJj2 true (by rw [if_neg c8])
theorem s_X2_gaitOf {G : Gl} (hG : G.1.stackTraces = false) {μ : Mem} {a0 : Nat} {p1 : Int32} (ha0 : a0 ∈ landL) {r : Int32} (hf : f_X2_gaitOf μ a0 p1 = some r) : Rt G yX2_gaitOf F_X2_gaitOf (some .int) [.ref (G.2.1 + a0), .int p1] μ (some (.int r)) μ := fun n => Sd.of hG ⟨by decide +kernel, rfl, rfl⟩ rfl (Nat.le_of_ble_eq_true rfl) rfl (fun C hK => s_X2_gaitOf_e hG ha0 hf hK)
theorem d_J6_bitCount_0f7a4_0 : decode cJ6_bitCount_0f7a4 0 = .ok (.iload_n 0, 1) := by decide +kernel
theorem d_J6_bitCount_0f7a4_1 : decode cJ6_bitCount_0f7a4 1 = .ok (.iload_n 0, 1) := by decide +kernel
theorem d_J6_bitCount_0f7a4_2 : decode cJ6_bitCount_0f7a4 2 = .ok (.iconst 1, 1) := by decide +kernel
theorem d_J6_bitCount_0f7a4_3 : decode cJ6_bitCount_0f7a4 3 = .ok (.iushr, 1) := by decide +kernel
theorem d_J6_bitCount_0f7a4_4 : decode cJ6_bitCount_0f7a4 4 = .ok (.ldc_w 265, 3) := by decide +kernel
theorem d_J6_bitCount_0f7a4_7 : decode cJ6_bitCount_0f7a4 7 = .ok (.iand, 1) := by decide +kernel
theorem d_J6_bitCount_0f7a4_8 : decode cJ6_bitCount_0f7a4 8 = .ok (.isub, 1) := by decide +kernel
theorem d_J6_bitCount_0f7a4_9 : decode cJ6_bitCount_0f7a4 9 = .ok (.istore_n 0, 1) := by decide +kernel
theorem d_J6_bitCount_0f7a4_10 : decode cJ6_bitCount_0f7a4 10 = .ok (.iload_n 0, 1) := by decide +kernel
theorem d_J6_bitCount_0f7a4_11 : decode cJ6_bitCount_0f7a4 11 = .ok (.ldc_w 266, 3) := by decide +kernel
theorem d_J6_bitCount_0f7a4_14 : decode cJ6_bitCount_0f7a4 14 = .ok (.iand, 1) := by decide +kernel
theorem d_J6_bitCount_0f7a4_15 : decode cJ6_bitCount_0f7a4 15 = .ok (.iload_n 0, 1) := by decide +kernel
theorem d_J6_bitCount_0f7a4_16 : decode cJ6_bitCount_0f7a4 16 = .ok (.iconst 2, 1) := by decide +kernel
theorem d_J6_bitCount_0f7a4_17 : decode cJ6_bitCount_0f7a4 17 = .ok (.iushr, 1) := by decide +kernel
theorem d_J6_bitCount_0f7a4_18 : decode cJ6_bitCount_0f7a4 18 = .ok (.ldc_w 266, 3) := by decide +kernel
theorem d_J6_bitCount_0f7a4_21 : decode cJ6_bitCount_0f7a4 21 = .ok (.iand, 1) := by decide +kernel
theorem d_J6_bitCount_0f7a4_22 : decode cJ6_bitCount_0f7a4 22 = .ok (.iadd, 1) := by decide +kernel
theorem d_J6_bitCount_0f7a4_23 : decode cJ6_bitCount_0f7a4 23 = .ok (.istore_n 0, 1) := by decide +kernel
theorem d_J6_bitCount_0f7a4_24 : decode cJ6_bitCount_0f7a4 24 = .ok (.iload_n 0, 1) := by decide +kernel
theorem d_J6_bitCount_0f7a4_25 : decode cJ6_bitCount_0f7a4 25 = .ok (.iload_n 0, 1) := by decide +kernel
theorem d_J6_bitCount_0f7a4_26 : decode cJ6_bitCount_0f7a4 26 = .ok (.iconst 4, 1) := by decide +kernel
theorem d_J6_bitCount_0f7a4_27 : decode cJ6_bitCount_0f7a4 27 = .ok (.iushr, 1) := by decide +kernel
theorem d_J6_bitCount_0f7a4_28 : decode cJ6_bitCount_0f7a4 28 = .ok (.iadd, 1) := by decide +kernel
theorem d_J6_bitCount_0f7a4_29 : decode cJ6_bitCount_0f7a4 29 = .ok (.ldc_w 267, 3) := by decide +kernel
theorem d_J6_bitCount_0f7a4_32 : decode cJ6_bitCount_0f7a4 32 = .ok (.iand, 1) := by decide +kernel
theorem d_J6_bitCount_0f7a4_33 : decode cJ6_bitCount_0f7a4 33 = .ok (.istore_n 0, 1) := by decide +kernel
theorem d_J6_bitCount_0f7a4_34 : decode cJ6_bitCount_0f7a4 34 = .ok (.iload_n 0, 1) := by decide +kernel
theorem d_J6_bitCount_0f7a4_35 : decode cJ6_bitCount_0f7a4 35 = .ok (.iload_n 0, 1) := by decide +kernel
theorem d_J6_bitCount_0f7a4_36 : decode cJ6_bitCount_0f7a4 36 = .ok (.bipush 8, 2) := by decide +kernel
theorem d_J6_bitCount_0f7a4_38 : decode cJ6_bitCount_0f7a4 38 = .ok (.iushr, 1) := by decide +kernel
theorem d_J6_bitCount_0f7a4_39 : decode cJ6_bitCount_0f7a4 39 = .ok (.iadd, 1) := by decide +kernel
theorem d_J6_bitCount_0f7a4_40 : decode cJ6_bitCount_0f7a4 40 = .ok (.istore_n 0, 1) := by decide +kernel
theorem d_J6_bitCount_0f7a4_41 : decode cJ6_bitCount_0f7a4 41 = .ok (.iload_n 0, 1) := by decide +kernel
theorem d_J6_bitCount_0f7a4_42 : decode cJ6_bitCount_0f7a4 42 = .ok (.iload_n 0, 1) := by decide +kernel
theorem d_J6_bitCount_0f7a4_43 : decode cJ6_bitCount_0f7a4 43 = .ok (.bipush 16, 2) := by decide +kernel
theorem d_J6_bitCount_0f7a4_45 : decode cJ6_bitCount_0f7a4 45 = .ok (.iushr, 1) := by decide +kernel
theorem d_J6_bitCount_0f7a4_46 : decode cJ6_bitCount_0f7a4 46 = .ok (.iadd, 1) := by decide +kernel
theorem d_J6_bitCount_0f7a4_47 : decode cJ6_bitCount_0f7a4 47 = .ok (.istore_n 0, 1) := by decide +kernel
theorem d_J6_bitCount_0f7a4_48 : decode cJ6_bitCount_0f7a4 48 = .ok (.iload_n 0, 1) := by decide +kernel
theorem d_J6_bitCount_0f7a4_49 : decode cJ6_bitCount_0f7a4 49 = .ok (.bipush 63, 2) := by decide +kernel
theorem d_J6_bitCount_0f7a4_51 : decode cJ6_bitCount_0f7a4 51 = .ok (.iand, 1) := by decide +kernel
theorem d_J6_bitCount_0f7a4_52 : decode cJ6_bitCount_0f7a4 52 = .ok (.ireturn, 1) := by decide +kernel
theorem s_J6_bitCount_0f7a4_e {G : Gl} (hG : G.1.stackTraces = false) {C : Cx} {n : Nat} {μ : Mem} {p0 : Int32} {r : Int32} (hf : f_J6_bitCount_0f7a4 μ p0 = some r) (hK : FinR G C F_J6_bitCount_0f7a4 (some .int) (some (.int r)) μ) : V G C F_J6_bitCount_0f7a4 0 [some (.int p0)] [] (pic G μ) n 0 0 := by
  unfold f_J6_bitCount_0f7a4 at hf
  refine V_iload_n d_J6_bitCount_0f7a4_0 rfl rfl ?_
  refine V_iload_n d_J6_bitCount_0f7a4_1 rfl rfl ?_
  refine V_iconst (v := 1) d_J6_bitCount_0f7a4_2 ic_1 ?_
  refine V_iushr d_J6_bitCount_0f7a4_3 ?_
  refine V_ldcw (v := 1431655765) d_J6_bitCount_0f7a4_4 w_449 ?_
  refine V_iand d_J6_bitCount_0f7a4_7 ?_
  refine V_isub d_J6_bitCount_0f7a4_8 ?_
  refine V_istore_n (ls' := [_]) d_J6_bitCount_0f7a4_9 rfl rfl rfl ?_
  refine V_iload_n d_J6_bitCount_0f7a4_10 rfl rfl ?_
  refine V_ldcw (v := 858993459) d_J6_bitCount_0f7a4_11 w_450 ?_
  refine V_iand d_J6_bitCount_0f7a4_14 ?_
  refine V_iload_n d_J6_bitCount_0f7a4_15 rfl rfl ?_
  refine V_iconst (v := 2) d_J6_bitCount_0f7a4_16 ic_2 ?_
  refine V_iushr d_J6_bitCount_0f7a4_17 ?_
  refine V_ldcw (v := 858993459) d_J6_bitCount_0f7a4_18 w_450 ?_
  refine V_iand d_J6_bitCount_0f7a4_21 ?_
  refine V_iadd d_J6_bitCount_0f7a4_22 ?_
  refine V_istore_n (ls' := [_]) d_J6_bitCount_0f7a4_23 rfl rfl rfl ?_
  refine V_iload_n d_J6_bitCount_0f7a4_24 rfl rfl ?_
  refine V_iload_n d_J6_bitCount_0f7a4_25 rfl rfl ?_
  refine V_iconst (v := 4) d_J6_bitCount_0f7a4_26 ic_4 ?_
  refine V_iushr d_J6_bitCount_0f7a4_27 ?_
  refine V_iadd d_J6_bitCount_0f7a4_28 ?_
  refine V_ldcw (v := 252645135) d_J6_bitCount_0f7a4_29 w_451 ?_
  refine V_iand d_J6_bitCount_0f7a4_32 ?_
  refine V_istore_n (ls' := [_]) d_J6_bitCount_0f7a4_33 rfl rfl rfl ?_
  refine V_iload_n d_J6_bitCount_0f7a4_34 rfl rfl ?_
  refine V_iload_n d_J6_bitCount_0f7a4_35 rfl rfl ?_
  refine V_bipush (v := 8) d_J6_bitCount_0f7a4_36 bp_8 ?_
  refine V_iushr d_J6_bitCount_0f7a4_38 ?_
  refine V_iadd d_J6_bitCount_0f7a4_39 ?_
  refine V_istore_n (ls' := [_]) d_J6_bitCount_0f7a4_40 rfl rfl rfl ?_
  refine V_iload_n d_J6_bitCount_0f7a4_41 rfl rfl ?_
  refine V_iload_n d_J6_bitCount_0f7a4_42 rfl rfl ?_
  refine V_bipush (v := 16) d_J6_bitCount_0f7a4_43 bp_16 ?_
  refine V_iushr d_J6_bitCount_0f7a4_45 ?_
  refine V_iadd d_J6_bitCount_0f7a4_46 ?_
  refine V_istore_n (ls' := [_]) d_J6_bitCount_0f7a4_47 rfl rfl rfl ?_
  refine V_iload_n d_J6_bitCount_0f7a4_48 rfl rfl ?_
  refine V_bipush (v := 63) d_J6_bitCount_0f7a4_49 bp_63 ?_
  refine V_iand d_J6_bitCount_0f7a4_51 ?_
  cases hf
  exact R_i hK d_J6_bitCount_0f7a4_52 (Nat.le_of_ble_eq_true rfl) (Nat.le_of_ble_eq_true rfl)
theorem s_J6_bitCount_0f7a4 {G : Gl} (hG : G.1.stackTraces = false) {μ : Mem} {p0 : Int32} {r : Int32} (hf : f_J6_bitCount_0f7a4 μ p0 = some r) : Rt G yJ6_bitCount_0f7a4 F_J6_bitCount_0f7a4 (some .int) [.int p0] μ (some (.int r)) μ := fun n => Sd.ofJ hG ⟨by decide +kernel, rfl, rfl⟩ rfl (Nat.le_of_ble_eq_true rfl) rfl (fun C hK => s_J6_bitCount_0f7a4_e hG hf hK)
theorem d_X2_heldBy_0 : decode cX2_heldBy 0 = .ok (.iconst 0, 1) := by decide +kernel
theorem d_X2_heldBy_1 : decode cX2_heldBy 1 = .ok (.istore_n 2, 1) := by decide +kernel
theorem d_X2_heldBy_2 : decode cX2_heldBy 2 = .ok (.iconst 0, 1) := by decide +kernel
theorem d_X2_heldBy_3 : decode cX2_heldBy 3 = .ok (.istore_n 3, 1) := by decide +kernel
theorem d_X2_heldBy_4 : decode cX2_heldBy 4 = .ok (.iload_n 3, 1) := by decide +kernel
theorem d_X2_heldBy_5 : decode cX2_heldBy 5 = .ok (.iconst 2, 1) := by decide +kernel
theorem d_X2_heldBy_6 : decode cX2_heldBy 6 = .ok (.aload_n 0, 1) := by decide +kernel
theorem d_X2_heldBy_7 : decode cX2_heldBy 7 = .ok (.getfield 9, 3) := by decide +kernel
theorem d_X2_heldBy_10 : decode cX2_heldBy 10 = .ok (.imul, 1) := by decide +kernel
theorem d_X2_heldBy_11 : decode cX2_heldBy 11 = .ok (.if_icmp .ge 25, 3) := by decide +kernel
theorem d_X2_heldBy_14 : decode cX2_heldBy 14 = .ok (.aload_n 0, 1) := by decide +kernel
theorem d_X2_heldBy_15 : decode cX2_heldBy 15 = .ok (.getfield 49, 3) := by decide +kernel
theorem d_X2_heldBy_18 : decode cX2_heldBy 18 = .ok (.iload_n 3, 1) := by decide +kernel
theorem d_X2_heldBy_19 : decode cX2_heldBy 19 = .ok (.iaload, 1) := by decide +kernel
theorem d_X2_heldBy_20 : decode cX2_heldBy 20 = .ok (.iload_n 1, 1) := by decide +kernel
theorem d_X2_heldBy_21 : decode cX2_heldBy 21 = .ok (.if_icmp .ne 9, 3) := by decide +kernel
theorem d_X2_heldBy_24 : decode cX2_heldBy 24 = .ok (.iload_n 2, 1) := by decide +kernel
theorem d_X2_heldBy_25 : decode cX2_heldBy 25 = .ok (.iconst 1, 1) := by decide +kernel
theorem d_X2_heldBy_26 : decode cX2_heldBy 26 = .ok (.iload_n 3, 1) := by decide +kernel
theorem d_X2_heldBy_27 : decode cX2_heldBy 27 = .ok (.ishl, 1) := by decide +kernel
theorem d_X2_heldBy_28 : decode cX2_heldBy 28 = .ok (.ior, 1) := by decide +kernel
theorem d_X2_heldBy_29 : decode cX2_heldBy 29 = .ok (.istore_n 2, 1) := by decide +kernel
theorem d_X2_heldBy_30 : decode cX2_heldBy 30 = .ok (.iinc 3 1, 3) := by decide +kernel
theorem d_X2_heldBy_33 : decode cX2_heldBy 33 = .ok (.goto (-29), 3) := by decide +kernel
theorem d_X2_heldBy_36 : decode cX2_heldBy 36 = .ok (.iload_n 2, 1) := by decide +kernel
theorem d_X2_heldBy_37 : decode cX2_heldBy 37 = .ok (.ireturn, 1) := by decide +kernel
theorem s_X2_heldBy_b4 {G : Gl} (hG : G.1.stackTraces = false) {C : Cx} {n : Nat} {μ : Mem} {a0 : Nat} {l1 : Int32} {l2 : Int32} {l3 : Int32} (ha0 : a0 ∈ landL) {y : ((Int32 × Int32) ⊕ Int32)} (hf : f_X2_heldBy_b4 μ a0 l1 l2 l3 = some y) (hK : (∀ z', y = .inl z' → ∀ n, V G C F_X2_heldBy 4 [some (.ref (G.2.1 + a0)), some (.int l1), some (.int z'.1), some (.int z'.2)] [] (pic G μ) n 0 0) ∧ (∀ x', y = .inr x' → ∀ n, V G C F_X2_heldBy 36 [none, none, some (.int x'), none] [] (pic G μ) n 0 0)) : V G C F_X2_heldBy 4 [some (.ref (G.2.1 + a0)), some (.int l1), some (.int l2), some (.int l3)] [] (pic G μ) n 0 0 := by
  unfold f_X2_heldBy_b4 at hf
  refine V_iload_n d_X2_heldBy_4 rfl rfl ?_
  refine V_iconst (v := 2) d_X2_heldBy_5 ic_2 ?_
  refine V_aload_n d_X2_heldBy_6 rfl rfl ?_
  refine B_get (kLand _ ha0) fl_RX2_9 d_X2_heldBy_7 g_2_0 ?_
  refine V_imul d_X2_heldBy_10 ?_
  refine V_icmp_ge (tgt := 36) d_X2_heldBy_11 (by decide) (fun c11 => ?_) (fun c11 => ?_)
  · replace hf := iteT c11 hf
    refine V_less (ls' := [none, none, some _, none]) ⟨rfl, trivial⟩ ?_
    cases hf
    exact hK.2 _ rfl _
  · replace hf := iteF c11 hf
    refine V_aload_n d_X2_heldBy_14 rfl rfl ?_
    refine B_get (kLand _ ha0) fl_RX2_49 d_X2_heldBy_15 g_2_12 ?_
    refine V_iload_n d_X2_heldBy_18 rfl rfl ?_
    obtain ⟨t1, ht1, hf⟩ := ob hf
    refine B_iald (kLand_7 _ ha0) ht1 d_X2_heldBy_19 ?_
    refine V_iload_n d_X2_heldBy_20 rfl rfl ?_
    have hJj2 : ∀ j2 : Int32, j2 = (if t1 = l1 then ((l2 ||| (1 <<< (l3 &&& 31))) : Int32) else l2) → V G C F_X2_heldBy 30 [some (.ref (G.2.1 + a0)), some (.int l1), some (.int j2), some (.int l3)] [] (pic G μ) n 0 0 := by
      intro j2 ej2
      subst ej2
      refine V_iinc (v := (l3 + 1)) (ls' := [_, _, _, _]) d_X2_heldBy_30 rfl (by rw [ic_1]) rfl ?_
      refine V_goto (tgt := 4) d_X2_heldBy_33 (by decide) ?_
      refine V_less (ls' := [some _, some _, some _, some _]) ⟨rfl, rfl, rfl, rfl, trivial⟩ ?_
      cases hf
      exact hK.1 _ rfl _
    refine V_icmp_ne (tgt := 30) d_X2_heldBy_21 (by decide) (fun c21 => ?_) (fun c21 => ?_)
    · refine V_less (ls' := [some _, some _, some _, some _]) ⟨rfl, rfl, rfl, rfl, trivial⟩ ?_
      exact hJj2 l2 (by rw [if_neg c21])
    · refine V_iload_n d_X2_heldBy_24 rfl rfl ?_
      refine V_iconst (v := 1) d_X2_heldBy_25 ic_1 ?_
      refine V_iload_n d_X2_heldBy_26 rfl rfl ?_
      refine V_ishl d_X2_heldBy_27 ?_
      refine V_ior d_X2_heldBy_28 ?_
      refine V_istore_n (ls' := [_, _, _, _]) d_X2_heldBy_29 rfl rfl rfl ?_
      refine V_less (ls' := [some _, some _, some _, some _]) ⟨rfl, rfl, rfl, rfl, trivial⟩ ?_
      exact hJj2 (l2 ||| (1 <<< (l3 &&& 31))) (by rw [if_pos c21])
theorem s_X2_heldBy_j36 {G : Gl} (hG : G.1.stackTraces = false) {C : Cx} {n : Nat} {μ : Mem} {a0 : Nat} {l2 : Int32} (ha0 : a0 ∈ landL) {r : Int32} (hf : f_X2_heldBy_j36 μ a0 l2 = some r) (hK : FinR G C F_X2_heldBy (some .int) (some (.int r)) μ) : V G C F_X2_heldBy 36 [none, none, some (.int l2), none] [] (pic G μ) n 0 0 := by
  unfold f_X2_heldBy_j36 at hf
  refine V_iload_n d_X2_heldBy_36 rfl rfl ?_
  cases hf
  exact R_i hK d_X2_heldBy_37 (Nat.le_of_ble_eq_true rfl) (Nat.le_of_ble_eq_true rfl)
theorem s_X2_heldBy_l4 {G : Gl} (hG : G.1.stackTraces = false) {C : Cx} {n : Nat} {μ : Mem} {a0 : Nat} {l1 : Int32} {l2 : Int32} {l3 : Int32} (ha0 : a0 ∈ landL) {r : Int32} (hf : f_X2_heldBy_l4 μ a0 l1 l2 l3 = some r) (hK : FinR G C F_X2_heldBy (some .int) (some (.int r)) μ) : V G C F_X2_heldBy 4 [some (.ref (G.2.1 + a0)), some (.int l1), some (.int l2), some (.int l3)] [] (pic G μ) n 0 0 := by
  unfold f_X2_heldBy_l4 at hf
  obtain ⟨t, hl, hf⟩ := ob hf
  refine loopV (P := fun z => ∀ n, V G C F_X2_heldBy 4 [some (.ref (G.2.1 + a0)), some (.int l1), some (.int z.1), some (.int z.2)] [] (pic G μ) n 0 0) (t := t) ?_ _ _ hl n
  intro z y' hy hI hT n
  refine s_X2_heldBy_b4 hG ha0 hy ⟨hI, fun x9 ex => ?_⟩
  have ex2 := hT x9 ex
  subst ex2
  intro n
  exact s_X2_heldBy_j36 hG ha0 hf hK
theorem s_X2_heldBy_e {G : Gl} (hG : G.1.stackTraces = false) {C : Cx} {n : Nat} {μ : Mem} {a0 : Nat} {p1 : Int32} (ha0 : a0 ∈ landL) {r : Int32} (hf : f_X2_heldBy μ a0 p1 = some r) (hK : FinR G C F_X2_heldBy (some .int) (some (.int r)) μ) : V G C F_X2_heldBy 0 [some (.ref (G.2.1 + a0)), some (.int p1), none, none] [] (pic G μ) n 0 0 := by
  unfold f_X2_heldBy at hf
  refine V_iconst (v := 0) d_X2_heldBy_0 ic_0 ?_
  refine V_istore_n (ls' := [_, _, _, _]) d_X2_heldBy_1 rfl rfl rfl ?_
  refine V_iconst (v := 0) d_X2_heldBy_2 ic_0 ?_
  refine V_istore_n (ls' := [_, _, _, _]) d_X2_heldBy_3 rfl rfl rfl ?_
  refine V_less (ls' := [some _, some _, some _, some _]) ⟨rfl, rfl, rfl, rfl, trivial⟩ ?_
  exact s_X2_heldBy_l4 hG ha0 hf hK
theorem s_X2_heldBy {G : Gl} (hG : G.1.stackTraces = false) {μ : Mem} {a0 : Nat} {p1 : Int32} (ha0 : a0 ∈ landL) {r : Int32} (hf : f_X2_heldBy μ a0 p1 = some r) : Rt G yX2_heldBy F_X2_heldBy (some .int) [.ref (G.2.1 + a0), .int p1] μ (some (.int r)) μ := fun n => Sd.of hG ⟨by decide +kernel, rfl, rfl⟩ rfl (Nat.le_of_ble_eq_true rfl) rfl (fun C hK => s_X2_heldBy_e hG ha0 hf hK)
theorem d_X4_ask_0 : decode cX4_ask 0 = .ok (.aload_n 1, 1) := by decide +kernel
theorem d_X4_ask_1 : decode cX4_ask 1 = .ok (.iload_n 2, 1) := by decide +kernel
theorem d_X4_ask_2 : decode cX4_ask 2 = .ok (.invokevirtual 58, 3) := by decide +kernel
theorem d_X4_ask_5 : decode cX4_ask 5 = .ok (.invokestatic 64, 3) := by decide +kernel
theorem d_X4_ask_8 : decode cX4_ask 8 = .ok (.istore_n 3, 1) := by decide +kernel
theorem d_X4_ask_9 : decode cX4_ask 9 = .ok (.aload_n 0, 1) := by decide +kernel
theorem d_X4_ask_10 : decode cX4_ask 10 = .ok (.getfield 38, 3) := by decide +kernel
theorem d_X4_ask_13 : decode cX4_ask 13 = .ok (.iconst 0, 1) := by decide +kernel
theorem d_X4_ask_14 : decode cX4_ask 14 = .ok (.iload_n 2, 1) := by decide +kernel
theorem d_X4_ask_15 : decode cX4_ask 15 = .ok (.iastore, 1) := by decide +kernel
theorem d_X4_ask_16 : decode cX4_ask 16 = .ok (.aload_n 0, 1) := by decide +kernel
theorem d_X4_ask_17 : decode cX4_ask 17 = .ok (.getfield 38, 3) := by decide +kernel
theorem d_X4_ask_20 : decode cX4_ask 20 = .ok (.iconst 1, 1) := by decide +kernel
theorem d_X4_ask_21 : decode cX4_ask 21 = .ok (.iload_n 3, 1) := by decide +kernel
theorem d_X4_ask_22 : decode cX4_ask 22 = .ok (.iastore, 1) := by decide +kernel
theorem d_X4_ask_23 : decode cX4_ask 23 = .ok (.aload_n 0, 1) := by decide +kernel
theorem d_X4_ask_24 : decode cX4_ask 24 = .ok (.getfield 38, 3) := by decide +kernel
theorem d_X4_ask_27 : decode cX4_ask 27 = .ok (.iconst 2, 1) := by decide +kernel
theorem d_X4_ask_28 : decode cX4_ask 28 = .ok (.aload_n 1, 1) := by decide +kernel
theorem d_X4_ask_29 : decode cX4_ask 29 = .ok (.iload_n 2, 1) := by decide +kernel
theorem d_X4_ask_30 : decode cX4_ask 30 = .ok (.invokevirtual 69, 3) := by decide +kernel
theorem d_X4_ask_33 : decode cX4_ask 33 = .ok (.invokestatic 64, 3) := by decide +kernel
theorem d_X4_ask_36 : decode cX4_ask 36 = .ok (.iastore, 1) := by decide +kernel
theorem d_X4_ask_37 : decode cX4_ask 37 = .ok (.aload_n 0, 1) := by decide +kernel
theorem d_X4_ask_38 : decode cX4_ask 38 = .ok (.getfield 38, 3) := by decide +kernel
theorem d_X4_ask_41 : decode cX4_ask 41 = .ok (.iconst 3, 1) := by decide +kernel
theorem d_X4_ask_42 : decode cX4_ask 42 = .ok (.aload_n 1, 1) := by decide +kernel
theorem d_X4_ask_43 : decode cX4_ask 43 = .ok (.getfield 72, 3) := by decide +kernel
theorem d_X4_ask_46 : decode cX4_ask 46 = .ok (.iload_n 2, 1) := by decide +kernel
theorem d_X4_ask_47 : decode cX4_ask 47 = .ok (.iaload, 1) := by decide +kernel
theorem d_X4_ask_48 : decode cX4_ask 48 = .ok (.iastore, 1) := by decide +kernel
theorem d_X4_ask_49 : decode cX4_ask 49 = .ok (.aload_n 0, 1) := by decide +kernel
theorem d_X4_ask_50 : decode cX4_ask 50 = .ok (.getfield 38, 3) := by decide +kernel
theorem d_X4_ask_53 : decode cX4_ask 53 = .ok (.iconst 4, 1) := by decide +kernel
theorem d_X4_ask_54 : decode cX4_ask 54 = .ok (.aload_n 1, 1) := by decide +kernel
theorem d_X4_ask_55 : decode cX4_ask 55 = .ok (.getfield 75, 3) := by decide +kernel
theorem d_X4_ask_58 : decode cX4_ask 58 = .ok (.aload_n 1, 1) := by decide +kernel
theorem d_X4_ask_59 : decode cX4_ask 59 = .ok (.getfield 72, 3) := by decide +kernel
theorem d_X4_ask_62 : decode cX4_ask 62 = .ok (.iload_n 2, 1) := by decide +kernel
theorem d_X4_ask_63 : decode cX4_ask 63 = .ok (.iaload, 1) := by decide +kernel
theorem d_X4_ask_64 : decode cX4_ask 64 = .ok (.iaload, 1) := by decide +kernel
theorem d_X4_ask_65 : decode cX4_ask 65 = .ok (.iastore, 1) := by decide +kernel
theorem d_X4_ask_66 : decode cX4_ask 66 = .ok (.aload_n 0, 1) := by decide +kernel
theorem d_X4_ask_67 : decode cX4_ask 67 = .ok (.getfield 38, 3) := by decide +kernel
theorem d_X4_ask_70 : decode cX4_ask 70 = .ok (.iconst 5, 1) := by decide +kernel
theorem d_X4_ask_71 : decode cX4_ask 71 = .ok (.aload_n 1, 1) := by decide +kernel
theorem d_X4_ask_72 : decode cX4_ask 72 = .ok (.getfield 78, 3) := by decide +kernel
theorem d_X4_ask_75 : decode cX4_ask 75 = .ok (.iload_n 2, 1) := by decide +kernel
theorem d_X4_ask_76 : decode cX4_ask 76 = .ok (.iaload, 1) := by decide +kernel
theorem d_X4_ask_77 : decode cX4_ask 77 = .ok (.iastore, 1) := by decide +kernel
theorem d_X4_ask_78 : decode cX4_ask 78 = .ok (.aload_n 0, 1) := by decide +kernel
theorem d_X4_ask_79 : decode cX4_ask 79 = .ok (.getfield 38, 3) := by decide +kernel
theorem d_X4_ask_82 : decode cX4_ask 82 = .ok (.bipush 6, 2) := by decide +kernel
theorem d_X4_ask_84 : decode cX4_ask 84 = .ok (.aload_n 1, 1) := by decide +kernel
theorem d_X4_ask_85 : decode cX4_ask 85 = .ok (.getfield 81, 3) := by decide +kernel
theorem d_X4_ask_88 : decode cX4_ask 88 = .ok (.iastore, 1) := by decide +kernel
theorem d_X4_ask_89 : decode cX4_ask 89 = .ok (.aload_n 0, 1) := by decide +kernel
theorem d_X4_ask_90 : decode cX4_ask 90 = .ok (.getfield 38, 3) := by decide +kernel
theorem d_X4_ask_93 : decode cX4_ask 93 = .ok (.bipush 7, 2) := by decide +kernel
theorem d_X4_ask_95 : decode cX4_ask 95 = .ok (.iload_n 3, 1) := by decide +kernel
theorem d_X4_ask_96 : decode cX4_ask 96 = .ok (.iconst 1, 1) := by decide +kernel
theorem d_X4_ask_97 : decode cX4_ask 97 = .ok (.if_icmp .eq 7, 3) := by decide +kernel
theorem d_X4_ask_100 : decode cX4_ask 100 = .ok (.iconst 1, 1) := by decide +kernel
theorem d_X4_ask_101 : decode cX4_ask 101 = .ok (.goto 4, 3) := by decide +kernel
theorem d_X4_ask_104 : decode cX4_ask 104 = .ok (.iconst 0, 1) := by decide +kernel
theorem d_X4_ask_105 : decode cX4_ask 105 = .ok (.iastore, 1) := by decide +kernel
theorem d_X4_ask_106 : decode cX4_ask 106 = .ok (.aload_n 0, 1) := by decide +kernel
theorem d_X4_ask_107 : decode cX4_ask 107 = .ok (.getfield 38, 3) := by decide +kernel
theorem d_X4_ask_110 : decode cX4_ask 110 = .ok (.bipush 8, 2) := by decide +kernel
theorem d_X4_ask_112 : decode cX4_ask 112 = .ok (.aload_n 1, 1) := by decide +kernel
theorem d_X4_ask_113 : decode cX4_ask 113 = .ok (.getfield 72, 3) := by decide +kernel
theorem d_X4_ask_116 : decode cX4_ask 116 = .ok (.iload_n 2, 1) := by decide +kernel
theorem d_X4_ask_117 : decode cX4_ask 117 = .ok (.iaload, 1) := by decide +kernel
theorem d_X4_ask_118 : decode cX4_ask 118 = .ok (.aload_n 1, 1) := by decide +kernel
theorem d_X4_ask_119 : decode cX4_ask 119 = .ok (.getfield 84, 3) := by decide +kernel
theorem d_X4_ask_122 : decode cX4_ask 122 = .ok (.iload_n 2, 1) := by decide +kernel
theorem d_X4_ask_123 : decode cX4_ask 123 = .ok (.iaload, 1) := by decide +kernel
theorem d_X4_ask_124 : decode cX4_ask 124 = .ok (.if_icmp .ne 7, 3) := by decide +kernel
theorem d_X4_ask_127 : decode cX4_ask 127 = .ok (.iconst 1, 1) := by decide +kernel
theorem d_X4_ask_128 : decode cX4_ask 128 = .ok (.goto 4, 3) := by decide +kernel
theorem d_X4_ask_131 : decode cX4_ask 131 = .ok (.iconst 0, 1) := by decide +kernel
theorem d_X4_ask_132 : decode cX4_ask 132 = .ok (.iastore, 1) := by decide +kernel
theorem d_X4_ask_133 : decode cX4_ask 133 = .ok (.return_, 1) := by decide +kernel
theorem s_X4_ask_e {G : Gl} (hG : G.1.stackTraces = false) {C : Cx} {n : Nat} {μ : Mem} {a0 : Nat} {a1 : Nat} {p2 : Int32} (ha0 : a0 ∈ lawL) (ha1 : a1 ∈ landL) {r : Mem} (hf : f_X4_ask μ a0 a1 p2 = some r) (hK : FinR G C F_X4_ask none none r) : V G C F_X4_ask 0 [some (.ref (G.2.1 + a0)), some (.ref (G.2.1 + a1)), some (.int p2), none] [] (pic G μ) n 0 0 := by
  unfold f_X4_ask at hf
  refine V_aload_n d_X4_ask_0 rfl rfl ?_
  refine V_iload_n d_X4_ask_1 rfl rfl ?_
  obtain ⟨t1, ht1, hf⟩ := ob hf
  refine B_callV1 (s_X2_gaitOf hG ha1 ht1) (kLand _ ha1) clX2 m_X2_gaitOf kv_RX4_58 d_X4_ask_2 rfl (Nat.le_of_ble_eq_true rfl) ⟨rfl, rfl, Nat.le_of_ble_eq_true rfl, Nat.le_of_ble_eq_true rfl, Nat.le_of_ble_eq_true rfl⟩ (fun n => ?_)
  obtain ⟨t2, ht2, hf⟩ := ob hf
  refine B_callS1 (s_J6_bitCount_0f7a4 hG ht2) m_J6_bitCount_0f7a4 ks_RX4_64 d_X4_ask_5 rfl (Nat.le_of_ble_eq_true rfl) ⟨rfl, rfl, Nat.le_of_ble_eq_true rfl, Nat.le_of_ble_eq_true rfl, Nat.le_of_ble_eq_true rfl⟩ (fun n => ?_)
  refine V_istore_n (ls' := [_, _, _, _]) d_X4_ask_8 rfl rfl rfl ?_
  refine V_aload_n d_X4_ask_9 rfl rfl ?_
  refine B_get (kLaw _ ha0) fl_RX4_38 d_X4_ask_10 g_4_8 ?_
  refine V_iconst (v := 0) d_X4_ask_13 ic_0 ?_
  refine V_iload_n d_X4_ask_14 rfl rfl ?_
  obtain ⟨μ3, hμ3, hf⟩ := ob hf
  refine B_iast (kLaw_6 _ ha0) hμ3 d_X4_ask_15 ?_
  refine V_aload_n d_X4_ask_16 rfl rfl ?_
  refine B_get (kLaw _ ha0) fl_RX4_38 d_X4_ask_17 g_4_8 ?_
  refine V_iconst (v := 1) d_X4_ask_20 ic_1 ?_
  refine V_iload_n d_X4_ask_21 rfl rfl ?_
  obtain ⟨μ4, hμ4, hf⟩ := ob hf
  refine B_iast (kLaw_6 _ ha0) hμ4 d_X4_ask_22 ?_
  refine V_aload_n d_X4_ask_23 rfl rfl ?_
  refine B_get (kLaw _ ha0) fl_RX4_38 d_X4_ask_24 g_4_8 ?_
  refine V_iconst (v := 2) d_X4_ask_27 ic_2 ?_
  refine V_aload_n d_X4_ask_28 rfl rfl ?_
  refine V_iload_n d_X4_ask_29 rfl rfl ?_
  obtain ⟨t5, ht5, hf⟩ := ob hf
  refine B_callV1 (s_X2_heldBy hG ha1 ht5) (kLand _ ha1) clX2 m_X2_heldBy kv_RX4_69 d_X4_ask_30 rfl (Nat.le_of_ble_eq_true rfl) ⟨rfl, rfl, Nat.le_of_ble_eq_true rfl, Nat.le_of_ble_eq_true rfl, Nat.le_of_ble_eq_true rfl⟩ (fun n => ?_)
  obtain ⟨t6, ht6, hf⟩ := ob hf
  refine B_callS1 (s_J6_bitCount_0f7a4 hG ht6) m_J6_bitCount_0f7a4 ks_RX4_64 d_X4_ask_33 rfl (Nat.le_of_ble_eq_true rfl) ⟨rfl, rfl, Nat.le_of_ble_eq_true rfl, Nat.le_of_ble_eq_true rfl, Nat.le_of_ble_eq_true rfl⟩ (fun n => ?_)
  obtain ⟨μ7, hμ7, hf⟩ := ob hf
  refine B_iast (kLaw_6 _ ha0) hμ7 d_X4_ask_36 ?_
  refine V_aload_n d_X4_ask_37 rfl rfl ?_
  refine B_get (kLaw _ ha0) fl_RX4_38 d_X4_ask_38 g_4_8 ?_
  refine V_iconst (v := 3) d_X4_ask_41 ic_3 ?_
  refine V_aload_n d_X4_ask_42 rfl rfl ?_
  refine B_get (kLand _ ha1) fl_RX4_72 d_X4_ask_43 g_2_8 ?_
  refine V_iload_n d_X4_ask_46 rfl rfl ?_
  obtain ⟨t8, ht8, hf⟩ := ob hf
  refine B_iald (kLand_3 _ ha1) ht8 d_X4_ask_47 ?_
  obtain ⟨μ9, hμ9, hf⟩ := ob hf
  refine B_iast (kLaw_6 _ ha0) hμ9 d_X4_ask_48 ?_
  refine V_aload_n d_X4_ask_49 rfl rfl ?_
  refine B_get (kLaw _ ha0) fl_RX4_38 d_X4_ask_50 g_4_8 ?_
  refine V_iconst (v := 4) d_X4_ask_53 ic_4 ?_
  refine V_aload_n d_X4_ask_54 rfl rfl ?_
  refine B_get (kLand _ ha1) fl_RX4_75 d_X4_ask_55 g_2_17 ?_
  refine V_aload_n d_X4_ask_58 rfl rfl ?_
  refine B_get (kLand _ ha1) fl_RX4_72 d_X4_ask_59 g_2_8 ?_
  refine V_iload_n d_X4_ask_62 rfl rfl ?_
  obtain ⟨t10, ht10, hf⟩ := ob hf
  refine B_iald (kLand_3 _ ha1) ht10 d_X4_ask_63 ?_
  obtain ⟨t11, ht11, hf⟩ := ob hf
  refine B_iald (kLand_12 _ ha1) ht11 d_X4_ask_64 ?_
  obtain ⟨μ12, hμ12, hf⟩ := ob hf
  refine B_iast (kLaw_6 _ ha0) hμ12 d_X4_ask_65 ?_
  refine V_aload_n d_X4_ask_66 rfl rfl ?_
  refine B_get (kLaw _ ha0) fl_RX4_38 d_X4_ask_67 g_4_8 ?_
  refine V_iconst (v := 5) d_X4_ask_70 ic_5 ?_
  refine V_aload_n d_X4_ask_71 rfl rfl ?_
  refine B_get (kLand _ ha1) fl_RX4_78 d_X4_ask_72 g_2_10 ?_
  refine V_iload_n d_X4_ask_75 rfl rfl ?_
  obtain ⟨t13, ht13, hf⟩ := ob hf
  refine B_iald (kLand_5 _ ha1) ht13 d_X4_ask_76 ?_
  obtain ⟨μ14, hμ14, hf⟩ := ob hf
  refine B_iast (kLaw_6 _ ha0) hμ14 d_X4_ask_77 ?_
  refine V_aload_n d_X4_ask_78 rfl rfl ?_
  refine B_get (kLaw _ ha0) fl_RX4_38 d_X4_ask_79 g_4_8 ?_
  refine V_bipush (v := 6) d_X4_ask_82 bp_6 ?_
  refine V_aload_n d_X4_ask_84 rfl rfl ?_
  refine B_get (kLand _ ha1) fl_RX4_81 d_X4_ask_85 g_2_2 ?_
  obtain ⟨μ15, hμ15, hf⟩ := ob hf
  refine B_iast (kLaw_6 _ ha0) hμ15 d_X4_ask_88 ?_
  refine V_aload_n d_X4_ask_89 rfl rfl ?_
  refine B_get (kLaw _ ha0) fl_RX4_38 d_X4_ask_90 g_4_8 ?_
  refine V_bipush (v := 7) d_X4_ask_93 bp_7 ?_
  refine V_iload_n d_X4_ask_95 rfl rfl ?_
  refine V_iconst (v := 1) d_X4_ask_96 ic_1 ?_
  have hJj16 : ∀ j16 : Bool, j16 = (if t2 = 1 then (false : Bool) else true) → V G C F_X4_ask 105 [some (.ref (G.2.1 + a0)), some (.ref (G.2.1 + a1)), some (.int p2), none] [.int (b2i j16), .int 7, .ref (G.2.1 + (a0 + 6))] (pic G μ15) n 0 0 := by
    intro j16 ej16
    subst ej16
    obtain ⟨μ17, hμ17, hf⟩ := ob hf
    refine B_iast (kLaw_6 _ ha0) hμ17 d_X4_ask_105 ?_
    refine V_aload_n d_X4_ask_106 rfl rfl ?_
    refine B_get (kLaw _ ha0) fl_RX4_38 d_X4_ask_107 g_4_8 ?_
    refine V_bipush (v := 8) d_X4_ask_110 bp_8 ?_
    refine V_aload_n d_X4_ask_112 rfl rfl ?_
    refine B_get (kLand _ ha1) fl_RX4_72 d_X4_ask_113 g_2_8 ?_
    refine V_iload_n d_X4_ask_116 rfl rfl ?_
    obtain ⟨t18, ht18, hf⟩ := ob hf
    refine B_iald (kLand_3 _ ha1) ht18 d_X4_ask_117 ?_
    refine V_aload_n d_X4_ask_118 rfl rfl ?_
    refine B_get (kLand _ ha1) fl_RX4_84 d_X4_ask_119 g_2_9 ?_
    refine V_iload_n d_X4_ask_122 rfl rfl ?_
    obtain ⟨t19, ht19, hf⟩ := ob hf
    refine B_iald (kLand_4 _ ha1) ht19 d_X4_ask_123 ?_
    have hJj20 : ∀ j20 : Bool, j20 = (if t18 = t19 then (true : Bool) else false) → V G C F_X4_ask 132 [none, none, none, none] [.int (b2i j20), .int 8, .ref (G.2.1 + (a0 + 6))] (pic G μ17) n 0 0 := by
      intro j20 ej20
      subst ej20
      obtain ⟨μ21, hμ21, hf⟩ := ob hf
      refine B_iast (kLaw_6 _ ha0) hμ21 d_X4_ask_132 ?_
      cases hf
      exact R_v hK d_X4_ask_133 (Nat.le_of_ble_eq_true rfl) (Nat.le_of_ble_eq_true rfl)
    refine V_icmp_ne (tgt := 131) d_X4_ask_124 (by decide) (fun c124 => ?_) (fun c124 => ?_)
    · refine V_iconst (v := 0) d_X4_ask_131 ic_0 ?_
      refine V_less (ls' := [none, none, none, none]) trivial ?_
      exact hJj20 false (by rw [if_neg c124])
    · refine V_iconst (v := 1) d_X4_ask_127 ic_1 ?_
      refine V_goto (tgt := 132) d_X4_ask_128 (by decide) ?_
      refine V_less (ls' := [none, none, none, none]) trivial ?_
      exact hJj20 true (by rw [if_pos c124])
  refine V_icmp_eq (tgt := 104) d_X4_ask_97 (by decide) (fun c97 => ?_) (fun c97 => ?_)
  · refine V_iconst (v := 0) d_X4_ask_104 ic_0 ?_
    refine V_less (ls' := [some _, some _, some _, none]) ⟨rfl, rfl, rfl, trivial⟩ ?_
    exact hJj16 false (by rw [if_pos c97])
  · refine V_iconst (v := 1) d_X4_ask_100 ic_1 ?_
    refine V_goto (tgt := 105) d_X4_ask_101 (by decide) ?_
    refine V_less (ls' := [some _, some _, some _, none]) ⟨rfl, rfl, rfl, trivial⟩ ?_
    exact hJj16 true (by rw [if_neg c97])
theorem s_X4_ask {G : Gl} (hG : G.1.stackTraces = false) {μ : Mem} {a0 : Nat} {a1 : Nat} {p2 : Int32} (ha0 : a0 ∈ lawL) (ha1 : a1 ∈ landL) {r : Mem} (hf : f_X4_ask μ a0 a1 p2 = some r) : Rt G yX4_ask F_X4_ask none [.ref (G.2.1 + a0), .ref (G.2.1 + a1), .int p2] μ none r := fun n => Sd.of hG ⟨by decide +kernel, rfl, rfl⟩ rfl (Nat.le_of_ble_eq_true rfl) rfl (fun C hK => s_X4_ask_e hG ha0 ha1 hf hK)
theorem d_X4_joined_0 : decode cX4_joined 0 = .ok (.iload_n 0, 1) := by decide +kernel
theorem d_X4_joined_1 : decode cX4_joined 1 = .ok (.tableswitch 61 1010 1013 #[31, 35, 46, 57], 31) := by decide +kernel
theorem d_X4_joined_32 : decode cX4_joined 32 = .ok (.iload_n 1, 1) := by decide +kernel
theorem d_X4_joined_33 : decode cX4_joined 33 = .ok (.iload_n 2, 1) := by decide +kernel
theorem d_X4_joined_34 : decode cX4_joined 34 = .ok (.iadd, 1) := by decide +kernel
theorem d_X4_joined_35 : decode cX4_joined 35 = .ok (.ireturn, 1) := by decide +kernel
theorem d_X4_joined_36 : decode cX4_joined 36 = .ok (.iload_n 1, 1) := by decide +kernel
theorem d_X4_joined_37 : decode cX4_joined 37 = .ok (.iload_n 2, 1) := by decide +kernel
theorem d_X4_joined_38 : decode cX4_joined 38 = .ok (.if_icmp .ge 7, 3) := by decide +kernel
theorem d_X4_joined_41 : decode cX4_joined 41 = .ok (.iconst 1, 1) := by decide +kernel
theorem d_X4_joined_42 : decode cX4_joined 42 = .ok (.goto 4, 3) := by decide +kernel
theorem d_X4_joined_45 : decode cX4_joined 45 = .ok (.iconst 0, 1) := by decide +kernel
theorem d_X4_joined_46 : decode cX4_joined 46 = .ok (.ireturn, 1) := by decide +kernel
theorem d_X4_joined_47 : decode cX4_joined 47 = .ok (.iload_n 1, 1) := by decide +kernel
theorem d_X4_joined_48 : decode cX4_joined 48 = .ok (.iload_n 2, 1) := by decide +kernel
theorem d_X4_joined_49 : decode cX4_joined 49 = .ok (.if_icmp .le 7, 3) := by decide +kernel
theorem d_X4_joined_52 : decode cX4_joined 52 = .ok (.iconst 1, 1) := by decide +kernel
theorem d_X4_joined_53 : decode cX4_joined 53 = .ok (.goto 4, 3) := by decide +kernel
theorem d_X4_joined_56 : decode cX4_joined 56 = .ok (.iconst 0, 1) := by decide +kernel
theorem d_X4_joined_57 : decode cX4_joined 57 = .ok (.ireturn, 1) := by decide +kernel
theorem d_X4_joined_58 : decode cX4_joined 58 = .ok (.iload_n 1, 1) := by decide +kernel
theorem d_X4_joined_59 : decode cX4_joined 59 = .ok (.iload_n 2, 1) := by decide +kernel
theorem d_X4_joined_60 : decode cX4_joined 60 = .ok (.iand, 1) := by decide +kernel
theorem d_X4_joined_61 : decode cX4_joined 61 = .ok (.ireturn, 1) := by decide +kernel
theorem d_X4_joined_62 : decode cX4_joined 62 = .ok (.iload_n 1, 1) := by decide +kernel
theorem d_X4_joined_63 : decode cX4_joined 63 = .ok (.iload_n 2, 1) := by decide +kernel
theorem d_X4_joined_64 : decode cX4_joined 64 = .ok (.ior, 1) := by decide +kernel
theorem d_X4_joined_65 : decode cX4_joined 65 = .ok (.ireturn, 1) := by decide +kernel
theorem s_X4_joined_e {G : Gl} (hG : G.1.stackTraces = false) {C : Cx} {n : Nat} {μ : Mem} {p0 : Int32} {p1 : Int32} {p2 : Int32} {r : Int32} (hf : f_X4_joined μ p0 p1 p2 = some r) (hK : FinR G C F_X4_joined (some .int) (some (.int r)) μ) : V G C F_X4_joined 0 [some (.int p0), some (.int p1), some (.int p2)] [] (pic G μ) n 0 0 := by
  unfold f_X4_joined at hf
  refine V_iload_n d_X4_joined_0 rfl rfl ?_
  by_cases c1_0 : p0 = 1010
  · replace hf := iteT c1_0 hf
    refine V_tabC (q := 1010) (off := 31) (tgt := 32) d_X4_joined_1 c1_0 (by decide) (by decide) ?_
    refine V_iload_n d_X4_joined_32 rfl rfl ?_
    refine V_iload_n d_X4_joined_33 rfl rfl ?_
    refine V_iadd d_X4_joined_34 ?_
    cases hf
    exact R_i hK d_X4_joined_35 (Nat.le_of_ble_eq_true rfl) (Nat.le_of_ble_eq_true rfl)
  replace hf := iteF c1_0 hf
  by_cases c1_1 : p0 = 1011
  · replace hf := iteT c1_1 hf
    refine V_tabC (q := 1011) (off := 35) (tgt := 36) d_X4_joined_1 c1_1 (by decide) (by decide) ?_
    refine V_iload_n d_X4_joined_36 rfl rfl ?_
    refine V_iload_n d_X4_joined_37 rfl rfl ?_
    have hJj1 : ∀ j1 : Bool, j1 = (if p2 ≤ p1 then (false : Bool) else true) → V G C F_X4_joined 46 [none, none, none] [.int (b2i j1)] (pic G μ) n 0 0 := by
      intro j1 ej1
      subst ej1
      cases hf
      exact R_i hK d_X4_joined_46 (Nat.le_of_ble_eq_true rfl) (Nat.le_of_ble_eq_true rfl)
    refine V_icmp_ge (tgt := 45) d_X4_joined_38 (by decide) (fun c38 => ?_) (fun c38 => ?_)
    · refine V_iconst (v := 0) d_X4_joined_45 ic_0 ?_
      refine V_less (ls' := [none, none, none]) trivial ?_
      exact hJj1 false (by rw [if_pos c38])
    · refine V_iconst (v := 1) d_X4_joined_41 ic_1 ?_
      refine V_goto (tgt := 46) d_X4_joined_42 (by decide) ?_
      refine V_less (ls' := [none, none, none]) trivial ?_
      exact hJj1 true (by rw [if_neg c38])
  replace hf := iteF c1_1 hf
  by_cases c1_2 : p0 = 1012
  · replace hf := iteT c1_2 hf
    refine V_tabC (q := 1012) (off := 46) (tgt := 47) d_X4_joined_1 c1_2 (by decide) (by decide) ?_
    refine V_iload_n d_X4_joined_47 rfl rfl ?_
    refine V_iload_n d_X4_joined_48 rfl rfl ?_
    have hJj2 : ∀ j2 : Bool, j2 = (if p1 ≤ p2 then (false : Bool) else true) → V G C F_X4_joined 57 [none, none, none] [.int (b2i j2)] (pic G μ) n 0 0 := by
      intro j2 ej2
      subst ej2
      cases hf
      exact R_i hK d_X4_joined_57 (Nat.le_of_ble_eq_true rfl) (Nat.le_of_ble_eq_true rfl)
    refine V_icmp_le (tgt := 56) d_X4_joined_49 (by decide) (fun c49 => ?_) (fun c49 => ?_)
    · refine V_iconst (v := 0) d_X4_joined_56 ic_0 ?_
      refine V_less (ls' := [none, none, none]) trivial ?_
      exact hJj2 false (by rw [if_pos c49])
    · refine V_iconst (v := 1) d_X4_joined_52 ic_1 ?_
      refine V_goto (tgt := 57) d_X4_joined_53 (by decide) ?_
      refine V_less (ls' := [none, none, none]) trivial ?_
      exact hJj2 true (by rw [if_neg c49])
  replace hf := iteF c1_2 hf
  by_cases c1_3 : p0 = 1013
  · replace hf := iteT c1_3 hf
    refine V_tabC (q := 1013) (off := 57) (tgt := 58) d_X4_joined_1 c1_3 (by decide) (by decide) ?_
    refine V_iload_n d_X4_joined_58 rfl rfl ?_
    refine V_iload_n d_X4_joined_59 rfl rfl ?_
    refine V_iand d_X4_joined_60 ?_
    cases hf
    exact R_i hK d_X4_joined_61 (Nat.le_of_ble_eq_true rfl) (Nat.le_of_ble_eq_true rfl)
  replace hf := iteF c1_3 hf
  refine V_tabD (ks9 := [1010, 1011, 1012, 1013]) (tgt := 62) d_X4_joined_1 ⟨c1_0, c1_1, c1_2, c1_3, trivial⟩ (by decide) (by decide) ?_
  refine V_iload_n d_X4_joined_62 rfl rfl ?_
  refine V_iload_n d_X4_joined_63 rfl rfl ?_
  refine V_ior d_X4_joined_64 ?_
  cases hf
  exact R_i hK d_X4_joined_65 (Nat.le_of_ble_eq_true rfl) (Nat.le_of_ble_eq_true rfl)
theorem s_X4_joined {G : Gl} (hG : G.1.stackTraces = false) {μ : Mem} {p0 : Int32} {p1 : Int32} {p2 : Int32} {r : Int32} (hf : f_X4_joined μ p0 p1 p2 = some r) : Rt G yX4_joined F_X4_joined (some .int) [.int p0, .int p1, .int p2] μ (some (.int r)) μ := fun n => Sd.of hG ⟨by decide +kernel, rfl, rfl⟩ rfl (Nat.le_of_ble_eq_true rfl) rfl (fun C hK => s_X4_joined_e hG hf hK)
theorem d_X4_holds_0 : decode cX4_holds 0 = .ok (.iconst 0, 1) := by decide +kernel
theorem d_X4_holds_1 : decode cX4_holds 1 = .ok (.istore_n 2, 1) := by decide +kernel
theorem d_X4_holds_2 : decode cX4_holds 2 = .ok (.aload_n 0, 1) := by decide +kernel
theorem d_X4_holds_3 : decode cX4_holds 3 = .ok (.getfield 29, 3) := by decide +kernel
theorem d_X4_holds_6 : decode cX4_holds 6 = .ok (.iload_n 1, 1) := by decide +kernel
theorem d_X4_holds_7 : decode cX4_holds 7 = .ok (.iaload, 1) := by decide +kernel
theorem d_X4_holds_8 : decode cX4_holds 8 = .ok (.istore_n 3, 1) := by decide +kernel
theorem d_X4_holds_9 : decode cX4_holds 9 = .ok (.iload_n 3, 1) := by decide +kernel
theorem d_X4_holds_10 : decode cX4_holds 10 = .ok (.aload_n 0, 1) := by decide +kernel
theorem d_X4_holds_11 : decode cX4_holds 11 = .ok (.getfield 32, 3) := by decide +kernel
theorem d_X4_holds_14 : decode cX4_holds 14 = .ok (.iload_n 1, 1) := by decide +kernel
theorem d_X4_holds_15 : decode cX4_holds 15 = .ok (.iaload, 1) := by decide +kernel
theorem d_X4_holds_16 : decode cX4_holds 16 = .ok (.if_icmp .ge 138, 3) := by decide +kernel
theorem d_X4_holds_19 : decode cX4_holds 19 = .ok (.aload_n 0, 1) := by decide +kernel
theorem d_X4_holds_20 : decode cX4_holds 20 = .ok (.getfield 35, 3) := by decide +kernel
theorem d_X4_holds_23 : decode cX4_holds 23 = .ok (.iload_n 3, 1) := by decide +kernel
theorem d_X4_holds_24 : decode cX4_holds 24 = .ok (.iaload, 1) := by decide +kernel
theorem d_X4_holds_25 : decode cX4_holds 25 = .ok (.istore 4, 2) := by decide +kernel
theorem d_X4_holds_27 : decode cX4_holds 27 = .ok (.iload 4, 2) := by decide +kernel
theorem d_X4_holds_29 : decode cX4_holds 29 = .ok (.sipush 1009, 3) := by decide +kernel
theorem d_X4_holds_32 : decode cX4_holds 32 = .ok (.if_icmp .ge 48, 3) := by decide +kernel
theorem d_X4_holds_35 : decode cX4_holds 35 = .ok (.iload_n 2, 1) := by decide +kernel
theorem d_X4_holds_36 : decode cX4_holds 36 = .ok (.aload_n 0, 1) := by decide +kernel
theorem d_X4_holds_37 : decode cX4_holds 37 = .ok (.getfield 41, 3) := by decide +kernel
theorem d_X4_holds_40 : decode cX4_holds 40 = .ok (.arraylength, 1) := by decide +kernel
theorem d_X4_holds_41 : decode cX4_holds 41 = .ok (.if_icmp .ge 107, 3) := by decide +kernel
theorem d_X4_holds_44 : decode cX4_holds 44 = .ok (.aload_n 0, 1) := by decide +kernel
theorem d_X4_holds_45 : decode cX4_holds 45 = .ok (.getfield 41, 3) := by decide +kernel
theorem d_X4_holds_48 : decode cX4_holds 48 = .ok (.iload_n 2, 1) := by decide +kernel
theorem d_X4_holds_49 : decode cX4_holds 49 = .ok (.iload 4, 2) := by decide +kernel
theorem d_X4_holds_51 : decode cX4_holds 51 = .ok (.sipush 1000, 3) := by decide +kernel
theorem d_X4_holds_54 : decode cX4_holds 54 = .ok (.if_icmp .ge 8, 3) := by decide +kernel
theorem d_X4_holds_57 : decode cX4_holds 57 = .ok (.iload 4, 2) := by decide +kernel
theorem d_X4_holds_59 : decode cX4_holds 59 = .ok (.goto 14, 3) := by decide +kernel
theorem d_X4_holds_62 : decode cX4_holds 62 = .ok (.aload_n 0, 1) := by decide +kernel
theorem d_X4_holds_63 : decode cX4_holds 63 = .ok (.getfield 38, 3) := by decide +kernel
theorem d_X4_holds_66 : decode cX4_holds 66 = .ok (.iload 4, 2) := by decide +kernel
theorem d_X4_holds_68 : decode cX4_holds 68 = .ok (.sipush 1000, 3) := by decide +kernel
theorem d_X4_holds_71 : decode cX4_holds 71 = .ok (.isub, 1) := by decide +kernel
theorem d_X4_holds_72 : decode cX4_holds 72 = .ok (.iaload, 1) := by decide +kernel
theorem d_X4_holds_73 : decode cX4_holds 73 = .ok (.iastore, 1) := by decide +kernel
theorem d_X4_holds_74 : decode cX4_holds 74 = .ok (.iinc 2 1, 3) := by decide +kernel
theorem d_X4_holds_77 : decode cX4_holds 77 = .ok (.goto 71, 3) := by decide +kernel
theorem d_X4_holds_80 : decode cX4_holds 80 = .ok (.iload 4, 2) := by decide +kernel
theorem d_X4_holds_82 : decode cX4_holds 82 = .ok (.sipush 1009, 3) := by decide +kernel
theorem d_X4_holds_85 : decode cX4_holds 85 = .ok (.if_icmp .ne 28, 3) := by decide +kernel
theorem d_X4_holds_88 : decode cX4_holds 88 = .ok (.iload_n 2, 1) := by decide +kernel
theorem d_X4_holds_89 : decode cX4_holds 89 = .ok (.ifCond .le 59, 3) := by decide +kernel
theorem d_X4_holds_92 : decode cX4_holds 92 = .ok (.aload_n 0, 1) := by decide +kernel
theorem d_X4_holds_93 : decode cX4_holds 93 = .ok (.getfield 41, 3) := by decide +kernel
theorem d_X4_holds_96 : decode cX4_holds 96 = .ok (.iload_n 2, 1) := by decide +kernel
theorem d_X4_holds_97 : decode cX4_holds 97 = .ok (.iconst 1, 1) := by decide +kernel
theorem d_X4_holds_98 : decode cX4_holds 98 = .ok (.isub, 1) := by decide +kernel
theorem d_X4_holds_99 : decode cX4_holds 99 = .ok (.iconst 1, 1) := by decide +kernel
theorem d_X4_holds_100 : decode cX4_holds 100 = .ok (.aload_n 0, 1) := by decide +kernel
theorem d_X4_holds_101 : decode cX4_holds 101 = .ok (.getfield 41, 3) := by decide +kernel
theorem d_X4_holds_104 : decode cX4_holds 104 = .ok (.iload_n 2, 1) := by decide +kernel
theorem d_X4_holds_105 : decode cX4_holds 105 = .ok (.iconst 1, 1) := by decide +kernel
theorem d_X4_holds_106 : decode cX4_holds 106 = .ok (.isub, 1) := by decide +kernel
theorem d_X4_holds_107 : decode cX4_holds 107 = .ok (.iaload, 1) := by decide +kernel
theorem d_X4_holds_108 : decode cX4_holds 108 = .ok (.isub, 1) := by decide +kernel
theorem d_X4_holds_109 : decode cX4_holds 109 = .ok (.iastore, 1) := by decide +kernel
theorem d_X4_holds_110 : decode cX4_holds 110 = .ok (.goto 38, 3) := by decide +kernel
theorem d_X4_holds_113 : decode cX4_holds 113 = .ok (.iload_n 2, 1) := by decide +kernel
theorem d_X4_holds_114 : decode cX4_holds 114 = .ok (.iconst 1, 1) := by decide +kernel
theorem d_X4_holds_115 : decode cX4_holds 115 = .ok (.if_icmp .le 33, 3) := by decide +kernel
theorem d_X4_holds_118 : decode cX4_holds 118 = .ok (.iinc 2 (-1), 3) := by decide +kernel
theorem d_X4_holds_121 : decode cX4_holds 121 = .ok (.aload_n 0, 1) := by decide +kernel
theorem d_X4_holds_122 : decode cX4_holds 122 = .ok (.getfield 41, 3) := by decide +kernel
theorem d_X4_holds_125 : decode cX4_holds 125 = .ok (.iload_n 2, 1) := by decide +kernel
theorem d_X4_holds_126 : decode cX4_holds 126 = .ok (.iconst 1, 1) := by decide +kernel
theorem d_X4_holds_127 : decode cX4_holds 127 = .ok (.isub, 1) := by decide +kernel
theorem d_X4_holds_128 : decode cX4_holds 128 = .ok (.iload 4, 2) := by decide +kernel
theorem d_X4_holds_130 : decode cX4_holds 130 = .ok (.aload_n 0, 1) := by decide +kernel
theorem d_X4_holds_131 : decode cX4_holds 131 = .ok (.getfield 41, 3) := by decide +kernel
theorem d_X4_holds_134 : decode cX4_holds 134 = .ok (.iload_n 2, 1) := by decide +kernel
theorem d_X4_holds_135 : decode cX4_holds 135 = .ok (.iconst 1, 1) := by decide +kernel
theorem d_X4_holds_136 : decode cX4_holds 136 = .ok (.isub, 1) := by decide +kernel
theorem d_X4_holds_137 : decode cX4_holds 137 = .ok (.iaload, 1) := by decide +kernel
theorem d_X4_holds_138 : decode cX4_holds 138 = .ok (.aload_n 0, 1) := by decide +kernel
theorem d_X4_holds_139 : decode cX4_holds 139 = .ok (.getfield 41, 3) := by decide +kernel
theorem d_X4_holds_142 : decode cX4_holds 142 = .ok (.iload_n 2, 1) := by decide +kernel
theorem d_X4_holds_143 : decode cX4_holds 143 = .ok (.iaload, 1) := by decide +kernel
theorem d_X4_holds_144 : decode cX4_holds 144 = .ok (.invokestatic 87, 3) := by decide +kernel
theorem d_X4_holds_147 : decode cX4_holds 147 = .ok (.iastore, 1) := by decide +kernel
theorem d_X4_holds_148 : decode cX4_holds 148 = .ok (.iinc 3 1, 3) := by decide +kernel
theorem d_X4_holds_151 : decode cX4_holds 151 = .ok (.goto (-142), 3) := by decide +kernel
theorem d_X4_holds_154 : decode cX4_holds 154 = .ok (.iload_n 2, 1) := by decide +kernel
theorem d_X4_holds_155 : decode cX4_holds 155 = .ok (.ifCond .eq 12, 3) := by decide +kernel
theorem d_X4_holds_158 : decode cX4_holds 158 = .ok (.aload_n 0, 1) := by decide +kernel
theorem d_X4_holds_159 : decode cX4_holds 159 = .ok (.getfield 41, 3) := by decide +kernel
theorem d_X4_holds_162 : decode cX4_holds 162 = .ok (.iconst 0, 1) := by decide +kernel
theorem d_X4_holds_163 : decode cX4_holds 163 = .ok (.iaload, 1) := by decide +kernel
theorem d_X4_holds_164 : decode cX4_holds 164 = .ok (.ifCond .eq 7, 3) := by decide +kernel
theorem d_X4_holds_167 : decode cX4_holds 167 = .ok (.iconst 1, 1) := by decide +kernel
theorem d_X4_holds_168 : decode cX4_holds 168 = .ok (.goto 4, 3) := by decide +kernel
theorem d_X4_holds_171 : decode cX4_holds 171 = .ok (.iconst 0, 1) := by decide +kernel
theorem d_X4_holds_172 : decode cX4_holds 172 = .ok (.ireturn, 1) := by decide +kernel
theorem s_X4_holds_j148_9 {G : Gl} (hG : G.1.stackTraces = false) {C : Cx} {n : Nat} {μ : Mem} {a0 : Nat} {l1 : Int32} {l2 : Int32} {l3 : Int32} (ha0 : a0 ∈ lawL) {y : ((Int32 × Int32 × Mem) ⊕ (Int32 × Mem))} (hf : f_X4_holds_j148_9 μ a0 l1 l2 l3 = some y) (hK : (∀ z', y = .inl z' → ∀ n, V G C F_X4_holds 9 [some (.ref (G.2.1 + a0)), some (.int l1), some (.int z'.1), some (.int z'.2.1), none] [] (pic G z'.2.2) n 0 0) ∧ (∀ x', y = .inr x' → ∀ n, V G C F_X4_holds 154 [some (.ref (G.2.1 + a0)), none, some (.int x'.1), none, none] [] (pic G x'.2) n 0 0)) : V G C F_X4_holds 148 [some (.ref (G.2.1 + a0)), some (.int l1), some (.int l2), some (.int l3), none] [] (pic G μ) n 0 0 := by
  unfold f_X4_holds_j148_9 at hf
  refine V_iinc (v := (l3 + 1)) (ls' := [_, _, _, _, _]) d_X4_holds_148 rfl (by rw [ic_1]) rfl ?_
  refine V_goto (tgt := 9) d_X4_holds_151 (by decide) ?_
  refine V_less (ls' := [some _, some _, some _, some _, none]) ⟨rfl, rfl, rfl, rfl, trivial⟩ ?_
  cases hf
  exact hK.1 _ rfl _
theorem s_X4_holds_j73_9 {G : Gl} (hG : G.1.stackTraces = false) {C : Cx} {n : Nat} {μ : Mem} {a0 : Nat} {l1 : Int32} {l2 : Int32} {l3 : Int32} {k1 : Int32} {k2 : Int32} (ha0 : a0 ∈ lawL) {y : ((Int32 × Int32 × Mem) ⊕ (Int32 × Mem))} (hf : f_X4_holds_j73_9 μ a0 l1 l2 l3 k1 k2 = some y) (hK : (∀ z', y = .inl z' → ∀ n, V G C F_X4_holds 9 [some (.ref (G.2.1 + a0)), some (.int l1), some (.int z'.1), some (.int z'.2.1), none] [] (pic G z'.2.2) n 0 0) ∧ (∀ x', y = .inr x' → ∀ n, V G C F_X4_holds 154 [some (.ref (G.2.1 + a0)), none, some (.int x'.1), none, none] [] (pic G x'.2) n 0 0)) : V G C F_X4_holds 73 [some (.ref (G.2.1 + a0)), some (.int l1), some (.int l2), some (.int l3), none] [.int k2, .int k1, .ref (G.2.1 + (a0 + 7))] (pic G μ) n 0 0 := by
  unfold f_X4_holds_j73_9 at hf
  obtain ⟨μ1, hμ1, hf⟩ := ob hf
  refine B_iast (kLaw_7 _ ha0) hμ1 d_X4_holds_73 ?_
  refine V_iinc (v := (l2 + 1)) (ls' := [_, _, _, _, _]) d_X4_holds_74 rfl (by rw [ic_1]) rfl ?_
  refine V_goto (tgt := 148) d_X4_holds_77 (by decide) ?_
  refine V_less (ls' := [some _, some _, some _, some _, none]) ⟨rfl, rfl, rfl, rfl, trivial⟩ ?_
  exact s_X4_holds_j148_9 hG ha0 hf hK
theorem s_X4_holds_b9 {G : Gl} (hG : G.1.stackTraces = false) {C : Cx} {n : Nat} {μ : Mem} {a0 : Nat} {l1 : Int32} {l2 : Int32} {l3 : Int32} (ha0 : a0 ∈ lawL) {y : ((Int32 × Int32 × Mem) ⊕ (Int32 × Mem))} (hf : f_X4_holds_b9 μ a0 l1 l2 l3 = some y) (hK : (∀ z', y = .inl z' → ∀ n, V G C F_X4_holds 9 [some (.ref (G.2.1 + a0)), some (.int l1), some (.int z'.1), some (.int z'.2.1), none] [] (pic G z'.2.2) n 0 0) ∧ (∀ x', y = .inr x' → ∀ n, V G C F_X4_holds 154 [some (.ref (G.2.1 + a0)), none, some (.int x'.1), none, none] [] (pic G x'.2) n 0 0)) : V G C F_X4_holds 9 [some (.ref (G.2.1 + a0)), some (.int l1), some (.int l2), some (.int l3), none] [] (pic G μ) n 0 0 := by
  unfold f_X4_holds_b9 at hf
  refine V_iload_n d_X4_holds_9 rfl rfl ?_
  refine V_aload_n d_X4_holds_10 rfl rfl ?_
  refine B_get (kLaw _ ha0) fl_RX4_32 d_X4_holds_11 g_4_6 ?_
  refine V_iload_n d_X4_holds_14 rfl rfl ?_
  obtain ⟨t1, ht1, hf⟩ := ob hf
  refine B_iald (kLaw_4 _ ha0) ht1 d_X4_holds_15 ?_
  refine V_icmp_ge (tgt := 154) d_X4_holds_16 (by decide) (fun c16 => ?_) (fun c16 => ?_)
  · replace hf := iteT c16 hf
    refine V_less (ls' := [some _, none, some _, none, none]) ⟨rfl, rfl, trivial⟩ ?_
    cases hf
    exact hK.2 _ rfl _
  · replace hf := iteF c16 hf
    refine V_aload_n d_X4_holds_19 rfl rfl ?_
    refine B_get (kLaw _ ha0) fl_RX4_35 d_X4_holds_20 g_4_7 ?_
    refine V_iload_n d_X4_holds_23 rfl rfl ?_
    obtain ⟨t2, ht2, hf⟩ := ob hf
    refine B_iald (kLaw_5 _ ha0) ht2 d_X4_holds_24 ?_
    refine V_istore (ls' := [_, _, _, _, _]) d_X4_holds_25 rfl rfl ?_
    refine V_iload d_X4_holds_27 rfl ?_
    refine V_sipush (v := 1009) d_X4_holds_29 sp_1009 ?_
    refine V_icmp_ge (tgt := 80) d_X4_holds_32 (by decide) (fun c32 => ?_) (fun c32 => ?_)
    · replace hf := iteT c32 hf
      refine V_iload d_X4_holds_80 rfl ?_
      refine V_sipush (v := 1009) d_X4_holds_82 sp_1009 ?_
      refine V_icmp_ne (tgt := 113) d_X4_holds_85 (by decide) (fun c85 => ?_) (fun c85 => ?_)
      · replace hf := iteF c85 hf
        refine V_iload_n d_X4_holds_113 rfl rfl ?_
        refine V_iconst (v := 1) d_X4_holds_114 ic_1 ?_
        refine V_icmp_le (tgt := 148) d_X4_holds_115 (by decide) (fun c115 => ?_) (fun c115 => ?_)
        · replace hf := iteT c115 hf
          refine V_less (ls' := [some _, some _, some _, some _, none]) ⟨rfl, rfl, rfl, rfl, trivial⟩ ?_
          exact s_X4_holds_j148_9 hG ha0 hf hK
        · replace hf := iteF c115 hf
          refine V_iinc (v := (l2 + (-1))) (ls' := [_, _, _, _, _]) d_X4_holds_118 rfl (by rw [ic_m1]) rfl ?_
          refine V_aload_n d_X4_holds_121 rfl rfl ?_
          refine B_get (kLaw _ ha0) fl_RX4_41 d_X4_holds_122 g_4_9 ?_
          refine V_iload_n d_X4_holds_125 rfl rfl ?_
          refine V_iconst (v := 1) d_X4_holds_126 ic_1 ?_
          refine V_isub d_X4_holds_127 ?_
          refine V_iload d_X4_holds_128 rfl ?_
          refine V_aload_n d_X4_holds_130 rfl rfl ?_
          refine B_get (kLaw _ ha0) fl_RX4_41 d_X4_holds_131 g_4_9 ?_
          refine V_iload_n d_X4_holds_134 rfl rfl ?_
          refine V_iconst (v := 1) d_X4_holds_135 ic_1 ?_
          refine V_isub d_X4_holds_136 ?_
          obtain ⟨t3, ht3, hf⟩ := ob hf
          refine B_iald (kLaw_7 _ ha0) ht3 d_X4_holds_137 ?_
          refine V_aload_n d_X4_holds_138 rfl rfl ?_
          refine B_get (kLaw _ ha0) fl_RX4_41 d_X4_holds_139 g_4_9 ?_
          refine V_iload_n d_X4_holds_142 rfl rfl ?_
          obtain ⟨t4, ht4, hf⟩ := ob hf
          refine B_iald (kLaw_7 _ ha0) ht4 d_X4_holds_143 ?_
          obtain ⟨t5, ht5, hf⟩ := ob hf
          refine B_callS1 (s_X4_joined hG ht5) m_X4_joined ks_RX4_87 d_X4_holds_144 rfl (Nat.le_of_ble_eq_true rfl) ⟨rfl, rfl, Nat.le_of_ble_eq_true rfl, Nat.le_of_ble_eq_true rfl, Nat.le_of_ble_eq_true rfl⟩ (fun n => ?_)
          obtain ⟨μ6, hμ6, hf⟩ := ob hf
          refine B_iast (kLaw_7 _ ha0) hμ6 d_X4_holds_147 ?_
          refine V_less (ls' := [some _, some _, some _, some _, none]) ⟨rfl, rfl, rfl, rfl, trivial⟩ ?_
          exact s_X4_holds_j148_9 hG ha0 hf hK
      · replace hf := iteT c85 hf
        refine V_iload_n d_X4_holds_88 rfl rfl ?_
        refine V_if_le (tgt := 148) d_X4_holds_89 (by decide) (fun c89 => ?_) (fun c89 => ?_)
        · replace hf := iteT c89 hf
          refine V_less (ls' := [some _, some _, some _, some _, none]) ⟨rfl, rfl, rfl, rfl, trivial⟩ ?_
          exact s_X4_holds_j148_9 hG ha0 hf hK
        · replace hf := iteF c89 hf
          refine V_aload_n d_X4_holds_92 rfl rfl ?_
          refine B_get (kLaw _ ha0) fl_RX4_41 d_X4_holds_93 g_4_9 ?_
          refine V_iload_n d_X4_holds_96 rfl rfl ?_
          refine V_iconst (v := 1) d_X4_holds_97 ic_1 ?_
          refine V_isub d_X4_holds_98 ?_
          refine V_iconst (v := 1) d_X4_holds_99 ic_1 ?_
          refine V_aload_n d_X4_holds_100 rfl rfl ?_
          refine B_get (kLaw _ ha0) fl_RX4_41 d_X4_holds_101 g_4_9 ?_
          refine V_iload_n d_X4_holds_104 rfl rfl ?_
          refine V_iconst (v := 1) d_X4_holds_105 ic_1 ?_
          refine V_isub d_X4_holds_106 ?_
          obtain ⟨t7, ht7, hf⟩ := ob hf
          refine B_iald (kLaw_7 _ ha0) ht7 d_X4_holds_107 ?_
          refine V_isub d_X4_holds_108 ?_
          obtain ⟨μ8, hμ8, hf⟩ := ob hf
          refine B_iast (kLaw_7 _ ha0) hμ8 d_X4_holds_109 ?_
          refine V_goto (tgt := 148) d_X4_holds_110 (by decide) ?_
          refine V_less (ls' := [some _, some _, some _, some _, none]) ⟨rfl, rfl, rfl, rfl, trivial⟩ ?_
          exact s_X4_holds_j148_9 hG ha0 hf hK
    · replace hf := iteF c32 hf
      refine V_iload_n d_X4_holds_35 rfl rfl ?_
      refine V_aload_n d_X4_holds_36 rfl rfl ?_
      refine B_get (kLaw _ ha0) fl_RX4_41 d_X4_holds_37 g_4_9 ?_
      refine B_alen (v := 24) (kLaw_7 _ ha0) d_X4_holds_40 (by decide) ?_
      refine V_icmp_ge (tgt := 148) d_X4_holds_41 (by decide) (fun c41 => ?_) (fun c41 => ?_)
      · replace hf := iteT c41 hf
        refine V_less (ls' := [some _, some _, some _, some _, none]) ⟨rfl, rfl, rfl, rfl, trivial⟩ ?_
        exact s_X4_holds_j148_9 hG ha0 hf hK
      · replace hf := iteF c41 hf
        refine V_aload_n d_X4_holds_44 rfl rfl ?_
        refine B_get (kLaw _ ha0) fl_RX4_41 d_X4_holds_45 g_4_9 ?_
        refine V_iload_n d_X4_holds_48 rfl rfl ?_
        refine V_iload d_X4_holds_49 rfl ?_
        refine V_sipush (v := 1000) d_X4_holds_51 sp_1000 ?_
        refine V_icmp_ge (tgt := 62) d_X4_holds_54 (by decide) (fun c54 => ?_) (fun c54 => ?_)
        · replace hf := iteT c54 hf
          refine V_aload_n d_X4_holds_62 rfl rfl ?_
          refine B_get (kLaw _ ha0) fl_RX4_38 d_X4_holds_63 g_4_8 ?_
          refine V_iload d_X4_holds_66 rfl ?_
          refine V_sipush (v := 1000) d_X4_holds_68 sp_1000 ?_
          refine V_isub d_X4_holds_71 ?_
          obtain ⟨t9, ht9, hf⟩ := ob hf
          refine B_iald (kLaw_6 _ ha0) ht9 d_X4_holds_72 ?_
          refine V_less (ls' := [some _, some _, some _, some _, none]) ⟨rfl, rfl, rfl, rfl, trivial⟩ ?_
          exact s_X4_holds_j73_9 hG ha0 hf hK
        · replace hf := iteF c54 hf
          refine V_iload d_X4_holds_57 rfl ?_
          refine V_goto (tgt := 73) d_X4_holds_59 (by decide) ?_
          refine V_less (ls' := [some _, some _, some _, some _, none]) ⟨rfl, rfl, rfl, rfl, trivial⟩ ?_
          exact s_X4_holds_j73_9 hG ha0 hf hK
theorem s_X4_holds_j172 {G : Gl} (hG : G.1.stackTraces = false) {C : Cx} {n : Nat} {μ : Mem} {a0 : Nat} {k0 : Bool} (ha0 : a0 ∈ lawL) {r : (Bool × Mem)} (hf : f_X4_holds_j172 μ a0 k0 = some r) (hK : FinR G C F_X4_holds (some .boolean) (some (.int (b2i r.1))) r.2) : V G C F_X4_holds 172 [none, none, none, none, none] [.int (b2i k0)] (pic G μ) n 0 0 := by
  unfold f_X4_holds_j172 at hf
  cases hf
  exact R_z hK d_X4_holds_172 (Nat.le_of_ble_eq_true rfl) (Nat.le_of_ble_eq_true rfl)
theorem s_X4_holds_j167 {G : Gl} (hG : G.1.stackTraces = false) {C : Cx} {n : Nat} {μ : Mem} {a0 : Nat} (ha0 : a0 ∈ lawL) {r : (Bool × Mem)} (hf : f_X4_holds_j167 μ a0 = some r) (hK : FinR G C F_X4_holds (some .boolean) (some (.int (b2i r.1))) r.2) : V G C F_X4_holds 167 [none, none, none, none, none] [] (pic G μ) n 0 0 := by
  unfold f_X4_holds_j167 at hf
  refine V_iconst (v := 1) d_X4_holds_167 ic_1 ?_
  refine V_goto (tgt := 172) d_X4_holds_168 (by decide) ?_
  refine V_less (ls' := [none, none, none, none, none]) trivial ?_
  exact s_X4_holds_j172 hG ha0 hf hK
theorem s_X4_holds_j154 {G : Gl} (hG : G.1.stackTraces = false) {C : Cx} {n : Nat} {μ : Mem} {a0 : Nat} {l2 : Int32} (ha0 : a0 ∈ lawL) {r : (Bool × Mem)} (hf : f_X4_holds_j154 μ a0 l2 = some r) (hK : FinR G C F_X4_holds (some .boolean) (some (.int (b2i r.1))) r.2) : V G C F_X4_holds 154 [some (.ref (G.2.1 + a0)), none, some (.int l2), none, none] [] (pic G μ) n 0 0 := by
  unfold f_X4_holds_j154 at hf
  refine V_iload_n d_X4_holds_154 rfl rfl ?_
  refine V_if_eq (tgt := 167) d_X4_holds_155 (by decide) (fun c155 => ?_) (fun c155 => ?_)
  · replace hf := iteT c155 hf
    refine V_less (ls' := [none, none, none, none, none]) trivial ?_
    exact s_X4_holds_j167 hG ha0 hf hK
  · replace hf := iteF c155 hf
    refine V_aload_n d_X4_holds_158 rfl rfl ?_
    refine B_get (kLaw _ ha0) fl_RX4_41 d_X4_holds_159 g_4_9 ?_
    refine V_iconst (v := 0) d_X4_holds_162 ic_0 ?_
    obtain ⟨t1, ht1, hf⟩ := ob hf
    refine B_iald (kLaw_7 _ ha0) ht1 d_X4_holds_163 ?_
    have hJj2 : ∀ j2 : Bool, j2 = (if t1 = 0 then (false : Bool) else true) → V G C F_X4_holds 172 [none, none, none, none, none] [.int (b2i j2)] (pic G μ) n 0 0 := by
      intro j2 ej2
      subst ej2
      cases hf
      exact R_z hK d_X4_holds_172 (Nat.le_of_ble_eq_true rfl) (Nat.le_of_ble_eq_true rfl)
    refine V_if_eq (tgt := 171) d_X4_holds_164 (by decide) (fun c164 => ?_) (fun c164 => ?_)
    · refine V_iconst (v := 0) d_X4_holds_171 ic_0 ?_
      refine V_less (ls' := [none, none, none, none, none]) trivial ?_
      exact hJj2 false (by rw [if_pos c164])
    · refine V_iconst (v := 1) d_X4_holds_167 ic_1 ?_
      refine V_goto (tgt := 172) d_X4_holds_168 (by decide) ?_
      refine V_less (ls' := [none, none, none, none, none]) trivial ?_
      exact hJj2 true (by rw [if_neg c164])
theorem s_X4_holds_l9 {G : Gl} (hG : G.1.stackTraces = false) {C : Cx} {n : Nat} {μ : Mem} {a0 : Nat} {l1 : Int32} {l2 : Int32} {l3 : Int32} (ha0 : a0 ∈ lawL) {r : (Bool × Mem)} (hf : f_X4_holds_l9 μ a0 l1 l2 l3 = some r) (hK : FinR G C F_X4_holds (some .boolean) (some (.int (b2i r.1))) r.2) : V G C F_X4_holds 9 [some (.ref (G.2.1 + a0)), some (.int l1), some (.int l2), some (.int l3), none] [] (pic G μ) n 0 0 := by
  unfold f_X4_holds_l9 at hf
  obtain ⟨t, hl, hf⟩ := ob hf
  refine loopV (P := fun z => ∀ n, V G C F_X4_holds 9 [some (.ref (G.2.1 + a0)), some (.int l1), some (.int z.1), some (.int z.2.1), none] [] (pic G z.2.2) n 0 0) (t := t) ?_ _ _ hl n
  intro z y' hy hI hT n
  refine s_X4_holds_b9 hG ha0 hy ⟨hI, fun x9 ex => ?_⟩
  have ex2 := hT x9 ex
  subst ex2
  intro n
  exact s_X4_holds_j154 hG ha0 hf hK
theorem s_X4_holds_e {G : Gl} (hG : G.1.stackTraces = false) {C : Cx} {n : Nat} {μ : Mem} {a0 : Nat} {p1 : Int32} (ha0 : a0 ∈ lawL) {r : (Bool × Mem)} (hf : f_X4_holds μ a0 p1 = some r) (hK : FinR G C F_X4_holds (some .boolean) (some (.int (b2i r.1))) r.2) : V G C F_X4_holds 0 [some (.ref (G.2.1 + a0)), some (.int p1), none, none, none] [] (pic G μ) n 0 0 := by
  unfold f_X4_holds at hf
  refine V_iconst (v := 0) d_X4_holds_0 ic_0 ?_
  refine V_istore_n (ls' := [_, _, _, _, _]) d_X4_holds_1 rfl rfl rfl ?_
  refine V_aload_n d_X4_holds_2 rfl rfl ?_
  refine B_get (kLaw _ ha0) fl_RX4_29 d_X4_holds_3 g_4_5 ?_
  refine V_iload_n d_X4_holds_6 rfl rfl ?_
  obtain ⟨t1, ht1, hf⟩ := ob hf
  refine B_iald (kLaw_3 _ ha0) ht1 d_X4_holds_7 ?_
  refine V_istore_n (ls' := [_, _, _, _, _]) d_X4_holds_8 rfl rfl rfl ?_
  refine V_less (ls' := [some _, some _, some _, some _, none]) ⟨rfl, rfl, rfl, rfl, trivial⟩ ?_
  exact s_X4_holds_l9 hG ha0 hf hK
theorem s_X4_holds {G : Gl} (hG : G.1.stackTraces = false) {μ : Mem} {a0 : Nat} {p1 : Int32} (ha0 : a0 ∈ lawL) {r : (Bool × Mem)} (hf : f_X4_holds μ a0 p1 = some r) : Rt G yX4_holds F_X4_holds (some .boolean) [.ref (G.2.1 + a0), .int p1] μ (some (.int (b2i r.1))) r.2 := fun n => Sd.of hG ⟨by decide +kernel, rfl, rfl⟩ rfl (Nat.le_of_ble_eq_true rfl) rfl (fun C hK => s_X4_holds_e hG ha0 hf hK)
theorem d_X4_sumOf_0 : decode cX4_sumOf 0 = .ok (.iconst 0, 1) := by decide +kernel
theorem d_X4_sumOf_1 : decode cX4_sumOf 1 = .ok (.istore 4, 2) := by decide +kernel
theorem d_X4_sumOf_3 : decode cX4_sumOf 3 = .ok (.iconst 0, 1) := by decide +kernel
theorem d_X4_sumOf_4 : decode cX4_sumOf 4 = .ok (.istore 5, 2) := by decide +kernel
theorem d_X4_sumOf_6 : decode cX4_sumOf 6 = .ok (.iconst 0, 1) := by decide +kernel
theorem d_X4_sumOf_7 : decode cX4_sumOf 7 = .ok (.istore 6, 2) := by decide +kernel
theorem d_X4_sumOf_9 : decode cX4_sumOf 9 = .ok (.iload 6, 2) := by decide +kernel
theorem d_X4_sumOf_11 : decode cX4_sumOf 11 = .ok (.aload_n 0, 1) := by decide +kernel
theorem d_X4_sumOf_12 : decode cX4_sumOf 12 = .ok (.getfield 15, 3) := by decide +kernel
theorem d_X4_sumOf_15 : decode cX4_sumOf 15 = .ok (.if_icmp .ge 55, 3) := by decide +kernel
theorem d_X4_sumOf_18 : decode cX4_sumOf 18 = .ok (.aload_n 0, 1) := by decide +kernel
theorem d_X4_sumOf_19 : decode cX4_sumOf 19 = .ok (.getfield 22, 3) := by decide +kernel
theorem d_X4_sumOf_22 : decode cX4_sumOf 22 = .ok (.iload 6, 2) := by decide +kernel
theorem d_X4_sumOf_24 : decode cX4_sumOf 24 = .ok (.iaload, 1) := by decide +kernel
theorem d_X4_sumOf_25 : decode cX4_sumOf 25 = .ok (.iload_n 1, 1) := by decide +kernel
theorem d_X4_sumOf_26 : decode cX4_sumOf 26 = .ok (.if_icmp .ne 38, 3) := by decide +kernel
theorem d_X4_sumOf_29 : decode cX4_sumOf 29 = .ok (.iload 5, 2) := by decide +kernel
theorem d_X4_sumOf_31 : decode cX4_sumOf 31 = .ok (.ifCond .ne 12, 3) := by decide +kernel
theorem d_X4_sumOf_34 : decode cX4_sumOf 34 = .ok (.aload_n 0, 1) := by decide +kernel
theorem d_X4_sumOf_35 : decode cX4_sumOf 35 = .ok (.aload_n 2, 1) := by decide +kernel
theorem d_X4_sumOf_36 : decode cX4_sumOf 36 = .ok (.iload_n 3, 1) := by decide +kernel
theorem d_X4_sumOf_37 : decode cX4_sumOf 37 = .ok (.invokevirtual 50, 3) := by decide +kernel
theorem d_X4_sumOf_40 : decode cX4_sumOf 40 = .ok (.iconst 1, 1) := by decide +kernel
theorem d_X4_sumOf_41 : decode cX4_sumOf 41 = .ok (.istore 5, 2) := by decide +kernel
theorem d_X4_sumOf_43 : decode cX4_sumOf 43 = .ok (.aload_n 0, 1) := by decide +kernel
theorem d_X4_sumOf_44 : decode cX4_sumOf 44 = .ok (.iload 6, 2) := by decide +kernel
theorem d_X4_sumOf_46 : decode cX4_sumOf 46 = .ok (.invokevirtual 54, 3) := by decide +kernel
theorem d_X4_sumOf_49 : decode cX4_sumOf 49 = .ok (.ifCond .eq 15, 3) := by decide +kernel
theorem d_X4_sumOf_52 : decode cX4_sumOf 52 = .ok (.iload 4, 2) := by decide +kernel
theorem d_X4_sumOf_54 : decode cX4_sumOf 54 = .ok (.aload_n 0, 1) := by decide +kernel
theorem d_X4_sumOf_55 : decode cX4_sumOf 55 = .ok (.getfield 26, 3) := by decide +kernel
theorem d_X4_sumOf_58 : decode cX4_sumOf 58 = .ok (.iload 6, 2) := by decide +kernel
theorem d_X4_sumOf_60 : decode cX4_sumOf 60 = .ok (.iaload, 1) := by decide +kernel
theorem d_X4_sumOf_61 : decode cX4_sumOf 61 = .ok (.iadd, 1) := by decide +kernel
theorem d_X4_sumOf_62 : decode cX4_sumOf 62 = .ok (.istore 4, 2) := by decide +kernel
theorem d_X4_sumOf_64 : decode cX4_sumOf 64 = .ok (.iinc 6 1, 3) := by decide +kernel
theorem d_X4_sumOf_67 : decode cX4_sumOf 67 = .ok (.goto (-58), 3) := by decide +kernel
theorem d_X4_sumOf_70 : decode cX4_sumOf 70 = .ok (.iload 4, 2) := by decide +kernel
theorem d_X4_sumOf_72 : decode cX4_sumOf 72 = .ok (.ireturn, 1) := by decide +kernel
theorem s_X4_sumOf_j64_9 {G : Gl} (hG : G.1.stackTraces = false) {C : Cx} {n : Nat} {μ : Mem} {a0 : Nat} {a2 : Nat} {l1 : Int32} {l3 : Int32} {l4 : Int32} {l5 : Bool} {l6 : Int32} (ha0 : a0 ∈ lawL) (ha2 : a2 ∈ landL) {y : ((Int32 × Bool × Int32 × Mem) ⊕ (Int32 × Mem))} (hf : f_X4_sumOf_j64_9 μ a0 a2 l1 l3 l4 l5 l6 = some y) (hK : (∀ z', y = .inl z' → ∀ n, V G C F_X4_sumOf 9 [some (.ref (G.2.1 + a0)), some (.int l1), some (.ref (G.2.1 + a2)), some (.int l3), some (.int z'.1), some (.int (b2i z'.2.1)), some (.int z'.2.2.1)] [] (pic G z'.2.2.2) n 0 0) ∧ (∀ x', y = .inr x' → ∀ n, V G C F_X4_sumOf 70 [none, none, none, none, some (.int x'.1), none, none] [] (pic G x'.2) n 0 0)) : V G C F_X4_sumOf 64 [some (.ref (G.2.1 + a0)), some (.int l1), some (.ref (G.2.1 + a2)), some (.int l3), some (.int l4), some (.int (b2i l5)), some (.int l6)] [] (pic G μ) n 0 0 := by
  unfold f_X4_sumOf_j64_9 at hf
  refine V_iinc (v := (l6 + 1)) (ls' := [_, _, _, _, _, _, _]) d_X4_sumOf_64 rfl (by rw [ic_1]) rfl ?_
  refine V_goto (tgt := 9) d_X4_sumOf_67 (by decide) ?_
  refine V_less (ls' := [some _, some _, some _, some _, some _, some _, some _]) ⟨rfl, rfl, rfl, rfl, rfl, rfl, rfl, trivial⟩ ?_
  cases hf
  exact hK.1 _ rfl _
theorem s_X4_sumOf_j43_9 {G : Gl} (hG : G.1.stackTraces = false) {C : Cx} {n : Nat} {μ : Mem} {a0 : Nat} {a2 : Nat} {l1 : Int32} {l3 : Int32} {l4 : Int32} {l5 : Bool} {l6 : Int32} (ha0 : a0 ∈ lawL) (ha2 : a2 ∈ landL) {y : ((Int32 × Bool × Int32 × Mem) ⊕ (Int32 × Mem))} (hf : f_X4_sumOf_j43_9 μ a0 a2 l1 l3 l4 l5 l6 = some y) (hK : (∀ z', y = .inl z' → ∀ n, V G C F_X4_sumOf 9 [some (.ref (G.2.1 + a0)), some (.int l1), some (.ref (G.2.1 + a2)), some (.int l3), some (.int z'.1), some (.int (b2i z'.2.1)), some (.int z'.2.2.1)] [] (pic G z'.2.2.2) n 0 0) ∧ (∀ x', y = .inr x' → ∀ n, V G C F_X4_sumOf 70 [none, none, none, none, some (.int x'.1), none, none] [] (pic G x'.2) n 0 0)) : V G C F_X4_sumOf 43 [some (.ref (G.2.1 + a0)), some (.int l1), some (.ref (G.2.1 + a2)), some (.int l3), some (.int l4), some (.int (b2i l5)), some (.int l6)] [] (pic G μ) n 0 0 := by
  unfold f_X4_sumOf_j43_9 at hf
  refine V_aload_n d_X4_sumOf_43 rfl rfl ?_
  refine V_iload d_X4_sumOf_44 rfl ?_
  obtain ⟨q1, hq1, hf⟩ := ob hf
  refine B_callV1 (s_X4_holds hG ha0 hq1) (kLaw _ ha0) clX4 m_X4_holds kv_RX4_54 d_X4_sumOf_46 rfl (Nat.le_of_ble_eq_true rfl) ⟨rfl, rfl, Nat.le_of_ble_eq_true rfl, Nat.le_of_ble_eq_true rfl, Nat.le_of_ble_eq_true rfl⟩ (fun n => ?_)
  refine V_if_eq (tgt := 64) d_X4_sumOf_49 (by decide) (fun c49 => ?_) (fun c49 => ?_)
  · replace hf := iteF (b2i_nt (b2i_eq0 c49)) hf
    refine V_less (ls' := [some _, some _, some _, some _, some _, some _, some _]) ⟨rfl, rfl, rfl, rfl, rfl, rfl, rfl, trivial⟩ ?_
    exact s_X4_sumOf_j64_9 hG ha0 ha2 hf hK
  · replace hf := iteT (b2i_ne0 c49) hf
    refine V_iload d_X4_sumOf_52 rfl ?_
    refine V_aload_n d_X4_sumOf_54 rfl rfl ?_
    refine B_get (kLaw _ ha0) fl_RX4_26 d_X4_sumOf_55 g_4_4 ?_
    refine V_iload d_X4_sumOf_58 rfl ?_
    obtain ⟨t2, ht2, hf⟩ := ob hf
    refine B_iald (kLaw_2 _ ha0) ht2 d_X4_sumOf_60 ?_
    refine V_iadd d_X4_sumOf_61 ?_
    refine V_istore (ls' := [_, _, _, _, _, _, _]) d_X4_sumOf_62 rfl rfl ?_
    refine V_less (ls' := [some _, some _, some _, some _, some _, some _, some _]) ⟨rfl, rfl, rfl, rfl, rfl, rfl, rfl, trivial⟩ ?_
    exact s_X4_sumOf_j64_9 hG ha0 ha2 hf hK
theorem s_X4_sumOf_b9 {G : Gl} (hG : G.1.stackTraces = false) {C : Cx} {n : Nat} {μ : Mem} {a0 : Nat} {a2 : Nat} {l1 : Int32} {l3 : Int32} {l4 : Int32} {l5 : Bool} {l6 : Int32} (ha0 : a0 ∈ lawL) (ha2 : a2 ∈ landL) {y : ((Int32 × Bool × Int32 × Mem) ⊕ (Int32 × Mem))} (hf : f_X4_sumOf_b9 μ a0 a2 l1 l3 l4 l5 l6 = some y) (hK : (∀ z', y = .inl z' → ∀ n, V G C F_X4_sumOf 9 [some (.ref (G.2.1 + a0)), some (.int l1), some (.ref (G.2.1 + a2)), some (.int l3), some (.int z'.1), some (.int (b2i z'.2.1)), some (.int z'.2.2.1)] [] (pic G z'.2.2.2) n 0 0) ∧ (∀ x', y = .inr x' → ∀ n, V G C F_X4_sumOf 70 [none, none, none, none, some (.int x'.1), none, none] [] (pic G x'.2) n 0 0)) : V G C F_X4_sumOf 9 [some (.ref (G.2.1 + a0)), some (.int l1), some (.ref (G.2.1 + a2)), some (.int l3), some (.int l4), some (.int (b2i l5)), some (.int l6)] [] (pic G μ) n 0 0 := by
  unfold f_X4_sumOf_b9 at hf
  refine V_iload d_X4_sumOf_9 rfl ?_
  refine V_aload_n d_X4_sumOf_11 rfl rfl ?_
  refine B_get (kLaw _ ha0) fl_RX4_15 d_X4_sumOf_12 g_4_1 ?_
  refine V_icmp_ge (tgt := 70) d_X4_sumOf_15 (by decide) (fun c15 => ?_) (fun c15 => ?_)
  · replace hf := iteT c15 hf
    refine V_less (ls' := [none, none, none, none, some _, none, none]) ⟨rfl, trivial⟩ ?_
    cases hf
    exact hK.2 _ rfl _
  · replace hf := iteF c15 hf
    refine V_aload_n d_X4_sumOf_18 rfl rfl ?_
    refine B_get (kLaw _ ha0) fl_RX4_22 d_X4_sumOf_19 g_4_3 ?_
    refine V_iload d_X4_sumOf_22 rfl ?_
    obtain ⟨t1, ht1, hf⟩ := ob hf
    refine B_iald (kLaw_1 _ ha0) ht1 d_X4_sumOf_24 ?_
    refine V_iload_n d_X4_sumOf_25 rfl rfl ?_
    refine V_icmp_ne (tgt := 64) d_X4_sumOf_26 (by decide) (fun c26 => ?_) (fun c26 => ?_)
    · replace hf := iteF c26 hf
      refine V_less (ls' := [some _, some _, some _, some _, some _, some _, some _]) ⟨rfl, rfl, rfl, rfl, rfl, rfl, rfl, trivial⟩ ?_
      exact s_X4_sumOf_j64_9 hG ha0 ha2 hf hK
    · replace hf := iteT c26 hf
      refine V_iload d_X4_sumOf_29 rfl ?_
      refine V_if_ne (tgt := 43) d_X4_sumOf_31 (by decide) (fun c31 => ?_) (fun c31 => ?_)
      · replace hf := iteT (b2i_ne0 c31) hf
        refine V_less (ls' := [some _, some _, some _, some _, some _, some _, some _]) ⟨rfl, rfl, rfl, rfl, rfl, rfl, rfl, trivial⟩ ?_
        exact s_X4_sumOf_j43_9 hG ha0 ha2 hf hK
      · replace hf := iteF (b2i_nt (b2i_eq0 c31)) hf
        refine V_aload_n d_X4_sumOf_34 rfl rfl ?_
        refine V_aload_n d_X4_sumOf_35 rfl rfl ?_
        refine V_iload_n d_X4_sumOf_36 rfl rfl ?_
        obtain ⟨q2, hq2, hf⟩ := ob hf
        refine B_callV0 (s_X4_ask hG ha0 ha2 hq2) (kLaw _ ha0) clX4 m_X4_ask kv_RX4_50 d_X4_sumOf_37 rfl (Nat.le_of_ble_eq_true rfl) ⟨rfl, rfl, Nat.le_of_ble_eq_true rfl, Nat.le_of_ble_eq_true rfl, Nat.le_of_ble_eq_true rfl⟩ (fun n => ?_)
        refine V_iconst (v := 1) d_X4_sumOf_40 ic_1 ?_
        refine V_istore (ls' := [_, _, _, _, _, _, _]) d_X4_sumOf_41 rfl rfl ?_
        refine V_less (ls' := [some _, some _, some _, some _, some _, some _, some _]) ⟨rfl, rfl, rfl, rfl, rfl, rfl, rfl, trivial⟩ ?_
        exact s_X4_sumOf_j43_9 hG ha0 ha2 hf hK
theorem s_X4_sumOf_j70 {G : Gl} (hG : G.1.stackTraces = false) {C : Cx} {n : Nat} {μ : Mem} {a0 : Nat} {a2 : Nat} {l4 : Int32} (ha0 : a0 ∈ lawL) (ha2 : a2 ∈ landL) {r : (Int32 × Mem)} (hf : f_X4_sumOf_j70 μ a0 a2 l4 = some r) (hK : FinR G C F_X4_sumOf (some .int) (some (.int r.1)) r.2) : V G C F_X4_sumOf 70 [none, none, none, none, some (.int l4), none, none] [] (pic G μ) n 0 0 := by
  unfold f_X4_sumOf_j70 at hf
  refine V_iload d_X4_sumOf_70 rfl ?_
  cases hf
  exact R_i hK d_X4_sumOf_72 (Nat.le_of_ble_eq_true rfl) (Nat.le_of_ble_eq_true rfl)
theorem s_X4_sumOf_l9 {G : Gl} (hG : G.1.stackTraces = false) {C : Cx} {n : Nat} {μ : Mem} {a0 : Nat} {a2 : Nat} {l1 : Int32} {l3 : Int32} {l4 : Int32} {l5 : Bool} {l6 : Int32} (ha0 : a0 ∈ lawL) (ha2 : a2 ∈ landL) {r : (Int32 × Mem)} (hf : f_X4_sumOf_l9 μ a0 a2 l1 l3 l4 l5 l6 = some r) (hK : FinR G C F_X4_sumOf (some .int) (some (.int r.1)) r.2) : V G C F_X4_sumOf 9 [some (.ref (G.2.1 + a0)), some (.int l1), some (.ref (G.2.1 + a2)), some (.int l3), some (.int l4), some (.int (b2i l5)), some (.int l6)] [] (pic G μ) n 0 0 := by
  unfold f_X4_sumOf_l9 at hf
  obtain ⟨t, hl, hf⟩ := ob hf
  refine loopV (P := fun z => ∀ n, V G C F_X4_sumOf 9 [some (.ref (G.2.1 + a0)), some (.int l1), some (.ref (G.2.1 + a2)), some (.int l3), some (.int z.1), some (.int (b2i z.2.1)), some (.int z.2.2.1)] [] (pic G z.2.2.2) n 0 0) (t := t) ?_ _ _ hl n
  intro z y' hy hI hT n
  refine s_X4_sumOf_b9 hG ha0 ha2 hy ⟨hI, fun x9 ex => ?_⟩
  have ex2 := hT x9 ex
  subst ex2
  intro n
  exact s_X4_sumOf_j70 hG ha0 ha2 hf hK
theorem s_X4_sumOf_e {G : Gl} (hG : G.1.stackTraces = false) {C : Cx} {n : Nat} {μ : Mem} {a0 : Nat} {p1 : Int32} {a2 : Nat} {p3 : Int32} (ha0 : a0 ∈ lawL) (ha2 : a2 ∈ landL) {r : (Int32 × Mem)} (hf : f_X4_sumOf μ a0 p1 a2 p3 = some r) (hK : FinR G C F_X4_sumOf (some .int) (some (.int r.1)) r.2) : V G C F_X4_sumOf 0 [some (.ref (G.2.1 + a0)), some (.int p1), some (.ref (G.2.1 + a2)), some (.int p3), none, none, none] [] (pic G μ) n 0 0 := by
  unfold f_X4_sumOf at hf
  refine V_iconst (v := 0) d_X4_sumOf_0 ic_0 ?_
  refine V_istore (ls' := [_, _, _, _, _, _, _]) d_X4_sumOf_1 rfl rfl ?_
  refine V_iconst (v := 0) d_X4_sumOf_3 ic_0 ?_
  refine V_istore (ls' := [_, _, _, _, _, _, _]) d_X4_sumOf_4 rfl rfl ?_
  refine V_iconst (v := 0) d_X4_sumOf_6 ic_0 ?_
  refine V_istore (ls' := [_, _, _, _, _, _, _]) d_X4_sumOf_7 rfl rfl ?_
  refine V_less (ls' := [some _, some _, some _, some _, some _, some _, some _]) ⟨rfl, rfl, rfl, rfl, rfl, rfl, rfl, trivial⟩ ?_
  exact s_X4_sumOf_l9 hG ha0 ha2 hf hK
theorem s_X4_sumOf {G : Gl} (hG : G.1.stackTraces = false) {μ : Mem} {a0 : Nat} {p1 : Int32} {a2 : Nat} {p3 : Int32} (ha0 : a0 ∈ lawL) (ha2 : a2 ∈ landL) {r : (Int32 × Mem)} (hf : f_X4_sumOf μ a0 p1 a2 p3 = some r) : Rt G yX4_sumOf F_X4_sumOf (some .int) [.ref (G.2.1 + a0), .int p1, .ref (G.2.1 + a2), .int p3] μ (some (.int r.1)) r.2 := fun n => Sd.of hG ⟨by decide +kernel, rfl, rfl⟩ rfl (Nat.le_of_ble_eq_true rfl) rfl (fun C hK => s_X4_sumOf_e hG ha0 ha2 hf hK)
theorem d_X2_slackOf_0 : decode cX2_slackOf 0 = .ok (.aload_n 0, 1) := by decide +kernel
theorem d_X2_slackOf_1 : decode cX2_slackOf 1 = .ok (.iload_n 1, 1) := by decide +kernel
theorem d_X2_slackOf_2 : decode cX2_slackOf 2 = .ok (.invokevirtual 138, 3) := by decide +kernel
theorem d_X2_slackOf_5 : decode cX2_slackOf 5 = .ok (.invokestatic 141, 3) := by decide +kernel
theorem d_X2_slackOf_8 : decode cX2_slackOf 8 = .ok (.ireturn, 1) := by decide +kernel
theorem s_X2_slackOf_e {G : Gl} (hG : G.1.stackTraces = false) {C : Cx} {n : Nat} {μ : Mem} {a0 : Nat} {p1 : Int32} (ha0 : a0 ∈ landL) {r : Int32} (hf : f_X2_slackOf μ a0 p1 = some r) (hK : FinR G C F_X2_slackOf (some .int) (some (.int r)) μ) : V G C F_X2_slackOf 0 [some (.ref (G.2.1 + a0)), some (.int p1)] [] (pic G μ) n 0 0 := by
  unfold f_X2_slackOf at hf
  refine V_aload_n d_X2_slackOf_0 rfl rfl ?_
  refine V_iload_n d_X2_slackOf_1 rfl rfl ?_
  obtain ⟨t1, ht1, hf⟩ := ob hf
  refine B_callV1 (s_X2_gaitOf hG ha0 ht1) (kLand _ ha0) clX2 m_X2_gaitOf kv_RX2_138 d_X2_slackOf_2 rfl (Nat.le_of_ble_eq_true rfl) ⟨rfl, rfl, Nat.le_of_ble_eq_true rfl, Nat.le_of_ble_eq_true rfl, Nat.le_of_ble_eq_true rfl⟩ (fun n => ?_)
  obtain ⟨t2, ht2, hf⟩ := ob hf
  refine B_callS1 (s_J6_bitCount_0f7a4 hG ht2) m_J6_bitCount_0f7a4 ks_RX2_141 d_X2_slackOf_5 rfl (Nat.le_of_ble_eq_true rfl) ⟨rfl, rfl, Nat.le_of_ble_eq_true rfl, Nat.le_of_ble_eq_true rfl, Nat.le_of_ble_eq_true rfl⟩ (fun n => ?_)
  cases hf
  exact R_i hK d_X2_slackOf_8 (Nat.le_of_ble_eq_true rfl) (Nat.le_of_ble_eq_true rfl)
theorem s_X2_slackOf {G : Gl} (hG : G.1.stackTraces = false) {μ : Mem} {a0 : Nat} {p1 : Int32} (ha0 : a0 ∈ landL) {r : Int32} (hf : f_X2_slackOf μ a0 p1 = some r) : Rt G yX2_slackOf F_X2_slackOf (some .int) [.ref (G.2.1 + a0), .int p1] μ (some (.int r)) μ := fun n => Sd.of hG ⟨by decide +kernel, rfl, rfl⟩ rfl (Nat.le_of_ble_eq_true rfl) rfl (fun C hK => s_X2_slackOf_e hG ha0 hf hK)
theorem d_X2_fallOf_0 : decode cX2_fallOf 0 = .ok (.aload_n 2, 1) := by decide +kernel
theorem d_X2_fallOf_1 : decode cX2_fallOf 1 = .ok (.getfield 118, 3) := by decide +kernel
theorem d_X2_fallOf_4 : decode cX2_fallOf 4 = .ok (.ifCond .eq 18, 3) := by decide +kernel
theorem d_X2_fallOf_7 : decode cX2_fallOf 7 = .ok (.bipush 100, 2) := by decide +kernel
theorem d_X2_fallOf_9 : decode cX2_fallOf 9 = .ok (.aload_n 2, 1) := by decide +kernel
theorem d_X2_fallOf_10 : decode cX2_fallOf 10 = .ok (.iconst 2, 1) := by decide +kernel
theorem d_X2_fallOf_11 : decode cX2_fallOf 11 = .ok (.aload_n 0, 1) := by decide +kernel
theorem d_X2_fallOf_12 : decode cX2_fallOf 12 = .ok (.iload_n 1, 1) := by decide +kernel
theorem d_X2_fallOf_13 : decode cX2_fallOf 13 = .ok (.invokevirtual 124, 3) := by decide +kernel
theorem d_X2_fallOf_16 : decode cX2_fallOf 16 = .ok (.invokestatic 96, 3) := by decide +kernel
theorem d_X2_fallOf_19 : decode cX2_fallOf 19 = .ok (.goto 11, 3) := by decide +kernel
theorem d_X2_fallOf_22 : decode cX2_fallOf 22 = .ok (.bipush 10, 2) := by decide +kernel
theorem d_X2_fallOf_24 : decode cX2_fallOf 24 = .ok (.aload_n 0, 1) := by decide +kernel
theorem d_X2_fallOf_25 : decode cX2_fallOf 25 = .ok (.iload_n 1, 1) := by decide +kernel
theorem d_X2_fallOf_26 : decode cX2_fallOf 26 = .ok (.invokevirtual 128, 3) := by decide +kernel
theorem d_X2_fallOf_29 : decode cX2_fallOf 29 = .ok (.imul, 1) := by decide +kernel
theorem d_X2_fallOf_30 : decode cX2_fallOf 30 = .ok (.ireturn, 1) := by decide +kernel
theorem s_X2_fallOf_j30 {G : Gl} (hG : G.1.stackTraces = false) {C : Cx} {n : Nat} {μ : Mem} {a0 : Nat} {a2 : Nat} {k0 : Int32} (ha0 : a0 ∈ landL) (ha2 : a2 ∈ lawL) {r : (Int32 × Mem)} (hf : f_X2_fallOf_j30 μ a0 a2 k0 = some r) (hK : FinR G C F_X2_fallOf (some .int) (some (.int r.1)) r.2) : V G C F_X2_fallOf 30 [none, none, none] [.int k0] (pic G μ) n 0 0 := by
  unfold f_X2_fallOf_j30 at hf
  cases hf
  exact R_i hK d_X2_fallOf_30 (Nat.le_of_ble_eq_true rfl) (Nat.le_of_ble_eq_true rfl)
theorem s_X2_fallOf_e {G : Gl} (hG : G.1.stackTraces = false) {C : Cx} {n : Nat} {μ : Mem} {a0 : Nat} {p1 : Int32} {a2 : Nat} (ha0 : a0 ∈ landL) (ha2 : a2 ∈ lawL) {r : (Int32 × Mem)} (hf : f_X2_fallOf μ a0 p1 a2 = some r) (hK : FinR G C F_X2_fallOf (some .int) (some (.int r.1)) r.2) : V G C F_X2_fallOf 0 [some (.ref (G.2.1 + a0)), some (.int p1), some (.ref (G.2.1 + a2))] [] (pic G μ) n 0 0 := by
  unfold f_X2_fallOf at hf
  refine V_aload_n d_X2_fallOf_0 rfl rfl ?_
  refine B_get (kLaw _ ha2) fl_RX2_118 d_X2_fallOf_1 g_4_0 ?_
  refine V_if_eq (tgt := 22) d_X2_fallOf_4 (by decide) (fun c4 => ?_) (fun c4 => ?_)
  · replace hf := iteF (b2i_nt (b2i_eq0 c4)) hf
    refine V_bipush (v := 10) d_X2_fallOf_22 bp_10 ?_
    refine V_aload_n d_X2_fallOf_24 rfl rfl ?_
    refine V_iload_n d_X2_fallOf_25 rfl rfl ?_
    obtain ⟨t1, ht1, hf⟩ := ob hf
    refine B_callV1 (s_X2_slackOf hG ha0 ht1) (kLand _ ha0) clX2 m_X2_slackOf kv_RX2_128 d_X2_fallOf_26 rfl (Nat.le_of_ble_eq_true rfl) ⟨rfl, rfl, Nat.le_of_ble_eq_true rfl, Nat.le_of_ble_eq_true rfl, Nat.le_of_ble_eq_true rfl⟩ (fun n => ?_)
    refine V_imul d_X2_fallOf_29 ?_
    refine V_less (ls' := [none, none, none]) trivial ?_
    exact s_X2_fallOf_j30 hG ha0 ha2 hf hK
  · replace hf := iteT (b2i_ne0 c4) hf
    refine V_bipush (v := 100) d_X2_fallOf_7 bp_100 ?_
    refine V_aload_n d_X2_fallOf_9 rfl rfl ?_
    refine V_iconst (v := 2) d_X2_fallOf_10 ic_2 ?_
    refine V_aload_n d_X2_fallOf_11 rfl rfl ?_
    refine V_iload_n d_X2_fallOf_12 rfl rfl ?_
    obtain ⟨q2, hq2, hf⟩ := ob hf
    refine B_callV1 (s_X4_sumOf hG ha2 ha0 hq2) (kLaw _ ha2) clX4 m_X4_sumOf kv_RX2_124 d_X2_fallOf_13 rfl (Nat.le_of_ble_eq_true rfl) ⟨rfl, rfl, Nat.le_of_ble_eq_true rfl, Nat.le_of_ble_eq_true rfl, Nat.le_of_ble_eq_true rfl⟩ (fun n => ?_)
    obtain ⟨t3, ht3, hf⟩ := ob hf
    refine B_callS1 (s_J9_min_7cf53 hG ht3) m_J9_min_7cf53 ks_RX2_96 d_X2_fallOf_16 rfl (Nat.le_of_ble_eq_true rfl) ⟨rfl, rfl, Nat.le_of_ble_eq_true rfl, Nat.le_of_ble_eq_true rfl, Nat.le_of_ble_eq_true rfl⟩ (fun n => ?_)
    refine V_goto (tgt := 30) d_X2_fallOf_19 (by decide) ?_
    refine V_less (ls' := [none, none, none]) trivial ?_
    exact s_X2_fallOf_j30 hG ha0 ha2 hf hK
theorem s_X2_fallOf {G : Gl} (hG : G.1.stackTraces = false) {μ : Mem} {a0 : Nat} {p1 : Int32} {a2 : Nat} (ha0 : a0 ∈ landL) (ha2 : a2 ∈ lawL) {r : (Int32 × Mem)} (hf : f_X2_fallOf μ a0 p1 a2 = some r) : Rt G yX2_fallOf F_X2_fallOf (some .int) [.ref (G.2.1 + a0), .int p1, .ref (G.2.1 + a2)] μ (some (.int r.1)) r.2 := fun n => Sd.of hG ⟨by decide +kernel, rfl, rfl⟩ rfl (Nat.le_of_ble_eq_true rfl) rfl (fun C hK => s_X2_fallOf_e hG ha0 ha2 hf hK)
theorem d_J9_max_7cf53_0 : decode cJ9_max_7cf53 0 = .ok (.iload_n 0, 1) := by decide +kernel
theorem d_J9_max_7cf53_1 : decode cJ9_max_7cf53 1 = .ok (.iload_n 1, 1) := by decide +kernel
theorem d_J9_max_7cf53_2 : decode cJ9_max_7cf53 2 = .ok (.if_icmp .lt 7, 3) := by decide +kernel
theorem d_J9_max_7cf53_5 : decode cJ9_max_7cf53 5 = .ok (.iload_n 0, 1) := by decide +kernel
theorem d_J9_max_7cf53_6 : decode cJ9_max_7cf53 6 = .ok (.goto 4, 3) := by decide +kernel
theorem d_J9_max_7cf53_9 : decode cJ9_max_7cf53 9 = .ok (.iload_n 1, 1) := by decide +kernel
theorem d_J9_max_7cf53_10 : decode cJ9_max_7cf53 10 = .ok (.ireturn, 1) := by decide +kernel
theorem s_J9_max_7cf53_e {G : Gl} (hG : G.1.stackTraces = false) {C : Cx} {n : Nat} {μ : Mem} {p0 : Int32} {p1 : Int32} {r : Int32} (hf : f_J9_max_7cf53 μ p0 p1 = some r) (hK : FinR G C F_J9_max_7cf53 (some .int) (some (.int r)) μ) : V G C F_J9_max_7cf53 0 [some (.int p0), some (.int p1)] [] (pic G μ) n 0 0 := by
  unfold f_J9_max_7cf53 at hf
  refine V_iload_n d_J9_max_7cf53_0 rfl rfl ?_
  refine V_iload_n d_J9_max_7cf53_1 rfl rfl ?_
  have hJj1 : ∀ j1 : Int32, j1 = (if p0 < p1 then (p1 : Int32) else p0) → V G C F_J9_max_7cf53 10 [none, none] [.int j1] (pic G μ) n 0 0 := by
    intro j1 ej1
    subst ej1
    cases hf
    exact R_i hK d_J9_max_7cf53_10 (Nat.le_of_ble_eq_true rfl) (Nat.le_of_ble_eq_true rfl)
  refine V_icmp_lt (tgt := 9) d_J9_max_7cf53_2 (by decide) (fun c2 => ?_) (fun c2 => ?_)
  · refine V_iload_n d_J9_max_7cf53_9 rfl rfl ?_
    refine V_less (ls' := [none, none]) trivial ?_
    exact hJj1 p1 (by rw [if_pos c2])
  · refine V_iload_n d_J9_max_7cf53_5 rfl rfl ?_
    refine V_goto (tgt := 10) d_J9_max_7cf53_6 (by decide) ?_
    refine V_less (ls' := [none, none]) trivial ?_
    exact hJj1 p0 (by rw [if_neg c2])
theorem s_J9_max_7cf53 {G : Gl} (hG : G.1.stackTraces = false) {μ : Mem} {p0 : Int32} {p1 : Int32} {r : Int32} (hf : f_J9_max_7cf53 μ p0 p1 = some r) : Rt G yJ9_max_7cf53 F_J9_max_7cf53 (some .int) [.int p0, .int p1] μ (some (.int r)) μ := fun n => Sd.ofJ hG ⟨by decide +kernel, rfl, rfl⟩ rfl (Nat.le_of_ble_eq_true rfl) rfl (fun C hK => s_J9_max_7cf53_e hG hf hK)
theorem d_X2_fall_0 : decode cX2_fall 0 = .ok (.aload_n 0, 1) := by decide +kernel
theorem d_X2_fall_1 : decode cX2_fall 1 = .ok (.getfield 30, 3) := by decide +kernel
theorem d_X2_fall_4 : decode cX2_fall 4 = .ok (.iload_n 1, 1) := by decide +kernel
theorem d_X2_fall_5 : decode cX2_fall 5 = .ok (.iconst 0, 1) := by decide +kernel
theorem d_X2_fall_6 : decode cX2_fall 6 = .ok (.aload_n 0, 1) := by decide +kernel
theorem d_X2_fall_7 : decode cX2_fall 7 = .ok (.getfield 30, 3) := by decide +kernel
theorem d_X2_fall_10 : decode cX2_fall 10 = .ok (.iload_n 1, 1) := by decide +kernel
theorem d_X2_fall_11 : decode cX2_fall 11 = .ok (.iaload, 1) := by decide +kernel
theorem d_X2_fall_12 : decode cX2_fall 12 = .ok (.aload_n 0, 1) := by decide +kernel
theorem d_X2_fall_13 : decode cX2_fall 13 = .ok (.getfield 21, 3) := by decide +kernel
theorem d_X2_fall_16 : decode cX2_fall 16 = .ok (.isub, 1) := by decide +kernel
theorem d_X2_fall_17 : decode cX2_fall 17 = .ok (.invokestatic 132, 3) := by decide +kernel
theorem d_X2_fall_20 : decode cX2_fall 20 = .ok (.iastore, 1) := by decide +kernel
theorem d_X2_fall_21 : decode cX2_fall 21 = .ok (.aload_n 0, 1) := by decide +kernel
theorem d_X2_fall_22 : decode cX2_fall 22 = .ok (.getfield 43, 3) := by decide +kernel
theorem d_X2_fall_25 : decode cX2_fall 25 = .ok (.iload_n 1, 1) := by decide +kernel
theorem d_X2_fall_26 : decode cX2_fall 26 = .ok (.bipush 9, 2) := by decide +kernel
theorem d_X2_fall_28 : decode cX2_fall 28 = .ok (.aload_n 0, 1) := by decide +kernel
theorem d_X2_fall_29 : decode cX2_fall 29 = .ok (.getfield 43, 3) := by decide +kernel
theorem d_X2_fall_32 : decode cX2_fall 32 = .ok (.iload_n 1, 1) := by decide +kernel
theorem d_X2_fall_33 : decode cX2_fall 33 = .ok (.iaload, 1) := by decide +kernel
theorem d_X2_fall_34 : decode cX2_fall 34 = .ok (.iconst 1, 1) := by decide +kernel
theorem d_X2_fall_35 : decode cX2_fall 35 = .ok (.iadd, 1) := by decide +kernel
theorem d_X2_fall_36 : decode cX2_fall 36 = .ok (.invokestatic 96, 3) := by decide +kernel
theorem d_X2_fall_39 : decode cX2_fall 39 = .ok (.iastore, 1) := by decide +kernel
theorem d_X2_fall_40 : decode cX2_fall 40 = .ok (.return_, 1) := by decide +kernel
theorem s_X2_fall_e {G : Gl} (hG : G.1.stackTraces = false) {C : Cx} {n : Nat} {μ : Mem} {a0 : Nat} {p1 : Int32} (ha0 : a0 ∈ landL) {r : Mem} (hf : f_X2_fall μ a0 p1 = some r) (hK : FinR G C F_X2_fall none none r) : V G C F_X2_fall 0 [some (.ref (G.2.1 + a0)), some (.int p1)] [] (pic G μ) n 0 0 := by
  unfold f_X2_fall at hf
  refine V_aload_n d_X2_fall_0 rfl rfl ?_
  refine B_get (kLand _ ha0) fl_RX2_30 d_X2_fall_1 g_2_6 ?_
  refine V_iload_n d_X2_fall_4 rfl rfl ?_
  refine V_iconst (v := 0) d_X2_fall_5 ic_0 ?_
  refine V_aload_n d_X2_fall_6 rfl rfl ?_
  refine B_get (kLand _ ha0) fl_RX2_30 d_X2_fall_7 g_2_6 ?_
  refine V_iload_n d_X2_fall_10 rfl rfl ?_
  obtain ⟨t1, ht1, hf⟩ := ob hf
  refine B_iald (kLand_1 _ ha0) ht1 d_X2_fall_11 ?_
  refine V_aload_n d_X2_fall_12 rfl rfl ?_
  refine B_get (kLand _ ha0) fl_RX2_21 d_X2_fall_13 g_2_3 ?_
  refine V_isub d_X2_fall_16 ?_
  obtain ⟨t2, ht2, hf⟩ := ob hf
  refine B_callS1 (s_J9_max_7cf53 hG ht2) m_J9_max_7cf53 ks_RX2_132 d_X2_fall_17 rfl (Nat.le_of_ble_eq_true rfl) ⟨rfl, rfl, Nat.le_of_ble_eq_true rfl, Nat.le_of_ble_eq_true rfl, Nat.le_of_ble_eq_true rfl⟩ (fun n => ?_)
  obtain ⟨μ3, hμ3, hf⟩ := ob hf
  refine B_iast (kLand_1 _ ha0) hμ3 d_X2_fall_20 ?_
  refine V_aload_n d_X2_fall_21 rfl rfl ?_
  refine B_get (kLand _ ha0) fl_RX2_43 d_X2_fall_22 g_2_10 ?_
  refine V_iload_n d_X2_fall_25 rfl rfl ?_
  refine V_bipush (v := 9) d_X2_fall_26 bp_9 ?_
  refine V_aload_n d_X2_fall_28 rfl rfl ?_
  refine B_get (kLand _ ha0) fl_RX2_43 d_X2_fall_29 g_2_10 ?_
  refine V_iload_n d_X2_fall_32 rfl rfl ?_
  obtain ⟨t4, ht4, hf⟩ := ob hf
  refine B_iald (kLand_5 _ ha0) ht4 d_X2_fall_33 ?_
  refine V_iconst (v := 1) d_X2_fall_34 ic_1 ?_
  refine V_iadd d_X2_fall_35 ?_
  obtain ⟨t5, ht5, hf⟩ := ob hf
  refine B_callS1 (s_J9_min_7cf53 hG ht5) m_J9_min_7cf53 ks_RX2_96 d_X2_fall_36 rfl (Nat.le_of_ble_eq_true rfl) ⟨rfl, rfl, Nat.le_of_ble_eq_true rfl, Nat.le_of_ble_eq_true rfl, Nat.le_of_ble_eq_true rfl⟩ (fun n => ?_)
  obtain ⟨μ6, hμ6, hf⟩ := ob hf
  refine B_iast (kLand_5 _ ha0) hμ6 d_X2_fall_39 ?_
  cases hf
  exact R_v hK d_X2_fall_40 (Nat.le_of_ble_eq_true rfl) (Nat.le_of_ble_eq_true rfl)
theorem s_X2_fall {G : Gl} (hG : G.1.stackTraces = false) {μ : Mem} {a0 : Nat} {p1 : Int32} (ha0 : a0 ∈ landL) {r : Mem} (hf : f_X2_fall μ a0 p1 = some r) : Rt G yX2_fall F_X2_fall none [.ref (G.2.1 + a0), .int p1] μ none r := fun n => Sd.of hG ⟨by decide +kernel, rfl, rfl⟩ rfl (Nat.le_of_ble_eq_true rfl) rfl (fun C hK => s_X2_fall_e hG ha0 hf hK)
theorem d_X2_walkOf_0 : decode cX2_walkOf 0 = .ok (.aload_n 2, 1) := by decide +kernel
theorem d_X2_walkOf_1 : decode cX2_walkOf 1 = .ok (.getfield 118, 3) := by decide +kernel
theorem d_X2_walkOf_4 : decode cX2_walkOf 4 = .ok (.ifCond .eq 13, 3) := by decide +kernel
theorem d_X2_walkOf_7 : decode cX2_walkOf 7 = .ok (.aload_n 2, 1) := by decide +kernel
theorem d_X2_walkOf_8 : decode cX2_walkOf 8 = .ok (.iconst 0, 1) := by decide +kernel
theorem d_X2_walkOf_9 : decode cX2_walkOf 9 = .ok (.aload_n 0, 1) := by decide +kernel
theorem d_X2_walkOf_10 : decode cX2_walkOf 10 = .ok (.iload_n 1, 1) := by decide +kernel
theorem d_X2_walkOf_11 : decode cX2_walkOf 11 = .ok (.invokevirtual 124, 3) := by decide +kernel
theorem d_X2_walkOf_14 : decode cX2_walkOf 14 = .ok (.goto 10, 3) := by decide +kernel
theorem d_X2_walkOf_17 : decode cX2_walkOf 17 = .ok (.iconst 2, 1) := by decide +kernel
theorem d_X2_walkOf_18 : decode cX2_walkOf 18 = .ok (.aload_n 0, 1) := by decide +kernel
theorem d_X2_walkOf_19 : decode cX2_walkOf 19 = .ok (.iload_n 1, 1) := by decide +kernel
theorem d_X2_walkOf_20 : decode cX2_walkOf 20 = .ok (.invokevirtual 128, 3) := by decide +kernel
theorem d_X2_walkOf_23 : decode cX2_walkOf 23 = .ok (.imul, 1) := by decide +kernel
theorem d_X2_walkOf_24 : decode cX2_walkOf 24 = .ok (.istore_n 3, 1) := by decide +kernel
theorem d_X2_walkOf_25 : decode cX2_walkOf 25 = .ok (.iconst 0, 1) := by decide +kernel
theorem d_X2_walkOf_26 : decode cX2_walkOf 26 = .ok (.aload_n 0, 1) := by decide +kernel
theorem d_X2_walkOf_27 : decode cX2_walkOf 27 = .ok (.getfield 34, 3) := by decide +kernel
theorem d_X2_walkOf_30 : decode cX2_walkOf 30 = .ok (.iload_n 1, 1) := by decide +kernel
theorem d_X2_walkOf_31 : decode cX2_walkOf 31 = .ok (.iaload, 1) := by decide +kernel
theorem d_X2_walkOf_32 : decode cX2_walkOf 32 = .ok (.iload_n 3, 1) := by decide +kernel
theorem d_X2_walkOf_33 : decode cX2_walkOf 33 = .ok (.isub, 1) := by decide +kernel
theorem d_X2_walkOf_34 : decode cX2_walkOf 34 = .ok (.invokestatic 132, 3) := by decide +kernel
theorem d_X2_walkOf_37 : decode cX2_walkOf 37 = .ok (.ireturn, 1) := by decide +kernel
theorem s_X2_walkOf_j24 {G : Gl} (hG : G.1.stackTraces = false) {C : Cx} {n : Nat} {μ : Mem} {a0 : Nat} {a2 : Nat} {l1 : Int32} {k0 : Int32} (ha0 : a0 ∈ landL) (ha2 : a2 ∈ lawL) {r : (Int32 × Mem)} (hf : f_X2_walkOf_j24 μ a0 a2 l1 k0 = some r) (hK : FinR G C F_X2_walkOf (some .int) (some (.int r.1)) r.2) : V G C F_X2_walkOf 24 [some (.ref (G.2.1 + a0)), some (.int l1), none, none] [.int k0] (pic G μ) n 0 0 := by
  unfold f_X2_walkOf_j24 at hf
  refine V_istore_n (ls' := [_, _, _, _]) d_X2_walkOf_24 rfl rfl rfl ?_
  refine V_iconst (v := 0) d_X2_walkOf_25 ic_0 ?_
  refine V_aload_n d_X2_walkOf_26 rfl rfl ?_
  refine B_get (kLand _ ha0) fl_RX2_34 d_X2_walkOf_27 g_2_7 ?_
  refine V_iload_n d_X2_walkOf_30 rfl rfl ?_
  obtain ⟨t1, ht1, hf⟩ := ob hf
  refine B_iald (kLand_2 _ ha0) ht1 d_X2_walkOf_31 ?_
  refine V_iload_n d_X2_walkOf_32 rfl rfl ?_
  refine V_isub d_X2_walkOf_33 ?_
  obtain ⟨t2, ht2, hf⟩ := ob hf
  refine B_callS1 (s_J9_max_7cf53 hG ht2) m_J9_max_7cf53 ks_RX2_132 d_X2_walkOf_34 rfl (Nat.le_of_ble_eq_true rfl) ⟨rfl, rfl, Nat.le_of_ble_eq_true rfl, Nat.le_of_ble_eq_true rfl, Nat.le_of_ble_eq_true rfl⟩ (fun n => ?_)
  cases hf
  exact R_i hK d_X2_walkOf_37 (Nat.le_of_ble_eq_true rfl) (Nat.le_of_ble_eq_true rfl)
theorem s_X2_walkOf_e {G : Gl} (hG : G.1.stackTraces = false) {C : Cx} {n : Nat} {μ : Mem} {a0 : Nat} {p1 : Int32} {a2 : Nat} (ha0 : a0 ∈ landL) (ha2 : a2 ∈ lawL) {r : (Int32 × Mem)} (hf : f_X2_walkOf μ a0 p1 a2 = some r) (hK : FinR G C F_X2_walkOf (some .int) (some (.int r.1)) r.2) : V G C F_X2_walkOf 0 [some (.ref (G.2.1 + a0)), some (.int p1), some (.ref (G.2.1 + a2)), none] [] (pic G μ) n 0 0 := by
  unfold f_X2_walkOf at hf
  refine V_aload_n d_X2_walkOf_0 rfl rfl ?_
  refine B_get (kLaw _ ha2) fl_RX2_118 d_X2_walkOf_1 g_4_0 ?_
  refine V_if_eq (tgt := 17) d_X2_walkOf_4 (by decide) (fun c4 => ?_) (fun c4 => ?_)
  · replace hf := iteF (b2i_nt (b2i_eq0 c4)) hf
    refine V_iconst (v := 2) d_X2_walkOf_17 ic_2 ?_
    refine V_aload_n d_X2_walkOf_18 rfl rfl ?_
    refine V_iload_n d_X2_walkOf_19 rfl rfl ?_
    obtain ⟨t1, ht1, hf⟩ := ob hf
    refine B_callV1 (s_X2_slackOf hG ha0 ht1) (kLand _ ha0) clX2 m_X2_slackOf kv_RX2_128 d_X2_walkOf_20 rfl (Nat.le_of_ble_eq_true rfl) ⟨rfl, rfl, Nat.le_of_ble_eq_true rfl, Nat.le_of_ble_eq_true rfl, Nat.le_of_ble_eq_true rfl⟩ (fun n => ?_)
    refine V_imul d_X2_walkOf_23 ?_
    refine V_less (ls' := [some _, some _, none, none]) ⟨rfl, rfl, trivial⟩ ?_
    exact s_X2_walkOf_j24 hG ha0 ha2 hf hK
  · replace hf := iteT (b2i_ne0 c4) hf
    refine V_aload_n d_X2_walkOf_7 rfl rfl ?_
    refine V_iconst (v := 0) d_X2_walkOf_8 ic_0 ?_
    refine V_aload_n d_X2_walkOf_9 rfl rfl ?_
    refine V_iload_n d_X2_walkOf_10 rfl rfl ?_
    obtain ⟨q2, hq2, hf⟩ := ob hf
    refine B_callV1 (s_X4_sumOf hG ha2 ha0 hq2) (kLaw _ ha2) clX4 m_X4_sumOf kv_RX2_124 d_X2_walkOf_11 rfl (Nat.le_of_ble_eq_true rfl) ⟨rfl, rfl, Nat.le_of_ble_eq_true rfl, Nat.le_of_ble_eq_true rfl, Nat.le_of_ble_eq_true rfl⟩ (fun n => ?_)
    refine V_goto (tgt := 24) d_X2_walkOf_14 (by decide) ?_
    refine V_less (ls' := [some _, some _, none, none]) ⟨rfl, rfl, trivial⟩ ?_
    exact s_X2_walkOf_j24 hG ha0 ha2 hf hK
theorem s_X2_walkOf {G : Gl} (hG : G.1.stackTraces = false) {μ : Mem} {a0 : Nat} {p1 : Int32} {a2 : Nat} (ha0 : a0 ∈ landL) (ha2 : a2 ∈ lawL) {r : (Int32 × Mem)} (hf : f_X2_walkOf μ a0 p1 a2 = some r) : Rt G yX2_walkOf F_X2_walkOf (some .int) [.ref (G.2.1 + a0), .int p1, .ref (G.2.1 + a2)] μ (some (.int r.1)) r.2 := fun n => Sd.of hG ⟨by decide +kernel, rfl, rfl⟩ rfl (Nat.le_of_ble_eq_true rfl) rfl (fun C hK => s_X2_walkOf_e hG ha0 ha2 hf hK)
theorem d_X2_walk_0 : decode cX2_walk 0 = .ok (.aload_n 0, 1) := by decide +kernel
theorem d_X2_walk_1 : decode cX2_walk 1 = .ok (.getfield 37, 3) := by decide +kernel
theorem d_X2_walk_4 : decode cX2_walk 4 = .ok (.iload_n 1, 1) := by decide +kernel
theorem d_X2_walk_5 : decode cX2_walk 5 = .ok (.iaload, 1) := by decide +kernel
theorem d_X2_walk_6 : decode cX2_walk 6 = .ok (.aload_n 0, 1) := by decide +kernel
theorem d_X2_walk_7 : decode cX2_walk 7 = .ok (.getfield 40, 3) := by decide +kernel
theorem d_X2_walk_10 : decode cX2_walk 10 = .ok (.iload_n 1, 1) := by decide +kernel
theorem d_X2_walk_11 : decode cX2_walk 11 = .ok (.iaload, 1) := by decide +kernel
theorem d_X2_walk_12 : decode cX2_walk 12 = .ok (.if_icmp .ge 29, 3) := by decide +kernel
theorem d_X2_walk_15 : decode cX2_walk 15 = .ok (.aload_n 0, 1) := by decide +kernel
theorem d_X2_walk_16 : decode cX2_walk 16 = .ok (.getfield 37, 3) := by decide +kernel
theorem d_X2_walk_19 : decode cX2_walk 19 = .ok (.iload_n 1, 1) := by decide +kernel
theorem d_X2_walk_20 : decode cX2_walk 20 = .ok (.aload_n 0, 1) := by decide +kernel
theorem d_X2_walk_21 : decode cX2_walk 21 = .ok (.getfield 40, 3) := by decide +kernel
theorem d_X2_walk_24 : decode cX2_walk 24 = .ok (.iload_n 1, 1) := by decide +kernel
theorem d_X2_walk_25 : decode cX2_walk 25 = .ok (.iaload, 1) := by decide +kernel
theorem d_X2_walk_26 : decode cX2_walk 26 = .ok (.aload_n 0, 1) := by decide +kernel
theorem d_X2_walk_27 : decode cX2_walk 27 = .ok (.getfield 37, 3) := by decide +kernel
theorem d_X2_walk_30 : decode cX2_walk 30 = .ok (.iload_n 1, 1) := by decide +kernel
theorem d_X2_walk_31 : decode cX2_walk 31 = .ok (.iaload, 1) := by decide +kernel
theorem d_X2_walk_32 : decode cX2_walk 32 = .ok (.iload_n 2, 1) := by decide +kernel
theorem d_X2_walk_33 : decode cX2_walk 33 = .ok (.iadd, 1) := by decide +kernel
theorem d_X2_walk_34 : decode cX2_walk 34 = .ok (.invokestatic 96, 3) := by decide +kernel
theorem d_X2_walk_37 : decode cX2_walk 37 = .ok (.iastore, 1) := by decide +kernel
theorem d_X2_walk_38 : decode cX2_walk 38 = .ok (.goto 26, 3) := by decide +kernel
theorem d_X2_walk_41 : decode cX2_walk 41 = .ok (.aload_n 0, 1) := by decide +kernel
theorem d_X2_walk_42 : decode cX2_walk 42 = .ok (.getfield 37, 3) := by decide +kernel
theorem d_X2_walk_45 : decode cX2_walk 45 = .ok (.iload_n 1, 1) := by decide +kernel
theorem d_X2_walk_46 : decode cX2_walk 46 = .ok (.aload_n 0, 1) := by decide +kernel
theorem d_X2_walk_47 : decode cX2_walk 47 = .ok (.getfield 40, 3) := by decide +kernel
theorem d_X2_walk_50 : decode cX2_walk 50 = .ok (.iload_n 1, 1) := by decide +kernel
theorem d_X2_walk_51 : decode cX2_walk 51 = .ok (.iaload, 1) := by decide +kernel
theorem d_X2_walk_52 : decode cX2_walk 52 = .ok (.aload_n 0, 1) := by decide +kernel
theorem d_X2_walk_53 : decode cX2_walk 53 = .ok (.getfield 37, 3) := by decide +kernel
theorem d_X2_walk_56 : decode cX2_walk 56 = .ok (.iload_n 1, 1) := by decide +kernel
theorem d_X2_walk_57 : decode cX2_walk 57 = .ok (.iaload, 1) := by decide +kernel
theorem d_X2_walk_58 : decode cX2_walk 58 = .ok (.iload_n 2, 1) := by decide +kernel
theorem d_X2_walk_59 : decode cX2_walk 59 = .ok (.isub, 1) := by decide +kernel
theorem d_X2_walk_60 : decode cX2_walk 60 = .ok (.invokestatic 132, 3) := by decide +kernel
theorem d_X2_walk_63 : decode cX2_walk 63 = .ok (.iastore, 1) := by decide +kernel
theorem d_X2_walk_64 : decode cX2_walk 64 = .ok (.return_, 1) := by decide +kernel
theorem s_X2_walk_j64 {G : Gl} (hG : G.1.stackTraces = false) {C : Cx} {n : Nat} {μ : Mem} {a0 : Nat} (ha0 : a0 ∈ landL) {r : Mem} (hf : f_X2_walk_j64 μ a0 = some r) (hK : FinR G C F_X2_walk none none r) : V G C F_X2_walk 64 [none, none, none] [] (pic G μ) n 0 0 := by
  unfold f_X2_walk_j64 at hf
  cases hf
  exact R_v hK d_X2_walk_64 (Nat.le_of_ble_eq_true rfl) (Nat.le_of_ble_eq_true rfl)
theorem s_X2_walk_e {G : Gl} (hG : G.1.stackTraces = false) {C : Cx} {n : Nat} {μ : Mem} {a0 : Nat} {p1 : Int32} {p2 : Int32} (ha0 : a0 ∈ landL) {r : Mem} (hf : f_X2_walk μ a0 p1 p2 = some r) (hK : FinR G C F_X2_walk none none r) : V G C F_X2_walk 0 [some (.ref (G.2.1 + a0)), some (.int p1), some (.int p2)] [] (pic G μ) n 0 0 := by
  unfold f_X2_walk at hf
  refine V_aload_n d_X2_walk_0 rfl rfl ?_
  refine B_get (kLand _ ha0) fl_RX2_37 d_X2_walk_1 g_2_8 ?_
  refine V_iload_n d_X2_walk_4 rfl rfl ?_
  obtain ⟨t1, ht1, hf⟩ := ob hf
  refine B_iald (kLand_3 _ ha0) ht1 d_X2_walk_5 ?_
  refine V_aload_n d_X2_walk_6 rfl rfl ?_
  refine B_get (kLand _ ha0) fl_RX2_40 d_X2_walk_7 g_2_9 ?_
  refine V_iload_n d_X2_walk_10 rfl rfl ?_
  obtain ⟨t2, ht2, hf⟩ := ob hf
  refine B_iald (kLand_4 _ ha0) ht2 d_X2_walk_11 ?_
  refine V_icmp_ge (tgt := 41) d_X2_walk_12 (by decide) (fun c12 => ?_) (fun c12 => ?_)
  · replace hf := iteT c12 hf
    refine V_aload_n d_X2_walk_41 rfl rfl ?_
    refine B_get (kLand _ ha0) fl_RX2_37 d_X2_walk_42 g_2_8 ?_
    refine V_iload_n d_X2_walk_45 rfl rfl ?_
    refine V_aload_n d_X2_walk_46 rfl rfl ?_
    refine B_get (kLand _ ha0) fl_RX2_40 d_X2_walk_47 g_2_9 ?_
    refine V_iload_n d_X2_walk_50 rfl rfl ?_
    obtain ⟨t3, ht3, hf⟩ := ob hf
    refine B_iald (kLand_4 _ ha0) ht3 d_X2_walk_51 ?_
    refine V_aload_n d_X2_walk_52 rfl rfl ?_
    refine B_get (kLand _ ha0) fl_RX2_37 d_X2_walk_53 g_2_8 ?_
    refine V_iload_n d_X2_walk_56 rfl rfl ?_
    obtain ⟨t4, ht4, hf⟩ := ob hf
    refine B_iald (kLand_3 _ ha0) ht4 d_X2_walk_57 ?_
    refine V_iload_n d_X2_walk_58 rfl rfl ?_
    refine V_isub d_X2_walk_59 ?_
    obtain ⟨t5, ht5, hf⟩ := ob hf
    refine B_callS1 (s_J9_max_7cf53 hG ht5) m_J9_max_7cf53 ks_RX2_132 d_X2_walk_60 rfl (Nat.le_of_ble_eq_true rfl) ⟨rfl, rfl, Nat.le_of_ble_eq_true rfl, Nat.le_of_ble_eq_true rfl, Nat.le_of_ble_eq_true rfl⟩ (fun n => ?_)
    obtain ⟨μ6, hμ6, hf⟩ := ob hf
    refine B_iast (kLand_3 _ ha0) hμ6 d_X2_walk_63 ?_
    refine V_less (ls' := [none, none, none]) trivial ?_
    exact s_X2_walk_j64 hG ha0 hf hK
  · replace hf := iteF c12 hf
    refine V_aload_n d_X2_walk_15 rfl rfl ?_
    refine B_get (kLand _ ha0) fl_RX2_37 d_X2_walk_16 g_2_8 ?_
    refine V_iload_n d_X2_walk_19 rfl rfl ?_
    refine V_aload_n d_X2_walk_20 rfl rfl ?_
    refine B_get (kLand _ ha0) fl_RX2_40 d_X2_walk_21 g_2_9 ?_
    refine V_iload_n d_X2_walk_24 rfl rfl ?_
    obtain ⟨t7, ht7, hf⟩ := ob hf
    refine B_iald (kLand_4 _ ha0) ht7 d_X2_walk_25 ?_
    refine V_aload_n d_X2_walk_26 rfl rfl ?_
    refine B_get (kLand _ ha0) fl_RX2_37 d_X2_walk_27 g_2_8 ?_
    refine V_iload_n d_X2_walk_30 rfl rfl ?_
    obtain ⟨t8, ht8, hf⟩ := ob hf
    refine B_iald (kLand_3 _ ha0) ht8 d_X2_walk_31 ?_
    refine V_iload_n d_X2_walk_32 rfl rfl ?_
    refine V_iadd d_X2_walk_33 ?_
    obtain ⟨t9, ht9, hf⟩ := ob hf
    refine B_callS1 (s_J9_min_7cf53 hG ht9) m_J9_min_7cf53 ks_RX2_96 d_X2_walk_34 rfl (Nat.le_of_ble_eq_true rfl) ⟨rfl, rfl, Nat.le_of_ble_eq_true rfl, Nat.le_of_ble_eq_true rfl, Nat.le_of_ble_eq_true rfl⟩ (fun n => ?_)
    obtain ⟨μ10, hμ10, hf⟩ := ob hf
    refine B_iast (kLand_3 _ ha0) hμ10 d_X2_walk_37 ?_
    refine V_goto (tgt := 64) d_X2_walk_38 (by decide) ?_
    refine V_less (ls' := [none, none, none]) trivial ?_
    exact s_X2_walk_j64 hG ha0 hf hK
theorem s_X2_walk {G : Gl} (hG : G.1.stackTraces = false) {μ : Mem} {a0 : Nat} {p1 : Int32} {p2 : Int32} (ha0 : a0 ∈ landL) {r : Mem} (hf : f_X2_walk μ a0 p1 p2 = some r) : Rt G yX2_walk F_X2_walk none [.ref (G.2.1 + a0), .int p1, .int p2] μ none r := fun n => Sd.of hG ⟨by decide +kernel, rfl, rfl⟩ rfl (Nat.le_of_ble_eq_true rfl) rfl (fun C hK => s_X2_walk_e hG ha0 hf hK)
theorem d_X2_walkAll_0 : decode cX2_walkAll 0 = .ok (.iconst 0, 1) := by decide +kernel
theorem d_X2_walkAll_1 : decode cX2_walkAll 1 = .ok (.istore_n 3, 1) := by decide +kernel
theorem d_X2_walkAll_2 : decode cX2_walkAll 2 = .ok (.iconst 0, 1) := by decide +kernel
theorem d_X2_walkAll_3 : decode cX2_walkAll 3 = .ok (.istore 4, 2) := by decide +kernel
theorem d_X2_walkAll_5 : decode cX2_walkAll 5 = .ok (.iload 4, 2) := by decide +kernel
theorem d_X2_walkAll_7 : decode cX2_walkAll 7 = .ok (.aload_n 0, 1) := by decide +kernel
theorem d_X2_walkAll_8 : decode cX2_walkAll 8 = .ok (.getfield 9, 3) := by decide +kernel
theorem d_X2_walkAll_11 : decode cX2_walkAll 11 = .ok (.if_icmp .ge 72, 3) := by decide +kernel
theorem d_X2_walkAll_14 : decode cX2_walkAll 14 = .ok (.aload_n 0, 1) := by decide +kernel
theorem d_X2_walkAll_15 : decode cX2_walkAll 15 = .ok (.getfield 37, 3) := by decide +kernel
theorem d_X2_walkAll_18 : decode cX2_walkAll 18 = .ok (.iload 4, 2) := by decide +kernel
theorem d_X2_walkAll_20 : decode cX2_walkAll 20 = .ok (.iaload, 1) := by decide +kernel
theorem d_X2_walkAll_21 : decode cX2_walkAll 21 = .ok (.aload_n 0, 1) := by decide +kernel
theorem d_X2_walkAll_22 : decode cX2_walkAll 22 = .ok (.getfield 40, 3) := by decide +kernel
theorem d_X2_walkAll_25 : decode cX2_walkAll 25 = .ok (.iload 4, 2) := by decide +kernel
theorem d_X2_walkAll_27 : decode cX2_walkAll 27 = .ok (.iaload, 1) := by decide +kernel
theorem d_X2_walkAll_28 : decode cX2_walkAll 28 = .ok (.if_icmp .eq 49, 3) := by decide +kernel
theorem d_X2_walkAll_31 : decode cX2_walkAll 31 = .ok (.iload_n 2, 1) := by decide +kernel
theorem d_X2_walkAll_32 : decode cX2_walkAll 32 = .ok (.ifCond .eq 32, 3) := by decide +kernel
theorem d_X2_walkAll_35 : decode cX2_walkAll 35 = .ok (.aload_n 0, 1) := by decide +kernel
theorem d_X2_walkAll_36 : decode cX2_walkAll 36 = .ok (.invokevirtual 175, 3) := by decide +kernel
theorem d_X2_walkAll_39 : decode cX2_walkAll 39 = .ok (.bipush 100, 2) := by decide +kernel
theorem d_X2_walkAll_41 : decode cX2_walkAll 41 = .ok (.irem, 1) := by decide +kernel
theorem d_X2_walkAll_42 : decode cX2_walkAll 42 = .ok (.aload_n 0, 1) := by decide +kernel
theorem d_X2_walkAll_43 : decode cX2_walkAll 43 = .ok (.iload 4, 2) := by decide +kernel
theorem d_X2_walkAll_45 : decode cX2_walkAll 45 = .ok (.aload_n 1, 1) := by decide +kernel
theorem d_X2_walkAll_46 : decode cX2_walkAll 46 = .ok (.invokevirtual 179, 3) := by decide +kernel
theorem d_X2_walkAll_49 : decode cX2_walkAll 49 = .ok (.if_icmp .ge 15, 3) := by decide +kernel
theorem d_X2_walkAll_52 : decode cX2_walkAll 52 = .ok (.aload_n 0, 1) := by decide +kernel
theorem d_X2_walkAll_53 : decode cX2_walkAll 53 = .ok (.iload 4, 2) := by decide +kernel
theorem d_X2_walkAll_55 : decode cX2_walkAll 55 = .ok (.invokevirtual 182, 3) := by decide +kernel
theorem d_X2_walkAll_58 : decode cX2_walkAll 58 = .ok (.iinc 3 1, 3) := by decide +kernel
theorem d_X2_walkAll_61 : decode cX2_walkAll 61 = .ok (.goto 16, 3) := by decide +kernel
theorem d_X2_walkAll_64 : decode cX2_walkAll 64 = .ok (.aload_n 0, 1) := by decide +kernel
theorem d_X2_walkAll_65 : decode cX2_walkAll 65 = .ok (.iload 4, 2) := by decide +kernel
theorem d_X2_walkAll_67 : decode cX2_walkAll 67 = .ok (.aload_n 0, 1) := by decide +kernel
theorem d_X2_walkAll_68 : decode cX2_walkAll 68 = .ok (.iload 4, 2) := by decide +kernel
theorem d_X2_walkAll_70 : decode cX2_walkAll 70 = .ok (.aload_n 1, 1) := by decide +kernel
theorem d_X2_walkAll_71 : decode cX2_walkAll 71 = .ok (.invokevirtual 185, 3) := by decide +kernel
theorem d_X2_walkAll_74 : decode cX2_walkAll 74 = .ok (.invokevirtual 188, 3) := by decide +kernel
theorem d_X2_walkAll_77 : decode cX2_walkAll 77 = .ok (.iinc 4 1, 3) := by decide +kernel
theorem d_X2_walkAll_80 : decode cX2_walkAll 80 = .ok (.goto (-75), 3) := by decide +kernel
theorem d_X2_walkAll_83 : decode cX2_walkAll 83 = .ok (.iload_n 3, 1) := by decide +kernel
theorem d_X2_walkAll_84 : decode cX2_walkAll 84 = .ok (.ireturn, 1) := by decide +kernel
theorem s_X2_walkAll_j77_5 {G : Gl} (hG : G.1.stackTraces = false) {C : Cx} {n : Nat} {μ : Mem} {a0 : Nat} {a1 : Nat} {l2 : Bool} {l3 : Int32} {l4 : Int32} (ha0 : a0 ∈ landL) (ha1 : a1 ∈ lawL) {y : ((Int32 × Int32 × Mem) ⊕ (Int32 × Mem))} (hf : f_X2_walkAll_j77_5 μ a0 a1 l2 l3 l4 = some y) (hK : (∀ z', y = .inl z' → ∀ n, V G C F_X2_walkAll 5 [some (.ref (G.2.1 + a0)), some (.ref (G.2.1 + a1)), some (.int (b2i l2)), some (.int z'.1), some (.int z'.2.1)] [] (pic G z'.2.2) n 0 0) ∧ (∀ x', y = .inr x' → ∀ n, V G C F_X2_walkAll 83 [none, none, none, some (.int x'.1), none] [] (pic G x'.2) n 0 0)) : V G C F_X2_walkAll 77 [some (.ref (G.2.1 + a0)), some (.ref (G.2.1 + a1)), some (.int (b2i l2)), some (.int l3), some (.int l4)] [] (pic G μ) n 0 0 := by
  unfold f_X2_walkAll_j77_5 at hf
  refine V_iinc (v := (l4 + 1)) (ls' := [_, _, _, _, _]) d_X2_walkAll_77 rfl (by rw [ic_1]) rfl ?_
  refine V_goto (tgt := 5) d_X2_walkAll_80 (by decide) ?_
  refine V_less (ls' := [some _, some _, some _, some _, some _]) ⟨rfl, rfl, rfl, rfl, rfl, trivial⟩ ?_
  cases hf
  exact hK.1 _ rfl _
theorem s_X2_walkAll_j64_5 {G : Gl} (hG : G.1.stackTraces = false) {C : Cx} {n : Nat} {μ : Mem} {a0 : Nat} {a1 : Nat} {l2 : Bool} {l3 : Int32} {l4 : Int32} (ha0 : a0 ∈ landL) (ha1 : a1 ∈ lawL) {y : ((Int32 × Int32 × Mem) ⊕ (Int32 × Mem))} (hf : f_X2_walkAll_j64_5 μ a0 a1 l2 l3 l4 = some y) (hK : (∀ z', y = .inl z' → ∀ n, V G C F_X2_walkAll 5 [some (.ref (G.2.1 + a0)), some (.ref (G.2.1 + a1)), some (.int (b2i l2)), some (.int z'.1), some (.int z'.2.1)] [] (pic G z'.2.2) n 0 0) ∧ (∀ x', y = .inr x' → ∀ n, V G C F_X2_walkAll 83 [none, none, none, some (.int x'.1), none] [] (pic G x'.2) n 0 0)) : V G C F_X2_walkAll 64 [some (.ref (G.2.1 + a0)), some (.ref (G.2.1 + a1)), some (.int (b2i l2)), some (.int l3), some (.int l4)] [] (pic G μ) n 0 0 := by
  unfold f_X2_walkAll_j64_5 at hf
  refine V_aload_n d_X2_walkAll_64 rfl rfl ?_
  refine V_iload d_X2_walkAll_65 rfl ?_
  refine V_aload_n d_X2_walkAll_67 rfl rfl ?_
  refine V_iload d_X2_walkAll_68 rfl ?_
  refine V_aload_n d_X2_walkAll_70 rfl rfl ?_
  obtain ⟨q1, hq1, hf⟩ := ob hf
  refine B_callV1 (s_X2_walkOf hG ha0 ha1 hq1) (kLand _ ha0) clX2 m_X2_walkOf kv_RX2_185 d_X2_walkAll_71 rfl (Nat.le_of_ble_eq_true rfl) ⟨rfl, rfl, Nat.le_of_ble_eq_true rfl, Nat.le_of_ble_eq_true rfl, Nat.le_of_ble_eq_true rfl⟩ (fun n => ?_)
  obtain ⟨q2, hq2, hf⟩ := ob hf
  refine B_callV0 (s_X2_walk hG ha0 hq2) (kLand _ ha0) clX2 m_X2_walk kv_RX2_188 d_X2_walkAll_74 rfl (Nat.le_of_ble_eq_true rfl) ⟨rfl, rfl, Nat.le_of_ble_eq_true rfl, Nat.le_of_ble_eq_true rfl, Nat.le_of_ble_eq_true rfl⟩ (fun n => ?_)
  refine V_less (ls' := [some _, some _, some _, some _, some _]) ⟨rfl, rfl, rfl, rfl, rfl, trivial⟩ ?_
  exact s_X2_walkAll_j77_5 hG ha0 ha1 hf hK
theorem s_X2_walkAll_b5 {G : Gl} (hG : G.1.stackTraces = false) {C : Cx} {n : Nat} {μ : Mem} {a0 : Nat} {a1 : Nat} {l2 : Bool} {l3 : Int32} {l4 : Int32} (ha0 : a0 ∈ landL) (ha1 : a1 ∈ lawL) {y : ((Int32 × Int32 × Mem) ⊕ (Int32 × Mem))} (hf : f_X2_walkAll_b5 μ a0 a1 l2 l3 l4 = some y) (hK : (∀ z', y = .inl z' → ∀ n, V G C F_X2_walkAll 5 [some (.ref (G.2.1 + a0)), some (.ref (G.2.1 + a1)), some (.int (b2i l2)), some (.int z'.1), some (.int z'.2.1)] [] (pic G z'.2.2) n 0 0) ∧ (∀ x', y = .inr x' → ∀ n, V G C F_X2_walkAll 83 [none, none, none, some (.int x'.1), none] [] (pic G x'.2) n 0 0)) : V G C F_X2_walkAll 5 [some (.ref (G.2.1 + a0)), some (.ref (G.2.1 + a1)), some (.int (b2i l2)), some (.int l3), some (.int l4)] [] (pic G μ) n 0 0 := by
  unfold f_X2_walkAll_b5 at hf
  refine V_iload d_X2_walkAll_5 rfl ?_
  refine V_aload_n d_X2_walkAll_7 rfl rfl ?_
  refine B_get (kLand _ ha0) fl_RX2_9 d_X2_walkAll_8 g_2_0 ?_
  refine V_icmp_ge (tgt := 83) d_X2_walkAll_11 (by decide) (fun c11 => ?_) (fun c11 => ?_)
  · replace hf := iteT c11 hf
    refine V_less (ls' := [none, none, none, some _, none]) ⟨rfl, trivial⟩ ?_
    cases hf
    exact hK.2 _ rfl _
  · replace hf := iteF c11 hf
    refine V_aload_n d_X2_walkAll_14 rfl rfl ?_
    refine B_get (kLand _ ha0) fl_RX2_37 d_X2_walkAll_15 g_2_8 ?_
    refine V_iload d_X2_walkAll_18 rfl ?_
    obtain ⟨t1, ht1, hf⟩ := ob hf
    refine B_iald (kLand_3 _ ha0) ht1 d_X2_walkAll_20 ?_
    refine V_aload_n d_X2_walkAll_21 rfl rfl ?_
    refine B_get (kLand _ ha0) fl_RX2_40 d_X2_walkAll_22 g_2_9 ?_
    refine V_iload d_X2_walkAll_25 rfl ?_
    obtain ⟨t2, ht2, hf⟩ := ob hf
    refine B_iald (kLand_4 _ ha0) ht2 d_X2_walkAll_27 ?_
    refine V_icmp_eq (tgt := 77) d_X2_walkAll_28 (by decide) (fun c28 => ?_) (fun c28 => ?_)
    · replace hf := iteT c28 hf
      refine V_less (ls' := [some _, some _, some _, some _, some _]) ⟨rfl, rfl, rfl, rfl, rfl, trivial⟩ ?_
      exact s_X2_walkAll_j77_5 hG ha0 ha1 hf hK
    · replace hf := iteF c28 hf
      refine V_iload_n d_X2_walkAll_31 rfl rfl ?_
      refine V_if_eq (tgt := 64) d_X2_walkAll_32 (by decide) (fun c32 => ?_) (fun c32 => ?_)
      · replace hf := iteF (b2i_nt (b2i_eq0 c32)) hf
        refine V_less (ls' := [some _, some _, some _, some _, some _]) ⟨rfl, rfl, rfl, rfl, rfl, trivial⟩ ?_
        exact s_X2_walkAll_j64_5 hG ha0 ha1 hf hK
      · replace hf := iteT (b2i_ne0 c32) hf
        refine V_aload_n d_X2_walkAll_35 rfl rfl ?_
        obtain ⟨q3, hq3, hf⟩ := ob hf
        refine B_callV1 (s_X2_draw hG ha0 hq3) (kLand _ ha0) clX2 m_X2_draw kv_RX2_175 d_X2_walkAll_36 rfl (Nat.le_of_ble_eq_true rfl) ⟨rfl, rfl, Nat.le_of_ble_eq_true rfl, Nat.le_of_ble_eq_true rfl, Nat.le_of_ble_eq_true rfl⟩ (fun n => ?_)
        refine V_bipush (v := 100) d_X2_walkAll_39 bp_100 ?_
        obtain ⟨t4, ht4, hf⟩ := ob hf
        obtain ⟨gt4, ht4⟩ := rm_some ht4
        refine V_irem d_X2_walkAll_41 gt4 ?_
        rw [ht4]
        refine V_aload_n d_X2_walkAll_42 rfl rfl ?_
        refine V_iload d_X2_walkAll_43 rfl ?_
        refine V_aload_n d_X2_walkAll_45 rfl rfl ?_
        obtain ⟨q5, hq5, hf⟩ := ob hf
        refine B_callV1 (s_X2_fallOf hG ha0 ha1 hq5) (kLand _ ha0) clX2 m_X2_fallOf kv_RX2_179 d_X2_walkAll_46 rfl (Nat.le_of_ble_eq_true rfl) ⟨rfl, rfl, Nat.le_of_ble_eq_true rfl, Nat.le_of_ble_eq_true rfl, Nat.le_of_ble_eq_true rfl⟩ (fun n => ?_)
        refine V_icmp_ge (tgt := 64) d_X2_walkAll_49 (by decide) (fun c49 => ?_) (fun c49 => ?_)
        · replace hf := iteT c49 hf
          refine V_less (ls' := [some _, some _, some _, some _, some _]) ⟨rfl, rfl, rfl, rfl, rfl, trivial⟩ ?_
          exact s_X2_walkAll_j64_5 hG ha0 ha1 hf hK
        · replace hf := iteF c49 hf
          refine V_aload_n d_X2_walkAll_52 rfl rfl ?_
          refine V_iload d_X2_walkAll_53 rfl ?_
          obtain ⟨q6, hq6, hf⟩ := ob hf
          refine B_callV0 (s_X2_fall hG ha0 hq6) (kLand _ ha0) clX2 m_X2_fall kv_RX2_182 d_X2_walkAll_55 rfl (Nat.le_of_ble_eq_true rfl) ⟨rfl, rfl, Nat.le_of_ble_eq_true rfl, Nat.le_of_ble_eq_true rfl, Nat.le_of_ble_eq_true rfl⟩ (fun n => ?_)
          refine V_iinc (v := (l3 + 1)) (ls' := [_, _, _, _, _]) d_X2_walkAll_58 rfl (by rw [ic_1]) rfl ?_
          refine V_goto (tgt := 77) d_X2_walkAll_61 (by decide) ?_
          refine V_less (ls' := [some _, some _, some _, some _, some _]) ⟨rfl, rfl, rfl, rfl, rfl, trivial⟩ ?_
          exact s_X2_walkAll_j77_5 hG ha0 ha1 hf hK
theorem s_X2_walkAll_j83 {G : Gl} (hG : G.1.stackTraces = false) {C : Cx} {n : Nat} {μ : Mem} {a0 : Nat} {a1 : Nat} {l3 : Int32} (ha0 : a0 ∈ landL) (ha1 : a1 ∈ lawL) {r : (Int32 × Mem)} (hf : f_X2_walkAll_j83 μ a0 a1 l3 = some r) (hK : FinR G C F_X2_walkAll (some .int) (some (.int r.1)) r.2) : V G C F_X2_walkAll 83 [none, none, none, some (.int l3), none] [] (pic G μ) n 0 0 := by
  unfold f_X2_walkAll_j83 at hf
  refine V_iload_n d_X2_walkAll_83 rfl rfl ?_
  cases hf
  exact R_i hK d_X2_walkAll_84 (Nat.le_of_ble_eq_true rfl) (Nat.le_of_ble_eq_true rfl)
theorem s_X2_walkAll_l5 {G : Gl} (hG : G.1.stackTraces = false) {C : Cx} {n : Nat} {μ : Mem} {a0 : Nat} {a1 : Nat} {l2 : Bool} {l3 : Int32} {l4 : Int32} (ha0 : a0 ∈ landL) (ha1 : a1 ∈ lawL) {r : (Int32 × Mem)} (hf : f_X2_walkAll_l5 μ a0 a1 l2 l3 l4 = some r) (hK : FinR G C F_X2_walkAll (some .int) (some (.int r.1)) r.2) : V G C F_X2_walkAll 5 [some (.ref (G.2.1 + a0)), some (.ref (G.2.1 + a1)), some (.int (b2i l2)), some (.int l3), some (.int l4)] [] (pic G μ) n 0 0 := by
  unfold f_X2_walkAll_l5 at hf
  obtain ⟨t, hl, hf⟩ := ob hf
  refine loopV (P := fun z => ∀ n, V G C F_X2_walkAll 5 [some (.ref (G.2.1 + a0)), some (.ref (G.2.1 + a1)), some (.int (b2i l2)), some (.int z.1), some (.int z.2.1)] [] (pic G z.2.2) n 0 0) (t := t) ?_ _ _ hl n
  intro z y' hy hI hT n
  refine s_X2_walkAll_b5 hG ha0 ha1 hy ⟨hI, fun x9 ex => ?_⟩
  have ex2 := hT x9 ex
  subst ex2
  intro n
  exact s_X2_walkAll_j83 hG ha0 ha1 hf hK
theorem s_X2_walkAll_e {G : Gl} (hG : G.1.stackTraces = false) {C : Cx} {n : Nat} {μ : Mem} {a0 : Nat} {a1 : Nat} {p2 : Bool} (ha0 : a0 ∈ landL) (ha1 : a1 ∈ lawL) {r : (Int32 × Mem)} (hf : f_X2_walkAll μ a0 a1 p2 = some r) (hK : FinR G C F_X2_walkAll (some .int) (some (.int r.1)) r.2) : V G C F_X2_walkAll 0 [some (.ref (G.2.1 + a0)), some (.ref (G.2.1 + a1)), some (.int (b2i p2)), none, none] [] (pic G μ) n 0 0 := by
  unfold f_X2_walkAll at hf
  refine V_iconst (v := 0) d_X2_walkAll_0 ic_0 ?_
  refine V_istore_n (ls' := [_, _, _, _, _]) d_X2_walkAll_1 rfl rfl rfl ?_
  refine V_iconst (v := 0) d_X2_walkAll_2 ic_0 ?_
  refine V_istore (ls' := [_, _, _, _, _]) d_X2_walkAll_3 rfl rfl ?_
  refine V_less (ls' := [some _, some _, some _, some _, some _]) ⟨rfl, rfl, rfl, rfl, rfl, trivial⟩ ?_
  exact s_X2_walkAll_l5 hG ha0 ha1 hf hK
theorem s_X2_walkAll {G : Gl} (hG : G.1.stackTraces = false) {μ : Mem} {a0 : Nat} {a1 : Nat} {p2 : Bool} (ha0 : a0 ∈ landL) (ha1 : a1 ∈ lawL) {r : (Int32 × Mem)} (hf : f_X2_walkAll μ a0 a1 p2 = some r) : Rt G yX2_walkAll F_X2_walkAll (some .int) [.ref (G.2.1 + a0), .ref (G.2.1 + a1), .int (b2i p2)] μ (some (.int r.1)) r.2 := fun n => Sd.of hG ⟨by decide +kernel, rfl, rfl⟩ rfl (Nat.le_of_ble_eq_true rfl) rfl (fun C hK => s_X2_walkAll_e hG ha0 ha1 hf hK)
theorem d_X2_isPledged_0 : decode cX2_isPledged 0 = .ok (.aload_n 0, 1) := by decide +kernel
theorem d_X2_isPledged_1 : decode cX2_isPledged 1 = .ok (.getfield 46, 3) := by decide +kernel
theorem d_X2_isPledged_4 : decode cX2_isPledged 4 = .ok (.iload_n 1, 1) := by decide +kernel
theorem d_X2_isPledged_5 : decode cX2_isPledged 5 = .ok (.iaload, 1) := by decide +kernel
theorem d_X2_isPledged_6 : decode cX2_isPledged 6 = .ok (.iconst 1, 1) := by decide +kernel
theorem d_X2_isPledged_7 : decode cX2_isPledged 7 = .ok (.if_icmp .ne 7, 3) := by decide +kernel
theorem d_X2_isPledged_10 : decode cX2_isPledged 10 = .ok (.iconst 1, 1) := by decide +kernel
theorem d_X2_isPledged_11 : decode cX2_isPledged 11 = .ok (.goto 4, 3) := by decide +kernel
theorem d_X2_isPledged_14 : decode cX2_isPledged 14 = .ok (.iconst 0, 1) := by decide +kernel
theorem d_X2_isPledged_15 : decode cX2_isPledged 15 = .ok (.ireturn, 1) := by decide +kernel
theorem s_X2_isPledged_e {G : Gl} (hG : G.1.stackTraces = false) {C : Cx} {n : Nat} {μ : Mem} {a0 : Nat} {p1 : Int32} (ha0 : a0 ∈ landL) {r : Bool} (hf : f_X2_isPledged μ a0 p1 = some r) (hK : FinR G C F_X2_isPledged (some .boolean) (some (.int (b2i r))) μ) : V G C F_X2_isPledged 0 [some (.ref (G.2.1 + a0)), some (.int p1)] [] (pic G μ) n 0 0 := by
  unfold f_X2_isPledged at hf
  refine V_aload_n d_X2_isPledged_0 rfl rfl ?_
  refine B_get (kLand _ ha0) fl_RX2_46 d_X2_isPledged_1 g_2_11 ?_
  refine V_iload_n d_X2_isPledged_4 rfl rfl ?_
  obtain ⟨t1, ht1, hf⟩ := ob hf
  refine B_iald (kLand_6 _ ha0) ht1 d_X2_isPledged_5 ?_
  refine V_iconst (v := 1) d_X2_isPledged_6 ic_1 ?_
  have hJj2 : ∀ j2 : Bool, j2 = (if t1 = 1 then (true : Bool) else false) → V G C F_X2_isPledged 15 [none, none] [.int (b2i j2)] (pic G μ) n 0 0 := by
    intro j2 ej2
    subst ej2
    cases hf
    exact R_z hK d_X2_isPledged_15 (Nat.le_of_ble_eq_true rfl) (Nat.le_of_ble_eq_true rfl)
  refine V_icmp_ne (tgt := 14) d_X2_isPledged_7 (by decide) (fun c7 => ?_) (fun c7 => ?_)
  · refine V_iconst (v := 0) d_X2_isPledged_14 ic_0 ?_
    refine V_less (ls' := [none, none]) trivial ?_
    exact hJj2 false (by rw [if_neg c7])
  · refine V_iconst (v := 1) d_X2_isPledged_10 ic_1 ?_
    refine V_goto (tgt := 15) d_X2_isPledged_11 (by decide) ?_
    refine V_less (ls' := [none, none]) trivial ?_
    exact hJj2 true (by rw [if_pos c7])
theorem s_X2_isPledged {G : Gl} (hG : G.1.stackTraces = false) {μ : Mem} {a0 : Nat} {p1 : Int32} (ha0 : a0 ∈ landL) {r : Bool} (hf : f_X2_isPledged μ a0 p1 = some r) : Rt G yX2_isPledged F_X2_isPledged (some .boolean) [.ref (G.2.1 + a0), .int p1] μ (some (.int (b2i r))) μ := fun n => Sd.of hG ⟨by decide +kernel, rfl, rfl⟩ rfl (Nat.le_of_ble_eq_true rfl) rfl (fun C hK => s_X2_isPledged_e hG ha0 hf hK)
theorem d_X11_ownerOf_0 : decode cX11_ownerOf 0 = .ok (.iload_n 0, 1) := by decide +kernel
theorem d_X11_ownerOf_1 : decode cX11_ownerOf 1 = .ok (.iconst 1, 1) := by decide +kernel
theorem d_X11_ownerOf_2 : decode cX11_ownerOf 2 = .ok (.ishr, 1) := by decide +kernel
theorem d_X11_ownerOf_3 : decode cX11_ownerOf 3 = .ok (.ireturn, 1) := by decide +kernel
theorem s_X11_ownerOf_e {G : Gl} (hG : G.1.stackTraces = false) {C : Cx} {n : Nat} {μ : Mem} {p0 : Int32} {r : Int32} (hf : f_X11_ownerOf μ p0 = some r) (hK : FinR G C F_X11_ownerOf (some .int) (some (.int r)) μ) : V G C F_X11_ownerOf 0 [some (.int p0)] [] (pic G μ) n 0 0 := by
  unfold f_X11_ownerOf at hf
  refine V_iload_n d_X11_ownerOf_0 rfl rfl ?_
  refine V_iconst (v := 1) d_X11_ownerOf_1 ic_1 ?_
  refine V_ishr d_X11_ownerOf_2 ?_
  cases hf
  exact R_i hK d_X11_ownerOf_3 (Nat.le_of_ble_eq_true rfl) (Nat.le_of_ble_eq_true rfl)
theorem s_X11_ownerOf {G : Gl} (hG : G.1.stackTraces = false) {μ : Mem} {p0 : Int32} {r : Int32} (hf : f_X11_ownerOf μ p0 = some r) : Rt G yX11_ownerOf F_X11_ownerOf (some .int) [.int p0] μ (some (.int r)) μ := fun n => Sd.of hG ⟨by decide +kernel, rfl, rfl⟩ rfl (Nat.le_of_ble_eq_true rfl) rfl (fun C hK => s_X11_ownerOf_e hG hf hK)
theorem d_X2_growthOf_0 : decode cX2_growthOf 0 = .ok (.aload_n 0, 1) := by decide +kernel
theorem d_X2_growthOf_1 : decode cX2_growthOf 1 = .ok (.getfield 55, 3) := by decide +kernel
theorem d_X2_growthOf_4 : decode cX2_growthOf 4 = .ok (.iload_n 1, 1) := by decide +kernel
theorem d_X2_growthOf_5 : decode cX2_growthOf 5 = .ok (.iaload, 1) := by decide +kernel
theorem d_X2_growthOf_6 : decode cX2_growthOf 6 = .ok (.aload_n 2, 1) := by decide +kernel
theorem d_X2_growthOf_7 : decode cX2_growthOf 7 = .ok (.iconst 1, 1) := by decide +kernel
theorem d_X2_growthOf_8 : decode cX2_growthOf 8 = .ok (.aload_n 0, 1) := by decide +kernel
theorem d_X2_growthOf_9 : decode cX2_growthOf 9 = .ok (.iload_n 1, 1) := by decide +kernel
theorem d_X2_growthOf_10 : decode cX2_growthOf 10 = .ok (.invokestatic 135, 3) := by decide +kernel
theorem d_X2_growthOf_13 : decode cX2_growthOf 13 = .ok (.invokevirtual 124, 3) := by decide +kernel
theorem d_X2_growthOf_16 : decode cX2_growthOf 16 = .ok (.iadd, 1) := by decide +kernel
theorem d_X2_growthOf_17 : decode cX2_growthOf 17 = .ok (.ireturn, 1) := by decide +kernel
theorem s_X2_growthOf_e {G : Gl} (hG : G.1.stackTraces = false) {C : Cx} {n : Nat} {μ : Mem} {a0 : Nat} {p1 : Int32} {a2 : Nat} (ha0 : a0 ∈ landL) (ha2 : a2 ∈ lawL) {r : (Int32 × Mem)} (hf : f_X2_growthOf μ a0 p1 a2 = some r) (hK : FinR G C F_X2_growthOf (some .int) (some (.int r.1)) r.2) : V G C F_X2_growthOf 0 [some (.ref (G.2.1 + a0)), some (.int p1), some (.ref (G.2.1 + a2))] [] (pic G μ) n 0 0 := by
  unfold f_X2_growthOf at hf
  refine V_aload_n d_X2_growthOf_0 rfl rfl ?_
  refine B_get (kLand _ ha0) fl_RX2_55 d_X2_growthOf_1 g_2_14 ?_
  refine V_iload_n d_X2_growthOf_4 rfl rfl ?_
  obtain ⟨t1, ht1, hf⟩ := ob hf
  refine B_iald (kLand_9 _ ha0) ht1 d_X2_growthOf_5 ?_
  refine V_aload_n d_X2_growthOf_6 rfl rfl ?_
  refine V_iconst (v := 1) d_X2_growthOf_7 ic_1 ?_
  refine V_aload_n d_X2_growthOf_8 rfl rfl ?_
  refine V_iload_n d_X2_growthOf_9 rfl rfl ?_
  obtain ⟨t2, ht2, hf⟩ := ob hf
  refine B_callSN1 (s_X11_ownerOf hG ht2) m_X11_ownerOf ks_RX2_135 d_X2_growthOf_10 rfl (Nat.le_of_ble_eq_true rfl) ⟨rfl, rfl, Nat.le_of_ble_eq_true rfl, Nat.le_of_ble_eq_true rfl, Nat.le_of_ble_eq_true rfl⟩ (fun n => ?_)
  obtain ⟨q3, hq3, hf⟩ := ob hf
  refine B_callV1 (s_X4_sumOf hG ha2 ha0 hq3) (kLaw _ ha2) clX4 m_X4_sumOf kv_RX2_124 d_X2_growthOf_13 rfl (Nat.le_of_ble_eq_true rfl) ⟨rfl, rfl, Nat.le_of_ble_eq_true rfl, Nat.le_of_ble_eq_true rfl, Nat.le_of_ble_eq_true rfl⟩ (fun n => ?_)
  refine V_iadd d_X2_growthOf_16 ?_
  cases hf
  exact R_i hK d_X2_growthOf_17 (Nat.le_of_ble_eq_true rfl) (Nat.le_of_ble_eq_true rfl)
theorem s_X2_growthOf {G : Gl} (hG : G.1.stackTraces = false) {μ : Mem} {a0 : Nat} {p1 : Int32} {a2 : Nat} (ha0 : a0 ∈ landL) (ha2 : a2 ∈ lawL) {r : (Int32 × Mem)} (hf : f_X2_growthOf μ a0 p1 a2 = some r) : Rt G yX2_growthOf F_X2_growthOf (some .int) [.ref (G.2.1 + a0), .int p1, .ref (G.2.1 + a2)] μ (some (.int r.1)) r.2 := fun n => Sd.of hG ⟨by decide +kernel, rfl, rfl⟩ rfl (Nat.le_of_ble_eq_true rfl) rfl (fun C hK => s_X2_growthOf_e hG ha0 ha2 hf hK)
theorem d_X2_settle_0 : decode cX2_settle 0 = .ok (.iload_n 1, 1) := by decide +kernel
theorem d_X2_settle_1 : decode cX2_settle 1 = .ok (.invokestatic 135, 3) := by decide +kernel
theorem d_X2_settle_4 : decode cX2_settle 4 = .ok (.istore_n 2, 1) := by decide +kernel
theorem d_X2_settle_5 : decode cX2_settle 5 = .ok (.aload_n 0, 1) := by decide +kernel
theorem d_X2_settle_6 : decode cX2_settle 6 = .ok (.getfield 61, 3) := by decide +kernel
theorem d_X2_settle_9 : decode cX2_settle 9 = .ok (.iload_n 1, 1) := by decide +kernel
theorem d_X2_settle_10 : decode cX2_settle 10 = .ok (.iaload, 1) := by decide +kernel
theorem d_X2_settle_11 : decode cX2_settle 11 = .ok (.istore_n 3, 1) := by decide +kernel
theorem d_X2_settle_12 : decode cX2_settle 12 = .ok (.aload_n 0, 1) := by decide +kernel
theorem d_X2_settle_13 : decode cX2_settle 13 = .ok (.getfield 30, 3) := by decide +kernel
theorem d_X2_settle_16 : decode cX2_settle 16 = .ok (.iload_n 2, 1) := by decide +kernel
theorem d_X2_settle_17 : decode cX2_settle 17 = .ok (.iaload, 1) := by decide +kernel
theorem d_X2_settle_18 : decode cX2_settle 18 = .ok (.aload_n 0, 1) := by decide +kernel
theorem d_X2_settle_19 : decode cX2_settle 19 = .ok (.getfield 52, 3) := by decide +kernel
theorem d_X2_settle_22 : decode cX2_settle 22 = .ok (.iload_n 1, 1) := by decide +kernel
theorem d_X2_settle_23 : decode cX2_settle 23 = .ok (.iaload, 1) := by decide +kernel
theorem d_X2_settle_24 : decode cX2_settle 24 = .ok (.if_icmp .lt 12, 3) := by decide +kernel
theorem d_X2_settle_27 : decode cX2_settle 27 = .ok (.aload_n 0, 1) := by decide +kernel
theorem d_X2_settle_28 : decode cX2_settle 28 = .ok (.iload_n 1, 1) := by decide +kernel
theorem d_X2_settle_29 : decode cX2_settle 29 = .ok (.iload_n 2, 1) := by decide +kernel
theorem d_X2_settle_30 : decode cX2_settle 30 = .ok (.invokevirtual 192, 3) := by decide +kernel
theorem d_X2_settle_33 : decode cX2_settle 33 = .ok (.goto 63, 3) := by decide +kernel
theorem d_X2_settle_36 : decode cX2_settle 36 = .ok (.iload_n 3, 1) := by decide +kernel
theorem d_X2_settle_37 : decode cX2_settle 37 = .ok (.iconst (-1), 1) := by decide +kernel
theorem d_X2_settle_38 : decode cX2_settle 38 = .ok (.if_icmp .eq 27, 3) := by decide +kernel
theorem d_X2_settle_41 : decode cX2_settle 41 = .ok (.aload_n 0, 1) := by decide +kernel
theorem d_X2_settle_42 : decode cX2_settle 42 = .ok (.getfield 30, 3) := by decide +kernel
theorem d_X2_settle_45 : decode cX2_settle 45 = .ok (.iload_n 3, 1) := by decide +kernel
theorem d_X2_settle_46 : decode cX2_settle 46 = .ok (.iaload, 1) := by decide +kernel
theorem d_X2_settle_47 : decode cX2_settle 47 = .ok (.aload_n 0, 1) := by decide +kernel
theorem d_X2_settle_48 : decode cX2_settle 48 = .ok (.getfield 52, 3) := by decide +kernel
theorem d_X2_settle_51 : decode cX2_settle 51 = .ok (.iload_n 1, 1) := by decide +kernel
theorem d_X2_settle_52 : decode cX2_settle 52 = .ok (.iaload, 1) := by decide +kernel
theorem d_X2_settle_53 : decode cX2_settle 53 = .ok (.if_icmp .lt 12, 3) := by decide +kernel
theorem d_X2_settle_56 : decode cX2_settle 56 = .ok (.aload_n 0, 1) := by decide +kernel
theorem d_X2_settle_57 : decode cX2_settle 57 = .ok (.iload_n 1, 1) := by decide +kernel
theorem d_X2_settle_58 : decode cX2_settle 58 = .ok (.iload_n 3, 1) := by decide +kernel
theorem d_X2_settle_59 : decode cX2_settle 59 = .ok (.invokevirtual 192, 3) := by decide +kernel
theorem d_X2_settle_62 : decode cX2_settle 62 = .ok (.goto 34, 3) := by decide +kernel
theorem d_X2_settle_65 : decode cX2_settle 65 = .ok (.aload_n 0, 1) := by decide +kernel
theorem d_X2_settle_66 : decode cX2_settle 66 = .ok (.getfield 70, 3) := by decide +kernel
theorem d_X2_settle_69 : decode cX2_settle 69 = .ok (.aload_n 0, 1) := by decide +kernel
theorem d_X2_settle_70 : decode cX2_settle 70 = .ok (.getfield 18, 3) := by decide +kernel
theorem d_X2_settle_73 : decode cX2_settle 73 = .ok (.iload_n 1, 1) := by decide +kernel
theorem d_X2_settle_74 : decode cX2_settle 74 = .ok (.iconst 2, 1) := by decide +kernel
theorem d_X2_settle_75 : decode cX2_settle 75 = .ok (.aload_n 0, 1) := by decide +kernel
theorem d_X2_settle_76 : decode cX2_settle 76 = .ok (.getfield 52, 3) := by decide +kernel
theorem d_X2_settle_79 : decode cX2_settle 79 = .ok (.iload_n 1, 1) := by decide +kernel
theorem d_X2_settle_80 : decode cX2_settle 80 = .ok (.iaload, 1) := by decide +kernel
theorem d_X2_settle_81 : decode cX2_settle 81 = .ok (.invokevirtual 92, 3) := by decide +kernel
theorem d_X2_settle_84 : decode cX2_settle 84 = .ok (.aload_n 0, 1) := by decide +kernel
theorem d_X2_settle_85 : decode cX2_settle 85 = .ok (.iload_n 1, 1) := by decide +kernel
theorem d_X2_settle_86 : decode cX2_settle 86 = .ok (.iconst 2, 1) := by decide +kernel
theorem d_X2_settle_87 : decode cX2_settle 87 = .ok (.aload_n 0, 1) := by decide +kernel
theorem d_X2_settle_88 : decode cX2_settle 88 = .ok (.getfield 49, 3) := by decide +kernel
theorem d_X2_settle_91 : decode cX2_settle 91 = .ok (.iload_n 1, 1) := by decide +kernel
theorem d_X2_settle_92 : decode cX2_settle 92 = .ok (.iaload, 1) := by decide +kernel
theorem d_X2_settle_93 : decode cX2_settle 93 = .ok (.invokevirtual 84, 3) := by decide +kernel
theorem d_X2_settle_96 : decode cX2_settle 96 = .ok (.return_, 1) := by decide +kernel
theorem s_X2_settle_j96 {G : Gl} (hG : G.1.stackTraces = false) {C : Cx} {n : Nat} {μ : Mem} {a0 : Nat} (ha0 : a0 ∈ landL) {r : Mem} (hf : f_X2_settle_j96 μ a0 = some r) (hK : FinR G C F_X2_settle none none r) : V G C F_X2_settle 96 [none, none, none, none] [] (pic G μ) n 0 0 := by
  unfold f_X2_settle_j96 at hf
  cases hf
  exact R_v hK d_X2_settle_96 (Nat.le_of_ble_eq_true rfl) (Nat.le_of_ble_eq_true rfl)
theorem s_X2_settle_j65 {G : Gl} (hG : G.1.stackTraces = false) {C : Cx} {n : Nat} {μ : Mem} {a0 : Nat} {l1 : Int32} (ha0 : a0 ∈ landL) {r : Mem} (hf : f_X2_settle_j65 μ a0 l1 = some r) (hK : FinR G C F_X2_settle none none r) : V G C F_X2_settle 65 [some (.ref (G.2.1 + a0)), some (.int l1), none, none] [] (pic G μ) n 0 0 := by
  unfold f_X2_settle_j65 at hf
  refine V_aload_n d_X2_settle_65 rfl rfl ?_
  refine B_get (kLand _ ha0) fl_RX2_70 d_X2_settle_66 g_2_18 ?_
  refine V_aload_n d_X2_settle_69 rfl rfl ?_
  refine B_get (kLand _ ha0) fl_RX2_18 d_X2_settle_70 g_2_2 ?_
  refine V_iload_n d_X2_settle_73 rfl rfl ?_
  refine V_iconst (v := 2) d_X2_settle_74 ic_2 ?_
  refine V_aload_n d_X2_settle_75 rfl rfl ?_
  refine B_get (kLand _ ha0) fl_RX2_52 d_X2_settle_76 g_2_13 ?_
  refine V_iload_n d_X2_settle_79 rfl rfl ?_
  obtain ⟨t1, ht1, hf⟩ := ob hf
  refine B_iald (kLand_8 _ ha0) ht1 d_X2_settle_80 ?_
  obtain ⟨q2, hq2, hf⟩ := ob hf
  refine B_callV0 (s_X1_add hG (landBook _ ha0) hq2) (kBook _ (landBook _ ha0)) clX1 m_X1_add kv_RX2_92 d_X2_settle_81 rfl (Nat.le_of_ble_eq_true rfl) ⟨rfl, rfl, Nat.le_of_ble_eq_true rfl, Nat.le_of_ble_eq_true rfl, Nat.le_of_ble_eq_true rfl⟩ (fun n => ?_)
  refine V_aload_n d_X2_settle_84 rfl rfl ?_
  refine V_iload_n d_X2_settle_85 rfl rfl ?_
  refine V_iconst (v := 2) d_X2_settle_86 ic_2 ?_
  refine V_aload_n d_X2_settle_87 rfl rfl ?_
  refine B_get (kLand _ ha0) fl_RX2_49 d_X2_settle_88 g_2_12 ?_
  refine V_iload_n d_X2_settle_91 rfl rfl ?_
  obtain ⟨t3, ht3, hf⟩ := ob hf
  refine B_iald (kLand_7 _ ha0) ht3 d_X2_settle_92 ?_
  obtain ⟨q4, hq4, hf⟩ := ob hf
  refine B_callV0 (s_X2_letGo hG ha0 hq4) (kLand _ ha0) clX2 m_X2_letGo kv_RX2_84 d_X2_settle_93 rfl (Nat.le_of_ble_eq_true rfl) ⟨rfl, rfl, Nat.le_of_ble_eq_true rfl, Nat.le_of_ble_eq_true rfl, Nat.le_of_ble_eq_true rfl⟩ (fun n => ?_)
  refine V_less (ls' := [none, none, none, none]) trivial ?_
  exact s_X2_settle_j96 hG ha0 hf hK
theorem s_X2_settle_e {G : Gl} (hG : G.1.stackTraces = false) {C : Cx} {n : Nat} {μ : Mem} {a0 : Nat} {p1 : Int32} (ha0 : a0 ∈ landL) {r : Mem} (hf : f_X2_settle μ a0 p1 = some r) (hK : FinR G C F_X2_settle none none r) : V G C F_X2_settle 0 [some (.ref (G.2.1 + a0)), some (.int p1), none, none] [] (pic G μ) n 0 0 := by
  unfold f_X2_settle at hf
  refine V_iload_n d_X2_settle_0 rfl rfl ?_
  obtain ⟨t1, ht1, hf⟩ := ob hf
  refine B_callSN1 (s_X11_ownerOf hG ht1) m_X11_ownerOf ks_RX2_135 d_X2_settle_1 rfl (Nat.le_of_ble_eq_true rfl) ⟨rfl, rfl, Nat.le_of_ble_eq_true rfl, Nat.le_of_ble_eq_true rfl, Nat.le_of_ble_eq_true rfl⟩ (fun n => ?_)
  refine V_istore_n (ls' := [_, _, _, _]) d_X2_settle_4 rfl rfl rfl ?_
  refine V_aload_n d_X2_settle_5 rfl rfl ?_
  refine B_get (kLand _ ha0) fl_RX2_61 d_X2_settle_6 g_2_16 ?_
  refine V_iload_n d_X2_settle_9 rfl rfl ?_
  obtain ⟨t2, ht2, hf⟩ := ob hf
  refine B_iald (kLand_11 _ ha0) ht2 d_X2_settle_10 ?_
  refine V_istore_n (ls' := [_, _, _, _]) d_X2_settle_11 rfl rfl rfl ?_
  refine V_aload_n d_X2_settle_12 rfl rfl ?_
  refine B_get (kLand _ ha0) fl_RX2_30 d_X2_settle_13 g_2_6 ?_
  refine V_iload_n d_X2_settle_16 rfl rfl ?_
  obtain ⟨t3, ht3, hf⟩ := ob hf
  refine B_iald (kLand_1 _ ha0) ht3 d_X2_settle_17 ?_
  refine V_aload_n d_X2_settle_18 rfl rfl ?_
  refine B_get (kLand _ ha0) fl_RX2_52 d_X2_settle_19 g_2_13 ?_
  refine V_iload_n d_X2_settle_22 rfl rfl ?_
  obtain ⟨t4, ht4, hf⟩ := ob hf
  refine B_iald (kLand_8 _ ha0) ht4 d_X2_settle_23 ?_
  refine V_icmp_lt (tgt := 36) d_X2_settle_24 (by decide) (fun c24 => ?_) (fun c24 => ?_)
  · replace hf := iteT c24 hf
    refine V_iload_n d_X2_settle_36 rfl rfl ?_
    refine V_iconst (v := (-1)) d_X2_settle_37 ic_m1 ?_
    refine V_icmp_eq (tgt := 65) d_X2_settle_38 (by decide) (fun c38 => ?_) (fun c38 => ?_)
    · replace hf := iteT c38 hf
      refine V_less (ls' := [some _, some _, none, none]) ⟨rfl, rfl, trivial⟩ ?_
      exact s_X2_settle_j65 hG ha0 hf hK
    · replace hf := iteF c38 hf
      refine V_aload_n d_X2_settle_41 rfl rfl ?_
      refine B_get (kLand _ ha0) fl_RX2_30 d_X2_settle_42 g_2_6 ?_
      refine V_iload_n d_X2_settle_45 rfl rfl ?_
      obtain ⟨t5, ht5, hf⟩ := ob hf
      refine B_iald (kLand_1 _ ha0) ht5 d_X2_settle_46 ?_
      refine V_aload_n d_X2_settle_47 rfl rfl ?_
      refine B_get (kLand _ ha0) fl_RX2_52 d_X2_settle_48 g_2_13 ?_
      refine V_iload_n d_X2_settle_51 rfl rfl ?_
      obtain ⟨t6, ht6, hf⟩ := ob hf
      refine B_iald (kLand_8 _ ha0) ht6 d_X2_settle_52 ?_
      refine V_icmp_lt (tgt := 65) d_X2_settle_53 (by decide) (fun c53 => ?_) (fun c53 => ?_)
      · replace hf := iteT c53 hf
        refine V_less (ls' := [some _, some _, none, none]) ⟨rfl, rfl, trivial⟩ ?_
        exact s_X2_settle_j65 hG ha0 hf hK
      · replace hf := iteF c53 hf
        refine V_aload_n d_X2_settle_56 rfl rfl ?_
        refine V_iload_n d_X2_settle_57 rfl rfl ?_
        refine V_iload_n d_X2_settle_58 rfl rfl ?_
        obtain ⟨q7, hq7, hf⟩ := ob hf
        refine B_callV0 (s_X2_payOff hG ha0 hq7) (kLand _ ha0) clX2 m_X2_payOff kv_RX2_192 d_X2_settle_59 rfl (Nat.le_of_ble_eq_true rfl) ⟨rfl, rfl, Nat.le_of_ble_eq_true rfl, Nat.le_of_ble_eq_true rfl, Nat.le_of_ble_eq_true rfl⟩ (fun n => ?_)
        refine V_goto (tgt := 96) d_X2_settle_62 (by decide) ?_
        refine V_less (ls' := [none, none, none, none]) trivial ?_
        exact s_X2_settle_j96 hG ha0 hf hK
  · replace hf := iteF c24 hf
    refine V_aload_n d_X2_settle_27 rfl rfl ?_
    refine V_iload_n d_X2_settle_28 rfl rfl ?_
    refine V_iload_n d_X2_settle_29 rfl rfl ?_
    obtain ⟨q8, hq8, hf⟩ := ob hf
    refine B_callV0 (s_X2_payOff hG ha0 hq8) (kLand _ ha0) clX2 m_X2_payOff kv_RX2_192 d_X2_settle_30 rfl (Nat.le_of_ble_eq_true rfl) ⟨rfl, rfl, Nat.le_of_ble_eq_true rfl, Nat.le_of_ble_eq_true rfl, Nat.le_of_ble_eq_true rfl⟩ (fun n => ?_)
    refine V_goto (tgt := 96) d_X2_settle_33 (by decide) ?_
    refine V_less (ls' := [none, none, none, none]) trivial ?_
    exact s_X2_settle_j96 hG ha0 hf hK
theorem s_X2_settle {G : Gl} (hG : G.1.stackTraces = false) {μ : Mem} {a0 : Nat} {p1 : Int32} (ha0 : a0 ∈ landL) {r : Mem} (hf : f_X2_settle μ a0 p1 = some r) : Rt G yX2_settle F_X2_settle none [.ref (G.2.1 + a0), .int p1] μ none r := fun n => Sd.of hG ⟨by decide +kernel, rfl, rfl⟩ rfl (Nat.le_of_ble_eq_true rfl) rfl (fun C hK => s_X2_settle_e hG ha0 hf hK)
