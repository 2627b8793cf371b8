/-! THE WORLD: kinds of the cells, fields, the picture of a memory -/
def kdL : List (Nat × Nat) := [(0, 11), (0, 8), (1, 400), (0, 2), (1, 6), (1, 6), (1, 6), (1, 6), (1, 6), (1, 12), (1, 12), (1, 12), (1, 12), (1, 12), (1, 12), (1, 20), (0, 1), (1, 60), (0, 2), (1, 6), (1, 6), (1, 6), (1, 6), (1, 6), (1, 12), (1, 12), (1, 12), (1, 12), (1, 12), (1, 12), (1, 20), (0, 1), (1, 60), (0, 2), (1, 6), (1, 6), (1, 6), (1, 6), (1, 6), (1, 12), (1, 12), (1, 12), (1, 12), (1, 12), (1, 12), (1, 20), (0, 1), (1, 60), (0, 4), (1, 12), (1, 12), (1, 12), (1, 12), (1, 400), (1, 9), (1, 24), (0, 4), (1, 12), (1, 12), (1, 12), (1, 12), (1, 400), (1, 9), (1, 24), (0, 4), (1, 12), (1, 12), (1, 12), (1, 12), (1, 400), (1, 9), (1, 24), (0, 3), (0, 5), (0, 0), (4, 12), (0, 2), (1, 6), (1, 6), (1, 6), (1, 6), (1, 6), (1, 12), (1, 12), (1, 12), (1, 12), (1, 12), (1, 12), (1, 20), (0, 1), (1, 60), (0, 2), (1, 6), (1, 6), (1, 6), (1, 6), (1, 6), (1, 12), (1, 12), (1, 12), (1, 12), (1, 12), (1, 12), (1, 20), (0, 1), (1, 60), (0, 2), (1, 6), (1, 6), (1, 6), (1, 6), (1, 6), (1, 12), (1, 12), (1, 12), (1, 12), (1, 12), (1, 12), (1, 20), (0, 1), (1, 60), (0, 2), (1, 6), (1, 6), (1, 6), (1, 6), (1, 6), (1, 12), (1, 12), (1, 12), (1, 12), (1, 12), (1, 12), (1, 20), (0, 1), (1, 60), (0, 2), (1, 6), (1, 6), (1, 6), (1, 6), (1, 6), (1, 12), (1, 12), (1, 12), (1, 12), (1, 12), (1, 12), (1, 20), (0, 1), (1, 60), (0, 2), (1, 6), (1, 6), (1, 6), (1, 6), (1, 6), (1, 12), (1, 12), (1, 12), (1, 12), (1, 12), (1, 12), (1, 20), (0, 1), (1, 60), (0, 2), (1, 6), (1, 6), (1, 6), (1, 6), (1, 6), (1, 12), (1, 12), (1, 12), (1, 12), (1, 12), (1, 12), (1, 20), (0, 1), (1, 60), (0, 2), (1, 6), (1, 6), (1, 6), (1, 6), (1, 6), (1, 12), (1, 12), (1, 12), (1, 12), (1, 12), (1, 12), (1, 20), (0, 1), (1, 60), (0, 2), (1, 6), (1, 6), (1, 6), (1, 6), (1, 6), (1, 12), (1, 12), (1, 12), (1, 12), (1, 12), (1, 12), (1, 20), (0, 1), (1, 60), (0, 2), (1, 6), (1, 6), (1, 6), (1, 6), (1, 6), (1, 12), (1, 12), (1, 12), (1, 12), (1, 12), (1, 12), (1, 20), (0, 1), (1, 60), (0, 2), (1, 6), (1, 6), (1, 6), (1, 6), (1, 6), (1, 12), (1, 12), (1, 12), (1, 12), (1, 12), (1, 12), (1, 20), (0, 1), (1, 60), (0, 2), (1, 6), (1, 6), (1, 6), (1, 6), (1, 6), (1, 12), (1, 12), (1, 12), (1, 12), (1, 12), (1, 12), (1, 20), (0, 1), (1, 60), (0, 7), (1, 12), (1, 6), (0, 9), (1, 36), (1, 64), (0, 10), (1, 6), (0, 12), (1, 2068), (1, 1219), (1, 1219), (1, 370), (1, 4440), (2, 400), (1, 5), (1, 400), (1, 36), (1, 448), (3, 1)]
theorem k_0 : kdL[0]? = some (0, 11) := by decide +kernel
theorem k_1 : kdL[1]? = some (0, 8) := by decide +kernel
theorem k_2 : kdL[2]? = some (1, 400) := by decide +kernel
theorem k_3 : kdL[3]? = some (0, 2) := by decide +kernel
theorem k_4 : kdL[4]? = some (1, 6) := by decide +kernel
theorem k_5 : kdL[5]? = some (1, 6) := by decide +kernel
theorem k_6 : kdL[6]? = some (1, 6) := by decide +kernel
theorem k_7 : kdL[7]? = some (1, 6) := by decide +kernel
theorem k_8 : kdL[8]? = some (1, 6) := by decide +kernel
theorem k_9 : kdL[9]? = some (1, 12) := by decide +kernel
theorem k_10 : kdL[10]? = some (1, 12) := by decide +kernel
theorem k_11 : kdL[11]? = some (1, 12) := by decide +kernel
theorem k_12 : kdL[12]? = some (1, 12) := by decide +kernel
theorem k_13 : kdL[13]? = some (1, 12) := by decide +kernel
theorem k_14 : kdL[14]? = some (1, 12) := by decide +kernel
theorem k_15 : kdL[15]? = some (1, 20) := by decide +kernel
theorem k_16 : kdL[16]? = some (0, 1) := by decide +kernel
theorem k_17 : kdL[17]? = some (1, 60) := by decide +kernel
theorem k_18 : kdL[18]? = some (0, 2) := by decide +kernel
theorem k_19 : kdL[19]? = some (1, 6) := by decide +kernel
theorem k_20 : kdL[20]? = some (1, 6) := by decide +kernel
theorem k_21 : kdL[21]? = some (1, 6) := by decide +kernel
theorem k_22 : kdL[22]? = some (1, 6) := by decide +kernel
theorem k_23 : kdL[23]? = some (1, 6) := by decide +kernel
theorem k_24 : kdL[24]? = some (1, 12) := by decide +kernel
theorem k_25 : kdL[25]? = some (1, 12) := by decide +kernel
theorem k_26 : kdL[26]? = some (1, 12) := by decide +kernel
theorem k_27 : kdL[27]? = some (1, 12) := by decide +kernel
theorem k_28 : kdL[28]? = some (1, 12) := by decide +kernel
theorem k_29 : kdL[29]? = some (1, 12) := by decide +kernel
theorem k_30 : kdL[30]? = some (1, 20) := by decide +kernel
theorem k_31 : kdL[31]? = some (0, 1) := by decide +kernel
theorem k_32 : kdL[32]? = some (1, 60) := by decide +kernel
theorem k_33 : kdL[33]? = some (0, 2) := by decide +kernel
theorem k_34 : kdL[34]? = some (1, 6) := by decide +kernel
theorem k_35 : kdL[35]? = some (1, 6) := by decide +kernel
theorem k_36 : kdL[36]? = some (1, 6) := by decide +kernel
theorem k_37 : kdL[37]? = some (1, 6) := by decide +kernel
theorem k_38 : kdL[38]? = some (1, 6) := by decide +kernel
theorem k_39 : kdL[39]? = some (1, 12) := by decide +kernel
theorem k_40 : kdL[40]? = some (1, 12) := by decide +kernel
theorem k_41 : kdL[41]? = some (1, 12) := by decide +kernel
theorem k_42 : kdL[42]? = some (1, 12) := by decide +kernel
theorem k_43 : kdL[43]? = some (1, 12) := by decide +kernel
theorem k_44 : kdL[44]? = some (1, 12) := by decide +kernel
theorem k_45 : kdL[45]? = some (1, 20) := by decide +kernel
theorem k_46 : kdL[46]? = some (0, 1) := by decide +kernel
theorem k_47 : kdL[47]? = some (1, 60) := by decide +kernel
theorem k_48 : kdL[48]? = some (0, 4) := by decide +kernel
theorem k_49 : kdL[49]? = some (1, 12) := by decide +kernel
theorem k_50 : kdL[50]? = some (1, 12) := by decide +kernel
theorem k_51 : kdL[51]? = some (1, 12) := by decide +kernel
theorem k_52 : kdL[52]? = some (1, 12) := by decide +kernel
theorem k_53 : kdL[53]? = some (1, 400) := by decide +kernel
theorem k_54 : kdL[54]? = some (1, 9) := by decide +kernel
theorem k_55 : kdL[55]? = some (1, 24) := by decide +kernel
theorem k_56 : kdL[56]? = some (0, 4) := by decide +kernel
theorem k_57 : kdL[57]? = some (1, 12) := by decide +kernel
theorem k_58 : kdL[58]? = some (1, 12) := by decide +kernel
theorem k_59 : kdL[59]? = some (1, 12) := by decide +kernel
theorem k_60 : kdL[60]? = some (1, 12) := by decide +kernel
theorem k_61 : kdL[61]? = some (1, 400) := by decide +kernel
theorem k_62 : kdL[62]? = some (1, 9) := by decide +kernel
theorem k_63 : kdL[63]? = some (1, 24) := by decide +kernel
theorem k_64 : kdL[64]? = some (0, 4) := by decide +kernel
theorem k_65 : kdL[65]? = some (1, 12) := by decide +kernel
theorem k_66 : kdL[66]? = some (1, 12) := by decide +kernel
theorem k_67 : kdL[67]? = some (1, 12) := by decide +kernel
theorem k_68 : kdL[68]? = some (1, 12) := by decide +kernel
theorem k_69 : kdL[69]? = some (1, 400) := by decide +kernel
theorem k_70 : kdL[70]? = some (1, 9) := by decide +kernel
theorem k_71 : kdL[71]? = some (1, 24) := by decide +kernel
theorem k_72 : kdL[72]? = some (0, 3) := by decide +kernel
theorem k_73 : kdL[73]? = some (0, 5) := by decide +kernel
theorem k_74 : kdL[74]? = some (0, 0) := by decide +kernel
theorem k_75 : kdL[75]? = some (4, 12) := by decide +kernel
theorem k_76 : kdL[76]? = some (0, 2) := by decide +kernel
theorem k_77 : kdL[77]? = some (1, 6) := by decide +kernel
theorem k_78 : kdL[78]? = some (1, 6) := by decide +kernel
theorem k_79 : kdL[79]? = some (1, 6) := by decide +kernel
theorem k_80 : kdL[80]? = some (1, 6) := by decide +kernel
theorem k_81 : kdL[81]? = some (1, 6) := by decide +kernel
theorem k_82 : kdL[82]? = some (1, 12) := by decide +kernel
theorem k_83 : kdL[83]? = some (1, 12) := by decide +kernel
theorem k_84 : kdL[84]? = some (1, 12) := by decide +kernel
theorem k_85 : kdL[85]? = some (1, 12) := by decide +kernel
theorem k_86 : kdL[86]? = some (1, 12) := by decide +kernel
theorem k_87 : kdL[87]? = some (1, 12) := by decide +kernel
theorem k_88 : kdL[88]? = some (1, 20) := by decide +kernel
theorem k_89 : kdL[89]? = some (0, 1) := by decide +kernel
theorem k_90 : kdL[90]? = some (1, 60) := by decide +kernel
theorem k_91 : kdL[91]? = some (0, 2) := by decide +kernel
theorem k_92 : kdL[92]? = some (1, 6) := by decide +kernel
theorem k_93 : kdL[93]? = some (1, 6) := by decide +kernel
theorem k_94 : kdL[94]? = some (1, 6) := by decide +kernel
theorem k_95 : kdL[95]? = some (1, 6) := by decide +kernel
theorem k_96 : kdL[96]? = some (1, 6) := by decide +kernel
theorem k_97 : kdL[97]? = some (1, 12) := by decide +kernel
theorem k_98 : kdL[98]? = some (1, 12) := by decide +kernel
theorem k_99 : kdL[99]? = some (1, 12) := by decide +kernel
theorem k_100 : kdL[100]? = some (1, 12) := by decide +kernel
theorem k_101 : kdL[101]? = some (1, 12) := by decide +kernel
theorem k_102 : kdL[102]? = some (1, 12) := by decide +kernel
theorem k_103 : kdL[103]? = some (1, 20) := by decide +kernel
theorem k_104 : kdL[104]? = some (0, 1) := by decide +kernel
theorem k_105 : kdL[105]? = some (1, 60) := by decide +kernel
theorem k_106 : kdL[106]? = some (0, 2) := by decide +kernel
theorem k_107 : kdL[107]? = some (1, 6) := by decide +kernel
theorem k_108 : kdL[108]? = some (1, 6) := by decide +kernel
theorem k_109 : kdL[109]? = some (1, 6) := by decide +kernel
theorem k_110 : kdL[110]? = some (1, 6) := by decide +kernel
theorem k_111 : kdL[111]? = some (1, 6) := by decide +kernel
theorem k_112 : kdL[112]? = some (1, 12) := by decide +kernel
theorem k_113 : kdL[113]? = some (1, 12) := by decide +kernel
theorem k_114 : kdL[114]? = some (1, 12) := by decide +kernel
theorem k_115 : kdL[115]? = some (1, 12) := by decide +kernel
theorem k_116 : kdL[116]? = some (1, 12) := by decide +kernel
theorem k_117 : kdL[117]? = some (1, 12) := by decide +kernel
theorem k_118 : kdL[118]? = some (1, 20) := by decide +kernel
theorem k_119 : kdL[119]? = some (0, 1) := by decide +kernel
theorem k_120 : kdL[120]? = some (1, 60) := by decide +kernel
theorem k_121 : kdL[121]? = some (0, 2) := by decide +kernel
theorem k_122 : kdL[122]? = some (1, 6) := by decide +kernel
theorem k_123 : kdL[123]? = some (1, 6) := by decide +kernel
theorem k_124 : kdL[124]? = some (1, 6) := by decide +kernel
theorem k_125 : kdL[125]? = some (1, 6) := by decide +kernel
theorem k_126 : kdL[126]? = some (1, 6) := by decide +kernel
theorem k_127 : kdL[127]? = some (1, 12) := by decide +kernel
theorem k_128 : kdL[128]? = some (1, 12) := by decide +kernel
theorem k_129 : kdL[129]? = some (1, 12) := by decide +kernel
theorem k_130 : kdL[130]? = some (1, 12) := by decide +kernel
theorem k_131 : kdL[131]? = some (1, 12) := by decide +kernel
theorem k_132 : kdL[132]? = some (1, 12) := by decide +kernel
theorem k_133 : kdL[133]? = some (1, 20) := by decide +kernel
theorem k_134 : kdL[134]? = some (0, 1) := by decide +kernel
theorem k_135 : kdL[135]? = some (1, 60) := by decide +kernel
theorem k_136 : kdL[136]? = some (0, 2) := by decide +kernel
theorem k_137 : kdL[137]? = some (1, 6) := by decide +kernel
theorem k_138 : kdL[138]? = some (1, 6) := by decide +kernel
theorem k_139 : kdL[139]? = some (1, 6) := by decide +kernel
theorem k_140 : kdL[140]? = some (1, 6) := by decide +kernel
theorem k_141 : kdL[141]? = some (1, 6) := by decide +kernel
theorem k_142 : kdL[142]? = some (1, 12) := by decide +kernel
theorem k_143 : kdL[143]? = some (1, 12) := by decide +kernel
theorem k_144 : kdL[144]? = some (1, 12) := by decide +kernel
theorem k_145 : kdL[145]? = some (1, 12) := by decide +kernel
theorem k_146 : kdL[146]? = some (1, 12) := by decide +kernel
theorem k_147 : kdL[147]? = some (1, 12) := by decide +kernel
theorem k_148 : kdL[148]? = some (1, 20) := by decide +kernel
theorem k_149 : kdL[149]? = some (0, 1) := by decide +kernel
theorem k_150 : kdL[150]? = some (1, 60) := by decide +kernel
theorem k_151 : kdL[151]? = some (0, 2) := by decide +kernel
theorem k_152 : kdL[152]? = some (1, 6) := by decide +kernel
theorem k_153 : kdL[153]? = some (1, 6) := by decide +kernel
theorem k_154 : kdL[154]? = some (1, 6) := by decide +kernel
theorem k_155 : kdL[155]? = some (1, 6) := by decide +kernel
theorem k_156 : kdL[156]? = some (1, 6) := by decide +kernel
theorem k_157 : kdL[157]? = some (1, 12) := by decide +kernel
theorem k_158 : kdL[158]? = some (1, 12) := by decide +kernel
theorem k_159 : kdL[159]? = some (1, 12) := by decide +kernel
theorem k_160 : kdL[160]? = some (1, 12) := by decide +kernel
theorem k_161 : kdL[161]? = some (1, 12) := by decide +kernel
theorem k_162 : kdL[162]? = some (1, 12) := by decide +kernel
theorem k_163 : kdL[163]? = some (1, 20) := by decide +kernel
theorem k_164 : kdL[164]? = some (0, 1) := by decide +kernel
theorem k_165 : kdL[165]? = some (1, 60) := by decide +kernel
theorem k_166 : kdL[166]? = some (0, 2) := by decide +kernel
theorem k_167 : kdL[167]? = some (1, 6) := by decide +kernel
theorem k_168 : kdL[168]? = some (1, 6) := by decide +kernel
theorem k_169 : kdL[169]? = some (1, 6) := by decide +kernel
theorem k_170 : kdL[170]? = some (1, 6) := by decide +kernel
theorem k_171 : kdL[171]? = some (1, 6) := by decide +kernel
theorem k_172 : kdL[172]? = some (1, 12) := by decide +kernel
theorem k_173 : kdL[173]? = some (1, 12) := by decide +kernel
theorem k_174 : kdL[174]? = some (1, 12) := by decide +kernel
theorem k_175 : kdL[175]? = some (1, 12) := by decide +kernel
theorem k_176 : kdL[176]? = some (1, 12) := by decide +kernel
theorem k_177 : kdL[177]? = some (1, 12) := by decide +kernel
theorem k_178 : kdL[178]? = some (1, 20) := by decide +kernel
theorem k_179 : kdL[179]? = some (0, 1) := by decide +kernel
theorem k_180 : kdL[180]? = some (1, 60) := by decide +kernel
theorem k_181 : kdL[181]? = some (0, 2) := by decide +kernel
theorem k_182 : kdL[182]? = some (1, 6) := by decide +kernel
theorem k_183 : kdL[183]? = some (1, 6) := by decide +kernel
theorem k_184 : kdL[184]? = some (1, 6) := by decide +kernel
theorem k_185 : kdL[185]? = some (1, 6) := by decide +kernel
theorem k_186 : kdL[186]? = some (1, 6) := by decide +kernel
theorem k_187 : kdL[187]? = some (1, 12) := by decide +kernel
theorem k_188 : kdL[188]? = some (1, 12) := by decide +kernel
theorem k_189 : kdL[189]? = some (1, 12) := by decide +kernel
theorem k_190 : kdL[190]? = some (1, 12) := by decide +kernel
theorem k_191 : kdL[191]? = some (1, 12) := by decide +kernel
theorem k_192 : kdL[192]? = some (1, 12) := by decide +kernel
theorem k_193 : kdL[193]? = some (1, 20) := by decide +kernel
theorem k_194 : kdL[194]? = some (0, 1) := by decide +kernel
theorem k_195 : kdL[195]? = some (1, 60) := by decide +kernel
theorem k_196 : kdL[196]? = some (0, 2) := by decide +kernel
theorem k_197 : kdL[197]? = some (1, 6) := by decide +kernel
theorem k_198 : kdL[198]? = some (1, 6) := by decide +kernel
theorem k_199 : kdL[199]? = some (1, 6) := by decide +kernel
theorem k_200 : kdL[200]? = some (1, 6) := by decide +kernel
theorem k_201 : kdL[201]? = some (1, 6) := by decide +kernel
theorem k_202 : kdL[202]? = some (1, 12) := by decide +kernel
theorem k_203 : kdL[203]? = some (1, 12) := by decide +kernel
theorem k_204 : kdL[204]? = some (1, 12) := by decide +kernel
theorem k_205 : kdL[205]? = some (1, 12) := by decide +kernel
theorem k_206 : kdL[206]? = some (1, 12) := by decide +kernel
theorem k_207 : kdL[207]? = some (1, 12) := by decide +kernel
theorem k_208 : kdL[208]? = some (1, 20) := by decide +kernel
theorem k_209 : kdL[209]? = some (0, 1) := by decide +kernel
theorem k_210 : kdL[210]? = some (1, 60) := by decide +kernel
theorem k_211 : kdL[211]? = some (0, 2) := by decide +kernel
theorem k_212 : kdL[212]? = some (1, 6) := by decide +kernel
theorem k_213 : kdL[213]? = some (1, 6) := by decide +kernel
theorem k_214 : kdL[214]? = some (1, 6) := by decide +kernel
theorem k_215 : kdL[215]? = some (1, 6) := by decide +kernel
theorem k_216 : kdL[216]? = some (1, 6) := by decide +kernel
theorem k_217 : kdL[217]? = some (1, 12) := by decide +kernel
theorem k_218 : kdL[218]? = some (1, 12) := by decide +kernel
theorem k_219 : kdL[219]? = some (1, 12) := by decide +kernel
theorem k_220 : kdL[220]? = some (1, 12) := by decide +kernel
theorem k_221 : kdL[221]? = some (1, 12) := by decide +kernel
theorem k_222 : kdL[222]? = some (1, 12) := by decide +kernel
theorem k_223 : kdL[223]? = some (1, 20) := by decide +kernel
theorem k_224 : kdL[224]? = some (0, 1) := by decide +kernel
theorem k_225 : kdL[225]? = some (1, 60) := by decide +kernel
theorem k_226 : kdL[226]? = some (0, 2) := by decide +kernel
theorem k_227 : kdL[227]? = some (1, 6) := by decide +kernel
theorem k_228 : kdL[228]? = some (1, 6) := by decide +kernel
theorem k_229 : kdL[229]? = some (1, 6) := by decide +kernel
theorem k_230 : kdL[230]? = some (1, 6) := by decide +kernel
theorem k_231 : kdL[231]? = some (1, 6) := by decide +kernel
theorem k_232 : kdL[232]? = some (1, 12) := by decide +kernel
theorem k_233 : kdL[233]? = some (1, 12) := by decide +kernel
theorem k_234 : kdL[234]? = some (1, 12) := by decide +kernel
theorem k_235 : kdL[235]? = some (1, 12) := by decide +kernel
theorem k_236 : kdL[236]? = some (1, 12) := by decide +kernel
theorem k_237 : kdL[237]? = some (1, 12) := by decide +kernel
theorem k_238 : kdL[238]? = some (1, 20) := by decide +kernel
theorem k_239 : kdL[239]? = some (0, 1) := by decide +kernel
theorem k_240 : kdL[240]? = some (1, 60) := by decide +kernel
theorem k_241 : kdL[241]? = some (0, 2) := by decide +kernel
theorem k_242 : kdL[242]? = some (1, 6) := by decide +kernel
theorem k_243 : kdL[243]? = some (1, 6) := by decide +kernel
theorem k_244 : kdL[244]? = some (1, 6) := by decide +kernel
theorem k_245 : kdL[245]? = some (1, 6) := by decide +kernel
theorem k_246 : kdL[246]? = some (1, 6) := by decide +kernel
theorem k_247 : kdL[247]? = some (1, 12) := by decide +kernel
theorem k_248 : kdL[248]? = some (1, 12) := by decide +kernel
theorem k_249 : kdL[249]? = some (1, 12) := by decide +kernel
theorem k_250 : kdL[250]? = some (1, 12) := by decide +kernel
theorem k_251 : kdL[251]? = some (1, 12) := by decide +kernel
theorem k_252 : kdL[252]? = some (1, 12) := by decide +kernel
theorem k_253 : kdL[253]? = some (1, 20) := by decide +kernel
theorem k_254 : kdL[254]? = some (0, 1) := by decide +kernel
theorem k_255 : kdL[255]? = some (1, 60) := by decide +kernel
theorem k_256 : kdL[256]? = some (0, 7) := by decide +kernel
theorem k_257 : kdL[257]? = some (1, 12) := by decide +kernel
theorem k_258 : kdL[258]? = some (1, 6) := by decide +kernel
theorem k_259 : kdL[259]? = some (0, 9) := by decide +kernel
theorem k_260 : kdL[260]? = some (1, 36) := by decide +kernel
theorem k_261 : kdL[261]? = some (1, 64) := by decide +kernel
theorem k_262 : kdL[262]? = some (0, 10) := by decide +kernel
theorem k_263 : kdL[263]? = some (1, 6) := by decide +kernel
theorem k_264 : kdL[264]? = some (0, 12) := by decide +kernel
theorem k_265 : kdL[265]? = some (1, 2068) := by decide +kernel
theorem k_266 : kdL[266]? = some (1, 1219) := by decide +kernel
theorem k_267 : kdL[267]? = some (1, 1219) := by decide +kernel
theorem k_268 : kdL[268]? = some (1, 370) := by decide +kernel
theorem k_269 : kdL[269]? = some (1, 4440) := by decide +kernel
theorem k_270 : kdL[270]? = some (2, 400) := by decide +kernel
theorem k_271 : kdL[271]? = some (1, 5) := by decide +kernel
theorem k_272 : kdL[272]? = some (1, 400) := by decide +kernel
theorem k_273 : kdL[273]? = some (1, 36) := by decide +kernel
theorem k_274 : kdL[274]? = some (1, 448) := by decide +kernel
theorem k_275 : kdL[275]? = some (3, 1) := by decide +kernel
def landL : List Nat := [3, 18, 33, 76, 91, 106, 121, 136, 151, 166, 181, 196, 211, 226, 241]
def lawL : List Nat := [48, 56, 64]
def bookL : List Nat := [16, 31, 46, 89, 104, 119, 134, 149, 164, 179, 194, 209, 224, 239, 254]
def readerL : List Nat := [72, 73]
theorem L_3 : 3 ∈ landL := by decide +kernel
theorem B_16 : 16 ∈ bookL := by decide +kernel
theorem L_18 : 18 ∈ landL := by decide +kernel
theorem B_31 : 31 ∈ bookL := by decide +kernel
theorem L_33 : 33 ∈ landL := by decide +kernel
theorem B_46 : 46 ∈ bookL := by decide +kernel
theorem L_76 : 76 ∈ landL := by decide +kernel
theorem B_89 : 89 ∈ bookL := by decide +kernel
theorem L_91 : 91 ∈ landL := by decide +kernel
theorem B_104 : 104 ∈ bookL := by decide +kernel
theorem L_106 : 106 ∈ landL := by decide +kernel
theorem B_119 : 119 ∈ bookL := by decide +kernel
theorem L_121 : 121 ∈ landL := by decide +kernel
theorem B_134 : 134 ∈ bookL := by decide +kernel
theorem L_136 : 136 ∈ landL := by decide +kernel
theorem B_149 : 149 ∈ bookL := by decide +kernel
theorem L_151 : 151 ∈ landL := by decide +kernel
theorem B_164 : 164 ∈ bookL := by decide +kernel
theorem L_166 : 166 ∈ landL := by decide +kernel
theorem B_179 : 179 ∈ bookL := by decide +kernel
theorem L_181 : 181 ∈ landL := by decide +kernel
theorem B_194 : 194 ∈ bookL := by decide +kernel
theorem L_196 : 196 ∈ landL := by decide +kernel
theorem B_209 : 209 ∈ bookL := by decide +kernel
theorem L_211 : 211 ∈ landL := by decide +kernel
theorem B_224 : 224 ∈ bookL := by decide +kernel
theorem L_226 : 226 ∈ landL := by decide +kernel
theorem B_239 : 239 ∈ bookL := by decide +kernel
theorem L_241 : 241 ∈ landL := by decide +kernel
theorem B_254 : 254 ∈ bookL := by decide +kernel
theorem W_48 : 48 ∈ lawL := by decide +kernel
theorem W_56 : 56 ∈ lawL := by decide +kernel
theorem W_64 : 64 ∈ lawL := by decide +kernel
theorem kLand_0 : ∀ a ∈ landL, kdL[a + 0]? = some (0, 2) := by decide +kernel
theorem kLand_1 : ∀ a ∈ landL, kdL[a + 1]? = some (1, 6) := by decide +kernel
theorem kLand_2 : ∀ a ∈ landL, kdL[a + 2]? = some (1, 6) := by decide +kernel
theorem kLand_3 : ∀ a ∈ landL, kdL[a + 3]? = some (1, 6) := by decide +kernel
theorem kLand_4 : ∀ a ∈ landL, kdL[a + 4]? = some (1, 6) := by decide +kernel
theorem kLand_5 : ∀ a ∈ landL, kdL[a + 5]? = some (1, 6) := by decide +kernel
theorem kLand_6 : ∀ a ∈ landL, kdL[a + 6]? = some (1, 12) := by decide +kernel
theorem kLand_7 : ∀ a ∈ landL, kdL[a + 7]? = some (1, 12) := by decide +kernel
theorem kLand_8 : ∀ a ∈ landL, kdL[a + 8]? = some (1, 12) := by decide +kernel
theorem kLand_9 : ∀ a ∈ landL, kdL[a + 9]? = some (1, 12) := by decide +kernel
theorem kLand_10 : ∀ a ∈ landL, kdL[a + 10]? = some (1, 12) := by decide +kernel
theorem kLand_11 : ∀ a ∈ landL, kdL[a + 11]? = some (1, 12) := by decide +kernel
theorem kLand_12 : ∀ a ∈ landL, kdL[a + 12]? = some (1, 20) := by decide +kernel
theorem kLand_13 : ∀ a ∈ landL, kdL[a + 13]? = some (0, 1) := by decide +kernel
theorem kLand_14 : ∀ a ∈ landL, kdL[a + 14]? = some (1, 60) := by decide +kernel
theorem kLand : ∀ a ∈ landL, kdL[a]? = some (0, 2) := by decide +kernel
theorem kLaw_0 : ∀ a ∈ lawL, kdL[a + 0]? = some (0, 4) := by decide +kernel
theorem kLaw_1 : ∀ a ∈ lawL, kdL[a + 1]? = some (1, 12) := by decide +kernel
theorem kLaw_2 : ∀ a ∈ lawL, kdL[a + 2]? = some (1, 12) := by decide +kernel
theorem kLaw_3 : ∀ a ∈ lawL, kdL[a + 3]? = some (1, 12) := by decide +kernel
theorem kLaw_4 : ∀ a ∈ lawL, kdL[a + 4]? = some (1, 12) := by decide +kernel
theorem kLaw_5 : ∀ a ∈ lawL, kdL[a + 5]? = some (1, 400) := by decide +kernel
theorem kLaw_6 : ∀ a ∈ lawL, kdL[a + 6]? = some (1, 9) := by decide +kernel
theorem kLaw_7 : ∀ a ∈ lawL, kdL[a + 7]? = some (1, 24) := by decide +kernel
theorem kLaw : ∀ a ∈ lawL, kdL[a]? = some (0, 4) := by decide +kernel
theorem kBook : ∀ a ∈ bookL, kdL[a]? = some (0, 1) := by decide +kernel
theorem kBook_1 : ∀ a ∈ bookL, kdL[a + 1]? = some (1, 60) := by decide +kernel
theorem landBook : ∀ a ∈ landL, a + 13 ∈ bookL := by decide +kernel
theorem actsL : ∀ j, j < 12 → 76 + 15 * j ∈ landL := by decide +kernel
def flds (G : Gl) (ci a : Nat) (f : Nat → Int32) : List Value := match ci with
  | 0 => [.ref (G.2.1 + 75), .int (f 1), .int (f 2)]
  | 1 => [.ref (G.2.1 + (a + 1)), .int (f 1), .int (f 2)]
  | 2 => [.int (f 0), .int (f 1), .int (f 2), .int (f 3), .int (f 4), .int (f 5), .ref (G.2.1 + (a + 1)), .ref (G.2.1 + (a + 2)), .ref (G.2.1 + (a + 3)), .ref (G.2.1 + (a + 4)), .ref (G.2.1 + (a + 5)), .ref (G.2.1 + (a + 6)), .ref (G.2.1 + (a + 7)), .ref (G.2.1 + (a + 8)), .ref (G.2.1 + (a + 9)), .ref (G.2.1 + (a + 10)), .ref (G.2.1 + (a + 11)), .ref (G.2.1 + (a + 12)), .ref (G.2.1 + (a + 13))]
  | 3 => [.ref (G.2.1 + 1), .int (f 1), .ref (G.2.1 + 18)]
  | 4 => [.int (b2i (i2b (f 0))), .int (f 1), .int (f 2), .ref (G.2.1 + (a + 1)), .ref (G.2.1 + (a + 2)), .ref (G.2.1 + (a + 3)), .ref (G.2.1 + (a + 4)), .ref (G.2.1 + (a + 5)), .ref (G.2.1 + (a + 6)), .ref (G.2.1 + (a + 7))]
  | 5 => [.ref (G.2.1 + 1), .int (f 1), .ref (G.2.1 + 56)]
  | 7 => [.ref (G.2.1 + 257), .ref (G.2.1 + 258), .int (f 2), .int (f 3)]
  | 8 => [.ref (G.2.1 + 2), .int (f 1), .int (f 2), .int (f 3), .int (f 4)]
  | 9 => [.ref (G.2.1 + 260), .ref (G.2.1 + 261), .int (f 2)]
  | 10 => [.ref (G.2.1 + 1), .ref (G.2.1 + 263), .int (f 2), .int (f 3), .int (f 4)]
  | 11 => [.ref (G.2.1 + 1), .ref (G.2.1 + 3), .ref (G.2.1 + 18), .ref (G.2.1 + 33), .ref (G.2.1 + 48), .ref (G.2.1 + 56), .ref (G.2.1 + 64), .ref (G.2.1 + 72), .ref (G.2.1 + 73), .ref (G.2.1 + 74), .ref (G.2.1 + 256), .ref (G.2.1 + 259), .ref (G.2.1 + 262), .int (b2i (i2b (f 13)))]
  | 12 => [.int (f 0), .ref (G.2.1 + 265), .ref (G.2.1 + 266), .ref (G.2.1 + 267), .ref (G.2.1 + 268), .ref (G.2.1 + 269), .int (b2i (i2b (f 6))), .int (f 7), .ref (G.2.1 + 270), .int (f 9), .int (f 10), .int (f 11), .int (f 12), .int (f 13), .int (f 14), .ref (G.2.1 + 271), .int (f 16), .ref (G.2.1 + 272), .ref (G.2.1 + 273), .ref (G.2.1 + 274)]
  | _ => []
theorem g_0_0 {G : Gl} {a : Nat} {f : Nat → Int32} : (flds G 0 a f)[0]? = some (.ref (G.2.1 + 75)) := rfl
theorem g_0_1 {G : Gl} {a : Nat} {f : Nat → Int32} : (flds G 0 a f)[1]? = some (.int (f 1)) := rfl
theorem p_0_1 {G : Gl} {a : Nat} {f : Nat → Int32} {v : Int32} : (flds G 0 a f).set 1 (.int v) = flds G 0 a (upd f 1 v) := rfl
theorem g_0_2 {G : Gl} {a : Nat} {f : Nat → Int32} : (flds G 0 a f)[2]? = some (.int (f 2)) := rfl
theorem p_0_2 {G : Gl} {a : Nat} {f : Nat → Int32} {v : Int32} : (flds G 0 a f).set 2 (.int v) = flds G 0 a (upd f 2 v) := rfl
theorem g_1_0 {G : Gl} {a : Nat} {f : Nat → Int32} : (flds G 1 a f)[0]? = some (.ref (G.2.1 + (a + 1))) := rfl
theorem g_1_1 {G : Gl} {a : Nat} {f : Nat → Int32} : (flds G 1 a f)[1]? = some (.int (f 1)) := rfl
theorem p_1_1 {G : Gl} {a : Nat} {f : Nat → Int32} {v : Int32} : (flds G 1 a f).set 1 (.int v) = flds G 1 a (upd f 1 v) := rfl
theorem g_1_2 {G : Gl} {a : Nat} {f : Nat → Int32} : (flds G 1 a f)[2]? = some (.int (f 2)) := rfl
theorem p_1_2 {G : Gl} {a : Nat} {f : Nat → Int32} {v : Int32} : (flds G 1 a f).set 2 (.int v) = flds G 1 a (upd f 2 v) := rfl
theorem g_2_0 {G : Gl} {a : Nat} {f : Nat → Int32} : (flds G 2 a f)[0]? = some (.int (f 0)) := rfl
theorem p_2_0 {G : Gl} {a : Nat} {f : Nat → Int32} {v : Int32} : (flds G 2 a f).set 0 (.int v) = flds G 2 a (upd f 0 v) := rfl
theorem g_2_1 {G : Gl} {a : Nat} {f : Nat → Int32} : (flds G 2 a f)[1]? = some (.int (f 1)) := rfl
theorem p_2_1 {G : Gl} {a : Nat} {f : Nat → Int32} {v : Int32} : (flds G 2 a f).set 1 (.int v) = flds G 2 a (upd f 1 v) := rfl
theorem g_2_2 {G : Gl} {a : Nat} {f : Nat → Int32} : (flds G 2 a f)[2]? = some (.int (f 2)) := rfl
theorem p_2_2 {G : Gl} {a : Nat} {f : Nat → Int32} {v : Int32} : (flds G 2 a f).set 2 (.int v) = flds G 2 a (upd f 2 v) := rfl
theorem g_2_3 {G : Gl} {a : Nat} {f : Nat → Int32} : (flds G 2 a f)[3]? = some (.int (f 3)) := rfl
theorem p_2_3 {G : Gl} {a : Nat} {f : Nat → Int32} {v : Int32} : (flds G 2 a f).set 3 (.int v) = flds G 2 a (upd f 3 v) := rfl
theorem g_2_4 {G : Gl} {a : Nat} {f : Nat → Int32} : (flds G 2 a f)[4]? = some (.int (f 4)) := rfl
theorem p_2_4 {G : Gl} {a : Nat} {f : Nat → Int32} {v : Int32} : (flds G 2 a f).set 4 (.int v) = flds G 2 a (upd f 4 v) := rfl
theorem g_2_5 {G : Gl} {a : Nat} {f : Nat → Int32} : (flds G 2 a f)[5]? = some (.int (f 5)) := rfl
theorem p_2_5 {G : Gl} {a : Nat} {f : Nat → Int32} {v : Int32} : (flds G 2 a f).set 5 (.int v) = flds G 2 a (upd f 5 v) := rfl
theorem g_2_6 {G : Gl} {a : Nat} {f : Nat → Int32} : (flds G 2 a f)[6]? = some (.ref (G.2.1 + (a + 1))) := rfl
theorem g_2_7 {G : Gl} {a : Nat} {f : Nat → Int32} : (flds G 2 a f)[7]? = some (.ref (G.2.1 + (a + 2))) := rfl
theorem g_2_8 {G : Gl} {a : Nat} {f : Nat → Int32} : (flds G 2 a f)[8]? = some (.ref (G.2.1 + (a + 3))) := rfl
theorem g_2_9 {G : Gl} {a : Nat} {f : Nat → Int32} : (flds G 2 a f)[9]? = some (.ref (G.2.1 + (a + 4))) := rfl
theorem g_2_10 {G : Gl} {a : Nat} {f : Nat → Int32} : (flds G 2 a f)[10]? = some (.ref (G.2.1 + (a + 5))) := rfl
theorem g_2_11 {G : Gl} {a : Nat} {f : Nat → Int32} : (flds G 2 a f)[11]? = some (.ref (G.2.1 + (a + 6))) := rfl
theorem g_2_12 {G : Gl} {a : Nat} {f : Nat → Int32} : (flds G 2 a f)[12]? = some (.ref (G.2.1 + (a + 7))) := rfl
theorem g_2_13 {G : Gl} {a : Nat} {f : Nat → Int32} : (flds G 2 a f)[13]? = some (.ref (G.2.1 + (a + 8))) := rfl
theorem g_2_14 {G : Gl} {a : Nat} {f : Nat → Int32} : (flds G 2 a f)[14]? = some (.ref (G.2.1 + (a + 9))) := rfl
theorem g_2_15 {G : Gl} {a : Nat} {f : Nat → Int32} : (flds G 2 a f)[15]? = some (.ref (G.2.1 + (a + 10))) := rfl
theorem g_2_16 {G : Gl} {a : Nat} {f : Nat → Int32} : (flds G 2 a f)[16]? = some (.ref (G.2.1 + (a + 11))) := rfl
theorem g_2_17 {G : Gl} {a : Nat} {f : Nat → Int32} : (flds G 2 a f)[17]? = some (.ref (G.2.1 + (a + 12))) := rfl
theorem g_2_18 {G : Gl} {a : Nat} {f : Nat → Int32} : (flds G 2 a f)[18]? = some (.ref (G.2.1 + (a + 13))) := rfl
theorem g_3_0 {G : Gl} {a : Nat} {f : Nat → Int32} : (flds G 3 a f)[0]? = some (.ref (G.2.1 + 1)) := rfl
theorem g_3_1 {G : Gl} {a : Nat} {f : Nat → Int32} : (flds G 3 a f)[1]? = some (.int (f 1)) := rfl
theorem p_3_1 {G : Gl} {a : Nat} {f : Nat → Int32} {v : Int32} : (flds G 3 a f).set 1 (.int v) = flds G 3 a (upd f 1 v) := rfl
theorem g_3_2 {G : Gl} {a : Nat} {f : Nat → Int32} : (flds G 3 a f)[2]? = some (.ref (G.2.1 + 18)) := rfl
theorem g_4_0 {G : Gl} {a : Nat} {f : Nat → Int32} : (flds G 4 a f)[0]? = some (.int (b2i (i2b (f 0)))) := rfl
theorem p_4_0 {G : Gl} {a : Nat} {f : Nat → Int32} {v : Bool} : (flds G 4 a f).set 0 (.int (b2i v)) = flds G 4 a (upd f 0 (b2i v)) := by cases v <;> rfl
theorem g_4_1 {G : Gl} {a : Nat} {f : Nat → Int32} : (flds G 4 a f)[1]? = some (.int (f 1)) := rfl
theorem p_4_1 {G : Gl} {a : Nat} {f : Nat → Int32} {v : Int32} : (flds G 4 a f).set 1 (.int v) = flds G 4 a (upd f 1 v) := rfl
theorem g_4_2 {G : Gl} {a : Nat} {f : Nat → Int32} : (flds G 4 a f)[2]? = some (.int (f 2)) := rfl
theorem p_4_2 {G : Gl} {a : Nat} {f : Nat → Int32} {v : Int32} : (flds G 4 a f).set 2 (.int v) = flds G 4 a (upd f 2 v) := rfl
theorem g_4_3 {G : Gl} {a : Nat} {f : Nat → Int32} : (flds G 4 a f)[3]? = some (.ref (G.2.1 + (a + 1))) := rfl
theorem g_4_4 {G : Gl} {a : Nat} {f : Nat → Int32} : (flds G 4 a f)[4]? = some (.ref (G.2.1 + (a + 2))) := rfl
theorem g_4_5 {G : Gl} {a : Nat} {f : Nat → Int32} : (flds G 4 a f)[5]? = some (.ref (G.2.1 + (a + 3))) := rfl
theorem g_4_6 {G : Gl} {a : Nat} {f : Nat → Int32} : (flds G 4 a f)[6]? = some (.ref (G.2.1 + (a + 4))) := rfl
theorem g_4_7 {G : Gl} {a : Nat} {f : Nat → Int32} : (flds G 4 a f)[7]? = some (.ref (G.2.1 + (a + 5))) := rfl
theorem g_4_8 {G : Gl} {a : Nat} {f : Nat → Int32} : (flds G 4 a f)[8]? = some (.ref (G.2.1 + (a + 6))) := rfl
theorem g_4_9 {G : Gl} {a : Nat} {f : Nat → Int32} : (flds G 4 a f)[9]? = some (.ref (G.2.1 + (a + 7))) := rfl
theorem g_5_0 {G : Gl} {a : Nat} {f : Nat → Int32} : (flds G 5 a f)[0]? = some (.ref (G.2.1 + 1)) := rfl
theorem g_5_1 {G : Gl} {a : Nat} {f : Nat → Int32} : (flds G 5 a f)[1]? = some (.int (f 1)) := rfl
theorem p_5_1 {G : Gl} {a : Nat} {f : Nat → Int32} {v : Int32} : (flds G 5 a f).set 1 (.int v) = flds G 5 a (upd f 1 v) := rfl
theorem g_5_2 {G : Gl} {a : Nat} {f : Nat → Int32} : (flds G 5 a f)[2]? = some (.ref (G.2.1 + 56)) := rfl
theorem g_7_0 {G : Gl} {a : Nat} {f : Nat → Int32} : (flds G 7 a f)[0]? = some (.ref (G.2.1 + 257)) := rfl
theorem g_7_1 {G : Gl} {a : Nat} {f : Nat → Int32} : (flds G 7 a f)[1]? = some (.ref (G.2.1 + 258)) := rfl
theorem g_7_2 {G : Gl} {a : Nat} {f : Nat → Int32} : (flds G 7 a f)[2]? = some (.int (f 2)) := rfl
theorem p_7_2 {G : Gl} {a : Nat} {f : Nat → Int32} {v : Int32} : (flds G 7 a f).set 2 (.int v) = flds G 7 a (upd f 2 v) := rfl
theorem g_7_3 {G : Gl} {a : Nat} {f : Nat → Int32} : (flds G 7 a f)[3]? = some (.int (f 3)) := rfl
theorem p_7_3 {G : Gl} {a : Nat} {f : Nat → Int32} {v : Int32} : (flds G 7 a f).set 3 (.int v) = flds G 7 a (upd f 3 v) := rfl
theorem g_8_0 {G : Gl} {a : Nat} {f : Nat → Int32} : (flds G 8 a f)[0]? = some (.ref (G.2.1 + 2)) := rfl
theorem g_8_1 {G : Gl} {a : Nat} {f : Nat → Int32} : (flds G 8 a f)[1]? = some (.int (f 1)) := rfl
theorem p_8_1 {G : Gl} {a : Nat} {f : Nat → Int32} {v : Int32} : (flds G 8 a f).set 1 (.int v) = flds G 8 a (upd f 1 v) := rfl
theorem g_8_2 {G : Gl} {a : Nat} {f : Nat → Int32} : (flds G 8 a f)[2]? = some (.int (f 2)) := rfl
theorem p_8_2 {G : Gl} {a : Nat} {f : Nat → Int32} {v : Int32} : (flds G 8 a f).set 2 (.int v) = flds G 8 a (upd f 2 v) := rfl
theorem g_8_3 {G : Gl} {a : Nat} {f : Nat → Int32} : (flds G 8 a f)[3]? = some (.int (f 3)) := rfl
theorem p_8_3 {G : Gl} {a : Nat} {f : Nat → Int32} {v : Int32} : (flds G 8 a f).set 3 (.int v) = flds G 8 a (upd f 3 v) := rfl
theorem g_8_4 {G : Gl} {a : Nat} {f : Nat → Int32} : (flds G 8 a f)[4]? = some (.int (f 4)) := rfl
theorem p_8_4 {G : Gl} {a : Nat} {f : Nat → Int32} {v : Int32} : (flds G 8 a f).set 4 (.int v) = flds G 8 a (upd f 4 v) := rfl
theorem g_9_0 {G : Gl} {a : Nat} {f : Nat → Int32} : (flds G 9 a f)[0]? = some (.ref (G.2.1 + 260)) := rfl
theorem g_9_1 {G : Gl} {a : Nat} {f : Nat → Int32} : (flds G 9 a f)[1]? = some (.ref (G.2.1 + 261)) := rfl
theorem g_9_2 {G : Gl} {a : Nat} {f : Nat → Int32} : (flds G 9 a f)[2]? = some (.int (f 2)) := rfl
theorem p_9_2 {G : Gl} {a : Nat} {f : Nat → Int32} {v : Int32} : (flds G 9 a f).set 2 (.int v) = flds G 9 a (upd f 2 v) := rfl
theorem g_10_0 {G : Gl} {a : Nat} {f : Nat → Int32} : (flds G 10 a f)[0]? = some (.ref (G.2.1 + 1)) := rfl
theorem g_10_1 {G : Gl} {a : Nat} {f : Nat → Int32} : (flds G 10 a f)[1]? = some (.ref (G.2.1 + 263)) := rfl
theorem g_10_2 {G : Gl} {a : Nat} {f : Nat → Int32} : (flds G 10 a f)[2]? = some (.int (f 2)) := rfl
theorem p_10_2 {G : Gl} {a : Nat} {f : Nat → Int32} {v : Int32} : (flds G 10 a f).set 2 (.int v) = flds G 10 a (upd f 2 v) := rfl
theorem g_10_3 {G : Gl} {a : Nat} {f : Nat → Int32} : (flds G 10 a f)[3]? = some (.int (f 3)) := rfl
theorem p_10_3 {G : Gl} {a : Nat} {f : Nat → Int32} {v : Int32} : (flds G 10 a f).set 3 (.int v) = flds G 10 a (upd f 3 v) := rfl
theorem g_10_4 {G : Gl} {a : Nat} {f : Nat → Int32} : (flds G 10 a f)[4]? = some (.int (f 4)) := rfl
theorem p_10_4 {G : Gl} {a : Nat} {f : Nat → Int32} {v : Int32} : (flds G 10 a f).set 4 (.int v) = flds G 10 a (upd f 4 v) := rfl
theorem g_11_0 {G : Gl} {a : Nat} {f : Nat → Int32} : (flds G 11 a f)[0]? = some (.ref (G.2.1 + 1)) := rfl
theorem g_11_1 {G : Gl} {a : Nat} {f : Nat → Int32} : (flds G 11 a f)[1]? = some (.ref (G.2.1 + 3)) := rfl
theorem g_11_2 {G : Gl} {a : Nat} {f : Nat → Int32} : (flds G 11 a f)[2]? = some (.ref (G.2.1 + 18)) := rfl
theorem g_11_3 {G : Gl} {a : Nat} {f : Nat → Int32} : (flds G 11 a f)[3]? = some (.ref (G.2.1 + 33)) := rfl
theorem g_11_4 {G : Gl} {a : Nat} {f : Nat → Int32} : (flds G 11 a f)[4]? = some (.ref (G.2.1 + 48)) := rfl
theorem g_11_5 {G : Gl} {a : Nat} {f : Nat → Int32} : (flds G 11 a f)[5]? = some (.ref (G.2.1 + 56)) := rfl
theorem g_11_6 {G : Gl} {a : Nat} {f : Nat → Int32} : (flds G 11 a f)[6]? = some (.ref (G.2.1 + 64)) := rfl
theorem g_11_7 {G : Gl} {a : Nat} {f : Nat → Int32} : (flds G 11 a f)[7]? = some (.ref (G.2.1 + 72)) := rfl
theorem g_11_8 {G : Gl} {a : Nat} {f : Nat → Int32} : (flds G 11 a f)[8]? = some (.ref (G.2.1 + 73)) := rfl
theorem g_11_9 {G : Gl} {a : Nat} {f : Nat → Int32} : (flds G 11 a f)[9]? = some (.ref (G.2.1 + 74)) := rfl
theorem g_11_10 {G : Gl} {a : Nat} {f : Nat → Int32} : (flds G 11 a f)[10]? = some (.ref (G.2.1 + 256)) := rfl
theorem g_11_11 {G : Gl} {a : Nat} {f : Nat → Int32} : (flds G 11 a f)[11]? = some (.ref (G.2.1 + 259)) := rfl
theorem g_11_12 {G : Gl} {a : Nat} {f : Nat → Int32} : (flds G 11 a f)[12]? = some (.ref (G.2.1 + 262)) := rfl
theorem g_11_13 {G : Gl} {a : Nat} {f : Nat → Int32} : (flds G 11 a f)[13]? = some (.int (b2i (i2b (f 13)))) := rfl
theorem p_11_13 {G : Gl} {a : Nat} {f : Nat → Int32} {v : Bool} : (flds G 11 a f).set 13 (.int (b2i v)) = flds G 11 a (upd f 13 (b2i v)) := by cases v <;> rfl
theorem g_12_0 {G : Gl} {a : Nat} {f : Nat → Int32} : (flds G 12 a f)[0]? = some (.int (f 0)) := rfl
theorem p_12_0 {G : Gl} {a : Nat} {f : Nat → Int32} {v : Int32} : (flds G 12 a f).set 0 (.int v) = flds G 12 a (upd f 0 v) := rfl
theorem g_12_1 {G : Gl} {a : Nat} {f : Nat → Int32} : (flds G 12 a f)[1]? = some (.ref (G.2.1 + 265)) := rfl
theorem g_12_2 {G : Gl} {a : Nat} {f : Nat → Int32} : (flds G 12 a f)[2]? = some (.ref (G.2.1 + 266)) := rfl
theorem g_12_3 {G : Gl} {a : Nat} {f : Nat → Int32} : (flds G 12 a f)[3]? = some (.ref (G.2.1 + 267)) := rfl
theorem g_12_4 {G : Gl} {a : Nat} {f : Nat → Int32} : (flds G 12 a f)[4]? = some (.ref (G.2.1 + 268)) := rfl
theorem g_12_5 {G : Gl} {a : Nat} {f : Nat → Int32} : (flds G 12 a f)[5]? = some (.ref (G.2.1 + 269)) := rfl
theorem g_12_6 {G : Gl} {a : Nat} {f : Nat → Int32} : (flds G 12 a f)[6]? = some (.int (b2i (i2b (f 6)))) := rfl
theorem p_12_6 {G : Gl} {a : Nat} {f : Nat → Int32} {v : Bool} : (flds G 12 a f).set 6 (.int (b2i v)) = flds G 12 a (upd f 6 (b2i v)) := by cases v <;> rfl
theorem g_12_7 {G : Gl} {a : Nat} {f : Nat → Int32} : (flds G 12 a f)[7]? = some (.int (f 7)) := rfl
theorem p_12_7 {G : Gl} {a : Nat} {f : Nat → Int32} {v : Int32} : (flds G 12 a f).set 7 (.int v) = flds G 12 a (upd f 7 v) := rfl
theorem g_12_8 {G : Gl} {a : Nat} {f : Nat → Int32} : (flds G 12 a f)[8]? = some (.ref (G.2.1 + 270)) := rfl
theorem g_12_9 {G : Gl} {a : Nat} {f : Nat → Int32} : (flds G 12 a f)[9]? = some (.int (f 9)) := rfl
theorem p_12_9 {G : Gl} {a : Nat} {f : Nat → Int32} {v : Int32} : (flds G 12 a f).set 9 (.int v) = flds G 12 a (upd f 9 v) := rfl
theorem g_12_10 {G : Gl} {a : Nat} {f : Nat → Int32} : (flds G 12 a f)[10]? = some (.int (f 10)) := rfl
theorem p_12_10 {G : Gl} {a : Nat} {f : Nat → Int32} {v : Int32} : (flds G 12 a f).set 10 (.int v) = flds G 12 a (upd f 10 v) := rfl
theorem g_12_11 {G : Gl} {a : Nat} {f : Nat → Int32} : (flds G 12 a f)[11]? = some (.int (f 11)) := rfl
theorem p_12_11 {G : Gl} {a : Nat} {f : Nat → Int32} {v : Int32} : (flds G 12 a f).set 11 (.int v) = flds G 12 a (upd f 11 v) := rfl
theorem g_12_12 {G : Gl} {a : Nat} {f : Nat → Int32} : (flds G 12 a f)[12]? = some (.int (f 12)) := rfl
theorem p_12_12 {G : Gl} {a : Nat} {f : Nat → Int32} {v : Int32} : (flds G 12 a f).set 12 (.int v) = flds G 12 a (upd f 12 v) := rfl
theorem g_12_13 {G : Gl} {a : Nat} {f : Nat → Int32} : (flds G 12 a f)[13]? = some (.int (f 13)) := rfl
theorem p_12_13 {G : Gl} {a : Nat} {f : Nat → Int32} {v : Int32} : (flds G 12 a f).set 13 (.int v) = flds G 12 a (upd f 13 v) := rfl
theorem g_12_14 {G : Gl} {a : Nat} {f : Nat → Int32} : (flds G 12 a f)[14]? = some (.int (f 14)) := rfl
theorem p_12_14 {G : Gl} {a : Nat} {f : Nat → Int32} {v : Int32} : (flds G 12 a f).set 14 (.int v) = flds G 12 a (upd f 14 v) := rfl
theorem g_12_15 {G : Gl} {a : Nat} {f : Nat → Int32} : (flds G 12 a f)[15]? = some (.ref (G.2.1 + 271)) := rfl
theorem g_12_16 {G : Gl} {a : Nat} {f : Nat → Int32} : (flds G 12 a f)[16]? = some (.int (f 16)) := rfl
theorem p_12_16 {G : Gl} {a : Nat} {f : Nat → Int32} {v : Int32} : (flds G 12 a f).set 16 (.int v) = flds G 12 a (upd f 16 v) := rfl
theorem g_12_17 {G : Gl} {a : Nat} {f : Nat → Int32} : (flds G 12 a f)[17]? = some (.ref (G.2.1 + 272)) := rfl
theorem g_12_18 {G : Gl} {a : Nat} {f : Nat → Int32} : (flds G 12 a f)[18]? = some (.ref (G.2.1 + 273)) := rfl
theorem g_12_19 {G : Gl} {a : Nat} {f : Nat → Int32} : (flds G 12 a f)[19]? = some (.ref (G.2.1 + 274)) := rfl
def cellOf (G : Gl) (a : Nat) (q : Nat × Nat) (f : Nat → Int32) : va_E := match q.1 with
  | 0 => .inr (q.2, flds G q.2 a f)
  | 1 => .inl (G.2.2.2.1 0, q.2, .inl f)
  | 2 => .inl (G.2.2.2.1 1, q.2, .inl f)
  | 3 => .inl (G.2.2.2.1 2, q.2, .inr (.inl (fun j => (f j).toInt64)))
  | _ => .inl (G.2.2.2.1 3, q.2, .inr (.inr (.inr (.inr (fun j => some (G.2.1 + (76 + 15 * j)))))))
def pic (G : Gl) (μ : Mem) : Hm := fun a => (kdL[a]?).map (fun q => cellOf G a q (μ a))
def mset (μ : Mem) (a i : Nat) (v : Int32) : Mem := fun b => if b = a then upd (μ b) i v else μ b
theorem pic_at {G : Gl} {μ : Mem} {a : Nat} {q : Nat × Nat} (h : kdL[a]? = some q) : pic G μ a = some (cellOf G a q (μ a)) := by unfold pic; rw [h]; rfl
theorem pic_put {G : Gl} {μ : Mem} {a i : Nat} {v : Int32} {q : Nat × Nat} {e : va_E} (h : kdL[a]? = some q) (he : cellOf G a q (upd (μ a) i v) = e) : hup (pic G μ) a e = pic G (mset μ a i v) := by
  funext b
  unfold hup
  by_cases hb : b = a
  · subst hb
    rw [if_pos rfl, pic_at h, ← he]
    unfold mset
    rw [if_pos rfl]
  · rw [if_neg hb]
    unfold pic mset
    rw [if_neg hb]
