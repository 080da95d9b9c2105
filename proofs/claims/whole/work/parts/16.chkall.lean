/-! every method checked -/
theorem chk_app {m : Nat} {a b : List aRow} (h1 : chkL m a = true) (h2 : chkL m b = true) : chkL m (a ++ b) = true := by rw [chkL, List.all_append, Bool.and_eq_true]; exact ⟨h1, h2⟩
theorem caP0_0 : chkL 0 aP0_0 = true := by decide +kernel
theorem caP0_1 : chkL 0 aP0_1 = true := by decide +kernel
theorem caP0_2 : chkL 0 aP0_2 = true := by decide +kernel
theorem caP0_3 : chkL 0 aP0_3 = true := by decide +kernel
theorem caP0_4 : chkL 0 aP0_4 = true := by decide +kernel
theorem caP0_5 : chkL 0 aP0_5 = true := by decide +kernel
theorem caP0_6 : chkL 0 aP0_6 = true := by decide +kernel
theorem caP0_7 : chkL 0 aP0_7 = true := by decide +kernel
theorem caP0_8 : chkL 0 aP0_8 = true := by decide +kernel
theorem caP0_9 : chkL 0 aP0_9 = true := by decide +kernel
theorem caP0_10 : chkL 0 aP0_10 = true := by decide +kernel
theorem caP0_11 : chkL 0 aP0_11 = true := by decide +kernel
theorem chkL_0 : chkL 0 aP0 = true := (chk_app caP0_0 (chk_app caP0_1 (chk_app caP0_2 (chk_app caP0_3 (chk_app caP0_4 (chk_app caP0_5 (chk_app caP0_6 (chk_app caP0_7 (chk_app caP0_8 (chk_app caP0_9 (chk_app caP0_10 caP0_11)))))))))))
theorem chkL_3 : chkL 3 aP3 = true := by decide +kernel
theorem caP4_0 : chkL 4 aP4_0 = true := by decide +kernel
theorem caP4_1 : chkL 4 aP4_1 = true := by decide +kernel
theorem chkL_4 : chkL 4 aP4 = true := (chk_app caP4_0 caP4_1)
theorem chkL_5 : chkL 5 aP5 = true := by decide +kernel
theorem chkL_6 : chkL 6 aP6 = true := by decide +kernel
theorem chkL_7 : chkL 7 aP7 = true := by decide +kernel
theorem chkL_8 : chkL 8 aP8 = true := by decide +kernel
theorem chkL_9 : chkL 9 aP9 = true := by decide +kernel
theorem chkL_10 : chkL 10 aP10 = true := by decide +kernel
theorem chkL_11 : chkL 11 aP11 = true := by decide +kernel
theorem chkL_12 : chkL 12 aP12 = true := by decide +kernel
theorem chkL_13 : chkL 13 aP13 = true := by decide +kernel
theorem chkL_14 : chkL 14 aP14 = true := by decide +kernel
theorem chkL_16 : chkL 16 aP16 = true := by decide +kernel
theorem chkL_17 : chkL 17 aP17 = true := by decide +kernel
theorem chkL_18 : chkL 18 aP18 = true := by decide +kernel
theorem chkL_19 : chkL 19 aP19 = true := by decide +kernel
theorem chkL_20 : chkL 20 aP20 = true := by decide +kernel
theorem chkL_21 : chkL 21 aP21 = true := by decide +kernel
theorem chkL_22 : chkL 22 aP22 = true := by decide +kernel
theorem chkL_23 : chkL 23 aP23 = true := by decide +kernel
theorem chkL_24 : chkL 24 aP24 = true := by decide +kernel
theorem chkL_25 : chkL 25 aP25 = true := by decide +kernel
theorem chkL_26 : chkL 26 aP26 = true := by decide +kernel
theorem chkL_27 : chkL 27 aP27 = true := by decide +kernel
theorem chkL_28 : chkL 28 aP28 = true := by decide +kernel
theorem chkL_29 : chkL 29 aP29 = true := by decide +kernel
theorem chkL_30 : chkL 30 aP30 = true := by decide +kernel
theorem chkL_31 : chkL 31 aP31 = true := by decide +kernel
theorem chkL_32 : chkL 32 aP32 = true := by decide +kernel
theorem chkL_33 : chkL 33 aP33 = true := by decide +kernel
theorem chkL_34 : chkL 34 aP34 = true := by decide +kernel
theorem chkL_35 : chkL 35 aP35 = true := by decide +kernel
theorem chkL_36 : chkL 36 aP36 = true := by decide +kernel
theorem chkL_37 : chkL 37 aP37 = true := by decide +kernel
theorem chkL_38 : chkL 38 aP38 = true := by decide +kernel
theorem chkL_39 : chkL 39 aP39 = true := by decide +kernel
theorem chkL_40 : chkL 40 aP40 = true := by decide +kernel
theorem chkL_41 : chkL 41 aP41 = true := by decide +kernel
theorem chkL_42 : chkL 42 aP42 = true := by decide +kernel
theorem chkL_43 : chkL 43 aP43 = true := by decide +kernel
theorem chkL_44 : chkL 44 aP44 = true := by decide +kernel
theorem chkL_45 : chkL 45 aP45 = true := by decide +kernel
theorem chkL_46 : chkL 46 aP46 = true := by decide +kernel
theorem chkL_47 : chkL 47 aP47 = true := by decide +kernel
theorem chkL_48 : chkL 48 aP48 = true := by decide +kernel
theorem chkL_49 : chkL 49 aP49 = true := by decide +kernel
theorem caP50_0 : chkL 50 aP50_0 = true := by decide +kernel
theorem caP50_1 : chkL 50 aP50_1 = true := by decide +kernel
theorem chkL_50 : chkL 50 aP50 = true := (chk_app caP50_0 caP50_1)
theorem chkL_51 : chkL 51 aP51 = true := by decide +kernel
theorem chkL_52 : chkL 52 aP52 = true := by decide +kernel
theorem chkL_53 : chkL 53 aP53 = true := by decide +kernel
theorem chkL_54 : chkL 54 aP54 = true := by decide +kernel
theorem chkL_55 : chkL 55 aP55 = true := by decide +kernel
theorem chkL_56 : chkL 56 aP56 = true := by decide +kernel
theorem chkL_57 : chkL 57 aP57 = true := by decide +kernel
theorem chkL_58 : chkL 58 aP58 = true := by decide +kernel
theorem chkL_59 : chkL 59 aP59 = true := by decide +kernel
theorem chkL_60 : chkL 60 aP60 = true := by decide +kernel
theorem chkL_61 : chkL 61 aP61 = true := by decide +kernel
theorem caP62_0 : chkL 62 aP62_0 = true := by decide +kernel
theorem caP62_1 : chkL 62 aP62_1 = true := by decide +kernel
theorem chkL_62 : chkL 62 aP62 = true := (chk_app caP62_0 caP62_1)
theorem chkL_63 : chkL 63 aP63 = true := by decide +kernel
theorem chkL_64 : chkL 64 aP64 = true := by decide +kernel
theorem chkL_65 : chkL 65 aP65 = true := by decide +kernel
theorem chkL_66 : chkL 66 aP66 = true := by decide +kernel
theorem chkL_67 : chkL 67 aP67 = true := by decide +kernel
theorem caP68_0 : chkL 68 aP68_0 = true := by decide +kernel
theorem caP68_1 : chkL 68 aP68_1 = true := by decide +kernel
theorem chkL_68 : chkL 68 aP68 = true := (chk_app caP68_0 caP68_1)
theorem chkL_69 : chkL 69 aP69 = true := by decide +kernel
theorem chkL_70 : chkL 70 aP70 = true := by decide +kernel
theorem chkL_71 : chkL 71 aP71 = true := by decide +kernel
theorem chkL_72 : chkL 72 aP72 = true := by decide +kernel
theorem chkL_73 : chkL 73 aP73 = true := by decide +kernel
theorem chkL_74 : chkL 74 aP74 = true := by decide +kernel
theorem chkL_75 : chkL 75 aP75 = true := by decide +kernel
theorem chkL_76 : chkL 76 aP76 = true := by decide +kernel
theorem chkL_77 : chkL 77 aP77 = true := by decide +kernel
theorem chkL_78 : chkL 78 aP78 = true := by decide +kernel
theorem chkL_79 : chkL 79 aP79 = true := by decide +kernel
theorem chkL_80 : chkL 80 aP80 = true := by decide +kernel
theorem chkL_81 : chkL 81 aP81 = true := by decide +kernel
theorem chkL_82 : chkL 82 aP82 = true := by decide +kernel
theorem chkL_83 : chkL 83 aP83 = true := by decide +kernel
theorem chkL_84 : chkL 84 aP84 = true := by decide +kernel
theorem chkL_85 : chkL 85 aP85 = true := by decide +kernel
theorem chkL_86 : chkL 86 aP86 = true := by decide +kernel
theorem chkL_87 : chkL 87 aP87 = true := by decide +kernel
theorem chkL_88 : chkL 88 aP88 = true := by decide +kernel
theorem chkL_89 : chkL 89 aP89 = true := by decide +kernel
theorem chkL_90 : chkL 90 aP90 = true := by decide +kernel
theorem chkL_91 : chkL 91 aP91 = true := by decide +kernel
theorem chkL_92 : chkL 92 aP92 = true := by decide +kernel
theorem chkL_93 : chkL 93 aP93 = true := by decide +kernel
theorem chkL_94 : chkL 94 aP94 = true := by decide +kernel
theorem chkL_95 : chkL 95 aP95 = true := by decide +kernel
theorem chkL_96 : chkL 96 aP96 = true := by decide +kernel
theorem chkL_97 : chkL 97 aP97 = true := by decide +kernel
theorem chkL_98 : chkL 98 aP98 = true := by decide +kernel
theorem chkL_99 : chkL 99 aP99 = true := by decide +kernel
theorem chkL_100 : chkL 100 aP100 = true := by decide +kernel
theorem chkL_101 : chkL 101 aP101 = true := by decide +kernel
theorem chkL_102 : chkL 102 aP102 = true := by decide +kernel
theorem chkL_103 : chkL 103 aP103 = true := by decide +kernel
theorem chkL_104 : chkL 104 aP104 = true := by decide +kernel
theorem chkL_105 : chkL 105 aP105 = true := by decide +kernel
theorem caP106_0 : chkL 106 aP106_0 = true := by decide +kernel
theorem caP106_1 : chkL 106 aP106_1 = true := by decide +kernel
theorem chkL_106 : chkL 106 aP106 = true := (chk_app caP106_0 caP106_1)
theorem chkL_107 : chkL 107 aP107 = true := by decide +kernel
theorem chkL_108 : chkL 108 aP108 = true := by decide +kernel
theorem chkL_109 : chkL 109 aP109 = true := by decide +kernel
theorem caP110_0 : chkL 110 aP110_0 = true := by decide +kernel
theorem caP110_1 : chkL 110 aP110_1 = true := by decide +kernel
theorem chkL_110 : chkL 110 aP110 = true := (chk_app caP110_0 caP110_1)
theorem chkL_111 : chkL 111 aP111 = true := by decide +kernel
theorem chkL_112 : chkL 112 aP112 = true := by decide +kernel
theorem chkL_113 : chkL 113 aP113 = true := by decide +kernel
theorem chkL_114 : chkL 114 aP114 = true := by decide +kernel
theorem chkL_115 : chkL 115 aP115 = true := by decide +kernel
theorem chkL_116 : chkL 116 aP116 = true := by decide +kernel
theorem chkL_117 : chkL 117 aP117 = true := by decide +kernel
theorem chkL_118 : chkL 118 aP118 = true := by decide +kernel
theorem chkL_119 : chkL 119 aP119 = true := by decide +kernel
theorem chkL_120 : chkL 120 aP120 = true := by decide +kernel
theorem chkL_121 : chkL 121 aP121 = true := by decide +kernel
theorem chkL_122 : chkL 122 aP122 = true := by decide +kernel
theorem chkL_123 : chkL 123 aP123 = true := by decide +kernel
theorem chkL_124 : chkL 124 aP124 = true := by decide +kernel
theorem chkL_125 : chkL 125 aP125 = true := by decide +kernel
theorem chkL_126 : chkL 126 aP126 = true := by decide +kernel
theorem chkL_127 : chkL 127 aP127 = true := by decide +kernel
theorem chkL_128 : chkL 128 aP128 = true := by decide +kernel
theorem chkL_129 : chkL 129 aP129 = true := by decide +kernel
theorem chkL_130 : chkL 130 aP130 = true := by decide +kernel
theorem chkL_131 : chkL 131 aP131 = true := by decide +kernel
theorem chkL_132 : chkL 132 aP132 = true := by decide +kernel
theorem chkL_133 : chkL 133 aP133 = true := by decide +kernel
theorem chkL_134 : chkL 134 aP134 = true := by decide +kernel
theorem chkL_135 : chkL 135 aP135 = true := by decide +kernel
theorem chkL_136 : chkL 136 aP136 = true := by decide +kernel
theorem chkL_137 : chkL 137 aP137 = true := by decide +kernel
theorem chkL_138 : chkL 138 aP138 = true := by decide +kernel
theorem chkL_139 : chkL 139 aP139 = true := by decide +kernel
theorem chkL_140 : chkL 140 aP140 = true := by decide +kernel
theorem chkL_141 : chkL 141 aP141 = true := by decide +kernel
theorem chkL_142 : chkL 142 aP142 = true := by decide +kernel
theorem chkL_143 : chkL 143 aP143 = true := by decide +kernel
theorem chkL_144 : chkL 144 aP144 = true := by decide +kernel
theorem chkL_145 : chkL 145 aP145 = true := by decide +kernel
theorem chkL_146 : chkL 146 aP146 = true := by decide +kernel
theorem chkL_147 : chkL 147 aP147 = true := by decide +kernel
theorem chkL_148 : chkL 148 aP148 = true := by decide +kernel
theorem chkL_149 : chkL 149 aP149 = true := by decide +kernel
theorem chkL_150 : chkL 150 aP150 = true := by decide +kernel
theorem chkL_151 : chkL 151 aP151 = true := by decide +kernel
theorem chkL_152 : chkL 152 aP152 = true := by decide +kernel
theorem chkL_153 : chkL 153 aP153 = true := by decide +kernel
theorem chkL_154 : chkL 154 aP154 = true := by decide +kernel
theorem chkL_155 : chkL 155 aP155 = true := by decide +kernel
theorem chkL_156 : chkL 156 aP156 = true := by decide +kernel
theorem chkL_157 : chkL 157 aP157 = true := by decide +kernel
theorem chkL_158 : chkL 158 aP158 = true := by decide +kernel
theorem caP159_0 : chkL 159 aP159_0 = true := by decide +kernel
theorem caP159_1 : chkL 159 aP159_1 = true := by decide +kernel
theorem chkL_159 : chkL 159 aP159 = true := (chk_app caP159_0 caP159_1)
theorem chkL_160 : chkL 160 aP160 = true := by decide +kernel
theorem chkL_161 : chkL 161 aP161 = true := by decide +kernel
theorem chkL_162 : chkL 162 aP162 = true := by decide +kernel
theorem chkL_163 : chkL 163 aP163 = true := by decide +kernel
theorem chkL_164 : chkL 164 aP164 = true := by decide +kernel
theorem chkL_165 : chkL 165 aP165 = true := by decide +kernel
theorem chkL_166 : chkL 166 aP166 = true := by decide +kernel
theorem chkL_167 : chkL 167 aP167 = true := by decide +kernel
theorem chkL_168 : chkL 168 aP168 = true := by decide +kernel
theorem chkL_169 : chkL 169 aP169 = true := by decide +kernel
theorem chkL_170 : chkL 170 aP170 = true := by decide +kernel
theorem chkL_171 : chkL 171 aP171 = true := by decide +kernel
theorem chkL_172 : chkL 172 aP172 = true := by decide +kernel
theorem caP173_0 : chkL 173 aP173_0 = true := by decide +kernel
theorem caP173_1 : chkL 173 aP173_1 = true := by decide +kernel
theorem chkL_173 : chkL 173 aP173 = true := (chk_app caP173_0 caP173_1)
theorem chkL_174 : chkL 174 aP174 = true := by decide +kernel
theorem chkL_175 : chkL 175 aP175 = true := by decide +kernel
theorem chkL_176 : chkL 176 aP176 = true := by decide +kernel
theorem chkL_177 : chkL 177 aP177 = true := by decide +kernel
theorem chkL_178 : chkL 178 aP178 = true := by decide +kernel
theorem chkL_179 : chkL 179 aP179 = true := by decide +kernel
theorem chkL_180 : chkL 180 aP180 = true := by decide +kernel
theorem chkL_181 : chkL 181 aP181 = true := by decide +kernel
theorem chkL_182 : chkL 182 aP182 = true := by decide +kernel
theorem chkL_183 : chkL 183 aP183 = true := by decide +kernel
theorem chkL_184 : chkL 184 aP184 = true := by decide +kernel
theorem chkL_185 : chkL 185 aP185 = true := by decide +kernel
theorem chkL_186 : chkL 186 aP186 = true := by decide +kernel
theorem chkL_187 : chkL 187 aP187 = true := by decide +kernel
theorem chkL_188 : chkL 188 aP188 = true := by decide +kernel
theorem chkL_189 : chkL 189 aP189 = true := by decide +kernel
theorem chkL_190 : chkL 190 aP190 = true := by decide +kernel
theorem chkL_191 : chkL 191 aP191 = true := by decide +kernel
theorem chkL_192 : chkL 192 aP192 = true := by decide +kernel
theorem chkL_193 : chkL 193 aP193 = true := by decide +kernel
theorem chkL_194 : chkL 194 aP194 = true := by decide +kernel
theorem chkL_195 : chkL 195 aP195 = true := by decide +kernel
theorem chkL_196 : chkL 196 aP196 = true := by decide +kernel
theorem chkL_197 : chkL 197 aP197 = true := by decide +kernel
theorem chkL_198 : chkL 198 aP198 = true := by decide +kernel
theorem chkL_199 : chkL 199 aP199 = true := by decide +kernel
theorem chkL_200 : chkL 200 aP200 = true := by decide +kernel
theorem chkL_201 : chkL 201 aP201 = true := by decide +kernel
theorem chkL_202 : chkL 202 aP202 = true := by decide +kernel
theorem chkL_203 : chkL 203 aP203 = true := by decide +kernel
theorem chkL_204 : chkL 204 aP204 = true := by decide +kernel
theorem chkL_205 : chkL 205 aP205 = true := by decide +kernel
theorem chkL_206 : chkL 206 aP206 = true := by decide +kernel
theorem chkL_207 : chkL 207 aP207 = true := by decide +kernel
theorem chkL_208 : chkL 208 aP208 = true := by decide +kernel
theorem chkL_209 : chkL 209 aP209 = true := by decide +kernel
theorem chkL_210 : chkL 210 aP210 = true := by decide +kernel
theorem chkL_211 : chkL 211 aP211 = true := by decide +kernel
theorem chkL_212 : chkL 212 aP212 = true := by decide +kernel
theorem chkL_213 : chkL 213 aP213 = true := by decide +kernel
theorem chkL_214 : chkL 214 aP214 = true := by decide +kernel
theorem chkL_215 : chkL 215 aP215 = true := by decide +kernel
theorem chkL_216 : chkL 216 aP216 = true := by decide +kernel
theorem chkL_217 : chkL 217 aP217 = true := by decide +kernel
theorem chkL_218 : chkL 218 aP218 = true := by decide +kernel
theorem chkL_219 : chkL 219 aP219 = true := by decide +kernel
theorem chkL_220 : chkL 220 aP220 = true := by decide +kernel
theorem chkL_221 : chkL 221 aP221 = true := by decide +kernel
theorem chkL_222 : chkL 222 aP222 = true := by decide +kernel
theorem chkL_223 : chkL 223 aP223 = true := by decide +kernel
theorem chkL_224 : chkL 224 aP224 = true := by decide +kernel
theorem chkL_225 : chkL 225 aP225 = true := by decide +kernel
theorem chkL_226 : chkL 226 aP226 = true := by decide +kernel
theorem chkL_227 : chkL 227 aP227 = true := by decide +kernel
theorem chkL_228 : chkL 228 aP228 = true := by decide +kernel
theorem chkL_229 : chkL 229 aP229 = true := by decide +kernel
theorem chkL_230 : chkL 230 aP230 = true := by decide +kernel
theorem chkL_231 : chkL 231 aP231 = true := by decide +kernel
theorem chkL_232 : chkL 232 aP232 = true := by decide +kernel
theorem chkL_233 : chkL 233 aP233 = true := by decide +kernel
theorem chkL_234 : chkL 234 aP234 = true := by decide +kernel
theorem chkL_235 : chkL 235 aP235 = true := by decide +kernel
theorem chkL_236 : chkL 236 aP236 = true := by decide +kernel
theorem chkL_237 : chkL 237 aP237 = true := by decide +kernel
theorem chkL_238 : chkL 238 aP238 = true := by decide +kernel
theorem chkL_239 : chkL 239 aP239 = true := by decide +kernel
theorem chkL_240 : chkL 240 aP240 = true := by decide +kernel
theorem chkL_241 : chkL 241 aP241 = true := by decide +kernel
theorem chkL_242 : chkL 242 aP242 = true := by decide +kernel
theorem chkL_243 : chkL 243 aP243 = true := by decide +kernel
theorem caP244_0 : chkL 244 aP244_0 = true := by decide +kernel
theorem caP244_1 : chkL 244 aP244_1 = true := by decide +kernel
theorem chkL_244 : chkL 244 aP244 = true := (chk_app caP244_0 caP244_1)
theorem chkL_245 : chkL 245 aP245 = true := by decide +kernel
theorem chkL_246 : chkL 246 aP246 = true := by decide +kernel
theorem chkL_247 : chkL 247 aP247 = true := by decide +kernel
theorem chkL_248 : chkL 248 aP248 = true := by decide +kernel
theorem chkL_249 : chkL 249 aP249 = true := by decide +kernel
theorem chkL_250 : chkL 250 aP250 = true := by decide +kernel
theorem chkL_251 : chkL 251 aP251 = true := by decide +kernel
theorem chkL_252 : chkL 252 aP252 = true := by decide +kernel
theorem chkL_253 : chkL 253 aP253 = true := by decide +kernel
theorem chkL_254 : chkL 254 aP254 = true := by decide +kernel
theorem chkL_255 : chkL 255 aP255 = true := by decide +kernel
theorem chkL_256 : chkL 256 aP256 = true := by decide +kernel
theorem chkL_257 : chkL 257 aP257 = true := by decide +kernel
theorem chkL_258 : chkL 258 aP258 = true := by decide +kernel
theorem chkL_259 : chkL 259 aP259 = true := by decide +kernel
theorem chkL_260 : chkL 260 aP260 = true := by decide +kernel
theorem chkL_261 : chkL 261 aP261 = true := by decide +kernel
theorem chkL_262 : chkL 262 aP262 = true := by decide +kernel
theorem chkL_263 : chkL 263 aP263 = true := by decide +kernel
theorem chkL_264 : chkL 264 aP264 = true := by decide +kernel
theorem chkL_265 : chkL 265 aP265 = true := by decide +kernel
theorem chkL_266 : chkL 266 aP266 = true := by decide +kernel
theorem chkL_267 : chkL 267 aP267 = true := by decide +kernel
theorem chkL_268 : chkL 268 aP268 = true := by decide +kernel
theorem chkL_269 : chkL 269 aP269 = true := by decide +kernel
theorem chkL_270 : chkL 270 aP270 = true := by decide +kernel
theorem chkL_271 : chkL 271 aP271 = true := by decide +kernel
theorem chkL_272 : chkL 272 aP272 = true := by decide +kernel
theorem chkL_273 : chkL 273 aP273 = true := by decide +kernel
theorem chkL_274 : chkL 274 aP274 = true := by decide +kernel
theorem chkL_275 : chkL 275 aP275 = true := by decide +kernel
theorem chkL_276 : chkL 276 aP276 = true := by decide +kernel
theorem chkL_277 : chkL 277 aP277 = true := by decide +kernel
theorem chkL_278 : chkL 278 aP278 = true := by decide +kernel
theorem chkL_279 : chkL 279 aP279 = true := by decide +kernel
theorem chkL_280 : chkL 280 aP280 = true := by decide +kernel
theorem chkL_281 : chkL 281 aP281 = true := by decide +kernel
theorem chkL_282 : chkL 282 aP282 = true := by decide +kernel
theorem chkL_283 : chkL 283 aP283 = true := by decide +kernel
theorem chkL_284 : chkL 284 aP284 = true := by decide +kernel
theorem chkL_285 : chkL 285 aP285 = true := by decide +kernel
theorem chkL_286 : chkL 286 aP286 = true := by decide +kernel
theorem chkL_287 : chkL 287 aP287 = true := by decide +kernel
theorem chkL_288 : chkL 288 aP288 = true := by decide +kernel
theorem chkL_289 : chkL 289 aP289 = true := by decide +kernel
theorem chkL_290 : chkL 290 aP290 = true := by decide +kernel
theorem chkL_291 : chkL 291 aP291 = true := by decide +kernel
theorem chkL_292 : chkL 292 aP292 = true := by decide +kernel
theorem chkL_293 : chkL 293 aP293 = true := by decide +kernel
theorem chkL_294 : chkL 294 aP294 = true := by decide +kernel
theorem chkL_295 : chkL 295 aP295 = true := by decide +kernel
theorem chkL_296 : chkL 296 aP296 = true := by decide +kernel
theorem chkL_297 : chkL 297 aP297 = true := by decide +kernel
theorem chkL_298 : chkL 298 aP298 = true := by decide +kernel
theorem chkL_299 : chkL 299 aP299 = true := by decide +kernel
theorem chkL_300 : chkL 300 aP300 = true := by decide +kernel
theorem chkL_301 : chkL 301 aP301 = true := by decide +kernel
theorem chkL_302 : chkL 302 aP302 = true := by decide +kernel
theorem chkL_303 : chkL 303 aP303 = true := by decide +kernel
theorem chkL_304 : chkL 304 aP304 = true := by decide +kernel
theorem chkL_305 : chkL 305 aP305 = true := by decide +kernel
theorem chkL_306 : chkL 306 aP306 = true := by decide +kernel
theorem chkL_307 : chkL 307 aP307 = true := by decide +kernel
theorem chkL_308 : chkL 308 aP308 = true := by decide +kernel
theorem chkL_309 : chkL 309 aP309 = true := by decide +kernel
theorem chkL_310 : chkL 310 aP310 = true := by decide +kernel
theorem chkL_311 : chkL 311 aP311 = true := by decide +kernel
theorem chkL_312 : chkL 312 aP312 = true := by decide +kernel
theorem chkL_313 : chkL 313 aP313 = true := by decide +kernel
theorem chkL_314 : chkL 314 aP314 = true := by decide +kernel
theorem chkL_315 : chkL 315 aP315 = true := by decide +kernel
theorem chkL_316 : chkL 316 aP316 = true := by decide +kernel
theorem chkL_317 : chkL 317 aP317 = true := by decide +kernel
theorem chkL_318 : chkL 318 aP318 = true := by decide +kernel
theorem chk_g0 : ∀ i, i < 20 → chkL (20 * 0 + i) (aPs.getD (20 * 0 + i) []) = true := fun i hi => match i, hi with
  | 0, _ => chkL_0
  | 1, _ => chkL_1
  | 2, _ => chkL_2
  | 3, _ => chkL_3
  | 4, _ => chkL_4
  | 5, _ => chkL_5
  | 6, _ => chkL_6
  | 7, _ => chkL_7
  | 8, _ => chkL_8
  | 9, _ => chkL_9
  | 10, _ => chkL_10
  | 11, _ => chkL_11
  | 12, _ => chkL_12
  | 13, _ => chkL_13
  | 14, _ => chkL_14
  | 15, _ => chkL_15
  | 16, _ => chkL_16
  | 17, _ => chkL_17
  | 18, _ => chkL_18
  | 19, _ => chkL_19
  | j + 20, h => absurd h (by omega)
theorem chkY_g0 : ∀ i, i < 19 → chkY (i + 1) = true := by decide +kernel
theorem chk_g1 : ∀ i, i < 20 → chkL (20 * 1 + i) (aPs.getD (20 * 1 + i) []) = true := fun i hi => match i, hi with
  | 0, _ => chkL_20
  | 1, _ => chkL_21
  | 2, _ => chkL_22
  | 3, _ => chkL_23
  | 4, _ => chkL_24
  | 5, _ => chkL_25
  | 6, _ => chkL_26
  | 7, _ => chkL_27
  | 8, _ => chkL_28
  | 9, _ => chkL_29
  | 10, _ => chkL_30
  | 11, _ => chkL_31
  | 12, _ => chkL_32
  | 13, _ => chkL_33
  | 14, _ => chkL_34
  | 15, _ => chkL_35
  | 16, _ => chkL_36
  | 17, _ => chkL_37
  | 18, _ => chkL_38
  | 19, _ => chkL_39
  | j + 20, h => absurd h (by omega)
theorem chkY_g1 : ∀ i, i < 20 → chkY (20 * 1 + i) = true := by decide +kernel
theorem chk_g2 : ∀ i, i < 20 → chkL (20 * 2 + i) (aPs.getD (20 * 2 + i) []) = true := fun i hi => match i, hi with
  | 0, _ => chkL_40
  | 1, _ => chkL_41
  | 2, _ => chkL_42
  | 3, _ => chkL_43
  | 4, _ => chkL_44
  | 5, _ => chkL_45
  | 6, _ => chkL_46
  | 7, _ => chkL_47
  | 8, _ => chkL_48
  | 9, _ => chkL_49
  | 10, _ => chkL_50
  | 11, _ => chkL_51
  | 12, _ => chkL_52
  | 13, _ => chkL_53
  | 14, _ => chkL_54
  | 15, _ => chkL_55
  | 16, _ => chkL_56
  | 17, _ => chkL_57
  | 18, _ => chkL_58
  | 19, _ => chkL_59
  | j + 20, h => absurd h (by omega)
theorem chkY_g2 : ∀ i, i < 20 → chkY (20 * 2 + i) = true := by decide +kernel
theorem chk_g3 : ∀ i, i < 20 → chkL (20 * 3 + i) (aPs.getD (20 * 3 + i) []) = true := fun i hi => match i, hi with
  | 0, _ => chkL_60
  | 1, _ => chkL_61
  | 2, _ => chkL_62
  | 3, _ => chkL_63
  | 4, _ => chkL_64
  | 5, _ => chkL_65
  | 6, _ => chkL_66
  | 7, _ => chkL_67
  | 8, _ => chkL_68
  | 9, _ => chkL_69
  | 10, _ => chkL_70
  | 11, _ => chkL_71
  | 12, _ => chkL_72
  | 13, _ => chkL_73
  | 14, _ => chkL_74
  | 15, _ => chkL_75
  | 16, _ => chkL_76
  | 17, _ => chkL_77
  | 18, _ => chkL_78
  | 19, _ => chkL_79
  | j + 20, h => absurd h (by omega)
theorem chkY_g3 : ∀ i, i < 20 → chkY (20 * 3 + i) = true := by decide +kernel
theorem chk_g4 : ∀ i, i < 20 → chkL (20 * 4 + i) (aPs.getD (20 * 4 + i) []) = true := fun i hi => match i, hi with
  | 0, _ => chkL_80
  | 1, _ => chkL_81
  | 2, _ => chkL_82
  | 3, _ => chkL_83
  | 4, _ => chkL_84
  | 5, _ => chkL_85
  | 6, _ => chkL_86
  | 7, _ => chkL_87
  | 8, _ => chkL_88
  | 9, _ => chkL_89
  | 10, _ => chkL_90
  | 11, _ => chkL_91
  | 12, _ => chkL_92
  | 13, _ => chkL_93
  | 14, _ => chkL_94
  | 15, _ => chkL_95
  | 16, _ => chkL_96
  | 17, _ => chkL_97
  | 18, _ => chkL_98
  | 19, _ => chkL_99
  | j + 20, h => absurd h (by omega)
theorem chkY_g4 : ∀ i, i < 20 → chkY (20 * 4 + i) = true := by decide +kernel
theorem chk_g5 : ∀ i, i < 20 → chkL (20 * 5 + i) (aPs.getD (20 * 5 + i) []) = true := fun i hi => match i, hi with
  | 0, _ => chkL_100
  | 1, _ => chkL_101
  | 2, _ => chkL_102
  | 3, _ => chkL_103
  | 4, _ => chkL_104
  | 5, _ => chkL_105
  | 6, _ => chkL_106
  | 7, _ => chkL_107
  | 8, _ => chkL_108
  | 9, _ => chkL_109
  | 10, _ => chkL_110
  | 11, _ => chkL_111
  | 12, _ => chkL_112
  | 13, _ => chkL_113
  | 14, _ => chkL_114
  | 15, _ => chkL_115
  | 16, _ => chkL_116
  | 17, _ => chkL_117
  | 18, _ => chkL_118
  | 19, _ => chkL_119
  | j + 20, h => absurd h (by omega)
theorem chkY_g5 : ∀ i, i < 20 → chkY (20 * 5 + i) = true := by decide +kernel
theorem chk_g6 : ∀ i, i < 20 → chkL (20 * 6 + i) (aPs.getD (20 * 6 + i) []) = true := fun i hi => match i, hi with
  | 0, _ => chkL_120
  | 1, _ => chkL_121
  | 2, _ => chkL_122
  | 3, _ => chkL_123
  | 4, _ => chkL_124
  | 5, _ => chkL_125
  | 6, _ => chkL_126
  | 7, _ => chkL_127
  | 8, _ => chkL_128
  | 9, _ => chkL_129
  | 10, _ => chkL_130
  | 11, _ => chkL_131
  | 12, _ => chkL_132
  | 13, _ => chkL_133
  | 14, _ => chkL_134
  | 15, _ => chkL_135
  | 16, _ => chkL_136
  | 17, _ => chkL_137
  | 18, _ => chkL_138
  | 19, _ => chkL_139
  | j + 20, h => absurd h (by omega)
theorem chkY_g6 : ∀ i, i < 20 → chkY (20 * 6 + i) = true := by decide +kernel
theorem chk_g7 : ∀ i, i < 20 → chkL (20 * 7 + i) (aPs.getD (20 * 7 + i) []) = true := fun i hi => match i, hi with
  | 0, _ => chkL_140
  | 1, _ => chkL_141
  | 2, _ => chkL_142
  | 3, _ => chkL_143
  | 4, _ => chkL_144
  | 5, _ => chkL_145
  | 6, _ => chkL_146
  | 7, _ => chkL_147
  | 8, _ => chkL_148
  | 9, _ => chkL_149
  | 10, _ => chkL_150
  | 11, _ => chkL_151
  | 12, _ => chkL_152
  | 13, _ => chkL_153
  | 14, _ => chkL_154
  | 15, _ => chkL_155
  | 16, _ => chkL_156
  | 17, _ => chkL_157
  | 18, _ => chkL_158
  | 19, _ => chkL_159
  | j + 20, h => absurd h (by omega)
theorem chkY_g7 : ∀ i, i < 20 → chkY (20 * 7 + i) = true := by decide +kernel
theorem chk_g8 : ∀ i, i < 20 → chkL (20 * 8 + i) (aPs.getD (20 * 8 + i) []) = true := fun i hi => match i, hi with
  | 0, _ => chkL_160
  | 1, _ => chkL_161
  | 2, _ => chkL_162
  | 3, _ => chkL_163
  | 4, _ => chkL_164
  | 5, _ => chkL_165
  | 6, _ => chkL_166
  | 7, _ => chkL_167
  | 8, _ => chkL_168
  | 9, _ => chkL_169
  | 10, _ => chkL_170
  | 11, _ => chkL_171
  | 12, _ => chkL_172
  | 13, _ => chkL_173
  | 14, _ => chkL_174
  | 15, _ => chkL_175
  | 16, _ => chkL_176
  | 17, _ => chkL_177
  | 18, _ => chkL_178
  | 19, _ => chkL_179
  | j + 20, h => absurd h (by omega)
theorem chkY_g8 : ∀ i, i < 20 → chkY (20 * 8 + i) = true := by decide +kernel
theorem chk_g9 : ∀ i, i < 20 → chkL (20 * 9 + i) (aPs.getD (20 * 9 + i) []) = true := fun i hi => match i, hi with
  | 0, _ => chkL_180
  | 1, _ => chkL_181
  | 2, _ => chkL_182
  | 3, _ => chkL_183
  | 4, _ => chkL_184
  | 5, _ => chkL_185
  | 6, _ => chkL_186
  | 7, _ => chkL_187
  | 8, _ => chkL_188
  | 9, _ => chkL_189
  | 10, _ => chkL_190
  | 11, _ => chkL_191
  | 12, _ => chkL_192
  | 13, _ => chkL_193
  | 14, _ => chkL_194
  | 15, _ => chkL_195
  | 16, _ => chkL_196
  | 17, _ => chkL_197
  | 18, _ => chkL_198
  | 19, _ => chkL_199
  | j + 20, h => absurd h (by omega)
theorem chkY_g9 : ∀ i, i < 20 → chkY (20 * 9 + i) = true := by decide +kernel
theorem chk_g10 : ∀ i, i < 20 → chkL (20 * 10 + i) (aPs.getD (20 * 10 + i) []) = true := fun i hi => match i, hi with
  | 0, _ => chkL_200
  | 1, _ => chkL_201
  | 2, _ => chkL_202
  | 3, _ => chkL_203
  | 4, _ => chkL_204
  | 5, _ => chkL_205
  | 6, _ => chkL_206
  | 7, _ => chkL_207
  | 8, _ => chkL_208
  | 9, _ => chkL_209
  | 10, _ => chkL_210
  | 11, _ => chkL_211
  | 12, _ => chkL_212
  | 13, _ => chkL_213
  | 14, _ => chkL_214
  | 15, _ => chkL_215
  | 16, _ => chkL_216
  | 17, _ => chkL_217
  | 18, _ => chkL_218
  | 19, _ => chkL_219
  | j + 20, h => absurd h (by omega)
theorem chkY_g10 : ∀ i, i < 20 → chkY (20 * 10 + i) = true := by decide +kernel
theorem chk_g11 : ∀ i, i < 20 → chkL (20 * 11 + i) (aPs.getD (20 * 11 + i) []) = true := fun i hi => match i, hi with
  | 0, _ => chkL_220
  | 1, _ => chkL_221
  | 2, _ => chkL_222
  | 3, _ => chkL_223
  | 4, _ => chkL_224
  | 5, _ => chkL_225
  | 6, _ => chkL_226
  | 7, _ => chkL_227
  | 8, _ => chkL_228
  | 9, _ => chkL_229
  | 10, _ => chkL_230
  | 11, _ => chkL_231
  | 12, _ => chkL_232
  | 13, _ => chkL_233
  | 14, _ => chkL_234
  | 15, _ => chkL_235
  | 16, _ => chkL_236
  | 17, _ => chkL_237
  | 18, _ => chkL_238
  | 19, _ => chkL_239
  | j + 20, h => absurd h (by omega)
theorem chkY_g11 : ∀ i, i < 20 → chkY (20 * 11 + i) = true := by decide +kernel
theorem chk_g12 : ∀ i, i < 20 → chkL (20 * 12 + i) (aPs.getD (20 * 12 + i) []) = true := fun i hi => match i, hi with
  | 0, _ => chkL_240
  | 1, _ => chkL_241
  | 2, _ => chkL_242
  | 3, _ => chkL_243
  | 4, _ => chkL_244
  | 5, _ => chkL_245
  | 6, _ => chkL_246
  | 7, _ => chkL_247
  | 8, _ => chkL_248
  | 9, _ => chkL_249
  | 10, _ => chkL_250
  | 11, _ => chkL_251
  | 12, _ => chkL_252
  | 13, _ => chkL_253
  | 14, _ => chkL_254
  | 15, _ => chkL_255
  | 16, _ => chkL_256
  | 17, _ => chkL_257
  | 18, _ => chkL_258
  | 19, _ => chkL_259
  | j + 20, h => absurd h (by omega)
theorem chkY_g12 : ∀ i, i < 20 → chkY (20 * 12 + i) = true := by decide +kernel
theorem chk_g13 : ∀ i, i < 20 → chkL (20 * 13 + i) (aPs.getD (20 * 13 + i) []) = true := fun i hi => match i, hi with
  | 0, _ => chkL_260
  | 1, _ => chkL_261
  | 2, _ => chkL_262
  | 3, _ => chkL_263
  | 4, _ => chkL_264
  | 5, _ => chkL_265
  | 6, _ => chkL_266
  | 7, _ => chkL_267
  | 8, _ => chkL_268
  | 9, _ => chkL_269
  | 10, _ => chkL_270
  | 11, _ => chkL_271
  | 12, _ => chkL_272
  | 13, _ => chkL_273
  | 14, _ => chkL_274
  | 15, _ => chkL_275
  | 16, _ => chkL_276
  | 17, _ => chkL_277
  | 18, _ => chkL_278
  | 19, _ => chkL_279
  | j + 20, h => absurd h (by omega)
theorem chkY_g13 : ∀ i, i < 20 → chkY (20 * 13 + i) = true := by decide +kernel
theorem chk_g14 : ∀ i, i < 20 → chkL (20 * 14 + i) (aPs.getD (20 * 14 + i) []) = true := fun i hi => match i, hi with
  | 0, _ => chkL_280
  | 1, _ => chkL_281
  | 2, _ => chkL_282
  | 3, _ => chkL_283
  | 4, _ => chkL_284
  | 5, _ => chkL_285
  | 6, _ => chkL_286
  | 7, _ => chkL_287
  | 8, _ => chkL_288
  | 9, _ => chkL_289
  | 10, _ => chkL_290
  | 11, _ => chkL_291
  | 12, _ => chkL_292
  | 13, _ => chkL_293
  | 14, _ => chkL_294
  | 15, _ => chkL_295
  | 16, _ => chkL_296
  | 17, _ => chkL_297
  | 18, _ => chkL_298
  | 19, _ => chkL_299
  | j + 20, h => absurd h (by omega)
theorem chkY_g14 : ∀ i, i < 20 → chkY (20 * 14 + i) = true := by decide +kernel
theorem chk_g15 : ∀ i, i < 19 → chkL (20 * 15 + i) (aPs.getD (20 * 15 + i) []) = true := fun i hi => match i, hi with
  | 0, _ => chkL_300
  | 1, _ => chkL_301
  | 2, _ => chkL_302
  | 3, _ => chkL_303
  | 4, _ => chkL_304
  | 5, _ => chkL_305
  | 6, _ => chkL_306
  | 7, _ => chkL_307
  | 8, _ => chkL_308
  | 9, _ => chkL_309
  | 10, _ => chkL_310
  | 11, _ => chkL_311
  | 12, _ => chkL_312
  | 13, _ => chkL_313
  | 14, _ => chkL_314
  | 15, _ => chkL_315
  | 16, _ => chkL_316
  | 17, _ => chkL_317
  | 18, _ => chkL_318
  | j + 19, h => absurd h (by omega)
theorem chkY_g15 : ∀ i, i < 19 → chkY (20 * 15 + i) = true := by decide +kernel
theorem chk_c : ∀ c, c < 16 → ∀ i, i < 20 → 20 * c + i < 319 → chkL (20 * c + i) (aPs.getD (20 * c + i) []) = true := fun c hc i hi h => match c, hc, h with
  | 0, _, _ => chk_g0 i hi
  | 1, _, _ => chk_g1 i hi
  | 2, _, _ => chk_g2 i hi
  | 3, _, _ => chk_g3 i hi
  | 4, _, _ => chk_g4 i hi
  | 5, _, _ => chk_g5 i hi
  | 6, _, _ => chk_g6 i hi
  | 7, _, _ => chk_g7 i hi
  | 8, _, _ => chk_g8 i hi
  | 9, _, _ => chk_g9 i hi
  | 10, _, _ => chk_g10 i hi
  | 11, _, _ => chk_g11 i hi
  | 12, _, _ => chk_g12 i hi
  | 13, _, _ => chk_g13 i hi
  | 14, _, _ => chk_g14 i hi
  | 15, _, h => chk_g15 i (by omega)
  | j + 16, h, _ => absurd h (by omega)
theorem chkY_c : ∀ c, c < 16 → ∀ i, i < 20 → 20 * c + i < 319 → 20 * c + i ≠ 0 → chkY (20 * c + i) = true := fun c hc i hi h h0 => match c, hc, h, h0 with
  | 0, _, _, h0 => by have := chkY_g0 (i - 1) (by omega); rwa [show i - 1 + 1 = 20 * 0 + i by omega] at this
  | 1, _, _, _ => chkY_g1 i hi
  | 2, _, _, _ => chkY_g2 i hi
  | 3, _, _, _ => chkY_g3 i hi
  | 4, _, _, _ => chkY_g4 i hi
  | 5, _, _, _ => chkY_g5 i hi
  | 6, _, _, _ => chkY_g6 i hi
  | 7, _, _, _ => chkY_g7 i hi
  | 8, _, _, _ => chkY_g8 i hi
  | 9, _, _, _ => chkY_g9 i hi
  | 10, _, _, _ => chkY_g10 i hi
  | 11, _, _, _ => chkY_g11 i hi
  | 12, _, _, _ => chkY_g12 i hi
  | 13, _, _, _ => chkY_g13 i hi
  | 14, _, _, _ => chkY_g14 i hi
  | 15, _, h, _ => chkY_g15 i (by omega)
  | j + 16, h, _, _ => absurd h (by omega)
theorem chkR_all {m : Nat} (h : m < 319) : chkL m (aPs.getD m []) = true := by
  have e : 20 * (m / 20) + m % 20 = m := Nat.div_add_mod m 20
  have := chk_c (m / 20) (by omega) (m % 20) (by omega) (by omega)
  rwa [e] at this
theorem chkY_all {m : Nat} (h : m < 319) (h0 : m ≠ 0) : chkY m = true := by
  have e : 20 * (m / 20) + m % 20 = m := Nat.div_add_mod m 20
  have := chkY_c (m / 20) (by omega) (m % 20) (by omega) (by omega) (by omega)
  rwa [e] at this
