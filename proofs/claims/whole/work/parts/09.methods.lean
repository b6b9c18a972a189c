/-! the methods, one by one -/
theorem mb_0 : sm_mb 0 = true := by decide +kernel
theorem mb_1 : sm_mb 1 = true := by decide +kernel
theorem mb_2 : sm_mb 2 = true := by decide +kernel
theorem mb_3 : sm_mb 3 = true := by decide +kernel
theorem mb_4 : sm_mb 4 = true := by decide +kernel
theorem mb_5 : sm_mb 5 = true := by decide +kernel
theorem mb_6 : sm_mb 6 = true := by decide +kernel
theorem mb_7 : sm_mb 7 = true := by decide +kernel
theorem mb_8 : sm_mb 8 = true := by decide +kernel
theorem mb_9 : sm_mb 9 = true := by decide +kernel
theorem mb_10 : sm_mb 10 = true := by decide +kernel
theorem mb_11 : sm_mb 11 = true := by decide +kernel
theorem mb_12 : sm_mb 12 = true := by decide +kernel
theorem mb_13 : sm_mb 13 = true := by decide +kernel
theorem mb_14 : sm_mb 14 = true := by decide +kernel
theorem mb_15 : sm_mb 15 = true := by decide +kernel
theorem mb_16 : sm_mb 16 = true := by decide +kernel
theorem mb_17 : sm_mb 17 = true := by decide +kernel
theorem mb_18 : sm_mb 18 = true := by decide +kernel
theorem mb_19 : sm_mb 19 = true := by decide +kernel
theorem mb_20 : sm_mb 20 = true := by decide +kernel
theorem mb_21 : sm_mb 21 = true := by decide +kernel
theorem mb_22 : sm_mb 22 = true := by decide +kernel
theorem mb_23 : sm_mb 23 = true := by decide +kernel
theorem mb_24 : sm_mb 24 = true := by decide +kernel
theorem mb_25 : sm_mb 25 = true := by decide +kernel
theorem mb_26 : sm_mb 26 = true := by decide +kernel
theorem mb_27 : sm_mb 27 = true := by decide +kernel
theorem mb_28 : sm_mb 28 = true := by decide +kernel
theorem mb_29 : sm_mb 29 = true := by decide +kernel
theorem mb_30 : sm_mb 30 = true := by decide +kernel
theorem mb_31 : sm_mb 31 = true := by decide +kernel
theorem mb_32 : sm_mb 32 = true := by decide +kernel
theorem mb_33 : sm_mb 33 = true := by decide +kernel
theorem mb_34 : sm_mb 34 = true := by decide +kernel
theorem mb_35 : sm_mb 35 = true := by decide +kernel
theorem mb_36 : sm_mb 36 = true := by decide +kernel
theorem mb_37 : sm_mb 37 = true := by decide +kernel
theorem mb_38 : sm_mb 38 = true := by decide +kernel
theorem mb_39 : sm_mb 39 = true := by decide +kernel
theorem mb_40 : sm_mb 40 = true := by decide +kernel
theorem mb_41 : sm_mb 41 = true := by decide +kernel
theorem mb_42 : sm_mb 42 = true := by decide +kernel
theorem mb_43 : sm_mb 43 = true := by decide +kernel
theorem mb_44 : sm_mb 44 = true := by decide +kernel
theorem mb_45 : sm_mb 45 = true := by decide +kernel
theorem mb_46 : sm_mb 46 = true := by decide +kernel
theorem mb_47 : sm_mb 47 = true := by decide +kernel
theorem mb_48 : sm_mb 48 = true := by decide +kernel
theorem mb_49 : sm_mb 49 = true := by decide +kernel
theorem mb_50 : sm_mb 50 = true := by decide +kernel
theorem mb_51 : sm_mb 51 = true := by decide +kernel
theorem mb_52 : sm_mb 52 = true := by decide +kernel
theorem mb_53 : sm_mb 53 = true := by decide +kernel
theorem mb_54 : sm_mb 54 = true := by decide +kernel
theorem mb_55 : sm_mb 55 = true := by decide +kernel
theorem mb_56 : sm_mb 56 = true := by decide +kernel
theorem mb_57 : sm_mb 57 = true := by decide +kernel
theorem mb_58 : sm_mb 58 = true := by decide +kernel
theorem mb_59 : sm_mb 59 = true := by decide +kernel
theorem mb_60 : sm_mb 60 = true := by decide +kernel
theorem mb_61 : sm_mb 61 = true := by decide +kernel
theorem mb_62 : sm_mb 62 = true := by decide +kernel
theorem mb_63 : sm_mb 63 = true := by decide +kernel
theorem mb_64 : sm_mb 64 = true := by decide +kernel
theorem mb_65 : sm_mb 65 = true := by decide +kernel
theorem mb_66 : sm_mb 66 = true := by decide +kernel
theorem mb_67 : sm_mb 67 = true := by decide +kernel
theorem mb_68 : sm_mb 68 = true := by decide +kernel
theorem mb_69 : sm_mb 69 = true := by decide +kernel
theorem mb_70 : sm_mb 70 = true := by decide +kernel
theorem mb_71 : sm_mb 71 = true := by decide +kernel
theorem mb_72 : sm_mb 72 = true := by decide +kernel
theorem mb_73 : sm_mb 73 = true := by decide +kernel
theorem mb_74 : sm_mb 74 = true := by decide +kernel
theorem mb_75 : sm_mb 75 = true := by decide +kernel
theorem mb_76 : sm_mb 76 = true := by decide +kernel
theorem mb_77 : sm_mb 77 = true := by decide +kernel
theorem mb_78 : sm_mb 78 = true := by decide +kernel
theorem mb_79 : sm_mb 79 = true := by decide +kernel
theorem mb_80 : sm_mb 80 = true := by decide +kernel
theorem mb_81 : sm_mb 81 = true := by decide +kernel
theorem mb_82 : sm_mb 82 = true := by decide +kernel
theorem mb_83 : sm_mb 83 = true := by decide +kernel
theorem mb_84 : sm_mb 84 = true := by decide +kernel
theorem mb_85 : sm_mb 85 = true := by decide +kernel
theorem mb_86 : sm_mb 86 = true := by decide +kernel
theorem mb_87 : sm_mb 87 = true := by decide +kernel
theorem mb_88 : sm_mb 88 = true := by decide +kernel
theorem mb_89 : sm_mb 89 = true := by decide +kernel
theorem mb_90 : sm_mb 90 = true := by decide +kernel
theorem mb_91 : sm_mb 91 = true := by decide +kernel
theorem mb_92 : sm_mb 92 = true := by decide +kernel
theorem mb_93 : sm_mb 93 = true := by decide +kernel
theorem mb_94 : sm_mb 94 = true := by decide +kernel
theorem mb_95 : sm_mb 95 = true := by decide +kernel
theorem mb_96 : sm_mb 96 = true := by decide +kernel
theorem mb_97 : sm_mb 97 = true := by decide +kernel
theorem mb_98 : sm_mb 98 = true := by decide +kernel
theorem mb_99 : sm_mb 99 = true := by decide +kernel
theorem mb_100 : sm_mb 100 = true := by decide +kernel
theorem mb_101 : sm_mb 101 = true := by decide +kernel
theorem mb_102 : sm_mb 102 = true := by decide +kernel
theorem mb_103 : sm_mb 103 = true := by decide +kernel
theorem mb_104 : sm_mb 104 = true := by decide +kernel
theorem mb_105 : sm_mb 105 = true := by decide +kernel
theorem mb_106 : sm_mb 106 = true := by decide +kernel
theorem mb_107 : sm_mb 107 = true := by decide +kernel
theorem mb_108 : sm_mb 108 = true := by decide +kernel
theorem mb_109 : sm_mb 109 = true := by decide +kernel
theorem mb_110 : sm_mb 110 = true := by decide +kernel
theorem mb_111 : sm_mb 111 = true := by decide +kernel
theorem mb_112 : sm_mb 112 = true := by decide +kernel
theorem mb_113 : sm_mb 113 = true := by decide +kernel
theorem mb_114 : sm_mb 114 = true := by decide +kernel
theorem mb_115 : sm_mb 115 = true := by decide +kernel
theorem mb_116 : sm_mb 116 = true := by decide +kernel
theorem mb_117 : sm_mb 117 = true := by decide +kernel
theorem mb_118 : sm_mb 118 = true := by decide +kernel
theorem mb_119 : sm_mb 119 = true := by decide +kernel
theorem mb_120 : sm_mb 120 = true := by decide +kernel
theorem mb_121 : sm_mb 121 = true := by decide +kernel
theorem mb_122 : sm_mb 122 = true := by decide +kernel
theorem mb_123 : sm_mb 123 = true := by decide +kernel
theorem mb_124 : sm_mb 124 = true := by decide +kernel
theorem mb_125 : sm_mb 125 = true := by decide +kernel
theorem mb_126 : sm_mb 126 = true := by decide +kernel
theorem mb_127 : sm_mb 127 = true := by decide +kernel
theorem mb_128 : sm_mb 128 = true := by decide +kernel
theorem mb_129 : sm_mb 129 = true := by decide +kernel
theorem mb_130 : sm_mb 130 = true := by decide +kernel
theorem mb_131 : sm_mb 131 = true := by decide +kernel
theorem mb_132 : sm_mb 132 = true := by decide +kernel
theorem mb_133 : sm_mb 133 = true := by decide +kernel
theorem mb_134 : sm_mb 134 = true := by decide +kernel
theorem mb_135 : sm_mb 135 = true := by decide +kernel
theorem mb_136 : sm_mb 136 = true := by decide +kernel
theorem mb_137 : sm_mb 137 = true := by decide +kernel
theorem mb_138 : sm_mb 138 = true := by decide +kernel
theorem mb_139 : sm_mb 139 = true := by decide +kernel
theorem mb_140 : sm_mb 140 = true := by decide +kernel
theorem mb_141 : sm_mb 141 = true := by decide +kernel
theorem mb_142 : sm_mb 142 = true := by decide +kernel
theorem mb_143 : sm_mb 143 = true := by decide +kernel
theorem mb_144 : sm_mb 144 = true := by decide +kernel
theorem mb_145 : sm_mb 145 = true := by decide +kernel
theorem mb_146 : sm_mb 146 = true := by decide +kernel
theorem mb_147 : sm_mb 147 = true := by decide +kernel
theorem mb_148 : sm_mb 148 = true := by decide +kernel
theorem mb_149 : sm_mb 149 = true := by decide +kernel
theorem mb_150 : sm_mb 150 = true := by decide +kernel
theorem mb_151 : sm_mb 151 = true := by decide +kernel
theorem mb_152 : sm_mb 152 = true := by decide +kernel
theorem mb_153 : sm_mb 153 = true := by decide +kernel
theorem mb_154 : sm_mb 154 = true := by decide +kernel
theorem mb_155 : sm_mb 155 = true := by decide +kernel
theorem mb_156 : sm_mb 156 = true := by decide +kernel
theorem mb_157 : sm_mb 157 = true := by decide +kernel
theorem mb_158 : sm_mb 158 = true := by decide +kernel
theorem mb_159 : sm_mb 159 = true := by decide +kernel
theorem mb_160 : sm_mb 160 = true := by decide +kernel
theorem mb_161 : sm_mb 161 = true := by decide +kernel
theorem mb_162 : sm_mb 162 = true := by decide +kernel
theorem mb_163 : sm_mb 163 = true := by decide +kernel
theorem mb_164 : sm_mb 164 = true := by decide +kernel
theorem mb_165 : sm_mb 165 = true := by decide +kernel
theorem mb_166 : sm_mb 166 = true := by decide +kernel
theorem mb_167 : sm_mb 167 = true := by decide +kernel
theorem mb_168 : sm_mb 168 = true := by decide +kernel
theorem mb_169 : sm_mb 169 = true := by decide +kernel
theorem mb_170 : sm_mb 170 = true := by decide +kernel
theorem mb_171 : sm_mb 171 = true := by decide +kernel
theorem mb_172 : sm_mb 172 = true := by decide +kernel
theorem mb_173 : sm_mb 173 = true := by decide +kernel
theorem mb_174 : sm_mb 174 = true := by decide +kernel
theorem mb_175 : sm_mb 175 = true := by decide +kernel
theorem mb_176 : sm_mb 176 = true := by decide +kernel
theorem mb_177 : sm_mb 177 = true := by decide +kernel
theorem mb_178 : sm_mb 178 = true := by decide +kernel
theorem mb_179 : sm_mb 179 = true := by decide +kernel
theorem mb_180 : sm_mb 180 = true := by decide +kernel
theorem mb_181 : sm_mb 181 = true := by decide +kernel
theorem mb_182 : sm_mb 182 = true := by decide +kernel
theorem mb_183 : sm_mb 183 = true := by decide +kernel
theorem mb_184 : sm_mb 184 = true := by decide +kernel
theorem mb_185 : sm_mb 185 = true := by decide +kernel
theorem mb_186 : sm_mb 186 = true := by decide +kernel
theorem mb_187 : sm_mb 187 = true := by decide +kernel
theorem mb_188 : sm_mb 188 = true := by decide +kernel
theorem mb_189 : sm_mb 189 = true := by decide +kernel
theorem mb_190 : sm_mb 190 = true := by decide +kernel
theorem mb_191 : sm_mb 191 = true := by decide +kernel
theorem mb_192 : sm_mb 192 = true := by decide +kernel
theorem mb_193 : sm_mb 193 = true := by decide +kernel
theorem mb_194 : sm_mb 194 = true := by decide +kernel
theorem mb_195 : sm_mb 195 = true := by decide +kernel
theorem mb_196 : sm_mb 196 = true := by decide +kernel
theorem mb_197 : sm_mb 197 = true := by decide +kernel
theorem mb_198 : sm_mb 198 = true := by decide +kernel
theorem mb_199 : sm_mb 199 = true := by decide +kernel
theorem mb_200 : sm_mb 200 = true := by decide +kernel
theorem mb_201 : sm_mb 201 = true := by decide +kernel
theorem mb_202 : sm_mb 202 = true := by decide +kernel
theorem mb_203 : sm_mb 203 = true := by decide +kernel
theorem mb_204 : sm_mb 204 = true := by decide +kernel
theorem mb_205 : sm_mb 205 = true := by decide +kernel
theorem mb_206 : sm_mb 206 = true := by decide +kernel
theorem mb_207 : sm_mb 207 = true := by decide +kernel
theorem mb_208 : sm_mb 208 = true := by decide +kernel
theorem mb_209 : sm_mb 209 = true := by decide +kernel
theorem mb_210 : sm_mb 210 = true := by decide +kernel
theorem mb_211 : sm_mb 211 = true := by decide +kernel
theorem mb_212 : sm_mb 212 = true := by decide +kernel
theorem mb_213 : sm_mb 213 = true := by decide +kernel
theorem mb_214 : sm_mb 214 = true := by decide +kernel
theorem mb_215 : sm_mb 215 = true := by decide +kernel
theorem mb_216 : sm_mb 216 = true := by decide +kernel
theorem mb_217 : sm_mb 217 = true := by decide +kernel
theorem mb_218 : sm_mb 218 = true := by decide +kernel
theorem mb_219 : sm_mb 219 = true := by decide +kernel
theorem mb_220 : sm_mb 220 = true := by decide +kernel
theorem mb_221 : sm_mb 221 = true := by decide +kernel
theorem mb_222 : sm_mb 222 = true := by decide +kernel
theorem mb_223 : sm_mb 223 = true := by decide +kernel
theorem mb_224 : sm_mb 224 = true := by decide +kernel
theorem mb_225 : sm_mb 225 = true := by decide +kernel
theorem mb_226 : sm_mb 226 = true := by decide +kernel
theorem mb_227 : sm_mb 227 = true := by decide +kernel
theorem mb_228 : sm_mb 228 = true := by decide +kernel
theorem mb_229 : sm_mb 229 = true := by decide +kernel
theorem mb_230 : sm_mb 230 = true := by decide +kernel
theorem mb_231 : sm_mb 231 = true := by decide +kernel
theorem mb_232 : sm_mb 232 = true := by decide +kernel
theorem mb_233 : sm_mb 233 = true := by decide +kernel
theorem mb_234 : sm_mb 234 = true := by decide +kernel
theorem mb_235 : sm_mb 235 = true := by decide +kernel
theorem mb_236 : sm_mb 236 = true := by decide +kernel
theorem mb_237 : sm_mb 237 = true := by decide +kernel
theorem mb_238 : sm_mb 238 = true := by decide +kernel
theorem mb_239 : sm_mb 239 = true := by decide +kernel
theorem mb_240 : sm_mb 240 = true := by decide +kernel
theorem mb_241 : sm_mb 241 = true := by decide +kernel
theorem mb_242 : sm_mb 242 = true := by decide +kernel
theorem mb_243 : sm_mb 243 = true := by decide +kernel
theorem mb_244 : sm_mb 244 = true := by decide +kernel
theorem mb_245 : sm_mb 245 = true := by decide +kernel
theorem mb_246 : sm_mb 246 = true := by decide +kernel
theorem mb_247 : sm_mb 247 = true := by decide +kernel
theorem mb_248 : sm_mb 248 = true := by decide +kernel
theorem mb_249 : sm_mb 249 = true := by decide +kernel
theorem mb_250 : sm_mb 250 = true := by decide +kernel
theorem mb_251 : sm_mb 251 = true := by decide +kernel
theorem mb_252 : sm_mb 252 = true := by decide +kernel
theorem mb_253 : sm_mb 253 = true := by decide +kernel
theorem mb_254 : sm_mb 254 = true := by decide +kernel
theorem mb_255 : sm_mb 255 = true := by decide +kernel
theorem mb_256 : sm_mb 256 = true := by decide +kernel
theorem mb_257 : sm_mb 257 = true := by decide +kernel
theorem mb_258 : sm_mb 258 = true := by decide +kernel
theorem mb_259 : sm_mb 259 = true := by decide +kernel
theorem mb_260 : sm_mb 260 = true := by decide +kernel
theorem mb_261 : sm_mb 261 = true := by decide +kernel
theorem mb_262 : sm_mb 262 = true := by decide +kernel
theorem mc_0 : ∀ a, a < 0 → sm_mb a = true := lt_0
theorem mc_1 : ∀ a, a < 1 → sm_mb a = true := lt_s mc_0 mb_0
theorem mc_2 : ∀ a, a < 2 → sm_mb a = true := lt_s mc_1 mb_1
theorem mc_3 : ∀ a, a < 3 → sm_mb a = true := lt_s mc_2 mb_2
theorem mc_4 : ∀ a, a < 4 → sm_mb a = true := lt_s mc_3 mb_3
theorem mc_5 : ∀ a, a < 5 → sm_mb a = true := lt_s mc_4 mb_4
theorem mc_6 : ∀ a, a < 6 → sm_mb a = true := lt_s mc_5 mb_5
theorem mc_7 : ∀ a, a < 7 → sm_mb a = true := lt_s mc_6 mb_6
theorem mc_8 : ∀ a, a < 8 → sm_mb a = true := lt_s mc_7 mb_7
theorem mc_9 : ∀ a, a < 9 → sm_mb a = true := lt_s mc_8 mb_8
theorem mc_10 : ∀ a, a < 10 → sm_mb a = true := lt_s mc_9 mb_9
theorem mc_11 : ∀ a, a < 11 → sm_mb a = true := lt_s mc_10 mb_10
theorem mc_12 : ∀ a, a < 12 → sm_mb a = true := lt_s mc_11 mb_11
theorem mc_13 : ∀ a, a < 13 → sm_mb a = true := lt_s mc_12 mb_12
theorem mc_14 : ∀ a, a < 14 → sm_mb a = true := lt_s mc_13 mb_13
theorem mc_15 : ∀ a, a < 15 → sm_mb a = true := lt_s mc_14 mb_14
theorem mc_16 : ∀ a, a < 16 → sm_mb a = true := lt_s mc_15 mb_15
theorem mc_17 : ∀ a, a < 17 → sm_mb a = true := lt_s mc_16 mb_16
theorem mc_18 : ∀ a, a < 18 → sm_mb a = true := lt_s mc_17 mb_17
theorem mc_19 : ∀ a, a < 19 → sm_mb a = true := lt_s mc_18 mb_18
theorem mc_20 : ∀ a, a < 20 → sm_mb a = true := lt_s mc_19 mb_19
theorem mc_21 : ∀ a, a < 21 → sm_mb a = true := lt_s mc_20 mb_20
theorem mc_22 : ∀ a, a < 22 → sm_mb a = true := lt_s mc_21 mb_21
theorem mc_23 : ∀ a, a < 23 → sm_mb a = true := lt_s mc_22 mb_22
theorem mc_24 : ∀ a, a < 24 → sm_mb a = true := lt_s mc_23 mb_23
theorem mc_25 : ∀ a, a < 25 → sm_mb a = true := lt_s mc_24 mb_24
theorem mc_26 : ∀ a, a < 26 → sm_mb a = true := lt_s mc_25 mb_25
theorem mc_27 : ∀ a, a < 27 → sm_mb a = true := lt_s mc_26 mb_26
theorem mc_28 : ∀ a, a < 28 → sm_mb a = true := lt_s mc_27 mb_27
theorem mc_29 : ∀ a, a < 29 → sm_mb a = true := lt_s mc_28 mb_28
theorem mc_30 : ∀ a, a < 30 → sm_mb a = true := lt_s mc_29 mb_29
theorem mc_31 : ∀ a, a < 31 → sm_mb a = true := lt_s mc_30 mb_30
theorem mc_32 : ∀ a, a < 32 → sm_mb a = true := lt_s mc_31 mb_31
theorem mc_33 : ∀ a, a < 33 → sm_mb a = true := lt_s mc_32 mb_32
theorem mc_34 : ∀ a, a < 34 → sm_mb a = true := lt_s mc_33 mb_33
theorem mc_35 : ∀ a, a < 35 → sm_mb a = true := lt_s mc_34 mb_34
theorem mc_36 : ∀ a, a < 36 → sm_mb a = true := lt_s mc_35 mb_35
theorem mc_37 : ∀ a, a < 37 → sm_mb a = true := lt_s mc_36 mb_36
theorem mc_38 : ∀ a, a < 38 → sm_mb a = true := lt_s mc_37 mb_37
theorem mc_39 : ∀ a, a < 39 → sm_mb a = true := lt_s mc_38 mb_38
theorem mc_40 : ∀ a, a < 40 → sm_mb a = true := lt_s mc_39 mb_39
theorem mc_41 : ∀ a, a < 41 → sm_mb a = true := lt_s mc_40 mb_40
theorem mc_42 : ∀ a, a < 42 → sm_mb a = true := lt_s mc_41 mb_41
theorem mc_43 : ∀ a, a < 43 → sm_mb a = true := lt_s mc_42 mb_42
theorem mc_44 : ∀ a, a < 44 → sm_mb a = true := lt_s mc_43 mb_43
theorem mc_45 : ∀ a, a < 45 → sm_mb a = true := lt_s mc_44 mb_44
theorem mc_46 : ∀ a, a < 46 → sm_mb a = true := lt_s mc_45 mb_45
theorem mc_47 : ∀ a, a < 47 → sm_mb a = true := lt_s mc_46 mb_46
theorem mc_48 : ∀ a, a < 48 → sm_mb a = true := lt_s mc_47 mb_47
theorem mc_49 : ∀ a, a < 49 → sm_mb a = true := lt_s mc_48 mb_48
theorem mc_50 : ∀ a, a < 50 → sm_mb a = true := lt_s mc_49 mb_49
theorem mc_51 : ∀ a, a < 51 → sm_mb a = true := lt_s mc_50 mb_50
theorem mc_52 : ∀ a, a < 52 → sm_mb a = true := lt_s mc_51 mb_51
theorem mc_53 : ∀ a, a < 53 → sm_mb a = true := lt_s mc_52 mb_52
theorem mc_54 : ∀ a, a < 54 → sm_mb a = true := lt_s mc_53 mb_53
theorem mc_55 : ∀ a, a < 55 → sm_mb a = true := lt_s mc_54 mb_54
theorem mc_56 : ∀ a, a < 56 → sm_mb a = true := lt_s mc_55 mb_55
theorem mc_57 : ∀ a, a < 57 → sm_mb a = true := lt_s mc_56 mb_56
theorem mc_58 : ∀ a, a < 58 → sm_mb a = true := lt_s mc_57 mb_57
theorem mc_59 : ∀ a, a < 59 → sm_mb a = true := lt_s mc_58 mb_58
theorem mc_60 : ∀ a, a < 60 → sm_mb a = true := lt_s mc_59 mb_59
theorem mc_61 : ∀ a, a < 61 → sm_mb a = true := lt_s mc_60 mb_60
theorem mc_62 : ∀ a, a < 62 → sm_mb a = true := lt_s mc_61 mb_61
theorem mc_63 : ∀ a, a < 63 → sm_mb a = true := lt_s mc_62 mb_62
theorem mc_64 : ∀ a, a < 64 → sm_mb a = true := lt_s mc_63 mb_63
theorem mc_65 : ∀ a, a < 65 → sm_mb a = true := lt_s mc_64 mb_64
theorem mc_66 : ∀ a, a < 66 → sm_mb a = true := lt_s mc_65 mb_65
theorem mc_67 : ∀ a, a < 67 → sm_mb a = true := lt_s mc_66 mb_66
theorem mc_68 : ∀ a, a < 68 → sm_mb a = true := lt_s mc_67 mb_67
theorem mc_69 : ∀ a, a < 69 → sm_mb a = true := lt_s mc_68 mb_68
theorem mc_70 : ∀ a, a < 70 → sm_mb a = true := lt_s mc_69 mb_69
theorem mc_71 : ∀ a, a < 71 → sm_mb a = true := lt_s mc_70 mb_70
theorem mc_72 : ∀ a, a < 72 → sm_mb a = true := lt_s mc_71 mb_71
theorem mc_73 : ∀ a, a < 73 → sm_mb a = true := lt_s mc_72 mb_72
theorem mc_74 : ∀ a, a < 74 → sm_mb a = true := lt_s mc_73 mb_73
theorem mc_75 : ∀ a, a < 75 → sm_mb a = true := lt_s mc_74 mb_74
theorem mc_76 : ∀ a, a < 76 → sm_mb a = true := lt_s mc_75 mb_75
theorem mc_77 : ∀ a, a < 77 → sm_mb a = true := lt_s mc_76 mb_76
theorem mc_78 : ∀ a, a < 78 → sm_mb a = true := lt_s mc_77 mb_77
theorem mc_79 : ∀ a, a < 79 → sm_mb a = true := lt_s mc_78 mb_78
theorem mc_80 : ∀ a, a < 80 → sm_mb a = true := lt_s mc_79 mb_79
theorem mc_81 : ∀ a, a < 81 → sm_mb a = true := lt_s mc_80 mb_80
theorem mc_82 : ∀ a, a < 82 → sm_mb a = true := lt_s mc_81 mb_81
theorem mc_83 : ∀ a, a < 83 → sm_mb a = true := lt_s mc_82 mb_82
theorem mc_84 : ∀ a, a < 84 → sm_mb a = true := lt_s mc_83 mb_83
theorem mc_85 : ∀ a, a < 85 → sm_mb a = true := lt_s mc_84 mb_84
theorem mc_86 : ∀ a, a < 86 → sm_mb a = true := lt_s mc_85 mb_85
theorem mc_87 : ∀ a, a < 87 → sm_mb a = true := lt_s mc_86 mb_86
theorem mc_88 : ∀ a, a < 88 → sm_mb a = true := lt_s mc_87 mb_87
theorem mc_89 : ∀ a, a < 89 → sm_mb a = true := lt_s mc_88 mb_88
theorem mc_90 : ∀ a, a < 90 → sm_mb a = true := lt_s mc_89 mb_89
theorem mc_91 : ∀ a, a < 91 → sm_mb a = true := lt_s mc_90 mb_90
theorem mc_92 : ∀ a, a < 92 → sm_mb a = true := lt_s mc_91 mb_91
theorem mc_93 : ∀ a, a < 93 → sm_mb a = true := lt_s mc_92 mb_92
theorem mc_94 : ∀ a, a < 94 → sm_mb a = true := lt_s mc_93 mb_93
theorem mc_95 : ∀ a, a < 95 → sm_mb a = true := lt_s mc_94 mb_94
theorem mc_96 : ∀ a, a < 96 → sm_mb a = true := lt_s mc_95 mb_95
theorem mc_97 : ∀ a, a < 97 → sm_mb a = true := lt_s mc_96 mb_96
theorem mc_98 : ∀ a, a < 98 → sm_mb a = true := lt_s mc_97 mb_97
theorem mc_99 : ∀ a, a < 99 → sm_mb a = true := lt_s mc_98 mb_98
theorem mc_100 : ∀ a, a < 100 → sm_mb a = true := lt_s mc_99 mb_99
theorem mc_101 : ∀ a, a < 101 → sm_mb a = true := lt_s mc_100 mb_100
theorem mc_102 : ∀ a, a < 102 → sm_mb a = true := lt_s mc_101 mb_101
theorem mc_103 : ∀ a, a < 103 → sm_mb a = true := lt_s mc_102 mb_102
theorem mc_104 : ∀ a, a < 104 → sm_mb a = true := lt_s mc_103 mb_103
theorem mc_105 : ∀ a, a < 105 → sm_mb a = true := lt_s mc_104 mb_104
theorem mc_106 : ∀ a, a < 106 → sm_mb a = true := lt_s mc_105 mb_105
theorem mc_107 : ∀ a, a < 107 → sm_mb a = true := lt_s mc_106 mb_106
theorem mc_108 : ∀ a, a < 108 → sm_mb a = true := lt_s mc_107 mb_107
theorem mc_109 : ∀ a, a < 109 → sm_mb a = true := lt_s mc_108 mb_108
theorem mc_110 : ∀ a, a < 110 → sm_mb a = true := lt_s mc_109 mb_109
theorem mc_111 : ∀ a, a < 111 → sm_mb a = true := lt_s mc_110 mb_110
theorem mc_112 : ∀ a, a < 112 → sm_mb a = true := lt_s mc_111 mb_111
theorem mc_113 : ∀ a, a < 113 → sm_mb a = true := lt_s mc_112 mb_112
theorem mc_114 : ∀ a, a < 114 → sm_mb a = true := lt_s mc_113 mb_113
theorem mc_115 : ∀ a, a < 115 → sm_mb a = true := lt_s mc_114 mb_114
theorem mc_116 : ∀ a, a < 116 → sm_mb a = true := lt_s mc_115 mb_115
theorem mc_117 : ∀ a, a < 117 → sm_mb a = true := lt_s mc_116 mb_116
theorem mc_118 : ∀ a, a < 118 → sm_mb a = true := lt_s mc_117 mb_117
theorem mc_119 : ∀ a, a < 119 → sm_mb a = true := lt_s mc_118 mb_118
theorem mc_120 : ∀ a, a < 120 → sm_mb a = true := lt_s mc_119 mb_119
theorem mc_121 : ∀ a, a < 121 → sm_mb a = true := lt_s mc_120 mb_120
theorem mc_122 : ∀ a, a < 122 → sm_mb a = true := lt_s mc_121 mb_121
theorem mc_123 : ∀ a, a < 123 → sm_mb a = true := lt_s mc_122 mb_122
theorem mc_124 : ∀ a, a < 124 → sm_mb a = true := lt_s mc_123 mb_123
theorem mc_125 : ∀ a, a < 125 → sm_mb a = true := lt_s mc_124 mb_124
theorem mc_126 : ∀ a, a < 126 → sm_mb a = true := lt_s mc_125 mb_125
theorem mc_127 : ∀ a, a < 127 → sm_mb a = true := lt_s mc_126 mb_126
theorem mc_128 : ∀ a, a < 128 → sm_mb a = true := lt_s mc_127 mb_127
theorem mc_129 : ∀ a, a < 129 → sm_mb a = true := lt_s mc_128 mb_128
theorem mc_130 : ∀ a, a < 130 → sm_mb a = true := lt_s mc_129 mb_129
theorem mc_131 : ∀ a, a < 131 → sm_mb a = true := lt_s mc_130 mb_130
theorem mc_132 : ∀ a, a < 132 → sm_mb a = true := lt_s mc_131 mb_131
theorem mc_133 : ∀ a, a < 133 → sm_mb a = true := lt_s mc_132 mb_132
theorem mc_134 : ∀ a, a < 134 → sm_mb a = true := lt_s mc_133 mb_133
theorem mc_135 : ∀ a, a < 135 → sm_mb a = true := lt_s mc_134 mb_134
theorem mc_136 : ∀ a, a < 136 → sm_mb a = true := lt_s mc_135 mb_135
theorem mc_137 : ∀ a, a < 137 → sm_mb a = true := lt_s mc_136 mb_136
theorem mc_138 : ∀ a, a < 138 → sm_mb a = true := lt_s mc_137 mb_137
theorem mc_139 : ∀ a, a < 139 → sm_mb a = true := lt_s mc_138 mb_138
theorem mc_140 : ∀ a, a < 140 → sm_mb a = true := lt_s mc_139 mb_139
theorem mc_141 : ∀ a, a < 141 → sm_mb a = true := lt_s mc_140 mb_140
theorem mc_142 : ∀ a, a < 142 → sm_mb a = true := lt_s mc_141 mb_141
theorem mc_143 : ∀ a, a < 143 → sm_mb a = true := lt_s mc_142 mb_142
theorem mc_144 : ∀ a, a < 144 → sm_mb a = true := lt_s mc_143 mb_143
theorem mc_145 : ∀ a, a < 145 → sm_mb a = true := lt_s mc_144 mb_144
theorem mc_146 : ∀ a, a < 146 → sm_mb a = true := lt_s mc_145 mb_145
theorem mc_147 : ∀ a, a < 147 → sm_mb a = true := lt_s mc_146 mb_146
theorem mc_148 : ∀ a, a < 148 → sm_mb a = true := lt_s mc_147 mb_147
theorem mc_149 : ∀ a, a < 149 → sm_mb a = true := lt_s mc_148 mb_148
theorem mc_150 : ∀ a, a < 150 → sm_mb a = true := lt_s mc_149 mb_149
theorem mc_151 : ∀ a, a < 151 → sm_mb a = true := lt_s mc_150 mb_150
theorem mc_152 : ∀ a, a < 152 → sm_mb a = true := lt_s mc_151 mb_151
theorem mc_153 : ∀ a, a < 153 → sm_mb a = true := lt_s mc_152 mb_152
theorem mc_154 : ∀ a, a < 154 → sm_mb a = true := lt_s mc_153 mb_153
theorem mc_155 : ∀ a, a < 155 → sm_mb a = true := lt_s mc_154 mb_154
theorem mc_156 : ∀ a, a < 156 → sm_mb a = true := lt_s mc_155 mb_155
theorem mc_157 : ∀ a, a < 157 → sm_mb a = true := lt_s mc_156 mb_156
theorem mc_158 : ∀ a, a < 158 → sm_mb a = true := lt_s mc_157 mb_157
theorem mc_159 : ∀ a, a < 159 → sm_mb a = true := lt_s mc_158 mb_158
theorem mc_160 : ∀ a, a < 160 → sm_mb a = true := lt_s mc_159 mb_159
theorem mc_161 : ∀ a, a < 161 → sm_mb a = true := lt_s mc_160 mb_160
theorem mc_162 : ∀ a, a < 162 → sm_mb a = true := lt_s mc_161 mb_161
theorem mc_163 : ∀ a, a < 163 → sm_mb a = true := lt_s mc_162 mb_162
theorem mc_164 : ∀ a, a < 164 → sm_mb a = true := lt_s mc_163 mb_163
theorem mc_165 : ∀ a, a < 165 → sm_mb a = true := lt_s mc_164 mb_164
theorem mc_166 : ∀ a, a < 166 → sm_mb a = true := lt_s mc_165 mb_165
theorem mc_167 : ∀ a, a < 167 → sm_mb a = true := lt_s mc_166 mb_166
theorem mc_168 : ∀ a, a < 168 → sm_mb a = true := lt_s mc_167 mb_167
theorem mc_169 : ∀ a, a < 169 → sm_mb a = true := lt_s mc_168 mb_168
theorem mc_170 : ∀ a, a < 170 → sm_mb a = true := lt_s mc_169 mb_169
theorem mc_171 : ∀ a, a < 171 → sm_mb a = true := lt_s mc_170 mb_170
theorem mc_172 : ∀ a, a < 172 → sm_mb a = true := lt_s mc_171 mb_171
theorem mc_173 : ∀ a, a < 173 → sm_mb a = true := lt_s mc_172 mb_172
theorem mc_174 : ∀ a, a < 174 → sm_mb a = true := lt_s mc_173 mb_173
theorem mc_175 : ∀ a, a < 175 → sm_mb a = true := lt_s mc_174 mb_174
theorem mc_176 : ∀ a, a < 176 → sm_mb a = true := lt_s mc_175 mb_175
theorem mc_177 : ∀ a, a < 177 → sm_mb a = true := lt_s mc_176 mb_176
theorem mc_178 : ∀ a, a < 178 → sm_mb a = true := lt_s mc_177 mb_177
theorem mc_179 : ∀ a, a < 179 → sm_mb a = true := lt_s mc_178 mb_178
theorem mc_180 : ∀ a, a < 180 → sm_mb a = true := lt_s mc_179 mb_179
theorem mc_181 : ∀ a, a < 181 → sm_mb a = true := lt_s mc_180 mb_180
theorem mc_182 : ∀ a, a < 182 → sm_mb a = true := lt_s mc_181 mb_181
theorem mc_183 : ∀ a, a < 183 → sm_mb a = true := lt_s mc_182 mb_182
theorem mc_184 : ∀ a, a < 184 → sm_mb a = true := lt_s mc_183 mb_183
theorem mc_185 : ∀ a, a < 185 → sm_mb a = true := lt_s mc_184 mb_184
theorem mc_186 : ∀ a, a < 186 → sm_mb a = true := lt_s mc_185 mb_185
theorem mc_187 : ∀ a, a < 187 → sm_mb a = true := lt_s mc_186 mb_186
theorem mc_188 : ∀ a, a < 188 → sm_mb a = true := lt_s mc_187 mb_187
theorem mc_189 : ∀ a, a < 189 → sm_mb a = true := lt_s mc_188 mb_188
theorem mc_190 : ∀ a, a < 190 → sm_mb a = true := lt_s mc_189 mb_189
theorem mc_191 : ∀ a, a < 191 → sm_mb a = true := lt_s mc_190 mb_190
theorem mc_192 : ∀ a, a < 192 → sm_mb a = true := lt_s mc_191 mb_191
theorem mc_193 : ∀ a, a < 193 → sm_mb a = true := lt_s mc_192 mb_192
theorem mc_194 : ∀ a, a < 194 → sm_mb a = true := lt_s mc_193 mb_193
theorem mc_195 : ∀ a, a < 195 → sm_mb a = true := lt_s mc_194 mb_194
theorem mc_196 : ∀ a, a < 196 → sm_mb a = true := lt_s mc_195 mb_195
theorem mc_197 : ∀ a, a < 197 → sm_mb a = true := lt_s mc_196 mb_196
theorem mc_198 : ∀ a, a < 198 → sm_mb a = true := lt_s mc_197 mb_197
theorem mc_199 : ∀ a, a < 199 → sm_mb a = true := lt_s mc_198 mb_198
theorem mc_200 : ∀ a, a < 200 → sm_mb a = true := lt_s mc_199 mb_199
theorem mc_201 : ∀ a, a < 201 → sm_mb a = true := lt_s mc_200 mb_200
theorem mc_202 : ∀ a, a < 202 → sm_mb a = true := lt_s mc_201 mb_201
theorem mc_203 : ∀ a, a < 203 → sm_mb a = true := lt_s mc_202 mb_202
theorem mc_204 : ∀ a, a < 204 → sm_mb a = true := lt_s mc_203 mb_203
theorem mc_205 : ∀ a, a < 205 → sm_mb a = true := lt_s mc_204 mb_204
theorem mc_206 : ∀ a, a < 206 → sm_mb a = true := lt_s mc_205 mb_205
theorem mc_207 : ∀ a, a < 207 → sm_mb a = true := lt_s mc_206 mb_206
theorem mc_208 : ∀ a, a < 208 → sm_mb a = true := lt_s mc_207 mb_207
theorem mc_209 : ∀ a, a < 209 → sm_mb a = true := lt_s mc_208 mb_208
theorem mc_210 : ∀ a, a < 210 → sm_mb a = true := lt_s mc_209 mb_209
theorem mc_211 : ∀ a, a < 211 → sm_mb a = true := lt_s mc_210 mb_210
theorem mc_212 : ∀ a, a < 212 → sm_mb a = true := lt_s mc_211 mb_211
theorem mc_213 : ∀ a, a < 213 → sm_mb a = true := lt_s mc_212 mb_212
theorem mc_214 : ∀ a, a < 214 → sm_mb a = true := lt_s mc_213 mb_213
theorem mc_215 : ∀ a, a < 215 → sm_mb a = true := lt_s mc_214 mb_214
theorem mc_216 : ∀ a, a < 216 → sm_mb a = true := lt_s mc_215 mb_215
theorem mc_217 : ∀ a, a < 217 → sm_mb a = true := lt_s mc_216 mb_216
theorem mc_218 : ∀ a, a < 218 → sm_mb a = true := lt_s mc_217 mb_217
theorem mc_219 : ∀ a, a < 219 → sm_mb a = true := lt_s mc_218 mb_218
theorem mc_220 : ∀ a, a < 220 → sm_mb a = true := lt_s mc_219 mb_219
theorem mc_221 : ∀ a, a < 221 → sm_mb a = true := lt_s mc_220 mb_220
theorem mc_222 : ∀ a, a < 222 → sm_mb a = true := lt_s mc_221 mb_221
theorem mc_223 : ∀ a, a < 223 → sm_mb a = true := lt_s mc_222 mb_222
theorem mc_224 : ∀ a, a < 224 → sm_mb a = true := lt_s mc_223 mb_223
theorem mc_225 : ∀ a, a < 225 → sm_mb a = true := lt_s mc_224 mb_224
theorem mc_226 : ∀ a, a < 226 → sm_mb a = true := lt_s mc_225 mb_225
theorem mc_227 : ∀ a, a < 227 → sm_mb a = true := lt_s mc_226 mb_226
theorem mc_228 : ∀ a, a < 228 → sm_mb a = true := lt_s mc_227 mb_227
theorem mc_229 : ∀ a, a < 229 → sm_mb a = true := lt_s mc_228 mb_228
theorem mc_230 : ∀ a, a < 230 → sm_mb a = true := lt_s mc_229 mb_229
theorem mc_231 : ∀ a, a < 231 → sm_mb a = true := lt_s mc_230 mb_230
theorem mc_232 : ∀ a, a < 232 → sm_mb a = true := lt_s mc_231 mb_231
theorem mc_233 : ∀ a, a < 233 → sm_mb a = true := lt_s mc_232 mb_232
theorem mc_234 : ∀ a, a < 234 → sm_mb a = true := lt_s mc_233 mb_233
theorem mc_235 : ∀ a, a < 235 → sm_mb a = true := lt_s mc_234 mb_234
theorem mc_236 : ∀ a, a < 236 → sm_mb a = true := lt_s mc_235 mb_235
theorem mc_237 : ∀ a, a < 237 → sm_mb a = true := lt_s mc_236 mb_236
theorem mc_238 : ∀ a, a < 238 → sm_mb a = true := lt_s mc_237 mb_237
theorem mc_239 : ∀ a, a < 239 → sm_mb a = true := lt_s mc_238 mb_238
theorem mc_240 : ∀ a, a < 240 → sm_mb a = true := lt_s mc_239 mb_239
theorem mc_241 : ∀ a, a < 241 → sm_mb a = true := lt_s mc_240 mb_240
theorem mc_242 : ∀ a, a < 242 → sm_mb a = true := lt_s mc_241 mb_241
theorem mc_243 : ∀ a, a < 243 → sm_mb a = true := lt_s mc_242 mb_242
theorem mc_244 : ∀ a, a < 244 → sm_mb a = true := lt_s mc_243 mb_243
theorem mc_245 : ∀ a, a < 245 → sm_mb a = true := lt_s mc_244 mb_244
theorem mc_246 : ∀ a, a < 246 → sm_mb a = true := lt_s mc_245 mb_245
theorem mc_247 : ∀ a, a < 247 → sm_mb a = true := lt_s mc_246 mb_246
theorem mc_248 : ∀ a, a < 248 → sm_mb a = true := lt_s mc_247 mb_247
theorem mc_249 : ∀ a, a < 249 → sm_mb a = true := lt_s mc_248 mb_248
theorem mc_250 : ∀ a, a < 250 → sm_mb a = true := lt_s mc_249 mb_249
theorem mc_251 : ∀ a, a < 251 → sm_mb a = true := lt_s mc_250 mb_250
theorem mc_252 : ∀ a, a < 252 → sm_mb a = true := lt_s mc_251 mb_251
theorem mc_253 : ∀ a, a < 253 → sm_mb a = true := lt_s mc_252 mb_252
theorem mc_254 : ∀ a, a < 254 → sm_mb a = true := lt_s mc_253 mb_253
theorem mc_255 : ∀ a, a < 255 → sm_mb a = true := lt_s mc_254 mb_254
theorem mc_256 : ∀ a, a < 256 → sm_mb a = true := lt_s mc_255 mb_255
theorem mc_257 : ∀ a, a < 257 → sm_mb a = true := lt_s mc_256 mb_256
theorem mc_258 : ∀ a, a < 258 → sm_mb a = true := lt_s mc_257 mb_257
theorem mc_259 : ∀ a, a < 259 → sm_mb a = true := lt_s mc_258 mb_258
theorem mc_260 : ∀ a, a < 260 → sm_mb a = true := lt_s mc_259 mb_259
theorem mc_261 : ∀ a, a < 261 → sm_mb a = true := lt_s mc_260 mb_260
theorem mc_262 : ∀ a, a < 262 → sm_mb a = true := lt_s mc_261 mb_261
theorem mc_263 : ∀ a, a < 263 → sm_mb a = true := lt_s mc_262 mb_262
theorem sm_mb_all : ∀ m, m < 263 → sm_mb m = true := mc_263
