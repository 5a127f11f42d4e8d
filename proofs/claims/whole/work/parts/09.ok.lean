/-! The code of every method is as the small machine has it -/
set_option maxRecDepth 100000 in
theorem zok_0 : zckM 0 = true := by decide +kernel
set_option maxRecDepth 100000 in
theorem zok_1 : zckM 1 = true := by decide +kernel
set_option maxRecDepth 100000 in
theorem zok_2 : zckM 2 = true := by decide +kernel
set_option maxRecDepth 100000 in
theorem zok_3 : zckM 3 = true := by decide +kernel
set_option maxRecDepth 100000 in
theorem zok_4 : zckM 4 = true := by decide +kernel
set_option maxRecDepth 100000 in
theorem zok_5 : zckM 5 = true := by decide +kernel
set_option maxRecDepth 100000 in
theorem zok_6 : zckM 6 = true := by decide +kernel
set_option maxRecDepth 100000 in
theorem zok_7 : zckM 7 = true := by decide +kernel
set_option maxRecDepth 100000 in
theorem zok_8 : zckM 8 = true := by decide +kernel
set_option maxRecDepth 100000 in
theorem zok_9 : zckM 9 = true := by decide +kernel
set_option maxRecDepth 100000 in
theorem zok_10 : zckM 10 = true := by decide +kernel
set_option maxRecDepth 100000 in
theorem zok_11 : zckM 11 = true := by decide +kernel
set_option maxRecDepth 100000 in
theorem zok_12 : zckM 12 = true := by decide +kernel
set_option maxRecDepth 100000 in
theorem zok_13 : zckM 13 = true := by decide +kernel
set_option maxRecDepth 100000 in
theorem zok_14 : zckM 14 = true := by decide +kernel
set_option maxRecDepth 100000 in
theorem zok_15 : zckM 15 = true := by decide +kernel
set_option maxRecDepth 100000 in
theorem zok_16 : zckM 16 = true := by decide +kernel
set_option maxRecDepth 100000 in
theorem zok_17 : zckM 17 = true := by decide +kernel
set_option maxRecDepth 100000 in
theorem zok_18 : zckM 18 = true := by decide +kernel
set_option maxRecDepth 100000 in
theorem zok_19 : zckM 19 = true := by decide +kernel
set_option maxRecDepth 100000 in
theorem zok_20 : zckM 20 = true := by decide +kernel
set_option maxRecDepth 100000 in
theorem zok_21 : zckM 21 = true := by decide +kernel
set_option maxRecDepth 100000 in
theorem zok_22 : zckM 22 = true := by decide +kernel
set_option maxRecDepth 100000 in
theorem zok_23 : zckM 23 = true := by decide +kernel
set_option maxRecDepth 100000 in
theorem zok_24 : zckM 24 = true := by decide +kernel
set_option maxRecDepth 100000 in
theorem zok_25 : zckM 25 = true := by decide +kernel
set_option maxRecDepth 100000 in
theorem zok_26 : zckM 26 = true := by decide +kernel
set_option maxRecDepth 100000 in
theorem zok_27 : zckM 27 = true := by decide +kernel
set_option maxRecDepth 100000 in
theorem zok_28 : zckM 28 = true := by decide +kernel
set_option maxRecDepth 100000 in
theorem zok_29 : zckM 29 = true := by decide +kernel
set_option maxRecDepth 100000 in
theorem zok_30 : zckM 30 = true := by decide +kernel
set_option maxRecDepth 100000 in
theorem zok_31 : zckM 31 = true := by decide +kernel
set_option maxRecDepth 100000 in
theorem zok_32 : zckM 32 = true := by decide +kernel
set_option maxRecDepth 100000 in
theorem zok_33 : zckM 33 = true := by decide +kernel
set_option maxRecDepth 100000 in
theorem zok_34 : zckM 34 = true := by decide +kernel
set_option maxRecDepth 100000 in
theorem zok_35 : zckM 35 = true := by decide +kernel
set_option maxRecDepth 100000 in
theorem zok_36 : zckM 36 = true := by decide +kernel
set_option maxRecDepth 100000 in
theorem zok_37 : zckM 37 = true := by decide +kernel
set_option maxRecDepth 100000 in
theorem zok_38 : zckM 38 = true := by decide +kernel
set_option maxRecDepth 100000 in
theorem zok_39 : zckM 39 = true := by decide +kernel
set_option maxRecDepth 100000 in
theorem zok_40 : zckM 40 = true := by decide +kernel
set_option maxRecDepth 100000 in
theorem zok_41 : zckM 41 = true := by decide +kernel
set_option maxRecDepth 100000 in
theorem zok_42 : zckM 42 = true := by decide +kernel
set_option maxRecDepth 100000 in
theorem zok_43 : zckM 43 = true := by decide +kernel
set_option maxRecDepth 100000 in
theorem zok_44 : zckM 44 = true := by decide +kernel
set_option maxRecDepth 100000 in
theorem zok_45 : zckM 45 = true := by decide +kernel
set_option maxRecDepth 100000 in
theorem zok_46 : zckM 46 = true := by decide +kernel
set_option maxRecDepth 100000 in
theorem zok_47 : zckM 47 = true := by decide +kernel
set_option maxRecDepth 100000 in
theorem zok_48 : zckM 48 = true := by decide +kernel
set_option maxRecDepth 100000 in
theorem zok_49 : zckM 49 = true := by decide +kernel
set_option maxRecDepth 100000 in
theorem zok_50 : zckM 50 = true := by decide +kernel
set_option maxRecDepth 100000 in
theorem zok_51 : zckM 51 = true := by decide +kernel
set_option maxRecDepth 100000 in
theorem zok_52 : zckM 52 = true := by decide +kernel
set_option maxRecDepth 100000 in
theorem zok_53 : zckM 53 = true := by decide +kernel
set_option maxRecDepth 100000 in
theorem zok_54 : zckM 54 = true := by decide +kernel
set_option maxRecDepth 100000 in
theorem zok_55 : zckM 55 = true := by decide +kernel
set_option maxRecDepth 100000 in
theorem zok_56 : zckM 56 = true := by decide +kernel
set_option maxRecDepth 100000 in
theorem zok_57 : zckM 57 = true := by decide +kernel
set_option maxRecDepth 100000 in
theorem zok_58 : zckM 58 = true := by decide +kernel
set_option maxRecDepth 100000 in
theorem zok_59 : zckM 59 = true := by decide +kernel
set_option maxRecDepth 100000 in
theorem zok_60 : zckM 60 = true := by decide +kernel
set_option maxRecDepth 100000 in
theorem zok_61 : zckM 61 = true := by decide +kernel
set_option maxRecDepth 100000 in
theorem zok_62 : zckM 62 = true := by decide +kernel
set_option maxRecDepth 100000 in
theorem zok_63 : zckM 63 = true := by decide +kernel
set_option maxRecDepth 100000 in
theorem zok_64 : zckM 64 = true := by decide +kernel
set_option maxRecDepth 100000 in
theorem zok_65 : zckM 65 = true := by decide +kernel
set_option maxRecDepth 100000 in
theorem zok_66 : zckM 66 = true := by decide +kernel
set_option maxRecDepth 100000 in
theorem zok_67 : zckM 67 = true := by decide +kernel
set_option maxRecDepth 100000 in
theorem zok_68 : zckM 68 = true := by decide +kernel
set_option maxRecDepth 100000 in
theorem zok_69 : zckM 69 = true := by decide +kernel
set_option maxRecDepth 100000 in
theorem zok_70 : zckM 70 = true := by decide +kernel
set_option maxRecDepth 100000 in
theorem zok_71 : zckM 71 = true := by decide +kernel
set_option maxRecDepth 100000 in
theorem zok_72 : zckM 72 = true := by decide +kernel
set_option maxRecDepth 100000 in
theorem zok_73 : zckM 73 = true := by decide +kernel
set_option maxRecDepth 100000 in
theorem zok_74 : zckM 74 = true := by decide +kernel
set_option maxRecDepth 100000 in
theorem zok_75 : zckM 75 = true := by decide +kernel
set_option maxRecDepth 100000 in
theorem zok_76 : zckM 76 = true := by decide +kernel
set_option maxRecDepth 100000 in
theorem zok_77 : zckM 77 = true := by decide +kernel
set_option maxRecDepth 100000 in
theorem zok_78 : zckM 78 = true := by decide +kernel
set_option maxRecDepth 100000 in
theorem zok_79 : zckM 79 = true := by decide +kernel
set_option maxRecDepth 100000 in
theorem zok_80 : zckM 80 = true := by decide +kernel
set_option maxRecDepth 100000 in
theorem zok_81 : zckM 81 = true := by decide +kernel
set_option maxRecDepth 100000 in
theorem zok_82 : zckM 82 = true := by decide +kernel
set_option maxRecDepth 100000 in
theorem zok_83 : zckM 83 = true := by decide +kernel
set_option maxRecDepth 100000 in
theorem zok_84 : zckM 84 = true := by decide +kernel
set_option maxRecDepth 100000 in
theorem zok_85 : zckM 85 = true := by decide +kernel
set_option maxRecDepth 100000 in
theorem zok_86 : zckM 86 = true := by decide +kernel
set_option maxRecDepth 100000 in
theorem zok_87 : zckM 87 = true := by decide +kernel
set_option maxRecDepth 100000 in
theorem zok_88 : zckM 88 = true := by decide +kernel
set_option maxRecDepth 100000 in
theorem zok_89 : zckM 89 = true := by decide +kernel
set_option maxRecDepth 100000 in
theorem zok_90 : zckM 90 = true := by decide +kernel
set_option maxRecDepth 100000 in
theorem zok_91 : zckM 91 = true := by decide +kernel
set_option maxRecDepth 100000 in
theorem zok_92 : zckM 92 = true := by decide +kernel
set_option maxRecDepth 100000 in
theorem zok_93 : zckM 93 = true := by decide +kernel
set_option maxRecDepth 100000 in
theorem zok_94 : zckM 94 = true := by decide +kernel
set_option maxRecDepth 100000 in
theorem zok_95 : zckM 95 = true := by decide +kernel
set_option maxRecDepth 100000 in
theorem zok_96 : zckM 96 = true := by decide +kernel
set_option maxRecDepth 100000 in
theorem zok_97 : zckM 97 = true := by decide +kernel
set_option maxRecDepth 100000 in
theorem zok_98 : zckM 98 = true := by decide +kernel
set_option maxRecDepth 100000 in
theorem zok_99 : zckM 99 = true := by decide +kernel
set_option maxRecDepth 100000 in
theorem zok_100 : zckM 100 = true := by decide +kernel
set_option maxRecDepth 100000 in
theorem zok_101 : zckM 101 = true := by decide +kernel
set_option maxRecDepth 100000 in
theorem zok_102 : zckM 102 = true := by decide +kernel
set_option maxRecDepth 100000 in
theorem zok_103 : zckM 103 = true := by decide +kernel
set_option maxRecDepth 100000 in
theorem zok_104 : zckM 104 = true := by decide +kernel
set_option maxRecDepth 100000 in
theorem zok_105 : zckM 105 = true := by decide +kernel
set_option maxRecDepth 100000 in
theorem zok_106 : zckM 106 = true := by decide +kernel
set_option maxRecDepth 100000 in
theorem zok_107 : zckM 107 = true := by decide +kernel
set_option maxRecDepth 100000 in
theorem zok_108 : zckM 108 = true := by decide +kernel
set_option maxRecDepth 100000 in
theorem zok_109 : zckM 109 = true := by decide +kernel
set_option maxRecDepth 100000 in
theorem zok_110 : zckM 110 = true := by decide +kernel
set_option maxRecDepth 100000 in
theorem zok_111 : zckM 111 = true := by decide +kernel
set_option maxRecDepth 100000 in
theorem zok_112 : zckM 112 = true := by decide +kernel
set_option maxRecDepth 100000 in
theorem zok_113 : zckM 113 = true := by decide +kernel
set_option maxRecDepth 100000 in
theorem zok_114 : zckM 114 = true := by decide +kernel
set_option maxRecDepth 100000 in
theorem zok_115 : zckM 115 = true := by decide +kernel
set_option maxRecDepth 100000 in
theorem zok_116 : zckM 116 = true := by decide +kernel
set_option maxRecDepth 100000 in
theorem zok_117 : zckM 117 = true := by decide +kernel
set_option maxRecDepth 100000 in
theorem zok_118 : zckM 118 = true := by decide +kernel
set_option maxRecDepth 100000 in
theorem zok_119 : zckM 119 = true := by decide +kernel
set_option maxRecDepth 100000 in
theorem zok_120 : zckM 120 = true := by decide +kernel
set_option maxRecDepth 100000 in
theorem zok_121 : zckM 121 = true := by decide +kernel
set_option maxRecDepth 100000 in
theorem zok_122 : zckM 122 = true := by decide +kernel
set_option maxRecDepth 100000 in
theorem zok_123 : zckM 123 = true := by decide +kernel
set_option maxRecDepth 100000 in
theorem zok_124 : zckM 124 = true := by decide +kernel
set_option maxRecDepth 100000 in
theorem zok_125 : zckM 125 = true := by decide +kernel
set_option maxRecDepth 100000 in
theorem zok_126 : zckM 126 = true := by decide +kernel
set_option maxRecDepth 100000 in
theorem zok_127 : zckM 127 = true := by decide +kernel
set_option maxRecDepth 100000 in
theorem zok_128 : zckM 128 = true := by decide +kernel
set_option maxRecDepth 100000 in
theorem zok_129 : zckM 129 = true := by decide +kernel
set_option maxRecDepth 100000 in
theorem zok_130 : zckM 130 = true := by decide +kernel
set_option maxRecDepth 100000 in
theorem zok_131 : zckM 131 = true := by decide +kernel
set_option maxRecDepth 100000 in
theorem zok_132 : zckM 132 = true := by decide +kernel
set_option maxRecDepth 100000 in
theorem zok_133 : zckM 133 = true := by decide +kernel
set_option maxRecDepth 100000 in
theorem zok_134 : zckM 134 = true := by decide +kernel
set_option maxRecDepth 100000 in
theorem zok_135 : zckM 135 = true := by decide +kernel
set_option maxRecDepth 100000 in
theorem zok_136 : zckM 136 = true := by decide +kernel
set_option maxRecDepth 100000 in
theorem zok_137 : zckM 137 = true := by decide +kernel
set_option maxRecDepth 100000 in
theorem zok_138 : zckM 138 = true := by decide +kernel
set_option maxRecDepth 100000 in
theorem zok_139 : zckM 139 = true := by decide +kernel
set_option maxRecDepth 100000 in
theorem zok_140 : zckM 140 = true := by decide +kernel
set_option maxRecDepth 100000 in
theorem zok_141 : zckM 141 = true := by decide +kernel
set_option maxRecDepth 100000 in
theorem zok_142 : zckM 142 = true := by decide +kernel
set_option maxRecDepth 100000 in
theorem zok_143 : zckM 143 = true := by decide +kernel
set_option maxRecDepth 100000 in
theorem zok_144 : zckM 144 = true := by decide +kernel
set_option maxRecDepth 100000 in
theorem zok_145 : zckM 145 = true := by decide +kernel
set_option maxRecDepth 100000 in
theorem zok_146 : zckM 146 = true := by decide +kernel
set_option maxRecDepth 100000 in
theorem zok_147 : zckM 147 = true := by decide +kernel
set_option maxRecDepth 100000 in
theorem zok_148 : zckM 148 = true := by decide +kernel
set_option maxRecDepth 100000 in
theorem zok_149 : zckM 149 = true := by decide +kernel
set_option maxRecDepth 100000 in
theorem zok_150 : zckM 150 = true := by decide +kernel
set_option maxRecDepth 100000 in
theorem zok_151 : zckM 151 = true := by decide +kernel
set_option maxRecDepth 100000 in
theorem zok_152 : zckM 152 = true := by decide +kernel
set_option maxRecDepth 100000 in
theorem zok_153 : zckM 153 = true := by decide +kernel
set_option maxRecDepth 100000 in
theorem zok_154 : zckM 154 = true := by decide +kernel
set_option maxRecDepth 100000 in
theorem zok_155 : zckM 155 = true := by decide +kernel
set_option maxRecDepth 100000 in
theorem zok_156 : zckM 156 = true := by decide +kernel
set_option maxRecDepth 100000 in
theorem zok_157 : zckM 157 = true := by decide +kernel
set_option maxRecDepth 100000 in
theorem zok_158 : zckM 158 = true := by decide +kernel
set_option maxRecDepth 100000 in
theorem zok_159 : zckM 159 = true := by decide +kernel
set_option maxRecDepth 100000 in
theorem zok_160 : zckM 160 = true := by decide +kernel
set_option maxRecDepth 100000 in
theorem zok_161 : zckM 161 = true := by decide +kernel
set_option maxRecDepth 100000 in
theorem zok_162 : zckM 162 = true := by decide +kernel
set_option maxRecDepth 100000 in
theorem zok_163 : zckM 163 = true := by decide +kernel
set_option maxRecDepth 100000 in
theorem zok_164 : zckM 164 = true := by decide +kernel
set_option maxRecDepth 100000 in
theorem zok_165 : zckM 165 = true := by decide +kernel
set_option maxRecDepth 100000 in
theorem zok_166 : zckM 166 = true := by decide +kernel
set_option maxRecDepth 100000 in
theorem zok_167 : zckM 167 = true := by decide +kernel
set_option maxRecDepth 100000 in
theorem zok_168 : zckM 168 = true := by decide +kernel
set_option maxRecDepth 100000 in
theorem zok_169 : zckM 169 = true := by decide +kernel
set_option maxRecDepth 100000 in
theorem zok_170 : zckM 170 = true := by decide +kernel
set_option maxRecDepth 100000 in
theorem zok_171 : zckM 171 = true := by decide +kernel
set_option maxRecDepth 100000 in
theorem zok_172 : zckM 172 = true := by decide +kernel
set_option maxRecDepth 100000 in
theorem zok_173 : zckM 173 = true := by decide +kernel
set_option maxRecDepth 100000 in
theorem zok_174 : zckM 174 = true := by decide +kernel
set_option maxRecDepth 100000 in
theorem zok_175 : zckM 175 = true := by decide +kernel
set_option maxRecDepth 100000 in
theorem zok_176 : zckM 176 = true := by decide +kernel
set_option maxRecDepth 100000 in
theorem zok_177 : zckM 177 = true := by decide +kernel
set_option maxRecDepth 100000 in
theorem zok_178 : zckM 178 = true := by decide +kernel
set_option maxRecDepth 100000 in
theorem zok_179 : zckM 179 = true := by decide +kernel
set_option maxRecDepth 100000 in
theorem zok_180 : zckM 180 = true := by decide +kernel
set_option maxRecDepth 100000 in
theorem zok_181 : zckM 181 = true := by decide +kernel
set_option maxRecDepth 100000 in
theorem zok_182 : zckM 182 = true := by decide +kernel
set_option maxRecDepth 100000 in
theorem zok_183 : zckM 183 = true := by decide +kernel
set_option maxRecDepth 100000 in
theorem zok_184 : zckM 184 = true := by decide +kernel
set_option maxRecDepth 100000 in
theorem zok_185 : zckM 185 = true := by decide +kernel
set_option maxRecDepth 100000 in
theorem zok_186 : zckM 186 = true := by decide +kernel
set_option maxRecDepth 100000 in
theorem zok_187 : zckM 187 = true := by decide +kernel
set_option maxRecDepth 100000 in
theorem zok_188 : zckM 188 = true := by decide +kernel
set_option maxRecDepth 100000 in
theorem zok_189 : zckM 189 = true := by decide +kernel
set_option maxRecDepth 100000 in
theorem zok_190 : zckM 190 = true := by decide +kernel
set_option maxRecDepth 100000 in
theorem zok_191 : zckM 191 = true := by decide +kernel
set_option maxRecDepth 100000 in
theorem zok_192 : zckM 192 = true := by decide +kernel
set_option maxRecDepth 100000 in
theorem zok_193 : zckM 193 = true := by decide +kernel
set_option maxRecDepth 100000 in
theorem zok_194 : zckM 194 = true := by decide +kernel
set_option maxRecDepth 100000 in
theorem zok_195 : zckM 195 = true := by decide +kernel
set_option maxRecDepth 100000 in
theorem zok_196 : zckM 196 = true := by decide +kernel
set_option maxRecDepth 100000 in
theorem zok_197 : zckM 197 = true := by decide +kernel
set_option maxRecDepth 100000 in
theorem zok_198 : zckM 198 = true := by decide +kernel
set_option maxRecDepth 100000 in
theorem zok_199 : zckM 199 = true := by decide +kernel
set_option maxRecDepth 100000 in
theorem zok_200 : zckM 200 = true := by decide +kernel
set_option maxRecDepth 100000 in
theorem zok_201 : zckM 201 = true := by decide +kernel
set_option maxRecDepth 100000 in
theorem zok_202 : zckM 202 = true := by decide +kernel
set_option maxRecDepth 100000 in
theorem zok_203 : zckM 203 = true := by decide +kernel
set_option maxRecDepth 100000 in
theorem zok_204 : zckM 204 = true := by decide +kernel
set_option maxRecDepth 100000 in
theorem zok_205 : zckM 205 = true := by decide +kernel
set_option maxRecDepth 100000 in
theorem zok_206 : zckM 206 = true := by decide +kernel
set_option maxRecDepth 100000 in
theorem zok_207 : zckM 207 = true := by decide +kernel
set_option maxRecDepth 100000 in
theorem zok_208 : zckM 208 = true := by decide +kernel
set_option maxRecDepth 100000 in
theorem zok_209 : zckM 209 = true := by decide +kernel
set_option maxRecDepth 100000 in
theorem zok_210 : zckM 210 = true := by decide +kernel
set_option maxRecDepth 100000 in
theorem zok_211 : zckM 211 = true := by decide +kernel
set_option maxRecDepth 100000 in
theorem zok_212 : zckM 212 = true := by decide +kernel
set_option maxRecDepth 100000 in
theorem zok_213 : zckM 213 = true := by decide +kernel
set_option maxRecDepth 100000 in
theorem zok_214 : zckM 214 = true := by decide +kernel
set_option maxRecDepth 100000 in
theorem zok_215 : zckM 215 = true := by decide +kernel
set_option maxRecDepth 100000 in
theorem zok_216 : zckM 216 = true := by decide +kernel
set_option maxRecDepth 100000 in
theorem zok_217 : zckM 217 = true := by decide +kernel
set_option maxRecDepth 100000 in
theorem zok_218 : zckM 218 = true := by decide +kernel
set_option maxRecDepth 100000 in
theorem zok_219 : zckM 219 = true := by decide +kernel
set_option maxRecDepth 100000 in
theorem zok_220 : zckM 220 = true := by decide +kernel
set_option maxRecDepth 100000 in
theorem zok_221 : zckM 221 = true := by decide +kernel
set_option maxRecDepth 100000 in
theorem zok_222 : zckM 222 = true := by decide +kernel
set_option maxRecDepth 100000 in
theorem zok_223 : zckM 223 = true := by decide +kernel
set_option maxRecDepth 100000 in
theorem zok_224 : zckM 224 = true := by decide +kernel
set_option maxRecDepth 100000 in
theorem zok_225 : zckM 225 = true := by decide +kernel
set_option maxRecDepth 100000 in
theorem zok_226 : zckM 226 = true := by decide +kernel
set_option maxRecDepth 100000 in
theorem zok_227 : zckM 227 = true := by decide +kernel
set_option maxRecDepth 100000 in
theorem zok_228 : zckM 228 = true := by decide +kernel
set_option maxRecDepth 100000 in
theorem zok_229 : zckM 229 = true := by decide +kernel
set_option maxRecDepth 100000 in
theorem zok_230 : zckM 230 = true := by decide +kernel
set_option maxRecDepth 100000 in
theorem zok_231 : zckM 231 = true := by decide +kernel
set_option maxRecDepth 100000 in
theorem zok_232 : zckM 232 = true := by decide +kernel
set_option maxRecDepth 100000 in
theorem zok_233 : zckM 233 = true := by decide +kernel
set_option maxRecDepth 100000 in
theorem zok_234 : zckM 234 = true := by decide +kernel
set_option maxRecDepth 100000 in
theorem zok_235 : zckM 235 = true := by decide +kernel
set_option maxRecDepth 100000 in
theorem zok_236 : zckM 236 = true := by decide +kernel
set_option maxRecDepth 100000 in
theorem zok_237 : zckM 237 = true := by decide +kernel
set_option maxRecDepth 100000 in
theorem zok_238 : zckM 238 = true := by decide +kernel
set_option maxRecDepth 100000 in
theorem zok_239 : zckM 239 = true := by decide +kernel
set_option maxRecDepth 100000 in
theorem zok_240 : zckM 240 = true := by decide +kernel
set_option maxRecDepth 100000 in
theorem zok_241 : zckM 241 = true := by decide +kernel
set_option maxRecDepth 100000 in
theorem zok_242 : zckM 242 = true := by decide +kernel
set_option maxRecDepth 100000 in
theorem zok_243 : zckM 243 = true := by decide +kernel
set_option maxRecDepth 100000 in
theorem zok_244 : zckM 244 = true := by decide +kernel
set_option maxRecDepth 100000 in
theorem zok_245 : zckM 245 = true := by decide +kernel
set_option maxRecDepth 100000 in
theorem zok_246 : zckM 246 = true := by decide +kernel
set_option maxRecDepth 100000 in
theorem zok_247 : zckM 247 = true := by decide +kernel
set_option maxRecDepth 100000 in
theorem zok_248 : zckM 248 = true := by decide +kernel
set_option maxRecDepth 100000 in
theorem zok_249 : zckM 249 = true := by decide +kernel
set_option maxRecDepth 100000 in
theorem zok_250 : zckM 250 = true := by decide +kernel
set_option maxRecDepth 100000 in
theorem zok_251 : zckM 251 = true := by decide +kernel
set_option maxRecDepth 100000 in
theorem zok_252 : zckM 252 = true := by decide +kernel
set_option maxRecDepth 100000 in
theorem zok_253 : zckM 253 = true := by decide +kernel
set_option maxRecDepth 100000 in
theorem zok_254 : zckM 254 = true := by decide +kernel
theorem zok_all : ∀ y, y < 255 → zckM y = true := by
  intro y hy
  by_cases h127 : y < 127
  · skip
    by_cases h63 : y < 63
    · skip
      by_cases h31 : y < 31
      · skip
        by_cases h15 : y < 15
        · skip
          by_cases h7 : y < 7
          · skip
            by_cases h3 : y < 3
            · skip
              by_cases h1 : y < 1
              · skip
                have e : y = 0 := by omega
                subst e; exact zok_0
              · skip
                by_cases h2 : y < 2
                · skip
                  have e : y = 1 := by omega
                  subst e; exact zok_1
                · skip
                  have e : y = 2 := by omega
                  subst e; exact zok_2
            · skip
              by_cases h5 : y < 5
              · skip
                by_cases h4 : y < 4
                · skip
                  have e : y = 3 := by omega
                  subst e; exact zok_3
                · skip
                  have e : y = 4 := by omega
                  subst e; exact zok_4
              · skip
                by_cases h6 : y < 6
                · skip
                  have e : y = 5 := by omega
                  subst e; exact zok_5
                · skip
                  have e : y = 6 := by omega
                  subst e; exact zok_6
          · skip
            by_cases h11 : y < 11
            · skip
              by_cases h9 : y < 9
              · skip
                by_cases h8 : y < 8
                · skip
                  have e : y = 7 := by omega
                  subst e; exact zok_7
                · skip
                  have e : y = 8 := by omega
                  subst e; exact zok_8
              · skip
                by_cases h10 : y < 10
                · skip
                  have e : y = 9 := by omega
                  subst e; exact zok_9
                · skip
                  have e : y = 10 := by omega
                  subst e; exact zok_10
            · skip
              by_cases h13 : y < 13
              · skip
                by_cases h12 : y < 12
                · skip
                  have e : y = 11 := by omega
                  subst e; exact zok_11
                · skip
                  have e : y = 12 := by omega
                  subst e; exact zok_12
              · skip
                by_cases h14 : y < 14
                · skip
                  have e : y = 13 := by omega
                  subst e; exact zok_13
                · skip
                  have e : y = 14 := by omega
                  subst e; exact zok_14
        · skip
          by_cases h23 : y < 23
          · skip
            by_cases h19 : y < 19
            · skip
              by_cases h17 : y < 17
              · skip
                by_cases h16 : y < 16
                · skip
                  have e : y = 15 := by omega
                  subst e; exact zok_15
                · skip
                  have e : y = 16 := by omega
                  subst e; exact zok_16
              · skip
                by_cases h18 : y < 18
                · skip
                  have e : y = 17 := by omega
                  subst e; exact zok_17
                · skip
                  have e : y = 18 := by omega
                  subst e; exact zok_18
            · skip
              by_cases h21 : y < 21
              · skip
                by_cases h20 : y < 20
                · skip
                  have e : y = 19 := by omega
                  subst e; exact zok_19
                · skip
                  have e : y = 20 := by omega
                  subst e; exact zok_20
              · skip
                by_cases h22 : y < 22
                · skip
                  have e : y = 21 := by omega
                  subst e; exact zok_21
                · skip
                  have e : y = 22 := by omega
                  subst e; exact zok_22
          · skip
            by_cases h27 : y < 27
            · skip
              by_cases h25 : y < 25
              · skip
                by_cases h24 : y < 24
                · skip
                  have e : y = 23 := by omega
                  subst e; exact zok_23
                · skip
                  have e : y = 24 := by omega
                  subst e; exact zok_24
              · skip
                by_cases h26 : y < 26
                · skip
                  have e : y = 25 := by omega
                  subst e; exact zok_25
                · skip
                  have e : y = 26 := by omega
                  subst e; exact zok_26
            · skip
              by_cases h29 : y < 29
              · skip
                by_cases h28 : y < 28
                · skip
                  have e : y = 27 := by omega
                  subst e; exact zok_27
                · skip
                  have e : y = 28 := by omega
                  subst e; exact zok_28
              · skip
                by_cases h30 : y < 30
                · skip
                  have e : y = 29 := by omega
                  subst e; exact zok_29
                · skip
                  have e : y = 30 := by omega
                  subst e; exact zok_30
      · skip
        by_cases h47 : y < 47
        · skip
          by_cases h39 : y < 39
          · skip
            by_cases h35 : y < 35
            · skip
              by_cases h33 : y < 33
              · skip
                by_cases h32 : y < 32
                · skip
                  have e : y = 31 := by omega
                  subst e; exact zok_31
                · skip
                  have e : y = 32 := by omega
                  subst e; exact zok_32
              · skip
                by_cases h34 : y < 34
                · skip
                  have e : y = 33 := by omega
                  subst e; exact zok_33
                · skip
                  have e : y = 34 := by omega
                  subst e; exact zok_34
            · skip
              by_cases h37 : y < 37
              · skip
                by_cases h36 : y < 36
                · skip
                  have e : y = 35 := by omega
                  subst e; exact zok_35
                · skip
                  have e : y = 36 := by omega
                  subst e; exact zok_36
              · skip
                by_cases h38 : y < 38
                · skip
                  have e : y = 37 := by omega
                  subst e; exact zok_37
                · skip
                  have e : y = 38 := by omega
                  subst e; exact zok_38
          · skip
            by_cases h43 : y < 43
            · skip
              by_cases h41 : y < 41
              · skip
                by_cases h40 : y < 40
                · skip
                  have e : y = 39 := by omega
                  subst e; exact zok_39
                · skip
                  have e : y = 40 := by omega
                  subst e; exact zok_40
              · skip
                by_cases h42 : y < 42
                · skip
                  have e : y = 41 := by omega
                  subst e; exact zok_41
                · skip
                  have e : y = 42 := by omega
                  subst e; exact zok_42
            · skip
              by_cases h45 : y < 45
              · skip
                by_cases h44 : y < 44
                · skip
                  have e : y = 43 := by omega
                  subst e; exact zok_43
                · skip
                  have e : y = 44 := by omega
                  subst e; exact zok_44
              · skip
                by_cases h46 : y < 46
                · skip
                  have e : y = 45 := by omega
                  subst e; exact zok_45
                · skip
                  have e : y = 46 := by omega
                  subst e; exact zok_46
        · skip
          by_cases h55 : y < 55
          · skip
            by_cases h51 : y < 51
            · skip
              by_cases h49 : y < 49
              · skip
                by_cases h48 : y < 48
                · skip
                  have e : y = 47 := by omega
                  subst e; exact zok_47
                · skip
                  have e : y = 48 := by omega
                  subst e; exact zok_48
              · skip
                by_cases h50 : y < 50
                · skip
                  have e : y = 49 := by omega
                  subst e; exact zok_49
                · skip
                  have e : y = 50 := by omega
                  subst e; exact zok_50
            · skip
              by_cases h53 : y < 53
              · skip
                by_cases h52 : y < 52
                · skip
                  have e : y = 51 := by omega
                  subst e; exact zok_51
                · skip
                  have e : y = 52 := by omega
                  subst e; exact zok_52
              · skip
                by_cases h54 : y < 54
                · skip
                  have e : y = 53 := by omega
                  subst e; exact zok_53
                · skip
                  have e : y = 54 := by omega
                  subst e; exact zok_54
          · skip
            by_cases h59 : y < 59
            · skip
              by_cases h57 : y < 57
              · skip
                by_cases h56 : y < 56
                · skip
                  have e : y = 55 := by omega
                  subst e; exact zok_55
                · skip
                  have e : y = 56 := by omega
                  subst e; exact zok_56
              · skip
                by_cases h58 : y < 58
                · skip
                  have e : y = 57 := by omega
                  subst e; exact zok_57
                · skip
                  have e : y = 58 := by omega
                  subst e; exact zok_58
            · skip
              by_cases h61 : y < 61
              · skip
                by_cases h60 : y < 60
                · skip
                  have e : y = 59 := by omega
                  subst e; exact zok_59
                · skip
                  have e : y = 60 := by omega
                  subst e; exact zok_60
              · skip
                by_cases h62 : y < 62
                · skip
                  have e : y = 61 := by omega
                  subst e; exact zok_61
                · skip
                  have e : y = 62 := by omega
                  subst e; exact zok_62
    · skip
      by_cases h95 : y < 95
      · skip
        by_cases h79 : y < 79
        · skip
          by_cases h71 : y < 71
          · skip
            by_cases h67 : y < 67
            · skip
              by_cases h65 : y < 65
              · skip
                by_cases h64 : y < 64
                · skip
                  have e : y = 63 := by omega
                  subst e; exact zok_63
                · skip
                  have e : y = 64 := by omega
                  subst e; exact zok_64
              · skip
                by_cases h66 : y < 66
                · skip
                  have e : y = 65 := by omega
                  subst e; exact zok_65
                · skip
                  have e : y = 66 := by omega
                  subst e; exact zok_66
            · skip
              by_cases h69 : y < 69
              · skip
                by_cases h68 : y < 68
                · skip
                  have e : y = 67 := by omega
                  subst e; exact zok_67
                · skip
                  have e : y = 68 := by omega
                  subst e; exact zok_68
              · skip
                by_cases h70 : y < 70
                · skip
                  have e : y = 69 := by omega
                  subst e; exact zok_69
                · skip
                  have e : y = 70 := by omega
                  subst e; exact zok_70
          · skip
            by_cases h75 : y < 75
            · skip
              by_cases h73 : y < 73
              · skip
                by_cases h72 : y < 72
                · skip
                  have e : y = 71 := by omega
                  subst e; exact zok_71
                · skip
                  have e : y = 72 := by omega
                  subst e; exact zok_72
              · skip
                by_cases h74 : y < 74
                · skip
                  have e : y = 73 := by omega
                  subst e; exact zok_73
                · skip
                  have e : y = 74 := by omega
                  subst e; exact zok_74
            · skip
              by_cases h77 : y < 77
              · skip
                by_cases h76 : y < 76
                · skip
                  have e : y = 75 := by omega
                  subst e; exact zok_75
                · skip
                  have e : y = 76 := by omega
                  subst e; exact zok_76
              · skip
                by_cases h78 : y < 78
                · skip
                  have e : y = 77 := by omega
                  subst e; exact zok_77
                · skip
                  have e : y = 78 := by omega
                  subst e; exact zok_78
        · skip
          by_cases h87 : y < 87
          · skip
            by_cases h83 : y < 83
            · skip
              by_cases h81 : y < 81
              · skip
                by_cases h80 : y < 80
                · skip
                  have e : y = 79 := by omega
                  subst e; exact zok_79
                · skip
                  have e : y = 80 := by omega
                  subst e; exact zok_80
              · skip
                by_cases h82 : y < 82
                · skip
                  have e : y = 81 := by omega
                  subst e; exact zok_81
                · skip
                  have e : y = 82 := by omega
                  subst e; exact zok_82
            · skip
              by_cases h85 : y < 85
              · skip
                by_cases h84 : y < 84
                · skip
                  have e : y = 83 := by omega
                  subst e; exact zok_83
                · skip
                  have e : y = 84 := by omega
                  subst e; exact zok_84
              · skip
                by_cases h86 : y < 86
                · skip
                  have e : y = 85 := by omega
                  subst e; exact zok_85
                · skip
                  have e : y = 86 := by omega
                  subst e; exact zok_86
          · skip
            by_cases h91 : y < 91
            · skip
              by_cases h89 : y < 89
              · skip
                by_cases h88 : y < 88
                · skip
                  have e : y = 87 := by omega
                  subst e; exact zok_87
                · skip
                  have e : y = 88 := by omega
                  subst e; exact zok_88
              · skip
                by_cases h90 : y < 90
                · skip
                  have e : y = 89 := by omega
                  subst e; exact zok_89
                · skip
                  have e : y = 90 := by omega
                  subst e; exact zok_90
            · skip
              by_cases h93 : y < 93
              · skip
                by_cases h92 : y < 92
                · skip
                  have e : y = 91 := by omega
                  subst e; exact zok_91
                · skip
                  have e : y = 92 := by omega
                  subst e; exact zok_92
              · skip
                by_cases h94 : y < 94
                · skip
                  have e : y = 93 := by omega
                  subst e; exact zok_93
                · skip
                  have e : y = 94 := by omega
                  subst e; exact zok_94
      · skip
        by_cases h111 : y < 111
        · skip
          by_cases h103 : y < 103
          · skip
            by_cases h99 : y < 99
            · skip
              by_cases h97 : y < 97
              · skip
                by_cases h96 : y < 96
                · skip
                  have e : y = 95 := by omega
                  subst e; exact zok_95
                · skip
                  have e : y = 96 := by omega
                  subst e; exact zok_96
              · skip
                by_cases h98 : y < 98
                · skip
                  have e : y = 97 := by omega
                  subst e; exact zok_97
                · skip
                  have e : y = 98 := by omega
                  subst e; exact zok_98
            · skip
              by_cases h101 : y < 101
              · skip
                by_cases h100 : y < 100
                · skip
                  have e : y = 99 := by omega
                  subst e; exact zok_99
                · skip
                  have e : y = 100 := by omega
                  subst e; exact zok_100
              · skip
                by_cases h102 : y < 102
                · skip
                  have e : y = 101 := by omega
                  subst e; exact zok_101
                · skip
                  have e : y = 102 := by omega
                  subst e; exact zok_102
          · skip
            by_cases h107 : y < 107
            · skip
              by_cases h105 : y < 105
              · skip
                by_cases h104 : y < 104
                · skip
                  have e : y = 103 := by omega
                  subst e; exact zok_103
                · skip
                  have e : y = 104 := by omega
                  subst e; exact zok_104
              · skip
                by_cases h106 : y < 106
                · skip
                  have e : y = 105 := by omega
                  subst e; exact zok_105
                · skip
                  have e : y = 106 := by omega
                  subst e; exact zok_106
            · skip
              by_cases h109 : y < 109
              · skip
                by_cases h108 : y < 108
                · skip
                  have e : y = 107 := by omega
                  subst e; exact zok_107
                · skip
                  have e : y = 108 := by omega
                  subst e; exact zok_108
              · skip
                by_cases h110 : y < 110
                · skip
                  have e : y = 109 := by omega
                  subst e; exact zok_109
                · skip
                  have e : y = 110 := by omega
                  subst e; exact zok_110
        · skip
          by_cases h119 : y < 119
          · skip
            by_cases h115 : y < 115
            · skip
              by_cases h113 : y < 113
              · skip
                by_cases h112 : y < 112
                · skip
                  have e : y = 111 := by omega
                  subst e; exact zok_111
                · skip
                  have e : y = 112 := by omega
                  subst e; exact zok_112
              · skip
                by_cases h114 : y < 114
                · skip
                  have e : y = 113 := by omega
                  subst e; exact zok_113
                · skip
                  have e : y = 114 := by omega
                  subst e; exact zok_114
            · skip
              by_cases h117 : y < 117
              · skip
                by_cases h116 : y < 116
                · skip
                  have e : y = 115 := by omega
                  subst e; exact zok_115
                · skip
                  have e : y = 116 := by omega
                  subst e; exact zok_116
              · skip
                by_cases h118 : y < 118
                · skip
                  have e : y = 117 := by omega
                  subst e; exact zok_117
                · skip
                  have e : y = 118 := by omega
                  subst e; exact zok_118
          · skip
            by_cases h123 : y < 123
            · skip
              by_cases h121 : y < 121
              · skip
                by_cases h120 : y < 120
                · skip
                  have e : y = 119 := by omega
                  subst e; exact zok_119
                · skip
                  have e : y = 120 := by omega
                  subst e; exact zok_120
              · skip
                by_cases h122 : y < 122
                · skip
                  have e : y = 121 := by omega
                  subst e; exact zok_121
                · skip
                  have e : y = 122 := by omega
                  subst e; exact zok_122
            · skip
              by_cases h125 : y < 125
              · skip
                by_cases h124 : y < 124
                · skip
                  have e : y = 123 := by omega
                  subst e; exact zok_123
                · skip
                  have e : y = 124 := by omega
                  subst e; exact zok_124
              · skip
                by_cases h126 : y < 126
                · skip
                  have e : y = 125 := by omega
                  subst e; exact zok_125
                · skip
                  have e : y = 126 := by omega
                  subst e; exact zok_126
  · skip
    by_cases h191 : y < 191
    · skip
      by_cases h159 : y < 159
      · skip
        by_cases h143 : y < 143
        · skip
          by_cases h135 : y < 135
          · skip
            by_cases h131 : y < 131
            · skip
              by_cases h129 : y < 129
              · skip
                by_cases h128 : y < 128
                · skip
                  have e : y = 127 := by omega
                  subst e; exact zok_127
                · skip
                  have e : y = 128 := by omega
                  subst e; exact zok_128
              · skip
                by_cases h130 : y < 130
                · skip
                  have e : y = 129 := by omega
                  subst e; exact zok_129
                · skip
                  have e : y = 130 := by omega
                  subst e; exact zok_130
            · skip
              by_cases h133 : y < 133
              · skip
                by_cases h132 : y < 132
                · skip
                  have e : y = 131 := by omega
                  subst e; exact zok_131
                · skip
                  have e : y = 132 := by omega
                  subst e; exact zok_132
              · skip
                by_cases h134 : y < 134
                · skip
                  have e : y = 133 := by omega
                  subst e; exact zok_133
                · skip
                  have e : y = 134 := by omega
                  subst e; exact zok_134
          · skip
            by_cases h139 : y < 139
            · skip
              by_cases h137 : y < 137
              · skip
                by_cases h136 : y < 136
                · skip
                  have e : y = 135 := by omega
                  subst e; exact zok_135
                · skip
                  have e : y = 136 := by omega
                  subst e; exact zok_136
              · skip
                by_cases h138 : y < 138
                · skip
                  have e : y = 137 := by omega
                  subst e; exact zok_137
                · skip
                  have e : y = 138 := by omega
                  subst e; exact zok_138
            · skip
              by_cases h141 : y < 141
              · skip
                by_cases h140 : y < 140
                · skip
                  have e : y = 139 := by omega
                  subst e; exact zok_139
                · skip
                  have e : y = 140 := by omega
                  subst e; exact zok_140
              · skip
                by_cases h142 : y < 142
                · skip
                  have e : y = 141 := by omega
                  subst e; exact zok_141
                · skip
                  have e : y = 142 := by omega
                  subst e; exact zok_142
        · skip
          by_cases h151 : y < 151
          · skip
            by_cases h147 : y < 147
            · skip
              by_cases h145 : y < 145
              · skip
                by_cases h144 : y < 144
                · skip
                  have e : y = 143 := by omega
                  subst e; exact zok_143
                · skip
                  have e : y = 144 := by omega
                  subst e; exact zok_144
              · skip
                by_cases h146 : y < 146
                · skip
                  have e : y = 145 := by omega
                  subst e; exact zok_145
                · skip
                  have e : y = 146 := by omega
                  subst e; exact zok_146
            · skip
              by_cases h149 : y < 149
              · skip
                by_cases h148 : y < 148
                · skip
                  have e : y = 147 := by omega
                  subst e; exact zok_147
                · skip
                  have e : y = 148 := by omega
                  subst e; exact zok_148
              · skip
                by_cases h150 : y < 150
                · skip
                  have e : y = 149 := by omega
                  subst e; exact zok_149
                · skip
                  have e : y = 150 := by omega
                  subst e; exact zok_150
          · skip
            by_cases h155 : y < 155
            · skip
              by_cases h153 : y < 153
              · skip
                by_cases h152 : y < 152
                · skip
                  have e : y = 151 := by omega
                  subst e; exact zok_151
                · skip
                  have e : y = 152 := by omega
                  subst e; exact zok_152
              · skip
                by_cases h154 : y < 154
                · skip
                  have e : y = 153 := by omega
                  subst e; exact zok_153
                · skip
                  have e : y = 154 := by omega
                  subst e; exact zok_154
            · skip
              by_cases h157 : y < 157
              · skip
                by_cases h156 : y < 156
                · skip
                  have e : y = 155 := by omega
                  subst e; exact zok_155
                · skip
                  have e : y = 156 := by omega
                  subst e; exact zok_156
              · skip
                by_cases h158 : y < 158
                · skip
                  have e : y = 157 := by omega
                  subst e; exact zok_157
                · skip
                  have e : y = 158 := by omega
                  subst e; exact zok_158
      · skip
        by_cases h175 : y < 175
        · skip
          by_cases h167 : y < 167
          · skip
            by_cases h163 : y < 163
            · skip
              by_cases h161 : y < 161
              · skip
                by_cases h160 : y < 160
                · skip
                  have e : y = 159 := by omega
                  subst e; exact zok_159
                · skip
                  have e : y = 160 := by omega
                  subst e; exact zok_160
              · skip
                by_cases h162 : y < 162
                · skip
                  have e : y = 161 := by omega
                  subst e; exact zok_161
                · skip
                  have e : y = 162 := by omega
                  subst e; exact zok_162
            · skip
              by_cases h165 : y < 165
              · skip
                by_cases h164 : y < 164
                · skip
                  have e : y = 163 := by omega
                  subst e; exact zok_163
                · skip
                  have e : y = 164 := by omega
                  subst e; exact zok_164
              · skip
                by_cases h166 : y < 166
                · skip
                  have e : y = 165 := by omega
                  subst e; exact zok_165
                · skip
                  have e : y = 166 := by omega
                  subst e; exact zok_166
          · skip
            by_cases h171 : y < 171
            · skip
              by_cases h169 : y < 169
              · skip
                by_cases h168 : y < 168
                · skip
                  have e : y = 167 := by omega
                  subst e; exact zok_167
                · skip
                  have e : y = 168 := by omega
                  subst e; exact zok_168
              · skip
                by_cases h170 : y < 170
                · skip
                  have e : y = 169 := by omega
                  subst e; exact zok_169
                · skip
                  have e : y = 170 := by omega
                  subst e; exact zok_170
            · skip
              by_cases h173 : y < 173
              · skip
                by_cases h172 : y < 172
                · skip
                  have e : y = 171 := by omega
                  subst e; exact zok_171
                · skip
                  have e : y = 172 := by omega
                  subst e; exact zok_172
              · skip
                by_cases h174 : y < 174
                · skip
                  have e : y = 173 := by omega
                  subst e; exact zok_173
                · skip
                  have e : y = 174 := by omega
                  subst e; exact zok_174
        · skip
          by_cases h183 : y < 183
          · skip
            by_cases h179 : y < 179
            · skip
              by_cases h177 : y < 177
              · skip
                by_cases h176 : y < 176
                · skip
                  have e : y = 175 := by omega
                  subst e; exact zok_175
                · skip
                  have e : y = 176 := by omega
                  subst e; exact zok_176
              · skip
                by_cases h178 : y < 178
                · skip
                  have e : y = 177 := by omega
                  subst e; exact zok_177
                · skip
                  have e : y = 178 := by omega
                  subst e; exact zok_178
            · skip
              by_cases h181 : y < 181
              · skip
                by_cases h180 : y < 180
                · skip
                  have e : y = 179 := by omega
                  subst e; exact zok_179
                · skip
                  have e : y = 180 := by omega
                  subst e; exact zok_180
              · skip
                by_cases h182 : y < 182
                · skip
                  have e : y = 181 := by omega
                  subst e; exact zok_181
                · skip
                  have e : y = 182 := by omega
                  subst e; exact zok_182
          · skip
            by_cases h187 : y < 187
            · skip
              by_cases h185 : y < 185
              · skip
                by_cases h184 : y < 184
                · skip
                  have e : y = 183 := by omega
                  subst e; exact zok_183
                · skip
                  have e : y = 184 := by omega
                  subst e; exact zok_184
              · skip
                by_cases h186 : y < 186
                · skip
                  have e : y = 185 := by omega
                  subst e; exact zok_185
                · skip
                  have e : y = 186 := by omega
                  subst e; exact zok_186
            · skip
              by_cases h189 : y < 189
              · skip
                by_cases h188 : y < 188
                · skip
                  have e : y = 187 := by omega
                  subst e; exact zok_187
                · skip
                  have e : y = 188 := by omega
                  subst e; exact zok_188
              · skip
                by_cases h190 : y < 190
                · skip
                  have e : y = 189 := by omega
                  subst e; exact zok_189
                · skip
                  have e : y = 190 := by omega
                  subst e; exact zok_190
    · skip
      by_cases h223 : y < 223
      · skip
        by_cases h207 : y < 207
        · skip
          by_cases h199 : y < 199
          · skip
            by_cases h195 : y < 195
            · skip
              by_cases h193 : y < 193
              · skip
                by_cases h192 : y < 192
                · skip
                  have e : y = 191 := by omega
                  subst e; exact zok_191
                · skip
                  have e : y = 192 := by omega
                  subst e; exact zok_192
              · skip
                by_cases h194 : y < 194
                · skip
                  have e : y = 193 := by omega
                  subst e; exact zok_193
                · skip
                  have e : y = 194 := by omega
                  subst e; exact zok_194
            · skip
              by_cases h197 : y < 197
              · skip
                by_cases h196 : y < 196
                · skip
                  have e : y = 195 := by omega
                  subst e; exact zok_195
                · skip
                  have e : y = 196 := by omega
                  subst e; exact zok_196
              · skip
                by_cases h198 : y < 198
                · skip
                  have e : y = 197 := by omega
                  subst e; exact zok_197
                · skip
                  have e : y = 198 := by omega
                  subst e; exact zok_198
          · skip
            by_cases h203 : y < 203
            · skip
              by_cases h201 : y < 201
              · skip
                by_cases h200 : y < 200
                · skip
                  have e : y = 199 := by omega
                  subst e; exact zok_199
                · skip
                  have e : y = 200 := by omega
                  subst e; exact zok_200
              · skip
                by_cases h202 : y < 202
                · skip
                  have e : y = 201 := by omega
                  subst e; exact zok_201
                · skip
                  have e : y = 202 := by omega
                  subst e; exact zok_202
            · skip
              by_cases h205 : y < 205
              · skip
                by_cases h204 : y < 204
                · skip
                  have e : y = 203 := by omega
                  subst e; exact zok_203
                · skip
                  have e : y = 204 := by omega
                  subst e; exact zok_204
              · skip
                by_cases h206 : y < 206
                · skip
                  have e : y = 205 := by omega
                  subst e; exact zok_205
                · skip
                  have e : y = 206 := by omega
                  subst e; exact zok_206
        · skip
          by_cases h215 : y < 215
          · skip
            by_cases h211 : y < 211
            · skip
              by_cases h209 : y < 209
              · skip
                by_cases h208 : y < 208
                · skip
                  have e : y = 207 := by omega
                  subst e; exact zok_207
                · skip
                  have e : y = 208 := by omega
                  subst e; exact zok_208
              · skip
                by_cases h210 : y < 210
                · skip
                  have e : y = 209 := by omega
                  subst e; exact zok_209
                · skip
                  have e : y = 210 := by omega
                  subst e; exact zok_210
            · skip
              by_cases h213 : y < 213
              · skip
                by_cases h212 : y < 212
                · skip
                  have e : y = 211 := by omega
                  subst e; exact zok_211
                · skip
                  have e : y = 212 := by omega
                  subst e; exact zok_212
              · skip
                by_cases h214 : y < 214
                · skip
                  have e : y = 213 := by omega
                  subst e; exact zok_213
                · skip
                  have e : y = 214 := by omega
                  subst e; exact zok_214
          · skip
            by_cases h219 : y < 219
            · skip
              by_cases h217 : y < 217
              · skip
                by_cases h216 : y < 216
                · skip
                  have e : y = 215 := by omega
                  subst e; exact zok_215
                · skip
                  have e : y = 216 := by omega
                  subst e; exact zok_216
              · skip
                by_cases h218 : y < 218
                · skip
                  have e : y = 217 := by omega
                  subst e; exact zok_217
                · skip
                  have e : y = 218 := by omega
                  subst e; exact zok_218
            · skip
              by_cases h221 : y < 221
              · skip
                by_cases h220 : y < 220
                · skip
                  have e : y = 219 := by omega
                  subst e; exact zok_219
                · skip
                  have e : y = 220 := by omega
                  subst e; exact zok_220
              · skip
                by_cases h222 : y < 222
                · skip
                  have e : y = 221 := by omega
                  subst e; exact zok_221
                · skip
                  have e : y = 222 := by omega
                  subst e; exact zok_222
      · skip
        by_cases h239 : y < 239
        · skip
          by_cases h231 : y < 231
          · skip
            by_cases h227 : y < 227
            · skip
              by_cases h225 : y < 225
              · skip
                by_cases h224 : y < 224
                · skip
                  have e : y = 223 := by omega
                  subst e; exact zok_223
                · skip
                  have e : y = 224 := by omega
                  subst e; exact zok_224
              · skip
                by_cases h226 : y < 226
                · skip
                  have e : y = 225 := by omega
                  subst e; exact zok_225
                · skip
                  have e : y = 226 := by omega
                  subst e; exact zok_226
            · skip
              by_cases h229 : y < 229
              · skip
                by_cases h228 : y < 228
                · skip
                  have e : y = 227 := by omega
                  subst e; exact zok_227
                · skip
                  have e : y = 228 := by omega
                  subst e; exact zok_228
              · skip
                by_cases h230 : y < 230
                · skip
                  have e : y = 229 := by omega
                  subst e; exact zok_229
                · skip
                  have e : y = 230 := by omega
                  subst e; exact zok_230
          · skip
            by_cases h235 : y < 235
            · skip
              by_cases h233 : y < 233
              · skip
                by_cases h232 : y < 232
                · skip
                  have e : y = 231 := by omega
                  subst e; exact zok_231
                · skip
                  have e : y = 232 := by omega
                  subst e; exact zok_232
              · skip
                by_cases h234 : y < 234
                · skip
                  have e : y = 233 := by omega
                  subst e; exact zok_233
                · skip
                  have e : y = 234 := by omega
                  subst e; exact zok_234
            · skip
              by_cases h237 : y < 237
              · skip
                by_cases h236 : y < 236
                · skip
                  have e : y = 235 := by omega
                  subst e; exact zok_235
                · skip
                  have e : y = 236 := by omega
                  subst e; exact zok_236
              · skip
                by_cases h238 : y < 238
                · skip
                  have e : y = 237 := by omega
                  subst e; exact zok_237
                · skip
                  have e : y = 238 := by omega
                  subst e; exact zok_238
        · skip
          by_cases h247 : y < 247
          · skip
            by_cases h243 : y < 243
            · skip
              by_cases h241 : y < 241
              · skip
                by_cases h240 : y < 240
                · skip
                  have e : y = 239 := by omega
                  subst e; exact zok_239
                · skip
                  have e : y = 240 := by omega
                  subst e; exact zok_240
              · skip
                by_cases h242 : y < 242
                · skip
                  have e : y = 241 := by omega
                  subst e; exact zok_241
                · skip
                  have e : y = 242 := by omega
                  subst e; exact zok_242
            · skip
              by_cases h245 : y < 245
              · skip
                by_cases h244 : y < 244
                · skip
                  have e : y = 243 := by omega
                  subst e; exact zok_243
                · skip
                  have e : y = 244 := by omega
                  subst e; exact zok_244
              · skip
                by_cases h246 : y < 246
                · skip
                  have e : y = 245 := by omega
                  subst e; exact zok_245
                · skip
                  have e : y = 246 := by omega
                  subst e; exact zok_246
          · skip
            by_cases h251 : y < 251
            · skip
              by_cases h249 : y < 249
              · skip
                by_cases h248 : y < 248
                · skip
                  have e : y = 247 := by omega
                  subst e; exact zok_247
                · skip
                  have e : y = 248 := by omega
                  subst e; exact zok_248
              · skip
                by_cases h250 : y < 250
                · skip
                  have e : y = 249 := by omega
                  subst e; exact zok_249
                · skip
                  have e : y = 250 := by omega
                  subst e; exact zok_250
            · skip
              by_cases h253 : y < 253
              · skip
                by_cases h252 : y < 252
                · skip
                  have e : y = 251 := by omega
                  subst e; exact zok_251
                · skip
                  have e : y = 252 := by omega
                  subst e; exact zok_252
              · skip
                by_cases h254 : y < 254
                · skip
                  have e : y = 253 := by omega
                  subst e; exact zok_253
                · skip
                  have e : y = 254 := by omega
                  subst e; exact zok_254
