/-! HeronTalkModel.<init>()V -/
abbrev M_X7_init : jM := (RX7, cX7_init, 1, (none : Option Jvm.ClassFile.FieldType), "<init>", 1, 20)
theorem yF_X7_init : yF yX7_init M_X7_init 0 := ⟨w_623, w_624, by decide +kernel⟩
theorem yV_X7_init : Cond.instanceMethod yX7_init ∈ tbG ∧ yX7_init.name = "<init>" := ⟨w_625, rfl⟩
theorem dX7_init_0 : dI cX7_init 0 1 (.aload_n 0) 1 := ⟨by decide +kernel, rfl⟩
theorem dX7_init_1 : dI cX7_init 1 4 (.invokespecial 1) 3 := ⟨by decide +kernel, rfl⟩
theorem dX7_init_4 : dI cX7_init 4 5 (.aload_n 0) 1 := ⟨by decide +kernel, rfl⟩
theorem dX7_init_5 : dI cX7_init 5 8 (.sipush 1476) 3 := ⟨by decide +kernel, rfl⟩
theorem dX7_init_8 : dI cX7_init 8 10 (.newarray .int) 2 := ⟨by decide +kernel, rfl⟩
theorem dX7_init_10 : dI cX7_init 10 13 (.putfield 9) 3 := ⟨by decide +kernel, rfl⟩
theorem dX7_init_13 : dI cX7_init 13 14 (.aload_n 0) 1 := ⟨by decide +kernel, rfl⟩
theorem dX7_init_14 : dI cX7_init 14 17 (.sipush 1476) 3 := ⟨by decide +kernel, rfl⟩
theorem dX7_init_17 : dI cX7_init 17 19 (.newarray .int) 2 := ⟨by decide +kernel, rfl⟩
theorem dX7_init_19 : dI cX7_init 19 22 (.putfield 13) 3 := ⟨by decide +kernel, rfl⟩
theorem dX7_init_22 : dI cX7_init 22 23 (.aload_n 0) 1 := ⟨by decide +kernel, rfl⟩
theorem dX7_init_23 : dI cX7_init 23 26 (.sipush 1476) 3 := ⟨by decide +kernel, rfl⟩
theorem dX7_init_26 : dI cX7_init 26 28 (.newarray .int) 2 := ⟨by decide +kernel, rfl⟩
theorem dX7_init_28 : dI cX7_init 28 31 (.putfield 16) 3 := ⟨by decide +kernel, rfl⟩
theorem dX7_init_31 : dI cX7_init 31 32 (.aload_n 0) 1 := ⟨by decide +kernel, rfl⟩
theorem dX7_init_32 : dI cX7_init 32 34 (.bipush 32) 2 := ⟨by decide +kernel, rfl⟩
theorem dX7_init_34 : dI cX7_init 34 36 (.newarray .int) 2 := ⟨by decide +kernel, rfl⟩
theorem dX7_init_36 : dI cX7_init 36 39 (.putfield 19) 3 := ⟨by decide +kernel, rfl⟩
theorem dX7_init_39 : dI cX7_init 39 40 (.aload_n 0) 1 := ⟨by decide +kernel, rfl⟩
theorem dX7_init_40 : dI cX7_init 40 41 (.iconst 4) 1 := ⟨by decide +kernel, rfl⟩
theorem dX7_init_41 : dI cX7_init 41 43 (.newarray .int) 2 := ⟨by decide +kernel, rfl⟩
theorem dX7_init_43 : dI cX7_init 43 46 (.putfield 22) 3 := ⟨by decide +kernel, rfl⟩
theorem dX7_init_46 : dI cX7_init 46 47 (.aload_n 0) 1 := ⟨by decide +kernel, rfl⟩
theorem dX7_init_47 : dI cX7_init 47 49 (.bipush 96) 2 := ⟨by decide +kernel, rfl⟩
theorem dX7_init_49 : dI cX7_init 49 51 (.newarray .int) 2 := ⟨by decide +kernel, rfl⟩
theorem dX7_init_51 : dI cX7_init 51 54 (.putfield 25) 3 := ⟨by decide +kernel, rfl⟩
theorem dX7_init_54 : dI cX7_init 54 55 (.aload_n 0) 1 := ⟨by decide +kernel, rfl⟩
theorem dX7_init_55 : dI cX7_init 55 57 (.bipush 13) 2 := ⟨by decide +kernel, rfl⟩
theorem dX7_init_57 : dI cX7_init 57 59 (.newarray .char) 2 := ⟨by decide +kernel, rfl⟩
theorem dX7_init_59 : dI cX7_init 59 60 (.dup) 1 := ⟨by decide +kernel, rfl⟩
theorem dX7_init_60 : dI cX7_init 60 61 (.iconst 0) 1 := ⟨by decide +kernel, rfl⟩
theorem dX7_init_61 : dI cX7_init 61 63 (.bipush 112) 2 := ⟨by decide +kernel, rfl⟩
theorem dX7_init_63 : dI cX7_init 63 64 (.castore) 1 := ⟨by decide +kernel, rfl⟩
theorem dX7_init_64 : dI cX7_init 64 65 (.dup) 1 := ⟨by decide +kernel, rfl⟩
theorem dX7_init_65 : dI cX7_init 65 66 (.iconst 1) 1 := ⟨by decide +kernel, rfl⟩
theorem dX7_init_66 : dI cX7_init 66 68 (.bipush 114) 2 := ⟨by decide +kernel, rfl⟩
theorem dX7_init_68 : dI cX7_init 68 69 (.castore) 1 := ⟨by decide +kernel, rfl⟩
theorem dX7_init_69 : dI cX7_init 69 70 (.dup) 1 := ⟨by decide +kernel, rfl⟩
theorem dX7_init_70 : dI cX7_init 70 71 (.iconst 2) 1 := ⟨by decide +kernel, rfl⟩
theorem dX7_init_71 : dI cX7_init 71 73 (.bipush 105) 2 := ⟨by decide +kernel, rfl⟩
theorem dX7_init_73 : dI cX7_init 73 74 (.castore) 1 := ⟨by decide +kernel, rfl⟩
theorem dX7_init_74 : dI cX7_init 74 75 (.dup) 1 := ⟨by decide +kernel, rfl⟩
theorem dX7_init_75 : dI cX7_init 75 76 (.iconst 3) 1 := ⟨by decide +kernel, rfl⟩
theorem dX7_init_76 : dI cX7_init 76 78 (.bipush 99) 2 := ⟨by decide +kernel, rfl⟩
theorem dX7_init_78 : dI cX7_init 78 79 (.castore) 1 := ⟨by decide +kernel, rfl⟩
theorem dX7_init_79 : dI cX7_init 79 80 (.dup) 1 := ⟨by decide +kernel, rfl⟩
theorem dX7_init_80 : dI cX7_init 80 81 (.iconst 4) 1 := ⟨by decide +kernel, rfl⟩
theorem dX7_init_81 : dI cX7_init 81 83 (.bipush 101) 2 := ⟨by decide +kernel, rfl⟩
theorem dX7_init_83 : dI cX7_init 83 84 (.castore) 1 := ⟨by decide +kernel, rfl⟩
theorem dX7_init_84 : dI cX7_init 84 85 (.dup) 1 := ⟨by decide +kernel, rfl⟩
theorem dX7_init_85 : dI cX7_init 85 86 (.iconst 5) 1 := ⟨by decide +kernel, rfl⟩
theorem dX7_init_86 : dI cX7_init 86 88 (.bipush 108) 2 := ⟨by decide +kernel, rfl⟩
theorem dX7_init_88 : dI cX7_init 88 89 (.castore) 1 := ⟨by decide +kernel, rfl⟩
theorem dX7_init_89 : dI cX7_init 89 90 (.dup) 1 := ⟨by decide +kernel, rfl⟩
theorem dX7_init_90 : dI cX7_init 90 92 (.bipush 6) 2 := ⟨by decide +kernel, rfl⟩
theorem dX7_init_92 : dI cX7_init 92 94 (.bipush 111) 2 := ⟨by decide +kernel, rfl⟩
theorem dX7_init_94 : dI cX7_init 94 95 (.castore) 1 := ⟨by decide +kernel, rfl⟩
theorem dX7_init_95 : dI cX7_init 95 96 (.dup) 1 := ⟨by decide +kernel, rfl⟩
theorem dX7_init_96 : dI cX7_init 96 98 (.bipush 7) 2 := ⟨by decide +kernel, rfl⟩
theorem dX7_init_98 : dI cX7_init 98 100 (.bipush 111) 2 := ⟨by decide +kernel, rfl⟩
theorem dX7_init_100 : dI cX7_init 100 101 (.castore) 1 := ⟨by decide +kernel, rfl⟩
theorem dX7_init_101 : dI cX7_init 101 102 (.dup) 1 := ⟨by decide +kernel, rfl⟩
theorem dX7_init_102 : dI cX7_init 102 104 (.bipush 8) 2 := ⟨by decide +kernel, rfl⟩
theorem dX7_init_104 : dI cX7_init 104 106 (.bipush 107) 2 := ⟨by decide +kernel, rfl⟩
theorem dX7_init_106 : dI cX7_init 106 107 (.castore) 1 := ⟨by decide +kernel, rfl⟩
theorem dX7_init_107 : dI cX7_init 107 108 (.dup) 1 := ⟨by decide +kernel, rfl⟩
theorem dX7_init_108 : dI cX7_init 108 110 (.bipush 9) 2 := ⟨by decide +kernel, rfl⟩
theorem dX7_init_110 : dI cX7_init 110 112 (.bipush 102) 2 := ⟨by decide +kernel, rfl⟩
theorem dX7_init_112 : dI cX7_init 112 113 (.castore) 1 := ⟨by decide +kernel, rfl⟩
theorem dX7_init_113 : dI cX7_init 113 114 (.dup) 1 := ⟨by decide +kernel, rfl⟩
theorem dX7_init_114 : dI cX7_init 114 116 (.bipush 10) 2 := ⟨by decide +kernel, rfl⟩
theorem dX7_init_116 : dI cX7_init 116 118 (.bipush 105) 2 := ⟨by decide +kernel, rfl⟩
theorem dX7_init_118 : dI cX7_init 118 119 (.castore) 1 := ⟨by decide +kernel, rfl⟩
theorem dX7_init_119 : dI cX7_init 119 120 (.dup) 1 := ⟨by decide +kernel, rfl⟩
theorem dX7_init_120 : dI cX7_init 120 122 (.bipush 11) 2 := ⟨by decide +kernel, rfl⟩
theorem dX7_init_122 : dI cX7_init 122 124 (.bipush 110) 2 := ⟨by decide +kernel, rfl⟩
theorem dX7_init_124 : dI cX7_init 124 125 (.castore) 1 := ⟨by decide +kernel, rfl⟩
theorem dX7_init_125 : dI cX7_init 125 126 (.dup) 1 := ⟨by decide +kernel, rfl⟩
theorem dX7_init_126 : dI cX7_init 126 128 (.bipush 12) 2 := ⟨by decide +kernel, rfl⟩
theorem dX7_init_128 : dI cX7_init 128 130 (.bipush 101) 2 := ⟨by decide +kernel, rfl⟩
theorem dX7_init_130 : dI cX7_init 130 131 (.castore) 1 := ⟨by decide +kernel, rfl⟩
theorem dX7_init_131 : dI cX7_init 131 134 (.putfield 28) 3 := ⟨by decide +kernel, rfl⟩
theorem dX7_init_134 : dI cX7_init 134 135 (.aload_n 0) 1 := ⟨by decide +kernel, rfl⟩
theorem dX7_init_135 : dI cX7_init 135 136 (.iconst 4) 1 := ⟨by decide +kernel, rfl⟩
theorem dX7_init_136 : dI cX7_init 136 138 (.newarray .int) 2 := ⟨by decide +kernel, rfl⟩
theorem dX7_init_138 : dI cX7_init 138 139 (.dup) 1 := ⟨by decide +kernel, rfl⟩
theorem dX7_init_139 : dI cX7_init 139 140 (.iconst 0) 1 := ⟨by decide +kernel, rfl⟩
theorem dX7_init_140 : dI cX7_init 140 141 (.iconst 0) 1 := ⟨by decide +kernel, rfl⟩
theorem dX7_init_141 : dI cX7_init 141 142 (.iastore) 1 := ⟨by decide +kernel, rfl⟩
theorem dX7_init_142 : dI cX7_init 142 143 (.dup) 1 := ⟨by decide +kernel, rfl⟩
theorem dX7_init_143 : dI cX7_init 143 144 (.iconst 1) 1 := ⟨by decide +kernel, rfl⟩
theorem dX7_init_144 : dI cX7_init 144 145 (.iconst 5) 1 := ⟨by decide +kernel, rfl⟩
theorem dX7_init_145 : dI cX7_init 145 146 (.iastore) 1 := ⟨by decide +kernel, rfl⟩
theorem dX7_init_146 : dI cX7_init 146 147 (.dup) 1 := ⟨by decide +kernel, rfl⟩
theorem dX7_init_147 : dI cX7_init 147 148 (.iconst 2) 1 := ⟨by decide +kernel, rfl⟩
theorem dX7_init_148 : dI cX7_init 148 150 (.bipush 9) 2 := ⟨by decide +kernel, rfl⟩
theorem dX7_init_150 : dI cX7_init 150 151 (.iastore) 1 := ⟨by decide +kernel, rfl⟩
theorem dX7_init_151 : dI cX7_init 151 152 (.dup) 1 := ⟨by decide +kernel, rfl⟩
theorem dX7_init_152 : dI cX7_init 152 153 (.iconst 3) 1 := ⟨by decide +kernel, rfl⟩
theorem dX7_init_153 : dI cX7_init 153 155 (.bipush 13) 2 := ⟨by decide +kernel, rfl⟩
theorem dX7_init_155 : dI cX7_init 155 156 (.iastore) 1 := ⟨by decide +kernel, rfl⟩
theorem dX7_init_156 : dI cX7_init 156 159 (.putfield 32) 3 := ⟨by decide +kernel, rfl⟩
theorem dX7_init_159 : dI cX7_init 159 160 (.aload_n 0) 1 := ⟨by decide +kernel, rfl⟩
theorem dX7_init_160 : dI cX7_init 160 162 (.bipush 96) 2 := ⟨by decide +kernel, rfl⟩
theorem dX7_init_162 : dI cX7_init 162 164 (.newarray .int) 2 := ⟨by decide +kernel, rfl⟩
theorem dX7_init_164 : dI cX7_init 164 167 (.putfield 35) 3 := ⟨by decide +kernel, rfl⟩
theorem dX7_init_167 : dI cX7_init 167 168 (.aload_n 0) 1 := ⟨by decide +kernel, rfl⟩
theorem dX7_init_168 : dI cX7_init 168 170 (.bipush 96) 2 := ⟨by decide +kernel, rfl⟩
theorem dX7_init_170 : dI cX7_init 170 172 (.newarray .int) 2 := ⟨by decide +kernel, rfl⟩
theorem dX7_init_172 : dI cX7_init 172 175 (.putfield 38) 3 := ⟨by decide +kernel, rfl⟩
theorem dX7_init_175 : dI cX7_init 175 176 (.aload_n 0) 1 := ⟨by decide +kernel, rfl⟩
theorem dX7_init_176 : dI cX7_init 176 178 (.bipush 10) 2 := ⟨by decide +kernel, rfl⟩
theorem dX7_init_178 : dI cX7_init 178 180 (.newarray .boolean) 2 := ⟨by decide +kernel, rfl⟩
theorem dX7_init_180 : dI cX7_init 180 183 (.putfield 41) 3 := ⟨by decide +kernel, rfl⟩
theorem dX7_init_183 : dI cX7_init 183 184 (.aload_n 0) 1 := ⟨by decide +kernel, rfl⟩
theorem dX7_init_184 : dI cX7_init 184 186 (.bipush 96) 2 := ⟨by decide +kernel, rfl⟩
theorem dX7_init_186 : dI cX7_init 186 188 (.newarray .int) 2 := ⟨by decide +kernel, rfl⟩
theorem dX7_init_188 : dI cX7_init 188 191 (.putfield 45) 3 := ⟨by decide +kernel, rfl⟩
theorem dX7_init_191 : dI cX7_init 191 192 (.aload_n 0) 1 := ⟨by decide +kernel, rfl⟩
theorem dX7_init_192 : dI cX7_init 192 193 (.iconst 4) 1 := ⟨by decide +kernel, rfl⟩
theorem dX7_init_193 : dI cX7_init 193 195 (.newarray .int) 2 := ⟨by decide +kernel, rfl⟩
theorem dX7_init_195 : dI cX7_init 195 198 (.putfield 48) 3 := ⟨by decide +kernel, rfl⟩
theorem dX7_init_198 : dI cX7_init 198 199 (.aload_n 0) 1 := ⟨by decide +kernel, rfl⟩
theorem dX7_init_199 : dI cX7_init 199 200 (.iconst 4) 1 := ⟨by decide +kernel, rfl⟩
theorem dX7_init_200 : dI cX7_init 200 202 (.newarray .int) 2 := ⟨by decide +kernel, rfl⟩
theorem dX7_init_202 : dI cX7_init 202 203 (.dup) 1 := ⟨by decide +kernel, rfl⟩
theorem dX7_init_203 : dI cX7_init 203 204 (.iconst 0) 1 := ⟨by decide +kernel, rfl⟩
theorem dX7_init_204 : dI cX7_init 204 205 (.iconst (-1)) 1 := ⟨by decide +kernel, rfl⟩
theorem dX7_init_205 : dI cX7_init 205 206 (.iastore) 1 := ⟨by decide +kernel, rfl⟩
theorem dX7_init_206 : dI cX7_init 206 207 (.dup) 1 := ⟨by decide +kernel, rfl⟩
theorem dX7_init_207 : dI cX7_init 207 208 (.iconst 1) 1 := ⟨by decide +kernel, rfl⟩
theorem dX7_init_208 : dI cX7_init 208 209 (.iconst (-1)) 1 := ⟨by decide +kernel, rfl⟩
theorem dX7_init_209 : dI cX7_init 209 210 (.iastore) 1 := ⟨by decide +kernel, rfl⟩
theorem dX7_init_210 : dI cX7_init 210 211 (.dup) 1 := ⟨by decide +kernel, rfl⟩
theorem dX7_init_211 : dI cX7_init 211 212 (.iconst 2) 1 := ⟨by decide +kernel, rfl⟩
theorem dX7_init_212 : dI cX7_init 212 213 (.iconst (-1)) 1 := ⟨by decide +kernel, rfl⟩
theorem dX7_init_213 : dI cX7_init 213 214 (.iastore) 1 := ⟨by decide +kernel, rfl⟩
theorem dX7_init_214 : dI cX7_init 214 215 (.dup) 1 := ⟨by decide +kernel, rfl⟩
theorem dX7_init_215 : dI cX7_init 215 216 (.iconst 3) 1 := ⟨by decide +kernel, rfl⟩
theorem dX7_init_216 : dI cX7_init 216 217 (.iconst (-1)) 1 := ⟨by decide +kernel, rfl⟩
theorem dX7_init_217 : dI cX7_init 217 218 (.iastore) 1 := ⟨by decide +kernel, rfl⟩
theorem dX7_init_218 : dI cX7_init 218 221 (.putfield 51) 3 := ⟨by decide +kernel, rfl⟩
theorem dX7_init_221 : dI cX7_init 221 222 (.aload_n 0) 1 := ⟨by decide +kernel, rfl⟩
theorem dX7_init_222 : dI cX7_init 222 223 (.iconst 4) 1 := ⟨by decide +kernel, rfl⟩
theorem dX7_init_223 : dI cX7_init 223 225 (.newarray .int) 2 := ⟨by decide +kernel, rfl⟩
theorem dX7_init_225 : dI cX7_init 225 228 (.putfield 54) 3 := ⟨by decide +kernel, rfl⟩
theorem dX7_init_228 : dI cX7_init 228 229 (.aload_n 0) 1 := ⟨by decide +kernel, rfl⟩
theorem dX7_init_229 : dI cX7_init 229 231 (.bipush 96) 2 := ⟨by decide +kernel, rfl⟩
theorem dX7_init_231 : dI cX7_init 231 233 (.newarray .int) 2 := ⟨by decide +kernel, rfl⟩
theorem dX7_init_233 : dI cX7_init 233 236 (.putfield 57) 3 := ⟨by decide +kernel, rfl⟩
theorem dX7_init_236 : dI cX7_init 236 237 (.aload_n 0) 1 := ⟨by decide +kernel, rfl⟩
theorem dX7_init_237 : dI cX7_init 237 238 (.iconst 5) 1 := ⟨by decide +kernel, rfl⟩
theorem dX7_init_238 : dI cX7_init 238 240 (.newarray .int) 2 := ⟨by decide +kernel, rfl⟩
theorem dX7_init_240 : dI cX7_init 240 243 (.putfield 60) 3 := ⟨by decide +kernel, rfl⟩
theorem dX7_init_243 : dI cX7_init 243 244 (.aload_n 0) 1 := ⟨by decide +kernel, rfl⟩
theorem dX7_init_244 : dI cX7_init 244 245 (.iconst 5) 1 := ⟨by decide +kernel, rfl⟩
theorem dX7_init_245 : dI cX7_init 245 247 (.newarray .int) 2 := ⟨by decide +kernel, rfl⟩
theorem dX7_init_247 : dI cX7_init 247 250 (.putfield 63) 3 := ⟨by decide +kernel, rfl⟩
theorem dX7_init_250 : dI cX7_init 250 251 (.aload_n 0) 1 := ⟨by decide +kernel, rfl⟩
theorem dX7_init_251 : dI cX7_init 251 252 (.iconst 5) 1 := ⟨by decide +kernel, rfl⟩
theorem dX7_init_252 : dI cX7_init 252 254 (.newarray .int) 2 := ⟨by decide +kernel, rfl⟩
theorem dX7_init_254 : dI cX7_init 254 257 (.putfield 66) 3 := ⟨by decide +kernel, rfl⟩
theorem dX7_init_257 : dI cX7_init 257 258 (.aload_n 0) 1 := ⟨by decide +kernel, rfl⟩
theorem dX7_init_258 : dI cX7_init 258 260 (.bipush 120) 2 := ⟨by decide +kernel, rfl⟩
theorem dX7_init_260 : dI cX7_init 260 262 (.newarray .int) 2 := ⟨by decide +kernel, rfl⟩
theorem dX7_init_262 : dI cX7_init 262 265 (.putfield 69) 3 := ⟨by decide +kernel, rfl⟩
theorem dX7_init_265 : dI cX7_init 265 266 (.aload_n 0) 1 := ⟨by decide +kernel, rfl⟩
theorem dX7_init_266 : dI cX7_init 266 268 (.bipush 24) 2 := ⟨by decide +kernel, rfl⟩
theorem dX7_init_268 : dI cX7_init 268 270 (.newarray .int) 2 := ⟨by decide +kernel, rfl⟩
theorem dX7_init_270 : dI cX7_init 270 273 (.putfield 72) 3 := ⟨by decide +kernel, rfl⟩
theorem dX7_init_273 : dI cX7_init 273 274 (.aload_n 0) 1 := ⟨by decide +kernel, rfl⟩
theorem dX7_init_274 : dI cX7_init 274 276 (.bipush 60) 2 := ⟨by decide +kernel, rfl⟩
theorem dX7_init_276 : dI cX7_init 276 278 (.newarray .int) 2 := ⟨by decide +kernel, rfl⟩
theorem dX7_init_278 : dI cX7_init 278 281 (.putfield 75) 3 := ⟨by decide +kernel, rfl⟩
theorem dX7_init_281 : dI cX7_init 281 282 (.aload_n 0) 1 := ⟨by decide +kernel, rfl⟩
theorem dX7_init_282 : dI cX7_init 282 285 (.getfield 9) 3 := ⟨by decide +kernel, rfl⟩
theorem dX7_init_285 : dI cX7_init 285 286 (.iconst 0) 1 := ⟨by decide +kernel, rfl⟩
theorem dX7_init_286 : dI cX7_init 286 287 (.iconst 1) 1 := ⟨by decide +kernel, rfl⟩
theorem dX7_init_287 : dI cX7_init 287 288 (.iastore) 1 := ⟨by decide +kernel, rfl⟩
theorem dX7_init_288 : dI cX7_init 288 289 (.return_) 1 := ⟨by decide +kernel, rfl⟩
def f_X7_init (s : hS) (a0 : Nat) : Option (Unit × hS) :=
  (nA s 10 (1476 : Int32)).bind fun s1 =>
  (pR s1 a0 7 0 s.1).bind fun s2 =>
  (nA s2 10 (1476 : Int32)).bind fun s3 =>
  (pR s3 a0 7 1 s2.1).bind fun s4 =>
  (nA s4 10 (1476 : Int32)).bind fun s5 =>
  (pR s5 a0 7 2 s4.1).bind fun s6 =>
  (nA s6 10 (32 : Int32)).bind fun s7 =>
  (pR s7 a0 7 4 s6.1).bind fun s8 =>
  (nA s8 10 (4 : Int32)).bind fun s9 =>
  (pR s9 a0 7 5 s8.1).bind fun s10 =>
  (nA s10 10 (96 : Int32)).bind fun s11 =>
  (pR s11 a0 7 6 s10.1).bind fun s12 =>
  (nA s12 9 (13 : Int32)).bind fun s13 =>
  (sI s13 s12.1 9 (0 : Int32) (vp_nar .char (112 : Int32))).bind fun s14 =>
  (sI s14 s12.1 9 (1 : Int32) (vp_nar .char (114 : Int32))).bind fun s15 =>
  (sI s15 s12.1 9 (2 : Int32) (vp_nar .char (105 : Int32))).bind fun s16 =>
  (sI s16 s12.1 9 (3 : Int32) (vp_nar .char (99 : Int32))).bind fun s17 =>
  (sI s17 s12.1 9 (4 : Int32) (vp_nar .char (101 : Int32))).bind fun s18 =>
  (sI s18 s12.1 9 (5 : Int32) (vp_nar .char (108 : Int32))).bind fun s19 =>
  (sI s19 s12.1 9 (6 : Int32) (vp_nar .char (111 : Int32))).bind fun s20 =>
  (sI s20 s12.1 9 (7 : Int32) (vp_nar .char (111 : Int32))).bind fun s21 =>
  (sI s21 s12.1 9 (8 : Int32) (vp_nar .char (107 : Int32))).bind fun s22 =>
  (sI s22 s12.1 9 (9 : Int32) (vp_nar .char (102 : Int32))).bind fun s23 =>
  (sI s23 s12.1 9 (10 : Int32) (vp_nar .char (105 : Int32))).bind fun s24 =>
  (sI s24 s12.1 9 (11 : Int32) (vp_nar .char (110 : Int32))).bind fun s25 =>
  (sI s25 s12.1 9 (12 : Int32) (vp_nar .char (101 : Int32))).bind fun s26 =>
  (pR s26 a0 7 14 s12.1).bind fun s27 =>
  (nA s27 10 (4 : Int32)).bind fun s28 =>
  (sI s28 s27.1 10 (0 : Int32) (0 : Int32)).bind fun s29 =>
  (sI s29 s27.1 10 (1 : Int32) (5 : Int32)).bind fun s30 =>
  (sI s30 s27.1 10 (2 : Int32) (9 : Int32)).bind fun s31 =>
  (sI s31 s27.1 10 (3 : Int32) (13 : Int32)).bind fun s32 =>
  (pR s32 a0 7 15 s27.1).bind fun s33 =>
  (nA s33 10 (96 : Int32)).bind fun s34 =>
  (pR s34 a0 7 16 s33.1).bind fun s35 =>
  (nA s35 10 (96 : Int32)).bind fun s36 =>
  (pR s36 a0 7 19 s35.1).bind fun s37 =>
  (nA s37 11 (10 : Int32)).bind fun s38 =>
  (pR s38 a0 7 21 s37.1).bind fun s39 =>
  (nA s39 10 (96 : Int32)).bind fun s40 =>
  (pR s40 a0 7 22 s39.1).bind fun s41 =>
  (nA s41 10 (4 : Int32)).bind fun s42 =>
  (pR s42 a0 7 23 s41.1).bind fun s43 =>
  (nA s43 10 (4 : Int32)).bind fun s44 =>
  (sI s44 s43.1 10 (0 : Int32) (-1 : Int32)).bind fun s45 =>
  (sI s45 s43.1 10 (1 : Int32) (-1 : Int32)).bind fun s46 =>
  (sI s46 s43.1 10 (2 : Int32) (-1 : Int32)).bind fun s47 =>
  (sI s47 s43.1 10 (3 : Int32) (-1 : Int32)).bind fun s48 =>
  (pR s48 a0 7 24 s43.1).bind fun s49 =>
  (nA s49 10 (4 : Int32)).bind fun s50 =>
  (pR s50 a0 7 25 s49.1).bind fun s51 =>
  (nA s51 10 (96 : Int32)).bind fun s52 =>
  (pR s52 a0 7 26 s51.1).bind fun s53 =>
  (nA s53 10 (5 : Int32)).bind fun s54 =>
  (pR s54 a0 7 27 s53.1).bind fun s55 =>
  (nA s55 10 (5 : Int32)).bind fun s56 =>
  (pR s56 a0 7 28 s55.1).bind fun s57 =>
  (nA s57 10 (5 : Int32)).bind fun s58 =>
  (pR s58 a0 7 29 s57.1).bind fun s59 =>
  (nA s59 10 (120 : Int32)).bind fun s60 =>
  (pR s60 a0 7 30 s59.1).bind fun s61 =>
  (nA s61 10 (24 : Int32)).bind fun s62 =>
  (pR s62 a0 7 31 s61.1).bind fun s63 =>
  (nA s63 10 (60 : Int32)).bind fun s64 =>
  (pR s64 a0 7 32 s63.1).bind fun s65 =>
  (gR s65 a0 7 0).bind fun a66 =>
  (sI s65 a66 10 (0 : Int32) (1 : Int32)).bind fun s67 =>
  some ((), s67)
theorem b_X7_init_in (E : jE)  (s : hS) (a0 : Nat)  : Jo E M_X7_init cvV 0 [(0, .ref a0)] [] s (f_X7_init s a0) := by
  unfold f_X7_init
  refine Jo_aloadn 0 dX7_init_0 rfl rfl ?_
  refine Jo_objInit dX7_init_1 ⟨w_622, w_oi1, w_oi2⟩ ⟨by decide, Nat.le_of_ble_eq_true rfl⟩ ?_
  refine Jo_aloadn 0 dX7_init_4 rfl rfl ?_
  refine Jo_sipush (v := (1476 : Int32)) dX7_init_5 (by decide) ?_
  refine Jo_newarr htn_10 nty_10 w_24 dX7_init_8 (fun s1 => ?_)
  refine Jo_putR fF_7_0 fR_7_0 (Or.inr ⟨rfl, rfl, rfl⟩) ⟨rfl, rfl⟩ dX7_init_10 w_598 (fun s2 => ?_)
  refine Jo_aloadn 0 dX7_init_13 rfl rfl ?_
  refine Jo_sipush (v := (1476 : Int32)) dX7_init_14 (by decide) ?_
  refine Jo_newarr htn_10 nty_10 w_24 dX7_init_17 (fun s3 => ?_)
  refine Jo_putR fF_7_1 fR_7_1 (Or.inr ⟨rfl, rfl, rfl⟩) ⟨rfl, rfl⟩ dX7_init_19 w_621 (fun s4 => ?_)
  refine Jo_aloadn 0 dX7_init_22 rfl rfl ?_
  refine Jo_sipush (v := (1476 : Int32)) dX7_init_23 (by decide) ?_
  refine Jo_newarr htn_10 nty_10 w_24 dX7_init_26 (fun s5 => ?_)
  refine Jo_putR fF_7_2 fR_7_2 (Or.inr ⟨rfl, rfl, rfl⟩) ⟨rfl, rfl⟩ dX7_init_28 w_620 (fun s6 => ?_)
  refine Jo_aloadn 0 dX7_init_31 rfl rfl ?_
  refine Jo_bipush (v := (32 : Int32)) dX7_init_32 (by decide) ?_
  refine Jo_newarr htn_10 nty_10 w_24 dX7_init_34 (fun s7 => ?_)
  refine Jo_putR fF_7_4 fR_7_4 (Or.inr ⟨rfl, rfl, rfl⟩) ⟨rfl, rfl⟩ dX7_init_36 w_619 (fun s8 => ?_)
  refine Jo_aloadn 0 dX7_init_39 rfl rfl ?_
  refine Jo_iconst (v := (4 : Int32)) dX7_init_40 (by decide) ?_
  refine Jo_newarr htn_10 nty_10 w_24 dX7_init_41 (fun s9 => ?_)
  refine Jo_putR fF_7_5 fR_7_5 (Or.inr ⟨rfl, rfl, rfl⟩) ⟨rfl, rfl⟩ dX7_init_43 w_618 (fun s10 => ?_)
  refine Jo_aloadn 0 dX7_init_46 rfl rfl ?_
  refine Jo_bipush (v := (96 : Int32)) dX7_init_47 (by decide) ?_
  refine Jo_newarr htn_10 nty_10 w_24 dX7_init_49 (fun s11 => ?_)
  refine Jo_putR fF_7_6 fR_7_6 (Or.inr ⟨rfl, rfl, rfl⟩) ⟨rfl, rfl⟩ dX7_init_51 w_617 (fun s12 => ?_)
  refine Jo_aloadn 0 dX7_init_54 rfl rfl ?_
  refine Jo_bipush (v := (13 : Int32)) dX7_init_55 (by decide) ?_
  refine Jo_newarr htn_9 nty_9 w_616 dX7_init_57 (fun s13 => ?_)
  refine Jo_dup dX7_init_59 rfl ?_
  refine Jo_iconst (v := (0 : Int32)) dX7_init_60 (by decide) ?_
  refine Jo_bipush (v := (112 : Int32)) dX7_init_61 (by decide) ?_
  refine Jo_castore dX7_init_63 (fun s14 => ?_)
  refine Jo_dup dX7_init_64 rfl ?_
  refine Jo_iconst (v := (1 : Int32)) dX7_init_65 (by decide) ?_
  refine Jo_bipush (v := (114 : Int32)) dX7_init_66 (by decide) ?_
  refine Jo_castore dX7_init_68 (fun s15 => ?_)
  refine Jo_dup dX7_init_69 rfl ?_
  refine Jo_iconst (v := (2 : Int32)) dX7_init_70 (by decide) ?_
  refine Jo_bipush (v := (105 : Int32)) dX7_init_71 (by decide) ?_
  refine Jo_castore dX7_init_73 (fun s16 => ?_)
  refine Jo_dup dX7_init_74 rfl ?_
  refine Jo_iconst (v := (3 : Int32)) dX7_init_75 (by decide) ?_
  refine Jo_bipush (v := (99 : Int32)) dX7_init_76 (by decide) ?_
  refine Jo_castore dX7_init_78 (fun s17 => ?_)
  refine Jo_dup dX7_init_79 rfl ?_
  refine Jo_iconst (v := (4 : Int32)) dX7_init_80 (by decide) ?_
  refine Jo_bipush (v := (101 : Int32)) dX7_init_81 (by decide) ?_
  refine Jo_castore dX7_init_83 (fun s18 => ?_)
  refine Jo_dup dX7_init_84 rfl ?_
  refine Jo_iconst (v := (5 : Int32)) dX7_init_85 (by decide) ?_
  refine Jo_bipush (v := (108 : Int32)) dX7_init_86 (by decide) ?_
  refine Jo_castore dX7_init_88 (fun s19 => ?_)
  refine Jo_dup dX7_init_89 rfl ?_
  refine Jo_bipush (v := (6 : Int32)) dX7_init_90 (by decide) ?_
  refine Jo_bipush (v := (111 : Int32)) dX7_init_92 (by decide) ?_
  refine Jo_castore dX7_init_94 (fun s20 => ?_)
  refine Jo_dup dX7_init_95 rfl ?_
  refine Jo_bipush (v := (7 : Int32)) dX7_init_96 (by decide) ?_
  refine Jo_bipush (v := (111 : Int32)) dX7_init_98 (by decide) ?_
  refine Jo_castore dX7_init_100 (fun s21 => ?_)
  refine Jo_dup dX7_init_101 rfl ?_
  refine Jo_bipush (v := (8 : Int32)) dX7_init_102 (by decide) ?_
  refine Jo_bipush (v := (107 : Int32)) dX7_init_104 (by decide) ?_
  refine Jo_castore dX7_init_106 (fun s22 => ?_)
  refine Jo_dup dX7_init_107 rfl ?_
  refine Jo_bipush (v := (9 : Int32)) dX7_init_108 (by decide) ?_
  refine Jo_bipush (v := (102 : Int32)) dX7_init_110 (by decide) ?_
  refine Jo_castore dX7_init_112 (fun s23 => ?_)
  refine Jo_dup dX7_init_113 rfl ?_
  refine Jo_bipush (v := (10 : Int32)) dX7_init_114 (by decide) ?_
  refine Jo_bipush (v := (105 : Int32)) dX7_init_116 (by decide) ?_
  refine Jo_castore dX7_init_118 (fun s24 => ?_)
  refine Jo_dup dX7_init_119 rfl ?_
  refine Jo_bipush (v := (11 : Int32)) dX7_init_120 (by decide) ?_
  refine Jo_bipush (v := (110 : Int32)) dX7_init_122 (by decide) ?_
  refine Jo_castore dX7_init_124 (fun s25 => ?_)
  refine Jo_dup dX7_init_125 rfl ?_
  refine Jo_bipush (v := (12 : Int32)) dX7_init_126 (by decide) ?_
  refine Jo_bipush (v := (101 : Int32)) dX7_init_128 (by decide) ?_
  refine Jo_castore dX7_init_130 (fun s26 => ?_)
  refine Jo_putR fF_7_14 fR_7_14 (Or.inr ⟨rfl, rfl, rfl⟩) ⟨rfl, rfl⟩ dX7_init_131 w_615 (fun s27 => ?_)
  refine Jo_aloadn 0 dX7_init_134 rfl rfl ?_
  refine Jo_iconst (v := (4 : Int32)) dX7_init_135 (by decide) ?_
  refine Jo_newarr htn_10 nty_10 w_24 dX7_init_136 (fun s28 => ?_)
  refine Jo_dup dX7_init_138 rfl ?_
  refine Jo_iconst (v := (0 : Int32)) dX7_init_139 (by decide) ?_
  refine Jo_iconst (v := (0 : Int32)) dX7_init_140 (by decide) ?_
  refine Jo_iastore dX7_init_141 (fun s29 => ?_)
  refine Jo_dup dX7_init_142 rfl ?_
  refine Jo_iconst (v := (1 : Int32)) dX7_init_143 (by decide) ?_
  refine Jo_iconst (v := (5 : Int32)) dX7_init_144 (by decide) ?_
  refine Jo_iastore dX7_init_145 (fun s30 => ?_)
  refine Jo_dup dX7_init_146 rfl ?_
  refine Jo_iconst (v := (2 : Int32)) dX7_init_147 (by decide) ?_
  refine Jo_bipush (v := (9 : Int32)) dX7_init_148 (by decide) ?_
  refine Jo_iastore dX7_init_150 (fun s31 => ?_)
  refine Jo_dup dX7_init_151 rfl ?_
  refine Jo_iconst (v := (3 : Int32)) dX7_init_152 (by decide) ?_
  refine Jo_bipush (v := (13 : Int32)) dX7_init_153 (by decide) ?_
  refine Jo_iastore dX7_init_155 (fun s32 => ?_)
  refine Jo_putR fF_7_15 fR_7_15 (Or.inr ⟨rfl, rfl, rfl⟩) ⟨rfl, rfl⟩ dX7_init_156 w_614 (fun s33 => ?_)
  refine Jo_aloadn 0 dX7_init_159 rfl rfl ?_
  refine Jo_bipush (v := (96 : Int32)) dX7_init_160 (by decide) ?_
  refine Jo_newarr htn_10 nty_10 w_24 dX7_init_162 (fun s34 => ?_)
  refine Jo_putR fF_7_16 fR_7_16 (Or.inr ⟨rfl, rfl, rfl⟩) ⟨rfl, rfl⟩ dX7_init_164 w_613 (fun s35 => ?_)
  refine Jo_aloadn 0 dX7_init_167 rfl rfl ?_
  refine Jo_bipush (v := (96 : Int32)) dX7_init_168 (by decide) ?_
  refine Jo_newarr htn_10 nty_10 w_24 dX7_init_170 (fun s36 => ?_)
  refine Jo_putR fF_7_19 fR_7_19 (Or.inr ⟨rfl, rfl, rfl⟩) ⟨rfl, rfl⟩ dX7_init_172 w_612 (fun s37 => ?_)
  refine Jo_aloadn 0 dX7_init_175 rfl rfl ?_
  refine Jo_bipush (v := (10 : Int32)) dX7_init_176 (by decide) ?_
  refine Jo_newarr htn_11 nty_11 w_611 dX7_init_178 (fun s38 => ?_)
  refine Jo_putR fF_7_21 fR_7_21 (Or.inr ⟨rfl, rfl, rfl⟩) ⟨rfl, rfl⟩ dX7_init_180 w_610 (fun s39 => ?_)
  refine Jo_aloadn 0 dX7_init_183 rfl rfl ?_
  refine Jo_bipush (v := (96 : Int32)) dX7_init_184 (by decide) ?_
  refine Jo_newarr htn_10 nty_10 w_24 dX7_init_186 (fun s40 => ?_)
  refine Jo_putR fF_7_22 fR_7_22 (Or.inr ⟨rfl, rfl, rfl⟩) ⟨rfl, rfl⟩ dX7_init_188 w_609 (fun s41 => ?_)
  refine Jo_aloadn 0 dX7_init_191 rfl rfl ?_
  refine Jo_iconst (v := (4 : Int32)) dX7_init_192 (by decide) ?_
  refine Jo_newarr htn_10 nty_10 w_24 dX7_init_193 (fun s42 => ?_)
  refine Jo_putR fF_7_23 fR_7_23 (Or.inr ⟨rfl, rfl, rfl⟩) ⟨rfl, rfl⟩ dX7_init_195 w_608 (fun s43 => ?_)
  refine Jo_aloadn 0 dX7_init_198 rfl rfl ?_
  refine Jo_iconst (v := (4 : Int32)) dX7_init_199 (by decide) ?_
  refine Jo_newarr htn_10 nty_10 w_24 dX7_init_200 (fun s44 => ?_)
  refine Jo_dup dX7_init_202 rfl ?_
  refine Jo_iconst (v := (0 : Int32)) dX7_init_203 (by decide) ?_
  refine Jo_iconst (v := (-1 : Int32)) dX7_init_204 (by decide) ?_
  refine Jo_iastore dX7_init_205 (fun s45 => ?_)
  refine Jo_dup dX7_init_206 rfl ?_
  refine Jo_iconst (v := (1 : Int32)) dX7_init_207 (by decide) ?_
  refine Jo_iconst (v := (-1 : Int32)) dX7_init_208 (by decide) ?_
  refine Jo_iastore dX7_init_209 (fun s46 => ?_)
  refine Jo_dup dX7_init_210 rfl ?_
  refine Jo_iconst (v := (2 : Int32)) dX7_init_211 (by decide) ?_
  refine Jo_iconst (v := (-1 : Int32)) dX7_init_212 (by decide) ?_
  refine Jo_iastore dX7_init_213 (fun s47 => ?_)
  refine Jo_dup dX7_init_214 rfl ?_
  refine Jo_iconst (v := (3 : Int32)) dX7_init_215 (by decide) ?_
  refine Jo_iconst (v := (-1 : Int32)) dX7_init_216 (by decide) ?_
  refine Jo_iastore dX7_init_217 (fun s48 => ?_)
  refine Jo_putR fF_7_24 fR_7_24 (Or.inr ⟨rfl, rfl, rfl⟩) ⟨rfl, rfl⟩ dX7_init_218 w_607 (fun s49 => ?_)
  refine Jo_aloadn 0 dX7_init_221 rfl rfl ?_
  refine Jo_iconst (v := (4 : Int32)) dX7_init_222 (by decide) ?_
  refine Jo_newarr htn_10 nty_10 w_24 dX7_init_223 (fun s50 => ?_)
  refine Jo_putR fF_7_25 fR_7_25 (Or.inr ⟨rfl, rfl, rfl⟩) ⟨rfl, rfl⟩ dX7_init_225 w_606 (fun s51 => ?_)
  refine Jo_aloadn 0 dX7_init_228 rfl rfl ?_
  refine Jo_bipush (v := (96 : Int32)) dX7_init_229 (by decide) ?_
  refine Jo_newarr htn_10 nty_10 w_24 dX7_init_231 (fun s52 => ?_)
  refine Jo_putR fF_7_26 fR_7_26 (Or.inr ⟨rfl, rfl, rfl⟩) ⟨rfl, rfl⟩ dX7_init_233 w_605 (fun s53 => ?_)
  refine Jo_aloadn 0 dX7_init_236 rfl rfl ?_
  refine Jo_iconst (v := (5 : Int32)) dX7_init_237 (by decide) ?_
  refine Jo_newarr htn_10 nty_10 w_24 dX7_init_238 (fun s54 => ?_)
  refine Jo_putR fF_7_27 fR_7_27 (Or.inr ⟨rfl, rfl, rfl⟩) ⟨rfl, rfl⟩ dX7_init_240 w_604 (fun s55 => ?_)
  refine Jo_aloadn 0 dX7_init_243 rfl rfl ?_
  refine Jo_iconst (v := (5 : Int32)) dX7_init_244 (by decide) ?_
  refine Jo_newarr htn_10 nty_10 w_24 dX7_init_245 (fun s56 => ?_)
  refine Jo_putR fF_7_28 fR_7_28 (Or.inr ⟨rfl, rfl, rfl⟩) ⟨rfl, rfl⟩ dX7_init_247 w_603 (fun s57 => ?_)
  refine Jo_aloadn 0 dX7_init_250 rfl rfl ?_
  refine Jo_iconst (v := (5 : Int32)) dX7_init_251 (by decide) ?_
  refine Jo_newarr htn_10 nty_10 w_24 dX7_init_252 (fun s58 => ?_)
  refine Jo_putR fF_7_29 fR_7_29 (Or.inr ⟨rfl, rfl, rfl⟩) ⟨rfl, rfl⟩ dX7_init_254 w_602 (fun s59 => ?_)
  refine Jo_aloadn 0 dX7_init_257 rfl rfl ?_
  refine Jo_bipush (v := (120 : Int32)) dX7_init_258 (by decide) ?_
  refine Jo_newarr htn_10 nty_10 w_24 dX7_init_260 (fun s60 => ?_)
  refine Jo_putR fF_7_30 fR_7_30 (Or.inr ⟨rfl, rfl, rfl⟩) ⟨rfl, rfl⟩ dX7_init_262 w_601 (fun s61 => ?_)
  refine Jo_aloadn 0 dX7_init_265 rfl rfl ?_
  refine Jo_bipush (v := (24 : Int32)) dX7_init_266 (by decide) ?_
  refine Jo_newarr htn_10 nty_10 w_24 dX7_init_268 (fun s62 => ?_)
  refine Jo_putR fF_7_31 fR_7_31 (Or.inr ⟨rfl, rfl, rfl⟩) ⟨rfl, rfl⟩ dX7_init_270 w_600 (fun s63 => ?_)
  refine Jo_aloadn 0 dX7_init_273 rfl rfl ?_
  refine Jo_bipush (v := (60 : Int32)) dX7_init_274 (by decide) ?_
  refine Jo_newarr htn_10 nty_10 w_24 dX7_init_276 (fun s64 => ?_)
  refine Jo_putR fF_7_32 fR_7_32 (Or.inr ⟨rfl, rfl, rfl⟩) ⟨rfl, rfl⟩ dX7_init_278 w_599 (fun s65 => ?_)
  refine Jo_aloadn 0 dX7_init_281 rfl rfl ?_
  refine Jo_getR fF_7_0 fR_7_0 dX7_init_282 w_598 (fun a66 => ?_)
  refine Jo_iconst (v := (0 : Int32)) dX7_init_285 (by decide) ?_
  refine Jo_iconst (v := (1 : Int32)) dX7_init_286 (by decide) ?_
  refine Jo_iastore dX7_init_287 (fun s67 => ?_)
  exact Jo_vret rfl dX7_init_288
theorem K_X7_init (E : jE) (s : hS) (a0 : Nat) : jK E yX7_init M_X7_init cvV [.ref a0] s (f_X7_init s a0) := jK_of ⟨by decide, rfl, rfl⟩ (Nat.le_of_ble_eq_true rfl) (b_X7_init_in E s a0)
/-! HeronTalkModel.in(III)Z -/
abbrev M_X7_in : jM := (RX7, cX7_in, 3, (some .boolean), "in", 0, 0)
theorem yF_X7_in : yF yX7_in M_X7_in 3 := ⟨w_626, w_624, by decide +kernel⟩
theorem yS_X7_in : Cond.static yX7_in ∈ tbG := w_627
theorem dX7_in_0 : dI cX7_in 0 1 (.iload_n 0) 1 := ⟨by decide +kernel, rfl⟩
theorem dX7_in_1 : dI cX7_in 1 2 (.iload_n 1) 1 := ⟨by decide +kernel, rfl⟩
theorem dX7_in_2 : decode cX7_in 2 = .ok (.if_icmp .lt 12, 3) := by decide +kernel
theorem dX7_in_5 : dI cX7_in 5 6 (.iload_n 0) 1 := ⟨by decide +kernel, rfl⟩
theorem dX7_in_6 : dI cX7_in 6 7 (.iload_n 2) 1 := ⟨by decide +kernel, rfl⟩
theorem dX7_in_7 : decode cX7_in 7 = .ok (.if_icmp .gt 7, 3) := by decide +kernel
theorem dX7_in_10 : dI cX7_in 10 11 (.iconst 1) 1 := ⟨by decide +kernel, rfl⟩
theorem dX7_in_11 : decode cX7_in 11 = .ok (.goto 4, 3) := by decide +kernel
theorem dX7_in_14 : dI cX7_in 14 15 (.iconst 0) 1 := ⟨by decide +kernel, rfl⟩
theorem dX7_in_15 : dI cX7_in 15 16 (.ireturn) 1 := ⟨by decide +kernel, rfl⟩
def f_X7_in (s : hS) (i0 : Int32) (i1 : Int32) (i2 : Int32) : Option (Int32 × hS) :=
  if i0 < i1 then
    some ((0 : Int32), s)
  else
    if i2 < i0 then
      some ((0 : Int32), s)
    else
      some ((1 : Int32), s)
theorem b_X7_in_in (E : jE)  (s : hS) (i0 : Int32) (i1 : Int32) (i2 : Int32)  : Jo E M_X7_in cvI 0 [(0, .int i0), (1, .int i1), (2, .int i2)] [] s (f_X7_in s i0 i1 i2) := by
  unfold f_X7_in
  refine Jo_iloadn 0 dX7_in_0 rfl rfl ?_
  refine Jo_iloadn 1 dX7_in_1 rfl rfl ?_
  refine Jo_icmp_lt 14 dX7_in_2 (by decide) rfl ?_ ?_
  · refine Jo_iconst (v := (0 : Int32)) dX7_in_14 (by decide) ?_
    exact Jo_zret0 rfl dX7_in_15
  · refine Jo_iloadn 0 dX7_in_5 rfl rfl ?_
    refine Jo_iloadn 2 dX7_in_6 rfl rfl ?_
    refine Jo_icmp_gt 14 dX7_in_7 (by decide) rfl ?_ ?_
    · refine Jo_iconst (v := (0 : Int32)) dX7_in_14 (by decide) ?_
      exact Jo_zret0 rfl dX7_in_15
    · refine Jo_iconst (v := (1 : Int32)) dX7_in_10 (by decide) ?_
      refine Jo_goto 15 dX7_in_11 (by decide) ?_
      exact Jo_zret1 rfl dX7_in_15
theorem K_X7_in (E : jE) (s : hS) (i0 : Int32) (i1 : Int32) (i2 : Int32) : jK E yX7_in M_X7_in cvI [.int i0, .int i1, .int i2] s (f_X7_in s i0 i1 i2) := jK_of ⟨by decide, rfl, rfl⟩ (Nat.le_of_ble_eq_true rfl) (b_X7_in_in E s i0 i1 i2)
/-! HeronTalkModel.within(III)I -/
abbrev M_X7_within : jM := (RX7, cX7_within, 3, (some .int), "within", 0, 0)
theorem yF_X7_within : yF yX7_within M_X7_within 3 := ⟨w_628, w_624, by decide +kernel⟩
theorem yS_X7_within : Cond.static yX7_within ∈ tbG := w_629
theorem dX7_within_0 : dI cX7_within 0 1 (.iload_n 0) 1 := ⟨by decide +kernel, rfl⟩
theorem dX7_within_1 : dI cX7_within 1 2 (.iload_n 1) 1 := ⟨by decide +kernel, rfl⟩
theorem dX7_within_2 : decode cX7_within 2 = .ok (.if_icmp .ge 7, 3) := by decide +kernel
theorem dX7_within_5 : dI cX7_within 5 6 (.iload_n 1) 1 := ⟨by decide +kernel, rfl⟩
theorem dX7_within_6 : decode cX7_within 6 = .ok (.goto 13, 3) := by decide +kernel
theorem dX7_within_9 : dI cX7_within 9 10 (.iload_n 0) 1 := ⟨by decide +kernel, rfl⟩
theorem dX7_within_10 : dI cX7_within 10 11 (.iload_n 2) 1 := ⟨by decide +kernel, rfl⟩
theorem dX7_within_11 : decode cX7_within 11 = .ok (.if_icmp .le 7, 3) := by decide +kernel
theorem dX7_within_14 : dI cX7_within 14 15 (.iload_n 2) 1 := ⟨by decide +kernel, rfl⟩
theorem dX7_within_15 : decode cX7_within 15 = .ok (.goto 4, 3) := by decide +kernel
theorem dX7_within_18 : dI cX7_within 18 19 (.iload_n 0) 1 := ⟨by decide +kernel, rfl⟩
theorem dX7_within_19 : dI cX7_within 19 20 (.ireturn) 1 := ⟨by decide +kernel, rfl⟩
def f_X7_within (s : hS) (i0 : Int32) (i1 : Int32) (i2 : Int32) : Option (Int32 × hS) :=
  if i1 ≤ i0 then
    if i0 ≤ i2 then
      some (i0, s)
    else
      some (i2, s)
  else
    some (i1, s)
theorem b_X7_within_in (E : jE)  (s : hS) (i0 : Int32) (i1 : Int32) (i2 : Int32)  : Jo E M_X7_within cvI 0 [(0, .int i0), (1, .int i1), (2, .int i2)] [] s (f_X7_within s i0 i1 i2) := by
  unfold f_X7_within
  refine Jo_iloadn 0 dX7_within_0 rfl rfl ?_
  refine Jo_iloadn 1 dX7_within_1 rfl rfl ?_
  refine Jo_icmp_ge 9 dX7_within_2 (by decide) rfl ?_ ?_
  · refine Jo_iloadn 0 dX7_within_9 rfl rfl ?_
    refine Jo_iloadn 2 dX7_within_10 rfl rfl ?_
    refine Jo_icmp_le 18 dX7_within_11 (by decide) rfl ?_ ?_
    · refine Jo_iloadn 0 dX7_within_18 rfl rfl ?_
      exact Jo_iret rfl dX7_within_19
    · refine Jo_iloadn 2 dX7_within_14 rfl rfl ?_
      refine Jo_goto 19 dX7_within_15 (by decide) ?_
      exact Jo_iret rfl dX7_within_19
  · refine Jo_iloadn 1 dX7_within_5 rfl rfl ?_
    refine Jo_goto 19 dX7_within_6 (by decide) ?_
    exact Jo_iret rfl dX7_within_19
theorem K_X7_within (E : jE) (s : hS) (i0 : Int32) (i1 : Int32) (i2 : Int32) : jK E yX7_within M_X7_within cvI [.int i0, .int i1, .int i2] s (f_X7_within s i0 i1 i2) := jK_of ⟨by decide, rfl, rfl⟩ (Nat.le_of_ble_eq_true rfl) (b_X7_within_in E s i0 i1 i2)
/-! HeronTalkModel.copyAll([I[I)V -/
abbrev M_X7_copyAll : jM := (RX7, cX7_copyAll, 3, (none : Option Jvm.ClassFile.FieldType), "copyAll", 0, 0)
theorem yF_X7_copyAll : yF yX7_copyAll M_X7_copyAll 2 := ⟨w_630, w_624, by decide +kernel⟩
theorem yS_X7_copyAll : Cond.static yX7_copyAll ∈ tbG := w_631
theorem dX7_copyAll_0 : dI cX7_copyAll 0 1 (.iconst 0) 1 := ⟨by decide +kernel, rfl⟩
theorem dX7_copyAll_1 : dI cX7_copyAll 1 2 (.istore_n 2) 1 := ⟨by decide +kernel, rfl⟩
theorem dX7_copyAll_2 : dI cX7_copyAll 2 3 (.iload_n 2) 1 := ⟨by decide +kernel, rfl⟩
theorem dX7_copyAll_3 : dI cX7_copyAll 3 6 (.sipush 1476) 3 := ⟨by decide +kernel, rfl⟩
theorem dX7_copyAll_6 : decode cX7_copyAll 6 = .ok (.if_icmp .ge 15, 3) := by decide +kernel
theorem dX7_copyAll_9 : dI cX7_copyAll 9 10 (.aload_n 1) 1 := ⟨by decide +kernel, rfl⟩
theorem dX7_copyAll_10 : dI cX7_copyAll 10 11 (.iload_n 2) 1 := ⟨by decide +kernel, rfl⟩
theorem dX7_copyAll_11 : dI cX7_copyAll 11 12 (.aload_n 0) 1 := ⟨by decide +kernel, rfl⟩
theorem dX7_copyAll_12 : dI cX7_copyAll 12 13 (.iload_n 2) 1 := ⟨by decide +kernel, rfl⟩
theorem dX7_copyAll_13 : dI cX7_copyAll 13 14 (.iaload) 1 := ⟨by decide +kernel, rfl⟩
theorem dX7_copyAll_14 : dI cX7_copyAll 14 15 (.iastore) 1 := ⟨by decide +kernel, rfl⟩
theorem dX7_copyAll_15 : dI cX7_copyAll 15 18 (.iinc 2 1) 3 := ⟨by decide +kernel, rfl⟩
theorem dX7_copyAll_18 : decode cX7_copyAll 18 = .ok (.goto (-16), 3) := by decide +kernel
theorem dX7_copyAll_21 : dI cX7_copyAll 21 22 (.return_) 1 := ⟨by decide +kernel, rfl⟩
def f_X7_copyAll_b2 (k2 : Nat → Nat → Int32 → hS → Option (Unit × hS)) (l0 : Nat) (l1 : Nat) (l2 : Int32) (s : hS) : Option (Unit × hS) :=
  if (1476 : Int32) ≤ l2 then
    some ((), s)
  else
    (aI s l0 10 l2).bind fun x1 =>
    (sI s l1 10 l2 x1).bind fun s2 =>
    k2 l0 l1 (l2 + (1 : Int32)) s2
theorem b_X7_copyAll_2 (E : jE) (k2 : Nat → Nat → Int32 → hS → Option (Unit × hS)) (h2 : ∀ (s : hS) (l0 : Nat) (l1 : Nat) (l2 : Int32) , Jo E M_X7_copyAll cvV 2 [(0, .ref l0), (1, .ref l1), (2, .int l2)] [] s (k2 l0 l1 l2 s)) (s : hS) (l0 : Nat) (l1 : Nat) (l2 : Int32)  : Jo E M_X7_copyAll cvV 2 [(0, .ref l0), (1, .ref l1), (2, .int l2)] [] s (f_X7_copyAll_b2 k2 l0 l1 l2 s) := by
  unfold f_X7_copyAll_b2
  refine Jo_iloadn 2 dX7_copyAll_2 rfl rfl ?_
  refine Jo_sipush (v := (1476 : Int32)) dX7_copyAll_3 (by decide) ?_
  refine Jo_icmp_ge 21 dX7_copyAll_6 (by decide) rfl ?_ ?_
  · exact Jo_vret rfl dX7_copyAll_21
  · refine Jo_aloadn 1 dX7_copyAll_9 rfl rfl ?_
    refine Jo_iloadn 2 dX7_copyAll_10 rfl rfl ?_
    refine Jo_aloadn 0 dX7_copyAll_11 rfl rfl ?_
    refine Jo_iloadn 2 dX7_copyAll_12 rfl rfl ?_
    refine Jo_iaload dX7_copyAll_13 (fun x1 => ?_)
    refine Jo_iastore dX7_copyAll_14 (fun s2 => ?_)
    refine Jo_iinc (v := (l2 + (1 : Int32))) (ls' := [(2, .int (l2 + (1 : Int32))), (0, .ref l0), (1, .ref l1)]) 2 dX7_copyAll_15 rfl rfl (by decide) rfl ?_
    refine Jo_goto 2 dX7_copyAll_18 (by decide) ?_
    refine Jo_sub [1, 2, 0] rfl ?_
    exact h2 s2 l0 l1 (l2 + (1 : Int32))
theorem e_X7_copyAll_2 (E : jE)  (n : Nat) : ∀ (s : hS) (l0 : Nat) (l1 : Nat) (l2 : Int32) , Jo E M_X7_copyAll cvV 2 [(0, .ref l0), (1, .ref l1), (2, .int l2)] [] s ((jL f_X7_copyAll_b2 (fun _ _ _ _ => none) n) l0 l1 l2 s) :=
  jL_ind (P := fun f => ∀ (s : hS) (l0 : Nat) (l1 : Nat) (l2 : Int32) , Jo E M_X7_copyAll cvV 2 [(0, .ref l0), (1, .ref l1), (2, .int l2)] [] s (f l0 l1 l2 s)) (fun _ _ _ _ => Jo_none) (fun b hb s l0 l1 l2 => b_X7_copyAll_2 E  b hb s l0 l1 l2) n
def f_X7_copyAll (s : hS) (a0 : Nat) (a1 : Nat) : Option (Unit × hS) :=
  jL f_X7_copyAll_b2 (fun _ _ _ _ => none) jF a0 a1 (0 : Int32) s
theorem b_X7_copyAll_in (E : jE)  (s : hS) (a0 : Nat) (a1 : Nat)  : Jo E M_X7_copyAll cvV 0 [(0, .ref a0), (1, .ref a1)] [] s (f_X7_copyAll s a0 a1) := by
  unfold f_X7_copyAll
  refine Jo_iconst (v := (0 : Int32)) dX7_copyAll_0 (by decide) ?_
  refine Jo_istoren (ls' := [(2, .int (0 : Int32)), (0, .ref a0), (1, .ref a1)]) dX7_copyAll_1 rfl (by decide) rfl ?_
  refine Jo_sub [1, 2, 0] rfl ?_
  exact e_X7_copyAll_2 E jF s a0 a1 (0 : Int32)
theorem K_X7_copyAll (E : jE) (s : hS) (a0 : Nat) (a1 : Nat) : jK E yX7_copyAll M_X7_copyAll cvV [.ref a0, .ref a1] s (f_X7_copyAll s a0 a1) := jK_of ⟨by decide, rfl, rfl⟩ (Nat.le_of_ble_eq_true rfl) (b_X7_copyAll_in E s a0 a1)
/-! HeronTalkModel.told0(I)I -/
abbrev M_X7_told0 : jM := (RX7, cX7_told0, 1, (some .int), "told0", 0, 0)
theorem yF_X7_told0 : yF yX7_told0 M_X7_told0 1 := ⟨w_633, w_624, by decide +kernel⟩
theorem yS_X7_told0 : Cond.static yX7_told0 ∈ tbG := w_634
theorem dX7_told0_0 : dI cX7_told0 0 1 (.iload_n 0) 1 := ⟨by decide +kernel, rfl⟩
theorem dX7_told0_1 : decode cX7_told0 1 = .ok (.ifCond .ge 8, 3) := by decide +kernel
theorem dX7_told0_4 : dI cX7_told0 4 6 (.ldc 78) 2 := ⟨by decide +kernel, rfl⟩
theorem dX7_told0_6 : decode cX7_told0 6 = .ok (.goto 4, 3) := by decide +kernel
theorem dX7_told0_9 : dI cX7_told0 9 10 (.iload_n 0) 1 := ⟨by decide +kernel, rfl⟩
theorem dX7_told0_10 : dI cX7_told0 10 11 (.ireturn) 1 := ⟨by decide +kernel, rfl⟩
def f_X7_told0 (s : hS) (i0 : Int32) : Option (Int32 × hS) :=
  if 0 ≤ i0 then
    some (i0, s)
  else
    some ((-1000000005 : Int32), s)
theorem b_X7_told0_in (E : jE)  (s : hS) (i0 : Int32)  : Jo E M_X7_told0 cvI 0 [(0, .int i0)] [] s (f_X7_told0 s i0) := by
  unfold f_X7_told0
  refine Jo_iloadn 0 dX7_told0_0 rfl rfl ?_
  refine Jo_if_ge 9 dX7_told0_1 (by decide) rfl ?_ ?_
  · refine Jo_iloadn 0 dX7_told0_9 rfl rfl ?_
    exact Jo_iret rfl dX7_told0_10
  · refine Jo_ldc dX7_told0_4 w_632 ?_
    refine Jo_goto 10 dX7_told0_6 (by decide) ?_
    exact Jo_iret rfl dX7_told0_10
theorem K_X7_told0 (E : jE) (s : hS) (i0 : Int32) : jK E yX7_told0 M_X7_told0 cvI [.int i0] s (f_X7_told0 s i0) := jK_of ⟨by decide, rfl, rfl⟩ (Nat.le_of_ble_eq_true rfl) (b_X7_told0_in E s i0)
/-! HeronTalkModel.isFact(I)Z -/
abbrev M_X7_isFact : jM := (RX7, cX7_isFact, 2, (some .boolean), "isFact", 1, 22)
theorem yF_X7_isFact : yF yX7_isFact M_X7_isFact 1 := ⟨w_636, w_624, by decide +kernel⟩
theorem yV_X7_isFact : Cond.instanceMethod yX7_isFact ∈ tbG ∧ Cond.selects yX7_isFact.cls yX7_isFact yX7_isFact ∈ tbG := ⟨w_637, w_638⟩
theorem dX7_isFact_0 : dI cX7_isFact 0 1 (.iload_n 1) 1 := ⟨by decide +kernel, rfl⟩
theorem dX7_isFact_1 : dI cX7_isFact 1 2 (.iconst 0) 1 := ⟨by decide +kernel, rfl⟩
theorem dX7_isFact_2 : dI cX7_isFact 2 3 (.aload_n 0) 1 := ⟨by decide +kernel, rfl⟩
theorem dX7_isFact_3 : dI cX7_isFact 3 6 (.getfield 9) 3 := ⟨by decide +kernel, rfl⟩
theorem dX7_isFact_6 : dI cX7_isFact 6 7 (.iconst 1) 1 := ⟨by decide +kernel, rfl⟩
theorem dX7_isFact_7 : dI cX7_isFact 7 8 (.iaload) 1 := ⟨by decide +kernel, rfl⟩
theorem dX7_isFact_8 : dI cX7_isFact 8 9 (.iconst 1) 1 := ⟨by decide +kernel, rfl⟩
theorem dX7_isFact_9 : dI cX7_isFact 9 10 (.isub) 1 := ⟨by decide +kernel, rfl⟩
theorem dX7_isFact_10 : decode cX7_isFact 10 = .ok (.invokestatic 79, 3) := by decide +kernel
theorem dX7_isFact_13 : dI cX7_isFact 13 14 (.ireturn) 1 := ⟨by decide +kernel, rfl⟩
def f_X7_isFact (s : hS) (a0 : Nat) (i1 : Int32) : Option (Int32 × hS) :=
  (gR s a0 7 0).bind fun a1 =>
  (aI s a1 10 (1 : Int32)).bind fun x2 =>
  (f_X7_in s i1 (0 : Int32) (x2 - (1 : Int32))).bind fun p3 =>
  if p3.1 = 0 ∨ p3.1 = 1 then some (p3.1, p3.2) else none
theorem b_X7_isFact_in (E : jE)  (s : hS) (a0 : Nat) (i1 : Int32)  : Jo E M_X7_isFact cvI 0 [(0, .ref a0), (1, .int i1)] [] s (f_X7_isFact s a0 i1) := by
  unfold f_X7_isFact
  refine Jo_iloadn 1 dX7_isFact_0 rfl rfl ?_
  refine Jo_iconst (v := (0 : Int32)) dX7_isFact_1 (by decide) ?_
  refine Jo_aloadn 0 dX7_isFact_2 rfl rfl ?_
  refine Jo_getR fF_7_0 fR_7_0 dX7_isFact_3 w_598 (fun a1 => ?_)
  refine Jo_iconst (v := (1 : Int32)) dX7_isFact_6 (by decide) ?_
  refine Jo_iaload dX7_isFact_7 (fun x2 => ?_)
  refine Jo_iconst (v := (1 : Int32)) dX7_isFact_8 (by decide) ?_
  refine Jo_isub dX7_isFact_9 ?_
  refine Jo_callSi (rest := []) [.int i1, .int (0 : Int32), .int (x2 - (1 : Int32))] yF_X7_in yS_X7_in w_635 rfl rfl ⟨Nat.le_of_ble_eq_true rfl, Nat.le_of_ble_eq_true rfl, Nat.le_of_ble_eq_true rfl⟩ dX7_isFact_10 rfl (K_X7_in E s i1 (0 : Int32) (x2 - (1 : Int32))) (fun p3 => ?_)
  exact Jo_zret rfl dX7_isFact_13
theorem K_X7_isFact (E : jE) (s : hS) (a0 : Nat) (i1 : Int32) : jK E yX7_isFact M_X7_isFact cvI [.ref a0, .int i1] s (f_X7_isFact s a0 i1) := jK_of ⟨by decide, rfl, rfl⟩ (Nat.le_of_ble_eq_true rfl) (b_X7_isFact_in E s a0 i1)
/-! HeronTalkModel.isPerson(I)Z -/
abbrev M_X7_isPerson : jM := (RX7, cX7_isPerson, 2, (some .boolean), "isPerson", 1, 22)
theorem yF_X7_isPerson : yF yX7_isPerson M_X7_isPerson 1 := ⟨w_639, w_624, by decide +kernel⟩
theorem yV_X7_isPerson : Cond.instanceMethod yX7_isPerson ∈ tbG ∧ Cond.selects yX7_isPerson.cls yX7_isPerson yX7_isPerson ∈ tbG := ⟨w_640, w_641⟩
theorem dX7_isPerson_0 : dI cX7_isPerson 0 1 (.iload_n 1) 1 := ⟨by decide +kernel, rfl⟩
theorem dX7_isPerson_1 : dI cX7_isPerson 1 2 (.iconst 0) 1 := ⟨by decide +kernel, rfl⟩
theorem dX7_isPerson_2 : dI cX7_isPerson 2 3 (.aload_n 0) 1 := ⟨by decide +kernel, rfl⟩
theorem dX7_isPerson_3 : dI cX7_isPerson 3 6 (.getfield 9) 3 := ⟨by decide +kernel, rfl⟩
theorem dX7_isPerson_6 : dI cX7_isPerson 6 7 (.iconst 2) 1 := ⟨by decide +kernel, rfl⟩
theorem dX7_isPerson_7 : dI cX7_isPerson 7 8 (.iaload) 1 := ⟨by decide +kernel, rfl⟩
theorem dX7_isPerson_8 : dI cX7_isPerson 8 9 (.iconst 1) 1 := ⟨by decide +kernel, rfl⟩
theorem dX7_isPerson_9 : dI cX7_isPerson 9 10 (.isub) 1 := ⟨by decide +kernel, rfl⟩
theorem dX7_isPerson_10 : decode cX7_isPerson 10 = .ok (.invokestatic 79, 3) := by decide +kernel
theorem dX7_isPerson_13 : dI cX7_isPerson 13 14 (.ireturn) 1 := ⟨by decide +kernel, rfl⟩
def f_X7_isPerson (s : hS) (a0 : Nat) (i1 : Int32) : Option (Int32 × hS) :=
  (gR s a0 7 0).bind fun a1 =>
  (aI s a1 10 (2 : Int32)).bind fun x2 =>
  (f_X7_in s i1 (0 : Int32) (x2 - (1 : Int32))).bind fun p3 =>
  if p3.1 = 0 ∨ p3.1 = 1 then some (p3.1, p3.2) else none
theorem b_X7_isPerson_in (E : jE)  (s : hS) (a0 : Nat) (i1 : Int32)  : Jo E M_X7_isPerson cvI 0 [(0, .ref a0), (1, .int i1)] [] s (f_X7_isPerson s a0 i1) := by
  unfold f_X7_isPerson
  refine Jo_iloadn 1 dX7_isPerson_0 rfl rfl ?_
  refine Jo_iconst (v := (0 : Int32)) dX7_isPerson_1 (by decide) ?_
  refine Jo_aloadn 0 dX7_isPerson_2 rfl rfl ?_
  refine Jo_getR fF_7_0 fR_7_0 dX7_isPerson_3 w_598 (fun a1 => ?_)
  refine Jo_iconst (v := (2 : Int32)) dX7_isPerson_6 (by decide) ?_
  refine Jo_iaload dX7_isPerson_7 (fun x2 => ?_)
  refine Jo_iconst (v := (1 : Int32)) dX7_isPerson_8 (by decide) ?_
  refine Jo_isub dX7_isPerson_9 ?_
  refine Jo_callSi (rest := []) [.int i1, .int (0 : Int32), .int (x2 - (1 : Int32))] yF_X7_in yS_X7_in w_635 rfl rfl ⟨Nat.le_of_ble_eq_true rfl, Nat.le_of_ble_eq_true rfl, Nat.le_of_ble_eq_true rfl⟩ dX7_isPerson_10 rfl (K_X7_in E s i1 (0 : Int32) (x2 - (1 : Int32))) (fun p3 => ?_)
  exact Jo_zret rfl dX7_isPerson_13
theorem K_X7_isPerson (E : jE) (s : hS) (a0 : Nat) (i1 : Int32) : jK E yX7_isPerson M_X7_isPerson cvI [.ref a0, .int i1] s (f_X7_isPerson s a0 i1) := jK_of ⟨by decide, rfl, rfl⟩ (Nat.le_of_ble_eq_true rfl) (b_X7_isPerson_in E s a0 i1)
/-! HeronTalkModel.isTalk(I)Z -/
abbrev M_X7_isTalk : jM := (RX7, cX7_isTalk, 2, (some .boolean), "isTalk", 1, 22)
theorem yF_X7_isTalk : yF yX7_isTalk M_X7_isTalk 1 := ⟨w_642, w_624, by decide +kernel⟩
theorem yV_X7_isTalk : Cond.instanceMethod yX7_isTalk ∈ tbG ∧ Cond.selects yX7_isTalk.cls yX7_isTalk yX7_isTalk ∈ tbG := ⟨w_643, w_644⟩
theorem dX7_isTalk_0 : dI cX7_isTalk 0 1 (.iload_n 1) 1 := ⟨by decide +kernel, rfl⟩
theorem dX7_isTalk_1 : dI cX7_isTalk 1 2 (.iconst 0) 1 := ⟨by decide +kernel, rfl⟩
theorem dX7_isTalk_2 : dI cX7_isTalk 2 3 (.aload_n 0) 1 := ⟨by decide +kernel, rfl⟩
theorem dX7_isTalk_3 : dI cX7_isTalk 3 6 (.getfield 9) 3 := ⟨by decide +kernel, rfl⟩
theorem dX7_isTalk_6 : dI cX7_isTalk 6 7 (.iconst 3) 1 := ⟨by decide +kernel, rfl⟩
theorem dX7_isTalk_7 : dI cX7_isTalk 7 8 (.iaload) 1 := ⟨by decide +kernel, rfl⟩
theorem dX7_isTalk_8 : dI cX7_isTalk 8 9 (.iconst 1) 1 := ⟨by decide +kernel, rfl⟩
theorem dX7_isTalk_9 : dI cX7_isTalk 9 10 (.isub) 1 := ⟨by decide +kernel, rfl⟩
theorem dX7_isTalk_10 : decode cX7_isTalk 10 = .ok (.invokestatic 79, 3) := by decide +kernel
theorem dX7_isTalk_13 : dI cX7_isTalk 13 14 (.ireturn) 1 := ⟨by decide +kernel, rfl⟩
def f_X7_isTalk (s : hS) (a0 : Nat) (i1 : Int32) : Option (Int32 × hS) :=
  (gR s a0 7 0).bind fun a1 =>
  (aI s a1 10 (3 : Int32)).bind fun x2 =>
  (f_X7_in s i1 (0 : Int32) (x2 - (1 : Int32))).bind fun p3 =>
  if p3.1 = 0 ∨ p3.1 = 1 then some (p3.1, p3.2) else none
theorem b_X7_isTalk_in (E : jE)  (s : hS) (a0 : Nat) (i1 : Int32)  : Jo E M_X7_isTalk cvI 0 [(0, .ref a0), (1, .int i1)] [] s (f_X7_isTalk s a0 i1) := by
  unfold f_X7_isTalk
  refine Jo_iloadn 1 dX7_isTalk_0 rfl rfl ?_
  refine Jo_iconst (v := (0 : Int32)) dX7_isTalk_1 (by decide) ?_
  refine Jo_aloadn 0 dX7_isTalk_2 rfl rfl ?_
  refine Jo_getR fF_7_0 fR_7_0 dX7_isTalk_3 w_598 (fun a1 => ?_)
  refine Jo_iconst (v := (3 : Int32)) dX7_isTalk_6 (by decide) ?_
  refine Jo_iaload dX7_isTalk_7 (fun x2 => ?_)
  refine Jo_iconst (v := (1 : Int32)) dX7_isTalk_8 (by decide) ?_
  refine Jo_isub dX7_isTalk_9 ?_
  refine Jo_callSi (rest := []) [.int i1, .int (0 : Int32), .int (x2 - (1 : Int32))] yF_X7_in yS_X7_in w_635 rfl rfl ⟨Nat.le_of_ble_eq_true rfl, Nat.le_of_ble_eq_true rfl, Nat.le_of_ble_eq_true rfl⟩ dX7_isTalk_10 rfl (K_X7_in E s i1 (0 : Int32) (x2 - (1 : Int32))) (fun p3 => ?_)
  exact Jo_zret rfl dX7_isTalk_13
theorem K_X7_isTalk (E : jE) (s : hS) (a0 : Nat) (i1 : Int32) : jK E yX7_isTalk M_X7_isTalk cvI [.ref a0, .int i1] s (f_X7_isTalk s a0 i1) := jK_of ⟨by decide, rfl, rfl⟩ (Nat.le_of_ble_eq_true rfl) (b_X7_isTalk_in E s a0 i1)
/-! HeronTalkModel.isSet(I)Z -/
abbrev M_X7_isSet : jM := (RX7, cX7_isSet, 2, (some .boolean), "isSet", 0, 0)
theorem yF_X7_isSet : yF yX7_isSet M_X7_isSet 1 := ⟨w_645, w_624, by decide +kernel⟩
theorem yV_X7_isSet : Cond.instanceMethod yX7_isSet ∈ tbG ∧ Cond.selects yX7_isSet.cls yX7_isSet yX7_isSet ∈ tbG := ⟨w_646, w_647⟩
theorem dX7_isSet_0 : dI cX7_isSet 0 1 (.iload_n 1) 1 := ⟨by decide +kernel, rfl⟩
theorem dX7_isSet_1 : decode cX7_isSet 1 = .ok (.ifCond .lt 18, 3) := by decide +kernel
theorem dX7_isSet_4 : dI cX7_isSet 4 5 (.iload_n 1) 1 := ⟨by decide +kernel, rfl⟩
theorem dX7_isSet_5 : dI cX7_isSet 5 6 (.aload_n 0) 1 := ⟨by decide +kernel, rfl⟩
theorem dX7_isSet_6 : dI cX7_isSet 6 9 (.getfield 9) 3 := ⟨by decide +kernel, rfl⟩
theorem dX7_isSet_9 : dI cX7_isSet 9 10 (.iconst 1) 1 := ⟨by decide +kernel, rfl⟩
theorem dX7_isSet_10 : dI cX7_isSet 10 11 (.iaload) 1 := ⟨by decide +kernel, rfl⟩
theorem dX7_isSet_11 : dI cX7_isSet 11 12 (.ishr) 1 := ⟨by decide +kernel, rfl⟩
theorem dX7_isSet_12 : decode cX7_isSet 12 = .ok (.ifCond .ne 7, 3) := by decide +kernel
theorem dX7_isSet_15 : dI cX7_isSet 15 16 (.iconst 1) 1 := ⟨by decide +kernel, rfl⟩
theorem dX7_isSet_16 : decode cX7_isSet 16 = .ok (.goto 4, 3) := by decide +kernel
theorem dX7_isSet_19 : dI cX7_isSet 19 20 (.iconst 0) 1 := ⟨by decide +kernel, rfl⟩
theorem dX7_isSet_20 : dI cX7_isSet 20 21 (.ireturn) 1 := ⟨by decide +kernel, rfl⟩
def f_X7_isSet (s : hS) (a0 : Nat) (i1 : Int32) : Option (Int32 × hS) :=
  if i1 < 0 then
    some ((0 : Int32), s)
  else
    (gR s a0 7 0).bind fun a1 =>
    (aI s a1 10 (1 : Int32)).bind fun x2 =>
    if (i1 >>> (x2 &&& 31)) = 0 then
      some ((1 : Int32), s)
    else
      some ((0 : Int32), s)
theorem b_X7_isSet_in (E : jE)  (s : hS) (a0 : Nat) (i1 : Int32)  : Jo E M_X7_isSet cvI 0 [(0, .ref a0), (1, .int i1)] [] s (f_X7_isSet s a0 i1) := by
  unfold f_X7_isSet
  refine Jo_iloadn 1 dX7_isSet_0 rfl rfl ?_
  refine Jo_if_lt 19 dX7_isSet_1 (by decide) rfl ?_ ?_
  · refine Jo_iconst (v := (0 : Int32)) dX7_isSet_19 (by decide) ?_
    exact Jo_zret0 rfl dX7_isSet_20
  · refine Jo_iloadn 1 dX7_isSet_4 rfl rfl ?_
    refine Jo_aloadn 0 dX7_isSet_5 rfl rfl ?_
    refine Jo_getR fF_7_0 fR_7_0 dX7_isSet_6 w_598 (fun a1 => ?_)
    refine Jo_iconst (v := (1 : Int32)) dX7_isSet_9 (by decide) ?_
    refine Jo_iaload dX7_isSet_10 (fun x2 => ?_)
    refine Jo_ishr dX7_isSet_11 ?_
    refine Jo_if_ne 19 dX7_isSet_12 (by decide) rfl ?_ ?_
    · refine Jo_iconst (v := (1 : Int32)) dX7_isSet_15 (by decide) ?_
      refine Jo_goto 20 dX7_isSet_16 (by decide) ?_
      exact Jo_zret1 rfl dX7_isSet_20
    · refine Jo_iconst (v := (0 : Int32)) dX7_isSet_19 (by decide) ?_
      exact Jo_zret0 rfl dX7_isSet_20
theorem K_X7_isSet (E : jE) (s : hS) (a0 : Nat) (i1 : Int32) : jK E yX7_isSet M_X7_isSet cvI [.ref a0, .int i1] s (f_X7_isSet s a0 i1) := jK_of ⟨by decide, rfl, rfl⟩ (Nat.le_of_ble_eq_true rfl) (b_X7_isSet_in E s a0 i1)
/-! HeronTalkModel.bitsOf(I)I -/
abbrev M_X7_bitsOf : jM := (RX7, cX7_bitsOf, 3, (some .int), "bitsOf", 0, 0)
theorem yF_X7_bitsOf : yF yX7_bitsOf M_X7_bitsOf 1 := ⟨w_648, w_624, by decide +kernel⟩
theorem yS_X7_bitsOf : Cond.static yX7_bitsOf ∈ tbG := w_649
theorem dX7_bitsOf_0 : dI cX7_bitsOf 0 1 (.iconst 0) 1 := ⟨by decide +kernel, rfl⟩
theorem dX7_bitsOf_1 : dI cX7_bitsOf 1 2 (.istore_n 1) 1 := ⟨by decide +kernel, rfl⟩
theorem dX7_bitsOf_2 : dI cX7_bitsOf 2 3 (.iload_n 0) 1 := ⟨by decide +kernel, rfl⟩
theorem dX7_bitsOf_3 : dI cX7_bitsOf 3 4 (.istore_n 2) 1 := ⟨by decide +kernel, rfl⟩
theorem dX7_bitsOf_4 : dI cX7_bitsOf 4 5 (.iload_n 2) 1 := ⟨by decide +kernel, rfl⟩
theorem dX7_bitsOf_5 : decode cX7_bitsOf 5 = .ok (.ifCond .eq 15, 3) := by decide +kernel
theorem dX7_bitsOf_8 : dI cX7_bitsOf 8 11 (.iinc 1 1) 3 := ⟨by decide +kernel, rfl⟩
theorem dX7_bitsOf_11 : dI cX7_bitsOf 11 12 (.iload_n 2) 1 := ⟨by decide +kernel, rfl⟩
theorem dX7_bitsOf_12 : dI cX7_bitsOf 12 13 (.iload_n 2) 1 := ⟨by decide +kernel, rfl⟩
theorem dX7_bitsOf_13 : dI cX7_bitsOf 13 14 (.iconst 1) 1 := ⟨by decide +kernel, rfl⟩
theorem dX7_bitsOf_14 : dI cX7_bitsOf 14 15 (.isub) 1 := ⟨by decide +kernel, rfl⟩
theorem dX7_bitsOf_15 : dI cX7_bitsOf 15 16 (.iand) 1 := ⟨by decide +kernel, rfl⟩
theorem dX7_bitsOf_16 : dI cX7_bitsOf 16 17 (.istore_n 2) 1 := ⟨by decide +kernel, rfl⟩
theorem dX7_bitsOf_17 : decode cX7_bitsOf 17 = .ok (.goto (-13), 3) := by decide +kernel
theorem dX7_bitsOf_20 : dI cX7_bitsOf 20 21 (.iload_n 1) 1 := ⟨by decide +kernel, rfl⟩
theorem dX7_bitsOf_21 : dI cX7_bitsOf 21 22 (.ireturn) 1 := ⟨by decide +kernel, rfl⟩
def f_X7_bitsOf_b4 (k4 : Int32 → Int32 → hS → Option (Int32 × hS)) (l1 : Int32) (l2 : Int32) (s : hS) : Option (Int32 × hS) :=
  if l2 = 0 then
    some (l1, s)
  else
    nmv ((l2 &&& (l2 - (1 : Int32)))) fun x1 =>
    k4 (l1 + (1 : Int32)) x1 s
theorem b_X7_bitsOf_4 (E : jE) (k4 : Int32 → Int32 → hS → Option (Int32 × hS)) (h4 : ∀ (s : hS) (l1 : Int32) (l2 : Int32) , Jo E M_X7_bitsOf cvI 4 [(1, .int l1), (2, .int l2)] [] s (k4 l1 l2 s)) (s : hS) (l1 : Int32) (l2 : Int32)  : Jo E M_X7_bitsOf cvI 4 [(1, .int l1), (2, .int l2)] [] s (f_X7_bitsOf_b4 k4 l1 l2 s) := by
  unfold f_X7_bitsOf_b4
  refine Jo_iloadn 1 dX7_bitsOf_4 rfl rfl ?_
  refine Jo_if_eq 20 dX7_bitsOf_5 (by decide) rfl ?_ ?_
  · refine Jo_iloadn 0 dX7_bitsOf_20 rfl rfl ?_
    exact Jo_iret rfl dX7_bitsOf_21
  · refine Jo_iinc (v := (l1 + (1 : Int32))) (ls' := [(1, .int (l1 + (1 : Int32))), (2, .int l2)]) 0 dX7_bitsOf_8 rfl rfl (by decide) rfl ?_
    refine Jo_iloadn 1 dX7_bitsOf_11 rfl rfl ?_
    refine Jo_iloadn 1 dX7_bitsOf_12 rfl rfl ?_
    refine Jo_iconst (v := (1 : Int32)) dX7_bitsOf_13 (by decide) ?_
    refine Jo_isub dX7_bitsOf_14 ?_
    refine Jo_iand dX7_bitsOf_15 ?_
    refine Jo_nm (fun x1 => ?_)
    refine Jo_istoren (ls' := [(2, .int x1), (1, .int (l1 + (1 : Int32)))]) dX7_bitsOf_16 rfl (by decide) rfl ?_
    refine Jo_goto 4 dX7_bitsOf_17 (by decide) ?_
    refine Jo_sub [1, 0] rfl ?_
    exact h4 s (l1 + (1 : Int32)) x1
theorem e_X7_bitsOf_4 (E : jE)  (n : Nat) : ∀ (s : hS) (l1 : Int32) (l2 : Int32) , Jo E M_X7_bitsOf cvI 4 [(1, .int l1), (2, .int l2)] [] s ((jL f_X7_bitsOf_b4 (fun _ _ _ => none) n) l1 l2 s) :=
  jL_ind (P := fun f => ∀ (s : hS) (l1 : Int32) (l2 : Int32) , Jo E M_X7_bitsOf cvI 4 [(1, .int l1), (2, .int l2)] [] s (f l1 l2 s)) (fun _ _ _ => Jo_none) (fun b hb s l1 l2 => b_X7_bitsOf_4 E  b hb s l1 l2) n
def f_X7_bitsOf (s : hS) (i0 : Int32) : Option (Int32 × hS) :=
  jL f_X7_bitsOf_b4 (fun _ _ _ => none) jF (0 : Int32) i0 s
theorem b_X7_bitsOf_in (E : jE)  (s : hS) (i0 : Int32)  : Jo E M_X7_bitsOf cvI 0 [(0, .int i0)] [] s (f_X7_bitsOf s i0) := by
  unfold f_X7_bitsOf
  refine Jo_iconst (v := (0 : Int32)) dX7_bitsOf_0 (by decide) ?_
  refine Jo_istoren (ls' := [(1, .int (0 : Int32)), (0, .int i0)]) dX7_bitsOf_1 rfl (by decide) rfl ?_
  refine Jo_iloadn 1 dX7_bitsOf_2 rfl rfl ?_
  refine Jo_istoren (ls' := [(2, .int i0), (1, .int (0 : Int32)), (0, .int i0)]) dX7_bitsOf_3 rfl (by decide) rfl ?_
  refine Jo_sub [1, 0] rfl ?_
  exact e_X7_bitsOf_4 E jF s (0 : Int32) i0
theorem K_X7_bitsOf (E : jE) (s : hS) (i0 : Int32) : jK E yX7_bitsOf M_X7_bitsOf cvI [.int i0] s (f_X7_bitsOf s i0) := jK_of ⟨by decide, rfl, rfl⟩ (Nat.le_of_ble_eq_true rfl) (b_X7_bitsOf_in E s i0)
/-! HeronTalkModel.becomes(II)I -/
abbrev M_X7_becomes : jM := (RX7, cX7_becomes, 4, (some .int), "becomes", 0, 0)
theorem yF_X7_becomes : yF yX7_becomes M_X7_becomes 2 := ⟨w_650, w_624, by decide +kernel⟩
theorem yV_X7_becomes : Cond.instanceMethod yX7_becomes ∈ tbG ∧ Cond.selects yX7_becomes.cls yX7_becomes yX7_becomes ∈ tbG := ⟨w_651, w_652⟩
theorem dX7_becomes_0 : dI cX7_becomes 0 1 (.aload_n 0) 1 := ⟨by decide +kernel, rfl⟩
theorem dX7_becomes_1 : dI cX7_becomes 1 4 (.getfield 9) 3 := ⟨by decide +kernel, rfl⟩
theorem dX7_becomes_4 : dI cX7_becomes 4 5 (.iload_n 1) 1 := ⟨by decide +kernel, rfl⟩
theorem dX7_becomes_5 : dI cX7_becomes 5 6 (.iaload) 1 := ⟨by decide +kernel, rfl⟩
theorem dX7_becomes_6 : dI cX7_becomes 6 7 (.istore_n 3) 1 := ⟨by decide +kernel, rfl⟩
theorem dX7_becomes_7 : dI cX7_becomes 7 8 (.aload_n 0) 1 := ⟨by decide +kernel, rfl⟩
theorem dX7_becomes_8 : dI cX7_becomes 8 11 (.getfield 9) 3 := ⟨by decide +kernel, rfl⟩
theorem dX7_becomes_11 : dI cX7_becomes 11 12 (.iload_n 1) 1 := ⟨by decide +kernel, rfl⟩
theorem dX7_becomes_12 : dI cX7_becomes 12 13 (.iload_n 2) 1 := ⟨by decide +kernel, rfl⟩
theorem dX7_becomes_13 : dI cX7_becomes 13 14 (.iastore) 1 := ⟨by decide +kernel, rfl⟩
theorem dX7_becomes_14 : dI cX7_becomes 14 15 (.iload_n 3) 1 := ⟨by decide +kernel, rfl⟩
theorem dX7_becomes_15 : dI cX7_becomes 15 16 (.ireturn) 1 := ⟨by decide +kernel, rfl⟩
def f_X7_becomes (s : hS) (a0 : Nat) (i1 : Int32) (i2 : Int32) : Option (Int32 × hS) :=
  (gR s a0 7 0).bind fun a1 =>
  (aI s a1 10 i1).bind fun x2 =>
  (gR s a0 7 0).bind fun a3 =>
  (sI s a3 10 i1 i2).bind fun s4 =>
  some (x2, s4)
theorem b_X7_becomes_in (E : jE)  (s : hS) (a0 : Nat) (i1 : Int32) (i2 : Int32)  : Jo E M_X7_becomes cvI 0 [(0, .ref a0), (1, .int i1), (2, .int i2)] [] s (f_X7_becomes s a0 i1 i2) := by
  unfold f_X7_becomes
  refine Jo_aloadn 0 dX7_becomes_0 rfl rfl ?_
  refine Jo_getR fF_7_0 fR_7_0 dX7_becomes_1 w_598 (fun a1 => ?_)
  refine Jo_iloadn 1 dX7_becomes_4 rfl rfl ?_
  refine Jo_iaload dX7_becomes_5 (fun x2 => ?_)
  refine Jo_istoren (ls' := [(3, .int x2), (0, .ref a0), (1, .int i1), (2, .int i2)]) dX7_becomes_6 rfl (by decide) rfl ?_
  refine Jo_aloadn 1 dX7_becomes_7 rfl rfl ?_
  refine Jo_getR fF_7_0 fR_7_0 dX7_becomes_8 w_598 (fun a3 => ?_)
  refine Jo_iloadn 2 dX7_becomes_11 rfl rfl ?_
  refine Jo_iloadn 3 dX7_becomes_12 rfl rfl ?_
  refine Jo_iastore dX7_becomes_13 (fun s4 => ?_)
  refine Jo_iloadn 0 dX7_becomes_14 rfl rfl ?_
  exact Jo_iret rfl dX7_becomes_15
theorem K_X7_becomes (E : jE) (s : hS) (a0 : Nat) (i1 : Int32) (i2 : Int32) : jK E yX7_becomes M_X7_becomes cvI [.ref a0, .int i1, .int i2] s (f_X7_becomes s a0 i1 i2) := jK_of ⟨by decide, rfl, rfl⟩ (Nat.le_of_ble_eq_true rfl) (b_X7_becomes_in E s a0 i1 i2)
/-! HeronTalkModel.worthOf(I)I -/
abbrev M_X7_worthOf : jM := (RX7, cX7_worthOf, 2, (some .int), "worthOf", 0, 0)
theorem yF_X7_worthOf : yF yX7_worthOf M_X7_worthOf 1 := ⟨w_653, w_624, by decide +kernel⟩
theorem yV_X7_worthOf : Cond.instanceMethod yX7_worthOf ∈ tbG ∧ Cond.selects yX7_worthOf.cls yX7_worthOf yX7_worthOf ∈ tbG := ⟨w_654, w_655⟩
theorem dX7_worthOf_0 : dI cX7_worthOf 0 1 (.aload_n 0) 1 := ⟨by decide +kernel, rfl⟩
theorem dX7_worthOf_1 : dI cX7_worthOf 1 4 (.getfield 9) 3 := ⟨by decide +kernel, rfl⟩
theorem dX7_worthOf_4 : dI cX7_worthOf 4 6 (.bipush 8) 2 := ⟨by decide +kernel, rfl⟩
theorem dX7_worthOf_6 : dI cX7_worthOf 6 7 (.iconst 2) 1 := ⟨by decide +kernel, rfl⟩
theorem dX7_worthOf_7 : dI cX7_worthOf 7 8 (.iload_n 1) 1 := ⟨by decide +kernel, rfl⟩
theorem dX7_worthOf_8 : dI cX7_worthOf 8 9 (.imul) 1 := ⟨by decide +kernel, rfl⟩
theorem dX7_worthOf_9 : dI cX7_worthOf 9 10 (.iadd) 1 := ⟨by decide +kernel, rfl⟩
theorem dX7_worthOf_10 : dI cX7_worthOf 10 11 (.iaload) 1 := ⟨by decide +kernel, rfl⟩
theorem dX7_worthOf_11 : dI cX7_worthOf 11 12 (.ireturn) 1 := ⟨by decide +kernel, rfl⟩
def f_X7_worthOf (s : hS) (a0 : Nat) (i1 : Int32) : Option (Int32 × hS) :=
  (gR s a0 7 0).bind fun a1 =>
  (aI s a1 10 ((8 : Int32) + ((2 : Int32) * i1))).bind fun x2 =>
  some (x2, s)
theorem b_X7_worthOf_in (E : jE)  (s : hS) (a0 : Nat) (i1 : Int32)  : Jo E M_X7_worthOf cvI 0 [(0, .ref a0), (1, .int i1)] [] s (f_X7_worthOf s a0 i1) := by
  unfold f_X7_worthOf
  refine Jo_aloadn 0 dX7_worthOf_0 rfl rfl ?_
  refine Jo_getR fF_7_0 fR_7_0 dX7_worthOf_1 w_598 (fun a1 => ?_)
  refine Jo_bipush (v := (8 : Int32)) dX7_worthOf_4 (by decide) ?_
  refine Jo_iconst (v := (2 : Int32)) dX7_worthOf_6 (by decide) ?_
  refine Jo_iloadn 1 dX7_worthOf_7 rfl rfl ?_
  refine Jo_imul dX7_worthOf_8 ?_
  refine Jo_iadd dX7_worthOf_9 ?_
  refine Jo_iaload dX7_worthOf_10 (fun x2 => ?_)
  exact Jo_iret rfl dX7_worthOf_11
theorem K_X7_worthOf (E : jE) (s : hS) (a0 : Nat) (i1 : Int32) : jK E yX7_worthOf M_X7_worthOf cvI [.ref a0, .int i1] s (f_X7_worthOf s a0 i1) := jK_of ⟨by decide, rfl, rfl⟩ (Nat.le_of_ble_eq_true rfl) (b_X7_worthOf_in E s a0 i1)
