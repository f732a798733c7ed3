/-! HeronTalkModel.takesE()Z -/
abbrev M_X7_takesE : jM := (RX7, cX7_takesE, 5, (some .boolean), "takesE", 3, 63)
theorem yF_X7_takesE : yF yX7_takesE M_X7_takesE 0 := ⟨w_910, w_624, by decide +kernel⟩
theorem yV_X7_takesE : Cond.instanceMethod yX7_takesE ∈ tbG ∧ Cond.selects yX7_takesE.cls yX7_takesE yX7_takesE ∈ tbG := ⟨w_911, w_912⟩
theorem dX7_takesE_0 : dI cX7_takesE 0 1 (.iconst 0) 1 := ⟨by decide +kernel, rfl⟩
theorem dX7_takesE_1 : dI cX7_takesE 1 2 (.istore_n 1) 1 := ⟨by decide +kernel, rfl⟩
theorem dX7_takesE_2 : dI cX7_takesE 2 3 (.iconst 0) 1 := ⟨by decide +kernel, rfl⟩
theorem dX7_takesE_3 : dI cX7_takesE 3 4 (.istore_n 2) 1 := ⟨by decide +kernel, rfl⟩
theorem dX7_takesE_4 : dI cX7_takesE 4 5 (.iconst 1) 1 := ⟨by decide +kernel, rfl⟩
theorem dX7_takesE_5 : dI cX7_takesE 5 6 (.istore_n 3) 1 := ⟨by decide +kernel, rfl⟩
theorem dX7_takesE_6 : dI cX7_takesE 6 7 (.aload_n 0) 1 := ⟨by decide +kernel, rfl⟩
theorem dX7_takesE_7 : dI cX7_takesE 7 8 (.iconst 0) 1 := ⟨by decide +kernel, rfl⟩
theorem dX7_takesE_8 : dI cX7_takesE 8 11 (.putfield 247) 3 := ⟨by decide +kernel, rfl⟩
theorem dX7_takesE_11 : dI cX7_takesE 11 12 (.aload_n 0) 1 := ⟨by decide +kernel, rfl⟩
theorem dX7_takesE_12 : dI cX7_takesE 12 13 (.iconst 0) 1 := ⟨by decide +kernel, rfl⟩
theorem dX7_takesE_13 : dI cX7_takesE 13 16 (.putfield 253) 3 := ⟨by decide +kernel, rfl⟩
theorem dX7_takesE_16 : dI cX7_takesE 16 17 (.aload_n 0) 1 := ⟨by decide +kernel, rfl⟩
theorem dX7_takesE_17 : dI cX7_takesE 17 18 (.iconst 0) 1 := ⟨by decide +kernel, rfl⟩
theorem dX7_takesE_18 : dI cX7_takesE 18 21 (.putfield 241) 3 := ⟨by decide +kernel, rfl⟩
theorem dX7_takesE_21 : dI cX7_takesE 21 22 (.aload_n 0) 1 := ⟨by decide +kernel, rfl⟩
theorem dX7_takesE_22 : dI cX7_takesE 22 25 (.getfield 41) 3 := ⟨by decide +kernel, rfl⟩
theorem dX7_takesE_25 : dI cX7_takesE 25 26 (.iconst 0) 1 := ⟨by decide +kernel, rfl⟩
theorem dX7_takesE_26 : dI cX7_takesE 26 27 (.iconst 0) 1 := ⟨by decide +kernel, rfl⟩
theorem dX7_takesE_27 : dI cX7_takesE 27 28 (.bastore) 1 := ⟨by decide +kernel, rfl⟩
theorem dX7_takesE_28 : dI cX7_takesE 28 29 (.iload_n 3) 1 := ⟨by decide +kernel, rfl⟩
theorem dX7_takesE_29 : decode cX7_takesE 29 = .ok (.ifCond .ne 10, 3) := by decide +kernel
theorem dX7_takesE_32 : dI cX7_takesE 32 33 (.aload_n 0) 1 := ⟨by decide +kernel, rfl⟩
theorem dX7_takesE_33 : dI cX7_takesE 33 36 (.getfield 223) 3 := ⟨by decide +kernel, rfl⟩
theorem dX7_takesE_36 : decode cX7_takesE 36 = .ok (.ifCond .eq 309, 3) := by decide +kernel
theorem dX7_takesE_39 : dI cX7_takesE 39 40 (.iload_n 3) 1 := ⟨by decide +kernel, rfl⟩
theorem dX7_takesE_40 : decode cX7_takesE 40 = .ok (.ifCond .eq 140, 3) := by decide +kernel
theorem dX7_takesE_43 : dI cX7_takesE 43 44 (.aload_n 0) 1 := ⟨by decide +kernel, rfl⟩
theorem dX7_takesE_44 : dI cX7_takesE 44 47 (.getfield 223) 3 := ⟨by decide +kernel, rfl⟩
theorem dX7_takesE_47 : dI cX7_takesE 47 48 (.iconst 3) 1 := ⟨by decide +kernel, rfl⟩
theorem dX7_takesE_48 : decode cX7_takesE 48 = .ok (.if_icmp .ne 49, 3) := by decide +kernel
theorem dX7_takesE_51 : dI cX7_takesE 51 52 (.aload_n 0) 1 := ⟨by decide +kernel, rfl⟩
theorem dX7_takesE_52 : dI cX7_takesE 52 55 (.getfield 229) 3 := ⟨by decide +kernel, rfl⟩
theorem dX7_takesE_55 : dI cX7_takesE 55 57 (.bipush 33) 2 := ⟨by decide +kernel, rfl⟩
theorem dX7_takesE_57 : decode cX7_takesE 57 = .ok (.if_icmp .ne 40, 3) := by decide +kernel
theorem dX7_takesE_60 : dI cX7_takesE 60 61 (.iload_n 2) 1 := ⟨by decide +kernel, rfl⟩
theorem dX7_takesE_61 : dI cX7_takesE 61 63 (.bipush 8) 2 := ⟨by decide +kernel, rfl⟩
theorem dX7_takesE_63 : decode cX7_takesE 63 = .ok (.if_icmp .ge 34, 3) := by decide +kernel
theorem dX7_takesE_66 : dI cX7_takesE 66 67 (.aload_n 0) 1 := ⟨by decide +kernel, rfl⟩
theorem dX7_takesE_67 : dI cX7_takesE 67 70 (.getfield 38) 3 := ⟨by decide +kernel, rfl⟩
theorem dX7_takesE_70 : dI cX7_takesE 70 71 (.aload_n 0) 1 := ⟨by decide +kernel, rfl⟩
theorem dX7_takesE_71 : dI cX7_takesE 71 74 (.getfield 241) 3 := ⟨by decide +kernel, rfl⟩
theorem dX7_takesE_74 : dI cX7_takesE 74 76 (.bipush (-10)) 2 := ⟨by decide +kernel, rfl⟩
theorem dX7_takesE_76 : dI cX7_takesE 76 77 (.iastore) 1 := ⟨by decide +kernel, rfl⟩
theorem dX7_takesE_77 : dI cX7_takesE 77 78 (.aload_n 0) 1 := ⟨by decide +kernel, rfl⟩
theorem dX7_takesE_78 : dI cX7_takesE 78 79 (.dup) 1 := ⟨by decide +kernel, rfl⟩
theorem dX7_takesE_79 : dI cX7_takesE 79 82 (.getfield 241) 3 := ⟨by decide +kernel, rfl⟩
theorem dX7_takesE_82 : dI cX7_takesE 82 83 (.iconst 1) 1 := ⟨by decide +kernel, rfl⟩
theorem dX7_takesE_83 : dI cX7_takesE 83 84 (.iadd) 1 := ⟨by decide +kernel, rfl⟩
theorem dX7_takesE_84 : dI cX7_takesE 84 87 (.putfield 241) 3 := ⟨by decide +kernel, rfl⟩
theorem dX7_takesE_87 : dI cX7_takesE 87 90 (.iinc 2 1) 3 := ⟨by decide +kernel, rfl⟩
theorem dX7_takesE_90 : dI cX7_takesE 90 91 (.aload_n 0) 1 := ⟨by decide +kernel, rfl⟩
theorem dX7_takesE_91 : decode cX7_takesE 91 = .ok (.invokevirtual 238, 3) := by decide +kernel
theorem dX7_takesE_94 : decode cX7_takesE 94 = .ok (.goto 78, 3) := by decide +kernel
theorem dX7_takesE_97 : dI cX7_takesE 97 98 (.aload_n 0) 1 := ⟨by decide +kernel, rfl⟩
theorem dX7_takesE_98 : dI cX7_takesE 98 101 (.getfield 223) 3 := ⟨by decide +kernel, rfl⟩
theorem dX7_takesE_101 : dI cX7_takesE 101 102 (.iconst 3) 1 := ⟨by decide +kernel, rfl⟩
theorem dX7_takesE_102 : decode cX7_takesE 102 = .ok (.if_icmp .ne 56, 3) := by decide +kernel
theorem dX7_takesE_105 : dI cX7_takesE 105 106 (.aload_n 0) 1 := ⟨by decide +kernel, rfl⟩
theorem dX7_takesE_106 : dI cX7_takesE 106 109 (.getfield 229) 3 := ⟨by decide +kernel, rfl⟩
theorem dX7_takesE_109 : dI cX7_takesE 109 111 (.bipush 40) 2 := ⟨by decide +kernel, rfl⟩
theorem dX7_takesE_111 : decode cX7_takesE 111 = .ok (.if_icmp .ne 47, 3) := by decide +kernel
theorem dX7_takesE_114 : dI cX7_takesE 114 115 (.iload_n 1) 1 := ⟨by decide +kernel, rfl⟩
theorem dX7_takesE_115 : dI cX7_takesE 115 117 (.bipush 8) 2 := ⟨by decide +kernel, rfl⟩
theorem dX7_takesE_117 : decode cX7_takesE 117 = .ok (.if_icmp .ge 41, 3) := by decide +kernel
theorem dX7_takesE_120 : dI cX7_takesE 120 121 (.aload_n 0) 1 := ⟨by decide +kernel, rfl⟩
theorem dX7_takesE_121 : dI cX7_takesE 121 124 (.getfield 38) 3 := ⟨by decide +kernel, rfl⟩
theorem dX7_takesE_124 : dI cX7_takesE 124 125 (.aload_n 0) 1 := ⟨by decide +kernel, rfl⟩
theorem dX7_takesE_125 : dI cX7_takesE 125 128 (.getfield 241) 3 := ⟨by decide +kernel, rfl⟩
theorem dX7_takesE_128 : dI cX7_takesE 128 130 (.bipush (-11)) 2 := ⟨by decide +kernel, rfl⟩
theorem dX7_takesE_130 : dI cX7_takesE 130 131 (.iastore) 1 := ⟨by decide +kernel, rfl⟩
theorem dX7_takesE_131 : dI cX7_takesE 131 132 (.aload_n 0) 1 := ⟨by decide +kernel, rfl⟩
theorem dX7_takesE_132 : dI cX7_takesE 132 133 (.dup) 1 := ⟨by decide +kernel, rfl⟩
theorem dX7_takesE_133 : dI cX7_takesE 133 136 (.getfield 241) 3 := ⟨by decide +kernel, rfl⟩
theorem dX7_takesE_136 : dI cX7_takesE 136 137 (.iconst 1) 1 := ⟨by decide +kernel, rfl⟩
theorem dX7_takesE_137 : dI cX7_takesE 137 138 (.iadd) 1 := ⟨by decide +kernel, rfl⟩
theorem dX7_takesE_138 : dI cX7_takesE 138 141 (.putfield 241) 3 := ⟨by decide +kernel, rfl⟩
theorem dX7_takesE_141 : dI cX7_takesE 141 144 (.iinc 1 1) 3 := ⟨by decide +kernel, rfl⟩
theorem dX7_takesE_144 : dI cX7_takesE 144 145 (.aload_n 0) 1 := ⟨by decide +kernel, rfl⟩
theorem dX7_takesE_145 : dI cX7_takesE 145 148 (.getfield 41) 3 := ⟨by decide +kernel, rfl⟩
theorem dX7_takesE_148 : dI cX7_takesE 148 149 (.iload_n 1) 1 := ⟨by decide +kernel, rfl⟩
theorem dX7_takesE_149 : dI cX7_takesE 149 150 (.iconst 0) 1 := ⟨by decide +kernel, rfl⟩
theorem dX7_takesE_150 : dI cX7_takesE 150 151 (.bastore) 1 := ⟨by decide +kernel, rfl⟩
theorem dX7_takesE_151 : dI cX7_takesE 151 152 (.aload_n 0) 1 := ⟨by decide +kernel, rfl⟩
theorem dX7_takesE_152 : decode cX7_takesE 152 = .ok (.invokevirtual 238, 3) := by decide +kernel
theorem dX7_takesE_155 : decode cX7_takesE 155 = .ok (.goto 17, 3) := by decide +kernel
theorem dX7_takesE_158 : dI cX7_takesE 158 159 (.aload_n 0) 1 := ⟨by decide +kernel, rfl⟩
theorem dX7_takesE_159 : decode cX7_takesE 159 = .ok (.invokevirtual 259, 3) := by decide +kernel
theorem dX7_takesE_162 : decode cX7_takesE 162 = .ok (.ifCond .eq 8, 3) := by decide +kernel
theorem dX7_takesE_165 : dI cX7_takesE 165 166 (.iconst 0) 1 := ⟨by decide +kernel, rfl⟩
theorem dX7_takesE_166 : dI cX7_takesE 166 167 (.istore_n 3) 1 := ⟨by decide +kernel, rfl⟩
theorem dX7_takesE_167 : decode cX7_takesE 167 = .ok (.goto 5, 3) := by decide +kernel
theorem dX7_takesE_170 : dI cX7_takesE 170 171 (.iconst 0) 1 := ⟨by decide +kernel, rfl⟩
theorem dX7_takesE_171 : dI cX7_takesE 171 172 (.ireturn) 1 := ⟨by decide +kernel, rfl⟩
theorem dX7_takesE_172 : dI cX7_takesE 172 173 (.aload_n 0) 1 := ⟨by decide +kernel, rfl⟩
theorem dX7_takesE_173 : decode cX7_takesE 173 = .ok (.invokevirtual 263, 3) := by decide +kernel
theorem dX7_takesE_176 : dI cX7_takesE 176 177 (.istore_n 2) 1 := ⟨by decide +kernel, rfl⟩
theorem dX7_takesE_177 : decode cX7_takesE 177 = .ok (.goto (-149), 3) := by decide +kernel
theorem dX7_takesE_180 : dI cX7_takesE 180 181 (.aload_n 0) 1 := ⟨by decide +kernel, rfl⟩
theorem dX7_takesE_181 : dI cX7_takesE 181 184 (.getfield 223) 3 := ⟨by decide +kernel, rfl⟩
theorem dX7_takesE_184 : dI cX7_takesE 184 185 (.iconst 3) 1 := ⟨by decide +kernel, rfl⟩
theorem dX7_takesE_185 : decode cX7_takesE 185 = .ok (.if_icmp .ne 52, 3) := by decide +kernel
theorem dX7_takesE_188 : dI cX7_takesE 188 189 (.aload_n 0) 1 := ⟨by decide +kernel, rfl⟩
theorem dX7_takesE_189 : dI cX7_takesE 189 192 (.getfield 229) 3 := ⟨by decide +kernel, rfl⟩
theorem dX7_takesE_192 : dI cX7_takesE 192 194 (.bipush 41) 2 := ⟨by decide +kernel, rfl⟩
theorem dX7_takesE_194 : decode cX7_takesE 194 = .ok (.if_icmp .ne 43, 3) := by decide +kernel
theorem dX7_takesE_197 : dI cX7_takesE 197 198 (.iload_n 1) 1 := ⟨by decide +kernel, rfl⟩
theorem dX7_takesE_198 : decode cX7_takesE 198 = .ok (.ifCond .le 39, 3) := by decide +kernel
theorem dX7_takesE_201 : dI cX7_takesE 201 202 (.aload_n 0) 1 := ⟨by decide +kernel, rfl⟩
theorem dX7_takesE_202 : dI cX7_takesE 202 203 (.iconst 0) 1 := ⟨by decide +kernel, rfl⟩
theorem dX7_takesE_203 : decode cX7_takesE 203 = .ok (.invokevirtual 256, 3) := by decide +kernel
theorem dX7_takesE_206 : dI cX7_takesE 206 207 (.aload_n 0) 1 := ⟨by decide +kernel, rfl⟩
theorem dX7_takesE_207 : dI cX7_takesE 207 208 (.dup) 1 := ⟨by decide +kernel, rfl⟩
theorem dX7_takesE_208 : dI cX7_takesE 208 211 (.getfield 241) 3 := ⟨by decide +kernel, rfl⟩
theorem dX7_takesE_211 : dI cX7_takesE 211 212 (.iconst 1) 1 := ⟨by decide +kernel, rfl⟩
theorem dX7_takesE_212 : dI cX7_takesE 212 213 (.isub) 1 := ⟨by decide +kernel, rfl⟩
theorem dX7_takesE_213 : dI cX7_takesE 213 216 (.putfield 241) 3 := ⟨by decide +kernel, rfl⟩
theorem dX7_takesE_216 : dI cX7_takesE 216 219 (.iinc 1 (-1)) 3 := ⟨by decide +kernel, rfl⟩
theorem dX7_takesE_219 : dI cX7_takesE 219 220 (.aload_n 0) 1 := ⟨by decide +kernel, rfl⟩
theorem dX7_takesE_220 : dI cX7_takesE 220 222 (.bipush 6) 2 := ⟨by decide +kernel, rfl⟩
theorem dX7_takesE_222 : decode cX7_takesE 222 = .ok (.invokevirtual 256, 3) := by decide +kernel
theorem dX7_takesE_225 : dI cX7_takesE 225 226 (.aload_n 0) 1 := ⟨by decide +kernel, rfl⟩
theorem dX7_takesE_226 : decode cX7_takesE 226 = .ok (.invokevirtual 263, 3) := by decide +kernel
theorem dX7_takesE_229 : dI cX7_takesE 229 230 (.istore_n 2) 1 := ⟨by decide +kernel, rfl⟩
theorem dX7_takesE_230 : dI cX7_takesE 230 231 (.aload_n 0) 1 := ⟨by decide +kernel, rfl⟩
theorem dX7_takesE_231 : decode cX7_takesE 231 = .ok (.invokevirtual 238, 3) := by decide +kernel
theorem dX7_takesE_234 : decode cX7_takesE 234 = .ok (.goto (-206), 3) := by decide +kernel
theorem dX7_takesE_237 : dI cX7_takesE 237 238 (.aload_n 0) 1 := ⟨by decide +kernel, rfl⟩
theorem dX7_takesE_238 : decode cX7_takesE 238 = .ok (.invokevirtual 266, 3) := by decide +kernel
theorem dX7_takesE_241 : dI cX7_takesE 241 243 (.istore 4) 2 := ⟨by decide +kernel, rfl⟩
theorem dX7_takesE_243 : dI cX7_takesE 243 245 (.iload 4) 2 := ⟨by decide +kernel, rfl⟩
theorem dX7_takesE_245 : decode cX7_takesE 245 = .ok (.ifCond .eq 21, 3) := by decide +kernel
theorem dX7_takesE_248 : dI cX7_takesE 248 250 (.iload 4) 2 := ⟨by decide +kernel, rfl⟩
theorem dX7_takesE_250 : decode cX7_takesE 250 = .ok (.invokestatic 244, 3) := by decide +kernel
theorem dX7_takesE_253 : dI cX7_takesE 253 254 (.iconst 3) 1 := ⟨by decide +kernel, rfl⟩
theorem dX7_takesE_254 : decode cX7_takesE 254 = .ok (.if_icmp .ne 14, 3) := by decide +kernel
theorem dX7_takesE_257 : dI cX7_takesE 257 258 (.aload_n 0) 1 := ⟨by decide +kernel, rfl⟩
theorem dX7_takesE_258 : dI cX7_takesE 258 261 (.getfield 41) 3 := ⟨by decide +kernel, rfl⟩
theorem dX7_takesE_261 : dI cX7_takesE 261 262 (.iload_n 1) 1 := ⟨by decide +kernel, rfl⟩
theorem dX7_takesE_262 : dI cX7_takesE 262 263 (.baload) 1 := ⟨by decide +kernel, rfl⟩
theorem dX7_takesE_263 : decode cX7_takesE 263 = .ok (.ifCond .eq 5, 3) := by decide +kernel
theorem dX7_takesE_266 : dI cX7_takesE 266 267 (.iconst 0) 1 := ⟨by decide +kernel, rfl⟩
theorem dX7_takesE_267 : dI cX7_takesE 267 268 (.ireturn) 1 := ⟨by decide +kernel, rfl⟩
theorem dX7_takesE_268 : dI cX7_takesE 268 269 (.aload_n 0) 1 := ⟨by decide +kernel, rfl⟩
theorem dX7_takesE_269 : dI cX7_takesE 269 272 (.getfield 41) 3 := ⟨by decide +kernel, rfl⟩
theorem dX7_takesE_272 : dI cX7_takesE 272 273 (.iload_n 1) 1 := ⟨by decide +kernel, rfl⟩
theorem dX7_takesE_273 : dI cX7_takesE 273 275 (.iload 4) 2 := ⟨by decide +kernel, rfl⟩
theorem dX7_takesE_275 : decode cX7_takesE 275 = .ok (.invokestatic 244, 3) := by decide +kernel
theorem dX7_takesE_278 : dI cX7_takesE 278 279 (.iconst 3) 1 := ⟨by decide +kernel, rfl⟩
theorem dX7_takesE_279 : decode cX7_takesE 279 = .ok (.if_icmp .eq 21, 3) := by decide +kernel
theorem dX7_takesE_282 : dI cX7_takesE 282 284 (.iload 4) 2 := ⟨by decide +kernel, rfl⟩
theorem dX7_takesE_284 : decode cX7_takesE 284 = .ok (.invokestatic 244, 3) := by decide +kernel
theorem dX7_takesE_287 : dI cX7_takesE 287 288 (.iconst 3) 1 := ⟨by decide +kernel, rfl⟩
theorem dX7_takesE_288 : decode cX7_takesE 288 = .ok (.if_icmp .le 16, 3) := by decide +kernel
theorem dX7_takesE_291 : dI cX7_takesE 291 292 (.aload_n 0) 1 := ⟨by decide +kernel, rfl⟩
theorem dX7_takesE_292 : dI cX7_takesE 292 295 (.getfield 41) 3 := ⟨by decide +kernel, rfl⟩
theorem dX7_takesE_295 : dI cX7_takesE 295 296 (.iload_n 1) 1 := ⟨by decide +kernel, rfl⟩
theorem dX7_takesE_296 : dI cX7_takesE 296 297 (.baload) 1 := ⟨by decide +kernel, rfl⟩
theorem dX7_takesE_297 : decode cX7_takesE 297 = .ok (.ifCond .eq 7, 3) := by decide +kernel
theorem dX7_takesE_300 : dI cX7_takesE 300 301 (.iconst 1) 1 := ⟨by decide +kernel, rfl⟩
theorem dX7_takesE_301 : decode cX7_takesE 301 = .ok (.goto 4, 3) := by decide +kernel
theorem dX7_takesE_304 : dI cX7_takesE 304 305 (.iconst 0) 1 := ⟨by decide +kernel, rfl⟩
theorem dX7_takesE_305 : dI cX7_takesE 305 306 (.bastore) 1 := ⟨by decide +kernel, rfl⟩
theorem dX7_takesE_306 : dI cX7_takesE 306 307 (.aload_n 0) 1 := ⟨by decide +kernel, rfl⟩
theorem dX7_takesE_307 : dI cX7_takesE 307 309 (.iload 4) 2 := ⟨by decide +kernel, rfl⟩
theorem dX7_takesE_309 : decode cX7_takesE 309 = .ok (.invokestatic 244, 3) := by decide +kernel
theorem dX7_takesE_312 : decode cX7_takesE 312 = .ok (.invokevirtual 256, 3) := by decide +kernel
theorem dX7_takesE_315 : dI cX7_takesE 315 316 (.aload_n 0) 1 := ⟨by decide +kernel, rfl⟩
theorem dX7_takesE_316 : dI cX7_takesE 316 319 (.getfield 38) 3 := ⟨by decide +kernel, rfl⟩
theorem dX7_takesE_319 : dI cX7_takesE 319 320 (.aload_n 0) 1 := ⟨by decide +kernel, rfl⟩
theorem dX7_takesE_320 : dI cX7_takesE 320 323 (.getfield 241) 3 := ⟨by decide +kernel, rfl⟩
theorem dX7_takesE_323 : dI cX7_takesE 323 325 (.iload 4) 2 := ⟨by decide +kernel, rfl⟩
theorem dX7_takesE_325 : dI cX7_takesE 325 326 (.iastore) 1 := ⟨by decide +kernel, rfl⟩
theorem dX7_takesE_326 : dI cX7_takesE 326 327 (.aload_n 0) 1 := ⟨by decide +kernel, rfl⟩
theorem dX7_takesE_327 : dI cX7_takesE 327 328 (.dup) 1 := ⟨by decide +kernel, rfl⟩
theorem dX7_takesE_328 : dI cX7_takesE 328 331 (.getfield 241) 3 := ⟨by decide +kernel, rfl⟩
theorem dX7_takesE_331 : dI cX7_takesE 331 332 (.iconst 1) 1 := ⟨by decide +kernel, rfl⟩
theorem dX7_takesE_332 : dI cX7_takesE 332 333 (.iadd) 1 := ⟨by decide +kernel, rfl⟩
theorem dX7_takesE_333 : dI cX7_takesE 333 336 (.putfield 241) 3 := ⟨by decide +kernel, rfl⟩
theorem dX7_takesE_336 : dI cX7_takesE 336 337 (.iconst 1) 1 := ⟨by decide +kernel, rfl⟩
theorem dX7_takesE_337 : dI cX7_takesE 337 338 (.istore_n 3) 1 := ⟨by decide +kernel, rfl⟩
theorem dX7_takesE_338 : dI cX7_takesE 338 339 (.aload_n 0) 1 := ⟨by decide +kernel, rfl⟩
theorem dX7_takesE_339 : decode cX7_takesE 339 = .ok (.invokevirtual 238, 3) := by decide +kernel
theorem dX7_takesE_342 : decode cX7_takesE 342 = .ok (.goto (-314), 3) := by decide +kernel
theorem dX7_takesE_345 : dI cX7_takesE 345 346 (.aload_n 0) 1 := ⟨by decide +kernel, rfl⟩
theorem dX7_takesE_346 : dI cX7_takesE 346 347 (.iconst 0) 1 := ⟨by decide +kernel, rfl⟩
theorem dX7_takesE_347 : decode cX7_takesE 347 = .ok (.invokevirtual 256, 3) := by decide +kernel
theorem dX7_takesE_350 : dI cX7_takesE 350 351 (.iload_n 1) 1 := ⟨by decide +kernel, rfl⟩
theorem dX7_takesE_351 : decode cX7_takesE 351 = .ok (.ifCond .ne 7, 3) := by decide +kernel
theorem dX7_takesE_354 : dI cX7_takesE 354 355 (.iconst 1) 1 := ⟨by decide +kernel, rfl⟩
theorem dX7_takesE_355 : decode cX7_takesE 355 = .ok (.goto 4, 3) := by decide +kernel
theorem dX7_takesE_358 : dI cX7_takesE 358 359 (.iconst 0) 1 := ⟨by decide +kernel, rfl⟩
theorem dX7_takesE_359 : dI cX7_takesE 359 360 (.ireturn) 1 := ⟨by decide +kernel, rfl⟩
def f_X7_takesE_b305 (k28 : Nat → Int32 → Int32 → Int32 → hS → Option (Int32 × hS)) (l0 : Nat) (l1 : Int32) (l2 : Int32) (l4 : Int32) (t0 : Nat) (t1 : Int32) (t2 : Int32) (s : hS) : Option (Int32 × hS) :=
  (sI s t0 11 t1 (vp_nar .boolean t2)).bind fun s1 =>
  (f_X7_rank s1 l4).bind fun p2 =>
  (cV p2.2 l0 7 (f_X7_settle p2.2 l0 p2.1)).bind fun p3 =>
  (gR p3.2 l0 7 19).bind fun a4 =>
  (gI p3.2 l0 7 20).bind fun x5 =>
  (sI p3.2 a4 10 x5 l4).bind fun s6 =>
  (gI s6 l0 7 20).bind fun x7 =>
  (pI s6 l0 7 20 (x7 + (1 : Int32))).bind fun s8 =>
  (cV s8 l0 7 (f_X7_go s8 l0)).bind fun p9 =>
  k28 l0 l1 l2 (1 : Int32) p9.2
theorem b_X7_takesE_305 (E : jE) (k28 : Nat → Int32 → Int32 → Int32 → hS → Option (Int32 × hS)) (h28 : ∀ (s : hS) (l0 : Nat) (l1 : Int32) (l2 : Int32) (l3 : Int32) , Jo E M_X7_takesE cvI 28 [(0, .ref l0), (1, .int l1), (2, .int l2), (3, .int l3)] [] s (k28 l0 l1 l2 l3 s)) (s : hS) (l0 : Nat) (l1 : Int32) (l2 : Int32) (l4 : Int32) (t0 : Nat) (t1 : Int32) (t2 : Int32) : Jo E M_X7_takesE cvI 305 [(0, .ref l0), (1, .int l1), (2, .int l2), (4, .int l4)] [.int t2, .int t1, .ref t0] s (f_X7_takesE_b305 k28 l0 l1 l2 l4 t0 t1 t2 s) := by
  unfold f_X7_takesE_b305
  refine Jo_zastore dX7_takesE_305 (fun s1 => ?_)
  refine Jo_aloadn 0 dX7_takesE_306 rfl rfl ?_
  refine Jo_iload 3 dX7_takesE_307 rfl ?_
  refine Jo_callSi (rest := [.ref l0]) [.int l4] yF_X7_rank yS_X7_rank w_891 rfl rfl ⟨Nat.le_of_ble_eq_true rfl, Nat.le_of_ble_eq_true rfl, Nat.le_of_ble_eq_true rfl⟩ dX7_takesE_309 rfl (K_X7_rank E s1 l4) (fun p2 => ?_)
  refine Jo_callVv (a := l0) (rest := []) [.int p2.1] cc_7 yF_X7_settle yV_X7_settle w_898 rfl rfl ⟨Nat.le_of_ble_eq_true rfl, Nat.le_of_ble_eq_true rfl, Nat.le_of_ble_eq_true rfl⟩ dX7_takesE_312 rfl (K_X7_settle E p2.2 l0 p2.1) (fun p3 => ?_)
  refine Jo_aloadn 0 dX7_takesE_315 rfl rfl ?_
  refine Jo_getR fF_7_19 fR_7_19 dX7_takesE_316 w_612 (fun a4 => ?_)
  refine Jo_aloadn 0 dX7_takesE_319 rfl rfl ?_
  refine Jo_getI fF_7_20 fI_7_20 dX7_takesE_320 w_890 (fun x5 => ?_)
  refine Jo_iload 3 dX7_takesE_323 rfl ?_
  refine Jo_iastore dX7_takesE_325 (fun s6 => ?_)
  refine Jo_aloadn 0 dX7_takesE_326 rfl rfl ?_
  refine Jo_dup dX7_takesE_327 rfl ?_
  refine Jo_getI fF_7_20 fI_7_20 dX7_takesE_328 w_890 (fun x7 => ?_)
  refine Jo_iconst (v := (1 : Int32)) dX7_takesE_331 (by decide) ?_
  refine Jo_iadd dX7_takesE_332 ?_
  refine Jo_putI fF_7_20 fI_7_20 (Or.inl rfl) rfl dX7_takesE_333 w_890 (fun s8 => ?_)
  refine Jo_iconst (v := (1 : Int32)) dX7_takesE_336 (by decide) ?_
  refine Jo_istoren (ls' := [(3, .int (1 : Int32)), (0, .ref l0), (1, .int l1), (2, .int l2), (4, .int l4)]) dX7_takesE_337 rfl (by decide) rfl ?_
  refine Jo_aloadn 1 dX7_takesE_338 rfl rfl ?_
  refine Jo_callVv (a := l0) (rest := []) [] cc_7 yF_X7_go yV_X7_go w_879 rfl rfl ⟨Nat.le_of_ble_eq_true rfl, Nat.le_of_ble_eq_true rfl, Nat.le_of_ble_eq_true rfl⟩ dX7_takesE_339 rfl (K_X7_go E s8 l0) (fun p9 => ?_)
  refine Jo_goto 28 dX7_takesE_342 (by decide) ?_
  refine Jo_sub [1, 2, 3, 0] rfl ?_
  exact h28 p9.2 l0 l1 l2 (1 : Int32)
def f_X7_takesE_b300 (k28 : Nat → Int32 → Int32 → Int32 → hS → Option (Int32 × hS)) (l0 : Nat) (l1 : Int32) (l2 : Int32) (l4 : Int32) (t0 : Nat) (t1 : Int32) (s : hS) : Option (Int32 × hS) :=
  f_X7_takesE_b305 k28 l0 l1 l2 l4 t0 t1 (1 : Int32) s
theorem b_X7_takesE_300 (E : jE) (k28 : Nat → Int32 → Int32 → Int32 → hS → Option (Int32 × hS)) (h28 : ∀ (s : hS) (l0 : Nat) (l1 : Int32) (l2 : Int32) (l3 : Int32) , Jo E M_X7_takesE cvI 28 [(0, .ref l0), (1, .int l1), (2, .int l2), (3, .int l3)] [] s (k28 l0 l1 l2 l3 s)) (s : hS) (l0 : Nat) (l1 : Int32) (l2 : Int32) (l4 : Int32) (t0 : Nat) (t1 : Int32) : Jo E M_X7_takesE cvI 300 [(0, .ref l0), (1, .int l1), (2, .int l2), (4, .int l4)] [.int t1, .ref t0] s (f_X7_takesE_b300 k28 l0 l1 l2 l4 t0 t1 s) := by
  unfold f_X7_takesE_b300
  refine Jo_iconst (v := (1 : Int32)) dX7_takesE_300 (by decide) ?_
  refine Jo_goto 305 dX7_takesE_301 (by decide) ?_
  exact b_X7_takesE_305 E k28 h28 s l0 l1 l2 l4 t0 t1 (1 : Int32)
def f_X7_takesE_b304 (k28 : Nat → Int32 → Int32 → Int32 → hS → Option (Int32 × hS)) (l0 : Nat) (l1 : Int32) (l2 : Int32) (l4 : Int32) (t0 : Nat) (t1 : Int32) (s : hS) : Option (Int32 × hS) :=
  f_X7_takesE_b305 k28 l0 l1 l2 l4 t0 t1 (0 : Int32) s
theorem b_X7_takesE_304 (E : jE) (k28 : Nat → Int32 → Int32 → Int32 → hS → Option (Int32 × hS)) (h28 : ∀ (s : hS) (l0 : Nat) (l1 : Int32) (l2 : Int32) (l3 : Int32) , Jo E M_X7_takesE cvI 28 [(0, .ref l0), (1, .int l1), (2, .int l2), (3, .int l3)] [] s (k28 l0 l1 l2 l3 s)) (s : hS) (l0 : Nat) (l1 : Int32) (l2 : Int32) (l4 : Int32) (t0 : Nat) (t1 : Int32) : Jo E M_X7_takesE cvI 304 [(0, .ref l0), (1, .int l1), (2, .int l2), (4, .int l4)] [.int t1, .ref t0] s (f_X7_takesE_b304 k28 l0 l1 l2 l4 t0 t1 s) := by
  unfold f_X7_takesE_b304
  refine Jo_iconst (v := (0 : Int32)) dX7_takesE_304 (by decide) ?_
  exact b_X7_takesE_305 E k28 h28 s l0 l1 l2 l4 t0 t1 (0 : Int32)
def f_X7_takesE_b268 (k28 : Nat → Int32 → Int32 → Int32 → hS → Option (Int32 × hS)) (l0 : Nat) (l1 : Int32) (l2 : Int32) (l4 : Int32) (s : hS) : Option (Int32 × hS) :=
  (gR s l0 7 21).bind fun a1 =>
  (f_X7_rank s l4).bind fun p2 =>
  if p2.1 = (3 : Int32) then
    f_X7_takesE_b300 k28 l0 l1 l2 l4 a1 l1 p2.2
  else
    (f_X7_rank p2.2 l4).bind fun p3 =>
    if p3.1 ≤ (3 : Int32) then
      f_X7_takesE_b304 k28 l0 l1 l2 l4 a1 l1 p3.2
    else
      (gR p3.2 l0 7 21).bind fun a4 =>
      (aI p3.2 a4 11 l1).bind fun x5 =>
      if x5 = 0 then
        f_X7_takesE_b304 k28 l0 l1 l2 l4 a1 l1 p3.2
      else
        f_X7_takesE_b300 k28 l0 l1 l2 l4 a1 l1 p3.2
theorem b_X7_takesE_268 (E : jE) (k28 : Nat → Int32 → Int32 → Int32 → hS → Option (Int32 × hS)) (h28 : ∀ (s : hS) (l0 : Nat) (l1 : Int32) (l2 : Int32) (l3 : Int32) , Jo E M_X7_takesE cvI 28 [(0, .ref l0), (1, .int l1), (2, .int l2), (3, .int l3)] [] s (k28 l0 l1 l2 l3 s)) (s : hS) (l0 : Nat) (l1 : Int32) (l2 : Int32) (l4 : Int32)  : Jo E M_X7_takesE cvI 268 [(0, .ref l0), (1, .int l1), (2, .int l2), (4, .int l4)] [] s (f_X7_takesE_b268 k28 l0 l1 l2 l4 s) := by
  unfold f_X7_takesE_b268
  refine Jo_aloadn 0 dX7_takesE_268 rfl rfl ?_
  refine Jo_getR fF_7_21 fR_7_21 dX7_takesE_269 w_610 (fun a1 => ?_)
  refine Jo_iloadn 1 dX7_takesE_272 rfl rfl ?_
  refine Jo_iload 3 dX7_takesE_273 rfl ?_
  refine Jo_callSi (rest := [.int l1, .ref a1]) [.int l4] yF_X7_rank yS_X7_rank w_891 rfl rfl ⟨Nat.le_of_ble_eq_true rfl, Nat.le_of_ble_eq_true rfl, Nat.le_of_ble_eq_true rfl⟩ dX7_takesE_275 rfl (K_X7_rank E s l4) (fun p2 => ?_)
  refine Jo_iconst (v := (3 : Int32)) dX7_takesE_278 (by decide) ?_
  refine Jo_icmp_eq 300 dX7_takesE_279 (by decide) rfl ?_ ?_
  · exact b_X7_takesE_300 E k28 h28 p2.2 l0 l1 l2 l4 a1 l1
  · refine Jo_iload 3 dX7_takesE_282 rfl ?_
    refine Jo_callSi (rest := [.int l1, .ref a1]) [.int l4] yF_X7_rank yS_X7_rank w_891 rfl rfl ⟨Nat.le_of_ble_eq_true rfl, Nat.le_of_ble_eq_true rfl, Nat.le_of_ble_eq_true rfl⟩ dX7_takesE_284 rfl (K_X7_rank E p2.2 l4) (fun p3 => ?_)
    refine Jo_iconst (v := (3 : Int32)) dX7_takesE_287 (by decide) ?_
    refine Jo_icmp_le 304 dX7_takesE_288 (by decide) rfl ?_ ?_
    · exact b_X7_takesE_304 E k28 h28 p3.2 l0 l1 l2 l4 a1 l1
    · refine Jo_aloadn 0 dX7_takesE_291 rfl rfl ?_
      refine Jo_getR fF_7_21 fR_7_21 dX7_takesE_292 w_610 (fun a4 => ?_)
      refine Jo_iloadn 1 dX7_takesE_295 rfl rfl ?_
      refine Jo_zaload dX7_takesE_296 (fun x5 => ?_)
      refine Jo_if_eq 304 dX7_takesE_297 (by decide) rfl ?_ ?_
      · exact b_X7_takesE_304 E k28 h28 p3.2 l0 l1 l2 l4 a1 l1
      · exact b_X7_takesE_300 E k28 h28 p3.2 l0 l1 l2 l4 a1 l1
def f_X7_takesE_b237 (k28 : Nat → Int32 → Int32 → Int32 → hS → Option (Int32 × hS)) (l0 : Nat) (l1 : Int32) (l2 : Int32) (s : hS) : Option (Int32 × hS) :=
  (cV s l0 7 (f_X7_signHere s l0)).bind fun p1 =>
  if p1.1 = 0 then
    some ((0 : Int32), p1.2)
  else
    (f_X7_rank p1.2 p1.1).bind fun p2 =>
    if p2.1 = (3 : Int32) then
      (gR p2.2 l0 7 21).bind fun a3 =>
      (aI p2.2 a3 11 l1).bind fun x4 =>
      if x4 = 0 then
        f_X7_takesE_b268 k28 l0 l1 l2 p1.1 p2.2
      else
        some ((0 : Int32), p2.2)
    else
      f_X7_takesE_b268 k28 l0 l1 l2 p1.1 p2.2
theorem b_X7_takesE_237 (E : jE) (k28 : Nat → Int32 → Int32 → Int32 → hS → Option (Int32 × hS)) (h28 : ∀ (s : hS) (l0 : Nat) (l1 : Int32) (l2 : Int32) (l3 : Int32) , Jo E M_X7_takesE cvI 28 [(0, .ref l0), (1, .int l1), (2, .int l2), (3, .int l3)] [] s (k28 l0 l1 l2 l3 s)) (s : hS) (l0 : Nat) (l1 : Int32) (l2 : Int32)  : Jo E M_X7_takesE cvI 237 [(0, .ref l0), (1, .int l1), (2, .int l2)] [] s (f_X7_takesE_b237 k28 l0 l1 l2 s) := by
  unfold f_X7_takesE_b237
  refine Jo_aloadn 0 dX7_takesE_237 rfl rfl ?_
  refine Jo_callVi (a := l0) (rest := []) [] cc_7 yF_X7_signHere yV_X7_signHere w_907 rfl rfl ⟨Nat.le_of_ble_eq_true rfl, Nat.le_of_ble_eq_true rfl, Nat.le_of_ble_eq_true rfl⟩ dX7_takesE_238 rfl (K_X7_signHere E s l0) (fun p1 => ?_)
  refine Jo_istore (ls' := [(4, .int p1.1), (0, .ref l0), (1, .int l1), (2, .int l2)]) dX7_takesE_241 (by decide) rfl ?_
  refine Jo_iload 0 dX7_takesE_243 rfl ?_
  refine Jo_if_eq 266 dX7_takesE_245 (by decide) rfl ?_ ?_
  · refine Jo_iconst (v := (0 : Int32)) dX7_takesE_266 (by decide) ?_
    exact Jo_zret0 rfl dX7_takesE_267
  · refine Jo_iload 0 dX7_takesE_248 rfl ?_
    refine Jo_callSi (rest := []) [.int p1.1] yF_X7_rank yS_X7_rank w_891 rfl rfl ⟨Nat.le_of_ble_eq_true rfl, Nat.le_of_ble_eq_true rfl, Nat.le_of_ble_eq_true rfl⟩ dX7_takesE_250 rfl (K_X7_rank E p1.2 p1.1) (fun p2 => ?_)
    refine Jo_iconst (v := (3 : Int32)) dX7_takesE_253 (by decide) ?_
    refine Jo_icmp_ne 268 dX7_takesE_254 (by decide) rfl ?_ ?_
    · refine Jo_aloadn 1 dX7_takesE_257 rfl rfl ?_
      refine Jo_getR fF_7_21 fR_7_21 dX7_takesE_258 w_610 (fun a3 => ?_)
      refine Jo_iloadn 2 dX7_takesE_261 rfl rfl ?_
      refine Jo_zaload dX7_takesE_262 (fun x4 => ?_)
      refine Jo_if_eq 268 dX7_takesE_263 (by decide) rfl ?_ ?_
      · refine Jo_sub [1, 2, 3, 0] rfl ?_
        exact b_X7_takesE_268 E k28 h28 p2.2 l0 l1 l2 p1.1
      · refine Jo_iconst (v := (0 : Int32)) dX7_takesE_266 (by decide) ?_
        exact Jo_zret0 rfl dX7_takesE_267
    · refine Jo_sub [1, 2, 3, 0] rfl ?_
      exact b_X7_takesE_268 E k28 h28 p2.2 l0 l1 l2 p1.1
def f_X7_takesE_b172 (k28 : Nat → Int32 → Int32 → Int32 → hS → Option (Int32 × hS)) (l0 : Nat) (l1 : Int32) (l3 : Int32) (s : hS) : Option (Int32 × hS) :=
  (cV s l0 7 (f_X7_notsOpen s l0)).bind fun p1 =>
  k28 l0 l1 p1.1 l3 p1.2
theorem b_X7_takesE_172 (E : jE) (k28 : Nat → Int32 → Int32 → Int32 → hS → Option (Int32 × hS)) (h28 : ∀ (s : hS) (l0 : Nat) (l1 : Int32) (l2 : Int32) (l3 : Int32) , Jo E M_X7_takesE cvI 28 [(0, .ref l0), (1, .int l1), (2, .int l2), (3, .int l3)] [] s (k28 l0 l1 l2 l3 s)) (s : hS) (l0 : Nat) (l1 : Int32) (l3 : Int32)  : Jo E M_X7_takesE cvI 172 [(0, .ref l0), (1, .int l1), (3, .int l3)] [] s (f_X7_takesE_b172 k28 l0 l1 l3 s) := by
  unfold f_X7_takesE_b172
  refine Jo_aloadn 0 dX7_takesE_172 rfl rfl ?_
  refine Jo_callVi (a := l0) (rest := []) [] cc_7 yF_X7_notsOpen yV_X7_notsOpen w_908 rfl rfl ⟨Nat.le_of_ble_eq_true rfl, Nat.le_of_ble_eq_true rfl, Nat.le_of_ble_eq_true rfl⟩ dX7_takesE_173 rfl (K_X7_notsOpen E s l0) (fun p1 => ?_)
  refine Jo_istoren (ls' := [(2, .int p1.1), (0, .ref l0), (1, .int l1), (3, .int l3)]) dX7_takesE_176 rfl (by decide) rfl ?_
  refine Jo_goto 28 dX7_takesE_177 (by decide) ?_
  refine Jo_sub [1, 2, 0, 3] rfl ?_
  exact h28 p1.2 l0 l1 p1.1 l3
def f_X7_takesE_b158 (k28 : Nat → Int32 → Int32 → Int32 → hS → Option (Int32 × hS)) (l0 : Nat) (l1 : Int32) (s : hS) : Option (Int32 × hS) :=
  (cV s l0 7 (f_X7_takesPart s l0)).bind fun p1 =>
  if p1.1 = 0 then
    some ((0 : Int32), p1.2)
  else
    f_X7_takesE_b172 k28 l0 l1 (0 : Int32) p1.2
theorem b_X7_takesE_158 (E : jE) (k28 : Nat → Int32 → Int32 → Int32 → hS → Option (Int32 × hS)) (h28 : ∀ (s : hS) (l0 : Nat) (l1 : Int32) (l2 : Int32) (l3 : Int32) , Jo E M_X7_takesE cvI 28 [(0, .ref l0), (1, .int l1), (2, .int l2), (3, .int l3)] [] s (k28 l0 l1 l2 l3 s)) (s : hS) (l0 : Nat) (l1 : Int32)  : Jo E M_X7_takesE cvI 158 [(0, .ref l0), (1, .int l1)] [] s (f_X7_takesE_b158 k28 l0 l1 s) := by
  unfold f_X7_takesE_b158
  refine Jo_aloadn 0 dX7_takesE_158 rfl rfl ?_
  refine Jo_callVi (a := l0) (rest := []) [] cc_7 yF_X7_takesPart yV_X7_takesPart w_909 rfl rfl ⟨Nat.le_of_ble_eq_true rfl, Nat.le_of_ble_eq_true rfl, Nat.le_of_ble_eq_true rfl⟩ dX7_takesE_159 rfl (K_X7_takesPart E s l0) (fun p1 => ?_)
  refine Jo_if_eq 170 dX7_takesE_162 (by decide) rfl ?_ ?_
  · refine Jo_iconst (v := (0 : Int32)) dX7_takesE_170 (by decide) ?_
    exact Jo_zret0 rfl dX7_takesE_171
  · refine Jo_iconst (v := (0 : Int32)) dX7_takesE_165 (by decide) ?_
    refine Jo_istoren (ls' := [(3, .int (0 : Int32)), (0, .ref l0), (1, .int l1)]) dX7_takesE_166 rfl (by decide) rfl ?_
    refine Jo_goto 172 dX7_takesE_167 (by decide) ?_
    refine Jo_sub [1, 2, 0] rfl ?_
    exact b_X7_takesE_172 E k28 h28 p1.2 l0 l1 (0 : Int32)
def f_X7_takesE_b97 (k28 : Nat → Int32 → Int32 → Int32 → hS → Option (Int32 × hS)) (l0 : Nat) (l1 : Int32) (l3 : Int32) (s : hS) : Option (Int32 × hS) :=
  (gI s l0 7 10).bind fun x1 =>
  if x1 = (3 : Int32) then
    (gI s l0 7 11).bind fun x2 =>
    if x2 = (40 : Int32) then
      if (8 : Int32) ≤ l1 then
        f_X7_takesE_b158 k28 l0 l1 s
      else
        (gR s l0 7 19).bind fun a3 =>
        (gI s l0 7 20).bind fun x4 =>
        (sI s a3 10 x4 (-11 : Int32)).bind fun s5 =>
        (gI s5 l0 7 20).bind fun x6 =>
        (pI s5 l0 7 20 (x6 + (1 : Int32))).bind fun s7 =>
        (gR s7 l0 7 21).bind fun a8 =>
        (sI s7 a8 11 (l1 + (1 : Int32)) (vp_nar .boolean (0 : Int32))).bind fun s9 =>
        (cV s9 l0 7 (f_X7_go s9 l0)).bind fun p10 =>
        f_X7_takesE_b172 k28 l0 (l1 + (1 : Int32)) l3 p10.2
    else
      f_X7_takesE_b158 k28 l0 l1 s
  else
    f_X7_takesE_b158 k28 l0 l1 s
theorem b_X7_takesE_97 (E : jE) (k28 : Nat → Int32 → Int32 → Int32 → hS → Option (Int32 × hS)) (h28 : ∀ (s : hS) (l0 : Nat) (l1 : Int32) (l2 : Int32) (l3 : Int32) , Jo E M_X7_takesE cvI 28 [(0, .ref l0), (1, .int l1), (2, .int l2), (3, .int l3)] [] s (k28 l0 l1 l2 l3 s)) (s : hS) (l0 : Nat) (l1 : Int32) (l3 : Int32)  : Jo E M_X7_takesE cvI 97 [(0, .ref l0), (1, .int l1), (3, .int l3)] [] s (f_X7_takesE_b97 k28 l0 l1 l3 s) := by
  unfold f_X7_takesE_b97
  refine Jo_aloadn 0 dX7_takesE_97 rfl rfl ?_
  refine Jo_getI fF_7_10 fI_7_10 dX7_takesE_98 w_871 (fun x1 => ?_)
  refine Jo_iconst (v := (3 : Int32)) dX7_takesE_101 (by decide) ?_
  refine Jo_icmp_ne 158 dX7_takesE_102 (by decide) rfl ?_ ?_
  · refine Jo_aloadn 0 dX7_takesE_105 rfl rfl ?_
    refine Jo_getI fF_7_11 fI_7_11 dX7_takesE_106 w_872 (fun x2 => ?_)
    refine Jo_bipush (v := (40 : Int32)) dX7_takesE_109 (by decide) ?_
    refine Jo_icmp_ne 158 dX7_takesE_111 (by decide) rfl ?_ ?_
    · refine Jo_iloadn 1 dX7_takesE_114 rfl rfl ?_
      refine Jo_bipush (v := (8 : Int32)) dX7_takesE_115 (by decide) ?_
      refine Jo_icmp_ge 158 dX7_takesE_117 (by decide) rfl ?_ ?_
      · refine Jo_sub [0, 1] rfl ?_
        exact b_X7_takesE_158 E k28 h28 s l0 l1
      · refine Jo_aloadn 0 dX7_takesE_120 rfl rfl ?_
        refine Jo_getR fF_7_19 fR_7_19 dX7_takesE_121 w_612 (fun a3 => ?_)
        refine Jo_aloadn 0 dX7_takesE_124 rfl rfl ?_
        refine Jo_getI fF_7_20 fI_7_20 dX7_takesE_125 w_890 (fun x4 => ?_)
        refine Jo_bipush (v := (-11 : Int32)) dX7_takesE_128 (by decide) ?_
        refine Jo_iastore dX7_takesE_130 (fun s5 => ?_)
        refine Jo_aloadn 0 dX7_takesE_131 rfl rfl ?_
        refine Jo_dup dX7_takesE_132 rfl ?_
        refine Jo_getI fF_7_20 fI_7_20 dX7_takesE_133 w_890 (fun x6 => ?_)
        refine Jo_iconst (v := (1 : Int32)) dX7_takesE_136 (by decide) ?_
        refine Jo_iadd dX7_takesE_137 ?_
        refine Jo_putI fF_7_20 fI_7_20 (Or.inl rfl) rfl dX7_takesE_138 w_890 (fun s7 => ?_)
        refine Jo_iinc (v := (l1 + (1 : Int32))) (ls' := [(1, .int (l1 + (1 : Int32))), (0, .ref l0), (3, .int l3)]) 1 dX7_takesE_141 rfl rfl (by decide) rfl ?_
        refine Jo_aloadn 1 dX7_takesE_144 rfl rfl ?_
        refine Jo_getR fF_7_21 fR_7_21 dX7_takesE_145 w_610 (fun a8 => ?_)
        refine Jo_iloadn 0 dX7_takesE_148 rfl rfl ?_
        refine Jo_iconst (v := (0 : Int32)) dX7_takesE_149 (by decide) ?_
        refine Jo_zastore dX7_takesE_150 (fun s9 => ?_)
        refine Jo_aloadn 1 dX7_takesE_151 rfl rfl ?_
        refine Jo_callVv (a := l0) (rest := []) [] cc_7 yF_X7_go yV_X7_go w_879 rfl rfl ⟨Nat.le_of_ble_eq_true rfl, Nat.le_of_ble_eq_true rfl, Nat.le_of_ble_eq_true rfl⟩ dX7_takesE_152 rfl (K_X7_go E s9 l0) (fun p10 => ?_)
        refine Jo_goto 172 dX7_takesE_155 (by decide) ?_
        refine Jo_sub [1, 0, 2] rfl ?_
        exact b_X7_takesE_172 E k28 h28 p10.2 l0 (l1 + (1 : Int32)) l3
    · refine Jo_sub [0, 1] rfl ?_
      exact b_X7_takesE_158 E k28 h28 s l0 l1
  · refine Jo_sub [0, 1] rfl ?_
    exact b_X7_takesE_158 E k28 h28 s l0 l1
def f_X7_takesE_b39 (k28 : Nat → Int32 → Int32 → Int32 → hS → Option (Int32 × hS)) (l0 : Nat) (l1 : Int32) (l2 : Int32) (l3 : Int32) (s : hS) : Option (Int32 × hS) :=
  if l3 = 0 then
    (gI s l0 7 10).bind fun x1 =>
    if x1 = (3 : Int32) then
      (gI s l0 7 11).bind fun x2 =>
      if x2 = (41 : Int32) then
        if l1 ≤ 0 then
          f_X7_takesE_b237 k28 l0 l1 l2 s
        else
          (cV s l0 7 (f_X7_settle s l0 (0 : Int32))).bind fun p3 =>
          (gI p3.2 l0 7 20).bind fun x4 =>
          (pI p3.2 l0 7 20 (x4 - (1 : Int32))).bind fun s5 =>
          (cV s5 l0 7 (f_X7_settle s5 l0 (6 : Int32))).bind fun p6 =>
          (cV p6.2 l0 7 (f_X7_notsOpen p6.2 l0)).bind fun p7 =>
          (cV p7.2 l0 7 (f_X7_go p7.2 l0)).bind fun p8 =>
          k28 l0 (l1 + (-1 : Int32)) p7.1 l3 p8.2
      else
        f_X7_takesE_b237 k28 l0 l1 l2 s
    else
      f_X7_takesE_b237 k28 l0 l1 l2 s
  else
    (gI s l0 7 10).bind fun x9 =>
    if x9 = (3 : Int32) then
      (gI s l0 7 11).bind fun x10 =>
      if x10 = (33 : Int32) then
        if (8 : Int32) ≤ l2 then
          f_X7_takesE_b97 k28 l0 l1 l3 s
        else
          (gR s l0 7 19).bind fun a11 =>
          (gI s l0 7 20).bind fun x12 =>
          (sI s a11 10 x12 (-10 : Int32)).bind fun s13 =>
          (gI s13 l0 7 20).bind fun x14 =>
          (pI s13 l0 7 20 (x14 + (1 : Int32))).bind fun s15 =>
          (cV s15 l0 7 (f_X7_go s15 l0)).bind fun p16 =>
          f_X7_takesE_b172 k28 l0 l1 l3 p16.2
      else
        f_X7_takesE_b97 k28 l0 l1 l3 s
    else
      f_X7_takesE_b97 k28 l0 l1 l3 s
theorem b_X7_takesE_39 (E : jE) (k28 : Nat → Int32 → Int32 → Int32 → hS → Option (Int32 × hS)) (h28 : ∀ (s : hS) (l0 : Nat) (l1 : Int32) (l2 : Int32) (l3 : Int32) , Jo E M_X7_takesE cvI 28 [(0, .ref l0), (1, .int l1), (2, .int l2), (3, .int l3)] [] s (k28 l0 l1 l2 l3 s)) (s : hS) (l0 : Nat) (l1 : Int32) (l2 : Int32) (l3 : Int32)  : Jo E M_X7_takesE cvI 39 [(0, .ref l0), (1, .int l1), (2, .int l2), (3, .int l3)] [] s (f_X7_takesE_b39 k28 l0 l1 l2 l3 s) := by
  unfold f_X7_takesE_b39
  refine Jo_iloadn 3 dX7_takesE_39 rfl rfl ?_
  refine Jo_if_eq 180 dX7_takesE_40 (by decide) rfl ?_ ?_
  · refine Jo_aloadn 0 dX7_takesE_180 rfl rfl ?_
    refine Jo_getI fF_7_10 fI_7_10 dX7_takesE_181 w_871 (fun x1 => ?_)
    refine Jo_iconst (v := (3 : Int32)) dX7_takesE_184 (by decide) ?_
    refine Jo_icmp_ne 237 dX7_takesE_185 (by decide) rfl ?_ ?_
    · refine Jo_aloadn 0 dX7_takesE_188 rfl rfl ?_
      refine Jo_getI fF_7_11 fI_7_11 dX7_takesE_189 w_872 (fun x2 => ?_)
      refine Jo_bipush (v := (41 : Int32)) dX7_takesE_192 (by decide) ?_
      refine Jo_icmp_ne 237 dX7_takesE_194 (by decide) rfl ?_ ?_
      · refine Jo_iloadn 1 dX7_takesE_197 rfl rfl ?_
        refine Jo_if_le 237 dX7_takesE_198 (by decide) rfl ?_ ?_
        · refine Jo_sub [0, 1, 2] rfl ?_
          exact b_X7_takesE_237 E k28 h28 s l0 l1 l2
        · refine Jo_aloadn 0 dX7_takesE_201 rfl rfl ?_
          refine Jo_iconst (v := (0 : Int32)) dX7_takesE_202 (by decide) ?_
          refine Jo_callVv (a := l0) (rest := []) [.int (0 : Int32)] cc_7 yF_X7_settle yV_X7_settle w_898 rfl rfl ⟨Nat.le_of_ble_eq_true rfl, Nat.le_of_ble_eq_true rfl, Nat.le_of_ble_eq_true rfl⟩ dX7_takesE_203 rfl (K_X7_settle E s l0 (0 : Int32)) (fun p3 => ?_)
          refine Jo_aloadn 0 dX7_takesE_206 rfl rfl ?_
          refine Jo_dup dX7_takesE_207 rfl ?_
          refine Jo_getI fF_7_20 fI_7_20 dX7_takesE_208 w_890 (fun x4 => ?_)
          refine Jo_iconst (v := (1 : Int32)) dX7_takesE_211 (by decide) ?_
          refine Jo_isub dX7_takesE_212 ?_
          refine Jo_putI fF_7_20 fI_7_20 (Or.inl rfl) rfl dX7_takesE_213 w_890 (fun s5 => ?_)
          refine Jo_iinc (v := (l1 + (-1 : Int32))) (ls' := [(1, .int (l1 + (-1 : Int32))), (0, .ref l0), (2, .int l2), (3, .int l3)]) 1 dX7_takesE_216 rfl rfl (by decide) rfl ?_
          refine Jo_aloadn 1 dX7_takesE_219 rfl rfl ?_
          refine Jo_bipush (v := (6 : Int32)) dX7_takesE_220 (by decide) ?_
          refine Jo_callVv (a := l0) (rest := []) [.int (6 : Int32)] cc_7 yF_X7_settle yV_X7_settle w_898 rfl rfl ⟨Nat.le_of_ble_eq_true rfl, Nat.le_of_ble_eq_true rfl, Nat.le_of_ble_eq_true rfl⟩ dX7_takesE_222 rfl (K_X7_settle E s5 l0 (6 : Int32)) (fun p6 => ?_)
          refine Jo_aloadn 1 dX7_takesE_225 rfl rfl ?_
          refine Jo_callVi (a := l0) (rest := []) [] cc_7 yF_X7_notsOpen yV_X7_notsOpen w_908 rfl rfl ⟨Nat.le_of_ble_eq_true rfl, Nat.le_of_ble_eq_true rfl, Nat.le_of_ble_eq_true rfl⟩ dX7_takesE_226 rfl (K_X7_notsOpen E p6.2 l0) (fun p7 => ?_)
          refine Jo_istoren (ls' := [(2, .int p7.1), (1, .int (l1 + (-1 : Int32))), (0, .ref l0), (3, .int l3)]) dX7_takesE_229 rfl (by decide) rfl ?_
          refine Jo_aloadn 2 dX7_takesE_230 rfl rfl ?_
          refine Jo_callVv (a := l0) (rest := []) [] cc_7 yF_X7_go yV_X7_go w_879 rfl rfl ⟨Nat.le_of_ble_eq_true rfl, Nat.le_of_ble_eq_true rfl, Nat.le_of_ble_eq_true rfl⟩ dX7_takesE_231 rfl (K_X7_go E p7.2 l0) (fun p8 => ?_)
          refine Jo_goto 28 dX7_takesE_234 (by decide) ?_
          refine Jo_sub [2, 1, 0, 3] rfl ?_
          exact h28 p8.2 l0 (l1 + (-1 : Int32)) p7.1 l3
      · refine Jo_sub [0, 1, 2] rfl ?_
        exact b_X7_takesE_237 E k28 h28 s l0 l1 l2
    · refine Jo_sub [0, 1, 2] rfl ?_
      exact b_X7_takesE_237 E k28 h28 s l0 l1 l2
  · refine Jo_aloadn 0 dX7_takesE_43 rfl rfl ?_
    refine Jo_getI fF_7_10 fI_7_10 dX7_takesE_44 w_871 (fun x9 => ?_)
    refine Jo_iconst (v := (3 : Int32)) dX7_takesE_47 (by decide) ?_
    refine Jo_icmp_ne 97 dX7_takesE_48 (by decide) rfl ?_ ?_
    · refine Jo_aloadn 0 dX7_takesE_51 rfl rfl ?_
      refine Jo_getI fF_7_11 fI_7_11 dX7_takesE_52 w_872 (fun x10 => ?_)
      refine Jo_bipush (v := (33 : Int32)) dX7_takesE_55 (by decide) ?_
      refine Jo_icmp_ne 97 dX7_takesE_57 (by decide) rfl ?_ ?_
      · refine Jo_iloadn 2 dX7_takesE_60 rfl rfl ?_
        refine Jo_bipush (v := (8 : Int32)) dX7_takesE_61 (by decide) ?_
        refine Jo_icmp_ge 97 dX7_takesE_63 (by decide) rfl ?_ ?_
        · refine Jo_sub [0, 1, 3] rfl ?_
          exact b_X7_takesE_97 E k28 h28 s l0 l1 l3
        · refine Jo_aloadn 0 dX7_takesE_66 rfl rfl ?_
          refine Jo_getR fF_7_19 fR_7_19 dX7_takesE_67 w_612 (fun a11 => ?_)
          refine Jo_aloadn 0 dX7_takesE_70 rfl rfl ?_
          refine Jo_getI fF_7_20 fI_7_20 dX7_takesE_71 w_890 (fun x12 => ?_)
          refine Jo_bipush (v := (-10 : Int32)) dX7_takesE_74 (by decide) ?_
          refine Jo_iastore dX7_takesE_76 (fun s13 => ?_)
          refine Jo_aloadn 0 dX7_takesE_77 rfl rfl ?_
          refine Jo_dup dX7_takesE_78 rfl ?_
          refine Jo_getI fF_7_20 fI_7_20 dX7_takesE_79 w_890 (fun x14 => ?_)
          refine Jo_iconst (v := (1 : Int32)) dX7_takesE_82 (by decide) ?_
          refine Jo_iadd dX7_takesE_83 ?_
          refine Jo_putI fF_7_20 fI_7_20 (Or.inl rfl) rfl dX7_takesE_84 w_890 (fun s15 => ?_)
          refine Jo_iinc (v := (l2 + (1 : Int32))) (ls' := [(2, .int (l2 + (1 : Int32))), (0, .ref l0), (1, .int l1), (3, .int l3)]) 2 dX7_takesE_87 rfl rfl (by decide) rfl ?_
          refine Jo_aloadn 1 dX7_takesE_90 rfl rfl ?_
          refine Jo_callVv (a := l0) (rest := []) [] cc_7 yF_X7_go yV_X7_go w_879 rfl rfl ⟨Nat.le_of_ble_eq_true rfl, Nat.le_of_ble_eq_true rfl, Nat.le_of_ble_eq_true rfl⟩ dX7_takesE_91 rfl (K_X7_go E s15 l0) (fun p16 => ?_)
          refine Jo_goto 172 dX7_takesE_94 (by decide) ?_
          refine Jo_sub [1, 2, 3] rfl ?_
          exact b_X7_takesE_172 E k28 h28 p16.2 l0 l1 l3
      · refine Jo_sub [0, 1, 3] rfl ?_
        exact b_X7_takesE_97 E k28 h28 s l0 l1 l3
    · refine Jo_sub [0, 1, 3] rfl ?_
      exact b_X7_takesE_97 E k28 h28 s l0 l1 l3
def f_X7_takesE_b28 (k28 : Nat → Int32 → Int32 → Int32 → hS → Option (Int32 × hS)) (l0 : Nat) (l1 : Int32) (l2 : Int32) (l3 : Int32) (s : hS) : Option (Int32 × hS) :=
  if l3 = 0 then
    (gI s l0 7 10).bind fun x1 =>
    if x1 = 0 then
      (cV s l0 7 (f_X7_settle s l0 (0 : Int32))).bind fun p2 =>
      if l1 = 0 then
        some ((1 : Int32), p2.2)
      else
        some ((0 : Int32), p2.2)
    else
      f_X7_takesE_b39 k28 l0 l1 l2 l3 s
  else
    f_X7_takesE_b39 k28 l0 l1 l2 l3 s
theorem b_X7_takesE_28 (E : jE) (k28 : Nat → Int32 → Int32 → Int32 → hS → Option (Int32 × hS)) (h28 : ∀ (s : hS) (l0 : Nat) (l1 : Int32) (l2 : Int32) (l3 : Int32) , Jo E M_X7_takesE cvI 28 [(0, .ref l0), (1, .int l1), (2, .int l2), (3, .int l3)] [] s (k28 l0 l1 l2 l3 s)) (s : hS) (l0 : Nat) (l1 : Int32) (l2 : Int32) (l3 : Int32)  : Jo E M_X7_takesE cvI 28 [(0, .ref l0), (1, .int l1), (2, .int l2), (3, .int l3)] [] s (f_X7_takesE_b28 k28 l0 l1 l2 l3 s) := by
  unfold f_X7_takesE_b28
  refine Jo_iloadn 3 dX7_takesE_28 rfl rfl ?_
  refine Jo_if_ne 39 dX7_takesE_29 (by decide) rfl ?_ ?_
  · refine Jo_aloadn 0 dX7_takesE_32 rfl rfl ?_
    refine Jo_getI fF_7_10 fI_7_10 dX7_takesE_33 w_871 (fun x1 => ?_)
    refine Jo_if_eq 345 dX7_takesE_36 (by decide) rfl ?_ ?_
    · refine Jo_aloadn 0 dX7_takesE_345 rfl rfl ?_
      refine Jo_iconst (v := (0 : Int32)) dX7_takesE_346 (by decide) ?_
      refine Jo_callVv (a := l0) (rest := []) [.int (0 : Int32)] cc_7 yF_X7_settle yV_X7_settle w_898 rfl rfl ⟨Nat.le_of_ble_eq_true rfl, Nat.le_of_ble_eq_true rfl, Nat.le_of_ble_eq_true rfl⟩ dX7_takesE_347 rfl (K_X7_settle E s l0 (0 : Int32)) (fun p2 => ?_)
      refine Jo_iloadn 1 dX7_takesE_350 rfl rfl ?_
      refine Jo_if_ne 358 dX7_takesE_351 (by decide) rfl ?_ ?_
      · refine Jo_iconst (v := (1 : Int32)) dX7_takesE_354 (by decide) ?_
        refine Jo_goto 359 dX7_takesE_355 (by decide) ?_
        exact Jo_zret1 rfl dX7_takesE_359
      · refine Jo_iconst (v := (0 : Int32)) dX7_takesE_358 (by decide) ?_
        exact Jo_zret0 rfl dX7_takesE_359
    · exact b_X7_takesE_39 E k28 h28 s l0 l1 l2 l3
  · exact b_X7_takesE_39 E k28 h28 s l0 l1 l2 l3
theorem e_X7_takesE_28 (E : jE)  (n : Nat) : ∀ (s : hS) (l0 : Nat) (l1 : Int32) (l2 : Int32) (l3 : Int32) , Jo E M_X7_takesE cvI 28 [(0, .ref l0), (1, .int l1), (2, .int l2), (3, .int l3)] [] s ((jL f_X7_takesE_b28 (fun _ _ _ _ _ => none) n) l0 l1 l2 l3 s) :=
  jL_ind (P := fun f => ∀ (s : hS) (l0 : Nat) (l1 : Int32) (l2 : Int32) (l3 : Int32) , Jo E M_X7_takesE cvI 28 [(0, .ref l0), (1, .int l1), (2, .int l2), (3, .int l3)] [] s (f l0 l1 l2 l3 s)) (fun _ _ _ _ _ => Jo_none) (fun b hb s l0 l1 l2 l3 => b_X7_takesE_28 E  b hb s l0 l1 l2 l3) n
def f_X7_takesE (s : hS) (a0 : Nat) : Option (Int32 × hS) :=
  (pI s a0 7 17 (0 : Int32)).bind fun s1 =>
  (pI s1 a0 7 18 (0 : Int32)).bind fun s2 =>
  (pI s2 a0 7 20 (0 : Int32)).bind fun s3 =>
  (gR s3 a0 7 21).bind fun a4 =>
  (sI s3 a4 11 (0 : Int32) (vp_nar .boolean (0 : Int32))).bind fun s5 =>
  jL f_X7_takesE_b28 (fun _ _ _ _ _ => none) jF a0 (0 : Int32) (0 : Int32) (1 : Int32) s5
theorem b_X7_takesE_in (E : jE)  (s : hS) (a0 : Nat)  : Jo E M_X7_takesE cvI 0 [(0, .ref a0)] [] s (f_X7_takesE s a0) := by
  unfold f_X7_takesE
  refine Jo_iconst (v := (0 : Int32)) dX7_takesE_0 (by decide) ?_
  refine Jo_istoren (ls' := [(1, .int (0 : Int32)), (0, .ref a0)]) dX7_takesE_1 rfl (by decide) rfl ?_
  refine Jo_iconst (v := (0 : Int32)) dX7_takesE_2 (by decide) ?_
  refine Jo_istoren (ls' := [(2, .int (0 : Int32)), (1, .int (0 : Int32)), (0, .ref a0)]) dX7_takesE_3 rfl (by decide) rfl ?_
  refine Jo_iconst (v := (1 : Int32)) dX7_takesE_4 (by decide) ?_
  refine Jo_istoren (ls' := [(3, .int (1 : Int32)), (2, .int (0 : Int32)), (1, .int (0 : Int32)), (0, .ref a0)]) dX7_takesE_5 rfl (by decide) rfl ?_
  refine Jo_aloadn 3 dX7_takesE_6 rfl rfl ?_
  refine Jo_iconst (v := (0 : Int32)) dX7_takesE_7 (by decide) ?_
  refine Jo_putI fF_7_17 fI_7_17 (Or.inl rfl) rfl dX7_takesE_8 w_889 (fun s1 => ?_)
  refine Jo_aloadn 3 dX7_takesE_11 rfl rfl ?_
  refine Jo_iconst (v := (0 : Int32)) dX7_takesE_12 (by decide) ?_
  refine Jo_putI fF_7_18 fI_7_18 (Or.inl rfl) rfl dX7_takesE_13 w_899 (fun s2 => ?_)
  refine Jo_aloadn 3 dX7_takesE_16 rfl rfl ?_
  refine Jo_iconst (v := (0 : Int32)) dX7_takesE_17 (by decide) ?_
  refine Jo_putI fF_7_20 fI_7_20 (Or.inl rfl) rfl dX7_takesE_18 w_890 (fun s3 => ?_)
  refine Jo_aloadn 3 dX7_takesE_21 rfl rfl ?_
  refine Jo_getR fF_7_21 fR_7_21 dX7_takesE_22 w_610 (fun a4 => ?_)
  refine Jo_iconst (v := (0 : Int32)) dX7_takesE_25 (by decide) ?_
  refine Jo_iconst (v := (0 : Int32)) dX7_takesE_26 (by decide) ?_
  refine Jo_zastore dX7_takesE_27 (fun s5 => ?_)
  refine Jo_sub [3, 2, 1, 0] rfl ?_
  exact e_X7_takesE_28 E jF s5 a0 (0 : Int32) (0 : Int32) (1 : Int32)
theorem K_X7_takesE (E : jE) (s : hS) (a0 : Nat) : jK E yX7_takesE M_X7_takesE cvI [.ref a0] s (f_X7_takesE s a0) := jK_of ⟨by decide, rfl, rfl⟩ (Nat.le_of_ble_eq_true rfl) (b_X7_takesE_in E s a0)
/-! HeronTalkModel.text()I -/
abbrev M_X7_text : jM := (RX7, cX7_text, 4, (some .int), "text", 4, 87)
theorem yF_X7_text : yF yX7_text M_X7_text 0 := ⟨w_915, w_624, by decide +kernel⟩
theorem yV_X7_text : Cond.instanceMethod yX7_text ∈ tbG ∧ Cond.selects yX7_text.cls yX7_text yX7_text ∈ tbG := ⟨w_916, w_917⟩
theorem dX7_text_0 : dI cX7_text 0 1 (.aload_n 0) 1 := ⟨by decide +kernel, rfl⟩
theorem dX7_text_1 : dI cX7_text 1 2 (.iconst 0) 1 := ⟨by decide +kernel, rfl⟩
theorem dX7_text_2 : dI cX7_text 2 5 (.putfield 214) 3 := ⟨by decide +kernel, rfl⟩
theorem dX7_text_5 : dI cX7_text 5 6 (.aload_n 0) 1 := ⟨by decide +kernel, rfl⟩
theorem dX7_text_6 : dI cX7_text 6 7 (.iconst (-1)) 1 := ⟨by decide +kernel, rfl⟩
theorem dX7_text_7 : dI cX7_text 7 10 (.putfield 220) 3 := ⟨by decide +kernel, rfl⟩
theorem dX7_text_10 : dI cX7_text 10 11 (.aload_n 0) 1 := ⟨by decide +kernel, rfl⟩
theorem dX7_text_11 : decode cX7_text 11 = .ok (.invokevirtual 238, 3) := by decide +kernel
theorem dX7_text_14 : dI cX7_text 14 15 (.aload_n 0) 1 := ⟨by decide +kernel, rfl⟩
theorem dX7_text_15 : decode cX7_text 15 = .ok (.invokevirtual 269, 3) := by decide +kernel
theorem dX7_text_18 : decode cX7_text 18 = .ok (.ifCond .eq 14, 3) := by decide +kernel
theorem dX7_text_21 : dI cX7_text 21 22 (.aload_n 0) 1 := ⟨by decide +kernel, rfl⟩
theorem dX7_text_22 : decode cX7_text 22 = .ok (.invokevirtual 272, 3) := by decide +kernel
theorem dX7_text_25 : decode cX7_text 25 = .ok (.ifCond .eq 7, 3) := by decide +kernel
theorem dX7_text_28 : dI cX7_text 28 29 (.iconst 1) 1 := ⟨by decide +kernel, rfl⟩
theorem dX7_text_29 : decode cX7_text 29 = .ok (.goto 4, 3) := by decide +kernel
theorem dX7_text_32 : dI cX7_text 32 33 (.iconst 0) 1 := ⟨by decide +kernel, rfl⟩
theorem dX7_text_33 : dI cX7_text 33 34 (.istore_n 1) 1 := ⟨by decide +kernel, rfl⟩
theorem dX7_text_34 : dI cX7_text 34 35 (.aload_n 0) 1 := ⟨by decide +kernel, rfl⟩
theorem dX7_text_35 : dI cX7_text 35 36 (.iconst 0) 1 := ⟨by decide +kernel, rfl⟩
theorem dX7_text_36 : dI cX7_text 36 39 (.putfield 210) 3 := ⟨by decide +kernel, rfl⟩
theorem dX7_text_39 : dI cX7_text 39 40 (.iload_n 1) 1 := ⟨by decide +kernel, rfl⟩
theorem dX7_text_40 : decode cX7_text 40 = .ok (.ifCond .ne 11, 3) := by decide +kernel
theorem dX7_text_43 : dI cX7_text 43 45 (.bipush (-100)) 2 := ⟨by decide +kernel, rfl⟩
theorem dX7_text_45 : dI cX7_text 45 46 (.aload_n 0) 1 := ⟨by decide +kernel, rfl⟩
theorem dX7_text_46 : dI cX7_text 46 49 (.getfield 217) 3 := ⟨by decide +kernel, rfl⟩
theorem dX7_text_49 : dI cX7_text 49 50 (.isub) 1 := ⟨by decide +kernel, rfl⟩
theorem dX7_text_50 : dI cX7_text 50 51 (.ireturn) 1 := ⟨by decide +kernel, rfl⟩
theorem dX7_text_51 : dI cX7_text 51 52 (.aload_n 0) 1 := ⟨by decide +kernel, rfl⟩
theorem dX7_text_52 : dI cX7_text 52 55 (.getfield 9) 3 := ⟨by decide +kernel, rfl⟩
theorem dX7_text_55 : dI cX7_text 55 57 (.bipush 7) 2 := ⟨by decide +kernel, rfl⟩
theorem dX7_text_57 : dI cX7_text 57 58 (.iaload) 1 := ⟨by decide +kernel, rfl⟩
theorem dX7_text_58 : dI cX7_text 58 60 (.bipush 14) 2 := ⟨by decide +kernel, rfl⟩
theorem dX7_text_60 : decode cX7_text 60 = .ok (.if_icmp .ne 6, 3) := by decide +kernel
theorem dX7_text_63 : dI cX7_text 63 65 (.ldc 88) 2 := ⟨by decide +kernel, rfl⟩
theorem dX7_text_65 : dI cX7_text 65 66 (.ireturn) 1 := ⟨by decide +kernel, rfl⟩
theorem dX7_text_66 : dI cX7_text 66 67 (.aload_n 0) 1 := ⟨by decide +kernel, rfl⟩
theorem dX7_text_67 : dI cX7_text 67 70 (.getfield 9) 3 := ⟨by decide +kernel, rfl⟩
theorem dX7_text_70 : dI cX7_text 70 72 (.bipush 7) 2 := ⟨by decide +kernel, rfl⟩
theorem dX7_text_72 : dI cX7_text 72 73 (.iaload) 1 := ⟨by decide +kernel, rfl⟩
theorem dX7_text_73 : dI cX7_text 73 74 (.istore_n 2) 1 := ⟨by decide +kernel, rfl⟩
theorem dX7_text_74 : dI cX7_text 74 75 (.aload_n 0) 1 := ⟨by decide +kernel, rfl⟩
theorem dX7_text_75 : dI cX7_text 75 78 (.getfield 9) 3 := ⟨by decide +kernel, rfl⟩
theorem dX7_text_78 : dI cX7_text 78 80 (.bipush 104) 2 := ⟨by decide +kernel, rfl⟩
theorem dX7_text_80 : dI cX7_text 80 81 (.iconst 2) 1 := ⟨by decide +kernel, rfl⟩
theorem dX7_text_81 : dI cX7_text 81 82 (.iload_n 2) 1 := ⟨by decide +kernel, rfl⟩
theorem dX7_text_82 : dI cX7_text 82 83 (.imul) 1 := ⟨by decide +kernel, rfl⟩
theorem dX7_text_83 : dI cX7_text 83 84 (.iadd) 1 := ⟨by decide +kernel, rfl⟩
theorem dX7_text_84 : dI cX7_text 84 87 (.sipush 1000) 3 := ⟨by decide +kernel, rfl⟩
theorem dX7_text_87 : dI cX7_text 87 88 (.aload_n 0) 1 := ⟨by decide +kernel, rfl⟩
theorem dX7_text_88 : dI cX7_text 88 91 (.getfield 235) 3 := ⟨by decide +kernel, rfl⟩
theorem dX7_text_91 : dI cX7_text 91 92 (.imul) 1 := ⟨by decide +kernel, rfl⟩
theorem dX7_text_92 : dI cX7_text 92 93 (.aload_n 0) 1 := ⟨by decide +kernel, rfl⟩
theorem dX7_text_93 : dI cX7_text 93 96 (.getfield 247) 3 := ⟨by decide +kernel, rfl⟩
theorem dX7_text_96 : dI cX7_text 96 97 (.iadd) 1 := ⟨by decide +kernel, rfl⟩
theorem dX7_text_97 : dI cX7_text 97 98 (.iastore) 1 := ⟨by decide +kernel, rfl⟩
theorem dX7_text_98 : dI cX7_text 98 99 (.aload_n 0) 1 := ⟨by decide +kernel, rfl⟩
theorem dX7_text_99 : dI cX7_text 99 102 (.getfield 9) 3 := ⟨by decide +kernel, rfl⟩
theorem dX7_text_102 : dI cX7_text 102 104 (.bipush 104) 2 := ⟨by decide +kernel, rfl⟩
theorem dX7_text_104 : dI cX7_text 104 105 (.iconst 2) 1 := ⟨by decide +kernel, rfl⟩
theorem dX7_text_105 : dI cX7_text 105 106 (.iload_n 2) 1 := ⟨by decide +kernel, rfl⟩
theorem dX7_text_106 : dI cX7_text 106 107 (.imul) 1 := ⟨by decide +kernel, rfl⟩
theorem dX7_text_107 : dI cX7_text 107 108 (.iadd) 1 := ⟨by decide +kernel, rfl⟩
theorem dX7_text_108 : dI cX7_text 108 109 (.iconst 1) 1 := ⟨by decide +kernel, rfl⟩
theorem dX7_text_109 : dI cX7_text 109 110 (.iadd) 1 := ⟨by decide +kernel, rfl⟩
theorem dX7_text_110 : dI cX7_text 110 111 (.aload_n 0) 1 := ⟨by decide +kernel, rfl⟩
theorem dX7_text_111 : dI cX7_text 111 114 (.getfield 253) 3 := ⟨by decide +kernel, rfl⟩
theorem dX7_text_114 : dI cX7_text 114 115 (.iastore) 1 := ⟨by decide +kernel, rfl⟩
theorem dX7_text_115 : dI cX7_text 115 116 (.iconst 0) 1 := ⟨by decide +kernel, rfl⟩
theorem dX7_text_116 : dI cX7_text 116 117 (.istore_n 3) 1 := ⟨by decide +kernel, rfl⟩
theorem dX7_text_117 : dI cX7_text 117 118 (.iload_n 3) 1 := ⟨by decide +kernel, rfl⟩
theorem dX7_text_118 : dI cX7_text 118 119 (.aload_n 0) 1 := ⟨by decide +kernel, rfl⟩
theorem dX7_text_119 : dI cX7_text 119 122 (.getfield 247) 3 := ⟨by decide +kernel, rfl⟩
theorem dX7_text_122 : decode cX7_text 122 = .ok (.if_icmp .ge 30, 3) := by decide +kernel
theorem dX7_text_125 : dI cX7_text 125 126 (.aload_n 0) 1 := ⟨by decide +kernel, rfl⟩
theorem dX7_text_126 : dI cX7_text 126 129 (.getfield 9) 3 := ⟨by decide +kernel, rfl⟩
theorem dX7_text_129 : dI cX7_text 129 132 (.sipush 132) 3 := ⟨by decide +kernel, rfl⟩
theorem dX7_text_132 : dI cX7_text 132 134 (.bipush 96) 2 := ⟨by decide +kernel, rfl⟩
theorem dX7_text_134 : dI cX7_text 134 135 (.iload_n 2) 1 := ⟨by decide +kernel, rfl⟩
theorem dX7_text_135 : dI cX7_text 135 136 (.imul) 1 := ⟨by decide +kernel, rfl⟩
theorem dX7_text_136 : dI cX7_text 136 137 (.iadd) 1 := ⟨by decide +kernel, rfl⟩
theorem dX7_text_137 : dI cX7_text 137 138 (.iload_n 3) 1 := ⟨by decide +kernel, rfl⟩
theorem dX7_text_138 : dI cX7_text 138 139 (.iadd) 1 := ⟨by decide +kernel, rfl⟩
theorem dX7_text_139 : dI cX7_text 139 140 (.aload_n 0) 1 := ⟨by decide +kernel, rfl⟩
theorem dX7_text_140 : dI cX7_text 140 143 (.getfield 35) 3 := ⟨by decide +kernel, rfl⟩
theorem dX7_text_143 : dI cX7_text 143 144 (.iload_n 3) 1 := ⟨by decide +kernel, rfl⟩
theorem dX7_text_144 : dI cX7_text 144 145 (.iaload) 1 := ⟨by decide +kernel, rfl⟩
theorem dX7_text_145 : dI cX7_text 145 146 (.iastore) 1 := ⟨by decide +kernel, rfl⟩
theorem dX7_text_146 : dI cX7_text 146 149 (.iinc 3 1) 3 := ⟨by decide +kernel, rfl⟩
theorem dX7_text_149 : decode cX7_text 149 = .ok (.goto (-32), 3) := by decide +kernel
theorem dX7_text_152 : dI cX7_text 152 153 (.aload_n 0) 1 := ⟨by decide +kernel, rfl⟩
theorem dX7_text_153 : dI cX7_text 153 156 (.getfield 9) 3 := ⟨by decide +kernel, rfl⟩
theorem dX7_text_156 : dI cX7_text 156 158 (.bipush 7) 2 := ⟨by decide +kernel, rfl⟩
theorem dX7_text_158 : dI cX7_text 158 159 (.dup2) 1 := ⟨by decide +kernel, rfl⟩
theorem dX7_text_159 : dI cX7_text 159 160 (.iaload) 1 := ⟨by decide +kernel, rfl⟩
theorem dX7_text_160 : dI cX7_text 160 161 (.iconst 1) 1 := ⟨by decide +kernel, rfl⟩
theorem dX7_text_161 : dI cX7_text 161 162 (.iadd) 1 := ⟨by decide +kernel, rfl⟩
theorem dX7_text_162 : dI cX7_text 162 163 (.iastore) 1 := ⟨by decide +kernel, rfl⟩
theorem dX7_text_163 : dI cX7_text 163 164 (.iload_n 2) 1 := ⟨by decide +kernel, rfl⟩
theorem dX7_text_164 : dI cX7_text 164 165 (.ireturn) 1 := ⟨by decide +kernel, rfl⟩
def f_X7_text_b117 (k117 : Nat → Int32 → Int32 → hS → Option (Int32 × hS)) (l0 : Nat) (l2 : Int32) (l3 : Int32) (s : hS) : Option (Int32 × hS) :=
  (gI s l0 7 17).bind fun x1 =>
  if x1 ≤ l3 then
    (gR s l0 7 0).bind fun a2 =>
    (aI s a2 10 (7 : Int32)).bind fun x3 =>
    (sI s a2 10 (7 : Int32) (x3 + (1 : Int32))).bind fun s4 =>
    some (l2, s4)
  else
    (gR s l0 7 0).bind fun a5 =>
    (gR s l0 7 16).bind fun a6 =>
    (aI s a6 10 l3).bind fun x7 =>
    (sI s a5 10 (((132 : Int32) + ((96 : Int32) * l2)) + l3) x7).bind fun s8 =>
    k117 l0 l2 (l3 + (1 : Int32)) s8
theorem b_X7_text_117 (E : jE) (k117 : Nat → Int32 → Int32 → hS → Option (Int32 × hS)) (h117 : ∀ (s : hS) (l0 : Nat) (l2 : Int32) (l3 : Int32) , Jo E M_X7_text cvI 117 [(0, .ref l0), (2, .int l2), (3, .int l3)] [] s (k117 l0 l2 l3 s)) (s : hS) (l0 : Nat) (l2 : Int32) (l3 : Int32)  : Jo E M_X7_text cvI 117 [(0, .ref l0), (2, .int l2), (3, .int l3)] [] s (f_X7_text_b117 k117 l0 l2 l3 s) := by
  unfold f_X7_text_b117
  refine Jo_iloadn 2 dX7_text_117 rfl rfl ?_
  refine Jo_aloadn 0 dX7_text_118 rfl rfl ?_
  refine Jo_getI fF_7_17 fI_7_17 dX7_text_119 w_889 (fun x1 => ?_)
  refine Jo_icmp_ge 152 dX7_text_122 (by decide) rfl ?_ ?_
  · refine Jo_aloadn 0 dX7_text_152 rfl rfl ?_
    refine Jo_getR fF_7_0 fR_7_0 dX7_text_153 w_598 (fun a2 => ?_)
    refine Jo_bipush (v := (7 : Int32)) dX7_text_156 (by decide) ?_
    refine Jo_dup2 dX7_text_158 rfl rfl ?_
    refine Jo_iaload dX7_text_159 (fun x3 => ?_)
    refine Jo_iconst (v := (1 : Int32)) dX7_text_160 (by decide) ?_
    refine Jo_iadd dX7_text_161 ?_
    refine Jo_iastore dX7_text_162 (fun s4 => ?_)
    refine Jo_iloadn 1 dX7_text_163 rfl rfl ?_
    exact Jo_iret rfl dX7_text_164
  · refine Jo_aloadn 0 dX7_text_125 rfl rfl ?_
    refine Jo_getR fF_7_0 fR_7_0 dX7_text_126 w_598 (fun a5 => ?_)
    refine Jo_sipush (v := (132 : Int32)) dX7_text_129 (by decide) ?_
    refine Jo_bipush (v := (96 : Int32)) dX7_text_132 (by decide) ?_
    refine Jo_iloadn 1 dX7_text_134 rfl rfl ?_
    refine Jo_imul dX7_text_135 ?_
    refine Jo_iadd dX7_text_136 ?_
    refine Jo_iloadn 2 dX7_text_137 rfl rfl ?_
    refine Jo_iadd dX7_text_138 ?_
    refine Jo_aloadn 0 dX7_text_139 rfl rfl ?_
    refine Jo_getR fF_7_16 fR_7_16 dX7_text_140 w_613 (fun a6 => ?_)
    refine Jo_iloadn 2 dX7_text_143 rfl rfl ?_
    refine Jo_iaload dX7_text_144 (fun x7 => ?_)
    refine Jo_iastore dX7_text_145 (fun s8 => ?_)
    refine Jo_iinc (v := (l3 + (1 : Int32))) (ls' := [(3, .int (l3 + (1 : Int32))), (0, .ref l0), (2, .int l2)]) 2 dX7_text_146 rfl rfl (by decide) rfl ?_
    refine Jo_goto 117 dX7_text_149 (by decide) ?_
    refine Jo_sub [1, 2, 0] rfl ?_
    exact h117 s8 l0 l2 (l3 + (1 : Int32))
theorem e_X7_text_117 (E : jE)  (n : Nat) : ∀ (s : hS) (l0 : Nat) (l2 : Int32) (l3 : Int32) , Jo E M_X7_text cvI 117 [(0, .ref l0), (2, .int l2), (3, .int l3)] [] s ((jL f_X7_text_b117 (fun _ _ _ _ => none) n) l0 l2 l3 s) :=
  jL_ind (P := fun f => ∀ (s : hS) (l0 : Nat) (l2 : Int32) (l3 : Int32) , Jo E M_X7_text cvI 117 [(0, .ref l0), (2, .int l2), (3, .int l3)] [] s (f l0 l2 l3 s)) (fun _ _ _ _ => Jo_none) (fun b hb s l0 l2 l3 => b_X7_text_117 E  b hb s l0 l2 l3) n
def f_X7_text_b33 (l0 : Nat) (t0 : Int32) (s : hS) : Option (Int32 × hS) :=
  (pI s l0 7 7 (0 : Int32)).bind fun s1 =>
  if t0 = 0 then
    (gI s1 l0 7 9).bind fun x13 =>
    some (((-100 : Int32) - x13), s1)
  else
    (gR s1 l0 7 0).bind fun a2 =>
    (aI s1 a2 10 (7 : Int32)).bind fun x3 =>
    if x3 = (14 : Int32) then
      some ((-1000000003 : Int32), s1)
    else
      (gR s1 l0 7 0).bind fun a4 =>
      (aI s1 a4 10 (7 : Int32)).bind fun x5 =>
      (gR s1 l0 7 0).bind fun a6 =>
      (gI s1 l0 7 13).bind fun x7 =>
      (gI s1 l0 7 17).bind fun x8 =>
      (sI s1 a6 10 ((104 : Int32) + ((2 : Int32) * x5)) (((1000 : Int32) * x7) + x8)).bind fun s9 =>
      (gR s9 l0 7 0).bind fun a10 =>
      (gI s9 l0 7 18).bind fun x11 =>
      (sI s9 a10 10 (((104 : Int32) + ((2 : Int32) * x5)) + (1 : Int32)) x11).bind fun s12 =>
      jL f_X7_text_b117 (fun _ _ _ _ => none) jF l0 x5 (0 : Int32) s12
theorem b_X7_text_33 (E : jE)  (s : hS) (l0 : Nat) (t0 : Int32) : Jo E M_X7_text cvI 33 [(0, .ref l0)] [.int t0] s (f_X7_text_b33  l0 t0 s) := by
  unfold f_X7_text_b33
  refine Jo_istoren (ls' := [(1, .int t0), (0, .ref l0)]) dX7_text_33 rfl (by decide) rfl ?_
  refine Jo_aloadn 1 dX7_text_34 rfl rfl ?_
  refine Jo_iconst (v := (0 : Int32)) dX7_text_35 (by decide) ?_
  refine Jo_putI fF_7_7 fI_7_7 (Or.inl rfl) rfl dX7_text_36 w_856 (fun s1 => ?_)
  refine Jo_iloadn 0 dX7_text_39 rfl rfl ?_
  refine Jo_if_ne 51 dX7_text_40 (by decide) rfl ?_ ?_
  · refine Jo_bipush (v := (-100 : Int32)) dX7_text_43 (by decide) ?_
    refine Jo_aloadn 1 dX7_text_45 rfl rfl ?_
    refine Jo_getI fF_7_9 fI_7_9 dX7_text_46 w_873 (fun x13 => ?_)
    refine Jo_isub dX7_text_49 ?_
    exact Jo_iret rfl dX7_text_50
  · refine Jo_aloadn 1 dX7_text_51 rfl rfl ?_
    refine Jo_getR fF_7_0 fR_7_0 dX7_text_52 w_598 (fun a2 => ?_)
    refine Jo_bipush (v := (7 : Int32)) dX7_text_55 (by decide) ?_
    refine Jo_iaload dX7_text_57 (fun x3 => ?_)
    refine Jo_bipush (v := (14 : Int32)) dX7_text_58 (by decide) ?_
    refine Jo_icmp_ne 66 dX7_text_60 (by decide) rfl ?_ ?_
    · refine Jo_ldc dX7_text_63 w_672 ?_
      exact Jo_iret rfl dX7_text_65
    · refine Jo_aloadn 1 dX7_text_66 rfl rfl ?_
      refine Jo_getR fF_7_0 fR_7_0 dX7_text_67 w_598 (fun a4 => ?_)
      refine Jo_bipush (v := (7 : Int32)) dX7_text_70 (by decide) ?_
      refine Jo_iaload dX7_text_72 (fun x5 => ?_)
      refine Jo_istoren (ls' := [(2, .int x5), (1, .int t0), (0, .ref l0)]) dX7_text_73 rfl (by decide) rfl ?_
      refine Jo_aloadn 2 dX7_text_74 rfl rfl ?_
      refine Jo_getR fF_7_0 fR_7_0 dX7_text_75 w_598 (fun a6 => ?_)
      refine Jo_bipush (v := (104 : Int32)) dX7_text_78 (by decide) ?_
      refine Jo_iconst (v := (2 : Int32)) dX7_text_80 (by decide) ?_
      refine Jo_iloadn 0 dX7_text_81 rfl rfl ?_
      refine Jo_imul dX7_text_82 ?_
      refine Jo_iadd dX7_text_83 ?_
      refine Jo_sipush (v := (1000 : Int32)) dX7_text_84 (by decide) ?_
      refine Jo_aloadn 2 dX7_text_87 rfl rfl ?_
      refine Jo_getI fF_7_13 fI_7_13 dX7_text_88 w_880 (fun x7 => ?_)
      refine Jo_imul dX7_text_91 ?_
      refine Jo_aloadn 2 dX7_text_92 rfl rfl ?_
      refine Jo_getI fF_7_17 fI_7_17 dX7_text_93 w_889 (fun x8 => ?_)
      refine Jo_iadd dX7_text_96 ?_
      refine Jo_iastore dX7_text_97 (fun s9 => ?_)
      refine Jo_aloadn 2 dX7_text_98 rfl rfl ?_
      refine Jo_getR fF_7_0 fR_7_0 dX7_text_99 w_598 (fun a10 => ?_)
      refine Jo_bipush (v := (104 : Int32)) dX7_text_102 (by decide) ?_
      refine Jo_iconst (v := (2 : Int32)) dX7_text_104 (by decide) ?_
      refine Jo_iloadn 0 dX7_text_105 rfl rfl ?_
      refine Jo_imul dX7_text_106 ?_
      refine Jo_iadd dX7_text_107 ?_
      refine Jo_iconst (v := (1 : Int32)) dX7_text_108 (by decide) ?_
      refine Jo_iadd dX7_text_109 ?_
      refine Jo_aloadn 2 dX7_text_110 rfl rfl ?_
      refine Jo_getI fF_7_18 fI_7_18 dX7_text_111 w_899 (fun x11 => ?_)
      refine Jo_iastore dX7_text_114 (fun s12 => ?_)
      refine Jo_iconst (v := (0 : Int32)) dX7_text_115 (by decide) ?_
      refine Jo_istoren (ls' := [(3, .int (0 : Int32)), (2, .int x5), (1, .int t0), (0, .ref l0)]) dX7_text_116 rfl (by decide) rfl ?_
      refine Jo_sub [3, 1, 0] rfl ?_
      exact e_X7_text_117 E jF s12 l0 x5 (0 : Int32)
def f_X7_text_b32 (l0 : Nat) (s : hS) : Option (Int32 × hS) :=
  f_X7_text_b33 l0 (0 : Int32) s
theorem b_X7_text_32 (E : jE)  (s : hS) (l0 : Nat)  : Jo E M_X7_text cvI 32 [(0, .ref l0)] [] s (f_X7_text_b32  l0 s) := by
  unfold f_X7_text_b32
  refine Jo_iconst (v := (0 : Int32)) dX7_text_32 (by decide) ?_
  exact b_X7_text_33 E s l0 (0 : Int32)
def f_X7_text (s : hS) (a0 : Nat) : Option (Int32 × hS) :=
  (pI s a0 7 8 (0 : Int32)).bind fun s1 =>
  (pI s1 a0 7 12 (-1 : Int32)).bind fun s2 =>
  (cV s2 a0 7 (f_X7_go s2 a0)).bind fun p3 =>
  (cV p3.2 a0 7 (f_X7_takesKey p3.2 a0)).bind fun p4 =>
  if p4.1 = 0 then
    f_X7_text_b32 a0 p4.2
  else
    (cV p4.2 a0 7 (f_X7_takesE p4.2 a0)).bind fun p5 =>
    if p5.1 = 0 then
      f_X7_text_b32 a0 p5.2
    else
      f_X7_text_b33 a0 (1 : Int32) p5.2
theorem b_X7_text_in (E : jE)  (s : hS) (a0 : Nat)  : Jo E M_X7_text cvI 0 [(0, .ref a0)] [] s (f_X7_text s a0) := by
  unfold f_X7_text
  refine Jo_aloadn 0 dX7_text_0 rfl rfl ?_
  refine Jo_iconst (v := (0 : Int32)) dX7_text_1 (by decide) ?_
  refine Jo_putI fF_7_8 fI_7_8 (Or.inl rfl) rfl dX7_text_2 w_870 (fun s1 => ?_)
  refine Jo_aloadn 0 dX7_text_5 rfl rfl ?_
  refine Jo_iconst (v := (-1 : Int32)) dX7_text_6 (by decide) ?_
  refine Jo_putI fF_7_12 fI_7_12 (Or.inl rfl) rfl dX7_text_7 w_869 (fun s2 => ?_)
  refine Jo_aloadn 0 dX7_text_10 rfl rfl ?_
  refine Jo_callVv (a := a0) (rest := []) [] cc_7 yF_X7_go yV_X7_go w_879 rfl rfl ⟨Nat.le_of_ble_eq_true rfl, Nat.le_of_ble_eq_true rfl, Nat.le_of_ble_eq_true rfl⟩ dX7_text_11 rfl (K_X7_go E s2 a0) (fun p3 => ?_)
  refine Jo_aloadn 0 dX7_text_14 rfl rfl ?_
  refine Jo_callVi (a := a0) (rest := []) [] cc_7 yF_X7_takesKey yV_X7_takesKey w_914 rfl rfl ⟨Nat.le_of_ble_eq_true rfl, Nat.le_of_ble_eq_true rfl, Nat.le_of_ble_eq_true rfl⟩ dX7_text_15 rfl (K_X7_takesKey E p3.2 a0) (fun p4 => ?_)
  refine Jo_if_eq 32 dX7_text_18 (by decide) rfl ?_ ?_
  · exact b_X7_text_32 E p4.2 a0
  · refine Jo_aloadn 0 dX7_text_21 rfl rfl ?_
    refine Jo_callVi (a := a0) (rest := []) [] cc_7 yF_X7_takesE yV_X7_takesE w_913 rfl rfl ⟨Nat.le_of_ble_eq_true rfl, Nat.le_of_ble_eq_true rfl, Nat.le_of_ble_eq_true rfl⟩ dX7_text_22 rfl (K_X7_takesE E p4.2 a0) (fun p5 => ?_)
    refine Jo_if_eq 32 dX7_text_25 (by decide) rfl ?_ ?_
    · exact b_X7_text_32 E p5.2 a0
    · refine Jo_iconst (v := (1 : Int32)) dX7_text_28 (by decide) ?_
      refine Jo_goto 33 dX7_text_29 (by decide) ?_
      exact b_X7_text_33 E p5.2 a0 (1 : Int32)
theorem K_X7_text (E : jE) (s : hS) (a0 : Nat) : jK E yX7_text M_X7_text cvI [.ref a0] s (f_X7_text s a0) := jK_of ⟨by decide, rfl, rfl⟩ (Nat.le_of_ble_eq_true rfl) (b_X7_text_in E s a0)
