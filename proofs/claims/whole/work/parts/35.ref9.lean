/-! HeronTalkModel.go()V -/
abbrev M_X7_go : jM := (RX7, cX7_go, 2, (none : Option Jvm.ClassFile.FieldType), "go", 1, 21)
theorem yF_X7_go : yF yX7_go M_X7_go 0 := ⟨w_876, w_624, by decide +kernel⟩
theorem yV_X7_go : Cond.instanceMethod yX7_go ∈ tbG ∧ Cond.selects yX7_go.cls yX7_go yX7_go ∈ tbG := ⟨w_877, w_878⟩
theorem dX7_go_0 : dI cX7_go 0 1 (.aload_n 0) 1 := ⟨by decide +kernel, rfl⟩
theorem dX7_go_1 : dI cX7_go 1 4 (.getfield 214) 3 := ⟨by decide +kernel, rfl⟩
theorem dX7_go_4 : dI cX7_go 4 5 (.aload_n 0) 1 := ⟨by decide +kernel, rfl⟩
theorem dX7_go_5 : dI cX7_go 5 8 (.getfield 210) 3 := ⟨by decide +kernel, rfl⟩
theorem dX7_go_8 : decode cX7_go 8 = .ok (.if_icmp .ge 30, 3) := by decide +kernel
theorem dX7_go_11 : dI cX7_go 11 12 (.aload_n 0) 1 := ⟨by decide +kernel, rfl⟩
theorem dX7_go_12 : dI cX7_go 12 15 (.getfield 25) 3 := ⟨by decide +kernel, rfl⟩
theorem dX7_go_15 : dI cX7_go 15 16 (.aload_n 0) 1 := ⟨by decide +kernel, rfl⟩
theorem dX7_go_16 : dI cX7_go 16 19 (.getfield 214) 3 := ⟨by decide +kernel, rfl⟩
theorem dX7_go_19 : dI cX7_go 19 20 (.iaload) 1 := ⟨by decide +kernel, rfl⟩
theorem dX7_go_20 : dI cX7_go 20 22 (.bipush 32) 2 := ⟨by decide +kernel, rfl⟩
theorem dX7_go_22 : decode cX7_go 22 = .ok (.if_icmp .ne 16, 3) := by decide +kernel
theorem dX7_go_25 : dI cX7_go 25 26 (.aload_n 0) 1 := ⟨by decide +kernel, rfl⟩
theorem dX7_go_26 : dI cX7_go 26 27 (.dup) 1 := ⟨by decide +kernel, rfl⟩
theorem dX7_go_27 : dI cX7_go 27 30 (.getfield 214) 3 := ⟨by decide +kernel, rfl⟩
theorem dX7_go_30 : dI cX7_go 30 31 (.iconst 1) 1 := ⟨by decide +kernel, rfl⟩
theorem dX7_go_31 : dI cX7_go 31 32 (.iadd) 1 := ⟨by decide +kernel, rfl⟩
theorem dX7_go_32 : dI cX7_go 32 35 (.putfield 214) 3 := ⟨by decide +kernel, rfl⟩
theorem dX7_go_35 : decode cX7_go 35 = .ok (.goto (-35), 3) := by decide +kernel
theorem dX7_go_38 : dI cX7_go 38 39 (.aload_n 0) 1 := ⟨by decide +kernel, rfl⟩
theorem dX7_go_39 : dI cX7_go 39 40 (.aload_n 0) 1 := ⟨by decide +kernel, rfl⟩
theorem dX7_go_40 : dI cX7_go 40 43 (.getfield 214) 3 := ⟨by decide +kernel, rfl⟩
theorem dX7_go_43 : dI cX7_go 43 46 (.putfield 217) 3 := ⟨by decide +kernel, rfl⟩
theorem dX7_go_46 : dI cX7_go 46 47 (.aload_n 0) 1 := ⟨by decide +kernel, rfl⟩
theorem dX7_go_47 : dI cX7_go 47 50 (.getfield 217) 3 := ⟨by decide +kernel, rfl⟩
theorem dX7_go_50 : dI cX7_go 50 51 (.aload_n 0) 1 := ⟨by decide +kernel, rfl⟩
theorem dX7_go_51 : dI cX7_go 51 54 (.getfield 220) 3 := ⟨by decide +kernel, rfl⟩
theorem dX7_go_54 : decode cX7_go 54 = .ok (.if_icmp .ne 7, 3) := by decide +kernel
theorem dX7_go_57 : dI cX7_go 57 58 (.iconst 1) 1 := ⟨by decide +kernel, rfl⟩
theorem dX7_go_58 : decode cX7_go 58 = .ok (.goto 4, 3) := by decide +kernel
theorem dX7_go_61 : dI cX7_go 61 62 (.iconst 0) 1 := ⟨by decide +kernel, rfl⟩
theorem dX7_go_62 : dI cX7_go 62 63 (.istore_n 1) 1 := ⟨by decide +kernel, rfl⟩
theorem dX7_go_63 : dI cX7_go 63 64 (.aload_n 0) 1 := ⟨by decide +kernel, rfl⟩
theorem dX7_go_64 : dI cX7_go 64 67 (.getfield 217) 3 := ⟨by decide +kernel, rfl⟩
theorem dX7_go_67 : dI cX7_go 67 68 (.aload_n 0) 1 := ⟨by decide +kernel, rfl⟩
theorem dX7_go_68 : dI cX7_go 68 71 (.getfield 210) 3 := ⟨by decide +kernel, rfl⟩
theorem dX7_go_71 : decode cX7_go 71 = .ok (.if_icmp .ne 11, 3) := by decide +kernel
theorem dX7_go_74 : dI cX7_go 74 75 (.aload_n 0) 1 := ⟨by decide +kernel, rfl⟩
theorem dX7_go_75 : dI cX7_go 75 76 (.iconst 0) 1 := ⟨by decide +kernel, rfl⟩
theorem dX7_go_76 : dI cX7_go 76 79 (.putfield 223) 3 := ⟨by decide +kernel, rfl⟩
theorem dX7_go_79 : decode cX7_go 79 = .ok (.goto 224, 3) := by decide +kernel
theorem dX7_go_82 : dI cX7_go 82 83 (.aload_n 0) 1 := ⟨by decide +kernel, rfl⟩
theorem dX7_go_83 : dI cX7_go 83 84 (.aload_n 0) 1 := ⟨by decide +kernel, rfl⟩
theorem dX7_go_84 : dI cX7_go 84 87 (.getfield 217) 3 := ⟨by decide +kernel, rfl⟩
theorem dX7_go_87 : decode cX7_go 87 = .ok (.invokevirtual 226, 3) := by decide +kernel
theorem dX7_go_90 : decode cX7_go 90 = .ok (.ifCond .eq 64, 3) := by decide +kernel
theorem dX7_go_93 : dI cX7_go 93 94 (.aload_n 0) 1 := ⟨by decide +kernel, rfl⟩
theorem dX7_go_94 : dI cX7_go 94 95 (.aload_n 0) 1 := ⟨by decide +kernel, rfl⟩
theorem dX7_go_95 : dI cX7_go 95 98 (.getfield 214) 3 := ⟨by decide +kernel, rfl⟩
theorem dX7_go_98 : decode cX7_go 98 = .ok (.invokevirtual 226, 3) := by decide +kernel
theorem dX7_go_101 : decode cX7_go 101 = .ok (.ifCond .eq 16, 3) := by decide +kernel
theorem dX7_go_104 : dI cX7_go 104 105 (.aload_n 0) 1 := ⟨by decide +kernel, rfl⟩
theorem dX7_go_105 : dI cX7_go 105 106 (.dup) 1 := ⟨by decide +kernel, rfl⟩
theorem dX7_go_106 : dI cX7_go 106 109 (.getfield 214) 3 := ⟨by decide +kernel, rfl⟩
theorem dX7_go_109 : dI cX7_go 109 110 (.iconst 1) 1 := ⟨by decide +kernel, rfl⟩
theorem dX7_go_110 : dI cX7_go 110 111 (.iadd) 1 := ⟨by decide +kernel, rfl⟩
theorem dX7_go_111 : dI cX7_go 111 114 (.putfield 214) 3 := ⟨by decide +kernel, rfl⟩
theorem dX7_go_114 : decode cX7_go 114 = .ok (.goto (-21), 3) := by decide +kernel
theorem dX7_go_117 : dI cX7_go 117 118 (.aload_n 0) 1 := ⟨by decide +kernel, rfl⟩
theorem dX7_go_118 : dI cX7_go 118 119 (.iload_n 1) 1 := ⟨by decide +kernel, rfl⟩
theorem dX7_go_119 : decode cX7_go 119 = .ok (.ifCond .eq 7, 3) := by decide +kernel
theorem dX7_go_122 : dI cX7_go 122 123 (.iconst 4) 1 := ⟨by decide +kernel, rfl⟩
theorem dX7_go_123 : decode cX7_go 123 = .ok (.goto 4, 3) := by decide +kernel
theorem dX7_go_126 : dI cX7_go 126 127 (.iconst 1) 1 := ⟨by decide +kernel, rfl⟩
theorem dX7_go_127 : dI cX7_go 127 130 (.putfield 223) 3 := ⟨by decide +kernel, rfl⟩
theorem dX7_go_130 : dI cX7_go 130 131 (.aload_n 0) 1 := ⟨by decide +kernel, rfl⟩
theorem dX7_go_131 : dI cX7_go 131 132 (.aload_n 0) 1 := ⟨by decide +kernel, rfl⟩
theorem dX7_go_132 : dI cX7_go 132 135 (.getfield 25) 3 := ⟨by decide +kernel, rfl⟩
theorem dX7_go_135 : dI cX7_go 135 136 (.aload_n 0) 1 := ⟨by decide +kernel, rfl⟩
theorem dX7_go_136 : dI cX7_go 136 139 (.getfield 217) 3 := ⟨by decide +kernel, rfl⟩
theorem dX7_go_139 : dI cX7_go 139 140 (.iaload) 1 := ⟨by decide +kernel, rfl⟩
theorem dX7_go_140 : dI cX7_go 140 143 (.putfield 229) 3 := ⟨by decide +kernel, rfl⟩
theorem dX7_go_143 : dI cX7_go 143 144 (.aload_n 0) 1 := ⟨by decide +kernel, rfl⟩
theorem dX7_go_144 : dI cX7_go 144 145 (.aload_n 0) 1 := ⟨by decide +kernel, rfl⟩
theorem dX7_go_145 : dI cX7_go 145 148 (.getfield 214) 3 := ⟨by decide +kernel, rfl⟩
theorem dX7_go_148 : dI cX7_go 148 151 (.putfield 220) 3 := ⟨by decide +kernel, rfl⟩
theorem dX7_go_151 : decode cX7_go 151 = .ok (.goto 152, 3) := by decide +kernel
theorem dX7_go_154 : dI cX7_go 154 155 (.aload_n 0) 1 := ⟨by decide +kernel, rfl⟩
theorem dX7_go_155 : dI cX7_go 155 156 (.aload_n 0) 1 := ⟨by decide +kernel, rfl⟩
theorem dX7_go_156 : dI cX7_go 156 159 (.getfield 217) 3 := ⟨by decide +kernel, rfl⟩
theorem dX7_go_159 : decode cX7_go 159 = .ok (.invokevirtual 232, 3) := by decide +kernel
theorem dX7_go_162 : decode cX7_go 162 = .ok (.ifCond .eq 113, 3) := by decide +kernel
theorem dX7_go_165 : dI cX7_go 165 166 (.aload_n 0) 1 := ⟨by decide +kernel, rfl⟩
theorem dX7_go_166 : dI cX7_go 166 167 (.iconst 0) 1 := ⟨by decide +kernel, rfl⟩
theorem dX7_go_167 : dI cX7_go 167 170 (.putfield 229) 3 := ⟨by decide +kernel, rfl⟩
theorem dX7_go_170 : dI cX7_go 170 171 (.aload_n 0) 1 := ⟨by decide +kernel, rfl⟩
theorem dX7_go_171 : dI cX7_go 171 172 (.aload_n 0) 1 := ⟨by decide +kernel, rfl⟩
theorem dX7_go_172 : dI cX7_go 172 175 (.getfield 214) 3 := ⟨by decide +kernel, rfl⟩
theorem dX7_go_175 : decode cX7_go 175 = .ok (.invokevirtual 232, 3) := by decide +kernel
theorem dX7_go_178 : decode cX7_go 178 = .ok (.ifCond .eq 60, 3) := by decide +kernel
theorem dX7_go_181 : dI cX7_go 181 182 (.aload_n 0) 1 := ⟨by decide +kernel, rfl⟩
theorem dX7_go_182 : dI cX7_go 182 183 (.aload_n 0) 1 := ⟨by decide +kernel, rfl⟩
theorem dX7_go_183 : dI cX7_go 183 186 (.getfield 214) 3 := ⟨by decide +kernel, rfl⟩
theorem dX7_go_186 : dI cX7_go 186 187 (.aload_n 0) 1 := ⟨by decide +kernel, rfl⟩
theorem dX7_go_187 : dI cX7_go 187 190 (.getfield 217) 3 := ⟨by decide +kernel, rfl⟩
theorem dX7_go_190 : dI cX7_go 190 191 (.isub) 1 := ⟨by decide +kernel, rfl⟩
theorem dX7_go_191 : dI cX7_go 191 192 (.iconst 4) 1 := ⟨by decide +kernel, rfl⟩
theorem dX7_go_192 : decode cX7_go 192 = .ok (.if_icmp .ge 26, 3) := by decide +kernel
theorem dX7_go_195 : dI cX7_go 195 197 (.bipush 10) 2 := ⟨by decide +kernel, rfl⟩
theorem dX7_go_197 : dI cX7_go 197 198 (.aload_n 0) 1 := ⟨by decide +kernel, rfl⟩
theorem dX7_go_198 : dI cX7_go 198 201 (.getfield 229) 3 := ⟨by decide +kernel, rfl⟩
theorem dX7_go_201 : dI cX7_go 201 202 (.imul) 1 := ⟨by decide +kernel, rfl⟩
theorem dX7_go_202 : dI cX7_go 202 203 (.aload_n 0) 1 := ⟨by decide +kernel, rfl⟩
theorem dX7_go_203 : dI cX7_go 203 206 (.getfield 25) 3 := ⟨by decide +kernel, rfl⟩
theorem dX7_go_206 : dI cX7_go 206 207 (.aload_n 0) 1 := ⟨by decide +kernel, rfl⟩
theorem dX7_go_207 : dI cX7_go 207 210 (.getfield 214) 3 := ⟨by decide +kernel, rfl⟩
theorem dX7_go_210 : dI cX7_go 210 211 (.iaload) 1 := ⟨by decide +kernel, rfl⟩
theorem dX7_go_211 : dI cX7_go 211 212 (.iadd) 1 := ⟨by decide +kernel, rfl⟩
theorem dX7_go_212 : dI cX7_go 212 214 (.bipush 48) 2 := ⟨by decide +kernel, rfl⟩
theorem dX7_go_214 : dI cX7_go 214 215 (.isub) 1 := ⟨by decide +kernel, rfl⟩
theorem dX7_go_215 : decode cX7_go 215 = .ok (.goto 7, 3) := by decide +kernel
theorem dX7_go_218 : dI cX7_go 218 219 (.aload_n 0) 1 := ⟨by decide +kernel, rfl⟩
theorem dX7_go_219 : dI cX7_go 219 222 (.getfield 229) 3 := ⟨by decide +kernel, rfl⟩
theorem dX7_go_222 : dI cX7_go 222 225 (.putfield 229) 3 := ⟨by decide +kernel, rfl⟩
theorem dX7_go_225 : dI cX7_go 225 226 (.aload_n 0) 1 := ⟨by decide +kernel, rfl⟩
theorem dX7_go_226 : dI cX7_go 226 227 (.dup) 1 := ⟨by decide +kernel, rfl⟩
theorem dX7_go_227 : dI cX7_go 227 230 (.getfield 214) 3 := ⟨by decide +kernel, rfl⟩
theorem dX7_go_230 : dI cX7_go 230 231 (.iconst 1) 1 := ⟨by decide +kernel, rfl⟩
theorem dX7_go_231 : dI cX7_go 231 232 (.iadd) 1 := ⟨by decide +kernel, rfl⟩
theorem dX7_go_232 : dI cX7_go 232 235 (.putfield 214) 3 := ⟨by decide +kernel, rfl⟩
theorem dX7_go_235 : decode cX7_go 235 = .ok (.goto (-65), 3) := by decide +kernel
theorem dX7_go_238 : dI cX7_go 238 239 (.aload_n 0) 1 := ⟨by decide +kernel, rfl⟩
theorem dX7_go_239 : dI cX7_go 239 240 (.iload_n 1) 1 := ⟨by decide +kernel, rfl⟩
theorem dX7_go_240 : decode cX7_go 240 = .ok (.ifCond .ne 16, 3) := by decide +kernel
theorem dX7_go_243 : dI cX7_go 243 244 (.aload_n 0) 1 := ⟨by decide +kernel, rfl⟩
theorem dX7_go_244 : dI cX7_go 244 247 (.getfield 214) 3 := ⟨by decide +kernel, rfl⟩
theorem dX7_go_247 : dI cX7_go 247 248 (.aload_n 0) 1 := ⟨by decide +kernel, rfl⟩
theorem dX7_go_248 : dI cX7_go 248 251 (.getfield 217) 3 := ⟨by decide +kernel, rfl⟩
theorem dX7_go_251 : dI cX7_go 251 252 (.isub) 1 := ⟨by decide +kernel, rfl⟩
theorem dX7_go_252 : dI cX7_go 252 253 (.iconst 4) 1 := ⟨by decide +kernel, rfl⟩
theorem dX7_go_253 : decode cX7_go 253 = .ok (.if_icmp .le 7, 3) := by decide +kernel
theorem dX7_go_256 : dI cX7_go 256 257 (.iconst 4) 1 := ⟨by decide +kernel, rfl⟩
theorem dX7_go_257 : decode cX7_go 257 = .ok (.goto 4, 3) := by decide +kernel
theorem dX7_go_260 : dI cX7_go 260 261 (.iconst 2) 1 := ⟨by decide +kernel, rfl⟩
theorem dX7_go_261 : dI cX7_go 261 264 (.putfield 223) 3 := ⟨by decide +kernel, rfl⟩
theorem dX7_go_264 : dI cX7_go 264 265 (.aload_n 0) 1 := ⟨by decide +kernel, rfl⟩
theorem dX7_go_265 : dI cX7_go 265 266 (.aload_n 0) 1 := ⟨by decide +kernel, rfl⟩
theorem dX7_go_266 : dI cX7_go 266 269 (.getfield 214) 3 := ⟨by decide +kernel, rfl⟩
theorem dX7_go_269 : dI cX7_go 269 272 (.putfield 220) 3 := ⟨by decide +kernel, rfl⟩
theorem dX7_go_272 : decode cX7_go 272 = .ok (.goto 31, 3) := by decide +kernel
theorem dX7_go_275 : dI cX7_go 275 276 (.aload_n 0) 1 := ⟨by decide +kernel, rfl⟩
theorem dX7_go_276 : dI cX7_go 276 277 (.iconst 3) 1 := ⟨by decide +kernel, rfl⟩
theorem dX7_go_277 : dI cX7_go 277 280 (.putfield 223) 3 := ⟨by decide +kernel, rfl⟩
theorem dX7_go_280 : dI cX7_go 280 281 (.aload_n 0) 1 := ⟨by decide +kernel, rfl⟩
theorem dX7_go_281 : dI cX7_go 281 282 (.aload_n 0) 1 := ⟨by decide +kernel, rfl⟩
theorem dX7_go_282 : dI cX7_go 282 285 (.getfield 25) 3 := ⟨by decide +kernel, rfl⟩
theorem dX7_go_285 : dI cX7_go 285 286 (.aload_n 0) 1 := ⟨by decide +kernel, rfl⟩
theorem dX7_go_286 : dI cX7_go 286 289 (.getfield 217) 3 := ⟨by decide +kernel, rfl⟩
theorem dX7_go_289 : dI cX7_go 289 290 (.iaload) 1 := ⟨by decide +kernel, rfl⟩
theorem dX7_go_290 : dI cX7_go 290 293 (.putfield 229) 3 := ⟨by decide +kernel, rfl⟩
theorem dX7_go_293 : dI cX7_go 293 294 (.aload_n 0) 1 := ⟨by decide +kernel, rfl⟩
theorem dX7_go_294 : dI cX7_go 294 295 (.dup) 1 := ⟨by decide +kernel, rfl⟩
theorem dX7_go_295 : dI cX7_go 295 298 (.getfield 214) 3 := ⟨by decide +kernel, rfl⟩
theorem dX7_go_298 : dI cX7_go 298 299 (.iconst 1) 1 := ⟨by decide +kernel, rfl⟩
theorem dX7_go_299 : dI cX7_go 299 300 (.iadd) 1 := ⟨by decide +kernel, rfl⟩
theorem dX7_go_300 : dI cX7_go 300 303 (.putfield 214) 3 := ⟨by decide +kernel, rfl⟩
theorem dX7_go_303 : dI cX7_go 303 304 (.return_) 1 := ⟨by decide +kernel, rfl⟩
def f_X7_go_b261 (l0 : Nat) (t0 : Nat) (t1 : Int32) (s : hS) : Option (Unit × hS) :=
  (pI s t0 7 10 t1).bind fun s1 =>
  (gI s1 l0 7 8).bind fun x2 =>
  (pI s1 l0 7 12 x2).bind fun s3 =>
  some ((), s3)
theorem b_X7_go_261 (E : jE)  (s : hS) (l0 : Nat) (t0 : Nat) (t1 : Int32) : Jo E M_X7_go cvV 261 [(0, .ref l0)] [.int t1, .ref t0] s (f_X7_go_b261  l0 t0 t1 s) := by
  unfold f_X7_go_b261
  refine Jo_putI fF_7_10 fI_7_10 (Or.inl rfl) rfl dX7_go_261 w_871 (fun s1 => ?_)
  refine Jo_aloadn 0 dX7_go_264 rfl rfl ?_
  refine Jo_aloadn 0 dX7_go_265 rfl rfl ?_
  refine Jo_getI fF_7_8 fI_7_8 dX7_go_266 w_870 (fun x2 => ?_)
  refine Jo_putI fF_7_12 fI_7_12 (Or.inl rfl) rfl dX7_go_269 w_869 (fun s3 => ?_)
  refine Jo_goto 303 dX7_go_272 (by decide) ?_
  exact Jo_vret rfl dX7_go_303
def f_X7_go_b256 (l0 : Nat) (t0 : Nat) (s : hS) : Option (Unit × hS) :=
  f_X7_go_b261 l0 t0 (4 : Int32) s
theorem b_X7_go_256 (E : jE)  (s : hS) (l0 : Nat) (t0 : Nat) : Jo E M_X7_go cvV 256 [(0, .ref l0)] [.ref t0] s (f_X7_go_b256  l0 t0 s) := by
  unfold f_X7_go_b256
  refine Jo_iconst (v := (4 : Int32)) dX7_go_256 (by decide) ?_
  refine Jo_goto 261 dX7_go_257 (by decide) ?_
  exact b_X7_go_261 E s l0 t0 (4 : Int32)
def f_X7_go_b222 (k170 : Nat → Int32 → hS → Option (Unit × hS)) (l0 : Nat) (l1 : Int32) (t0 : Nat) (t1 : Int32) (s : hS) : Option (Unit × hS) :=
  (pI s t0 7 11 t1).bind fun s1 =>
  (gI s1 l0 7 8).bind fun x2 =>
  (pI s1 l0 7 8 (x2 + (1 : Int32))).bind fun s3 =>
  k170 l0 l1 s3
theorem b_X7_go_222 (E : jE) (k170 : Nat → Int32 → hS → Option (Unit × hS)) (h170 : ∀ (s : hS) (l0 : Nat) (l1 : Int32) , Jo E M_X7_go cvV 170 [(0, .ref l0), (1, .int l1)] [] s (k170 l0 l1 s)) (s : hS) (l0 : Nat) (l1 : Int32) (t0 : Nat) (t1 : Int32) : Jo E M_X7_go cvV 222 [(0, .ref l0), (1, .int l1)] [.int t1, .ref t0] s (f_X7_go_b222 k170 l0 l1 t0 t1 s) := by
  unfold f_X7_go_b222
  refine Jo_putI fF_7_11 fI_7_11 (Or.inl rfl) rfl dX7_go_222 w_872 (fun s1 => ?_)
  refine Jo_aloadn 0 dX7_go_225 rfl rfl ?_
  refine Jo_dup dX7_go_226 rfl ?_
  refine Jo_getI fF_7_8 fI_7_8 dX7_go_227 w_870 (fun x2 => ?_)
  refine Jo_iconst (v := (1 : Int32)) dX7_go_230 (by decide) ?_
  refine Jo_iadd dX7_go_231 ?_
  refine Jo_putI fF_7_8 fI_7_8 (Or.inl rfl) rfl dX7_go_232 w_870 (fun s3 => ?_)
  refine Jo_goto 170 dX7_go_235 (by decide) ?_
  exact h170 s3 l0 l1
def f_X7_go_b170 (k170 : Nat → Int32 → hS → Option (Unit × hS)) (l0 : Nat) (l1 : Int32) (s : hS) : Option (Unit × hS) :=
  (gI s l0 7 8).bind fun x1 =>
  (cV s l0 7 (f_X7_isFigure s l0 x1)).bind fun p2 =>
  if p2.1 = 0 then
    if l1 = 0 then
      (gI p2.2 l0 7 8).bind fun x3 =>
      (gI p2.2 l0 7 9).bind fun x4 =>
      if (x3 - x4) ≤ (4 : Int32) then
        f_X7_go_b261 l0 l0 (2 : Int32) p2.2
      else
        f_X7_go_b256 l0 l0 p2.2
    else
      f_X7_go_b256 l0 l0 p2.2
  else
    (gI p2.2 l0 7 8).bind fun x5 =>
    (gI p2.2 l0 7 9).bind fun x6 =>
    if (4 : Int32) ≤ (x5 - x6) then
      (gI p2.2 l0 7 11).bind fun x7 =>
      f_X7_go_b222 k170 l0 l1 l0 x7 p2.2
    else
      (gI p2.2 l0 7 11).bind fun x8 =>
      (gR p2.2 l0 7 6).bind fun a9 =>
      (gI p2.2 l0 7 8).bind fun x10 =>
      (aI p2.2 a9 10 x10).bind fun x11 =>
      f_X7_go_b222 k170 l0 l1 l0 ((((10 : Int32) * x8) + x11) - (48 : Int32)) p2.2
theorem b_X7_go_170 (E : jE) (k170 : Nat → Int32 → hS → Option (Unit × hS)) (h170 : ∀ (s : hS) (l0 : Nat) (l1 : Int32) , Jo E M_X7_go cvV 170 [(0, .ref l0), (1, .int l1)] [] s (k170 l0 l1 s)) (s : hS) (l0 : Nat) (l1 : Int32)  : Jo E M_X7_go cvV 170 [(0, .ref l0), (1, .int l1)] [] s (f_X7_go_b170 k170 l0 l1 s) := by
  unfold f_X7_go_b170
  refine Jo_aloadn 0 dX7_go_170 rfl rfl ?_
  refine Jo_aloadn 0 dX7_go_171 rfl rfl ?_
  refine Jo_getI fF_7_8 fI_7_8 dX7_go_172 w_870 (fun x1 => ?_)
  refine Jo_callVi (a := l0) (rest := []) [.int x1] cc_7 yF_X7_isFigure yV_X7_isFigure w_874 rfl rfl ⟨Nat.le_of_ble_eq_true rfl, Nat.le_of_ble_eq_true rfl, Nat.le_of_ble_eq_true rfl⟩ dX7_go_175 rfl (K_X7_isFigure E s l0 x1) (fun p2 => ?_)
  refine Jo_if_eq 238 dX7_go_178 (by decide) rfl ?_ ?_
  · refine Jo_aloadn 0 dX7_go_238 rfl rfl ?_
    refine Jo_iloadn 1 dX7_go_239 rfl rfl ?_
    refine Jo_if_ne 256 dX7_go_240 (by decide) rfl ?_ ?_
    · refine Jo_aloadn 0 dX7_go_243 rfl rfl ?_
      refine Jo_getI fF_7_8 fI_7_8 dX7_go_244 w_870 (fun x3 => ?_)
      refine Jo_aloadn 0 dX7_go_247 rfl rfl ?_
      refine Jo_getI fF_7_9 fI_7_9 dX7_go_248 w_873 (fun x4 => ?_)
      refine Jo_isub dX7_go_251 ?_
      refine Jo_iconst (v := (4 : Int32)) dX7_go_252 (by decide) ?_
      refine Jo_icmp_le 260 dX7_go_253 (by decide) rfl ?_ ?_
      · refine Jo_iconst (v := (2 : Int32)) dX7_go_260 (by decide) ?_
        refine Jo_sub [0] rfl ?_
        exact b_X7_go_261 E p2.2 l0 l0 (2 : Int32)
      · refine Jo_sub [0] rfl ?_
        exact b_X7_go_256 E p2.2 l0 l0
    · refine Jo_sub [0] rfl ?_
      exact b_X7_go_256 E p2.2 l0 l0
  · refine Jo_aloadn 0 dX7_go_181 rfl rfl ?_
    refine Jo_aloadn 0 dX7_go_182 rfl rfl ?_
    refine Jo_getI fF_7_8 fI_7_8 dX7_go_183 w_870 (fun x5 => ?_)
    refine Jo_aloadn 0 dX7_go_186 rfl rfl ?_
    refine Jo_getI fF_7_9 fI_7_9 dX7_go_187 w_873 (fun x6 => ?_)
    refine Jo_isub dX7_go_190 ?_
    refine Jo_iconst (v := (4 : Int32)) dX7_go_191 (by decide) ?_
    refine Jo_icmp_ge 218 dX7_go_192 (by decide) rfl ?_ ?_
    · refine Jo_aloadn 0 dX7_go_218 rfl rfl ?_
      refine Jo_getI fF_7_11 fI_7_11 dX7_go_219 w_872 (fun x7 => ?_)
      exact b_X7_go_222 E k170 h170 p2.2 l0 l1 l0 x7
    · refine Jo_bipush (v := (10 : Int32)) dX7_go_195 (by decide) ?_
      refine Jo_aloadn 0 dX7_go_197 rfl rfl ?_
      refine Jo_getI fF_7_11 fI_7_11 dX7_go_198 w_872 (fun x8 => ?_)
      refine Jo_imul dX7_go_201 ?_
      refine Jo_aloadn 0 dX7_go_202 rfl rfl ?_
      refine Jo_getR fF_7_6 fR_7_6 dX7_go_203 w_617 (fun a9 => ?_)
      refine Jo_aloadn 0 dX7_go_206 rfl rfl ?_
      refine Jo_getI fF_7_8 fI_7_8 dX7_go_207 w_870 (fun x10 => ?_)
      refine Jo_iaload dX7_go_210 (fun x11 => ?_)
      refine Jo_iadd dX7_go_211 ?_
      refine Jo_bipush (v := (48 : Int32)) dX7_go_212 (by decide) ?_
      refine Jo_isub dX7_go_214 ?_
      refine Jo_goto 222 dX7_go_215 (by decide) ?_
      exact b_X7_go_222 E k170 h170 p2.2 l0 l1 l0 ((((10 : Int32) * x8) + x11) - (48 : Int32))
theorem e_X7_go_170 (E : jE)  (n : Nat) : ∀ (s : hS) (l0 : Nat) (l1 : Int32) , Jo E M_X7_go cvV 170 [(0, .ref l0), (1, .int l1)] [] s ((jL f_X7_go_b170 (fun _ _ _ => none) n) l0 l1 s) :=
  jL_ind (P := fun f => ∀ (s : hS) (l0 : Nat) (l1 : Int32) , Jo E M_X7_go cvV 170 [(0, .ref l0), (1, .int l1)] [] s (f l0 l1 s)) (fun _ _ _ => Jo_none) (fun b hb s l0 l1 => b_X7_go_170 E  b hb s l0 l1) n
def f_X7_go_b127 (l0 : Nat) (t0 : Nat) (t1 : Int32) (s : hS) : Option (Unit × hS) :=
  (pI s t0 7 10 t1).bind fun s1 =>
  (gR s1 l0 7 6).bind fun a2 =>
  (gI s1 l0 7 9).bind fun x3 =>
  (aI s1 a2 10 x3).bind fun x4 =>
  (pI s1 l0 7 11 x4).bind fun s5 =>
  (gI s5 l0 7 8).bind fun x6 =>
  (pI s5 l0 7 12 x6).bind fun s7 =>
  some ((), s7)
theorem b_X7_go_127 (E : jE)  (s : hS) (l0 : Nat) (t0 : Nat) (t1 : Int32) : Jo E M_X7_go cvV 127 [(0, .ref l0)] [.int t1, .ref t0] s (f_X7_go_b127  l0 t0 t1 s) := by
  unfold f_X7_go_b127
  refine Jo_putI fF_7_10 fI_7_10 (Or.inl rfl) rfl dX7_go_127 w_871 (fun s1 => ?_)
  refine Jo_aloadn 0 dX7_go_130 rfl rfl ?_
  refine Jo_aloadn 0 dX7_go_131 rfl rfl ?_
  refine Jo_getR fF_7_6 fR_7_6 dX7_go_132 w_617 (fun a2 => ?_)
  refine Jo_aloadn 0 dX7_go_135 rfl rfl ?_
  refine Jo_getI fF_7_9 fI_7_9 dX7_go_136 w_873 (fun x3 => ?_)
  refine Jo_iaload dX7_go_139 (fun x4 => ?_)
  refine Jo_putI fF_7_11 fI_7_11 (Or.inl rfl) rfl dX7_go_140 w_872 (fun s5 => ?_)
  refine Jo_aloadn 0 dX7_go_143 rfl rfl ?_
  refine Jo_aloadn 0 dX7_go_144 rfl rfl ?_
  refine Jo_getI fF_7_8 fI_7_8 dX7_go_145 w_870 (fun x6 => ?_)
  refine Jo_putI fF_7_12 fI_7_12 (Or.inl rfl) rfl dX7_go_148 w_869 (fun s7 => ?_)
  refine Jo_goto 303 dX7_go_151 (by decide) ?_
  exact Jo_vret rfl dX7_go_303
def f_X7_go_b93 (k93 : Nat → Int32 → hS → Option (Unit × hS)) (l0 : Nat) (l1 : Int32) (s : hS) : Option (Unit × hS) :=
  (gI s l0 7 8).bind fun x1 =>
  (cV s l0 7 (f_X7_isLetter s l0 x1)).bind fun p2 =>
  if p2.1 = 0 then
    if l1 = 0 then
      f_X7_go_b127 l0 l0 (1 : Int32) p2.2
    else
      f_X7_go_b127 l0 l0 (4 : Int32) p2.2
  else
    (gI p2.2 l0 7 8).bind fun x3 =>
    (pI p2.2 l0 7 8 (x3 + (1 : Int32))).bind fun s4 =>
    k93 l0 l1 s4
theorem b_X7_go_93 (E : jE) (k93 : Nat → Int32 → hS → Option (Unit × hS)) (h93 : ∀ (s : hS) (l0 : Nat) (l1 : Int32) , Jo E M_X7_go cvV 93 [(0, .ref l0), (1, .int l1)] [] s (k93 l0 l1 s)) (s : hS) (l0 : Nat) (l1 : Int32)  : Jo E M_X7_go cvV 93 [(0, .ref l0), (1, .int l1)] [] s (f_X7_go_b93 k93 l0 l1 s) := by
  unfold f_X7_go_b93
  refine Jo_aloadn 0 dX7_go_93 rfl rfl ?_
  refine Jo_aloadn 0 dX7_go_94 rfl rfl ?_
  refine Jo_getI fF_7_8 fI_7_8 dX7_go_95 w_870 (fun x1 => ?_)
  refine Jo_callVi (a := l0) (rest := []) [.int x1] cc_7 yF_X7_isLetter yV_X7_isLetter w_875 rfl rfl ⟨Nat.le_of_ble_eq_true rfl, Nat.le_of_ble_eq_true rfl, Nat.le_of_ble_eq_true rfl⟩ dX7_go_98 rfl (K_X7_isLetter E s l0 x1) (fun p2 => ?_)
  refine Jo_if_eq 117 dX7_go_101 (by decide) rfl ?_ ?_
  · refine Jo_aloadn 0 dX7_go_117 rfl rfl ?_
    refine Jo_iloadn 1 dX7_go_118 rfl rfl ?_
    refine Jo_if_eq 126 dX7_go_119 (by decide) rfl ?_ ?_
    · refine Jo_iconst (v := (1 : Int32)) dX7_go_126 (by decide) ?_
      refine Jo_sub [0] rfl ?_
      exact b_X7_go_127 E p2.2 l0 l0 (1 : Int32)
    · refine Jo_iconst (v := (4 : Int32)) dX7_go_122 (by decide) ?_
      refine Jo_goto 127 dX7_go_123 (by decide) ?_
      refine Jo_sub [0] rfl ?_
      exact b_X7_go_127 E p2.2 l0 l0 (4 : Int32)
  · refine Jo_aloadn 0 dX7_go_104 rfl rfl ?_
    refine Jo_dup dX7_go_105 rfl ?_
    refine Jo_getI fF_7_8 fI_7_8 dX7_go_106 w_870 (fun x3 => ?_)
    refine Jo_iconst (v := (1 : Int32)) dX7_go_109 (by decide) ?_
    refine Jo_iadd dX7_go_110 ?_
    refine Jo_putI fF_7_8 fI_7_8 (Or.inl rfl) rfl dX7_go_111 w_870 (fun s4 => ?_)
    refine Jo_goto 93 dX7_go_114 (by decide) ?_
    exact h93 s4 l0 l1
theorem e_X7_go_93 (E : jE)  (n : Nat) : ∀ (s : hS) (l0 : Nat) (l1 : Int32) , Jo E M_X7_go cvV 93 [(0, .ref l0), (1, .int l1)] [] s ((jL f_X7_go_b93 (fun _ _ _ => none) n) l0 l1 s) :=
  jL_ind (P := fun f => ∀ (s : hS) (l0 : Nat) (l1 : Int32) , Jo E M_X7_go cvV 93 [(0, .ref l0), (1, .int l1)] [] s (f l0 l1 s)) (fun _ _ _ => Jo_none) (fun b hb s l0 l1 => b_X7_go_93 E  b hb s l0 l1) n
def f_X7_go_b62 (l0 : Nat) (t0 : Int32) (s : hS) : Option (Unit × hS) :=
  (gI s l0 7 9).bind fun x1 =>
  (gI s l0 7 7).bind fun x2 =>
  if x1 = x2 then
    (pI s l0 7 10 (0 : Int32)).bind fun s15 =>
    some ((), s15)
  else
    (gI s l0 7 9).bind fun x3 =>
    (cV s l0 7 (f_X7_isLetter s l0 x3)).bind fun p4 =>
    if p4.1 = 0 then
      (gI p4.2 l0 7 9).bind fun x5 =>
      (cV p4.2 l0 7 (f_X7_isFigure p4.2 l0 x5)).bind fun p6 =>
      if p6.1 = 0 then
        (pI p6.2 l0 7 10 (3 : Int32)).bind fun s7 =>
        (gR s7 l0 7 6).bind fun a8 =>
        (gI s7 l0 7 9).bind fun x9 =>
        (aI s7 a8 10 x9).bind fun x10 =>
        (pI s7 l0 7 11 x10).bind fun s11 =>
        (gI s11 l0 7 8).bind fun x12 =>
        (pI s11 l0 7 8 (x12 + (1 : Int32))).bind fun s13 =>
        some ((), s13)
      else
        (pI p6.2 l0 7 11 (0 : Int32)).bind fun s14 =>
        jL f_X7_go_b170 (fun _ _ _ => none) jF l0 t0 s14
    else
      jL f_X7_go_b93 (fun _ _ _ => none) jF l0 t0 p4.2
theorem b_X7_go_62 (E : jE)  (s : hS) (l0 : Nat) (t0 : Int32) : Jo E M_X7_go cvV 62 [(0, .ref l0)] [.int t0] s (f_X7_go_b62  l0 t0 s) := by
  unfold f_X7_go_b62
  refine Jo_istoren (ls' := [(1, .int t0), (0, .ref l0)]) dX7_go_62 rfl (by decide) rfl ?_
  refine Jo_aloadn 1 dX7_go_63 rfl rfl ?_
  refine Jo_getI fF_7_9 fI_7_9 dX7_go_64 w_873 (fun x1 => ?_)
  refine Jo_aloadn 1 dX7_go_67 rfl rfl ?_
  refine Jo_getI fF_7_7 fI_7_7 dX7_go_68 w_856 (fun x2 => ?_)
  refine Jo_icmp_ne 82 dX7_go_71 (by decide) rfl ?_ ?_
  · refine Jo_aloadn 1 dX7_go_74 rfl rfl ?_
    refine Jo_iconst (v := (0 : Int32)) dX7_go_75 (by decide) ?_
    refine Jo_putI fF_7_10 fI_7_10 (Or.inl rfl) rfl dX7_go_76 w_871 (fun s15 => ?_)
    refine Jo_goto 303 dX7_go_79 (by decide) ?_
    exact Jo_vret rfl dX7_go_303
  · refine Jo_aloadn 1 dX7_go_82 rfl rfl ?_
    refine Jo_aloadn 1 dX7_go_83 rfl rfl ?_
    refine Jo_getI fF_7_9 fI_7_9 dX7_go_84 w_873 (fun x3 => ?_)
    refine Jo_callVi (a := l0) (rest := []) [.int x3] cc_7 yF_X7_isLetter yV_X7_isLetter w_875 rfl rfl ⟨Nat.le_of_ble_eq_true rfl, Nat.le_of_ble_eq_true rfl, Nat.le_of_ble_eq_true rfl⟩ dX7_go_87 rfl (K_X7_isLetter E s l0 x3) (fun p4 => ?_)
    refine Jo_if_eq 154 dX7_go_90 (by decide) rfl ?_ ?_
    · refine Jo_aloadn 1 dX7_go_154 rfl rfl ?_
      refine Jo_aloadn 1 dX7_go_155 rfl rfl ?_
      refine Jo_getI fF_7_9 fI_7_9 dX7_go_156 w_873 (fun x5 => ?_)
      refine Jo_callVi (a := l0) (rest := []) [.int x5] cc_7 yF_X7_isFigure yV_X7_isFigure w_874 rfl rfl ⟨Nat.le_of_ble_eq_true rfl, Nat.le_of_ble_eq_true rfl, Nat.le_of_ble_eq_true rfl⟩ dX7_go_159 rfl (K_X7_isFigure E p4.2 l0 x5) (fun p6 => ?_)
      refine Jo_if_eq 275 dX7_go_162 (by decide) rfl ?_ ?_
      · refine Jo_aloadn 1 dX7_go_275 rfl rfl ?_
        refine Jo_iconst (v := (3 : Int32)) dX7_go_276 (by decide) ?_
        refine Jo_putI fF_7_10 fI_7_10 (Or.inl rfl) rfl dX7_go_277 w_871 (fun s7 => ?_)
        refine Jo_aloadn 1 dX7_go_280 rfl rfl ?_
        refine Jo_aloadn 1 dX7_go_281 rfl rfl ?_
        refine Jo_getR fF_7_6 fR_7_6 dX7_go_282 w_617 (fun a8 => ?_)
        refine Jo_aloadn 1 dX7_go_285 rfl rfl ?_
        refine Jo_getI fF_7_9 fI_7_9 dX7_go_286 w_873 (fun x9 => ?_)
        refine Jo_iaload dX7_go_289 (fun x10 => ?_)
        refine Jo_putI fF_7_11 fI_7_11 (Or.inl rfl) rfl dX7_go_290 w_872 (fun s11 => ?_)
        refine Jo_aloadn 1 dX7_go_293 rfl rfl ?_
        refine Jo_dup dX7_go_294 rfl ?_
        refine Jo_getI fF_7_8 fI_7_8 dX7_go_295 w_870 (fun x12 => ?_)
        refine Jo_iconst (v := (1 : Int32)) dX7_go_298 (by decide) ?_
        refine Jo_iadd dX7_go_299 ?_
        refine Jo_putI fF_7_8 fI_7_8 (Or.inl rfl) rfl dX7_go_300 w_870 (fun s13 => ?_)
        exact Jo_vret rfl dX7_go_303
      · refine Jo_aloadn 1 dX7_go_165 rfl rfl ?_
        refine Jo_iconst (v := (0 : Int32)) dX7_go_166 (by decide) ?_
        refine Jo_putI fF_7_11 fI_7_11 (Or.inl rfl) rfl dX7_go_167 w_872 (fun s14 => ?_)
        refine Jo_sub [1, 0] rfl ?_
        exact e_X7_go_170 E jF s14 l0 t0
    · refine Jo_sub [1, 0] rfl ?_
      exact e_X7_go_93 E jF p4.2 l0 t0
def f_X7_go_b38 (l0 : Nat) (s : hS) : Option (Unit × hS) :=
  (gI s l0 7 8).bind fun x1 =>
  (pI s l0 7 9 x1).bind fun s2 =>
  (gI s2 l0 7 9).bind fun x3 =>
  (gI s2 l0 7 12).bind fun x4 =>
  if x3 = x4 then
    f_X7_go_b62 l0 (1 : Int32) s2
  else
    f_X7_go_b62 l0 (0 : Int32) s2
theorem b_X7_go_38 (E : jE)  (s : hS) (l0 : Nat)  : Jo E M_X7_go cvV 38 [(0, .ref l0)] [] s (f_X7_go_b38  l0 s) := by
  unfold f_X7_go_b38
  refine Jo_aloadn 0 dX7_go_38 rfl rfl ?_
  refine Jo_aloadn 0 dX7_go_39 rfl rfl ?_
  refine Jo_getI fF_7_8 fI_7_8 dX7_go_40 w_870 (fun x1 => ?_)
  refine Jo_putI fF_7_9 fI_7_9 (Or.inl rfl) rfl dX7_go_43 w_873 (fun s2 => ?_)
  refine Jo_aloadn 0 dX7_go_46 rfl rfl ?_
  refine Jo_getI fF_7_9 fI_7_9 dX7_go_47 w_873 (fun x3 => ?_)
  refine Jo_aloadn 0 dX7_go_50 rfl rfl ?_
  refine Jo_getI fF_7_12 fI_7_12 dX7_go_51 w_869 (fun x4 => ?_)
  refine Jo_icmp_ne 61 dX7_go_54 (by decide) rfl ?_ ?_
  · refine Jo_iconst (v := (1 : Int32)) dX7_go_57 (by decide) ?_
    refine Jo_goto 62 dX7_go_58 (by decide) ?_
    exact b_X7_go_62 E s2 l0 (1 : Int32)
  · refine Jo_iconst (v := (0 : Int32)) dX7_go_61 (by decide) ?_
    exact b_X7_go_62 E s2 l0 (0 : Int32)
def f_X7_go_b0 (k0 : Nat → hS → Option (Unit × hS)) (l0 : Nat) (s : hS) : Option (Unit × hS) :=
  (gI s l0 7 8).bind fun x1 =>
  (gI s l0 7 7).bind fun x2 =>
  if x2 ≤ x1 then
    f_X7_go_b38 l0 s
  else
    (gR s l0 7 6).bind fun a3 =>
    (gI s l0 7 8).bind fun x4 =>
    (aI s a3 10 x4).bind fun x5 =>
    if x5 = (32 : Int32) then
      (gI s l0 7 8).bind fun x6 =>
      (pI s l0 7 8 (x6 + (1 : Int32))).bind fun s7 =>
      k0 l0 s7
    else
      f_X7_go_b38 l0 s
theorem b_X7_go_0 (E : jE) (k0 : Nat → hS → Option (Unit × hS)) (h0 : ∀ (s : hS) (l0 : Nat) , Jo E M_X7_go cvV 0 [(0, .ref l0)] [] s (k0 l0 s)) (s : hS) (l0 : Nat)  : Jo E M_X7_go cvV 0 [(0, .ref l0)] [] s (f_X7_go_b0 k0 l0 s) := by
  unfold f_X7_go_b0
  refine Jo_aloadn 0 dX7_go_0 rfl rfl ?_
  refine Jo_getI fF_7_8 fI_7_8 dX7_go_1 w_870 (fun x1 => ?_)
  refine Jo_aloadn 0 dX7_go_4 rfl rfl ?_
  refine Jo_getI fF_7_7 fI_7_7 dX7_go_5 w_856 (fun x2 => ?_)
  refine Jo_icmp_ge 38 dX7_go_8 (by decide) rfl ?_ ?_
  · exact b_X7_go_38 E s l0
  · refine Jo_aloadn 0 dX7_go_11 rfl rfl ?_
    refine Jo_getR fF_7_6 fR_7_6 dX7_go_12 w_617 (fun a3 => ?_)
    refine Jo_aloadn 0 dX7_go_15 rfl rfl ?_
    refine Jo_getI fF_7_8 fI_7_8 dX7_go_16 w_870 (fun x4 => ?_)
    refine Jo_iaload dX7_go_19 (fun x5 => ?_)
    refine Jo_bipush (v := (32 : Int32)) dX7_go_20 (by decide) ?_
    refine Jo_icmp_ne 38 dX7_go_22 (by decide) rfl ?_ ?_
    · refine Jo_aloadn 0 dX7_go_25 rfl rfl ?_
      refine Jo_dup dX7_go_26 rfl ?_
      refine Jo_getI fF_7_8 fI_7_8 dX7_go_27 w_870 (fun x6 => ?_)
      refine Jo_iconst (v := (1 : Int32)) dX7_go_30 (by decide) ?_
      refine Jo_iadd dX7_go_31 ?_
      refine Jo_putI fF_7_8 fI_7_8 (Or.inl rfl) rfl dX7_go_32 w_870 (fun s7 => ?_)
      refine Jo_goto 0 dX7_go_35 (by decide) ?_
      exact h0 s7 l0
    · exact b_X7_go_38 E s l0
theorem e_X7_go_0 (E : jE)  (n : Nat) : ∀ (s : hS) (l0 : Nat) , Jo E M_X7_go cvV 0 [(0, .ref l0)] [] s ((jL f_X7_go_b0 (fun _ _ => none) n) l0 s) :=
  jL_ind (P := fun f => ∀ (s : hS) (l0 : Nat) , Jo E M_X7_go cvV 0 [(0, .ref l0)] [] s (f l0 s)) (fun _ _ => Jo_none) (fun b hb s l0 => b_X7_go_0 E  b hb s l0) n
def f_X7_go (s : hS) (a0 : Nat) : Option (Unit × hS) :=
  jL f_X7_go_b0 (fun _ _ => none) jF a0 s
theorem b_X7_go_in (E : jE)  (s : hS) (a0 : Nat)  : Jo E M_X7_go cvV 0 [(0, .ref a0)] [] s (f_X7_go s a0) := by
  unfold f_X7_go
  exact e_X7_go_0 E jF s a0
theorem K_X7_go (E : jE) (s : hS) (a0 : Nat) : jK E yX7_go M_X7_go cvV [.ref a0] s (f_X7_go s a0) := jK_of ⟨by decide, rfl, rfl⟩ (Nat.le_of_ble_eq_true rfl) (b_X7_go_in E s a0)
/-! HeronTalkModel.takesKey()Z -/
abbrev M_X7_takesKey : jM := (RX7, cX7_takesKey, 5, (some .boolean), "takesKey", 2, 42)
theorem yF_X7_takesKey : yF yX7_takesKey M_X7_takesKey 0 := ⟨w_881, w_624, by decide +kernel⟩
theorem yV_X7_takesKey : Cond.instanceMethod yX7_takesKey ∈ tbG ∧ Cond.selects yX7_takesKey.cls yX7_takesKey yX7_takesKey ∈ tbG := ⟨w_882, w_883⟩
theorem dX7_takesKey_0 : dI cX7_takesKey 0 1 (.aload_n 0) 1 := ⟨by decide +kernel, rfl⟩
theorem dX7_takesKey_1 : dI cX7_takesKey 1 4 (.getfield 223) 3 := ⟨by decide +kernel, rfl⟩
theorem dX7_takesKey_4 : dI cX7_takesKey 4 5 (.iconst 1) 1 := ⟨by decide +kernel, rfl⟩
theorem dX7_takesKey_5 : decode cX7_takesKey 5 = .ok (.if_icmp .eq 5, 3) := by decide +kernel
theorem dX7_takesKey_8 : dI cX7_takesKey 8 9 (.iconst 0) 1 := ⟨by decide +kernel, rfl⟩
theorem dX7_takesKey_9 : dI cX7_takesKey 9 10 (.ireturn) 1 := ⟨by decide +kernel, rfl⟩
theorem dX7_takesKey_10 : dI cX7_takesKey 10 11 (.iconst 0) 1 := ⟨by decide +kernel, rfl⟩
theorem dX7_takesKey_11 : dI cX7_takesKey 11 12 (.istore_n 1) 1 := ⟨by decide +kernel, rfl⟩
theorem dX7_takesKey_12 : dI cX7_takesKey 12 13 (.iload_n 1) 1 := ⟨by decide +kernel, rfl⟩
theorem dX7_takesKey_13 : dI cX7_takesKey 13 14 (.iconst 3) 1 := ⟨by decide +kernel, rfl⟩
theorem dX7_takesKey_14 : decode cX7_takesKey 14 = .ok (.if_icmp .ge 113, 3) := by decide +kernel
theorem dX7_takesKey_17 : dI cX7_takesKey 17 18 (.aload_n 0) 1 := ⟨by decide +kernel, rfl⟩
theorem dX7_takesKey_18 : dI cX7_takesKey 18 21 (.getfield 32) 3 := ⟨by decide +kernel, rfl⟩
theorem dX7_takesKey_21 : dI cX7_takesKey 21 22 (.iload_n 1) 1 := ⟨by decide +kernel, rfl⟩
theorem dX7_takesKey_22 : dI cX7_takesKey 22 23 (.iconst 1) 1 := ⟨by decide +kernel, rfl⟩
theorem dX7_takesKey_23 : dI cX7_takesKey 23 24 (.iadd) 1 := ⟨by decide +kernel, rfl⟩
theorem dX7_takesKey_24 : dI cX7_takesKey 24 25 (.iaload) 1 := ⟨by decide +kernel, rfl⟩
theorem dX7_takesKey_25 : dI cX7_takesKey 25 26 (.aload_n 0) 1 := ⟨by decide +kernel, rfl⟩
theorem dX7_takesKey_26 : dI cX7_takesKey 26 29 (.getfield 32) 3 := ⟨by decide +kernel, rfl⟩
theorem dX7_takesKey_29 : dI cX7_takesKey 29 30 (.iload_n 1) 1 := ⟨by decide +kernel, rfl⟩
theorem dX7_takesKey_30 : dI cX7_takesKey 30 31 (.iaload) 1 := ⟨by decide +kernel, rfl⟩
theorem dX7_takesKey_31 : dI cX7_takesKey 31 32 (.isub) 1 := ⟨by decide +kernel, rfl⟩
theorem dX7_takesKey_32 : dI cX7_takesKey 32 33 (.istore_n 2) 1 := ⟨by decide +kernel, rfl⟩
theorem dX7_takesKey_33 : dI cX7_takesKey 33 34 (.iload_n 2) 1 := ⟨by decide +kernel, rfl⟩
theorem dX7_takesKey_34 : dI cX7_takesKey 34 35 (.aload_n 0) 1 := ⟨by decide +kernel, rfl⟩
theorem dX7_takesKey_35 : dI cX7_takesKey 35 38 (.getfield 214) 3 := ⟨by decide +kernel, rfl⟩
theorem dX7_takesKey_38 : dI cX7_takesKey 38 39 (.aload_n 0) 1 := ⟨by decide +kernel, rfl⟩
theorem dX7_takesKey_39 : dI cX7_takesKey 39 42 (.getfield 217) 3 := ⟨by decide +kernel, rfl⟩
theorem dX7_takesKey_42 : dI cX7_takesKey 42 43 (.isub) 1 := ⟨by decide +kernel, rfl⟩
theorem dX7_takesKey_43 : decode cX7_takesKey 43 = .ok (.if_icmp .ne 7, 3) := by decide +kernel
theorem dX7_takesKey_46 : dI cX7_takesKey 46 47 (.iconst 1) 1 := ⟨by decide +kernel, rfl⟩
theorem dX7_takesKey_47 : decode cX7_takesKey 47 = .ok (.goto 4, 3) := by decide +kernel
theorem dX7_takesKey_50 : dI cX7_takesKey 50 51 (.iconst 0) 1 := ⟨by decide +kernel, rfl⟩
theorem dX7_takesKey_51 : dI cX7_takesKey 51 52 (.istore_n 3) 1 := ⟨by decide +kernel, rfl⟩
theorem dX7_takesKey_52 : dI cX7_takesKey 52 53 (.iconst 0) 1 := ⟨by decide +kernel, rfl⟩
theorem dX7_takesKey_53 : dI cX7_takesKey 53 55 (.istore 4) 2 := ⟨by decide +kernel, rfl⟩
theorem dX7_takesKey_55 : dI cX7_takesKey 55 57 (.iload 4) 2 := ⟨by decide +kernel, rfl⟩
theorem dX7_takesKey_57 : dI cX7_takesKey 57 58 (.iload_n 2) 1 := ⟨by decide +kernel, rfl⟩
theorem dX7_takesKey_58 : decode cX7_takesKey 58 = .ok (.if_icmp .ge 48, 3) := by decide +kernel
theorem dX7_takesKey_61 : dI cX7_takesKey 61 62 (.iload_n 3) 1 := ⟨by decide +kernel, rfl⟩
theorem dX7_takesKey_62 : decode cX7_takesKey 62 = .ok (.ifCond .eq 44, 3) := by decide +kernel
theorem dX7_takesKey_65 : dI cX7_takesKey 65 66 (.aload_n 0) 1 := ⟨by decide +kernel, rfl⟩
theorem dX7_takesKey_66 : dI cX7_takesKey 66 69 (.getfield 25) 3 := ⟨by decide +kernel, rfl⟩
theorem dX7_takesKey_69 : dI cX7_takesKey 69 70 (.aload_n 0) 1 := ⟨by decide +kernel, rfl⟩
theorem dX7_takesKey_70 : dI cX7_takesKey 70 73 (.getfield 217) 3 := ⟨by decide +kernel, rfl⟩
theorem dX7_takesKey_73 : dI cX7_takesKey 73 75 (.iload 4) 2 := ⟨by decide +kernel, rfl⟩
theorem dX7_takesKey_75 : dI cX7_takesKey 75 76 (.iadd) 1 := ⟨by decide +kernel, rfl⟩
theorem dX7_takesKey_76 : dI cX7_takesKey 76 77 (.iaload) 1 := ⟨by decide +kernel, rfl⟩
theorem dX7_takesKey_77 : dI cX7_takesKey 77 78 (.aload_n 0) 1 := ⟨by decide +kernel, rfl⟩
theorem dX7_takesKey_78 : dI cX7_takesKey 78 81 (.getfield 28) 3 := ⟨by decide +kernel, rfl⟩
theorem dX7_takesKey_81 : dI cX7_takesKey 81 82 (.aload_n 0) 1 := ⟨by decide +kernel, rfl⟩
theorem dX7_takesKey_82 : dI cX7_takesKey 82 85 (.getfield 32) 3 := ⟨by decide +kernel, rfl⟩
theorem dX7_takesKey_85 : dI cX7_takesKey 85 86 (.iload_n 1) 1 := ⟨by decide +kernel, rfl⟩
theorem dX7_takesKey_86 : dI cX7_takesKey 86 87 (.iaload) 1 := ⟨by decide +kernel, rfl⟩
theorem dX7_takesKey_87 : dI cX7_takesKey 87 89 (.iload 4) 2 := ⟨by decide +kernel, rfl⟩
theorem dX7_takesKey_89 : dI cX7_takesKey 89 90 (.iadd) 1 := ⟨by decide +kernel, rfl⟩
theorem dX7_takesKey_90 : dI cX7_takesKey 90 91 (.caload) 1 := ⟨by decide +kernel, rfl⟩
theorem dX7_takesKey_91 : decode cX7_takesKey 91 = .ok (.if_icmp .ne 7, 3) := by decide +kernel
theorem dX7_takesKey_94 : dI cX7_takesKey 94 95 (.iconst 1) 1 := ⟨by decide +kernel, rfl⟩
theorem dX7_takesKey_95 : decode cX7_takesKey 95 = .ok (.goto 4, 3) := by decide +kernel
theorem dX7_takesKey_98 : dI cX7_takesKey 98 99 (.iconst 0) 1 := ⟨by decide +kernel, rfl⟩
theorem dX7_takesKey_99 : dI cX7_takesKey 99 100 (.istore_n 3) 1 := ⟨by decide +kernel, rfl⟩
theorem dX7_takesKey_100 : dI cX7_takesKey 100 103 (.iinc 4 1) 3 := ⟨by decide +kernel, rfl⟩
theorem dX7_takesKey_103 : decode cX7_takesKey 103 = .ok (.goto (-48), 3) := by decide +kernel
theorem dX7_takesKey_106 : dI cX7_takesKey 106 107 (.iload_n 3) 1 := ⟨by decide +kernel, rfl⟩
theorem dX7_takesKey_107 : decode cX7_takesKey 107 = .ok (.ifCond .eq 14, 3) := by decide +kernel
theorem dX7_takesKey_110 : dI cX7_takesKey 110 111 (.aload_n 0) 1 := ⟨by decide +kernel, rfl⟩
theorem dX7_takesKey_111 : dI cX7_takesKey 111 112 (.iload_n 1) 1 := ⟨by decide +kernel, rfl⟩
theorem dX7_takesKey_112 : dI cX7_takesKey 112 115 (.putfield 235) 3 := ⟨by decide +kernel, rfl⟩
theorem dX7_takesKey_115 : dI cX7_takesKey 115 116 (.aload_n 0) 1 := ⟨by decide +kernel, rfl⟩
theorem dX7_takesKey_116 : decode cX7_takesKey 116 = .ok (.invokevirtual 238, 3) := by decide +kernel
theorem dX7_takesKey_119 : dI cX7_takesKey 119 120 (.iconst 1) 1 := ⟨by decide +kernel, rfl⟩
theorem dX7_takesKey_120 : dI cX7_takesKey 120 121 (.ireturn) 1 := ⟨by decide +kernel, rfl⟩
theorem dX7_takesKey_121 : dI cX7_takesKey 121 124 (.iinc 1 1) 3 := ⟨by decide +kernel, rfl⟩
theorem dX7_takesKey_124 : decode cX7_takesKey 124 = .ok (.goto (-112), 3) := by decide +kernel
theorem dX7_takesKey_127 : dI cX7_takesKey 127 128 (.iconst 0) 1 := ⟨by decide +kernel, rfl⟩
theorem dX7_takesKey_128 : dI cX7_takesKey 128 129 (.ireturn) 1 := ⟨by decide +kernel, rfl⟩
def f_X7_takesKey_b106 (k12 : Nat → Int32 → hS → Option (Int32 × hS)) (l0 : Nat) (l1 : Int32) (l3 : Int32) (s : hS) : Option (Int32 × hS) :=
  if l3 = 0 then
    k12 l0 (l1 + (1 : Int32)) s
  else
    (pI s l0 7 13 l1).bind fun s1 =>
    (cV s1 l0 7 (f_X7_go s1 l0)).bind fun p2 =>
    some ((1 : Int32), p2.2)
theorem b_X7_takesKey_106 (E : jE) (k12 : Nat → Int32 → hS → Option (Int32 × hS)) (h12 : ∀ (s : hS) (l0 : Nat) (l1 : Int32) , Jo E M_X7_takesKey cvI 12 [(0, .ref l0), (1, .int l1)] [] s (k12 l0 l1 s)) (s : hS) (l0 : Nat) (l1 : Int32) (l3 : Int32)  : Jo E M_X7_takesKey cvI 106 [(0, .ref l0), (1, .int l1), (3, .int l3)] [] s (f_X7_takesKey_b106 k12 l0 l1 l3 s) := by
  unfold f_X7_takesKey_b106
  refine Jo_iloadn 2 dX7_takesKey_106 rfl rfl ?_
  refine Jo_if_eq 121 dX7_takesKey_107 (by decide) rfl ?_ ?_
  · refine Jo_iinc (v := (l1 + (1 : Int32))) (ls' := [(1, .int (l1 + (1 : Int32))), (0, .ref l0), (3, .int l3)]) 1 dX7_takesKey_121 rfl rfl (by decide) rfl ?_
    refine Jo_goto 12 dX7_takesKey_124 (by decide) ?_
    refine Jo_sub [1, 0] rfl ?_
    exact h12 s l0 (l1 + (1 : Int32))
  · refine Jo_aloadn 0 dX7_takesKey_110 rfl rfl ?_
    refine Jo_iloadn 1 dX7_takesKey_111 rfl rfl ?_
    refine Jo_putI fF_7_13 fI_7_13 (Or.inl rfl) rfl dX7_takesKey_112 w_880 (fun s1 => ?_)
    refine Jo_aloadn 0 dX7_takesKey_115 rfl rfl ?_
    refine Jo_callVv (a := l0) (rest := []) [] cc_7 yF_X7_go yV_X7_go w_879 rfl rfl ⟨Nat.le_of_ble_eq_true rfl, Nat.le_of_ble_eq_true rfl, Nat.le_of_ble_eq_true rfl⟩ dX7_takesKey_116 rfl (K_X7_go E s1 l0) (fun p2 => ?_)
    refine Jo_iconst (v := (1 : Int32)) dX7_takesKey_119 (by decide) ?_
    exact Jo_zret1 rfl dX7_takesKey_120
def f_X7_takesKey_b99 (k12 : Nat → Int32 → hS → Option (Int32 × hS)) (k55 : Nat → Int32 → Int32 → Int32 → Int32 → hS → Option (Int32 × hS)) (l0 : Nat) (l1 : Int32) (l2 : Int32) (l4 : Int32) (t0 : Int32) (s : hS) : Option (Int32 × hS) :=
  k55 l0 l1 l2 t0 (l4 + (1 : Int32)) s
theorem b_X7_takesKey_99 (E : jE) (k12 : Nat → Int32 → hS → Option (Int32 × hS)) (h12 : ∀ (s : hS) (l0 : Nat) (l1 : Int32) , Jo E M_X7_takesKey cvI 12 [(0, .ref l0), (1, .int l1)] [] s (k12 l0 l1 s)) (k55 : Nat → Int32 → Int32 → Int32 → Int32 → hS → Option (Int32 × hS)) (h55 : ∀ (s : hS) (l0 : Nat) (l1 : Int32) (l2 : Int32) (l3 : Int32) (l4 : Int32) , Jo E M_X7_takesKey cvI 55 [(0, .ref l0), (1, .int l1), (2, .int l2), (3, .int l3), (4, .int l4)] [] s (k55 l0 l1 l2 l3 l4 s)) (s : hS) (l0 : Nat) (l1 : Int32) (l2 : Int32) (l4 : Int32) (t0 : Int32) : Jo E M_X7_takesKey cvI 99 [(0, .ref l0), (1, .int l1), (2, .int l2), (4, .int l4)] [.int t0] s (f_X7_takesKey_b99 k12 k55 l0 l1 l2 l4 t0 s) := by
  unfold f_X7_takesKey_b99
  refine Jo_istoren (ls' := [(3, .int t0), (0, .ref l0), (1, .int l1), (2, .int l2), (4, .int l4)]) dX7_takesKey_99 rfl (by decide) rfl ?_
  refine Jo_iinc (v := (l4 + (1 : Int32))) (ls' := [(4, .int (l4 + (1 : Int32))), (3, .int t0), (0, .ref l0), (1, .int l1), (2, .int l2)]) 4 dX7_takesKey_100 rfl rfl (by decide) rfl ?_
  refine Jo_goto 55 dX7_takesKey_103 (by decide) ?_
  refine Jo_sub [2, 3, 4, 1, 0] rfl ?_
  exact h55 s l0 l1 l2 t0 (l4 + (1 : Int32))
def f_X7_takesKey_b55 (k12 : Nat → Int32 → hS → Option (Int32 × hS)) (k55 : Nat → Int32 → Int32 → Int32 → Int32 → hS → Option (Int32 × hS)) (l0 : Nat) (l1 : Int32) (l2 : Int32) (l3 : Int32) (l4 : Int32) (s : hS) : Option (Int32 × hS) :=
  if l2 ≤ l4 then
    f_X7_takesKey_b106 k12 l0 l1 l3 s
  else
    if l3 = 0 then
      f_X7_takesKey_b106 k12 l0 l1 l3 s
    else
      (gR s l0 7 6).bind fun a1 =>
      (gI s l0 7 9).bind fun x2 =>
      (aI s a1 10 (x2 + l4)).bind fun x3 =>
      (gR s l0 7 14).bind fun a4 =>
      (gR s l0 7 15).bind fun a5 =>
      (aI s a5 10 l1).bind fun x6 =>
      (aI s a4 9 (x6 + l4)).bind fun x7 =>
      if x3 = x7 then
        f_X7_takesKey_b99 k12 k55 l0 l1 l2 l4 (1 : Int32) s
      else
        f_X7_takesKey_b99 k12 k55 l0 l1 l2 l4 (0 : Int32) s
theorem b_X7_takesKey_55 (E : jE) (k12 : Nat → Int32 → hS → Option (Int32 × hS)) (h12 : ∀ (s : hS) (l0 : Nat) (l1 : Int32) , Jo E M_X7_takesKey cvI 12 [(0, .ref l0), (1, .int l1)] [] s (k12 l0 l1 s)) (k55 : Nat → Int32 → Int32 → Int32 → Int32 → hS → Option (Int32 × hS)) (h55 : ∀ (s : hS) (l0 : Nat) (l1 : Int32) (l2 : Int32) (l3 : Int32) (l4 : Int32) , Jo E M_X7_takesKey cvI 55 [(0, .ref l0), (1, .int l1), (2, .int l2), (3, .int l3), (4, .int l4)] [] s (k55 l0 l1 l2 l3 l4 s)) (s : hS) (l0 : Nat) (l1 : Int32) (l2 : Int32) (l3 : Int32) (l4 : Int32)  : Jo E M_X7_takesKey cvI 55 [(0, .ref l0), (1, .int l1), (2, .int l2), (3, .int l3), (4, .int l4)] [] s (f_X7_takesKey_b55 k12 k55 l0 l1 l2 l3 l4 s) := by
  unfold f_X7_takesKey_b55
  refine Jo_iload 4 dX7_takesKey_55 rfl ?_
  refine Jo_iloadn 2 dX7_takesKey_57 rfl rfl ?_
  refine Jo_icmp_ge 106 dX7_takesKey_58 (by decide) rfl ?_ ?_
  · refine Jo_sub [0, 1, 3] rfl ?_
    exact b_X7_takesKey_106 E k12 h12 s l0 l1 l3
  · refine Jo_iloadn 3 dX7_takesKey_61 rfl rfl ?_
    refine Jo_if_eq 106 dX7_takesKey_62 (by decide) rfl ?_ ?_
    · refine Jo_sub [0, 1, 3] rfl ?_
      exact b_X7_takesKey_106 E k12 h12 s l0 l1 l3
    · refine Jo_aloadn 0 dX7_takesKey_65 rfl rfl ?_
      refine Jo_getR fF_7_6 fR_7_6 dX7_takesKey_66 w_617 (fun a1 => ?_)
      refine Jo_aloadn 0 dX7_takesKey_69 rfl rfl ?_
      refine Jo_getI fF_7_9 fI_7_9 dX7_takesKey_70 w_873 (fun x2 => ?_)
      refine Jo_iload 4 dX7_takesKey_73 rfl ?_
      refine Jo_iadd dX7_takesKey_75 ?_
      refine Jo_iaload dX7_takesKey_76 (fun x3 => ?_)
      refine Jo_aloadn 0 dX7_takesKey_77 rfl rfl ?_
      refine Jo_getR fF_7_14 fR_7_14 dX7_takesKey_78 w_615 (fun a4 => ?_)
      refine Jo_aloadn 0 dX7_takesKey_81 rfl rfl ?_
      refine Jo_getR fF_7_15 fR_7_15 dX7_takesKey_82 w_614 (fun a5 => ?_)
      refine Jo_iloadn 1 dX7_takesKey_85 rfl rfl ?_
      refine Jo_iaload dX7_takesKey_86 (fun x6 => ?_)
      refine Jo_iload 4 dX7_takesKey_87 rfl ?_
      refine Jo_iadd dX7_takesKey_89 ?_
      refine Jo_caload dX7_takesKey_90 (fun x7 => ?_)
      refine Jo_icmp_ne 98 dX7_takesKey_91 (by decide) rfl ?_ ?_
      · refine Jo_iconst (v := (1 : Int32)) dX7_takesKey_94 (by decide) ?_
        refine Jo_goto 99 dX7_takesKey_95 (by decide) ?_
        refine Jo_sub [0, 1, 2, 4] rfl ?_
        exact b_X7_takesKey_99 E k12 h12 k55 h55 s l0 l1 l2 l4 (1 : Int32)
      · refine Jo_iconst (v := (0 : Int32)) dX7_takesKey_98 (by decide) ?_
        refine Jo_sub [0, 1, 2, 4] rfl ?_
        exact b_X7_takesKey_99 E k12 h12 k55 h55 s l0 l1 l2 l4 (0 : Int32)
theorem e_X7_takesKey_55 (E : jE) (k12 : Nat → Int32 → hS → Option (Int32 × hS)) (h12 : ∀ (s : hS) (l0 : Nat) (l1 : Int32) , Jo E M_X7_takesKey cvI 12 [(0, .ref l0), (1, .int l1)] [] s (k12 l0 l1 s)) (n : Nat) : ∀ (s : hS) (l0 : Nat) (l1 : Int32) (l2 : Int32) (l3 : Int32) (l4 : Int32) , Jo E M_X7_takesKey cvI 55 [(0, .ref l0), (1, .int l1), (2, .int l2), (3, .int l3), (4, .int l4)] [] s ((jL (f_X7_takesKey_b55 k12) (fun _ _ _ _ _ _ => none) n) l0 l1 l2 l3 l4 s) :=
  jL_ind (P := fun f => ∀ (s : hS) (l0 : Nat) (l1 : Int32) (l2 : Int32) (l3 : Int32) (l4 : Int32) , Jo E M_X7_takesKey cvI 55 [(0, .ref l0), (1, .int l1), (2, .int l2), (3, .int l3), (4, .int l4)] [] s (f l0 l1 l2 l3 l4 s)) (fun _ _ _ _ _ _ => Jo_none) (fun b hb s l0 l1 l2 l3 l4 => b_X7_takesKey_55 E k12 h12 b hb s l0 l1 l2 l3 l4) n
def f_X7_takesKey_b51 (k12 : Nat → Int32 → hS → Option (Int32 × hS)) (l0 : Nat) (l1 : Int32) (l2 : Int32) (t0 : Int32) (s : hS) : Option (Int32 × hS) :=
  jL (f_X7_takesKey_b55 k12) (fun _ _ _ _ _ _ => none) jF l0 l1 l2 t0 (0 : Int32) s
theorem b_X7_takesKey_51 (E : jE) (k12 : Nat → Int32 → hS → Option (Int32 × hS)) (h12 : ∀ (s : hS) (l0 : Nat) (l1 : Int32) , Jo E M_X7_takesKey cvI 12 [(0, .ref l0), (1, .int l1)] [] s (k12 l0 l1 s)) (s : hS) (l0 : Nat) (l1 : Int32) (l2 : Int32) (t0 : Int32) : Jo E M_X7_takesKey cvI 51 [(0, .ref l0), (1, .int l1), (2, .int l2)] [.int t0] s (f_X7_takesKey_b51 k12 l0 l1 l2 t0 s) := by
  unfold f_X7_takesKey_b51
  refine Jo_istoren (ls' := [(3, .int t0), (0, .ref l0), (1, .int l1), (2, .int l2)]) dX7_takesKey_51 rfl (by decide) rfl ?_
  refine Jo_iconst (v := (0 : Int32)) dX7_takesKey_52 (by decide) ?_
  refine Jo_istore (ls' := [(4, .int (0 : Int32)), (3, .int t0), (0, .ref l0), (1, .int l1), (2, .int l2)]) dX7_takesKey_53 (by decide) rfl ?_
  refine Jo_sub [2, 3, 4, 1, 0] rfl ?_
  exact e_X7_takesKey_55 E k12 h12 jF s l0 l1 l2 t0 (0 : Int32)
def f_X7_takesKey_b12 (k12 : Nat → Int32 → hS → Option (Int32 × hS)) (l0 : Nat) (l1 : Int32) (s : hS) : Option (Int32 × hS) :=
  if (3 : Int32) ≤ l1 then
    some ((0 : Int32), s)
  else
    (gR s l0 7 15).bind fun a1 =>
    (aI s a1 10 (l1 + (1 : Int32))).bind fun x2 =>
    (gR s l0 7 15).bind fun a3 =>
    (aI s a3 10 l1).bind fun x4 =>
    nmv ((x2 - x4)) fun x5 =>
    (gI s l0 7 8).bind fun x6 =>
    (gI s l0 7 9).bind fun x7 =>
    if x5 = (x6 - x7) then
      f_X7_takesKey_b51 k12 l0 l1 x5 (1 : Int32) s
    else
      f_X7_takesKey_b51 k12 l0 l1 x5 (0 : Int32) s
theorem b_X7_takesKey_12 (E : jE) (k12 : Nat → Int32 → hS → Option (Int32 × hS)) (h12 : ∀ (s : hS) (l0 : Nat) (l1 : Int32) , Jo E M_X7_takesKey cvI 12 [(0, .ref l0), (1, .int l1)] [] s (k12 l0 l1 s)) (s : hS) (l0 : Nat) (l1 : Int32)  : Jo E M_X7_takesKey cvI 12 [(0, .ref l0), (1, .int l1)] [] s (f_X7_takesKey_b12 k12 l0 l1 s) := by
  unfold f_X7_takesKey_b12
  refine Jo_iloadn 1 dX7_takesKey_12 rfl rfl ?_
  refine Jo_iconst (v := (3 : Int32)) dX7_takesKey_13 (by decide) ?_
  refine Jo_icmp_ge 127 dX7_takesKey_14 (by decide) rfl ?_ ?_
  · refine Jo_iconst (v := (0 : Int32)) dX7_takesKey_127 (by decide) ?_
    exact Jo_zret0 rfl dX7_takesKey_128
  · refine Jo_aloadn 0 dX7_takesKey_17 rfl rfl ?_
    refine Jo_getR fF_7_15 fR_7_15 dX7_takesKey_18 w_614 (fun a1 => ?_)
    refine Jo_iloadn 1 dX7_takesKey_21 rfl rfl ?_
    refine Jo_iconst (v := (1 : Int32)) dX7_takesKey_22 (by decide) ?_
    refine Jo_iadd dX7_takesKey_23 ?_
    refine Jo_iaload dX7_takesKey_24 (fun x2 => ?_)
    refine Jo_aloadn 0 dX7_takesKey_25 rfl rfl ?_
    refine Jo_getR fF_7_15 fR_7_15 dX7_takesKey_26 w_614 (fun a3 => ?_)
    refine Jo_iloadn 1 dX7_takesKey_29 rfl rfl ?_
    refine Jo_iaload dX7_takesKey_30 (fun x4 => ?_)
    refine Jo_isub dX7_takesKey_31 ?_
    refine Jo_nm (fun x5 => ?_)
    refine Jo_istoren (ls' := [(2, .int x5), (0, .ref l0), (1, .int l1)]) dX7_takesKey_32 rfl (by decide) rfl ?_
    refine Jo_iloadn 0 dX7_takesKey_33 rfl rfl ?_
    refine Jo_aloadn 1 dX7_takesKey_34 rfl rfl ?_
    refine Jo_getI fF_7_8 fI_7_8 dX7_takesKey_35 w_870 (fun x6 => ?_)
    refine Jo_aloadn 1 dX7_takesKey_38 rfl rfl ?_
    refine Jo_getI fF_7_9 fI_7_9 dX7_takesKey_39 w_873 (fun x7 => ?_)
    refine Jo_isub dX7_takesKey_42 ?_
    refine Jo_icmp_ne 50 dX7_takesKey_43 (by decide) rfl ?_ ?_
    · refine Jo_iconst (v := (1 : Int32)) dX7_takesKey_46 (by decide) ?_
      refine Jo_goto 51 dX7_takesKey_47 (by decide) ?_
      refine Jo_sub [1, 2, 0] rfl ?_
      exact b_X7_takesKey_51 E k12 h12 s l0 l1 x5 (1 : Int32)
    · refine Jo_iconst (v := (0 : Int32)) dX7_takesKey_50 (by decide) ?_
      refine Jo_sub [1, 2, 0] rfl ?_
      exact b_X7_takesKey_51 E k12 h12 s l0 l1 x5 (0 : Int32)
theorem e_X7_takesKey_12 (E : jE)  (n : Nat) : ∀ (s : hS) (l0 : Nat) (l1 : Int32) , Jo E M_X7_takesKey cvI 12 [(0, .ref l0), (1, .int l1)] [] s ((jL f_X7_takesKey_b12 (fun _ _ _ => none) n) l0 l1 s) :=
  jL_ind (P := fun f => ∀ (s : hS) (l0 : Nat) (l1 : Int32) , Jo E M_X7_takesKey cvI 12 [(0, .ref l0), (1, .int l1)] [] s (f l0 l1 s)) (fun _ _ _ => Jo_none) (fun b hb s l0 l1 => b_X7_takesKey_12 E  b hb s l0 l1) n
def f_X7_takesKey (s : hS) (a0 : Nat) : Option (Int32 × hS) :=
  (gI s a0 7 10).bind fun x1 =>
  if x1 = (1 : Int32) then
    jL f_X7_takesKey_b12 (fun _ _ _ => none) jF a0 (0 : Int32) s
  else
    some ((0 : Int32), s)
theorem b_X7_takesKey_in (E : jE)  (s : hS) (a0 : Nat)  : Jo E M_X7_takesKey cvI 0 [(0, .ref a0)] [] s (f_X7_takesKey s a0) := by
  unfold f_X7_takesKey
  refine Jo_aloadn 0 dX7_takesKey_0 rfl rfl ?_
  refine Jo_getI fF_7_10 fI_7_10 dX7_takesKey_1 w_871 (fun x1 => ?_)
  refine Jo_iconst (v := (1 : Int32)) dX7_takesKey_4 (by decide) ?_
  refine Jo_icmp_eq 10 dX7_takesKey_5 (by decide) rfl ?_ ?_
  · refine Jo_iconst (v := (0 : Int32)) dX7_takesKey_10 (by decide) ?_
    refine Jo_istoren (ls' := [(1, .int (0 : Int32)), (0, .ref a0)]) dX7_takesKey_11 rfl (by decide) rfl ?_
    refine Jo_sub [1, 0] rfl ?_
    exact e_X7_takesKey_12 E jF s a0 (0 : Int32)
  · refine Jo_iconst (v := (0 : Int32)) dX7_takesKey_8 (by decide) ?_
    exact Jo_zret0 rfl dX7_takesKey_9
theorem K_X7_takesKey (E : jE) (s : hS) (a0 : Nat) : jK E yX7_takesKey M_X7_takesKey cvI [.ref a0] s (f_X7_takesKey s a0) := jK_of ⟨by decide, rfl, rfl⟩ (Nat.le_of_ble_eq_true rfl) (b_X7_takesKey_in E s a0)
/-! HeronTalkModel.nameOf(I)I -/
abbrev M_X7_nameOf : jM := (RX7, cX7_nameOf, 2, (some .int), "nameOf", 0, 0)
theorem yF_X7_nameOf : yF yX7_nameOf M_X7_nameOf 1 := ⟨w_884, w_624, by decide +kernel⟩
theorem yV_X7_nameOf : Cond.instanceMethod yX7_nameOf ∈ tbG ∧ Cond.selects yX7_nameOf.cls yX7_nameOf yX7_nameOf ∈ tbG := ⟨w_885, w_886⟩
theorem dX7_nameOf_0 : dI cX7_nameOf 0 1 (.aload_n 0) 1 := ⟨by decide +kernel, rfl⟩
theorem dX7_nameOf_1 : dI cX7_nameOf 1 4 (.getfield 235) 3 := ⟨by decide +kernel, rfl⟩
theorem dX7_nameOf_4 : decode cX7_nameOf 4 = .ok (.lookupswitch 82 #[(0, 28), (1, 60)], 28) := by decide +kernel
theorem dX7_nameOf_32 : dI cX7_nameOf 32 33 (.iload_n 1) 1 := ⟨by decide +kernel, rfl⟩
theorem dX7_nameOf_33 : dI cX7_nameOf 33 35 (.bipush 119) 2 := ⟨by decide +kernel, rfl⟩
theorem dX7_nameOf_35 : decode cX7_nameOf 35 = .ok (.if_icmp .ne 7, 3) := by decide +kernel
theorem dX7_nameOf_38 : dI cX7_nameOf 38 39 (.iconst 0) 1 := ⟨by decide +kernel, rfl⟩
theorem dX7_nameOf_39 : decode cX7_nameOf 39 = .ok (.goto 24, 3) := by decide +kernel
theorem dX7_nameOf_42 : dI cX7_nameOf 42 43 (.iload_n 1) 1 := ⟨by decide +kernel, rfl⟩
theorem dX7_nameOf_43 : dI cX7_nameOf 43 45 (.bipush 110) 2 := ⟨by decide +kernel, rfl⟩
theorem dX7_nameOf_45 : decode cX7_nameOf 45 = .ok (.if_icmp .ne 7, 3) := by decide +kernel
theorem dX7_nameOf_48 : dI cX7_nameOf 48 49 (.iconst 1) 1 := ⟨by decide +kernel, rfl⟩
theorem dX7_nameOf_49 : decode cX7_nameOf 49 = .ok (.goto 14, 3) := by decide +kernel
theorem dX7_nameOf_52 : dI cX7_nameOf 52 53 (.iload_n 1) 1 := ⟨by decide +kernel, rfl⟩
theorem dX7_nameOf_53 : dI cX7_nameOf 53 55 (.bipush 107) 2 := ⟨by decide +kernel, rfl⟩
theorem dX7_nameOf_55 : decode cX7_nameOf 55 = .ok (.if_icmp .ne 7, 3) := by decide +kernel
theorem dX7_nameOf_58 : dI cX7_nameOf 58 59 (.iconst 2) 1 := ⟨by decide +kernel, rfl⟩
theorem dX7_nameOf_59 : decode cX7_nameOf 59 = .ok (.goto 4, 3) := by decide +kernel
theorem dX7_nameOf_62 : dI cX7_nameOf 62 63 (.iconst (-1)) 1 := ⟨by decide +kernel, rfl⟩
theorem dX7_nameOf_63 : dI cX7_nameOf 63 64 (.ireturn) 1 := ⟨by decide +kernel, rfl⟩
theorem dX7_nameOf_64 : dI cX7_nameOf 64 65 (.iload_n 1) 1 := ⟨by decide +kernel, rfl⟩
theorem dX7_nameOf_65 : dI cX7_nameOf 65 67 (.bipush 119) 2 := ⟨by decide +kernel, rfl⟩
theorem dX7_nameOf_67 : decode cX7_nameOf 67 = .ok (.if_icmp .ne 7, 3) := by decide +kernel
theorem dX7_nameOf_70 : dI cX7_nameOf 70 71 (.iconst 0) 1 := ⟨by decide +kernel, rfl⟩
theorem dX7_nameOf_71 : decode cX7_nameOf 71 = .ok (.goto 14, 3) := by decide +kernel
theorem dX7_nameOf_74 : dI cX7_nameOf 74 75 (.iload_n 1) 1 := ⟨by decide +kernel, rfl⟩
theorem dX7_nameOf_75 : dI cX7_nameOf 75 77 (.bipush 107) 2 := ⟨by decide +kernel, rfl⟩
theorem dX7_nameOf_77 : decode cX7_nameOf 77 = .ok (.if_icmp .ne 7, 3) := by decide +kernel
theorem dX7_nameOf_80 : dI cX7_nameOf 80 81 (.iconst 1) 1 := ⟨by decide +kernel, rfl⟩
theorem dX7_nameOf_81 : decode cX7_nameOf 81 = .ok (.goto 4, 3) := by decide +kernel
theorem dX7_nameOf_84 : dI cX7_nameOf 84 85 (.iconst (-1)) 1 := ⟨by decide +kernel, rfl⟩
theorem dX7_nameOf_85 : dI cX7_nameOf 85 86 (.ireturn) 1 := ⟨by decide +kernel, rfl⟩
theorem dX7_nameOf_86 : dI cX7_nameOf 86 87 (.iload_n 1) 1 := ⟨by decide +kernel, rfl⟩
theorem dX7_nameOf_87 : dI cX7_nameOf 87 89 (.bipush 115) 2 := ⟨by decide +kernel, rfl⟩
theorem dX7_nameOf_89 : decode cX7_nameOf 89 = .ok (.if_icmp .ne 7, 3) := by decide +kernel
theorem dX7_nameOf_92 : dI cX7_nameOf 92 93 (.iconst 0) 1 := ⟨by decide +kernel, rfl⟩
theorem dX7_nameOf_93 : decode cX7_nameOf 93 = .ok (.goto 14, 3) := by decide +kernel
theorem dX7_nameOf_96 : dI cX7_nameOf 96 97 (.iload_n 1) 1 := ⟨by decide +kernel, rfl⟩
theorem dX7_nameOf_97 : dI cX7_nameOf 97 99 (.bipush 104) 2 := ⟨by decide +kernel, rfl⟩
theorem dX7_nameOf_99 : decode cX7_nameOf 99 = .ok (.if_icmp .ne 7, 3) := by decide +kernel
theorem dX7_nameOf_102 : dI cX7_nameOf 102 103 (.iconst 1) 1 := ⟨by decide +kernel, rfl⟩
theorem dX7_nameOf_103 : decode cX7_nameOf 103 = .ok (.goto 4, 3) := by decide +kernel
theorem dX7_nameOf_106 : dI cX7_nameOf 106 107 (.iconst (-1)) 1 := ⟨by decide +kernel, rfl⟩
theorem dX7_nameOf_107 : dI cX7_nameOf 107 108 (.ireturn) 1 := ⟨by decide +kernel, rfl⟩
def f_X7_nameOf (s : hS) (a0 : Nat) (i1 : Int32) : Option (Int32 × hS) :=
  (gI s a0 7 13).bind fun x1 =>
  if x1 = (0 : Int32) then
    if i1 = (119 : Int32) then
      some ((0 : Int32), s)
    else
      if i1 = (110 : Int32) then
        some ((1 : Int32), s)
      else
        if i1 = (107 : Int32) then
          some ((2 : Int32), s)
        else
          some ((-1 : Int32), s)
  else
  if x1 = (1 : Int32) then
    if i1 = (119 : Int32) then
      some ((0 : Int32), s)
    else
      if i1 = (107 : Int32) then
        some ((1 : Int32), s)
      else
        some ((-1 : Int32), s)
  else
  if i1 = (115 : Int32) then
    some ((0 : Int32), s)
  else
    if i1 = (104 : Int32) then
      some ((1 : Int32), s)
    else
      some ((-1 : Int32), s)
theorem b_X7_nameOf_in (E : jE)  (s : hS) (a0 : Nat) (i1 : Int32)  : Jo E M_X7_nameOf cvI 0 [(0, .ref a0), (1, .int i1)] [] s (f_X7_nameOf s a0 i1) := by
  unfold f_X7_nameOf
  refine Jo_aloadn 0 dX7_nameOf_0 rfl rfl ?_
  refine Jo_getI fF_7_13 fI_7_13 dX7_nameOf_1 w_880 (fun x1 => ?_)
  refine Jo_case ?_ (fun g2 => ?_)
  · refine Jo_look (off := 28) 32 dX7_nameOf_4 (by decide) (by decide) (by decide) ?_
    refine Jo_iloadn 1 dX7_nameOf_32 rfl rfl ?_
    refine Jo_bipush (v := (119 : Int32)) dX7_nameOf_33 (by decide) ?_
    refine Jo_icmp_ne 42 dX7_nameOf_35 (by decide) rfl ?_ ?_
    · refine Jo_iconst (v := (0 : Int32)) dX7_nameOf_38 (by decide) ?_
      refine Jo_goto 63 dX7_nameOf_39 (by decide) ?_
      exact Jo_iret rfl dX7_nameOf_63
    · refine Jo_iloadn 1 dX7_nameOf_42 rfl rfl ?_
      refine Jo_bipush (v := (110 : Int32)) dX7_nameOf_43 (by decide) ?_
      refine Jo_icmp_ne 52 dX7_nameOf_45 (by decide) rfl ?_ ?_
      · refine Jo_iconst (v := (1 : Int32)) dX7_nameOf_48 (by decide) ?_
        refine Jo_goto 63 dX7_nameOf_49 (by decide) ?_
        exact Jo_iret rfl dX7_nameOf_63
      · refine Jo_iloadn 1 dX7_nameOf_52 rfl rfl ?_
        refine Jo_bipush (v := (107 : Int32)) dX7_nameOf_53 (by decide) ?_
        refine Jo_icmp_ne 62 dX7_nameOf_55 (by decide) rfl ?_ ?_
        · refine Jo_iconst (v := (2 : Int32)) dX7_nameOf_58 (by decide) ?_
          refine Jo_goto 63 dX7_nameOf_59 (by decide) ?_
          exact Jo_iret rfl dX7_nameOf_63
        · refine Jo_iconst (v := (-1 : Int32)) dX7_nameOf_62 (by decide) ?_
          exact Jo_iret rfl dX7_nameOf_63
  refine Jo_case ?_ (fun g3 => ?_)
  · refine Jo_look (off := 60) 64 dX7_nameOf_4 (by decide) (by decide) (by decide) ?_
    refine Jo_iloadn 1 dX7_nameOf_64 rfl rfl ?_
    refine Jo_bipush (v := (119 : Int32)) dX7_nameOf_65 (by decide) ?_
    refine Jo_icmp_ne 74 dX7_nameOf_67 (by decide) rfl ?_ ?_
    · refine Jo_iconst (v := (0 : Int32)) dX7_nameOf_70 (by decide) ?_
      refine Jo_goto 85 dX7_nameOf_71 (by decide) ?_
      exact Jo_iret rfl dX7_nameOf_85
    · refine Jo_iloadn 1 dX7_nameOf_74 rfl rfl ?_
      refine Jo_bipush (v := (107 : Int32)) dX7_nameOf_75 (by decide) ?_
      refine Jo_icmp_ne 84 dX7_nameOf_77 (by decide) rfl ?_ ?_
      · refine Jo_iconst (v := (1 : Int32)) dX7_nameOf_80 (by decide) ?_
        refine Jo_goto 85 dX7_nameOf_81 (by decide) ?_
        exact Jo_iret rfl dX7_nameOf_85
      · refine Jo_iconst (v := (-1 : Int32)) dX7_nameOf_84 (by decide) ?_
        exact Jo_iret rfl dX7_nameOf_85
  refine Jo_look (off := 82) 86 dX7_nameOf_4 (by decide) (by have qg2 := i32ne 0 (by decide) g2; have qg3 := i32ne 1 (by decide) g3; simp [Op.lookupswitch.offset_cons, Op.lookupswitch.offset_nil, Ne.symm qg2, Ne.symm qg3]) (by decide) ?_
  refine Jo_iloadn 1 dX7_nameOf_86 rfl rfl ?_
  refine Jo_bipush (v := (115 : Int32)) dX7_nameOf_87 (by decide) ?_
  refine Jo_icmp_ne 96 dX7_nameOf_89 (by decide) rfl ?_ ?_
  · refine Jo_iconst (v := (0 : Int32)) dX7_nameOf_92 (by decide) ?_
    refine Jo_goto 107 dX7_nameOf_93 (by decide) ?_
    exact Jo_iret rfl dX7_nameOf_107
  · refine Jo_iloadn 1 dX7_nameOf_96 rfl rfl ?_
    refine Jo_bipush (v := (104 : Int32)) dX7_nameOf_97 (by decide) ?_
    refine Jo_icmp_ne 106 dX7_nameOf_99 (by decide) rfl ?_ ?_
    · refine Jo_iconst (v := (1 : Int32)) dX7_nameOf_102 (by decide) ?_
      refine Jo_goto 107 dX7_nameOf_103 (by decide) ?_
      exact Jo_iret rfl dX7_nameOf_107
    · refine Jo_iconst (v := (-1 : Int32)) dX7_nameOf_106 (by decide) ?_
      exact Jo_iret rfl dX7_nameOf_107
theorem K_X7_nameOf (E : jE) (s : hS) (a0 : Nat) (i1 : Int32) : jK E yX7_nameOf M_X7_nameOf cvI [.ref a0, .int i1] s (f_X7_nameOf s a0 i1) := jK_of ⟨by decide, rfl, rfl⟩ (Nat.le_of_ble_eq_true rfl) (b_X7_nameOf_in E s a0 i1)
