theorem d_MD_wellCell_0 : decode b_MD_wellCell 0 = .ok (.bipush 64, 2) := by decide +kernel
theorem d_MD_wellCell_2 : decode b_MD_wellCell 2 = .ok (.iload_n 1, 1) := by decide +kernel
theorem d_MD_wellCell_3 : decode b_MD_wellCell 3 = .ok (.imul, 1) := by decide +kernel
theorem d_MD_wellCell_4 : decode b_MD_wellCell 4 = .ok (.aload_n 0, 1) := by decide +kernel
theorem d_MD_wellCell_5 : decode b_MD_wellCell 5 = .ok (.iload_n 1, 1) := by decide +kernel
theorem d_MD_wellCell_6 : decode b_MD_wellCell 6 = .ok (.iload_n 2, 1) := by decide +kernel
theorem d_MD_wellCell_7 : decode b_MD_wellCell 7 = .ok (.iconst 1, 1) := by decide +kernel
theorem d_MD_wellCell_8 : decode b_MD_wellCell 8 = .ok (.isub, 1) := by decide +kernel
theorem d_MD_wellCell_9 : decode b_MD_wellCell 9 = .ok (.invokevirtual 115, 3) := by decide +kernel
theorem d_MD_wellCell_12 : decode b_MD_wellCell 12 = .ok (.iadd, 1) := by decide +kernel
theorem d_MD_wellCell_13 : decode b_MD_wellCell 13 = .ok (.istore_n 3, 1) := by decide +kernel
theorem d_MD_wellCell_14 : decode b_MD_wellCell 14 = .ok (.aload_n 0, 1) := by decide +kernel
theorem d_MD_wellCell_15 : decode b_MD_wellCell 15 = .ok (.bipush 64, 2) := by decide +kernel
theorem d_MD_wellCell_17 : decode b_MD_wellCell 17 = .ok (.iload_n 1, 1) := by decide +kernel
theorem d_MD_wellCell_18 : decode b_MD_wellCell 18 = .ok (.imul, 1) := by decide +kernel
theorem d_MD_wellCell_19 : decode b_MD_wellCell 19 = .ok (.aload_n 0, 1) := by decide +kernel
theorem d_MD_wellCell_20 : decode b_MD_wellCell 20 = .ok (.iload_n 1, 1) := by decide +kernel
theorem d_MD_wellCell_21 : decode b_MD_wellCell 21 = .ok (.iload_n 2, 1) := by decide +kernel
theorem d_MD_wellCell_22 : decode b_MD_wellCell 22 = .ok (.invokevirtual 115, 3) := by decide +kernel
theorem d_MD_wellCell_25 : decode b_MD_wellCell 25 = .ok (.iadd, 1) := by decide +kernel
theorem d_MD_wellCell_26 : decode b_MD_wellCell 26 = .ok (.putfield 132, 3) := by decide +kernel
theorem d_MD_wellCell_29 : decode b_MD_wellCell 29 = .ok (.aload_n 0, 1) := by decide +kernel
theorem d_MD_wellCell_30 : decode b_MD_wellCell 30 = .ok (.iconst 0, 1) := by decide +kernel
theorem d_MD_wellCell_31 : decode b_MD_wellCell 31 = .ok (.putfield 129, 3) := by decide +kernel
theorem d_MD_wellCell_34 : decode b_MD_wellCell 34 = .ok (.aload_n 0, 1) := by decide +kernel
theorem d_MD_wellCell_35 : decode b_MD_wellCell 35 = .ok (.aload_n 0, 1) := by decide +kernel
theorem d_MD_wellCell_36 : decode b_MD_wellCell 36 = .ok (.aload_n 0, 1) := by decide +kernel
theorem d_MD_wellCell_37 : decode b_MD_wellCell 37 = .ok (.getfield 7, 3) := by decide +kernel
theorem d_MD_wellCell_40 : decode b_MD_wellCell 40 = .ok (.iload_n 3, 1) := by decide +kernel
theorem d_MD_wellCell_41 : decode b_MD_wellCell 41 = .ok (.invokevirtual 135, 3) := by decide +kernel
theorem d_MD_wellCell_44 : decode b_MD_wellCell 44 = .ok (.putfield 91, 3) := by decide +kernel
theorem d_MD_wellCell_47 : decode b_MD_wellCell 47 = .ok (.aload_n 0, 1) := by decide +kernel
theorem d_MD_wellCell_48 : decode b_MD_wellCell 48 = .ok (.aload_n 0, 1) := by decide +kernel
theorem d_MD_wellCell_49 : decode b_MD_wellCell 49 = .ok (.getfield 7, 3) := by decide +kernel
theorem d_MD_wellCell_52 : decode b_MD_wellCell 52 = .ok (.iload_n 3, 1) := by decide +kernel
theorem d_MD_wellCell_53 : decode b_MD_wellCell 53 = .ok (.invokevirtual 135, 3) := by decide +kernel
theorem d_MD_wellCell_56 : decode b_MD_wellCell 56 = .ok (.istore 4, 2) := by decide +kernel
theorem d_MD_wellCell_58 : decode b_MD_wellCell 58 = .ok (.aload_n 0, 1) := by decide +kernel
theorem d_MD_wellCell_59 : decode b_MD_wellCell 59 = .ok (.getfield 129, 3) := by decide +kernel
theorem d_MD_wellCell_62 : decode b_MD_wellCell 62 = .ok (.ifCond .ne 47, 3) := by decide +kernel
theorem d_MD_wellCell_65 : decode b_MD_wellCell 65 = .ok (.iload 4, 2) := by decide +kernel
theorem d_MD_wellCell_67 : decode b_MD_wellCell 67 = .ok (.ldc 167, 2) := by decide +kernel
theorem d_MD_wellCell_69 : decode b_MD_wellCell 69 = .ok (.if_icmp .gt 40, 3) := by decide +kernel
theorem d_MD_wellCell_72 : decode b_MD_wellCell 72 = .ok (.aload_n 0, 1) := by decide +kernel
theorem d_MD_wellCell_73 : decode b_MD_wellCell 73 = .ok (.getfield 91, 3) := by decide +kernel
theorem d_MD_wellCell_76 : decode b_MD_wellCell 76 = .ok (.sipush 400, 3) := by decide +kernel
theorem d_MD_wellCell_79 : decode b_MD_wellCell 79 = .ok (.if_icmp .gt 30, 3) := by decide +kernel
theorem d_MD_wellCell_82 : decode b_MD_wellCell 82 = .ok (.iload_n 3, 1) := by decide +kernel
theorem d_MD_wellCell_83 : decode b_MD_wellCell 83 = .ok (.aload_n 0, 1) := by decide +kernel
theorem d_MD_wellCell_84 : decode b_MD_wellCell 84 = .ok (.getfield 132, 3) := by decide +kernel
theorem d_MD_wellCell_87 : decode b_MD_wellCell 87 = .ok (.isub, 1) := by decide +kernel
theorem d_MD_wellCell_88 : decode b_MD_wellCell 88 = .ok (.aload_n 0, 1) := by decide +kernel
theorem d_MD_wellCell_89 : decode b_MD_wellCell 89 = .ok (.getfield 91, 3) := by decide +kernel
theorem d_MD_wellCell_92 : decode b_MD_wellCell 92 = .ok (.bipush 24, 2) := by decide +kernel
theorem d_MD_wellCell_94 : decode b_MD_wellCell 94 = .ok (.if_icmp .le 8, 3) := by decide +kernel
theorem d_MD_wellCell_97 : decode b_MD_wellCell 97 = .ok (.bipush 17, 2) := by decide +kernel
theorem d_MD_wellCell_99 : decode b_MD_wellCell 99 = .ok (.goto 7, 3) := by decide +kernel
theorem d_MD_wellCell_102 : decode b_MD_wellCell 102 = .ok (.aload_n 0, 1) := by decide +kernel
theorem d_MD_wellCell_103 : decode b_MD_wellCell 103 = .ok (.getfield 91, 3) := by decide +kernel
theorem d_MD_wellCell_106 : decode b_MD_wellCell 106 = .ok (.if_icmp .eq 6, 3) := by decide +kernel
theorem d_MD_wellCell_109 : decode b_MD_wellCell 109 = .ok (.bipush (-2), 2) := by decide +kernel
theorem d_MD_wellCell_111 : decode b_MD_wellCell 111 = .ok (.ireturn, 1) := by decide +kernel
theorem d_MD_wellCell_112 : decode b_MD_wellCell 112 = .ok (.aload_n 0, 1) := by decide +kernel
theorem d_MD_wellCell_113 : decode b_MD_wellCell 113 = .ok (.getfield 91, 3) := by decide +kernel
theorem d_MD_wellCell_116 : decode b_MD_wellCell 116 = .ok (.bipush 24, 2) := by decide +kernel
theorem d_MD_wellCell_118 : decode b_MD_wellCell 118 = .ok (.if_icmp .le 8, 3) := by decide +kernel
theorem d_MD_wellCell_121 : decode b_MD_wellCell 121 = .ok (.bipush 16, 2) := by decide +kernel
theorem d_MD_wellCell_123 : decode b_MD_wellCell 123 = .ok (.goto 7, 3) := by decide +kernel
theorem d_MD_wellCell_126 : decode b_MD_wellCell 126 = .ok (.aload_n 0, 1) := by decide +kernel
theorem d_MD_wellCell_127 : decode b_MD_wellCell 127 = .ok (.getfield 91, 3) := by decide +kernel
theorem d_MD_wellCell_130 : decode b_MD_wellCell 130 = .ok (.istore 5, 2) := by decide +kernel
theorem d_MD_wellCell_132 : decode b_MD_wellCell 132 = .ok (.iconst 0, 1) := by decide +kernel
theorem d_MD_wellCell_133 : decode b_MD_wellCell 133 = .ok (.istore 6, 2) := by decide +kernel
theorem d_MD_wellCell_135 : decode b_MD_wellCell 135 = .ok (.iload 6, 2) := by decide +kernel
theorem d_MD_wellCell_137 : decode b_MD_wellCell 137 = .ok (.iload 5, 2) := by decide +kernel
theorem d_MD_wellCell_139 : decode b_MD_wellCell 139 = .ok (.if_icmp .ge 28, 3) := by decide +kernel
theorem d_MD_wellCell_142 : decode b_MD_wellCell 142 = .ok (.aload_n 0, 1) := by decide +kernel
theorem d_MD_wellCell_143 : decode b_MD_wellCell 143 = .ok (.getfield 50, 3) := by decide +kernel
theorem d_MD_wellCell_146 : decode b_MD_wellCell 146 = .ok (.iload 6, 2) := by decide +kernel
theorem d_MD_wellCell_148 : decode b_MD_wellCell 148 = .ok (.aload_n 0, 1) := by decide +kernel
theorem d_MD_wellCell_149 : decode b_MD_wellCell 149 = .ok (.getfield 7, 3) := by decide +kernel
theorem d_MD_wellCell_152 : decode b_MD_wellCell 152 = .ok (.aload_n 0, 1) := by decide +kernel
theorem d_MD_wellCell_153 : decode b_MD_wellCell 153 = .ok (.getfield 132, 3) := by decide +kernel
theorem d_MD_wellCell_156 : decode b_MD_wellCell 156 = .ok (.iload 6, 2) := by decide +kernel
theorem d_MD_wellCell_158 : decode b_MD_wellCell 158 = .ok (.iadd, 1) := by decide +kernel
theorem d_MD_wellCell_159 : decode b_MD_wellCell 159 = .ok (.iaload, 1) := by decide +kernel
theorem d_MD_wellCell_160 : decode b_MD_wellCell 160 = .ok (.iastore, 1) := by decide +kernel
theorem d_MD_wellCell_161 : decode b_MD_wellCell 161 = .ok (.iinc 6 1, 3) := by decide +kernel
theorem d_MD_wellCell_164 : decode b_MD_wellCell 164 = .ok (.goto (-29), 3) := by decide +kernel
theorem d_MD_wellCell_167 : decode b_MD_wellCell 167 = .ok (.aload_n 0, 1) := by decide +kernel
theorem d_MD_wellCell_168 : decode b_MD_wellCell 168 = .ok (.getfield 91, 3) := by decide +kernel
theorem d_MD_wellCell_171 : decode b_MD_wellCell 171 = .ok (.bipush 24, 2) := by decide +kernel
theorem d_MD_wellCell_173 : decode b_MD_wellCell 173 = .ok (.if_icmp .le 18, 3) := by decide +kernel
theorem d_MD_wellCell_176 : decode b_MD_wellCell 176 = .ok (.aload_n 0, 1) := by decide +kernel
theorem d_MD_wellCell_177 : decode b_MD_wellCell 177 = .ok (.getfield 7, 3) := by decide +kernel
theorem d_MD_wellCell_180 : decode b_MD_wellCell 180 = .ok (.aload_n 0, 1) := by decide +kernel
theorem d_MD_wellCell_181 : decode b_MD_wellCell 181 = .ok (.getfield 132, 3) := by decide +kernel
theorem d_MD_wellCell_184 : decode b_MD_wellCell 184 = .ok (.bipush 16, 2) := by decide +kernel
theorem d_MD_wellCell_186 : decode b_MD_wellCell 186 = .ok (.iadd, 1) := by decide +kernel
theorem d_MD_wellCell_187 : decode b_MD_wellCell 187 = .ok (.iaload, 1) := by decide +kernel
theorem d_MD_wellCell_188 : decode b_MD_wellCell 188 = .ok (.goto 4, 3) := by decide +kernel
theorem d_MD_wellCell_191 : decode b_MD_wellCell 191 = .ok (.iconst 0, 1) := by decide +kernel
theorem d_MD_wellCell_192 : decode b_MD_wellCell 192 = .ok (.istore 6, 2) := by decide +kernel
theorem d_MD_wellCell_194 : decode b_MD_wellCell 194 = .ok (.iload 5, 2) := by decide +kernel
theorem d_MD_wellCell_196 : decode b_MD_wellCell 196 = .ok (.aload_n 0, 1) := by decide +kernel
theorem d_MD_wellCell_197 : decode b_MD_wellCell 197 = .ok (.getfield 91, 3) := by decide +kernel
theorem d_MD_wellCell_200 : decode b_MD_wellCell 200 = .ok (.if_icmp .ge 116, 3) := by decide +kernel
theorem d_MD_wellCell_203 : decode b_MD_wellCell 203 = .ok (.aload_n 0, 1) := by decide +kernel
theorem d_MD_wellCell_204 : decode b_MD_wellCell 204 = .ok (.iload 6, 2) := by decide +kernel
theorem d_MD_wellCell_206 : decode b_MD_wellCell 206 = .ok (.invokevirtual 241, 3) := by decide +kernel
theorem d_MD_wellCell_209 : decode b_MD_wellCell 209 = .ok (.ifCond .ne 6, 3) := by decide +kernel
theorem d_MD_wellCell_212 : decode b_MD_wellCell 212 = .ok (.bipush (-2), 2) := by decide +kernel
theorem d_MD_wellCell_214 : decode b_MD_wellCell 214 = .ok (.ireturn, 1) := by decide +kernel
theorem d_MD_wellCell_215 : decode b_MD_wellCell 215 = .ok (.iconst 1, 1) := by decide +kernel
theorem d_MD_wellCell_216 : decode b_MD_wellCell 216 = .ok (.istore 7, 2) := by decide +kernel
theorem d_MD_wellCell_218 : decode b_MD_wellCell 218 = .ok (.iload 7, 2) := by decide +kernel
theorem d_MD_wellCell_220 : decode b_MD_wellCell 220 = .ok (.bipush 64, 2) := by decide +kernel
theorem d_MD_wellCell_222 : decode b_MD_wellCell 222 = .ok (.if_icmp .ge 79, 3) := by decide +kernel
theorem d_MD_wellCell_225 : decode b_MD_wellCell 225 = .ok (.iload 5, 2) := by decide +kernel
theorem d_MD_wellCell_227 : decode b_MD_wellCell 227 = .ok (.aload_n 0, 1) := by decide +kernel
theorem d_MD_wellCell_228 : decode b_MD_wellCell 228 = .ok (.getfield 91, 3) := by decide +kernel
theorem d_MD_wellCell_231 : decode b_MD_wellCell 231 = .ok (.if_icmp .ge 26, 3) := by decide +kernel
theorem d_MD_wellCell_234 : decode b_MD_wellCell 234 = .ok (.aload_n 0, 1) := by decide +kernel
theorem d_MD_wellCell_235 : decode b_MD_wellCell 235 = .ok (.getfield 50, 3) := by decide +kernel
theorem d_MD_wellCell_238 : decode b_MD_wellCell 238 = .ok (.iload 5, 2) := by decide +kernel
theorem d_MD_wellCell_240 : decode b_MD_wellCell 240 = .ok (.aload_n 0, 1) := by decide +kernel
theorem d_MD_wellCell_241 : decode b_MD_wellCell 241 = .ok (.getfield 7, 3) := by decide +kernel
theorem d_MD_wellCell_244 : decode b_MD_wellCell 244 = .ok (.bipush 64, 2) := by decide +kernel
theorem d_MD_wellCell_246 : decode b_MD_wellCell 246 = .ok (.iload 6, 2) := by decide +kernel
theorem d_MD_wellCell_248 : decode b_MD_wellCell 248 = .ok (.imul, 1) := by decide +kernel
theorem d_MD_wellCell_249 : decode b_MD_wellCell 249 = .ok (.iload 7, 2) := by decide +kernel
theorem d_MD_wellCell_251 : decode b_MD_wellCell 251 = .ok (.iadd, 1) := by decide +kernel
theorem d_MD_wellCell_252 : decode b_MD_wellCell 252 = .ok (.iaload, 1) := by decide +kernel
theorem d_MD_wellCell_253 : decode b_MD_wellCell 253 = .ok (.iastore, 1) := by decide +kernel
theorem d_MD_wellCell_254 : decode b_MD_wellCell 254 = .ok (.goto 22, 3) := by decide +kernel
theorem d_MD_wellCell_257 : decode b_MD_wellCell 257 = .ok (.aload_n 0, 1) := by decide +kernel
theorem d_MD_wellCell_258 : decode b_MD_wellCell 258 = .ok (.getfield 7, 3) := by decide +kernel
theorem d_MD_wellCell_261 : decode b_MD_wellCell 261 = .ok (.bipush 64, 2) := by decide +kernel
theorem d_MD_wellCell_263 : decode b_MD_wellCell 263 = .ok (.iload 6, 2) := by decide +kernel
theorem d_MD_wellCell_265 : decode b_MD_wellCell 265 = .ok (.imul, 1) := by decide +kernel
theorem d_MD_wellCell_266 : decode b_MD_wellCell 266 = .ok (.iload 7, 2) := by decide +kernel
theorem d_MD_wellCell_268 : decode b_MD_wellCell 268 = .ok (.iadd, 1) := by decide +kernel
theorem d_MD_wellCell_269 : decode b_MD_wellCell 269 = .ok (.iaload, 1) := by decide +kernel
theorem d_MD_wellCell_270 : decode b_MD_wellCell 270 = .ok (.ifCond .eq 6, 3) := by decide +kernel
theorem d_MD_wellCell_273 : decode b_MD_wellCell 273 = .ok (.bipush (-2), 2) := by decide +kernel
theorem d_MD_wellCell_275 : decode b_MD_wellCell 275 = .ok (.ireturn, 1) := by decide +kernel
theorem d_MD_wellCell_276 : decode b_MD_wellCell 276 = .ok (.iload 5, 2) := by decide +kernel
theorem d_MD_wellCell_278 : decode b_MD_wellCell 278 = .ok (.iload 5, 2) := by decide +kernel
theorem d_MD_wellCell_280 : decode b_MD_wellCell 280 = .ok (.aload_n 0, 1) := by decide +kernel
theorem d_MD_wellCell_281 : decode b_MD_wellCell 281 = .ok (.getfield 91, 3) := by decide +kernel
theorem d_MD_wellCell_284 : decode b_MD_wellCell 284 = .ok (.if_icmp .ge 7, 3) := by decide +kernel
theorem d_MD_wellCell_287 : decode b_MD_wellCell 287 = .ok (.iconst 1, 1) := by decide +kernel
theorem d_MD_wellCell_288 : decode b_MD_wellCell 288 = .ok (.goto 4, 3) := by decide +kernel
theorem d_MD_wellCell_291 : decode b_MD_wellCell 291 = .ok (.iconst 0, 1) := by decide +kernel
theorem d_MD_wellCell_292 : decode b_MD_wellCell 292 = .ok (.iadd, 1) := by decide +kernel
theorem d_MD_wellCell_293 : decode b_MD_wellCell 293 = .ok (.istore 5, 2) := by decide +kernel
theorem d_MD_wellCell_295 : decode b_MD_wellCell 295 = .ok (.iinc 7 1, 3) := by decide +kernel
theorem d_MD_wellCell_298 : decode b_MD_wellCell 298 = .ok (.goto (-80), 3) := by decide +kernel
theorem d_MD_wellCell_301 : decode b_MD_wellCell 301 = .ok (.aload_n 0, 1) := by decide +kernel
theorem d_MD_wellCell_302 : decode b_MD_wellCell 302 = .ok (.getfield 7, 3) := by decide +kernel
theorem d_MD_wellCell_305 : decode b_MD_wellCell 305 = .ok (.bipush 64, 2) := by decide +kernel
theorem d_MD_wellCell_307 : decode b_MD_wellCell 307 = .ok (.iload 6, 2) := by decide +kernel
theorem d_MD_wellCell_309 : decode b_MD_wellCell 309 = .ok (.imul, 1) := by decide +kernel
theorem d_MD_wellCell_310 : decode b_MD_wellCell 310 = .ok (.iaload, 1) := by decide +kernel
theorem d_MD_wellCell_311 : decode b_MD_wellCell 311 = .ok (.istore 6, 2) := by decide +kernel
theorem d_MD_wellCell_313 : decode b_MD_wellCell 313 = .ok (.goto (-119), 3) := by decide +kernel
theorem d_MD_wellCell_316 : decode b_MD_wellCell 316 = .ok (.iload 6, 2) := by decide +kernel
theorem d_MD_wellCell_318 : decode b_MD_wellCell 318 = .ok (.ifCond .ne 15, 3) := by decide +kernel
theorem d_MD_wellCell_321 : decode b_MD_wellCell 321 = .ok (.aload_n 0, 1) := by decide +kernel
theorem d_MD_wellCell_322 : decode b_MD_wellCell 322 = .ok (.invokevirtual 253, 3) := by decide +kernel
theorem d_MD_wellCell_325 : decode b_MD_wellCell 325 = .ok (.ifCond .eq 8, 3) := by decide +kernel
theorem d_MD_wellCell_328 : decode b_MD_wellCell 328 = .ok (.iload 4, 2) := by decide +kernel
theorem d_MD_wellCell_330 : decode b_MD_wellCell 330 = .ok (.goto 5, 3) := by decide +kernel
theorem d_MD_wellCell_333 : decode b_MD_wellCell 333 = .ok (.bipush (-2), 2) := by decide +kernel
theorem d_MD_wellCell_335 : decode b_MD_wellCell 335 = .ok (.ireturn, 1) := by decide +kernel
noncomputable def q_MD_wellCell_316 (v_onDisk : Int32) (v_now : Nat → Int32) (v_length : Int32) (v_at : Int32) (v_bad : Int32) (v_record : Nat → Int32) (v_used : Nat → Int32) (x_4 : Int32) (x_6 : Int32) : Option (Int32 × Int32 × Int32 × Int32 × (Nat → Int32) × (Nat → Int32)) :=
  pu_br (x_6 = 0) (pu_b3 (f_MD_wellRecord v_length v_record v_at v_bad) (fun r11 w12 w13 => pu_br (r11 = 0) (some ((-2 : Int32), v_length, w12, w13, v_record, v_used)) (some (x_4, v_length, w12, w13, v_record, v_used)))) (some ((-2 : Int32), v_length, v_at, v_bad, v_record, v_used))
noncomputable def q_MD_wellCell_301 (kb : (Nat → Int32) → (Nat → Int32) → Int32 → Int32 → Option (Int32 × Int32 × Int32 × Int32 × (Nat → Int32) × (Nat → Int32))) (kx_316 : (Nat → Int32) → (Nat → Int32) → Int32 → Option (Int32 × Int32 × Int32 × Int32 × (Nat → Int32) × (Nat → Int32))) (v_onDisk : Int32) (v_now : Nat → Int32) (v_length : Int32) (v_at : Int32) (v_bad : Int32) (v_record : Nat → Int32) (v_used : Nat → Int32) (x_4 : Int32) (x_5 : Int32) (x_6 : Int32) : Option (Int32 × Int32 × Int32 × Int32 × (Nat → Int32) × (Nat → Int32)) :=
  pu_ck (vp_in ((64 : Int32) * x_6) 1600) (pu_nm (v_now ((64 : Int32) * x_6).toNatClampNeg) (fun t16 => kb v_record v_used x_5 t16))
noncomputable def q_MD_wellCell_292 (kb : (Nat → Int32) → Int32 → Int32 → Option (Int32 × Int32 × Int32 × Int32 × (Nat → Int32) × (Nat → Int32))) (kx_301 : (Nat → Int32) → Int32 → Option (Int32 × Int32 × Int32 × Int32 × (Nat → Int32) × (Nat → Int32))) (v_onDisk : Int32) (v_now : Nat → Int32) (v_length : Int32) (v_at : Int32) (v_bad : Int32) (v_record : Nat → Int32) (v_used : Nat → Int32) (x_4 : Int32) (x_6 : Int32) (x_7 : Int32) (s_0 : Int32) (s_1 : Int32) : Option (Int32 × Int32 × Int32 × Int32 × (Nat → Int32) × (Nat → Int32)) :=
  pu_nm (s_0 + s_1) (fun t17 => pu_nm (x_7 + (1 : Int32)) (fun t18 => kb v_record t17 t18))
noncomputable def q_MD_wellCell_276 (kb : (Nat → Int32) → Int32 → Int32 → Option (Int32 × Int32 × Int32 × Int32 × (Nat → Int32) × (Nat → Int32))) (kx_301 : (Nat → Int32) → Int32 → Option (Int32 × Int32 × Int32 × Int32 × (Nat → Int32) × (Nat → Int32))) (v_onDisk : Int32) (v_now : Nat → Int32) (v_length : Int32) (v_at : Int32) (v_bad : Int32) (v_record : Nat → Int32) (v_used : Nat → Int32) (x_4 : Int32) (x_5 : Int32) (x_6 : Int32) (x_7 : Int32) : Option (Int32 × Int32 × Int32 × Int32 × (Nat → Int32) × (Nat → Int32)) :=
  pu_br (v_length ≤ x_5) (q_MD_wellCell_292 kb kx_301 v_onDisk v_now v_length v_at v_bad v_record v_used x_4 x_6 x_7 x_5 (0 : Int32)) (q_MD_wellCell_292 kb kx_301 v_onDisk v_now v_length v_at v_bad v_record v_used x_4 x_6 x_7 x_5 (1 : Int32))
noncomputable def q_MD_wellCell_218 (kx_301 : (Nat → Int32) → Int32 → Option (Int32 × Int32 × Int32 × Int32 × (Nat → Int32) × (Nat → Int32))) (v_onDisk : Int32) (v_now : Nat → Int32) (v_length : Int32) (v_at : Int32) (v_bad : Int32) (v_used : Nat → Int32) (x_4 : Int32) (x_6 : Int32) : Nat → (Nat → Int32) → Int32 → Int32 → Option (Int32 × Int32 × Int32 × Int32 × (Nat → Int32) × (Nat → Int32))
  | 0, _, _, _ => none
  | n + 1, v_record, x_5, x_7 => pu_br ((64 : Int32) ≤ x_7) (kx_301 v_record x_5) (pu_br (v_length ≤ x_5) (pu_ck (vp_in (((64 : Int32) * x_6) + x_7) 1600) (pu_br ((v_now (((64 : Int32) * x_6) + x_7).toNatClampNeg) = 0) (q_MD_wellCell_276 (q_MD_wellCell_218 kx_301 v_onDisk v_now v_length v_at v_bad v_used x_4 x_6 n) kx_301 v_onDisk v_now v_length v_at v_bad v_record v_used x_4 x_5 x_6 x_7) (some ((-2 : Int32), v_length, v_at, v_bad, v_record, v_used)))) (pu_ck (vp_in (((64 : Int32) * x_6) + x_7) 1600) (pu_ck (vp_in x_5 700) (pu_nm (upd v_record x_5.toNatClampNeg (v_now (((64 : Int32) * x_6) + x_7).toNatClampNeg)) (fun a19 => q_MD_wellCell_276 (q_MD_wellCell_218 kx_301 v_onDisk v_now v_length v_at v_bad v_used x_4 x_6 n) kx_301 v_onDisk v_now v_length v_at v_bad a19 v_used x_4 x_5 x_6 x_7)))))
noncomputable def q_MD_wellCell_194 (kx_316 : (Nat → Int32) → (Nat → Int32) → Int32 → Option (Int32 × Int32 × Int32 × Int32 × (Nat → Int32) × (Nat → Int32))) (v_onDisk : Int32) (v_now : Nat → Int32) (v_length : Int32) (v_at : Int32) (v_bad : Int32) (x_4 : Int32) : Nat → (Nat → Int32) → (Nat → Int32) → Int32 → Int32 → Option (Int32 × Int32 × Int32 × Int32 × (Nat → Int32) × (Nat → Int32))
  | 0, _, _, _, _ => none
  | n + 1, v_record, v_used, x_5, x_6 => pu_br (v_length ≤ x_5) (kx_316 v_record v_used x_6) (pu_b2 (f_MD_meet v_onDisk v_used x_6) (fun r14 w15 => pu_br (r14 = 0) (some ((-2 : Int32), v_length, v_at, v_bad, v_record, w15)) (q_MD_wellCell_218 (fun v_record x_5 => q_MD_wellCell_301 (q_MD_wellCell_194 kx_316 v_onDisk v_now v_length v_at v_bad x_4 n) kx_316 v_onDisk v_now v_length v_at v_bad v_record w15 x_4 x_5 x_6) v_onDisk v_now v_length v_at v_bad w15 x_4 x_6 pu_fu v_record x_5 (1 : Int32))))
noncomputable def q_MD_wellCell_192 (v_onDisk : Int32) (v_now : Nat → Int32) (v_length : Int32) (v_at : Int32) (v_bad : Int32) (v_record : Nat → Int32) (v_used : Nat → Int32) (x_4 : Int32) (x_5 : Int32) (s_0 : Int32) : Option (Int32 × Int32 × Int32 × Int32 × (Nat → Int32) × (Nat → Int32)) :=
  q_MD_wellCell_194 (fun v_record v_used x_6 => q_MD_wellCell_316 v_onDisk v_now v_length v_at v_bad v_record v_used x_4 x_6) v_onDisk v_now v_length v_at v_bad x_4 pu_fu v_record v_used x_5 s_0
noncomputable def q_MD_wellCell_167 (v_onDisk : Int32) (v_now : Nat → Int32) (v_length : Int32) (v_at : Int32) (v_bad : Int32) (v_record : Nat → Int32) (v_used : Nat → Int32) (x_4 : Int32) (x_5 : Int32) : Option (Int32 × Int32 × Int32 × Int32 × (Nat → Int32) × (Nat → Int32)) :=
  pu_br (v_length ≤ (24 : Int32)) (q_MD_wellCell_192 v_onDisk v_now v_length v_at v_bad v_record v_used x_4 x_5 (0 : Int32)) (pu_ck (vp_in (v_at + (16 : Int32)) 1600) (q_MD_wellCell_192 v_onDisk v_now v_length v_at v_bad v_record v_used x_4 x_5 (v_now (v_at + (16 : Int32)).toNatClampNeg)))
noncomputable def q_MD_wellCell_135 (kx_167 : (Nat → Int32) → Option (Int32 × Int32 × Int32 × Int32 × (Nat → Int32) × (Nat → Int32))) (v_onDisk : Int32) (v_now : Nat → Int32) (v_length : Int32) (v_at : Int32) (v_bad : Int32) (v_used : Nat → Int32) (x_4 : Int32) (x_5 : Int32) : Nat → (Nat → Int32) → Int32 → Option (Int32 × Int32 × Int32 × Int32 × (Nat → Int32) × (Nat → Int32))
  | 0, _, _ => none
  | n + 1, v_record, x_6 => pu_br (x_5 ≤ x_6) (kx_167 v_record) (pu_ck (vp_in (v_at + x_6) 1600) (pu_ck (vp_in x_6 700) (pu_nm (upd v_record x_6.toNatClampNeg (v_now (v_at + x_6).toNatClampNeg)) (fun a20 => pu_nm (x_6 + (1 : Int32)) (fun t21 => q_MD_wellCell_135 kx_167 v_onDisk v_now v_length v_at v_bad v_used x_4 x_5 n a20 t21)))))
noncomputable def q_MD_wellCell_130 (v_onDisk : Int32) (v_now : Nat → Int32) (v_length : Int32) (v_at : Int32) (v_bad : Int32) (v_record : Nat → Int32) (v_used : Nat → Int32) (x_4 : Int32) (s_0 : Int32) : Option (Int32 × Int32 × Int32 × Int32 × (Nat → Int32) × (Nat → Int32)) :=
  q_MD_wellCell_135 (fun v_record => q_MD_wellCell_167 v_onDisk v_now v_length v_at v_bad v_record v_used x_4 s_0) v_onDisk v_now v_length v_at v_bad v_used x_4 s_0 pu_fu v_record (0 : Int32)
noncomputable def q_MD_wellCell_106 (v_onDisk : Int32) (v_now : Nat → Int32) (v_length : Int32) (v_at : Int32) (v_bad : Int32) (v_record : Nat → Int32) (v_used : Nat → Int32) (x_4 : Int32) (s_0 : Int32) (s_1 : Int32) : Option (Int32 × Int32 × Int32 × Int32 × (Nat → Int32) × (Nat → Int32)) :=
  pu_br (s_0 = s_1) (pu_br (v_length ≤ (24 : Int32)) (q_MD_wellCell_130 v_onDisk v_now v_length v_at v_bad v_record v_used x_4 v_length) (q_MD_wellCell_130 v_onDisk v_now v_length v_at v_bad v_record v_used x_4 (16 : Int32))) (some ((-2 : Int32), v_length, v_at, v_bad, v_record, v_used))
noncomputable def f_MD_wellCell (v_onDisk : Int32) (v_now : Nat → Int32) (v_length : Int32) (v_at : Int32) (v_bad : Int32) (v_record : Nat → Int32) (v_used : Nat → Int32) (x_1 : Int32) (x_2 : Int32) : Option (Int32 × Int32 × Int32 × Int32 × (Nat → Int32) × (Nat → Int32)) :=
  pu_b1 (f_MD_begin v_now x_1 (x_2 - (1 : Int32))) (fun r1 => pu_nm (((64 : Int32) * x_1) + r1) (fun t2 => pu_b1 (f_MD_begin v_now x_1 x_2) (fun r3 => pu_nm (((64 : Int32) * x_1) + r3) (fun t4 => pu_b3 (f_MD_read 1600 v_now t4 (0 : Int32) t2) (fun r5 w6 w7 => pu_b3 (f_MD_read 1600 v_now w6 w7 t2) (fun r8 w9 w10 => pu_br (w10 = 0) (pu_br ((1000000 : Int32) < r8) (some ((-2 : Int32), r5, w9, w10, v_record, v_used)) (pu_br ((400 : Int32) < r5) (some ((-2 : Int32), r5, w9, w10, v_record, v_used)) (pu_br (r5 ≤ (24 : Int32)) (q_MD_wellCell_106 v_onDisk v_now r5 w9 w10 v_record v_used r8 (t2 - w9) r5) (q_MD_wellCell_106 v_onDisk v_now r5 w9 w10 v_record v_used r8 (t2 - w9) (17 : Int32))))) (some ((-2 : Int32), r5, w9, w10, v_record, v_used))))))))
abbrev rm_MD_wellCell : Room := { frames := 3, cells := 0, slots := 0, locals := 71 }
set_option maxHeartbeats 8000000 in
set_option maxRecDepth 100000 in
theorem c_MD_wellCell (l : Launch) (D : va_G) (cI cJ cB cZ : ClassId) (sz : Nat) (q_this : Nat) (q_now : Nat) (q_disk : Nat) (q_before : Nat) (q_recordPage : Nat) (q_recordBytes : Nat) (q_isBlob : Nat) (q_integer : Nat) (q_size : Nat) (q_blobs : Nat) (q_record : Nat) (q_cellLength : Nat) (q_row : Nat) (q_cell : Nat) (q_way : Nat) (q_turn : Nat) (q_used : Nat) (v_onDisk : Int32) (v_head : Int32) (v_headPages : Int32) (v_records : Int32) (v_up : Int32) (v_armed : Int32) (v_columns : Int32) (v_length : Int32) (v_kind : Int32) (v_cells : Int32) (v_last : Int32) (v_made : Int32) (v_deep : Int32) (v_at : Int32) (v_bad : Int32) (v_now : Nat → Int32) (v_record : Nat → Int32) (v_used : Nat → Int32) (x_1 : Int32) (x_2 : Int32) (o_r : Int32) (o_length : Int32) (o_at : Int32) (o_bad : Int32) (o_record : Nat → Int32) (o_used : Nat → Int32) (hf : f_MD_wellCell v_onDisk v_now v_length v_at v_bad v_record v_used x_1 x_2 = some (o_r, o_length, o_at, o_bad, o_record, o_used)) : Met l y_MD_wellCell (.code y_MD_wellCell b_MD_wellCell 8 (some .int) :: pu_wA) rm_MD_wellCell (pu_pc D pu_cl (pu_ty cI cJ cB cZ) [.ref q_this, .int x_1, .int x_2] [(q_this, .inr (8, [.ref q_now, .ref q_disk, .ref q_before, .int v_onDisk, .int v_head, .int v_headPages, .int v_records, .ref q_recordPage, .ref q_recordBytes, .int v_up, .int v_armed, .int v_columns, .ref q_isBlob, .ref q_integer, .ref q_size, .ref q_blobs, .int v_length, .ref q_record, .int v_kind, .int v_cells, .int v_last, .ref q_cellLength, .ref q_row, .int v_made, .ref q_cell, .int v_deep, .ref q_way, .ref q_turn, .int v_at, .int v_bad, .ref q_used])), (q_now, .inl (cI, 1600, .inl v_now)), (q_record, .inl (cI, 700, .inl v_record)), (q_used, .inl (cZ, 25, .inl v_used))] sz) (pu_qi D pu_cl (pu_ty cI cJ cB cZ) [(q_this, .inr (8, [.ref q_now, .ref q_disk, .ref q_before, .int v_onDisk, .int v_head, .int v_headPages, .int v_records, .ref q_recordPage, .ref q_recordBytes, .int v_up, .int v_armed, .int v_columns, .ref q_isBlob, .ref q_integer, .ref q_size, .ref q_blobs, .int v_length, .ref q_record, .int v_kind, .int v_cells, .int v_last, .ref q_cellLength, .ref q_row, .int v_made, .ref q_cell, .int v_deep, .ref q_way, .ref q_turn, .int v_at, .int v_bad, .ref q_used])), (q_now, .inl (cI, 1600, .inl v_now)), (q_record, .inl (cI, 700, .inl v_record)), (q_used, .inl (cZ, 25, .inl v_used))] [(q_this, .inr (8, [.ref q_now, .ref q_disk, .ref q_before, .int v_onDisk, .int v_head, .int v_headPages, .int v_records, .ref q_recordPage, .ref q_recordBytes, .int v_up, .int v_armed, .int v_columns, .ref q_isBlob, .ref q_integer, .ref q_size, .ref q_blobs, .int o_length, .ref q_record, .int v_kind, .int v_cells, .int v_last, .ref q_cellLength, .ref q_row, .int v_made, .ref q_cell, .int v_deep, .ref q_way, .ref q_turn, .int o_at, .int o_bad, .ref q_used])), (q_now, .inl (cI, 1600, .inl v_now)), (q_record, .inl (cI, 700, .inl o_record)), (q_used, .inl (cZ, 25, .inl o_used))] sz o_r) 0 0 (va_A [(q_this, .inr (8, [.ref q_now, .ref q_disk, .ref q_before, .int v_onDisk, .int v_head, .int v_headPages, .int v_records, .ref q_recordPage, .ref q_recordBytes, .int v_up, .int v_armed, .int v_columns, .ref q_isBlob, .ref q_integer, .ref q_size, .ref q_blobs, .int v_length, .ref q_record, .int v_kind, .int v_cells, .int v_last, .ref q_cellLength, .ref q_row, .int v_made, .ref q_cell, .int v_deep, .ref q_way, .ref q_turn, .int v_at, .int v_bad, .ref q_used])), (q_now, .inl (cI, 1600, .inl v_now)), (q_record, .inl (cI, 700, .inl v_record)), (q_used, .inl (cZ, 25, .inl v_used))] sz) := by
  refine pu_mti [.ref q_this, .int x_1, .int x_2] [(q_this, .inr (8, [.ref q_now, .ref q_disk, .ref q_before, .int v_onDisk, .int v_head, .int v_headPages, .int v_records, .ref q_recordPage, .ref q_recordBytes, .int v_up, .int v_armed, .int v_columns, .ref q_isBlob, .ref q_integer, .ref q_size, .ref q_blobs, .int v_length, .ref q_record, .int v_kind, .int v_cells, .int v_last, .ref q_cellLength, .ref q_row, .int v_made, .ref q_cell, .int v_deep, .ref q_way, .ref q_turn, .int v_at, .int v_bad, .ref q_used])), (q_now, .inl (cI, 1600, .inl v_now)), (q_record, .inl (cI, 700, .inl v_record)), (q_used, .inl (cZ, 25, .inl v_used))] [(q_this, .inr (8, [.ref q_now, .ref q_disk, .ref q_before, .int v_onDisk, .int v_head, .int v_headPages, .int v_records, .ref q_recordPage, .ref q_recordBytes, .int v_up, .int v_armed, .int v_columns, .ref q_isBlob, .ref q_integer, .ref q_size, .ref q_blobs, .int o_length, .ref q_record, .int v_kind, .int v_cells, .int v_last, .ref q_cellLength, .ref q_row, .int v_made, .ref q_cell, .int v_deep, .ref q_way, .ref q_turn, .int o_at, .int o_bad, .ref q_used])), (q_now, .inl (cI, 1600, .inl v_now)), (q_record, .inl (cI, 700, .inl o_record)), (q_used, .inl (cZ, 25, .inl o_used))] o_r (by decide) (Nat.le_of_ble_eq_true rfl) ?_
  intro p e s m args below meth c A Q ls hx hb hml hts hN hown hK hA hP hD hl hret0
  have hS : va_S A s.heap s.heap [] := va_S.rf
  have hl : lv_has ls 8 [(0, .ref q_this), (1, .int x_1), (2, .int x_2)] := hl
  have hret : ∀ (pc : Nat) (ls : Array Slot) (H : Heap) (locs : List Loc) (y_0 : Int32) (y_1 : Int32) (y_2 : Int32) (y_3 : Int32) (y_4 : Nat → Int32) (y_5 : Nat → Int32), decode b_MD_wellCell pc = .ok (.ireturn, 1) → va_P D pu_cl [(q_this, .inr (8, [.ref q_now, .ref q_disk, .ref q_before, .int v_onDisk, .int v_head, .int v_headPages, .int v_records, .ref q_recordPage, .ref q_recordBytes, .int v_up, .int v_armed, .int v_columns, .ref q_isBlob, .ref q_integer, .ref q_size, .ref q_blobs, .int y_1, .ref q_record, .int v_kind, .int v_cells, .int v_last, .ref q_cellLength, .ref q_row, .int v_made, .ref q_cell, .int v_deep, .ref q_way, .ref q_turn, .int y_2, .int y_3, .ref q_used])), (q_now, .inl (cI, 1600, .inl v_now)), (q_record, .inl (cI, 700, .inl y_4)), (q_used, .inl (cZ, 25, .inl y_5))] H → va_D A [(q_this, .inr (8, [.ref q_now, .ref q_disk, .ref q_before, .int v_onDisk, .int v_head, .int v_headPages, .int v_records, .ref q_recordPage, .ref q_recordBytes, .int v_up, .int v_armed, .int v_columns, .ref q_isBlob, .ref q_integer, .ref q_size, .ref q_blobs, .int y_1, .ref q_record, .int v_kind, .int v_cells, .int v_last, .ref q_cellLength, .ref q_row, .int v_made, .ref q_cell, .int v_deep, .ref q_way, .ref q_turn, .int y_2, .int y_3, .ref q_used])), (q_now, .inl (cI, 1600, .inl v_now)), (q_record, .inl (cI, 700, .inl y_4)), (q_used, .inl (cZ, 25, .inl y_5))] → va_S A s.heap H locs → some (y_0, y_1, y_2, y_3, y_4, y_5) = some (o_r, o_length, o_at, o_bad, o_record, o_used) → W p l e rm_MD_wellCell s m args below meth c H locs 0 0 Q (F0 m pc ls [.int y_0]) := by
    intro pc ls H locs y_0 y_1 y_2 y_3 y_4 y_5 hd hP hD hS hf
    cases hf
    exact hret0 pc ls H locs hd hP hD hS
  clear hret0
  unfold f_MD_wellCell at hf
  skip
  have lb_316 : ∀ (v_length : Int32) (v_at : Int32) (v_bad : Int32) (v_record : Nat → Int32) (v_used : Nat → Int32) (x_4 : Int32) (x_6 : Int32) (H : Heap) (locs : List Loc) (ls : Array Slot), va_P D pu_cl [(q_this, .inr (8, [.ref q_now, .ref q_disk, .ref q_before, .int v_onDisk, .int v_head, .int v_headPages, .int v_records, .ref q_recordPage, .ref q_recordBytes, .int v_up, .int v_armed, .int v_columns, .ref q_isBlob, .ref q_integer, .ref q_size, .ref q_blobs, .int v_length, .ref q_record, .int v_kind, .int v_cells, .int v_last, .ref q_cellLength, .ref q_row, .int v_made, .ref q_cell, .int v_deep, .ref q_way, .ref q_turn, .int v_at, .int v_bad, .ref q_used])), (q_now, .inl (cI, 1600, .inl v_now)), (q_record, .inl (cI, 700, .inl v_record)), (q_used, .inl (cZ, 25, .inl v_used))] H → va_D A [(q_this, .inr (8, [.ref q_now, .ref q_disk, .ref q_before, .int v_onDisk, .int v_head, .int v_headPages, .int v_records, .ref q_recordPage, .ref q_recordBytes, .int v_up, .int v_armed, .int v_columns, .ref q_isBlob, .ref q_integer, .ref q_size, .ref q_blobs, .int v_length, .ref q_record, .int v_kind, .int v_cells, .int v_last, .ref q_cellLength, .ref q_row, .int v_made, .ref q_cell, .int v_deep, .ref q_way, .ref q_turn, .int v_at, .int v_bad, .ref q_used])), (q_now, .inl (cI, 1600, .inl v_now)), (q_record, .inl (cI, 700, .inl v_record)), (q_used, .inl (cZ, 25, .inl v_used))] → va_S A s.heap H locs → lv_has ls 8 [(0, .ref q_this), (4, .int x_4), (6, .int x_6)] → q_MD_wellCell_316 v_onDisk v_now v_length v_at v_bad v_record v_used x_4 x_6 = some (o_r, o_length, o_at, o_bad, o_record, o_used) → W p l e rm_MD_wellCell s m args below meth c H locs 0 0 Q (F0 m 316 ls []) := by
    intro v_length v_at v_bad v_record v_used x_4 x_6 H locs ls hP hD hS hl hf
    rw [q_MD_wellCell_316] at hf
    refine lv_iload hx hb d_MD_wellCell_316 (lv_at hl 2 rfl) ?_
    refine lv_if_ne (tgt := 333) hx hb d_MD_wellCell_318 rfl (fun hc => ?_) (fun hc => ?_)
    · have hf := pu_br_neg hf hc
      refine lv_bipush (v := -2) hx hb d_MD_wellCell_333 rfl ?_
      exact hret _ _ _ _ (-2 : Int32) v_length v_at v_bad v_record v_used d_MD_wellCell_335 hP hD hS hf
    have hf := pu_br_pos hf hc
    refine lv_aload_n hx hb d_MD_wellCell_321 rfl (lv_at hl 0 rfl) ?_
    obtain ⟨r11, w12, w13, hc, hf⟩ := pu_b3_some hf
    refine cl_i (WC := [(q_this, .inr (8, [.ref q_now, .ref q_disk, .ref q_before, .int v_onDisk, .int v_head, .int v_headPages, .int v_records, .ref q_recordPage, .ref q_recordBytes, .int v_up, .int v_armed, .int v_columns, .ref q_isBlob, .ref q_integer, .ref q_size, .ref q_blobs, .int v_length, .ref q_record, .int v_kind, .int v_cells, .int v_last, .ref q_cellLength, .ref q_row, .int v_made, .ref q_cell, .int v_deep, .ref q_way, .ref q_turn, .int v_at, .int v_bad, .ref q_used])), (q_record, .inl (cI, 700, .inl v_record))]) (WC2 := [(q_this, .inr (8, [.ref q_now, .ref q_disk, .ref q_before, .int v_onDisk, .int v_head, .int v_headPages, .int v_records, .ref q_recordPage, .ref q_recordBytes, .int v_up, .int v_armed, .int v_columns, .ref q_isBlob, .ref q_integer, .ref q_size, .ref q_blobs, .int v_length, .ref q_record, .int v_kind, .int v_cells, .int v_last, .ref q_cellLength, .ref q_row, .int v_made, .ref q_cell, .int v_deep, .ref q_way, .ref q_turn, .int w12, .int w13, .ref q_used])), (q_record, .inl (cI, 700, .inl v_record))]) (WR := [(q_now, .inl (cI, 1600, .inl v_now)), (q_used, .inl (cZ, 25, .inl v_used))]) (WS2 := [(q_this, .inr (8, [.ref q_now, .ref q_disk, .ref q_before, .int v_onDisk, .int v_head, .int v_headPages, .int v_records, .ref q_recordPage, .ref q_recordBytes, .int v_up, .int v_armed, .int v_columns, .ref q_isBlob, .ref q_integer, .ref q_size, .ref q_blobs, .int v_length, .ref q_record, .int v_kind, .int v_cells, .int v_last, .ref q_cellLength, .ref q_row, .int v_made, .ref q_cell, .int v_deep, .ref q_way, .ref q_turn, .int w12, .int w13, .ref q_used])), (q_now, .inl (cI, 1600, .inl v_now)), (q_record, .inl (cI, 700, .inl v_record)), (q_used, .inl (cZ, 25, .inl v_used))]) (pu_rv (cl := pu_cl) (pu_in12 _ (List.mem_of_getElem? (i := 60) rfl)) (pu_in12 _ (List.mem_of_getElem? (i := 61) rfl)) (pu_in14 _ (List.mem_of_getElem? (i := 45) rfl)) (pu_in0 _ (List.mem_of_getElem? (i := 10) rfl)) (pu_in12 _ (List.mem_of_getElem? (i := 62) rfl)) (ci := 8) rfl hd_MD_wellRecord (by decide) ⟨rfl, rfl⟩ rfl rfl (Nat.le_of_ble_eq_true rfl) rfl (As := []) (rest := []) (WC := [(q_this, .inr (8, [.ref q_now, .ref q_disk, .ref q_before, .int v_onDisk, .int v_head, .int v_headPages, .int v_records, .ref q_recordPage, .ref q_recordBytes, .int v_up, .int v_armed, .int v_columns, .ref q_isBlob, .ref q_integer, .ref q_size, .ref q_blobs, .int v_length, .ref q_record, .int v_kind, .int v_cells, .int v_last, .ref q_cellLength, .ref q_row, .int v_made, .ref q_cell, .int v_deep, .ref q_way, .ref q_turn, .int v_at, .int v_bad, .ref q_used])), (q_record, .inl (cI, 700, .inl v_record))]) hx hb hml hown hts hN hK hP hD (c_MD_wellRecord l D cI cJ cB cZ H.size q_this q_now q_disk q_before q_recordPage q_recordBytes q_isBlob q_integer q_size q_blobs q_record q_cellLength q_row q_cell q_way q_turn q_used v_onDisk v_head v_headPages v_records v_up v_armed v_columns v_length v_kind v_cells v_last v_made v_deep v_at v_bad v_record r11 w12 w13 hc) [0, 2] rfl rfl hl.1 d_MD_wellCell_322) hP hD hS hA [0, 2] [1, 3] [2, 0, 3, 1] rfl rfl rfl (by decide) rfl rfl (fun H locs hP hD hS => ?_)
    refine lv_if_eq (tgt := 333) hx hb d_MD_wellCell_325 rfl (fun hc => ?_) (fun hc => ?_)
    · have hf := pu_br_pos hf hc
      refine lv_bipush (v := -2) hx hb d_MD_wellCell_333 rfl ?_
      exact hret _ _ _ _ (-2 : Int32) v_length w12 w13 v_record v_used d_MD_wellCell_335 hP hD hS hf
    have hf := pu_br_neg hf hc
    refine lv_iload hx hb d_MD_wellCell_328 (lv_at hl 1 rfl) ?_
    refine lv_goto (tgt := 335) hx hb d_MD_wellCell_330 rfl ?_
    exact hret _ _ _ _ x_4 v_length w12 w13 v_record v_used d_MD_wellCell_335 hP hD hS hf
  have lp_194 : ∀ (v_length : Int32) (v_at : Int32) (v_bad : Int32) (x_4 : Int32) (n194 : Nat) (v_record : Nat → Int32) (v_used : Nat → Int32) (x_5 : Int32) (x_6 : Int32) (H : Heap) (locs : List Loc) (ls : Array Slot), va_P D pu_cl [(q_this, .inr (8, [.ref q_now, .ref q_disk, .ref q_before, .int v_onDisk, .int v_head, .int v_headPages, .int v_records, .ref q_recordPage, .ref q_recordBytes, .int v_up, .int v_armed, .int v_columns, .ref q_isBlob, .ref q_integer, .ref q_size, .ref q_blobs, .int v_length, .ref q_record, .int v_kind, .int v_cells, .int v_last, .ref q_cellLength, .ref q_row, .int v_made, .ref q_cell, .int v_deep, .ref q_way, .ref q_turn, .int v_at, .int v_bad, .ref q_used])), (q_now, .inl (cI, 1600, .inl v_now)), (q_record, .inl (cI, 700, .inl v_record)), (q_used, .inl (cZ, 25, .inl v_used))] H → va_D A [(q_this, .inr (8, [.ref q_now, .ref q_disk, .ref q_before, .int v_onDisk, .int v_head, .int v_headPages, .int v_records, .ref q_recordPage, .ref q_recordBytes, .int v_up, .int v_armed, .int v_columns, .ref q_isBlob, .ref q_integer, .ref q_size, .ref q_blobs, .int v_length, .ref q_record, .int v_kind, .int v_cells, .int v_last, .ref q_cellLength, .ref q_row, .int v_made, .ref q_cell, .int v_deep, .ref q_way, .ref q_turn, .int v_at, .int v_bad, .ref q_used])), (q_now, .inl (cI, 1600, .inl v_now)), (q_record, .inl (cI, 700, .inl v_record)), (q_used, .inl (cZ, 25, .inl v_used))] → va_S A s.heap H locs → lv_has ls 8 [(0, .ref q_this), (4, .int x_4), (5, .int x_5), (6, .int x_6)] → q_MD_wellCell_194 (fun v_record v_used x_6 => q_MD_wellCell_316 v_onDisk v_now v_length v_at v_bad v_record v_used x_4 x_6) v_onDisk v_now v_length v_at v_bad x_4 n194 v_record v_used x_5 x_6 = some (o_r, o_length, o_at, o_bad, o_record, o_used) → W p l e rm_MD_wellCell s m args below meth c H locs 0 0 Q (F0 m 194 ls []) := by
    intro v_length v_at v_bad x_4 n194
    induction n194 with
    | zero =>
      intro v_record v_used x_5 x_6 H locs ls hP hD hS hl hf
      rw [q_MD_wellCell_194] at hf
      cases hf
    | succ n194 ih_194 =>
      have lb_301 : ∀ (v_record : Nat → Int32) (v_used : Nat → Int32) (x_5 : Int32) (x_6 : Int32) (H : Heap) (locs : List Loc) (ls : Array Slot), va_P D pu_cl [(q_this, .inr (8, [.ref q_now, .ref q_disk, .ref q_before, .int v_onDisk, .int v_head, .int v_headPages, .int v_records, .ref q_recordPage, .ref q_recordBytes, .int v_up, .int v_armed, .int v_columns, .ref q_isBlob, .ref q_integer, .ref q_size, .ref q_blobs, .int v_length, .ref q_record, .int v_kind, .int v_cells, .int v_last, .ref q_cellLength, .ref q_row, .int v_made, .ref q_cell, .int v_deep, .ref q_way, .ref q_turn, .int v_at, .int v_bad, .ref q_used])), (q_now, .inl (cI, 1600, .inl v_now)), (q_record, .inl (cI, 700, .inl v_record)), (q_used, .inl (cZ, 25, .inl v_used))] H → va_D A [(q_this, .inr (8, [.ref q_now, .ref q_disk, .ref q_before, .int v_onDisk, .int v_head, .int v_headPages, .int v_records, .ref q_recordPage, .ref q_recordBytes, .int v_up, .int v_armed, .int v_columns, .ref q_isBlob, .ref q_integer, .ref q_size, .ref q_blobs, .int v_length, .ref q_record, .int v_kind, .int v_cells, .int v_last, .ref q_cellLength, .ref q_row, .int v_made, .ref q_cell, .int v_deep, .ref q_way, .ref q_turn, .int v_at, .int v_bad, .ref q_used])), (q_now, .inl (cI, 1600, .inl v_now)), (q_record, .inl (cI, 700, .inl v_record)), (q_used, .inl (cZ, 25, .inl v_used))] → va_S A s.heap H locs → lv_has ls 8 [(0, .ref q_this), (4, .int x_4), (5, .int x_5), (6, .int x_6)] → q_MD_wellCell_301 (q_MD_wellCell_194 (fun v_record v_used x_6 => q_MD_wellCell_316 v_onDisk v_now v_length v_at v_bad v_record v_used x_4 x_6) v_onDisk v_now v_length v_at v_bad x_4 n194) (fun v_record v_used x_6 => q_MD_wellCell_316 v_onDisk v_now v_length v_at v_bad v_record v_used x_4 x_6) v_onDisk v_now v_length v_at v_bad v_record v_used x_4 x_5 x_6 = some (o_r, o_length, o_at, o_bad, o_record, o_used) → W p l e rm_MD_wellCell s m args below meth c H locs 0 0 Q (F0 m 301 ls []) := by
        intro v_record v_used x_5 x_6 H locs ls hP hD hS hl hf
        rw [q_MD_wellCell_301] at hf
        refine lv_aload_n hx hb d_MD_wellCell_301 rfl (lv_at hl 0 rfl) ?_
        refine gf_MD_7 (v := .ref q_now) hx hb hts hN hown hK hP 0 rfl rfl d_MD_wellCell_302 ?_
        refine lv_bipush (v := 64) hx hb d_MD_wellCell_305 rfl ?_
        refine lv_iload hx hb d_MD_wellCell_307 (lv_at hl 3 rfl) ?_
        refine lv_imul hx hb d_MD_wellCell_309 ?_
        obtain ⟨hin, hf⟩ := pu_ck_some hf
        refine va_iald hx hb hK hP 1 0 rfl rfl hin d_MD_wellCell_310 ?_
        obtain ⟨t16, e_t16, hf⟩ := pu_nm_some hf
        refine pu_ti e_t16 ?_
        refine lv_istore hx hb d_MD_wellCell_311 hl (by decide) rfl (fun ls hl => ?_)
        have hl : lv_has ls 8 [(6, .int t16), (0, .ref q_this), (4, .int x_4), (5, .int x_5)] := hl
        refine lv_goto (tgt := 194) hx hb d_MD_wellCell_313 rfl ?_
        exact ih_194 v_record v_used x_5 t16 H locs ls hP hD hS (lv_sub hl [1, 2, 3, 0] rfl) hf
      have lp_218 : ∀ (v_used : Nat → Int32) (x_6 : Int32) (n218 : Nat) (v_record : Nat → Int32) (x_5 : Int32) (x_7 : Int32) (H : Heap) (locs : List Loc) (ls : Array Slot), va_P D pu_cl [(q_this, .inr (8, [.ref q_now, .ref q_disk, .ref q_before, .int v_onDisk, .int v_head, .int v_headPages, .int v_records, .ref q_recordPage, .ref q_recordBytes, .int v_up, .int v_armed, .int v_columns, .ref q_isBlob, .ref q_integer, .ref q_size, .ref q_blobs, .int v_length, .ref q_record, .int v_kind, .int v_cells, .int v_last, .ref q_cellLength, .ref q_row, .int v_made, .ref q_cell, .int v_deep, .ref q_way, .ref q_turn, .int v_at, .int v_bad, .ref q_used])), (q_now, .inl (cI, 1600, .inl v_now)), (q_record, .inl (cI, 700, .inl v_record)), (q_used, .inl (cZ, 25, .inl v_used))] H → va_D A [(q_this, .inr (8, [.ref q_now, .ref q_disk, .ref q_before, .int v_onDisk, .int v_head, .int v_headPages, .int v_records, .ref q_recordPage, .ref q_recordBytes, .int v_up, .int v_armed, .int v_columns, .ref q_isBlob, .ref q_integer, .ref q_size, .ref q_blobs, .int v_length, .ref q_record, .int v_kind, .int v_cells, .int v_last, .ref q_cellLength, .ref q_row, .int v_made, .ref q_cell, .int v_deep, .ref q_way, .ref q_turn, .int v_at, .int v_bad, .ref q_used])), (q_now, .inl (cI, 1600, .inl v_now)), (q_record, .inl (cI, 700, .inl v_record)), (q_used, .inl (cZ, 25, .inl v_used))] → va_S A s.heap H locs → lv_has ls 8 [(0, .ref q_this), (4, .int x_4), (5, .int x_5), (6, .int x_6), (7, .int x_7)] → q_MD_wellCell_218 (fun v_record x_5 => q_MD_wellCell_301 (q_MD_wellCell_194 (fun v_record v_used x_6 => q_MD_wellCell_316 v_onDisk v_now v_length v_at v_bad v_record v_used x_4 x_6) v_onDisk v_now v_length v_at v_bad x_4 n194) (fun v_record v_used x_6 => q_MD_wellCell_316 v_onDisk v_now v_length v_at v_bad v_record v_used x_4 x_6) v_onDisk v_now v_length v_at v_bad v_record v_used x_4 x_5 x_6) v_onDisk v_now v_length v_at v_bad v_used x_4 x_6 n218 v_record x_5 x_7 = some (o_r, o_length, o_at, o_bad, o_record, o_used) → W p l e rm_MD_wellCell s m args below meth c H locs 0 0 Q (F0 m 218 ls []) := by
        intro v_used x_6 n218
        induction n218 with
        | zero =>
          intro v_record x_5 x_7 H locs ls hP hD hS hl hf
          rw [q_MD_wellCell_218] at hf
          cases hf
        | succ n218 ih_218 =>
          have lb_292 : ∀ (v_record : Nat → Int32) (x_7 : Int32) (s_0 : Int32) (s_1 : Int32) (H : Heap) (locs : List Loc) (ls : Array Slot), va_P D pu_cl [(q_this, .inr (8, [.ref q_now, .ref q_disk, .ref q_before, .int v_onDisk, .int v_head, .int v_headPages, .int v_records, .ref q_recordPage, .ref q_recordBytes, .int v_up, .int v_armed, .int v_columns, .ref q_isBlob, .ref q_integer, .ref q_size, .ref q_blobs, .int v_length, .ref q_record, .int v_kind, .int v_cells, .int v_last, .ref q_cellLength, .ref q_row, .int v_made, .ref q_cell, .int v_deep, .ref q_way, .ref q_turn, .int v_at, .int v_bad, .ref q_used])), (q_now, .inl (cI, 1600, .inl v_now)), (q_record, .inl (cI, 700, .inl v_record)), (q_used, .inl (cZ, 25, .inl v_used))] H → va_D A [(q_this, .inr (8, [.ref q_now, .ref q_disk, .ref q_before, .int v_onDisk, .int v_head, .int v_headPages, .int v_records, .ref q_recordPage, .ref q_recordBytes, .int v_up, .int v_armed, .int v_columns, .ref q_isBlob, .ref q_integer, .ref q_size, .ref q_blobs, .int v_length, .ref q_record, .int v_kind, .int v_cells, .int v_last, .ref q_cellLength, .ref q_row, .int v_made, .ref q_cell, .int v_deep, .ref q_way, .ref q_turn, .int v_at, .int v_bad, .ref q_used])), (q_now, .inl (cI, 1600, .inl v_now)), (q_record, .inl (cI, 700, .inl v_record)), (q_used, .inl (cZ, 25, .inl v_used))] → va_S A s.heap H locs → lv_has ls 8 [(0, .ref q_this), (4, .int x_4), (6, .int x_6), (7, .int x_7)] → q_MD_wellCell_292 (q_MD_wellCell_218 (fun v_record x_5 => q_MD_wellCell_301 (q_MD_wellCell_194 (fun v_record v_used x_6 => q_MD_wellCell_316 v_onDisk v_now v_length v_at v_bad v_record v_used x_4 x_6) v_onDisk v_now v_length v_at v_bad x_4 n194) (fun v_record v_used x_6 => q_MD_wellCell_316 v_onDisk v_now v_length v_at v_bad v_record v_used x_4 x_6) v_onDisk v_now v_length v_at v_bad v_record v_used x_4 x_5 x_6) v_onDisk v_now v_length v_at v_bad v_used x_4 x_6 n218) (fun v_record x_5 => q_MD_wellCell_301 (q_MD_wellCell_194 (fun v_record v_used x_6 => q_MD_wellCell_316 v_onDisk v_now v_length v_at v_bad v_record v_used x_4 x_6) v_onDisk v_now v_length v_at v_bad x_4 n194) (fun v_record v_used x_6 => q_MD_wellCell_316 v_onDisk v_now v_length v_at v_bad v_record v_used x_4 x_6) v_onDisk v_now v_length v_at v_bad v_record v_used x_4 x_5 x_6) v_onDisk v_now v_length v_at v_bad v_record v_used x_4 x_6 x_7 s_0 s_1 = some (o_r, o_length, o_at, o_bad, o_record, o_used) → W p l e rm_MD_wellCell s m args below meth c H locs 0 0 Q (F0 m 292 ls [.int s_1, .int s_0]) := by
            intro v_record x_7 s_0 s_1 H locs ls hP hD hS hl hf
            rw [q_MD_wellCell_292] at hf
            refine lv_iadd hx hb d_MD_wellCell_292 ?_
            obtain ⟨t17, e_t17, hf⟩ := pu_nm_some hf
            refine pu_ti e_t17 ?_
            refine lv_istore hx hb d_MD_wellCell_293 hl (by decide) rfl (fun ls hl => ?_)
            have hl : lv_has ls 8 [(5, .int t17), (0, .ref q_this), (4, .int x_4), (6, .int x_6), (7, .int x_7)] := hl
            obtain ⟨t18, e_t18, hf⟩ := pu_nm_some hf
            refine lv_iinc (k := 4) (v := t18) hx hb d_MD_wellCell_295 hl rfl e_t18.symm (by decide) rfl (fun ls hl => ?_)
            have hl : lv_has ls 8 [(7, .int t18), (5, .int t17), (0, .ref q_this), (4, .int x_4), (6, .int x_6)] := hl
            refine lv_goto (tgt := 218) hx hb d_MD_wellCell_298 rfl ?_
            exact ih_218 v_record t17 t18 H locs ls hP hD hS (lv_sub hl [2, 3, 1, 4, 0] rfl) hf
          have lb_276 : ∀ (v_record : Nat → Int32) (x_5 : Int32) (x_7 : Int32) (H : Heap) (locs : List Loc) (ls : Array Slot), va_P D pu_cl [(q_this, .inr (8, [.ref q_now, .ref q_disk, .ref q_before, .int v_onDisk, .int v_head, .int v_headPages, .int v_records, .ref q_recordPage, .ref q_recordBytes, .int v_up, .int v_armed, .int v_columns, .ref q_isBlob, .ref q_integer, .ref q_size, .ref q_blobs, .int v_length, .ref q_record, .int v_kind, .int v_cells, .int v_last, .ref q_cellLength, .ref q_row, .int v_made, .ref q_cell, .int v_deep, .ref q_way, .ref q_turn, .int v_at, .int v_bad, .ref q_used])), (q_now, .inl (cI, 1600, .inl v_now)), (q_record, .inl (cI, 700, .inl v_record)), (q_used, .inl (cZ, 25, .inl v_used))] H → va_D A [(q_this, .inr (8, [.ref q_now, .ref q_disk, .ref q_before, .int v_onDisk, .int v_head, .int v_headPages, .int v_records, .ref q_recordPage, .ref q_recordBytes, .int v_up, .int v_armed, .int v_columns, .ref q_isBlob, .ref q_integer, .ref q_size, .ref q_blobs, .int v_length, .ref q_record, .int v_kind, .int v_cells, .int v_last, .ref q_cellLength, .ref q_row, .int v_made, .ref q_cell, .int v_deep, .ref q_way, .ref q_turn, .int v_at, .int v_bad, .ref q_used])), (q_now, .inl (cI, 1600, .inl v_now)), (q_record, .inl (cI, 700, .inl v_record)), (q_used, .inl (cZ, 25, .inl v_used))] → va_S A s.heap H locs → lv_has ls 8 [(0, .ref q_this), (4, .int x_4), (5, .int x_5), (6, .int x_6), (7, .int x_7)] → q_MD_wellCell_276 (q_MD_wellCell_218 (fun v_record x_5 => q_MD_wellCell_301 (q_MD_wellCell_194 (fun v_record v_used x_6 => q_MD_wellCell_316 v_onDisk v_now v_length v_at v_bad v_record v_used x_4 x_6) v_onDisk v_now v_length v_at v_bad x_4 n194) (fun v_record v_used x_6 => q_MD_wellCell_316 v_onDisk v_now v_length v_at v_bad v_record v_used x_4 x_6) v_onDisk v_now v_length v_at v_bad v_record v_used x_4 x_5 x_6) v_onDisk v_now v_length v_at v_bad v_used x_4 x_6 n218) (fun v_record x_5 => q_MD_wellCell_301 (q_MD_wellCell_194 (fun v_record v_used x_6 => q_MD_wellCell_316 v_onDisk v_now v_length v_at v_bad v_record v_used x_4 x_6) v_onDisk v_now v_length v_at v_bad x_4 n194) (fun v_record v_used x_6 => q_MD_wellCell_316 v_onDisk v_now v_length v_at v_bad v_record v_used x_4 x_6) v_onDisk v_now v_length v_at v_bad v_record v_used x_4 x_5 x_6) v_onDisk v_now v_length v_at v_bad v_record v_used x_4 x_5 x_6 x_7 = some (o_r, o_length, o_at, o_bad, o_record, o_used) → W p l e rm_MD_wellCell s m args below meth c H locs 0 0 Q (F0 m 276 ls []) := by
            intro v_record x_5 x_7 H locs ls hP hD hS hl hf
            rw [q_MD_wellCell_276] at hf
            refine lv_iload hx hb d_MD_wellCell_276 (lv_at hl 2 rfl) ?_
            refine lv_iload hx hb d_MD_wellCell_278 (lv_at hl 2 rfl) ?_
            refine lv_aload_n hx hb d_MD_wellCell_280 rfl (lv_at hl 0 rfl) ?_
            refine gf_MD_91 (v := .int v_length) hx hb hts hN hown hK hP 0 rfl rfl d_MD_wellCell_281 ?_
            refine lv_icmp_ge (tgt := 291) hx hb d_MD_wellCell_284 rfl (fun hc => ?_) (fun hc => ?_)
            · have hf := pu_br_pos hf hc
              refine lv_iconst (v := 0) hx hb d_MD_wellCell_291 rfl ?_
              exact lb_292 v_record x_7 x_5 (0 : Int32) H locs ls hP hD hS (lv_sub hl [0, 1, 3, 4] rfl) hf
            have hf := pu_br_neg hf hc
            refine lv_iconst (v := 1) hx hb d_MD_wellCell_287 rfl ?_
            refine lv_goto (tgt := 292) hx hb d_MD_wellCell_288 rfl ?_
            exact lb_292 v_record x_7 x_5 (1 : Int32) H locs ls hP hD hS (lv_sub hl [0, 1, 3, 4] rfl) hf
          intro v_record x_5 x_7 H locs ls hP hD hS hl hf
          rw [q_MD_wellCell_218] at hf
          refine lv_iload hx hb d_MD_wellCell_218 (lv_at hl 4 rfl) ?_
          refine lv_bipush (v := 64) hx hb d_MD_wellCell_220 rfl ?_
          refine lv_icmp_ge (tgt := 301) hx hb d_MD_wellCell_222 rfl (fun hc => ?_) (fun hc => ?_)
          · have hf := pu_br_pos hf hc
            exact lb_301 v_record v_used x_5 x_6 H locs ls hP hD hS (lv_sub hl [0, 1, 2, 3] rfl) hf
          have hf := pu_br_neg hf hc
          refine lv_iload hx hb d_MD_wellCell_225 (lv_at hl 2 rfl) ?_
          refine lv_aload_n hx hb d_MD_wellCell_227 rfl (lv_at hl 0 rfl) ?_
          refine gf_MD_91 (v := .int v_length) hx hb hts hN hown hK hP 0 rfl rfl d_MD_wellCell_228 ?_
          refine lv_icmp_ge (tgt := 257) hx hb d_MD_wellCell_231 rfl (fun hc => ?_) (fun hc => ?_)
          · have hf := pu_br_pos hf hc
            refine lv_aload_n hx hb d_MD_wellCell_257 rfl (lv_at hl 0 rfl) ?_
            refine gf_MD_7 (v := .ref q_now) hx hb hts hN hown hK hP 0 rfl rfl d_MD_wellCell_258 ?_
            refine lv_bipush (v := 64) hx hb d_MD_wellCell_261 rfl ?_
            refine lv_iload hx hb d_MD_wellCell_263 (lv_at hl 3 rfl) ?_
            refine lv_imul hx hb d_MD_wellCell_265 ?_
            refine lv_iload hx hb d_MD_wellCell_266 (lv_at hl 4 rfl) ?_
            refine lv_iadd hx hb d_MD_wellCell_268 ?_
            obtain ⟨hin, hf⟩ := pu_ck_some hf
            refine va_iald hx hb hK hP 1 0 rfl rfl hin d_MD_wellCell_269 ?_
            refine lv_if_eq (tgt := 276) hx hb d_MD_wellCell_270 rfl (fun hc => ?_) (fun hc => ?_)
            · have hf := pu_br_pos hf hc
              exact lb_276 v_record x_5 x_7 H locs ls hP hD hS (lv_sub hl [0, 1, 2, 3, 4] rfl) hf
            have hf := pu_br_neg hf hc
            refine lv_bipush (v := -2) hx hb d_MD_wellCell_273 rfl ?_
            exact hret _ _ _ _ (-2 : Int32) v_length v_at v_bad v_record v_used d_MD_wellCell_275 hP hD hS hf
          have hf := pu_br_neg hf hc
          refine lv_aload_n hx hb d_MD_wellCell_234 rfl (lv_at hl 0 rfl) ?_
          refine gf_MD_50 (v := .ref q_record) hx hb hts hN hown hK hP 0 rfl rfl d_MD_wellCell_235 ?_
          refine lv_iload hx hb d_MD_wellCell_238 (lv_at hl 2 rfl) ?_
          refine lv_aload_n hx hb d_MD_wellCell_240 rfl (lv_at hl 0 rfl) ?_
          refine gf_MD_7 (v := .ref q_now) hx hb hts hN hown hK hP 0 rfl rfl d_MD_wellCell_241 ?_
          refine lv_bipush (v := 64) hx hb d_MD_wellCell_244 rfl ?_
          refine lv_iload hx hb d_MD_wellCell_246 (lv_at hl 3 rfl) ?_
          refine lv_imul hx hb d_MD_wellCell_248 ?_
          refine lv_iload hx hb d_MD_wellCell_249 (lv_at hl 4 rfl) ?_
          refine lv_iadd hx hb d_MD_wellCell_251 ?_
          obtain ⟨hin, hf⟩ := pu_ck_some hf
          refine va_iald hx hb hK hP 1 0 rfl rfl hin d_MD_wellCell_252 ?_
          obtain ⟨hin, hf⟩ := pu_ck_some hf
          obtain ⟨a19, e_a19, hf⟩ := pu_nm_some hf
          refine va_iast hx hb hK hP hD hS 2 0 rfl rfl hin d_MD_wellCell_253 (fun H locs hP hD hS => ?_)
          have hP : va_P D pu_cl [(q_this, .inr (8, [.ref q_now, .ref q_disk, .ref q_before, .int v_onDisk, .int v_head, .int v_headPages, .int v_records, .ref q_recordPage, .ref q_recordBytes, .int v_up, .int v_armed, .int v_columns, .ref q_isBlob, .ref q_integer, .ref q_size, .ref q_blobs, .int v_length, .ref q_record, .int v_kind, .int v_cells, .int v_last, .ref q_cellLength, .ref q_row, .int v_made, .ref q_cell, .int v_deep, .ref q_way, .ref q_turn, .int v_at, .int v_bad, .ref q_used])), (q_now, .inl (cI, 1600, .inl v_now)), (q_record, .inl (cI, 700, .inl a19)), (q_used, .inl (cZ, 25, .inl v_used))] H := by rw [e_a19]; exact hP
          have hD : va_D A [(q_this, .inr (8, [.ref q_now, .ref q_disk, .ref q_before, .int v_onDisk, .int v_head, .int v_headPages, .int v_records, .ref q_recordPage, .ref q_recordBytes, .int v_up, .int v_armed, .int v_columns, .ref q_isBlob, .ref q_integer, .ref q_size, .ref q_blobs, .int v_length, .ref q_record, .int v_kind, .int v_cells, .int v_last, .ref q_cellLength, .ref q_row, .int v_made, .ref q_cell, .int v_deep, .ref q_way, .ref q_turn, .int v_at, .int v_bad, .ref q_used])), (q_now, .inl (cI, 1600, .inl v_now)), (q_record, .inl (cI, 700, .inl a19)), (q_used, .inl (cZ, 25, .inl v_used))] := by rw [e_a19]; exact hD
          refine lv_goto (tgt := 276) hx hb d_MD_wellCell_254 rfl ?_
          exact lb_276 a19 x_5 x_7 H locs ls hP hD hS (lv_sub hl [0, 1, 2, 3, 4] rfl) hf
      intro v_record v_used x_5 x_6 H locs ls hP hD hS hl hf
      rw [q_MD_wellCell_194] at hf
      refine lv_iload hx hb d_MD_wellCell_194 (lv_at hl 2 rfl) ?_
      refine lv_aload_n hx hb d_MD_wellCell_196 rfl (lv_at hl 0 rfl) ?_
      refine gf_MD_91 (v := .int v_length) hx hb hts hN hown hK hP 0 rfl rfl d_MD_wellCell_197 ?_
      refine lv_icmp_ge (tgt := 316) hx hb d_MD_wellCell_200 rfl (fun hc => ?_) (fun hc => ?_)
      · have hf := pu_br_pos hf hc
        exact lb_316 v_length v_at v_bad v_record v_used x_4 x_6 H locs ls hP hD hS (lv_sub hl [0, 1, 3] rfl) hf
      have hf := pu_br_neg hf hc
      refine lv_aload_n hx hb d_MD_wellCell_203 rfl (lv_at hl 0 rfl) ?_
      refine lv_iload hx hb d_MD_wellCell_204 (lv_at hl 3 rfl) ?_
      obtain ⟨r14, w15, hc, hf⟩ := pu_b2_some hf
      refine cl_i (WC := [(q_this, .inr (8, [.ref q_now, .ref q_disk, .ref q_before, .int v_onDisk, .int v_head, .int v_headPages, .int v_records, .ref q_recordPage, .ref q_recordBytes, .int v_up, .int v_armed, .int v_columns, .ref q_isBlob, .ref q_integer, .ref q_size, .ref q_blobs, .int v_length, .ref q_record, .int v_kind, .int v_cells, .int v_last, .ref q_cellLength, .ref q_row, .int v_made, .ref q_cell, .int v_deep, .ref q_way, .ref q_turn, .int v_at, .int v_bad, .ref q_used])), (q_used, .inl (cZ, 25, .inl v_used))]) (WC2 := [(q_this, .inr (8, [.ref q_now, .ref q_disk, .ref q_before, .int v_onDisk, .int v_head, .int v_headPages, .int v_records, .ref q_recordPage, .ref q_recordBytes, .int v_up, .int v_armed, .int v_columns, .ref q_isBlob, .ref q_integer, .ref q_size, .ref q_blobs, .int v_length, .ref q_record, .int v_kind, .int v_cells, .int v_last, .ref q_cellLength, .ref q_row, .int v_made, .ref q_cell, .int v_deep, .ref q_way, .ref q_turn, .int v_at, .int v_bad, .ref q_used])), (q_used, .inl (cZ, 25, .inl w15))]) (WR := [(q_now, .inl (cI, 1600, .inl v_now)), (q_record, .inl (cI, 700, .inl v_record))]) (WS2 := [(q_this, .inr (8, [.ref q_now, .ref q_disk, .ref q_before, .int v_onDisk, .int v_head, .int v_headPages, .int v_records, .ref q_recordPage, .ref q_recordBytes, .int v_up, .int v_armed, .int v_columns, .ref q_isBlob, .ref q_integer, .ref q_size, .ref q_blobs, .int v_length, .ref q_record, .int v_kind, .int v_cells, .int v_last, .ref q_cellLength, .ref q_row, .int v_made, .ref q_cell, .int v_deep, .ref q_way, .ref q_turn, .int v_at, .int v_bad, .ref q_used])), (q_now, .inl (cI, 1600, .inl v_now)), (q_record, .inl (cI, 700, .inl v_record)), (q_used, .inl (cZ, 25, .inl w15))]) (pu_rv (cl := pu_cl) (pu_in12 _ (List.mem_of_getElem? (i := 48) rfl)) (pu_in12 _ (List.mem_of_getElem? (i := 49) rfl)) (pu_in14 _ (List.mem_of_getElem? (i := 41) rfl)) (pu_in0 _ (List.mem_of_getElem? (i := 10) rfl)) (pu_in12 _ (List.mem_of_getElem? (i := 50) rfl)) (ci := 8) rfl hd_MD_meet (by decide) ⟨rfl, rfl⟩ rfl rfl (Nat.le_of_ble_eq_true rfl) rfl (As := [.int x_6]) (rest := []) (WC := [(q_this, .inr (8, [.ref q_now, .ref q_disk, .ref q_before, .int v_onDisk, .int v_head, .int v_headPages, .int v_records, .ref q_recordPage, .ref q_recordBytes, .int v_up, .int v_armed, .int v_columns, .ref q_isBlob, .ref q_integer, .ref q_size, .ref q_blobs, .int v_length, .ref q_record, .int v_kind, .int v_cells, .int v_last, .ref q_cellLength, .ref q_row, .int v_made, .ref q_cell, .int v_deep, .ref q_way, .ref q_turn, .int v_at, .int v_bad, .ref q_used])), (q_used, .inl (cZ, 25, .inl v_used))]) hx hb hml hown hts hN hK hP hD (c_MD_meet l D cI cJ cB cZ H.size q_this q_now q_disk q_before q_recordPage q_recordBytes q_isBlob q_integer q_size q_blobs q_record q_cellLength q_row q_cell q_way q_turn q_used v_onDisk v_head v_headPages v_records v_up v_armed v_columns v_length v_kind v_cells v_last v_made v_deep v_at v_bad v_used x_6 r14 w15 hc) [0, 3] rfl rfl hl.1 d_MD_wellCell_206) hP hD hS hA [0, 3] [1, 2] [2, 0, 1, 3] rfl rfl rfl (by decide) rfl rfl (fun H locs hP hD hS => ?_)
      refine lv_if_ne (tgt := 215) hx hb d_MD_wellCell_209 rfl (fun hc => ?_) (fun hc => ?_)
      · have hf := pu_br_neg hf hc
        refine lv_iconst (v := 1) hx hb d_MD_wellCell_215 rfl ?_
        refine lv_istore hx hb d_MD_wellCell_216 hl (by decide) rfl (fun ls hl => ?_)
        have hl : lv_has ls 8 [(7, .int (1 : Int32)), (0, .ref q_this), (4, .int x_4), (5, .int x_5), (6, .int x_6)] := hl
        exact lp_218 w15 x_6 _ v_record x_5 (1 : Int32) H locs ls hP hD hS (lv_sub hl [1, 2, 3, 4, 0] rfl) hf
      have hf := pu_br_pos hf hc
      refine lv_bipush (v := -2) hx hb d_MD_wellCell_212 rfl ?_
      exact hret _ _ _ _ (-2 : Int32) v_length v_at v_bad v_record w15 d_MD_wellCell_214 hP hD hS hf
  have lb_192 : ∀ (v_length : Int32) (v_at : Int32) (v_bad : Int32) (v_record : Nat → Int32) (v_used : Nat → Int32) (x_4 : Int32) (x_5 : Int32) (s_0 : Int32) (H : Heap) (locs : List Loc) (ls : Array Slot), va_P D pu_cl [(q_this, .inr (8, [.ref q_now, .ref q_disk, .ref q_before, .int v_onDisk, .int v_head, .int v_headPages, .int v_records, .ref q_recordPage, .ref q_recordBytes, .int v_up, .int v_armed, .int v_columns, .ref q_isBlob, .ref q_integer, .ref q_size, .ref q_blobs, .int v_length, .ref q_record, .int v_kind, .int v_cells, .int v_last, .ref q_cellLength, .ref q_row, .int v_made, .ref q_cell, .int v_deep, .ref q_way, .ref q_turn, .int v_at, .int v_bad, .ref q_used])), (q_now, .inl (cI, 1600, .inl v_now)), (q_record, .inl (cI, 700, .inl v_record)), (q_used, .inl (cZ, 25, .inl v_used))] H → va_D A [(q_this, .inr (8, [.ref q_now, .ref q_disk, .ref q_before, .int v_onDisk, .int v_head, .int v_headPages, .int v_records, .ref q_recordPage, .ref q_recordBytes, .int v_up, .int v_armed, .int v_columns, .ref q_isBlob, .ref q_integer, .ref q_size, .ref q_blobs, .int v_length, .ref q_record, .int v_kind, .int v_cells, .int v_last, .ref q_cellLength, .ref q_row, .int v_made, .ref q_cell, .int v_deep, .ref q_way, .ref q_turn, .int v_at, .int v_bad, .ref q_used])), (q_now, .inl (cI, 1600, .inl v_now)), (q_record, .inl (cI, 700, .inl v_record)), (q_used, .inl (cZ, 25, .inl v_used))] → va_S A s.heap H locs → lv_has ls 8 [(0, .ref q_this), (4, .int x_4), (5, .int x_5)] → q_MD_wellCell_192 v_onDisk v_now v_length v_at v_bad v_record v_used x_4 x_5 s_0 = some (o_r, o_length, o_at, o_bad, o_record, o_used) → W p l e rm_MD_wellCell s m args below meth c H locs 0 0 Q (F0 m 192 ls [.int s_0]) := by
    intro v_length v_at v_bad v_record v_used x_4 x_5 s_0 H locs ls hP hD hS hl hf
    rw [q_MD_wellCell_192] at hf
    refine lv_istore hx hb d_MD_wellCell_192 hl (by decide) rfl (fun ls hl => ?_)
    have hl : lv_has ls 8 [(6, .int s_0), (0, .ref q_this), (4, .int x_4), (5, .int x_5)] := hl
    exact lp_194 v_length v_at v_bad x_4 _ v_record v_used x_5 s_0 H locs ls hP hD hS (lv_sub hl [1, 2, 3, 0] rfl) hf
  have lb_167 : ∀ (v_length : Int32) (v_at : Int32) (v_bad : Int32) (v_record : Nat → Int32) (v_used : Nat → Int32) (x_4 : Int32) (x_5 : Int32) (H : Heap) (locs : List Loc) (ls : Array Slot), va_P D pu_cl [(q_this, .inr (8, [.ref q_now, .ref q_disk, .ref q_before, .int v_onDisk, .int v_head, .int v_headPages, .int v_records, .ref q_recordPage, .ref q_recordBytes, .int v_up, .int v_armed, .int v_columns, .ref q_isBlob, .ref q_integer, .ref q_size, .ref q_blobs, .int v_length, .ref q_record, .int v_kind, .int v_cells, .int v_last, .ref q_cellLength, .ref q_row, .int v_made, .ref q_cell, .int v_deep, .ref q_way, .ref q_turn, .int v_at, .int v_bad, .ref q_used])), (q_now, .inl (cI, 1600, .inl v_now)), (q_record, .inl (cI, 700, .inl v_record)), (q_used, .inl (cZ, 25, .inl v_used))] H → va_D A [(q_this, .inr (8, [.ref q_now, .ref q_disk, .ref q_before, .int v_onDisk, .int v_head, .int v_headPages, .int v_records, .ref q_recordPage, .ref q_recordBytes, .int v_up, .int v_armed, .int v_columns, .ref q_isBlob, .ref q_integer, .ref q_size, .ref q_blobs, .int v_length, .ref q_record, .int v_kind, .int v_cells, .int v_last, .ref q_cellLength, .ref q_row, .int v_made, .ref q_cell, .int v_deep, .ref q_way, .ref q_turn, .int v_at, .int v_bad, .ref q_used])), (q_now, .inl (cI, 1600, .inl v_now)), (q_record, .inl (cI, 700, .inl v_record)), (q_used, .inl (cZ, 25, .inl v_used))] → va_S A s.heap H locs → lv_has ls 8 [(0, .ref q_this), (4, .int x_4), (5, .int x_5)] → q_MD_wellCell_167 v_onDisk v_now v_length v_at v_bad v_record v_used x_4 x_5 = some (o_r, o_length, o_at, o_bad, o_record, o_used) → W p l e rm_MD_wellCell s m args below meth c H locs 0 0 Q (F0 m 167 ls []) := by
    intro v_length v_at v_bad v_record v_used x_4 x_5 H locs ls hP hD hS hl hf
    rw [q_MD_wellCell_167] at hf
    refine lv_aload_n hx hb d_MD_wellCell_167 rfl (lv_at hl 0 rfl) ?_
    refine gf_MD_91 (v := .int v_length) hx hb hts hN hown hK hP 0 rfl rfl d_MD_wellCell_168 ?_
    refine lv_bipush (v := 24) hx hb d_MD_wellCell_171 rfl ?_
    refine lv_icmp_le (tgt := 191) hx hb d_MD_wellCell_173 rfl (fun hc => ?_) (fun hc => ?_)
    · have hf := pu_br_pos hf hc
      refine lv_iconst (v := 0) hx hb d_MD_wellCell_191 rfl ?_
      exact lb_192 v_length v_at v_bad v_record v_used x_4 x_5 (0 : Int32) H locs ls hP hD hS (lv_sub hl [0, 1, 2] rfl) hf
    have hf := pu_br_neg hf hc
    refine lv_aload_n hx hb d_MD_wellCell_176 rfl (lv_at hl 0 rfl) ?_
    refine gf_MD_7 (v := .ref q_now) hx hb hts hN hown hK hP 0 rfl rfl d_MD_wellCell_177 ?_
    refine lv_aload_n hx hb d_MD_wellCell_180 rfl (lv_at hl 0 rfl) ?_
    refine gf_MD_132 (v := .int v_at) hx hb hts hN hown hK hP 0 rfl rfl d_MD_wellCell_181 ?_
    refine lv_bipush (v := 16) hx hb d_MD_wellCell_184 rfl ?_
    refine lv_iadd hx hb d_MD_wellCell_186 ?_
    obtain ⟨hin, hf⟩ := pu_ck_some hf
    refine va_iald hx hb hK hP 1 0 rfl rfl hin d_MD_wellCell_187 ?_
    refine lv_goto (tgt := 192) hx hb d_MD_wellCell_188 rfl ?_
    exact lb_192 v_length v_at v_bad v_record v_used x_4 x_5 (v_now (v_at + (16 : Int32)).toNatClampNeg) H locs ls hP hD hS (lv_sub hl [0, 1, 2] rfl) hf
  have lp_135 : ∀ (v_length : Int32) (v_at : Int32) (v_bad : Int32) (v_used : Nat → Int32) (x_4 : Int32) (x_5 : Int32) (n135 : Nat) (v_record : Nat → Int32) (x_6 : Int32) (H : Heap) (locs : List Loc) (ls : Array Slot), va_P D pu_cl [(q_this, .inr (8, [.ref q_now, .ref q_disk, .ref q_before, .int v_onDisk, .int v_head, .int v_headPages, .int v_records, .ref q_recordPage, .ref q_recordBytes, .int v_up, .int v_armed, .int v_columns, .ref q_isBlob, .ref q_integer, .ref q_size, .ref q_blobs, .int v_length, .ref q_record, .int v_kind, .int v_cells, .int v_last, .ref q_cellLength, .ref q_row, .int v_made, .ref q_cell, .int v_deep, .ref q_way, .ref q_turn, .int v_at, .int v_bad, .ref q_used])), (q_now, .inl (cI, 1600, .inl v_now)), (q_record, .inl (cI, 700, .inl v_record)), (q_used, .inl (cZ, 25, .inl v_used))] H → va_D A [(q_this, .inr (8, [.ref q_now, .ref q_disk, .ref q_before, .int v_onDisk, .int v_head, .int v_headPages, .int v_records, .ref q_recordPage, .ref q_recordBytes, .int v_up, .int v_armed, .int v_columns, .ref q_isBlob, .ref q_integer, .ref q_size, .ref q_blobs, .int v_length, .ref q_record, .int v_kind, .int v_cells, .int v_last, .ref q_cellLength, .ref q_row, .int v_made, .ref q_cell, .int v_deep, .ref q_way, .ref q_turn, .int v_at, .int v_bad, .ref q_used])), (q_now, .inl (cI, 1600, .inl v_now)), (q_record, .inl (cI, 700, .inl v_record)), (q_used, .inl (cZ, 25, .inl v_used))] → va_S A s.heap H locs → lv_has ls 8 [(0, .ref q_this), (4, .int x_4), (5, .int x_5), (6, .int x_6)] → q_MD_wellCell_135 (fun v_record => q_MD_wellCell_167 v_onDisk v_now v_length v_at v_bad v_record v_used x_4 x_5) v_onDisk v_now v_length v_at v_bad v_used x_4 x_5 n135 v_record x_6 = some (o_r, o_length, o_at, o_bad, o_record, o_used) → W p l e rm_MD_wellCell s m args below meth c H locs 0 0 Q (F0 m 135 ls []) := by
    intro v_length v_at v_bad v_used x_4 x_5 n135
    induction n135 with
    | zero =>
      intro v_record x_6 H locs ls hP hD hS hl hf
      rw [q_MD_wellCell_135] at hf
      cases hf
    | succ n135 ih_135 =>
      intro v_record x_6 H locs ls hP hD hS hl hf
      rw [q_MD_wellCell_135] at hf
      refine lv_iload hx hb d_MD_wellCell_135 (lv_at hl 3 rfl) ?_
      refine lv_iload hx hb d_MD_wellCell_137 (lv_at hl 2 rfl) ?_
      refine lv_icmp_ge (tgt := 167) hx hb d_MD_wellCell_139 rfl (fun hc => ?_) (fun hc => ?_)
      · have hf := pu_br_pos hf hc
        exact lb_167 v_length v_at v_bad v_record v_used x_4 x_5 H locs ls hP hD hS (lv_sub hl [0, 1, 2] rfl) hf
      have hf := pu_br_neg hf hc
      refine lv_aload_n hx hb d_MD_wellCell_142 rfl (lv_at hl 0 rfl) ?_
      refine gf_MD_50 (v := .ref q_record) hx hb hts hN hown hK hP 0 rfl rfl d_MD_wellCell_143 ?_
      refine lv_iload hx hb d_MD_wellCell_146 (lv_at hl 3 rfl) ?_
      refine lv_aload_n hx hb d_MD_wellCell_148 rfl (lv_at hl 0 rfl) ?_
      refine gf_MD_7 (v := .ref q_now) hx hb hts hN hown hK hP 0 rfl rfl d_MD_wellCell_149 ?_
      refine lv_aload_n hx hb d_MD_wellCell_152 rfl (lv_at hl 0 rfl) ?_
      refine gf_MD_132 (v := .int v_at) hx hb hts hN hown hK hP 0 rfl rfl d_MD_wellCell_153 ?_
      refine lv_iload hx hb d_MD_wellCell_156 (lv_at hl 3 rfl) ?_
      refine lv_iadd hx hb d_MD_wellCell_158 ?_
      obtain ⟨hin, hf⟩ := pu_ck_some hf
      refine va_iald hx hb hK hP 1 0 rfl rfl hin d_MD_wellCell_159 ?_
      obtain ⟨hin, hf⟩ := pu_ck_some hf
      obtain ⟨a20, e_a20, hf⟩ := pu_nm_some hf
      refine va_iast hx hb hK hP hD hS 2 0 rfl rfl hin d_MD_wellCell_160 (fun H locs hP hD hS => ?_)
      have hP : va_P D pu_cl [(q_this, .inr (8, [.ref q_now, .ref q_disk, .ref q_before, .int v_onDisk, .int v_head, .int v_headPages, .int v_records, .ref q_recordPage, .ref q_recordBytes, .int v_up, .int v_armed, .int v_columns, .ref q_isBlob, .ref q_integer, .ref q_size, .ref q_blobs, .int v_length, .ref q_record, .int v_kind, .int v_cells, .int v_last, .ref q_cellLength, .ref q_row, .int v_made, .ref q_cell, .int v_deep, .ref q_way, .ref q_turn, .int v_at, .int v_bad, .ref q_used])), (q_now, .inl (cI, 1600, .inl v_now)), (q_record, .inl (cI, 700, .inl a20)), (q_used, .inl (cZ, 25, .inl v_used))] H := by rw [e_a20]; exact hP
      have hD : va_D A [(q_this, .inr (8, [.ref q_now, .ref q_disk, .ref q_before, .int v_onDisk, .int v_head, .int v_headPages, .int v_records, .ref q_recordPage, .ref q_recordBytes, .int v_up, .int v_armed, .int v_columns, .ref q_isBlob, .ref q_integer, .ref q_size, .ref q_blobs, .int v_length, .ref q_record, .int v_kind, .int v_cells, .int v_last, .ref q_cellLength, .ref q_row, .int v_made, .ref q_cell, .int v_deep, .ref q_way, .ref q_turn, .int v_at, .int v_bad, .ref q_used])), (q_now, .inl (cI, 1600, .inl v_now)), (q_record, .inl (cI, 700, .inl a20)), (q_used, .inl (cZ, 25, .inl v_used))] := by rw [e_a20]; exact hD
      obtain ⟨t21, e_t21, hf⟩ := pu_nm_some hf
      refine lv_iinc (k := 3) (v := t21) hx hb d_MD_wellCell_161 hl rfl e_t21.symm (by decide) rfl (fun ls hl => ?_)
      have hl : lv_has ls 8 [(6, .int t21), (0, .ref q_this), (4, .int x_4), (5, .int x_5)] := hl
      refine lv_goto (tgt := 135) hx hb d_MD_wellCell_164 rfl ?_
      exact ih_135 a20 t21 H locs ls hP hD hS (lv_sub hl [1, 2, 3, 0] rfl) hf
  have lb_130 : ∀ (v_length : Int32) (v_at : Int32) (v_bad : Int32) (v_record : Nat → Int32) (v_used : Nat → Int32) (x_4 : Int32) (s_0 : Int32) (H : Heap) (locs : List Loc) (ls : Array Slot), va_P D pu_cl [(q_this, .inr (8, [.ref q_now, .ref q_disk, .ref q_before, .int v_onDisk, .int v_head, .int v_headPages, .int v_records, .ref q_recordPage, .ref q_recordBytes, .int v_up, .int v_armed, .int v_columns, .ref q_isBlob, .ref q_integer, .ref q_size, .ref q_blobs, .int v_length, .ref q_record, .int v_kind, .int v_cells, .int v_last, .ref q_cellLength, .ref q_row, .int v_made, .ref q_cell, .int v_deep, .ref q_way, .ref q_turn, .int v_at, .int v_bad, .ref q_used])), (q_now, .inl (cI, 1600, .inl v_now)), (q_record, .inl (cI, 700, .inl v_record)), (q_used, .inl (cZ, 25, .inl v_used))] H → va_D A [(q_this, .inr (8, [.ref q_now, .ref q_disk, .ref q_before, .int v_onDisk, .int v_head, .int v_headPages, .int v_records, .ref q_recordPage, .ref q_recordBytes, .int v_up, .int v_armed, .int v_columns, .ref q_isBlob, .ref q_integer, .ref q_size, .ref q_blobs, .int v_length, .ref q_record, .int v_kind, .int v_cells, .int v_last, .ref q_cellLength, .ref q_row, .int v_made, .ref q_cell, .int v_deep, .ref q_way, .ref q_turn, .int v_at, .int v_bad, .ref q_used])), (q_now, .inl (cI, 1600, .inl v_now)), (q_record, .inl (cI, 700, .inl v_record)), (q_used, .inl (cZ, 25, .inl v_used))] → va_S A s.heap H locs → lv_has ls 8 [(0, .ref q_this), (4, .int x_4)] → q_MD_wellCell_130 v_onDisk v_now v_length v_at v_bad v_record v_used x_4 s_0 = some (o_r, o_length, o_at, o_bad, o_record, o_used) → W p l e rm_MD_wellCell s m args below meth c H locs 0 0 Q (F0 m 130 ls [.int s_0]) := by
    intro v_length v_at v_bad v_record v_used x_4 s_0 H locs ls hP hD hS hl hf
    rw [q_MD_wellCell_130] at hf
    refine lv_istore hx hb d_MD_wellCell_130 hl (by decide) rfl (fun ls hl => ?_)
    have hl : lv_has ls 8 [(5, .int s_0), (0, .ref q_this), (4, .int x_4)] := hl
    refine lv_iconst (v := 0) hx hb d_MD_wellCell_132 rfl ?_
    refine lv_istore hx hb d_MD_wellCell_133 hl (by decide) rfl (fun ls hl => ?_)
    have hl : lv_has ls 8 [(6, .int (0 : Int32)), (5, .int s_0), (0, .ref q_this), (4, .int x_4)] := hl
    exact lp_135 v_length v_at v_bad v_used x_4 s_0 _ v_record (0 : Int32) H locs ls hP hD hS (lv_sub hl [2, 3, 1, 0] rfl) hf
  have lb_106 : ∀ (v_length : Int32) (v_at : Int32) (v_bad : Int32) (v_record : Nat → Int32) (v_used : Nat → Int32) (x_4 : Int32) (s_0 : Int32) (s_1 : Int32) (H : Heap) (locs : List Loc) (ls : Array Slot), va_P D pu_cl [(q_this, .inr (8, [.ref q_now, .ref q_disk, .ref q_before, .int v_onDisk, .int v_head, .int v_headPages, .int v_records, .ref q_recordPage, .ref q_recordBytes, .int v_up, .int v_armed, .int v_columns, .ref q_isBlob, .ref q_integer, .ref q_size, .ref q_blobs, .int v_length, .ref q_record, .int v_kind, .int v_cells, .int v_last, .ref q_cellLength, .ref q_row, .int v_made, .ref q_cell, .int v_deep, .ref q_way, .ref q_turn, .int v_at, .int v_bad, .ref q_used])), (q_now, .inl (cI, 1600, .inl v_now)), (q_record, .inl (cI, 700, .inl v_record)), (q_used, .inl (cZ, 25, .inl v_used))] H → va_D A [(q_this, .inr (8, [.ref q_now, .ref q_disk, .ref q_before, .int v_onDisk, .int v_head, .int v_headPages, .int v_records, .ref q_recordPage, .ref q_recordBytes, .int v_up, .int v_armed, .int v_columns, .ref q_isBlob, .ref q_integer, .ref q_size, .ref q_blobs, .int v_length, .ref q_record, .int v_kind, .int v_cells, .int v_last, .ref q_cellLength, .ref q_row, .int v_made, .ref q_cell, .int v_deep, .ref q_way, .ref q_turn, .int v_at, .int v_bad, .ref q_used])), (q_now, .inl (cI, 1600, .inl v_now)), (q_record, .inl (cI, 700, .inl v_record)), (q_used, .inl (cZ, 25, .inl v_used))] → va_S A s.heap H locs → lv_has ls 8 [(0, .ref q_this), (4, .int x_4)] → q_MD_wellCell_106 v_onDisk v_now v_length v_at v_bad v_record v_used x_4 s_0 s_1 = some (o_r, o_length, o_at, o_bad, o_record, o_used) → W p l e rm_MD_wellCell s m args below meth c H locs 0 0 Q (F0 m 106 ls [.int s_1, .int s_0]) := by
    intro v_length v_at v_bad v_record v_used x_4 s_0 s_1 H locs ls hP hD hS hl hf
    rw [q_MD_wellCell_106] at hf
    refine lv_icmp_eq (tgt := 112) hx hb d_MD_wellCell_106 rfl (fun hc => ?_) (fun hc => ?_)
    · have hf := pu_br_pos hf hc
      refine lv_aload_n hx hb d_MD_wellCell_112 rfl (lv_at hl 0 rfl) ?_
      refine gf_MD_91 (v := .int v_length) hx hb hts hN hown hK hP 0 rfl rfl d_MD_wellCell_113 ?_
      refine lv_bipush (v := 24) hx hb d_MD_wellCell_116 rfl ?_
      refine lv_icmp_le (tgt := 126) hx hb d_MD_wellCell_118 rfl (fun hc => ?_) (fun hc => ?_)
      · have hf := pu_br_pos hf hc
        refine lv_aload_n hx hb d_MD_wellCell_126 rfl (lv_at hl 0 rfl) ?_
        refine gf_MD_91 (v := .int v_length) hx hb hts hN hown hK hP 0 rfl rfl d_MD_wellCell_127 ?_
        exact lb_130 v_length v_at v_bad v_record v_used x_4 v_length H locs ls hP hD hS (lv_sub hl [0, 1] rfl) hf
      have hf := pu_br_neg hf hc
      refine lv_bipush (v := 16) hx hb d_MD_wellCell_121 rfl ?_
      refine lv_goto (tgt := 130) hx hb d_MD_wellCell_123 rfl ?_
      exact lb_130 v_length v_at v_bad v_record v_used x_4 (16 : Int32) H locs ls hP hD hS (lv_sub hl [0, 1] rfl) hf
    have hf := pu_br_neg hf hc
    refine lv_bipush (v := -2) hx hb d_MD_wellCell_109 rfl ?_
    exact hret _ _ _ _ (-2 : Int32) v_length v_at v_bad v_record v_used d_MD_wellCell_111 hP hD hS hf
  obtain ⟨H, hH⟩ : ∃ H, H = s.heap := ⟨_, rfl⟩
  obtain ⟨locs, hlocs⟩ : ∃ locs : List Loc, locs = [] := ⟨_, rfl⟩
  have hP : va_P D pu_cl [(q_this, .inr (8, [.ref q_now, .ref q_disk, .ref q_before, .int v_onDisk, .int v_head, .int v_headPages, .int v_records, .ref q_recordPage, .ref q_recordBytes, .int v_up, .int v_armed, .int v_columns, .ref q_isBlob, .ref q_integer, .ref q_size, .ref q_blobs, .int v_length, .ref q_record, .int v_kind, .int v_cells, .int v_last, .ref q_cellLength, .ref q_row, .int v_made, .ref q_cell, .int v_deep, .ref q_way, .ref q_turn, .int v_at, .int v_bad, .ref q_used])), (q_now, .inl (cI, 1600, .inl v_now)), (q_record, .inl (cI, 700, .inl v_record)), (q_used, .inl (cZ, 25, .inl v_used))] H := by rw [hH]; exact hP
  have hS : va_S A s.heap H locs := by rw [hH, hlocs]; exact hS
  have goal : W p l e rm_MD_wellCell s m args below meth c H locs 0 0 Q (F0 m 0 ls []) := by
    clear hH hlocs
    refine lv_bipush (v := 64) hx hb d_MD_wellCell_0 rfl ?_
    refine lv_iload_n hx hb d_MD_wellCell_2 rfl (lv_at hl 1 rfl) ?_
    refine lv_imul hx hb d_MD_wellCell_3 ?_
    refine lv_aload_n hx hb d_MD_wellCell_4 rfl (lv_at hl 0 rfl) ?_
    refine lv_iload_n hx hb d_MD_wellCell_5 rfl (lv_at hl 1 rfl) ?_
    refine lv_iload_n hx hb d_MD_wellCell_6 rfl (lv_at hl 2 rfl) ?_
    refine lv_iconst (v := 1) hx hb d_MD_wellCell_7 rfl ?_
    refine lv_isub hx hb d_MD_wellCell_8 ?_
    obtain ⟨r1, hc, hf⟩ := pu_b1_some hf
    refine cl_i (WC := [(q_this, .inr (8, [.ref q_now, .ref q_disk, .ref q_before, .int v_onDisk, .int v_head, .int v_headPages, .int v_records, .ref q_recordPage, .ref q_recordBytes, .int v_up, .int v_armed, .int v_columns, .ref q_isBlob, .ref q_integer, .ref q_size, .ref q_blobs, .int v_length, .ref q_record, .int v_kind, .int v_cells, .int v_last, .ref q_cellLength, .ref q_row, .int v_made, .ref q_cell, .int v_deep, .ref q_way, .ref q_turn, .int v_at, .int v_bad, .ref q_used])), (q_now, .inl (cI, 1600, .inl v_now))]) (WC2 := [(q_this, .inr (8, [.ref q_now, .ref q_disk, .ref q_before, .int v_onDisk, .int v_head, .int v_headPages, .int v_records, .ref q_recordPage, .ref q_recordBytes, .int v_up, .int v_armed, .int v_columns, .ref q_isBlob, .ref q_integer, .ref q_size, .ref q_blobs, .int v_length, .ref q_record, .int v_kind, .int v_cells, .int v_last, .ref q_cellLength, .ref q_row, .int v_made, .ref q_cell, .int v_deep, .ref q_way, .ref q_turn, .int v_at, .int v_bad, .ref q_used])), (q_now, .inl (cI, 1600, .inl v_now))]) (WR := [(q_record, .inl (cI, 700, .inl v_record)), (q_used, .inl (cZ, 25, .inl v_used))]) (WS2 := [(q_this, .inr (8, [.ref q_now, .ref q_disk, .ref q_before, .int v_onDisk, .int v_head, .int v_headPages, .int v_records, .ref q_recordPage, .ref q_recordBytes, .int v_up, .int v_armed, .int v_columns, .ref q_isBlob, .ref q_integer, .ref q_size, .ref q_blobs, .int v_length, .ref q_record, .int v_kind, .int v_cells, .int v_last, .ref q_cellLength, .ref q_row, .int v_made, .ref q_cell, .int v_deep, .ref q_way, .ref q_turn, .int v_at, .int v_bad, .ref q_used])), (q_now, .inl (cI, 1600, .inl v_now)), (q_record, .inl (cI, 700, .inl v_record)), (q_used, .inl (cZ, 25, .inl v_used))]) (pu_rv (cl := pu_cl) (pu_in10 _ (List.mem_of_getElem? (i := 54) rfl)) (pu_in10 _ (List.mem_of_getElem? (i := 55) rfl)) (pu_in14 _ (List.mem_of_getElem? (i := 15) rfl)) (pu_in0 _ (List.mem_of_getElem? (i := 10) rfl)) (pu_in10 _ (List.mem_of_getElem? (i := 56) rfl)) (ci := 8) rfl hd_MD_begin (by decide) ⟨rfl, rfl⟩ rfl rfl (Nat.le_of_ble_eq_true rfl) rfl (As := [.int x_1, .int (x_2 - (1 : Int32))]) (rest := [.int ((64 : Int32) * x_1)]) (WC := [(q_this, .inr (8, [.ref q_now, .ref q_disk, .ref q_before, .int v_onDisk, .int v_head, .int v_headPages, .int v_records, .ref q_recordPage, .ref q_recordBytes, .int v_up, .int v_armed, .int v_columns, .ref q_isBlob, .ref q_integer, .ref q_size, .ref q_blobs, .int v_length, .ref q_record, .int v_kind, .int v_cells, .int v_last, .ref q_cellLength, .ref q_row, .int v_made, .ref q_cell, .int v_deep, .ref q_way, .ref q_turn, .int v_at, .int v_bad, .ref q_used])), (q_now, .inl (cI, 1600, .inl v_now))]) hx hb hml hown hts hN hK hP hD (c_MD_begin l D cI cJ cB cZ H.size q_this q_now q_disk q_before q_recordPage q_recordBytes q_isBlob q_integer q_size q_blobs q_record q_cellLength q_row q_cell q_way q_turn q_used v_onDisk v_head v_headPages v_records v_up v_armed v_columns v_length v_kind v_cells v_last v_made v_deep v_at v_bad v_now x_1 (x_2 - (1 : Int32)) r1 hc) [0, 1] rfl rfl hl.1 d_MD_wellCell_9) hP hD hS hA [0, 1] [2, 3] [2, 3, 0, 1] rfl rfl rfl (by decide) rfl rfl (fun H locs hP hD hS => ?_)
    refine lv_iadd hx hb d_MD_wellCell_12 ?_
    obtain ⟨t2, e_t2, hf⟩ := pu_nm_some hf
    refine pu_ti e_t2 ?_
    refine lv_istore_n hx hb d_MD_wellCell_13 rfl hl (by decide) rfl (fun ls hl => ?_)
    have hl : lv_has ls 8 [(3, .int t2), (0, .ref q_this), (1, .int x_1), (2, .int x_2)] := hl
    refine lv_aload_n hx hb d_MD_wellCell_14 rfl (lv_at hl 1 rfl) ?_
    refine lv_bipush (v := 64) hx hb d_MD_wellCell_15 rfl ?_
    refine lv_iload_n hx hb d_MD_wellCell_17 rfl (lv_at hl 2 rfl) ?_
    refine lv_imul hx hb d_MD_wellCell_18 ?_
    refine lv_aload_n hx hb d_MD_wellCell_19 rfl (lv_at hl 1 rfl) ?_
    refine lv_iload_n hx hb d_MD_wellCell_20 rfl (lv_at hl 2 rfl) ?_
    refine lv_iload_n hx hb d_MD_wellCell_21 rfl (lv_at hl 3 rfl) ?_
    obtain ⟨r3, hc, hf⟩ := pu_b1_some hf
    refine cl_i (WC := [(q_this, .inr (8, [.ref q_now, .ref q_disk, .ref q_before, .int v_onDisk, .int v_head, .int v_headPages, .int v_records, .ref q_recordPage, .ref q_recordBytes, .int v_up, .int v_armed, .int v_columns, .ref q_isBlob, .ref q_integer, .ref q_size, .ref q_blobs, .int v_length, .ref q_record, .int v_kind, .int v_cells, .int v_last, .ref q_cellLength, .ref q_row, .int v_made, .ref q_cell, .int v_deep, .ref q_way, .ref q_turn, .int v_at, .int v_bad, .ref q_used])), (q_now, .inl (cI, 1600, .inl v_now))]) (WC2 := [(q_this, .inr (8, [.ref q_now, .ref q_disk, .ref q_before, .int v_onDisk, .int v_head, .int v_headPages, .int v_records, .ref q_recordPage, .ref q_recordBytes, .int v_up, .int v_armed, .int v_columns, .ref q_isBlob, .ref q_integer, .ref q_size, .ref q_blobs, .int v_length, .ref q_record, .int v_kind, .int v_cells, .int v_last, .ref q_cellLength, .ref q_row, .int v_made, .ref q_cell, .int v_deep, .ref q_way, .ref q_turn, .int v_at, .int v_bad, .ref q_used])), (q_now, .inl (cI, 1600, .inl v_now))]) (WR := [(q_record, .inl (cI, 700, .inl v_record)), (q_used, .inl (cZ, 25, .inl v_used))]) (WS2 := [(q_this, .inr (8, [.ref q_now, .ref q_disk, .ref q_before, .int v_onDisk, .int v_head, .int v_headPages, .int v_records, .ref q_recordPage, .ref q_recordBytes, .int v_up, .int v_armed, .int v_columns, .ref q_isBlob, .ref q_integer, .ref q_size, .ref q_blobs, .int v_length, .ref q_record, .int v_kind, .int v_cells, .int v_last, .ref q_cellLength, .ref q_row, .int v_made, .ref q_cell, .int v_deep, .ref q_way, .ref q_turn, .int v_at, .int v_bad, .ref q_used])), (q_now, .inl (cI, 1600, .inl v_now)), (q_record, .inl (cI, 700, .inl v_record)), (q_used, .inl (cZ, 25, .inl v_used))]) (pu_rv (cl := pu_cl) (pu_in10 _ (List.mem_of_getElem? (i := 54) rfl)) (pu_in10 _ (List.mem_of_getElem? (i := 55) rfl)) (pu_in14 _ (List.mem_of_getElem? (i := 15) rfl)) (pu_in0 _ (List.mem_of_getElem? (i := 10) rfl)) (pu_in10 _ (List.mem_of_getElem? (i := 56) rfl)) (ci := 8) rfl hd_MD_begin (by decide) ⟨rfl, rfl⟩ rfl rfl (Nat.le_of_ble_eq_true rfl) rfl (As := [.int x_1, .int x_2]) (rest := [.int ((64 : Int32) * x_1), .ref q_this]) (WC := [(q_this, .inr (8, [.ref q_now, .ref q_disk, .ref q_before, .int v_onDisk, .int v_head, .int v_headPages, .int v_records, .ref q_recordPage, .ref q_recordBytes, .int v_up, .int v_armed, .int v_columns, .ref q_isBlob, .ref q_integer, .ref q_size, .ref q_blobs, .int v_length, .ref q_record, .int v_kind, .int v_cells, .int v_last, .ref q_cellLength, .ref q_row, .int v_made, .ref q_cell, .int v_deep, .ref q_way, .ref q_turn, .int v_at, .int v_bad, .ref q_used])), (q_now, .inl (cI, 1600, .inl v_now))]) hx hb hml hown hts hN hK hP hD (c_MD_begin l D cI cJ cB cZ H.size q_this q_now q_disk q_before q_recordPage q_recordBytes q_isBlob q_integer q_size q_blobs q_record q_cellLength q_row q_cell q_way q_turn q_used v_onDisk v_head v_headPages v_records v_up v_armed v_columns v_length v_kind v_cells v_last v_made v_deep v_at v_bad v_now x_1 x_2 r3 hc) [0, 1] rfl rfl hl.1 d_MD_wellCell_22) hP hD hS hA [0, 1] [2, 3] [2, 3, 0, 1] rfl rfl rfl (by decide) rfl rfl (fun H locs hP hD hS => ?_)
    refine lv_iadd hx hb d_MD_wellCell_25 ?_
    obtain ⟨t4, e_t4, hf⟩ := pu_nm_some hf
    refine pu_ti e_t4 ?_
    refine pf_MD_132 (v := .int t4) hx hb hts hN hown hK hP hD hS 0 rfl rfl rfl (Nat.le_of_ble_eq_true rfl) d_MD_wellCell_26 (fun H locs hP hD hS => ?_)
    have hP : va_P D pu_cl [(q_this, .inr (8, [.ref q_now, .ref q_disk, .ref q_before, .int v_onDisk, .int v_head, .int v_headPages, .int v_records, .ref q_recordPage, .ref q_recordBytes, .int v_up, .int v_armed, .int v_columns, .ref q_isBlob, .ref q_integer, .ref q_size, .ref q_blobs, .int v_length, .ref q_record, .int v_kind, .int v_cells, .int v_last, .ref q_cellLength, .ref q_row, .int v_made, .ref q_cell, .int v_deep, .ref q_way, .ref q_turn, .int t4, .int v_bad, .ref q_used])), (q_now, .inl (cI, 1600, .inl v_now)), (q_record, .inl (cI, 700, .inl v_record)), (q_used, .inl (cZ, 25, .inl v_used))] H := hP
    have hD : va_D A [(q_this, .inr (8, [.ref q_now, .ref q_disk, .ref q_before, .int v_onDisk, .int v_head, .int v_headPages, .int v_records, .ref q_recordPage, .ref q_recordBytes, .int v_up, .int v_armed, .int v_columns, .ref q_isBlob, .ref q_integer, .ref q_size, .ref q_blobs, .int v_length, .ref q_record, .int v_kind, .int v_cells, .int v_last, .ref q_cellLength, .ref q_row, .int v_made, .ref q_cell, .int v_deep, .ref q_way, .ref q_turn, .int t4, .int v_bad, .ref q_used])), (q_now, .inl (cI, 1600, .inl v_now)), (q_record, .inl (cI, 700, .inl v_record)), (q_used, .inl (cZ, 25, .inl v_used))] := hD
    refine lv_aload_n hx hb d_MD_wellCell_29 rfl (lv_at hl 1 rfl) ?_
    refine lv_iconst (v := 0) hx hb d_MD_wellCell_30 rfl ?_
    refine pf_MD_129 (v := .int (0 : Int32)) hx hb hts hN hown hK hP hD hS 0 rfl (by decide) (by decide) (Nat.le_of_ble_eq_true rfl) d_MD_wellCell_31 (fun H locs hP hD hS => ?_)
    have hP : va_P D pu_cl [(q_this, .inr (8, [.ref q_now, .ref q_disk, .ref q_before, .int v_onDisk, .int v_head, .int v_headPages, .int v_records, .ref q_recordPage, .ref q_recordBytes, .int v_up, .int v_armed, .int v_columns, .ref q_isBlob, .ref q_integer, .ref q_size, .ref q_blobs, .int v_length, .ref q_record, .int v_kind, .int v_cells, .int v_last, .ref q_cellLength, .ref q_row, .int v_made, .ref q_cell, .int v_deep, .ref q_way, .ref q_turn, .int t4, .int (0 : Int32), .ref q_used])), (q_now, .inl (cI, 1600, .inl v_now)), (q_record, .inl (cI, 700, .inl v_record)), (q_used, .inl (cZ, 25, .inl v_used))] H := hP
    have hD : va_D A [(q_this, .inr (8, [.ref q_now, .ref q_disk, .ref q_before, .int v_onDisk, .int v_head, .int v_headPages, .int v_records, .ref q_recordPage, .ref q_recordBytes, .int v_up, .int v_armed, .int v_columns, .ref q_isBlob, .ref q_integer, .ref q_size, .ref q_blobs, .int v_length, .ref q_record, .int v_kind, .int v_cells, .int v_last, .ref q_cellLength, .ref q_row, .int v_made, .ref q_cell, .int v_deep, .ref q_way, .ref q_turn, .int t4, .int (0 : Int32), .ref q_used])), (q_now, .inl (cI, 1600, .inl v_now)), (q_record, .inl (cI, 700, .inl v_record)), (q_used, .inl (cZ, 25, .inl v_used))] := hD
    refine lv_aload_n hx hb d_MD_wellCell_34 rfl (lv_at hl 1 rfl) ?_
    refine lv_aload_n hx hb d_MD_wellCell_35 rfl (lv_at hl 1 rfl) ?_
    refine lv_aload_n hx hb d_MD_wellCell_36 rfl (lv_at hl 1 rfl) ?_
    refine gf_MD_7 (v := .ref q_now) hx hb hts hN hown hK hP 0 rfl rfl d_MD_wellCell_37 ?_
    refine lv_iload_n hx hb d_MD_wellCell_40 rfl (lv_at hl 0 rfl) ?_
    obtain ⟨r5, w6, w7, hc, hf⟩ := pu_b3_some hf
    refine cl_i (WC := [(q_this, .inr (8, [.ref q_now, .ref q_disk, .ref q_before, .int v_onDisk, .int v_head, .int v_headPages, .int v_records, .ref q_recordPage, .ref q_recordBytes, .int v_up, .int v_armed, .int v_columns, .ref q_isBlob, .ref q_integer, .ref q_size, .ref q_blobs, .int v_length, .ref q_record, .int v_kind, .int v_cells, .int v_last, .ref q_cellLength, .ref q_row, .int v_made, .ref q_cell, .int v_deep, .ref q_way, .ref q_turn, .int t4, .int (0 : Int32), .ref q_used])), (q_now, .inl (cI, 1600, .inl v_now))]) (WC2 := [(q_this, .inr (8, [.ref q_now, .ref q_disk, .ref q_before, .int v_onDisk, .int v_head, .int v_headPages, .int v_records, .ref q_recordPage, .ref q_recordBytes, .int v_up, .int v_armed, .int v_columns, .ref q_isBlob, .ref q_integer, .ref q_size, .ref q_blobs, .int v_length, .ref q_record, .int v_kind, .int v_cells, .int v_last, .ref q_cellLength, .ref q_row, .int v_made, .ref q_cell, .int v_deep, .ref q_way, .ref q_turn, .int w6, .int w7, .ref q_used])), (q_now, .inl (cI, 1600, .inl v_now))]) (WR := [(q_record, .inl (cI, 700, .inl v_record)), (q_used, .inl (cZ, 25, .inl v_used))]) (WS2 := [(q_this, .inr (8, [.ref q_now, .ref q_disk, .ref q_before, .int v_onDisk, .int v_head, .int v_headPages, .int v_records, .ref q_recordPage, .ref q_recordBytes, .int v_up, .int v_armed, .int v_columns, .ref q_isBlob, .ref q_integer, .ref q_size, .ref q_blobs, .int v_length, .ref q_record, .int v_kind, .int v_cells, .int v_last, .ref q_cellLength, .ref q_row, .int v_made, .ref q_cell, .int v_deep, .ref q_way, .ref q_turn, .int w6, .int w7, .ref q_used])), (q_now, .inl (cI, 1600, .inl v_now)), (q_record, .inl (cI, 700, .inl v_record)), (q_used, .inl (cZ, 25, .inl v_used))]) (pu_rv (cl := pu_cl) (pu_in10 _ (List.mem_of_getElem? (i := 57) rfl)) (pu_in10 _ (List.mem_of_getElem? (i := 58) rfl)) (pu_in14 _ (List.mem_of_getElem? (i := 16) rfl)) (pu_in0 _ (List.mem_of_getElem? (i := 10) rfl)) (pu_in10 _ (List.mem_of_getElem? (i := 59) rfl)) (ci := 8) rfl hd_MD_read (by decide) ⟨rfl, rfl⟩ rfl rfl (Nat.le_of_ble_eq_true rfl) rfl (As := [.ref q_now, .int t2]) (rest := [.ref q_this]) (WC := [(q_this, .inr (8, [.ref q_now, .ref q_disk, .ref q_before, .int v_onDisk, .int v_head, .int v_headPages, .int v_records, .ref q_recordPage, .ref q_recordBytes, .int v_up, .int v_armed, .int v_columns, .ref q_isBlob, .ref q_integer, .ref q_size, .ref q_blobs, .int v_length, .ref q_record, .int v_kind, .int v_cells, .int v_last, .ref q_cellLength, .ref q_row, .int v_made, .ref q_cell, .int v_deep, .ref q_way, .ref q_turn, .int t4, .int (0 : Int32), .ref q_used])), (q_now, .inl (cI, 1600, .inl v_now))]) hx hb hml hown hts hN hK hP hD (c_MD_read l D cI cJ cB cZ H.size q_this q_now q_disk q_before q_recordPage q_recordBytes q_isBlob q_integer q_size q_blobs q_record q_cellLength q_row q_cell q_way q_turn q_used q_now 1600 v_onDisk v_head v_headPages v_records v_up v_armed v_columns v_length v_kind v_cells v_last v_made v_deep t4 (0 : Int32) v_now t2 r5 w6 w7 hc) [0, 1] rfl rfl hl.1 d_MD_wellCell_41) hP hD hS hA [0, 1] [2, 3] [2, 3, 0, 1] rfl rfl rfl (by decide) rfl rfl (fun H locs hP hD hS => ?_)
    refine pf_MD_91 (v := .int r5) hx hb hts hN hown hK hP hD hS 0 rfl rfl rfl (Nat.le_of_ble_eq_true rfl) d_MD_wellCell_44 (fun H locs hP hD hS => ?_)
    have hP : va_P D pu_cl [(q_this, .inr (8, [.ref q_now, .ref q_disk, .ref q_before, .int v_onDisk, .int v_head, .int v_headPages, .int v_records, .ref q_recordPage, .ref q_recordBytes, .int v_up, .int v_armed, .int v_columns, .ref q_isBlob, .ref q_integer, .ref q_size, .ref q_blobs, .int r5, .ref q_record, .int v_kind, .int v_cells, .int v_last, .ref q_cellLength, .ref q_row, .int v_made, .ref q_cell, .int v_deep, .ref q_way, .ref q_turn, .int w6, .int w7, .ref q_used])), (q_now, .inl (cI, 1600, .inl v_now)), (q_record, .inl (cI, 700, .inl v_record)), (q_used, .inl (cZ, 25, .inl v_used))] H := hP
    have hD : va_D A [(q_this, .inr (8, [.ref q_now, .ref q_disk, .ref q_before, .int v_onDisk, .int v_head, .int v_headPages, .int v_records, .ref q_recordPage, .ref q_recordBytes, .int v_up, .int v_armed, .int v_columns, .ref q_isBlob, .ref q_integer, .ref q_size, .ref q_blobs, .int r5, .ref q_record, .int v_kind, .int v_cells, .int v_last, .ref q_cellLength, .ref q_row, .int v_made, .ref q_cell, .int v_deep, .ref q_way, .ref q_turn, .int w6, .int w7, .ref q_used])), (q_now, .inl (cI, 1600, .inl v_now)), (q_record, .inl (cI, 700, .inl v_record)), (q_used, .inl (cZ, 25, .inl v_used))] := hD
    refine lv_aload_n hx hb d_MD_wellCell_47 rfl (lv_at hl 1 rfl) ?_
    refine lv_aload_n hx hb d_MD_wellCell_48 rfl (lv_at hl 1 rfl) ?_
    refine gf_MD_7 (v := .ref q_now) hx hb hts hN hown hK hP 0 rfl rfl d_MD_wellCell_49 ?_
    refine lv_iload_n hx hb d_MD_wellCell_52 rfl (lv_at hl 0 rfl) ?_
    obtain ⟨r8, w9, w10, hc, hf⟩ := pu_b3_some hf
    refine cl_i (WC := [(q_this, .inr (8, [.ref q_now, .ref q_disk, .ref q_before, .int v_onDisk, .int v_head, .int v_headPages, .int v_records, .ref q_recordPage, .ref q_recordBytes, .int v_up, .int v_armed, .int v_columns, .ref q_isBlob, .ref q_integer, .ref q_size, .ref q_blobs, .int r5, .ref q_record, .int v_kind, .int v_cells, .int v_last, .ref q_cellLength, .ref q_row, .int v_made, .ref q_cell, .int v_deep, .ref q_way, .ref q_turn, .int w6, .int w7, .ref q_used])), (q_now, .inl (cI, 1600, .inl v_now))]) (WC2 := [(q_this, .inr (8, [.ref q_now, .ref q_disk, .ref q_before, .int v_onDisk, .int v_head, .int v_headPages, .int v_records, .ref q_recordPage, .ref q_recordBytes, .int v_up, .int v_armed, .int v_columns, .ref q_isBlob, .ref q_integer, .ref q_size, .ref q_blobs, .int r5, .ref q_record, .int v_kind, .int v_cells, .int v_last, .ref q_cellLength, .ref q_row, .int v_made, .ref q_cell, .int v_deep, .ref q_way, .ref q_turn, .int w9, .int w10, .ref q_used])), (q_now, .inl (cI, 1600, .inl v_now))]) (WR := [(q_record, .inl (cI, 700, .inl v_record)), (q_used, .inl (cZ, 25, .inl v_used))]) (WS2 := [(q_this, .inr (8, [.ref q_now, .ref q_disk, .ref q_before, .int v_onDisk, .int v_head, .int v_headPages, .int v_records, .ref q_recordPage, .ref q_recordBytes, .int v_up, .int v_armed, .int v_columns, .ref q_isBlob, .ref q_integer, .ref q_size, .ref q_blobs, .int r5, .ref q_record, .int v_kind, .int v_cells, .int v_last, .ref q_cellLength, .ref q_row, .int v_made, .ref q_cell, .int v_deep, .ref q_way, .ref q_turn, .int w9, .int w10, .ref q_used])), (q_now, .inl (cI, 1600, .inl v_now)), (q_record, .inl (cI, 700, .inl v_record)), (q_used, .inl (cZ, 25, .inl v_used))]) (pu_rv (cl := pu_cl) (pu_in10 _ (List.mem_of_getElem? (i := 57) rfl)) (pu_in10 _ (List.mem_of_getElem? (i := 58) rfl)) (pu_in14 _ (List.mem_of_getElem? (i := 16) rfl)) (pu_in0 _ (List.mem_of_getElem? (i := 10) rfl)) (pu_in10 _ (List.mem_of_getElem? (i := 59) rfl)) (ci := 8) rfl hd_MD_read (by decide) ⟨rfl, rfl⟩ rfl rfl (Nat.le_of_ble_eq_true rfl) rfl (As := [.ref q_now, .int t2]) (rest := []) (WC := [(q_this, .inr (8, [.ref q_now, .ref q_disk, .ref q_before, .int v_onDisk, .int v_head, .int v_headPages, .int v_records, .ref q_recordPage, .ref q_recordBytes, .int v_up, .int v_armed, .int v_columns, .ref q_isBlob, .ref q_integer, .ref q_size, .ref q_blobs, .int r5, .ref q_record, .int v_kind, .int v_cells, .int v_last, .ref q_cellLength, .ref q_row, .int v_made, .ref q_cell, .int v_deep, .ref q_way, .ref q_turn, .int w6, .int w7, .ref q_used])), (q_now, .inl (cI, 1600, .inl v_now))]) hx hb hml hown hts hN hK hP hD (c_MD_read l D cI cJ cB cZ H.size q_this q_now q_disk q_before q_recordPage q_recordBytes q_isBlob q_integer q_size q_blobs q_record q_cellLength q_row q_cell q_way q_turn q_used q_now 1600 v_onDisk v_head v_headPages v_records v_up v_armed v_columns r5 v_kind v_cells v_last v_made v_deep w6 w7 v_now t2 r8 w9 w10 hc) [0, 1] rfl rfl hl.1 d_MD_wellCell_53) hP hD hS hA [0, 1] [2, 3] [2, 3, 0, 1] rfl rfl rfl (by decide) rfl rfl (fun H locs hP hD hS => ?_)
    refine lv_istore hx hb d_MD_wellCell_56 hl (by decide) rfl (fun ls hl => ?_)
    have hl : lv_has ls 8 [(4, .int r8), (3, .int t2), (0, .ref q_this), (1, .int x_1), (2, .int x_2)] := hl
    refine lv_aload_n hx hb d_MD_wellCell_58 rfl (lv_at hl 2 rfl) ?_
    refine gf_MD_129 (v := .int w10) hx hb hts hN hown hK hP 0 rfl rfl d_MD_wellCell_59 ?_
    refine lv_if_ne (tgt := 109) hx hb d_MD_wellCell_62 rfl (fun hc => ?_) (fun hc => ?_)
    · have hf := pu_br_neg hf hc
      refine lv_bipush (v := -2) hx hb d_MD_wellCell_109 rfl ?_
      exact hret _ _ _ _ (-2 : Int32) r5 w9 w10 v_record v_used d_MD_wellCell_111 hP hD hS hf
    have hf := pu_br_pos hf hc
    refine lv_iload hx hb d_MD_wellCell_65 (lv_at hl 0 rfl) ?_
    refine lv_ldc (v := 1000000) hx hb hown (hts _ (pu_in10 _ (List.mem_of_getElem? (i := 38) rfl))) d_MD_wellCell_67 ?_
    refine lv_icmp_gt (tgt := 109) hx hb d_MD_wellCell_69 rfl (fun hc => ?_) (fun hc => ?_)
    · have hf := pu_br_pos hf hc
      refine lv_bipush (v := -2) hx hb d_MD_wellCell_109 rfl ?_
      exact hret _ _ _ _ (-2 : Int32) r5 w9 w10 v_record v_used d_MD_wellCell_111 hP hD hS hf
    have hf := pu_br_neg hf hc
    refine lv_aload_n hx hb d_MD_wellCell_72 rfl (lv_at hl 2 rfl) ?_
    refine gf_MD_91 (v := .int r5) hx hb hts hN hown hK hP 0 rfl rfl d_MD_wellCell_73 ?_
    refine lv_sipush (v := 400) hx hb d_MD_wellCell_76 rfl ?_
    refine lv_icmp_gt (tgt := 109) hx hb d_MD_wellCell_79 rfl (fun hc => ?_) (fun hc => ?_)
    · have hf := pu_br_pos hf hc
      refine lv_bipush (v := -2) hx hb d_MD_wellCell_109 rfl ?_
      exact hret _ _ _ _ (-2 : Int32) r5 w9 w10 v_record v_used d_MD_wellCell_111 hP hD hS hf
    have hf := pu_br_neg hf hc
    refine lv_iload_n hx hb d_MD_wellCell_82 rfl (lv_at hl 1 rfl) ?_
    refine lv_aload_n hx hb d_MD_wellCell_83 rfl (lv_at hl 2 rfl) ?_
    refine gf_MD_132 (v := .int w9) hx hb hts hN hown hK hP 0 rfl rfl d_MD_wellCell_84 ?_
    refine lv_isub hx hb d_MD_wellCell_87 ?_
    refine lv_aload_n hx hb d_MD_wellCell_88 rfl (lv_at hl 2 rfl) ?_
    refine gf_MD_91 (v := .int r5) hx hb hts hN hown hK hP 0 rfl rfl d_MD_wellCell_89 ?_
    refine lv_bipush (v := 24) hx hb d_MD_wellCell_92 rfl ?_
    refine lv_icmp_le (tgt := 102) hx hb d_MD_wellCell_94 rfl (fun hc => ?_) (fun hc => ?_)
    · have hf := pu_br_pos hf hc
      refine lv_aload_n hx hb d_MD_wellCell_102 rfl (lv_at hl 2 rfl) ?_
      refine gf_MD_91 (v := .int r5) hx hb hts hN hown hK hP 0 rfl rfl d_MD_wellCell_103 ?_
      exact lb_106 r5 w9 w10 v_record v_used r8 (t2 - w9) r5 H locs ls hP hD hS (lv_sub hl [2, 0] rfl) hf
    have hf := pu_br_neg hf hc
    refine lv_bipush (v := 17) hx hb d_MD_wellCell_97 rfl ?_
    refine lv_goto (tgt := 106) hx hb d_MD_wellCell_99 rfl ?_
    exact lb_106 r5 w9 w10 v_record v_used r8 (t2 - w9) (17 : Int32) H locs ls hP hD hS (lv_sub hl [2, 0] rfl) hf
  rw [hH, hlocs] at goal
  exact goal
theorem d_MD_wellTree_0 : decode b_MD_wellTree 0 = .ok (.iconst 0, 1) := by decide +kernel
theorem d_MD_wellTree_1 : decode b_MD_wellTree 1 = .ok (.istore_n 1, 1) := by decide +kernel
theorem d_MD_wellTree_2 : decode b_MD_wellTree 2 = .ok (.iconst (-1), 1) := by decide +kernel
theorem d_MD_wellTree_3 : decode b_MD_wellTree 3 = .ok (.istore_n 2, 1) := by decide +kernel
theorem d_MD_wellTree_4 : decode b_MD_wellTree 4 = .ok (.aload_n 0, 1) := by decide +kernel
theorem d_MD_wellTree_5 : decode b_MD_wellTree 5 = .ok (.iconst 0, 1) := by decide +kernel
theorem d_MD_wellTree_6 : decode b_MD_wellTree 6 = .ok (.putfield 142, 3) := by decide +kernel
theorem d_MD_wellTree_9 : decode b_MD_wellTree 9 = .ok (.aload_n 0, 1) := by decide +kernel
theorem d_MD_wellTree_10 : decode b_MD_wellTree 10 = .ok (.getfield 62, 3) := by decide +kernel
theorem d_MD_wellTree_13 : decode b_MD_wellTree 13 = .ok (.iconst 0, 1) := by decide +kernel
theorem d_MD_wellTree_14 : decode b_MD_wellTree 14 = .ok (.aload_n 0, 1) := by decide +kernel
theorem d_MD_wellTree_15 : decode b_MD_wellTree 15 = .ok (.invokevirtual 145, 3) := by decide +kernel
theorem d_MD_wellTree_18 : decode b_MD_wellTree 18 = .ok (.iastore, 1) := by decide +kernel
theorem d_MD_wellTree_19 : decode b_MD_wellTree 19 = .ok (.aload_n 0, 1) := by decide +kernel
theorem d_MD_wellTree_20 : decode b_MD_wellTree 20 = .ok (.getfield 65, 3) := by decide +kernel
theorem d_MD_wellTree_23 : decode b_MD_wellTree 23 = .ok (.iconst 0, 1) := by decide +kernel
theorem d_MD_wellTree_24 : decode b_MD_wellTree 24 = .ok (.iconst 0, 1) := by decide +kernel
theorem d_MD_wellTree_25 : decode b_MD_wellTree 25 = .ok (.iastore, 1) := by decide +kernel
theorem d_MD_wellTree_26 : decode b_MD_wellTree 26 = .ok (.aload_n 0, 1) := by decide +kernel
theorem d_MD_wellTree_27 : decode b_MD_wellTree 27 = .ok (.aload_n 0, 1) := by decide +kernel
theorem d_MD_wellTree_28 : decode b_MD_wellTree 28 = .ok (.getfield 62, 3) := by decide +kernel
theorem d_MD_wellTree_31 : decode b_MD_wellTree 31 = .ok (.iconst 0, 1) := by decide +kernel
theorem d_MD_wellTree_32 : decode b_MD_wellTree 32 = .ok (.iaload, 1) := by decide +kernel
theorem d_MD_wellTree_33 : decode b_MD_wellTree 33 = .ok (.invokevirtual 241, 3) := by decide +kernel
theorem d_MD_wellTree_36 : decode b_MD_wellTree 36 = .ok (.ifCond .eq 16, 3) := by decide +kernel
theorem d_MD_wellTree_39 : decode b_MD_wellTree 39 = .ok (.aload_n 0, 1) := by decide +kernel
theorem d_MD_wellTree_40 : decode b_MD_wellTree 40 = .ok (.aload_n 0, 1) := by decide +kernel
theorem d_MD_wellTree_41 : decode b_MD_wellTree 41 = .ok (.getfield 62, 3) := by decide +kernel
theorem d_MD_wellTree_44 : decode b_MD_wellTree 44 = .ok (.iconst 0, 1) := by decide +kernel
theorem d_MD_wellTree_45 : decode b_MD_wellTree 45 = .ok (.iaload, 1) := by decide +kernel
theorem d_MD_wellTree_46 : decode b_MD_wellTree 46 = .ok (.invokevirtual 244, 3) := by decide +kernel
theorem d_MD_wellTree_49 : decode b_MD_wellTree 49 = .ok (.ifCond .ne 5, 3) := by decide +kernel
theorem d_MD_wellTree_52 : decode b_MD_wellTree 52 = .ok (.iconst (-1), 1) := by decide +kernel
theorem d_MD_wellTree_53 : decode b_MD_wellTree 53 = .ok (.ireturn, 1) := by decide +kernel
theorem d_MD_wellTree_54 : decode b_MD_wellTree 54 = .ok (.aload_n 0, 1) := by decide +kernel
theorem d_MD_wellTree_55 : decode b_MD_wellTree 55 = .ok (.getfield 142, 3) := by decide +kernel
theorem d_MD_wellTree_58 : decode b_MD_wellTree 58 = .ok (.ifCond .lt 235, 3) := by decide +kernel
theorem d_MD_wellTree_61 : decode b_MD_wellTree 61 = .ok (.aload_n 0, 1) := by decide +kernel
theorem d_MD_wellTree_62 : decode b_MD_wellTree 62 = .ok (.getfield 62, 3) := by decide +kernel
theorem d_MD_wellTree_65 : decode b_MD_wellTree 65 = .ok (.aload_n 0, 1) := by decide +kernel
theorem d_MD_wellTree_66 : decode b_MD_wellTree 66 = .ok (.getfield 142, 3) := by decide +kernel
theorem d_MD_wellTree_69 : decode b_MD_wellTree 69 = .ok (.iaload, 1) := by decide +kernel
theorem d_MD_wellTree_70 : decode b_MD_wellTree 70 = .ok (.istore_n 3, 1) := by decide +kernel
theorem d_MD_wellTree_71 : decode b_MD_wellTree 71 = .ok (.aload_n 0, 1) := by decide +kernel
theorem d_MD_wellTree_72 : decode b_MD_wellTree 72 = .ok (.getfield 65, 3) := by decide +kernel
theorem d_MD_wellTree_75 : decode b_MD_wellTree 75 = .ok (.aload_n 0, 1) := by decide +kernel
theorem d_MD_wellTree_76 : decode b_MD_wellTree 76 = .ok (.getfield 142, 3) := by decide +kernel
theorem d_MD_wellTree_79 : decode b_MD_wellTree 79 = .ok (.iaload, 1) := by decide +kernel
theorem d_MD_wellTree_80 : decode b_MD_wellTree 80 = .ok (.istore 4, 2) := by decide +kernel
theorem d_MD_wellTree_82 : decode b_MD_wellTree 82 = .ok (.aload_n 0, 1) := by decide +kernel
theorem d_MD_wellTree_83 : decode b_MD_wellTree 83 = .ok (.getfield 7, 3) := by decide +kernel
theorem d_MD_wellTree_86 : decode b_MD_wellTree 86 = .ok (.bipush 64, 2) := by decide +kernel
theorem d_MD_wellTree_88 : decode b_MD_wellTree 88 = .ok (.iload_n 3, 1) := by decide +kernel
theorem d_MD_wellTree_89 : decode b_MD_wellTree 89 = .ok (.imul, 1) := by decide +kernel
theorem d_MD_wellTree_90 : decode b_MD_wellTree 90 = .ok (.iconst 1, 1) := by decide +kernel
theorem d_MD_wellTree_91 : decode b_MD_wellTree 91 = .ok (.iadd, 1) := by decide +kernel
theorem d_MD_wellTree_92 : decode b_MD_wellTree 92 = .ok (.iaload, 1) := by decide +kernel
theorem d_MD_wellTree_93 : decode b_MD_wellTree 93 = .ok (.istore 5, 2) := by decide +kernel
theorem d_MD_wellTree_95 : decode b_MD_wellTree 95 = .ok (.aload_n 0, 1) := by decide +kernel
theorem d_MD_wellTree_96 : decode b_MD_wellTree 96 = .ok (.getfield 7, 3) := by decide +kernel
theorem d_MD_wellTree_99 : decode b_MD_wellTree 99 = .ok (.bipush 64, 2) := by decide +kernel
theorem d_MD_wellTree_101 : decode b_MD_wellTree 101 = .ok (.iload_n 3, 1) := by decide +kernel
theorem d_MD_wellTree_102 : decode b_MD_wellTree 102 = .ok (.imul, 1) := by decide +kernel
theorem d_MD_wellTree_103 : decode b_MD_wellTree 103 = .ok (.iaload, 1) := by decide +kernel
theorem d_MD_wellTree_104 : decode b_MD_wellTree 104 = .ok (.iconst 5, 1) := by decide +kernel
theorem d_MD_wellTree_105 : decode b_MD_wellTree 105 = .ok (.if_icmp .ne 7, 3) := by decide +kernel
theorem d_MD_wellTree_108 : decode b_MD_wellTree 108 = .ok (.iconst 1, 1) := by decide +kernel
theorem d_MD_wellTree_109 : decode b_MD_wellTree 109 = .ok (.goto 4, 3) := by decide +kernel
theorem d_MD_wellTree_112 : decode b_MD_wellTree 112 = .ok (.iconst 0, 1) := by decide +kernel
theorem d_MD_wellTree_113 : decode b_MD_wellTree 113 = .ok (.istore 6, 2) := by decide +kernel
theorem d_MD_wellTree_115 : decode b_MD_wellTree 115 = .ok (.aload_n 0, 1) := by decide +kernel
theorem d_MD_wellTree_116 : decode b_MD_wellTree 116 = .ok (.getfield 65, 3) := by decide +kernel
theorem d_MD_wellTree_119 : decode b_MD_wellTree 119 = .ok (.aload_n 0, 1) := by decide +kernel
theorem d_MD_wellTree_120 : decode b_MD_wellTree 120 = .ok (.getfield 142, 3) := by decide +kernel
theorem d_MD_wellTree_123 : decode b_MD_wellTree 123 = .ok (.dup2, 1) := by decide +kernel
theorem d_MD_wellTree_124 : decode b_MD_wellTree 124 = .ok (.iaload, 1) := by decide +kernel
theorem d_MD_wellTree_125 : decode b_MD_wellTree 125 = .ok (.iconst 1, 1) := by decide +kernel
theorem d_MD_wellTree_126 : decode b_MD_wellTree 126 = .ok (.iadd, 1) := by decide +kernel
theorem d_MD_wellTree_127 : decode b_MD_wellTree 127 = .ok (.iastore, 1) := by decide +kernel
theorem d_MD_wellTree_128 : decode b_MD_wellTree 128 = .ok (.iload 6, 2) := by decide +kernel
theorem d_MD_wellTree_130 : decode b_MD_wellTree 130 = .ok (.ifCond .eq 37, 3) := by decide +kernel
theorem d_MD_wellTree_133 : decode b_MD_wellTree 133 = .ok (.iload 4, 2) := by decide +kernel
theorem d_MD_wellTree_135 : decode b_MD_wellTree 135 = .ok (.ifCond .le 32, 3) := by decide +kernel
theorem d_MD_wellTree_138 : decode b_MD_wellTree 138 = .ok (.iload 4, 2) := by decide +kernel
theorem d_MD_wellTree_140 : decode b_MD_wellTree 140 = .ok (.iload 5, 2) := by decide +kernel
theorem d_MD_wellTree_142 : decode b_MD_wellTree 142 = .ok (.if_icmp .gt 25, 3) := by decide +kernel
theorem d_MD_wellTree_145 : decode b_MD_wellTree 145 = .ok (.aload_n 0, 1) := by decide +kernel
theorem d_MD_wellTree_146 : decode b_MD_wellTree 146 = .ok (.iload_n 3, 1) := by decide +kernel
theorem d_MD_wellTree_147 : decode b_MD_wellTree 147 = .ok (.iload 4, 2) := by decide +kernel
theorem d_MD_wellTree_149 : decode b_MD_wellTree 149 = .ok (.iconst 1, 1) := by decide +kernel
theorem d_MD_wellTree_150 : decode b_MD_wellTree 150 = .ok (.isub, 1) := by decide +kernel
theorem d_MD_wellTree_151 : decode b_MD_wellTree 151 = .ok (.invokevirtual 247, 3) := by decide +kernel
theorem d_MD_wellTree_154 : decode b_MD_wellTree 154 = .ok (.istore 7, 2) := by decide +kernel
theorem d_MD_wellTree_156 : decode b_MD_wellTree 156 = .ok (.iload 7, 2) := by decide +kernel
theorem d_MD_wellTree_158 : decode b_MD_wellTree 158 = .ok (.iload_n 2, 1) := by decide +kernel
theorem d_MD_wellTree_159 : decode b_MD_wellTree 159 = .ok (.if_icmp .ge 5, 3) := by decide +kernel
theorem d_MD_wellTree_162 : decode b_MD_wellTree 162 = .ok (.iconst (-1), 1) := by decide +kernel
theorem d_MD_wellTree_163 : decode b_MD_wellTree 163 = .ok (.ireturn, 1) := by decide +kernel
theorem d_MD_wellTree_164 : decode b_MD_wellTree 164 = .ok (.iload 7, 2) := by decide +kernel
theorem d_MD_wellTree_166 : decode b_MD_wellTree 166 = .ok (.istore_n 2, 1) := by decide +kernel
theorem d_MD_wellTree_167 : decode b_MD_wellTree 167 = .ok (.iload 4, 2) := by decide +kernel
theorem d_MD_wellTree_169 : decode b_MD_wellTree 169 = .ok (.iload 5, 2) := by decide +kernel
theorem d_MD_wellTree_171 : decode b_MD_wellTree 171 = .ok (.if_icmp .gt 15, 3) := by decide +kernel
theorem d_MD_wellTree_174 : decode b_MD_wellTree 174 = .ok (.iload 6, 2) := by decide +kernel
theorem d_MD_wellTree_176 : decode b_MD_wellTree 176 = .ok (.ifCond .ne 23, 3) := by decide +kernel
theorem d_MD_wellTree_179 : decode b_MD_wellTree 179 = .ok (.iload 4, 2) := by decide +kernel
theorem d_MD_wellTree_181 : decode b_MD_wellTree 181 = .ok (.iload 5, 2) := by decide +kernel
theorem d_MD_wellTree_183 : decode b_MD_wellTree 183 = .ok (.if_icmp .ne 16, 3) := by decide +kernel
theorem d_MD_wellTree_186 : decode b_MD_wellTree 186 = .ok (.aload_n 0, 1) := by decide +kernel
theorem d_MD_wellTree_187 : decode b_MD_wellTree 187 = .ok (.dup, 1) := by decide +kernel
theorem d_MD_wellTree_188 : decode b_MD_wellTree 188 = .ok (.getfield 142, 3) := by decide +kernel
theorem d_MD_wellTree_191 : decode b_MD_wellTree 191 = .ok (.iconst 1, 1) := by decide +kernel
theorem d_MD_wellTree_192 : decode b_MD_wellTree 192 = .ok (.isub, 1) := by decide +kernel
theorem d_MD_wellTree_193 : decode b_MD_wellTree 193 = .ok (.putfield 142, 3) := by decide +kernel
theorem d_MD_wellTree_196 : decode b_MD_wellTree 196 = .ok (.goto 94, 3) := by decide +kernel
theorem d_MD_wellTree_199 : decode b_MD_wellTree 199 = .ok (.iload 6, 2) := by decide +kernel
theorem d_MD_wellTree_201 : decode b_MD_wellTree 201 = .ok (.ifCond .eq 66, 3) := by decide +kernel
theorem d_MD_wellTree_204 : decode b_MD_wellTree 204 = .ok (.aload_n 0, 1) := by decide +kernel
theorem d_MD_wellTree_205 : decode b_MD_wellTree 205 = .ok (.iload_n 3, 1) := by decide +kernel
theorem d_MD_wellTree_206 : decode b_MD_wellTree 206 = .ok (.iload 4, 2) := by decide +kernel
theorem d_MD_wellTree_208 : decode b_MD_wellTree 208 = .ok (.invokevirtual 152, 3) := by decide +kernel
theorem d_MD_wellTree_211 : decode b_MD_wellTree 211 = .ok (.istore 7, 2) := by decide +kernel
theorem d_MD_wellTree_213 : decode b_MD_wellTree 213 = .ok (.aload_n 0, 1) := by decide +kernel
theorem d_MD_wellTree_214 : decode b_MD_wellTree 214 = .ok (.iload 7, 2) := by decide +kernel
theorem d_MD_wellTree_216 : decode b_MD_wellTree 216 = .ok (.invokevirtual 241, 3) := by decide +kernel
theorem d_MD_wellTree_219 : decode b_MD_wellTree 219 = .ok (.ifCond .eq 12, 3) := by decide +kernel
theorem d_MD_wellTree_222 : decode b_MD_wellTree 222 = .ok (.aload_n 0, 1) := by decide +kernel
theorem d_MD_wellTree_223 : decode b_MD_wellTree 223 = .ok (.iload 7, 2) := by decide +kernel
theorem d_MD_wellTree_225 : decode b_MD_wellTree 225 = .ok (.invokevirtual 244, 3) := by decide +kernel
theorem d_MD_wellTree_228 : decode b_MD_wellTree 228 = .ok (.ifCond .ne 5, 3) := by decide +kernel
theorem d_MD_wellTree_231 : decode b_MD_wellTree 231 = .ok (.iconst (-1), 1) := by decide +kernel
theorem d_MD_wellTree_232 : decode b_MD_wellTree 232 = .ok (.ireturn, 1) := by decide +kernel
theorem d_MD_wellTree_233 : decode b_MD_wellTree 233 = .ok (.aload_n 0, 1) := by decide +kernel
theorem d_MD_wellTree_234 : decode b_MD_wellTree 234 = .ok (.dup, 1) := by decide +kernel
theorem d_MD_wellTree_235 : decode b_MD_wellTree 235 = .ok (.getfield 142, 3) := by decide +kernel
theorem d_MD_wellTree_238 : decode b_MD_wellTree 238 = .ok (.iconst 1, 1) := by decide +kernel
theorem d_MD_wellTree_239 : decode b_MD_wellTree 239 = .ok (.iadd, 1) := by decide +kernel
theorem d_MD_wellTree_240 : decode b_MD_wellTree 240 = .ok (.putfield 142, 3) := by decide +kernel
theorem d_MD_wellTree_243 : decode b_MD_wellTree 243 = .ok (.aload_n 0, 1) := by decide +kernel
theorem d_MD_wellTree_244 : decode b_MD_wellTree 244 = .ok (.getfield 62, 3) := by decide +kernel
theorem d_MD_wellTree_247 : decode b_MD_wellTree 247 = .ok (.aload_n 0, 1) := by decide +kernel
theorem d_MD_wellTree_248 : decode b_MD_wellTree 248 = .ok (.getfield 142, 3) := by decide +kernel
theorem d_MD_wellTree_251 : decode b_MD_wellTree 251 = .ok (.iload 7, 2) := by decide +kernel
theorem d_MD_wellTree_253 : decode b_MD_wellTree 253 = .ok (.iastore, 1) := by decide +kernel
theorem d_MD_wellTree_254 : decode b_MD_wellTree 254 = .ok (.aload_n 0, 1) := by decide +kernel
theorem d_MD_wellTree_255 : decode b_MD_wellTree 255 = .ok (.getfield 65, 3) := by decide +kernel
theorem d_MD_wellTree_258 : decode b_MD_wellTree 258 = .ok (.aload_n 0, 1) := by decide +kernel
theorem d_MD_wellTree_259 : decode b_MD_wellTree 259 = .ok (.getfield 142, 3) := by decide +kernel
theorem d_MD_wellTree_262 : decode b_MD_wellTree 262 = .ok (.iconst 0, 1) := by decide +kernel
theorem d_MD_wellTree_263 : decode b_MD_wellTree 263 = .ok (.iastore, 1) := by decide +kernel
theorem d_MD_wellTree_264 : decode b_MD_wellTree 264 = .ok (.goto 26, 3) := by decide +kernel
theorem d_MD_wellTree_267 : decode b_MD_wellTree 267 = .ok (.aload_n 0, 1) := by decide +kernel
theorem d_MD_wellTree_268 : decode b_MD_wellTree 268 = .ok (.iload_n 3, 1) := by decide +kernel
theorem d_MD_wellTree_269 : decode b_MD_wellTree 269 = .ok (.iload 4, 2) := by decide +kernel
theorem d_MD_wellTree_271 : decode b_MD_wellTree 271 = .ok (.invokevirtual 250, 3) := by decide +kernel
theorem d_MD_wellTree_274 : decode b_MD_wellTree 274 = .ok (.istore 7, 2) := by decide +kernel
theorem d_MD_wellTree_276 : decode b_MD_wellTree 276 = .ok (.iload 7, 2) := by decide +kernel
theorem d_MD_wellTree_278 : decode b_MD_wellTree 278 = .ok (.iload_n 2, 1) := by decide +kernel
theorem d_MD_wellTree_279 : decode b_MD_wellTree 279 = .ok (.if_icmp .gt 5, 3) := by decide +kernel
theorem d_MD_wellTree_282 : decode b_MD_wellTree 282 = .ok (.iconst (-1), 1) := by decide +kernel
theorem d_MD_wellTree_283 : decode b_MD_wellTree 283 = .ok (.ireturn, 1) := by decide +kernel
theorem d_MD_wellTree_284 : decode b_MD_wellTree 284 = .ok (.iload 7, 2) := by decide +kernel
theorem d_MD_wellTree_286 : decode b_MD_wellTree 286 = .ok (.istore_n 2, 1) := by decide +kernel
theorem d_MD_wellTree_287 : decode b_MD_wellTree 287 = .ok (.iinc 1 1, 3) := by decide +kernel
theorem d_MD_wellTree_290 : decode b_MD_wellTree 290 = .ok (.goto (-236), 3) := by decide +kernel
theorem d_MD_wellTree_293 : decode b_MD_wellTree 293 = .ok (.iload_n 1, 1) := by decide +kernel
theorem d_MD_wellTree_294 : decode b_MD_wellTree 294 = .ok (.ireturn, 1) := by decide +kernel
noncomputable def q_MD_wellTree_290 (kb : Int32 → Int32 → Int32 → Int32 → (Nat → Int32) → (Nat → Int32) → (Nat → Int32) → (Nat → Int32) → Int32 → Int32 → Option (Int32 × Int32 × Int32 × Int32 × Int32 × (Nat → Int32) × (Nat → Int32) × (Nat → Int32) × (Nat → Int32))) (v_onDisk : Int32) (v_now : Nat → Int32) (v_length : Int32) (v_deep : Int32) (v_at : Int32) (v_bad : Int32) (v_record : Nat → Int32) (v_way : Nat → Int32) (v_turn : Nat → Int32) (v_used : Nat → Int32) (x_1 : Int32) (x_2 : Int32) : Option (Int32 × Int32 × Int32 × Int32 × Int32 × (Nat → Int32) × (Nat → Int32) × (Nat → Int32) × (Nat → Int32)) :=
  kb v_length v_deep v_at v_bad v_record v_way v_turn v_used x_1 x_2
noncomputable def q_MD_wellTree_186 (kb : Int32 → Int32 → Int32 → Int32 → (Nat → Int32) → (Nat → Int32) → (Nat → Int32) → (Nat → Int32) → Int32 → Int32 → Option (Int32 × Int32 × Int32 × Int32 × Int32 × (Nat → Int32) × (Nat → Int32) × (Nat → Int32) × (Nat → Int32))) (v_onDisk : Int32) (v_now : Nat → Int32) (v_length : Int32) (v_deep : Int32) (v_at : Int32) (v_bad : Int32) (v_record : Nat → Int32) (v_way : Nat → Int32) (v_turn : Nat → Int32) (v_used : Nat → Int32) (x_1 : Int32) (x_2 : Int32) : Option (Int32 × Int32 × Int32 × Int32 × Int32 × (Nat → Int32) × (Nat → Int32) × (Nat → Int32) × (Nat → Int32)) :=
  pu_nm (v_deep - (1 : Int32)) (fun t11 => q_MD_wellTree_290 kb v_onDisk v_now v_length t11 v_at v_bad v_record v_way v_turn v_used x_1 x_2)
noncomputable def q_MD_wellTree_199 (kb : Int32 → Int32 → Int32 → Int32 → (Nat → Int32) → (Nat → Int32) → (Nat → Int32) → (Nat → Int32) → Int32 → Int32 → Option (Int32 × Int32 × Int32 × Int32 × Int32 × (Nat → Int32) × (Nat → Int32) × (Nat → Int32) × (Nat → Int32))) (v_onDisk : Int32) (v_now : Nat → Int32) (v_length : Int32) (v_deep : Int32) (v_at : Int32) (v_bad : Int32) (v_record : Nat → Int32) (v_way : Nat → Int32) (v_turn : Nat → Int32) (v_used : Nat → Int32) (x_1 : Int32) (x_2 : Int32) (x_3 : Int32) (x_4 : Int32) (x_6 : Int32) : Option (Int32 × Int32 × Int32 × Int32 × Int32 × (Nat → Int32) × (Nat → Int32) × (Nat → Int32) × (Nat → Int32)) :=
  pu_br (x_6 = 0) (pu_b6 (f_MD_wellCell v_onDisk v_now v_length v_at v_bad v_record v_used x_3 x_4) (fun r12 w13 w14 w15 w16 w17 => pu_br (x_2 < r12) (pu_nm (x_1 + (1 : Int32)) (fun t18 => q_MD_wellTree_290 kb v_onDisk v_now w13 v_deep w14 w15 w16 v_way v_turn w17 t18 r12)) (some ((-1 : Int32), w13, v_deep, w14, w15, w16, v_way, v_turn, w17)))) (pu_b1 (f_MD_child v_now x_3 x_4) (fun r19 => pu_b2 (f_MD_meet v_onDisk v_used r19) (fun r20 w21 => pu_br (r20 = 0) (some ((-1 : Int32), v_length, v_deep, v_at, v_bad, v_record, v_way, v_turn, w21)) (pu_b1 (f_MD_wellLaid v_now r19) (fun r22 => pu_br (r22 = 0) (some ((-1 : Int32), v_length, v_deep, v_at, v_bad, v_record, v_way, v_turn, w21)) (pu_nm (v_deep + (1 : Int32)) (fun t23 => pu_ck (vp_in t23 40) (pu_nm (upd v_way t23.toNatClampNeg r19) (fun a24 => pu_ck (vp_in t23 40) (pu_nm (upd v_turn t23.toNatClampNeg (0 : Int32)) (fun a25 => q_MD_wellTree_290 kb v_onDisk v_now v_length t23 v_at v_bad v_record a24 a25 w21 x_1 x_2)))))))))))
noncomputable def q_MD_wellTree_167 (kb : Int32 → Int32 → Int32 → Int32 → (Nat → Int32) → (Nat → Int32) → (Nat → Int32) → (Nat → Int32) → Int32 → Int32 → Option (Int32 × Int32 × Int32 × Int32 × Int32 × (Nat → Int32) × (Nat → Int32) × (Nat → Int32) × (Nat → Int32))) (v_onDisk : Int32) (v_now : Nat → Int32) (v_length : Int32) (v_deep : Int32) (v_at : Int32) (v_bad : Int32) (v_record : Nat → Int32) (v_way : Nat → Int32) (v_turn : Nat → Int32) (v_used : Nat → Int32) (x_1 : Int32) (x_2 : Int32) (x_3 : Int32) (x_4 : Int32) (x_5 : Int32) (x_6 : Int32) : Option (Int32 × Int32 × Int32 × Int32 × Int32 × (Nat → Int32) × (Nat → Int32) × (Nat → Int32) × (Nat → Int32)) :=
  pu_br (x_5 < x_4) (q_MD_wellTree_186 kb v_onDisk v_now v_length v_deep v_at v_bad v_record v_way v_turn v_used x_1 x_2) (pu_br (x_6 = 0) (pu_br (x_4 = x_5) (q_MD_wellTree_186 kb v_onDisk v_now v_length v_deep v_at v_bad v_record v_way v_turn v_used x_1 x_2) (q_MD_wellTree_199 kb v_onDisk v_now v_length v_deep v_at v_bad v_record v_way v_turn v_used x_1 x_2 x_3 x_4 x_6)) (q_MD_wellTree_199 kb v_onDisk v_now v_length v_deep v_at v_bad v_record v_way v_turn v_used x_1 x_2 x_3 x_4 x_6))
noncomputable def q_MD_wellTree_113 (kb : Int32 → Int32 → Int32 → Int32 → (Nat → Int32) → (Nat → Int32) → (Nat → Int32) → (Nat → Int32) → Int32 → Int32 → Option (Int32 × Int32 × Int32 × Int32 × Int32 × (Nat → Int32) × (Nat → Int32) × (Nat → Int32) × (Nat → Int32))) (v_onDisk : Int32) (v_now : Nat → Int32) (v_length : Int32) (v_deep : Int32) (v_at : Int32) (v_bad : Int32) (v_record : Nat → Int32) (v_way : Nat → Int32) (v_turn : Nat → Int32) (v_used : Nat → Int32) (x_1 : Int32) (x_2 : Int32) (x_3 : Int32) (x_4 : Int32) (x_5 : Int32) (s_0 : Int32) : Option (Int32 × Int32 × Int32 × Int32 × Int32 × (Nat → Int32) × (Nat → Int32) × (Nat → Int32) × (Nat → Int32)) :=
  pu_ck (vp_in v_deep 40) (pu_ck (vp_in v_deep 40) (pu_nm (upd v_turn v_deep.toNatClampNeg ((v_turn v_deep.toNatClampNeg) + (1 : Int32))) (fun a10 => pu_br (s_0 = 0) (q_MD_wellTree_167 kb v_onDisk v_now v_length v_deep v_at v_bad v_record v_way a10 v_used x_1 x_2 x_3 x_4 x_5 s_0) (pu_br (x_4 ≤ 0) (q_MD_wellTree_167 kb v_onDisk v_now v_length v_deep v_at v_bad v_record v_way a10 v_used x_1 x_2 x_3 x_4 x_5 s_0) (pu_br (x_5 < x_4) (q_MD_wellTree_167 kb v_onDisk v_now v_length v_deep v_at v_bad v_record v_way a10 v_used x_1 x_2 x_3 x_4 x_5 s_0) (pu_b3 (f_MD_innerKey v_now v_at v_bad x_3 (x_4 - (1 : Int32))) (fun r26 w27 w28 => pu_br (x_2 ≤ r26) (q_MD_wellTree_167 kb v_onDisk v_now v_length v_deep w27 w28 v_record v_way a10 v_used x_1 r26 x_3 x_4 x_5 s_0) (some ((-1 : Int32), v_length, v_deep, w27, w28, v_record, v_way, a10, v_used)))))))))
noncomputable def q_MD_wellTree_54 (v_onDisk : Int32) (v_now : Nat → Int32) : Nat → Int32 → Int32 → Int32 → Int32 → (Nat → Int32) → (Nat → Int32) → (Nat → Int32) → (Nat → Int32) → Int32 → Int32 → Option (Int32 × Int32 × Int32 × Int32 × Int32 × (Nat → Int32) × (Nat → Int32) × (Nat → Int32) × (Nat → Int32))
  | 0, _, _, _, _, _, _, _, _, _, _ => none
  | n + 1, v_length, v_deep, v_at, v_bad, v_record, v_way, v_turn, v_used, x_1, x_2 => pu_br (v_deep < 0) (some (x_1, v_length, v_deep, v_at, v_bad, v_record, v_way, v_turn, v_used)) (pu_ck (vp_in v_deep 40) (pu_nm (v_way v_deep.toNatClampNeg) (fun t7 => pu_ck (vp_in v_deep 40) (pu_nm (v_turn v_deep.toNatClampNeg) (fun t8 => pu_ck (vp_in (((64 : Int32) * t7) + (1 : Int32)) 1600) (pu_nm (v_now (((64 : Int32) * t7) + (1 : Int32)).toNatClampNeg) (fun t9 => pu_ck (vp_in ((64 : Int32) * t7) 1600) (pu_br ((v_now ((64 : Int32) * t7).toNatClampNeg) = (5 : Int32)) (q_MD_wellTree_113 (q_MD_wellTree_54 v_onDisk v_now n) v_onDisk v_now v_length v_deep v_at v_bad v_record v_way v_turn v_used x_1 x_2 t7 t8 t9 (1 : Int32)) (q_MD_wellTree_113 (q_MD_wellTree_54 v_onDisk v_now n) v_onDisk v_now v_length v_deep v_at v_bad v_record v_way v_turn v_used x_1 x_2 t7 t8 t9 (0 : Int32))))))))))
noncomputable def f_MD_wellTree (v_onDisk : Int32) (v_now : Nat → Int32) (v_length : Int32) (v_deep : Int32) (v_at : Int32) (v_bad : Int32) (v_record : Nat → Int32) (v_way : Nat → Int32) (v_turn : Nat → Int32) (v_used : Nat → Int32) : Option (Int32 × Int32 × Int32 × Int32 × Int32 × (Nat → Int32) × (Nat → Int32) × (Nat → Int32) × (Nat → Int32)) :=
  pu_b1 (f_MD_root v_now) (fun r1 => pu_ck (vp_in (0 : Int32) 40) (pu_nm (upd v_way (0 : Int32).toNatClampNeg r1) (fun a2 => pu_ck (vp_in (0 : Int32) 40) (pu_nm (upd v_turn (0 : Int32).toNatClampNeg (0 : Int32)) (fun a3 => pu_ck (vp_in (0 : Int32) 40) (pu_b2 (f_MD_meet v_onDisk v_used (a2 (0 : Int32).toNatClampNeg)) (fun r4 w5 => pu_br (r4 = 0) (some ((-1 : Int32), v_length, (0 : Int32), v_at, v_bad, v_record, a2, a3, w5)) (pu_ck (vp_in (0 : Int32) 40) (pu_b1 (f_MD_wellLaid v_now (a2 (0 : Int32).toNatClampNeg)) (fun r6 => pu_br (r6 = 0) (some ((-1 : Int32), v_length, (0 : Int32), v_at, v_bad, v_record, a2, a3, w5)) (q_MD_wellTree_54 v_onDisk v_now pu_fu v_length (0 : Int32) v_at v_bad v_record a2 a3 w5 (0 : Int32) (-1 : Int32))))))))))))
abbrev rm_MD_wellTree : Room := { frames := 4, cells := 0, slots := 0, locals := 98 }
set_option maxHeartbeats 8000000 in
set_option maxRecDepth 100000 in
theorem c_MD_wellTree (l : Launch) (D : va_G) (cI cJ cB cZ : ClassId) (sz : Nat) (q_this : Nat) (q_now : Nat) (q_disk : Nat) (q_before : Nat) (q_recordPage : Nat) (q_recordBytes : Nat) (q_isBlob : Nat) (q_integer : Nat) (q_size : Nat) (q_blobs : Nat) (q_record : Nat) (q_cellLength : Nat) (q_row : Nat) (q_cell : Nat) (q_way : Nat) (q_turn : Nat) (q_used : Nat) (v_onDisk : Int32) (v_head : Int32) (v_headPages : Int32) (v_records : Int32) (v_up : Int32) (v_armed : Int32) (v_columns : Int32) (v_length : Int32) (v_kind : Int32) (v_cells : Int32) (v_last : Int32) (v_made : Int32) (v_deep : Int32) (v_at : Int32) (v_bad : Int32) (v_now : Nat → Int32) (v_record : Nat → Int32) (v_way : Nat → Int32) (v_turn : Nat → Int32) (v_used : Nat → Int32) (o_r : Int32) (o_length : Int32) (o_deep : Int32) (o_at : Int32) (o_bad : Int32) (o_record : Nat → Int32) (o_way : Nat → Int32) (o_turn : Nat → Int32) (o_used : Nat → Int32) (hf : f_MD_wellTree v_onDisk v_now v_length v_deep v_at v_bad v_record v_way v_turn v_used = some (o_r, o_length, o_deep, o_at, o_bad, o_record, o_way, o_turn, o_used)) : Met l y_MD_wellTree (.code y_MD_wellTree b_MD_wellTree 8 (some .int) :: pu_wA) rm_MD_wellTree (pu_pc D pu_cl (pu_ty cI cJ cB cZ) [.ref q_this] [(q_this, .inr (8, [.ref q_now, .ref q_disk, .ref q_before, .int v_onDisk, .int v_head, .int v_headPages, .int v_records, .ref q_recordPage, .ref q_recordBytes, .int v_up, .int v_armed, .int v_columns, .ref q_isBlob, .ref q_integer, .ref q_size, .ref q_blobs, .int v_length, .ref q_record, .int v_kind, .int v_cells, .int v_last, .ref q_cellLength, .ref q_row, .int v_made, .ref q_cell, .int v_deep, .ref q_way, .ref q_turn, .int v_at, .int v_bad, .ref q_used])), (q_now, .inl (cI, 1600, .inl v_now)), (q_record, .inl (cI, 700, .inl v_record)), (q_way, .inl (cI, 40, .inl v_way)), (q_turn, .inl (cI, 40, .inl v_turn)), (q_used, .inl (cZ, 25, .inl v_used))] sz) (pu_qi D pu_cl (pu_ty cI cJ cB cZ) [(q_this, .inr (8, [.ref q_now, .ref q_disk, .ref q_before, .int v_onDisk, .int v_head, .int v_headPages, .int v_records, .ref q_recordPage, .ref q_recordBytes, .int v_up, .int v_armed, .int v_columns, .ref q_isBlob, .ref q_integer, .ref q_size, .ref q_blobs, .int v_length, .ref q_record, .int v_kind, .int v_cells, .int v_last, .ref q_cellLength, .ref q_row, .int v_made, .ref q_cell, .int v_deep, .ref q_way, .ref q_turn, .int v_at, .int v_bad, .ref q_used])), (q_now, .inl (cI, 1600, .inl v_now)), (q_record, .inl (cI, 700, .inl v_record)), (q_way, .inl (cI, 40, .inl v_way)), (q_turn, .inl (cI, 40, .inl v_turn)), (q_used, .inl (cZ, 25, .inl v_used))] [(q_this, .inr (8, [.ref q_now, .ref q_disk, .ref q_before, .int v_onDisk, .int v_head, .int v_headPages, .int v_records, .ref q_recordPage, .ref q_recordBytes, .int v_up, .int v_armed, .int v_columns, .ref q_isBlob, .ref q_integer, .ref q_size, .ref q_blobs, .int o_length, .ref q_record, .int v_kind, .int v_cells, .int v_last, .ref q_cellLength, .ref q_row, .int v_made, .ref q_cell, .int o_deep, .ref q_way, .ref q_turn, .int o_at, .int o_bad, .ref q_used])), (q_now, .inl (cI, 1600, .inl v_now)), (q_record, .inl (cI, 700, .inl o_record)), (q_way, .inl (cI, 40, .inl o_way)), (q_turn, .inl (cI, 40, .inl o_turn)), (q_used, .inl (cZ, 25, .inl o_used))] sz o_r) 0 0 (va_A [(q_this, .inr (8, [.ref q_now, .ref q_disk, .ref q_before, .int v_onDisk, .int v_head, .int v_headPages, .int v_records, .ref q_recordPage, .ref q_recordBytes, .int v_up, .int v_armed, .int v_columns, .ref q_isBlob, .ref q_integer, .ref q_size, .ref q_blobs, .int v_length, .ref q_record, .int v_kind, .int v_cells, .int v_last, .ref q_cellLength, .ref q_row, .int v_made, .ref q_cell, .int v_deep, .ref q_way, .ref q_turn, .int v_at, .int v_bad, .ref q_used])), (q_now, .inl (cI, 1600, .inl v_now)), (q_record, .inl (cI, 700, .inl v_record)), (q_way, .inl (cI, 40, .inl v_way)), (q_turn, .inl (cI, 40, .inl v_turn)), (q_used, .inl (cZ, 25, .inl v_used))] sz) := by
  refine pu_mti [.ref q_this] [(q_this, .inr (8, [.ref q_now, .ref q_disk, .ref q_before, .int v_onDisk, .int v_head, .int v_headPages, .int v_records, .ref q_recordPage, .ref q_recordBytes, .int v_up, .int v_armed, .int v_columns, .ref q_isBlob, .ref q_integer, .ref q_size, .ref q_blobs, .int v_length, .ref q_record, .int v_kind, .int v_cells, .int v_last, .ref q_cellLength, .ref q_row, .int v_made, .ref q_cell, .int v_deep, .ref q_way, .ref q_turn, .int v_at, .int v_bad, .ref q_used])), (q_now, .inl (cI, 1600, .inl v_now)), (q_record, .inl (cI, 700, .inl v_record)), (q_way, .inl (cI, 40, .inl v_way)), (q_turn, .inl (cI, 40, .inl v_turn)), (q_used, .inl (cZ, 25, .inl v_used))] [(q_this, .inr (8, [.ref q_now, .ref q_disk, .ref q_before, .int v_onDisk, .int v_head, .int v_headPages, .int v_records, .ref q_recordPage, .ref q_recordBytes, .int v_up, .int v_armed, .int v_columns, .ref q_isBlob, .ref q_integer, .ref q_size, .ref q_blobs, .int o_length, .ref q_record, .int v_kind, .int v_cells, .int v_last, .ref q_cellLength, .ref q_row, .int v_made, .ref q_cell, .int o_deep, .ref q_way, .ref q_turn, .int o_at, .int o_bad, .ref q_used])), (q_now, .inl (cI, 1600, .inl v_now)), (q_record, .inl (cI, 700, .inl o_record)), (q_way, .inl (cI, 40, .inl o_way)), (q_turn, .inl (cI, 40, .inl o_turn)), (q_used, .inl (cZ, 25, .inl o_used))] o_r (by decide) (Nat.le_of_ble_eq_true rfl) ?_
  intro p e s m args below meth c A Q ls hx hb hml hts hN hown hK hA hP hD hl hret0
  have hS : va_S A s.heap s.heap [] := va_S.rf
  have hl : lv_has ls 8 [(0, .ref q_this)] := hl
  have hret : ∀ (pc : Nat) (ls : Array Slot) (H : Heap) (locs : List Loc) (y_0 : Int32) (y_1 : Int32) (y_2 : Int32) (y_3 : Int32) (y_4 : Int32) (y_5 : Nat → Int32) (y_6 : Nat → Int32) (y_7 : Nat → Int32) (y_8 : Nat → Int32), decode b_MD_wellTree pc = .ok (.ireturn, 1) → va_P D pu_cl [(q_this, .inr (8, [.ref q_now, .ref q_disk, .ref q_before, .int v_onDisk, .int v_head, .int v_headPages, .int v_records, .ref q_recordPage, .ref q_recordBytes, .int v_up, .int v_armed, .int v_columns, .ref q_isBlob, .ref q_integer, .ref q_size, .ref q_blobs, .int y_1, .ref q_record, .int v_kind, .int v_cells, .int v_last, .ref q_cellLength, .ref q_row, .int v_made, .ref q_cell, .int y_2, .ref q_way, .ref q_turn, .int y_3, .int y_4, .ref q_used])), (q_now, .inl (cI, 1600, .inl v_now)), (q_record, .inl (cI, 700, .inl y_5)), (q_way, .inl (cI, 40, .inl y_6)), (q_turn, .inl (cI, 40, .inl y_7)), (q_used, .inl (cZ, 25, .inl y_8))] H → va_D A [(q_this, .inr (8, [.ref q_now, .ref q_disk, .ref q_before, .int v_onDisk, .int v_head, .int v_headPages, .int v_records, .ref q_recordPage, .ref q_recordBytes, .int v_up, .int v_armed, .int v_columns, .ref q_isBlob, .ref q_integer, .ref q_size, .ref q_blobs, .int y_1, .ref q_record, .int v_kind, .int v_cells, .int v_last, .ref q_cellLength, .ref q_row, .int v_made, .ref q_cell, .int y_2, .ref q_way, .ref q_turn, .int y_3, .int y_4, .ref q_used])), (q_now, .inl (cI, 1600, .inl v_now)), (q_record, .inl (cI, 700, .inl y_5)), (q_way, .inl (cI, 40, .inl y_6)), (q_turn, .inl (cI, 40, .inl y_7)), (q_used, .inl (cZ, 25, .inl y_8))] → va_S A s.heap H locs → some (y_0, y_1, y_2, y_3, y_4, y_5, y_6, y_7, y_8) = some (o_r, o_length, o_deep, o_at, o_bad, o_record, o_way, o_turn, o_used) → W p l e rm_MD_wellTree s m args below meth c H locs 0 0 Q (F0 m pc ls [.int y_0]) := by
    intro pc ls H locs y_0 y_1 y_2 y_3 y_4 y_5 y_6 y_7 y_8 hd hP hD hS hf
    cases hf
    exact hret0 pc ls H locs hd hP hD hS
  clear hret0
  unfold f_MD_wellTree at hf
  skip
  have lp_54 : ∀ (n54 : Nat) (v_length : Int32) (v_deep : Int32) (v_at : Int32) (v_bad : Int32) (v_record : Nat → Int32) (v_way : Nat → Int32) (v_turn : Nat → Int32) (v_used : Nat → Int32) (x_1 : Int32) (x_2 : Int32) (H : Heap) (locs : List Loc) (ls : Array Slot), va_P D pu_cl [(q_this, .inr (8, [.ref q_now, .ref q_disk, .ref q_before, .int v_onDisk, .int v_head, .int v_headPages, .int v_records, .ref q_recordPage, .ref q_recordBytes, .int v_up, .int v_armed, .int v_columns, .ref q_isBlob, .ref q_integer, .ref q_size, .ref q_blobs, .int v_length, .ref q_record, .int v_kind, .int v_cells, .int v_last, .ref q_cellLength, .ref q_row, .int v_made, .ref q_cell, .int v_deep, .ref q_way, .ref q_turn, .int v_at, .int v_bad, .ref q_used])), (q_now, .inl (cI, 1600, .inl v_now)), (q_record, .inl (cI, 700, .inl v_record)), (q_way, .inl (cI, 40, .inl v_way)), (q_turn, .inl (cI, 40, .inl v_turn)), (q_used, .inl (cZ, 25, .inl v_used))] H → va_D A [(q_this, .inr (8, [.ref q_now, .ref q_disk, .ref q_before, .int v_onDisk, .int v_head, .int v_headPages, .int v_records, .ref q_recordPage, .ref q_recordBytes, .int v_up, .int v_armed, .int v_columns, .ref q_isBlob, .ref q_integer, .ref q_size, .ref q_blobs, .int v_length, .ref q_record, .int v_kind, .int v_cells, .int v_last, .ref q_cellLength, .ref q_row, .int v_made, .ref q_cell, .int v_deep, .ref q_way, .ref q_turn, .int v_at, .int v_bad, .ref q_used])), (q_now, .inl (cI, 1600, .inl v_now)), (q_record, .inl (cI, 700, .inl v_record)), (q_way, .inl (cI, 40, .inl v_way)), (q_turn, .inl (cI, 40, .inl v_turn)), (q_used, .inl (cZ, 25, .inl v_used))] → va_S A s.heap H locs → lv_has ls 8 [(0, .ref q_this), (1, .int x_1), (2, .int x_2)] → q_MD_wellTree_54 v_onDisk v_now n54 v_length v_deep v_at v_bad v_record v_way v_turn v_used x_1 x_2 = some (o_r, o_length, o_deep, o_at, o_bad, o_record, o_way, o_turn, o_used) → W p l e rm_MD_wellTree s m args below meth c H locs 0 0 Q (F0 m 54 ls []) := by
    intro n54
    induction n54 with
    | zero =>
      intro v_length v_deep v_at v_bad v_record v_way v_turn v_used x_1 x_2 H locs ls hP hD hS hl hf
      rw [q_MD_wellTree_54] at hf
      cases hf
    | succ n54 ih_54 =>
      have lb_290 : ∀ (v_length : Int32) (v_deep : Int32) (v_at : Int32) (v_bad : Int32) (v_record : Nat → Int32) (v_way : Nat → Int32) (v_turn : Nat → Int32) (v_used : Nat → Int32) (x_1 : Int32) (x_2 : Int32) (H : Heap) (locs : List Loc) (ls : Array Slot), va_P D pu_cl [(q_this, .inr (8, [.ref q_now, .ref q_disk, .ref q_before, .int v_onDisk, .int v_head, .int v_headPages, .int v_records, .ref q_recordPage, .ref q_recordBytes, .int v_up, .int v_armed, .int v_columns, .ref q_isBlob, .ref q_integer, .ref q_size, .ref q_blobs, .int v_length, .ref q_record, .int v_kind, .int v_cells, .int v_last, .ref q_cellLength, .ref q_row, .int v_made, .ref q_cell, .int v_deep, .ref q_way, .ref q_turn, .int v_at, .int v_bad, .ref q_used])), (q_now, .inl (cI, 1600, .inl v_now)), (q_record, .inl (cI, 700, .inl v_record)), (q_way, .inl (cI, 40, .inl v_way)), (q_turn, .inl (cI, 40, .inl v_turn)), (q_used, .inl (cZ, 25, .inl v_used))] H → va_D A [(q_this, .inr (8, [.ref q_now, .ref q_disk, .ref q_before, .int v_onDisk, .int v_head, .int v_headPages, .int v_records, .ref q_recordPage, .ref q_recordBytes, .int v_up, .int v_armed, .int v_columns, .ref q_isBlob, .ref q_integer, .ref q_size, .ref q_blobs, .int v_length, .ref q_record, .int v_kind, .int v_cells, .int v_last, .ref q_cellLength, .ref q_row, .int v_made, .ref q_cell, .int v_deep, .ref q_way, .ref q_turn, .int v_at, .int v_bad, .ref q_used])), (q_now, .inl (cI, 1600, .inl v_now)), (q_record, .inl (cI, 700, .inl v_record)), (q_way, .inl (cI, 40, .inl v_way)), (q_turn, .inl (cI, 40, .inl v_turn)), (q_used, .inl (cZ, 25, .inl v_used))] → va_S A s.heap H locs → lv_has ls 8 [(0, .ref q_this), (1, .int x_1), (2, .int x_2)] → q_MD_wellTree_290 (q_MD_wellTree_54 v_onDisk v_now n54) v_onDisk v_now v_length v_deep v_at v_bad v_record v_way v_turn v_used x_1 x_2 = some (o_r, o_length, o_deep, o_at, o_bad, o_record, o_way, o_turn, o_used) → W p l e rm_MD_wellTree s m args below meth c H locs 0 0 Q (F0 m 290 ls []) := by
        intro v_length v_deep v_at v_bad v_record v_way v_turn v_used x_1 x_2 H locs ls hP hD hS hl hf
        rw [q_MD_wellTree_290] at hf
        refine lv_goto (tgt := 54) hx hb d_MD_wellTree_290 rfl ?_
        exact ih_54 v_length v_deep v_at v_bad v_record v_way v_turn v_used x_1 x_2 H locs ls hP hD hS (lv_sub hl [0, 1, 2] rfl) hf
      have lb_186 : ∀ (v_length : Int32) (v_deep : Int32) (v_at : Int32) (v_bad : Int32) (v_record : Nat → Int32) (v_way : Nat → Int32) (v_turn : Nat → Int32) (v_used : Nat → Int32) (x_1 : Int32) (x_2 : Int32) (H : Heap) (locs : List Loc) (ls : Array Slot), va_P D pu_cl [(q_this, .inr (8, [.ref q_now, .ref q_disk, .ref q_before, .int v_onDisk, .int v_head, .int v_headPages, .int v_records, .ref q_recordPage, .ref q_recordBytes, .int v_up, .int v_armed, .int v_columns, .ref q_isBlob, .ref q_integer, .ref q_size, .ref q_blobs, .int v_length, .ref q_record, .int v_kind, .int v_cells, .int v_last, .ref q_cellLength, .ref q_row, .int v_made, .ref q_cell, .int v_deep, .ref q_way, .ref q_turn, .int v_at, .int v_bad, .ref q_used])), (q_now, .inl (cI, 1600, .inl v_now)), (q_record, .inl (cI, 700, .inl v_record)), (q_way, .inl (cI, 40, .inl v_way)), (q_turn, .inl (cI, 40, .inl v_turn)), (q_used, .inl (cZ, 25, .inl v_used))] H → va_D A [(q_this, .inr (8, [.ref q_now, .ref q_disk, .ref q_before, .int v_onDisk, .int v_head, .int v_headPages, .int v_records, .ref q_recordPage, .ref q_recordBytes, .int v_up, .int v_armed, .int v_columns, .ref q_isBlob, .ref q_integer, .ref q_size, .ref q_blobs, .int v_length, .ref q_record, .int v_kind, .int v_cells, .int v_last, .ref q_cellLength, .ref q_row, .int v_made, .ref q_cell, .int v_deep, .ref q_way, .ref q_turn, .int v_at, .int v_bad, .ref q_used])), (q_now, .inl (cI, 1600, .inl v_now)), (q_record, .inl (cI, 700, .inl v_record)), (q_way, .inl (cI, 40, .inl v_way)), (q_turn, .inl (cI, 40, .inl v_turn)), (q_used, .inl (cZ, 25, .inl v_used))] → va_S A s.heap H locs → lv_has ls 8 [(0, .ref q_this), (1, .int x_1), (2, .int x_2)] → q_MD_wellTree_186 (q_MD_wellTree_54 v_onDisk v_now n54) v_onDisk v_now v_length v_deep v_at v_bad v_record v_way v_turn v_used x_1 x_2 = some (o_r, o_length, o_deep, o_at, o_bad, o_record, o_way, o_turn, o_used) → W p l e rm_MD_wellTree s m args below meth c H locs 0 0 Q (F0 m 186 ls []) := by
        intro v_length v_deep v_at v_bad v_record v_way v_turn v_used x_1 x_2 H locs ls hP hD hS hl hf
        rw [q_MD_wellTree_186] at hf
        refine lv_aload_n hx hb d_MD_wellTree_186 rfl (lv_at hl 0 rfl) ?_
        refine lv_dup hx hb d_MD_wellTree_187 rfl ?_
        refine gf_MD_142 (v := .int v_deep) hx hb hts hN hown hK hP 0 rfl rfl d_MD_wellTree_188 ?_
        refine lv_iconst (v := 1) hx hb d_MD_wellTree_191 rfl ?_
        refine lv_isub hx hb d_MD_wellTree_192 ?_
        obtain ⟨t11, e_t11, hf⟩ := pu_nm_some hf
        refine pu_ti e_t11 ?_
        refine pf_MD_142 (v := .int t11) hx hb hts hN hown hK hP hD hS 0 rfl rfl rfl (Nat.le_of_ble_eq_true rfl) d_MD_wellTree_193 (fun H locs hP hD hS => ?_)
        have hP : va_P D pu_cl [(q_this, .inr (8, [.ref q_now, .ref q_disk, .ref q_before, .int v_onDisk, .int v_head, .int v_headPages, .int v_records, .ref q_recordPage, .ref q_recordBytes, .int v_up, .int v_armed, .int v_columns, .ref q_isBlob, .ref q_integer, .ref q_size, .ref q_blobs, .int v_length, .ref q_record, .int v_kind, .int v_cells, .int v_last, .ref q_cellLength, .ref q_row, .int v_made, .ref q_cell, .int t11, .ref q_way, .ref q_turn, .int v_at, .int v_bad, .ref q_used])), (q_now, .inl (cI, 1600, .inl v_now)), (q_record, .inl (cI, 700, .inl v_record)), (q_way, .inl (cI, 40, .inl v_way)), (q_turn, .inl (cI, 40, .inl v_turn)), (q_used, .inl (cZ, 25, .inl v_used))] H := hP
        have hD : va_D A [(q_this, .inr (8, [.ref q_now, .ref q_disk, .ref q_before, .int v_onDisk, .int v_head, .int v_headPages, .int v_records, .ref q_recordPage, .ref q_recordBytes, .int v_up, .int v_armed, .int v_columns, .ref q_isBlob, .ref q_integer, .ref q_size, .ref q_blobs, .int v_length, .ref q_record, .int v_kind, .int v_cells, .int v_last, .ref q_cellLength, .ref q_row, .int v_made, .ref q_cell, .int t11, .ref q_way, .ref q_turn, .int v_at, .int v_bad, .ref q_used])), (q_now, .inl (cI, 1600, .inl v_now)), (q_record, .inl (cI, 700, .inl v_record)), (q_way, .inl (cI, 40, .inl v_way)), (q_turn, .inl (cI, 40, .inl v_turn)), (q_used, .inl (cZ, 25, .inl v_used))] := hD
        refine lv_goto (tgt := 290) hx hb d_MD_wellTree_196 rfl ?_
        exact lb_290 v_length t11 v_at v_bad v_record v_way v_turn v_used x_1 x_2 H locs ls hP hD hS (lv_sub hl [0, 1, 2] rfl) hf
      have lb_199 : ∀ (v_length : Int32) (v_deep : Int32) (v_at : Int32) (v_bad : Int32) (v_record : Nat → Int32) (v_way : Nat → Int32) (v_turn : Nat → Int32) (v_used : Nat → Int32) (x_1 : Int32) (x_2 : Int32) (x_3 : Int32) (x_4 : Int32) (x_6 : Int32) (H : Heap) (locs : List Loc) (ls : Array Slot), va_P D pu_cl [(q_this, .inr (8, [.ref q_now, .ref q_disk, .ref q_before, .int v_onDisk, .int v_head, .int v_headPages, .int v_records, .ref q_recordPage, .ref q_recordBytes, .int v_up, .int v_armed, .int v_columns, .ref q_isBlob, .ref q_integer, .ref q_size, .ref q_blobs, .int v_length, .ref q_record, .int v_kind, .int v_cells, .int v_last, .ref q_cellLength, .ref q_row, .int v_made, .ref q_cell, .int v_deep, .ref q_way, .ref q_turn, .int v_at, .int v_bad, .ref q_used])), (q_now, .inl (cI, 1600, .inl v_now)), (q_record, .inl (cI, 700, .inl v_record)), (q_way, .inl (cI, 40, .inl v_way)), (q_turn, .inl (cI, 40, .inl v_turn)), (q_used, .inl (cZ, 25, .inl v_used))] H → va_D A [(q_this, .inr (8, [.ref q_now, .ref q_disk, .ref q_before, .int v_onDisk, .int v_head, .int v_headPages, .int v_records, .ref q_recordPage, .ref q_recordBytes, .int v_up, .int v_armed, .int v_columns, .ref q_isBlob, .ref q_integer, .ref q_size, .ref q_blobs, .int v_length, .ref q_record, .int v_kind, .int v_cells, .int v_last, .ref q_cellLength, .ref q_row, .int v_made, .ref q_cell, .int v_deep, .ref q_way, .ref q_turn, .int v_at, .int v_bad, .ref q_used])), (q_now, .inl (cI, 1600, .inl v_now)), (q_record, .inl (cI, 700, .inl v_record)), (q_way, .inl (cI, 40, .inl v_way)), (q_turn, .inl (cI, 40, .inl v_turn)), (q_used, .inl (cZ, 25, .inl v_used))] → va_S A s.heap H locs → lv_has ls 8 [(0, .ref q_this), (1, .int x_1), (2, .int x_2), (3, .int x_3), (4, .int x_4), (6, .int x_6)] → q_MD_wellTree_199 (q_MD_wellTree_54 v_onDisk v_now n54) v_onDisk v_now v_length v_deep v_at v_bad v_record v_way v_turn v_used x_1 x_2 x_3 x_4 x_6 = some (o_r, o_length, o_deep, o_at, o_bad, o_record, o_way, o_turn, o_used) → W p l e rm_MD_wellTree s m args below meth c H locs 0 0 Q (F0 m 199 ls []) := by
        intro v_length v_deep v_at v_bad v_record v_way v_turn v_used x_1 x_2 x_3 x_4 x_6 H locs ls hP hD hS hl hf
        rw [q_MD_wellTree_199] at hf
        refine lv_iload hx hb d_MD_wellTree_199 (lv_at hl 5 rfl) ?_
        refine lv_if_eq (tgt := 267) hx hb d_MD_wellTree_201 rfl (fun hc => ?_) (fun hc => ?_)
        · have hf := pu_br_pos hf hc
          refine lv_aload_n hx hb d_MD_wellTree_267 rfl (lv_at hl 0 rfl) ?_
          refine lv_iload_n hx hb d_MD_wellTree_268 rfl (lv_at hl 3 rfl) ?_
          refine lv_iload hx hb d_MD_wellTree_269 (lv_at hl 4 rfl) ?_
          obtain ⟨r12, w13, w14, w15, w16, w17, hc, hf⟩ := pu_b6_some hf
          refine cl_i (WC := [(q_this, .inr (8, [.ref q_now, .ref q_disk, .ref q_before, .int v_onDisk, .int v_head, .int v_headPages, .int v_records, .ref q_recordPage, .ref q_recordBytes, .int v_up, .int v_armed, .int v_columns, .ref q_isBlob, .ref q_integer, .ref q_size, .ref q_blobs, .int v_length, .ref q_record, .int v_kind, .int v_cells, .int v_last, .ref q_cellLength, .ref q_row, .int v_made, .ref q_cell, .int v_deep, .ref q_way, .ref q_turn, .int v_at, .int v_bad, .ref q_used])), (q_now, .inl (cI, 1600, .inl v_now)), (q_record, .inl (cI, 700, .inl v_record)), (q_used, .inl (cZ, 25, .inl v_used))]) (WC2 := [(q_this, .inr (8, [.ref q_now, .ref q_disk, .ref q_before, .int v_onDisk, .int v_head, .int v_headPages, .int v_records, .ref q_recordPage, .ref q_recordBytes, .int v_up, .int v_armed, .int v_columns, .ref q_isBlob, .ref q_integer, .ref q_size, .ref q_blobs, .int w13, .ref q_record, .int v_kind, .int v_cells, .int v_last, .ref q_cellLength, .ref q_row, .int v_made, .ref q_cell, .int v_deep, .ref q_way, .ref q_turn, .int w14, .int w15, .ref q_used])), (q_now, .inl (cI, 1600, .inl v_now)), (q_record, .inl (cI, 700, .inl w16)), (q_used, .inl (cZ, 25, .inl w17))]) (WR := [(q_way, .inl (cI, 40, .inl v_way)), (q_turn, .inl (cI, 40, .inl v_turn))]) (WS2 := [(q_this, .inr (8, [.ref q_now, .ref q_disk, .ref q_before, .int v_onDisk, .int v_head, .int v_headPages, .int v_records, .ref q_recordPage, .ref q_recordBytes, .int v_up, .int v_armed, .int v_columns, .ref q_isBlob, .ref q_integer, .ref q_size, .ref q_blobs, .int w13, .ref q_record, .int v_kind, .int v_cells, .int v_last, .ref q_cellLength, .ref q_row, .int v_made, .ref q_cell, .int v_deep, .ref q_way, .ref q_turn, .int w14, .int w15, .ref q_used])), (q_now, .inl (cI, 1600, .inl v_now)), (q_record, .inl (cI, 700, .inl w16)), (q_way, .inl (cI, 40, .inl v_way)), (q_turn, .inl (cI, 40, .inl v_turn)), (q_used, .inl (cZ, 25, .inl w17))]) (pu_rv (cl := pu_cl) (pu_in12 _ (List.mem_of_getElem? (i := 57) rfl)) (pu_in12 _ (List.mem_of_getElem? (i := 58) rfl)) (pu_in14 _ (List.mem_of_getElem? (i := 44) rfl)) (pu_in0 _ (List.mem_of_getElem? (i := 10) rfl)) (pu_in12 _ (List.mem_of_getElem? (i := 59) rfl)) (ci := 8) rfl hd_MD_wellCell (by decide) ⟨rfl, rfl⟩ rfl rfl (Nat.le_of_ble_eq_true rfl) rfl (As := [.int x_3, .int x_4]) (rest := []) (WC := [(q_this, .inr (8, [.ref q_now, .ref q_disk, .ref q_before, .int v_onDisk, .int v_head, .int v_headPages, .int v_records, .ref q_recordPage, .ref q_recordBytes, .int v_up, .int v_armed, .int v_columns, .ref q_isBlob, .ref q_integer, .ref q_size, .ref q_blobs, .int v_length, .ref q_record, .int v_kind, .int v_cells, .int v_last, .ref q_cellLength, .ref q_row, .int v_made, .ref q_cell, .int v_deep, .ref q_way, .ref q_turn, .int v_at, .int v_bad, .ref q_used])), (q_now, .inl (cI, 1600, .inl v_now)), (q_record, .inl (cI, 700, .inl v_record)), (q_used, .inl (cZ, 25, .inl v_used))]) hx hb hml hown hts hN hK hP hD (c_MD_wellCell l D cI cJ cB cZ H.size q_this q_now q_disk q_before q_recordPage q_recordBytes q_isBlob q_integer q_size q_blobs q_record q_cellLength q_row q_cell q_way q_turn q_used v_onDisk v_head v_headPages v_records v_up v_armed v_columns v_length v_kind v_cells v_last v_made v_deep v_at v_bad v_now v_record v_used x_3 x_4 r12 w13 w14 w15 w16 w17 hc) [0, 1, 2, 5] rfl rfl hl.1 d_MD_wellTree_271) hP hD hS hA [0, 1, 2, 5] [3, 4] [2, 3, 4, 0, 1, 5] rfl rfl rfl (by decide) rfl rfl (fun H locs hP hD hS => ?_)
          refine lv_istore hx hb d_MD_wellTree_274 hl (by decide) rfl (fun ls hl => ?_)
          have hl : lv_has ls 8 [(7, .int r12), (0, .ref q_this), (1, .int x_1), (2, .int x_2), (3, .int x_3), (4, .int x_4), (6, .int x_6)] := hl
          refine lv_iload hx hb d_MD_wellTree_276 (lv_at hl 0 rfl) ?_
          refine lv_iload_n hx hb d_MD_wellTree_278 rfl (lv_at hl 3 rfl) ?_
          refine lv_icmp_gt (tgt := 284) hx hb d_MD_wellTree_279 rfl (fun hc => ?_) (fun hc => ?_)
          · have hf := pu_br_pos hf hc
            refine lv_iload hx hb d_MD_wellTree_284 (lv_at hl 0 rfl) ?_
            refine lv_istore_n hx hb d_MD_wellTree_286 rfl hl (by decide) rfl (fun ls hl => ?_)
            have hl : lv_has ls 8 [(2, .int r12), (7, .int r12), (0, .ref q_this), (1, .int x_1), (3, .int x_3), (4, .int x_4), (6, .int x_6)] := hl
            obtain ⟨t18, e_t18, hf⟩ := pu_nm_some hf
            refine lv_iinc (k := 3) (v := t18) hx hb d_MD_wellTree_287 hl rfl e_t18.symm (by decide) rfl (fun ls hl => ?_)
            have hl : lv_has ls 8 [(1, .int t18), (2, .int r12), (7, .int r12), (0, .ref q_this), (3, .int x_3), (4, .int x_4), (6, .int x_6)] := hl
            exact lb_290 w13 v_deep w14 w15 w16 v_way v_turn w17 t18 r12 H locs ls hP hD hS (lv_sub hl [3, 0, 1] rfl) hf
          have hf := pu_br_neg hf hc
          refine lv_iconst (v := -1) hx hb d_MD_wellTree_282 rfl ?_
          exact hret _ _ _ _ (-1 : Int32) w13 v_deep w14 w15 w16 v_way v_turn w17 d_MD_wellTree_283 hP hD hS hf
        have hf := pu_br_neg hf hc
        refine lv_aload_n hx hb d_MD_wellTree_204 rfl (lv_at hl 0 rfl) ?_
        refine lv_iload_n hx hb d_MD_wellTree_205 rfl (lv_at hl 3 rfl) ?_
        refine lv_iload hx hb d_MD_wellTree_206 (lv_at hl 4 rfl) ?_
        obtain ⟨r19, hc, hf⟩ := pu_b1_some hf
        refine cl_i (WC := [(q_this, .inr (8, [.ref q_now, .ref q_disk, .ref q_before, .int v_onDisk, .int v_head, .int v_headPages, .int v_records, .ref q_recordPage, .ref q_recordBytes, .int v_up, .int v_armed, .int v_columns, .ref q_isBlob, .ref q_integer, .ref q_size, .ref q_blobs, .int v_length, .ref q_record, .int v_kind, .int v_cells, .int v_last, .ref q_cellLength, .ref q_row, .int v_made, .ref q_cell, .int v_deep, .ref q_way, .ref q_turn, .int v_at, .int v_bad, .ref q_used])), (q_now, .inl (cI, 1600, .inl v_now))]) (WC2 := [(q_this, .inr (8, [.ref q_now, .ref q_disk, .ref q_before, .int v_onDisk, .int v_head, .int v_headPages, .int v_records, .ref q_recordPage, .ref q_recordBytes, .int v_up, .int v_armed, .int v_columns, .ref q_isBlob, .ref q_integer, .ref q_size, .ref q_blobs, .int v_length, .ref q_record, .int v_kind, .int v_cells, .int v_last, .ref q_cellLength, .ref q_row, .int v_made, .ref q_cell, .int v_deep, .ref q_way, .ref q_turn, .int v_at, .int v_bad, .ref q_used])), (q_now, .inl (cI, 1600, .inl v_now))]) (WR := [(q_record, .inl (cI, 700, .inl v_record)), (q_way, .inl (cI, 40, .inl v_way)), (q_turn, .inl (cI, 40, .inl v_turn)), (q_used, .inl (cZ, 25, .inl v_used))]) (WS2 := [(q_this, .inr (8, [.ref q_now, .ref q_disk, .ref q_before, .int v_onDisk, .int v_head, .int v_headPages, .int v_records, .ref q_recordPage, .ref q_recordBytes, .int v_up, .int v_armed, .int v_columns, .ref q_isBlob, .ref q_integer, .ref q_size, .ref q_blobs, .int v_length, .ref q_record, .int v_kind, .int v_cells, .int v_last, .ref q_cellLength, .ref q_row, .int v_made, .ref q_cell, .int v_deep, .ref q_way, .ref q_turn, .int v_at, .int v_bad, .ref q_used])), (q_now, .inl (cI, 1600, .inl v_now)), (q_record, .inl (cI, 700, .inl v_record)), (q_way, .inl (cI, 40, .inl v_way)), (q_turn, .inl (cI, 40, .inl v_turn)), (q_used, .inl (cZ, 25, .inl v_used))]) (pu_rv (cl := pu_cl) (pu_in10 _ (List.mem_of_getElem? (i := 60) rfl)) (pu_in10 _ (List.mem_of_getElem? (i := 61) rfl)) (pu_in14 _ (List.mem_of_getElem? (i := 17) rfl)) (pu_in0 _ (List.mem_of_getElem? (i := 10) rfl)) (pu_in10 _ (List.mem_of_getElem? (i := 62) rfl)) (ci := 8) rfl hd_MD_child (by decide) ⟨rfl, rfl⟩ rfl rfl (Nat.le_of_ble_eq_true rfl) rfl (As := [.int x_3, .int x_4]) (rest := []) (WC := [(q_this, .inr (8, [.ref q_now, .ref q_disk, .ref q_before, .int v_onDisk, .int v_head, .int v_headPages, .int v_records, .ref q_recordPage, .ref q_recordBytes, .int v_up, .int v_armed, .int v_columns, .ref q_isBlob, .ref q_integer, .ref q_size, .ref q_blobs, .int v_length, .ref q_record, .int v_kind, .int v_cells, .int v_last, .ref q_cellLength, .ref q_row, .int v_made, .ref q_cell, .int v_deep, .ref q_way, .ref q_turn, .int v_at, .int v_bad, .ref q_used])), (q_now, .inl (cI, 1600, .inl v_now))]) hx hb hml hown hts hN hK hP hD (c_MD_child l D cI cJ cB cZ H.size q_this q_now q_disk q_before q_recordPage q_recordBytes q_isBlob q_integer q_size q_blobs q_record q_cellLength q_row q_cell q_way q_turn q_used v_onDisk v_head v_headPages v_records v_up v_armed v_columns v_length v_kind v_cells v_last v_made v_deep v_at v_bad v_now x_3 x_4 r19 hc) [0, 1] rfl rfl hl.1 d_MD_wellTree_208) hP hD hS hA [0, 1] [2, 3, 4, 5] [4, 5, 0, 1, 2, 3] rfl rfl rfl (by decide) rfl rfl (fun H locs hP hD hS => ?_)
        refine lv_istore hx hb d_MD_wellTree_211 hl (by decide) rfl (fun ls hl => ?_)
        have hl : lv_has ls 8 [(7, .int r19), (0, .ref q_this), (1, .int x_1), (2, .int x_2), (3, .int x_3), (4, .int x_4), (6, .int x_6)] := hl
        refine lv_aload_n hx hb d_MD_wellTree_213 rfl (lv_at hl 1 rfl) ?_
        refine lv_iload hx hb d_MD_wellTree_214 (lv_at hl 0 rfl) ?_
        obtain ⟨r20, w21, hc, hf⟩ := pu_b2_some hf
        refine cl_i (WC := [(q_this, .inr (8, [.ref q_now, .ref q_disk, .ref q_before, .int v_onDisk, .int v_head, .int v_headPages, .int v_records, .ref q_recordPage, .ref q_recordBytes, .int v_up, .int v_armed, .int v_columns, .ref q_isBlob, .ref q_integer, .ref q_size, .ref q_blobs, .int v_length, .ref q_record, .int v_kind, .int v_cells, .int v_last, .ref q_cellLength, .ref q_row, .int v_made, .ref q_cell, .int v_deep, .ref q_way, .ref q_turn, .int v_at, .int v_bad, .ref q_used])), (q_used, .inl (cZ, 25, .inl v_used))]) (WC2 := [(q_this, .inr (8, [.ref q_now, .ref q_disk, .ref q_before, .int v_onDisk, .int v_head, .int v_headPages, .int v_records, .ref q_recordPage, .ref q_recordBytes, .int v_up, .int v_armed, .int v_columns, .ref q_isBlob, .ref q_integer, .ref q_size, .ref q_blobs, .int v_length, .ref q_record, .int v_kind, .int v_cells, .int v_last, .ref q_cellLength, .ref q_row, .int v_made, .ref q_cell, .int v_deep, .ref q_way, .ref q_turn, .int v_at, .int v_bad, .ref q_used])), (q_used, .inl (cZ, 25, .inl w21))]) (WR := [(q_now, .inl (cI, 1600, .inl v_now)), (q_record, .inl (cI, 700, .inl v_record)), (q_way, .inl (cI, 40, .inl v_way)), (q_turn, .inl (cI, 40, .inl v_turn))]) (WS2 := [(q_this, .inr (8, [.ref q_now, .ref q_disk, .ref q_before, .int v_onDisk, .int v_head, .int v_headPages, .int v_records, .ref q_recordPage, .ref q_recordBytes, .int v_up, .int v_armed, .int v_columns, .ref q_isBlob, .ref q_integer, .ref q_size, .ref q_blobs, .int v_length, .ref q_record, .int v_kind, .int v_cells, .int v_last, .ref q_cellLength, .ref q_row, .int v_made, .ref q_cell, .int v_deep, .ref q_way, .ref q_turn, .int v_at, .int v_bad, .ref q_used])), (q_now, .inl (cI, 1600, .inl v_now)), (q_record, .inl (cI, 700, .inl v_record)), (q_way, .inl (cI, 40, .inl v_way)), (q_turn, .inl (cI, 40, .inl v_turn)), (q_used, .inl (cZ, 25, .inl w21))]) (pu_rv (cl := pu_cl) (pu_in12 _ (List.mem_of_getElem? (i := 48) rfl)) (pu_in12 _ (List.mem_of_getElem? (i := 49) rfl)) (pu_in14 _ (List.mem_of_getElem? (i := 41) rfl)) (pu_in0 _ (List.mem_of_getElem? (i := 10) rfl)) (pu_in12 _ (List.mem_of_getElem? (i := 50) rfl)) (ci := 8) rfl hd_MD_meet (by decide) ⟨rfl, rfl⟩ rfl rfl (Nat.le_of_ble_eq_true rfl) rfl (As := [.int r19]) (rest := []) (WC := [(q_this, .inr (8, [.ref q_now, .ref q_disk, .ref q_before, .int v_onDisk, .int v_head, .int v_headPages, .int v_records, .ref q_recordPage, .ref q_recordBytes, .int v_up, .int v_armed, .int v_columns, .ref q_isBlob, .ref q_integer, .ref q_size, .ref q_blobs, .int v_length, .ref q_record, .int v_kind, .int v_cells, .int v_last, .ref q_cellLength, .ref q_row, .int v_made, .ref q_cell, .int v_deep, .ref q_way, .ref q_turn, .int v_at, .int v_bad, .ref q_used])), (q_used, .inl (cZ, 25, .inl v_used))]) hx hb hml hown hts hN hK hP hD (c_MD_meet l D cI cJ cB cZ H.size q_this q_now q_disk q_before q_recordPage q_recordBytes q_isBlob q_integer q_size q_blobs q_record q_cellLength q_row q_cell q_way q_turn q_used v_onDisk v_head v_headPages v_records v_up v_armed v_columns v_length v_kind v_cells v_last v_made v_deep v_at v_bad v_used r19 r20 w21 hc) [0, 5] rfl rfl hl.1 d_MD_wellTree_216) hP hD hS hA [0, 5] [1, 2, 3, 4] [4, 0, 1, 2, 3, 5] rfl rfl rfl (by decide) rfl rfl (fun H locs hP hD hS => ?_)
        refine lv_if_eq (tgt := 231) hx hb d_MD_wellTree_219 rfl (fun hc => ?_) (fun hc => ?_)
        · have hf := pu_br_pos hf hc
          refine lv_iconst (v := -1) hx hb d_MD_wellTree_231 rfl ?_
          exact hret _ _ _ _ (-1 : Int32) v_length v_deep v_at v_bad v_record v_way v_turn w21 d_MD_wellTree_232 hP hD hS hf
        have hf := pu_br_neg hf hc
        refine lv_aload_n hx hb d_MD_wellTree_222 rfl (lv_at hl 1 rfl) ?_
        refine lv_iload hx hb d_MD_wellTree_223 (lv_at hl 0 rfl) ?_
        obtain ⟨r22, hc, hf⟩ := pu_b1_some hf
        refine cl_i (WC := [(q_this, .inr (8, [.ref q_now, .ref q_disk, .ref q_before, .int v_onDisk, .int v_head, .int v_headPages, .int v_records, .ref q_recordPage, .ref q_recordBytes, .int v_up, .int v_armed, .int v_columns, .ref q_isBlob, .ref q_integer, .ref q_size, .ref q_blobs, .int v_length, .ref q_record, .int v_kind, .int v_cells, .int v_last, .ref q_cellLength, .ref q_row, .int v_made, .ref q_cell, .int v_deep, .ref q_way, .ref q_turn, .int v_at, .int v_bad, .ref q_used])), (q_now, .inl (cI, 1600, .inl v_now))]) (WC2 := [(q_this, .inr (8, [.ref q_now, .ref q_disk, .ref q_before, .int v_onDisk, .int v_head, .int v_headPages, .int v_records, .ref q_recordPage, .ref q_recordBytes, .int v_up, .int v_armed, .int v_columns, .ref q_isBlob, .ref q_integer, .ref q_size, .ref q_blobs, .int v_length, .ref q_record, .int v_kind, .int v_cells, .int v_last, .ref q_cellLength, .ref q_row, .int v_made, .ref q_cell, .int v_deep, .ref q_way, .ref q_turn, .int v_at, .int v_bad, .ref q_used])), (q_now, .inl (cI, 1600, .inl v_now))]) (WR := [(q_record, .inl (cI, 700, .inl v_record)), (q_way, .inl (cI, 40, .inl v_way)), (q_turn, .inl (cI, 40, .inl v_turn)), (q_used, .inl (cZ, 25, .inl w21))]) (WS2 := [(q_this, .inr (8, [.ref q_now, .ref q_disk, .ref q_before, .int v_onDisk, .int v_head, .int v_headPages, .int v_records, .ref q_recordPage, .ref q_recordBytes, .int v_up, .int v_armed, .int v_columns, .ref q_isBlob, .ref q_integer, .ref q_size, .ref q_blobs, .int v_length, .ref q_record, .int v_kind, .int v_cells, .int v_last, .ref q_cellLength, .ref q_row, .int v_made, .ref q_cell, .int v_deep, .ref q_way, .ref q_turn, .int v_at, .int v_bad, .ref q_used])), (q_now, .inl (cI, 1600, .inl v_now)), (q_record, .inl (cI, 700, .inl v_record)), (q_way, .inl (cI, 40, .inl v_way)), (q_turn, .inl (cI, 40, .inl v_turn)), (q_used, .inl (cZ, 25, .inl w21))]) (pu_rv (cl := pu_cl) (pu_in12 _ (List.mem_of_getElem? (i := 51) rfl)) (pu_in12 _ (List.mem_of_getElem? (i := 52) rfl)) (pu_in14 _ (List.mem_of_getElem? (i := 42) rfl)) (pu_in0 _ (List.mem_of_getElem? (i := 10) rfl)) (pu_in12 _ (List.mem_of_getElem? (i := 53) rfl)) (ci := 8) rfl hd_MD_wellLaid (by decide) ⟨rfl, rfl⟩ rfl rfl (Nat.le_of_ble_eq_true rfl) rfl (As := [.int r19]) (rest := []) (WC := [(q_this, .inr (8, [.ref q_now, .ref q_disk, .ref q_before, .int v_onDisk, .int v_head, .int v_headPages, .int v_records, .ref q_recordPage, .ref q_recordBytes, .int v_up, .int v_armed, .int v_columns, .ref q_isBlob, .ref q_integer, .ref q_size, .ref q_blobs, .int v_length, .ref q_record, .int v_kind, .int v_cells, .int v_last, .ref q_cellLength, .ref q_row, .int v_made, .ref q_cell, .int v_deep, .ref q_way, .ref q_turn, .int v_at, .int v_bad, .ref q_used])), (q_now, .inl (cI, 1600, .inl v_now))]) hx hb hml hown hts hN hK hP hD (c_MD_wellLaid l D cI cJ cB cZ H.size q_this q_now q_disk q_before q_recordPage q_recordBytes q_isBlob q_integer q_size q_blobs q_record q_cellLength q_row q_cell q_way q_turn q_used v_onDisk v_head v_headPages v_records v_up v_armed v_columns v_length v_kind v_cells v_last v_made v_deep v_at v_bad v_now r19 r22 hc) [0, 1] rfl rfl hl.1 d_MD_wellTree_225) hP hD hS hA [0, 1] [2, 3, 4, 5] [4, 5, 0, 1, 2, 3] rfl rfl rfl (by decide) rfl rfl (fun H locs hP hD hS => ?_)
        refine lv_if_ne (tgt := 233) hx hb d_MD_wellTree_228 rfl (fun hc => ?_) (fun hc => ?_)
        · have hf := pu_br_neg hf hc
          refine lv_aload_n hx hb d_MD_wellTree_233 rfl (lv_at hl 1 rfl) ?_
          refine lv_dup hx hb d_MD_wellTree_234 rfl ?_
          refine gf_MD_142 (v := .int v_deep) hx hb hts hN hown hK hP 0 rfl rfl d_MD_wellTree_235 ?_
          refine lv_iconst (v := 1) hx hb d_MD_wellTree_238 rfl ?_
          refine lv_iadd hx hb d_MD_wellTree_239 ?_
          obtain ⟨t23, e_t23, hf⟩ := pu_nm_some hf
          refine pu_ti e_t23 ?_
          refine pf_MD_142 (v := .int t23) hx hb hts hN hown hK hP hD hS 0 rfl rfl rfl (Nat.le_of_ble_eq_true rfl) d_MD_wellTree_240 (fun H locs hP hD hS => ?_)
          have hP : va_P D pu_cl [(q_this, .inr (8, [.ref q_now, .ref q_disk, .ref q_before, .int v_onDisk, .int v_head, .int v_headPages, .int v_records, .ref q_recordPage, .ref q_recordBytes, .int v_up, .int v_armed, .int v_columns, .ref q_isBlob, .ref q_integer, .ref q_size, .ref q_blobs, .int v_length, .ref q_record, .int v_kind, .int v_cells, .int v_last, .ref q_cellLength, .ref q_row, .int v_made, .ref q_cell, .int t23, .ref q_way, .ref q_turn, .int v_at, .int v_bad, .ref q_used])), (q_now, .inl (cI, 1600, .inl v_now)), (q_record, .inl (cI, 700, .inl v_record)), (q_way, .inl (cI, 40, .inl v_way)), (q_turn, .inl (cI, 40, .inl v_turn)), (q_used, .inl (cZ, 25, .inl w21))] H := hP
          have hD : va_D A [(q_this, .inr (8, [.ref q_now, .ref q_disk, .ref q_before, .int v_onDisk, .int v_head, .int v_headPages, .int v_records, .ref q_recordPage, .ref q_recordBytes, .int v_up, .int v_armed, .int v_columns, .ref q_isBlob, .ref q_integer, .ref q_size, .ref q_blobs, .int v_length, .ref q_record, .int v_kind, .int v_cells, .int v_last, .ref q_cellLength, .ref q_row, .int v_made, .ref q_cell, .int t23, .ref q_way, .ref q_turn, .int v_at, .int v_bad, .ref q_used])), (q_now, .inl (cI, 1600, .inl v_now)), (q_record, .inl (cI, 700, .inl v_record)), (q_way, .inl (cI, 40, .inl v_way)), (q_turn, .inl (cI, 40, .inl v_turn)), (q_used, .inl (cZ, 25, .inl w21))] := hD
          refine lv_aload_n hx hb d_MD_wellTree_243 rfl (lv_at hl 1 rfl) ?_
          refine gf_MD_62 (v := .ref q_way) hx hb hts hN hown hK hP 0 rfl rfl d_MD_wellTree_244 ?_
          refine lv_aload_n hx hb d_MD_wellTree_247 rfl (lv_at hl 1 rfl) ?_
          refine gf_MD_142 (v := .int t23) hx hb hts hN hown hK hP 0 rfl rfl d_MD_wellTree_248 ?_
          refine lv_iload hx hb d_MD_wellTree_251 (lv_at hl 0 rfl) ?_
          obtain ⟨hin, hf⟩ := pu_ck_some hf
          obtain ⟨a24, e_a24, hf⟩ := pu_nm_some hf
          refine va_iast hx hb hK hP hD hS 3 0 rfl rfl hin d_MD_wellTree_253 (fun H locs hP hD hS => ?_)
          have hP : va_P D pu_cl [(q_this, .inr (8, [.ref q_now, .ref q_disk, .ref q_before, .int v_onDisk, .int v_head, .int v_headPages, .int v_records, .ref q_recordPage, .ref q_recordBytes, .int v_up, .int v_armed, .int v_columns, .ref q_isBlob, .ref q_integer, .ref q_size, .ref q_blobs, .int v_length, .ref q_record, .int v_kind, .int v_cells, .int v_last, .ref q_cellLength, .ref q_row, .int v_made, .ref q_cell, .int t23, .ref q_way, .ref q_turn, .int v_at, .int v_bad, .ref q_used])), (q_now, .inl (cI, 1600, .inl v_now)), (q_record, .inl (cI, 700, .inl v_record)), (q_way, .inl (cI, 40, .inl a24)), (q_turn, .inl (cI, 40, .inl v_turn)), (q_used, .inl (cZ, 25, .inl w21))] H := by rw [e_a24]; exact hP
          have hD : va_D A [(q_this, .inr (8, [.ref q_now, .ref q_disk, .ref q_before, .int v_onDisk, .int v_head, .int v_headPages, .int v_records, .ref q_recordPage, .ref q_recordBytes, .int v_up, .int v_armed, .int v_columns, .ref q_isBlob, .ref q_integer, .ref q_size, .ref q_blobs, .int v_length, .ref q_record, .int v_kind, .int v_cells, .int v_last, .ref q_cellLength, .ref q_row, .int v_made, .ref q_cell, .int t23, .ref q_way, .ref q_turn, .int v_at, .int v_bad, .ref q_used])), (q_now, .inl (cI, 1600, .inl v_now)), (q_record, .inl (cI, 700, .inl v_record)), (q_way, .inl (cI, 40, .inl a24)), (q_turn, .inl (cI, 40, .inl v_turn)), (q_used, .inl (cZ, 25, .inl w21))] := by rw [e_a24]; exact hD
          refine lv_aload_n hx hb d_MD_wellTree_254 rfl (lv_at hl 1 rfl) ?_
          refine gf_MD_65 (v := .ref q_turn) hx hb hts hN hown hK hP 0 rfl rfl d_MD_wellTree_255 ?_
          refine lv_aload_n hx hb d_MD_wellTree_258 rfl (lv_at hl 1 rfl) ?_
          refine gf_MD_142 (v := .int t23) hx hb hts hN hown hK hP 0 rfl rfl d_MD_wellTree_259 ?_
          refine lv_iconst (v := 0) hx hb d_MD_wellTree_262 rfl ?_
          obtain ⟨hin, hf⟩ := pu_ck_some hf
          obtain ⟨a25, e_a25, hf⟩ := pu_nm_some hf
          refine va_iast hx hb hK hP hD hS 4 0 rfl rfl hin d_MD_wellTree_263 (fun H locs hP hD hS => ?_)
          have hP : va_P D pu_cl [(q_this, .inr (8, [.ref q_now, .ref q_disk, .ref q_before, .int v_onDisk, .int v_head, .int v_headPages, .int v_records, .ref q_recordPage, .ref q_recordBytes, .int v_up, .int v_armed, .int v_columns, .ref q_isBlob, .ref q_integer, .ref q_size, .ref q_blobs, .int v_length, .ref q_record, .int v_kind, .int v_cells, .int v_last, .ref q_cellLength, .ref q_row, .int v_made, .ref q_cell, .int t23, .ref q_way, .ref q_turn, .int v_at, .int v_bad, .ref q_used])), (q_now, .inl (cI, 1600, .inl v_now)), (q_record, .inl (cI, 700, .inl v_record)), (q_way, .inl (cI, 40, .inl a24)), (q_turn, .inl (cI, 40, .inl a25)), (q_used, .inl (cZ, 25, .inl w21))] H := by rw [e_a25]; exact hP
          have hD : va_D A [(q_this, .inr (8, [.ref q_now, .ref q_disk, .ref q_before, .int v_onDisk, .int v_head, .int v_headPages, .int v_records, .ref q_recordPage, .ref q_recordBytes, .int v_up, .int v_armed, .int v_columns, .ref q_isBlob, .ref q_integer, .ref q_size, .ref q_blobs, .int v_length, .ref q_record, .int v_kind, .int v_cells, .int v_last, .ref q_cellLength, .ref q_row, .int v_made, .ref q_cell, .int t23, .ref q_way, .ref q_turn, .int v_at, .int v_bad, .ref q_used])), (q_now, .inl (cI, 1600, .inl v_now)), (q_record, .inl (cI, 700, .inl v_record)), (q_way, .inl (cI, 40, .inl a24)), (q_turn, .inl (cI, 40, .inl a25)), (q_used, .inl (cZ, 25, .inl w21))] := by rw [e_a25]; exact hD
          refine lv_goto (tgt := 290) hx hb d_MD_wellTree_264 rfl ?_
          exact lb_290 v_length t23 v_at v_bad v_record a24 a25 w21 x_1 x_2 H locs ls hP hD hS (lv_sub hl [1, 2, 3] rfl) hf
        have hf := pu_br_pos hf hc
        refine lv_iconst (v := -1) hx hb d_MD_wellTree_231 rfl ?_
        exact hret _ _ _ _ (-1 : Int32) v_length v_deep v_at v_bad v_record v_way v_turn w21 d_MD_wellTree_232 hP hD hS hf
      have lb_167 : ∀ (v_length : Int32) (v_deep : Int32) (v_at : Int32) (v_bad : Int32) (v_record : Nat → Int32) (v_way : Nat → Int32) (v_turn : Nat → Int32) (v_used : Nat → Int32) (x_1 : Int32) (x_2 : Int32) (x_3 : Int32) (x_4 : Int32) (x_5 : Int32) (x_6 : Int32) (H : Heap) (locs : List Loc) (ls : Array Slot), va_P D pu_cl [(q_this, .inr (8, [.ref q_now, .ref q_disk, .ref q_before, .int v_onDisk, .int v_head, .int v_headPages, .int v_records, .ref q_recordPage, .ref q_recordBytes, .int v_up, .int v_armed, .int v_columns, .ref q_isBlob, .ref q_integer, .ref q_size, .ref q_blobs, .int v_length, .ref q_record, .int v_kind, .int v_cells, .int v_last, .ref q_cellLength, .ref q_row, .int v_made, .ref q_cell, .int v_deep, .ref q_way, .ref q_turn, .int v_at, .int v_bad, .ref q_used])), (q_now, .inl (cI, 1600, .inl v_now)), (q_record, .inl (cI, 700, .inl v_record)), (q_way, .inl (cI, 40, .inl v_way)), (q_turn, .inl (cI, 40, .inl v_turn)), (q_used, .inl (cZ, 25, .inl v_used))] H → va_D A [(q_this, .inr (8, [.ref q_now, .ref q_disk, .ref q_before, .int v_onDisk, .int v_head, .int v_headPages, .int v_records, .ref q_recordPage, .ref q_recordBytes, .int v_up, .int v_armed, .int v_columns, .ref q_isBlob, .ref q_integer, .ref q_size, .ref q_blobs, .int v_length, .ref q_record, .int v_kind, .int v_cells, .int v_last, .ref q_cellLength, .ref q_row, .int v_made, .ref q_cell, .int v_deep, .ref q_way, .ref q_turn, .int v_at, .int v_bad, .ref q_used])), (q_now, .inl (cI, 1600, .inl v_now)), (q_record, .inl (cI, 700, .inl v_record)), (q_way, .inl (cI, 40, .inl v_way)), (q_turn, .inl (cI, 40, .inl v_turn)), (q_used, .inl (cZ, 25, .inl v_used))] → va_S A s.heap H locs → lv_has ls 8 [(0, .ref q_this), (1, .int x_1), (2, .int x_2), (3, .int x_3), (4, .int x_4), (5, .int x_5), (6, .int x_6)] → q_MD_wellTree_167 (q_MD_wellTree_54 v_onDisk v_now n54) v_onDisk v_now v_length v_deep v_at v_bad v_record v_way v_turn v_used x_1 x_2 x_3 x_4 x_5 x_6 = some (o_r, o_length, o_deep, o_at, o_bad, o_record, o_way, o_turn, o_used) → W p l e rm_MD_wellTree s m args below meth c H locs 0 0 Q (F0 m 167 ls []) := by
        intro v_length v_deep v_at v_bad v_record v_way v_turn v_used x_1 x_2 x_3 x_4 x_5 x_6 H locs ls hP hD hS hl hf
        rw [q_MD_wellTree_167] at hf
        refine lv_iload hx hb d_MD_wellTree_167 (lv_at hl 4 rfl) ?_
        refine lv_iload hx hb d_MD_wellTree_169 (lv_at hl 5 rfl) ?_
        refine lv_icmp_gt (tgt := 186) hx hb d_MD_wellTree_171 rfl (fun hc => ?_) (fun hc => ?_)
        · have hf := pu_br_pos hf hc
          exact lb_186 v_length v_deep v_at v_bad v_record v_way v_turn v_used x_1 x_2 H locs ls hP hD hS (lv_sub hl [0, 1, 2] rfl) hf
        have hf := pu_br_neg hf hc
        refine lv_iload hx hb d_MD_wellTree_174 (lv_at hl 6 rfl) ?_
        refine lv_if_ne (tgt := 199) hx hb d_MD_wellTree_176 rfl (fun hc => ?_) (fun hc => ?_)
        · have hf := pu_br_neg hf hc
          exact lb_199 v_length v_deep v_at v_bad v_record v_way v_turn v_used x_1 x_2 x_3 x_4 x_6 H locs ls hP hD hS (lv_sub hl [0, 1, 2, 3, 4, 6] rfl) hf
        have hf := pu_br_pos hf hc
        refine lv_iload hx hb d_MD_wellTree_179 (lv_at hl 4 rfl) ?_
        refine lv_iload hx hb d_MD_wellTree_181 (lv_at hl 5 rfl) ?_
        refine lv_icmp_ne (tgt := 199) hx hb d_MD_wellTree_183 rfl (fun hc => ?_) (fun hc => ?_)
        · have hf := pu_br_neg hf hc
          exact lb_199 v_length v_deep v_at v_bad v_record v_way v_turn v_used x_1 x_2 x_3 x_4 x_6 H locs ls hP hD hS (lv_sub hl [0, 1, 2, 3, 4, 6] rfl) hf
        have hf := pu_br_pos hf hc
        exact lb_186 v_length v_deep v_at v_bad v_record v_way v_turn v_used x_1 x_2 H locs ls hP hD hS (lv_sub hl [0, 1, 2] rfl) hf
      have lb_113 : ∀ (v_length : Int32) (v_deep : Int32) (v_at : Int32) (v_bad : Int32) (v_record : Nat → Int32) (v_way : Nat → Int32) (v_turn : Nat → Int32) (v_used : Nat → Int32) (x_1 : Int32) (x_2 : Int32) (x_3 : Int32) (x_4 : Int32) (x_5 : Int32) (s_0 : Int32) (H : Heap) (locs : List Loc) (ls : Array Slot), va_P D pu_cl [(q_this, .inr (8, [.ref q_now, .ref q_disk, .ref q_before, .int v_onDisk, .int v_head, .int v_headPages, .int v_records, .ref q_recordPage, .ref q_recordBytes, .int v_up, .int v_armed, .int v_columns, .ref q_isBlob, .ref q_integer, .ref q_size, .ref q_blobs, .int v_length, .ref q_record, .int v_kind, .int v_cells, .int v_last, .ref q_cellLength, .ref q_row, .int v_made, .ref q_cell, .int v_deep, .ref q_way, .ref q_turn, .int v_at, .int v_bad, .ref q_used])), (q_now, .inl (cI, 1600, .inl v_now)), (q_record, .inl (cI, 700, .inl v_record)), (q_way, .inl (cI, 40, .inl v_way)), (q_turn, .inl (cI, 40, .inl v_turn)), (q_used, .inl (cZ, 25, .inl v_used))] H → va_D A [(q_this, .inr (8, [.ref q_now, .ref q_disk, .ref q_before, .int v_onDisk, .int v_head, .int v_headPages, .int v_records, .ref q_recordPage, .ref q_recordBytes, .int v_up, .int v_armed, .int v_columns, .ref q_isBlob, .ref q_integer, .ref q_size, .ref q_blobs, .int v_length, .ref q_record, .int v_kind, .int v_cells, .int v_last, .ref q_cellLength, .ref q_row, .int v_made, .ref q_cell, .int v_deep, .ref q_way, .ref q_turn, .int v_at, .int v_bad, .ref q_used])), (q_now, .inl (cI, 1600, .inl v_now)), (q_record, .inl (cI, 700, .inl v_record)), (q_way, .inl (cI, 40, .inl v_way)), (q_turn, .inl (cI, 40, .inl v_turn)), (q_used, .inl (cZ, 25, .inl v_used))] → va_S A s.heap H locs → lv_has ls 8 [(0, .ref q_this), (1, .int x_1), (2, .int x_2), (3, .int x_3), (4, .int x_4), (5, .int x_5)] → q_MD_wellTree_113 (q_MD_wellTree_54 v_onDisk v_now n54) v_onDisk v_now v_length v_deep v_at v_bad v_record v_way v_turn v_used x_1 x_2 x_3 x_4 x_5 s_0 = some (o_r, o_length, o_deep, o_at, o_bad, o_record, o_way, o_turn, o_used) → W p l e rm_MD_wellTree s m args below meth c H locs 0 0 Q (F0 m 113 ls [.int s_0]) := by
        intro v_length v_deep v_at v_bad v_record v_way v_turn v_used x_1 x_2 x_3 x_4 x_5 s_0 H locs ls hP hD hS hl hf
        rw [q_MD_wellTree_113] at hf
        refine lv_istore hx hb d_MD_wellTree_113 hl (by decide) rfl (fun ls hl => ?_)
        have hl : lv_has ls 8 [(6, .int s_0), (0, .ref q_this), (1, .int x_1), (2, .int x_2), (3, .int x_3), (4, .int x_4), (5, .int x_5)] := hl
        refine lv_aload_n hx hb d_MD_wellTree_115 rfl (lv_at hl 1 rfl) ?_
        refine gf_MD_65 (v := .ref q_turn) hx hb hts hN hown hK hP 0 rfl rfl d_MD_wellTree_116 ?_
        refine lv_aload_n hx hb d_MD_wellTree_119 rfl (lv_at hl 1 rfl) ?_
        refine gf_MD_142 (v := .int v_deep) hx hb hts hN hown hK hP 0 rfl rfl d_MD_wellTree_120 ?_
        refine lv_dup2_11 hx hb d_MD_wellTree_123 rfl rfl ?_
        obtain ⟨hin, hf⟩ := pu_ck_some hf
        refine va_iald hx hb hK hP 4 0 rfl rfl hin d_MD_wellTree_124 ?_
        refine lv_iconst (v := 1) hx hb d_MD_wellTree_125 rfl ?_
        refine lv_iadd hx hb d_MD_wellTree_126 ?_
        obtain ⟨hin, hf⟩ := pu_ck_some hf
        obtain ⟨a10, e_a10, hf⟩ := pu_nm_some hf
        refine va_iast hx hb hK hP hD hS 4 0 rfl rfl hin d_MD_wellTree_127 (fun H locs hP hD hS => ?_)
        have hP : va_P D pu_cl [(q_this, .inr (8, [.ref q_now, .ref q_disk, .ref q_before, .int v_onDisk, .int v_head, .int v_headPages, .int v_records, .ref q_recordPage, .ref q_recordBytes, .int v_up, .int v_armed, .int v_columns, .ref q_isBlob, .ref q_integer, .ref q_size, .ref q_blobs, .int v_length, .ref q_record, .int v_kind, .int v_cells, .int v_last, .ref q_cellLength, .ref q_row, .int v_made, .ref q_cell, .int v_deep, .ref q_way, .ref q_turn, .int v_at, .int v_bad, .ref q_used])), (q_now, .inl (cI, 1600, .inl v_now)), (q_record, .inl (cI, 700, .inl v_record)), (q_way, .inl (cI, 40, .inl v_way)), (q_turn, .inl (cI, 40, .inl a10)), (q_used, .inl (cZ, 25, .inl v_used))] H := by rw [e_a10]; exact hP
        have hD : va_D A [(q_this, .inr (8, [.ref q_now, .ref q_disk, .ref q_before, .int v_onDisk, .int v_head, .int v_headPages, .int v_records, .ref q_recordPage, .ref q_recordBytes, .int v_up, .int v_armed, .int v_columns, .ref q_isBlob, .ref q_integer, .ref q_size, .ref q_blobs, .int v_length, .ref q_record, .int v_kind, .int v_cells, .int v_last, .ref q_cellLength, .ref q_row, .int v_made, .ref q_cell, .int v_deep, .ref q_way, .ref q_turn, .int v_at, .int v_bad, .ref q_used])), (q_now, .inl (cI, 1600, .inl v_now)), (q_record, .inl (cI, 700, .inl v_record)), (q_way, .inl (cI, 40, .inl v_way)), (q_turn, .inl (cI, 40, .inl a10)), (q_used, .inl (cZ, 25, .inl v_used))] := by rw [e_a10]; exact hD
        refine lv_iload hx hb d_MD_wellTree_128 (lv_at hl 0 rfl) ?_
        refine lv_if_eq (tgt := 167) hx hb d_MD_wellTree_130 rfl (fun hc => ?_) (fun hc => ?_)
        · have hf := pu_br_pos hf hc
          exact lb_167 v_length v_deep v_at v_bad v_record v_way a10 v_used x_1 x_2 x_3 x_4 x_5 s_0 H locs ls hP hD hS (lv_sub hl [1, 2, 3, 4, 5, 6, 0] rfl) hf
        have hf := pu_br_neg hf hc
        refine lv_iload hx hb d_MD_wellTree_133 (lv_at hl 5 rfl) ?_
        refine lv_if_le (tgt := 167) hx hb d_MD_wellTree_135 rfl (fun hc => ?_) (fun hc => ?_)
        · have hf := pu_br_pos hf hc
          exact lb_167 v_length v_deep v_at v_bad v_record v_way a10 v_used x_1 x_2 x_3 x_4 x_5 s_0 H locs ls hP hD hS (lv_sub hl [1, 2, 3, 4, 5, 6, 0] rfl) hf
        have hf := pu_br_neg hf hc
        refine lv_iload hx hb d_MD_wellTree_138 (lv_at hl 5 rfl) ?_
        refine lv_iload hx hb d_MD_wellTree_140 (lv_at hl 6 rfl) ?_
        refine lv_icmp_gt (tgt := 167) hx hb d_MD_wellTree_142 rfl (fun hc => ?_) (fun hc => ?_)
        · have hf := pu_br_pos hf hc
          exact lb_167 v_length v_deep v_at v_bad v_record v_way a10 v_used x_1 x_2 x_3 x_4 x_5 s_0 H locs ls hP hD hS (lv_sub hl [1, 2, 3, 4, 5, 6, 0] rfl) hf
        have hf := pu_br_neg hf hc
        refine lv_aload_n hx hb d_MD_wellTree_145 rfl (lv_at hl 1 rfl) ?_
        refine lv_iload_n hx hb d_MD_wellTree_146 rfl (lv_at hl 4 rfl) ?_
        refine lv_iload hx hb d_MD_wellTree_147 (lv_at hl 5 rfl) ?_
        refine lv_iconst (v := 1) hx hb d_MD_wellTree_149 rfl ?_
        refine lv_isub hx hb d_MD_wellTree_150 ?_
        obtain ⟨r26, w27, w28, hc, hf⟩ := pu_b3_some hf
        refine cl_i (WC := [(q_this, .inr (8, [.ref q_now, .ref q_disk, .ref q_before, .int v_onDisk, .int v_head, .int v_headPages, .int v_records, .ref q_recordPage, .ref q_recordBytes, .int v_up, .int v_armed, .int v_columns, .ref q_isBlob, .ref q_integer, .ref q_size, .ref q_blobs, .int v_length, .ref q_record, .int v_kind, .int v_cells, .int v_last, .ref q_cellLength, .ref q_row, .int v_made, .ref q_cell, .int v_deep, .ref q_way, .ref q_turn, .int v_at, .int v_bad, .ref q_used])), (q_now, .inl (cI, 1600, .inl v_now))]) (WC2 := [(q_this, .inr (8, [.ref q_now, .ref q_disk, .ref q_before, .int v_onDisk, .int v_head, .int v_headPages, .int v_records, .ref q_recordPage, .ref q_recordBytes, .int v_up, .int v_armed, .int v_columns, .ref q_isBlob, .ref q_integer, .ref q_size, .ref q_blobs, .int v_length, .ref q_record, .int v_kind, .int v_cells, .int v_last, .ref q_cellLength, .ref q_row, .int v_made, .ref q_cell, .int v_deep, .ref q_way, .ref q_turn, .int w27, .int w28, .ref q_used])), (q_now, .inl (cI, 1600, .inl v_now))]) (WR := [(q_record, .inl (cI, 700, .inl v_record)), (q_way, .inl (cI, 40, .inl v_way)), (q_turn, .inl (cI, 40, .inl a10)), (q_used, .inl (cZ, 25, .inl v_used))]) (WS2 := [(q_this, .inr (8, [.ref q_now, .ref q_disk, .ref q_before, .int v_onDisk, .int v_head, .int v_headPages, .int v_records, .ref q_recordPage, .ref q_recordBytes, .int v_up, .int v_armed, .int v_columns, .ref q_isBlob, .ref q_integer, .ref q_size, .ref q_blobs, .int v_length, .ref q_record, .int v_kind, .int v_cells, .int v_last, .ref q_cellLength, .ref q_row, .int v_made, .ref q_cell, .int v_deep, .ref q_way, .ref q_turn, .int w27, .int w28, .ref q_used])), (q_now, .inl (cI, 1600, .inl v_now)), (q_record, .inl (cI, 700, .inl v_record)), (q_way, .inl (cI, 40, .inl v_way)), (q_turn, .inl (cI, 40, .inl a10)), (q_used, .inl (cZ, 25, .inl v_used))]) (pu_rv (cl := pu_cl) (pu_in12 _ (List.mem_of_getElem? (i := 54) rfl)) (pu_in12 _ (List.mem_of_getElem? (i := 55) rfl)) (pu_in14 _ (List.mem_of_getElem? (i := 43) rfl)) (pu_in0 _ (List.mem_of_getElem? (i := 10) rfl)) (pu_in12 _ (List.mem_of_getElem? (i := 56) rfl)) (ci := 8) rfl hd_MD_innerKey (by decide) ⟨rfl, rfl⟩ rfl rfl (Nat.le_of_ble_eq_true rfl) rfl (As := [.int x_3, .int (x_4 - (1 : Int32))]) (rest := []) (WC := [(q_this, .inr (8, [.ref q_now, .ref q_disk, .ref q_before, .int v_onDisk, .int v_head, .int v_headPages, .int v_records, .ref q_recordPage, .ref q_recordBytes, .int v_up, .int v_armed, .int v_columns, .ref q_isBlob, .ref q_integer, .ref q_size, .ref q_blobs, .int v_length, .ref q_record, .int v_kind, .int v_cells, .int v_last, .ref q_cellLength, .ref q_row, .int v_made, .ref q_cell, .int v_deep, .ref q_way, .ref q_turn, .int v_at, .int v_bad, .ref q_used])), (q_now, .inl (cI, 1600, .inl v_now))]) hx hb hml hown hts hN hK hP hD (c_MD_innerKey l D cI cJ cB cZ H.size q_this q_now q_disk q_before q_recordPage q_recordBytes q_isBlob q_integer q_size q_blobs q_record q_cellLength q_row q_cell q_way q_turn q_used v_onDisk v_head v_headPages v_records v_up v_armed v_columns v_length v_kind v_cells v_last v_made v_deep v_at v_bad v_now x_3 (x_4 - (1 : Int32)) r26 w27 w28 hc) [0, 1] rfl rfl hl.1 d_MD_wellTree_151) hP hD hS hA [0, 1] [2, 3, 4, 5] [4, 5, 0, 1, 2, 3] rfl rfl rfl (by decide) rfl rfl (fun H locs hP hD hS => ?_)
        refine lv_istore hx hb d_MD_wellTree_154 hl (by decide) rfl (fun ls hl => ?_)
        have hl : lv_has ls 8 [(7, .int r26), (6, .int s_0), (0, .ref q_this), (1, .int x_1), (2, .int x_2), (3, .int x_3), (4, .int x_4), (5, .int x_5)] := hl
        refine lv_iload hx hb d_MD_wellTree_156 (lv_at hl 0 rfl) ?_
        refine lv_iload_n hx hb d_MD_wellTree_158 rfl (lv_at hl 4 rfl) ?_
        refine lv_icmp_ge (tgt := 164) hx hb d_MD_wellTree_159 rfl (fun hc => ?_) (fun hc => ?_)
        · have hf := pu_br_pos hf hc
          refine lv_iload hx hb d_MD_wellTree_164 (lv_at hl 0 rfl) ?_
          refine lv_istore_n hx hb d_MD_wellTree_166 rfl hl (by decide) rfl (fun ls hl => ?_)
          have hl : lv_has ls 8 [(2, .int r26), (7, .int r26), (6, .int s_0), (0, .ref q_this), (1, .int x_1), (3, .int x_3), (4, .int x_4), (5, .int x_5)] := hl
          exact lb_167 v_length v_deep w27 w28 v_record v_way a10 v_used x_1 r26 x_3 x_4 x_5 s_0 H locs ls hP hD hS (lv_sub hl [3, 4, 0, 5, 6, 7, 2] rfl) hf
        have hf := pu_br_neg hf hc
        refine lv_iconst (v := -1) hx hb d_MD_wellTree_162 rfl ?_
        exact hret _ _ _ _ (-1 : Int32) v_length v_deep w27 w28 v_record v_way a10 v_used d_MD_wellTree_163 hP hD hS hf
      intro v_length v_deep v_at v_bad v_record v_way v_turn v_used x_1 x_2 H locs ls hP hD hS hl hf
      rw [q_MD_wellTree_54] at hf
      refine lv_aload_n hx hb d_MD_wellTree_54 rfl (lv_at hl 0 rfl) ?_
      refine gf_MD_142 (v := .int v_deep) hx hb hts hN hown hK hP 0 rfl rfl d_MD_wellTree_55 ?_
      refine lv_if_lt (tgt := 293) hx hb d_MD_wellTree_58 rfl (fun hc => ?_) (fun hc => ?_)
      · have hf := pu_br_pos hf hc
        refine lv_iload_n hx hb d_MD_wellTree_293 rfl (lv_at hl 1 rfl) ?_
        exact hret _ _ _ _ x_1 v_length v_deep v_at v_bad v_record v_way v_turn v_used d_MD_wellTree_294 hP hD hS hf
      have hf := pu_br_neg hf hc
      refine lv_aload_n hx hb d_MD_wellTree_61 rfl (lv_at hl 0 rfl) ?_
      refine gf_MD_62 (v := .ref q_way) hx hb hts hN hown hK hP 0 rfl rfl d_MD_wellTree_62 ?_
      refine lv_aload_n hx hb d_MD_wellTree_65 rfl (lv_at hl 0 rfl) ?_
      refine gf_MD_142 (v := .int v_deep) hx hb hts hN hown hK hP 0 rfl rfl d_MD_wellTree_66 ?_
      obtain ⟨hin, hf⟩ := pu_ck_some hf
      refine va_iald hx hb hK hP 3 0 rfl rfl hin d_MD_wellTree_69 ?_
      obtain ⟨t7, e_t7, hf⟩ := pu_nm_some hf
      refine pu_ti e_t7 ?_
      refine lv_istore_n hx hb d_MD_wellTree_70 rfl hl (by decide) rfl (fun ls hl => ?_)
      have hl : lv_has ls 8 [(3, .int t7), (0, .ref q_this), (1, .int x_1), (2, .int x_2)] := hl
      refine lv_aload_n hx hb d_MD_wellTree_71 rfl (lv_at hl 1 rfl) ?_
      refine gf_MD_65 (v := .ref q_turn) hx hb hts hN hown hK hP 0 rfl rfl d_MD_wellTree_72 ?_
      refine lv_aload_n hx hb d_MD_wellTree_75 rfl (lv_at hl 1 rfl) ?_
      refine gf_MD_142 (v := .int v_deep) hx hb hts hN hown hK hP 0 rfl rfl d_MD_wellTree_76 ?_
      obtain ⟨hin, hf⟩ := pu_ck_some hf
      refine va_iald hx hb hK hP 4 0 rfl rfl hin d_MD_wellTree_79 ?_
      obtain ⟨t8, e_t8, hf⟩ := pu_nm_some hf
      refine pu_ti e_t8 ?_
      refine lv_istore hx hb d_MD_wellTree_80 hl (by decide) rfl (fun ls hl => ?_)
      have hl : lv_has ls 8 [(4, .int t8), (3, .int t7), (0, .ref q_this), (1, .int x_1), (2, .int x_2)] := hl
      refine lv_aload_n hx hb d_MD_wellTree_82 rfl (lv_at hl 2 rfl) ?_
      refine gf_MD_7 (v := .ref q_now) hx hb hts hN hown hK hP 0 rfl rfl d_MD_wellTree_83 ?_
      refine lv_bipush (v := 64) hx hb d_MD_wellTree_86 rfl ?_
      refine lv_iload_n hx hb d_MD_wellTree_88 rfl (lv_at hl 1 rfl) ?_
      refine lv_imul hx hb d_MD_wellTree_89 ?_
      refine lv_iconst (v := 1) hx hb d_MD_wellTree_90 rfl ?_
      refine lv_iadd hx hb d_MD_wellTree_91 ?_
      obtain ⟨hin, hf⟩ := pu_ck_some hf
      refine va_iald hx hb hK hP 1 0 rfl rfl hin d_MD_wellTree_92 ?_
      obtain ⟨t9, e_t9, hf⟩ := pu_nm_some hf
      refine pu_ti e_t9 ?_
      refine lv_istore hx hb d_MD_wellTree_93 hl (by decide) rfl (fun ls hl => ?_)
      have hl : lv_has ls 8 [(5, .int t9), (4, .int t8), (3, .int t7), (0, .ref q_this), (1, .int x_1), (2, .int x_2)] := hl
      refine lv_aload_n hx hb d_MD_wellTree_95 rfl (lv_at hl 3 rfl) ?_
      refine gf_MD_7 (v := .ref q_now) hx hb hts hN hown hK hP 0 rfl rfl d_MD_wellTree_96 ?_
      refine lv_bipush (v := 64) hx hb d_MD_wellTree_99 rfl ?_
      refine lv_iload_n hx hb d_MD_wellTree_101 rfl (lv_at hl 2 rfl) ?_
      refine lv_imul hx hb d_MD_wellTree_102 ?_
      obtain ⟨hin, hf⟩ := pu_ck_some hf
      refine va_iald hx hb hK hP 1 0 rfl rfl hin d_MD_wellTree_103 ?_
      refine lv_iconst (v := 5) hx hb d_MD_wellTree_104 rfl ?_
      refine lv_icmp_ne (tgt := 112) hx hb d_MD_wellTree_105 rfl (fun hc => ?_) (fun hc => ?_)
      · have hf := pu_br_neg hf hc
        refine lv_iconst (v := 0) hx hb d_MD_wellTree_112 rfl ?_
        exact lb_113 v_length v_deep v_at v_bad v_record v_way v_turn v_used x_1 x_2 t7 t8 t9 (0 : Int32) H locs ls hP hD hS (lv_sub hl [3, 4, 5, 2, 1, 0] rfl) hf
      have hf := pu_br_pos hf hc
      refine lv_iconst (v := 1) hx hb d_MD_wellTree_108 rfl ?_
      refine lv_goto (tgt := 113) hx hb d_MD_wellTree_109 rfl ?_
      exact lb_113 v_length v_deep v_at v_bad v_record v_way v_turn v_used x_1 x_2 t7 t8 t9 (1 : Int32) H locs ls hP hD hS (lv_sub hl [3, 4, 5, 2, 1, 0] rfl) hf
  obtain ⟨H, hH⟩ : ∃ H, H = s.heap := ⟨_, rfl⟩
  obtain ⟨locs, hlocs⟩ : ∃ locs : List Loc, locs = [] := ⟨_, rfl⟩
  have hP : va_P D pu_cl [(q_this, .inr (8, [.ref q_now, .ref q_disk, .ref q_before, .int v_onDisk, .int v_head, .int v_headPages, .int v_records, .ref q_recordPage, .ref q_recordBytes, .int v_up, .int v_armed, .int v_columns, .ref q_isBlob, .ref q_integer, .ref q_size, .ref q_blobs, .int v_length, .ref q_record, .int v_kind, .int v_cells, .int v_last, .ref q_cellLength, .ref q_row, .int v_made, .ref q_cell, .int v_deep, .ref q_way, .ref q_turn, .int v_at, .int v_bad, .ref q_used])), (q_now, .inl (cI, 1600, .inl v_now)), (q_record, .inl (cI, 700, .inl v_record)), (q_way, .inl (cI, 40, .inl v_way)), (q_turn, .inl (cI, 40, .inl v_turn)), (q_used, .inl (cZ, 25, .inl v_used))] H := by rw [hH]; exact hP
  have hS : va_S A s.heap H locs := by rw [hH, hlocs]; exact hS
  have goal : W p l e rm_MD_wellTree s m args below meth c H locs 0 0 Q (F0 m 0 ls []) := by
    clear hH hlocs
    refine lv_iconst (v := 0) hx hb d_MD_wellTree_0 rfl ?_
    refine lv_istore_n hx hb d_MD_wellTree_1 rfl hl (by decide) rfl (fun ls hl => ?_)
    have hl : lv_has ls 8 [(1, .int (0 : Int32)), (0, .ref q_this)] := hl
    refine lv_iconst (v := -1) hx hb d_MD_wellTree_2 rfl ?_
    refine lv_istore_n hx hb d_MD_wellTree_3 rfl hl (by decide) rfl (fun ls hl => ?_)
    have hl : lv_has ls 8 [(2, .int (-1 : Int32)), (1, .int (0 : Int32)), (0, .ref q_this)] := hl
    refine lv_aload_n hx hb d_MD_wellTree_4 rfl (lv_at hl 2 rfl) ?_
    refine lv_iconst (v := 0) hx hb d_MD_wellTree_5 rfl ?_
    refine pf_MD_142 (v := .int (0 : Int32)) hx hb hts hN hown hK hP hD hS 0 rfl rfl rfl (Nat.le_of_ble_eq_true rfl) d_MD_wellTree_6 (fun H locs hP hD hS => ?_)
    have hP : va_P D pu_cl [(q_this, .inr (8, [.ref q_now, .ref q_disk, .ref q_before, .int v_onDisk, .int v_head, .int v_headPages, .int v_records, .ref q_recordPage, .ref q_recordBytes, .int v_up, .int v_armed, .int v_columns, .ref q_isBlob, .ref q_integer, .ref q_size, .ref q_blobs, .int v_length, .ref q_record, .int v_kind, .int v_cells, .int v_last, .ref q_cellLength, .ref q_row, .int v_made, .ref q_cell, .int (0 : Int32), .ref q_way, .ref q_turn, .int v_at, .int v_bad, .ref q_used])), (q_now, .inl (cI, 1600, .inl v_now)), (q_record, .inl (cI, 700, .inl v_record)), (q_way, .inl (cI, 40, .inl v_way)), (q_turn, .inl (cI, 40, .inl v_turn)), (q_used, .inl (cZ, 25, .inl v_used))] H := hP
    have hD : va_D A [(q_this, .inr (8, [.ref q_now, .ref q_disk, .ref q_before, .int v_onDisk, .int v_head, .int v_headPages, .int v_records, .ref q_recordPage, .ref q_recordBytes, .int v_up, .int v_armed, .int v_columns, .ref q_isBlob, .ref q_integer, .ref q_size, .ref q_blobs, .int v_length, .ref q_record, .int v_kind, .int v_cells, .int v_last, .ref q_cellLength, .ref q_row, .int v_made, .ref q_cell, .int (0 : Int32), .ref q_way, .ref q_turn, .int v_at, .int v_bad, .ref q_used])), (q_now, .inl (cI, 1600, .inl v_now)), (q_record, .inl (cI, 700, .inl v_record)), (q_way, .inl (cI, 40, .inl v_way)), (q_turn, .inl (cI, 40, .inl v_turn)), (q_used, .inl (cZ, 25, .inl v_used))] := hD
    refine lv_aload_n hx hb d_MD_wellTree_9 rfl (lv_at hl 2 rfl) ?_
    refine gf_MD_62 (v := .ref q_way) hx hb hts hN hown hK hP 0 rfl rfl d_MD_wellTree_10 ?_
    refine lv_iconst (v := 0) hx hb d_MD_wellTree_13 rfl ?_
    refine lv_aload_n hx hb d_MD_wellTree_14 rfl (lv_at hl 2 rfl) ?_
    obtain ⟨r1, hc, hf⟩ := pu_b1_some hf
    refine cl_i (WC := [(q_this, .inr (8, [.ref q_now, .ref q_disk, .ref q_before, .int v_onDisk, .int v_head, .int v_headPages, .int v_records, .ref q_recordPage, .ref q_recordBytes, .int v_up, .int v_armed, .int v_columns, .ref q_isBlob, .ref q_integer, .ref q_size, .ref q_blobs, .int v_length, .ref q_record, .int v_kind, .int v_cells, .int v_last, .ref q_cellLength, .ref q_row, .int v_made, .ref q_cell, .int (0 : Int32), .ref q_way, .ref q_turn, .int v_at, .int v_bad, .ref q_used])), (q_now, .inl (cI, 1600, .inl v_now))]) (WC2 := [(q_this, .inr (8, [.ref q_now, .ref q_disk, .ref q_before, .int v_onDisk, .int v_head, .int v_headPages, .int v_records, .ref q_recordPage, .ref q_recordBytes, .int v_up, .int v_armed, .int v_columns, .ref q_isBlob, .ref q_integer, .ref q_size, .ref q_blobs, .int v_length, .ref q_record, .int v_kind, .int v_cells, .int v_last, .ref q_cellLength, .ref q_row, .int v_made, .ref q_cell, .int (0 : Int32), .ref q_way, .ref q_turn, .int v_at, .int v_bad, .ref q_used])), (q_now, .inl (cI, 1600, .inl v_now))]) (WR := [(q_record, .inl (cI, 700, .inl v_record)), (q_way, .inl (cI, 40, .inl v_way)), (q_turn, .inl (cI, 40, .inl v_turn)), (q_used, .inl (cZ, 25, .inl v_used))]) (WS2 := [(q_this, .inr (8, [.ref q_now, .ref q_disk, .ref q_before, .int v_onDisk, .int v_head, .int v_headPages, .int v_records, .ref q_recordPage, .ref q_recordBytes, .int v_up, .int v_armed, .int v_columns, .ref q_isBlob, .ref q_integer, .ref q_size, .ref q_blobs, .int v_length, .ref q_record, .int v_kind, .int v_cells, .int v_last, .ref q_cellLength, .ref q_row, .int v_made, .ref q_cell, .int (0 : Int32), .ref q_way, .ref q_turn, .int v_at, .int v_bad, .ref q_used])), (q_now, .inl (cI, 1600, .inl v_now)), (q_record, .inl (cI, 700, .inl v_record)), (q_way, .inl (cI, 40, .inl v_way)), (q_turn, .inl (cI, 40, .inl v_turn)), (q_used, .inl (cZ, 25, .inl v_used))]) (pu_rv (cl := pu_cl) (pu_in10 _ (List.mem_of_getElem? (i := 45) rfl)) (pu_in10 _ (List.mem_of_getElem? (i := 46) rfl)) (pu_in14 _ (List.mem_of_getElem? (i := 12) rfl)) (pu_in0 _ (List.mem_of_getElem? (i := 10) rfl)) (pu_in10 _ (List.mem_of_getElem? (i := 47) rfl)) (ci := 8) rfl hd_MD_root (by decide) ⟨rfl, rfl⟩ rfl rfl (Nat.le_of_ble_eq_true rfl) rfl (As := []) (rest := [.int (0 : Int32), .ref q_way]) (WC := [(q_this, .inr (8, [.ref q_now, .ref q_disk, .ref q_before, .int v_onDisk, .int v_head, .int v_headPages, .int v_records, .ref q_recordPage, .ref q_recordBytes, .int v_up, .int v_armed, .int v_columns, .ref q_isBlob, .ref q_integer, .ref q_size, .ref q_blobs, .int v_length, .ref q_record, .int v_kind, .int v_cells, .int v_last, .ref q_cellLength, .ref q_row, .int v_made, .ref q_cell, .int (0 : Int32), .ref q_way, .ref q_turn, .int v_at, .int v_bad, .ref q_used])), (q_now, .inl (cI, 1600, .inl v_now))]) hx hb hml hown hts hN hK hP hD (c_MD_root l D cI cJ cB cZ H.size q_this q_now q_disk q_before q_recordPage q_recordBytes q_isBlob q_integer q_size q_blobs q_record q_cellLength q_row q_cell q_way q_turn q_used v_onDisk v_head v_headPages v_records v_up v_armed v_columns v_length v_kind v_cells v_last v_made (0 : Int32) v_at v_bad v_now r1 hc) [0, 1] rfl rfl hl.1 d_MD_wellTree_15) hP hD hS hA [0, 1] [2, 3, 4, 5] [4, 5, 0, 1, 2, 3] rfl rfl rfl (by decide) rfl rfl (fun H locs hP hD hS => ?_)
    obtain ⟨hin, hf⟩ := pu_ck_some hf
    obtain ⟨a2, e_a2, hf⟩ := pu_nm_some hf
    refine va_iast hx hb hK hP hD hS 3 0 rfl rfl hin d_MD_wellTree_18 (fun H locs hP hD hS => ?_)
    have hP : va_P D pu_cl [(q_this, .inr (8, [.ref q_now, .ref q_disk, .ref q_before, .int v_onDisk, .int v_head, .int v_headPages, .int v_records, .ref q_recordPage, .ref q_recordBytes, .int v_up, .int v_armed, .int v_columns, .ref q_isBlob, .ref q_integer, .ref q_size, .ref q_blobs, .int v_length, .ref q_record, .int v_kind, .int v_cells, .int v_last, .ref q_cellLength, .ref q_row, .int v_made, .ref q_cell, .int (0 : Int32), .ref q_way, .ref q_turn, .int v_at, .int v_bad, .ref q_used])), (q_now, .inl (cI, 1600, .inl v_now)), (q_record, .inl (cI, 700, .inl v_record)), (q_way, .inl (cI, 40, .inl a2)), (q_turn, .inl (cI, 40, .inl v_turn)), (q_used, .inl (cZ, 25, .inl v_used))] H := by rw [e_a2]; exact hP
    have hD : va_D A [(q_this, .inr (8, [.ref q_now, .ref q_disk, .ref q_before, .int v_onDisk, .int v_head, .int v_headPages, .int v_records, .ref q_recordPage, .ref q_recordBytes, .int v_up, .int v_armed, .int v_columns, .ref q_isBlob, .ref q_integer, .ref q_size, .ref q_blobs, .int v_length, .ref q_record, .int v_kind, .int v_cells, .int v_last, .ref q_cellLength, .ref q_row, .int v_made, .ref q_cell, .int (0 : Int32), .ref q_way, .ref q_turn, .int v_at, .int v_bad, .ref q_used])), (q_now, .inl (cI, 1600, .inl v_now)), (q_record, .inl (cI, 700, .inl v_record)), (q_way, .inl (cI, 40, .inl a2)), (q_turn, .inl (cI, 40, .inl v_turn)), (q_used, .inl (cZ, 25, .inl v_used))] := by rw [e_a2]; exact hD
    refine lv_aload_n hx hb d_MD_wellTree_19 rfl (lv_at hl 2 rfl) ?_
    refine gf_MD_65 (v := .ref q_turn) hx hb hts hN hown hK hP 0 rfl rfl d_MD_wellTree_20 ?_
    refine lv_iconst (v := 0) hx hb d_MD_wellTree_23 rfl ?_
    refine lv_iconst (v := 0) hx hb d_MD_wellTree_24 rfl ?_
    obtain ⟨hin, hf⟩ := pu_ck_some hf
    obtain ⟨a3, e_a3, hf⟩ := pu_nm_some hf
    refine va_iast hx hb hK hP hD hS 4 0 rfl rfl hin d_MD_wellTree_25 (fun H locs hP hD hS => ?_)
    have hP : va_P D pu_cl [(q_this, .inr (8, [.ref q_now, .ref q_disk, .ref q_before, .int v_onDisk, .int v_head, .int v_headPages, .int v_records, .ref q_recordPage, .ref q_recordBytes, .int v_up, .int v_armed, .int v_columns, .ref q_isBlob, .ref q_integer, .ref q_size, .ref q_blobs, .int v_length, .ref q_record, .int v_kind, .int v_cells, .int v_last, .ref q_cellLength, .ref q_row, .int v_made, .ref q_cell, .int (0 : Int32), .ref q_way, .ref q_turn, .int v_at, .int v_bad, .ref q_used])), (q_now, .inl (cI, 1600, .inl v_now)), (q_record, .inl (cI, 700, .inl v_record)), (q_way, .inl (cI, 40, .inl a2)), (q_turn, .inl (cI, 40, .inl a3)), (q_used, .inl (cZ, 25, .inl v_used))] H := by rw [e_a3]; exact hP
    have hD : va_D A [(q_this, .inr (8, [.ref q_now, .ref q_disk, .ref q_before, .int v_onDisk, .int v_head, .int v_headPages, .int v_records, .ref q_recordPage, .ref q_recordBytes, .int v_up, .int v_armed, .int v_columns, .ref q_isBlob, .ref q_integer, .ref q_size, .ref q_blobs, .int v_length, .ref q_record, .int v_kind, .int v_cells, .int v_last, .ref q_cellLength, .ref q_row, .int v_made, .ref q_cell, .int (0 : Int32), .ref q_way, .ref q_turn, .int v_at, .int v_bad, .ref q_used])), (q_now, .inl (cI, 1600, .inl v_now)), (q_record, .inl (cI, 700, .inl v_record)), (q_way, .inl (cI, 40, .inl a2)), (q_turn, .inl (cI, 40, .inl a3)), (q_used, .inl (cZ, 25, .inl v_used))] := by rw [e_a3]; exact hD
    refine lv_aload_n hx hb d_MD_wellTree_26 rfl (lv_at hl 2 rfl) ?_
    refine lv_aload_n hx hb d_MD_wellTree_27 rfl (lv_at hl 2 rfl) ?_
    refine gf_MD_62 (v := .ref q_way) hx hb hts hN hown hK hP 0 rfl rfl d_MD_wellTree_28 ?_
    refine lv_iconst (v := 0) hx hb d_MD_wellTree_31 rfl ?_
    obtain ⟨hin, hf⟩ := pu_ck_some hf
    refine va_iald hx hb hK hP 3 0 rfl rfl hin d_MD_wellTree_32 ?_
    obtain ⟨r4, w5, hc, hf⟩ := pu_b2_some hf
    refine cl_i (WC := [(q_this, .inr (8, [.ref q_now, .ref q_disk, .ref q_before, .int v_onDisk, .int v_head, .int v_headPages, .int v_records, .ref q_recordPage, .ref q_recordBytes, .int v_up, .int v_armed, .int v_columns, .ref q_isBlob, .ref q_integer, .ref q_size, .ref q_blobs, .int v_length, .ref q_record, .int v_kind, .int v_cells, .int v_last, .ref q_cellLength, .ref q_row, .int v_made, .ref q_cell, .int (0 : Int32), .ref q_way, .ref q_turn, .int v_at, .int v_bad, .ref q_used])), (q_used, .inl (cZ, 25, .inl v_used))]) (WC2 := [(q_this, .inr (8, [.ref q_now, .ref q_disk, .ref q_before, .int v_onDisk, .int v_head, .int v_headPages, .int v_records, .ref q_recordPage, .ref q_recordBytes, .int v_up, .int v_armed, .int v_columns, .ref q_isBlob, .ref q_integer, .ref q_size, .ref q_blobs, .int v_length, .ref q_record, .int v_kind, .int v_cells, .int v_last, .ref q_cellLength, .ref q_row, .int v_made, .ref q_cell, .int (0 : Int32), .ref q_way, .ref q_turn, .int v_at, .int v_bad, .ref q_used])), (q_used, .inl (cZ, 25, .inl w5))]) (WR := [(q_now, .inl (cI, 1600, .inl v_now)), (q_record, .inl (cI, 700, .inl v_record)), (q_way, .inl (cI, 40, .inl a2)), (q_turn, .inl (cI, 40, .inl a3))]) (WS2 := [(q_this, .inr (8, [.ref q_now, .ref q_disk, .ref q_before, .int v_onDisk, .int v_head, .int v_headPages, .int v_records, .ref q_recordPage, .ref q_recordBytes, .int v_up, .int v_armed, .int v_columns, .ref q_isBlob, .ref q_integer, .ref q_size, .ref q_blobs, .int v_length, .ref q_record, .int v_kind, .int v_cells, .int v_last, .ref q_cellLength, .ref q_row, .int v_made, .ref q_cell, .int (0 : Int32), .ref q_way, .ref q_turn, .int v_at, .int v_bad, .ref q_used])), (q_now, .inl (cI, 1600, .inl v_now)), (q_record, .inl (cI, 700, .inl v_record)), (q_way, .inl (cI, 40, .inl a2)), (q_turn, .inl (cI, 40, .inl a3)), (q_used, .inl (cZ, 25, .inl w5))]) (pu_rv (cl := pu_cl) (pu_in12 _ (List.mem_of_getElem? (i := 48) rfl)) (pu_in12 _ (List.mem_of_getElem? (i := 49) rfl)) (pu_in14 _ (List.mem_of_getElem? (i := 41) rfl)) (pu_in0 _ (List.mem_of_getElem? (i := 10) rfl)) (pu_in12 _ (List.mem_of_getElem? (i := 50) rfl)) (ci := 8) rfl hd_MD_meet (by decide) ⟨rfl, rfl⟩ rfl rfl (Nat.le_of_ble_eq_true rfl) rfl (As := [.int (a2 (0 : Int32).toNatClampNeg)]) (rest := []) (WC := [(q_this, .inr (8, [.ref q_now, .ref q_disk, .ref q_before, .int v_onDisk, .int v_head, .int v_headPages, .int v_records, .ref q_recordPage, .ref q_recordBytes, .int v_up, .int v_armed, .int v_columns, .ref q_isBlob, .ref q_integer, .ref q_size, .ref q_blobs, .int v_length, .ref q_record, .int v_kind, .int v_cells, .int v_last, .ref q_cellLength, .ref q_row, .int v_made, .ref q_cell, .int (0 : Int32), .ref q_way, .ref q_turn, .int v_at, .int v_bad, .ref q_used])), (q_used, .inl (cZ, 25, .inl v_used))]) hx hb hml hown hts hN hK hP hD (c_MD_meet l D cI cJ cB cZ H.size q_this q_now q_disk q_before q_recordPage q_recordBytes q_isBlob q_integer q_size q_blobs q_record q_cellLength q_row q_cell q_way q_turn q_used v_onDisk v_head v_headPages v_records v_up v_armed v_columns v_length v_kind v_cells v_last v_made (0 : Int32) v_at v_bad v_used (a2 (0 : Int32).toNatClampNeg) r4 w5 hc) [0, 5] rfl rfl hl.1 d_MD_wellTree_33) hP hD hS hA [0, 5] [1, 2, 3, 4] [4, 0, 1, 2, 3, 5] rfl rfl rfl (by decide) rfl rfl (fun H locs hP hD hS => ?_)
    refine lv_if_eq (tgt := 52) hx hb d_MD_wellTree_36 rfl (fun hc => ?_) (fun hc => ?_)
    · have hf := pu_br_pos hf hc
      refine lv_iconst (v := -1) hx hb d_MD_wellTree_52 rfl ?_
      exact hret _ _ _ _ (-1 : Int32) v_length (0 : Int32) v_at v_bad v_record a2 a3 w5 d_MD_wellTree_53 hP hD hS hf
    have hf := pu_br_neg hf hc
    refine lv_aload_n hx hb d_MD_wellTree_39 rfl (lv_at hl 2 rfl) ?_
    refine lv_aload_n hx hb d_MD_wellTree_40 rfl (lv_at hl 2 rfl) ?_
    refine gf_MD_62 (v := .ref q_way) hx hb hts hN hown hK hP 0 rfl rfl d_MD_wellTree_41 ?_
    refine lv_iconst (v := 0) hx hb d_MD_wellTree_44 rfl ?_
    obtain ⟨hin, hf⟩ := pu_ck_some hf
    refine va_iald hx hb hK hP 3 0 rfl rfl hin d_MD_wellTree_45 ?_
    obtain ⟨r6, hc, hf⟩ := pu_b1_some hf
    refine cl_i (WC := [(q_this, .inr (8, [.ref q_now, .ref q_disk, .ref q_before, .int v_onDisk, .int v_head, .int v_headPages, .int v_records, .ref q_recordPage, .ref q_recordBytes, .int v_up, .int v_armed, .int v_columns, .ref q_isBlob, .ref q_integer, .ref q_size, .ref q_blobs, .int v_length, .ref q_record, .int v_kind, .int v_cells, .int v_last, .ref q_cellLength, .ref q_row, .int v_made, .ref q_cell, .int (0 : Int32), .ref q_way, .ref q_turn, .int v_at, .int v_bad, .ref q_used])), (q_now, .inl (cI, 1600, .inl v_now))]) (WC2 := [(q_this, .inr (8, [.ref q_now, .ref q_disk, .ref q_before, .int v_onDisk, .int v_head, .int v_headPages, .int v_records, .ref q_recordPage, .ref q_recordBytes, .int v_up, .int v_armed, .int v_columns, .ref q_isBlob, .ref q_integer, .ref q_size, .ref q_blobs, .int v_length, .ref q_record, .int v_kind, .int v_cells, .int v_last, .ref q_cellLength, .ref q_row, .int v_made, .ref q_cell, .int (0 : Int32), .ref q_way, .ref q_turn, .int v_at, .int v_bad, .ref q_used])), (q_now, .inl (cI, 1600, .inl v_now))]) (WR := [(q_record, .inl (cI, 700, .inl v_record)), (q_way, .inl (cI, 40, .inl a2)), (q_turn, .inl (cI, 40, .inl a3)), (q_used, .inl (cZ, 25, .inl w5))]) (WS2 := [(q_this, .inr (8, [.ref q_now, .ref q_disk, .ref q_before, .int v_onDisk, .int v_head, .int v_headPages, .int v_records, .ref q_recordPage, .ref q_recordBytes, .int v_up, .int v_armed, .int v_columns, .ref q_isBlob, .ref q_integer, .ref q_size, .ref q_blobs, .int v_length, .ref q_record, .int v_kind, .int v_cells, .int v_last, .ref q_cellLength, .ref q_row, .int v_made, .ref q_cell, .int (0 : Int32), .ref q_way, .ref q_turn, .int v_at, .int v_bad, .ref q_used])), (q_now, .inl (cI, 1600, .inl v_now)), (q_record, .inl (cI, 700, .inl v_record)), (q_way, .inl (cI, 40, .inl a2)), (q_turn, .inl (cI, 40, .inl a3)), (q_used, .inl (cZ, 25, .inl w5))]) (pu_rv (cl := pu_cl) (pu_in12 _ (List.mem_of_getElem? (i := 51) rfl)) (pu_in12 _ (List.mem_of_getElem? (i := 52) rfl)) (pu_in14 _ (List.mem_of_getElem? (i := 42) rfl)) (pu_in0 _ (List.mem_of_getElem? (i := 10) rfl)) (pu_in12 _ (List.mem_of_getElem? (i := 53) rfl)) (ci := 8) rfl hd_MD_wellLaid (by decide) ⟨rfl, rfl⟩ rfl rfl (Nat.le_of_ble_eq_true rfl) rfl (As := [.int (a2 (0 : Int32).toNatClampNeg)]) (rest := []) (WC := [(q_this, .inr (8, [.ref q_now, .ref q_disk, .ref q_before, .int v_onDisk, .int v_head, .int v_headPages, .int v_records, .ref q_recordPage, .ref q_recordBytes, .int v_up, .int v_armed, .int v_columns, .ref q_isBlob, .ref q_integer, .ref q_size, .ref q_blobs, .int v_length, .ref q_record, .int v_kind, .int v_cells, .int v_last, .ref q_cellLength, .ref q_row, .int v_made, .ref q_cell, .int (0 : Int32), .ref q_way, .ref q_turn, .int v_at, .int v_bad, .ref q_used])), (q_now, .inl (cI, 1600, .inl v_now))]) hx hb hml hown hts hN hK hP hD (c_MD_wellLaid l D cI cJ cB cZ H.size q_this q_now q_disk q_before q_recordPage q_recordBytes q_isBlob q_integer q_size q_blobs q_record q_cellLength q_row q_cell q_way q_turn q_used v_onDisk v_head v_headPages v_records v_up v_armed v_columns v_length v_kind v_cells v_last v_made (0 : Int32) v_at v_bad v_now (a2 (0 : Int32).toNatClampNeg) r6 hc) [0, 1] rfl rfl hl.1 d_MD_wellTree_46) hP hD hS hA [0, 1] [2, 3, 4, 5] [4, 5, 0, 1, 2, 3] rfl rfl rfl (by decide) rfl rfl (fun H locs hP hD hS => ?_)
    refine lv_if_ne (tgt := 54) hx hb d_MD_wellTree_49 rfl (fun hc => ?_) (fun hc => ?_)
    · have hf := pu_br_neg hf hc
      exact lp_54 _ v_length (0 : Int32) v_at v_bad v_record a2 a3 w5 (0 : Int32) (-1 : Int32) H locs ls hP hD hS (lv_sub hl [2, 1, 0] rfl) hf
    have hf := pu_br_pos hf hc
    refine lv_iconst (v := -1) hx hb d_MD_wellTree_52 rfl ?_
    exact hret _ _ _ _ (-1 : Int32) v_length (0 : Int32) v_at v_bad v_record a2 a3 w5 d_MD_wellTree_53 hP hD hS hf
  rw [hH, hlocs] at goal
  exact goal
theorem d_MD_wellFree_0 : decode b_MD_wellFree 0 = .ok (.iconst 0, 1) := by decide +kernel
theorem d_MD_wellFree_1 : decode b_MD_wellFree 1 = .ok (.istore_n 1, 1) := by decide +kernel
theorem d_MD_wellFree_2 : decode b_MD_wellFree 2 = .ok (.aload_n 0, 1) := by decide +kernel
theorem d_MD_wellFree_3 : decode b_MD_wellFree 3 = .ok (.getfield 7, 3) := by decide +kernel
theorem d_MD_wellFree_6 : decode b_MD_wellFree 6 = .ok (.bipush 66, 2) := by decide +kernel
theorem d_MD_wellFree_8 : decode b_MD_wellFree 8 = .ok (.iaload, 1) := by decide +kernel
theorem d_MD_wellFree_9 : decode b_MD_wellFree 9 = .ok (.istore_n 2, 1) := by decide +kernel
theorem d_MD_wellFree_10 : decode b_MD_wellFree 10 = .ok (.iload_n 2, 1) := by decide +kernel
theorem d_MD_wellFree_11 : decode b_MD_wellFree 11 = .ok (.ifCond .eq 59, 3) := by decide +kernel
theorem d_MD_wellFree_14 : decode b_MD_wellFree 14 = .ok (.aload_n 0, 1) := by decide +kernel
theorem d_MD_wellFree_15 : decode b_MD_wellFree 15 = .ok (.iload_n 2, 1) := by decide +kernel
theorem d_MD_wellFree_16 : decode b_MD_wellFree 16 = .ok (.invokevirtual 241, 3) := by decide +kernel
theorem d_MD_wellFree_19 : decode b_MD_wellFree 19 = .ok (.ifCond .ne 5, 3) := by decide +kernel
theorem d_MD_wellFree_22 : decode b_MD_wellFree 22 = .ok (.iconst 0, 1) := by decide +kernel
theorem d_MD_wellFree_23 : decode b_MD_wellFree 23 = .ok (.ireturn, 1) := by decide +kernel
theorem d_MD_wellFree_24 : decode b_MD_wellFree 24 = .ok (.iconst 1, 1) := by decide +kernel
theorem d_MD_wellFree_25 : decode b_MD_wellFree 25 = .ok (.istore_n 3, 1) := by decide +kernel
theorem d_MD_wellFree_26 : decode b_MD_wellFree 26 = .ok (.iload_n 3, 1) := by decide +kernel
theorem d_MD_wellFree_27 : decode b_MD_wellFree 27 = .ok (.bipush 64, 2) := by decide +kernel
theorem d_MD_wellFree_29 : decode b_MD_wellFree 29 = .ok (.if_icmp .ge 25, 3) := by decide +kernel
theorem d_MD_wellFree_32 : decode b_MD_wellFree 32 = .ok (.aload_n 0, 1) := by decide +kernel
theorem d_MD_wellFree_33 : decode b_MD_wellFree 33 = .ok (.getfield 7, 3) := by decide +kernel
theorem d_MD_wellFree_36 : decode b_MD_wellFree 36 = .ok (.bipush 64, 2) := by decide +kernel
theorem d_MD_wellFree_38 : decode b_MD_wellFree 38 = .ok (.iload_n 2, 1) := by decide +kernel
theorem d_MD_wellFree_39 : decode b_MD_wellFree 39 = .ok (.imul, 1) := by decide +kernel
theorem d_MD_wellFree_40 : decode b_MD_wellFree 40 = .ok (.iload_n 3, 1) := by decide +kernel
theorem d_MD_wellFree_41 : decode b_MD_wellFree 41 = .ok (.iadd, 1) := by decide +kernel
theorem d_MD_wellFree_42 : decode b_MD_wellFree 42 = .ok (.iaload, 1) := by decide +kernel
theorem d_MD_wellFree_43 : decode b_MD_wellFree 43 = .ok (.ifCond .eq 5, 3) := by decide +kernel
theorem d_MD_wellFree_46 : decode b_MD_wellFree 46 = .ok (.iconst 0, 1) := by decide +kernel
theorem d_MD_wellFree_47 : decode b_MD_wellFree 47 = .ok (.ireturn, 1) := by decide +kernel
theorem d_MD_wellFree_48 : decode b_MD_wellFree 48 = .ok (.iinc 3 1, 3) := by decide +kernel
theorem d_MD_wellFree_51 : decode b_MD_wellFree 51 = .ok (.goto (-25), 3) := by decide +kernel
theorem d_MD_wellFree_54 : decode b_MD_wellFree 54 = .ok (.iinc 1 1, 3) := by decide +kernel
theorem d_MD_wellFree_57 : decode b_MD_wellFree 57 = .ok (.aload_n 0, 1) := by decide +kernel
theorem d_MD_wellFree_58 : decode b_MD_wellFree 58 = .ok (.getfield 7, 3) := by decide +kernel
theorem d_MD_wellFree_61 : decode b_MD_wellFree 61 = .ok (.bipush 64, 2) := by decide +kernel
theorem d_MD_wellFree_63 : decode b_MD_wellFree 63 = .ok (.iload_n 2, 1) := by decide +kernel
theorem d_MD_wellFree_64 : decode b_MD_wellFree 64 = .ok (.imul, 1) := by decide +kernel
theorem d_MD_wellFree_65 : decode b_MD_wellFree 65 = .ok (.iaload, 1) := by decide +kernel
theorem d_MD_wellFree_66 : decode b_MD_wellFree 66 = .ok (.istore_n 2, 1) := by decide +kernel
theorem d_MD_wellFree_67 : decode b_MD_wellFree 67 = .ok (.goto (-57), 3) := by decide +kernel
theorem d_MD_wellFree_70 : decode b_MD_wellFree 70 = .ok (.iload_n 1, 1) := by decide +kernel
theorem d_MD_wellFree_71 : decode b_MD_wellFree 71 = .ok (.aload_n 0, 1) := by decide +kernel
theorem d_MD_wellFree_72 : decode b_MD_wellFree 72 = .ok (.getfield 7, 3) := by decide +kernel
theorem d_MD_wellFree_75 : decode b_MD_wellFree 75 = .ok (.bipush 67, 2) := by decide +kernel
theorem d_MD_wellFree_77 : decode b_MD_wellFree 77 = .ok (.iaload, 1) := by decide +kernel
theorem d_MD_wellFree_78 : decode b_MD_wellFree 78 = .ok (.if_icmp .ne 7, 3) := by decide +kernel
theorem d_MD_wellFree_81 : decode b_MD_wellFree 81 = .ok (.iconst 1, 1) := by decide +kernel
theorem d_MD_wellFree_82 : decode b_MD_wellFree 82 = .ok (.goto 4, 3) := by decide +kernel
theorem d_MD_wellFree_85 : decode b_MD_wellFree 85 = .ok (.iconst 0, 1) := by decide +kernel
theorem d_MD_wellFree_86 : decode b_MD_wellFree 86 = .ok (.ireturn, 1) := by decide +kernel
noncomputable def q_MD_wellFree_70 (v_onDisk : Int32) (v_now : Nat → Int32) (v_used : Nat → Int32) (x_1 : Int32) : Option (Int32 × (Nat → Int32)) :=
  pu_ck (vp_in (67 : Int32) 1600) (pu_br (x_1 = (v_now (67 : Int32).toNatClampNeg)) (some ((1 : Int32), v_used)) (some ((0 : Int32), v_used)))
noncomputable def q_MD_wellFree_54 (kb : (Nat → Int32) → Int32 → Int32 → Option (Int32 × (Nat → Int32))) (kx_70 : (Nat → Int32) → Int32 → Option (Int32 × (Nat → Int32))) (v_onDisk : Int32) (v_now : Nat → Int32) (v_used : Nat → Int32) (x_1 : Int32) (x_2 : Int32) : Option (Int32 × (Nat → Int32)) :=
  pu_nm (x_1 + (1 : Int32)) (fun t4 => pu_ck (vp_in ((64 : Int32) * x_2) 1600) (pu_nm (v_now ((64 : Int32) * x_2).toNatClampNeg) (fun t5 => kb v_used t4 t5)))
noncomputable def q_MD_wellFree_26 (kx_54 : Option (Int32 × (Nat → Int32))) (v_onDisk : Int32) (v_now : Nat → Int32) (v_used : Nat → Int32) (x_1 : Int32) (x_2 : Int32) : Nat → Int32 → Option (Int32 × (Nat → Int32))
  | 0, _ => none
  | n + 1, x_3 => pu_br ((64 : Int32) ≤ x_3) (kx_54) (pu_ck (vp_in (((64 : Int32) * x_2) + x_3) 1600) (pu_br ((v_now (((64 : Int32) * x_2) + x_3).toNatClampNeg) = 0) (pu_nm (x_3 + (1 : Int32)) (fun t6 => q_MD_wellFree_26 kx_54 v_onDisk v_now v_used x_1 x_2 n t6)) (some ((0 : Int32), v_used))))
noncomputable def q_MD_wellFree_10 (kx_70 : (Nat → Int32) → Int32 → Option (Int32 × (Nat → Int32))) (v_onDisk : Int32) (v_now : Nat → Int32) : Nat → (Nat → Int32) → Int32 → Int32 → Option (Int32 × (Nat → Int32))
  | 0, _, _, _ => none
  | n + 1, v_used, x_1, x_2 => pu_br (x_2 = 0) (kx_70 v_used x_1) (pu_b2 (f_MD_meet v_onDisk v_used x_2) (fun r2 w3 => pu_br (r2 = 0) (some ((0 : Int32), w3)) (q_MD_wellFree_26 (q_MD_wellFree_54 (q_MD_wellFree_10 kx_70 v_onDisk v_now n) kx_70 v_onDisk v_now w3 x_1 x_2) v_onDisk v_now w3 x_1 x_2 pu_fu (1 : Int32))))
noncomputable def f_MD_wellFree (v_onDisk : Int32) (v_now : Nat → Int32) (v_used : Nat → Int32) : Option (Int32 × (Nat → Int32)) :=
  pu_ck (vp_in (66 : Int32) 1600) (pu_nm (v_now (66 : Int32).toNatClampNeg) (fun t1 => q_MD_wellFree_10 (fun v_used x_1 => q_MD_wellFree_70 v_onDisk v_now v_used x_1) v_onDisk v_now pu_fu v_used (0 : Int32) t1))
abbrev rm_MD_wellFree : Room := { frames := 1, cells := 0, slots := 0, locals := 21 }
set_option maxHeartbeats 8000000 in
set_option maxRecDepth 100000 in
theorem c_MD_wellFree (l : Launch) (D : va_G) (cI cJ cB cZ : ClassId) (sz : Nat) (q_this : Nat) (q_now : Nat) (q_disk : Nat) (q_before : Nat) (q_recordPage : Nat) (q_recordBytes : Nat) (q_isBlob : Nat) (q_integer : Nat) (q_size : Nat) (q_blobs : Nat) (q_record : Nat) (q_cellLength : Nat) (q_row : Nat) (q_cell : Nat) (q_way : Nat) (q_turn : Nat) (q_used : Nat) (v_onDisk : Int32) (v_head : Int32) (v_headPages : Int32) (v_records : Int32) (v_up : Int32) (v_armed : Int32) (v_columns : Int32) (v_length : Int32) (v_kind : Int32) (v_cells : Int32) (v_last : Int32) (v_made : Int32) (v_deep : Int32) (v_at : Int32) (v_bad : Int32) (v_now : Nat → Int32) (v_used : Nat → Int32) (o_r : Int32) (o_used : Nat → Int32) (hf : f_MD_wellFree v_onDisk v_now v_used = some (o_r, o_used)) : Met l y_MD_wellFree (.code y_MD_wellFree b_MD_wellFree 4 (some .boolean) :: pu_wA) rm_MD_wellFree (pu_pc D pu_cl (pu_ty cI cJ cB cZ) [.ref q_this] [(q_this, .inr (8, [.ref q_now, .ref q_disk, .ref q_before, .int v_onDisk, .int v_head, .int v_headPages, .int v_records, .ref q_recordPage, .ref q_recordBytes, .int v_up, .int v_armed, .int v_columns, .ref q_isBlob, .ref q_integer, .ref q_size, .ref q_blobs, .int v_length, .ref q_record, .int v_kind, .int v_cells, .int v_last, .ref q_cellLength, .ref q_row, .int v_made, .ref q_cell, .int v_deep, .ref q_way, .ref q_turn, .int v_at, .int v_bad, .ref q_used])), (q_now, .inl (cI, 1600, .inl v_now)), (q_used, .inl (cZ, 25, .inl v_used))] sz) (pu_qi D pu_cl (pu_ty cI cJ cB cZ) [(q_this, .inr (8, [.ref q_now, .ref q_disk, .ref q_before, .int v_onDisk, .int v_head, .int v_headPages, .int v_records, .ref q_recordPage, .ref q_recordBytes, .int v_up, .int v_armed, .int v_columns, .ref q_isBlob, .ref q_integer, .ref q_size, .ref q_blobs, .int v_length, .ref q_record, .int v_kind, .int v_cells, .int v_last, .ref q_cellLength, .ref q_row, .int v_made, .ref q_cell, .int v_deep, .ref q_way, .ref q_turn, .int v_at, .int v_bad, .ref q_used])), (q_now, .inl (cI, 1600, .inl v_now)), (q_used, .inl (cZ, 25, .inl v_used))] [(q_this, .inr (8, [.ref q_now, .ref q_disk, .ref q_before, .int v_onDisk, .int v_head, .int v_headPages, .int v_records, .ref q_recordPage, .ref q_recordBytes, .int v_up, .int v_armed, .int v_columns, .ref q_isBlob, .ref q_integer, .ref q_size, .ref q_blobs, .int v_length, .ref q_record, .int v_kind, .int v_cells, .int v_last, .ref q_cellLength, .ref q_row, .int v_made, .ref q_cell, .int v_deep, .ref q_way, .ref q_turn, .int v_at, .int v_bad, .ref q_used])), (q_now, .inl (cI, 1600, .inl v_now)), (q_used, .inl (cZ, 25, .inl o_used))] sz o_r) 0 0 (va_A [(q_this, .inr (8, [.ref q_now, .ref q_disk, .ref q_before, .int v_onDisk, .int v_head, .int v_headPages, .int v_records, .ref q_recordPage, .ref q_recordBytes, .int v_up, .int v_armed, .int v_columns, .ref q_isBlob, .ref q_integer, .ref q_size, .ref q_blobs, .int v_length, .ref q_record, .int v_kind, .int v_cells, .int v_last, .ref q_cellLength, .ref q_row, .int v_made, .ref q_cell, .int v_deep, .ref q_way, .ref q_turn, .int v_at, .int v_bad, .ref q_used])), (q_now, .inl (cI, 1600, .inl v_now)), (q_used, .inl (cZ, 25, .inl v_used))] sz) := by
  refine pu_mtz [.ref q_this] [(q_this, .inr (8, [.ref q_now, .ref q_disk, .ref q_before, .int v_onDisk, .int v_head, .int v_headPages, .int v_records, .ref q_recordPage, .ref q_recordBytes, .int v_up, .int v_armed, .int v_columns, .ref q_isBlob, .ref q_integer, .ref q_size, .ref q_blobs, .int v_length, .ref q_record, .int v_kind, .int v_cells, .int v_last, .ref q_cellLength, .ref q_row, .int v_made, .ref q_cell, .int v_deep, .ref q_way, .ref q_turn, .int v_at, .int v_bad, .ref q_used])), (q_now, .inl (cI, 1600, .inl v_now)), (q_used, .inl (cZ, 25, .inl v_used))] [(q_this, .inr (8, [.ref q_now, .ref q_disk, .ref q_before, .int v_onDisk, .int v_head, .int v_headPages, .int v_records, .ref q_recordPage, .ref q_recordBytes, .int v_up, .int v_armed, .int v_columns, .ref q_isBlob, .ref q_integer, .ref q_size, .ref q_blobs, .int v_length, .ref q_record, .int v_kind, .int v_cells, .int v_last, .ref q_cellLength, .ref q_row, .int v_made, .ref q_cell, .int v_deep, .ref q_way, .ref q_turn, .int v_at, .int v_bad, .ref q_used])), (q_now, .inl (cI, 1600, .inl v_now)), (q_used, .inl (cZ, 25, .inl o_used))] o_r (by decide) (Nat.le_of_ble_eq_true rfl) ?_
  intro p e s m args below meth c A Q ls hx hb hml hts hN hown hK hA hP hD hl hret0
  have hS : va_S A s.heap s.heap [] := va_S.rf
  have hl : lv_has ls 4 [(0, .ref q_this)] := hl
  have hret : ∀ (pc : Nat) (ls : Array Slot) (H : Heap) (locs : List Loc) (y_0 : Int32) (y_1 : Nat → Int32), decode b_MD_wellFree pc = .ok (.ireturn, 1) → narrow .boolean (.int y_0) = .int y_0 → va_P D pu_cl [(q_this, .inr (8, [.ref q_now, .ref q_disk, .ref q_before, .int v_onDisk, .int v_head, .int v_headPages, .int v_records, .ref q_recordPage, .ref q_recordBytes, .int v_up, .int v_armed, .int v_columns, .ref q_isBlob, .ref q_integer, .ref q_size, .ref q_blobs, .int v_length, .ref q_record, .int v_kind, .int v_cells, .int v_last, .ref q_cellLength, .ref q_row, .int v_made, .ref q_cell, .int v_deep, .ref q_way, .ref q_turn, .int v_at, .int v_bad, .ref q_used])), (q_now, .inl (cI, 1600, .inl v_now)), (q_used, .inl (cZ, 25, .inl y_1))] H → va_D A [(q_this, .inr (8, [.ref q_now, .ref q_disk, .ref q_before, .int v_onDisk, .int v_head, .int v_headPages, .int v_records, .ref q_recordPage, .ref q_recordBytes, .int v_up, .int v_armed, .int v_columns, .ref q_isBlob, .ref q_integer, .ref q_size, .ref q_blobs, .int v_length, .ref q_record, .int v_kind, .int v_cells, .int v_last, .ref q_cellLength, .ref q_row, .int v_made, .ref q_cell, .int v_deep, .ref q_way, .ref q_turn, .int v_at, .int v_bad, .ref q_used])), (q_now, .inl (cI, 1600, .inl v_now)), (q_used, .inl (cZ, 25, .inl y_1))] → va_S A s.heap H locs → some (y_0, y_1) = some (o_r, o_used) → W p l e rm_MD_wellFree s m args below meth c H locs 0 0 Q (F0 m pc ls [.int y_0]) := by
    intro pc ls H locs y_0 y_1 hd hz hP hD hS hf
    cases hf
    exact hret0 pc ls H locs hd hz hP hD hS
  clear hret0
  unfold f_MD_wellFree at hf
  skip
  have lb_70 : ∀ (v_used : Nat → Int32) (x_1 : Int32) (H : Heap) (locs : List Loc) (ls : Array Slot), va_P D pu_cl [(q_this, .inr (8, [.ref q_now, .ref q_disk, .ref q_before, .int v_onDisk, .int v_head, .int v_headPages, .int v_records, .ref q_recordPage, .ref q_recordBytes, .int v_up, .int v_armed, .int v_columns, .ref q_isBlob, .ref q_integer, .ref q_size, .ref q_blobs, .int v_length, .ref q_record, .int v_kind, .int v_cells, .int v_last, .ref q_cellLength, .ref q_row, .int v_made, .ref q_cell, .int v_deep, .ref q_way, .ref q_turn, .int v_at, .int v_bad, .ref q_used])), (q_now, .inl (cI, 1600, .inl v_now)), (q_used, .inl (cZ, 25, .inl v_used))] H → va_D A [(q_this, .inr (8, [.ref q_now, .ref q_disk, .ref q_before, .int v_onDisk, .int v_head, .int v_headPages, .int v_records, .ref q_recordPage, .ref q_recordBytes, .int v_up, .int v_armed, .int v_columns, .ref q_isBlob, .ref q_integer, .ref q_size, .ref q_blobs, .int v_length, .ref q_record, .int v_kind, .int v_cells, .int v_last, .ref q_cellLength, .ref q_row, .int v_made, .ref q_cell, .int v_deep, .ref q_way, .ref q_turn, .int v_at, .int v_bad, .ref q_used])), (q_now, .inl (cI, 1600, .inl v_now)), (q_used, .inl (cZ, 25, .inl v_used))] → va_S A s.heap H locs → lv_has ls 4 [(0, .ref q_this), (1, .int x_1)] → q_MD_wellFree_70 v_onDisk v_now v_used x_1 = some (o_r, o_used) → W p l e rm_MD_wellFree s m args below meth c H locs 0 0 Q (F0 m 70 ls []) := by
    intro v_used x_1 H locs ls hP hD hS hl hf
    rw [q_MD_wellFree_70] at hf
    refine lv_iload_n hx hb d_MD_wellFree_70 rfl (lv_at hl 1 rfl) ?_
    refine lv_aload_n hx hb d_MD_wellFree_71 rfl (lv_at hl 0 rfl) ?_
    refine gf_MD_7 (v := .ref q_now) hx hb hts hN hown hK hP 0 rfl rfl d_MD_wellFree_72 ?_
    refine lv_bipush (v := 67) hx hb d_MD_wellFree_75 rfl ?_
    obtain ⟨hin, hf⟩ := pu_ck_some hf
    refine va_iald hx hb hK hP 1 0 rfl rfl hin d_MD_wellFree_77 ?_
    refine lv_icmp_ne (tgt := 85) hx hb d_MD_wellFree_78 rfl (fun hc => ?_) (fun hc => ?_)
    · have hf := pu_br_neg hf hc
      refine lv_iconst (v := 0) hx hb d_MD_wellFree_85 rfl ?_
      exact hret _ _ _ _ (0 : Int32) v_used d_MD_wellFree_86 (by decide) hP hD hS hf
    have hf := pu_br_pos hf hc
    refine lv_iconst (v := 1) hx hb d_MD_wellFree_81 rfl ?_
    refine lv_goto (tgt := 86) hx hb d_MD_wellFree_82 rfl ?_
    exact hret _ _ _ _ (1 : Int32) v_used d_MD_wellFree_86 (by decide) hP hD hS hf
  have lp_10 : ∀ (n10 : Nat) (v_used : Nat → Int32) (x_1 : Int32) (x_2 : Int32) (H : Heap) (locs : List Loc) (ls : Array Slot), va_P D pu_cl [(q_this, .inr (8, [.ref q_now, .ref q_disk, .ref q_before, .int v_onDisk, .int v_head, .int v_headPages, .int v_records, .ref q_recordPage, .ref q_recordBytes, .int v_up, .int v_armed, .int v_columns, .ref q_isBlob, .ref q_integer, .ref q_size, .ref q_blobs, .int v_length, .ref q_record, .int v_kind, .int v_cells, .int v_last, .ref q_cellLength, .ref q_row, .int v_made, .ref q_cell, .int v_deep, .ref q_way, .ref q_turn, .int v_at, .int v_bad, .ref q_used])), (q_now, .inl (cI, 1600, .inl v_now)), (q_used, .inl (cZ, 25, .inl v_used))] H → va_D A [(q_this, .inr (8, [.ref q_now, .ref q_disk, .ref q_before, .int v_onDisk, .int v_head, .int v_headPages, .int v_records, .ref q_recordPage, .ref q_recordBytes, .int v_up, .int v_armed, .int v_columns, .ref q_isBlob, .ref q_integer, .ref q_size, .ref q_blobs, .int v_length, .ref q_record, .int v_kind, .int v_cells, .int v_last, .ref q_cellLength, .ref q_row, .int v_made, .ref q_cell, .int v_deep, .ref q_way, .ref q_turn, .int v_at, .int v_bad, .ref q_used])), (q_now, .inl (cI, 1600, .inl v_now)), (q_used, .inl (cZ, 25, .inl v_used))] → va_S A s.heap H locs → lv_has ls 4 [(0, .ref q_this), (1, .int x_1), (2, .int x_2)] → q_MD_wellFree_10 (fun v_used x_1 => q_MD_wellFree_70 v_onDisk v_now v_used x_1) v_onDisk v_now n10 v_used x_1 x_2 = some (o_r, o_used) → W p l e rm_MD_wellFree s m args below meth c H locs 0 0 Q (F0 m 10 ls []) := by
    intro n10
    induction n10 with
    | zero =>
      intro v_used x_1 x_2 H locs ls hP hD hS hl hf
      rw [q_MD_wellFree_10] at hf
      cases hf
    | succ n10 ih_10 =>
      have lb_54 : ∀ (v_used : Nat → Int32) (x_1 : Int32) (x_2 : Int32) (H : Heap) (locs : List Loc) (ls : Array Slot), va_P D pu_cl [(q_this, .inr (8, [.ref q_now, .ref q_disk, .ref q_before, .int v_onDisk, .int v_head, .int v_headPages, .int v_records, .ref q_recordPage, .ref q_recordBytes, .int v_up, .int v_armed, .int v_columns, .ref q_isBlob, .ref q_integer, .ref q_size, .ref q_blobs, .int v_length, .ref q_record, .int v_kind, .int v_cells, .int v_last, .ref q_cellLength, .ref q_row, .int v_made, .ref q_cell, .int v_deep, .ref q_way, .ref q_turn, .int v_at, .int v_bad, .ref q_used])), (q_now, .inl (cI, 1600, .inl v_now)), (q_used, .inl (cZ, 25, .inl v_used))] H → va_D A [(q_this, .inr (8, [.ref q_now, .ref q_disk, .ref q_before, .int v_onDisk, .int v_head, .int v_headPages, .int v_records, .ref q_recordPage, .ref q_recordBytes, .int v_up, .int v_armed, .int v_columns, .ref q_isBlob, .ref q_integer, .ref q_size, .ref q_blobs, .int v_length, .ref q_record, .int v_kind, .int v_cells, .int v_last, .ref q_cellLength, .ref q_row, .int v_made, .ref q_cell, .int v_deep, .ref q_way, .ref q_turn, .int v_at, .int v_bad, .ref q_used])), (q_now, .inl (cI, 1600, .inl v_now)), (q_used, .inl (cZ, 25, .inl v_used))] → va_S A s.heap H locs → lv_has ls 4 [(0, .ref q_this), (1, .int x_1), (2, .int x_2)] → q_MD_wellFree_54 (q_MD_wellFree_10 (fun v_used x_1 => q_MD_wellFree_70 v_onDisk v_now v_used x_1) v_onDisk v_now n10) (fun v_used x_1 => q_MD_wellFree_70 v_onDisk v_now v_used x_1) v_onDisk v_now v_used x_1 x_2 = some (o_r, o_used) → W p l e rm_MD_wellFree s m args below meth c H locs 0 0 Q (F0 m 54 ls []) := by
        intro v_used x_1 x_2 H locs ls hP hD hS hl hf
        rw [q_MD_wellFree_54] at hf
        obtain ⟨t4, e_t4, hf⟩ := pu_nm_some hf
        refine lv_iinc (k := 1) (v := t4) hx hb d_MD_wellFree_54 hl rfl e_t4.symm (by decide) rfl (fun ls hl => ?_)
        have hl : lv_has ls 4 [(1, .int t4), (0, .ref q_this), (2, .int x_2)] := hl
        refine lv_aload_n hx hb d_MD_wellFree_57 rfl (lv_at hl 1 rfl) ?_
        refine gf_MD_7 (v := .ref q_now) hx hb hts hN hown hK hP 0 rfl rfl d_MD_wellFree_58 ?_
        refine lv_bipush (v := 64) hx hb d_MD_wellFree_61 rfl ?_
        refine lv_iload_n hx hb d_MD_wellFree_63 rfl (lv_at hl 2 rfl) ?_
        refine lv_imul hx hb d_MD_wellFree_64 ?_
        obtain ⟨hin, hf⟩ := pu_ck_some hf
        refine va_iald hx hb hK hP 1 0 rfl rfl hin d_MD_wellFree_65 ?_
        obtain ⟨t5, e_t5, hf⟩ := pu_nm_some hf
        refine pu_ti e_t5 ?_
        refine lv_istore_n hx hb d_MD_wellFree_66 rfl hl (by decide) rfl (fun ls hl => ?_)
        have hl : lv_has ls 4 [(2, .int t5), (1, .int t4), (0, .ref q_this)] := hl
        refine lv_goto (tgt := 10) hx hb d_MD_wellFree_67 rfl ?_
        exact ih_10 v_used t4 t5 H locs ls hP hD hS (lv_sub hl [2, 1, 0] rfl) hf
      have lp_26 : ∀ (v_used : Nat → Int32) (x_1 : Int32) (x_2 : Int32) (n26 : Nat) (x_3 : Int32) (H : Heap) (locs : List Loc) (ls : Array Slot), va_P D pu_cl [(q_this, .inr (8, [.ref q_now, .ref q_disk, .ref q_before, .int v_onDisk, .int v_head, .int v_headPages, .int v_records, .ref q_recordPage, .ref q_recordBytes, .int v_up, .int v_armed, .int v_columns, .ref q_isBlob, .ref q_integer, .ref q_size, .ref q_blobs, .int v_length, .ref q_record, .int v_kind, .int v_cells, .int v_last, .ref q_cellLength, .ref q_row, .int v_made, .ref q_cell, .int v_deep, .ref q_way, .ref q_turn, .int v_at, .int v_bad, .ref q_used])), (q_now, .inl (cI, 1600, .inl v_now)), (q_used, .inl (cZ, 25, .inl v_used))] H → va_D A [(q_this, .inr (8, [.ref q_now, .ref q_disk, .ref q_before, .int v_onDisk, .int v_head, .int v_headPages, .int v_records, .ref q_recordPage, .ref q_recordBytes, .int v_up, .int v_armed, .int v_columns, .ref q_isBlob, .ref q_integer, .ref q_size, .ref q_blobs, .int v_length, .ref q_record, .int v_kind, .int v_cells, .int v_last, .ref q_cellLength, .ref q_row, .int v_made, .ref q_cell, .int v_deep, .ref q_way, .ref q_turn, .int v_at, .int v_bad, .ref q_used])), (q_now, .inl (cI, 1600, .inl v_now)), (q_used, .inl (cZ, 25, .inl v_used))] → va_S A s.heap H locs → lv_has ls 4 [(0, .ref q_this), (1, .int x_1), (2, .int x_2), (3, .int x_3)] → q_MD_wellFree_26 (q_MD_wellFree_54 (q_MD_wellFree_10 (fun v_used x_1 => q_MD_wellFree_70 v_onDisk v_now v_used x_1) v_onDisk v_now n10) (fun v_used x_1 => q_MD_wellFree_70 v_onDisk v_now v_used x_1) v_onDisk v_now v_used x_1 x_2) v_onDisk v_now v_used x_1 x_2 n26 x_3 = some (o_r, o_used) → W p l e rm_MD_wellFree s m args below meth c H locs 0 0 Q (F0 m 26 ls []) := by
        intro v_used x_1 x_2 n26
        induction n26 with
        | zero =>
          intro x_3 H locs ls hP hD hS hl hf
          rw [q_MD_wellFree_26] at hf
          cases hf
        | succ n26 ih_26 =>
          intro x_3 H locs ls hP hD hS hl hf
          rw [q_MD_wellFree_26] at hf
          refine lv_iload_n hx hb d_MD_wellFree_26 rfl (lv_at hl 3 rfl) ?_
          refine lv_bipush (v := 64) hx hb d_MD_wellFree_27 rfl ?_
          refine lv_icmp_ge (tgt := 54) hx hb d_MD_wellFree_29 rfl (fun hc => ?_) (fun hc => ?_)
          · have hf := pu_br_pos hf hc
            exact lb_54 v_used x_1 x_2 H locs ls hP hD hS (lv_sub hl [0, 1, 2] rfl) hf
          have hf := pu_br_neg hf hc
          refine lv_aload_n hx hb d_MD_wellFree_32 rfl (lv_at hl 0 rfl) ?_
          refine gf_MD_7 (v := .ref q_now) hx hb hts hN hown hK hP 0 rfl rfl d_MD_wellFree_33 ?_
          refine lv_bipush (v := 64) hx hb d_MD_wellFree_36 rfl ?_
          refine lv_iload_n hx hb d_MD_wellFree_38 rfl (lv_at hl 2 rfl) ?_
          refine lv_imul hx hb d_MD_wellFree_39 ?_
          refine lv_iload_n hx hb d_MD_wellFree_40 rfl (lv_at hl 3 rfl) ?_
          refine lv_iadd hx hb d_MD_wellFree_41 ?_
          obtain ⟨hin, hf⟩ := pu_ck_some hf
          refine va_iald hx hb hK hP 1 0 rfl rfl hin d_MD_wellFree_42 ?_
          refine lv_if_eq (tgt := 48) hx hb d_MD_wellFree_43 rfl (fun hc => ?_) (fun hc => ?_)
          · have hf := pu_br_pos hf hc
            obtain ⟨t6, e_t6, hf⟩ := pu_nm_some hf
            refine lv_iinc (k := 3) (v := t6) hx hb d_MD_wellFree_48 hl rfl e_t6.symm (by decide) rfl (fun ls hl => ?_)
            have hl : lv_has ls 4 [(3, .int t6), (0, .ref q_this), (1, .int x_1), (2, .int x_2)] := hl
            refine lv_goto (tgt := 26) hx hb d_MD_wellFree_51 rfl ?_
            exact ih_26 t6 H locs ls hP hD hS (lv_sub hl [1, 2, 3, 0] rfl) hf
          have hf := pu_br_neg hf hc
          refine lv_iconst (v := 0) hx hb d_MD_wellFree_46 rfl ?_
          exact hret _ _ _ _ (0 : Int32) v_used d_MD_wellFree_47 (by decide) hP hD hS hf
      intro v_used x_1 x_2 H locs ls hP hD hS hl hf
      rw [q_MD_wellFree_10] at hf
      refine lv_iload_n hx hb d_MD_wellFree_10 rfl (lv_at hl 2 rfl) ?_
      refine lv_if_eq (tgt := 70) hx hb d_MD_wellFree_11 rfl (fun hc => ?_) (fun hc => ?_)
      · have hf := pu_br_pos hf hc
        exact lb_70 v_used x_1 H locs ls hP hD hS (lv_sub hl [0, 1] rfl) hf
      have hf := pu_br_neg hf hc
      refine lv_aload_n hx hb d_MD_wellFree_14 rfl (lv_at hl 0 rfl) ?_
      refine lv_iload_n hx hb d_MD_wellFree_15 rfl (lv_at hl 2 rfl) ?_
      obtain ⟨r2, w3, hc, hf⟩ := pu_b2_some hf
      refine cl_i (WC := [(q_this, .inr (8, [.ref q_now, .ref q_disk, .ref q_before, .int v_onDisk, .int v_head, .int v_headPages, .int v_records, .ref q_recordPage, .ref q_recordBytes, .int v_up, .int v_armed, .int v_columns, .ref q_isBlob, .ref q_integer, .ref q_size, .ref q_blobs, .int v_length, .ref q_record, .int v_kind, .int v_cells, .int v_last, .ref q_cellLength, .ref q_row, .int v_made, .ref q_cell, .int v_deep, .ref q_way, .ref q_turn, .int v_at, .int v_bad, .ref q_used])), (q_used, .inl (cZ, 25, .inl v_used))]) (WC2 := [(q_this, .inr (8, [.ref q_now, .ref q_disk, .ref q_before, .int v_onDisk, .int v_head, .int v_headPages, .int v_records, .ref q_recordPage, .ref q_recordBytes, .int v_up, .int v_armed, .int v_columns, .ref q_isBlob, .ref q_integer, .ref q_size, .ref q_blobs, .int v_length, .ref q_record, .int v_kind, .int v_cells, .int v_last, .ref q_cellLength, .ref q_row, .int v_made, .ref q_cell, .int v_deep, .ref q_way, .ref q_turn, .int v_at, .int v_bad, .ref q_used])), (q_used, .inl (cZ, 25, .inl w3))]) (WR := [(q_now, .inl (cI, 1600, .inl v_now))]) (WS2 := [(q_this, .inr (8, [.ref q_now, .ref q_disk, .ref q_before, .int v_onDisk, .int v_head, .int v_headPages, .int v_records, .ref q_recordPage, .ref q_recordBytes, .int v_up, .int v_armed, .int v_columns, .ref q_isBlob, .ref q_integer, .ref q_size, .ref q_blobs, .int v_length, .ref q_record, .int v_kind, .int v_cells, .int v_last, .ref q_cellLength, .ref q_row, .int v_made, .ref q_cell, .int v_deep, .ref q_way, .ref q_turn, .int v_at, .int v_bad, .ref q_used])), (q_now, .inl (cI, 1600, .inl v_now)), (q_used, .inl (cZ, 25, .inl w3))]) (pu_rv (cl := pu_cl) (pu_in12 _ (List.mem_of_getElem? (i := 48) rfl)) (pu_in12 _ (List.mem_of_getElem? (i := 49) rfl)) (pu_in14 _ (List.mem_of_getElem? (i := 41) rfl)) (pu_in0 _ (List.mem_of_getElem? (i := 10) rfl)) (pu_in12 _ (List.mem_of_getElem? (i := 50) rfl)) (ci := 8) rfl hd_MD_meet (by decide) ⟨rfl, rfl⟩ rfl rfl (Nat.le_of_ble_eq_true rfl) rfl (As := [.int x_2]) (rest := []) (WC := [(q_this, .inr (8, [.ref q_now, .ref q_disk, .ref q_before, .int v_onDisk, .int v_head, .int v_headPages, .int v_records, .ref q_recordPage, .ref q_recordBytes, .int v_up, .int v_armed, .int v_columns, .ref q_isBlob, .ref q_integer, .ref q_size, .ref q_blobs, .int v_length, .ref q_record, .int v_kind, .int v_cells, .int v_last, .ref q_cellLength, .ref q_row, .int v_made, .ref q_cell, .int v_deep, .ref q_way, .ref q_turn, .int v_at, .int v_bad, .ref q_used])), (q_used, .inl (cZ, 25, .inl v_used))]) hx hb hml hown hts hN hK hP hD (c_MD_meet l D cI cJ cB cZ H.size q_this q_now q_disk q_before q_recordPage q_recordBytes q_isBlob q_integer q_size q_blobs q_record q_cellLength q_row q_cell q_way q_turn q_used v_onDisk v_head v_headPages v_records v_up v_armed v_columns v_length v_kind v_cells v_last v_made v_deep v_at v_bad v_used x_2 r2 w3 hc) [0, 2] rfl rfl hl.1 d_MD_wellFree_16) hP hD hS hA [0, 2] [1] [1, 0, 2] rfl rfl rfl (by decide) rfl rfl (fun H locs hP hD hS => ?_)
      refine lv_if_ne (tgt := 24) hx hb d_MD_wellFree_19 rfl (fun hc => ?_) (fun hc => ?_)
      · have hf := pu_br_neg hf hc
        refine lv_iconst (v := 1) hx hb d_MD_wellFree_24 rfl ?_
        refine lv_istore_n hx hb d_MD_wellFree_25 rfl hl (by decide) rfl (fun ls hl => ?_)
        have hl : lv_has ls 4 [(3, .int (1 : Int32)), (0, .ref q_this), (1, .int x_1), (2, .int x_2)] := hl
        exact lp_26 w3 x_1 x_2 _ (1 : Int32) H locs ls hP hD hS (lv_sub hl [1, 2, 3, 0] rfl) hf
      have hf := pu_br_pos hf hc
      refine lv_iconst (v := 0) hx hb d_MD_wellFree_22 rfl ?_
      exact hret _ _ _ _ (0 : Int32) w3 d_MD_wellFree_23 (by decide) hP hD hS hf
  obtain ⟨H, hH⟩ : ∃ H, H = s.heap := ⟨_, rfl⟩
  obtain ⟨locs, hlocs⟩ : ∃ locs : List Loc, locs = [] := ⟨_, rfl⟩
  have hP : va_P D pu_cl [(q_this, .inr (8, [.ref q_now, .ref q_disk, .ref q_before, .int v_onDisk, .int v_head, .int v_headPages, .int v_records, .ref q_recordPage, .ref q_recordBytes, .int v_up, .int v_armed, .int v_columns, .ref q_isBlob, .ref q_integer, .ref q_size, .ref q_blobs, .int v_length, .ref q_record, .int v_kind, .int v_cells, .int v_last, .ref q_cellLength, .ref q_row, .int v_made, .ref q_cell, .int v_deep, .ref q_way, .ref q_turn, .int v_at, .int v_bad, .ref q_used])), (q_now, .inl (cI, 1600, .inl v_now)), (q_used, .inl (cZ, 25, .inl v_used))] H := by rw [hH]; exact hP
  have hS : va_S A s.heap H locs := by rw [hH, hlocs]; exact hS
  have goal : W p l e rm_MD_wellFree s m args below meth c H locs 0 0 Q (F0 m 0 ls []) := by
    clear hH hlocs
    refine lv_iconst (v := 0) hx hb d_MD_wellFree_0 rfl ?_
    refine lv_istore_n hx hb d_MD_wellFree_1 rfl hl (by decide) rfl (fun ls hl => ?_)
    have hl : lv_has ls 4 [(1, .int (0 : Int32)), (0, .ref q_this)] := hl
    refine lv_aload_n hx hb d_MD_wellFree_2 rfl (lv_at hl 1 rfl) ?_
    refine gf_MD_7 (v := .ref q_now) hx hb hts hN hown hK hP 0 rfl rfl d_MD_wellFree_3 ?_
    refine lv_bipush (v := 66) hx hb d_MD_wellFree_6 rfl ?_
    obtain ⟨hin, hf⟩ := pu_ck_some hf
    refine va_iald hx hb hK hP 1 0 rfl rfl hin d_MD_wellFree_8 ?_
    obtain ⟨t1, e_t1, hf⟩ := pu_nm_some hf
    refine pu_ti e_t1 ?_
    refine lv_istore_n hx hb d_MD_wellFree_9 rfl hl (by decide) rfl (fun ls hl => ?_)
    have hl : lv_has ls 4 [(2, .int t1), (1, .int (0 : Int32)), (0, .ref q_this)] := hl
    exact lp_10 _ v_used (0 : Int32) t1 H locs ls hP hD hS (lv_sub hl [2, 1, 0] rfl) hf
  rw [hH, hlocs] at goal
  exact goal
