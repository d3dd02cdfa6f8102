theorem d_M_arithmetic_266 : decode prog_14_method_71_code 266 = .ok (.iload 7, 2) := by decide +kernel
theorem d_M_arithmetic_268 : decode prog_14_method_71_code 268 = .ok (.ifCond .ne 9, 3) := by decide +kernel
theorem d_M_arithmetic_277 : decode prog_14_method_71_code 277 = .ok (.bipush 11, 2) := by decide +kernel
theorem d_M_arithmetic_279 : decode prog_14_method_71_code 279 = .ok (.goto 22, 3) := by decide +kernel
theorem d_M_arithmetic_301 : decode prog_14_method_71_code 301 = .ok (.ireturn, 1) := by decide +kernel
theorem d_M_arithmetic_271 : decode prog_14_method_71_code 271 = .ok (.iload 5, 2) := by decide +kernel
theorem d_M_arithmetic_273 : decode prog_14_method_71_code 273 = .ok (.iconst 1, 1) := by decide +kernel
theorem d_M_arithmetic_274 : decode prog_14_method_71_code 274 = .ok (.if_icmp .le 8, 3) := by decide +kernel
theorem d_M_arithmetic_282 : decode prog_14_method_71_code 282 = .ok (.aload_n 0, 1) := by decide +kernel
theorem d_M_arithmetic_283 : decode prog_14_method_71_code 283 = .ok (.iload 6, 2) := by decide +kernel
theorem d_M_arithmetic_285 : decode prog_14_method_71_code 285 = .ok (.iload 9, 2) := by decide +kernel
theorem d_M_arithmetic_287 : decode prog_14_method_71_code 287 = .ok (.iload 5, 2) := by decide +kernel
theorem d_M_arithmetic_289 : decode prog_14_method_71_code 289 = .ok (.iconst 1, 1) := by decide +kernel
theorem d_M_arithmetic_290 : decode prog_14_method_71_code 290 = .ok (.if_icmp .ne 7, 3) := by decide +kernel
theorem d_M_arithmetic_297 : decode prog_14_method_71_code 297 = .ok (.iconst 0, 1) := by decide +kernel
theorem d_M_arithmetic_298 : decode prog_14_method_71_code 298 = .ok (.invokevirtual 391, 3) := by decide +kernel
theorem u_2383 : Cond.methodLink "FilterGuardModel" 391 ⟨"FilterGuardModel", "pointers", "(IIZ)I"⟩ ∈ fg_g := fg_in (List.mem_of_getElem? (i := 2383) (by decide +kernel)) rfl
theorem u_2386 : Cond.code ⟨"FilterGuardModel", "pointers", "(IIZ)I"⟩ prog_14_method_72_code 6 (some .int) ∈ fg_g := fg_in (List.mem_of_getElem? (i := 2386) (by decide +kernel)) rfl
theorem u_2385 : Cond.instanceMethod ⟨"FilterGuardModel", "pointers", "(IIZ)I"⟩ ∈ fg_g := fg_in (List.mem_of_getElem? (i := 2385) (by decide +kernel)) rfl
theorem u_164 : Cond.selects "FilterGuardModel" ⟨"FilterGuardModel", "pointers", "(IIZ)I"⟩ ⟨"FilterGuardModel", "pointers", "(IIZ)I"⟩ ∈ fg_g := fg_in (List.mem_of_getElem? (i := 164) (by decide +kernel)) rfl
theorem d_M_arithmetic_293 : decode prog_14_method_71_code 293 = .ok (.iconst 1, 1) := by decide +kernel
theorem d_M_arithmetic_294 : decode prog_14_method_71_code 294 = .ok (.goto 4, 3) := by decide +kernel
theorem d_M_arithmetic_241 : decode prog_14_method_71_code 241 = .ok (.iload 9, 2) := by decide +kernel
theorem d_M_arithmetic_243 : decode prog_14_method_71_code 243 = .ok (.iload 7, 2) := by decide +kernel
theorem d_M_arithmetic_245 : decode prog_14_method_71_code 245 = .ok (.invokevirtual 381, 3) := by decide +kernel
theorem d_M_arithmetic_248 : decode prog_14_method_71_code 248 = .ok (.aload_n 0, 1) := by decide +kernel
theorem d_M_arithmetic_249 : decode prog_14_method_71_code 249 = .ok (.iload 6, 2) := by decide +kernel
theorem d_M_arithmetic_251 : decode prog_14_method_71_code 251 = .ok (.lconst 0, 1) := by decide +kernel
theorem d_M_arithmetic_252 : decode prog_14_method_71_code 252 = .ok (.invokevirtual 375, 3) := by decide +kernel
theorem d_M_arithmetic_255 : decode prog_14_method_71_code 255 = .ok (.aload_n 0, 1) := by decide +kernel
theorem d_M_arithmetic_256 : decode prog_14_method_71_code 256 = .ok (.sipush 30080, 3) := by decide +kernel
theorem d_M_arithmetic_259 : decode prog_14_method_71_code 259 = .ok (.iload 6, 2) := by decide +kernel
theorem d_M_arithmetic_261 : decode prog_14_method_71_code 261 = .ok (.invokevirtual 208, 3) := by decide +kernel
theorem d_M_arithmetic_264 : decode prog_14_method_71_code 264 = .ok (.iconst 0, 1) := by decide +kernel
theorem d_M_arithmetic_265 : decode prog_14_method_71_code 265 = .ok (.ireturn, 1) := by decide +kernel
theorem d_M_arithmetic_220 : decode prog_14_method_71_code 220 = .ok (.aload_n 0, 1) := by decide +kernel
theorem d_M_arithmetic_221 : decode prog_14_method_71_code 221 = .ok (.sipush 30080, 3) := by decide +kernel
theorem d_M_arithmetic_224 : decode prog_14_method_71_code 224 = .ok (.iload 5, 2) := by decide +kernel
theorem d_M_arithmetic_226 : decode prog_14_method_71_code 226 = .ok (.invokestatic 388, 3) := by decide +kernel
theorem u_2380 : Cond.methodLink "FilterGuardModel" 388 ⟨"FilterGuardModel", "operationOf", "(I)I"⟩ ∈ fg_g := fg_in (List.mem_of_getElem? (i := 2380) (by decide +kernel)) rfl
theorem u_2382 : Cond.code ⟨"FilterGuardModel", "operationOf", "(I)I"⟩ prog_14_method_69_code 1 (some .int) ∈ fg_g := fg_in (List.mem_of_getElem? (i := 2382) (by decide +kernel)) rfl
theorem u_2381 : Cond.static ⟨"FilterGuardModel", "operationOf", "(I)I"⟩ ∈ fg_g := fg_in (List.mem_of_getElem? (i := 2381) (by decide +kernel)) rfl
theorem d_M_arithmetic_229 : decode prog_14_method_71_code 229 = .ok (.iload 8, 2) := by decide +kernel
theorem d_M_arithmetic_231 : decode prog_14_method_71_code 231 = .ok (.ifCond .eq 8, 3) := by decide +kernel
theorem d_M_arithmetic_239 : decode prog_14_method_71_code 239 = .ok (.iload 6, 2) := by decide +kernel
theorem d_M_arithmetic_234 : decode prog_14_method_71_code 234 = .ok (.iload 9, 2) := by decide +kernel
theorem d_M_arithmetic_236 : decode prog_14_method_71_code 236 = .ok (.goto 5, 3) := by decide +kernel
theorem d_M_arithmetic_197 : decode prog_14_method_71_code 197 = .ok (.aload_n 0, 1) := by decide +kernel
theorem d_M_arithmetic_198 : decode prog_14_method_71_code 198 = .ok (.iload 9, 2) := by decide +kernel
theorem d_M_arithmetic_200 : decode prog_14_method_71_code 200 = .ok (.invokevirtual 378, 3) := by decide +kernel
theorem d_M_arithmetic_203 : decode prog_14_method_71_code 203 = .ok (.ifCond .eq 63, 3) := by decide +kernel
theorem d_M_arithmetic_206 : decode prog_14_method_71_code 206 = .ok (.iload 8, 2) := by decide +kernel
theorem d_M_arithmetic_208 : decode prog_14_method_71_code 208 = .ok (.ifCond .ne 12, 3) := by decide +kernel
theorem d_M_arithmetic_211 : decode prog_14_method_71_code 211 = .ok (.aload_n 0, 1) := by decide +kernel
theorem d_M_arithmetic_212 : decode prog_14_method_71_code 212 = .ok (.iload 6, 2) := by decide +kernel
theorem d_M_arithmetic_214 : decode prog_14_method_71_code 214 = .ok (.invokevirtual 378, 3) := by decide +kernel
theorem d_M_arithmetic_217 : decode prog_14_method_71_code 217 = .ok (.ifCond .eq 49, 3) := by decide +kernel
theorem d_M_arithmetic_130 : decode prog_14_method_71_code 130 = .ok (.iload 6, 2) := by decide +kernel
theorem d_M_arithmetic_132 : decode prog_14_method_71_code 132 = .ok (.sipush 30078, 3) := by decide +kernel
theorem d_M_arithmetic_135 : decode prog_14_method_71_code 135 = .ok (.iload 4, 2) := by decide +kernel
theorem d_M_arithmetic_137 : decode prog_14_method_71_code 137 = .ok (.bipush 7, 2) := by decide +kernel
theorem d_M_arithmetic_139 : decode prog_14_method_71_code 139 = .ok (.if_icmp .ne 12, 3) := by decide +kernel
theorem d_M_arithmetic_151 : decode prog_14_method_71_code 151 = .ok (.iconst 0, 1) := by decide +kernel
theorem d_M_arithmetic_152 : decode prog_14_method_71_code 152 = .ok (.invokevirtual 381, 3) := by decide +kernel
theorem d_M_arithmetic_155 : decode prog_14_method_71_code 155 = .ok (.iconst 0, 1) := by decide +kernel
theorem d_M_arithmetic_156 : decode prog_14_method_71_code 156 = .ok (.ireturn, 1) := by decide +kernel
theorem d_M_arithmetic_142 : decode prog_14_method_71_code 142 = .ok (.iload 7, 2) := by decide +kernel
theorem d_M_arithmetic_144 : decode prog_14_method_71_code 144 = .ok (.ifCond .eq 7, 3) := by decide +kernel
theorem d_M_arithmetic_147 : decode prog_14_method_71_code 147 = .ok (.iconst 1, 1) := by decide +kernel
theorem d_M_arithmetic_148 : decode prog_14_method_71_code 148 = .ok (.goto 4, 3) := by decide +kernel
theorem d_M_arithmetic_67 : decode prog_14_method_71_code 67 = .ok (.iload 4, 2) := by decide +kernel
theorem d_M_arithmetic_69 : decode prog_14_method_71_code 69 = .ok (.bipush 6, 2) := by decide +kernel
theorem d_M_arithmetic_71 : decode prog_14_method_71_code 71 = .ok (.if_icmp .eq 86, 3) := by decide +kernel
theorem d_M_arithmetic_157 : decode prog_14_method_71_code 157 = .ok (.aload_n 0, 1) := by decide +kernel
theorem d_M_arithmetic_158 : decode prog_14_method_71_code 158 = .ok (.lload_n 1, 1) := by decide +kernel
theorem d_M_arithmetic_159 : decode prog_14_method_71_code 159 = .ok (.invokevirtual 385, 3) := by decide +kernel
theorem u_2215 : Cond.methodLink "FilterGuardModel" 385 ⟨"FilterGuardModel", "sourceOf", "(J)I"⟩ ∈ fg_g := fg_in (List.mem_of_getElem? (i := 2215) (by decide +kernel)) rfl
theorem u_2218 : Cond.code ⟨"FilterGuardModel", "sourceOf", "(J)I"⟩ prog_14_method_70_code 3 (some .int) ∈ fg_g := fg_in (List.mem_of_getElem? (i := 2218) (by decide +kernel)) rfl
theorem u_2217 : Cond.instanceMethod ⟨"FilterGuardModel", "sourceOf", "(J)I"⟩ ∈ fg_g := fg_in (List.mem_of_getElem? (i := 2217) (by decide +kernel)) rfl
theorem u_128 : Cond.selects "FilterGuardModel" ⟨"FilterGuardModel", "sourceOf", "(J)I"⟩ ⟨"FilterGuardModel", "sourceOf", "(J)I"⟩ ∈ fg_g := fg_in (List.mem_of_getElem? (i := 128) (by decide +kernel)) rfl
theorem d_M_arithmetic_162 : decode prog_14_method_71_code 162 = .ok (.istore 9, 2) := by decide +kernel
theorem d_M_arithmetic_164 : decode prog_14_method_71_code 164 = .ok (.aload_n 0, 1) := by decide +kernel
theorem d_M_arithmetic_165 : decode prog_14_method_71_code 165 = .ok (.getfield 89, 3) := by decide +kernel
theorem d_M_arithmetic_168 : decode prog_14_method_71_code 168 = .ok (.iload 9, 2) := by decide +kernel
theorem d_M_arithmetic_170 : decode prog_14_method_71_code 170 = .ok (.baload, 1) := by decide +kernel
theorem d_M_arithmetic_171 : decode prog_14_method_71_code 171 = .ok (.ifCond .ne 6, 3) := by decide +kernel
theorem d_M_arithmetic_177 : decode prog_14_method_71_code 177 = .ok (.iload 8, 2) := by decide +kernel
theorem d_M_arithmetic_179 : decode prog_14_method_71_code 179 = .ok (.ifCond .eq 18, 3) := by decide +kernel
theorem d_M_arithmetic_182 : decode prog_14_method_71_code 182 = .ok (.iload 7, 2) := by decide +kernel
theorem d_M_arithmetic_184 : decode prog_14_method_71_code 184 = .ok (.ifCond .ne 13, 3) := by decide +kernel
theorem d_M_arithmetic_187 : decode prog_14_method_71_code 187 = .ok (.aload_n 0, 1) := by decide +kernel
theorem d_M_arithmetic_188 : decode prog_14_method_71_code 188 = .ok (.iload 9, 2) := by decide +kernel
theorem d_M_arithmetic_190 : decode prog_14_method_71_code 190 = .ok (.iload 6, 2) := by decide +kernel
theorem d_M_arithmetic_192 : decode prog_14_method_71_code 192 = .ok (.invokevirtual 360, 3) := by decide +kernel
theorem d_M_arithmetic_195 : decode prog_14_method_71_code 195 = .ok (.iconst 0, 1) := by decide +kernel
theorem d_M_arithmetic_196 : decode prog_14_method_71_code 196 = .ok (.ireturn, 1) := by decide +kernel
theorem d_M_arithmetic_174 : decode prog_14_method_71_code 174 = .ok (.bipush 10, 2) := by decide +kernel
theorem d_M_arithmetic_176 : decode prog_14_method_71_code 176 = .ok (.ireturn, 1) := by decide +kernel
theorem d_M_arithmetic_74 : decode prog_14_method_71_code 74 = .ok (.aload_n 0, 1) := by decide +kernel
theorem d_M_arithmetic_75 : decode prog_14_method_71_code 75 = .ok (.iload 6, 2) := by decide +kernel
theorem d_M_arithmetic_77 : decode prog_14_method_71_code 77 = .ok (.invokevirtual 378, 3) := by decide +kernel
theorem d_M_arithmetic_80 : decode prog_14_method_71_code 80 = .ok (.ifCond .ne 6, 3) := by decide +kernel
theorem d_M_arithmetic_86 : decode prog_14_method_71_code 86 = .ok (.aload_n 0, 1) := by decide +kernel
theorem d_M_arithmetic_87 : decode prog_14_method_71_code 87 = .ok (.sipush 30078, 3) := by decide +kernel
theorem d_M_arithmetic_90 : decode prog_14_method_71_code 90 = .ok (.lload_n 1, 1) := by decide +kernel
theorem d_M_arithmetic_91 : decode prog_14_method_71_code 91 = .ok (.invokestatic 324, 3) := by decide +kernel
theorem d_M_arithmetic_94 : decode prog_14_method_71_code 94 = .ok (.bipush 8, 2) := by decide +kernel
theorem d_M_arithmetic_96 : decode prog_14_method_71_code 96 = .ok (.idiv, 1) := by decide +kernel
theorem d_M_arithmetic_97 : decode prog_14_method_71_code 97 = .ok (.i2l, 1) := by decide +kernel
theorem d_M_arithmetic_98 : decode prog_14_method_71_code 98 = .ok (.invokevirtual 375, 3) := by decide +kernel
theorem d_M_arithmetic_101 : decode prog_14_method_71_code 101 = .ok (.aload_n 0, 1) := by decide +kernel
theorem d_M_arithmetic_102 : decode prog_14_method_71_code 102 = .ok (.iload 6, 2) := by decide +kernel
theorem d_M_arithmetic_104 : decode prog_14_method_71_code 104 = .ok (.iload 4, 2) := by decide +kernel
theorem d_M_arithmetic_106 : decode prog_14_method_71_code 106 = .ok (.bipush 7, 2) := by decide +kernel
theorem d_M_arithmetic_108 : decode prog_14_method_71_code 108 = .ok (.if_icmp .ne 8, 3) := by decide +kernel
theorem d_M_arithmetic_116 : decode prog_14_method_71_code 116 = .ok (.iload 4, 2) := by decide +kernel
theorem d_M_arithmetic_118 : decode prog_14_method_71_code 118 = .ok (.bipush 8, 2) := by decide +kernel
theorem d_M_arithmetic_120 : decode prog_14_method_71_code 120 = .ok (.if_icmp .ne 8, 3) := by decide +kernel
theorem d_M_arithmetic_128 : decode prog_14_method_71_code 128 = .ok (.bipush 13, 2) := by decide +kernel
theorem d_M_arithmetic_123 : decode prog_14_method_71_code 123 = .ok (.bipush 14, 2) := by decide +kernel
theorem d_M_arithmetic_125 : decode prog_14_method_71_code 125 = .ok (.goto 5, 3) := by decide +kernel
theorem d_M_arithmetic_111 : decode prog_14_method_71_code 111 = .ok (.bipush 11, 2) := by decide +kernel
theorem d_M_arithmetic_113 : decode prog_14_method_71_code 113 = .ok (.goto 17, 3) := by decide +kernel
theorem d_M_arithmetic_83 : decode prog_14_method_71_code 83 = .ok (.bipush 11, 2) := by decide +kernel
theorem d_M_arithmetic_85 : decode prog_14_method_71_code 85 = .ok (.ireturn, 1) := by decide +kernel
theorem d_M_arithmetic_47 : decode prog_14_method_71_code 47 = .ok (.istore 8, 2) := by decide +kernel
theorem d_M_arithmetic_49 : decode prog_14_method_71_code 49 = .ok (.iload 8, 2) := by decide +kernel
theorem d_M_arithmetic_51 : decode prog_14_method_71_code 51 = .ok (.ifCond .ne 16, 3) := by decide +kernel
theorem d_M_arithmetic_54 : decode prog_14_method_71_code 54 = .ok (.aload_n 0, 1) := by decide +kernel
theorem d_M_arithmetic_55 : decode prog_14_method_71_code 55 = .ok (.getfield 89, 3) := by decide +kernel
theorem d_M_arithmetic_58 : decode prog_14_method_71_code 58 = .ok (.iload 6, 2) := by decide +kernel
theorem d_M_arithmetic_60 : decode prog_14_method_71_code 60 = .ok (.baload, 1) := by decide +kernel
theorem d_M_arithmetic_61 : decode prog_14_method_71_code 61 = .ok (.ifCond .ne 6, 3) := by decide +kernel
theorem d_M_arithmetic_64 : decode prog_14_method_71_code 64 = .ok (.bipush 10, 2) := by decide +kernel
theorem d_M_arithmetic_66 : decode prog_14_method_71_code 66 = .ok (.ireturn, 1) := by decide +kernel
theorem d_M_arithmetic_46 : decode prog_14_method_71_code 46 = .ok (.iconst 0, 1) := by decide +kernel
theorem d_M_arithmetic_0 : decode prog_14_method_71_code 0 = .ok (.lload_n 1, 1) := by decide +kernel
theorem d_M_arithmetic_1 : decode prog_14_method_71_code 1 = .ok (.invokestatic 308, 3) := by decide +kernel
theorem d_M_arithmetic_4 : decode prog_14_method_71_code 4 = .ok (.istore_n 3, 1) := by decide +kernel
theorem d_M_arithmetic_5 : decode prog_14_method_71_code 5 = .ok (.iload_n 3, 1) := by decide +kernel
theorem d_M_arithmetic_6 : decode prog_14_method_71_code 6 = .ok (.invokestatic 312, 3) := by decide +kernel
theorem d_M_arithmetic_9 : decode prog_14_method_71_code 9 = .ok (.istore 4, 2) := by decide +kernel
theorem d_M_arithmetic_11 : decode prog_14_method_71_code 11 = .ok (.iload_n 3, 1) := by decide +kernel
theorem d_M_arithmetic_12 : decode prog_14_method_71_code 12 = .ok (.iconst 4, 1) := by decide +kernel
theorem d_M_arithmetic_13 : decode prog_14_method_71_code 13 = .ok (.ishr, 1) := by decide +kernel
theorem d_M_arithmetic_14 : decode prog_14_method_71_code 14 = .ok (.istore 5, 2) := by decide +kernel
theorem d_M_arithmetic_16 : decode prog_14_method_71_code 16 = .ok (.lload_n 1, 1) := by decide +kernel
theorem d_M_arithmetic_17 : decode prog_14_method_71_code 17 = .ok (.invokestatic 315, 3) := by decide +kernel
theorem d_M_arithmetic_20 : decode prog_14_method_71_code 20 = .ok (.istore 6, 2) := by decide +kernel
theorem d_M_arithmetic_22 : decode prog_14_method_71_code 22 = .ok (.iload_n 3, 1) := by decide +kernel
theorem d_M_arithmetic_23 : decode prog_14_method_71_code 23 = .ok (.invokestatic 339, 3) := by decide +kernel
theorem d_M_arithmetic_26 : decode prog_14_method_71_code 26 = .ok (.istore 7, 2) := by decide +kernel
theorem d_M_arithmetic_28 : decode prog_14_method_71_code 28 = .ok (.iload 4, 2) := by decide +kernel
theorem d_M_arithmetic_30 : decode prog_14_method_71_code 30 = .ok (.bipush 6, 2) := by decide +kernel
theorem d_M_arithmetic_32 : decode prog_14_method_71_code 32 = .ok (.if_icmp .ne 14, 3) := by decide +kernel
theorem d_M_arithmetic_35 : decode prog_14_method_71_code 35 = .ok (.iload 5, 2) := by decide +kernel
theorem d_M_arithmetic_37 : decode prog_14_method_71_code 37 = .ok (.bipush 11, 2) := by decide +kernel
theorem d_M_arithmetic_39 : decode prog_14_method_71_code 39 = .ok (.if_icmp .ne 7, 3) := by decide +kernel
theorem d_M_arithmetic_42 : decode prog_14_method_71_code 42 = .ok (.iconst 1, 1) := by decide +kernel
theorem d_M_arithmetic_43 : decode prog_14_method_71_code 43 = .ok (.goto 4, 3) := by decide +kernel
abbrev y_M_arithmetic : MethodName := ⟨"FilterGuardModel", "arithmetic", "(J)I"⟩
def f_M_arithmetic_b266 (j0 : Nat) (M : me_M) (y5 : Int32) (y6 : Int32) (y7 : Int32) (y9 : Int32) : Option (me_M × Int32) := (if y7 = 0 then (if y5 ≤ 1 then (if y5 = 1 then b2 (f_M_pointers M j0 y6 y9 (1 : Int32)) (fun (M6 : me_M) (r7 : Int32) => some (M6, r7)) else b2 (f_M_pointers M j0 y6 y9 (0 : Int32)) (fun (M4 : me_M) (r5 : Int32) => some (M4, r5))) else some (M, (11 : Int32))) else some (M, (11 : Int32)))
def f_M_arithmetic_b241 (j0 : Nat) (M : me_M) (y6 : Int32) (y7 : Int32) (y9 : Int32) (s0 : Int32) (s1 : Int32) (s2 : Int32) (s3 : Nat) : Option (me_M × Int32) := bd (f_M_operate M s3 s2 s1 s0 y9 y7) (fun (M8 : me_M) => bd (f_M_toNumber M8 j0 y6 (0 : Int64)) (fun (M9 : me_M) => bd (f_M_copyNumber M9 j0 (30080 : Int32) y6) (fun (M10 : me_M) => some (M10, (0 : Int32)))))
def f_M_arithmetic_b220 (j0 : Nat) (M : me_M) (y5 : Int32) (y6 : Int32) (y7 : Int32) (y8 : Int32) (y9 : Int32) : Option (me_M × Int32) := bd (f_M_operationOf y5) (fun (r11 : Int32) => (if y8 = 0 then f_M_arithmetic_b241 j0 M y6 y7 y9 y6 r11 (30080 : Int32) j0 else f_M_arithmetic_b241 j0 M y6 y7 y9 y9 r11 (30080 : Int32) j0))
def f_M_arithmetic_b197 (j0 : Nat) (M : me_M) (y5 : Int32) (y6 : Int32) (y7 : Int32) (y8 : Int32) (y9 : Int32) : Option (me_M × Int32) := b2 (f_M_isNumber M j0 y9) (fun (M13 : me_M) (r14 : Int32) => (if r14 = 0 then f_M_arithmetic_b266 j0 M13 y5 y6 y7 y9 else (if y8 = 0 then b2 (f_M_isNumber M13 j0 y6) (fun (M17 : me_M) (r18 : Int32) => (if r18 = 0 then f_M_arithmetic_b266 j0 M17 y5 y6 y7 y9 else f_M_arithmetic_b220 j0 M17 y5 y6 y7 y8 y9)) else f_M_arithmetic_b220 j0 M13 y5 y6 y7 y8 y9)))
def f_M_arithmetic_b130 (M : me_M) (y4 : Int32) (y6 : Int32) (y7 : Int32) (s0 : Int32) (s1 : Int32) (s2 : Nat) : Option (me_M × Int32) := (if y4 = 7 then (if y7 = 0 then bd (f_M_operate M s2 s1 s0 y6 (30078 : Int32) (0 : Int32)) (fun (M23 : me_M) => some (M23, (0 : Int32))) else bd (f_M_operate M s2 s1 s0 y6 (30078 : Int32) (1 : Int32)) (fun (M24 : me_M) => some (M24, (0 : Int32)))) else bd (f_M_operate M s2 s1 s0 y6 (30078 : Int32) (0 : Int32)) (fun (M21 : me_M) => some (M21, (0 : Int32))))
def f_M_arithmetic_b67 (j0 : Nat) (x1 : Int64) (M : me_M) (y4 : Int32) (y5 : Int32) (y6 : Int32) (y7 : Int32) (y8 : Int32) : Option (me_M × Int32) := (if y4 = 6 then b2 (f_M_sourceOf M j0 x1) (fun (M26 : me_M) (r27 : Int32) => bd (mR M 1 j0 47) (fun (j28 : Nat) => gd (¬ (r27 < 0 ∨ mZ M 14 j28 ≤ r27.toNatClampNeg)) ((if (mI M26 14 j28 r27.toNatClampNeg) = 0 then some (M26, (10 : Int32)) else (if y8 = 0 then f_M_arithmetic_b197 j0 M26 y5 y6 y7 y8 r27 else (if y7 = 0 then bd (f_M_copyItem M26 j0 r27 y6) (fun (M34 : me_M) => some (M34, (0 : Int32))) else f_M_arithmetic_b197 j0 M26 y5 y6 y7 y8 r27)))))) else b2 (f_M_isNumber M j0 y6) (fun (M35 : me_M) (r36 : Int32) => (if r36 = 0 then some (M35, (11 : Int32)) else bd (f_M_fieldOf x1) (fun (r38 : Int32) => bd (f_M_toNumber M35 j0 (30078 : Int32) ((r38 / 8).toInt64)) (fun (M39 : me_M) => (if y4 = 7 then f_M_arithmetic_b130 M39 y4 y6 y7 (11 : Int32) y6 j0 else (if y4 = 8 then f_M_arithmetic_b130 M39 y4 y6 y7 (14 : Int32) y6 j0 else f_M_arithmetic_b130 M39 y4 y6 y7 (13 : Int32) y6 j0)))))))
def f_M_arithmetic_b47 (j0 : Nat) (x1 : Int64) (M : me_M) (y4 : Int32) (y5 : Int32) (y6 : Int32) (y7 : Int32) (s0 : Int32) : Option (me_M × Int32) := (if s0 = 0 then bd (mR M 1 j0 47) (fun (j43 : Nat) => gd (¬ (y6 < 0 ∨ mZ M 14 j43 ≤ y6.toNatClampNeg)) ((if (mI M 14 j43 y6.toNatClampNeg) = 0 then some (M, (10 : Int32)) else f_M_arithmetic_b67 j0 x1 M y4 y5 y6 y7 s0))) else f_M_arithmetic_b67 j0 x1 M y4 y5 y6 y7 s0)
def f_M_arithmetic_b46 (j0 : Nat) (x1 : Int64) (M : me_M) (y4 : Int32) (y5 : Int32) (y6 : Int32) (y7 : Int32) : Option (me_M × Int32) := f_M_arithmetic_b47 j0 x1 M y4 y5 y6 y7 (0 : Int32)
def f_M_arithmetic (M0 : me_M) (j0 : Nat) (x1 : Int64) : Option (me_M × Int32) := bd (f_M_opOf x1) (fun (r47 : Int32) => bd (f_M_instruction r47) (fun (r48 : Int32) => st (jishr r47 4) (fun (v49 : Int32) => bd (f_M_toOf x1) (fun (r50 : Int32) => bd (f_M_isNarrow r47) (fun (r51 : Int32) => (if r48 = 6 then (if v49 = 11 then f_M_arithmetic_b47 j0 x1 M0 r48 v49 r50 r51 (1 : Int32) else f_M_arithmetic_b46 j0 x1 M0 r48 v49 r50 r51) else f_M_arithmetic_b46 j0 x1 M0 r48 v49 r50 r51))))))
def rm_M_arithmetic : Room := { frames := 9, cells := 0, slots := 0, locals := 218 }
abbrev q_M_arithmetic (D : va_G) (ad : Nat → Nat → Nat) (ca : Nat → ClassId) (N : Nat → Nat) (M0 MZ : me_M) (RZ : Int32) (A : Nat → Prop) : Array Value → Jvm.State → Outcome → Jvm.State → Prop := va_Qi (fun r (_ : Unit) => r = RZ ∧ me_wf N MZ ∧ me_kp M0 MZ) (fg_B D A (fun _ => me_W ad ca MZ) (fun _ => [])) A
set_option maxHeartbeats 4000000 in
set_option maxRecDepth 100000 in
theorem c_M_arithmetic (l : Launch) (D : va_G) (ad : Nat → Nat → Nat) (ca : Nat → ClassId) (N : Nat → Nat) (M0 MZ : me_M) (RZ : Int32) (j0 : Nat) (x1 : Int64) (h : f_M_arithmetic M0 j0 x1 = (some (MZ, RZ))) (hwf : me_wf N M0) (hj0 : j0 < N 1) (sz : Nat) : Met l y_M_arithmetic (fg_w y_M_arithmetic prog_14_method_71_code 10 (some .int)) rm_M_arithmetic (va_Pc [.ref (ad 1 j0), .long x1] (fz_P D (me_T ca) (me_W ad ca M0) sz)) (q_M_arithmetic D ad ca N M0 MZ RZ (va_A (me_W ad ca M0) sz)) rm_M_arithmetic.cells rm_M_arithmetic.slots (va_A (me_W ad ca M0) sz) := by
  refine fz_enter (fun A => q_M_arithmetic D ad ca N M0 MZ RZ A) (by decide +kernel) (Nat.le_of_ble_eq_true rfl) ?_
  intro p e s m below meth c ls A hx hb hml hown hts hr hlocks hin hP hK hD hS hA hX hl hz
  have hl : lv_has ls 10 [(0, .ref (ad 1 j0)), (1, .long x1)] := hl
  unfold f_M_arithmetic at h
  have hkp : me_kp M0 M0 := me_kp.rf
  have hkb := hkp
  have b_266 : ∀ (M : me_M) (y5 : Int32) (y6 : Int32) (y7 : Int32) (y9 : Int32) (H : Heap) (locs : List Loc) (ls : Array Slot), f_M_arithmetic_b266 j0 M y5 y6 y7 y9 = (some (MZ, RZ)) → (y7 = 1 ∨ y7 = 0) → me_wf N M → me_kp M0 M → va_P D classes (me_W ad ca M) H → va_D A (me_W ad ca M) → va_S A s.heap H locs → lv_has ls 10 [(0, .ref (ad 1 j0)), (5, .int y5), (6, .int y6), (7, .int y7), (9, .int y9)] → W p l e rm_M_arithmetic s m [.ref (ad 1 j0), .long x1].toArray below meth c H locs 0 0 (MQ below (q_M_arithmetic D ad ca N M0 MZ RZ A) [.ref (ad 1 j0), .long x1].toArray s rm_M_arithmetic.cells rm_M_arithmetic.slots A) (F0 m 266 ls []) := by
    intro M y5 y6 y7 y9 H locs ls h zy7 hwf hkp hP hD hS hl
    unfold f_M_arithmetic_b266 at h
    have hkb := hkp
    refine lv_iload hx hb d_M_arithmetic_266 (lv_at hl 3 rfl) ?_
    refine lv_if_ne (tgt := 277) hx hb d_M_arithmetic_268 (by decide) (fun c1 => ?_) (fun c1 => ?_)
    · have h := if_f c1 h
      refine lv_bipush (v := 11) hx hb d_M_arithmetic_277 (by decide) ?_
      refine lv_goto (tgt := 301) hx hb d_M_arithmetic_279 (by decide) ?_
      exact me_reti (me_kp M0) h hx hb hr hlocks hwf hkp hP hK hD hS d_M_arithmetic_301
    have h := if_t c1 h
    refine lv_iload hx hb d_M_arithmetic_271 (lv_at hl 1 rfl) ?_
    refine lv_iconst (v := 1) hx hb d_M_arithmetic_273 (by decide) ?_
    refine lv_icmp_le (tgt := 282) hx hb d_M_arithmetic_274 (by decide) (fun c2 => ?_) (fun c2 => ?_)
    · have h := if_t c2 h
      refine lv_aload_n hx hb d_M_arithmetic_282 rfl (lv_at hl 0 rfl) ?_
      refine lv_iload hx hb d_M_arithmetic_283 (lv_at hl 2 rfl) ?_
      refine lv_iload hx hb d_M_arithmetic_285 (lv_at hl 4 rfl) ?_
      refine lv_iload hx hb d_M_arithmetic_287 (lv_at hl 1 rfl) ?_
      refine lv_iconst (v := 1) hx hb d_M_arithmetic_289 (by decide) ?_
      refine lv_icmp_ne (tgt := 297) hx hb d_M_arithmetic_290 (by decide) (fun c3 => ?_) (fun c3 => ?_)
      · have h := if_f c3 h
        refine lv_iconst (v := 0) hx hb d_M_arithmetic_297 (by decide) ?_
        obtain ⟨M4, r5, eM4, h⟩ := b2_ob h
        refine me_theni0 (M1 := M4) (me_runV (C := "FilterGuardModel") (As := [.int y6, .int y9, .int 0]) (rest := []) ⟨hx, hb, hml, hown, hts⟩ (c_M_pointers l D ad ca N M M4 r5 j0 y6 y9 (0 : Int32) eM4 hwf hj0 (by decide) _) rfl (by show fg_nm y_M_pointers 3; decide +kernel) u_2383 u_2385 u_164 u_192 u_2386 ⟨Nat.le_of_ble_eq_true rfl, Nat.le_of_ble_eq_true rfl⟩ hX hz hK hP hD hwf hS hA hj0 (by decide) rfl rfl rfl hl.1 (Nat.le_of_ble_eq_true rfl) d_M_arithmetic_298 ⟨Nat.le_of_ble_eq_true rfl, Nat.le_of_ble_eq_true rfl⟩) hP hD hK hS hA rfl rfl (fun H locs hw hP hD hS => ?_)
        obtain ⟨hwf, hk9⟩ := hw
        have hkp := hkp.tr hk9
        exact me_reti (me_kp M0) h hx hb hr hlocks hwf hkp hP hK hD hS d_M_arithmetic_301
      have h := if_t c3 h
      refine lv_iconst (v := 1) hx hb d_M_arithmetic_293 (by decide) ?_
      refine lv_goto (tgt := 298) hx hb d_M_arithmetic_294 (by decide) ?_
      obtain ⟨M6, r7, eM6, h⟩ := b2_ob h
      refine me_theni0 (M1 := M6) (me_runV (C := "FilterGuardModel") (As := [.int y6, .int y9, .int 1]) (rest := []) ⟨hx, hb, hml, hown, hts⟩ (c_M_pointers l D ad ca N M M6 r7 j0 y6 y9 (1 : Int32) eM6 hwf hj0 (by decide) _) rfl (by show fg_nm y_M_pointers 3; decide +kernel) u_2383 u_2385 u_164 u_192 u_2386 ⟨Nat.le_of_ble_eq_true rfl, Nat.le_of_ble_eq_true rfl⟩ hX hz hK hP hD hwf hS hA hj0 (by decide) rfl rfl rfl hl.1 (Nat.le_of_ble_eq_true rfl) d_M_arithmetic_298 ⟨Nat.le_of_ble_eq_true rfl, Nat.le_of_ble_eq_true rfl⟩) hP hD hK hS hA rfl rfl (fun H locs hw hP hD hS => ?_)
      obtain ⟨hwf, hk9⟩ := hw
      have hkp := hkp.tr hk9
      exact me_reti (me_kp M0) h hx hb hr hlocks hwf hkp hP hK hD hS d_M_arithmetic_301
    have h := if_f c2 h
    refine lv_bipush (v := 11) hx hb d_M_arithmetic_277 (by decide) ?_
    refine lv_goto (tgt := 301) hx hb d_M_arithmetic_279 (by decide) ?_
    exact me_reti (me_kp M0) h hx hb hr hlocks hwf hkp hP hK hD hS d_M_arithmetic_301
  have b_241 : ∀ (M : me_M) (y6 : Int32) (y7 : Int32) (y9 : Int32) (s0 : Int32) (s1 : Int32) (s2 : Int32) (s3 : Nat) (H : Heap) (locs : List Loc) (ls : Array Slot), f_M_arithmetic_b241 j0 M y6 y7 y9 s0 s1 s2 s3 = (some (MZ, RZ)) → (y7 = 1 ∨ y7 = 0) → (s3 < N 1) → me_wf N M → me_kp M0 M → va_P D classes (me_W ad ca M) H → va_D A (me_W ad ca M) → va_S A s.heap H locs → lv_has ls 10 [(0, .ref (ad 1 j0)), (6, .int y6), (7, .int y7), (9, .int y9)] → W p l e rm_M_arithmetic s m [.ref (ad 1 j0), .long x1].toArray below meth c H locs 0 0 (MQ below (q_M_arithmetic D ad ca N M0 MZ RZ A) [.ref (ad 1 j0), .long x1].toArray s rm_M_arithmetic.cells rm_M_arithmetic.slots A) (F0 m 241 ls [.int s0, .int s1, .int s2, .ref (ad 1 s3)]) := by
    intro M y6 y7 y9 s0 s1 s2 s3 H locs ls h zy7 hs3 hwf hkp hP hD hS hl
    unfold f_M_arithmetic_b241 at h
    have hkb := hkp
    refine lv_iload hx hb d_M_arithmetic_241 (lv_at hl 3 rfl) ?_
    refine lv_iload hx hb d_M_arithmetic_243 (lv_at hl 2 rfl) ?_
    obtain ⟨M8, eM8, h⟩ := bd_ob h
    refine me_thenv0 (M1 := M8) (me_runV (C := "FilterGuardModel") (As := [.int s2, .int s1, .int s0, .int y9, .int y7]) (rest := []) ⟨hx, hb, hml, hown, hts⟩ (c_M_operate l D ad ca N M M8 s3 s2 s1 s0 y9 y7 eM8 hwf hs3 zy7 _) rfl (by show fg_nm y_M_operate 5; decide +kernel) u_2320 u_2322 u_151 u_192 u_2323 ⟨Nat.le_of_ble_eq_true rfl, Nat.le_of_ble_eq_true rfl⟩ hX hz hK hP hD hwf hS hA hs3 (by decide) rfl rfl rfl hl.1 (Nat.le_of_ble_eq_true rfl) d_M_arithmetic_245 ⟨Nat.le_of_ble_eq_true rfl, Nat.le_of_ble_eq_true rfl⟩) hP hD hK hS hA rfl rfl (fun H locs hw hP hD hS => ?_)
    obtain ⟨hwf, hk9⟩ := hw
    have hkp := hkp.tr hk9
    refine lv_aload_n hx hb d_M_arithmetic_248 rfl (lv_at hl 0 rfl) ?_
    refine lv_iload hx hb d_M_arithmetic_249 (lv_at hl 1 rfl) ?_
    refine lv_lconst (v := 0) hx hb d_M_arithmetic_251 (by decide) ?_
    obtain ⟨M9, eM9, h⟩ := bd_ob h
    refine me_thenv0 (M1 := M9) (me_runV (C := "FilterGuardModel") (As := [.int y6, .long 0]) (rest := []) ⟨hx, hb, hml, hown, hts⟩ (c_M_toNumber l D ad ca N M8 M9 j0 y6 (0 : Int64) eM9 hwf hj0 _) rfl (by show fg_nm y_M_toNumber 2; decide +kernel) u_2112 u_2114 u_107 u_192 u_2115 ⟨Nat.le_of_ble_eq_true rfl, Nat.le_of_ble_eq_true rfl⟩ hX hz hK hP hD hwf hS hA hj0 (by decide) rfl rfl rfl hl.1 (Nat.le_of_ble_eq_true rfl) d_M_arithmetic_252 ⟨Nat.le_of_ble_eq_true rfl, Nat.le_of_ble_eq_true rfl⟩) hP hD hK hS hA rfl rfl (fun H locs hw hP hD hS => ?_)
    obtain ⟨hwf, hk9⟩ := hw
    have hkp := hkp.tr hk9
    refine lv_aload_n hx hb d_M_arithmetic_255 rfl (lv_at hl 0 rfl) ?_
    refine lv_sipush (v := 30080) hx hb d_M_arithmetic_256 (by decide) ?_
    refine lv_iload hx hb d_M_arithmetic_259 (lv_at hl 1 rfl) ?_
    obtain ⟨M10, eM10, h⟩ := bd_ob h
    refine me_thenv0 (M1 := M10) (me_runV (C := "FilterGuardModel") (As := [.int 30080, .int y6]) (rest := []) ⟨hx, hb, hml, hown, hts⟩ (c_M_copyNumber l D ad ca N M9 M10 j0 (30080 : Int32) y6 eM10 hwf hj0 _) rfl (by show fg_nm y_M_copyNumber 2; decide +kernel) u_2096 u_2098 u_103 u_192 u_2099 ⟨Nat.le_of_ble_eq_true rfl, Nat.le_of_ble_eq_true rfl⟩ hX hz hK hP hD hwf hS hA hj0 (by decide) rfl rfl rfl hl.1 (Nat.le_of_ble_eq_true rfl) d_M_arithmetic_261 ⟨Nat.le_of_ble_eq_true rfl, Nat.le_of_ble_eq_true rfl⟩) hP hD hK hS hA rfl rfl (fun H locs hw hP hD hS => ?_)
    obtain ⟨hwf, hk9⟩ := hw
    have hkp := hkp.tr hk9
    refine lv_iconst (v := 0) hx hb d_M_arithmetic_264 (by decide) ?_
    exact me_reti (me_kp M0) h hx hb hr hlocks hwf hkp hP hK hD hS d_M_arithmetic_265
  have b_220 : ∀ (M : me_M) (y5 : Int32) (y6 : Int32) (y7 : Int32) (y8 : Int32) (y9 : Int32) (H : Heap) (locs : List Loc) (ls : Array Slot), f_M_arithmetic_b220 j0 M y5 y6 y7 y8 y9 = (some (MZ, RZ)) → (y7 = 1 ∨ y7 = 0) → (y8 = 1 ∨ y8 = 0) → me_wf N M → me_kp M0 M → va_P D classes (me_W ad ca M) H → va_D A (me_W ad ca M) → va_S A s.heap H locs → lv_has ls 10 [(0, .ref (ad 1 j0)), (5, .int y5), (6, .int y6), (7, .int y7), (8, .int y8), (9, .int y9)] → W p l e rm_M_arithmetic s m [.ref (ad 1 j0), .long x1].toArray below meth c H locs 0 0 (MQ below (q_M_arithmetic D ad ca N M0 MZ RZ A) [.ref (ad 1 j0), .long x1].toArray s rm_M_arithmetic.cells rm_M_arithmetic.slots A) (F0 m 220 ls []) := by
    intro M y5 y6 y7 y8 y9 H locs ls h zy7 zy8 hwf hkp hP hD hS hl
    unfold f_M_arithmetic_b220 at h
    have hkb := hkp
    refine lv_aload_n hx hb d_M_arithmetic_220 rfl (lv_at hl 0 rfl) ?_
    refine lv_sipush (v := 30080) hx hb d_M_arithmetic_221 (by decide) ?_
    refine lv_iload hx hb d_M_arithmetic_224 (lv_at hl 1 rfl) ?_
    obtain ⟨r11, er11, h⟩ := bd_ob h
    refine me_pani' (r0 := r11) (fg_runS (wc := []) (tc := []) (A2 := A) (As := [.int y5]) (rest := [.int 30080, .ref (ad 1 j0)]) ⟨hx, hb, hml, hown, hts⟩ (c_M_operationOf l D r11 y5 er11 _) (by show fg_nm y_M_operationOf 1; decide +kernel) u_2380 u_2381 u_192 u_2382 ⟨Nat.le_of_ble_eq_true rfl, Nat.le_of_ble_eq_true rfl⟩ hX me_P0 (hK.sub (tys' := []) [] rfl) me_D0 rfl hl.1 (Nat.le_of_ble_eq_true rfl) d_M_arithmetic_226 ⟨Nat.le_of_ble_eq_true rfl, Nat.le_of_ble_eq_true rfl⟩) hP hD hK hS hA rfl rfl (fun H locs hw hP hD hS => ?_)
    refine lv_iload hx hb d_M_arithmetic_229 (lv_at hl 4 rfl) ?_
    refine lv_if_eq (tgt := 239) hx hb d_M_arithmetic_231 (by decide) (fun c12 => ?_) (fun c12 => ?_)
    · have h := if_t c12 h
      refine lv_iload hx hb d_M_arithmetic_239 (lv_at hl 2 rfl) ?_
      exact b_241 M y6 y7 y9 y6 r11 (30080 : Int32) j0 _ _ _ h zy7 hj0 hwf hkp hP hD hS (lv_sub hl [0, 2, 3, 5] rfl)
    have h := if_f c12 h
    refine lv_iload hx hb d_M_arithmetic_234 (lv_at hl 5 rfl) ?_
    refine lv_goto (tgt := 241) hx hb d_M_arithmetic_236 (by decide) ?_
    exact b_241 M y6 y7 y9 y9 r11 (30080 : Int32) j0 _ _ _ h zy7 hj0 hwf hkp hP hD hS (lv_sub hl [0, 2, 3, 5] rfl)
  have b_197 : ∀ (M : me_M) (y5 : Int32) (y6 : Int32) (y7 : Int32) (y8 : Int32) (y9 : Int32) (H : Heap) (locs : List Loc) (ls : Array Slot), f_M_arithmetic_b197 j0 M y5 y6 y7 y8 y9 = (some (MZ, RZ)) → (y7 = 1 ∨ y7 = 0) → (y8 = 1 ∨ y8 = 0) → me_wf N M → me_kp M0 M → va_P D classes (me_W ad ca M) H → va_D A (me_W ad ca M) → va_S A s.heap H locs → lv_has ls 10 [(0, .ref (ad 1 j0)), (5, .int y5), (6, .int y6), (7, .int y7), (8, .int y8), (9, .int y9)] → W p l e rm_M_arithmetic s m [.ref (ad 1 j0), .long x1].toArray below meth c H locs 0 0 (MQ below (q_M_arithmetic D ad ca N M0 MZ RZ A) [.ref (ad 1 j0), .long x1].toArray s rm_M_arithmetic.cells rm_M_arithmetic.slots A) (F0 m 197 ls []) := by
    intro M y5 y6 y7 y8 y9 H locs ls h zy7 zy8 hwf hkp hP hD hS hl
    unfold f_M_arithmetic_b197 at h
    have hkb := hkp
    refine lv_aload_n hx hb d_M_arithmetic_197 rfl (lv_at hl 0 rfl) ?_
    refine lv_iload hx hb d_M_arithmetic_198 (lv_at hl 5 rfl) ?_
    obtain ⟨M13, r14, eM13, h⟩ := b2_ob h
    refine me_theni0 (M1 := M13) (me_runV (C := "FilterGuardModel") (As := [.int y9]) (rest := []) ⟨hx, hb, hml, hown, hts⟩ (c_M_isNumber l D ad ca N M M13 r14 j0 y9 eM13 hwf hj0 _) rfl (by show fg_nm y_M_isNumber 1; decide +kernel) u_2187 u_2189 u_121 u_192 u_2190 ⟨Nat.le_of_ble_eq_true rfl, Nat.le_of_ble_eq_true rfl⟩ hX hz hK hP hD hwf hS hA hj0 (by decide) rfl rfl rfl hl.1 (Nat.le_of_ble_eq_true rfl) d_M_arithmetic_200 ⟨Nat.le_of_ble_eq_true rfl, Nat.le_of_ble_eq_true rfl⟩) hP hD hK hS hA rfl rfl (fun H locs hw hP hD hS => ?_)
    obtain ⟨hwf, hk9, zr14⟩ := hw
    have hkp := hkp.tr hk9
    refine lv_if_eq (tgt := 266) hx hb d_M_arithmetic_203 (by decide) (fun c15 => ?_) (fun c15 => ?_)
    · have h := if_t c15 h
      exact b_266 M13 y5 y6 y7 y9 _ _ _ h zy7 hwf hkp hP hD hS (lv_sub hl [0, 1, 2, 3, 5] rfl)
    have h := if_f c15 h
    refine lv_iload hx hb d_M_arithmetic_206 (lv_at hl 4 rfl) ?_
    refine lv_if_ne (tgt := 220) hx hb d_M_arithmetic_208 (by decide) (fun c16 => ?_) (fun c16 => ?_)
    · have h := if_f c16 h
      exact b_220 M13 y5 y6 y7 y8 y9 _ _ _ h zy7 zy8 hwf hkp hP hD hS (lv_sub hl [0, 1, 2, 3, 4, 5] rfl)
    have h := if_t c16 h
    refine lv_aload_n hx hb d_M_arithmetic_211 rfl (lv_at hl 0 rfl) ?_
    refine lv_iload hx hb d_M_arithmetic_212 (lv_at hl 2 rfl) ?_
    obtain ⟨M17, r18, eM17, h⟩ := b2_ob h
    refine me_theni0 (M1 := M17) (me_runV (C := "FilterGuardModel") (As := [.int y6]) (rest := []) ⟨hx, hb, hml, hown, hts⟩ (c_M_isNumber l D ad ca N M13 M17 r18 j0 y6 eM17 hwf hj0 _) rfl (by show fg_nm y_M_isNumber 1; decide +kernel) u_2187 u_2189 u_121 u_192 u_2190 ⟨Nat.le_of_ble_eq_true rfl, Nat.le_of_ble_eq_true rfl⟩ hX hz hK hP hD hwf hS hA hj0 (by decide) rfl rfl rfl hl.1 (Nat.le_of_ble_eq_true rfl) d_M_arithmetic_214 ⟨Nat.le_of_ble_eq_true rfl, Nat.le_of_ble_eq_true rfl⟩) hP hD hK hS hA rfl rfl (fun H locs hw hP hD hS => ?_)
    obtain ⟨hwf, hk9, zr18⟩ := hw
    have hkp := hkp.tr hk9
    refine lv_if_eq (tgt := 266) hx hb d_M_arithmetic_217 (by decide) (fun c19 => ?_) (fun c19 => ?_)
    · have h := if_t c19 h
      exact b_266 M17 y5 y6 y7 y9 _ _ _ h zy7 hwf hkp hP hD hS (lv_sub hl [0, 1, 2, 3, 5] rfl)
    have h := if_f c19 h
    exact b_220 M17 y5 y6 y7 y8 y9 _ _ _ h zy7 zy8 hwf hkp hP hD hS (lv_sub hl [0, 1, 2, 3, 4, 5] rfl)
  have b_130 : ∀ (M : me_M) (y4 : Int32) (y6 : Int32) (y7 : Int32) (s0 : Int32) (s1 : Int32) (s2 : Nat) (H : Heap) (locs : List Loc) (ls : Array Slot), f_M_arithmetic_b130 M y4 y6 y7 s0 s1 s2 = (some (MZ, RZ)) → (y7 = 1 ∨ y7 = 0) → (s2 < N 1) → me_wf N M → me_kp M0 M → va_P D classes (me_W ad ca M) H → va_D A (me_W ad ca M) → va_S A s.heap H locs → lv_has ls 10 [(4, .int y4), (6, .int y6), (7, .int y7)] → W p l e rm_M_arithmetic s m [.ref (ad 1 j0), .long x1].toArray below meth c H locs 0 0 (MQ below (q_M_arithmetic D ad ca N M0 MZ RZ A) [.ref (ad 1 j0), .long x1].toArray s rm_M_arithmetic.cells rm_M_arithmetic.slots A) (F0 m 130 ls [.int s0, .int s1, .ref (ad 1 s2)]) := by
    intro M y4 y6 y7 s0 s1 s2 H locs ls h zy7 hs2 hwf hkp hP hD hS hl
    unfold f_M_arithmetic_b130 at h
    have hkb := hkp
    refine lv_iload hx hb d_M_arithmetic_130 (lv_at hl 1 rfl) ?_
    refine lv_sipush (v := 30078) hx hb d_M_arithmetic_132 (by decide) ?_
    refine lv_iload hx hb d_M_arithmetic_135 (lv_at hl 0 rfl) ?_
    refine lv_bipush (v := 7) hx hb d_M_arithmetic_137 (by decide) ?_
    refine lv_icmp_ne (tgt := 151) hx hb d_M_arithmetic_139 (by decide) (fun c20 => ?_) (fun c20 => ?_)
    · have h := if_f c20 h
      refine lv_iconst (v := 0) hx hb d_M_arithmetic_151 (by decide) ?_
      obtain ⟨M21, eM21, h⟩ := bd_ob h
      refine me_thenv0 (M1 := M21) (me_runV (C := "FilterGuardModel") (As := [.int s1, .int s0, .int y6, .int 30078, .int 0]) (rest := []) ⟨hx, hb, hml, hown, hts⟩ (c_M_operate l D ad ca N M M21 s2 s1 s0 y6 (30078 : Int32) (0 : Int32) eM21 hwf hs2 (by decide) _) rfl (by show fg_nm y_M_operate 5; decide +kernel) u_2320 u_2322 u_151 u_192 u_2323 ⟨Nat.le_of_ble_eq_true rfl, Nat.le_of_ble_eq_true rfl⟩ hX hz hK hP hD hwf hS hA hs2 (by decide) rfl rfl rfl hl.1 (Nat.le_of_ble_eq_true rfl) d_M_arithmetic_152 ⟨Nat.le_of_ble_eq_true rfl, Nat.le_of_ble_eq_true rfl⟩) hP hD hK hS hA rfl rfl (fun H locs hw hP hD hS => ?_)
      obtain ⟨hwf, hk9⟩ := hw
      have hkp := hkp.tr hk9
      refine lv_iconst (v := 0) hx hb d_M_arithmetic_155 (by decide) ?_
      exact me_reti (me_kp M0) h hx hb hr hlocks hwf hkp hP hK hD hS d_M_arithmetic_156
    have h := if_t c20 h
    refine lv_iload hx hb d_M_arithmetic_142 (lv_at hl 2 rfl) ?_
    refine lv_if_eq (tgt := 151) hx hb d_M_arithmetic_144 (by decide) (fun c22 => ?_) (fun c22 => ?_)
    · have h := if_t c22 h
      refine lv_iconst (v := 0) hx hb d_M_arithmetic_151 (by decide) ?_
      obtain ⟨M23, eM23, h⟩ := bd_ob h
      refine me_thenv0 (M1 := M23) (me_runV (C := "FilterGuardModel") (As := [.int s1, .int s0, .int y6, .int 30078, .int 0]) (rest := []) ⟨hx, hb, hml, hown, hts⟩ (c_M_operate l D ad ca N M M23 s2 s1 s0 y6 (30078 : Int32) (0 : Int32) eM23 hwf hs2 (by decide) _) rfl (by show fg_nm y_M_operate 5; decide +kernel) u_2320 u_2322 u_151 u_192 u_2323 ⟨Nat.le_of_ble_eq_true rfl, Nat.le_of_ble_eq_true rfl⟩ hX hz hK hP hD hwf hS hA hs2 (by decide) rfl rfl rfl hl.1 (Nat.le_of_ble_eq_true rfl) d_M_arithmetic_152 ⟨Nat.le_of_ble_eq_true rfl, Nat.le_of_ble_eq_true rfl⟩) hP hD hK hS hA rfl rfl (fun H locs hw hP hD hS => ?_)
      obtain ⟨hwf, hk9⟩ := hw
      have hkp := hkp.tr hk9
      refine lv_iconst (v := 0) hx hb d_M_arithmetic_155 (by decide) ?_
      exact me_reti (me_kp M0) h hx hb hr hlocks hwf hkp hP hK hD hS d_M_arithmetic_156
    have h := if_f c22 h
    refine lv_iconst (v := 1) hx hb d_M_arithmetic_147 (by decide) ?_
    refine lv_goto (tgt := 152) hx hb d_M_arithmetic_148 (by decide) ?_
    obtain ⟨M24, eM24, h⟩ := bd_ob h
    refine me_thenv0 (M1 := M24) (me_runV (C := "FilterGuardModel") (As := [.int s1, .int s0, .int y6, .int 30078, .int 1]) (rest := []) ⟨hx, hb, hml, hown, hts⟩ (c_M_operate l D ad ca N M M24 s2 s1 s0 y6 (30078 : Int32) (1 : Int32) eM24 hwf hs2 (by decide) _) rfl (by show fg_nm y_M_operate 5; decide +kernel) u_2320 u_2322 u_151 u_192 u_2323 ⟨Nat.le_of_ble_eq_true rfl, Nat.le_of_ble_eq_true rfl⟩ hX hz hK hP hD hwf hS hA hs2 (by decide) rfl rfl rfl hl.1 (Nat.le_of_ble_eq_true rfl) d_M_arithmetic_152 ⟨Nat.le_of_ble_eq_true rfl, Nat.le_of_ble_eq_true rfl⟩) hP hD hK hS hA rfl rfl (fun H locs hw hP hD hS => ?_)
    obtain ⟨hwf, hk9⟩ := hw
    have hkp := hkp.tr hk9
    refine lv_iconst (v := 0) hx hb d_M_arithmetic_155 (by decide) ?_
    exact me_reti (me_kp M0) h hx hb hr hlocks hwf hkp hP hK hD hS d_M_arithmetic_156
  have b_67 : ∀ (M : me_M) (y4 : Int32) (y5 : Int32) (y6 : Int32) (y7 : Int32) (y8 : Int32) (H : Heap) (locs : List Loc) (ls : Array Slot), f_M_arithmetic_b67 j0 x1 M y4 y5 y6 y7 y8 = (some (MZ, RZ)) → (y7 = 1 ∨ y7 = 0) → (y8 = 1 ∨ y8 = 0) → me_wf N M → me_kp M0 M → va_P D classes (me_W ad ca M) H → va_D A (me_W ad ca M) → va_S A s.heap H locs → lv_has ls 10 [(0, .ref (ad 1 j0)), (1, .long x1), (4, .int y4), (5, .int y5), (6, .int y6), (7, .int y7), (8, .int y8)] → W p l e rm_M_arithmetic s m [.ref (ad 1 j0), .long x1].toArray below meth c H locs 0 0 (MQ below (q_M_arithmetic D ad ca N M0 MZ RZ A) [.ref (ad 1 j0), .long x1].toArray s rm_M_arithmetic.cells rm_M_arithmetic.slots A) (F0 m 67 ls []) := by
    intro M y4 y5 y6 y7 y8 H locs ls h zy7 zy8 hwf hkp hP hD hS hl
    unfold f_M_arithmetic_b67 at h
    have hkb := hkp
    refine lv_iload hx hb d_M_arithmetic_67 (lv_at hl 2 rfl) ?_
    refine lv_bipush (v := 6) hx hb d_M_arithmetic_69 (by decide) ?_
    refine lv_icmp_eq (tgt := 157) hx hb d_M_arithmetic_71 (by decide) (fun c25 => ?_) (fun c25 => ?_)
    · have h := if_t c25 h
      refine lv_aload_n hx hb d_M_arithmetic_157 rfl (lv_at hl 0 rfl) ?_
      refine lv_lload_n hx hb d_M_arithmetic_158 rfl (lv_at hl 1 rfl) ?_
      obtain ⟨M26, r27, eM26, h⟩ := b2_ob h
      refine me_theni0 (M1 := M26) (me_runV (C := "FilterGuardModel") (As := [.long x1]) (rest := []) ⟨hx, hb, hml, hown, hts⟩ (c_M_sourceOf l D ad ca N M M26 r27 j0 x1 eM26 hwf hj0 _) rfl (by show fg_nm y_M_sourceOf 1; decide +kernel) u_2215 u_2217 u_128 u_192 u_2218 ⟨Nat.le_of_ble_eq_true rfl, Nat.le_of_ble_eq_true rfl⟩ hX hz hK hP hD hwf hS hA hj0 (by decide) rfl rfl rfl hl.1 (Nat.le_of_ble_eq_true rfl) d_M_arithmetic_159 ⟨Nat.le_of_ble_eq_true rfl, Nat.le_of_ble_eq_true rfl⟩) hP hD hK hS hA rfl rfl (fun H locs hw hP hD hS => ?_)
      obtain ⟨hwf, hk9⟩ := hw
      have hkp := hkp.tr hk9
      refine lv_istore (lv' := [(9, .int r27), (0, .ref (ad 1 j0)), (1, .long x1), (4, .int y4), (5, .int y5), (6, .int y6), (7, .int y7), (8, .int y8)]) hx hb d_M_arithmetic_162 hl (by decide) rfl (fun ls hl => ?_)
      refine lv_aload_n hx hb d_M_arithmetic_164 rfl (lv_at hl 1 rfl) ?_
      refine g_M_47 hx hb hts hown hK hP hwf hj0 (hts _ u_1788) d_M_arithmetic_165 ?_
      obtain ⟨j28, e29, h⟩ := bd_ob h
      have hj28 : j28 < N 14 := (hwf.2.1 1 j0 47 _ (kp_r hkb hkp e29) (by decide) hj0)
      refine me_opt (j := j28) (kp_r hkb hkp e29) ?_
      refine lv_iload hx hb d_M_arithmetic_168 (lv_at hl 0 rfl) ?_
      obtain ⟨g30, h⟩ := gd_ob h
      refine me_bald hx hb hK hP hwf hj28 (kp_z hkb.z hkp.z g30) d_M_arithmetic_170 ?_
      refine lv_if_ne (tgt := 177) hx hb d_M_arithmetic_171 (by decide) (fun c31 => ?_) (fun c31 => ?_)
      · have h := if_f c31 h
        refine lv_iload hx hb d_M_arithmetic_177 (lv_at hl 7 rfl) ?_
        refine lv_if_eq (tgt := 197) hx hb d_M_arithmetic_179 (by decide) (fun c32 => ?_) (fun c32 => ?_)
        · have h := if_t c32 h
          exact b_197 M26 y5 y6 y7 y8 r27 _ _ _ h zy7 zy8 hwf hkp hP hD hS (lv_sub hl [1, 4, 5, 6, 7, 0] rfl)
        have h := if_f c32 h
        refine lv_iload hx hb d_M_arithmetic_182 (lv_at hl 6 rfl) ?_
        refine lv_if_ne (tgt := 197) hx hb d_M_arithmetic_184 (by decide) (fun c33 => ?_) (fun c33 => ?_)
        · have h := if_f c33 h
          exact b_197 M26 y5 y6 y7 y8 r27 _ _ _ h zy7 zy8 hwf hkp hP hD hS (lv_sub hl [1, 4, 5, 6, 7, 0] rfl)
        have h := if_t c33 h
        refine lv_aload_n hx hb d_M_arithmetic_187 rfl (lv_at hl 1 rfl) ?_
        refine lv_iload hx hb d_M_arithmetic_188 (lv_at hl 0 rfl) ?_
        refine lv_iload hx hb d_M_arithmetic_190 (lv_at hl 5 rfl) ?_
        obtain ⟨M34, eM34, h⟩ := bd_ob h
        refine me_thenv0 (M1 := M34) (me_runV (C := "FilterGuardModel") (As := [.int r27, .int y6]) (rest := []) ⟨hx, hb, hml, hown, hts⟩ (c_M_copyItem l D ad ca N M26 M34 j0 r27 y6 eM34 hwf hj0 _) rfl (by show fg_nm y_M_copyItem 2; decide +kernel) u_2092 u_2094 u_102 u_192 u_2095 ⟨Nat.le_of_ble_eq_true rfl, Nat.le_of_ble_eq_true rfl⟩ hX hz hK hP hD hwf hS hA hj0 (by decide) rfl rfl rfl hl.1 (Nat.le_of_ble_eq_true rfl) d_M_arithmetic_192 ⟨Nat.le_of_ble_eq_true rfl, Nat.le_of_ble_eq_true rfl⟩) hP hD hK hS hA rfl rfl (fun H locs hw hP hD hS => ?_)
        obtain ⟨hwf, hk9⟩ := hw
        have hkp := hkp.tr hk9
        refine lv_iconst (v := 0) hx hb d_M_arithmetic_195 (by decide) ?_
        exact me_reti (me_kp M0) h hx hb hr hlocks hwf hkp hP hK hD hS d_M_arithmetic_196
      have h := if_t c31 h
      refine lv_bipush (v := 10) hx hb d_M_arithmetic_174 (by decide) ?_
      exact me_reti (me_kp M0) h hx hb hr hlocks hwf hkp hP hK hD hS d_M_arithmetic_176
    have h := if_f c25 h
    refine lv_aload_n hx hb d_M_arithmetic_74 rfl (lv_at hl 0 rfl) ?_
    refine lv_iload hx hb d_M_arithmetic_75 (lv_at hl 4 rfl) ?_
    obtain ⟨M35, r36, eM35, h⟩ := b2_ob h
    refine me_theni0 (M1 := M35) (me_runV (C := "FilterGuardModel") (As := [.int y6]) (rest := []) ⟨hx, hb, hml, hown, hts⟩ (c_M_isNumber l D ad ca N M M35 r36 j0 y6 eM35 hwf hj0 _) rfl (by show fg_nm y_M_isNumber 1; decide +kernel) u_2187 u_2189 u_121 u_192 u_2190 ⟨Nat.le_of_ble_eq_true rfl, Nat.le_of_ble_eq_true rfl⟩ hX hz hK hP hD hwf hS hA hj0 (by decide) rfl rfl rfl hl.1 (Nat.le_of_ble_eq_true rfl) d_M_arithmetic_77 ⟨Nat.le_of_ble_eq_true rfl, Nat.le_of_ble_eq_true rfl⟩) hP hD hK hS hA rfl rfl (fun H locs hw hP hD hS => ?_)
    obtain ⟨hwf, hk9, zr36⟩ := hw
    have hkp := hkp.tr hk9
    refine lv_if_ne (tgt := 86) hx hb d_M_arithmetic_80 (by decide) (fun c37 => ?_) (fun c37 => ?_)
    · have h := if_f c37 h
      refine lv_aload_n hx hb d_M_arithmetic_86 rfl (lv_at hl 0 rfl) ?_
      refine lv_sipush (v := 30078) hx hb d_M_arithmetic_87 (by decide) ?_
      refine lv_lload_n hx hb d_M_arithmetic_90 rfl (lv_at hl 1 rfl) ?_
      obtain ⟨r38, er38, h⟩ := bd_ob h
      refine me_pani' (r0 := r38) (fg_runS (wc := []) (tc := []) (A2 := A) (As := [.long x1]) (rest := [.int 30078, .ref (ad 1 j0)]) ⟨hx, hb, hml, hown, hts⟩ (c_M_fieldOf l D r38 x1 er38 _) (by show fg_nm y_M_fieldOf 1; decide +kernel) u_2016 u_2017 u_192 u_2018 ⟨Nat.le_of_ble_eq_true rfl, Nat.le_of_ble_eq_true rfl⟩ hX me_P0 (hK.sub (tys' := []) [] rfl) me_D0 rfl hl.1 (Nat.le_of_ble_eq_true rfl) d_M_arithmetic_91 ⟨Nat.le_of_ble_eq_true rfl, Nat.le_of_ble_eq_true rfl⟩) hP hD hK hS hA rfl rfl (fun H locs hw hP hD hS => ?_)
      refine lv_bipush (v := 8) hx hb d_M_arithmetic_94 (by decide) ?_
      refine lv_idiv hx hb d_M_arithmetic_96 (by decide) ?_
      refine lv_i2l (v := (r38 / 8).toInt64) hx hb d_M_arithmetic_97 rfl ?_
      obtain ⟨M39, eM39, h⟩ := bd_ob h
      refine me_thenv0 (M1 := M39) (me_runV (C := "FilterGuardModel") (As := [.int 30078, .long ((r38 / 8).toInt64)]) (rest := []) ⟨hx, hb, hml, hown, hts⟩ (c_M_toNumber l D ad ca N M35 M39 j0 (30078 : Int32) ((r38 / 8).toInt64) eM39 hwf hj0 _) rfl (by show fg_nm y_M_toNumber 2; decide +kernel) u_2112 u_2114 u_107 u_192 u_2115 ⟨Nat.le_of_ble_eq_true rfl, Nat.le_of_ble_eq_true rfl⟩ hX hz hK hP hD hwf hS hA hj0 (by decide) rfl rfl rfl hl.1 (Nat.le_of_ble_eq_true rfl) d_M_arithmetic_98 ⟨Nat.le_of_ble_eq_true rfl, Nat.le_of_ble_eq_true rfl⟩) hP hD hK hS hA rfl rfl (fun H locs hw hP hD hS => ?_)
      obtain ⟨hwf, hk9⟩ := hw
      have hkp := hkp.tr hk9
      refine lv_aload_n hx hb d_M_arithmetic_101 rfl (lv_at hl 0 rfl) ?_
      refine lv_iload hx hb d_M_arithmetic_102 (lv_at hl 4 rfl) ?_
      refine lv_iload hx hb d_M_arithmetic_104 (lv_at hl 2 rfl) ?_
      refine lv_bipush (v := 7) hx hb d_M_arithmetic_106 (by decide) ?_
      refine lv_icmp_ne (tgt := 116) hx hb d_M_arithmetic_108 (by decide) (fun c40 => ?_) (fun c40 => ?_)
      · have h := if_f c40 h
        refine lv_iload hx hb d_M_arithmetic_116 (lv_at hl 2 rfl) ?_
        refine lv_bipush (v := 8) hx hb d_M_arithmetic_118 (by decide) ?_
        refine lv_icmp_ne (tgt := 128) hx hb d_M_arithmetic_120 (by decide) (fun c41 => ?_) (fun c41 => ?_)
        · have h := if_f c41 h
          refine lv_bipush (v := 13) hx hb d_M_arithmetic_128 (by decide) ?_
          exact b_130 M39 y4 y6 y7 (13 : Int32) y6 j0 _ _ _ h zy7 hj0 hwf hkp hP hD hS (lv_sub hl [2, 4, 5] rfl)
        have h := if_t c41 h
        refine lv_bipush (v := 14) hx hb d_M_arithmetic_123 (by decide) ?_
        refine lv_goto (tgt := 130) hx hb d_M_arithmetic_125 (by decide) ?_
        exact b_130 M39 y4 y6 y7 (14 : Int32) y6 j0 _ _ _ h zy7 hj0 hwf hkp hP hD hS (lv_sub hl [2, 4, 5] rfl)
      have h := if_t c40 h
      refine lv_bipush (v := 11) hx hb d_M_arithmetic_111 (by decide) ?_
      refine lv_goto (tgt := 130) hx hb d_M_arithmetic_113 (by decide) ?_
      exact b_130 M39 y4 y6 y7 (11 : Int32) y6 j0 _ _ _ h zy7 hj0 hwf hkp hP hD hS (lv_sub hl [2, 4, 5] rfl)
    have h := if_t c37 h
    refine lv_bipush (v := 11) hx hb d_M_arithmetic_83 (by decide) ?_
    exact me_reti (me_kp M0) h hx hb hr hlocks hwf hkp hP hK hD hS d_M_arithmetic_85
  have b_47 : ∀ (M : me_M) (y4 : Int32) (y5 : Int32) (y6 : Int32) (y7 : Int32) (s0 : Int32) (H : Heap) (locs : List Loc) (ls : Array Slot), f_M_arithmetic_b47 j0 x1 M y4 y5 y6 y7 s0 = (some (MZ, RZ)) → (y7 = 1 ∨ y7 = 0) → (s0 = 1 ∨ s0 = 0) → me_wf N M → me_kp M0 M → va_P D classes (me_W ad ca M) H → va_D A (me_W ad ca M) → va_S A s.heap H locs → lv_has ls 10 [(0, .ref (ad 1 j0)), (1, .long x1), (4, .int y4), (5, .int y5), (6, .int y6), (7, .int y7)] → W p l e rm_M_arithmetic s m [.ref (ad 1 j0), .long x1].toArray below meth c H locs 0 0 (MQ below (q_M_arithmetic D ad ca N M0 MZ RZ A) [.ref (ad 1 j0), .long x1].toArray s rm_M_arithmetic.cells rm_M_arithmetic.slots A) (F0 m 47 ls [.int s0]) := by
    intro M y4 y5 y6 y7 s0 H locs ls h zy7 zs0 hwf hkp hP hD hS hl
    unfold f_M_arithmetic_b47 at h
    have hkb := hkp
    refine lv_istore (lv' := [(8, .int s0), (0, .ref (ad 1 j0)), (1, .long x1), (4, .int y4), (5, .int y5), (6, .int y6), (7, .int y7)]) hx hb d_M_arithmetic_47 hl (by decide) rfl (fun ls hl => ?_)
    refine lv_iload hx hb d_M_arithmetic_49 (lv_at hl 0 rfl) ?_
    refine lv_if_ne (tgt := 67) hx hb d_M_arithmetic_51 (by decide) (fun c42 => ?_) (fun c42 => ?_)
    · have h := if_f c42 h
      exact b_67 M y4 y5 y6 y7 s0 _ _ _ h zy7 zs0 hwf hkp hP hD hS (lv_sub hl [1, 2, 3, 4, 5, 6, 0] rfl)
    have h := if_t c42 h
    refine lv_aload_n hx hb d_M_arithmetic_54 rfl (lv_at hl 1 rfl) ?_
    refine g_M_47 hx hb hts hown hK hP hwf hj0 (hts _ u_1788) d_M_arithmetic_55 ?_
    obtain ⟨j43, e44, h⟩ := bd_ob h
    have hj43 : j43 < N 14 := (hwf.2.1 1 j0 47 _ e44 (by decide) hj0)
    refine me_opt (j := j43) e44 ?_
    refine lv_iload hx hb d_M_arithmetic_58 (lv_at hl 5 rfl) ?_
    obtain ⟨g45, h⟩ := gd_ob h
    refine me_bald hx hb hK hP hwf hj43 g45 d_M_arithmetic_60 ?_
    refine lv_if_ne (tgt := 67) hx hb d_M_arithmetic_61 (by decide) (fun c46 => ?_) (fun c46 => ?_)
    · have h := if_f c46 h
      exact b_67 M y4 y5 y6 y7 s0 _ _ _ h zy7 zs0 hwf hkp hP hD hS (lv_sub hl [1, 2, 3, 4, 5, 6, 0] rfl)
    have h := if_t c46 h
    refine lv_bipush (v := 10) hx hb d_M_arithmetic_64 (by decide) ?_
    exact me_reti (me_kp M0) h hx hb hr hlocks hwf hkp hP hK hD hS d_M_arithmetic_66
  have b_46 : ∀ (M : me_M) (y4 : Int32) (y5 : Int32) (y6 : Int32) (y7 : Int32) (H : Heap) (locs : List Loc) (ls : Array Slot), f_M_arithmetic_b46 j0 x1 M y4 y5 y6 y7 = (some (MZ, RZ)) → (y7 = 1 ∨ y7 = 0) → me_wf N M → me_kp M0 M → va_P D classes (me_W ad ca M) H → va_D A (me_W ad ca M) → va_S A s.heap H locs → lv_has ls 10 [(0, .ref (ad 1 j0)), (1, .long x1), (4, .int y4), (5, .int y5), (6, .int y6), (7, .int y7)] → W p l e rm_M_arithmetic s m [.ref (ad 1 j0), .long x1].toArray below meth c H locs 0 0 (MQ below (q_M_arithmetic D ad ca N M0 MZ RZ A) [.ref (ad 1 j0), .long x1].toArray s rm_M_arithmetic.cells rm_M_arithmetic.slots A) (F0 m 46 ls []) := by
    intro M y4 y5 y6 y7 H locs ls h zy7 hwf hkp hP hD hS hl
    unfold f_M_arithmetic_b46 at h
    have hkb := hkp
    refine lv_iconst (v := 0) hx hb d_M_arithmetic_46 (by decide) ?_
    exact b_47 M y4 y5 y6 y7 (0 : Int32) _ _ _ h zy7 (by decide) hwf hkp hP hD hS (lv_sub hl [0, 1, 2, 3, 4, 5] rfl)
  refine lv_lload_n hx hb d_M_arithmetic_0 rfl (lv_at hl 1 rfl) ?_
  obtain ⟨r47, er47, h⟩ := bd_ob h
  refine me_pani' (r0 := r47) (fg_runS (wc := []) (tc := []) (A2 := A) (As := [.long x1]) (rest := []) ⟨hx, hb, hml, hown, hts⟩ (c_M_opOf l D r47 x1 er47 _) (by show fg_nm y_M_opOf 1; decide +kernel) u_1997 u_1998 u_192 u_1999 ⟨Nat.le_of_ble_eq_true rfl, Nat.le_of_ble_eq_true rfl⟩ hX me_P0 (hK.sub (tys' := []) [] rfl) me_D0 rfl hl.1 (Nat.le_of_ble_eq_true rfl) d_M_arithmetic_1 ⟨Nat.le_of_ble_eq_true rfl, Nat.le_of_ble_eq_true rfl⟩) hP hD hK hS hA rfl rfl (fun H locs hw hP hD hS => ?_)
  refine lv_istore_n (lv' := [(3, .int r47), (0, .ref (ad 1 j0)), (1, .long x1)]) hx hb d_M_arithmetic_4 rfl hl (by decide) rfl (fun ls hl => ?_)
  refine lv_iload_n hx hb d_M_arithmetic_5 rfl (lv_at hl 0 rfl) ?_
  obtain ⟨r48, er48, h⟩ := bd_ob h
  refine me_pani' (r0 := r48) (fg_runS (wc := []) (tc := []) (A2 := A) (As := [.int r47]) (rest := []) ⟨hx, hb, hml, hown, hts⟩ (c_M_instruction l D r48 r47 er48 _) (by show fg_nm y_M_instruction 1; decide +kernel) u_2000 u_2001 u_192 u_2002 ⟨Nat.le_of_ble_eq_true rfl, Nat.le_of_ble_eq_true rfl⟩ hX me_P0 (hK.sub (tys' := []) [] rfl) me_D0 rfl hl.1 (Nat.le_of_ble_eq_true rfl) d_M_arithmetic_6 ⟨Nat.le_of_ble_eq_true rfl, Nat.le_of_ble_eq_true rfl⟩) hP hD hK hS hA rfl rfl (fun H locs hw hP hD hS => ?_)
  refine lv_istore (lv' := [(4, .int r48), (3, .int r47), (0, .ref (ad 1 j0)), (1, .long x1)]) hx hb d_M_arithmetic_9 hl (by decide) rfl (fun ls hl => ?_)
  refine lv_iload_n hx hb d_M_arithmetic_11 rfl (lv_at hl 1 rfl) ?_
  refine lv_iconst (v := 4) hx hb d_M_arithmetic_12 (by decide) ?_
  refine lv_ishr hx hb d_M_arithmetic_13 ?_
  refine fg_topi (y := jishr r47 4) rfl ?_
  obtain ⟨v49, ev49, h⟩ := st_ob h
  refine fg_topi (y := v49) ev49.symm ?_
  refine lv_istore (lv' := [(5, .int v49), (4, .int r48), (3, .int r47), (0, .ref (ad 1 j0)), (1, .long x1)]) hx hb d_M_arithmetic_14 hl (by decide) rfl (fun ls hl => ?_)
  refine lv_lload_n hx hb d_M_arithmetic_16 rfl (lv_at hl 4 rfl) ?_
  obtain ⟨r50, er50, h⟩ := bd_ob h
  refine me_pani' (r0 := r50) (fg_runS (wc := []) (tc := []) (A2 := A) (As := [.long x1]) (rest := []) ⟨hx, hb, hml, hown, hts⟩ (c_M_toOf l D r50 x1 er50 _) (by show fg_nm y_M_toOf 1; decide +kernel) u_2006 u_2007 u_192 u_2008 ⟨Nat.le_of_ble_eq_true rfl, Nat.le_of_ble_eq_true rfl⟩ hX me_P0 (hK.sub (tys' := []) [] rfl) me_D0 rfl hl.1 (Nat.le_of_ble_eq_true rfl) d_M_arithmetic_17 ⟨Nat.le_of_ble_eq_true rfl, Nat.le_of_ble_eq_true rfl⟩) hP hD hK hS hA rfl rfl (fun H locs hw hP hD hS => ?_)
  refine lv_istore (lv' := [(6, .int r50), (5, .int v49), (4, .int r48), (3, .int r47), (0, .ref (ad 1 j0)), (1, .long x1)]) hx hb d_M_arithmetic_20 hl (by decide) rfl (fun ls hl => ?_)
  refine lv_iload_n hx hb d_M_arithmetic_22 rfl (lv_at hl 3 rfl) ?_
  obtain ⟨r51, er51, h⟩ := bd_ob h
  refine me_pani' (r0 := r51) (fg_runS (wc := []) (tc := []) (A2 := A) (As := [.int r47]) (rest := []) ⟨hx, hb, hml, hown, hts⟩ (c_M_isNarrow l D r51 r47 er51 _) (by show fg_nm y_M_isNarrow 1; decide +kernel) u_2026 u_2027 u_192 u_2028 ⟨Nat.le_of_ble_eq_true rfl, Nat.le_of_ble_eq_true rfl⟩ hX me_P0 (hK.sub (tys' := []) [] rfl) me_D0 rfl hl.1 (Nat.le_of_ble_eq_true rfl) d_M_arithmetic_23 ⟨Nat.le_of_ble_eq_true rfl, Nat.le_of_ble_eq_true rfl⟩) hP hD hK hS hA rfl rfl (fun H locs hw hP hD hS => ?_)
  have zr51 := hw
  refine lv_istore (lv' := [(7, .int r51), (6, .int r50), (5, .int v49), (4, .int r48), (3, .int r47), (0, .ref (ad 1 j0)), (1, .long x1)]) hx hb d_M_arithmetic_26 hl (by decide) rfl (fun ls hl => ?_)
  refine lv_iload hx hb d_M_arithmetic_28 (lv_at hl 3 rfl) ?_
  refine lv_bipush (v := 6) hx hb d_M_arithmetic_30 (by decide) ?_
  refine lv_icmp_ne (tgt := 46) hx hb d_M_arithmetic_32 (by decide) (fun c52 => ?_) (fun c52 => ?_)
  · have h := if_f c52 h
    exact b_46 M0 r48 v49 r50 r51 _ _ _ h zr51 hwf hkp hP hD hS (lv_sub hl [5, 6, 3, 2, 1, 0] rfl)
  have h := if_t c52 h
  refine lv_iload hx hb d_M_arithmetic_35 (lv_at hl 2 rfl) ?_
  refine lv_bipush (v := 11) hx hb d_M_arithmetic_37 (by decide) ?_
  refine lv_icmp_ne (tgt := 46) hx hb d_M_arithmetic_39 (by decide) (fun c53 => ?_) (fun c53 => ?_)
  · have h := if_f c53 h
    exact b_46 M0 r48 v49 r50 r51 _ _ _ h zr51 hwf hkp hP hD hS (lv_sub hl [5, 6, 3, 2, 1, 0] rfl)
  have h := if_t c53 h
  refine lv_iconst (v := 1) hx hb d_M_arithmetic_42 (by decide) ?_
  refine lv_goto (tgt := 47) hx hb d_M_arithmetic_43 (by decide) ?_
  exact b_47 M0 r48 v49 r50 r51 (1 : Int32) _ _ _ h zr51 (by decide) hwf hkp hP hD hS (lv_sub hl [5, 6, 3, 2, 1, 0] rfl)
theorem d_M_slotOf_0 : decode prog_14_method_74_code 0 = .ok (.iload_n 0, 1) := by decide +kernel
theorem d_M_slotOf_1 : decode prog_14_method_74_code 1 = .ok (.sipush 512, 3) := by decide +kernel
theorem d_M_slotOf_4 : decode prog_14_method_74_code 4 = .ok (.iadd, 1) := by decide +kernel
theorem d_M_slotOf_5 : decode prog_14_method_74_code 5 = .ok (.bipush 8, 2) := by decide +kernel
theorem d_M_slotOf_7 : decode prog_14_method_74_code 7 = .ok (.idiv, 1) := by decide +kernel
theorem d_M_slotOf_8 : decode prog_14_method_74_code 8 = .ok (.ireturn, 1) := by decide +kernel
abbrev y_M_slotOf : MethodName := ⟨"FilterGuardModel", "slotOf", "(I)I"⟩
def f_M_slotOf (x0 : Int32) : Option Int32 := some ((x0 + 512) / 8)
def rm_M_slotOf : Room := { frames := 1, cells := 0, slots := 0, locals := 20 }
abbrev q_M_slotOf (D : va_G) (RZ : Int32) (A : Nat → Prop) : Array Value → Jvm.State → Outcome → Jvm.State → Prop := va_Qi (fun r (_ : Unit) => r = RZ ∧ True) (fg_B D A (fun _ => []) (fun _ => [])) A
set_option maxHeartbeats 4000000 in
set_option maxRecDepth 100000 in
theorem c_M_slotOf (l : Launch) (D : va_G) (RZ : Int32) (x0 : Int32) (h : f_M_slotOf x0 = (some RZ)) (sz : Nat) : Met l y_M_slotOf (fg_w y_M_slotOf prog_14_method_74_code 1 (some .int)) rm_M_slotOf (va_Pc [.int x0] (fg_P D [] [] sz)) (q_M_slotOf D RZ (va_A [] sz)) rm_M_slotOf.cells rm_M_slotOf.slots (va_A [] sz) := by
  refine fg_enter (fun A => q_M_slotOf D RZ A) (by decide +kernel) (Nat.le_of_ble_eq_true rfl) ?_
  intro p e s m below meth c ls A hx hb hml hown hts hr hlocks hin hP hK hD hS hA hX hl
  have hl : lv_has ls 1 [(0, .int x0)] := hl
  unfold f_M_slotOf at h
  refine lv_iload_n hx hb d_M_slotOf_0 rfl (lv_at hl 0 rfl) ?_
  refine lv_sipush (v := 512) hx hb d_M_slotOf_1 (by decide) ?_
  refine lv_iadd hx hb d_M_slotOf_4 ?_
  refine lv_bipush (v := 8) hx hb d_M_slotOf_5 (by decide) ?_
  refine lv_idiv hx hb d_M_slotOf_7 (by decide) ?_
  exact me_preti h hx hb hr hlocks hK hS d_M_slotOf_8
theorem d_M_isWritten_0 : decode prog_14_method_75_code 0 = .ok (.aload_n 0, 1) := by decide +kernel
theorem d_M_isWritten_1 : decode prog_14_method_75_code 1 = .ok (.getfield 122, 3) := by decide +kernel
theorem d_M_isWritten_4 : decode prog_14_method_75_code 4 = .ok (.iload_n 1, 1) := by decide +kernel
theorem d_M_isWritten_5 : decode prog_14_method_75_code 5 = .ok (.invokestatic 403, 3) := by decide +kernel
theorem u_2180 : Cond.methodLink "FilterGuardModel" 403 ⟨"FilterGuardModel", "slotOf", "(I)I"⟩ ∈ fg_g := fg_in (List.mem_of_getElem? (i := 2180) (by decide +kernel)) rfl
theorem u_2182 : Cond.code ⟨"FilterGuardModel", "slotOf", "(I)I"⟩ prog_14_method_74_code 1 (some .int) ∈ fg_g := fg_in (List.mem_of_getElem? (i := 2182) (by decide +kernel)) rfl
theorem u_2181 : Cond.static ⟨"FilterGuardModel", "slotOf", "(I)I"⟩ ∈ fg_g := fg_in (List.mem_of_getElem? (i := 2181) (by decide +kernel)) rfl
theorem d_M_isWritten_8 : decode prog_14_method_75_code 8 = .ok (.iaload, 1) := by decide +kernel
theorem d_M_isWritten_9 : decode prog_14_method_75_code 9 = .ok (.iload_n 1, 1) := by decide +kernel
theorem d_M_isWritten_10 : decode prog_14_method_75_code 10 = .ok (.sipush 512, 3) := by decide +kernel
theorem d_M_isWritten_13 : decode prog_14_method_75_code 13 = .ok (.iadd, 1) := by decide +kernel
theorem d_M_isWritten_14 : decode prog_14_method_75_code 14 = .ok (.bipush 8, 2) := by decide +kernel
theorem d_M_isWritten_16 : decode prog_14_method_75_code 16 = .ok (.irem, 1) := by decide +kernel
theorem d_M_isWritten_17 : decode prog_14_method_75_code 17 = .ok (.ishr, 1) := by decide +kernel
theorem d_M_isWritten_18 : decode prog_14_method_75_code 18 = .ok (.iconst 1, 1) := by decide +kernel
theorem d_M_isWritten_19 : decode prog_14_method_75_code 19 = .ok (.iand, 1) := by decide +kernel
theorem d_M_isWritten_20 : decode prog_14_method_75_code 20 = .ok (.iconst 1, 1) := by decide +kernel
theorem d_M_isWritten_21 : decode prog_14_method_75_code 21 = .ok (.if_icmp .ne 7, 3) := by decide +kernel
theorem d_M_isWritten_28 : decode prog_14_method_75_code 28 = .ok (.iconst 0, 1) := by decide +kernel
theorem d_M_isWritten_29 : decode prog_14_method_75_code 29 = .ok (.ireturn, 1) := by decide +kernel
theorem d_M_isWritten_24 : decode prog_14_method_75_code 24 = .ok (.iconst 1, 1) := by decide +kernel
theorem d_M_isWritten_25 : decode prog_14_method_75_code 25 = .ok (.goto 4, 3) := by decide +kernel
abbrev y_M_isWritten : MethodName := ⟨"FilterGuardModel", "isWritten", "(I)Z"⟩
def f_M_isWritten (M0 : me_M) (j0 : Nat) (x1 : Int32) : Option (me_M × Int32) := bd (mR M0 1 j0 58) (fun (j1 : Nat) => bd (f_M_slotOf x1) (fun (r3 : Int32) => gd (¬ (r3 < 0 ∨ mZ M0 13 j1 ≤ r3.toNatClampNeg)) ((if ((jishr (mI M0 13 j1 r3.toNatClampNeg) (jirem (x1 + 512) 8)) &&& 1) = 1 then some (M0, (1 : Int32)) else some (M0, (0 : Int32))))))
def rm_M_isWritten : Room := { frames := 2, cells := 0, slots := 0, locals := 40 }
abbrev q_M_isWritten (D : va_G) (ad : Nat → Nat → Nat) (ca : Nat → ClassId) (N : Nat → Nat) (M0 MZ : me_M) (RZ : Int32) (A : Nat → Prop) : Array Value → Jvm.State → Outcome → Jvm.State → Prop := va_Qi (fun r (_ : Unit) => r = RZ ∧ me_wf N MZ ∧ me_kp M0 MZ ∧ (RZ = 1 ∨ RZ = 0)) (fg_B D A (fun _ => me_W ad ca MZ) (fun _ => [])) A
set_option maxHeartbeats 4000000 in
set_option maxRecDepth 100000 in
theorem c_M_isWritten (l : Launch) (D : va_G) (ad : Nat → Nat → Nat) (ca : Nat → ClassId) (N : Nat → Nat) (M0 MZ : me_M) (RZ : Int32) (j0 : Nat) (x1 : Int32) (h : f_M_isWritten M0 j0 x1 = (some (MZ, RZ))) (hwf : me_wf N M0) (hj0 : j0 < N 1) (sz : Nat) : Met l y_M_isWritten (fg_w y_M_isWritten prog_14_method_75_code 2 (some .boolean)) rm_M_isWritten (va_Pc [.ref (ad 1 j0), .int x1] (fz_P D (me_T ca) (me_W ad ca M0) sz)) (q_M_isWritten D ad ca N M0 MZ RZ (va_A (me_W ad ca M0) sz)) rm_M_isWritten.cells rm_M_isWritten.slots (va_A (me_W ad ca M0) sz) := by
  refine fz_enter (fun A => q_M_isWritten D ad ca N M0 MZ RZ A) (by decide +kernel) (Nat.le_of_ble_eq_true rfl) ?_
  intro p e s m below meth c ls A hx hb hml hown hts hr hlocks hin hP hK hD hS hA hX hl hz
  have hl : lv_has ls 2 [(0, .ref (ad 1 j0)), (1, .int x1)] := hl
  unfold f_M_isWritten at h
  have hkp : me_kp M0 M0 := me_kp.rf
  have hkb := hkp
  refine lv_aload_n hx hb d_M_isWritten_0 rfl (lv_at hl 0 rfl) ?_
  refine g_M_58 hx hb hts hown hK hP hwf hj0 (hts _ u_1799) d_M_isWritten_1 ?_
  obtain ⟨j1, e2, h⟩ := bd_ob h
  have hj1 : j1 < N 13 := (hwf.2.1 1 j0 58 _ e2 (by decide) hj0)
  refine me_opt (j := j1) e2 ?_
  refine lv_iload_n hx hb d_M_isWritten_4 rfl (lv_at hl 1 rfl) ?_
  obtain ⟨r3, er3, h⟩ := bd_ob h
  refine me_pani' (r0 := r3) (fg_runS (wc := []) (tc := []) (A2 := A) (As := [.int x1]) (rest := [.ref (ad 13 j1)]) ⟨hx, hb, hml, hown, hts⟩ (c_M_slotOf l D r3 x1 er3 _) (by show fg_nm y_M_slotOf 1; decide +kernel) u_2180 u_2181 u_192 u_2182 ⟨Nat.le_of_ble_eq_true rfl, Nat.le_of_ble_eq_true rfl⟩ hX me_P0 (hK.sub (tys' := []) [] rfl) me_D0 rfl hl.1 (Nat.le_of_ble_eq_true rfl) d_M_isWritten_5 ⟨Nat.le_of_ble_eq_true rfl, Nat.le_of_ble_eq_true rfl⟩) hP hD hK hS hA rfl rfl (fun H locs hw hP hD hS => ?_)
  obtain ⟨g4, h⟩ := gd_ob h
  refine me_iald hx hb hK hP hwf hj1 g4 d_M_isWritten_8 ?_
  refine lv_iload_n hx hb d_M_isWritten_9 rfl (lv_at hl 1 rfl) ?_
  refine lv_sipush (v := 512) hx hb d_M_isWritten_10 (by decide) ?_
  refine lv_iadd hx hb d_M_isWritten_13 ?_
  refine lv_bipush (v := 8) hx hb d_M_isWritten_14 (by decide) ?_
  refine lv_irem hx hb d_M_isWritten_16 (by decide) ?_
  refine fg_topi (y := jirem (x1 + 512) 8) rfl ?_
  refine lv_ishr hx hb d_M_isWritten_17 ?_
  refine fg_topi (y := jishr (mI M0 13 j1 r3.toNatClampNeg) (jirem (x1 + 512) 8)) rfl ?_
  refine lv_iconst (v := 1) hx hb d_M_isWritten_18 (by decide) ?_
  refine lv_iand hx hb d_M_isWritten_19 ?_
  refine lv_iconst (v := 1) hx hb d_M_isWritten_20 (by decide) ?_
  refine lv_icmp_ne (tgt := 28) hx hb d_M_isWritten_21 (by decide) (fun c5 => ?_) (fun c5 => ?_)
  · have h := if_f c5 h
    refine lv_iconst (v := 0) hx hb d_M_isWritten_28 (by decide) ?_
    exact me_retz (me_kp M0) h (by decide) hx hb hr hlocks hwf hkp hP hK hD hS d_M_isWritten_29
  have h := if_t c5 h
  refine lv_iconst (v := 1) hx hb d_M_isWritten_24 (by decide) ?_
  refine lv_goto (tgt := 29) hx hb d_M_isWritten_25 (by decide) ?_
  exact me_retz (me_kp M0) h (by decide) hx hb hr hlocks hwf hkp hP hK hD hS d_M_isWritten_29
theorem d_M_isSaved_0 : decode prog_14_method_76_code 0 = .ok (.aload_n 0, 1) := by decide +kernel
theorem d_M_isSaved_1 : decode prog_14_method_76_code 1 = .ok (.getfield 89, 3) := by decide +kernel
theorem d_M_isSaved_4 : decode prog_14_method_76_code 4 = .ok (.bipush 11, 2) := by decide +kernel
theorem d_M_isSaved_6 : decode prog_14_method_76_code 6 = .ok (.iload_n 1, 1) := by decide +kernel
theorem d_M_isSaved_7 : decode prog_14_method_76_code 7 = .ok (.invokestatic 403, 3) := by decide +kernel
theorem d_M_isSaved_10 : decode prog_14_method_76_code 10 = .ok (.iadd, 1) := by decide +kernel
theorem d_M_isSaved_11 : decode prog_14_method_76_code 11 = .ok (.baload, 1) := by decide +kernel
theorem d_M_isSaved_12 : decode prog_14_method_76_code 12 = .ok (.ifCond .eq 7, 3) := by decide +kernel
theorem d_M_isSaved_19 : decode prog_14_method_76_code 19 = .ok (.iconst 0, 1) := by decide +kernel
theorem d_M_isSaved_20 : decode prog_14_method_76_code 20 = .ok (.ireturn, 1) := by decide +kernel
theorem d_M_isSaved_15 : decode prog_14_method_76_code 15 = .ok (.iconst 1, 1) := by decide +kernel
theorem d_M_isSaved_16 : decode prog_14_method_76_code 16 = .ok (.goto 4, 3) := by decide +kernel
abbrev y_M_isSaved : MethodName := ⟨"FilterGuardModel", "isSaved", "(I)Z"⟩
def f_M_isSaved (M0 : me_M) (j0 : Nat) (x1 : Int32) : Option (me_M × Int32) := bd (mR M0 1 j0 47) (fun (j1 : Nat) => bd (f_M_slotOf x1) (fun (r3 : Int32) => gd (¬ ((11 + r3) < 0 ∨ mZ M0 14 j1 ≤ (11 + r3).toNatClampNeg)) ((if (mI M0 14 j1 (11 + r3).toNatClampNeg) = 0 then some (M0, (0 : Int32)) else some (M0, (1 : Int32))))))
def rm_M_isSaved : Room := { frames := 2, cells := 0, slots := 0, locals := 40 }
abbrev q_M_isSaved (D : va_G) (ad : Nat → Nat → Nat) (ca : Nat → ClassId) (N : Nat → Nat) (M0 MZ : me_M) (RZ : Int32) (A : Nat → Prop) : Array Value → Jvm.State → Outcome → Jvm.State → Prop := va_Qi (fun r (_ : Unit) => r = RZ ∧ me_wf N MZ ∧ me_kp M0 MZ ∧ (RZ = 1 ∨ RZ = 0)) (fg_B D A (fun _ => me_W ad ca MZ) (fun _ => [])) A
set_option maxHeartbeats 4000000 in
set_option maxRecDepth 100000 in
theorem c_M_isSaved (l : Launch) (D : va_G) (ad : Nat → Nat → Nat) (ca : Nat → ClassId) (N : Nat → Nat) (M0 MZ : me_M) (RZ : Int32) (j0 : Nat) (x1 : Int32) (h : f_M_isSaved M0 j0 x1 = (some (MZ, RZ))) (hwf : me_wf N M0) (hj0 : j0 < N 1) (sz : Nat) : Met l y_M_isSaved (fg_w y_M_isSaved prog_14_method_76_code 2 (some .boolean)) rm_M_isSaved (va_Pc [.ref (ad 1 j0), .int x1] (fz_P D (me_T ca) (me_W ad ca M0) sz)) (q_M_isSaved D ad ca N M0 MZ RZ (va_A (me_W ad ca M0) sz)) rm_M_isSaved.cells rm_M_isSaved.slots (va_A (me_W ad ca M0) sz) := by
  refine fz_enter (fun A => q_M_isSaved D ad ca N M0 MZ RZ A) (by decide +kernel) (Nat.le_of_ble_eq_true rfl) ?_
  intro p e s m below meth c ls A hx hb hml hown hts hr hlocks hin hP hK hD hS hA hX hl hz
  have hl : lv_has ls 2 [(0, .ref (ad 1 j0)), (1, .int x1)] := hl
  unfold f_M_isSaved at h
  have hkp : me_kp M0 M0 := me_kp.rf
  have hkb := hkp
  refine lv_aload_n hx hb d_M_isSaved_0 rfl (lv_at hl 0 rfl) ?_
  refine g_M_47 hx hb hts hown hK hP hwf hj0 (hts _ u_1788) d_M_isSaved_1 ?_
  obtain ⟨j1, e2, h⟩ := bd_ob h
  have hj1 : j1 < N 14 := (hwf.2.1 1 j0 47 _ e2 (by decide) hj0)
  refine me_opt (j := j1) e2 ?_
  refine lv_bipush (v := 11) hx hb d_M_isSaved_4 (by decide) ?_
  refine lv_iload_n hx hb d_M_isSaved_6 rfl (lv_at hl 1 rfl) ?_
  obtain ⟨r3, er3, h⟩ := bd_ob h
  refine me_pani' (r0 := r3) (fg_runS (wc := []) (tc := []) (A2 := A) (As := [.int x1]) (rest := [.int 11, .ref (ad 14 j1)]) ⟨hx, hb, hml, hown, hts⟩ (c_M_slotOf l D r3 x1 er3 _) (by show fg_nm y_M_slotOf 1; decide +kernel) u_2180 u_2181 u_192 u_2182 ⟨Nat.le_of_ble_eq_true rfl, Nat.le_of_ble_eq_true rfl⟩ hX me_P0 (hK.sub (tys' := []) [] rfl) me_D0 rfl hl.1 (Nat.le_of_ble_eq_true rfl) d_M_isSaved_7 ⟨Nat.le_of_ble_eq_true rfl, Nat.le_of_ble_eq_true rfl⟩) hP hD hK hS hA rfl rfl (fun H locs hw hP hD hS => ?_)
  refine lv_iadd hx hb d_M_isSaved_10 ?_
  obtain ⟨g4, h⟩ := gd_ob h
  refine me_bald hx hb hK hP hwf hj1 g4 d_M_isSaved_11 ?_
  refine lv_if_eq (tgt := 19) hx hb d_M_isSaved_12 (by decide) (fun c5 => ?_) (fun c5 => ?_)
  · have h := if_t c5 h
    refine lv_iconst (v := 0) hx hb d_M_isSaved_19 (by decide) ?_
    exact me_retz (me_kp M0) h (by decide) hx hb hr hlocks hwf hkp hP hK hD hS d_M_isSaved_20
  have h := if_f c5 h
  refine lv_iconst (v := 1) hx hb d_M_isSaved_15 (by decide) ?_
  refine lv_goto (tgt := 20) hx hb d_M_isSaved_16 (by decide) ?_
  exact me_retz (me_kp M0) h (by decide) hx hb hr hlocks hwf hkp hP hK hD hS d_M_isSaved_20
