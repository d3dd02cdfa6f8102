theorem d_M_subtract_265 : decode prog_14_method_19_code 265 = .ok (.istore 9, 2) := by decide +kernel
theorem d_M_subtract_267 : decode prog_14_method_19_code 267 = .ok (.iload 9, 2) := by decide +kernel
theorem d_M_subtract_269 : decode prog_14_method_19_code 269 = .ok (.ifCond .ne 23, 3) := by decide +kernel
theorem d_M_subtract_292 : decode prog_14_method_19_code 292 = .ok (.return_, 1) := by decide +kernel
theorem d_M_subtract_272 : decode prog_14_method_19_code 272 = .ok (.aload_n 0, 1) := by decide +kernel
theorem d_M_subtract_273 : decode prog_14_method_19_code 273 = .ok (.getfield 116, 3) := by decide +kernel
theorem d_M_subtract_276 : decode prog_14_method_19_code 276 = .ok (.sipush 30077, 3) := by decide +kernel
theorem d_M_subtract_279 : decode prog_14_method_19_code 279 = .ok (.lload 5, 2) := by decide +kernel
theorem d_M_subtract_281 : decode prog_14_method_19_code 281 = .ok (.lastore, 1) := by decide +kernel
theorem d_M_subtract_282 : decode prog_14_method_19_code 282 = .ok (.aload_n 0, 1) := by decide +kernel
theorem d_M_subtract_283 : decode prog_14_method_19_code 283 = .ok (.getfield 119, 3) := by decide +kernel
theorem d_M_subtract_286 : decode prog_14_method_19_code 286 = .ok (.sipush 30077, 3) := by decide +kernel
theorem d_M_subtract_289 : decode prog_14_method_19_code 289 = .ok (.lload 7, 2) := by decide +kernel
theorem d_M_subtract_291 : decode prog_14_method_19_code 291 = .ok (.lastore, 1) := by decide +kernel
theorem d_M_subtract_260 : decode prog_14_method_19_code 260 = .ok (.iconst 1, 1) := by decide +kernel
theorem d_M_subtract_261 : decode prog_14_method_19_code 261 = .ok (.goto 4, 3) := by decide +kernel
theorem d_M_subtract_154 : decode prog_14_method_19_code 154 = .ok (.aload_n 0, 1) := by decide +kernel
theorem d_M_subtract_155 : decode prog_14_method_19_code 155 = .ok (.getfield 116, 3) := by decide +kernel
theorem d_M_subtract_158 : decode prog_14_method_19_code 158 = .ok (.sipush 30075, 3) := by decide +kernel
theorem d_M_subtract_161 : decode prog_14_method_19_code 161 = .ok (.laload, 1) := by decide +kernel
theorem d_M_subtract_162 : decode prog_14_method_19_code 162 = .ok (.aload_n 0, 1) := by decide +kernel
theorem d_M_subtract_163 : decode prog_14_method_19_code 163 = .ok (.getfield 119, 3) := by decide +kernel
theorem d_M_subtract_166 : decode prog_14_method_19_code 166 = .ok (.sipush 30076, 3) := by decide +kernel
theorem d_M_subtract_169 : decode prog_14_method_19_code 169 = .ok (.laload, 1) := by decide +kernel
theorem d_M_subtract_170 : decode prog_14_method_19_code 170 = .ok (.lsub, 1) := by decide +kernel
theorem d_M_subtract_171 : decode prog_14_method_19_code 171 = .ok (.lstore 5, 2) := by decide +kernel
theorem d_M_subtract_173 : decode prog_14_method_19_code 173 = .ok (.aload_n 0, 1) := by decide +kernel
theorem d_M_subtract_174 : decode prog_14_method_19_code 174 = .ok (.getfield 119, 3) := by decide +kernel
theorem d_M_subtract_177 : decode prog_14_method_19_code 177 = .ok (.sipush 30075, 3) := by decide +kernel
theorem d_M_subtract_180 : decode prog_14_method_19_code 180 = .ok (.laload, 1) := by decide +kernel
theorem d_M_subtract_181 : decode prog_14_method_19_code 181 = .ok (.aload_n 0, 1) := by decide +kernel
theorem d_M_subtract_182 : decode prog_14_method_19_code 182 = .ok (.getfield 116, 3) := by decide +kernel
theorem d_M_subtract_185 : decode prog_14_method_19_code 185 = .ok (.sipush 30076, 3) := by decide +kernel
theorem d_M_subtract_188 : decode prog_14_method_19_code 188 = .ok (.laload, 1) := by decide +kernel
theorem d_M_subtract_189 : decode prog_14_method_19_code 189 = .ok (.lsub, 1) := by decide +kernel
theorem d_M_subtract_190 : decode prog_14_method_19_code 190 = .ok (.lstore 7, 2) := by decide +kernel
theorem d_M_subtract_192 : decode prog_14_method_19_code 192 = .ok (.aload_n 0, 1) := by decide +kernel
theorem d_M_subtract_193 : decode prog_14_method_19_code 193 = .ok (.getfield 116, 3) := by decide +kernel
theorem d_M_subtract_196 : decode prog_14_method_19_code 196 = .ok (.sipush 30075, 3) := by decide +kernel
theorem d_M_subtract_199 : decode prog_14_method_19_code 199 = .ok (.laload, 1) := by decide +kernel
theorem d_M_subtract_200 : decode prog_14_method_19_code 200 = .ok (.aload_n 0, 1) := by decide +kernel
theorem d_M_subtract_201 : decode prog_14_method_19_code 201 = .ok (.getfield 119, 3) := by decide +kernel
theorem d_M_subtract_204 : decode prog_14_method_19_code 204 = .ok (.sipush 30076, 3) := by decide +kernel
theorem d_M_subtract_207 : decode prog_14_method_19_code 207 = .ok (.laload, 1) := by decide +kernel
theorem d_M_subtract_208 : decode prog_14_method_19_code 208 = .ok (.lxor, 1) := by decide +kernel
theorem d_M_subtract_209 : decode prog_14_method_19_code 209 = .ok (.aload_n 0, 1) := by decide +kernel
theorem d_M_subtract_210 : decode prog_14_method_19_code 210 = .ok (.getfield 116, 3) := by decide +kernel
theorem d_M_subtract_213 : decode prog_14_method_19_code 213 = .ok (.sipush 30075, 3) := by decide +kernel
theorem d_M_subtract_216 : decode prog_14_method_19_code 216 = .ok (.laload, 1) := by decide +kernel
theorem d_M_subtract_217 : decode prog_14_method_19_code 217 = .ok (.lload 5, 2) := by decide +kernel
theorem d_M_subtract_219 : decode prog_14_method_19_code 219 = .ok (.lxor, 1) := by decide +kernel
theorem d_M_subtract_220 : decode prog_14_method_19_code 220 = .ok (.land, 1) := by decide +kernel
theorem d_M_subtract_221 : decode prog_14_method_19_code 221 = .ok (.lconst 0, 1) := by decide +kernel
theorem d_M_subtract_222 : decode prog_14_method_19_code 222 = .ok (.lcmp, 1) := by decide +kernel
theorem d_M_subtract_223 : decode prog_14_method_19_code 223 = .ok (.ifCond .lt 37, 3) := by decide +kernel
theorem d_M_subtract_226 : decode prog_14_method_19_code 226 = .ok (.aload_n 0, 1) := by decide +kernel
theorem d_M_subtract_227 : decode prog_14_method_19_code 227 = .ok (.getfield 119, 3) := by decide +kernel
theorem d_M_subtract_230 : decode prog_14_method_19_code 230 = .ok (.sipush 30075, 3) := by decide +kernel
theorem d_M_subtract_233 : decode prog_14_method_19_code 233 = .ok (.laload, 1) := by decide +kernel
theorem d_M_subtract_234 : decode prog_14_method_19_code 234 = .ok (.aload_n 0, 1) := by decide +kernel
theorem d_M_subtract_235 : decode prog_14_method_19_code 235 = .ok (.getfield 116, 3) := by decide +kernel
theorem d_M_subtract_238 : decode prog_14_method_19_code 238 = .ok (.sipush 30076, 3) := by decide +kernel
theorem d_M_subtract_241 : decode prog_14_method_19_code 241 = .ok (.laload, 1) := by decide +kernel
theorem d_M_subtract_242 : decode prog_14_method_19_code 242 = .ok (.lxor, 1) := by decide +kernel
theorem d_M_subtract_243 : decode prog_14_method_19_code 243 = .ok (.aload_n 0, 1) := by decide +kernel
theorem d_M_subtract_244 : decode prog_14_method_19_code 244 = .ok (.getfield 119, 3) := by decide +kernel
theorem d_M_subtract_247 : decode prog_14_method_19_code 247 = .ok (.sipush 30075, 3) := by decide +kernel
theorem d_M_subtract_250 : decode prog_14_method_19_code 250 = .ok (.laload, 1) := by decide +kernel
theorem d_M_subtract_251 : decode prog_14_method_19_code 251 = .ok (.lload 7, 2) := by decide +kernel
theorem d_M_subtract_253 : decode prog_14_method_19_code 253 = .ok (.lxor, 1) := by decide +kernel
theorem d_M_subtract_254 : decode prog_14_method_19_code 254 = .ok (.land, 1) := by decide +kernel
theorem d_M_subtract_255 : decode prog_14_method_19_code 255 = .ok (.lconst 0, 1) := by decide +kernel
theorem d_M_subtract_256 : decode prog_14_method_19_code 256 = .ok (.lcmp, 1) := by decide +kernel
theorem d_M_subtract_257 : decode prog_14_method_19_code 257 = .ok (.ifCond .ge 7, 3) := by decide +kernel
theorem d_M_subtract_264 : decode prog_14_method_19_code 264 = .ok (.iconst 0, 1) := by decide +kernel
theorem d_M_subtract_0 : decode prog_14_method_19_code 0 = .ok (.aload_n 0, 1) := by decide +kernel
theorem d_M_subtract_1 : decode prog_14_method_19_code 1 = .ok (.getfield 104, 3) := by decide +kernel
theorem d_M_subtract_4 : decode prog_14_method_19_code 4 = .ok (.sipush 30075, 3) := by decide +kernel
theorem d_M_subtract_7 : decode prog_14_method_19_code 7 = .ok (.laload, 1) := by decide +kernel
theorem d_M_subtract_8 : decode prog_14_method_19_code 8 = .ok (.aload_n 0, 1) := by decide +kernel
theorem d_M_subtract_9 : decode prog_14_method_19_code 9 = .ok (.getfield 104, 3) := by decide +kernel
theorem d_M_subtract_12 : decode prog_14_method_19_code 12 = .ok (.sipush 30076, 3) := by decide +kernel
theorem d_M_subtract_15 : decode prog_14_method_19_code 15 = .ok (.laload, 1) := by decide +kernel
theorem d_M_subtract_16 : decode prog_14_method_19_code 16 = .ok (.lsub, 1) := by decide +kernel
theorem d_M_subtract_17 : decode prog_14_method_19_code 17 = .ok (.lstore_n 1, 1) := by decide +kernel
theorem d_M_subtract_18 : decode prog_14_method_19_code 18 = .ok (.lload_n 1, 1) := by decide +kernel
theorem d_M_subtract_19 : decode prog_14_method_19_code 19 = .ok (.aload_n 0, 1) := by decide +kernel
theorem d_M_subtract_20 : decode prog_14_method_19_code 20 = .ok (.getfield 107, 3) := by decide +kernel
theorem d_M_subtract_23 : decode prog_14_method_19_code 23 = .ok (.sipush 30075, 3) := by decide +kernel
theorem d_M_subtract_26 : decode prog_14_method_19_code 26 = .ok (.laload, 1) := by decide +kernel
theorem d_M_subtract_27 : decode prog_14_method_19_code 27 = .ok (.ladd, 1) := by decide +kernel
theorem d_M_subtract_28 : decode prog_14_method_19_code 28 = .ok (.lload_n 1, 1) := by decide +kernel
theorem d_M_subtract_29 : decode prog_14_method_19_code 29 = .ok (.aload_n 0, 1) := by decide +kernel
theorem d_M_subtract_30 : decode prog_14_method_19_code 30 = .ok (.getfield 107, 3) := by decide +kernel
theorem d_M_subtract_33 : decode prog_14_method_19_code 33 = .ok (.sipush 30076, 3) := by decide +kernel
theorem d_M_subtract_36 : decode prog_14_method_19_code 36 = .ok (.laload, 1) := by decide +kernel
theorem d_M_subtract_37 : decode prog_14_method_19_code 37 = .ok (.lsub, 1) := by decide +kernel
theorem d_M_subtract_38 : decode prog_14_method_19_code 38 = .ok (.lxor, 1) := by decide +kernel
theorem d_M_subtract_39 : decode prog_14_method_19_code 39 = .ok (.aload_n 0, 1) := by decide +kernel
theorem d_M_subtract_40 : decode prog_14_method_19_code 40 = .ok (.getfield 107, 3) := by decide +kernel
theorem d_M_subtract_43 : decode prog_14_method_19_code 43 = .ok (.sipush 30075, 3) := by decide +kernel
theorem d_M_subtract_46 : decode prog_14_method_19_code 46 = .ok (.laload, 1) := by decide +kernel
theorem d_M_subtract_47 : decode prog_14_method_19_code 47 = .ok (.lor, 1) := by decide +kernel
theorem d_M_subtract_48 : decode prog_14_method_19_code 48 = .ok (.aload_n 0, 1) := by decide +kernel
theorem d_M_subtract_49 : decode prog_14_method_19_code 49 = .ok (.getfield 107, 3) := by decide +kernel
theorem d_M_subtract_52 : decode prog_14_method_19_code 52 = .ok (.sipush 30076, 3) := by decide +kernel
theorem d_M_subtract_55 : decode prog_14_method_19_code 55 = .ok (.laload, 1) := by decide +kernel
theorem d_M_subtract_56 : decode prog_14_method_19_code 56 = .ok (.lor, 1) := by decide +kernel
theorem d_M_subtract_57 : decode prog_14_method_19_code 57 = .ok (.lstore_n 3, 1) := by decide +kernel
theorem d_M_subtract_58 : decode prog_14_method_19_code 58 = .ok (.aload_n 0, 1) := by decide +kernel
theorem d_M_subtract_59 : decode prog_14_method_19_code 59 = .ok (.getfield 107, 3) := by decide +kernel
theorem d_M_subtract_62 : decode prog_14_method_19_code 62 = .ok (.sipush 30077, 3) := by decide +kernel
theorem d_M_subtract_65 : decode prog_14_method_19_code 65 = .ok (.lload_n 3, 1) := by decide +kernel
theorem d_M_subtract_66 : decode prog_14_method_19_code 66 = .ok (.lastore, 1) := by decide +kernel
theorem d_M_subtract_67 : decode prog_14_method_19_code 67 = .ok (.aload_n 0, 1) := by decide +kernel
theorem d_M_subtract_68 : decode prog_14_method_19_code 68 = .ok (.getfield 104, 3) := by decide +kernel
theorem d_M_subtract_71 : decode prog_14_method_19_code 71 = .ok (.sipush 30077, 3) := by decide +kernel
theorem d_M_subtract_74 : decode prog_14_method_19_code 74 = .ok (.lload_n 1, 1) := by decide +kernel
theorem d_M_subtract_75 : decode prog_14_method_19_code 75 = .ok (.lload_n 3, 1) := by decide +kernel
theorem d_M_subtract_76 : decode prog_14_method_19_code 76 = .ok (.ldc2_w 162, 3) := by decide +kernel
theorem d_M_subtract_79 : decode prog_14_method_19_code 79 = .ok (.lxor, 1) := by decide +kernel
theorem d_M_subtract_80 : decode prog_14_method_19_code 80 = .ok (.land, 1) := by decide +kernel
theorem d_M_subtract_81 : decode prog_14_method_19_code 81 = .ok (.lastore, 1) := by decide +kernel
theorem d_M_subtract_82 : decode prog_14_method_19_code 82 = .ok (.aload_n 0, 1) := by decide +kernel
theorem d_M_subtract_83 : decode prog_14_method_19_code 83 = .ok (.getfield 110, 3) := by decide +kernel
theorem d_M_subtract_86 : decode prog_14_method_19_code 86 = .ok (.sipush 30075, 3) := by decide +kernel
theorem d_M_subtract_89 : decode prog_14_method_19_code 89 = .ok (.laload, 1) := by decide +kernel
theorem d_M_subtract_90 : decode prog_14_method_19_code 90 = .ok (.aload_n 0, 1) := by decide +kernel
theorem d_M_subtract_91 : decode prog_14_method_19_code 91 = .ok (.getfield 113, 3) := by decide +kernel
theorem d_M_subtract_94 : decode prog_14_method_19_code 94 = .ok (.sipush 30076, 3) := by decide +kernel
theorem d_M_subtract_97 : decode prog_14_method_19_code 97 = .ok (.laload, 1) := by decide +kernel
theorem d_M_subtract_98 : decode prog_14_method_19_code 98 = .ok (.invokestatic 158, 3) := by decide +kernel
theorem d_M_subtract_101 : decode prog_14_method_19_code 101 = .ok (.ifCond .ne 53, 3) := by decide +kernel
theorem d_M_subtract_104 : decode prog_14_method_19_code 104 = .ok (.aload_n 0, 1) := by decide +kernel
theorem d_M_subtract_105 : decode prog_14_method_19_code 105 = .ok (.getfield 110, 3) := by decide +kernel
theorem d_M_subtract_108 : decode prog_14_method_19_code 108 = .ok (.sipush 30077, 3) := by decide +kernel
theorem d_M_subtract_111 : decode prog_14_method_19_code 111 = .ok (.aload_n 0, 1) := by decide +kernel
theorem d_M_subtract_112 : decode prog_14_method_19_code 112 = .ok (.getfield 110, 3) := by decide +kernel
theorem d_M_subtract_115 : decode prog_14_method_19_code 115 = .ok (.sipush 30075, 3) := by decide +kernel
theorem d_M_subtract_118 : decode prog_14_method_19_code 118 = .ok (.laload, 1) := by decide +kernel
theorem d_M_subtract_119 : decode prog_14_method_19_code 119 = .ok (.aload_n 0, 1) := by decide +kernel
theorem d_M_subtract_120 : decode prog_14_method_19_code 120 = .ok (.getfield 113, 3) := by decide +kernel
theorem d_M_subtract_123 : decode prog_14_method_19_code 123 = .ok (.sipush 30076, 3) := by decide +kernel
theorem d_M_subtract_126 : decode prog_14_method_19_code 126 = .ok (.laload, 1) := by decide +kernel
theorem d_M_subtract_127 : decode prog_14_method_19_code 127 = .ok (.lsub, 1) := by decide +kernel
theorem d_M_subtract_128 : decode prog_14_method_19_code 128 = .ok (.lastore, 1) := by decide +kernel
theorem d_M_subtract_129 : decode prog_14_method_19_code 129 = .ok (.aload_n 0, 1) := by decide +kernel
theorem d_M_subtract_130 : decode prog_14_method_19_code 130 = .ok (.getfield 113, 3) := by decide +kernel
theorem d_M_subtract_133 : decode prog_14_method_19_code 133 = .ok (.sipush 30077, 3) := by decide +kernel
theorem d_M_subtract_136 : decode prog_14_method_19_code 136 = .ok (.aload_n 0, 1) := by decide +kernel
theorem d_M_subtract_137 : decode prog_14_method_19_code 137 = .ok (.getfield 113, 3) := by decide +kernel
theorem d_M_subtract_140 : decode prog_14_method_19_code 140 = .ok (.sipush 30075, 3) := by decide +kernel
theorem d_M_subtract_143 : decode prog_14_method_19_code 143 = .ok (.laload, 1) := by decide +kernel
theorem d_M_subtract_144 : decode prog_14_method_19_code 144 = .ok (.aload_n 0, 1) := by decide +kernel
theorem d_M_subtract_145 : decode prog_14_method_19_code 145 = .ok (.getfield 110, 3) := by decide +kernel
theorem d_M_subtract_148 : decode prog_14_method_19_code 148 = .ok (.sipush 30076, 3) := by decide +kernel
theorem d_M_subtract_151 : decode prog_14_method_19_code 151 = .ok (.laload, 1) := by decide +kernel
theorem d_M_subtract_152 : decode prog_14_method_19_code 152 = .ok (.lsub, 1) := by decide +kernel
theorem d_M_subtract_153 : decode prog_14_method_19_code 153 = .ok (.lastore, 1) := by decide +kernel
abbrev y_M_subtract : MethodName := ⟨"FilterGuardModel", "subtract", "()V"⟩
def f_M_subtract_b265 (j0 : Nat) (M : me_M) (y5 : Int64) (y7 : Int64) (s0 : Int32) : Option me_M := (if s0 = 0 then bd (mR M 1 j0 56) (fun (j2 : Nat) => gd (30077 < mZ M 16 j2) (st (wL M 16 j2 30077 y5) (fun (M5 : me_M) => bd (mR M 1 j0 57) (fun (j6 : Nat) => gd (30077 < mZ M 16 j6) (st (wL M5 16 j6 30077 y7) (fun (M9 : me_M) => some M9)))))) else some M)
def f_M_subtract_b260 (j0 : Nat) (M : me_M) (y5 : Int64) (y7 : Int64) : Option me_M := f_M_subtract_b265 j0 M y5 y7 (1 : Int32)
def f_M_subtract_b154 (j0 : Nat) (M : me_M) : Option me_M := bd (mR M 1 j0 56) (fun (j10 : Nat) => gd (30075 < mZ M 16 j10) (bd (mR M 1 j0 57) (fun (j13 : Nat) => gd (30076 < mZ M 16 j13) (st ((mL M 16 j10 30075) - (mL M 16 j13 30076)) (fun (v16 : Int64) => gd (30075 < mZ M 16 j13) (gd (30076 < mZ M 16 j10) (st ((mL M 16 j13 30075) - (mL M 16 j10 30076)) (fun (v19 : Int64) => st (((mL M 16 j10 30075) ^^^ (mL M 16 j13 30076)) &&& ((mL M 16 j10 30075) ^^^ v16)) (fun (v20 : Int64) => (if v20 < 0 then f_M_subtract_b260 j0 M v16 v19 else st (((mL M 16 j13 30075) ^^^ (mL M 16 j10 30076)) &&& ((mL M 16 j13 30075) ^^^ v19)) (fun (v22 : Int64) => (if v22 < 0 then f_M_subtract_b260 j0 M v16 v19 else f_M_subtract_b265 j0 M v16 v19 (0 : Int32)))))))))))))
def f_M_subtract (M0 : me_M) (j0 : Nat) : Option me_M := bd (mR M0 1 j0 52) (fun (j24 : Nat) => gd (30075 < mZ M0 16 j24) (gd (30076 < mZ M0 16 j24) (st ((mL M0 16 j24 30075) - (mL M0 16 j24 30076)) (fun (v28 : Int64) => bd (mR M0 1 j0 53) (fun (j29 : Nat) => gd (30075 < mZ M0 16 j29) (gd (30076 < mZ M0 16 j29) (st (((v28 + (mL M0 16 j29 30075)) ^^^ (v28 - (mL M0 16 j29 30076))) ||| (mL M0 16 j29 30075)) (fun (v33 : Int64) => st (v33 ||| (mL M0 16 j29 30076)) (fun (v34 : Int64) => gd (30077 < mZ M0 16 j29) (st (wL M0 16 j29 30077 v34) (fun (M36 : me_M) => gd (30077 < mZ M0 16 j24) (st (wL M36 16 j24 30077 (v28 &&& (v34 ^^^ (-1)))) (fun (M38 : me_M) => bd (mR M0 1 j0 54) (fun (j39 : Nat) => gd (30075 < mZ M0 16 j39) (bd (mR M0 1 j0 55) (fun (j42 : Nat) => gd (30076 < mZ M0 16 j42) (bd (f_M_below (mL M38 16 j39 30075) (mL M38 16 j42 30076)) (fun (r45 : Int32) => (if r45 = 0 then gd (30077 < mZ M0 16 j39) (st (wL M38 16 j39 30077 ((mL M38 16 j39 30075) - (mL M38 16 j42 30076))) (fun (M48 : me_M) => gd (30075 < mZ M0 16 j42) (gd (30076 < mZ M0 16 j39) (gd (30077 < mZ M0 16 j42) (st (wL M48 16 j42 30077 ((mL M48 16 j42 30075) - (mL M48 16 j39 30076))) (fun (M52 : me_M) => f_M_subtract_b154 j0 M52)))))) else f_M_subtract_b154 j0 M38)))))))))))))))))))
def rm_M_subtract : Room := { frames := 2, cells := 0, slots := 0, locals := 43 }
abbrev q_M_subtract (D : va_G) (ad : Nat → Nat → Nat) (ca : Nat → ClassId) (N : Nat → Nat) (M0 MZ : me_M) (A : Nat → Prop) : Array Value → Jvm.State → Outcome → Jvm.State → Prop := va_Qv (fun (_ : Unit) => me_wf N MZ ∧ me_kp M0 MZ) (fg_B D A (fun _ => me_W ad ca MZ) (fun _ => [])) A
set_option maxHeartbeats 4000000 in
set_option maxRecDepth 100000 in
theorem c_M_subtract (l : Launch) (D : va_G) (ad : Nat → Nat → Nat) (ca : Nat → ClassId) (N : Nat → Nat) (M0 MZ : me_M) (j0 : Nat) (h : f_M_subtract M0 j0 = (some MZ)) (hwf : me_wf N M0) (hj0 : j0 < N 1) (sz : Nat) : Met l y_M_subtract (fg_w y_M_subtract prog_14_method_19_code 10 none) rm_M_subtract (va_Pc [.ref (ad 1 j0)] (fz_P D (me_T ca) (me_W ad ca M0) sz)) (q_M_subtract D ad ca N M0 MZ (va_A (me_W ad ca M0) sz)) rm_M_subtract.cells rm_M_subtract.slots (va_A (me_W ad ca M0) sz) := by
  refine fz_enter (fun A => q_M_subtract D ad ca N M0 MZ A) (by decide +kernel) (Nat.le_of_ble_eq_true rfl) ?_
  intro p e s m below meth c ls A hx hb hml hown hts hr hlocks hin hP hK hD hS hA hX hl hz
  have hl : lv_has ls 10 [(0, .ref (ad 1 j0))] := hl
  unfold f_M_subtract at h
  have hkp : me_kp M0 M0 := me_kp.rf
  have hkb := hkp
  have b_265 : ∀ (M : me_M) (y5 : Int64) (y7 : Int64) (s0 : Int32) (H : Heap) (locs : List Loc) (ls : Array Slot), f_M_subtract_b265 j0 M y5 y7 s0 = (some MZ) → (s0 = 1 ∨ s0 = 0) → me_wf N M → me_kp M0 M → va_P D classes (me_W ad ca M) H → va_D A (me_W ad ca M) → va_S A s.heap H locs → lv_has ls 10 [(0, .ref (ad 1 j0)), (5, .long y5), (7, .long y7)] → W p l e rm_M_subtract s m [.ref (ad 1 j0)].toArray below meth c H locs 0 0 (MQ below (q_M_subtract D ad ca N M0 MZ A) [.ref (ad 1 j0)].toArray s rm_M_subtract.cells rm_M_subtract.slots A) (F0 m 265 ls [.int s0]) := by
    intro M y5 y7 s0 H locs ls h zs0 hwf hkp hP hD hS hl
    unfold f_M_subtract_b265 at h
    have hkb := hkp
    refine lv_istore (lv' := [(9, .int s0), (0, .ref (ad 1 j0)), (5, .long y5), (7, .long y7)]) hx hb d_M_subtract_265 hl (by decide) rfl (fun ls hl => ?_)
    refine lv_iload hx hb d_M_subtract_267 (lv_at hl 0 rfl) ?_
    refine lv_if_ne (tgt := 292) hx hb d_M_subtract_269 (by decide) (fun c1 => ?_) (fun c1 => ?_)
    · have h := if_f c1 h
      cases h
      exact fg_retv () hx hb hr hlocks ⟨hwf, hkp⟩ hP (hK.sub (tys' := []) [] rfl) hD hS (Nat.le_of_ble_eq_true rfl) (Nat.le_of_ble_eq_true rfl) d_M_subtract_292
    have h := if_t c1 h
    refine lv_aload_n hx hb d_M_subtract_272 rfl (lv_at hl 1 rfl) ?_
    refine g_M_56 hx hb hts hown hK hP hwf hj0 (hts _ u_1797) d_M_subtract_273 ?_
    obtain ⟨j2, e3, h⟩ := bd_ob h
    have hj2 : j2 < N 16 := (hwf.2.1 1 j0 56 _ e3 (by decide) hj0)
    refine me_opt (j := j2) e3 ?_
    refine lv_sipush (v := 30077) hx hb d_M_subtract_276 (by decide) ?_
    refine lv_lload hx hb d_M_subtract_279 (lv_at hl 2 rfl) ?_
    obtain ⟨g4, h⟩ := gd_ob h
    obtain ⟨M5, eM5, h⟩ := st_ob h
    refine me_last (eM5.trans (by rw [show (30077 : Int32).toNatClampNeg = 30077 by decide])) hx hb hK hP hD hwf hS hj2 (me_in (i := (30077 : Int32)) (k := 30077) (by decide) (by decide) g4) d_M_subtract_281 (fun H locs hP hD hwf hS => ?_)
    have hkp := kp_L eM5 hkp
    refine lv_aload_n hx hb d_M_subtract_282 rfl (lv_at hl 1 rfl) ?_
    refine g_M_57 hx hb hts hown hK hP hwf hj0 (hts _ u_1798) d_M_subtract_283 ?_
    obtain ⟨j6, e7, h⟩ := bd_ob h
    have hj6 : j6 < N 16 := (hwf.2.1 1 j0 57 _ (kp_r hkb hkp e7) (by decide) hj0)
    refine me_opt (j := j6) (kp_r hkb hkp e7) ?_
    refine lv_sipush (v := 30077) hx hb d_M_subtract_286 (by decide) ?_
    refine lv_lload hx hb d_M_subtract_289 (lv_at hl 3 rfl) ?_
    obtain ⟨g8, h⟩ := gd_ob h
    obtain ⟨M9, eM9, h⟩ := st_ob h
    refine me_last (eM9.trans (by rw [show (30077 : Int32).toNatClampNeg = 30077 by decide])) hx hb hK hP hD hwf hS hj6 (me_in (i := (30077 : Int32)) (k := 30077) (by decide) (by decide) (kp_c hkb.z hkp.z g8)) d_M_subtract_291 (fun H locs hP hD hwf hS => ?_)
    have hkp := kp_L eM9 hkp
    cases h
    exact fg_retv () hx hb hr hlocks ⟨hwf, hkp⟩ hP (hK.sub (tys' := []) [] rfl) hD hS (Nat.le_of_ble_eq_true rfl) (Nat.le_of_ble_eq_true rfl) d_M_subtract_292
  have b_260 : ∀ (M : me_M) (y5 : Int64) (y7 : Int64) (H : Heap) (locs : List Loc) (ls : Array Slot), f_M_subtract_b260 j0 M y5 y7 = (some MZ) → me_wf N M → me_kp M0 M → va_P D classes (me_W ad ca M) H → va_D A (me_W ad ca M) → va_S A s.heap H locs → lv_has ls 10 [(0, .ref (ad 1 j0)), (5, .long y5), (7, .long y7)] → W p l e rm_M_subtract s m [.ref (ad 1 j0)].toArray below meth c H locs 0 0 (MQ below (q_M_subtract D ad ca N M0 MZ A) [.ref (ad 1 j0)].toArray s rm_M_subtract.cells rm_M_subtract.slots A) (F0 m 260 ls []) := by
    intro M y5 y7 H locs ls h hwf hkp hP hD hS hl
    unfold f_M_subtract_b260 at h
    have hkb := hkp
    refine lv_iconst (v := 1) hx hb d_M_subtract_260 (by decide) ?_
    refine lv_goto (tgt := 265) hx hb d_M_subtract_261 (by decide) ?_
    exact b_265 M y5 y7 (1 : Int32) _ _ _ h (by decide) hwf hkp hP hD hS (lv_sub hl [0, 1, 2] rfl)
  have b_154 : ∀ (M : me_M) (H : Heap) (locs : List Loc) (ls : Array Slot), f_M_subtract_b154 j0 M = (some MZ) → me_wf N M → me_kp M0 M → va_P D classes (me_W ad ca M) H → va_D A (me_W ad ca M) → va_S A s.heap H locs → lv_has ls 10 [(0, .ref (ad 1 j0))] → W p l e rm_M_subtract s m [.ref (ad 1 j0)].toArray below meth c H locs 0 0 (MQ below (q_M_subtract D ad ca N M0 MZ A) [.ref (ad 1 j0)].toArray s rm_M_subtract.cells rm_M_subtract.slots A) (F0 m 154 ls []) := by
    intro M H locs ls h hwf hkp hP hD hS hl
    unfold f_M_subtract_b154 at h
    have hkb := hkp
    refine lv_aload_n hx hb d_M_subtract_154 rfl (lv_at hl 0 rfl) ?_
    refine g_M_56 hx hb hts hown hK hP hwf hj0 (hts _ u_1797) d_M_subtract_155 ?_
    obtain ⟨j10, e11, h⟩ := bd_ob h
    have hj10 : j10 < N 16 := (hwf.2.1 1 j0 56 _ e11 (by decide) hj0)
    refine me_opt (j := j10) e11 ?_
    refine lv_sipush (v := 30075) hx hb d_M_subtract_158 (by decide) ?_
    obtain ⟨g12, h⟩ := gd_ob h
    refine me_lald hx hb hK hP hwf hj10 (me_in (i := (30075 : Int32)) (k := 30075) (by decide) (by decide) g12) d_M_subtract_161 ?_
    refine fg_topl (y := mL M 16 j10 30075) (congrArg _ (by decide)) ?_
    refine lv_aload_n hx hb d_M_subtract_162 rfl (lv_at hl 0 rfl) ?_
    refine g_M_57 hx hb hts hown hK hP hwf hj0 (hts _ u_1798) d_M_subtract_163 ?_
    obtain ⟨j13, e14, h⟩ := bd_ob h
    have hj13 : j13 < N 16 := (hwf.2.1 1 j0 57 _ e14 (by decide) hj0)
    refine me_opt (j := j13) e14 ?_
    refine lv_sipush (v := 30076) hx hb d_M_subtract_166 (by decide) ?_
    obtain ⟨g15, h⟩ := gd_ob h
    refine me_lald hx hb hK hP hwf hj13 (me_in (i := (30076 : Int32)) (k := 30076) (by decide) (by decide) g15) d_M_subtract_169 ?_
    refine fg_topl (y := mL M 16 j13 30076) (congrArg _ (by decide)) ?_
    refine lv_lsub hx hb d_M_subtract_170 ?_
    obtain ⟨v16, ev16, h⟩ := st_ob h
    refine fg_topl (y := v16) ev16.symm ?_
    refine lv_lstore (lv' := [(5, .long v16), (0, .ref (ad 1 j0))]) hx hb d_M_subtract_171 hl (by decide) rfl (fun ls hl => ?_)
    refine lv_aload_n hx hb d_M_subtract_173 rfl (lv_at hl 1 rfl) ?_
    refine g_M_57 hx hb hts hown hK hP hwf hj0 (hts _ u_1798) d_M_subtract_174 ?_
    refine me_opt (j := j13) e14 ?_
    refine lv_sipush (v := 30075) hx hb d_M_subtract_177 (by decide) ?_
    obtain ⟨g17, h⟩ := gd_ob h
    refine me_lald hx hb hK hP hwf hj13 (me_in (i := (30075 : Int32)) (k := 30075) (by decide) (by decide) g17) d_M_subtract_180 ?_
    refine fg_topl (y := mL M 16 j13 30075) (congrArg _ (by decide)) ?_
    refine lv_aload_n hx hb d_M_subtract_181 rfl (lv_at hl 1 rfl) ?_
    refine g_M_56 hx hb hts hown hK hP hwf hj0 (hts _ u_1797) d_M_subtract_182 ?_
    refine me_opt (j := j10) e11 ?_
    refine lv_sipush (v := 30076) hx hb d_M_subtract_185 (by decide) ?_
    obtain ⟨g18, h⟩ := gd_ob h
    refine me_lald hx hb hK hP hwf hj10 (me_in (i := (30076 : Int32)) (k := 30076) (by decide) (by decide) g18) d_M_subtract_188 ?_
    refine fg_topl (y := mL M 16 j10 30076) (congrArg _ (by decide)) ?_
    refine lv_lsub hx hb d_M_subtract_189 ?_
    obtain ⟨v19, ev19, h⟩ := st_ob h
    refine fg_topl (y := v19) ev19.symm ?_
    refine lv_lstore (lv' := [(7, .long v19), (5, .long v16), (0, .ref (ad 1 j0))]) hx hb d_M_subtract_190 hl (by decide) rfl (fun ls hl => ?_)
    refine lv_aload_n hx hb d_M_subtract_192 rfl (lv_at hl 2 rfl) ?_
    refine g_M_56 hx hb hts hown hK hP hwf hj0 (hts _ u_1797) d_M_subtract_193 ?_
    refine me_opt (j := j10) e11 ?_
    refine lv_sipush (v := 30075) hx hb d_M_subtract_196 (by decide) ?_
    refine me_lald hx hb hK hP hwf hj10 (me_in (i := (30075 : Int32)) (k := 30075) (by decide) (by decide) g12) d_M_subtract_199 ?_
    refine fg_topl (y := mL M 16 j10 30075) (congrArg _ (by decide)) ?_
    refine lv_aload_n hx hb d_M_subtract_200 rfl (lv_at hl 2 rfl) ?_
    refine g_M_57 hx hb hts hown hK hP hwf hj0 (hts _ u_1798) d_M_subtract_201 ?_
    refine me_opt (j := j13) e14 ?_
    refine lv_sipush (v := 30076) hx hb d_M_subtract_204 (by decide) ?_
    refine me_lald hx hb hK hP hwf hj13 (me_in (i := (30076 : Int32)) (k := 30076) (by decide) (by decide) g15) d_M_subtract_207 ?_
    refine fg_topl (y := mL M 16 j13 30076) (congrArg _ (by decide)) ?_
    refine lv_lxor hx hb d_M_subtract_208 ?_
    refine lv_aload_n hx hb d_M_subtract_209 rfl (lv_at hl 2 rfl) ?_
    refine g_M_56 hx hb hts hown hK hP hwf hj0 (hts _ u_1797) d_M_subtract_210 ?_
    refine me_opt (j := j10) e11 ?_
    refine lv_sipush (v := 30075) hx hb d_M_subtract_213 (by decide) ?_
    refine me_lald hx hb hK hP hwf hj10 (me_in (i := (30075 : Int32)) (k := 30075) (by decide) (by decide) g12) d_M_subtract_216 ?_
    refine fg_topl (y := mL M 16 j10 30075) (congrArg _ (by decide)) ?_
    refine lv_lload hx hb d_M_subtract_217 (lv_at hl 1 rfl) ?_
    refine lv_lxor hx hb d_M_subtract_219 ?_
    refine lv_land hx hb d_M_subtract_220 ?_
    obtain ⟨v20, ev20, h⟩ := st_ob h
    refine fg_topl (y := v20) ev20.symm ?_
    refine lv_lconst (v := 0) hx hb d_M_subtract_221 (by decide) ?_
    refine W.lcmp hx hb d_M_subtract_222 ?_
    refine lv_if_lt (tgt := 260) hx hb d_M_subtract_223 (by decide) (fun c21 => ?_) (fun c21 => ?_)
    · have h := if_t ((lg_cmp_lt _ _).mp c21) h
      exact b_260 M v16 v19 _ _ _ h hwf hkp hP hD hS (lv_sub hl [2, 1, 0] rfl)
    have h := if_f (fun z => c21 ((lg_cmp_lt _ _).mpr z)) h
    refine lv_aload_n hx hb d_M_subtract_226 rfl (lv_at hl 2 rfl) ?_
    refine g_M_57 hx hb hts hown hK hP hwf hj0 (hts _ u_1798) d_M_subtract_227 ?_
    refine me_opt (j := j13) e14 ?_
    refine lv_sipush (v := 30075) hx hb d_M_subtract_230 (by decide) ?_
    refine me_lald hx hb hK hP hwf hj13 (me_in (i := (30075 : Int32)) (k := 30075) (by decide) (by decide) g17) d_M_subtract_233 ?_
    refine fg_topl (y := mL M 16 j13 30075) (congrArg _ (by decide)) ?_
    refine lv_aload_n hx hb d_M_subtract_234 rfl (lv_at hl 2 rfl) ?_
    refine g_M_56 hx hb hts hown hK hP hwf hj0 (hts _ u_1797) d_M_subtract_235 ?_
    refine me_opt (j := j10) e11 ?_
    refine lv_sipush (v := 30076) hx hb d_M_subtract_238 (by decide) ?_
    refine me_lald hx hb hK hP hwf hj10 (me_in (i := (30076 : Int32)) (k := 30076) (by decide) (by decide) g18) d_M_subtract_241 ?_
    refine fg_topl (y := mL M 16 j10 30076) (congrArg _ (by decide)) ?_
    refine lv_lxor hx hb d_M_subtract_242 ?_
    refine lv_aload_n hx hb d_M_subtract_243 rfl (lv_at hl 2 rfl) ?_
    refine g_M_57 hx hb hts hown hK hP hwf hj0 (hts _ u_1798) d_M_subtract_244 ?_
    refine me_opt (j := j13) e14 ?_
    refine lv_sipush (v := 30075) hx hb d_M_subtract_247 (by decide) ?_
    refine me_lald hx hb hK hP hwf hj13 (me_in (i := (30075 : Int32)) (k := 30075) (by decide) (by decide) g17) d_M_subtract_250 ?_
    refine fg_topl (y := mL M 16 j13 30075) (congrArg _ (by decide)) ?_
    refine lv_lload hx hb d_M_subtract_251 (lv_at hl 0 rfl) ?_
    refine lv_lxor hx hb d_M_subtract_253 ?_
    refine lv_land hx hb d_M_subtract_254 ?_
    obtain ⟨v22, ev22, h⟩ := st_ob h
    refine fg_topl (y := v22) ev22.symm ?_
    refine lv_lconst (v := 0) hx hb d_M_subtract_255 (by decide) ?_
    refine W.lcmp hx hb d_M_subtract_256 ?_
    refine lv_if_ge (tgt := 264) hx hb d_M_subtract_257 (by decide) (fun c23 => ?_) (fun c23 => ?_)
    · have h := if_f (Int64.not_lt.mpr ((lg_cmp_ge _ _).mp c23)) h
      refine lv_iconst (v := 0) hx hb d_M_subtract_264 (by decide) ?_
      exact b_265 M v16 v19 (0 : Int32) _ _ _ h (by decide) hwf hkp hP hD hS (lv_sub hl [2, 1, 0] rfl)
    have h := if_t (Int64.not_le.mp (fun z => c23 ((lg_cmp_ge _ _).mpr z))) h
    exact b_260 M v16 v19 _ _ _ h hwf hkp hP hD hS (lv_sub hl [2, 1, 0] rfl)
  refine lv_aload_n hx hb d_M_subtract_0 rfl (lv_at hl 0 rfl) ?_
  refine g_M_52 hx hb hts hown hK hP hwf hj0 (hts _ u_1793) d_M_subtract_1 ?_
  obtain ⟨j24, e25, h⟩ := bd_ob h
  have hj24 : j24 < N 16 := (hwf.2.1 1 j0 52 _ e25 (by decide) hj0)
  refine me_opt (j := j24) e25 ?_
  refine lv_sipush (v := 30075) hx hb d_M_subtract_4 (by decide) ?_
  obtain ⟨g26, h⟩ := gd_ob h
  refine me_lald hx hb hK hP hwf hj24 (me_in (i := (30075 : Int32)) (k := 30075) (by decide) (by decide) g26) d_M_subtract_7 ?_
  refine fg_topl (y := mL M0 16 j24 30075) (congrArg _ (by decide)) ?_
  refine lv_aload_n hx hb d_M_subtract_8 rfl (lv_at hl 0 rfl) ?_
  refine g_M_52 hx hb hts hown hK hP hwf hj0 (hts _ u_1793) d_M_subtract_9 ?_
  refine me_opt (j := j24) e25 ?_
  refine lv_sipush (v := 30076) hx hb d_M_subtract_12 (by decide) ?_
  obtain ⟨g27, h⟩ := gd_ob h
  refine me_lald hx hb hK hP hwf hj24 (me_in (i := (30076 : Int32)) (k := 30076) (by decide) (by decide) g27) d_M_subtract_15 ?_
  refine fg_topl (y := mL M0 16 j24 30076) (congrArg _ (by decide)) ?_
  refine lv_lsub hx hb d_M_subtract_16 ?_
  obtain ⟨v28, ev28, h⟩ := st_ob h
  refine fg_topl (y := v28) ev28.symm ?_
  refine lv_lstore_n (lv' := [(1, .long v28), (0, .ref (ad 1 j0))]) hx hb d_M_subtract_17 rfl hl (by decide) rfl (fun ls hl => ?_)
  refine lv_lload_n hx hb d_M_subtract_18 rfl (lv_at hl 0 rfl) ?_
  refine lv_aload_n hx hb d_M_subtract_19 rfl (lv_at hl 1 rfl) ?_
  refine g_M_53 hx hb hts hown hK hP hwf hj0 (hts _ u_1794) d_M_subtract_20 ?_
  obtain ⟨j29, e30, h⟩ := bd_ob h
  have hj29 : j29 < N 16 := (hwf.2.1 1 j0 53 _ e30 (by decide) hj0)
  refine me_opt (j := j29) e30 ?_
  refine lv_sipush (v := 30075) hx hb d_M_subtract_23 (by decide) ?_
  obtain ⟨g31, h⟩ := gd_ob h
  refine me_lald hx hb hK hP hwf hj29 (me_in (i := (30075 : Int32)) (k := 30075) (by decide) (by decide) g31) d_M_subtract_26 ?_
  refine fg_topl (y := mL M0 16 j29 30075) (congrArg _ (by decide)) ?_
  refine lv_ladd hx hb d_M_subtract_27 ?_
  refine lv_lload_n hx hb d_M_subtract_28 rfl (lv_at hl 0 rfl) ?_
  refine lv_aload_n hx hb d_M_subtract_29 rfl (lv_at hl 1 rfl) ?_
  refine g_M_53 hx hb hts hown hK hP hwf hj0 (hts _ u_1794) d_M_subtract_30 ?_
  refine me_opt (j := j29) e30 ?_
  refine lv_sipush (v := 30076) hx hb d_M_subtract_33 (by decide) ?_
  obtain ⟨g32, h⟩ := gd_ob h
  refine me_lald hx hb hK hP hwf hj29 (me_in (i := (30076 : Int32)) (k := 30076) (by decide) (by decide) g32) d_M_subtract_36 ?_
  refine fg_topl (y := mL M0 16 j29 30076) (congrArg _ (by decide)) ?_
  refine lv_lsub hx hb d_M_subtract_37 ?_
  refine lv_lxor hx hb d_M_subtract_38 ?_
  refine lv_aload_n hx hb d_M_subtract_39 rfl (lv_at hl 1 rfl) ?_
  refine g_M_53 hx hb hts hown hK hP hwf hj0 (hts _ u_1794) d_M_subtract_40 ?_
  refine me_opt (j := j29) e30 ?_
  refine lv_sipush (v := 30075) hx hb d_M_subtract_43 (by decide) ?_
  refine me_lald hx hb hK hP hwf hj29 (me_in (i := (30075 : Int32)) (k := 30075) (by decide) (by decide) g31) d_M_subtract_46 ?_
  refine fg_topl (y := mL M0 16 j29 30075) (congrArg _ (by decide)) ?_
  refine lv_lor hx hb d_M_subtract_47 ?_
  obtain ⟨v33, ev33, h⟩ := st_ob h
  refine fg_topl (y := v33) ev33.symm ?_
  refine lv_aload_n hx hb d_M_subtract_48 rfl (lv_at hl 1 rfl) ?_
  refine g_M_53 hx hb hts hown hK hP hwf hj0 (hts _ u_1794) d_M_subtract_49 ?_
  refine me_opt (j := j29) e30 ?_
  refine lv_sipush (v := 30076) hx hb d_M_subtract_52 (by decide) ?_
  refine me_lald hx hb hK hP hwf hj29 (me_in (i := (30076 : Int32)) (k := 30076) (by decide) (by decide) g32) d_M_subtract_55 ?_
  refine fg_topl (y := mL M0 16 j29 30076) (congrArg _ (by decide)) ?_
  refine lv_lor hx hb d_M_subtract_56 ?_
  obtain ⟨v34, ev34, h⟩ := st_ob h
  refine fg_topl (y := v34) ev34.symm ?_
  refine lv_lstore_n (lv' := [(3, .long v34), (1, .long v28), (0, .ref (ad 1 j0))]) hx hb d_M_subtract_57 rfl hl (by decide) rfl (fun ls hl => ?_)
  refine lv_aload_n hx hb d_M_subtract_58 rfl (lv_at hl 2 rfl) ?_
  refine g_M_53 hx hb hts hown hK hP hwf hj0 (hts _ u_1794) d_M_subtract_59 ?_
  refine me_opt (j := j29) e30 ?_
  refine lv_sipush (v := 30077) hx hb d_M_subtract_62 (by decide) ?_
  refine lv_lload_n hx hb d_M_subtract_65 rfl (lv_at hl 0 rfl) ?_
  obtain ⟨g35, h⟩ := gd_ob h
  obtain ⟨M36, eM36, h⟩ := st_ob h
  refine me_last (eM36.trans (by rw [show (30077 : Int32).toNatClampNeg = 30077 by decide])) hx hb hK hP hD hwf hS hj29 (me_in (i := (30077 : Int32)) (k := 30077) (by decide) (by decide) g35) d_M_subtract_66 (fun H locs hP hD hwf hS => ?_)
  have hkp := kp_L eM36 hkp
  refine lv_aload_n hx hb d_M_subtract_67 rfl (lv_at hl 2 rfl) ?_
  refine g_M_52 hx hb hts hown hK hP hwf hj0 (hts _ u_1793) d_M_subtract_68 ?_
  refine me_opt (j := j24) (kp_r hkb hkp e25) ?_
  refine lv_sipush (v := 30077) hx hb d_M_subtract_71 (by decide) ?_
  refine lv_lload_n hx hb d_M_subtract_74 rfl (lv_at hl 1 rfl) ?_
  refine lv_lload_n hx hb d_M_subtract_75 rfl (lv_at hl 0 rfl) ?_
  refine lv_ldc2 hx hb hown (hts _ u_2071) d_M_subtract_76 ?_
  refine lv_lxor hx hb d_M_subtract_79 ?_
  refine lv_land hx hb d_M_subtract_80 ?_
  obtain ⟨g37, h⟩ := gd_ob h
  obtain ⟨M38, eM38, h⟩ := st_ob h
  refine me_last (eM38.trans (by rw [show (30077 : Int32).toNatClampNeg = 30077 by decide])) hx hb hK hP hD hwf hS hj24 (me_in (i := (30077 : Int32)) (k := 30077) (by decide) (by decide) (kp_c hkb.z hkp.z g37)) d_M_subtract_81 (fun H locs hP hD hwf hS => ?_)
  have hkp := kp_L eM38 hkp
  refine lv_aload_n hx hb d_M_subtract_82 rfl (lv_at hl 2 rfl) ?_
  refine g_M_54 hx hb hts hown hK hP hwf hj0 (hts _ u_1795) d_M_subtract_83 ?_
  obtain ⟨j39, e40, h⟩ := bd_ob h
  have hj39 : j39 < N 16 := (hwf.2.1 1 j0 54 _ (kp_r hkb hkp e40) (by decide) hj0)
  refine me_opt (j := j39) (kp_r hkb hkp e40) ?_
  refine lv_sipush (v := 30075) hx hb d_M_subtract_86 (by decide) ?_
  obtain ⟨g41, h⟩ := gd_ob h
  refine me_lald hx hb hK hP hwf hj39 (me_in (i := (30075 : Int32)) (k := 30075) (by decide) (by decide) (kp_c hkb.z hkp.z g41)) d_M_subtract_89 ?_
  refine fg_topl (y := mL M38 16 j39 30075) (congrArg _ (by decide)) ?_
  refine lv_aload_n hx hb d_M_subtract_90 rfl (lv_at hl 2 rfl) ?_
  refine g_M_55 hx hb hts hown hK hP hwf hj0 (hts _ u_1796) d_M_subtract_91 ?_
  obtain ⟨j42, e43, h⟩ := bd_ob h
  have hj42 : j42 < N 16 := (hwf.2.1 1 j0 55 _ (kp_r hkb hkp e43) (by decide) hj0)
  refine me_opt (j := j42) (kp_r hkb hkp e43) ?_
  refine lv_sipush (v := 30076) hx hb d_M_subtract_94 (by decide) ?_
  obtain ⟨g44, h⟩ := gd_ob h
  refine me_lald hx hb hK hP hwf hj42 (me_in (i := (30076 : Int32)) (k := 30076) (by decide) (by decide) (kp_c hkb.z hkp.z g44)) d_M_subtract_97 ?_
  refine fg_topl (y := mL M38 16 j42 30076) (congrArg _ (by decide)) ?_
  obtain ⟨r45, er45, h⟩ := bd_ob h
  refine me_pani' (r0 := r45) (fg_runS (wc := []) (tc := []) (A2 := A) (As := [.long (mL M38 16 j39 30075), .long (mL M38 16 j42 30076)]) (rest := []) ⟨hx, hb, hml, hown, hts⟩ (c_M_below l D r45 (mL M38 16 j39 30075) (mL M38 16 j42 30076) er45 _) (by show fg_nm y_M_below 2; decide +kernel) u_2072 u_2073 u_192 u_2074 ⟨Nat.le_of_ble_eq_true rfl, Nat.le_of_ble_eq_true rfl⟩ hX me_P0 (hK.sub (tys' := []) [] rfl) me_D0 rfl hl.1 (Nat.le_of_ble_eq_true rfl) d_M_subtract_98 ⟨Nat.le_of_ble_eq_true rfl, Nat.le_of_ble_eq_true rfl⟩) hP hD hK hS hA rfl rfl (fun H locs hw hP hD hS => ?_)
  have zr45 := hw
  refine lv_if_ne (tgt := 154) hx hb d_M_subtract_101 (by decide) (fun c46 => ?_) (fun c46 => ?_)
  · have h := if_f c46 h
    exact b_154 M38 _ _ _ h hwf hkp hP hD hS (lv_sub hl [2] rfl)
  have h := if_t c46 h
  refine lv_aload_n hx hb d_M_subtract_104 rfl (lv_at hl 2 rfl) ?_
  refine g_M_54 hx hb hts hown hK hP hwf hj0 (hts _ u_1795) d_M_subtract_105 ?_
  refine me_opt (j := j39) (kp_r hkb hkp e40) ?_
  refine lv_sipush (v := 30077) hx hb d_M_subtract_108 (by decide) ?_
  refine lv_aload_n hx hb d_M_subtract_111 rfl (lv_at hl 2 rfl) ?_
  refine g_M_54 hx hb hts hown hK hP hwf hj0 (hts _ u_1795) d_M_subtract_112 ?_
  refine me_opt (j := j39) (kp_r hkb hkp e40) ?_
  refine lv_sipush (v := 30075) hx hb d_M_subtract_115 (by decide) ?_
  refine me_lald hx hb hK hP hwf hj39 (me_in (i := (30075 : Int32)) (k := 30075) (by decide) (by decide) (kp_c hkb.z hkp.z g41)) d_M_subtract_118 ?_
  refine fg_topl (y := mL M38 16 j39 30075) (congrArg _ (by decide)) ?_
  refine lv_aload_n hx hb d_M_subtract_119 rfl (lv_at hl 2 rfl) ?_
  refine g_M_55 hx hb hts hown hK hP hwf hj0 (hts _ u_1796) d_M_subtract_120 ?_
  refine me_opt (j := j42) (kp_r hkb hkp e43) ?_
  refine lv_sipush (v := 30076) hx hb d_M_subtract_123 (by decide) ?_
  refine me_lald hx hb hK hP hwf hj42 (me_in (i := (30076 : Int32)) (k := 30076) (by decide) (by decide) (kp_c hkb.z hkp.z g44)) d_M_subtract_126 ?_
  refine fg_topl (y := mL M38 16 j42 30076) (congrArg _ (by decide)) ?_
  refine lv_lsub hx hb d_M_subtract_127 ?_
  obtain ⟨g47, h⟩ := gd_ob h
  obtain ⟨M48, eM48, h⟩ := st_ob h
  refine me_last (eM48.trans (by rw [show (30077 : Int32).toNatClampNeg = 30077 by decide])) hx hb hK hP hD hwf hS hj39 (me_in (i := (30077 : Int32)) (k := 30077) (by decide) (by decide) (kp_c hkb.z hkp.z g47)) d_M_subtract_128 (fun H locs hP hD hwf hS => ?_)
  have hkp := kp_L eM48 hkp
  refine lv_aload_n hx hb d_M_subtract_129 rfl (lv_at hl 2 rfl) ?_
  refine g_M_55 hx hb hts hown hK hP hwf hj0 (hts _ u_1796) d_M_subtract_130 ?_
  refine me_opt (j := j42) (kp_r hkb hkp e43) ?_
  refine lv_sipush (v := 30077) hx hb d_M_subtract_133 (by decide) ?_
  refine lv_aload_n hx hb d_M_subtract_136 rfl (lv_at hl 2 rfl) ?_
  refine g_M_55 hx hb hts hown hK hP hwf hj0 (hts _ u_1796) d_M_subtract_137 ?_
  refine me_opt (j := j42) (kp_r hkb hkp e43) ?_
  refine lv_sipush (v := 30075) hx hb d_M_subtract_140 (by decide) ?_
  obtain ⟨g49, h⟩ := gd_ob h
  refine me_lald hx hb hK hP hwf hj42 (me_in (i := (30075 : Int32)) (k := 30075) (by decide) (by decide) (kp_c hkb.z hkp.z g49)) d_M_subtract_143 ?_
  refine fg_topl (y := mL M48 16 j42 30075) (congrArg _ (by decide)) ?_
  refine lv_aload_n hx hb d_M_subtract_144 rfl (lv_at hl 2 rfl) ?_
  refine g_M_54 hx hb hts hown hK hP hwf hj0 (hts _ u_1795) d_M_subtract_145 ?_
  refine me_opt (j := j39) (kp_r hkb hkp e40) ?_
  refine lv_sipush (v := 30076) hx hb d_M_subtract_148 (by decide) ?_
  obtain ⟨g50, h⟩ := gd_ob h
  refine me_lald hx hb hK hP hwf hj39 (me_in (i := (30076 : Int32)) (k := 30076) (by decide) (by decide) (kp_c hkb.z hkp.z g50)) d_M_subtract_151 ?_
  refine fg_topl (y := mL M48 16 j39 30076) (congrArg _ (by decide)) ?_
  refine lv_lsub hx hb d_M_subtract_152 ?_
  obtain ⟨g51, h⟩ := gd_ob h
  obtain ⟨M52, eM52, h⟩ := st_ob h
  refine me_last (eM52.trans (by rw [show (30077 : Int32).toNatClampNeg = 30077 by decide])) hx hb hK hP hD hwf hS hj42 (me_in (i := (30077 : Int32)) (k := 30077) (by decide) (by decide) (kp_c hkb.z hkp.z g51)) d_M_subtract_153 (fun H locs hP hD hwf hS => ?_)
  have hkp := kp_L eM52 hkp
  exact b_154 M52 _ _ _ h hwf hkp hP hD hS (lv_sub hl [2] rfl)
theorem d_M_zeros_2 : decode prog_14_method_20_code 2 = .ok (.iload_n 2, 1) := by decide +kernel
theorem d_M_zeros_3 : decode prog_14_method_20_code 3 = .ok (.bipush 64, 2) := by decide +kernel
theorem d_M_zeros_5 : decode prog_14_method_20_code 5 = .ok (.if_icmp .ge 31, 3) := by decide +kernel
theorem d_M_zeros_36 : decode prog_14_method_20_code 36 = .ok (.iload_n 2, 1) := by decide +kernel
theorem d_M_zeros_37 : decode prog_14_method_20_code 37 = .ok (.ireturn, 1) := by decide +kernel
theorem d_M_zeros_8 : decode prog_14_method_20_code 8 = .ok (.aload_n 0, 1) := by decide +kernel
theorem d_M_zeros_9 : decode prog_14_method_20_code 9 = .ok (.getfield 104, 3) := by decide +kernel
theorem d_M_zeros_12 : decode prog_14_method_20_code 12 = .ok (.iload_n 1, 1) := by decide +kernel
theorem d_M_zeros_13 : decode prog_14_method_20_code 13 = .ok (.laload, 1) := by decide +kernel
theorem d_M_zeros_14 : decode prog_14_method_20_code 14 = .ok (.aload_n 0, 1) := by decide +kernel
theorem d_M_zeros_15 : decode prog_14_method_20_code 15 = .ok (.getfield 107, 3) := by decide +kernel
theorem d_M_zeros_18 : decode prog_14_method_20_code 18 = .ok (.iload_n 1, 1) := by decide +kernel
theorem d_M_zeros_19 : decode prog_14_method_20_code 19 = .ok (.laload, 1) := by decide +kernel
theorem d_M_zeros_20 : decode prog_14_method_20_code 20 = .ok (.lor, 1) := by decide +kernel
theorem d_M_zeros_21 : decode prog_14_method_20_code 21 = .ok (.iload_n 2, 1) := by decide +kernel
theorem d_M_zeros_22 : decode prog_14_method_20_code 22 = .ok (.lshr, 1) := by decide +kernel
theorem d_M_zeros_23 : decode prog_14_method_20_code 23 = .ok (.lconst 1, 1) := by decide +kernel
theorem d_M_zeros_24 : decode prog_14_method_20_code 24 = .ok (.land, 1) := by decide +kernel
theorem d_M_zeros_25 : decode prog_14_method_20_code 25 = .ok (.lconst 0, 1) := by decide +kernel
theorem d_M_zeros_26 : decode prog_14_method_20_code 26 = .ok (.lcmp, 1) := by decide +kernel
theorem d_M_zeros_27 : decode prog_14_method_20_code 27 = .ok (.ifCond .ne 9, 3) := by decide +kernel
theorem d_M_zeros_30 : decode prog_14_method_20_code 30 = .ok (.iinc 2 1, 3) := by decide +kernel
theorem d_M_zeros_33 : decode prog_14_method_20_code 33 = .ok (.goto (-31), 3) := by decide +kernel
theorem d_M_zeros_0 : decode prog_14_method_20_code 0 = .ok (.iconst 0, 1) := by decide +kernel
theorem d_M_zeros_1 : decode prog_14_method_20_code 1 = .ok (.istore_n 2, 1) := by decide +kernel
abbrev y_M_zeros : MethodName := ⟨"FilterGuardModel", "zeros", "(I)I"⟩
def f_M_zeros_l2 (j0 : Nat) (x1 : Int32) : Nat → me_M → Int32 → Option (me_M × Int32)
  | 0, _, _ => none
  | fu + 1, M, y2 => (if 64 ≤ y2 then some (M, y2) else bd (mR M 1 j0 52) (fun (j2 : Nat) => gd (¬ (x1 < 0 ∨ mZ M 16 j2 ≤ x1.toNatClampNeg)) (bd (mR M 1 j0 53) (fun (j5 : Nat) => gd (¬ (x1 < 0 ∨ mZ M 16 j5 ≤ x1.toNatClampNeg)) (st (jlshr ((mL M 16 j2 x1.toNatClampNeg) ||| (mL M 16 j5 x1.toNatClampNeg)) y2) (fun (v8 : Int64) => (if (v8 &&& 1) = 0 then f_M_zeros_l2 j0 x1 fu M (y2 + 1) else some (M, y2))))))))
def f_M_zeros (M0 : me_M) (j0 : Nat) (x1 : Int32) : Option (me_M × Int32) := f_M_zeros_l2 j0 x1 fuel M0 (0 : Int32)
def rm_M_zeros : Room := { frames := 1, cells := 0, slots := 0, locals := 20 }
abbrev q_M_zeros (D : va_G) (ad : Nat → Nat → Nat) (ca : Nat → ClassId) (N : Nat → Nat) (M0 MZ : me_M) (RZ : Int32) (A : Nat → Prop) : Array Value → Jvm.State → Outcome → Jvm.State → Prop := va_Qi (fun r (_ : Unit) => r = RZ ∧ me_wf N MZ ∧ me_kp M0 MZ) (fg_B D A (fun _ => me_W ad ca MZ) (fun _ => [])) A
set_option maxHeartbeats 4000000 in
set_option maxRecDepth 100000 in
theorem c_M_zeros (l : Launch) (D : va_G) (ad : Nat → Nat → Nat) (ca : Nat → ClassId) (N : Nat → Nat) (M0 MZ : me_M) (RZ : Int32) (j0 : Nat) (x1 : Int32) (h : f_M_zeros M0 j0 x1 = (some (MZ, RZ))) (hwf : me_wf N M0) (hj0 : j0 < N 1) (sz : Nat) : Met l y_M_zeros (fg_w y_M_zeros prog_14_method_20_code 3 (some .int)) rm_M_zeros (va_Pc [.ref (ad 1 j0), .int x1] (fz_P D (me_T ca) (me_W ad ca M0) sz)) (q_M_zeros D ad ca N M0 MZ RZ (va_A (me_W ad ca M0) sz)) rm_M_zeros.cells rm_M_zeros.slots (va_A (me_W ad ca M0) sz) := by
  refine fz_enter (fun A => q_M_zeros D ad ca N M0 MZ RZ A) (by decide +kernel) (Nat.le_of_ble_eq_true rfl) ?_
  intro p e s m below meth c ls A hx hb hml hown hts hr hlocks hin hP hK hD hS hA hX hl hz
  have hl : lv_has ls 3 [(0, .ref (ad 1 j0)), (1, .int x1)] := hl
  unfold f_M_zeros at h
  have hkp : me_kp M0 M0 := me_kp.rf
  have hkb := hkp
  have b_2 : ∀ (fu : Nat), ∀ (M : me_M) (y2 : Int32) (H : Heap) (locs : List Loc) (ls : Array Slot), f_M_zeros_l2 j0 x1 fu M y2 = (some (MZ, RZ)) → me_wf N M → me_kp M0 M → va_P D classes (me_W ad ca M) H → va_D A (me_W ad ca M) → va_S A s.heap H locs → lv_has ls 3 [(0, .ref (ad 1 j0)), (1, .int x1), (2, .int y2)] → W p l e rm_M_zeros s m [.ref (ad 1 j0), .int x1].toArray below meth c H locs 0 0 (MQ below (q_M_zeros D ad ca N M0 MZ RZ A) [.ref (ad 1 j0), .int x1].toArray s rm_M_zeros.cells rm_M_zeros.slots A) (F0 m 2 ls []) := by
    intro fu
    induction fu with
    | zero =>
      intro M y2 H locs ls h hwf hkp hP hD hS hl
      cases h
    | succ fu ih =>
      intro M y2 H locs ls h hwf hkp hP hD hS hl
      unfold f_M_zeros_l2 at h
      have hkb := hkp
      refine lv_iload_n hx hb d_M_zeros_2 rfl (lv_at hl 2 rfl) ?_
      refine lv_bipush (v := 64) hx hb d_M_zeros_3 (by decide) ?_
      refine lv_icmp_ge (tgt := 36) hx hb d_M_zeros_5 (by decide) (fun c1 => ?_) (fun c1 => ?_)
      · have h := if_t c1 h
        refine lv_iload_n hx hb d_M_zeros_36 rfl (lv_at hl 2 rfl) ?_
        cases h
        exact fg_reti () hx hb hr hlocks ⟨rfl, ⟨hwf, hkp⟩⟩ hP (hK.sub (tys' := []) [] rfl) hD hS (Nat.le_of_ble_eq_true rfl) (Nat.le_of_ble_eq_true rfl) d_M_zeros_37
      have h := if_f c1 h
      refine lv_aload_n hx hb d_M_zeros_8 rfl (lv_at hl 0 rfl) ?_
      refine g_M_52 hx hb hts hown hK hP hwf hj0 (hts _ u_1793) d_M_zeros_9 ?_
      obtain ⟨j2, e3, h⟩ := bd_ob h
      have hj2 : j2 < N 16 := (hwf.2.1 1 j0 52 _ e3 (by decide) hj0)
      refine me_opt (j := j2) e3 ?_
      refine lv_iload_n hx hb d_M_zeros_12 rfl (lv_at hl 1 rfl) ?_
      obtain ⟨g4, h⟩ := gd_ob h
      refine me_lald hx hb hK hP hwf hj2 g4 d_M_zeros_13 ?_
      refine lv_aload_n hx hb d_M_zeros_14 rfl (lv_at hl 0 rfl) ?_
      refine g_M_53 hx hb hts hown hK hP hwf hj0 (hts _ u_1794) d_M_zeros_15 ?_
      obtain ⟨j5, e6, h⟩ := bd_ob h
      have hj5 : j5 < N 16 := (hwf.2.1 1 j0 53 _ e6 (by decide) hj0)
      refine me_opt (j := j5) e6 ?_
      refine lv_iload_n hx hb d_M_zeros_18 rfl (lv_at hl 1 rfl) ?_
      obtain ⟨g7, h⟩ := gd_ob h
      refine me_lald hx hb hK hP hwf hj5 g7 d_M_zeros_19 ?_
      refine lv_lor hx hb d_M_zeros_20 ?_
      refine lv_iload_n hx hb d_M_zeros_21 rfl (lv_at hl 2 rfl) ?_
      refine lv_lshr (v := jlshr ((mL M 16 j2 x1.toNatClampNeg) ||| (mL M 16 j5 x1.toNatClampNeg)) y2) hx hb d_M_zeros_22 rfl ?_
      obtain ⟨v8, ev8, h⟩ := st_ob h
      refine fg_topl (y := v8) ev8.symm ?_
      refine lv_lconst (v := 1) hx hb d_M_zeros_23 (by decide) ?_
      refine lv_land hx hb d_M_zeros_24 ?_
      refine lv_lconst (v := 0) hx hb d_M_zeros_25 (by decide) ?_
      refine W.lcmp hx hb d_M_zeros_26 ?_
      refine lv_if_ne (tgt := 36) hx hb d_M_zeros_27 (by decide) (fun c9 => ?_) (fun c9 => ?_)
      · have h := if_f (fun z => c9 ((lg_cmp_eq _ _).mpr z)) h
        refine lv_iload_n hx hb d_M_zeros_36 rfl (lv_at hl 2 rfl) ?_
        cases h
        exact fg_reti () hx hb hr hlocks ⟨rfl, ⟨hwf, hkp⟩⟩ hP (hK.sub (tys' := []) [] rfl) hD hS (Nat.le_of_ble_eq_true rfl) (Nat.le_of_ble_eq_true rfl) d_M_zeros_37
      have h := if_t ((lg_cmp_eq _ _).mp c9) h
      refine lv_iinc (v := y2 + 1) (lv' := [(2, .int (y2 + 1)), (0, .ref (ad 1 j0)), (1, .int x1)]) hx hb d_M_zeros_30 hl (k := 2) rfl (by rfl) (by decide) rfl (fun ls hl => ?_)
      refine lv_goto (tgt := 2) hx hb d_M_zeros_33 (by decide) ?_
      exact ih M (y2 + 1) _ _ _ h hwf hkp hP hD hS (lv_sub hl [1, 2, 0] rfl)
  refine lv_iconst (v := 0) hx hb d_M_zeros_0 (by decide) ?_
  refine lv_istore_n (lv' := [(2, .int 0), (0, .ref (ad 1 j0)), (1, .int x1)]) hx hb d_M_zeros_1 rfl hl (by decide) rfl (fun ls hl => ?_)
  exact b_2 _ M0 (0 : Int32) _ _ _ h hwf hkp hP hD hS (lv_sub hl [1, 2, 0] rfl)
theorem d_M_multiply_83 : decode prog_14_method_21_code 83 = .ok (.lastore, 1) := by decide +kernel
theorem d_M_multiply_84 : decode prog_14_method_21_code 84 = .ok (.ldc2_w 203, 3) := by decide +kernel
theorem u_2019 : Cond.constantLong "FilterGuardModel" 203 4294967295 ∈ fg_g := fg_in (List.mem_of_getElem? (i := 2019) (by decide +kernel)) rfl
theorem d_M_multiply_87 : decode prog_14_method_21_code 87 = .ok (.aload_n 0, 1) := by decide +kernel
theorem d_M_multiply_88 : decode prog_14_method_21_code 88 = .ok (.getfield 113, 3) := by decide +kernel
theorem d_M_multiply_91 : decode prog_14_method_21_code 91 = .ok (.sipush 30075, 3) := by decide +kernel
theorem d_M_multiply_94 : decode prog_14_method_21_code 94 = .ok (.laload, 1) := by decide +kernel
theorem d_M_multiply_95 : decode prog_14_method_21_code 95 = .ok (.invokestatic 158, 3) := by decide +kernel
theorem d_M_multiply_98 : decode prog_14_method_21_code 98 = .ok (.ifCond .ne 70, 3) := by decide +kernel
theorem d_M_multiply_168 : decode prog_14_method_21_code 168 = .ok (.return_, 1) := by decide +kernel
theorem d_M_multiply_101 : decode prog_14_method_21_code 101 = .ok (.ldc2_w 203, 3) := by decide +kernel
theorem d_M_multiply_104 : decode prog_14_method_21_code 104 = .ok (.aload_n 0, 1) := by decide +kernel
theorem d_M_multiply_105 : decode prog_14_method_21_code 105 = .ok (.getfield 113, 3) := by decide +kernel
theorem d_M_multiply_108 : decode prog_14_method_21_code 108 = .ok (.sipush 30076, 3) := by decide +kernel
theorem d_M_multiply_111 : decode prog_14_method_21_code 111 = .ok (.laload, 1) := by decide +kernel
theorem d_M_multiply_112 : decode prog_14_method_21_code 112 = .ok (.invokestatic 158, 3) := by decide +kernel
theorem d_M_multiply_115 : decode prog_14_method_21_code 115 = .ok (.ifCond .ne 53, 3) := by decide +kernel
theorem d_M_multiply_118 : decode prog_14_method_21_code 118 = .ok (.aload_n 0, 1) := by decide +kernel
theorem d_M_multiply_119 : decode prog_14_method_21_code 119 = .ok (.getfield 110, 3) := by decide +kernel
theorem d_M_multiply_122 : decode prog_14_method_21_code 122 = .ok (.sipush 30077, 3) := by decide +kernel
theorem d_M_multiply_125 : decode prog_14_method_21_code 125 = .ok (.aload_n 0, 1) := by decide +kernel
theorem d_M_multiply_126 : decode prog_14_method_21_code 126 = .ok (.getfield 110, 3) := by decide +kernel
theorem d_M_multiply_129 : decode prog_14_method_21_code 129 = .ok (.sipush 30075, 3) := by decide +kernel
theorem d_M_multiply_132 : decode prog_14_method_21_code 132 = .ok (.laload, 1) := by decide +kernel
theorem d_M_multiply_133 : decode prog_14_method_21_code 133 = .ok (.aload_n 0, 1) := by decide +kernel
theorem d_M_multiply_134 : decode prog_14_method_21_code 134 = .ok (.getfield 110, 3) := by decide +kernel
theorem d_M_multiply_137 : decode prog_14_method_21_code 137 = .ok (.sipush 30076, 3) := by decide +kernel
theorem d_M_multiply_140 : decode prog_14_method_21_code 140 = .ok (.laload, 1) := by decide +kernel
theorem d_M_multiply_141 : decode prog_14_method_21_code 141 = .ok (.lmul, 1) := by decide +kernel
theorem d_M_multiply_142 : decode prog_14_method_21_code 142 = .ok (.lastore, 1) := by decide +kernel
theorem d_M_multiply_143 : decode prog_14_method_21_code 143 = .ok (.aload_n 0, 1) := by decide +kernel
theorem d_M_multiply_144 : decode prog_14_method_21_code 144 = .ok (.getfield 113, 3) := by decide +kernel
theorem d_M_multiply_147 : decode prog_14_method_21_code 147 = .ok (.sipush 30077, 3) := by decide +kernel
theorem d_M_multiply_150 : decode prog_14_method_21_code 150 = .ok (.aload_n 0, 1) := by decide +kernel
theorem d_M_multiply_151 : decode prog_14_method_21_code 151 = .ok (.getfield 113, 3) := by decide +kernel
theorem d_M_multiply_154 : decode prog_14_method_21_code 154 = .ok (.sipush 30075, 3) := by decide +kernel
theorem d_M_multiply_157 : decode prog_14_method_21_code 157 = .ok (.laload, 1) := by decide +kernel
theorem d_M_multiply_158 : decode prog_14_method_21_code 158 = .ok (.aload_n 0, 1) := by decide +kernel
theorem d_M_multiply_159 : decode prog_14_method_21_code 159 = .ok (.getfield 113, 3) := by decide +kernel
theorem d_M_multiply_162 : decode prog_14_method_21_code 162 = .ok (.sipush 30076, 3) := by decide +kernel
theorem d_M_multiply_165 : decode prog_14_method_21_code 165 = .ok (.laload, 1) := by decide +kernel
theorem d_M_multiply_166 : decode prog_14_method_21_code 166 = .ok (.lmul, 1) := by decide +kernel
theorem d_M_multiply_167 : decode prog_14_method_21_code 167 = .ok (.lastore, 1) := by decide +kernel
theorem d_M_multiply_45 : decode prog_14_method_21_code 45 = .ok (.aload_n 0, 1) := by decide +kernel
theorem d_M_multiply_46 : decode prog_14_method_21_code 46 = .ok (.sipush 30075, 3) := by decide +kernel
theorem d_M_multiply_49 : decode prog_14_method_21_code 49 = .ok (.invokevirtual 199, 3) := by decide +kernel
theorem u_2340 : Cond.methodLink "FilterGuardModel" 199 ⟨"FilterGuardModel", "zeros", "(I)I"⟩ ∈ fg_g := fg_in (List.mem_of_getElem? (i := 2340) (by decide +kernel)) rfl
theorem u_2343 : Cond.code ⟨"FilterGuardModel", "zeros", "(I)I"⟩ prog_14_method_20_code 3 (some .int) ∈ fg_g := fg_in (List.mem_of_getElem? (i := 2343) (by decide +kernel)) rfl
theorem u_2342 : Cond.instanceMethod ⟨"FilterGuardModel", "zeros", "(I)I"⟩ ∈ fg_g := fg_in (List.mem_of_getElem? (i := 2342) (by decide +kernel)) rfl
theorem u_156 : Cond.selects "FilterGuardModel" ⟨"FilterGuardModel", "zeros", "(I)I"⟩ ⟨"FilterGuardModel", "zeros", "(I)I"⟩ ∈ fg_g := fg_in (List.mem_of_getElem? (i := 156) (by decide +kernel)) rfl
theorem d_M_multiply_52 : decode prog_14_method_21_code 52 = .ok (.aload_n 0, 1) := by decide +kernel
theorem d_M_multiply_53 : decode prog_14_method_21_code 53 = .ok (.sipush 30076, 3) := by decide +kernel
theorem d_M_multiply_56 : decode prog_14_method_21_code 56 = .ok (.invokevirtual 199, 3) := by decide +kernel
theorem d_M_multiply_59 : decode prog_14_method_21_code 59 = .ok (.iadd, 1) := by decide +kernel
theorem d_M_multiply_60 : decode prog_14_method_21_code 60 = .ok (.istore_n 1, 1) := by decide +kernel
theorem d_M_multiply_61 : decode prog_14_method_21_code 61 = .ok (.aload_n 0, 1) := by decide +kernel
theorem d_M_multiply_62 : decode prog_14_method_21_code 62 = .ok (.getfield 107, 3) := by decide +kernel
theorem d_M_multiply_65 : decode prog_14_method_21_code 65 = .ok (.sipush 30077, 3) := by decide +kernel
theorem d_M_multiply_68 : decode prog_14_method_21_code 68 = .ok (.iload_n 1, 1) := by decide +kernel
theorem d_M_multiply_69 : decode prog_14_method_21_code 69 = .ok (.bipush 63, 2) := by decide +kernel
theorem d_M_multiply_71 : decode prog_14_method_21_code 71 = .ok (.if_icmp .le 7, 3) := by decide +kernel
theorem d_M_multiply_78 : decode prog_14_method_21_code 78 = .ok (.ldc2_w 162, 3) := by decide +kernel
theorem d_M_multiply_81 : decode prog_14_method_21_code 81 = .ok (.iload_n 1, 1) := by decide +kernel
theorem d_M_multiply_82 : decode prog_14_method_21_code 82 = .ok (.lshl, 1) := by decide +kernel
theorem d_M_multiply_74 : decode prog_14_method_21_code 74 = .ok (.lconst 0, 1) := by decide +kernel
theorem d_M_multiply_75 : decode prog_14_method_21_code 75 = .ok (.goto 8, 3) := by decide +kernel
theorem d_M_multiply_0 : decode prog_14_method_21_code 0 = .ok (.aload_n 0, 1) := by decide +kernel
theorem d_M_multiply_1 : decode prog_14_method_21_code 1 = .ok (.sipush 30075, 3) := by decide +kernel
theorem d_M_multiply_4 : decode prog_14_method_21_code 4 = .ok (.invokevirtual 192, 3) := by decide +kernel
theorem u_2251 : Cond.methodLink "FilterGuardModel" 192 ⟨"FilterGuardModel", "isExact", "(I)Z"⟩ ∈ fg_g := fg_in (List.mem_of_getElem? (i := 2251) (by decide +kernel)) rfl
theorem u_2254 : Cond.code ⟨"FilterGuardModel", "isExact", "(I)Z"⟩ prog_14_method_10_code 2 (some .boolean) ∈ fg_g := fg_in (List.mem_of_getElem? (i := 2254) (by decide +kernel)) rfl
theorem u_2253 : Cond.instanceMethod ⟨"FilterGuardModel", "isExact", "(I)Z"⟩ ∈ fg_g := fg_in (List.mem_of_getElem? (i := 2253) (by decide +kernel)) rfl
theorem u_136 : Cond.selects "FilterGuardModel" ⟨"FilterGuardModel", "isExact", "(I)Z"⟩ ⟨"FilterGuardModel", "isExact", "(I)Z"⟩ ∈ fg_g := fg_in (List.mem_of_getElem? (i := 136) (by decide +kernel)) rfl
theorem d_M_multiply_7 : decode prog_14_method_21_code 7 = .ok (.ifCond .eq 38, 3) := by decide +kernel
theorem d_M_multiply_10 : decode prog_14_method_21_code 10 = .ok (.aload_n 0, 1) := by decide +kernel
theorem d_M_multiply_11 : decode prog_14_method_21_code 11 = .ok (.sipush 30076, 3) := by decide +kernel
theorem d_M_multiply_14 : decode prog_14_method_21_code 14 = .ok (.invokevirtual 192, 3) := by decide +kernel
theorem d_M_multiply_17 : decode prog_14_method_21_code 17 = .ok (.ifCond .eq 28, 3) := by decide +kernel
theorem d_M_multiply_20 : decode prog_14_method_21_code 20 = .ok (.aload_n 0, 1) := by decide +kernel
theorem d_M_multiply_21 : decode prog_14_method_21_code 21 = .ok (.sipush 30077, 3) := by decide +kernel
theorem d_M_multiply_24 : decode prog_14_method_21_code 24 = .ok (.aload_n 0, 1) := by decide +kernel
theorem d_M_multiply_25 : decode prog_14_method_21_code 25 = .ok (.getfield 104, 3) := by decide +kernel
theorem d_M_multiply_28 : decode prog_14_method_21_code 28 = .ok (.sipush 30075, 3) := by decide +kernel
theorem d_M_multiply_31 : decode prog_14_method_21_code 31 = .ok (.laload, 1) := by decide +kernel
theorem d_M_multiply_32 : decode prog_14_method_21_code 32 = .ok (.aload_n 0, 1) := by decide +kernel
theorem d_M_multiply_33 : decode prog_14_method_21_code 33 = .ok (.getfield 104, 3) := by decide +kernel
theorem d_M_multiply_36 : decode prog_14_method_21_code 36 = .ok (.sipush 30076, 3) := by decide +kernel
theorem d_M_multiply_39 : decode prog_14_method_21_code 39 = .ok (.laload, 1) := by decide +kernel
theorem d_M_multiply_40 : decode prog_14_method_21_code 40 = .ok (.lmul, 1) := by decide +kernel
theorem d_M_multiply_41 : decode prog_14_method_21_code 41 = .ok (.invokevirtual 195, 3) := by decide +kernel
theorem u_2108 : Cond.methodLink "FilterGuardModel" 195 ⟨"FilterGuardModel", "setExact", "(IJ)V"⟩ ∈ fg_g := fg_in (List.mem_of_getElem? (i := 2108) (by decide +kernel)) rfl
theorem u_2111 : Cond.code ⟨"FilterGuardModel", "setExact", "(IJ)V"⟩ prog_14_method_9_code 4 none ∈ fg_g := fg_in (List.mem_of_getElem? (i := 2111) (by decide +kernel)) rfl
theorem u_2110 : Cond.instanceMethod ⟨"FilterGuardModel", "setExact", "(IJ)V"⟩ ∈ fg_g := fg_in (List.mem_of_getElem? (i := 2110) (by decide +kernel)) rfl
theorem u_106 : Cond.selects "FilterGuardModel" ⟨"FilterGuardModel", "setExact", "(IJ)V"⟩ ⟨"FilterGuardModel", "setExact", "(IJ)V"⟩ ∈ fg_g := fg_in (List.mem_of_getElem? (i := 106) (by decide +kernel)) rfl
theorem d_M_multiply_44 : decode prog_14_method_21_code 44 = .ok (.return_, 1) := by decide +kernel
abbrev y_M_multiply : MethodName := ⟨"FilterGuardModel", "multiply", "()V"⟩
def f_M_multiply_b83 (j0 : Nat) (M : me_M) (s0 : Int64) (s1 : Int32) (s2 : Nat) : Option me_M := gd (¬ (s1 < 0 ∨ mZ M 16 s2 ≤ s1.toNatClampNeg)) (st (wL M 16 s2 s1.toNatClampNeg s0) (fun (M2 : me_M) => bd (mR M 1 j0 55) (fun (j3 : Nat) => gd (30075 < mZ M 16 j3) (bd (f_M_below (4294967295 : Int64) (mL M2 16 j3 30075)) (fun (r6 : Int32) => (if r6 = 0 then gd (30076 < mZ M 16 j3) (bd (f_M_below (4294967295 : Int64) (mL M2 16 j3 30076)) (fun (r9 : Int32) => (if r9 = 0 then bd (mR M 1 j0 54) (fun (j11 : Nat) => gd (30075 < mZ M 16 j11) (gd (30076 < mZ M 16 j11) (gd (30077 < mZ M 16 j11) (st (wL M2 16 j11 30077 ((mL M2 16 j11 30075) * (mL M2 16 j11 30076))) (fun (M16 : me_M) => gd (30077 < mZ M 16 j3) (st (wL M16 16 j3 30077 ((mL M16 16 j3 30075) * (mL M16 16 j3 30076))) (fun (M18 : me_M) => some M18))))))) else some M2))) else some M2))))))
def f_M_multiply_b45 (j0 : Nat) (M : me_M) : Option me_M := b2 (f_M_zeros M j0 (30075 : Int32)) (fun (M19 : me_M) (r20 : Int32) => b2 (f_M_zeros M19 j0 (30076 : Int32)) (fun (M21 : me_M) (r22 : Int32) => st (r20 + r22) (fun (v23 : Int32) => bd (mR M 1 j0 53) (fun (j24 : Nat) => (if v23 ≤ 63 then f_M_multiply_b83 j0 M21 (jlshl (-1 : Int64) v23) (30077 : Int32) j24 else f_M_multiply_b83 j0 M21 (0 : Int64) (30077 : Int32) j24)))))
def f_M_multiply (M0 : me_M) (j0 : Nat) : Option me_M := b2 (f_M_isExact M0 j0 (30075 : Int32)) (fun (M27 : me_M) (r28 : Int32) => (if r28 = 0 then f_M_multiply_b45 j0 M27 else b2 (f_M_isExact M27 j0 (30076 : Int32)) (fun (M30 : me_M) (r31 : Int32) => (if r31 = 0 then f_M_multiply_b45 j0 M30 else bd (mR M0 1 j0 52) (fun (j33 : Nat) => gd (30075 < mZ M0 16 j33) (gd (30076 < mZ M0 16 j33) (bd (f_M_setExact M30 j0 (30077 : Int32) ((mL M30 16 j33 30075) * (mL M30 16 j33 30076))) (fun (M37 : me_M) => some M37))))))))
def rm_M_multiply : Room := { frames := 2, cells := 0, slots := 0, locals := 43 }
abbrev q_M_multiply (D : va_G) (ad : Nat → Nat → Nat) (ca : Nat → ClassId) (N : Nat → Nat) (M0 MZ : me_M) (A : Nat → Prop) : Array Value → Jvm.State → Outcome → Jvm.State → Prop := va_Qv (fun (_ : Unit) => me_wf N MZ ∧ me_kp M0 MZ) (fg_B D A (fun _ => me_W ad ca MZ) (fun _ => [])) A
set_option maxHeartbeats 4000000 in
set_option maxRecDepth 100000 in
theorem c_M_multiply (l : Launch) (D : va_G) (ad : Nat → Nat → Nat) (ca : Nat → ClassId) (N : Nat → Nat) (M0 MZ : me_M) (j0 : Nat) (h : f_M_multiply M0 j0 = (some MZ)) (hwf : me_wf N M0) (hj0 : j0 < N 1) (sz : Nat) : Met l y_M_multiply (fg_w y_M_multiply prog_14_method_21_code 2 none) rm_M_multiply (va_Pc [.ref (ad 1 j0)] (fz_P D (me_T ca) (me_W ad ca M0) sz)) (q_M_multiply D ad ca N M0 MZ (va_A (me_W ad ca M0) sz)) rm_M_multiply.cells rm_M_multiply.slots (va_A (me_W ad ca M0) sz) := by
  refine fz_enter (fun A => q_M_multiply D ad ca N M0 MZ A) (by decide +kernel) (Nat.le_of_ble_eq_true rfl) ?_
  intro p e s m below meth c ls A hx hb hml hown hts hr hlocks hin hP hK hD hS hA hX hl hz
  have hl : lv_has ls 2 [(0, .ref (ad 1 j0))] := hl
  unfold f_M_multiply at h
  have hkp : me_kp M0 M0 := me_kp.rf
  have hkb := hkp
  have b_83 : ∀ (M : me_M) (s0 : Int64) (s1 : Int32) (s2 : Nat) (H : Heap) (locs : List Loc) (ls : Array Slot), f_M_multiply_b83 j0 M s0 s1 s2 = (some MZ) → (s2 < N 16) → me_wf N M → me_kp M0 M → va_P D classes (me_W ad ca M) H → va_D A (me_W ad ca M) → va_S A s.heap H locs → lv_has ls 2 [(0, .ref (ad 1 j0))] → W p l e rm_M_multiply s m [.ref (ad 1 j0)].toArray below meth c H locs 0 0 (MQ below (q_M_multiply D ad ca N M0 MZ A) [.ref (ad 1 j0)].toArray s rm_M_multiply.cells rm_M_multiply.slots A) (F0 m 83 ls [.long s0, .int s1, .ref (ad 16 s2)]) := by
    intro M s0 s1 s2 H locs ls h hs2 hwf hkp hP hD hS hl
    unfold f_M_multiply_b83 at h
    have hkb := hkp
    obtain ⟨g1, h⟩ := gd_ob h
    obtain ⟨M2, eM2, h⟩ := st_ob h
    refine me_last eM2 hx hb hK hP hD hwf hS hs2 g1 d_M_multiply_83 (fun H locs hP hD hwf hS => ?_)
    have hkp := kp_L eM2 hkp
    refine lv_ldc2 hx hb hown (hts _ u_2019) d_M_multiply_84 ?_
    refine lv_aload_n hx hb d_M_multiply_87 rfl (lv_at hl 0 rfl) ?_
    refine g_M_55 hx hb hts hown hK hP hwf hj0 (hts _ u_1796) d_M_multiply_88 ?_
    obtain ⟨j3, e4, h⟩ := bd_ob h
    have hj3 : j3 < N 16 := (hwf.2.1 1 j0 55 _ (kp_r hkb hkp e4) (by decide) hj0)
    refine me_opt (j := j3) (kp_r hkb hkp e4) ?_
    refine lv_sipush (v := 30075) hx hb d_M_multiply_91 (by decide) ?_
    obtain ⟨g5, h⟩ := gd_ob h
    refine me_lald hx hb hK hP hwf hj3 (me_in (i := (30075 : Int32)) (k := 30075) (by decide) (by decide) (kp_c hkb.z hkp.z g5)) d_M_multiply_94 ?_
    refine fg_topl (y := mL M2 16 j3 30075) (congrArg _ (by decide)) ?_
    obtain ⟨r6, er6, h⟩ := bd_ob h
    refine me_pani' (r0 := r6) (fg_runS (wc := []) (tc := []) (A2 := A) (As := [.long 4294967295, .long (mL M2 16 j3 30075)]) (rest := []) ⟨hx, hb, hml, hown, hts⟩ (c_M_below l D r6 (4294967295 : Int64) (mL M2 16 j3 30075) er6 _) (by show fg_nm y_M_below 2; decide +kernel) u_2072 u_2073 u_192 u_2074 ⟨Nat.le_of_ble_eq_true rfl, Nat.le_of_ble_eq_true rfl⟩ hX me_P0 (hK.sub (tys' := []) [] rfl) me_D0 rfl hl.1 (Nat.le_of_ble_eq_true rfl) d_M_multiply_95 ⟨Nat.le_of_ble_eq_true rfl, Nat.le_of_ble_eq_true rfl⟩) hP hD hK hS hA rfl rfl (fun H locs hw hP hD hS => ?_)
    have zr6 := hw
    refine lv_if_ne (tgt := 168) hx hb d_M_multiply_98 (by decide) (fun c7 => ?_) (fun c7 => ?_)
    · have h := if_f c7 h
      cases h
      exact fg_retv () hx hb hr hlocks ⟨hwf, hkp⟩ hP (hK.sub (tys' := []) [] rfl) hD hS (Nat.le_of_ble_eq_true rfl) (Nat.le_of_ble_eq_true rfl) d_M_multiply_168
    have h := if_t c7 h
    refine lv_ldc2 hx hb hown (hts _ u_2019) d_M_multiply_101 ?_
    refine lv_aload_n hx hb d_M_multiply_104 rfl (lv_at hl 0 rfl) ?_
    refine g_M_55 hx hb hts hown hK hP hwf hj0 (hts _ u_1796) d_M_multiply_105 ?_
    refine me_opt (j := j3) (kp_r hkb hkp e4) ?_
    refine lv_sipush (v := 30076) hx hb d_M_multiply_108 (by decide) ?_
    obtain ⟨g8, h⟩ := gd_ob h
    refine me_lald hx hb hK hP hwf hj3 (me_in (i := (30076 : Int32)) (k := 30076) (by decide) (by decide) (kp_c hkb.z hkp.z g8)) d_M_multiply_111 ?_
    refine fg_topl (y := mL M2 16 j3 30076) (congrArg _ (by decide)) ?_
    obtain ⟨r9, er9, h⟩ := bd_ob h
    refine me_pani' (r0 := r9) (fg_runS (wc := []) (tc := []) (A2 := A) (As := [.long 4294967295, .long (mL M2 16 j3 30076)]) (rest := []) ⟨hx, hb, hml, hown, hts⟩ (c_M_below l D r9 (4294967295 : Int64) (mL M2 16 j3 30076) er9 _) (by show fg_nm y_M_below 2; decide +kernel) u_2072 u_2073 u_192 u_2074 ⟨Nat.le_of_ble_eq_true rfl, Nat.le_of_ble_eq_true rfl⟩ hX me_P0 (hK.sub (tys' := []) [] rfl) me_D0 rfl hl.1 (Nat.le_of_ble_eq_true rfl) d_M_multiply_112 ⟨Nat.le_of_ble_eq_true rfl, Nat.le_of_ble_eq_true rfl⟩) hP hD hK hS hA rfl rfl (fun H locs hw hP hD hS => ?_)
    have zr9 := hw
    refine lv_if_ne (tgt := 168) hx hb d_M_multiply_115 (by decide) (fun c10 => ?_) (fun c10 => ?_)
    · have h := if_f c10 h
      cases h
      exact fg_retv () hx hb hr hlocks ⟨hwf, hkp⟩ hP (hK.sub (tys' := []) [] rfl) hD hS (Nat.le_of_ble_eq_true rfl) (Nat.le_of_ble_eq_true rfl) d_M_multiply_168
    have h := if_t c10 h
    refine lv_aload_n hx hb d_M_multiply_118 rfl (lv_at hl 0 rfl) ?_
    refine g_M_54 hx hb hts hown hK hP hwf hj0 (hts _ u_1795) d_M_multiply_119 ?_
    obtain ⟨j11, e12, h⟩ := bd_ob h
    have hj11 : j11 < N 16 := (hwf.2.1 1 j0 54 _ (kp_r hkb hkp e12) (by decide) hj0)
    refine me_opt (j := j11) (kp_r hkb hkp e12) ?_
    refine lv_sipush (v := 30077) hx hb d_M_multiply_122 (by decide) ?_
    refine lv_aload_n hx hb d_M_multiply_125 rfl (lv_at hl 0 rfl) ?_
    refine g_M_54 hx hb hts hown hK hP hwf hj0 (hts _ u_1795) d_M_multiply_126 ?_
    refine me_opt (j := j11) (kp_r hkb hkp e12) ?_
    refine lv_sipush (v := 30075) hx hb d_M_multiply_129 (by decide) ?_
    obtain ⟨g13, h⟩ := gd_ob h
    refine me_lald hx hb hK hP hwf hj11 (me_in (i := (30075 : Int32)) (k := 30075) (by decide) (by decide) (kp_c hkb.z hkp.z g13)) d_M_multiply_132 ?_
    refine fg_topl (y := mL M2 16 j11 30075) (congrArg _ (by decide)) ?_
    refine lv_aload_n hx hb d_M_multiply_133 rfl (lv_at hl 0 rfl) ?_
    refine g_M_54 hx hb hts hown hK hP hwf hj0 (hts _ u_1795) d_M_multiply_134 ?_
    refine me_opt (j := j11) (kp_r hkb hkp e12) ?_
    refine lv_sipush (v := 30076) hx hb d_M_multiply_137 (by decide) ?_
    obtain ⟨g14, h⟩ := gd_ob h
    refine me_lald hx hb hK hP hwf hj11 (me_in (i := (30076 : Int32)) (k := 30076) (by decide) (by decide) (kp_c hkb.z hkp.z g14)) d_M_multiply_140 ?_
    refine fg_topl (y := mL M2 16 j11 30076) (congrArg _ (by decide)) ?_
    refine lv_lmul hx hb d_M_multiply_141 ?_
    obtain ⟨g15, h⟩ := gd_ob h
    obtain ⟨M16, eM16, h⟩ := st_ob h
    refine me_last (eM16.trans (by rw [show (30077 : Int32).toNatClampNeg = 30077 by decide])) hx hb hK hP hD hwf hS hj11 (me_in (i := (30077 : Int32)) (k := 30077) (by decide) (by decide) (kp_c hkb.z hkp.z g15)) d_M_multiply_142 (fun H locs hP hD hwf hS => ?_)
    have hkp := kp_L eM16 hkp
    refine lv_aload_n hx hb d_M_multiply_143 rfl (lv_at hl 0 rfl) ?_
    refine g_M_55 hx hb hts hown hK hP hwf hj0 (hts _ u_1796) d_M_multiply_144 ?_
    refine me_opt (j := j3) (kp_r hkb hkp e4) ?_
    refine lv_sipush (v := 30077) hx hb d_M_multiply_147 (by decide) ?_
    refine lv_aload_n hx hb d_M_multiply_150 rfl (lv_at hl 0 rfl) ?_
    refine g_M_55 hx hb hts hown hK hP hwf hj0 (hts _ u_1796) d_M_multiply_151 ?_
    refine me_opt (j := j3) (kp_r hkb hkp e4) ?_
    refine lv_sipush (v := 30075) hx hb d_M_multiply_154 (by decide) ?_
    refine me_lald hx hb hK hP hwf hj3 (me_in (i := (30075 : Int32)) (k := 30075) (by decide) (by decide) (kp_c hkb.z hkp.z g5)) d_M_multiply_157 ?_
    refine fg_topl (y := mL M16 16 j3 30075) (congrArg _ (by decide)) ?_
    refine lv_aload_n hx hb d_M_multiply_158 rfl (lv_at hl 0 rfl) ?_
    refine g_M_55 hx hb hts hown hK hP hwf hj0 (hts _ u_1796) d_M_multiply_159 ?_
    refine me_opt (j := j3) (kp_r hkb hkp e4) ?_
    refine lv_sipush (v := 30076) hx hb d_M_multiply_162 (by decide) ?_
    refine me_lald hx hb hK hP hwf hj3 (me_in (i := (30076 : Int32)) (k := 30076) (by decide) (by decide) (kp_c hkb.z hkp.z g8)) d_M_multiply_165 ?_
    refine fg_topl (y := mL M16 16 j3 30076) (congrArg _ (by decide)) ?_
    refine lv_lmul hx hb d_M_multiply_166 ?_
    obtain ⟨g17, h⟩ := gd_ob h
    obtain ⟨M18, eM18, h⟩ := st_ob h
    refine me_last (eM18.trans (by rw [show (30077 : Int32).toNatClampNeg = 30077 by decide])) hx hb hK hP hD hwf hS hj3 (me_in (i := (30077 : Int32)) (k := 30077) (by decide) (by decide) (kp_c hkb.z hkp.z g17)) d_M_multiply_167 (fun H locs hP hD hwf hS => ?_)
    have hkp := kp_L eM18 hkp
    cases h
    exact fg_retv () hx hb hr hlocks ⟨hwf, hkp⟩ hP (hK.sub (tys' := []) [] rfl) hD hS (Nat.le_of_ble_eq_true rfl) (Nat.le_of_ble_eq_true rfl) d_M_multiply_168
  have b_45 : ∀ (M : me_M) (H : Heap) (locs : List Loc) (ls : Array Slot), f_M_multiply_b45 j0 M = (some MZ) → me_wf N M → me_kp M0 M → va_P D classes (me_W ad ca M) H → va_D A (me_W ad ca M) → va_S A s.heap H locs → lv_has ls 2 [(0, .ref (ad 1 j0))] → W p l e rm_M_multiply s m [.ref (ad 1 j0)].toArray below meth c H locs 0 0 (MQ below (q_M_multiply D ad ca N M0 MZ A) [.ref (ad 1 j0)].toArray s rm_M_multiply.cells rm_M_multiply.slots A) (F0 m 45 ls []) := by
    intro M H locs ls h hwf hkp hP hD hS hl
    unfold f_M_multiply_b45 at h
    have hkb := hkp
    refine lv_aload_n hx hb d_M_multiply_45 rfl (lv_at hl 0 rfl) ?_
    refine lv_sipush (v := 30075) hx hb d_M_multiply_46 (by decide) ?_
    obtain ⟨M19, r20, eM19, h⟩ := b2_ob h
    refine me_theni0 (M1 := M19) (me_runV (C := "FilterGuardModel") (As := [.int 30075]) (rest := []) ⟨hx, hb, hml, hown, hts⟩ (c_M_zeros l D ad ca N M M19 r20 j0 (30075 : Int32) eM19 hwf hj0 _) rfl (by show fg_nm y_M_zeros 1; decide +kernel) u_2340 u_2342 u_156 u_192 u_2343 ⟨Nat.le_of_ble_eq_true rfl, Nat.le_of_ble_eq_true rfl⟩ hX hz hK hP hD hwf hS hA hj0 (by decide) rfl rfl rfl hl.1 (Nat.le_of_ble_eq_true rfl) d_M_multiply_49 ⟨Nat.le_of_ble_eq_true rfl, Nat.le_of_ble_eq_true rfl⟩) hP hD hK hS hA rfl rfl (fun H locs hw hP hD hS => ?_)
    obtain ⟨hwf, hk9⟩ := hw
    have hkp := hkp.tr hk9
    refine lv_aload_n hx hb d_M_multiply_52 rfl (lv_at hl 0 rfl) ?_
    refine lv_sipush (v := 30076) hx hb d_M_multiply_53 (by decide) ?_
    obtain ⟨M21, r22, eM21, h⟩ := b2_ob h
    refine me_theni0 (M1 := M21) (me_runV (C := "FilterGuardModel") (As := [.int 30076]) (rest := [.int r20]) ⟨hx, hb, hml, hown, hts⟩ (c_M_zeros l D ad ca N M19 M21 r22 j0 (30076 : Int32) eM21 hwf hj0 _) rfl (by show fg_nm y_M_zeros 1; decide +kernel) u_2340 u_2342 u_156 u_192 u_2343 ⟨Nat.le_of_ble_eq_true rfl, Nat.le_of_ble_eq_true rfl⟩ hX hz hK hP hD hwf hS hA hj0 (by decide) rfl rfl rfl hl.1 (Nat.le_of_ble_eq_true rfl) d_M_multiply_56 ⟨Nat.le_of_ble_eq_true rfl, Nat.le_of_ble_eq_true rfl⟩) hP hD hK hS hA rfl rfl (fun H locs hw hP hD hS => ?_)
    obtain ⟨hwf, hk9⟩ := hw
    have hkp := hkp.tr hk9
    refine lv_iadd hx hb d_M_multiply_59 ?_
    obtain ⟨v23, ev23, h⟩ := st_ob h
    refine fg_topi (y := v23) ev23.symm ?_
    refine lv_istore_n (lv' := [(1, .int v23), (0, .ref (ad 1 j0))]) hx hb d_M_multiply_60 rfl hl (by decide) rfl (fun ls hl => ?_)
    refine lv_aload_n hx hb d_M_multiply_61 rfl (lv_at hl 1 rfl) ?_
    refine g_M_53 hx hb hts hown hK hP hwf hj0 (hts _ u_1794) d_M_multiply_62 ?_
    obtain ⟨j24, e25, h⟩ := bd_ob h
    have hj24 : j24 < N 16 := (hwf.2.1 1 j0 53 _ (kp_r hkb hkp e25) (by decide) hj0)
    refine me_opt (j := j24) (kp_r hkb hkp e25) ?_
    refine lv_sipush (v := 30077) hx hb d_M_multiply_65 (by decide) ?_
    refine lv_iload_n hx hb d_M_multiply_68 rfl (lv_at hl 0 rfl) ?_
    refine lv_bipush (v := 63) hx hb d_M_multiply_69 (by decide) ?_
    refine lv_icmp_le (tgt := 78) hx hb d_M_multiply_71 (by decide) (fun c26 => ?_) (fun c26 => ?_)
    · have h := if_t c26 h
      refine lv_ldc2 hx hb hown (hts _ u_2071) d_M_multiply_78 ?_
      refine lv_iload_n hx hb d_M_multiply_81 rfl (lv_at hl 0 rfl) ?_
      refine lv_lshl (v := jlshl (-1 : Int64) v23) hx hb d_M_multiply_82 rfl ?_
      exact b_83 M21 (jlshl (-1 : Int64) v23) (30077 : Int32) j24 _ _ _ h hj24 hwf hkp hP hD hS (lv_sub hl [1] rfl)
    have h := if_f c26 h
    refine lv_lconst (v := 0) hx hb d_M_multiply_74 (by decide) ?_
    refine lv_goto (tgt := 83) hx hb d_M_multiply_75 (by decide) ?_
    exact b_83 M21 (0 : Int64) (30077 : Int32) j24 _ _ _ h hj24 hwf hkp hP hD hS (lv_sub hl [1] rfl)
  refine lv_aload_n hx hb d_M_multiply_0 rfl (lv_at hl 0 rfl) ?_
  refine lv_sipush (v := 30075) hx hb d_M_multiply_1 (by decide) ?_
  obtain ⟨M27, r28, eM27, h⟩ := b2_ob h
  refine me_theni0 (M1 := M27) (me_runV (C := "FilterGuardModel") (As := [.int 30075]) (rest := []) ⟨hx, hb, hml, hown, hts⟩ (c_M_isExact l D ad ca N M0 M27 r28 j0 (30075 : Int32) eM27 hwf hj0 _) rfl (by show fg_nm y_M_isExact 1; decide +kernel) u_2251 u_2253 u_136 u_192 u_2254 ⟨Nat.le_of_ble_eq_true rfl, Nat.le_of_ble_eq_true rfl⟩ hX hz hK hP hD hwf hS hA hj0 (by decide) rfl rfl rfl hl.1 (Nat.le_of_ble_eq_true rfl) d_M_multiply_4 ⟨Nat.le_of_ble_eq_true rfl, Nat.le_of_ble_eq_true rfl⟩) hP hD hK hS hA rfl rfl (fun H locs hw hP hD hS => ?_)
  obtain ⟨hwf, hk9, zr28⟩ := hw
  have hkp := hkp.tr hk9
  refine lv_if_eq (tgt := 45) hx hb d_M_multiply_7 (by decide) (fun c29 => ?_) (fun c29 => ?_)
  · have h := if_t c29 h
    exact b_45 M27 _ _ _ h hwf hkp hP hD hS (lv_sub hl [0] rfl)
  have h := if_f c29 h
  refine lv_aload_n hx hb d_M_multiply_10 rfl (lv_at hl 0 rfl) ?_
  refine lv_sipush (v := 30076) hx hb d_M_multiply_11 (by decide) ?_
  obtain ⟨M30, r31, eM30, h⟩ := b2_ob h
  refine me_theni0 (M1 := M30) (me_runV (C := "FilterGuardModel") (As := [.int 30076]) (rest := []) ⟨hx, hb, hml, hown, hts⟩ (c_M_isExact l D ad ca N M27 M30 r31 j0 (30076 : Int32) eM30 hwf hj0 _) rfl (by show fg_nm y_M_isExact 1; decide +kernel) u_2251 u_2253 u_136 u_192 u_2254 ⟨Nat.le_of_ble_eq_true rfl, Nat.le_of_ble_eq_true rfl⟩ hX hz hK hP hD hwf hS hA hj0 (by decide) rfl rfl rfl hl.1 (Nat.le_of_ble_eq_true rfl) d_M_multiply_14 ⟨Nat.le_of_ble_eq_true rfl, Nat.le_of_ble_eq_true rfl⟩) hP hD hK hS hA rfl rfl (fun H locs hw hP hD hS => ?_)
  obtain ⟨hwf, hk9, zr31⟩ := hw
  have hkp := hkp.tr hk9
  refine lv_if_eq (tgt := 45) hx hb d_M_multiply_17 (by decide) (fun c32 => ?_) (fun c32 => ?_)
  · have h := if_t c32 h
    exact b_45 M30 _ _ _ h hwf hkp hP hD hS (lv_sub hl [0] rfl)
  have h := if_f c32 h
  refine lv_aload_n hx hb d_M_multiply_20 rfl (lv_at hl 0 rfl) ?_
  refine lv_sipush (v := 30077) hx hb d_M_multiply_21 (by decide) ?_
  refine lv_aload_n hx hb d_M_multiply_24 rfl (lv_at hl 0 rfl) ?_
  refine g_M_52 hx hb hts hown hK hP hwf hj0 (hts _ u_1793) d_M_multiply_25 ?_
  obtain ⟨j33, e34, h⟩ := bd_ob h
  have hj33 : j33 < N 16 := (hwf.2.1 1 j0 52 _ (kp_r hkb hkp e34) (by decide) hj0)
  refine me_opt (j := j33) (kp_r hkb hkp e34) ?_
  refine lv_sipush (v := 30075) hx hb d_M_multiply_28 (by decide) ?_
  obtain ⟨g35, h⟩ := gd_ob h
  refine me_lald hx hb hK hP hwf hj33 (me_in (i := (30075 : Int32)) (k := 30075) (by decide) (by decide) (kp_c hkb.z hkp.z g35)) d_M_multiply_31 ?_
  refine fg_topl (y := mL M30 16 j33 30075) (congrArg _ (by decide)) ?_
  refine lv_aload_n hx hb d_M_multiply_32 rfl (lv_at hl 0 rfl) ?_
  refine g_M_52 hx hb hts hown hK hP hwf hj0 (hts _ u_1793) d_M_multiply_33 ?_
  refine me_opt (j := j33) (kp_r hkb hkp e34) ?_
  refine lv_sipush (v := 30076) hx hb d_M_multiply_36 (by decide) ?_
  obtain ⟨g36, h⟩ := gd_ob h
  refine me_lald hx hb hK hP hwf hj33 (me_in (i := (30076 : Int32)) (k := 30076) (by decide) (by decide) (kp_c hkb.z hkp.z g36)) d_M_multiply_39 ?_
  refine fg_topl (y := mL M30 16 j33 30076) (congrArg _ (by decide)) ?_
  refine lv_lmul hx hb d_M_multiply_40 ?_
  obtain ⟨M37, eM37, h⟩ := bd_ob h
  refine me_thenv0 (M1 := M37) (me_runV (C := "FilterGuardModel") (As := [.int 30077, .long ((mL M30 16 j33 30075) * (mL M30 16 j33 30076))]) (rest := []) ⟨hx, hb, hml, hown, hts⟩ (c_M_setExact l D ad ca N M30 M37 j0 (30077 : Int32) ((mL M30 16 j33 30075) * (mL M30 16 j33 30076)) eM37 hwf hj0 _) rfl (by show fg_nm y_M_setExact 2; decide +kernel) u_2108 u_2110 u_106 u_192 u_2111 ⟨Nat.le_of_ble_eq_true rfl, Nat.le_of_ble_eq_true rfl⟩ hX hz hK hP hD hwf hS hA hj0 (by decide) rfl rfl rfl hl.1 (Nat.le_of_ble_eq_true rfl) d_M_multiply_41 ⟨Nat.le_of_ble_eq_true rfl, Nat.le_of_ble_eq_true rfl⟩) hP hD hK hS hA rfl rfl (fun H locs hw hP hD hS => ?_)
  obtain ⟨hwf, hk9⟩ := hw
  have hkp := hkp.tr hk9
  cases h
  exact fg_retv () hx hb hr hlocks ⟨hwf, hkp⟩ hP (hK.sub (tys' := []) [] rfl) hD hS (Nat.le_of_ble_eq_true rfl) (Nat.le_of_ble_eq_true rfl) d_M_multiply_44
