theorem d_M_shift_64 : decode prog_14_method_26_code 64 = .ok (.aload_n 0, 1) := by decide +kernel
theorem d_M_shift_65 : decode prog_14_method_26_code 65 = .ok (.getfield 110, 3) := by decide +kernel
theorem d_M_shift_68 : decode prog_14_method_26_code 68 = .ok (.sipush 30077, 3) := by decide +kernel
theorem d_M_shift_71 : decode prog_14_method_26_code 71 = .ok (.aload_n 0, 1) := by decide +kernel
theorem d_M_shift_72 : decode prog_14_method_26_code 72 = .ok (.getfield 110, 3) := by decide +kernel
theorem d_M_shift_75 : decode prog_14_method_26_code 75 = .ok (.sipush 30075, 3) := by decide +kernel
theorem d_M_shift_78 : decode prog_14_method_26_code 78 = .ok (.laload, 1) := by decide +kernel
theorem d_M_shift_79 : decode prog_14_method_26_code 79 = .ok (.iload_n 2, 1) := by decide +kernel
theorem d_M_shift_80 : decode prog_14_method_26_code 80 = .ok (.lshl, 1) := by decide +kernel
theorem d_M_shift_81 : decode prog_14_method_26_code 81 = .ok (.lastore, 1) := by decide +kernel
theorem d_M_shift_82 : decode prog_14_method_26_code 82 = .ok (.aload_n 0, 1) := by decide +kernel
theorem d_M_shift_83 : decode prog_14_method_26_code 83 = .ok (.getfield 113, 3) := by decide +kernel
theorem d_M_shift_86 : decode prog_14_method_26_code 86 = .ok (.sipush 30077, 3) := by decide +kernel
theorem d_M_shift_89 : decode prog_14_method_26_code 89 = .ok (.aload_n 0, 1) := by decide +kernel
theorem d_M_shift_90 : decode prog_14_method_26_code 90 = .ok (.getfield 113, 3) := by decide +kernel
theorem d_M_shift_93 : decode prog_14_method_26_code 93 = .ok (.sipush 30075, 3) := by decide +kernel
theorem d_M_shift_96 : decode prog_14_method_26_code 96 = .ok (.laload, 1) := by decide +kernel
theorem d_M_shift_97 : decode prog_14_method_26_code 97 = .ok (.iload_n 2, 1) := by decide +kernel
theorem d_M_shift_98 : decode prog_14_method_26_code 98 = .ok (.lshl, 1) := by decide +kernel
theorem d_M_shift_99 : decode prog_14_method_26_code 99 = .ok (.lastore, 1) := by decide +kernel
theorem d_M_shift_100 : decode prog_14_method_26_code 100 = .ok (.goto 156, 3) := by decide +kernel
theorem d_M_shift_256 : decode prog_14_method_26_code 256 = .ok (.return_, 1) := by decide +kernel
theorem d_M_shift_0 : decode prog_14_method_26_code 0 = .ok (.iload_n 1, 1) := by decide +kernel
theorem d_M_shift_1 : decode prog_14_method_26_code 1 = .ok (.bipush 8, 2) := by decide +kernel
theorem d_M_shift_3 : decode prog_14_method_26_code 3 = .ok (.if_icmp .ne 100, 3) := by decide +kernel
theorem d_M_shift_103 : decode prog_14_method_26_code 103 = .ok (.iload_n 1, 1) := by decide +kernel
theorem d_M_shift_104 : decode prog_14_method_26_code 104 = .ok (.bipush 9, 2) := by decide +kernel
theorem d_M_shift_106 : decode prog_14_method_26_code 106 = .ok (.if_icmp .ne 78, 3) := by decide +kernel
theorem d_M_shift_184 : decode prog_14_method_26_code 184 = .ok (.aload_n 0, 1) := by decide +kernel
theorem d_M_shift_185 : decode prog_14_method_26_code 185 = .ok (.getfield 104, 3) := by decide +kernel
theorem d_M_shift_188 : decode prog_14_method_26_code 188 = .ok (.sipush 30077, 3) := by decide +kernel
theorem d_M_shift_191 : decode prog_14_method_26_code 191 = .ok (.aload_n 0, 1) := by decide +kernel
theorem d_M_shift_192 : decode prog_14_method_26_code 192 = .ok (.getfield 104, 3) := by decide +kernel
theorem d_M_shift_195 : decode prog_14_method_26_code 195 = .ok (.sipush 30075, 3) := by decide +kernel
theorem d_M_shift_198 : decode prog_14_method_26_code 198 = .ok (.laload, 1) := by decide +kernel
theorem d_M_shift_199 : decode prog_14_method_26_code 199 = .ok (.iload_n 2, 1) := by decide +kernel
theorem d_M_shift_200 : decode prog_14_method_26_code 200 = .ok (.lshr, 1) := by decide +kernel
theorem d_M_shift_201 : decode prog_14_method_26_code 201 = .ok (.lastore, 1) := by decide +kernel
theorem d_M_shift_202 : decode prog_14_method_26_code 202 = .ok (.aload_n 0, 1) := by decide +kernel
theorem d_M_shift_203 : decode prog_14_method_26_code 203 = .ok (.getfield 107, 3) := by decide +kernel
theorem d_M_shift_206 : decode prog_14_method_26_code 206 = .ok (.sipush 30077, 3) := by decide +kernel
theorem d_M_shift_209 : decode prog_14_method_26_code 209 = .ok (.aload_n 0, 1) := by decide +kernel
theorem d_M_shift_210 : decode prog_14_method_26_code 210 = .ok (.getfield 107, 3) := by decide +kernel
theorem d_M_shift_213 : decode prog_14_method_26_code 213 = .ok (.sipush 30075, 3) := by decide +kernel
theorem d_M_shift_216 : decode prog_14_method_26_code 216 = .ok (.laload, 1) := by decide +kernel
theorem d_M_shift_217 : decode prog_14_method_26_code 217 = .ok (.iload_n 2, 1) := by decide +kernel
theorem d_M_shift_218 : decode prog_14_method_26_code 218 = .ok (.lshr, 1) := by decide +kernel
theorem d_M_shift_219 : decode prog_14_method_26_code 219 = .ok (.lastore, 1) := by decide +kernel
theorem d_M_shift_220 : decode prog_14_method_26_code 220 = .ok (.aload_n 0, 1) := by decide +kernel
theorem d_M_shift_221 : decode prog_14_method_26_code 221 = .ok (.getfield 116, 3) := by decide +kernel
theorem d_M_shift_224 : decode prog_14_method_26_code 224 = .ok (.sipush 30077, 3) := by decide +kernel
theorem d_M_shift_227 : decode prog_14_method_26_code 227 = .ok (.aload_n 0, 1) := by decide +kernel
theorem d_M_shift_228 : decode prog_14_method_26_code 228 = .ok (.getfield 116, 3) := by decide +kernel
theorem d_M_shift_231 : decode prog_14_method_26_code 231 = .ok (.sipush 30075, 3) := by decide +kernel
theorem d_M_shift_234 : decode prog_14_method_26_code 234 = .ok (.laload, 1) := by decide +kernel
theorem d_M_shift_235 : decode prog_14_method_26_code 235 = .ok (.iload_n 2, 1) := by decide +kernel
theorem d_M_shift_236 : decode prog_14_method_26_code 236 = .ok (.lshr, 1) := by decide +kernel
theorem d_M_shift_237 : decode prog_14_method_26_code 237 = .ok (.lastore, 1) := by decide +kernel
theorem d_M_shift_238 : decode prog_14_method_26_code 238 = .ok (.aload_n 0, 1) := by decide +kernel
theorem d_M_shift_239 : decode prog_14_method_26_code 239 = .ok (.getfield 119, 3) := by decide +kernel
theorem d_M_shift_242 : decode prog_14_method_26_code 242 = .ok (.sipush 30077, 3) := by decide +kernel
theorem d_M_shift_245 : decode prog_14_method_26_code 245 = .ok (.aload_n 0, 1) := by decide +kernel
theorem d_M_shift_246 : decode prog_14_method_26_code 246 = .ok (.getfield 119, 3) := by decide +kernel
theorem d_M_shift_249 : decode prog_14_method_26_code 249 = .ok (.sipush 30075, 3) := by decide +kernel
theorem d_M_shift_252 : decode prog_14_method_26_code 252 = .ok (.laload, 1) := by decide +kernel
theorem d_M_shift_253 : decode prog_14_method_26_code 253 = .ok (.iload_n 2, 1) := by decide +kernel
theorem d_M_shift_254 : decode prog_14_method_26_code 254 = .ok (.lshr, 1) := by decide +kernel
theorem d_M_shift_255 : decode prog_14_method_26_code 255 = .ok (.lastore, 1) := by decide +kernel
theorem d_M_shift_109 : decode prog_14_method_26_code 109 = .ok (.aload_n 0, 1) := by decide +kernel
theorem d_M_shift_110 : decode prog_14_method_26_code 110 = .ok (.getfield 104, 3) := by decide +kernel
theorem d_M_shift_113 : decode prog_14_method_26_code 113 = .ok (.sipush 30077, 3) := by decide +kernel
theorem d_M_shift_116 : decode prog_14_method_26_code 116 = .ok (.aload_n 0, 1) := by decide +kernel
theorem d_M_shift_117 : decode prog_14_method_26_code 117 = .ok (.getfield 104, 3) := by decide +kernel
theorem d_M_shift_120 : decode prog_14_method_26_code 120 = .ok (.sipush 30075, 3) := by decide +kernel
theorem d_M_shift_123 : decode prog_14_method_26_code 123 = .ok (.laload, 1) := by decide +kernel
theorem d_M_shift_124 : decode prog_14_method_26_code 124 = .ok (.iload_n 2, 1) := by decide +kernel
theorem d_M_shift_125 : decode prog_14_method_26_code 125 = .ok (.lushr, 1) := by decide +kernel
theorem d_M_shift_126 : decode prog_14_method_26_code 126 = .ok (.lastore, 1) := by decide +kernel
theorem d_M_shift_127 : decode prog_14_method_26_code 127 = .ok (.aload_n 0, 1) := by decide +kernel
theorem d_M_shift_128 : decode prog_14_method_26_code 128 = .ok (.getfield 107, 3) := by decide +kernel
theorem d_M_shift_131 : decode prog_14_method_26_code 131 = .ok (.sipush 30077, 3) := by decide +kernel
theorem d_M_shift_134 : decode prog_14_method_26_code 134 = .ok (.aload_n 0, 1) := by decide +kernel
theorem d_M_shift_135 : decode prog_14_method_26_code 135 = .ok (.getfield 107, 3) := by decide +kernel
theorem d_M_shift_138 : decode prog_14_method_26_code 138 = .ok (.sipush 30075, 3) := by decide +kernel
theorem d_M_shift_141 : decode prog_14_method_26_code 141 = .ok (.laload, 1) := by decide +kernel
theorem d_M_shift_142 : decode prog_14_method_26_code 142 = .ok (.iload_n 2, 1) := by decide +kernel
theorem d_M_shift_143 : decode prog_14_method_26_code 143 = .ok (.lushr, 1) := by decide +kernel
theorem d_M_shift_144 : decode prog_14_method_26_code 144 = .ok (.lastore, 1) := by decide +kernel
theorem d_M_shift_145 : decode prog_14_method_26_code 145 = .ok (.aload_n 0, 1) := by decide +kernel
theorem d_M_shift_146 : decode prog_14_method_26_code 146 = .ok (.getfield 110, 3) := by decide +kernel
theorem d_M_shift_149 : decode prog_14_method_26_code 149 = .ok (.sipush 30077, 3) := by decide +kernel
theorem d_M_shift_152 : decode prog_14_method_26_code 152 = .ok (.aload_n 0, 1) := by decide +kernel
theorem d_M_shift_153 : decode prog_14_method_26_code 153 = .ok (.getfield 110, 3) := by decide +kernel
theorem d_M_shift_156 : decode prog_14_method_26_code 156 = .ok (.sipush 30075, 3) := by decide +kernel
theorem d_M_shift_159 : decode prog_14_method_26_code 159 = .ok (.laload, 1) := by decide +kernel
theorem d_M_shift_160 : decode prog_14_method_26_code 160 = .ok (.iload_n 2, 1) := by decide +kernel
theorem d_M_shift_161 : decode prog_14_method_26_code 161 = .ok (.lushr, 1) := by decide +kernel
theorem d_M_shift_162 : decode prog_14_method_26_code 162 = .ok (.lastore, 1) := by decide +kernel
theorem d_M_shift_163 : decode prog_14_method_26_code 163 = .ok (.aload_n 0, 1) := by decide +kernel
theorem d_M_shift_164 : decode prog_14_method_26_code 164 = .ok (.getfield 113, 3) := by decide +kernel
theorem d_M_shift_167 : decode prog_14_method_26_code 167 = .ok (.sipush 30077, 3) := by decide +kernel
theorem d_M_shift_170 : decode prog_14_method_26_code 170 = .ok (.aload_n 0, 1) := by decide +kernel
theorem d_M_shift_171 : decode prog_14_method_26_code 171 = .ok (.getfield 113, 3) := by decide +kernel
theorem d_M_shift_174 : decode prog_14_method_26_code 174 = .ok (.sipush 30075, 3) := by decide +kernel
theorem d_M_shift_177 : decode prog_14_method_26_code 177 = .ok (.laload, 1) := by decide +kernel
theorem d_M_shift_178 : decode prog_14_method_26_code 178 = .ok (.iload_n 2, 1) := by decide +kernel
theorem d_M_shift_179 : decode prog_14_method_26_code 179 = .ok (.lushr, 1) := by decide +kernel
theorem d_M_shift_180 : decode prog_14_method_26_code 180 = .ok (.lastore, 1) := by decide +kernel
theorem d_M_shift_181 : decode prog_14_method_26_code 181 = .ok (.goto 75, 3) := by decide +kernel
theorem d_M_shift_6 : decode prog_14_method_26_code 6 = .ok (.aload_n 0, 1) := by decide +kernel
theorem d_M_shift_7 : decode prog_14_method_26_code 7 = .ok (.getfield 104, 3) := by decide +kernel
theorem d_M_shift_10 : decode prog_14_method_26_code 10 = .ok (.sipush 30077, 3) := by decide +kernel
theorem d_M_shift_13 : decode prog_14_method_26_code 13 = .ok (.aload_n 0, 1) := by decide +kernel
theorem d_M_shift_14 : decode prog_14_method_26_code 14 = .ok (.getfield 104, 3) := by decide +kernel
theorem d_M_shift_17 : decode prog_14_method_26_code 17 = .ok (.sipush 30075, 3) := by decide +kernel
theorem d_M_shift_20 : decode prog_14_method_26_code 20 = .ok (.laload, 1) := by decide +kernel
theorem d_M_shift_21 : decode prog_14_method_26_code 21 = .ok (.iload_n 2, 1) := by decide +kernel
theorem d_M_shift_22 : decode prog_14_method_26_code 22 = .ok (.lshl, 1) := by decide +kernel
theorem d_M_shift_23 : decode prog_14_method_26_code 23 = .ok (.lastore, 1) := by decide +kernel
theorem d_M_shift_24 : decode prog_14_method_26_code 24 = .ok (.aload_n 0, 1) := by decide +kernel
theorem d_M_shift_25 : decode prog_14_method_26_code 25 = .ok (.getfield 107, 3) := by decide +kernel
theorem d_M_shift_28 : decode prog_14_method_26_code 28 = .ok (.sipush 30077, 3) := by decide +kernel
theorem d_M_shift_31 : decode prog_14_method_26_code 31 = .ok (.aload_n 0, 1) := by decide +kernel
theorem d_M_shift_32 : decode prog_14_method_26_code 32 = .ok (.getfield 107, 3) := by decide +kernel
theorem d_M_shift_35 : decode prog_14_method_26_code 35 = .ok (.sipush 30075, 3) := by decide +kernel
theorem d_M_shift_38 : decode prog_14_method_26_code 38 = .ok (.laload, 1) := by decide +kernel
theorem d_M_shift_39 : decode prog_14_method_26_code 39 = .ok (.iload_n 2, 1) := by decide +kernel
theorem d_M_shift_40 : decode prog_14_method_26_code 40 = .ok (.lshl, 1) := by decide +kernel
theorem d_M_shift_41 : decode prog_14_method_26_code 41 = .ok (.lastore, 1) := by decide +kernel
theorem d_M_shift_42 : decode prog_14_method_26_code 42 = .ok (.iload_n 2, 1) := by decide +kernel
theorem d_M_shift_43 : decode prog_14_method_26_code 43 = .ok (.ifCond .eq 21, 3) := by decide +kernel
theorem d_M_shift_46 : decode prog_14_method_26_code 46 = .ok (.aload_n 0, 1) := by decide +kernel
theorem d_M_shift_47 : decode prog_14_method_26_code 47 = .ok (.getfield 113, 3) := by decide +kernel
theorem d_M_shift_50 : decode prog_14_method_26_code 50 = .ok (.sipush 30075, 3) := by decide +kernel
theorem d_M_shift_53 : decode prog_14_method_26_code 53 = .ok (.laload, 1) := by decide +kernel
theorem d_M_shift_54 : decode prog_14_method_26_code 54 = .ok (.bipush 64, 2) := by decide +kernel
theorem d_M_shift_56 : decode prog_14_method_26_code 56 = .ok (.iload_n 2, 1) := by decide +kernel
theorem d_M_shift_57 : decode prog_14_method_26_code 57 = .ok (.isub, 1) := by decide +kernel
theorem d_M_shift_58 : decode prog_14_method_26_code 58 = .ok (.lushr, 1) := by decide +kernel
theorem d_M_shift_59 : decode prog_14_method_26_code 59 = .ok (.lconst 0, 1) := by decide +kernel
theorem d_M_shift_60 : decode prog_14_method_26_code 60 = .ok (.lcmp, 1) := by decide +kernel
theorem d_M_shift_61 : decode prog_14_method_26_code 61 = .ok (.ifCond .ne 195, 3) := by decide +kernel
abbrev y_M_shift : MethodName := ⟨"FilterGuardModel", "shift", "(II)V"⟩
def f_M_shift_b64 (j0 : Nat) (x2 : Int32) (M : me_M) : Option me_M := bd (mR M 1 j0 54) (fun (j1 : Nat) => gd (30075 < mZ M 16 j1) (gd (30077 < mZ M 16 j1) (st (wL M 16 j1 30077 (jlshl (mL M 16 j1 30075) x2)) (fun (M5 : me_M) => bd (mR M 1 j0 55) (fun (j6 : Nat) => gd (30075 < mZ M 16 j6) (gd (30077 < mZ M 16 j6) (st (wL M5 16 j6 30077 (jlshl (mL M5 16 j6 30075) x2)) (fun (M10 : me_M) => some M10))))))))
def f_M_shift (M0 : me_M) (j0 : Nat) (x1 : Int32) (x2 : Int32) : Option me_M := (if x1 = 8 then bd (mR M0 1 j0 52) (fun (j53 : Nat) => gd (30075 < mZ M0 16 j53) (gd (30077 < mZ M0 16 j53) (st (wL M0 16 j53 30077 (jlshl (mL M0 16 j53 30075) x2)) (fun (M57 : me_M) => bd (mR M0 1 j0 53) (fun (j58 : Nat) => gd (30075 < mZ M0 16 j58) (gd (30077 < mZ M0 16 j58) (st (wL M57 16 j58 30077 (jlshl (mL M57 16 j58 30075) x2)) (fun (M62 : me_M) => (if x2 = 0 then f_M_shift_b64 j0 x2 M62 else bd (mR M0 1 j0 55) (fun (j64 : Nat) => gd (30075 < mZ M0 16 j64) ((if (jlushr (mL M62 16 j64 30075) (64 - x2)) = 0 then f_M_shift_b64 j0 x2 M62 else some M62)))))))))))) else (if x1 = 9 then bd (mR M0 1 j0 52) (fun (j33 : Nat) => gd (30075 < mZ M0 16 j33) (gd (30077 < mZ M0 16 j33) (st (wL M0 16 j33 30077 (jlushr (mL M0 16 j33 30075) x2)) (fun (M37 : me_M) => bd (mR M0 1 j0 53) (fun (j38 : Nat) => gd (30075 < mZ M0 16 j38) (gd (30077 < mZ M0 16 j38) (st (wL M37 16 j38 30077 (jlushr (mL M37 16 j38 30075) x2)) (fun (M42 : me_M) => bd (mR M0 1 j0 54) (fun (j43 : Nat) => gd (30075 < mZ M0 16 j43) (gd (30077 < mZ M0 16 j43) (st (wL M42 16 j43 30077 (jlushr (mL M42 16 j43 30075) x2)) (fun (M47 : me_M) => bd (mR M0 1 j0 55) (fun (j48 : Nat) => gd (30075 < mZ M0 16 j48) (gd (30077 < mZ M0 16 j48) (st (wL M47 16 j48 30077 (jlushr (mL M47 16 j48 30075) x2)) (fun (M52 : me_M) => some M52)))))))))))))))) else bd (mR M0 1 j0 52) (fun (j13 : Nat) => gd (30075 < mZ M0 16 j13) (gd (30077 < mZ M0 16 j13) (st (wL M0 16 j13 30077 (jlshr (mL M0 16 j13 30075) x2)) (fun (M17 : me_M) => bd (mR M0 1 j0 53) (fun (j18 : Nat) => gd (30075 < mZ M0 16 j18) (gd (30077 < mZ M0 16 j18) (st (wL M17 16 j18 30077 (jlshr (mL M17 16 j18 30075) x2)) (fun (M22 : me_M) => bd (mR M0 1 j0 56) (fun (j23 : Nat) => gd (30075 < mZ M0 16 j23) (gd (30077 < mZ M0 16 j23) (st (wL M22 16 j23 30077 (jlshr (mL M22 16 j23 30075) x2)) (fun (M27 : me_M) => bd (mR M0 1 j0 57) (fun (j28 : Nat) => gd (30075 < mZ M0 16 j28) (gd (30077 < mZ M0 16 j28) (st (wL M27 16 j28 30077 (jlshr (mL M27 16 j28 30075) x2)) (fun (M32 : me_M) => some M32))))))))))))))))))
def rm_M_shift : Room := { frames := 1, cells := 0, slots := 0, locals := 20 }
abbrev q_M_shift (D : va_G) (ad : Nat → Nat → Nat) (ca : Nat → ClassId) (N : Nat → Nat) (M0 MZ : me_M) (A : Nat → Prop) : Array Value → Jvm.State → Outcome → Jvm.State → Prop := va_Qv (fun (_ : Unit) => me_wf N MZ ∧ me_kp M0 MZ) (fg_B D A (fun _ => me_W ad ca MZ) (fun _ => [])) A
set_option maxHeartbeats 4000000 in
set_option maxRecDepth 100000 in
theorem c_M_shift (l : Launch) (D : va_G) (ad : Nat → Nat → Nat) (ca : Nat → ClassId) (N : Nat → Nat) (M0 MZ : me_M) (j0 : Nat) (x1 : Int32) (x2 : Int32) (h : f_M_shift M0 j0 x1 x2 = (some MZ)) (hwf : me_wf N M0) (hj0 : j0 < N 1) (sz : Nat) : Met l y_M_shift (fg_w y_M_shift prog_14_method_26_code 3 none) rm_M_shift (va_Pc [.ref (ad 1 j0), .int x1, .int x2] (fz_P D (me_T ca) (me_W ad ca M0) sz)) (q_M_shift D ad ca N M0 MZ (va_A (me_W ad ca M0) sz)) rm_M_shift.cells rm_M_shift.slots (va_A (me_W ad ca M0) sz) := by
  refine fz_enter (fun A => q_M_shift D ad ca N M0 MZ A) (by decide +kernel) (Nat.le_of_ble_eq_true rfl) ?_
  intro p e s m below meth c ls A hx hb hml hown hts hr hlocks hin hP hK hD hS hA hX hl hz
  have hl : lv_has ls 3 [(0, .ref (ad 1 j0)), (1, .int x1), (2, .int x2)] := hl
  unfold f_M_shift at h
  have hkp : me_kp M0 M0 := me_kp.rf
  have hkb := hkp
  have b_64 : ∀ (M : me_M) (H : Heap) (locs : List Loc) (ls : Array Slot), f_M_shift_b64 j0 x2 M = (some MZ) → me_wf N M → me_kp M0 M → va_P D classes (me_W ad ca M) H → va_D A (me_W ad ca M) → va_S A s.heap H locs → lv_has ls 3 [(0, .ref (ad 1 j0)), (2, .int x2)] → W p l e rm_M_shift s m [.ref (ad 1 j0), .int x1, .int x2].toArray below meth c H locs 0 0 (MQ below (q_M_shift D ad ca N M0 MZ A) [.ref (ad 1 j0), .int x1, .int x2].toArray s rm_M_shift.cells rm_M_shift.slots A) (F0 m 64 ls []) := by
    intro M H locs ls h hwf hkp hP hD hS hl
    unfold f_M_shift_b64 at h
    have hkb := hkp
    refine lv_aload_n hx hb d_M_shift_64 rfl (lv_at hl 0 rfl) ?_
    refine g_M_54 hx hb hts hown hK hP hwf hj0 (hts _ u_1795) d_M_shift_65 ?_
    obtain ⟨j1, e2, h⟩ := bd_ob h
    have hj1 : j1 < N 16 := (hwf.2.1 1 j0 54 _ e2 (by decide) hj0)
    refine me_opt (j := j1) e2 ?_
    refine lv_sipush (v := 30077) hx hb d_M_shift_68 (by decide) ?_
    refine lv_aload_n hx hb d_M_shift_71 rfl (lv_at hl 0 rfl) ?_
    refine g_M_54 hx hb hts hown hK hP hwf hj0 (hts _ u_1795) d_M_shift_72 ?_
    refine me_opt (j := j1) e2 ?_
    refine lv_sipush (v := 30075) hx hb d_M_shift_75 (by decide) ?_
    obtain ⟨g3, h⟩ := gd_ob h
    refine me_lald hx hb hK hP hwf hj1 (me_in (i := (30075 : Int32)) (k := 30075) (by decide) (by decide) g3) d_M_shift_78 ?_
    refine fg_topl (y := mL M 16 j1 30075) (congrArg _ (by decide)) ?_
    refine lv_iload_n hx hb d_M_shift_79 rfl (lv_at hl 1 rfl) ?_
    refine lv_lshl (v := jlshl (mL M 16 j1 30075) x2) hx hb d_M_shift_80 rfl ?_
    obtain ⟨g4, h⟩ := gd_ob h
    obtain ⟨M5, eM5, h⟩ := st_ob h
    refine me_last (eM5.trans (by rw [show (30077 : Int32).toNatClampNeg = 30077 by decide])) hx hb hK hP hD hwf hS hj1 (me_in (i := (30077 : Int32)) (k := 30077) (by decide) (by decide) g4) d_M_shift_81 (fun H locs hP hD hwf hS => ?_)
    have hkp := kp_L eM5 hkp
    refine lv_aload_n hx hb d_M_shift_82 rfl (lv_at hl 0 rfl) ?_
    refine g_M_55 hx hb hts hown hK hP hwf hj0 (hts _ u_1796) d_M_shift_83 ?_
    obtain ⟨j6, e7, h⟩ := bd_ob h
    have hj6 : j6 < N 16 := (hwf.2.1 1 j0 55 _ (kp_r hkb hkp e7) (by decide) hj0)
    refine me_opt (j := j6) (kp_r hkb hkp e7) ?_
    refine lv_sipush (v := 30077) hx hb d_M_shift_86 (by decide) ?_
    refine lv_aload_n hx hb d_M_shift_89 rfl (lv_at hl 0 rfl) ?_
    refine g_M_55 hx hb hts hown hK hP hwf hj0 (hts _ u_1796) d_M_shift_90 ?_
    refine me_opt (j := j6) (kp_r hkb hkp e7) ?_
    refine lv_sipush (v := 30075) hx hb d_M_shift_93 (by decide) ?_
    obtain ⟨g8, h⟩ := gd_ob h
    refine me_lald hx hb hK hP hwf hj6 (me_in (i := (30075 : Int32)) (k := 30075) (by decide) (by decide) (kp_c hkb.z hkp.z g8)) d_M_shift_96 ?_
    refine fg_topl (y := mL M5 16 j6 30075) (congrArg _ (by decide)) ?_
    refine lv_iload_n hx hb d_M_shift_97 rfl (lv_at hl 1 rfl) ?_
    refine lv_lshl (v := jlshl (mL M5 16 j6 30075) x2) hx hb d_M_shift_98 rfl ?_
    obtain ⟨g9, h⟩ := gd_ob h
    obtain ⟨M10, eM10, h⟩ := st_ob h
    refine me_last (eM10.trans (by rw [show (30077 : Int32).toNatClampNeg = 30077 by decide])) hx hb hK hP hD hwf hS hj6 (me_in (i := (30077 : Int32)) (k := 30077) (by decide) (by decide) (kp_c hkb.z hkp.z g9)) d_M_shift_99 (fun H locs hP hD hwf hS => ?_)
    have hkp := kp_L eM10 hkp
    refine lv_goto (tgt := 256) hx hb d_M_shift_100 (by decide) ?_
    cases h
    exact fg_retv () hx hb hr hlocks ⟨hwf, hkp⟩ hP (hK.sub (tys' := []) [] rfl) hD hS (Nat.le_of_ble_eq_true rfl) (Nat.le_of_ble_eq_true rfl) d_M_shift_256
  refine lv_iload_n hx hb d_M_shift_0 rfl (lv_at hl 1 rfl) ?_
  refine lv_bipush (v := 8) hx hb d_M_shift_1 (by decide) ?_
  refine lv_icmp_ne (tgt := 103) hx hb d_M_shift_3 (by decide) (fun c11 => ?_) (fun c11 => ?_)
  · have h := if_f c11 h
    refine lv_iload_n hx hb d_M_shift_103 rfl (lv_at hl 1 rfl) ?_
    refine lv_bipush (v := 9) hx hb d_M_shift_104 (by decide) ?_
    refine lv_icmp_ne (tgt := 184) hx hb d_M_shift_106 (by decide) (fun c12 => ?_) (fun c12 => ?_)
    · have h := if_f c12 h
      refine lv_aload_n hx hb d_M_shift_184 rfl (lv_at hl 0 rfl) ?_
      refine g_M_52 hx hb hts hown hK hP hwf hj0 (hts _ u_1793) d_M_shift_185 ?_
      obtain ⟨j13, e14, h⟩ := bd_ob h
      have hj13 : j13 < N 16 := (hwf.2.1 1 j0 52 _ e14 (by decide) hj0)
      refine me_opt (j := j13) e14 ?_
      refine lv_sipush (v := 30077) hx hb d_M_shift_188 (by decide) ?_
      refine lv_aload_n hx hb d_M_shift_191 rfl (lv_at hl 0 rfl) ?_
      refine g_M_52 hx hb hts hown hK hP hwf hj0 (hts _ u_1793) d_M_shift_192 ?_
      refine me_opt (j := j13) e14 ?_
      refine lv_sipush (v := 30075) hx hb d_M_shift_195 (by decide) ?_
      obtain ⟨g15, h⟩ := gd_ob h
      refine me_lald hx hb hK hP hwf hj13 (me_in (i := (30075 : Int32)) (k := 30075) (by decide) (by decide) g15) d_M_shift_198 ?_
      refine fg_topl (y := mL M0 16 j13 30075) (congrArg _ (by decide)) ?_
      refine lv_iload_n hx hb d_M_shift_199 rfl (lv_at hl 2 rfl) ?_
      refine lv_lshr (v := jlshr (mL M0 16 j13 30075) x2) hx hb d_M_shift_200 rfl ?_
      obtain ⟨g16, h⟩ := gd_ob h
      obtain ⟨M17, eM17, h⟩ := st_ob h
      refine me_last (eM17.trans (by rw [show (30077 : Int32).toNatClampNeg = 30077 by decide])) hx hb hK hP hD hwf hS hj13 (me_in (i := (30077 : Int32)) (k := 30077) (by decide) (by decide) g16) d_M_shift_201 (fun H locs hP hD hwf hS => ?_)
      have hkp := kp_L eM17 hkp
      refine lv_aload_n hx hb d_M_shift_202 rfl (lv_at hl 0 rfl) ?_
      refine g_M_53 hx hb hts hown hK hP hwf hj0 (hts _ u_1794) d_M_shift_203 ?_
      obtain ⟨j18, e19, h⟩ := bd_ob h
      have hj18 : j18 < N 16 := (hwf.2.1 1 j0 53 _ (kp_r hkb hkp e19) (by decide) hj0)
      refine me_opt (j := j18) (kp_r hkb hkp e19) ?_
      refine lv_sipush (v := 30077) hx hb d_M_shift_206 (by decide) ?_
      refine lv_aload_n hx hb d_M_shift_209 rfl (lv_at hl 0 rfl) ?_
      refine g_M_53 hx hb hts hown hK hP hwf hj0 (hts _ u_1794) d_M_shift_210 ?_
      refine me_opt (j := j18) (kp_r hkb hkp e19) ?_
      refine lv_sipush (v := 30075) hx hb d_M_shift_213 (by decide) ?_
      obtain ⟨g20, h⟩ := gd_ob h
      refine me_lald hx hb hK hP hwf hj18 (me_in (i := (30075 : Int32)) (k := 30075) (by decide) (by decide) (kp_c hkb.z hkp.z g20)) d_M_shift_216 ?_
      refine fg_topl (y := mL M17 16 j18 30075) (congrArg _ (by decide)) ?_
      refine lv_iload_n hx hb d_M_shift_217 rfl (lv_at hl 2 rfl) ?_
      refine lv_lshr (v := jlshr (mL M17 16 j18 30075) x2) hx hb d_M_shift_218 rfl ?_
      obtain ⟨g21, h⟩ := gd_ob h
      obtain ⟨M22, eM22, h⟩ := st_ob h
      refine me_last (eM22.trans (by rw [show (30077 : Int32).toNatClampNeg = 30077 by decide])) hx hb hK hP hD hwf hS hj18 (me_in (i := (30077 : Int32)) (k := 30077) (by decide) (by decide) (kp_c hkb.z hkp.z g21)) d_M_shift_219 (fun H locs hP hD hwf hS => ?_)
      have hkp := kp_L eM22 hkp
      refine lv_aload_n hx hb d_M_shift_220 rfl (lv_at hl 0 rfl) ?_
      refine g_M_56 hx hb hts hown hK hP hwf hj0 (hts _ u_1797) d_M_shift_221 ?_
      obtain ⟨j23, e24, h⟩ := bd_ob h
      have hj23 : j23 < N 16 := (hwf.2.1 1 j0 56 _ (kp_r hkb hkp e24) (by decide) hj0)
      refine me_opt (j := j23) (kp_r hkb hkp e24) ?_
      refine lv_sipush (v := 30077) hx hb d_M_shift_224 (by decide) ?_
      refine lv_aload_n hx hb d_M_shift_227 rfl (lv_at hl 0 rfl) ?_
      refine g_M_56 hx hb hts hown hK hP hwf hj0 (hts _ u_1797) d_M_shift_228 ?_
      refine me_opt (j := j23) (kp_r hkb hkp e24) ?_
      refine lv_sipush (v := 30075) hx hb d_M_shift_231 (by decide) ?_
      obtain ⟨g25, h⟩ := gd_ob h
      refine me_lald hx hb hK hP hwf hj23 (me_in (i := (30075 : Int32)) (k := 30075) (by decide) (by decide) (kp_c hkb.z hkp.z g25)) d_M_shift_234 ?_
      refine fg_topl (y := mL M22 16 j23 30075) (congrArg _ (by decide)) ?_
      refine lv_iload_n hx hb d_M_shift_235 rfl (lv_at hl 2 rfl) ?_
      refine lv_lshr (v := jlshr (mL M22 16 j23 30075) x2) hx hb d_M_shift_236 rfl ?_
      obtain ⟨g26, h⟩ := gd_ob h
      obtain ⟨M27, eM27, h⟩ := st_ob h
      refine me_last (eM27.trans (by rw [show (30077 : Int32).toNatClampNeg = 30077 by decide])) hx hb hK hP hD hwf hS hj23 (me_in (i := (30077 : Int32)) (k := 30077) (by decide) (by decide) (kp_c hkb.z hkp.z g26)) d_M_shift_237 (fun H locs hP hD hwf hS => ?_)
      have hkp := kp_L eM27 hkp
      refine lv_aload_n hx hb d_M_shift_238 rfl (lv_at hl 0 rfl) ?_
      refine g_M_57 hx hb hts hown hK hP hwf hj0 (hts _ u_1798) d_M_shift_239 ?_
      obtain ⟨j28, e29, h⟩ := bd_ob h
      have hj28 : j28 < N 16 := (hwf.2.1 1 j0 57 _ (kp_r hkb hkp e29) (by decide) hj0)
      refine me_opt (j := j28) (kp_r hkb hkp e29) ?_
      refine lv_sipush (v := 30077) hx hb d_M_shift_242 (by decide) ?_
      refine lv_aload_n hx hb d_M_shift_245 rfl (lv_at hl 0 rfl) ?_
      refine g_M_57 hx hb hts hown hK hP hwf hj0 (hts _ u_1798) d_M_shift_246 ?_
      refine me_opt (j := j28) (kp_r hkb hkp e29) ?_
      refine lv_sipush (v := 30075) hx hb d_M_shift_249 (by decide) ?_
      obtain ⟨g30, h⟩ := gd_ob h
      refine me_lald hx hb hK hP hwf hj28 (me_in (i := (30075 : Int32)) (k := 30075) (by decide) (by decide) (kp_c hkb.z hkp.z g30)) d_M_shift_252 ?_
      refine fg_topl (y := mL M27 16 j28 30075) (congrArg _ (by decide)) ?_
      refine lv_iload_n hx hb d_M_shift_253 rfl (lv_at hl 2 rfl) ?_
      refine lv_lshr (v := jlshr (mL M27 16 j28 30075) x2) hx hb d_M_shift_254 rfl ?_
      obtain ⟨g31, h⟩ := gd_ob h
      obtain ⟨M32, eM32, h⟩ := st_ob h
      refine me_last (eM32.trans (by rw [show (30077 : Int32).toNatClampNeg = 30077 by decide])) hx hb hK hP hD hwf hS hj28 (me_in (i := (30077 : Int32)) (k := 30077) (by decide) (by decide) (kp_c hkb.z hkp.z g31)) d_M_shift_255 (fun H locs hP hD hwf hS => ?_)
      have hkp := kp_L eM32 hkp
      cases h
      exact fg_retv () hx hb hr hlocks ⟨hwf, hkp⟩ hP (hK.sub (tys' := []) [] rfl) hD hS (Nat.le_of_ble_eq_true rfl) (Nat.le_of_ble_eq_true rfl) d_M_shift_256
    have h := if_t c12 h
    refine lv_aload_n hx hb d_M_shift_109 rfl (lv_at hl 0 rfl) ?_
    refine g_M_52 hx hb hts hown hK hP hwf hj0 (hts _ u_1793) d_M_shift_110 ?_
    obtain ⟨j33, e34, h⟩ := bd_ob h
    have hj33 : j33 < N 16 := (hwf.2.1 1 j0 52 _ e34 (by decide) hj0)
    refine me_opt (j := j33) e34 ?_
    refine lv_sipush (v := 30077) hx hb d_M_shift_113 (by decide) ?_
    refine lv_aload_n hx hb d_M_shift_116 rfl (lv_at hl 0 rfl) ?_
    refine g_M_52 hx hb hts hown hK hP hwf hj0 (hts _ u_1793) d_M_shift_117 ?_
    refine me_opt (j := j33) e34 ?_
    refine lv_sipush (v := 30075) hx hb d_M_shift_120 (by decide) ?_
    obtain ⟨g35, h⟩ := gd_ob h
    refine me_lald hx hb hK hP hwf hj33 (me_in (i := (30075 : Int32)) (k := 30075) (by decide) (by decide) g35) d_M_shift_123 ?_
    refine fg_topl (y := mL M0 16 j33 30075) (congrArg _ (by decide)) ?_
    refine lv_iload_n hx hb d_M_shift_124 rfl (lv_at hl 2 rfl) ?_
    refine lv_lushr (v := jlushr (mL M0 16 j33 30075) x2) hx hb d_M_shift_125 rfl ?_
    obtain ⟨g36, h⟩ := gd_ob h
    obtain ⟨M37, eM37, h⟩ := st_ob h
    refine me_last (eM37.trans (by rw [show (30077 : Int32).toNatClampNeg = 30077 by decide])) hx hb hK hP hD hwf hS hj33 (me_in (i := (30077 : Int32)) (k := 30077) (by decide) (by decide) g36) d_M_shift_126 (fun H locs hP hD hwf hS => ?_)
    have hkp := kp_L eM37 hkp
    refine lv_aload_n hx hb d_M_shift_127 rfl (lv_at hl 0 rfl) ?_
    refine g_M_53 hx hb hts hown hK hP hwf hj0 (hts _ u_1794) d_M_shift_128 ?_
    obtain ⟨j38, e39, h⟩ := bd_ob h
    have hj38 : j38 < N 16 := (hwf.2.1 1 j0 53 _ (kp_r hkb hkp e39) (by decide) hj0)
    refine me_opt (j := j38) (kp_r hkb hkp e39) ?_
    refine lv_sipush (v := 30077) hx hb d_M_shift_131 (by decide) ?_
    refine lv_aload_n hx hb d_M_shift_134 rfl (lv_at hl 0 rfl) ?_
    refine g_M_53 hx hb hts hown hK hP hwf hj0 (hts _ u_1794) d_M_shift_135 ?_
    refine me_opt (j := j38) (kp_r hkb hkp e39) ?_
    refine lv_sipush (v := 30075) hx hb d_M_shift_138 (by decide) ?_
    obtain ⟨g40, h⟩ := gd_ob h
    refine me_lald hx hb hK hP hwf hj38 (me_in (i := (30075 : Int32)) (k := 30075) (by decide) (by decide) (kp_c hkb.z hkp.z g40)) d_M_shift_141 ?_
    refine fg_topl (y := mL M37 16 j38 30075) (congrArg _ (by decide)) ?_
    refine lv_iload_n hx hb d_M_shift_142 rfl (lv_at hl 2 rfl) ?_
    refine lv_lushr (v := jlushr (mL M37 16 j38 30075) x2) hx hb d_M_shift_143 rfl ?_
    obtain ⟨g41, h⟩ := gd_ob h
    obtain ⟨M42, eM42, h⟩ := st_ob h
    refine me_last (eM42.trans (by rw [show (30077 : Int32).toNatClampNeg = 30077 by decide])) hx hb hK hP hD hwf hS hj38 (me_in (i := (30077 : Int32)) (k := 30077) (by decide) (by decide) (kp_c hkb.z hkp.z g41)) d_M_shift_144 (fun H locs hP hD hwf hS => ?_)
    have hkp := kp_L eM42 hkp
    refine lv_aload_n hx hb d_M_shift_145 rfl (lv_at hl 0 rfl) ?_
    refine g_M_54 hx hb hts hown hK hP hwf hj0 (hts _ u_1795) d_M_shift_146 ?_
    obtain ⟨j43, e44, h⟩ := bd_ob h
    have hj43 : j43 < N 16 := (hwf.2.1 1 j0 54 _ (kp_r hkb hkp e44) (by decide) hj0)
    refine me_opt (j := j43) (kp_r hkb hkp e44) ?_
    refine lv_sipush (v := 30077) hx hb d_M_shift_149 (by decide) ?_
    refine lv_aload_n hx hb d_M_shift_152 rfl (lv_at hl 0 rfl) ?_
    refine g_M_54 hx hb hts hown hK hP hwf hj0 (hts _ u_1795) d_M_shift_153 ?_
    refine me_opt (j := j43) (kp_r hkb hkp e44) ?_
    refine lv_sipush (v := 30075) hx hb d_M_shift_156 (by decide) ?_
    obtain ⟨g45, h⟩ := gd_ob h
    refine me_lald hx hb hK hP hwf hj43 (me_in (i := (30075 : Int32)) (k := 30075) (by decide) (by decide) (kp_c hkb.z hkp.z g45)) d_M_shift_159 ?_
    refine fg_topl (y := mL M42 16 j43 30075) (congrArg _ (by decide)) ?_
    refine lv_iload_n hx hb d_M_shift_160 rfl (lv_at hl 2 rfl) ?_
    refine lv_lushr (v := jlushr (mL M42 16 j43 30075) x2) hx hb d_M_shift_161 rfl ?_
    obtain ⟨g46, h⟩ := gd_ob h
    obtain ⟨M47, eM47, h⟩ := st_ob h
    refine me_last (eM47.trans (by rw [show (30077 : Int32).toNatClampNeg = 30077 by decide])) hx hb hK hP hD hwf hS hj43 (me_in (i := (30077 : Int32)) (k := 30077) (by decide) (by decide) (kp_c hkb.z hkp.z g46)) d_M_shift_162 (fun H locs hP hD hwf hS => ?_)
    have hkp := kp_L eM47 hkp
    refine lv_aload_n hx hb d_M_shift_163 rfl (lv_at hl 0 rfl) ?_
    refine g_M_55 hx hb hts hown hK hP hwf hj0 (hts _ u_1796) d_M_shift_164 ?_
    obtain ⟨j48, e49, h⟩ := bd_ob h
    have hj48 : j48 < N 16 := (hwf.2.1 1 j0 55 _ (kp_r hkb hkp e49) (by decide) hj0)
    refine me_opt (j := j48) (kp_r hkb hkp e49) ?_
    refine lv_sipush (v := 30077) hx hb d_M_shift_167 (by decide) ?_
    refine lv_aload_n hx hb d_M_shift_170 rfl (lv_at hl 0 rfl) ?_
    refine g_M_55 hx hb hts hown hK hP hwf hj0 (hts _ u_1796) d_M_shift_171 ?_
    refine me_opt (j := j48) (kp_r hkb hkp e49) ?_
    refine lv_sipush (v := 30075) hx hb d_M_shift_174 (by decide) ?_
    obtain ⟨g50, h⟩ := gd_ob h
    refine me_lald hx hb hK hP hwf hj48 (me_in (i := (30075 : Int32)) (k := 30075) (by decide) (by decide) (kp_c hkb.z hkp.z g50)) d_M_shift_177 ?_
    refine fg_topl (y := mL M47 16 j48 30075) (congrArg _ (by decide)) ?_
    refine lv_iload_n hx hb d_M_shift_178 rfl (lv_at hl 2 rfl) ?_
    refine lv_lushr (v := jlushr (mL M47 16 j48 30075) x2) hx hb d_M_shift_179 rfl ?_
    obtain ⟨g51, h⟩ := gd_ob h
    obtain ⟨M52, eM52, h⟩ := st_ob h
    refine me_last (eM52.trans (by rw [show (30077 : Int32).toNatClampNeg = 30077 by decide])) hx hb hK hP hD hwf hS hj48 (me_in (i := (30077 : Int32)) (k := 30077) (by decide) (by decide) (kp_c hkb.z hkp.z g51)) d_M_shift_180 (fun H locs hP hD hwf hS => ?_)
    have hkp := kp_L eM52 hkp
    refine lv_goto (tgt := 256) hx hb d_M_shift_181 (by decide) ?_
    cases h
    exact fg_retv () hx hb hr hlocks ⟨hwf, hkp⟩ hP (hK.sub (tys' := []) [] rfl) hD hS (Nat.le_of_ble_eq_true rfl) (Nat.le_of_ble_eq_true rfl) d_M_shift_256
  have h := if_t c11 h
  refine lv_aload_n hx hb d_M_shift_6 rfl (lv_at hl 0 rfl) ?_
  refine g_M_52 hx hb hts hown hK hP hwf hj0 (hts _ u_1793) d_M_shift_7 ?_
  obtain ⟨j53, e54, h⟩ := bd_ob h
  have hj53 : j53 < N 16 := (hwf.2.1 1 j0 52 _ e54 (by decide) hj0)
  refine me_opt (j := j53) e54 ?_
  refine lv_sipush (v := 30077) hx hb d_M_shift_10 (by decide) ?_
  refine lv_aload_n hx hb d_M_shift_13 rfl (lv_at hl 0 rfl) ?_
  refine g_M_52 hx hb hts hown hK hP hwf hj0 (hts _ u_1793) d_M_shift_14 ?_
  refine me_opt (j := j53) e54 ?_
  refine lv_sipush (v := 30075) hx hb d_M_shift_17 (by decide) ?_
  obtain ⟨g55, h⟩ := gd_ob h
  refine me_lald hx hb hK hP hwf hj53 (me_in (i := (30075 : Int32)) (k := 30075) (by decide) (by decide) g55) d_M_shift_20 ?_
  refine fg_topl (y := mL M0 16 j53 30075) (congrArg _ (by decide)) ?_
  refine lv_iload_n hx hb d_M_shift_21 rfl (lv_at hl 2 rfl) ?_
  refine lv_lshl (v := jlshl (mL M0 16 j53 30075) x2) hx hb d_M_shift_22 rfl ?_
  obtain ⟨g56, h⟩ := gd_ob h
  obtain ⟨M57, eM57, h⟩ := st_ob h
  refine me_last (eM57.trans (by rw [show (30077 : Int32).toNatClampNeg = 30077 by decide])) hx hb hK hP hD hwf hS hj53 (me_in (i := (30077 : Int32)) (k := 30077) (by decide) (by decide) g56) d_M_shift_23 (fun H locs hP hD hwf hS => ?_)
  have hkp := kp_L eM57 hkp
  refine lv_aload_n hx hb d_M_shift_24 rfl (lv_at hl 0 rfl) ?_
  refine g_M_53 hx hb hts hown hK hP hwf hj0 (hts _ u_1794) d_M_shift_25 ?_
  obtain ⟨j58, e59, h⟩ := bd_ob h
  have hj58 : j58 < N 16 := (hwf.2.1 1 j0 53 _ (kp_r hkb hkp e59) (by decide) hj0)
  refine me_opt (j := j58) (kp_r hkb hkp e59) ?_
  refine lv_sipush (v := 30077) hx hb d_M_shift_28 (by decide) ?_
  refine lv_aload_n hx hb d_M_shift_31 rfl (lv_at hl 0 rfl) ?_
  refine g_M_53 hx hb hts hown hK hP hwf hj0 (hts _ u_1794) d_M_shift_32 ?_
  refine me_opt (j := j58) (kp_r hkb hkp e59) ?_
  refine lv_sipush (v := 30075) hx hb d_M_shift_35 (by decide) ?_
  obtain ⟨g60, h⟩ := gd_ob h
  refine me_lald hx hb hK hP hwf hj58 (me_in (i := (30075 : Int32)) (k := 30075) (by decide) (by decide) (kp_c hkb.z hkp.z g60)) d_M_shift_38 ?_
  refine fg_topl (y := mL M57 16 j58 30075) (congrArg _ (by decide)) ?_
  refine lv_iload_n hx hb d_M_shift_39 rfl (lv_at hl 2 rfl) ?_
  refine lv_lshl (v := jlshl (mL M57 16 j58 30075) x2) hx hb d_M_shift_40 rfl ?_
  obtain ⟨g61, h⟩ := gd_ob h
  obtain ⟨M62, eM62, h⟩ := st_ob h
  refine me_last (eM62.trans (by rw [show (30077 : Int32).toNatClampNeg = 30077 by decide])) hx hb hK hP hD hwf hS hj58 (me_in (i := (30077 : Int32)) (k := 30077) (by decide) (by decide) (kp_c hkb.z hkp.z g61)) d_M_shift_41 (fun H locs hP hD hwf hS => ?_)
  have hkp := kp_L eM62 hkp
  refine lv_iload_n hx hb d_M_shift_42 rfl (lv_at hl 2 rfl) ?_
  refine lv_if_eq (tgt := 64) hx hb d_M_shift_43 (by decide) (fun c63 => ?_) (fun c63 => ?_)
  · have h := if_t c63 h
    exact b_64 M62 _ _ _ h hwf hkp hP hD hS (lv_sub hl [0, 2] rfl)
  have h := if_f c63 h
  refine lv_aload_n hx hb d_M_shift_46 rfl (lv_at hl 0 rfl) ?_
  refine g_M_55 hx hb hts hown hK hP hwf hj0 (hts _ u_1796) d_M_shift_47 ?_
  obtain ⟨j64, e65, h⟩ := bd_ob h
  have hj64 : j64 < N 16 := (hwf.2.1 1 j0 55 _ (kp_r hkb hkp e65) (by decide) hj0)
  refine me_opt (j := j64) (kp_r hkb hkp e65) ?_
  refine lv_sipush (v := 30075) hx hb d_M_shift_50 (by decide) ?_
  obtain ⟨g66, h⟩ := gd_ob h
  refine me_lald hx hb hK hP hwf hj64 (me_in (i := (30075 : Int32)) (k := 30075) (by decide) (by decide) (kp_c hkb.z hkp.z g66)) d_M_shift_53 ?_
  refine fg_topl (y := mL M62 16 j64 30075) (congrArg _ (by decide)) ?_
  refine lv_bipush (v := 64) hx hb d_M_shift_54 (by decide) ?_
  refine lv_iload_n hx hb d_M_shift_56 rfl (lv_at hl 2 rfl) ?_
  refine lv_isub hx hb d_M_shift_57 ?_
  refine lv_lushr (v := jlushr (mL M62 16 j64 30075) (64 - x2)) hx hb d_M_shift_58 rfl ?_
  refine lv_lconst (v := 0) hx hb d_M_shift_59 (by decide) ?_
  refine W.lcmp hx hb d_M_shift_60 ?_
  refine lv_if_ne (tgt := 256) hx hb d_M_shift_61 (by decide) (fun c67 => ?_) (fun c67 => ?_)
  · have h := if_f (fun z => c67 ((lg_cmp_eq _ _).mpr z)) h
    cases h
    exact fg_retv () hx hb hr hlocks ⟨hwf, hkp⟩ hP (hK.sub (tys' := []) [] rfl) hD hS (Nat.le_of_ble_eq_true rfl) (Nat.le_of_ble_eq_true rfl) d_M_shift_256
  have h := if_t ((lg_cmp_eq _ _).mp c67) h
  exact b_64 M62 _ _ _ h hwf hkp hP hD hS (lv_sub hl [0, 2] rfl)
theorem d_M_bytesOf_0 : decode prog_14_method_27_code 0 = .ok (.aload_n 0, 1) := by decide +kernel
theorem d_M_bytesOf_1 : decode prog_14_method_27_code 1 = .ok (.iload_n 1, 1) := by decide +kernel
theorem d_M_bytesOf_2 : decode prog_14_method_27_code 2 = .ok (.invokevirtual 192, 3) := by decide +kernel
theorem d_M_bytesOf_5 : decode prog_14_method_27_code 5 = .ok (.ifCond .eq 39, 3) := by decide +kernel
theorem d_M_bytesOf_44 : decode prog_14_method_27_code 44 = .ok (.bipush 8, 2) := by decide +kernel
theorem d_M_bytesOf_46 : decode prog_14_method_27_code 46 = .ok (.ireturn, 1) := by decide +kernel
theorem d_M_bytesOf_8 : decode prog_14_method_27_code 8 = .ok (.aload_n 0, 1) := by decide +kernel
theorem d_M_bytesOf_9 : decode prog_14_method_27_code 9 = .ok (.getfield 104, 3) := by decide +kernel
theorem d_M_bytesOf_12 : decode prog_14_method_27_code 12 = .ok (.iload_n 1, 1) := by decide +kernel
theorem d_M_bytesOf_13 : decode prog_14_method_27_code 13 = .ok (.laload, 1) := by decide +kernel
theorem d_M_bytesOf_14 : decode prog_14_method_27_code 14 = .ok (.ldc2_w 212, 3) := by decide +kernel
theorem u_2305 : Cond.constantLong "FilterGuardModel" 212 2 ∈ fg_g := fg_in (List.mem_of_getElem? (i := 2305) (by decide +kernel)) rfl
theorem d_M_bytesOf_17 : decode prog_14_method_27_code 17 = .ok (.lcmp, 1) := by decide +kernel
theorem d_M_bytesOf_18 : decode prog_14_method_27_code 18 = .ok (.ifCond .eq 16, 3) := by decide +kernel
theorem d_M_bytesOf_34 : decode prog_14_method_27_code 34 = .ok (.aload_n 0, 1) := by decide +kernel
theorem d_M_bytesOf_35 : decode prog_14_method_27_code 35 = .ok (.getfield 104, 3) := by decide +kernel
theorem d_M_bytesOf_38 : decode prog_14_method_27_code 38 = .ok (.iload_n 1, 1) := by decide +kernel
theorem d_M_bytesOf_39 : decode prog_14_method_27_code 39 = .ok (.laload, 1) := by decide +kernel
theorem d_M_bytesOf_40 : decode prog_14_method_27_code 40 = .ok (.l2i, 1) := by decide +kernel
theorem d_M_bytesOf_41 : decode prog_14_method_27_code 41 = .ok (.goto 5, 3) := by decide +kernel
theorem d_M_bytesOf_21 : decode prog_14_method_27_code 21 = .ok (.aload_n 0, 1) := by decide +kernel
theorem d_M_bytesOf_22 : decode prog_14_method_27_code 22 = .ok (.getfield 104, 3) := by decide +kernel
theorem d_M_bytesOf_25 : decode prog_14_method_27_code 25 = .ok (.iload_n 1, 1) := by decide +kernel
theorem d_M_bytesOf_26 : decode prog_14_method_27_code 26 = .ok (.laload, 1) := by decide +kernel
theorem d_M_bytesOf_27 : decode prog_14_method_27_code 27 = .ok (.ldc2_w 214, 3) := by decide +kernel
theorem u_2306 : Cond.constantLong "FilterGuardModel" 214 4 ∈ fg_g := fg_in (List.mem_of_getElem? (i := 2306) (by decide +kernel)) rfl
theorem d_M_bytesOf_30 : decode prog_14_method_27_code 30 = .ok (.lcmp, 1) := by decide +kernel
theorem d_M_bytesOf_31 : decode prog_14_method_27_code 31 = .ok (.ifCond .ne 13, 3) := by decide +kernel
abbrev y_M_bytesOf : MethodName := ⟨"FilterGuardModel", "bytesOf", "(I)I"⟩
def f_M_bytesOf (M0 : me_M) (j0 : Nat) (x1 : Int32) : Option (me_M × Int32) := b2 (f_M_isExact M0 j0 x1) (fun (M1 : me_M) (r2 : Int32) => (if r2 = 0 then some (M1, (8 : Int32)) else bd (mR M0 1 j0 52) (fun (j4 : Nat) => gd (¬ (x1 < 0 ∨ mZ M0 16 j4 ≤ x1.toNatClampNeg)) ((if (mL M1 16 j4 x1.toNatClampNeg) = 2 then some (M1, ((mL M1 16 j4 x1.toNatClampNeg).toInt32)) else (if (mL M1 16 j4 x1.toNatClampNeg) = 4 then some (M1, ((mL M1 16 j4 x1.toNatClampNeg).toInt32)) else some (M1, (8 : Int32))))))))
def rm_M_bytesOf : Room := { frames := 2, cells := 0, slots := 0, locals := 41 }
abbrev q_M_bytesOf (D : va_G) (ad : Nat → Nat → Nat) (ca : Nat → ClassId) (N : Nat → Nat) (M0 MZ : me_M) (RZ : Int32) (A : Nat → Prop) : Array Value → Jvm.State → Outcome → Jvm.State → Prop := va_Qi (fun r (_ : Unit) => r = RZ ∧ me_wf N MZ ∧ me_kp M0 MZ) (fg_B D A (fun _ => me_W ad ca MZ) (fun _ => [])) A
set_option maxHeartbeats 4000000 in
set_option maxRecDepth 100000 in
theorem c_M_bytesOf (l : Launch) (D : va_G) (ad : Nat → Nat → Nat) (ca : Nat → ClassId) (N : Nat → Nat) (M0 MZ : me_M) (RZ : Int32) (j0 : Nat) (x1 : Int32) (h : f_M_bytesOf M0 j0 x1 = (some (MZ, RZ))) (hwf : me_wf N M0) (hj0 : j0 < N 1) (sz : Nat) : Met l y_M_bytesOf (fg_w y_M_bytesOf prog_14_method_27_code 2 (some .int)) rm_M_bytesOf (va_Pc [.ref (ad 1 j0), .int x1] (fz_P D (me_T ca) (me_W ad ca M0) sz)) (q_M_bytesOf D ad ca N M0 MZ RZ (va_A (me_W ad ca M0) sz)) rm_M_bytesOf.cells rm_M_bytesOf.slots (va_A (me_W ad ca M0) sz) := by
  refine fz_enter (fun A => q_M_bytesOf D ad ca N M0 MZ RZ A) (by decide +kernel) (Nat.le_of_ble_eq_true rfl) ?_
  intro p e s m below meth c ls A hx hb hml hown hts hr hlocks hin hP hK hD hS hA hX hl hz
  have hl : lv_has ls 2 [(0, .ref (ad 1 j0)), (1, .int x1)] := hl
  unfold f_M_bytesOf at h
  have hkp : me_kp M0 M0 := me_kp.rf
  have hkb := hkp
  refine lv_aload_n hx hb d_M_bytesOf_0 rfl (lv_at hl 0 rfl) ?_
  refine lv_iload_n hx hb d_M_bytesOf_1 rfl (lv_at hl 1 rfl) ?_
  obtain ⟨M1, r2, eM1, h⟩ := b2_ob h
  refine me_theni0 (M1 := M1) (me_runV (C := "FilterGuardModel") (As := [.int x1]) (rest := []) ⟨hx, hb, hml, hown, hts⟩ (c_M_isExact l D ad ca N M0 M1 r2 j0 x1 eM1 hwf hj0 _) rfl (by show fg_nm y_M_isExact 1; decide +kernel) u_2251 u_2253 u_136 u_192 u_2254 ⟨Nat.le_of_ble_eq_true rfl, Nat.le_of_ble_eq_true rfl⟩ hX hz hK hP hD hwf hS hA hj0 (by decide) rfl rfl rfl hl.1 (Nat.le_of_ble_eq_true rfl) d_M_bytesOf_2 ⟨Nat.le_of_ble_eq_true rfl, Nat.le_of_ble_eq_true rfl⟩) hP hD hK hS hA rfl rfl (fun H locs hw hP hD hS => ?_)
  obtain ⟨hwf, hk9, zr2⟩ := hw
  have hkp := hkp.tr hk9
  refine lv_if_eq (tgt := 44) hx hb d_M_bytesOf_5 (by decide) (fun c3 => ?_) (fun c3 => ?_)
  · have h := if_t c3 h
    refine lv_bipush (v := 8) hx hb d_M_bytesOf_44 (by decide) ?_
    cases h
    exact fg_reti () hx hb hr hlocks ⟨rfl, ⟨hwf, hkp⟩⟩ hP (hK.sub (tys' := []) [] rfl) hD hS (Nat.le_of_ble_eq_true rfl) (Nat.le_of_ble_eq_true rfl) d_M_bytesOf_46
  have h := if_f c3 h
  refine lv_aload_n hx hb d_M_bytesOf_8 rfl (lv_at hl 0 rfl) ?_
  refine g_M_52 hx hb hts hown hK hP hwf hj0 (hts _ u_1793) d_M_bytesOf_9 ?_
  obtain ⟨j4, e5, h⟩ := bd_ob h
  have hj4 : j4 < N 16 := (hwf.2.1 1 j0 52 _ (kp_r hkb hkp e5) (by decide) hj0)
  refine me_opt (j := j4) (kp_r hkb hkp e5) ?_
  refine lv_iload_n hx hb d_M_bytesOf_12 rfl (lv_at hl 1 rfl) ?_
  obtain ⟨g6, h⟩ := gd_ob h
  refine me_lald hx hb hK hP hwf hj4 (kp_z hkb.z hkp.z g6) d_M_bytesOf_13 ?_
  refine lv_ldc2 hx hb hown (hts _ u_2305) d_M_bytesOf_14 ?_
  refine W.lcmp hx hb d_M_bytesOf_17 ?_
  refine lv_if_eq (tgt := 34) hx hb d_M_bytesOf_18 (by decide) (fun c7 => ?_) (fun c7 => ?_)
  · have h := if_t ((lg_cmp_eq _ _).mp c7) h
    refine lv_aload_n hx hb d_M_bytesOf_34 rfl (lv_at hl 0 rfl) ?_
    refine g_M_52 hx hb hts hown hK hP hwf hj0 (hts _ u_1793) d_M_bytesOf_35 ?_
    refine me_opt (j := j4) (kp_r hkb hkp e5) ?_
    refine lv_iload_n hx hb d_M_bytesOf_38 rfl (lv_at hl 1 rfl) ?_
    refine me_lald hx hb hK hP hwf hj4 (kp_z hkb.z hkp.z g6) d_M_bytesOf_39 ?_
    refine lv_l2i (v := (mL M1 16 j4 x1.toNatClampNeg).toInt32) hx hb d_M_bytesOf_40 rfl ?_
    refine lv_goto (tgt := 46) hx hb d_M_bytesOf_41 (by decide) ?_
    cases h
    exact fg_reti () hx hb hr hlocks ⟨rfl, ⟨hwf, hkp⟩⟩ hP (hK.sub (tys' := []) [] rfl) hD hS (Nat.le_of_ble_eq_true rfl) (Nat.le_of_ble_eq_true rfl) d_M_bytesOf_46
  have h := if_f (fun z => c7 ((lg_cmp_eq _ _).mpr z)) h
  refine lv_aload_n hx hb d_M_bytesOf_21 rfl (lv_at hl 0 rfl) ?_
  refine g_M_52 hx hb hts hown hK hP hwf hj0 (hts _ u_1793) d_M_bytesOf_22 ?_
  refine me_opt (j := j4) (kp_r hkb hkp e5) ?_
  refine lv_iload_n hx hb d_M_bytesOf_25 rfl (lv_at hl 1 rfl) ?_
  refine me_lald hx hb hK hP hwf hj4 (kp_z hkb.z hkp.z g6) d_M_bytesOf_26 ?_
  refine lv_ldc2 hx hb hown (hts _ u_2306) d_M_bytesOf_27 ?_
  refine W.lcmp hx hb d_M_bytesOf_30 ?_
  refine lv_if_ne (tgt := 44) hx hb d_M_bytesOf_31 (by decide) (fun c8 => ?_) (fun c8 => ?_)
  · have h := if_f (fun z => c8 ((lg_cmp_eq _ _).mpr z)) h
    refine lv_bipush (v := 8) hx hb d_M_bytesOf_44 (by decide) ?_
    cases h
    exact fg_reti () hx hb hr hlocks ⟨rfl, ⟨hwf, hkp⟩⟩ hP (hK.sub (tys' := []) [] rfl) hD hS (Nat.le_of_ble_eq_true rfl) (Nat.le_of_ble_eq_true rfl) d_M_bytesOf_46
  have h := if_t ((lg_cmp_eq _ _).mp c8) h
  refine lv_aload_n hx hb d_M_bytesOf_34 rfl (lv_at hl 0 rfl) ?_
  refine g_M_52 hx hb hts hown hK hP hwf hj0 (hts _ u_1793) d_M_bytesOf_35 ?_
  refine me_opt (j := j4) (kp_r hkb hkp e5) ?_
  refine lv_iload_n hx hb d_M_bytesOf_38 rfl (lv_at hl 1 rfl) ?_
  refine me_lald hx hb hK hP hwf hj4 (kp_z hkb.z hkp.z g6) d_M_bytesOf_39 ?_
  refine lv_l2i (v := (mL M1 16 j4 x1.toNatClampNeg).toInt32) hx hb d_M_bytesOf_40 rfl ?_
  refine lv_goto (tgt := 46) hx hb d_M_bytesOf_41 (by decide) ?_
  cases h
  exact fg_reti () hx hb hr hlocks ⟨rfl, ⟨hwf, hkp⟩⟩ hP (hK.sub (tys' := []) [] rfl) hD hS (Nat.le_of_ble_eq_true rfl) (Nat.le_of_ble_eq_true rfl) d_M_bytesOf_46
theorem d_M_top_0 : decode prog_14_method_28_code 0 = .ok (.iload_n 0, 1) := by decide +kernel
theorem d_M_top_1 : decode prog_14_method_28_code 1 = .ok (.bipush 8, 2) := by decide +kernel
theorem d_M_top_3 : decode prog_14_method_28_code 3 = .ok (.if_icmp .ne 9, 3) := by decide +kernel
theorem d_M_top_12 : decode prog_14_method_28_code 12 = .ok (.iload_n 0, 1) := by decide +kernel
theorem d_M_top_13 : decode prog_14_method_28_code 13 = .ok (.iconst 4, 1) := by decide +kernel
theorem d_M_top_14 : decode prog_14_method_28_code 14 = .ok (.if_icmp .ne 9, 3) := by decide +kernel
theorem d_M_top_23 : decode prog_14_method_28_code 23 = .ok (.ldc2_w 216, 3) := by decide +kernel
theorem u_2370 : Cond.constantLong "FilterGuardModel" 216 65535 ∈ fg_g := fg_in (List.mem_of_getElem? (i := 2370) (by decide +kernel)) rfl
theorem d_M_top_26 : decode prog_14_method_28_code 26 = .ok (.lreturn, 1) := by decide +kernel
theorem d_M_top_17 : decode prog_14_method_28_code 17 = .ok (.ldc2_w 203, 3) := by decide +kernel
theorem d_M_top_20 : decode prog_14_method_28_code 20 = .ok (.goto 6, 3) := by decide +kernel
theorem d_M_top_6 : decode prog_14_method_28_code 6 = .ok (.ldc2_w 162, 3) := by decide +kernel
theorem d_M_top_9 : decode prog_14_method_28_code 9 = .ok (.goto 17, 3) := by decide +kernel
abbrev y_M_top : MethodName := ⟨"FilterGuardModel", "top", "(I)J"⟩
def f_M_top (x0 : Int32) : Option Int64 := (if x0 = 8 then some (-1 : Int64) else (if x0 = 4 then some (4294967295 : Int64) else some (65535 : Int64)))
def rm_M_top : Room := { frames := 1, cells := 0, slots := 0, locals := 20 }
abbrev q_M_top (D : va_G) (RZ : Int64) (A : Nat → Prop) : Array Value → Jvm.State → Outcome → Jvm.State → Prop := va_Ql (fun r (_ : Unit) => r = RZ ∧ True) (fg_B D A (fun _ => []) (fun _ => [])) A
set_option maxHeartbeats 4000000 in
set_option maxRecDepth 100000 in
theorem c_M_top (l : Launch) (D : va_G) (RZ : Int64) (x0 : Int32) (h : f_M_top x0 = (some RZ)) (sz : Nat) : Met l y_M_top (fg_w y_M_top prog_14_method_28_code 1 (some .long)) rm_M_top (va_Pc [.int x0] (fg_P D [] [] sz)) (q_M_top D RZ (va_A [] sz)) rm_M_top.cells rm_M_top.slots (va_A [] sz) := by
  refine fg_enter (fun A => q_M_top D RZ A) (by decide +kernel) (Nat.le_of_ble_eq_true rfl) ?_
  intro p e s m below meth c ls A hx hb hml hown hts hr hlocks hin hP hK hD hS hA hX hl
  have hl : lv_has ls 1 [(0, .int x0)] := hl
  unfold f_M_top at h
  refine lv_iload_n hx hb d_M_top_0 rfl (lv_at hl 0 rfl) ?_
  refine lv_bipush (v := 8) hx hb d_M_top_1 (by decide) ?_
  refine lv_icmp_ne (tgt := 12) hx hb d_M_top_3 (by decide) (fun c1 => ?_) (fun c1 => ?_)
  · have h := if_f c1 h
    refine lv_iload_n hx hb d_M_top_12 rfl (lv_at hl 0 rfl) ?_
    refine lv_iconst (v := 4) hx hb d_M_top_13 (by decide) ?_
    refine lv_icmp_ne (tgt := 23) hx hb d_M_top_14 (by decide) (fun c2 => ?_) (fun c2 => ?_)
    · have h := if_f c2 h
      refine lv_ldc2 hx hb hown (hts _ u_2370) d_M_top_23 ?_
      cases h
      exact fg_retl () hx hb hr hlocks ⟨rfl, trivial⟩ me_P0 (hK.sub (tys' := []) [] rfl) me_D0 hS (Nat.le_of_ble_eq_true rfl) (Nat.le_of_ble_eq_true rfl) d_M_top_26
    have h := if_t c2 h
    refine lv_ldc2 hx hb hown (hts _ u_2019) d_M_top_17 ?_
    refine lv_goto (tgt := 26) hx hb d_M_top_20 (by decide) ?_
    cases h
    exact fg_retl () hx hb hr hlocks ⟨rfl, trivial⟩ me_P0 (hK.sub (tys' := []) [] rfl) me_D0 hS (Nat.le_of_ble_eq_true rfl) (Nat.le_of_ble_eq_true rfl) d_M_top_26
  have h := if_t c1 h
  refine lv_ldc2 hx hb hown (hts _ u_2071) d_M_top_6 ?_
  refine lv_goto (tgt := 26) hx hb d_M_top_9 (by decide) ?_
  cases h
  exact fg_retl () hx hb hr hlocks ⟨rfl, trivial⟩ me_P0 (hK.sub (tys' := []) [] rfl) me_D0 hS (Nat.le_of_ble_eq_true rfl) (Nat.le_of_ble_eq_true rfl) d_M_top_26
theorem d_M_swap_15 : decode prog_14_method_29_code 15 = .ok (.iload 4, 2) := by decide +kernel
theorem d_M_swap_17 : decode prog_14_method_29_code 17 = .ok (.iload_n 1, 1) := by decide +kernel
theorem d_M_swap_18 : decode prog_14_method_29_code 18 = .ok (.if_icmp .ge 33, 3) := by decide +kernel
theorem d_M_swap_51 : decode prog_14_method_29_code 51 = .ok (.aload_n 0, 1) := by decide +kernel
theorem d_M_swap_52 : decode prog_14_method_29_code 52 = .ok (.sipush 30077, 3) := by decide +kernel
theorem d_M_swap_55 : decode prog_14_method_29_code 55 = .ok (.lload_n 2, 1) := by decide +kernel
theorem d_M_swap_56 : decode prog_14_method_29_code 56 = .ok (.invokevirtual 195, 3) := by decide +kernel
theorem d_M_swap_59 : decode prog_14_method_29_code 59 = .ok (.goto 21, 3) := by decide +kernel
theorem d_M_swap_80 : decode prog_14_method_29_code 80 = .ok (.return_, 1) := by decide +kernel
theorem d_M_swap_21 : decode prog_14_method_29_code 21 = .ok (.lload_n 2, 1) := by decide +kernel
theorem d_M_swap_22 : decode prog_14_method_29_code 22 = .ok (.bipush 8, 2) := by decide +kernel
theorem d_M_swap_24 : decode prog_14_method_29_code 24 = .ok (.lshl, 1) := by decide +kernel
theorem d_M_swap_25 : decode prog_14_method_29_code 25 = .ok (.aload_n 0, 1) := by decide +kernel
theorem d_M_swap_26 : decode prog_14_method_29_code 26 = .ok (.getfield 104, 3) := by decide +kernel
theorem d_M_swap_29 : decode prog_14_method_29_code 29 = .ok (.sipush 30075, 3) := by decide +kernel
theorem d_M_swap_32 : decode prog_14_method_29_code 32 = .ok (.laload, 1) := by decide +kernel
theorem d_M_swap_33 : decode prog_14_method_29_code 33 = .ok (.bipush 8, 2) := by decide +kernel
theorem d_M_swap_35 : decode prog_14_method_29_code 35 = .ok (.iload 4, 2) := by decide +kernel
theorem d_M_swap_37 : decode prog_14_method_29_code 37 = .ok (.imul, 1) := by decide +kernel
theorem d_M_swap_38 : decode prog_14_method_29_code 38 = .ok (.lshr, 1) := by decide +kernel
theorem d_M_swap_39 : decode prog_14_method_29_code 39 = .ok (.ldc2_w 218, 3) := by decide +kernel
theorem u_1980 : Cond.constantLong "FilterGuardModel" 218 255 ∈ fg_g := fg_in (List.mem_of_getElem? (i := 1980) (by decide +kernel)) rfl
theorem d_M_swap_42 : decode prog_14_method_29_code 42 = .ok (.land, 1) := by decide +kernel
theorem d_M_swap_43 : decode prog_14_method_29_code 43 = .ok (.lor, 1) := by decide +kernel
theorem d_M_swap_44 : decode prog_14_method_29_code 44 = .ok (.lstore_n 2, 1) := by decide +kernel
theorem d_M_swap_45 : decode prog_14_method_29_code 45 = .ok (.iinc 4 1, 3) := by decide +kernel
theorem d_M_swap_48 : decode prog_14_method_29_code 48 = .ok (.goto (-33), 3) := by decide +kernel
theorem d_M_swap_0 : decode prog_14_method_29_code 0 = .ok (.aload_n 0, 1) := by decide +kernel
theorem d_M_swap_1 : decode prog_14_method_29_code 1 = .ok (.sipush 30075, 3) := by decide +kernel
theorem d_M_swap_4 : decode prog_14_method_29_code 4 = .ok (.invokevirtual 192, 3) := by decide +kernel
theorem d_M_swap_7 : decode prog_14_method_29_code 7 = .ok (.ifCond .eq 55, 3) := by decide +kernel
theorem d_M_swap_62 : decode prog_14_method_29_code 62 = .ok (.iload_n 1, 1) := by decide +kernel
theorem d_M_swap_63 : decode prog_14_method_29_code 63 = .ok (.bipush 8, 2) := by decide +kernel
theorem d_M_swap_65 : decode prog_14_method_29_code 65 = .ok (.if_icmp .ge 15, 3) := by decide +kernel
theorem d_M_swap_68 : decode prog_14_method_29_code 68 = .ok (.aload_n 0, 1) := by decide +kernel
theorem d_M_swap_69 : decode prog_14_method_29_code 69 = .ok (.getfield 113, 3) := by decide +kernel
theorem d_M_swap_72 : decode prog_14_method_29_code 72 = .ok (.sipush 30077, 3) := by decide +kernel
theorem d_M_swap_75 : decode prog_14_method_29_code 75 = .ok (.iload_n 1, 1) := by decide +kernel
theorem d_M_swap_76 : decode prog_14_method_29_code 76 = .ok (.invokestatic 220, 3) := by decide +kernel
theorem u_2367 : Cond.methodLink "FilterGuardModel" 220 ⟨"FilterGuardModel", "top", "(I)J"⟩ ∈ fg_g := fg_in (List.mem_of_getElem? (i := 2367) (by decide +kernel)) rfl
theorem u_2369 : Cond.code ⟨"FilterGuardModel", "top", "(I)J"⟩ prog_14_method_28_code 1 (some .long) ∈ fg_g := fg_in (List.mem_of_getElem? (i := 2369) (by decide +kernel)) rfl
theorem u_2368 : Cond.static ⟨"FilterGuardModel", "top", "(I)J"⟩ ∈ fg_g := fg_in (List.mem_of_getElem? (i := 2368) (by decide +kernel)) rfl
theorem d_M_swap_79 : decode prog_14_method_29_code 79 = .ok (.lastore, 1) := by decide +kernel
theorem d_M_swap_10 : decode prog_14_method_29_code 10 = .ok (.lconst 0, 1) := by decide +kernel
theorem d_M_swap_11 : decode prog_14_method_29_code 11 = .ok (.lstore_n 2, 1) := by decide +kernel
theorem d_M_swap_12 : decode prog_14_method_29_code 12 = .ok (.iconst 0, 1) := by decide +kernel
theorem d_M_swap_13 : decode prog_14_method_29_code 13 = .ok (.istore 4, 2) := by decide +kernel
abbrev y_M_swap : MethodName := ⟨"FilterGuardModel", "swap", "(I)V"⟩
def f_M_swap_l15 (j0 : Nat) (x1 : Int32) : Nat → me_M → Int64 → Int32 → Option me_M
  | 0, _, _, _ => none
  | fu + 1, M, y2, y4 => (if x1 ≤ y4 then bd (f_M_setExact M j0 (30077 : Int32) y2) (fun (M2 : me_M) => some M2) else bd (mR M 1 j0 52) (fun (j3 : Nat) => gd (30075 < mZ M 16 j3) (st ((jlshl y2 (8 : Int32)) ||| ((jlshr (mL M 16 j3 30075) (8 * y4)) &&& 255)) (fun (v6 : Int64) => f_M_swap_l15 j0 x1 fu M v6 (y4 + 1)))))
def f_M_swap (M0 : me_M) (j0 : Nat) (x1 : Int32) : Option me_M := b2 (f_M_isExact M0 j0 (30075 : Int32)) (fun (M7 : me_M) (r8 : Int32) => (if r8 = 0 then (if 8 ≤ x1 then some M7 else bd (mR M0 1 j0 55) (fun (j11 : Nat) => bd (f_M_top x1) (fun (r13 : Int64) => gd (30077 < mZ M0 16 j11) (st (wL M7 16 j11 30077 r13) (fun (M15 : me_M) => some M15))))) else f_M_swap_l15 j0 x1 fuel M7 (0 : Int64) (0 : Int32)))
def rm_M_swap : Room := { frames := 2, cells := 0, slots := 0, locals := 43 }
abbrev q_M_swap (D : va_G) (ad : Nat → Nat → Nat) (ca : Nat → ClassId) (N : Nat → Nat) (M0 MZ : me_M) (A : Nat → Prop) : Array Value → Jvm.State → Outcome → Jvm.State → Prop := va_Qv (fun (_ : Unit) => me_wf N MZ ∧ me_kp M0 MZ) (fg_B D A (fun _ => me_W ad ca MZ) (fun _ => [])) A
set_option maxHeartbeats 4000000 in
set_option maxRecDepth 100000 in
theorem c_M_swap (l : Launch) (D : va_G) (ad : Nat → Nat → Nat) (ca : Nat → ClassId) (N : Nat → Nat) (M0 MZ : me_M) (j0 : Nat) (x1 : Int32) (h : f_M_swap M0 j0 x1 = (some MZ)) (hwf : me_wf N M0) (hj0 : j0 < N 1) (sz : Nat) : Met l y_M_swap (fg_w y_M_swap prog_14_method_29_code 5 none) rm_M_swap (va_Pc [.ref (ad 1 j0), .int x1] (fz_P D (me_T ca) (me_W ad ca M0) sz)) (q_M_swap D ad ca N M0 MZ (va_A (me_W ad ca M0) sz)) rm_M_swap.cells rm_M_swap.slots (va_A (me_W ad ca M0) sz) := by
  refine fz_enter (fun A => q_M_swap D ad ca N M0 MZ A) (by decide +kernel) (Nat.le_of_ble_eq_true rfl) ?_
  intro p e s m below meth c ls A hx hb hml hown hts hr hlocks hin hP hK hD hS hA hX hl hz
  have hl : lv_has ls 5 [(0, .ref (ad 1 j0)), (1, .int x1)] := hl
  unfold f_M_swap at h
  have hkp : me_kp M0 M0 := me_kp.rf
  have hkb := hkp
  have b_15 : ∀ (fu : Nat), ∀ (M : me_M) (y2 : Int64) (y4 : Int32) (H : Heap) (locs : List Loc) (ls : Array Slot), f_M_swap_l15 j0 x1 fu M y2 y4 = (some MZ) → me_wf N M → me_kp M0 M → va_P D classes (me_W ad ca M) H → va_D A (me_W ad ca M) → va_S A s.heap H locs → lv_has ls 5 [(0, .ref (ad 1 j0)), (1, .int x1), (2, .long y2), (4, .int y4)] → W p l e rm_M_swap s m [.ref (ad 1 j0), .int x1].toArray below meth c H locs 0 0 (MQ below (q_M_swap D ad ca N M0 MZ A) [.ref (ad 1 j0), .int x1].toArray s rm_M_swap.cells rm_M_swap.slots A) (F0 m 15 ls []) := by
    intro fu
    induction fu with
    | zero =>
      intro M y2 y4 H locs ls h hwf hkp hP hD hS hl
      cases h
    | succ fu ih =>
      intro M y2 y4 H locs ls h hwf hkp hP hD hS hl
      unfold f_M_swap_l15 at h
      have hkb := hkp
      refine lv_iload hx hb d_M_swap_15 (lv_at hl 3 rfl) ?_
      refine lv_iload_n hx hb d_M_swap_17 rfl (lv_at hl 1 rfl) ?_
      refine lv_icmp_ge (tgt := 51) hx hb d_M_swap_18 (by decide) (fun c1 => ?_) (fun c1 => ?_)
      · have h := if_t c1 h
        refine lv_aload_n hx hb d_M_swap_51 rfl (lv_at hl 0 rfl) ?_
        refine lv_sipush (v := 30077) hx hb d_M_swap_52 (by decide) ?_
        refine lv_lload_n hx hb d_M_swap_55 rfl (lv_at hl 2 rfl) ?_
        obtain ⟨M2, eM2, h⟩ := bd_ob h
        refine me_thenv0 (M1 := M2) (me_runV (C := "FilterGuardModel") (As := [.int 30077, .long y2]) (rest := []) ⟨hx, hb, hml, hown, hts⟩ (c_M_setExact l D ad ca N M M2 j0 (30077 : Int32) y2 eM2 hwf hj0 _) rfl (by show fg_nm y_M_setExact 2; decide +kernel) u_2108 u_2110 u_106 u_192 u_2111 ⟨Nat.le_of_ble_eq_true rfl, Nat.le_of_ble_eq_true rfl⟩ hX hz hK hP hD hwf hS hA hj0 (by decide) rfl rfl rfl hl.1 (Nat.le_of_ble_eq_true rfl) d_M_swap_56 ⟨Nat.le_of_ble_eq_true rfl, Nat.le_of_ble_eq_true rfl⟩) hP hD hK hS hA rfl rfl (fun H locs hw hP hD hS => ?_)
        obtain ⟨hwf, hk9⟩ := hw
        have hkp := hkp.tr hk9
        refine lv_goto (tgt := 80) hx hb d_M_swap_59 (by decide) ?_
        cases h
        exact fg_retv () hx hb hr hlocks ⟨hwf, hkp⟩ hP (hK.sub (tys' := []) [] rfl) hD hS (Nat.le_of_ble_eq_true rfl) (Nat.le_of_ble_eq_true rfl) d_M_swap_80
      have h := if_f c1 h
      refine lv_lload_n hx hb d_M_swap_21 rfl (lv_at hl 2 rfl) ?_
      refine lv_bipush (v := 8) hx hb d_M_swap_22 (by decide) ?_
      refine lv_lshl (v := jlshl y2 (8 : Int32)) hx hb d_M_swap_24 rfl ?_
      refine lv_aload_n hx hb d_M_swap_25 rfl (lv_at hl 0 rfl) ?_
      refine g_M_52 hx hb hts hown hK hP hwf hj0 (hts _ u_1793) d_M_swap_26 ?_
      obtain ⟨j3, e4, h⟩ := bd_ob h
      have hj3 : j3 < N 16 := (hwf.2.1 1 j0 52 _ e4 (by decide) hj0)
      refine me_opt (j := j3) e4 ?_
      refine lv_sipush (v := 30075) hx hb d_M_swap_29 (by decide) ?_
      obtain ⟨g5, h⟩ := gd_ob h
      refine me_lald hx hb hK hP hwf hj3 (me_in (i := (30075 : Int32)) (k := 30075) (by decide) (by decide) g5) d_M_swap_32 ?_
      refine fg_topl (y := mL M 16 j3 30075) (congrArg _ (by decide)) ?_
      refine lv_bipush (v := 8) hx hb d_M_swap_33 (by decide) ?_
      refine lv_iload hx hb d_M_swap_35 (lv_at hl 3 rfl) ?_
      refine lv_imul hx hb d_M_swap_37 ?_
      refine lv_lshr (v := jlshr (mL M 16 j3 30075) (8 * y4)) hx hb d_M_swap_38 rfl ?_
      refine lv_ldc2 hx hb hown (hts _ u_1980) d_M_swap_39 ?_
      refine lv_land hx hb d_M_swap_42 ?_
      refine lv_lor hx hb d_M_swap_43 ?_
      obtain ⟨v6, ev6, h⟩ := st_ob h
      refine fg_topl (y := v6) ev6.symm ?_
      refine lv_lstore_n (lv' := [(2, .long v6), (0, .ref (ad 1 j0)), (1, .int x1), (4, .int y4)]) hx hb d_M_swap_44 rfl hl (by decide) rfl (fun ls hl => ?_)
      refine lv_iinc (v := y4 + 1) (lv' := [(4, .int (y4 + 1)), (2, .long v6), (0, .ref (ad 1 j0)), (1, .int x1)]) hx hb d_M_swap_45 hl (k := 3) rfl (by rfl) (by decide) rfl (fun ls hl => ?_)
      refine lv_goto (tgt := 15) hx hb d_M_swap_48 (by decide) ?_
      exact ih M v6 (y4 + 1) _ _ _ h hwf hkp hP hD hS (lv_sub hl [2, 3, 1, 0] rfl)
  refine lv_aload_n hx hb d_M_swap_0 rfl (lv_at hl 0 rfl) ?_
  refine lv_sipush (v := 30075) hx hb d_M_swap_1 (by decide) ?_
  obtain ⟨M7, r8, eM7, h⟩ := b2_ob h
  refine me_theni0 (M1 := M7) (me_runV (C := "FilterGuardModel") (As := [.int 30075]) (rest := []) ⟨hx, hb, hml, hown, hts⟩ (c_M_isExact l D ad ca N M0 M7 r8 j0 (30075 : Int32) eM7 hwf hj0 _) rfl (by show fg_nm y_M_isExact 1; decide +kernel) u_2251 u_2253 u_136 u_192 u_2254 ⟨Nat.le_of_ble_eq_true rfl, Nat.le_of_ble_eq_true rfl⟩ hX hz hK hP hD hwf hS hA hj0 (by decide) rfl rfl rfl hl.1 (Nat.le_of_ble_eq_true rfl) d_M_swap_4 ⟨Nat.le_of_ble_eq_true rfl, Nat.le_of_ble_eq_true rfl⟩) hP hD hK hS hA rfl rfl (fun H locs hw hP hD hS => ?_)
  obtain ⟨hwf, hk9, zr8⟩ := hw
  have hkp := hkp.tr hk9
  refine lv_if_eq (tgt := 62) hx hb d_M_swap_7 (by decide) (fun c9 => ?_) (fun c9 => ?_)
  · have h := if_t c9 h
    refine lv_iload_n hx hb d_M_swap_62 rfl (lv_at hl 1 rfl) ?_
    refine lv_bipush (v := 8) hx hb d_M_swap_63 (by decide) ?_
    refine lv_icmp_ge (tgt := 80) hx hb d_M_swap_65 (by decide) (fun c10 => ?_) (fun c10 => ?_)
    · have h := if_t c10 h
      cases h
      exact fg_retv () hx hb hr hlocks ⟨hwf, hkp⟩ hP (hK.sub (tys' := []) [] rfl) hD hS (Nat.le_of_ble_eq_true rfl) (Nat.le_of_ble_eq_true rfl) d_M_swap_80
    have h := if_f c10 h
    refine lv_aload_n hx hb d_M_swap_68 rfl (lv_at hl 0 rfl) ?_
    refine g_M_55 hx hb hts hown hK hP hwf hj0 (hts _ u_1796) d_M_swap_69 ?_
    obtain ⟨j11, e12, h⟩ := bd_ob h
    have hj11 : j11 < N 16 := (hwf.2.1 1 j0 55 _ (kp_r hkb hkp e12) (by decide) hj0)
    refine me_opt (j := j11) (kp_r hkb hkp e12) ?_
    refine lv_sipush (v := 30077) hx hb d_M_swap_72 (by decide) ?_
    refine lv_iload_n hx hb d_M_swap_75 rfl (lv_at hl 1 rfl) ?_
    obtain ⟨r13, er13, h⟩ := bd_ob h
    refine me_panl' (r0 := r13) (fg_runS (wc := []) (tc := []) (A2 := A) (As := [.int x1]) (rest := [.int 30077, .ref (ad 16 j11)]) ⟨hx, hb, hml, hown, hts⟩ (c_M_top l D r13 x1 er13 _) (by show fg_nm y_M_top 1; decide +kernel) u_2367 u_2368 u_192 u_2369 ⟨Nat.le_of_ble_eq_true rfl, Nat.le_of_ble_eq_true rfl⟩ hX me_P0 (hK.sub (tys' := []) [] rfl) me_D0 rfl hl.1 (Nat.le_of_ble_eq_true rfl) d_M_swap_76 ⟨Nat.le_of_ble_eq_true rfl, Nat.le_of_ble_eq_true rfl⟩) hP hD hK hS hA rfl rfl (fun H locs hw hP hD hS => ?_)
    obtain ⟨g14, h⟩ := gd_ob h
    obtain ⟨M15, eM15, h⟩ := st_ob h
    refine me_last (eM15.trans (by rw [show (30077 : Int32).toNatClampNeg = 30077 by decide])) hx hb hK hP hD hwf hS hj11 (me_in (i := (30077 : Int32)) (k := 30077) (by decide) (by decide) (kp_c hkb.z hkp.z g14)) d_M_swap_79 (fun H locs hP hD hwf hS => ?_)
    have hkp := kp_L eM15 hkp
    cases h
    exact fg_retv () hx hb hr hlocks ⟨hwf, hkp⟩ hP (hK.sub (tys' := []) [] rfl) hD hS (Nat.le_of_ble_eq_true rfl) (Nat.le_of_ble_eq_true rfl) d_M_swap_80
  have h := if_f c9 h
  refine lv_lconst (v := 0) hx hb d_M_swap_10 (by decide) ?_
  refine lv_lstore_n (lv' := [(2, .long 0), (0, .ref (ad 1 j0)), (1, .int x1)]) hx hb d_M_swap_11 rfl hl (by decide) rfl (fun ls hl => ?_)
  refine lv_iconst (v := 0) hx hb d_M_swap_12 (by decide) ?_
  refine lv_istore (lv' := [(4, .int 0), (2, .long 0), (0, .ref (ad 1 j0)), (1, .int x1)]) hx hb d_M_swap_13 hl (by decide) rfl (fun ls hl => ?_)
  exact b_15 _ M7 (0 : Int64) (0 : Int32) _ _ _ h hwf hkp hP hD hS (lv_sub hl [2, 3, 1, 0] rfl)
theorem d_M_cut_0 : decode prog_14_method_30_code 0 = .ok (.iload_n 1, 1) := by decide +kernel
theorem d_M_cut_1 : decode prog_14_method_30_code 1 = .ok (.invokestatic 220, 3) := by decide +kernel
theorem d_M_cut_4 : decode prog_14_method_30_code 4 = .ok (.aload_n 0, 1) := by decide +kernel
theorem d_M_cut_5 : decode prog_14_method_30_code 5 = .ok (.getfield 113, 3) := by decide +kernel
theorem d_M_cut_8 : decode prog_14_method_30_code 8 = .ok (.sipush 30075, 3) := by decide +kernel
theorem d_M_cut_11 : decode prog_14_method_30_code 11 = .ok (.laload, 1) := by decide +kernel
theorem d_M_cut_12 : decode prog_14_method_30_code 12 = .ok (.invokestatic 158, 3) := by decide +kernel
theorem d_M_cut_15 : decode prog_14_method_30_code 15 = .ok (.ifCond .ne 14, 3) := by decide +kernel
theorem d_M_cut_29 : decode prog_14_method_30_code 29 = .ok (.aload_n 0, 1) := by decide +kernel
theorem d_M_cut_30 : decode prog_14_method_30_code 30 = .ok (.sipush 30076, 3) := by decide +kernel
theorem d_M_cut_33 : decode prog_14_method_30_code 33 = .ok (.iload_n 1, 1) := by decide +kernel
theorem d_M_cut_34 : decode prog_14_method_30_code 34 = .ok (.invokestatic 220, 3) := by decide +kernel
theorem d_M_cut_37 : decode prog_14_method_30_code 37 = .ok (.invokevirtual 195, 3) := by decide +kernel
theorem d_M_cut_40 : decode prog_14_method_30_code 40 = .ok (.aload_n 0, 1) := by decide +kernel
theorem d_M_cut_41 : decode prog_14_method_30_code 41 = .ok (.iconst 5, 1) := by decide +kernel
theorem d_M_cut_42 : decode prog_14_method_30_code 42 = .ok (.invokevirtual 224, 3) := by decide +kernel
theorem u_2355 : Cond.methodLink "FilterGuardModel" 224 ⟨"FilterGuardModel", "logic", "(I)V"⟩ ∈ fg_g := fg_in (List.mem_of_getElem? (i := 2355) (by decide +kernel)) rfl
theorem u_2358 : Cond.code ⟨"FilterGuardModel", "logic", "(I)V"⟩ prog_14_method_25_code 2 none ∈ fg_g := fg_in (List.mem_of_getElem? (i := 2358) (by decide +kernel)) rfl
theorem u_2357 : Cond.instanceMethod ⟨"FilterGuardModel", "logic", "(I)V"⟩ ∈ fg_g := fg_in (List.mem_of_getElem? (i := 2357) (by decide +kernel)) rfl
theorem u_159 : Cond.selects "FilterGuardModel" ⟨"FilterGuardModel", "logic", "(I)V"⟩ ⟨"FilterGuardModel", "logic", "(I)V"⟩ ∈ fg_g := fg_in (List.mem_of_getElem? (i := 159) (by decide +kernel)) rfl
theorem d_M_cut_45 : decode prog_14_method_30_code 45 = .ok (.return_, 1) := by decide +kernel
theorem d_M_cut_18 : decode prog_14_method_30_code 18 = .ok (.aload_n 0, 1) := by decide +kernel
theorem d_M_cut_19 : decode prog_14_method_30_code 19 = .ok (.sipush 30075, 3) := by decide +kernel
theorem d_M_cut_22 : decode prog_14_method_30_code 22 = .ok (.sipush 30077, 3) := by decide +kernel
theorem d_M_cut_25 : decode prog_14_method_30_code 25 = .ok (.invokevirtual 208, 3) := by decide +kernel
theorem d_M_cut_28 : decode prog_14_method_30_code 28 = .ok (.return_, 1) := by decide +kernel
abbrev y_M_cut : MethodName := ⟨"FilterGuardModel", "cut", "(I)V"⟩
def f_M_cut (M0 : me_M) (j0 : Nat) (x1 : Int32) : Option me_M := bd (f_M_top x1) (fun (r1 : Int64) => bd (mR M0 1 j0 55) (fun (j2 : Nat) => gd (30075 < mZ M0 16 j2) (bd (f_M_below r1 (mL M0 16 j2 30075)) (fun (r5 : Int32) => (if r5 = 0 then bd (f_M_copyNumber M0 j0 (30075 : Int32) (30077 : Int32)) (fun (M10 : me_M) => some M10) else bd (f_M_top x1) (fun (r7 : Int64) => bd (f_M_setExact M0 j0 (30076 : Int32) r7) (fun (M8 : me_M) => bd (f_M_logic M8 j0 (5 : Int32)) (fun (M9 : me_M) => some M9))))))))
def rm_M_cut : Room := { frames := 4, cells := 0, slots := 0, locals := 87 }
abbrev q_M_cut (D : va_G) (ad : Nat → Nat → Nat) (ca : Nat → ClassId) (N : Nat → Nat) (M0 MZ : me_M) (A : Nat → Prop) : Array Value → Jvm.State → Outcome → Jvm.State → Prop := va_Qv (fun (_ : Unit) => me_wf N MZ ∧ me_kp M0 MZ) (fg_B D A (fun _ => me_W ad ca MZ) (fun _ => [])) A
set_option maxHeartbeats 4000000 in
set_option maxRecDepth 100000 in
theorem c_M_cut (l : Launch) (D : va_G) (ad : Nat → Nat → Nat) (ca : Nat → ClassId) (N : Nat → Nat) (M0 MZ : me_M) (j0 : Nat) (x1 : Int32) (h : f_M_cut M0 j0 x1 = (some MZ)) (hwf : me_wf N M0) (hj0 : j0 < N 1) (sz : Nat) : Met l y_M_cut (fg_w y_M_cut prog_14_method_30_code 2 none) rm_M_cut (va_Pc [.ref (ad 1 j0), .int x1] (fz_P D (me_T ca) (me_W ad ca M0) sz)) (q_M_cut D ad ca N M0 MZ (va_A (me_W ad ca M0) sz)) rm_M_cut.cells rm_M_cut.slots (va_A (me_W ad ca M0) sz) := by
  refine fz_enter (fun A => q_M_cut D ad ca N M0 MZ A) (by decide +kernel) (Nat.le_of_ble_eq_true rfl) ?_
  intro p e s m below meth c ls A hx hb hml hown hts hr hlocks hin hP hK hD hS hA hX hl hz
  have hl : lv_has ls 2 [(0, .ref (ad 1 j0)), (1, .int x1)] := hl
  unfold f_M_cut at h
  have hkp : me_kp M0 M0 := me_kp.rf
  have hkb := hkp
  refine lv_iload_n hx hb d_M_cut_0 rfl (lv_at hl 1 rfl) ?_
  obtain ⟨r1, er1, h⟩ := bd_ob h
  refine me_panl' (r0 := r1) (fg_runS (wc := []) (tc := []) (A2 := A) (As := [.int x1]) (rest := []) ⟨hx, hb, hml, hown, hts⟩ (c_M_top l D r1 x1 er1 _) (by show fg_nm y_M_top 1; decide +kernel) u_2367 u_2368 u_192 u_2369 ⟨Nat.le_of_ble_eq_true rfl, Nat.le_of_ble_eq_true rfl⟩ hX me_P0 (hK.sub (tys' := []) [] rfl) me_D0 rfl hl.1 (Nat.le_of_ble_eq_true rfl) d_M_cut_1 ⟨Nat.le_of_ble_eq_true rfl, Nat.le_of_ble_eq_true rfl⟩) hP hD hK hS hA rfl rfl (fun H locs hw hP hD hS => ?_)
  refine lv_aload_n hx hb d_M_cut_4 rfl (lv_at hl 0 rfl) ?_
  refine g_M_55 hx hb hts hown hK hP hwf hj0 (hts _ u_1796) d_M_cut_5 ?_
  obtain ⟨j2, e3, h⟩ := bd_ob h
  have hj2 : j2 < N 16 := (hwf.2.1 1 j0 55 _ e3 (by decide) hj0)
  refine me_opt (j := j2) e3 ?_
  refine lv_sipush (v := 30075) hx hb d_M_cut_8 (by decide) ?_
  obtain ⟨g4, h⟩ := gd_ob h
  refine me_lald hx hb hK hP hwf hj2 (me_in (i := (30075 : Int32)) (k := 30075) (by decide) (by decide) g4) d_M_cut_11 ?_
  refine fg_topl (y := mL M0 16 j2 30075) (congrArg _ (by decide)) ?_
  obtain ⟨r5, er5, h⟩ := bd_ob h
  refine me_pani' (r0 := r5) (fg_runS (wc := []) (tc := []) (A2 := A) (As := [.long r1, .long (mL M0 16 j2 30075)]) (rest := []) ⟨hx, hb, hml, hown, hts⟩ (c_M_below l D r5 r1 (mL M0 16 j2 30075) er5 _) (by show fg_nm y_M_below 2; decide +kernel) u_2072 u_2073 u_192 u_2074 ⟨Nat.le_of_ble_eq_true rfl, Nat.le_of_ble_eq_true rfl⟩ hX me_P0 (hK.sub (tys' := []) [] rfl) me_D0 rfl hl.1 (Nat.le_of_ble_eq_true rfl) d_M_cut_12 ⟨Nat.le_of_ble_eq_true rfl, Nat.le_of_ble_eq_true rfl⟩) hP hD hK hS hA rfl rfl (fun H locs hw hP hD hS => ?_)
  have zr5 := hw
  refine lv_if_ne (tgt := 29) hx hb d_M_cut_15 (by decide) (fun c6 => ?_) (fun c6 => ?_)
  · have h := if_f c6 h
    refine lv_aload_n hx hb d_M_cut_29 rfl (lv_at hl 0 rfl) ?_
    refine lv_sipush (v := 30076) hx hb d_M_cut_30 (by decide) ?_
    refine lv_iload_n hx hb d_M_cut_33 rfl (lv_at hl 1 rfl) ?_
    obtain ⟨r7, er7, h⟩ := bd_ob h
    refine me_panl' (r0 := r7) (fg_runS (wc := []) (tc := []) (A2 := A) (As := [.int x1]) (rest := [.int 30076, .ref (ad 1 j0)]) ⟨hx, hb, hml, hown, hts⟩ (c_M_top l D r7 x1 er7 _) (by show fg_nm y_M_top 1; decide +kernel) u_2367 u_2368 u_192 u_2369 ⟨Nat.le_of_ble_eq_true rfl, Nat.le_of_ble_eq_true rfl⟩ hX me_P0 (hK.sub (tys' := []) [] rfl) me_D0 rfl hl.1 (Nat.le_of_ble_eq_true rfl) d_M_cut_34 ⟨Nat.le_of_ble_eq_true rfl, Nat.le_of_ble_eq_true rfl⟩) hP hD hK hS hA rfl rfl (fun H locs hw hP hD hS => ?_)
    obtain ⟨M8, eM8, h⟩ := bd_ob h
    refine me_thenv0 (M1 := M8) (me_runV (C := "FilterGuardModel") (As := [.int 30076, .long r7]) (rest := []) ⟨hx, hb, hml, hown, hts⟩ (c_M_setExact l D ad ca N M0 M8 j0 (30076 : Int32) r7 eM8 hwf hj0 _) rfl (by show fg_nm y_M_setExact 2; decide +kernel) u_2108 u_2110 u_106 u_192 u_2111 ⟨Nat.le_of_ble_eq_true rfl, Nat.le_of_ble_eq_true rfl⟩ hX hz hK hP hD hwf hS hA hj0 (by decide) rfl rfl rfl hl.1 (Nat.le_of_ble_eq_true rfl) d_M_cut_37 ⟨Nat.le_of_ble_eq_true rfl, Nat.le_of_ble_eq_true rfl⟩) hP hD hK hS hA rfl rfl (fun H locs hw hP hD hS => ?_)
    obtain ⟨hwf, hk9⟩ := hw
    have hkp := hkp.tr hk9
    refine lv_aload_n hx hb d_M_cut_40 rfl (lv_at hl 0 rfl) ?_
    refine lv_iconst (v := 5) hx hb d_M_cut_41 (by decide) ?_
    obtain ⟨M9, eM9, h⟩ := bd_ob h
    refine me_thenv0 (M1 := M9) (me_runV (C := "FilterGuardModel") (As := [.int 5]) (rest := []) ⟨hx, hb, hml, hown, hts⟩ (c_M_logic l D ad ca N M8 M9 j0 (5 : Int32) eM9 hwf hj0 _) rfl (by show fg_nm y_M_logic 1; decide +kernel) u_2355 u_2357 u_159 u_192 u_2358 ⟨Nat.le_of_ble_eq_true rfl, Nat.le_of_ble_eq_true rfl⟩ hX hz hK hP hD hwf hS hA hj0 (by decide) rfl rfl rfl hl.1 (Nat.le_of_ble_eq_true rfl) d_M_cut_42 ⟨Nat.le_of_ble_eq_true rfl, Nat.le_of_ble_eq_true rfl⟩) hP hD hK hS hA rfl rfl (fun H locs hw hP hD hS => ?_)
    obtain ⟨hwf, hk9⟩ := hw
    have hkp := hkp.tr hk9
    cases h
    exact fg_retv () hx hb hr hlocks ⟨hwf, hkp⟩ hP (hK.sub (tys' := []) [] rfl) hD hS (Nat.le_of_ble_eq_true rfl) (Nat.le_of_ble_eq_true rfl) d_M_cut_45
  have h := if_t c6 h
  refine lv_aload_n hx hb d_M_cut_18 rfl (lv_at hl 0 rfl) ?_
  refine lv_sipush (v := 30075) hx hb d_M_cut_19 (by decide) ?_
  refine lv_sipush (v := 30077) hx hb d_M_cut_22 (by decide) ?_
  obtain ⟨M10, eM10, h⟩ := bd_ob h
  refine me_thenv0 (M1 := M10) (me_runV (C := "FilterGuardModel") (As := [.int 30075, .int 30077]) (rest := []) ⟨hx, hb, hml, hown, hts⟩ (c_M_copyNumber l D ad ca N M0 M10 j0 (30075 : Int32) (30077 : Int32) eM10 hwf hj0 _) rfl (by show fg_nm y_M_copyNumber 2; decide +kernel) u_2096 u_2098 u_103 u_192 u_2099 ⟨Nat.le_of_ble_eq_true rfl, Nat.le_of_ble_eq_true rfl⟩ hX hz hK hP hD hwf hS hA hj0 (by decide) rfl rfl rfl hl.1 (Nat.le_of_ble_eq_true rfl) d_M_cut_25 ⟨Nat.le_of_ble_eq_true rfl, Nat.le_of_ble_eq_true rfl⟩) hP hD hK hS hA rfl rfl (fun H locs hw hP hD hS => ?_)
  obtain ⟨hwf, hk9⟩ := hw
  have hkp := hkp.tr hk9
  cases h
  exact fg_retv () hx hb hr hlocks ⟨hwf, hkp⟩ hP (hK.sub (tys' := []) [] rfl) hD hS (Nat.le_of_ble_eq_true rfl) (Nat.le_of_ble_eq_true rfl) d_M_cut_28
