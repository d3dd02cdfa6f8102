theorem d_M_write_3 : decode prog_14_method_129_code 3 = .ok (.iload 6, 2) := by decide +kernel
theorem d_M_write_5 : decode prog_14_method_129_code 5 = .ok (.iload 5, 2) := by decide +kernel
theorem d_M_write_7 : decode prog_14_method_129_code 7 = .ok (.if_icmp .ge 26, 3) := by decide +kernel
theorem d_M_write_33 : decode prog_14_method_129_code 33 = .ok (.return_, 1) := by decide +kernel
theorem d_M_write_10 : decode prog_14_method_129_code 10 = .ok (.aload_n 0, 1) := by decide +kernel
theorem d_M_write_11 : decode prog_14_method_129_code 11 = .ok (.lload_n 1, 1) := by decide +kernel
theorem d_M_write_12 : decode prog_14_method_129_code 12 = .ok (.iload 6, 2) := by decide +kernel
theorem d_M_write_14 : decode prog_14_method_129_code 14 = .ok (.i2l, 1) := by decide +kernel
theorem d_M_write_15 : decode prog_14_method_129_code 15 = .ok (.ladd, 1) := by decide +kernel
theorem d_M_write_16 : decode prog_14_method_129_code 16 = .ok (.lload_n 3, 1) := by decide +kernel
theorem d_M_write_17 : decode prog_14_method_129_code 17 = .ok (.bipush 8, 2) := by decide +kernel
theorem d_M_write_19 : decode prog_14_method_129_code 19 = .ok (.iload 6, 2) := by decide +kernel
theorem d_M_write_21 : decode prog_14_method_129_code 21 = .ok (.imul, 1) := by decide +kernel
theorem d_M_write_22 : decode prog_14_method_129_code 22 = .ok (.lshr, 1) := by decide +kernel
theorem d_M_write_23 : decode prog_14_method_129_code 23 = .ok (.l2i, 1) := by decide +kernel
theorem d_M_write_24 : decode prog_14_method_129_code 24 = .ok (.invokevirtual 644, 3) := by decide +kernel
theorem u_2485 : Cond.methodLink "FilterGuardModel" 644 ⟨"FilterGuardModel", "setByte", "(JI)V"⟩ ∈ fg_g := fg_in (List.mem_of_getElem? (i := 2485) (by decide +kernel)) rfl
theorem u_2488 : Cond.code ⟨"FilterGuardModel", "setByte", "(JI)V"⟩ prog_14_method_127_code 4 none ∈ fg_g := fg_in (List.mem_of_getElem? (i := 2488) (by decide +kernel)) rfl
theorem u_2487 : Cond.instanceMethod ⟨"FilterGuardModel", "setByte", "(JI)V"⟩ ∈ fg_g := fg_in (List.mem_of_getElem? (i := 2487) (by decide +kernel)) rfl
theorem u_174 : Cond.selects "FilterGuardModel" ⟨"FilterGuardModel", "setByte", "(JI)V"⟩ ⟨"FilterGuardModel", "setByte", "(JI)V"⟩ ∈ fg_g := fg_in (List.mem_of_getElem? (i := 174) (by decide +kernel)) rfl
theorem d_M_write_27 : decode prog_14_method_129_code 27 = .ok (.iinc 6 1, 3) := by decide +kernel
theorem d_M_write_30 : decode prog_14_method_129_code 30 = .ok (.goto (-27), 3) := by decide +kernel
theorem d_M_write_0 : decode prog_14_method_129_code 0 = .ok (.iconst 0, 1) := by decide +kernel
theorem d_M_write_1 : decode prog_14_method_129_code 1 = .ok (.istore 6, 2) := by decide +kernel
abbrev y_M_write : MethodName := ⟨"FilterGuardModel", "write", "(JJI)V"⟩
def rm_M_write : Room := { frames := 2, cells := 0, slots := 0, locals := 43 }
abbrev q_M_write (D : va_G) (ad : Nat → Nat → Nat) (ca : Nat → ClassId) (N : Nat → Nat) (M0 MZ : me_M) (A : Nat → Prop) : Array Value → Jvm.State → Outcome → Jvm.State → Prop := va_Qv (fun (_ : Unit) => me_wf N MZ ∧ me_kp M0 MZ) (fg_B D A (fun _ => me_W ad ca MZ) (fun _ => [])) A
set_option maxHeartbeats 4000000 in
set_option maxRecDepth 100000 in
theorem c_M_write (l : Launch) (D : va_G) (ad : Nat → Nat → Nat) (ca : Nat → ClassId) (N : Nat → Nat) (M0 MZ : me_M) (j0 : Nat) (x1 : Int64) (x3 : Int64) (x5 : Int32) (h : f_M_write M0 j0 x1 x3 x5 = (some MZ)) (hwf : me_wf N M0) (hj0 : j0 < N 1) (sz : Nat) : Met l y_M_write (fg_w y_M_write prog_14_method_129_code 7 none) rm_M_write (va_Pc [.ref (ad 1 j0), .long x1, .long x3, .int x5] (fz_P D (me_T ca) (me_W ad ca M0) sz)) (q_M_write D ad ca N M0 MZ (va_A (me_W ad ca M0) sz)) rm_M_write.cells rm_M_write.slots (va_A (me_W ad ca M0) sz) := by
  refine fz_enter (fun A => q_M_write D ad ca N M0 MZ A) (by decide +kernel) (Nat.le_of_ble_eq_true rfl) ?_
  intro p e s m below meth c ls A hx hb hml hown hts hr hlocks hin hP hK hD hS hA hX hl hz
  have hl : lv_has ls 7 [(0, .ref (ad 1 j0)), (1, .long x1), (3, .long x3), (5, .int x5)] := hl
  unfold f_M_write at h
  have hkp : me_kp M0 M0 := me_kp.rf
  have hkb := hkp
  have b_3 : ∀ (fu : Nat), ∀ (M : me_M) (y6 : Int32) (H : Heap) (locs : List Loc) (ls : Array Slot), f_M_write_l3 j0 x1 x3 x5 fu M y6 = (some MZ) → me_wf N M → me_kp M0 M → va_P D classes (me_W ad ca M) H → va_D A (me_W ad ca M) → va_S A s.heap H locs → lv_has ls 7 [(0, .ref (ad 1 j0)), (1, .long x1), (3, .long x3), (5, .int x5), (6, .int y6)] → W p l e rm_M_write s m [.ref (ad 1 j0), .long x1, .long x3, .int x5].toArray below meth c H locs 0 0 (MQ below (q_M_write D ad ca N M0 MZ A) [.ref (ad 1 j0), .long x1, .long x3, .int x5].toArray s rm_M_write.cells rm_M_write.slots A) (F0 m 3 ls []) := by
    intro fu
    induction fu with
    | zero =>
      intro M y6 H locs ls h hwf hkp hP hD hS hl
      cases h
    | succ fu ih =>
      intro M y6 H locs ls h hwf hkp hP hD hS hl
      unfold f_M_write_l3 at h
      have hkb := hkp
      refine lv_iload hx hb d_M_write_3 (lv_at hl 4 rfl) ?_
      refine lv_iload hx hb d_M_write_5 (lv_at hl 3 rfl) ?_
      refine lv_icmp_ge (tgt := 33) hx hb d_M_write_7 (by decide) (fun c1 => ?_) (fun c1 => ?_)
      · have h := if_t c1 h
        exact me_retv (me_kp M0) h hx hb hr hlocks hwf hkp hP hK hD hS d_M_write_33
      have h := if_f c1 h
      refine lv_aload_n hx hb d_M_write_10 rfl (lv_at hl 0 rfl) ?_
      refine lv_lload_n hx hb d_M_write_11 rfl (lv_at hl 1 rfl) ?_
      refine lv_iload hx hb d_M_write_12 (lv_at hl 4 rfl) ?_
      refine lv_i2l (v := y6.toInt64) hx hb d_M_write_14 rfl ?_
      refine lv_ladd hx hb d_M_write_15 ?_
      refine lv_lload_n hx hb d_M_write_16 rfl (lv_at hl 2 rfl) ?_
      refine lv_bipush (v := 8) hx hb d_M_write_17 (by decide) ?_
      refine lv_iload hx hb d_M_write_19 (lv_at hl 4 rfl) ?_
      refine lv_imul hx hb d_M_write_21 ?_
      refine lv_lshr (v := jlshr x3 (8 * y6)) hx hb d_M_write_22 rfl ?_
      refine lv_l2i (v := (jlshr x3 (8 * y6)).toInt32) hx hb d_M_write_23 rfl ?_
      obtain ⟨M2, eM2, h⟩ := bd_ob h
      refine me_thenv0 (M1 := M2) (me_runV (C := "FilterGuardModel") (As := [.long (x1 + y6.toInt64), .int ((jlshr x3 (8 * y6)).toInt32)]) (rest := []) ⟨hx, hb, hml, hown, hts⟩ (c_M_setByte l D ad ca N M M2 j0 (x1 + y6.toInt64) ((jlshr x3 (8 * y6)).toInt32) eM2 hwf hj0 _) rfl (by show fg_nm y_M_setByte 2; decide +kernel) u_2485 u_2487 u_174 u_192 u_2488 ⟨Nat.le_of_ble_eq_true rfl, Nat.le_of_ble_eq_true rfl⟩ hX hz hK hP hD hwf hS hA hj0 (by decide) rfl rfl rfl hl.1 (Nat.le_of_ble_eq_true rfl) d_M_write_24 ⟨Nat.le_of_ble_eq_true rfl, Nat.le_of_ble_eq_true rfl⟩) hP hD hK hS hA rfl rfl (fun H locs hw hP hD hS => ?_)
      obtain ⟨hwf, hk9⟩ := hw
      have hkp := hkp.tr hk9
      refine lv_iinc (v := y6 + 1) (lv' := [(6, .int (y6 + 1)), (0, .ref (ad 1 j0)), (1, .long x1), (3, .long x3), (5, .int x5)]) hx hb d_M_write_27 hl (k := 4) rfl (by rfl) (by decide) rfl (fun ls hl => ?_)
      refine lv_goto (tgt := 3) hx hb d_M_write_30 (by decide) ?_
      exact ih M2 (y6 + 1) _ _ _ h hwf hkp hP hD hS (lv_sub hl [1, 2, 3, 4, 0] rfl)
  refine lv_iconst (v := 0) hx hb d_M_write_0 (by decide) ?_
  refine lv_istore (lv' := [(6, .int 0), (0, .ref (ad 1 j0)), (1, .long x1), (3, .long x3), (5, .int x5)]) hx hb d_M_write_1 hl (by decide) rfl (fun ls hl => ?_)
  exact b_3 _ M0 (0 : Int32) _ _ _ h hwf hkp hP hD hS (lv_sub hl [1, 2, 3, 4, 0] rfl)
theorem d_M_reckon_48 : decode prog_14_method_130_code 48 = .ok (.land, 1) := by decide +kernel
theorem d_M_reckon_49 : decode prog_14_method_130_code 49 = .ok (.l2i, 1) := by decide +kernel
theorem d_M_reckon_50 : decode prog_14_method_130_code 50 = .ok (.istore 10, 2) := by decide +kernel
theorem d_M_reckon_52 : decode prog_14_method_130_code 52 = .ok (.lconst 0, 1) := by decide +kernel
theorem d_M_reckon_53 : decode prog_14_method_130_code 53 = .ok (.lstore 11, 2) := by decide +kernel
theorem d_M_reckon_55 : decode prog_14_method_130_code 55 = .ok (.iload_n 0, 1) := by decide +kernel
theorem d_M_reckon_56 : decode prog_14_method_130_code 56 = .ok (.tableswitch 218 0 10 #[60, 70, 80, 90, 113, 143, 153, 163, 173, 183, 193], 60) := by decide +kernel
theorem d_M_reckon_116 : decode prog_14_method_130_code 116 = .ok (.lload 6, 2) := by decide +kernel
theorem d_M_reckon_118 : decode prog_14_method_130_code 118 = .ok (.lload 8, 2) := by decide +kernel
theorem d_M_reckon_120 : decode prog_14_method_130_code 120 = .ok (.ladd, 1) := by decide +kernel
theorem d_M_reckon_121 : decode prog_14_method_130_code 121 = .ok (.lstore 11, 2) := by decide +kernel
theorem d_M_reckon_123 : decode prog_14_method_130_code 123 = .ok (.goto 155, 3) := by decide +kernel
theorem d_M_reckon_278 : decode prog_14_method_130_code 278 = .ok (.iload 5, 2) := by decide +kernel
theorem d_M_reckon_280 : decode prog_14_method_130_code 280 = .ok (.ifCond .eq 12, 3) := by decide +kernel
theorem d_M_reckon_292 : decode prog_14_method_130_code 292 = .ok (.lload 11, 2) := by decide +kernel
theorem d_M_reckon_294 : decode prog_14_method_130_code 294 = .ok (.lreturn, 1) := by decide +kernel
theorem d_M_reckon_283 : decode prog_14_method_130_code 283 = .ok (.lload 11, 2) := by decide +kernel
theorem d_M_reckon_285 : decode prog_14_method_130_code 285 = .ok (.ldc2_w 203, 3) := by decide +kernel
theorem d_M_reckon_288 : decode prog_14_method_130_code 288 = .ok (.land, 1) := by decide +kernel
theorem d_M_reckon_289 : decode prog_14_method_130_code 289 = .ok (.goto 5, 3) := by decide +kernel
theorem d_M_reckon_126 : decode prog_14_method_130_code 126 = .ok (.lload 6, 2) := by decide +kernel
theorem d_M_reckon_128 : decode prog_14_method_130_code 128 = .ok (.lload 8, 2) := by decide +kernel
theorem d_M_reckon_130 : decode prog_14_method_130_code 130 = .ok (.lsub, 1) := by decide +kernel
theorem d_M_reckon_131 : decode prog_14_method_130_code 131 = .ok (.lstore 11, 2) := by decide +kernel
theorem d_M_reckon_133 : decode prog_14_method_130_code 133 = .ok (.goto 145, 3) := by decide +kernel
theorem d_M_reckon_136 : decode prog_14_method_130_code 136 = .ok (.lload 6, 2) := by decide +kernel
theorem d_M_reckon_138 : decode prog_14_method_130_code 138 = .ok (.lload 8, 2) := by decide +kernel
theorem d_M_reckon_140 : decode prog_14_method_130_code 140 = .ok (.lmul, 1) := by decide +kernel
theorem d_M_reckon_141 : decode prog_14_method_130_code 141 = .ok (.lstore 11, 2) := by decide +kernel
theorem d_M_reckon_143 : decode prog_14_method_130_code 143 = .ok (.goto 135, 3) := by decide +kernel
theorem d_M_reckon_146 : decode prog_14_method_130_code 146 = .ok (.lload 8, 2) := by decide +kernel
theorem d_M_reckon_148 : decode prog_14_method_130_code 148 = .ok (.lconst 0, 1) := by decide +kernel
theorem d_M_reckon_149 : decode prog_14_method_130_code 149 = .ok (.lcmp, 1) := by decide +kernel
theorem d_M_reckon_150 : decode prog_14_method_130_code 150 = .ok (.ifCond .ne 7, 3) := by decide +kernel
theorem d_M_reckon_157 : decode prog_14_method_130_code 157 = .ok (.lload 6, 2) := by decide +kernel
theorem d_M_reckon_159 : decode prog_14_method_130_code 159 = .ok (.lload 8, 2) := by decide +kernel
theorem d_M_reckon_161 : decode prog_14_method_130_code 161 = .ok (.invokestatic 205, 3) := by decide +kernel
theorem d_M_reckon_164 : decode prog_14_method_130_code 164 = .ok (.lstore 11, 2) := by decide +kernel
theorem d_M_reckon_166 : decode prog_14_method_130_code 166 = .ok (.goto 112, 3) := by decide +kernel
theorem d_M_reckon_153 : decode prog_14_method_130_code 153 = .ok (.lconst 0, 1) := by decide +kernel
theorem d_M_reckon_154 : decode prog_14_method_130_code 154 = .ok (.goto 10, 3) := by decide +kernel
theorem d_M_reckon_169 : decode prog_14_method_130_code 169 = .ok (.lload 8, 2) := by decide +kernel
theorem d_M_reckon_171 : decode prog_14_method_130_code 171 = .ok (.lconst 0, 1) := by decide +kernel
theorem d_M_reckon_172 : decode prog_14_method_130_code 172 = .ok (.lcmp, 1) := by decide +kernel
theorem d_M_reckon_173 : decode prog_14_method_130_code 173 = .ok (.ifCond .ne 8, 3) := by decide +kernel
theorem d_M_reckon_181 : decode prog_14_method_130_code 181 = .ok (.lload 6, 2) := by decide +kernel
theorem d_M_reckon_183 : decode prog_14_method_130_code 183 = .ok (.lload 8, 2) := by decide +kernel
theorem d_M_reckon_185 : decode prog_14_method_130_code 185 = .ok (.lload 6, 2) := by decide +kernel
theorem d_M_reckon_187 : decode prog_14_method_130_code 187 = .ok (.lload 8, 2) := by decide +kernel
theorem d_M_reckon_189 : decode prog_14_method_130_code 189 = .ok (.invokestatic 205, 3) := by decide +kernel
theorem d_M_reckon_192 : decode prog_14_method_130_code 192 = .ok (.lmul, 1) := by decide +kernel
theorem d_M_reckon_193 : decode prog_14_method_130_code 193 = .ok (.lsub, 1) := by decide +kernel
theorem d_M_reckon_194 : decode prog_14_method_130_code 194 = .ok (.lstore 11, 2) := by decide +kernel
theorem d_M_reckon_196 : decode prog_14_method_130_code 196 = .ok (.goto 82, 3) := by decide +kernel
theorem d_M_reckon_176 : decode prog_14_method_130_code 176 = .ok (.lload 6, 2) := by decide +kernel
theorem d_M_reckon_178 : decode prog_14_method_130_code 178 = .ok (.goto 16, 3) := by decide +kernel
theorem d_M_reckon_199 : decode prog_14_method_130_code 199 = .ok (.lload 6, 2) := by decide +kernel
theorem d_M_reckon_201 : decode prog_14_method_130_code 201 = .ok (.lload 8, 2) := by decide +kernel
theorem d_M_reckon_203 : decode prog_14_method_130_code 203 = .ok (.land, 1) := by decide +kernel
theorem d_M_reckon_204 : decode prog_14_method_130_code 204 = .ok (.lstore 11, 2) := by decide +kernel
theorem d_M_reckon_206 : decode prog_14_method_130_code 206 = .ok (.goto 72, 3) := by decide +kernel
theorem d_M_reckon_209 : decode prog_14_method_130_code 209 = .ok (.lload 6, 2) := by decide +kernel
theorem d_M_reckon_211 : decode prog_14_method_130_code 211 = .ok (.lload 8, 2) := by decide +kernel
theorem d_M_reckon_213 : decode prog_14_method_130_code 213 = .ok (.lor, 1) := by decide +kernel
theorem d_M_reckon_214 : decode prog_14_method_130_code 214 = .ok (.lstore 11, 2) := by decide +kernel
theorem d_M_reckon_216 : decode prog_14_method_130_code 216 = .ok (.goto 62, 3) := by decide +kernel
theorem d_M_reckon_219 : decode prog_14_method_130_code 219 = .ok (.lload 6, 2) := by decide +kernel
theorem d_M_reckon_221 : decode prog_14_method_130_code 221 = .ok (.lload 8, 2) := by decide +kernel
theorem d_M_reckon_223 : decode prog_14_method_130_code 223 = .ok (.lxor, 1) := by decide +kernel
theorem d_M_reckon_224 : decode prog_14_method_130_code 224 = .ok (.lstore 11, 2) := by decide +kernel
theorem d_M_reckon_226 : decode prog_14_method_130_code 226 = .ok (.goto 52, 3) := by decide +kernel
theorem d_M_reckon_229 : decode prog_14_method_130_code 229 = .ok (.lload 6, 2) := by decide +kernel
theorem d_M_reckon_231 : decode prog_14_method_130_code 231 = .ok (.iload 10, 2) := by decide +kernel
theorem d_M_reckon_233 : decode prog_14_method_130_code 233 = .ok (.lshl, 1) := by decide +kernel
theorem d_M_reckon_234 : decode prog_14_method_130_code 234 = .ok (.lstore 11, 2) := by decide +kernel
theorem d_M_reckon_236 : decode prog_14_method_130_code 236 = .ok (.goto 42, 3) := by decide +kernel
theorem d_M_reckon_239 : decode prog_14_method_130_code 239 = .ok (.lload 6, 2) := by decide +kernel
theorem d_M_reckon_241 : decode prog_14_method_130_code 241 = .ok (.iload 10, 2) := by decide +kernel
theorem d_M_reckon_243 : decode prog_14_method_130_code 243 = .ok (.lushr, 1) := by decide +kernel
theorem d_M_reckon_244 : decode prog_14_method_130_code 244 = .ok (.lstore 11, 2) := by decide +kernel
theorem d_M_reckon_246 : decode prog_14_method_130_code 246 = .ok (.goto 32, 3) := by decide +kernel
theorem d_M_reckon_249 : decode prog_14_method_130_code 249 = .ok (.iload 5, 2) := by decide +kernel
theorem d_M_reckon_251 : decode prog_14_method_130_code 251 = .ok (.ifCond .eq 13, 3) := by decide +kernel
theorem d_M_reckon_264 : decode prog_14_method_130_code 264 = .ok (.lload 6, 2) := by decide +kernel
theorem d_M_reckon_266 : decode prog_14_method_130_code 266 = .ok (.iload 10, 2) := by decide +kernel
theorem d_M_reckon_268 : decode prog_14_method_130_code 268 = .ok (.lshr, 1) := by decide +kernel
theorem d_M_reckon_269 : decode prog_14_method_130_code 269 = .ok (.lstore 11, 2) := by decide +kernel
theorem d_M_reckon_271 : decode prog_14_method_130_code 271 = .ok (.goto 7, 3) := by decide +kernel
theorem d_M_reckon_254 : decode prog_14_method_130_code 254 = .ok (.lload 6, 2) := by decide +kernel
theorem d_M_reckon_256 : decode prog_14_method_130_code 256 = .ok (.l2i, 1) := by decide +kernel
theorem d_M_reckon_257 : decode prog_14_method_130_code 257 = .ok (.iload 10, 2) := by decide +kernel
theorem d_M_reckon_259 : decode prog_14_method_130_code 259 = .ok (.ishr, 1) := by decide +kernel
theorem d_M_reckon_260 : decode prog_14_method_130_code 260 = .ok (.i2l, 1) := by decide +kernel
theorem d_M_reckon_261 : decode prog_14_method_130_code 261 = .ok (.goto 8, 3) := by decide +kernel
theorem d_M_reckon_274 : decode prog_14_method_130_code 274 = .ok (.lload 8, 2) := by decide +kernel
theorem d_M_reckon_276 : decode prog_14_method_130_code 276 = .ok (.lstore 11, 2) := by decide +kernel
theorem d_M_reckon_30 : decode prog_14_method_130_code 30 = .ok (.lstore 8, 2) := by decide +kernel
theorem d_M_reckon_32 : decode prog_14_method_130_code 32 = .ok (.lload 8, 2) := by decide +kernel
theorem d_M_reckon_34 : decode prog_14_method_130_code 34 = .ok (.iload 5, 2) := by decide +kernel
theorem d_M_reckon_36 : decode prog_14_method_130_code 36 = .ok (.ifCond .eq 9, 3) := by decide +kernel
theorem d_M_reckon_45 : decode prog_14_method_130_code 45 = .ok (.ldc2_w 259, 3) := by decide +kernel
theorem d_M_reckon_39 : decode prog_14_method_130_code 39 = .ok (.ldc2_w 257, 3) := by decide +kernel
theorem d_M_reckon_42 : decode prog_14_method_130_code 42 = .ok (.goto 6, 3) := by decide +kernel
theorem d_M_reckon_14 : decode prog_14_method_130_code 14 = .ok (.lstore 6, 2) := by decide +kernel
theorem d_M_reckon_16 : decode prog_14_method_130_code 16 = .ok (.iload 5, 2) := by decide +kernel
theorem d_M_reckon_18 : decode prog_14_method_130_code 18 = .ok (.ifCond .eq 11, 3) := by decide +kernel
theorem d_M_reckon_29 : decode prog_14_method_130_code 29 = .ok (.lload_n 3, 1) := by decide +kernel
theorem d_M_reckon_21 : decode prog_14_method_130_code 21 = .ok (.lload_n 3, 1) := by decide +kernel
theorem d_M_reckon_22 : decode prog_14_method_130_code 22 = .ok (.ldc2_w 203, 3) := by decide +kernel
theorem d_M_reckon_25 : decode prog_14_method_130_code 25 = .ok (.land, 1) := by decide +kernel
theorem d_M_reckon_26 : decode prog_14_method_130_code 26 = .ok (.goto 4, 3) := by decide +kernel
theorem d_M_reckon_0 : decode prog_14_method_130_code 0 = .ok (.iload 5, 2) := by decide +kernel
theorem d_M_reckon_2 : decode prog_14_method_130_code 2 = .ok (.ifCond .eq 11, 3) := by decide +kernel
theorem d_M_reckon_13 : decode prog_14_method_130_code 13 = .ok (.lload_n 1, 1) := by decide +kernel
theorem d_M_reckon_5 : decode prog_14_method_130_code 5 = .ok (.lload_n 1, 1) := by decide +kernel
theorem d_M_reckon_6 : decode prog_14_method_130_code 6 = .ok (.ldc2_w 203, 3) := by decide +kernel
theorem d_M_reckon_9 : decode prog_14_method_130_code 9 = .ok (.land, 1) := by decide +kernel
theorem d_M_reckon_10 : decode prog_14_method_130_code 10 = .ok (.goto 4, 3) := by decide +kernel
abbrev y_M_reckon : MethodName := ⟨"FilterGuardModel", "reckon", "(IJJZ)J"⟩
def rm_M_reckon : Room := { frames := 3, cells := 0, slots := 0, locals := 73 }
abbrev q_M_reckon (D : va_G) (RZ : Int64) (A : Nat → Prop) : Array Value → Jvm.State → Outcome → Jvm.State → Prop := va_Ql (fun r (_ : Unit) => r = RZ ∧ True) (fg_B D A (fun _ => []) (fun _ => [])) A
set_option maxHeartbeats 4000000 in
set_option maxRecDepth 100000 in
theorem c_M_reckon (l : Launch) (D : va_G) (RZ : Int64) (x0 : Int32) (x1 : Int64) (x3 : Int64) (x5 : Int32) (h : f_M_reckon x0 x1 x3 x5 = (some RZ)) (zx5 : x5 = 1 ∨ x5 = 0) (sz : Nat) : Met l y_M_reckon (fg_w y_M_reckon prog_14_method_130_code 13 (some .long)) rm_M_reckon (va_Pc [.int x0, .long x1, .long x3, .int x5] (fg_P D [] [] sz)) (q_M_reckon D RZ (va_A [] sz)) rm_M_reckon.cells rm_M_reckon.slots (va_A [] sz) := by
  refine fg_enter (fun A => q_M_reckon D RZ A) (by decide +kernel) (Nat.le_of_ble_eq_true rfl) ?_
  intro p e s m below meth c ls A hx hb hml hown hts hr hlocks hin hP hK hD hS hA hX hl
  have hl : lv_has ls 13 [(0, .int x0), (1, .long x1), (3, .long x3), (5, .int x5)] := hl
  unfold f_M_reckon at h
  have b_48 : ∀ (y6 : Int64) (y8 : Int64) (s0 : Int64) (s1 : Int64) (H : Heap) (locs : List Loc) (ls : Array Slot), f_M_reckon_b48 x0 x5 y6 y8 s0 s1 = (some RZ) → va_S A s.heap H locs → lv_has ls 13 [(0, .int x0), (5, .int x5), (6, .long y6), (8, .long y8)] → W p l e rm_M_reckon s m [.int x0, .long x1, .long x3, .int x5].toArray below meth c H locs 0 0 (MQ below (q_M_reckon D RZ A) [.int x0, .long x1, .long x3, .int x5].toArray s rm_M_reckon.cells rm_M_reckon.slots A) (F0 m 48 ls [.long s0, .long s1]) := by
    intro y6 y8 s0 s1 H locs ls h hS hl
    unfold f_M_reckon_b48 at h
    refine lv_land hx hb d_M_reckon_48 ?_
    refine lv_l2i (v := (s1 &&& s0).toInt32) hx hb d_M_reckon_49 rfl ?_
    obtain ⟨v1, ev1, h⟩ := st_ob h
    refine fg_topi (y := v1) ev1.symm ?_
    refine lv_istore (lv' := [(10, .int v1), (0, .int x0), (5, .int x5), (6, .long y6), (8, .long y8)]) hx hb d_M_reckon_50 hl (by decide) rfl (fun ls hl => ?_)
    refine lv_lconst (v := 0) hx hb d_M_reckon_52 (by decide) ?_
    refine lv_lstore (lv' := [(11, .long 0), (10, .int v1), (0, .int x0), (5, .int x5), (6, .long y6), (8, .long y8)]) hx hb d_M_reckon_53 hl (by decide) rfl (fun ls hl => ?_)
    refine lv_iload_n hx hb d_M_reckon_55 rfl (lv_at hl 2 rfl) ?_
    refine lv_topi (fun w2 ew2 => ?_)
    by_cases n3 : w2 = 0
    · have h := if_t (ew2.symm.trans n3) h
      subst n3
      refine lv_tableIn (off := 60) (tgt := 116) hx hb d_M_reckon_56 (by decide) (by decide) (by decide) (by decide) ?_
      refine lv_lload hx hb d_M_reckon_116 (lv_at hl 4 rfl) ?_
      refine lv_lload hx hb d_M_reckon_118 (lv_at hl 5 rfl) ?_
      refine lv_ladd hx hb d_M_reckon_120 ?_
      obtain ⟨v4, ev4, h⟩ := st_ob h
      refine fg_topl (y := v4) ev4.symm ?_
      refine lv_lstore (lv' := [(11, .long v4), (10, .int v1), (0, .int x0), (5, .int x5), (6, .long y6), (8, .long y8)]) hx hb d_M_reckon_121 hl (by decide) rfl (fun ls hl => ?_)
      refine lv_goto (tgt := 278) hx hb d_M_reckon_123 (by decide) ?_
      refine lv_iload hx hb d_M_reckon_278 (lv_at hl 3 rfl) ?_
      refine lv_if_eq (tgt := 292) hx hb d_M_reckon_280 (by decide) (fun c5 => ?_) (fun c5 => ?_)
      · have h := if_t c5 h
        refine lv_lload hx hb d_M_reckon_292 (lv_at hl 0 rfl) ?_
        exact me_pretl h hx hb hr hlocks hK hS d_M_reckon_294
      have h := if_f c5 h
      refine lv_lload hx hb d_M_reckon_283 (lv_at hl 0 rfl) ?_
      refine lv_ldc2 hx hb hown (hts _ u_2019) d_M_reckon_285 ?_
      refine lv_land hx hb d_M_reckon_288 ?_
      refine lv_goto (tgt := 294) hx hb d_M_reckon_289 (by decide) ?_
      exact me_pretl h hx hb hr hlocks hK hS d_M_reckon_294
    have h := if_f (fun z => n3 (ew2.trans z)) h
    by_cases n6 : w2 = 1
    · have h := if_t (ew2.symm.trans n6) h
      subst n6
      refine lv_tableIn (off := 70) (tgt := 126) hx hb d_M_reckon_56 (by decide) (by decide) (by decide) (by decide) ?_
      refine lv_lload hx hb d_M_reckon_126 (lv_at hl 4 rfl) ?_
      refine lv_lload hx hb d_M_reckon_128 (lv_at hl 5 rfl) ?_
      refine lv_lsub hx hb d_M_reckon_130 ?_
      obtain ⟨v7, ev7, h⟩ := st_ob h
      refine fg_topl (y := v7) ev7.symm ?_
      refine lv_lstore (lv' := [(11, .long v7), (10, .int v1), (0, .int x0), (5, .int x5), (6, .long y6), (8, .long y8)]) hx hb d_M_reckon_131 hl (by decide) rfl (fun ls hl => ?_)
      refine lv_goto (tgt := 278) hx hb d_M_reckon_133 (by decide) ?_
      refine lv_iload hx hb d_M_reckon_278 (lv_at hl 3 rfl) ?_
      refine lv_if_eq (tgt := 292) hx hb d_M_reckon_280 (by decide) (fun c8 => ?_) (fun c8 => ?_)
      · have h := if_t c8 h
        refine lv_lload hx hb d_M_reckon_292 (lv_at hl 0 rfl) ?_
        exact me_pretl h hx hb hr hlocks hK hS d_M_reckon_294
      have h := if_f c8 h
      refine lv_lload hx hb d_M_reckon_283 (lv_at hl 0 rfl) ?_
      refine lv_ldc2 hx hb hown (hts _ u_2019) d_M_reckon_285 ?_
      refine lv_land hx hb d_M_reckon_288 ?_
      refine lv_goto (tgt := 294) hx hb d_M_reckon_289 (by decide) ?_
      exact me_pretl h hx hb hr hlocks hK hS d_M_reckon_294
    have h := if_f (fun z => n6 (ew2.trans z)) h
    by_cases n9 : w2 = 2
    · have h := if_t (ew2.symm.trans n9) h
      subst n9
      refine lv_tableIn (off := 80) (tgt := 136) hx hb d_M_reckon_56 (by decide) (by decide) (by decide) (by decide) ?_
      refine lv_lload hx hb d_M_reckon_136 (lv_at hl 4 rfl) ?_
      refine lv_lload hx hb d_M_reckon_138 (lv_at hl 5 rfl) ?_
      refine lv_lmul hx hb d_M_reckon_140 ?_
      obtain ⟨v10, ev10, h⟩ := st_ob h
      refine fg_topl (y := v10) ev10.symm ?_
      refine lv_lstore (lv' := [(11, .long v10), (10, .int v1), (0, .int x0), (5, .int x5), (6, .long y6), (8, .long y8)]) hx hb d_M_reckon_141 hl (by decide) rfl (fun ls hl => ?_)
      refine lv_goto (tgt := 278) hx hb d_M_reckon_143 (by decide) ?_
      refine lv_iload hx hb d_M_reckon_278 (lv_at hl 3 rfl) ?_
      refine lv_if_eq (tgt := 292) hx hb d_M_reckon_280 (by decide) (fun c11 => ?_) (fun c11 => ?_)
      · have h := if_t c11 h
        refine lv_lload hx hb d_M_reckon_292 (lv_at hl 0 rfl) ?_
        exact me_pretl h hx hb hr hlocks hK hS d_M_reckon_294
      have h := if_f c11 h
      refine lv_lload hx hb d_M_reckon_283 (lv_at hl 0 rfl) ?_
      refine lv_ldc2 hx hb hown (hts _ u_2019) d_M_reckon_285 ?_
      refine lv_land hx hb d_M_reckon_288 ?_
      refine lv_goto (tgt := 294) hx hb d_M_reckon_289 (by decide) ?_
      exact me_pretl h hx hb hr hlocks hK hS d_M_reckon_294
    have h := if_f (fun z => n9 (ew2.trans z)) h
    by_cases n12 : w2 = 3
    · have h := if_t (ew2.symm.trans n12) h
      subst n12
      refine lv_tableIn (off := 90) (tgt := 146) hx hb d_M_reckon_56 (by decide) (by decide) (by decide) (by decide) ?_
      refine lv_lload hx hb d_M_reckon_146 (lv_at hl 5 rfl) ?_
      refine lv_lconst (v := 0) hx hb d_M_reckon_148 (by decide) ?_
      refine W.lcmp hx hb d_M_reckon_149 ?_
      refine lv_if_ne (tgt := 157) hx hb d_M_reckon_150 (by decide) (fun c13 => ?_) (fun c13 => ?_)
      · have h := if_f (fun z => c13 ((lg_cmp_eq _ _).mpr z)) h
        refine lv_lload hx hb d_M_reckon_157 (lv_at hl 4 rfl) ?_
        refine lv_lload hx hb d_M_reckon_159 (lv_at hl 5 rfl) ?_
        obtain ⟨r14, er14, h⟩ := bd_ob h
        refine me_panl0 (r0 := r14) (fg_runS (wc := []) (tc := []) (A2 := A) (As := [.long y6, .long y8]) (rest := []) ⟨hx, hb, hml, hown, hts⟩ (c_M_quotient l D r14 y6 y8 er14 _) (by show fg_nm y_M_quotient 2; decide +kernel) u_2348 u_2349 u_192 u_2350 ⟨Nat.le_of_ble_eq_true rfl, Nat.le_of_ble_eq_true rfl⟩ hX me_P0 (hK.sub (tys' := []) [] rfl) me_D0 rfl hl.1 (Nat.le_of_ble_eq_true rfl) d_M_reckon_161 ⟨Nat.le_of_ble_eq_true rfl, Nat.le_of_ble_eq_true rfl⟩) hK hS hA rfl rfl (fun H locs hw hS => ?_)
        refine lv_lstore (lv' := [(11, .long r14), (10, .int v1), (0, .int x0), (5, .int x5), (6, .long y6), (8, .long y8)]) hx hb d_M_reckon_164 hl (by decide) rfl (fun ls hl => ?_)
        refine lv_goto (tgt := 278) hx hb d_M_reckon_166 (by decide) ?_
        refine lv_iload hx hb d_M_reckon_278 (lv_at hl 3 rfl) ?_
        refine lv_if_eq (tgt := 292) hx hb d_M_reckon_280 (by decide) (fun c15 => ?_) (fun c15 => ?_)
        · have h := if_t c15 h
          refine lv_lload hx hb d_M_reckon_292 (lv_at hl 0 rfl) ?_
          exact me_pretl h hx hb hr hlocks hK hS d_M_reckon_294
        have h := if_f c15 h
        refine lv_lload hx hb d_M_reckon_283 (lv_at hl 0 rfl) ?_
        refine lv_ldc2 hx hb hown (hts _ u_2019) d_M_reckon_285 ?_
        refine lv_land hx hb d_M_reckon_288 ?_
        refine lv_goto (tgt := 294) hx hb d_M_reckon_289 (by decide) ?_
        exact me_pretl h hx hb hr hlocks hK hS d_M_reckon_294
      have h := if_t ((lg_cmp_eq _ _).mp c13) h
      refine lv_lconst (v := 0) hx hb d_M_reckon_153 (by decide) ?_
      refine lv_goto (tgt := 164) hx hb d_M_reckon_154 (by decide) ?_
      refine lv_lstore (lv' := [(11, .long 0), (10, .int v1), (0, .int x0), (5, .int x5), (6, .long y6), (8, .long y8)]) hx hb d_M_reckon_164 hl (by decide) rfl (fun ls hl => ?_)
      refine lv_goto (tgt := 278) hx hb d_M_reckon_166 (by decide) ?_
      refine lv_iload hx hb d_M_reckon_278 (lv_at hl 3 rfl) ?_
      refine lv_if_eq (tgt := 292) hx hb d_M_reckon_280 (by decide) (fun c16 => ?_) (fun c16 => ?_)
      · have h := if_t c16 h
        refine lv_lload hx hb d_M_reckon_292 (lv_at hl 0 rfl) ?_
        exact me_pretl h hx hb hr hlocks hK hS d_M_reckon_294
      have h := if_f c16 h
      refine lv_lload hx hb d_M_reckon_283 (lv_at hl 0 rfl) ?_
      refine lv_ldc2 hx hb hown (hts _ u_2019) d_M_reckon_285 ?_
      refine lv_land hx hb d_M_reckon_288 ?_
      refine fg_topl (y := 0) (by decide) ?_
      refine lv_goto (tgt := 294) hx hb d_M_reckon_289 (by decide) ?_
      exact me_pretl h hx hb hr hlocks hK hS d_M_reckon_294
    have h := if_f (fun z => n12 (ew2.trans z)) h
    by_cases n17 : w2 = 4
    · have h := if_t (ew2.symm.trans n17) h
      subst n17
      refine lv_tableIn (off := 113) (tgt := 169) hx hb d_M_reckon_56 (by decide) (by decide) (by decide) (by decide) ?_
      refine lv_lload hx hb d_M_reckon_169 (lv_at hl 5 rfl) ?_
      refine lv_lconst (v := 0) hx hb d_M_reckon_171 (by decide) ?_
      refine W.lcmp hx hb d_M_reckon_172 ?_
      refine lv_if_ne (tgt := 181) hx hb d_M_reckon_173 (by decide) (fun c18 => ?_) (fun c18 => ?_)
      · have h := if_f (fun z => c18 ((lg_cmp_eq _ _).mpr z)) h
        refine lv_lload hx hb d_M_reckon_181 (lv_at hl 4 rfl) ?_
        refine lv_lload hx hb d_M_reckon_183 (lv_at hl 5 rfl) ?_
        refine lv_lload hx hb d_M_reckon_185 (lv_at hl 4 rfl) ?_
        refine lv_lload hx hb d_M_reckon_187 (lv_at hl 5 rfl) ?_
        obtain ⟨r19, er19, h⟩ := bd_ob h
        refine me_panl0 (r0 := r19) (fg_runS (wc := []) (tc := []) (A2 := A) (As := [.long y6, .long y8]) (rest := [.long y8, .long y6]) ⟨hx, hb, hml, hown, hts⟩ (c_M_quotient l D r19 y6 y8 er19 _) (by show fg_nm y_M_quotient 2; decide +kernel) u_2348 u_2349 u_192 u_2350 ⟨Nat.le_of_ble_eq_true rfl, Nat.le_of_ble_eq_true rfl⟩ hX me_P0 (hK.sub (tys' := []) [] rfl) me_D0 rfl hl.1 (Nat.le_of_ble_eq_true rfl) d_M_reckon_189 ⟨Nat.le_of_ble_eq_true rfl, Nat.le_of_ble_eq_true rfl⟩) hK hS hA rfl rfl (fun H locs hw hS => ?_)
        refine lv_lmul hx hb d_M_reckon_192 ?_
        refine lv_lsub hx hb d_M_reckon_193 ?_
        obtain ⟨v20, ev20, h⟩ := st_ob h
        refine fg_topl (y := v20) ev20.symm ?_
        refine lv_lstore (lv' := [(11, .long v20), (10, .int v1), (0, .int x0), (5, .int x5), (6, .long y6), (8, .long y8)]) hx hb d_M_reckon_194 hl (by decide) rfl (fun ls hl => ?_)
        refine lv_goto (tgt := 278) hx hb d_M_reckon_196 (by decide) ?_
        refine lv_iload hx hb d_M_reckon_278 (lv_at hl 3 rfl) ?_
        refine lv_if_eq (tgt := 292) hx hb d_M_reckon_280 (by decide) (fun c21 => ?_) (fun c21 => ?_)
        · have h := if_t c21 h
          refine lv_lload hx hb d_M_reckon_292 (lv_at hl 0 rfl) ?_
          exact me_pretl h hx hb hr hlocks hK hS d_M_reckon_294
        have h := if_f c21 h
        refine lv_lload hx hb d_M_reckon_283 (lv_at hl 0 rfl) ?_
        refine lv_ldc2 hx hb hown (hts _ u_2019) d_M_reckon_285 ?_
        refine lv_land hx hb d_M_reckon_288 ?_
        refine lv_goto (tgt := 294) hx hb d_M_reckon_289 (by decide) ?_
        exact me_pretl h hx hb hr hlocks hK hS d_M_reckon_294
      have h := if_t ((lg_cmp_eq _ _).mp c18) h
      refine lv_lload hx hb d_M_reckon_176 (lv_at hl 4 rfl) ?_
      refine lv_goto (tgt := 194) hx hb d_M_reckon_178 (by decide) ?_
      refine lv_lstore (lv' := [(11, .long y6), (10, .int v1), (0, .int x0), (5, .int x5), (6, .long y6), (8, .long y8)]) hx hb d_M_reckon_194 hl (by decide) rfl (fun ls hl => ?_)
      refine lv_goto (tgt := 278) hx hb d_M_reckon_196 (by decide) ?_
      refine lv_iload hx hb d_M_reckon_278 (lv_at hl 3 rfl) ?_
      refine lv_if_eq (tgt := 292) hx hb d_M_reckon_280 (by decide) (fun c22 => ?_) (fun c22 => ?_)
      · have h := if_t c22 h
        refine lv_lload hx hb d_M_reckon_292 (lv_at hl 0 rfl) ?_
        exact me_pretl h hx hb hr hlocks hK hS d_M_reckon_294
      have h := if_f c22 h
      refine lv_lload hx hb d_M_reckon_283 (lv_at hl 0 rfl) ?_
      refine lv_ldc2 hx hb hown (hts _ u_2019) d_M_reckon_285 ?_
      refine lv_land hx hb d_M_reckon_288 ?_
      refine lv_goto (tgt := 294) hx hb d_M_reckon_289 (by decide) ?_
      exact me_pretl h hx hb hr hlocks hK hS d_M_reckon_294
    have h := if_f (fun z => n17 (ew2.trans z)) h
    by_cases n23 : w2 = 5
    · have h := if_t (ew2.symm.trans n23) h
      subst n23
      refine lv_tableIn (off := 143) (tgt := 199) hx hb d_M_reckon_56 (by decide) (by decide) (by decide) (by decide) ?_
      refine lv_lload hx hb d_M_reckon_199 (lv_at hl 4 rfl) ?_
      refine lv_lload hx hb d_M_reckon_201 (lv_at hl 5 rfl) ?_
      refine lv_land hx hb d_M_reckon_203 ?_
      obtain ⟨v24, ev24, h⟩ := st_ob h
      refine fg_topl (y := v24) ev24.symm ?_
      refine lv_lstore (lv' := [(11, .long v24), (10, .int v1), (0, .int x0), (5, .int x5), (6, .long y6), (8, .long y8)]) hx hb d_M_reckon_204 hl (by decide) rfl (fun ls hl => ?_)
      refine lv_goto (tgt := 278) hx hb d_M_reckon_206 (by decide) ?_
      refine lv_iload hx hb d_M_reckon_278 (lv_at hl 3 rfl) ?_
      refine lv_if_eq (tgt := 292) hx hb d_M_reckon_280 (by decide) (fun c25 => ?_) (fun c25 => ?_)
      · have h := if_t c25 h
        refine lv_lload hx hb d_M_reckon_292 (lv_at hl 0 rfl) ?_
        exact me_pretl h hx hb hr hlocks hK hS d_M_reckon_294
      have h := if_f c25 h
      refine lv_lload hx hb d_M_reckon_283 (lv_at hl 0 rfl) ?_
      refine lv_ldc2 hx hb hown (hts _ u_2019) d_M_reckon_285 ?_
      refine lv_land hx hb d_M_reckon_288 ?_
      refine lv_goto (tgt := 294) hx hb d_M_reckon_289 (by decide) ?_
      exact me_pretl h hx hb hr hlocks hK hS d_M_reckon_294
    have h := if_f (fun z => n23 (ew2.trans z)) h
    by_cases n26 : w2 = 6
    · have h := if_t (ew2.symm.trans n26) h
      subst n26
      refine lv_tableIn (off := 153) (tgt := 209) hx hb d_M_reckon_56 (by decide) (by decide) (by decide) (by decide) ?_
      refine lv_lload hx hb d_M_reckon_209 (lv_at hl 4 rfl) ?_
      refine lv_lload hx hb d_M_reckon_211 (lv_at hl 5 rfl) ?_
      refine lv_lor hx hb d_M_reckon_213 ?_
      obtain ⟨v27, ev27, h⟩ := st_ob h
      refine fg_topl (y := v27) ev27.symm ?_
      refine lv_lstore (lv' := [(11, .long v27), (10, .int v1), (0, .int x0), (5, .int x5), (6, .long y6), (8, .long y8)]) hx hb d_M_reckon_214 hl (by decide) rfl (fun ls hl => ?_)
      refine lv_goto (tgt := 278) hx hb d_M_reckon_216 (by decide) ?_
      refine lv_iload hx hb d_M_reckon_278 (lv_at hl 3 rfl) ?_
      refine lv_if_eq (tgt := 292) hx hb d_M_reckon_280 (by decide) (fun c28 => ?_) (fun c28 => ?_)
      · have h := if_t c28 h
        refine lv_lload hx hb d_M_reckon_292 (lv_at hl 0 rfl) ?_
        exact me_pretl h hx hb hr hlocks hK hS d_M_reckon_294
      have h := if_f c28 h
      refine lv_lload hx hb d_M_reckon_283 (lv_at hl 0 rfl) ?_
      refine lv_ldc2 hx hb hown (hts _ u_2019) d_M_reckon_285 ?_
      refine lv_land hx hb d_M_reckon_288 ?_
      refine lv_goto (tgt := 294) hx hb d_M_reckon_289 (by decide) ?_
      exact me_pretl h hx hb hr hlocks hK hS d_M_reckon_294
    have h := if_f (fun z => n26 (ew2.trans z)) h
    by_cases n29 : w2 = 7
    · have h := if_t (ew2.symm.trans n29) h
      subst n29
      refine lv_tableIn (off := 163) (tgt := 219) hx hb d_M_reckon_56 (by decide) (by decide) (by decide) (by decide) ?_
      refine lv_lload hx hb d_M_reckon_219 (lv_at hl 4 rfl) ?_
      refine lv_lload hx hb d_M_reckon_221 (lv_at hl 5 rfl) ?_
      refine lv_lxor hx hb d_M_reckon_223 ?_
      obtain ⟨v30, ev30, h⟩ := st_ob h
      refine fg_topl (y := v30) ev30.symm ?_
      refine lv_lstore (lv' := [(11, .long v30), (10, .int v1), (0, .int x0), (5, .int x5), (6, .long y6), (8, .long y8)]) hx hb d_M_reckon_224 hl (by decide) rfl (fun ls hl => ?_)
      refine lv_goto (tgt := 278) hx hb d_M_reckon_226 (by decide) ?_
      refine lv_iload hx hb d_M_reckon_278 (lv_at hl 3 rfl) ?_
      refine lv_if_eq (tgt := 292) hx hb d_M_reckon_280 (by decide) (fun c31 => ?_) (fun c31 => ?_)
      · have h := if_t c31 h
        refine lv_lload hx hb d_M_reckon_292 (lv_at hl 0 rfl) ?_
        exact me_pretl h hx hb hr hlocks hK hS d_M_reckon_294
      have h := if_f c31 h
      refine lv_lload hx hb d_M_reckon_283 (lv_at hl 0 rfl) ?_
      refine lv_ldc2 hx hb hown (hts _ u_2019) d_M_reckon_285 ?_
      refine lv_land hx hb d_M_reckon_288 ?_
      refine lv_goto (tgt := 294) hx hb d_M_reckon_289 (by decide) ?_
      exact me_pretl h hx hb hr hlocks hK hS d_M_reckon_294
    have h := if_f (fun z => n29 (ew2.trans z)) h
    by_cases n32 : w2 = 8
    · have h := if_t (ew2.symm.trans n32) h
      subst n32
      refine lv_tableIn (off := 173) (tgt := 229) hx hb d_M_reckon_56 (by decide) (by decide) (by decide) (by decide) ?_
      refine lv_lload hx hb d_M_reckon_229 (lv_at hl 4 rfl) ?_
      refine lv_iload hx hb d_M_reckon_231 (lv_at hl 1 rfl) ?_
      refine lv_lshl (v := jlshl y6 v1) hx hb d_M_reckon_233 rfl ?_
      obtain ⟨v33, ev33, h⟩ := st_ob h
      refine fg_topl (y := v33) ev33.symm ?_
      refine lv_lstore (lv' := [(11, .long v33), (10, .int v1), (0, .int x0), (5, .int x5), (6, .long y6), (8, .long y8)]) hx hb d_M_reckon_234 hl (by decide) rfl (fun ls hl => ?_)
      refine lv_goto (tgt := 278) hx hb d_M_reckon_236 (by decide) ?_
      refine lv_iload hx hb d_M_reckon_278 (lv_at hl 3 rfl) ?_
      refine lv_if_eq (tgt := 292) hx hb d_M_reckon_280 (by decide) (fun c34 => ?_) (fun c34 => ?_)
      · have h := if_t c34 h
        refine lv_lload hx hb d_M_reckon_292 (lv_at hl 0 rfl) ?_
        exact me_pretl h hx hb hr hlocks hK hS d_M_reckon_294
      have h := if_f c34 h
      refine lv_lload hx hb d_M_reckon_283 (lv_at hl 0 rfl) ?_
      refine lv_ldc2 hx hb hown (hts _ u_2019) d_M_reckon_285 ?_
      refine lv_land hx hb d_M_reckon_288 ?_
      refine lv_goto (tgt := 294) hx hb d_M_reckon_289 (by decide) ?_
      exact me_pretl h hx hb hr hlocks hK hS d_M_reckon_294
    have h := if_f (fun z => n32 (ew2.trans z)) h
    by_cases n35 : w2 = 9
    · have h := if_t (ew2.symm.trans n35) h
      subst n35
      refine lv_tableIn (off := 183) (tgt := 239) hx hb d_M_reckon_56 (by decide) (by decide) (by decide) (by decide) ?_
      refine lv_lload hx hb d_M_reckon_239 (lv_at hl 4 rfl) ?_
      refine lv_iload hx hb d_M_reckon_241 (lv_at hl 1 rfl) ?_
      refine lv_lushr (v := jlushr y6 v1) hx hb d_M_reckon_243 rfl ?_
      obtain ⟨v36, ev36, h⟩ := st_ob h
      refine fg_topl (y := v36) ev36.symm ?_
      refine lv_lstore (lv' := [(11, .long v36), (10, .int v1), (0, .int x0), (5, .int x5), (6, .long y6), (8, .long y8)]) hx hb d_M_reckon_244 hl (by decide) rfl (fun ls hl => ?_)
      refine lv_goto (tgt := 278) hx hb d_M_reckon_246 (by decide) ?_
      refine lv_iload hx hb d_M_reckon_278 (lv_at hl 3 rfl) ?_
      refine lv_if_eq (tgt := 292) hx hb d_M_reckon_280 (by decide) (fun c37 => ?_) (fun c37 => ?_)
      · have h := if_t c37 h
        refine lv_lload hx hb d_M_reckon_292 (lv_at hl 0 rfl) ?_
        exact me_pretl h hx hb hr hlocks hK hS d_M_reckon_294
      have h := if_f c37 h
      refine lv_lload hx hb d_M_reckon_283 (lv_at hl 0 rfl) ?_
      refine lv_ldc2 hx hb hown (hts _ u_2019) d_M_reckon_285 ?_
      refine lv_land hx hb d_M_reckon_288 ?_
      refine lv_goto (tgt := 294) hx hb d_M_reckon_289 (by decide) ?_
      exact me_pretl h hx hb hr hlocks hK hS d_M_reckon_294
    have h := if_f (fun z => n35 (ew2.trans z)) h
    by_cases n38 : w2 = 10
    · have h := if_t (ew2.symm.trans n38) h
      subst n38
      refine lv_tableIn (off := 193) (tgt := 249) hx hb d_M_reckon_56 (by decide) (by decide) (by decide) (by decide) ?_
      refine lv_iload hx hb d_M_reckon_249 (lv_at hl 3 rfl) ?_
      refine lv_if_eq (tgt := 264) hx hb d_M_reckon_251 (by decide) (fun c39 => ?_) (fun c39 => ?_)
      · have h := if_t c39 h
        refine lv_lload hx hb d_M_reckon_264 (lv_at hl 4 rfl) ?_
        refine lv_iload hx hb d_M_reckon_266 (lv_at hl 1 rfl) ?_
        refine lv_lshr (v := jlshr y6 v1) hx hb d_M_reckon_268 rfl ?_
        obtain ⟨v40, ev40, h⟩ := st_ob h
        refine fg_topl (y := v40) ev40.symm ?_
        refine lv_lstore (lv' := [(11, .long v40), (10, .int v1), (0, .int x0), (5, .int x5), (6, .long y6), (8, .long y8)]) hx hb d_M_reckon_269 hl (by decide) rfl (fun ls hl => ?_)
        refine lv_goto (tgt := 278) hx hb d_M_reckon_271 (by decide) ?_
        refine lv_iload hx hb d_M_reckon_278 (lv_at hl 3 rfl) ?_
        refine lv_if_eq (tgt := 292) hx hb d_M_reckon_280 (by decide) (fun c41 => ?_) (fun c41 => ?_)
        · have h := if_t c41 h
          refine lv_lload hx hb d_M_reckon_292 (lv_at hl 0 rfl) ?_
          exact me_pretl h hx hb hr hlocks hK hS d_M_reckon_294
        have h := if_f c41 h
        refine lv_lload hx hb d_M_reckon_283 (lv_at hl 0 rfl) ?_
        refine lv_ldc2 hx hb hown (hts _ u_2019) d_M_reckon_285 ?_
        refine lv_land hx hb d_M_reckon_288 ?_
        refine lv_goto (tgt := 294) hx hb d_M_reckon_289 (by decide) ?_
        exact me_pretl h hx hb hr hlocks hK hS d_M_reckon_294
      have h := if_f c39 h
      refine lv_lload hx hb d_M_reckon_254 (lv_at hl 4 rfl) ?_
      refine lv_l2i (v := y6.toInt32) hx hb d_M_reckon_256 rfl ?_
      refine lv_iload hx hb d_M_reckon_257 (lv_at hl 1 rfl) ?_
      refine lv_ishr hx hb d_M_reckon_259 ?_
      refine fg_topi (y := jishr y6.toInt32 v1) rfl ?_
      refine lv_i2l (v := (jishr y6.toInt32 v1).toInt64) hx hb d_M_reckon_260 rfl ?_
      refine lv_goto (tgt := 269) hx hb d_M_reckon_261 (by decide) ?_
      obtain ⟨v42, ev42, h⟩ := st_ob h
      refine fg_topl (y := v42) ev42.symm ?_
      refine lv_lstore (lv' := [(11, .long v42), (10, .int v1), (0, .int x0), (5, .int x5), (6, .long y6), (8, .long y8)]) hx hb d_M_reckon_269 hl (by decide) rfl (fun ls hl => ?_)
      refine lv_goto (tgt := 278) hx hb d_M_reckon_271 (by decide) ?_
      refine lv_iload hx hb d_M_reckon_278 (lv_at hl 3 rfl) ?_
      refine lv_if_eq (tgt := 292) hx hb d_M_reckon_280 (by decide) (fun c43 => ?_) (fun c43 => ?_)
      · have h := if_t c43 h
        refine lv_lload hx hb d_M_reckon_292 (lv_at hl 0 rfl) ?_
        exact me_pretl h hx hb hr hlocks hK hS d_M_reckon_294
      have h := if_f c43 h
      refine lv_lload hx hb d_M_reckon_283 (lv_at hl 0 rfl) ?_
      refine lv_ldc2 hx hb hown (hts _ u_2019) d_M_reckon_285 ?_
      refine lv_land hx hb d_M_reckon_288 ?_
      refine lv_goto (tgt := 294) hx hb d_M_reckon_289 (by decide) ?_
      exact me_pretl h hx hb hr hlocks hK hS d_M_reckon_294
    have h := if_f (fun z => n38 (ew2.trans z)) h
    have in3 := lv_neT n3 (show (0 : Int32).toInt = 0 from rfl)
    have in6 := lv_neT n6 (show (1 : Int32).toInt = 1 from rfl)
    have in9 := lv_neT n9 (show (2 : Int32).toInt = 2 from rfl)
    have in12 := lv_neT n12 (show (3 : Int32).toInt = 3 from rfl)
    have in17 := lv_neT n17 (show (4 : Int32).toInt = 4 from rfl)
    have in23 := lv_neT n23 (show (5 : Int32).toInt = 5 from rfl)
    have in26 := lv_neT n26 (show (6 : Int32).toInt = 6 from rfl)
    have in29 := lv_neT n29 (show (7 : Int32).toInt = 7 from rfl)
    have in32 := lv_neT n32 (show (8 : Int32).toInt = 8 from rfl)
    have in35 := lv_neT n35 (show (9 : Int32).toInt = 9 from rfl)
    have in38 := lv_neT n38 (show (10 : Int32).toInt = 10 from rfl)
    refine lv_tableOut (tgt := 274) hx hb d_M_reckon_56 (by omega) (by decide) ?_
    refine lv_lload hx hb d_M_reckon_274 (lv_at hl 5 rfl) ?_
    refine lv_lstore (lv' := [(11, .long y8), (10, .int v1), (0, .int x0), (5, .int x5), (6, .long y6), (8, .long y8)]) hx hb d_M_reckon_276 hl (by decide) rfl (fun ls hl => ?_)
    refine lv_iload hx hb d_M_reckon_278 (lv_at hl 3 rfl) ?_
    refine lv_if_eq (tgt := 292) hx hb d_M_reckon_280 (by decide) (fun c44 => ?_) (fun c44 => ?_)
    · have h := if_t c44 h
      refine lv_lload hx hb d_M_reckon_292 (lv_at hl 0 rfl) ?_
      exact me_pretl h hx hb hr hlocks hK hS d_M_reckon_294
    have h := if_f c44 h
    refine lv_lload hx hb d_M_reckon_283 (lv_at hl 0 rfl) ?_
    refine lv_ldc2 hx hb hown (hts _ u_2019) d_M_reckon_285 ?_
    refine lv_land hx hb d_M_reckon_288 ?_
    refine lv_goto (tgt := 294) hx hb d_M_reckon_289 (by decide) ?_
    exact me_pretl h hx hb hr hlocks hK hS d_M_reckon_294
  have b_30 : ∀ (y6 : Int64) (s0 : Int64) (H : Heap) (locs : List Loc) (ls : Array Slot), f_M_reckon_b30 x0 x5 y6 s0 = (some RZ) → va_S A s.heap H locs → lv_has ls 13 [(0, .int x0), (5, .int x5), (6, .long y6)] → W p l e rm_M_reckon s m [.int x0, .long x1, .long x3, .int x5].toArray below meth c H locs 0 0 (MQ below (q_M_reckon D RZ A) [.int x0, .long x1, .long x3, .int x5].toArray s rm_M_reckon.cells rm_M_reckon.slots A) (F0 m 30 ls [.long s0]) := by
    intro y6 s0 H locs ls h hS hl
    unfold f_M_reckon_b30 at h
    refine lv_lstore (lv' := [(8, .long s0), (0, .int x0), (5, .int x5), (6, .long y6)]) hx hb d_M_reckon_30 hl (by decide) rfl (fun ls hl => ?_)
    refine lv_lload hx hb d_M_reckon_32 (lv_at hl 0 rfl) ?_
    refine lv_iload hx hb d_M_reckon_34 (lv_at hl 2 rfl) ?_
    refine lv_if_eq (tgt := 45) hx hb d_M_reckon_36 (by decide) (fun c45 => ?_) (fun c45 => ?_)
    · have h := if_t c45 h
      refine lv_ldc2 hx hb hown (hts _ u_2030) d_M_reckon_45 ?_
      exact b_48 y6 s0 (63 : Int64) s0 _ _ _ h hS (lv_sub hl [1, 2, 3, 0] rfl)
    have h := if_f c45 h
    refine lv_ldc2 hx hb hown (hts _ u_2029) d_M_reckon_39 ?_
    refine lv_goto (tgt := 48) hx hb d_M_reckon_42 (by decide) ?_
    exact b_48 y6 s0 (31 : Int64) s0 _ _ _ h hS (lv_sub hl [1, 2, 3, 0] rfl)
  have b_14 : ∀ (s0 : Int64) (H : Heap) (locs : List Loc) (ls : Array Slot), f_M_reckon_b14 x0 x3 x5 s0 = (some RZ) → va_S A s.heap H locs → lv_has ls 13 [(0, .int x0), (3, .long x3), (5, .int x5)] → W p l e rm_M_reckon s m [.int x0, .long x1, .long x3, .int x5].toArray below meth c H locs 0 0 (MQ below (q_M_reckon D RZ A) [.int x0, .long x1, .long x3, .int x5].toArray s rm_M_reckon.cells rm_M_reckon.slots A) (F0 m 14 ls [.long s0]) := by
    intro s0 H locs ls h hS hl
    unfold f_M_reckon_b14 at h
    refine lv_lstore (lv' := [(6, .long s0), (0, .int x0), (3, .long x3), (5, .int x5)]) hx hb d_M_reckon_14 hl (by decide) rfl (fun ls hl => ?_)
    refine lv_iload hx hb d_M_reckon_16 (lv_at hl 3 rfl) ?_
    refine lv_if_eq (tgt := 29) hx hb d_M_reckon_18 (by decide) (fun c46 => ?_) (fun c46 => ?_)
    · have h := if_t c46 h
      refine lv_lload_n hx hb d_M_reckon_29 rfl (lv_at hl 2 rfl) ?_
      exact b_30 s0 x3 _ _ _ h hS (lv_sub hl [1, 3, 0] rfl)
    have h := if_f c46 h
    refine lv_lload_n hx hb d_M_reckon_21 rfl (lv_at hl 2 rfl) ?_
    refine lv_ldc2 hx hb hown (hts _ u_2019) d_M_reckon_22 ?_
    refine lv_land hx hb d_M_reckon_25 ?_
    refine lv_goto (tgt := 30) hx hb d_M_reckon_26 (by decide) ?_
    exact b_30 s0 (x3 &&& 4294967295) _ _ _ h hS (lv_sub hl [1, 3, 0] rfl)
  refine lv_iload hx hb d_M_reckon_0 (lv_at hl 3 rfl) ?_
  refine lv_if_eq (tgt := 13) hx hb d_M_reckon_2 (by decide) (fun c47 => ?_) (fun c47 => ?_)
  · have h := if_t c47 h
    refine lv_lload_n hx hb d_M_reckon_13 rfl (lv_at hl 1 rfl) ?_
    exact b_14 x1 _ _ _ h hS (lv_sub hl [0, 2, 3] rfl)
  have h := if_f c47 h
  refine lv_lload_n hx hb d_M_reckon_5 rfl (lv_at hl 1 rfl) ?_
  refine lv_ldc2 hx hb hown (hts _ u_2019) d_M_reckon_6 ?_
  refine lv_land hx hb d_M_reckon_9 ?_
  refine lv_goto (tgt := 14) hx hb d_M_reckon_10 (by decide) ?_
  exact b_14 (x1 &&& 4294967295) _ _ _ h hS (lv_sub hl [0, 2, 3] rfl)
theorem d_M_related_0 : decode prog_14_method_131_code 0 = .ok (.iload_n 0, 1) := by decide +kernel
theorem d_M_related_1 : decode prog_14_method_131_code 1 = .ok (.tableswitch 169 0 9 #[55, 67, 73, 87, 101, 113, 125, 137, 143, 157], 55) := by decide +kernel
theorem d_M_related_56 : decode prog_14_method_131_code 56 = .ok (.lload_n 1, 1) := by decide +kernel
theorem d_M_related_57 : decode prog_14_method_131_code 57 = .ok (.lload_n 3, 1) := by decide +kernel
theorem d_M_related_58 : decode prog_14_method_131_code 58 = .ok (.lcmp, 1) := by decide +kernel
theorem d_M_related_59 : decode prog_14_method_131_code 59 = .ok (.ifCond .ne 7, 3) := by decide +kernel
theorem d_M_related_66 : decode prog_14_method_131_code 66 = .ok (.iconst 0, 1) := by decide +kernel
theorem d_M_related_67 : decode prog_14_method_131_code 67 = .ok (.ireturn, 1) := by decide +kernel
theorem d_M_related_62 : decode prog_14_method_131_code 62 = .ok (.iconst 1, 1) := by decide +kernel
theorem d_M_related_63 : decode prog_14_method_131_code 63 = .ok (.goto 4, 3) := by decide +kernel
theorem d_M_related_68 : decode prog_14_method_131_code 68 = .ok (.lload_n 3, 1) := by decide +kernel
theorem d_M_related_69 : decode prog_14_method_131_code 69 = .ok (.lload_n 1, 1) := by decide +kernel
theorem d_M_related_70 : decode prog_14_method_131_code 70 = .ok (.invokestatic 158, 3) := by decide +kernel
theorem d_M_related_73 : decode prog_14_method_131_code 73 = .ok (.ireturn, 1) := by decide +kernel
theorem d_M_related_74 : decode prog_14_method_131_code 74 = .ok (.lload_n 1, 1) := by decide +kernel
theorem d_M_related_75 : decode prog_14_method_131_code 75 = .ok (.lload_n 3, 1) := by decide +kernel
theorem d_M_related_76 : decode prog_14_method_131_code 76 = .ok (.invokestatic 158, 3) := by decide +kernel
theorem d_M_related_79 : decode prog_14_method_131_code 79 = .ok (.ifCond .ne 7, 3) := by decide +kernel
theorem d_M_related_86 : decode prog_14_method_131_code 86 = .ok (.iconst 0, 1) := by decide +kernel
theorem d_M_related_87 : decode prog_14_method_131_code 87 = .ok (.ireturn, 1) := by decide +kernel
theorem d_M_related_82 : decode prog_14_method_131_code 82 = .ok (.iconst 1, 1) := by decide +kernel
theorem d_M_related_83 : decode prog_14_method_131_code 83 = .ok (.goto 4, 3) := by decide +kernel
theorem d_M_related_88 : decode prog_14_method_131_code 88 = .ok (.lload_n 1, 1) := by decide +kernel
theorem d_M_related_89 : decode prog_14_method_131_code 89 = .ok (.lload_n 3, 1) := by decide +kernel
theorem d_M_related_90 : decode prog_14_method_131_code 90 = .ok (.land, 1) := by decide +kernel
theorem d_M_related_91 : decode prog_14_method_131_code 91 = .ok (.lconst 0, 1) := by decide +kernel
theorem d_M_related_92 : decode prog_14_method_131_code 92 = .ok (.lcmp, 1) := by decide +kernel
theorem d_M_related_93 : decode prog_14_method_131_code 93 = .ok (.ifCond .eq 7, 3) := by decide +kernel
theorem d_M_related_100 : decode prog_14_method_131_code 100 = .ok (.iconst 0, 1) := by decide +kernel
theorem d_M_related_101 : decode prog_14_method_131_code 101 = .ok (.ireturn, 1) := by decide +kernel
theorem d_M_related_96 : decode prog_14_method_131_code 96 = .ok (.iconst 1, 1) := by decide +kernel
theorem d_M_related_97 : decode prog_14_method_131_code 97 = .ok (.goto 4, 3) := by decide +kernel
theorem d_M_related_102 : decode prog_14_method_131_code 102 = .ok (.lload_n 1, 1) := by decide +kernel
theorem d_M_related_103 : decode prog_14_method_131_code 103 = .ok (.lload_n 3, 1) := by decide +kernel
theorem d_M_related_104 : decode prog_14_method_131_code 104 = .ok (.lcmp, 1) := by decide +kernel
theorem d_M_related_105 : decode prog_14_method_131_code 105 = .ok (.ifCond .eq 7, 3) := by decide +kernel
theorem d_M_related_112 : decode prog_14_method_131_code 112 = .ok (.iconst 0, 1) := by decide +kernel
theorem d_M_related_113 : decode prog_14_method_131_code 113 = .ok (.ireturn, 1) := by decide +kernel
theorem d_M_related_108 : decode prog_14_method_131_code 108 = .ok (.iconst 1, 1) := by decide +kernel
theorem d_M_related_109 : decode prog_14_method_131_code 109 = .ok (.goto 4, 3) := by decide +kernel
theorem d_M_related_114 : decode prog_14_method_131_code 114 = .ok (.lload_n 1, 1) := by decide +kernel
theorem d_M_related_115 : decode prog_14_method_131_code 115 = .ok (.lload_n 3, 1) := by decide +kernel
theorem d_M_related_116 : decode prog_14_method_131_code 116 = .ok (.lcmp, 1) := by decide +kernel
theorem d_M_related_117 : decode prog_14_method_131_code 117 = .ok (.ifCond .le 7, 3) := by decide +kernel
theorem d_M_related_124 : decode prog_14_method_131_code 124 = .ok (.iconst 0, 1) := by decide +kernel
theorem d_M_related_125 : decode prog_14_method_131_code 125 = .ok (.ireturn, 1) := by decide +kernel
theorem d_M_related_120 : decode prog_14_method_131_code 120 = .ok (.iconst 1, 1) := by decide +kernel
theorem d_M_related_121 : decode prog_14_method_131_code 121 = .ok (.goto 4, 3) := by decide +kernel
theorem d_M_related_126 : decode prog_14_method_131_code 126 = .ok (.lload_n 1, 1) := by decide +kernel
theorem d_M_related_127 : decode prog_14_method_131_code 127 = .ok (.lload_n 3, 1) := by decide +kernel
theorem d_M_related_128 : decode prog_14_method_131_code 128 = .ok (.lcmp, 1) := by decide +kernel
theorem d_M_related_129 : decode prog_14_method_131_code 129 = .ok (.ifCond .lt 7, 3) := by decide +kernel
theorem d_M_related_136 : decode prog_14_method_131_code 136 = .ok (.iconst 0, 1) := by decide +kernel
theorem d_M_related_137 : decode prog_14_method_131_code 137 = .ok (.ireturn, 1) := by decide +kernel
theorem d_M_related_132 : decode prog_14_method_131_code 132 = .ok (.iconst 1, 1) := by decide +kernel
theorem d_M_related_133 : decode prog_14_method_131_code 133 = .ok (.goto 4, 3) := by decide +kernel
theorem d_M_related_138 : decode prog_14_method_131_code 138 = .ok (.lload_n 1, 1) := by decide +kernel
theorem d_M_related_139 : decode prog_14_method_131_code 139 = .ok (.lload_n 3, 1) := by decide +kernel
theorem d_M_related_140 : decode prog_14_method_131_code 140 = .ok (.invokestatic 158, 3) := by decide +kernel
theorem d_M_related_143 : decode prog_14_method_131_code 143 = .ok (.ireturn, 1) := by decide +kernel
theorem d_M_related_144 : decode prog_14_method_131_code 144 = .ok (.lload_n 3, 1) := by decide +kernel
theorem d_M_related_145 : decode prog_14_method_131_code 145 = .ok (.lload_n 1, 1) := by decide +kernel
theorem d_M_related_146 : decode prog_14_method_131_code 146 = .ok (.invokestatic 158, 3) := by decide +kernel
theorem d_M_related_149 : decode prog_14_method_131_code 149 = .ok (.ifCond .ne 7, 3) := by decide +kernel
theorem d_M_related_156 : decode prog_14_method_131_code 156 = .ok (.iconst 0, 1) := by decide +kernel
theorem d_M_related_157 : decode prog_14_method_131_code 157 = .ok (.ireturn, 1) := by decide +kernel
theorem d_M_related_152 : decode prog_14_method_131_code 152 = .ok (.iconst 1, 1) := by decide +kernel
theorem d_M_related_153 : decode prog_14_method_131_code 153 = .ok (.goto 4, 3) := by decide +kernel
theorem d_M_related_158 : decode prog_14_method_131_code 158 = .ok (.lload_n 1, 1) := by decide +kernel
theorem d_M_related_159 : decode prog_14_method_131_code 159 = .ok (.lload_n 3, 1) := by decide +kernel
theorem d_M_related_160 : decode prog_14_method_131_code 160 = .ok (.lcmp, 1) := by decide +kernel
theorem d_M_related_161 : decode prog_14_method_131_code 161 = .ok (.ifCond .ge 7, 3) := by decide +kernel
theorem d_M_related_168 : decode prog_14_method_131_code 168 = .ok (.iconst 0, 1) := by decide +kernel
theorem d_M_related_169 : decode prog_14_method_131_code 169 = .ok (.ireturn, 1) := by decide +kernel
theorem d_M_related_164 : decode prog_14_method_131_code 164 = .ok (.iconst 1, 1) := by decide +kernel
theorem d_M_related_165 : decode prog_14_method_131_code 165 = .ok (.goto 4, 3) := by decide +kernel
theorem d_M_related_170 : decode prog_14_method_131_code 170 = .ok (.lload_n 1, 1) := by decide +kernel
theorem d_M_related_171 : decode prog_14_method_131_code 171 = .ok (.lload_n 3, 1) := by decide +kernel
theorem d_M_related_172 : decode prog_14_method_131_code 172 = .ok (.lcmp, 1) := by decide +kernel
theorem d_M_related_173 : decode prog_14_method_131_code 173 = .ok (.ifCond .gt 7, 3) := by decide +kernel
theorem d_M_related_180 : decode prog_14_method_131_code 180 = .ok (.iconst 0, 1) := by decide +kernel
theorem d_M_related_181 : decode prog_14_method_131_code 181 = .ok (.ireturn, 1) := by decide +kernel
theorem d_M_related_176 : decode prog_14_method_131_code 176 = .ok (.iconst 1, 1) := by decide +kernel
theorem d_M_related_177 : decode prog_14_method_131_code 177 = .ok (.goto 4, 3) := by decide +kernel
abbrev y_M_related : MethodName := ⟨"FilterGuardModel", "related", "(IJJ)Z"⟩
def rm_M_related : Room := { frames := 2, cells := 0, slots := 0, locals := 43 }
abbrev q_M_related (D : va_G) (RZ : Int32) (A : Nat → Prop) : Array Value → Jvm.State → Outcome → Jvm.State → Prop := va_Qi (fun r (_ : Unit) => r = RZ ∧ (RZ = 1 ∨ RZ = 0)) (fg_B D A (fun _ => []) (fun _ => [])) A
set_option maxHeartbeats 4000000 in
set_option maxRecDepth 100000 in
theorem c_M_related (l : Launch) (D : va_G) (RZ : Int32) (x0 : Int32) (x1 : Int64) (x3 : Int64) (h : f_M_related x0 x1 x3 = (some RZ)) (sz : Nat) : Met l y_M_related (fg_w y_M_related prog_14_method_131_code 5 (some .boolean)) rm_M_related (va_Pc [.int x0, .long x1, .long x3] (fg_P D [] [] sz)) (q_M_related D RZ (va_A [] sz)) rm_M_related.cells rm_M_related.slots (va_A [] sz) := by
  refine fg_enter (fun A => q_M_related D RZ A) (by decide +kernel) (Nat.le_of_ble_eq_true rfl) ?_
  intro p e s m below meth c ls A hx hb hml hown hts hr hlocks hin hP hK hD hS hA hX hl
  have hl : lv_has ls 5 [(0, .int x0), (1, .long x1), (3, .long x3)] := hl
  unfold f_M_related at h
  refine lv_iload_n hx hb d_M_related_0 rfl (lv_at hl 0 rfl) ?_
  refine lv_topi (fun w1 ew1 => ?_)
  by_cases n2 : w1 = 0
  · have h := if_t (ew1.symm.trans n2) h
    subst n2
    refine lv_tableIn (off := 55) (tgt := 56) hx hb d_M_related_1 (by decide) (by decide) (by decide) (by decide) ?_
    refine lv_lload_n hx hb d_M_related_56 rfl (lv_at hl 1 rfl) ?_
    refine lv_lload_n hx hb d_M_related_57 rfl (lv_at hl 2 rfl) ?_
    refine W.lcmp hx hb d_M_related_58 ?_
    refine lv_if_ne (tgt := 66) hx hb d_M_related_59 (by decide) (fun c3 => ?_) (fun c3 => ?_)
    · have h := if_f (fun z => c3 ((lg_cmp_eq _ _).mpr z)) h
      refine lv_iconst (v := 0) hx hb d_M_related_66 (by decide) ?_
      exact me_pretz h (by decide) hx hb hr hlocks hK hS d_M_related_67
    have h := if_t ((lg_cmp_eq _ _).mp c3) h
    refine lv_iconst (v := 1) hx hb d_M_related_62 (by decide) ?_
    refine lv_goto (tgt := 67) hx hb d_M_related_63 (by decide) ?_
    exact me_pretz h (by decide) hx hb hr hlocks hK hS d_M_related_67
  have h := if_f (fun z => n2 (ew1.trans z)) h
  by_cases n4 : w1 = 1
  · have h := if_t (ew1.symm.trans n4) h
    subst n4
    refine lv_tableIn (off := 67) (tgt := 68) hx hb d_M_related_1 (by decide) (by decide) (by decide) (by decide) ?_
    refine lv_lload_n hx hb d_M_related_68 rfl (lv_at hl 2 rfl) ?_
    refine lv_lload_n hx hb d_M_related_69 rfl (lv_at hl 1 rfl) ?_
    obtain ⟨r5, er5, h⟩ := bd_ob h
    refine me_pani0 (r0 := r5) (fg_runS (wc := []) (tc := []) (A2 := A) (As := [.long x3, .long x1]) (rest := []) ⟨hx, hb, hml, hown, hts⟩ (c_M_below l D r5 x3 x1 er5 _) (by show fg_nm y_M_below 2; decide +kernel) u_2072 u_2073 u_192 u_2074 ⟨Nat.le_of_ble_eq_true rfl, Nat.le_of_ble_eq_true rfl⟩ hX me_P0 (hK.sub (tys' := []) [] rfl) me_D0 rfl hl.1 (Nat.le_of_ble_eq_true rfl) d_M_related_70 ⟨Nat.le_of_ble_eq_true rfl, Nat.le_of_ble_eq_true rfl⟩) hK hS hA rfl rfl (fun H locs hw hS => ?_)
    have zr5 := hw
    exact me_pretz h zr5 hx hb hr hlocks hK hS d_M_related_73
  have h := if_f (fun z => n4 (ew1.trans z)) h
  by_cases n6 : w1 = 2
  · have h := if_t (ew1.symm.trans n6) h
    subst n6
    refine lv_tableIn (off := 73) (tgt := 74) hx hb d_M_related_1 (by decide) (by decide) (by decide) (by decide) ?_
    refine lv_lload_n hx hb d_M_related_74 rfl (lv_at hl 1 rfl) ?_
    refine lv_lload_n hx hb d_M_related_75 rfl (lv_at hl 2 rfl) ?_
    obtain ⟨r7, er7, h⟩ := bd_ob h
    refine me_pani0 (r0 := r7) (fg_runS (wc := []) (tc := []) (A2 := A) (As := [.long x1, .long x3]) (rest := []) ⟨hx, hb, hml, hown, hts⟩ (c_M_below l D r7 x1 x3 er7 _) (by show fg_nm y_M_below 2; decide +kernel) u_2072 u_2073 u_192 u_2074 ⟨Nat.le_of_ble_eq_true rfl, Nat.le_of_ble_eq_true rfl⟩ hX me_P0 (hK.sub (tys' := []) [] rfl) me_D0 rfl hl.1 (Nat.le_of_ble_eq_true rfl) d_M_related_76 ⟨Nat.le_of_ble_eq_true rfl, Nat.le_of_ble_eq_true rfl⟩) hK hS hA rfl rfl (fun H locs hw hS => ?_)
    have zr7 := hw
    refine lv_if_ne (tgt := 86) hx hb d_M_related_79 (by decide) (fun c8 => ?_) (fun c8 => ?_)
    · have h := if_f c8 h
      refine lv_iconst (v := 0) hx hb d_M_related_86 (by decide) ?_
      exact me_pretz h (by decide) hx hb hr hlocks hK hS d_M_related_87
    have h := if_t c8 h
    refine lv_iconst (v := 1) hx hb d_M_related_82 (by decide) ?_
    refine lv_goto (tgt := 87) hx hb d_M_related_83 (by decide) ?_
    exact me_pretz h (by decide) hx hb hr hlocks hK hS d_M_related_87
  have h := if_f (fun z => n6 (ew1.trans z)) h
  by_cases n9 : w1 = 3
  · have h := if_t (ew1.symm.trans n9) h
    subst n9
    refine lv_tableIn (off := 87) (tgt := 88) hx hb d_M_related_1 (by decide) (by decide) (by decide) (by decide) ?_
    refine lv_lload_n hx hb d_M_related_88 rfl (lv_at hl 1 rfl) ?_
    refine lv_lload_n hx hb d_M_related_89 rfl (lv_at hl 2 rfl) ?_
    refine lv_land hx hb d_M_related_90 ?_
    refine lv_lconst (v := 0) hx hb d_M_related_91 (by decide) ?_
    refine W.lcmp hx hb d_M_related_92 ?_
    refine lv_if_eq (tgt := 100) hx hb d_M_related_93 (by decide) (fun c10 => ?_) (fun c10 => ?_)
    · have h := if_t ((lg_cmp_eq _ _).mp c10) h
      refine lv_iconst (v := 0) hx hb d_M_related_100 (by decide) ?_
      exact me_pretz h (by decide) hx hb hr hlocks hK hS d_M_related_101
    have h := if_f (fun z => c10 ((lg_cmp_eq _ _).mpr z)) h
    refine lv_iconst (v := 1) hx hb d_M_related_96 (by decide) ?_
    refine lv_goto (tgt := 101) hx hb d_M_related_97 (by decide) ?_
    exact me_pretz h (by decide) hx hb hr hlocks hK hS d_M_related_101
  have h := if_f (fun z => n9 (ew1.trans z)) h
  by_cases n11 : w1 = 4
  · have h := if_t (ew1.symm.trans n11) h
    subst n11
    refine lv_tableIn (off := 101) (tgt := 102) hx hb d_M_related_1 (by decide) (by decide) (by decide) (by decide) ?_
    refine lv_lload_n hx hb d_M_related_102 rfl (lv_at hl 1 rfl) ?_
    refine lv_lload_n hx hb d_M_related_103 rfl (lv_at hl 2 rfl) ?_
    refine W.lcmp hx hb d_M_related_104 ?_
    refine lv_if_eq (tgt := 112) hx hb d_M_related_105 (by decide) (fun c12 => ?_) (fun c12 => ?_)
    · have h := if_t ((lg_cmp_eq _ _).mp c12) h
      refine lv_iconst (v := 0) hx hb d_M_related_112 (by decide) ?_
      exact me_pretz h (by decide) hx hb hr hlocks hK hS d_M_related_113
    have h := if_f (fun z => c12 ((lg_cmp_eq _ _).mpr z)) h
    refine lv_iconst (v := 1) hx hb d_M_related_108 (by decide) ?_
    refine lv_goto (tgt := 113) hx hb d_M_related_109 (by decide) ?_
    exact me_pretz h (by decide) hx hb hr hlocks hK hS d_M_related_113
  have h := if_f (fun z => n11 (ew1.trans z)) h
  by_cases n13 : w1 = 5
  · have h := if_t (ew1.symm.trans n13) h
    subst n13
    refine lv_tableIn (off := 113) (tgt := 114) hx hb d_M_related_1 (by decide) (by decide) (by decide) (by decide) ?_
    refine lv_lload_n hx hb d_M_related_114 rfl (lv_at hl 1 rfl) ?_
    refine lv_lload_n hx hb d_M_related_115 rfl (lv_at hl 2 rfl) ?_
    refine W.lcmp hx hb d_M_related_116 ?_
    refine lv_if_le (tgt := 124) hx hb d_M_related_117 (by decide) (fun c14 => ?_) (fun c14 => ?_)
    · have h := if_f (Int64.not_lt.mpr ((lg_cmp_le _ _).mp c14)) h
      refine lv_iconst (v := 0) hx hb d_M_related_124 (by decide) ?_
      exact me_pretz h (by decide) hx hb hr hlocks hK hS d_M_related_125
    have h := if_t (Int64.not_le.mp (fun z => c14 ((lg_cmp_le _ _).mpr z))) h
    refine lv_iconst (v := 1) hx hb d_M_related_120 (by decide) ?_
    refine lv_goto (tgt := 125) hx hb d_M_related_121 (by decide) ?_
    exact me_pretz h (by decide) hx hb hr hlocks hK hS d_M_related_125
  have h := if_f (fun z => n13 (ew1.trans z)) h
  by_cases n15 : w1 = 6
  · have h := if_t (ew1.symm.trans n15) h
    subst n15
    refine lv_tableIn (off := 125) (tgt := 126) hx hb d_M_related_1 (by decide) (by decide) (by decide) (by decide) ?_
    refine lv_lload_n hx hb d_M_related_126 rfl (lv_at hl 1 rfl) ?_
    refine lv_lload_n hx hb d_M_related_127 rfl (lv_at hl 2 rfl) ?_
    refine W.lcmp hx hb d_M_related_128 ?_
    refine lv_if_lt (tgt := 136) hx hb d_M_related_129 (by decide) (fun c16 => ?_) (fun c16 => ?_)
    · have h := if_t ((lg_cmp_lt _ _).mp c16) h
      refine lv_iconst (v := 0) hx hb d_M_related_136 (by decide) ?_
      exact me_pretz h (by decide) hx hb hr hlocks hK hS d_M_related_137
    have h := if_f (fun z => c16 ((lg_cmp_lt _ _).mpr z)) h
    refine lv_iconst (v := 1) hx hb d_M_related_132 (by decide) ?_
    refine lv_goto (tgt := 137) hx hb d_M_related_133 (by decide) ?_
    exact me_pretz h (by decide) hx hb hr hlocks hK hS d_M_related_137
  have h := if_f (fun z => n15 (ew1.trans z)) h
  by_cases n17 : w1 = 7
  · have h := if_t (ew1.symm.trans n17) h
    subst n17
    refine lv_tableIn (off := 137) (tgt := 138) hx hb d_M_related_1 (by decide) (by decide) (by decide) (by decide) ?_
    refine lv_lload_n hx hb d_M_related_138 rfl (lv_at hl 1 rfl) ?_
    refine lv_lload_n hx hb d_M_related_139 rfl (lv_at hl 2 rfl) ?_
    obtain ⟨r18, er18, h⟩ := bd_ob h
    refine me_pani0 (r0 := r18) (fg_runS (wc := []) (tc := []) (A2 := A) (As := [.long x1, .long x3]) (rest := []) ⟨hx, hb, hml, hown, hts⟩ (c_M_below l D r18 x1 x3 er18 _) (by show fg_nm y_M_below 2; decide +kernel) u_2072 u_2073 u_192 u_2074 ⟨Nat.le_of_ble_eq_true rfl, Nat.le_of_ble_eq_true rfl⟩ hX me_P0 (hK.sub (tys' := []) [] rfl) me_D0 rfl hl.1 (Nat.le_of_ble_eq_true rfl) d_M_related_140 ⟨Nat.le_of_ble_eq_true rfl, Nat.le_of_ble_eq_true rfl⟩) hK hS hA rfl rfl (fun H locs hw hS => ?_)
    have zr18 := hw
    exact me_pretz h zr18 hx hb hr hlocks hK hS d_M_related_143
  have h := if_f (fun z => n17 (ew1.trans z)) h
  by_cases n19 : w1 = 8
  · have h := if_t (ew1.symm.trans n19) h
    subst n19
    refine lv_tableIn (off := 143) (tgt := 144) hx hb d_M_related_1 (by decide) (by decide) (by decide) (by decide) ?_
    refine lv_lload_n hx hb d_M_related_144 rfl (lv_at hl 2 rfl) ?_
    refine lv_lload_n hx hb d_M_related_145 rfl (lv_at hl 1 rfl) ?_
    obtain ⟨r20, er20, h⟩ := bd_ob h
    refine me_pani0 (r0 := r20) (fg_runS (wc := []) (tc := []) (A2 := A) (As := [.long x3, .long x1]) (rest := []) ⟨hx, hb, hml, hown, hts⟩ (c_M_below l D r20 x3 x1 er20 _) (by show fg_nm y_M_below 2; decide +kernel) u_2072 u_2073 u_192 u_2074 ⟨Nat.le_of_ble_eq_true rfl, Nat.le_of_ble_eq_true rfl⟩ hX me_P0 (hK.sub (tys' := []) [] rfl) me_D0 rfl hl.1 (Nat.le_of_ble_eq_true rfl) d_M_related_146 ⟨Nat.le_of_ble_eq_true rfl, Nat.le_of_ble_eq_true rfl⟩) hK hS hA rfl rfl (fun H locs hw hS => ?_)
    have zr20 := hw
    refine lv_if_ne (tgt := 156) hx hb d_M_related_149 (by decide) (fun c21 => ?_) (fun c21 => ?_)
    · have h := if_f c21 h
      refine lv_iconst (v := 0) hx hb d_M_related_156 (by decide) ?_
      exact me_pretz h (by decide) hx hb hr hlocks hK hS d_M_related_157
    have h := if_t c21 h
    refine lv_iconst (v := 1) hx hb d_M_related_152 (by decide) ?_
    refine lv_goto (tgt := 157) hx hb d_M_related_153 (by decide) ?_
    exact me_pretz h (by decide) hx hb hr hlocks hK hS d_M_related_157
  have h := if_f (fun z => n19 (ew1.trans z)) h
  by_cases n22 : w1 = 9
  · have h := if_t (ew1.symm.trans n22) h
    subst n22
    refine lv_tableIn (off := 157) (tgt := 158) hx hb d_M_related_1 (by decide) (by decide) (by decide) (by decide) ?_
    refine lv_lload_n hx hb d_M_related_158 rfl (lv_at hl 1 rfl) ?_
    refine lv_lload_n hx hb d_M_related_159 rfl (lv_at hl 2 rfl) ?_
    refine W.lcmp hx hb d_M_related_160 ?_
    refine lv_if_ge (tgt := 168) hx hb d_M_related_161 (by decide) (fun c23 => ?_) (fun c23 => ?_)
    · have h := if_f (Int64.not_lt.mpr ((lg_cmp_ge _ _).mp c23)) h
      refine lv_iconst (v := 0) hx hb d_M_related_168 (by decide) ?_
      exact me_pretz h (by decide) hx hb hr hlocks hK hS d_M_related_169
    have h := if_t (Int64.not_le.mp (fun z => c23 ((lg_cmp_ge _ _).mpr z))) h
    refine lv_iconst (v := 1) hx hb d_M_related_164 (by decide) ?_
    refine lv_goto (tgt := 169) hx hb d_M_related_165 (by decide) ?_
    exact me_pretz h (by decide) hx hb hr hlocks hK hS d_M_related_169
  have h := if_f (fun z => n22 (ew1.trans z)) h
  have in2 := lv_neT n2 (show (0 : Int32).toInt = 0 from rfl)
  have in4 := lv_neT n4 (show (1 : Int32).toInt = 1 from rfl)
  have in6 := lv_neT n6 (show (2 : Int32).toInt = 2 from rfl)
  have in9 := lv_neT n9 (show (3 : Int32).toInt = 3 from rfl)
  have in11 := lv_neT n11 (show (4 : Int32).toInt = 4 from rfl)
  have in13 := lv_neT n13 (show (5 : Int32).toInt = 5 from rfl)
  have in15 := lv_neT n15 (show (6 : Int32).toInt = 6 from rfl)
  have in17 := lv_neT n17 (show (7 : Int32).toInt = 7 from rfl)
  have in19 := lv_neT n19 (show (8 : Int32).toInt = 8 from rfl)
  have in22 := lv_neT n22 (show (9 : Int32).toInt = 9 from rfl)
  refine lv_tableOut (tgt := 170) hx hb d_M_related_1 (by omega) (by decide) ?_
  refine lv_lload_n hx hb d_M_related_170 rfl (lv_at hl 1 rfl) ?_
  refine lv_lload_n hx hb d_M_related_171 rfl (lv_at hl 2 rfl) ?_
  refine W.lcmp hx hb d_M_related_172 ?_
  refine lv_if_gt (tgt := 180) hx hb d_M_related_173 (by decide) (fun c24 => ?_) (fun c24 => ?_)
  · have h := if_t ((lg_cmp_gt _ _).mp c24) h
    refine lv_iconst (v := 0) hx hb d_M_related_180 (by decide) ?_
    exact me_pretz h (by decide) hx hb hr hlocks hK hS d_M_related_181
  have h := if_f (fun z => c24 ((lg_cmp_gt _ _).mpr z)) h
  refine lv_iconst (v := 1) hx hb d_M_related_176 (by decide) ?_
  refine lv_goto (tgt := 181) hx hb d_M_related_177 (by decide) ?_
  exact me_pretz h (by decide) hx hb hr hlocks hK hS d_M_related_181
