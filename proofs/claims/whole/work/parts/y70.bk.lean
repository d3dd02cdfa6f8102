theorem d_Machine_holds_78 : decode prog_7_method_10_code 78 = .ok (.lstore 11, 2) := by decide +kernel
theorem d_Machine_holds_80 : decode prog_7_method_10_code 80 = .ok (.aload_n 0, 1) := by decide +kernel
theorem d_Machine_holds_81 : decode prog_7_method_10_code 81 = .ok (.getfield 48, 3) := by decide +kernel
theorem d_Machine_holds_84 : decode prog_7_method_10_code 84 = .ok (.getfield 174, 3) := by decide +kernel
theorem d_Machine_holds_87 : decode prog_7_method_10_code 87 = .ok (.tableswitch 187 0 9 #[53, 67, 75, 91, 107, 121, 135, 149, 157, 173], 53) := by decide +kernel
theorem d_Machine_holds_140 : decode prog_7_method_10_code 140 = .ok (.lload 5, 2) := by decide +kernel
theorem d_Machine_holds_142 : decode prog_7_method_10_code 142 = .ok (.lload 7, 2) := by decide +kernel
theorem d_Machine_holds_144 : decode prog_7_method_10_code 144 = .ok (.lcmp, 1) := by decide +kernel
theorem d_Machine_holds_145 : decode prog_7_method_10_code 145 = .ok (.ifCond .ne 7, 3) := by decide +kernel
theorem d_Machine_holds_152 : decode prog_7_method_10_code 152 = .ok (.iconst 0, 1) := by decide +kernel
theorem d_Machine_holds_153 : decode prog_7_method_10_code 153 = .ok (.ireturn, 1) := by decide +kernel
theorem d_Machine_holds_148 : decode prog_7_method_10_code 148 = .ok (.iconst 1, 1) := by decide +kernel
theorem d_Machine_holds_149 : decode prog_7_method_10_code 149 = .ok (.goto 4, 3) := by decide +kernel
theorem d_Machine_holds_154 : decode prog_7_method_10_code 154 = .ok (.lload 7, 2) := by decide +kernel
theorem d_Machine_holds_156 : decode prog_7_method_10_code 156 = .ok (.lload 5, 2) := by decide +kernel
theorem d_Machine_holds_158 : decode prog_7_method_10_code 158 = .ok (.invokestatic 201, 3) := by decide +kernel
theorem u_1679 : Cond.methodLink "FilterGuard$Machine" 201 ⟨"FilterGuard$Num", "isBelow", "(JJ)Z"⟩ ∈ fg_g := fg_in (List.mem_of_getElem? (i := 1679) (by decide +kernel)) rfl
theorem d_Machine_holds_161 : decode prog_7_method_10_code 161 = .ok (.ireturn, 1) := by decide +kernel
theorem d_Machine_holds_162 : decode prog_7_method_10_code 162 = .ok (.lload 5, 2) := by decide +kernel
theorem d_Machine_holds_164 : decode prog_7_method_10_code 164 = .ok (.lload 7, 2) := by decide +kernel
theorem d_Machine_holds_166 : decode prog_7_method_10_code 166 = .ok (.invokestatic 201, 3) := by decide +kernel
theorem d_Machine_holds_169 : decode prog_7_method_10_code 169 = .ok (.ifCond .ne 7, 3) := by decide +kernel
theorem d_Machine_holds_176 : decode prog_7_method_10_code 176 = .ok (.iconst 0, 1) := by decide +kernel
theorem d_Machine_holds_177 : decode prog_7_method_10_code 177 = .ok (.ireturn, 1) := by decide +kernel
theorem d_Machine_holds_172 : decode prog_7_method_10_code 172 = .ok (.iconst 1, 1) := by decide +kernel
theorem d_Machine_holds_173 : decode prog_7_method_10_code 173 = .ok (.goto 4, 3) := by decide +kernel
theorem d_Machine_holds_178 : decode prog_7_method_10_code 178 = .ok (.lload 5, 2) := by decide +kernel
theorem d_Machine_holds_180 : decode prog_7_method_10_code 180 = .ok (.lload 7, 2) := by decide +kernel
theorem d_Machine_holds_182 : decode prog_7_method_10_code 182 = .ok (.land, 1) := by decide +kernel
theorem d_Machine_holds_183 : decode prog_7_method_10_code 183 = .ok (.lconst 0, 1) := by decide +kernel
theorem d_Machine_holds_184 : decode prog_7_method_10_code 184 = .ok (.lcmp, 1) := by decide +kernel
theorem d_Machine_holds_185 : decode prog_7_method_10_code 185 = .ok (.ifCond .eq 7, 3) := by decide +kernel
theorem d_Machine_holds_192 : decode prog_7_method_10_code 192 = .ok (.iconst 0, 1) := by decide +kernel
theorem d_Machine_holds_193 : decode prog_7_method_10_code 193 = .ok (.ireturn, 1) := by decide +kernel
theorem d_Machine_holds_188 : decode prog_7_method_10_code 188 = .ok (.iconst 1, 1) := by decide +kernel
theorem d_Machine_holds_189 : decode prog_7_method_10_code 189 = .ok (.goto 4, 3) := by decide +kernel
theorem d_Machine_holds_194 : decode prog_7_method_10_code 194 = .ok (.lload 5, 2) := by decide +kernel
theorem d_Machine_holds_196 : decode prog_7_method_10_code 196 = .ok (.lload 7, 2) := by decide +kernel
theorem d_Machine_holds_198 : decode prog_7_method_10_code 198 = .ok (.lcmp, 1) := by decide +kernel
theorem d_Machine_holds_199 : decode prog_7_method_10_code 199 = .ok (.ifCond .eq 7, 3) := by decide +kernel
theorem d_Machine_holds_206 : decode prog_7_method_10_code 206 = .ok (.iconst 0, 1) := by decide +kernel
theorem d_Machine_holds_207 : decode prog_7_method_10_code 207 = .ok (.ireturn, 1) := by decide +kernel
theorem d_Machine_holds_202 : decode prog_7_method_10_code 202 = .ok (.iconst 1, 1) := by decide +kernel
theorem d_Machine_holds_203 : decode prog_7_method_10_code 203 = .ok (.goto 4, 3) := by decide +kernel
theorem d_Machine_holds_208 : decode prog_7_method_10_code 208 = .ok (.lload 9, 2) := by decide +kernel
theorem d_Machine_holds_210 : decode prog_7_method_10_code 210 = .ok (.lload 11, 2) := by decide +kernel
theorem d_Machine_holds_212 : decode prog_7_method_10_code 212 = .ok (.lcmp, 1) := by decide +kernel
theorem d_Machine_holds_213 : decode prog_7_method_10_code 213 = .ok (.ifCond .le 7, 3) := by decide +kernel
theorem d_Machine_holds_220 : decode prog_7_method_10_code 220 = .ok (.iconst 0, 1) := by decide +kernel
theorem d_Machine_holds_221 : decode prog_7_method_10_code 221 = .ok (.ireturn, 1) := by decide +kernel
theorem d_Machine_holds_216 : decode prog_7_method_10_code 216 = .ok (.iconst 1, 1) := by decide +kernel
theorem d_Machine_holds_217 : decode prog_7_method_10_code 217 = .ok (.goto 4, 3) := by decide +kernel
theorem d_Machine_holds_222 : decode prog_7_method_10_code 222 = .ok (.lload 9, 2) := by decide +kernel
theorem d_Machine_holds_224 : decode prog_7_method_10_code 224 = .ok (.lload 11, 2) := by decide +kernel
theorem d_Machine_holds_226 : decode prog_7_method_10_code 226 = .ok (.lcmp, 1) := by decide +kernel
theorem d_Machine_holds_227 : decode prog_7_method_10_code 227 = .ok (.ifCond .lt 7, 3) := by decide +kernel
theorem d_Machine_holds_234 : decode prog_7_method_10_code 234 = .ok (.iconst 0, 1) := by decide +kernel
theorem d_Machine_holds_235 : decode prog_7_method_10_code 235 = .ok (.ireturn, 1) := by decide +kernel
theorem d_Machine_holds_230 : decode prog_7_method_10_code 230 = .ok (.iconst 1, 1) := by decide +kernel
theorem d_Machine_holds_231 : decode prog_7_method_10_code 231 = .ok (.goto 4, 3) := by decide +kernel
theorem d_Machine_holds_236 : decode prog_7_method_10_code 236 = .ok (.lload 5, 2) := by decide +kernel
theorem d_Machine_holds_238 : decode prog_7_method_10_code 238 = .ok (.lload 7, 2) := by decide +kernel
theorem d_Machine_holds_240 : decode prog_7_method_10_code 240 = .ok (.invokestatic 201, 3) := by decide +kernel
theorem d_Machine_holds_243 : decode prog_7_method_10_code 243 = .ok (.ireturn, 1) := by decide +kernel
theorem d_Machine_holds_244 : decode prog_7_method_10_code 244 = .ok (.lload 7, 2) := by decide +kernel
theorem d_Machine_holds_246 : decode prog_7_method_10_code 246 = .ok (.lload 5, 2) := by decide +kernel
theorem d_Machine_holds_248 : decode prog_7_method_10_code 248 = .ok (.invokestatic 201, 3) := by decide +kernel
theorem d_Machine_holds_251 : decode prog_7_method_10_code 251 = .ok (.ifCond .ne 7, 3) := by decide +kernel
theorem d_Machine_holds_258 : decode prog_7_method_10_code 258 = .ok (.iconst 0, 1) := by decide +kernel
theorem d_Machine_holds_259 : decode prog_7_method_10_code 259 = .ok (.ireturn, 1) := by decide +kernel
theorem d_Machine_holds_254 : decode prog_7_method_10_code 254 = .ok (.iconst 1, 1) := by decide +kernel
theorem d_Machine_holds_255 : decode prog_7_method_10_code 255 = .ok (.goto 4, 3) := by decide +kernel
theorem d_Machine_holds_260 : decode prog_7_method_10_code 260 = .ok (.lload 9, 2) := by decide +kernel
theorem d_Machine_holds_262 : decode prog_7_method_10_code 262 = .ok (.lload 11, 2) := by decide +kernel
theorem d_Machine_holds_264 : decode prog_7_method_10_code 264 = .ok (.lcmp, 1) := by decide +kernel
theorem d_Machine_holds_265 : decode prog_7_method_10_code 265 = .ok (.ifCond .ge 7, 3) := by decide +kernel
theorem d_Machine_holds_272 : decode prog_7_method_10_code 272 = .ok (.iconst 0, 1) := by decide +kernel
theorem d_Machine_holds_273 : decode prog_7_method_10_code 273 = .ok (.ireturn, 1) := by decide +kernel
theorem d_Machine_holds_268 : decode prog_7_method_10_code 268 = .ok (.iconst 1, 1) := by decide +kernel
theorem d_Machine_holds_269 : decode prog_7_method_10_code 269 = .ok (.goto 4, 3) := by decide +kernel
theorem d_Machine_holds_274 : decode prog_7_method_10_code 274 = .ok (.lload 9, 2) := by decide +kernel
theorem d_Machine_holds_276 : decode prog_7_method_10_code 276 = .ok (.lload 11, 2) := by decide +kernel
theorem d_Machine_holds_278 : decode prog_7_method_10_code 278 = .ok (.lcmp, 1) := by decide +kernel
theorem d_Machine_holds_279 : decode prog_7_method_10_code 279 = .ok (.ifCond .gt 7, 3) := by decide +kernel
theorem d_Machine_holds_286 : decode prog_7_method_10_code 286 = .ok (.iconst 0, 1) := by decide +kernel
theorem d_Machine_holds_287 : decode prog_7_method_10_code 287 = .ok (.ireturn, 1) := by decide +kernel
theorem d_Machine_holds_282 : decode prog_7_method_10_code 282 = .ok (.iconst 1, 1) := by decide +kernel
theorem d_Machine_holds_283 : decode prog_7_method_10_code 283 = .ok (.goto 4, 3) := by decide +kernel
theorem d_Machine_holds_59 : decode prog_7_method_10_code 59 = .ok (.lstore 9, 2) := by decide +kernel
theorem d_Machine_holds_61 : decode prog_7_method_10_code 61 = .ok (.aload_n 0, 1) := by decide +kernel
theorem d_Machine_holds_62 : decode prog_7_method_10_code 62 = .ok (.getfield 48, 3) := by decide +kernel
theorem d_Machine_holds_65 : decode prog_7_method_10_code 65 = .ok (.getfield 177, 3) := by decide +kernel
theorem d_Machine_holds_68 : decode prog_7_method_10_code 68 = .ok (.ifCond .eq 9, 3) := by decide +kernel
theorem d_Machine_holds_77 : decode prog_7_method_10_code 77 = .ok (.lload_n 3, 1) := by decide +kernel
theorem d_Machine_holds_71 : decode prog_7_method_10_code 71 = .ok (.lload_n 3, 1) := by decide +kernel
theorem d_Machine_holds_72 : decode prog_7_method_10_code 72 = .ok (.l2i, 1) := by decide +kernel
theorem d_Machine_holds_73 : decode prog_7_method_10_code 73 = .ok (.i2l, 1) := by decide +kernel
theorem d_Machine_holds_74 : decode prog_7_method_10_code 74 = .ok (.goto 4, 3) := by decide +kernel
theorem d_Machine_holds_40 : decode prog_7_method_10_code 40 = .ok (.lstore 7, 2) := by decide +kernel
theorem d_Machine_holds_42 : decode prog_7_method_10_code 42 = .ok (.aload_n 0, 1) := by decide +kernel
theorem d_Machine_holds_43 : decode prog_7_method_10_code 43 = .ok (.getfield 48, 3) := by decide +kernel
theorem d_Machine_holds_46 : decode prog_7_method_10_code 46 = .ok (.getfield 177, 3) := by decide +kernel
theorem d_Machine_holds_49 : decode prog_7_method_10_code 49 = .ok (.ifCond .eq 9, 3) := by decide +kernel
theorem d_Machine_holds_58 : decode prog_7_method_10_code 58 = .ok (.lload_n 1, 1) := by decide +kernel
theorem d_Machine_holds_52 : decode prog_7_method_10_code 52 = .ok (.lload_n 1, 1) := by decide +kernel
theorem d_Machine_holds_53 : decode prog_7_method_10_code 53 = .ok (.l2i, 1) := by decide +kernel
theorem d_Machine_holds_54 : decode prog_7_method_10_code 54 = .ok (.i2l, 1) := by decide +kernel
theorem d_Machine_holds_55 : decode prog_7_method_10_code 55 = .ok (.goto 4, 3) := by decide +kernel
theorem d_Machine_holds_19 : decode prog_7_method_10_code 19 = .ok (.lstore 5, 2) := by decide +kernel
theorem d_Machine_holds_21 : decode prog_7_method_10_code 21 = .ok (.aload_n 0, 1) := by decide +kernel
theorem d_Machine_holds_22 : decode prog_7_method_10_code 22 = .ok (.getfield 48, 3) := by decide +kernel
theorem d_Machine_holds_25 : decode prog_7_method_10_code 25 = .ok (.getfield 177, 3) := by decide +kernel
theorem d_Machine_holds_28 : decode prog_7_method_10_code 28 = .ok (.ifCond .eq 11, 3) := by decide +kernel
theorem d_Machine_holds_39 : decode prog_7_method_10_code 39 = .ok (.lload_n 3, 1) := by decide +kernel
theorem d_Machine_holds_31 : decode prog_7_method_10_code 31 = .ok (.lload_n 3, 1) := by decide +kernel
theorem d_Machine_holds_32 : decode prog_7_method_10_code 32 = .ok (.ldc2_w 184, 3) := by decide +kernel
theorem d_Machine_holds_35 : decode prog_7_method_10_code 35 = .ok (.land, 1) := by decide +kernel
theorem d_Machine_holds_36 : decode prog_7_method_10_code 36 = .ok (.goto 4, 3) := by decide +kernel
theorem d_Machine_holds_0 : decode prog_7_method_10_code 0 = .ok (.aload_n 0, 1) := by decide +kernel
theorem d_Machine_holds_1 : decode prog_7_method_10_code 1 = .ok (.getfield 48, 3) := by decide +kernel
theorem d_Machine_holds_4 : decode prog_7_method_10_code 4 = .ok (.getfield 177, 3) := by decide +kernel
theorem d_Machine_holds_7 : decode prog_7_method_10_code 7 = .ok (.ifCond .eq 11, 3) := by decide +kernel
theorem d_Machine_holds_18 : decode prog_7_method_10_code 18 = .ok (.lload_n 1, 1) := by decide +kernel
theorem d_Machine_holds_10 : decode prog_7_method_10_code 10 = .ok (.lload_n 1, 1) := by decide +kernel
theorem d_Machine_holds_11 : decode prog_7_method_10_code 11 = .ok (.ldc2_w 184, 3) := by decide +kernel
theorem d_Machine_holds_14 : decode prog_7_method_10_code 14 = .ok (.land, 1) := by decide +kernel
theorem d_Machine_holds_15 : decode prog_7_method_10_code 15 = .ok (.goto 4, 3) := by decide +kernel
abbrev y_Machine_holds : MethodName := ⟨"FilterGuard$Machine", "holds", "(JJ)Z"⟩
def rm_Machine_holds : Room := { frames := 2, cells := 0, slots := 0, locals := 43 }
abbrev q_Machine_holds (D : va_G) (ad : Nat → Nat → Nat) (ca : Nat → ClassId) (N : Nat → Nat) (M0 MZ : me_M) (RZ : Int32) (A : Nat → Prop) : Array Value → Jvm.State → Outcome → Jvm.State → Prop := va_Qi (fun r (_ : Unit) => r = RZ ∧ me_wf N MZ ∧ me_kp M0 MZ ∧ (RZ = 1 ∨ RZ = 0)) (fg_B D A (fun _ => me_W ad ca MZ) (fun _ => [])) A
set_option maxHeartbeats 4000000 in
set_option maxRecDepth 100000 in
theorem c_Machine_holds (l : Launch) (D : va_G) (ad : Nat → Nat → Nat) (ca : Nat → ClassId) (N : Nat → Nat) (M0 MZ : me_M) (RZ : Int32) (j0 : Nat) (x1 : Int64) (x3 : Int64) (h : f_Machine_holds M0 j0 x1 x3 = (some (MZ, RZ))) (hwf : me_wf N M0) (hj0 : j0 < N 5) (sz : Nat) : Met l y_Machine_holds (fg_w y_Machine_holds prog_7_method_10_code 13 (some .boolean)) rm_Machine_holds (va_Pc [.ref (ad 5 j0), .long x1, .long x3] (fz_P D (me_T ca) (me_W ad ca M0) sz)) (q_Machine_holds D ad ca N M0 MZ RZ (va_A (me_W ad ca M0) sz)) rm_Machine_holds.cells rm_Machine_holds.slots (va_A (me_W ad ca M0) sz) := by
  refine fz_enter (fun A => q_Machine_holds D ad ca N M0 MZ RZ A) (by decide +kernel) (Nat.le_of_ble_eq_true rfl) ?_
  intro p e s m below meth c ls A hx hb hml hown hts hr hlocks hin hP hK hD hS hA hX hl hz
  have hl : lv_has ls 13 [(0, .ref (ad 5 j0)), (1, .long x1), (3, .long x3)] := hl
  unfold f_Machine_holds at h
  have hkp : me_kp M0 M0 := me_kp.rf
  have hkb := hkp
  have b_78 : ∀ (M : me_M) (y5 : Int64) (y7 : Int64) (y9 : Int64) (s0 : Int64) (H : Heap) (locs : List Loc) (ls : Array Slot), f_Machine_holds_b78 j0 M y5 y7 y9 s0 = (some (MZ, RZ)) → me_wf N M → me_kp M0 M → va_P D classes (me_W ad ca M) H → va_D A (me_W ad ca M) → va_S A s.heap H locs → lv_has ls 13 [(0, .ref (ad 5 j0)), (5, .long y5), (7, .long y7), (9, .long y9)] → W p l e rm_Machine_holds s m [.ref (ad 5 j0), .long x1, .long x3].toArray below meth c H locs 0 0 (MQ below (q_Machine_holds D ad ca N M0 MZ RZ A) [.ref (ad 5 j0), .long x1, .long x3].toArray s rm_Machine_holds.cells rm_Machine_holds.slots A) (F0 m 78 ls [.long s0]) := by
    intro M y5 y7 y9 s0 H locs ls h hwf hkp hP hD hS hl
    unfold f_Machine_holds_b78 at h
    have hkb := hkp
    refine lv_lstore (lv' := [(11, .long s0), (0, .ref (ad 5 j0)), (5, .long y5), (7, .long y7), (9, .long y9)]) hx hb d_Machine_holds_78 hl (by decide) rfl (fun ls hl => ?_)
    refine lv_aload_n hx hb d_Machine_holds_80 rfl (lv_at hl 1 rfl) ?_
    refine g_Machine_16 hx hb hts hown hK hP hwf hj0 (hts _ u_648) d_Machine_holds_81 ?_
    obtain ⟨j1, e2, h⟩ := bd_ob h
    have hj1 : j1 < N 2 := (hwf.2.1 5 j0 16 _ e2 (by decide) hj0)
    refine me_opt (j := j1) e2 ?_
    refine g_Code_12 hx hb hts hown hK hP hwf hj1 (hts _ u_264) d_Machine_holds_84 ?_
    refine lv_topi (fun w3 ew3 => ?_)
    by_cases n4 : w3 = 0
    · have h := if_t (ew3.symm.trans n4) h
      subst n4
      refine lv_tableIn (off := 53) (tgt := 140) hx hb d_Machine_holds_87 (by decide) (by decide) (by decide) (by decide) ?_
      refine lv_lload hx hb d_Machine_holds_140 (lv_at hl 2 rfl) ?_
      refine lv_lload hx hb d_Machine_holds_142 (lv_at hl 3 rfl) ?_
      refine W.lcmp hx hb d_Machine_holds_144 ?_
      refine lv_if_ne (tgt := 152) hx hb d_Machine_holds_145 (by decide) (fun c5 => ?_) (fun c5 => ?_)
      · have h := if_f (fun z => c5 ((lg_cmp_eq _ _).mpr z)) h
        refine lv_iconst (v := 0) hx hb d_Machine_holds_152 (by decide) ?_
        exact me_retz (me_kp M0) h (by decide) hx hb hr hlocks hwf hkp hP hK hD hS d_Machine_holds_153
      have h := if_t ((lg_cmp_eq _ _).mp c5) h
      refine lv_iconst (v := 1) hx hb d_Machine_holds_148 (by decide) ?_
      refine lv_goto (tgt := 153) hx hb d_Machine_holds_149 (by decide) ?_
      exact me_retz (me_kp M0) h (by decide) hx hb hr hlocks hwf hkp hP hK hD hS d_Machine_holds_153
    have h := if_f (fun z => n4 (ew3.trans z)) h
    by_cases n6 : w3 = 1
    · have h := if_t (ew3.symm.trans n6) h
      subst n6
      refine lv_tableIn (off := 67) (tgt := 154) hx hb d_Machine_holds_87 (by decide) (by decide) (by decide) (by decide) ?_
      refine lv_lload hx hb d_Machine_holds_154 (lv_at hl 3 rfl) ?_
      refine lv_lload hx hb d_Machine_holds_156 (lv_at hl 2 rfl) ?_
      obtain ⟨r7, er7, h⟩ := bd_ob h
      refine me_pani' (r0 := r7) (fg_runS (wc := []) (tc := []) (A2 := A) (As := [.long y7, .long y5]) (rest := []) ⟨hx, hb, hml, hown, hts⟩ (c_Num_isBelow l D r7 y7 y5 er7 _) (by show fg_nm y_Num_isBelow 2; decide +kernel) u_1679 u_1063 u_187 u_1064 ⟨Nat.le_of_ble_eq_true rfl, Nat.le_of_ble_eq_true rfl⟩ hX me_P0 (hK.sub (tys' := []) [] rfl) me_D0 rfl hl.1 (Nat.le_of_ble_eq_true rfl) d_Machine_holds_158 ⟨Nat.le_of_ble_eq_true rfl, Nat.le_of_ble_eq_true rfl⟩) hP hD hK hS hA rfl rfl (fun H locs hw hP hD hS => ?_)
      have zr7 := hw
      exact me_retz (me_kp M0) h zr7 hx hb hr hlocks hwf hkp hP hK hD hS d_Machine_holds_161
    have h := if_f (fun z => n6 (ew3.trans z)) h
    by_cases n8 : w3 = 2
    · have h := if_t (ew3.symm.trans n8) h
      subst n8
      refine lv_tableIn (off := 75) (tgt := 162) hx hb d_Machine_holds_87 (by decide) (by decide) (by decide) (by decide) ?_
      refine lv_lload hx hb d_Machine_holds_162 (lv_at hl 2 rfl) ?_
      refine lv_lload hx hb d_Machine_holds_164 (lv_at hl 3 rfl) ?_
      obtain ⟨r9, er9, h⟩ := bd_ob h
      refine me_pani' (r0 := r9) (fg_runS (wc := []) (tc := []) (A2 := A) (As := [.long y5, .long y7]) (rest := []) ⟨hx, hb, hml, hown, hts⟩ (c_Num_isBelow l D r9 y5 y7 er9 _) (by show fg_nm y_Num_isBelow 2; decide +kernel) u_1679 u_1063 u_187 u_1064 ⟨Nat.le_of_ble_eq_true rfl, Nat.le_of_ble_eq_true rfl⟩ hX me_P0 (hK.sub (tys' := []) [] rfl) me_D0 rfl hl.1 (Nat.le_of_ble_eq_true rfl) d_Machine_holds_166 ⟨Nat.le_of_ble_eq_true rfl, Nat.le_of_ble_eq_true rfl⟩) hP hD hK hS hA rfl rfl (fun H locs hw hP hD hS => ?_)
      have zr9 := hw
      refine lv_if_ne (tgt := 176) hx hb d_Machine_holds_169 (by decide) (fun c10 => ?_) (fun c10 => ?_)
      · have h := if_f c10 h
        refine lv_iconst (v := 0) hx hb d_Machine_holds_176 (by decide) ?_
        exact me_retz (me_kp M0) h (by decide) hx hb hr hlocks hwf hkp hP hK hD hS d_Machine_holds_177
      have h := if_t c10 h
      refine lv_iconst (v := 1) hx hb d_Machine_holds_172 (by decide) ?_
      refine lv_goto (tgt := 177) hx hb d_Machine_holds_173 (by decide) ?_
      exact me_retz (me_kp M0) h (by decide) hx hb hr hlocks hwf hkp hP hK hD hS d_Machine_holds_177
    have h := if_f (fun z => n8 (ew3.trans z)) h
    by_cases n11 : w3 = 3
    · have h := if_t (ew3.symm.trans n11) h
      subst n11
      refine lv_tableIn (off := 91) (tgt := 178) hx hb d_Machine_holds_87 (by decide) (by decide) (by decide) (by decide) ?_
      refine lv_lload hx hb d_Machine_holds_178 (lv_at hl 2 rfl) ?_
      refine lv_lload hx hb d_Machine_holds_180 (lv_at hl 3 rfl) ?_
      refine lv_land hx hb d_Machine_holds_182 ?_
      refine lv_lconst (v := 0) hx hb d_Machine_holds_183 (by decide) ?_
      refine W.lcmp hx hb d_Machine_holds_184 ?_
      refine lv_if_eq (tgt := 192) hx hb d_Machine_holds_185 (by decide) (fun c12 => ?_) (fun c12 => ?_)
      · have h := if_t ((lg_cmp_eq _ _).mp c12) h
        refine lv_iconst (v := 0) hx hb d_Machine_holds_192 (by decide) ?_
        exact me_retz (me_kp M0) h (by decide) hx hb hr hlocks hwf hkp hP hK hD hS d_Machine_holds_193
      have h := if_f (fun z => c12 ((lg_cmp_eq _ _).mpr z)) h
      refine lv_iconst (v := 1) hx hb d_Machine_holds_188 (by decide) ?_
      refine lv_goto (tgt := 193) hx hb d_Machine_holds_189 (by decide) ?_
      exact me_retz (me_kp M0) h (by decide) hx hb hr hlocks hwf hkp hP hK hD hS d_Machine_holds_193
    have h := if_f (fun z => n11 (ew3.trans z)) h
    by_cases n13 : w3 = 4
    · have h := if_t (ew3.symm.trans n13) h
      subst n13
      refine lv_tableIn (off := 107) (tgt := 194) hx hb d_Machine_holds_87 (by decide) (by decide) (by decide) (by decide) ?_
      refine lv_lload hx hb d_Machine_holds_194 (lv_at hl 2 rfl) ?_
      refine lv_lload hx hb d_Machine_holds_196 (lv_at hl 3 rfl) ?_
      refine W.lcmp hx hb d_Machine_holds_198 ?_
      refine lv_if_eq (tgt := 206) hx hb d_Machine_holds_199 (by decide) (fun c14 => ?_) (fun c14 => ?_)
      · have h := if_t ((lg_cmp_eq _ _).mp c14) h
        refine lv_iconst (v := 0) hx hb d_Machine_holds_206 (by decide) ?_
        exact me_retz (me_kp M0) h (by decide) hx hb hr hlocks hwf hkp hP hK hD hS d_Machine_holds_207
      have h := if_f (fun z => c14 ((lg_cmp_eq _ _).mpr z)) h
      refine lv_iconst (v := 1) hx hb d_Machine_holds_202 (by decide) ?_
      refine lv_goto (tgt := 207) hx hb d_Machine_holds_203 (by decide) ?_
      exact me_retz (me_kp M0) h (by decide) hx hb hr hlocks hwf hkp hP hK hD hS d_Machine_holds_207
    have h := if_f (fun z => n13 (ew3.trans z)) h
    by_cases n15 : w3 = 5
    · have h := if_t (ew3.symm.trans n15) h
      subst n15
      refine lv_tableIn (off := 121) (tgt := 208) hx hb d_Machine_holds_87 (by decide) (by decide) (by decide) (by decide) ?_
      refine lv_lload hx hb d_Machine_holds_208 (lv_at hl 4 rfl) ?_
      refine lv_lload hx hb d_Machine_holds_210 (lv_at hl 0 rfl) ?_
      refine W.lcmp hx hb d_Machine_holds_212 ?_
      refine lv_if_le (tgt := 220) hx hb d_Machine_holds_213 (by decide) (fun c16 => ?_) (fun c16 => ?_)
      · have h := if_f (Int64.not_lt.mpr ((lg_cmp_le _ _).mp c16)) h
        refine lv_iconst (v := 0) hx hb d_Machine_holds_220 (by decide) ?_
        exact me_retz (me_kp M0) h (by decide) hx hb hr hlocks hwf hkp hP hK hD hS d_Machine_holds_221
      have h := if_t (Int64.not_le.mp (fun z => c16 ((lg_cmp_le _ _).mpr z))) h
      refine lv_iconst (v := 1) hx hb d_Machine_holds_216 (by decide) ?_
      refine lv_goto (tgt := 221) hx hb d_Machine_holds_217 (by decide) ?_
      exact me_retz (me_kp M0) h (by decide) hx hb hr hlocks hwf hkp hP hK hD hS d_Machine_holds_221
    have h := if_f (fun z => n15 (ew3.trans z)) h
    by_cases n17 : w3 = 6
    · have h := if_t (ew3.symm.trans n17) h
      subst n17
      refine lv_tableIn (off := 135) (tgt := 222) hx hb d_Machine_holds_87 (by decide) (by decide) (by decide) (by decide) ?_
      refine lv_lload hx hb d_Machine_holds_222 (lv_at hl 4 rfl) ?_
      refine lv_lload hx hb d_Machine_holds_224 (lv_at hl 0 rfl) ?_
      refine W.lcmp hx hb d_Machine_holds_226 ?_
      refine lv_if_lt (tgt := 234) hx hb d_Machine_holds_227 (by decide) (fun c18 => ?_) (fun c18 => ?_)
      · have h := if_t ((lg_cmp_lt _ _).mp c18) h
        refine lv_iconst (v := 0) hx hb d_Machine_holds_234 (by decide) ?_
        exact me_retz (me_kp M0) h (by decide) hx hb hr hlocks hwf hkp hP hK hD hS d_Machine_holds_235
      have h := if_f (fun z => c18 ((lg_cmp_lt _ _).mpr z)) h
      refine lv_iconst (v := 1) hx hb d_Machine_holds_230 (by decide) ?_
      refine lv_goto (tgt := 235) hx hb d_Machine_holds_231 (by decide) ?_
      exact me_retz (me_kp M0) h (by decide) hx hb hr hlocks hwf hkp hP hK hD hS d_Machine_holds_235
    have h := if_f (fun z => n17 (ew3.trans z)) h
    by_cases n19 : w3 = 7
    · have h := if_t (ew3.symm.trans n19) h
      subst n19
      refine lv_tableIn (off := 149) (tgt := 236) hx hb d_Machine_holds_87 (by decide) (by decide) (by decide) (by decide) ?_
      refine lv_lload hx hb d_Machine_holds_236 (lv_at hl 2 rfl) ?_
      refine lv_lload hx hb d_Machine_holds_238 (lv_at hl 3 rfl) ?_
      obtain ⟨r20, er20, h⟩ := bd_ob h
      refine me_pani' (r0 := r20) (fg_runS (wc := []) (tc := []) (A2 := A) (As := [.long y5, .long y7]) (rest := []) ⟨hx, hb, hml, hown, hts⟩ (c_Num_isBelow l D r20 y5 y7 er20 _) (by show fg_nm y_Num_isBelow 2; decide +kernel) u_1679 u_1063 u_187 u_1064 ⟨Nat.le_of_ble_eq_true rfl, Nat.le_of_ble_eq_true rfl⟩ hX me_P0 (hK.sub (tys' := []) [] rfl) me_D0 rfl hl.1 (Nat.le_of_ble_eq_true rfl) d_Machine_holds_240 ⟨Nat.le_of_ble_eq_true rfl, Nat.le_of_ble_eq_true rfl⟩) hP hD hK hS hA rfl rfl (fun H locs hw hP hD hS => ?_)
      have zr20 := hw
      exact me_retz (me_kp M0) h zr20 hx hb hr hlocks hwf hkp hP hK hD hS d_Machine_holds_243
    have h := if_f (fun z => n19 (ew3.trans z)) h
    by_cases n21 : w3 = 8
    · have h := if_t (ew3.symm.trans n21) h
      subst n21
      refine lv_tableIn (off := 157) (tgt := 244) hx hb d_Machine_holds_87 (by decide) (by decide) (by decide) (by decide) ?_
      refine lv_lload hx hb d_Machine_holds_244 (lv_at hl 3 rfl) ?_
      refine lv_lload hx hb d_Machine_holds_246 (lv_at hl 2 rfl) ?_
      obtain ⟨r22, er22, h⟩ := bd_ob h
      refine me_pani' (r0 := r22) (fg_runS (wc := []) (tc := []) (A2 := A) (As := [.long y7, .long y5]) (rest := []) ⟨hx, hb, hml, hown, hts⟩ (c_Num_isBelow l D r22 y7 y5 er22 _) (by show fg_nm y_Num_isBelow 2; decide +kernel) u_1679 u_1063 u_187 u_1064 ⟨Nat.le_of_ble_eq_true rfl, Nat.le_of_ble_eq_true rfl⟩ hX me_P0 (hK.sub (tys' := []) [] rfl) me_D0 rfl hl.1 (Nat.le_of_ble_eq_true rfl) d_Machine_holds_248 ⟨Nat.le_of_ble_eq_true rfl, Nat.le_of_ble_eq_true rfl⟩) hP hD hK hS hA rfl rfl (fun H locs hw hP hD hS => ?_)
      have zr22 := hw
      refine lv_if_ne (tgt := 258) hx hb d_Machine_holds_251 (by decide) (fun c23 => ?_) (fun c23 => ?_)
      · have h := if_f c23 h
        refine lv_iconst (v := 0) hx hb d_Machine_holds_258 (by decide) ?_
        exact me_retz (me_kp M0) h (by decide) hx hb hr hlocks hwf hkp hP hK hD hS d_Machine_holds_259
      have h := if_t c23 h
      refine lv_iconst (v := 1) hx hb d_Machine_holds_254 (by decide) ?_
      refine lv_goto (tgt := 259) hx hb d_Machine_holds_255 (by decide) ?_
      exact me_retz (me_kp M0) h (by decide) hx hb hr hlocks hwf hkp hP hK hD hS d_Machine_holds_259
    have h := if_f (fun z => n21 (ew3.trans z)) h
    by_cases n24 : w3 = 9
    · have h := if_t (ew3.symm.trans n24) h
      subst n24
      refine lv_tableIn (off := 173) (tgt := 260) hx hb d_Machine_holds_87 (by decide) (by decide) (by decide) (by decide) ?_
      refine lv_lload hx hb d_Machine_holds_260 (lv_at hl 4 rfl) ?_
      refine lv_lload hx hb d_Machine_holds_262 (lv_at hl 0 rfl) ?_
      refine W.lcmp hx hb d_Machine_holds_264 ?_
      refine lv_if_ge (tgt := 272) hx hb d_Machine_holds_265 (by decide) (fun c25 => ?_) (fun c25 => ?_)
      · have h := if_f (Int64.not_lt.mpr ((lg_cmp_ge _ _).mp c25)) h
        refine lv_iconst (v := 0) hx hb d_Machine_holds_272 (by decide) ?_
        exact me_retz (me_kp M0) h (by decide) hx hb hr hlocks hwf hkp hP hK hD hS d_Machine_holds_273
      have h := if_t (Int64.not_le.mp (fun z => c25 ((lg_cmp_ge _ _).mpr z))) h
      refine lv_iconst (v := 1) hx hb d_Machine_holds_268 (by decide) ?_
      refine lv_goto (tgt := 273) hx hb d_Machine_holds_269 (by decide) ?_
      exact me_retz (me_kp M0) h (by decide) hx hb hr hlocks hwf hkp hP hK hD hS d_Machine_holds_273
    have h := if_f (fun z => n24 (ew3.trans z)) h
    have in4 := lv_neT n4 (show (0 : Int32).toInt = 0 from rfl)
    have in6 := lv_neT n6 (show (1 : Int32).toInt = 1 from rfl)
    have in8 := lv_neT n8 (show (2 : Int32).toInt = 2 from rfl)
    have in11 := lv_neT n11 (show (3 : Int32).toInt = 3 from rfl)
    have in13 := lv_neT n13 (show (4 : Int32).toInt = 4 from rfl)
    have in15 := lv_neT n15 (show (5 : Int32).toInt = 5 from rfl)
    have in17 := lv_neT n17 (show (6 : Int32).toInt = 6 from rfl)
    have in19 := lv_neT n19 (show (7 : Int32).toInt = 7 from rfl)
    have in21 := lv_neT n21 (show (8 : Int32).toInt = 8 from rfl)
    have in24 := lv_neT n24 (show (9 : Int32).toInt = 9 from rfl)
    refine lv_tableOut (tgt := 274) hx hb d_Machine_holds_87 (by omega) (by decide) ?_
    refine lv_lload hx hb d_Machine_holds_274 (lv_at hl 4 rfl) ?_
    refine lv_lload hx hb d_Machine_holds_276 (lv_at hl 0 rfl) ?_
    refine W.lcmp hx hb d_Machine_holds_278 ?_
    refine lv_if_gt (tgt := 286) hx hb d_Machine_holds_279 (by decide) (fun c26 => ?_) (fun c26 => ?_)
    · have h := if_t ((lg_cmp_gt _ _).mp c26) h
      refine lv_iconst (v := 0) hx hb d_Machine_holds_286 (by decide) ?_
      exact me_retz (me_kp M0) h (by decide) hx hb hr hlocks hwf hkp hP hK hD hS d_Machine_holds_287
    have h := if_f (fun z => c26 ((lg_cmp_gt _ _).mpr z)) h
    refine lv_iconst (v := 1) hx hb d_Machine_holds_282 (by decide) ?_
    refine lv_goto (tgt := 287) hx hb d_Machine_holds_283 (by decide) ?_
    exact me_retz (me_kp M0) h (by decide) hx hb hr hlocks hwf hkp hP hK hD hS d_Machine_holds_287
  have b_59 : ∀ (M : me_M) (y5 : Int64) (y7 : Int64) (s0 : Int64) (H : Heap) (locs : List Loc) (ls : Array Slot), f_Machine_holds_b59 j0 x3 M y5 y7 s0 = (some (MZ, RZ)) → me_wf N M → me_kp M0 M → va_P D classes (me_W ad ca M) H → va_D A (me_W ad ca M) → va_S A s.heap H locs → lv_has ls 13 [(0, .ref (ad 5 j0)), (3, .long x3), (5, .long y5), (7, .long y7)] → W p l e rm_Machine_holds s m [.ref (ad 5 j0), .long x1, .long x3].toArray below meth c H locs 0 0 (MQ below (q_Machine_holds D ad ca N M0 MZ RZ A) [.ref (ad 5 j0), .long x1, .long x3].toArray s rm_Machine_holds.cells rm_Machine_holds.slots A) (F0 m 59 ls [.long s0]) := by
    intro M y5 y7 s0 H locs ls h hwf hkp hP hD hS hl
    unfold f_Machine_holds_b59 at h
    have hkb := hkp
    refine lv_lstore (lv' := [(9, .long s0), (0, .ref (ad 5 j0)), (3, .long x3), (5, .long y5), (7, .long y7)]) hx hb d_Machine_holds_59 hl (by decide) rfl (fun ls hl => ?_)
    refine lv_aload_n hx hb d_Machine_holds_61 rfl (lv_at hl 1 rfl) ?_
    refine g_Machine_16 hx hb hts hown hK hP hwf hj0 (hts _ u_648) d_Machine_holds_62 ?_
    obtain ⟨j27, e28, h⟩ := bd_ob h
    have hj27 : j27 < N 2 := (hwf.2.1 5 j0 16 _ e28 (by decide) hj0)
    refine me_opt (j := j27) e28 ?_
    refine g_Code_13 hx hb hts hown hK hP hwf hj27 (hts _ u_268) d_Machine_holds_65 ?_
    have z29 := (hwf.2.2.2 2 j27 13 rfl)
    refine lv_if_eq (tgt := 77) hx hb d_Machine_holds_68 (by decide) (fun c30 => ?_) (fun c30 => ?_)
    · have h := if_t c30 h
      refine lv_lload_n hx hb d_Machine_holds_77 rfl (lv_at hl 2 rfl) ?_
      exact b_78 M y5 y7 s0 x3 _ _ _ h hwf hkp hP hD hS (lv_sub hl [1, 3, 4, 0] rfl)
    have h := if_f c30 h
    refine lv_lload_n hx hb d_Machine_holds_71 rfl (lv_at hl 2 rfl) ?_
    refine lv_l2i (v := x3.toInt32) hx hb d_Machine_holds_72 rfl ?_
    refine lv_i2l (v := x3.toInt32.toInt64) hx hb d_Machine_holds_73 rfl ?_
    refine lv_goto (tgt := 78) hx hb d_Machine_holds_74 (by decide) ?_
    exact b_78 M y5 y7 s0 x3.toInt32.toInt64 _ _ _ h hwf hkp hP hD hS (lv_sub hl [1, 3, 4, 0] rfl)
  have b_40 : ∀ (M : me_M) (y5 : Int64) (s0 : Int64) (H : Heap) (locs : List Loc) (ls : Array Slot), f_Machine_holds_b40 j0 x1 x3 M y5 s0 = (some (MZ, RZ)) → me_wf N M → me_kp M0 M → va_P D classes (me_W ad ca M) H → va_D A (me_W ad ca M) → va_S A s.heap H locs → lv_has ls 13 [(0, .ref (ad 5 j0)), (1, .long x1), (3, .long x3), (5, .long y5)] → W p l e rm_Machine_holds s m [.ref (ad 5 j0), .long x1, .long x3].toArray below meth c H locs 0 0 (MQ below (q_Machine_holds D ad ca N M0 MZ RZ A) [.ref (ad 5 j0), .long x1, .long x3].toArray s rm_Machine_holds.cells rm_Machine_holds.slots A) (F0 m 40 ls [.long s0]) := by
    intro M y5 s0 H locs ls h hwf hkp hP hD hS hl
    unfold f_Machine_holds_b40 at h
    have hkb := hkp
    refine lv_lstore (lv' := [(7, .long s0), (0, .ref (ad 5 j0)), (1, .long x1), (3, .long x3), (5, .long y5)]) hx hb d_Machine_holds_40 hl (by decide) rfl (fun ls hl => ?_)
    refine lv_aload_n hx hb d_Machine_holds_42 rfl (lv_at hl 1 rfl) ?_
    refine g_Machine_16 hx hb hts hown hK hP hwf hj0 (hts _ u_648) d_Machine_holds_43 ?_
    obtain ⟨j31, e32, h⟩ := bd_ob h
    have hj31 : j31 < N 2 := (hwf.2.1 5 j0 16 _ e32 (by decide) hj0)
    refine me_opt (j := j31) e32 ?_
    refine g_Code_13 hx hb hts hown hK hP hwf hj31 (hts _ u_268) d_Machine_holds_46 ?_
    have z33 := (hwf.2.2.2 2 j31 13 rfl)
    refine lv_if_eq (tgt := 58) hx hb d_Machine_holds_49 (by decide) (fun c34 => ?_) (fun c34 => ?_)
    · have h := if_t c34 h
      refine lv_lload_n hx hb d_Machine_holds_58 rfl (lv_at hl 2 rfl) ?_
      exact b_59 M y5 s0 x1 _ _ _ h hwf hkp hP hD hS (lv_sub hl [1, 3, 4, 0] rfl)
    have h := if_f c34 h
    refine lv_lload_n hx hb d_Machine_holds_52 rfl (lv_at hl 2 rfl) ?_
    refine lv_l2i (v := x1.toInt32) hx hb d_Machine_holds_53 rfl ?_
    refine lv_i2l (v := x1.toInt32.toInt64) hx hb d_Machine_holds_54 rfl ?_
    refine lv_goto (tgt := 59) hx hb d_Machine_holds_55 (by decide) ?_
    exact b_59 M y5 s0 x1.toInt32.toInt64 _ _ _ h hwf hkp hP hD hS (lv_sub hl [1, 3, 4, 0] rfl)
  have b_19 : ∀ (M : me_M) (s0 : Int64) (H : Heap) (locs : List Loc) (ls : Array Slot), f_Machine_holds_b19 j0 x1 x3 M s0 = (some (MZ, RZ)) → me_wf N M → me_kp M0 M → va_P D classes (me_W ad ca M) H → va_D A (me_W ad ca M) → va_S A s.heap H locs → lv_has ls 13 [(0, .ref (ad 5 j0)), (1, .long x1), (3, .long x3)] → W p l e rm_Machine_holds s m [.ref (ad 5 j0), .long x1, .long x3].toArray below meth c H locs 0 0 (MQ below (q_Machine_holds D ad ca N M0 MZ RZ A) [.ref (ad 5 j0), .long x1, .long x3].toArray s rm_Machine_holds.cells rm_Machine_holds.slots A) (F0 m 19 ls [.long s0]) := by
    intro M s0 H locs ls h hwf hkp hP hD hS hl
    unfold f_Machine_holds_b19 at h
    have hkb := hkp
    refine lv_lstore (lv' := [(5, .long s0), (0, .ref (ad 5 j0)), (1, .long x1), (3, .long x3)]) hx hb d_Machine_holds_19 hl (by decide) rfl (fun ls hl => ?_)
    refine lv_aload_n hx hb d_Machine_holds_21 rfl (lv_at hl 1 rfl) ?_
    refine g_Machine_16 hx hb hts hown hK hP hwf hj0 (hts _ u_648) d_Machine_holds_22 ?_
    obtain ⟨j35, e36, h⟩ := bd_ob h
    have hj35 : j35 < N 2 := (hwf.2.1 5 j0 16 _ e36 (by decide) hj0)
    refine me_opt (j := j35) e36 ?_
    refine g_Code_13 hx hb hts hown hK hP hwf hj35 (hts _ u_268) d_Machine_holds_25 ?_
    have z37 := (hwf.2.2.2 2 j35 13 rfl)
    refine lv_if_eq (tgt := 39) hx hb d_Machine_holds_28 (by decide) (fun c38 => ?_) (fun c38 => ?_)
    · have h := if_t c38 h
      refine lv_lload_n hx hb d_Machine_holds_39 rfl (lv_at hl 3 rfl) ?_
      exact b_40 M s0 x3 _ _ _ h hwf hkp hP hD hS (lv_sub hl [1, 2, 3, 0] rfl)
    have h := if_f c38 h
    refine lv_lload_n hx hb d_Machine_holds_31 rfl (lv_at hl 3 rfl) ?_
    refine lv_ldc2 hx hb hown (hts _ u_1672) d_Machine_holds_32 ?_
    refine lv_land hx hb d_Machine_holds_35 ?_
    refine lv_goto (tgt := 40) hx hb d_Machine_holds_36 (by decide) ?_
    exact b_40 M s0 (x3 &&& 4294967295) _ _ _ h hwf hkp hP hD hS (lv_sub hl [1, 2, 3, 0] rfl)
  refine lv_aload_n hx hb d_Machine_holds_0 rfl (lv_at hl 0 rfl) ?_
  refine g_Machine_16 hx hb hts hown hK hP hwf hj0 (hts _ u_648) d_Machine_holds_1 ?_
  obtain ⟨j39, e40, h⟩ := bd_ob h
  have hj39 : j39 < N 2 := (hwf.2.1 5 j0 16 _ e40 (by decide) hj0)
  refine me_opt (j := j39) e40 ?_
  refine g_Code_13 hx hb hts hown hK hP hwf hj39 (hts _ u_268) d_Machine_holds_4 ?_
  have z41 := (hwf.2.2.2 2 j39 13 rfl)
  refine lv_if_eq (tgt := 18) hx hb d_Machine_holds_7 (by decide) (fun c42 => ?_) (fun c42 => ?_)
  · have h := if_t c42 h
    refine lv_lload_n hx hb d_Machine_holds_18 rfl (lv_at hl 1 rfl) ?_
    exact b_19 M0 x1 _ _ _ h hwf hkp hP hD hS (lv_sub hl [0, 1, 2] rfl)
  have h := if_f c42 h
  refine lv_lload_n hx hb d_Machine_holds_10 rfl (lv_at hl 1 rfl) ?_
  refine lv_ldc2 hx hb hown (hts _ u_1672) d_Machine_holds_11 ?_
  refine lv_land hx hb d_Machine_holds_14 ?_
  refine lv_goto (tgt := 19) hx hb d_Machine_holds_15 (by decide) ?_
  exact b_19 M0 (x1 &&& 4294967295) _ _ _ h hwf hkp hP hD hS (lv_sub hl [0, 1, 2] rfl)
theorem d_G_areaOf_0 : decode prog_1_method_20_code 0 = .ok (.lload_n 0, 1) := by decide +kernel
theorem d_G_areaOf_1 : decode prog_1_method_20_code 1 = .ok (.ldc2_w 240, 3) := by decide +kernel
theorem u_1696 : Cond.constantLong "FilterGuard" 240 549755813888 ∈ fg_g := fg_in (List.mem_of_getElem? (i := 1696) (by decide +kernel)) rfl
theorem d_G_areaOf_4 : decode prog_1_method_20_code 4 = .ok (.ladd, 1) := by decide +kernel
theorem d_G_areaOf_5 : decode prog_1_method_20_code 5 = .ok (.bipush 40, 2) := by decide +kernel
theorem d_G_areaOf_7 : decode prog_1_method_20_code 7 = .ok (.lshr, 1) := by decide +kernel
theorem d_G_areaOf_8 : decode prog_1_method_20_code 8 = .ok (.l2i, 1) := by decide +kernel
theorem d_G_areaOf_9 : decode prog_1_method_20_code 9 = .ok (.ireturn, 1) := by decide +kernel
abbrev y_G_areaOf : MethodName := ⟨"FilterGuard", "areaOf", "(J)I"⟩
def rm_G_areaOf : Room := { frames := 1, cells := 0, slots := 0, locals := 20 }
abbrev q_G_areaOf (D : va_G) (RZ : Int32) (A : Nat → Prop) : Array Value → Jvm.State → Outcome → Jvm.State → Prop := va_Qi (fun r (_ : Unit) => r = RZ ∧ True) (fg_B D A (fun _ => []) (fun _ => [])) A
set_option maxHeartbeats 4000000 in
set_option maxRecDepth 100000 in
theorem c_G_areaOf (l : Launch) (D : va_G) (RZ : Int32) (x0 : Int64) (h : f_G_areaOf x0 = (some RZ)) (sz : Nat) : Met l y_G_areaOf (fg_w y_G_areaOf prog_1_method_20_code 2 (some .int)) rm_G_areaOf (va_Pc [.long x0] (fg_P D [] [] sz)) (q_G_areaOf D RZ (va_A [] sz)) rm_G_areaOf.cells rm_G_areaOf.slots (va_A [] sz) := by
  refine fg_enter (fun A => q_G_areaOf D RZ A) (by decide +kernel) (Nat.le_of_ble_eq_true rfl) ?_
  intro p e s m below meth c ls A hx hb hml hown hts hr hlocks hin hP hK hD hS hA hX hl
  have hl : lv_has ls 2 [(0, .long x0)] := hl
  unfold f_G_areaOf at h
  refine lv_lload_n hx hb d_G_areaOf_0 rfl (lv_at hl 0 rfl) ?_
  refine lv_ldc2 hx hb hown (hts _ u_1696) d_G_areaOf_1 ?_
  refine lv_ladd hx hb d_G_areaOf_4 ?_
  refine lv_bipush (v := 40) hx hb d_G_areaOf_5 (by decide) ?_
  refine lv_lshr (v := jlshr (x0 + 549755813888) (40 : Int32)) hx hb d_G_areaOf_7 rfl ?_
  refine lv_l2i (v := (jlshr (x0 + 549755813888) (40 : Int32)).toInt32) hx hb d_G_areaOf_8 rfl ?_
  exact me_preti h hx hb hr hlocks hK hS d_G_areaOf_9
theorem d_Machine_locateValue_0 : decode prog_7_method_13_code 0 = .ok (.iload_n 1, 1) := by decide +kernel
theorem d_Machine_locateValue_1 : decode prog_7_method_13_code 1 = .ok (.iconst 4, 1) := by decide +kernel
theorem d_Machine_locateValue_2 : decode prog_7_method_13_code 2 = .ok (.if_icmp .ge 12, 3) := by decide +kernel
theorem d_Machine_locateValue_14 : decode prog_7_method_13_code 14 = .ok (.iconst 0, 1) := by decide +kernel
theorem d_Machine_locateValue_15 : decode prog_7_method_13_code 15 = .ok (.ireturn, 1) := by decide +kernel
theorem d_Machine_locateValue_5 : decode prog_7_method_13_code 5 = .ok (.aload_n 0, 1) := by decide +kernel
theorem d_Machine_locateValue_6 : decode prog_7_method_13_code 6 = .ok (.getfield 35, 3) := by decide +kernel
theorem g_Machine_2 {p : Program} {l : Launch} {e : Env} {R : Room} {s : Jvm.State} {m : MethodId} {args : Array Value} {below : List Frame} {meth : Method} {c : Code} {H : Heap} {locs : List Loc} {cells slots : Nat} {Q : Jvm.State → Prop} {cc : ByteArray} {pc : Nat} {ls : Array Slot} {rest : List Value} {D : va_G} {ad : Nat → Nat → Nat} {ca : Nat → ClassId} {M : me_M} {N : Nat → Nat} {own : String} {index j : Nat} (hexec : p.tables.exec = Jvm.exec) (hb : c.code = cc) (hts : ∀ w ∈ fg_g, w.before args s = true) (hown : s.vm.findClass own = some m.cls) (hK : va_K D classes (me_T ca) s) (hP : va_P D classes (me_W ad ca M) H) (hwf : me_wf N M) (hj : j < N 5) (hlink : (Cond.fieldLink own index "FilterGuard$Machine" "stores" "[LFilterGuard$Store;").before args s = true) (hdg : decode cc pc = .ok (.getfield index, 3)) (kk : W p l e R s m args below meth c H locs cells slots Q (F0 m (pc + 3) ls (va_rf ((mR M 5 j 2).map (ad 19)) :: rest))) : W p l e R s m args below meth c H locs cells slots Q (F0 m pc ls (.ref (ad 5 j) :: rest)) := me_get (k := 5) (f := 2) (C := "FilterGuard$Machine") (T := F_Machine) (Nf := 20) hexec hb hts i_Machine hown hK hP hwf hj (by decide) rfl (by decide) (by decide) hlink (fun _ h9 => h9) hdg kk
theorem d_Machine_locateValue_9 : decode prog_7_method_13_code 9 = .ok (.iload_n 1, 1) := by decide +kernel
theorem d_Machine_locateValue_10 : decode prog_7_method_13_code 10 = .ok (.aaload, 1) := by decide +kernel
theorem d_Machine_locateValue_11 : decode prog_7_method_13_code 11 = .ok (.ifnonnull 5, 3) := by decide +kernel
theorem d_Machine_locateValue_16 : decode prog_7_method_13_code 16 = .ok (.aload_n 0, 1) := by decide +kernel
theorem d_Machine_locateValue_17 : decode prog_7_method_13_code 17 = .ok (.getfield 35, 3) := by decide +kernel
theorem d_Machine_locateValue_20 : decode prog_7_method_13_code 20 = .ok (.iload_n 1, 1) := by decide +kernel
theorem d_Machine_locateValue_21 : decode prog_7_method_13_code 21 = .ok (.aaload, 1) := by decide +kernel
theorem d_Machine_locateValue_22 : decode prog_7_method_13_code 22 = .ok (.astore 5, 2) := by decide +kernel
theorem d_Machine_locateValue_24 : decode prog_7_method_13_code 24 = .ok (.lload_n 2, 1) := by decide +kernel
theorem d_Machine_locateValue_25 : decode prog_7_method_13_code 25 = .ok (.ldc2_w 231, 3) := by decide +kernel
theorem u_1702 : Cond.constantLong "FilterGuard$Machine" 231 524288 ∈ fg_g := fg_in (List.mem_of_getElem? (i := 1702) (by decide +kernel)) rfl
theorem d_Machine_locateValue_28 : decode prog_7_method_13_code 28 = .ok (.ladd, 1) := by decide +kernel
theorem d_Machine_locateValue_29 : decode prog_7_method_13_code 29 = .ok (.bipush 20, 2) := by decide +kernel
theorem d_Machine_locateValue_31 : decode prog_7_method_13_code 31 = .ok (.lshr, 1) := by decide +kernel
theorem d_Machine_locateValue_32 : decode prog_7_method_13_code 32 = .ok (.lstore 6, 2) := by decide +kernel
theorem d_Machine_locateValue_34 : decode prog_7_method_13_code 34 = .ok (.lload_n 2, 1) := by decide +kernel
theorem d_Machine_locateValue_35 : decode prog_7_method_13_code 35 = .ok (.lload 6, 2) := by decide +kernel
theorem d_Machine_locateValue_37 : decode prog_7_method_13_code 37 = .ok (.bipush 20, 2) := by decide +kernel
theorem d_Machine_locateValue_39 : decode prog_7_method_13_code 39 = .ok (.lshl, 1) := by decide +kernel
theorem d_Machine_locateValue_40 : decode prog_7_method_13_code 40 = .ok (.lsub, 1) := by decide +kernel
theorem d_Machine_locateValue_41 : decode prog_7_method_13_code 41 = .ok (.lstore 8, 2) := by decide +kernel
theorem d_Machine_locateValue_43 : decode prog_7_method_13_code 43 = .ok (.aload_n 0, 1) := by decide +kernel
theorem d_Machine_locateValue_44 : decode prog_7_method_13_code 44 = .ok (.aload 5, 2) := by decide +kernel
theorem d_Machine_locateValue_46 : decode prog_7_method_13_code 46 = .ok (.getfield 233, 3) := by decide +kernel
theorem u_916 : Cond.fieldLink "FilterGuard$Machine" 233 "FilterGuard$Store" "values" "[B" ∈ fg_g := fg_in (List.mem_of_getElem? (i := 916) (by decide +kernel)) rfl
theorem d_Machine_locateValue_49 : decode prog_7_method_13_code 49 = .ok (.putfield 51, 3) := by decide +kernel
theorem d_Machine_locateValue_52 : decode prog_7_method_13_code 52 = .ok (.aload_n 0, 1) := by decide +kernel
theorem d_Machine_locateValue_53 : decode prog_7_method_13_code 53 = .ok (.lload 6, 2) := by decide +kernel
theorem d_Machine_locateValue_55 : decode prog_7_method_13_code 55 = .ok (.aload 5, 2) := by decide +kernel
theorem d_Machine_locateValue_57 : decode prog_7_method_13_code 57 = .ok (.getfield 238, 3) := by decide +kernel
theorem u_909 : Cond.fieldLink "FilterGuard$Machine" 238 "FilterGuard$Store" "valueBytes" "I" ∈ fg_g := fg_in (List.mem_of_getElem? (i := 909) (by decide +kernel)) rfl
theorem d_Machine_locateValue_60 : decode prog_7_method_13_code 60 = .ok (.i2l, 1) := by decide +kernel
theorem d_Machine_locateValue_61 : decode prog_7_method_13_code 61 = .ok (.lmul, 1) := by decide +kernel
theorem d_Machine_locateValue_62 : decode prog_7_method_13_code 62 = .ok (.lload 8, 2) := by decide +kernel
theorem d_Machine_locateValue_64 : decode prog_7_method_13_code 64 = .ok (.ladd, 1) := by decide +kernel
theorem d_Machine_locateValue_65 : decode prog_7_method_13_code 65 = .ok (.l2i, 1) := by decide +kernel
theorem d_Machine_locateValue_66 : decode prog_7_method_13_code 66 = .ok (.putfield 64, 3) := by decide +kernel
theorem d_Machine_locateValue_69 : decode prog_7_method_13_code 69 = .ok (.lload 6, 2) := by decide +kernel
theorem d_Machine_locateValue_71 : decode prog_7_method_13_code 71 = .ok (.lconst 0, 1) := by decide +kernel
theorem d_Machine_locateValue_72 : decode prog_7_method_13_code 72 = .ok (.lcmp, 1) := by decide +kernel
theorem d_Machine_locateValue_73 : decode prog_7_method_13_code 73 = .ok (.ifCond .lt 42, 3) := by decide +kernel
theorem d_Machine_locateValue_115 : decode prog_7_method_13_code 115 = .ok (.iconst 0, 1) := by decide +kernel
theorem d_Machine_locateValue_116 : decode prog_7_method_13_code 116 = .ok (.ireturn, 1) := by decide +kernel
theorem d_Machine_locateValue_76 : decode prog_7_method_13_code 76 = .ok (.lload 6, 2) := by decide +kernel
theorem d_Machine_locateValue_78 : decode prog_7_method_13_code 78 = .ok (.aload 5, 2) := by decide +kernel
theorem d_Machine_locateValue_80 : decode prog_7_method_13_code 80 = .ok (.getfield 241, 3) := by decide +kernel
theorem u_913 : Cond.fieldLink "FilterGuard$Machine" 241 "FilterGuard$Store" "entries" "I" ∈ fg_g := fg_in (List.mem_of_getElem? (i := 913) (by decide +kernel)) rfl
theorem d_Machine_locateValue_83 : decode prog_7_method_13_code 83 = .ok (.i2l, 1) := by decide +kernel
theorem d_Machine_locateValue_84 : decode prog_7_method_13_code 84 = .ok (.lcmp, 1) := by decide +kernel
theorem d_Machine_locateValue_85 : decode prog_7_method_13_code 85 = .ok (.ifCond .ge 30, 3) := by decide +kernel
theorem d_Machine_locateValue_88 : decode prog_7_method_13_code 88 = .ok (.lload 8, 2) := by decide +kernel
theorem d_Machine_locateValue_90 : decode prog_7_method_13_code 90 = .ok (.lconst 0, 1) := by decide +kernel
theorem d_Machine_locateValue_91 : decode prog_7_method_13_code 91 = .ok (.lcmp, 1) := by decide +kernel
theorem d_Machine_locateValue_92 : decode prog_7_method_13_code 92 = .ok (.ifCond .lt 23, 3) := by decide +kernel
theorem d_Machine_locateValue_95 : decode prog_7_method_13_code 95 = .ok (.lload 8, 2) := by decide +kernel
theorem d_Machine_locateValue_97 : decode prog_7_method_13_code 97 = .ok (.iload 4, 2) := by decide +kernel
theorem d_Machine_locateValue_99 : decode prog_7_method_13_code 99 = .ok (.i2l, 1) := by decide +kernel
theorem d_Machine_locateValue_100 : decode prog_7_method_13_code 100 = .ok (.ladd, 1) := by decide +kernel
theorem d_Machine_locateValue_101 : decode prog_7_method_13_code 101 = .ok (.aload 5, 2) := by decide +kernel
theorem d_Machine_locateValue_103 : decode prog_7_method_13_code 103 = .ok (.getfield 238, 3) := by decide +kernel
theorem d_Machine_locateValue_106 : decode prog_7_method_13_code 106 = .ok (.i2l, 1) := by decide +kernel
theorem d_Machine_locateValue_107 : decode prog_7_method_13_code 107 = .ok (.lcmp, 1) := by decide +kernel
theorem d_Machine_locateValue_108 : decode prog_7_method_13_code 108 = .ok (.ifCond .gt 7, 3) := by decide +kernel
theorem d_Machine_locateValue_111 : decode prog_7_method_13_code 111 = .ok (.iconst 1, 1) := by decide +kernel
theorem d_Machine_locateValue_112 : decode prog_7_method_13_code 112 = .ok (.goto 4, 3) := by decide +kernel
abbrev y_Machine_locateValue : MethodName := ⟨"FilterGuard$Machine", "locateValue", "(IJI)Z"⟩
def rm_Machine_locateValue : Room := { frames := 1, cells := 0, slots := 0, locals := 20 }
abbrev q_Machine_locateValue (D : va_G) (ad : Nat → Nat → Nat) (ca : Nat → ClassId) (N : Nat → Nat) (M0 MZ : me_M) (RZ : Int32) (A : Nat → Prop) : Array Value → Jvm.State → Outcome → Jvm.State → Prop := va_Qi (fun r (_ : Unit) => r = RZ ∧ me_wf N MZ ∧ me_kz M0 MZ ∧ (RZ = 1 ∨ RZ = 0)) (fg_B D A (fun _ => me_W ad ca MZ) (fun _ => [])) A
set_option maxHeartbeats 4000000 in
set_option maxRecDepth 100000 in
theorem c_Machine_locateValue (l : Launch) (D : va_G) (ad : Nat → Nat → Nat) (ca : Nat → ClassId) (N : Nat → Nat) (M0 MZ : me_M) (RZ : Int32) (j0 : Nat) (x1 : Int32) (x2 : Int64) (x4 : Int32) (h : f_Machine_locateValue M0 j0 x1 x2 x4 = (some (MZ, RZ))) (hwf : me_wf N M0) (hj0 : j0 < N 5) (sz : Nat) : Met l y_Machine_locateValue (fg_w y_Machine_locateValue prog_7_method_13_code 10 (some .boolean)) rm_Machine_locateValue (va_Pc [.ref (ad 5 j0), .int x1, .long x2, .int x4] (fz_P D (me_T ca) (me_W ad ca M0) sz)) (q_Machine_locateValue D ad ca N M0 MZ RZ (va_A (me_W ad ca M0) sz)) rm_Machine_locateValue.cells rm_Machine_locateValue.slots (va_A (me_W ad ca M0) sz) := by
  refine fz_enter (fun A => q_Machine_locateValue D ad ca N M0 MZ RZ A) (by decide +kernel) (Nat.le_of_ble_eq_true rfl) ?_
  intro p e s m below meth c ls A hx hb hml hown hts hr hlocks hin hP hK hD hS hA hX hl hz
  have hl : lv_has ls 10 [(0, .ref (ad 5 j0)), (1, .int x1), (2, .long x2), (4, .int x4)] := hl
  unfold f_Machine_locateValue at h
  have hkp : me_kz M0 M0 := me_kz.rf
  have hkb := hkp
  refine lv_iload_n hx hb d_Machine_locateValue_0 rfl (lv_at hl 1 rfl) ?_
  refine lv_iconst (v := 4) hx hb d_Machine_locateValue_1 (by decide) ?_
  refine lv_icmp_ge (tgt := 14) hx hb d_Machine_locateValue_2 (by decide) (fun c1 => ?_) (fun c1 => ?_)
  · have h := if_t c1 h
    refine lv_iconst (v := 0) hx hb d_Machine_locateValue_14 (by decide) ?_
    exact me_retz (me_kz M0) h (by decide) hx hb hr hlocks hwf hkp hP hK hD hS d_Machine_locateValue_15
  have h := if_f c1 h
  refine lv_aload_n hx hb d_Machine_locateValue_5 rfl (lv_at hl 0 rfl) ?_
  refine g_Machine_2 hx hb hts hown hK hP hwf hj0 (hts _ u_625) d_Machine_locateValue_6 ?_
  obtain ⟨j2, e3, h⟩ := bd_ob h
  have hj2 : j2 < N 19 := (hwf.2.1 5 j0 2 _ e3 (by decide) hj0)
  refine me_opt (j := j2) e3 ?_
  refine lv_iload_n hx hb d_Machine_locateValue_9 rfl (lv_at hl 1 rfl) ?_
  obtain ⟨g4, h⟩ := gd_ob h
  refine me_aald (k := 19) (t := 12) hx hb hK hP hwf hj2 (by decide) (by decide) rfl (fun _ => rfl) g4 d_Machine_locateValue_10 ?_
  rcases e6 : (mR M0 19 j2 x1.toNatClampNeg) with _ | j5
  · have h := oc_n2 e6 h
    refine lv_ifnonnullN hx hb d_Machine_locateValue_11 ?_
    refine lv_iconst (v := 0) hx hb d_Machine_locateValue_14 (by decide) ?_
    exact me_retz (me_kz M0) h (by decide) hx hb hr hlocks hwf hkp hP hK hD hS d_Machine_locateValue_15
  have h := oc_s2 e6 h
  refine lv_ifnonnull (tgt := 16) hx hb d_Machine_locateValue_11 (by decide) ?_
  refine lv_aload_n hx hb d_Machine_locateValue_16 rfl (lv_at hl 0 rfl) ?_
  refine g_Machine_2 hx hb hts hown hK hP hwf hj0 (hts _ u_625) d_Machine_locateValue_17 ?_
  refine me_opt (j := j2) e3 ?_
  refine lv_iload_n hx hb d_Machine_locateValue_20 rfl (lv_at hl 1 rfl) ?_
  refine me_aald (k := 19) (t := 12) hx hb hK hP hwf hj2 (by decide) (by decide) rfl (fun _ => rfl) g4 d_Machine_locateValue_21 ?_
  obtain ⟨j7, e8, h⟩ := bd_ob h
  have hj7 : j7 < N 12 := (hwf.2.1 19 j2 x1.toNatClampNeg _ e8 (by decide) hj2)
  refine me_opt (j := j7) e8 ?_
  refine lv_astore (lv' := [(5, .ref (ad 12 j7)), (0, .ref (ad 5 j0)), (1, .int x1), (2, .long x2), (4, .int x4)]) hx hb d_Machine_locateValue_22 hl (by decide) rfl (fun ls hl => ?_)
  refine lv_lload_n hx hb d_Machine_locateValue_24 rfl (lv_at hl 3 rfl) ?_
  refine lv_ldc2 hx hb hown (hts _ u_1702) d_Machine_locateValue_25 ?_
  refine lv_ladd hx hb d_Machine_locateValue_28 ?_
  refine lv_bipush (v := 20) hx hb d_Machine_locateValue_29 (by decide) ?_
  refine lv_lshr (v := jlshr (x2 + 524288) (20 : Int32)) hx hb d_Machine_locateValue_31 rfl ?_
  obtain ⟨v9, ev9, h⟩ := st_ob h
  refine fg_topl (y := v9) ev9.symm ?_
  refine lv_lstore (lv' := [(6, .long v9), (5, .ref (ad 12 j7)), (0, .ref (ad 5 j0)), (1, .int x1), (2, .long x2), (4, .int x4)]) hx hb d_Machine_locateValue_32 hl (by decide) rfl (fun ls hl => ?_)
  refine lv_lload_n hx hb d_Machine_locateValue_34 rfl (lv_at hl 4 rfl) ?_
  refine lv_lload hx hb d_Machine_locateValue_35 (lv_at hl 0 rfl) ?_
  refine lv_bipush (v := 20) hx hb d_Machine_locateValue_37 (by decide) ?_
  refine lv_lshl (v := jlshl v9 (20 : Int32)) hx hb d_Machine_locateValue_39 rfl ?_
  refine lv_lsub hx hb d_Machine_locateValue_40 ?_
  obtain ⟨v10, ev10, h⟩ := st_ob h
  refine fg_topl (y := v10) ev10.symm ?_
  refine lv_lstore (lv' := [(8, .long v10), (6, .long v9), (5, .ref (ad 12 j7)), (0, .ref (ad 5 j0)), (1, .int x1), (2, .long x2), (4, .int x4)]) hx hb d_Machine_locateValue_41 hl (by decide) rfl (fun ls hl => ?_)
  refine lv_aload_n hx hb d_Machine_locateValue_43 rfl (lv_at hl 3 rfl) ?_
  refine lv_aload hx hb d_Machine_locateValue_44 (lv_at hl 2 rfl) ?_
  refine g_Store_5 hx hb hts hown hK hP hwf hj7 (hts _ u_916) d_Machine_locateValue_46 ?_
  obtain ⟨j11, e12, h⟩ := bd_ob h
  have hj11 : j11 < N 14 := (hwf.2.1 12 j7 5 _ e12 (by decide) hj7)
  refine me_opt (j := j11) e12 ?_
  obtain ⟨M13, eM13, h⟩ := st_ob h
  refine p_Machine_18 eM13 hx hb hts hown hK hP hD hwf hS hj0 hj11 (hts _ u_650) d_Machine_locateValue_49 (fun H locs hP hD hwf hS => ?_)
  have hkp := kz_R eM13 hkp
  refine lv_aload_n hx hb d_Machine_locateValue_52 rfl (lv_at hl 3 rfl) ?_
  refine lv_lload hx hb d_Machine_locateValue_53 (lv_at hl 1 rfl) ?_
  refine lv_aload hx hb d_Machine_locateValue_55 (lv_at hl 2 rfl) ?_
  refine g_Store_2 hx hb hts hown hK hP hwf hj7 (hts _ u_909) d_Machine_locateValue_57 ?_
  refine lv_i2l (v := (mI M13 12 j7 2).toInt64) hx hb d_Machine_locateValue_60 rfl ?_
  refine lv_lmul hx hb d_Machine_locateValue_61 ?_
  refine lv_lload hx hb d_Machine_locateValue_62 (lv_at hl 0 rfl) ?_
  refine lv_ladd hx hb d_Machine_locateValue_64 ?_
  refine lv_l2i (v := ((v9 * ((mI M13 12 j7 2).toInt64)) + v10).toInt32) hx hb d_Machine_locateValue_65 rfl ?_
  obtain ⟨M14, eM14, h⟩ := st_ob h
  refine p_Machine_19 eM14 hx hb hts hown hK hP hD hwf hS hj0 (hts _ u_651) d_Machine_locateValue_66 (fun H locs hP hD hwf hS => ?_)
  have hkp := kz_I eM14 hkp
  refine lv_lload hx hb d_Machine_locateValue_69 (lv_at hl 1 rfl) ?_
  refine lv_lconst (v := 0) hx hb d_Machine_locateValue_71 (by decide) ?_
  refine W.lcmp hx hb d_Machine_locateValue_72 ?_
  refine lv_if_lt (tgt := 115) hx hb d_Machine_locateValue_73 (by decide) (fun c15 => ?_) (fun c15 => ?_)
  · have h := if_t ((lg_cmp_lt _ _).mp c15) h
    refine lv_iconst (v := 0) hx hb d_Machine_locateValue_115 (by decide) ?_
    exact me_retz (me_kz M0) h (by decide) hx hb hr hlocks hwf hkp hP hK hD hS d_Machine_locateValue_116
  have h := if_f (fun z => c15 ((lg_cmp_lt _ _).mpr z)) h
  refine lv_lload hx hb d_Machine_locateValue_76 (lv_at hl 1 rfl) ?_
  refine lv_aload hx hb d_Machine_locateValue_78 (lv_at hl 2 rfl) ?_
  refine g_Store_3 hx hb hts hown hK hP hwf hj7 (hts _ u_913) d_Machine_locateValue_80 ?_
  refine lv_i2l (v := (mI M14 12 j7 3).toInt64) hx hb d_Machine_locateValue_83 rfl ?_
  refine W.lcmp hx hb d_Machine_locateValue_84 ?_
  refine lv_if_ge (tgt := 115) hx hb d_Machine_locateValue_85 (by decide) (fun c16 => ?_) (fun c16 => ?_)
  · have h := if_f (Int64.not_lt.mpr ((lg_cmp_ge _ _).mp c16)) h
    refine lv_iconst (v := 0) hx hb d_Machine_locateValue_115 (by decide) ?_
    exact me_retz (me_kz M0) h (by decide) hx hb hr hlocks hwf hkp hP hK hD hS d_Machine_locateValue_116
  have h := if_t (Int64.not_le.mp (fun z => c16 ((lg_cmp_ge _ _).mpr z))) h
  refine lv_lload hx hb d_Machine_locateValue_88 (lv_at hl 0 rfl) ?_
  refine lv_lconst (v := 0) hx hb d_Machine_locateValue_90 (by decide) ?_
  refine W.lcmp hx hb d_Machine_locateValue_91 ?_
  refine lv_if_lt (tgt := 115) hx hb d_Machine_locateValue_92 (by decide) (fun c17 => ?_) (fun c17 => ?_)
  · have h := if_t ((lg_cmp_lt _ _).mp c17) h
    refine lv_iconst (v := 0) hx hb d_Machine_locateValue_115 (by decide) ?_
    exact me_retz (me_kz M0) h (by decide) hx hb hr hlocks hwf hkp hP hK hD hS d_Machine_locateValue_116
  have h := if_f (fun z => c17 ((lg_cmp_lt _ _).mpr z)) h
  refine lv_lload hx hb d_Machine_locateValue_95 (lv_at hl 0 rfl) ?_
  refine lv_iload hx hb d_Machine_locateValue_97 (lv_at hl 6 rfl) ?_
  refine lv_i2l (v := x4.toInt64) hx hb d_Machine_locateValue_99 rfl ?_
  refine lv_ladd hx hb d_Machine_locateValue_100 ?_
  refine lv_aload hx hb d_Machine_locateValue_101 (lv_at hl 2 rfl) ?_
  refine g_Store_2 hx hb hts hown hK hP hwf hj7 (hts _ u_909) d_Machine_locateValue_103 ?_
  refine lv_i2l (v := (mI M14 12 j7 2).toInt64) hx hb d_Machine_locateValue_106 rfl ?_
  refine W.lcmp hx hb d_Machine_locateValue_107 ?_
  refine lv_if_gt (tgt := 115) hx hb d_Machine_locateValue_108 (by decide) (fun c18 => ?_) (fun c18 => ?_)
  · have h := if_t ((lg_cmp_gt _ _).mp c18) h
    refine lv_iconst (v := 0) hx hb d_Machine_locateValue_115 (by decide) ?_
    exact me_retz (me_kz M0) h (by decide) hx hb hr hlocks hwf hkp hP hK hD hS d_Machine_locateValue_116
  have h := if_f (fun z => c18 ((lg_cmp_gt _ _).mpr z)) h
  refine lv_iconst (v := 1) hx hb d_Machine_locateValue_111 (by decide) ?_
  refine lv_goto (tgt := 116) hx hb d_Machine_locateValue_112 (by decide) ?_
  exact me_retz (me_kz M0) h (by decide) hx hb hr hlocks hwf hkp hP hK hD hS d_Machine_locateValue_116
theorem d_Machine_locate_117 : decode prog_7_method_12_code 117 = .ok (.aload_n 0, 1) := by decide +kernel
theorem d_Machine_locate_118 : decode prog_7_method_12_code 118 = .ok (.lload 7, 2) := by decide +kernel
theorem d_Machine_locate_120 : decode prog_7_method_12_code 120 = .ok (.lload 5, 2) := by decide +kernel
theorem d_Machine_locate_122 : decode prog_7_method_12_code 122 = .ok (.ladd, 1) := by decide +kernel
theorem d_Machine_locate_123 : decode prog_7_method_12_code 123 = .ok (.l2i, 1) := by decide +kernel
theorem d_Machine_locate_124 : decode prog_7_method_12_code 124 = .ok (.putfield 64, 3) := by decide +kernel
theorem d_Machine_locate_127 : decode prog_7_method_12_code 127 = .ok (.lload 5, 2) := by decide +kernel
theorem d_Machine_locate_129 : decode prog_7_method_12_code 129 = .ok (.lload 7, 2) := by decide +kernel
theorem d_Machine_locate_131 : decode prog_7_method_12_code 131 = .ok (.lneg, 1) := by decide +kernel
theorem d_Machine_locate_132 : decode prog_7_method_12_code 132 = .ok (.lcmp, 1) := by decide +kernel
theorem d_Machine_locate_133 : decode prog_7_method_12_code 133 = .ok (.ifCond .lt 21, 3) := by decide +kernel
theorem d_Machine_locate_154 : decode prog_7_method_12_code 154 = .ok (.iconst 0, 1) := by decide +kernel
theorem d_Machine_locate_155 : decode prog_7_method_12_code 155 = .ok (.ireturn, 1) := by decide +kernel
theorem d_Machine_locate_136 : decode prog_7_method_12_code 136 = .ok (.lload 7, 2) := by decide +kernel
theorem d_Machine_locate_138 : decode prog_7_method_12_code 138 = .ok (.lload 5, 2) := by decide +kernel
theorem d_Machine_locate_140 : decode prog_7_method_12_code 140 = .ok (.ladd, 1) := by decide +kernel
theorem d_Machine_locate_141 : decode prog_7_method_12_code 141 = .ok (.iload_n 3, 1) := by decide +kernel
theorem d_Machine_locate_142 : decode prog_7_method_12_code 142 = .ok (.i2l, 1) := by decide +kernel
theorem d_Machine_locate_143 : decode prog_7_method_12_code 143 = .ok (.ladd, 1) := by decide +kernel
theorem d_Machine_locate_144 : decode prog_7_method_12_code 144 = .ok (.lload 9, 2) := by decide +kernel
theorem d_Machine_locate_146 : decode prog_7_method_12_code 146 = .ok (.lcmp, 1) := by decide +kernel
theorem d_Machine_locate_147 : decode prog_7_method_12_code 147 = .ok (.ifCond .gt 7, 3) := by decide +kernel
theorem d_Machine_locate_150 : decode prog_7_method_12_code 150 = .ok (.iconst 1, 1) := by decide +kernel
theorem d_Machine_locate_151 : decode prog_7_method_12_code 151 = .ok (.goto 4, 3) := by decide +kernel
theorem d_Machine_locate_0 : decode prog_7_method_12_code 0 = .ok (.lload_n 1, 1) := by decide +kernel
theorem d_Machine_locate_1 : decode prog_7_method_12_code 1 = .ok (.invokestatic 219, 3) := by decide +kernel
theorem o_1693 : Cond.methodLinkNest "FilterGuard$Machine" 219 ⟨"FilterGuard", "areaOf", "(J)I"⟩ "FilterGuard" ∈ lw_tbl := List.mem_of_getElem? (i := 1693) (by decide +kernel)
theorem u_1695 : Cond.code ⟨"FilterGuard", "areaOf", "(J)I"⟩ prog_1_method_20_code 2 (some .int) ∈ fg_g := fg_in (List.mem_of_getElem? (i := 1695) (by decide +kernel)) rfl
theorem u_1694 : Cond.static ⟨"FilterGuard", "areaOf", "(J)I"⟩ ∈ fg_g := fg_in (List.mem_of_getElem? (i := 1694) (by decide +kernel)) rfl
theorem d_Machine_locate_4 : decode prog_7_method_12_code 4 = .ok (.istore 4, 2) := by decide +kernel
theorem d_Machine_locate_6 : decode prog_7_method_12_code 6 = .ok (.lload_n 1, 1) := by decide +kernel
theorem d_Machine_locate_7 : decode prog_7_method_12_code 7 = .ok (.iload 4, 2) := by decide +kernel
theorem d_Machine_locate_9 : decode prog_7_method_12_code 9 = .ok (.invokestatic 123, 3) := by decide +kernel
theorem d_Machine_locate_12 : decode prog_7_method_12_code 12 = .ok (.lsub, 1) := by decide +kernel
theorem d_Machine_locate_13 : decode prog_7_method_12_code 13 = .ok (.lstore 5, 2) := by decide +kernel
theorem d_Machine_locate_15 : decode prog_7_method_12_code 15 = .ok (.lconst 0, 1) := by decide +kernel
theorem d_Machine_locate_16 : decode prog_7_method_12_code 16 = .ok (.lstore 7, 2) := by decide +kernel
theorem d_Machine_locate_18 : decode prog_7_method_12_code 18 = .ok (.iload 4, 2) := by decide +kernel
theorem d_Machine_locate_20 : decode prog_7_method_12_code 20 = .ok (.iconst 1, 1) := by decide +kernel
theorem d_Machine_locate_21 : decode prog_7_method_12_code 21 = .ok (.if_icmp .ne 19, 3) := by decide +kernel
theorem d_Machine_locate_40 : decode prog_7_method_12_code 40 = .ok (.iload 4, 2) := by decide +kernel
theorem d_Machine_locate_42 : decode prog_7_method_12_code 42 = .ok (.iconst 2, 1) := by decide +kernel
theorem d_Machine_locate_43 : decode prog_7_method_12_code 43 = .ok (.if_icmp .ne 24, 3) := by decide +kernel
theorem d_Machine_locate_67 : decode prog_7_method_12_code 67 = .ok (.iload 4, 2) := by decide +kernel
theorem d_Machine_locate_69 : decode prog_7_method_12_code 69 = .ok (.iconst 3, 1) := by decide +kernel
theorem d_Machine_locate_70 : decode prog_7_method_12_code 70 = .ok (.if_icmp .ne 21, 3) := by decide +kernel
theorem d_Machine_locate_91 : decode prog_7_method_12_code 91 = .ok (.iload 4, 2) := by decide +kernel
theorem d_Machine_locate_93 : decode prog_7_method_12_code 93 = .ok (.iconst 4, 1) := by decide +kernel
theorem d_Machine_locate_94 : decode prog_7_method_12_code 94 = .ok (.if_icmp .lt 21, 3) := by decide +kernel
theorem d_Machine_locate_115 : decode prog_7_method_12_code 115 = .ok (.iconst 0, 1) := by decide +kernel
theorem d_Machine_locate_116 : decode prog_7_method_12_code 116 = .ok (.ireturn, 1) := by decide +kernel
theorem d_Machine_locate_97 : decode prog_7_method_12_code 97 = .ok (.aload_n 0, 1) := by decide +kernel
theorem d_Machine_locate_98 : decode prog_7_method_12_code 98 = .ok (.iload 4, 2) := by decide +kernel
theorem d_Machine_locate_100 : decode prog_7_method_12_code 100 = .ok (.iconst 4, 1) := by decide +kernel
theorem d_Machine_locate_101 : decode prog_7_method_12_code 101 = .ok (.isub, 1) := by decide +kernel
theorem d_Machine_locate_102 : decode prog_7_method_12_code 102 = .ok (.lload 5, 2) := by decide +kernel
theorem d_Machine_locate_104 : decode prog_7_method_12_code 104 = .ok (.iload_n 3, 1) := by decide +kernel
theorem d_Machine_locate_105 : decode prog_7_method_12_code 105 = .ok (.invokevirtual 227, 3) := by decide +kernel
theorem u_1698 : Cond.methodLink "FilterGuard$Machine" 227 ⟨"FilterGuard$Machine", "locateValue", "(IJI)Z"⟩ ∈ fg_g := fg_in (List.mem_of_getElem? (i := 1698) (by decide +kernel)) rfl
theorem u_1701 : Cond.code ⟨"FilterGuard$Machine", "locateValue", "(IJI)Z"⟩ prog_7_method_13_code 10 (some .boolean) ∈ fg_g := fg_in (List.mem_of_getElem? (i := 1701) (by decide +kernel)) rfl
theorem u_1700 : Cond.instanceMethod ⟨"FilterGuard$Machine", "locateValue", "(IJI)Z"⟩ ∈ fg_g := fg_in (List.mem_of_getElem? (i := 1700) (by decide +kernel)) rfl
theorem u_81 : Cond.selects "FilterGuard$Machine" ⟨"FilterGuard$Machine", "locateValue", "(IJI)Z"⟩ ⟨"FilterGuard$Machine", "locateValue", "(IJI)Z"⟩ ∈ fg_g := fg_in (List.mem_of_getElem? (i := 81) (by decide +kernel)) rfl
theorem d_Machine_locate_108 : decode prog_7_method_12_code 108 = .ok (.ifCond .eq 7, 3) := by decide +kernel
theorem d_Machine_locate_111 : decode prog_7_method_12_code 111 = .ok (.iconst 1, 1) := by decide +kernel
theorem d_Machine_locate_112 : decode prog_7_method_12_code 112 = .ok (.goto 4, 3) := by decide +kernel
theorem d_Machine_locate_73 : decode prog_7_method_12_code 73 = .ok (.aload_n 0, 1) := by decide +kernel
theorem d_Machine_locate_74 : decode prog_7_method_12_code 74 = .ok (.aload_n 0, 1) := by decide +kernel
theorem d_Machine_locate_75 : decode prog_7_method_12_code 75 = .ok (.getfield 22, 3) := by decide +kernel
theorem d_Machine_locate_78 : decode prog_7_method_12_code 78 = .ok (.putfield 51, 3) := by decide +kernel
theorem d_Machine_locate_81 : decode prog_7_method_12_code 81 = .ok (.aload_n 0, 1) := by decide +kernel
theorem d_Machine_locate_82 : decode prog_7_method_12_code 82 = .ok (.getfield 60, 3) := by decide +kernel
theorem d_Machine_locate_85 : decode prog_7_method_12_code 85 = .ok (.i2l, 1) := by decide +kernel
theorem d_Machine_locate_86 : decode prog_7_method_12_code 86 = .ok (.lstore 9, 2) := by decide +kernel
theorem d_Machine_locate_88 : decode prog_7_method_12_code 88 = .ok (.goto 29, 3) := by decide +kernel
theorem d_Machine_locate_46 : decode prog_7_method_12_code 46 = .ok (.aload_n 0, 1) := by decide +kernel
theorem d_Machine_locate_47 : decode prog_7_method_12_code 47 = .ok (.aload_n 0, 1) := by decide +kernel
theorem d_Machine_locate_48 : decode prog_7_method_12_code 48 = .ok (.getfield 15, 3) := by decide +kernel
theorem d_Machine_locate_51 : decode prog_7_method_12_code 51 = .ok (.putfield 51, 3) := by decide +kernel
theorem d_Machine_locate_54 : decode prog_7_method_12_code 54 = .ok (.ldc2_w 225, 3) := by decide +kernel
theorem u_1688 : Cond.constantLong "FilterGuard$Machine" 225 512 ∈ fg_g := fg_in (List.mem_of_getElem? (i := 1688) (by decide +kernel)) rfl
theorem d_Machine_locate_57 : decode prog_7_method_12_code 57 = .ok (.lstore 7, 2) := by decide +kernel
theorem d_Machine_locate_59 : decode prog_7_method_12_code 59 = .ok (.ldc2_w 225, 3) := by decide +kernel
theorem d_Machine_locate_62 : decode prog_7_method_12_code 62 = .ok (.lstore 9, 2) := by decide +kernel
theorem d_Machine_locate_64 : decode prog_7_method_12_code 64 = .ok (.goto 53, 3) := by decide +kernel
theorem d_Machine_locate_24 : decode prog_7_method_12_code 24 = .ok (.aload_n 0, 1) := by decide +kernel
theorem d_Machine_locate_25 : decode prog_7_method_12_code 25 = .ok (.aload_n 0, 1) := by decide +kernel
theorem d_Machine_locate_26 : decode prog_7_method_12_code 26 = .ok (.getfield 9, 3) := by decide +kernel
theorem d_Machine_locate_29 : decode prog_7_method_12_code 29 = .ok (.putfield 51, 3) := by decide +kernel
theorem d_Machine_locate_32 : decode prog_7_method_12_code 32 = .ok (.ldc2_w 223, 3) := by decide +kernel
theorem u_1697 : Cond.constantLong "FilterGuard$Machine" 223 64 ∈ fg_g := fg_in (List.mem_of_getElem? (i := 1697) (by decide +kernel)) rfl
theorem d_Machine_locate_35 : decode prog_7_method_12_code 35 = .ok (.lstore 9, 2) := by decide +kernel
theorem d_Machine_locate_37 : decode prog_7_method_12_code 37 = .ok (.goto 80, 3) := by decide +kernel
abbrev y_Machine_locate : MethodName := ⟨"FilterGuard$Machine", "locate", "(JI)Z"⟩
def rm_Machine_locate : Room := { frames := 2, cells := 0, slots := 0, locals := 49 }
abbrev q_Machine_locate (D : va_G) (ad : Nat → Nat → Nat) (ca : Nat → ClassId) (N : Nat → Nat) (M0 MZ : me_M) (RZ : Int32) (A : Nat → Prop) : Array Value → Jvm.State → Outcome → Jvm.State → Prop := va_Qi (fun r (_ : Unit) => r = RZ ∧ me_wf N MZ ∧ me_kz M0 MZ ∧ (RZ = 1 ∨ RZ = 0)) (fg_B D A (fun _ => me_W ad ca MZ) (fun _ => [])) A
set_option maxHeartbeats 4000000 in
set_option maxRecDepth 100000 in
theorem c_Machine_locate (l : Launch) (D : va_G) (ad : Nat → Nat → Nat) (ca : Nat → ClassId) (N : Nat → Nat) (M0 MZ : me_M) (RZ : Int32) (j0 : Nat) (x1 : Int64) (x3 : Int32) (h : f_Machine_locate M0 j0 x1 x3 = (some (MZ, RZ))) (hwf : me_wf N M0) (hj0 : j0 < N 5) (sz : Nat) : Met l y_Machine_locate (fg_w y_Machine_locate prog_7_method_12_code 11 (some .boolean)) rm_Machine_locate (va_Pc [.ref (ad 5 j0), .long x1, .int x3] (fz_P D (me_T ca) (me_W ad ca M0) sz)) (q_Machine_locate D ad ca N M0 MZ RZ (va_A (me_W ad ca M0) sz)) rm_Machine_locate.cells rm_Machine_locate.slots (va_A (me_W ad ca M0) sz) := by
  refine fz_enter (fun A => q_Machine_locate D ad ca N M0 MZ RZ A) (by decide +kernel) (Nat.le_of_ble_eq_true rfl) ?_
  intro p e s m below meth c ls A hx hb hml hown hts hr hlocks hin hP hK hD hS hA hX hl hz
  have hl : lv_has ls 11 [(0, .ref (ad 5 j0)), (1, .long x1), (3, .int x3)] := hl
  unfold f_Machine_locate at h
  have hkp : me_kz M0 M0 := me_kz.rf
  have hkb := hkp
  have b_117 : ∀ (M : me_M) (y5 : Int64) (y7 : Int64) (y9 : Int64) (H : Heap) (locs : List Loc) (ls : Array Slot), f_Machine_locate_b117 j0 x3 M y5 y7 y9 = (some (MZ, RZ)) → me_wf N M → me_kz M0 M → va_P D classes (me_W ad ca M) H → va_D A (me_W ad ca M) → va_S A s.heap H locs → lv_has ls 11 [(0, .ref (ad 5 j0)), (3, .int x3), (5, .long y5), (7, .long y7), (9, .long y9)] → W p l e rm_Machine_locate s m [.ref (ad 5 j0), .long x1, .int x3].toArray below meth c H locs 0 0 (MQ below (q_Machine_locate D ad ca N M0 MZ RZ A) [.ref (ad 5 j0), .long x1, .int x3].toArray s rm_Machine_locate.cells rm_Machine_locate.slots A) (F0 m 117 ls []) := by
    intro M y5 y7 y9 H locs ls h hwf hkp hP hD hS hl
    unfold f_Machine_locate_b117 at h
    have hkb := hkp
    refine lv_aload_n hx hb d_Machine_locate_117 rfl (lv_at hl 0 rfl) ?_
    refine lv_lload hx hb d_Machine_locate_118 (lv_at hl 3 rfl) ?_
    refine lv_lload hx hb d_Machine_locate_120 (lv_at hl 2 rfl) ?_
    refine lv_ladd hx hb d_Machine_locate_122 ?_
    refine lv_l2i (v := (y7 + y5).toInt32) hx hb d_Machine_locate_123 rfl ?_
    obtain ⟨M1, eM1, h⟩ := st_ob h
    refine p_Machine_19 eM1 hx hb hts hown hK hP hD hwf hS hj0 (hts _ u_651) d_Machine_locate_124 (fun H locs hP hD hwf hS => ?_)
    have hkp := kz_I eM1 hkp
    refine lv_lload hx hb d_Machine_locate_127 (lv_at hl 2 rfl) ?_
    refine lv_lload hx hb d_Machine_locate_129 (lv_at hl 3 rfl) ?_
    refine lv_lneg hx hb d_Machine_locate_131 ?_
    refine W.lcmp hx hb d_Machine_locate_132 ?_
    refine lv_if_lt (tgt := 154) hx hb d_Machine_locate_133 (by decide) (fun c2 => ?_) (fun c2 => ?_)
    · have h := if_t ((lg_cmp_lt _ _).mp c2) h
      refine lv_iconst (v := 0) hx hb d_Machine_locate_154 (by decide) ?_
      exact me_retz (me_kz M0) h (by decide) hx hb hr hlocks hwf hkp hP hK hD hS d_Machine_locate_155
    have h := if_f (fun z => c2 ((lg_cmp_lt _ _).mpr z)) h
    refine lv_lload hx hb d_Machine_locate_136 (lv_at hl 3 rfl) ?_
    refine lv_lload hx hb d_Machine_locate_138 (lv_at hl 2 rfl) ?_
    refine lv_ladd hx hb d_Machine_locate_140 ?_
    refine lv_iload_n hx hb d_Machine_locate_141 rfl (lv_at hl 1 rfl) ?_
    refine lv_i2l (v := x3.toInt64) hx hb d_Machine_locate_142 rfl ?_
    refine lv_ladd hx hb d_Machine_locate_143 ?_
    refine lv_lload hx hb d_Machine_locate_144 (lv_at hl 4 rfl) ?_
    refine W.lcmp hx hb d_Machine_locate_146 ?_
    refine lv_if_gt (tgt := 154) hx hb d_Machine_locate_147 (by decide) (fun c3 => ?_) (fun c3 => ?_)
    · have h := if_t ((lg_cmp_gt _ _).mp c3) h
      refine lv_iconst (v := 0) hx hb d_Machine_locate_154 (by decide) ?_
      exact me_retz (me_kz M0) h (by decide) hx hb hr hlocks hwf hkp hP hK hD hS d_Machine_locate_155
    have h := if_f (fun z => c3 ((lg_cmp_gt _ _).mpr z)) h
    refine lv_iconst (v := 1) hx hb d_Machine_locate_150 (by decide) ?_
    refine lv_goto (tgt := 155) hx hb d_Machine_locate_151 (by decide) ?_
    exact me_retz (me_kz M0) h (by decide) hx hb hr hlocks hwf hkp hP hK hD hS d_Machine_locate_155
  refine lv_lload_n hx hb d_Machine_locate_0 rfl (lv_at hl 1 rfl) ?_
  obtain ⟨r4, er4, h⟩ := bd_ob h
  refine me_pani' (r0 := r4) (fg_runSN (wc := []) (tc := []) (A2 := A) (As := [.long x1]) (rest := []) ⟨hx, hb, hml, hown, hts⟩ (c_G_areaOf l D r4 x1 er4 _) (by show fg_nm y_G_areaOf 1; decide +kernel) o_1693 u_1694 u_181 u_1695 ⟨Nat.le_of_ble_eq_true rfl, Nat.le_of_ble_eq_true rfl⟩ hX me_P0 (hK.sub (tys' := []) [] rfl) me_D0 rfl hl.1 (Nat.le_of_ble_eq_true rfl) d_Machine_locate_1 ⟨Nat.le_of_ble_eq_true rfl, Nat.le_of_ble_eq_true rfl⟩) hP hD hK hS hA rfl rfl (fun H locs hw hP hD hS => ?_)
  refine lv_istore (lv' := [(4, .int r4), (0, .ref (ad 5 j0)), (1, .long x1), (3, .int x3)]) hx hb d_Machine_locate_4 hl (by decide) rfl (fun ls hl => ?_)
  refine lv_lload_n hx hb d_Machine_locate_6 rfl (lv_at hl 2 rfl) ?_
  refine lv_iload hx hb d_Machine_locate_7 (lv_at hl 0 rfl) ?_
  obtain ⟨r5, er5, h⟩ := bd_ob h
  refine me_panl' (r0 := r5) (fg_runSN (wc := []) (tc := []) (A2 := A) (As := [.int r4]) (rest := [.long x1]) ⟨hx, hb, hml, hown, hts⟩ (c_G_baseOf l D r5 r4 er5 _) (by show fg_nm y_G_baseOf 1; decide +kernel) o_1586 u_1587 u_181 u_1588 ⟨Nat.le_of_ble_eq_true rfl, Nat.le_of_ble_eq_true rfl⟩ hX me_P0 (hK.sub (tys' := []) [] rfl) me_D0 rfl hl.1 (Nat.le_of_ble_eq_true rfl) d_Machine_locate_9 ⟨Nat.le_of_ble_eq_true rfl, Nat.le_of_ble_eq_true rfl⟩) hP hD hK hS hA rfl rfl (fun H locs hw hP hD hS => ?_)
  refine lv_lsub hx hb d_Machine_locate_12 ?_
  obtain ⟨v6, ev6, h⟩ := st_ob h
  refine fg_topl (y := v6) ev6.symm ?_
  refine lv_lstore (lv' := [(5, .long v6), (4, .int r4), (0, .ref (ad 5 j0)), (1, .long x1), (3, .int x3)]) hx hb d_Machine_locate_13 hl (by decide) rfl (fun ls hl => ?_)
  refine lv_lconst (v := 0) hx hb d_Machine_locate_15 (by decide) ?_
  refine lv_lstore (lv' := [(7, .long 0), (5, .long v6), (4, .int r4), (0, .ref (ad 5 j0)), (1, .long x1), (3, .int x3)]) hx hb d_Machine_locate_16 hl (by decide) rfl (fun ls hl => ?_)
  refine lv_iload hx hb d_Machine_locate_18 (lv_at hl 2 rfl) ?_
  refine lv_iconst (v := 1) hx hb d_Machine_locate_20 (by decide) ?_
  refine lv_icmp_ne (tgt := 40) hx hb d_Machine_locate_21 (by decide) (fun c7 => ?_) (fun c7 => ?_)
  · have h := if_f c7 h
    refine lv_iload hx hb d_Machine_locate_40 (lv_at hl 2 rfl) ?_
    refine lv_iconst (v := 2) hx hb d_Machine_locate_42 (by decide) ?_
    refine lv_icmp_ne (tgt := 67) hx hb d_Machine_locate_43 (by decide) (fun c8 => ?_) (fun c8 => ?_)
    · have h := if_f c8 h
      refine lv_iload hx hb d_Machine_locate_67 (lv_at hl 2 rfl) ?_
      refine lv_iconst (v := 3) hx hb d_Machine_locate_69 (by decide) ?_
      refine lv_icmp_ne (tgt := 91) hx hb d_Machine_locate_70 (by decide) (fun c9 => ?_) (fun c9 => ?_)
      · have h := if_f c9 h
        refine lv_iload hx hb d_Machine_locate_91 (lv_at hl 2 rfl) ?_
        refine lv_iconst (v := 4) hx hb d_Machine_locate_93 (by decide) ?_
        refine lv_icmp_lt (tgt := 115) hx hb d_Machine_locate_94 (by decide) (fun c10 => ?_) (fun c10 => ?_)
        · have h := if_t c10 h
          refine lv_iconst (v := 0) hx hb d_Machine_locate_115 (by decide) ?_
          exact me_retz (me_kz M0) h (by decide) hx hb hr hlocks hwf hkp hP hK hD hS d_Machine_locate_116
        have h := if_f c10 h
        refine lv_aload_n hx hb d_Machine_locate_97 rfl (lv_at hl 3 rfl) ?_
        refine lv_iload hx hb d_Machine_locate_98 (lv_at hl 2 rfl) ?_
        refine lv_iconst (v := 4) hx hb d_Machine_locate_100 (by decide) ?_
        refine lv_isub hx hb d_Machine_locate_101 ?_
        refine lv_lload hx hb d_Machine_locate_102 (lv_at hl 1 rfl) ?_
        refine lv_iload_n hx hb d_Machine_locate_104 rfl (lv_at hl 5 rfl) ?_
        obtain ⟨M11, r12, eM11, h⟩ := b2_ob h
        refine me_theni0 (M1 := M11) (me_runV (C := "FilterGuard$Machine") (As := [.int (r4 - 4), .long v6, .int x3]) (rest := []) ⟨hx, hb, hml, hown, hts⟩ (c_Machine_locateValue l D ad ca N M0 M11 r12 j0 (r4 - 4) v6 x3 eM11 hwf hj0 _) rfl (by show fg_nm y_Machine_locateValue 3; decide +kernel) u_1698 u_1700 u_81 u_190 u_1701 ⟨Nat.le_of_ble_eq_true rfl, Nat.le_of_ble_eq_true rfl⟩ hX hz hK hP hD hwf hS hA hj0 (by decide) rfl rfl rfl hl.1 (Nat.le_of_ble_eq_true rfl) d_Machine_locate_105 ⟨Nat.le_of_ble_eq_true rfl, Nat.le_of_ble_eq_true rfl⟩) hP hD hK hS hA rfl rfl (fun H locs hw hP hD hS => ?_)
        obtain ⟨hwf, hk9, zr12⟩ := hw
        have hkp := hkp.tr hk9
        refine lv_if_eq (tgt := 115) hx hb d_Machine_locate_108 (by decide) (fun c13 => ?_) (fun c13 => ?_)
        · have h := if_t c13 h
          refine lv_iconst (v := 0) hx hb d_Machine_locate_115 (by decide) ?_
          exact me_retz (me_kz M0) h (by decide) hx hb hr hlocks hwf hkp hP hK hD hS d_Machine_locate_116
        have h := if_f c13 h
        refine lv_iconst (v := 1) hx hb d_Machine_locate_111 (by decide) ?_
        refine lv_goto (tgt := 116) hx hb d_Machine_locate_112 (by decide) ?_
        exact me_retz (me_kz M0) h (by decide) hx hb hr hlocks hwf hkp hP hK hD hS d_Machine_locate_116
      have h := if_t c9 h
      refine lv_aload_n hx hb d_Machine_locate_73 rfl (lv_at hl 3 rfl) ?_
      refine lv_aload_n hx hb d_Machine_locate_74 rfl (lv_at hl 3 rfl) ?_
      refine g_Machine_7 hx hb hts hown hK hP hwf hj0 (hts _ u_630) d_Machine_locate_75 ?_
      obtain ⟨j14, e15, h⟩ := bd_ob h
      have hj14 : j14 < N 14 := (hwf.2.1 5 j0 7 _ e15 (by decide) hj0)
      refine me_opt (j := j14) e15 ?_
      obtain ⟨M16, eM16, h⟩ := st_ob h
      refine p_Machine_18 eM16 hx hb hts hown hK hP hD hwf hS hj0 hj14 (hts _ u_650) d_Machine_locate_78 (fun H locs hP hD hwf hS => ?_)
      have hkp := kz_R eM16 hkp
      refine lv_aload_n hx hb d_Machine_locate_81 rfl (lv_at hl 3 rfl) ?_
      refine g_Machine_8 hx hb hts hown hK hP hwf hj0 (hts _ u_632) d_Machine_locate_82 ?_
      refine lv_i2l (v := (mI M16 5 j0 8).toInt64) hx hb d_Machine_locate_85 rfl ?_
      obtain ⟨v17, ev17, h⟩ := st_ob h
      refine fg_topl (y := v17) ev17.symm ?_
      refine lv_lstore (lv' := [(9, .long v17), (7, .long 0), (5, .long v6), (4, .int r4), (0, .ref (ad 5 j0)), (1, .long x1), (3, .int x3)]) hx hb d_Machine_locate_86 hl (by decide) rfl (fun ls hl => ?_)
      refine lv_goto (tgt := 117) hx hb d_Machine_locate_88 (by decide) ?_
      exact b_117 M16 v6 (0 : Int64) v17 _ _ _ h hwf hkp hP hD hS (lv_sub hl [4, 6, 2, 1, 0] rfl)
    have h := if_t c8 h
    refine lv_aload_n hx hb d_Machine_locate_46 rfl (lv_at hl 3 rfl) ?_
    refine lv_aload_n hx hb d_Machine_locate_47 rfl (lv_at hl 3 rfl) ?_
    refine g_Machine_5 hx hb hts hown hK hP hwf hj0 (hts _ u_628) d_Machine_locate_48 ?_
    obtain ⟨j18, e19, h⟩ := bd_ob h
    have hj18 : j18 < N 14 := (hwf.2.1 5 j0 5 _ e19 (by decide) hj0)
    refine me_opt (j := j18) e19 ?_
    obtain ⟨M20, eM20, h⟩ := st_ob h
    refine p_Machine_18 eM20 hx hb hts hown hK hP hD hwf hS hj0 hj18 (hts _ u_650) d_Machine_locate_51 (fun H locs hP hD hwf hS => ?_)
    have hkp := kz_R eM20 hkp
    refine lv_ldc2 hx hb hown (hts _ u_1688) d_Machine_locate_54 ?_
    refine lv_lstore (lv' := [(7, .long 512), (5, .long v6), (4, .int r4), (0, .ref (ad 5 j0)), (1, .long x1), (3, .int x3)]) hx hb d_Machine_locate_57 hl (by decide) rfl (fun ls hl => ?_)
    refine lv_ldc2 hx hb hown (hts _ u_1688) d_Machine_locate_59 ?_
    refine lv_lstore (lv' := [(9, .long 512), (7, .long 512), (5, .long v6), (4, .int r4), (0, .ref (ad 5 j0)), (1, .long x1), (3, .int x3)]) hx hb d_Machine_locate_62 hl (by decide) rfl (fun ls hl => ?_)
    refine lv_goto (tgt := 117) hx hb d_Machine_locate_64 (by decide) ?_
    exact b_117 M20 v6 (512 : Int64) (512 : Int64) _ _ _ h hwf hkp hP hD hS (lv_sub hl [4, 6, 2, 1, 0] rfl)
  have h := if_t c7 h
  refine lv_aload_n hx hb d_Machine_locate_24 rfl (lv_at hl 3 rfl) ?_
  refine lv_aload_n hx hb d_Machine_locate_25 rfl (lv_at hl 3 rfl) ?_
  refine g_Machine_4 hx hb hts hown hK hP hwf hj0 (hts _ u_627) d_Machine_locate_26 ?_
  obtain ⟨j21, e22, h⟩ := bd_ob h
  have hj21 : j21 < N 14 := (hwf.2.1 5 j0 4 _ e22 (by decide) hj0)
  refine me_opt (j := j21) e22 ?_
  obtain ⟨M23, eM23, h⟩ := st_ob h
  refine p_Machine_18 eM23 hx hb hts hown hK hP hD hwf hS hj0 hj21 (hts _ u_650) d_Machine_locate_29 (fun H locs hP hD hwf hS => ?_)
  have hkp := kz_R eM23 hkp
  refine lv_ldc2 hx hb hown (hts _ u_1697) d_Machine_locate_32 ?_
  refine lv_lstore (lv' := [(9, .long 64), (7, .long 0), (5, .long v6), (4, .int r4), (0, .ref (ad 5 j0)), (1, .long x1), (3, .int x3)]) hx hb d_Machine_locate_35 hl (by decide) rfl (fun ls hl => ?_)
  refine lv_goto (tgt := 117) hx hb d_Machine_locate_37 (by decide) ?_
  exact b_117 M23 v6 (0 : Int64) (64 : Int64) _ _ _ h hwf hkp hP hD hS (lv_sub hl [4, 6, 2, 1, 0] rfl)
