theorem d_M_isArithmetic_0 : decode prog_14_method_54_code 0 = .ok (.iload_n 0, 1) := by decide +kernel
theorem d_M_isArithmetic_1 : decode prog_14_method_54_code 1 = .ok (.bipush 6, 2) := by decide +kernel
theorem d_M_isArithmetic_3 : decode prog_14_method_54_code 3 = .ok (.if_icmp .lt 13, 3) := by decide +kernel
theorem d_M_isArithmetic_16 : decode prog_14_method_54_code 16 = .ok (.iconst 0, 1) := by decide +kernel
theorem d_M_isArithmetic_17 : decode prog_14_method_54_code 17 = .ok (.ireturn, 1) := by decide +kernel
theorem d_M_isArithmetic_6 : decode prog_14_method_54_code 6 = .ok (.iload_n 0, 1) := by decide +kernel
theorem d_M_isArithmetic_7 : decode prog_14_method_54_code 7 = .ok (.bipush 9, 2) := by decide +kernel
theorem d_M_isArithmetic_9 : decode prog_14_method_54_code 9 = .ok (.if_icmp .gt 7, 3) := by decide +kernel
theorem d_M_isArithmetic_12 : decode prog_14_method_54_code 12 = .ok (.iconst 1, 1) := by decide +kernel
theorem d_M_isArithmetic_13 : decode prog_14_method_54_code 13 = .ok (.goto 4, 3) := by decide +kernel
abbrev y_M_isArithmetic : MethodName := ⟨"FilterGuardModel", "isArithmetic", "(I)Z"⟩
def rm_M_isArithmetic : Room := { frames := 1, cells := 0, slots := 0, locals := 20 }
abbrev q_M_isArithmetic (D : va_G) (RZ : Int32) (A : Nat → Prop) : Array Value → Jvm.State → Outcome → Jvm.State → Prop := va_Qi (fun r (_ : Unit) => r = RZ ∧ (RZ = 1 ∨ RZ = 0)) (fg_B D A (fun _ => []) (fun _ => [])) A
set_option maxHeartbeats 4000000 in
set_option maxRecDepth 100000 in
theorem c_M_isArithmetic (l : Launch) (D : va_G) (RZ : Int32) (x0 : Int32) (h : f_M_isArithmetic x0 = (some RZ)) (sz : Nat) : Met l y_M_isArithmetic (fg_w y_M_isArithmetic prog_14_method_54_code 1 (some .boolean)) rm_M_isArithmetic (va_Pc [.int x0] (fg_P D [] [] sz)) (q_M_isArithmetic D RZ (va_A [] sz)) rm_M_isArithmetic.cells rm_M_isArithmetic.slots (va_A [] sz) := by
  refine fg_enter (fun A => q_M_isArithmetic D RZ A) (by decide +kernel) (Nat.le_of_ble_eq_true rfl) ?_
  intro p e s m below meth c ls A hx hb hml hown hts hr hlocks hin hP hK hD hS hA hX hl
  have hl : lv_has ls 1 [(0, .int x0)] := hl
  unfold f_M_isArithmetic at h
  refine lv_iload_n hx hb d_M_isArithmetic_0 rfl (lv_at hl 0 rfl) ?_
  refine lv_bipush (v := 6) hx hb d_M_isArithmetic_1 (by decide) ?_
  refine lv_icmp_lt (tgt := 16) hx hb d_M_isArithmetic_3 (by decide) (fun c1 => ?_) (fun c1 => ?_)
  · have h := if_t c1 h
    refine lv_iconst (v := 0) hx hb d_M_isArithmetic_16 (by decide) ?_
    exact me_pretz h (by decide) hx hb hr hlocks hK hS d_M_isArithmetic_17
  have h := if_f c1 h
  refine lv_iload_n hx hb d_M_isArithmetic_6 rfl (lv_at hl 0 rfl) ?_
  refine lv_bipush (v := 9) hx hb d_M_isArithmetic_7 (by decide) ?_
  refine lv_icmp_gt (tgt := 16) hx hb d_M_isArithmetic_9 (by decide) (fun c2 => ?_) (fun c2 => ?_)
  · have h := if_t c2 h
    refine lv_iconst (v := 0) hx hb d_M_isArithmetic_16 (by decide) ?_
    exact me_pretz h (by decide) hx hb hr hlocks hK hS d_M_isArithmetic_17
  have h := if_f c2 h
  refine lv_iconst (v := 1) hx hb d_M_isArithmetic_12 (by decide) ?_
  refine lv_goto (tgt := 17) hx hb d_M_isArithmetic_13 (by decide) ?_
  exact me_pretz h (by decide) hx hb hr hlocks hK hS d_M_isArithmetic_17
theorem d_M_isWellMade_167 : decode prog_14_method_55_code 167 = .ok (.laload, 1) := by decide +kernel
theorem d_M_isWellMade_168 : decode prog_14_method_55_code 168 = .ok (.ldc2_w 203, 3) := by decide +kernel
theorem d_M_isWellMade_171 : decode prog_14_method_55_code 171 = .ok (.land, 1) := by decide +kernel
theorem d_M_isWellMade_172 : decode prog_14_method_55_code 172 = .ok (.lconst 0, 1) := by decide +kernel
theorem d_M_isWellMade_173 : decode prog_14_method_55_code 173 = .ok (.lcmp, 1) := by decide +kernel
theorem d_M_isWellMade_174 : decode prog_14_method_55_code 174 = .ok (.ifCond .ne 39, 3) := by decide +kernel
theorem d_M_isWellMade_213 : decode prog_14_method_55_code 213 = .ok (.iconst 0, 1) := by decide +kernel
theorem d_M_isWellMade_214 : decode prog_14_method_55_code 214 = .ok (.ireturn, 1) := by decide +kernel
theorem d_M_isWellMade_177 : decode prog_14_method_55_code 177 = .ok (.iload 8, 2) := by decide +kernel
theorem d_M_isWellMade_179 : decode prog_14_method_55_code 179 = .ok (.ifCond .eq 34, 3) := by decide +kernel
theorem d_M_isWellMade_182 : decode prog_14_method_55_code 182 = .ok (.iload 7, 2) := by decide +kernel
theorem d_M_isWellMade_184 : decode prog_14_method_55_code 184 = .ok (.ifCond .ne 25, 3) := by decide +kernel
theorem d_M_isWellMade_209 : decode prog_14_method_55_code 209 = .ok (.iconst 1, 1) := by decide +kernel
theorem d_M_isWellMade_210 : decode prog_14_method_55_code 210 = .ok (.goto 4, 3) := by decide +kernel
theorem d_M_isWellMade_187 : decode prog_14_method_55_code 187 = .ok (.lload_n 2, 1) := by decide +kernel
theorem d_M_isWellMade_188 : decode prog_14_method_55_code 188 = .ok (.invokestatic 318, 3) := by decide +kernel
theorem u_2010 : Cond.methodLink "FilterGuardModel" 318 ⟨"FilterGuardModel", "fromOf", "(J)I"⟩ ∈ fg_g := fg_in (List.mem_of_getElem? (i := 2010) (by decide +kernel)) rfl
theorem u_2012 : Cond.code ⟨"FilterGuardModel", "fromOf", "(J)I"⟩ prog_14_method_46_code 2 (some .int) ∈ fg_g := fg_in (List.mem_of_getElem? (i := 2012) (by decide +kernel)) rfl
theorem u_2011 : Cond.static ⟨"FilterGuardModel", "fromOf", "(J)I"⟩ ∈ fg_g := fg_in (List.mem_of_getElem? (i := 2011) (by decide +kernel)) rfl
theorem d_M_isWellMade_191 : decode prog_14_method_55_code 191 = .ok (.iconst 1, 1) := by decide +kernel
theorem d_M_isWellMade_192 : decode prog_14_method_55_code 192 = .ok (.if_icmp .ne 21, 3) := by decide +kernel
theorem d_M_isWellMade_195 : decode prog_14_method_55_code 195 = .ok (.aload_n 0, 1) := by decide +kernel
theorem d_M_isWellMade_196 : decode prog_14_method_55_code 196 = .ok (.getfield 37, 3) := by decide +kernel
theorem g_M_13 {p : Program} {l : Launch} {e : Env} {R : Room} {s : Jvm.State} {m : MethodId} {args : Array Value} {below : List Frame} {meth : Method} {c : Code} {H : Heap} {locs : List Loc} {cells slots : Nat} {Q : Jvm.State → Prop} {cc : ByteArray} {pc : Nat} {ls : Array Slot} {rest : List Value} {D : va_G} {ad : Nat → Nat → Nat} {ca : Nat → ClassId} {M : me_M} {N : Nat → Nat} {own : String} {index j : Nat} (hexec : p.tables.exec = Jvm.exec) (hb : c.code = cc) (hts : ∀ w ∈ fg_g, w.before args s = true) (hown : s.vm.findClass own = some m.cls) (hK : va_K D classes (me_T ca) s) (hP : va_P D classes (me_W ad ca M) H) (hwf : me_wf N M) (hj : j < N 1) (hlink : (Cond.fieldLink own index "FilterGuardModel" "slot" "[J").before args s = true) (hdg : decode cc pc = .ok (.getfield index, 3)) (kk : W p l e R s m args below meth c H locs cells slots Q (F0 m (pc + 3) ls (va_rf ((mR M 1 j 13).map (ad 16)) :: rest))) : W p l e R s m args below meth c H locs cells slots Q (F0 m pc ls (.ref (ad 1 j) :: rest)) := me_get (k := 1) (f := 13) (C := "FilterGuardModel") (T := F_M) (Nf := 75) hexec hb hts i_M hown hK hP hwf hj (by decide) rfl (by decide) (by decide) hlink (fun _ h9 => h9) hdg kk
theorem d_M_isWellMade_199 : decode prog_14_method_55_code 199 = .ok (.iload_n 1, 1) := by decide +kernel
theorem d_M_isWellMade_200 : decode prog_14_method_55_code 200 = .ok (.iconst 1, 1) := by decide +kernel
theorem d_M_isWellMade_201 : decode prog_14_method_55_code 201 = .ok (.iadd, 1) := by decide +kernel
theorem d_M_isWellMade_202 : decode prog_14_method_55_code 202 = .ok (.laload, 1) := by decide +kernel
theorem d_M_isWellMade_203 : decode prog_14_method_55_code 203 = .ok (.invokestatic 324, 3) := by decide +kernel
theorem u_2016 : Cond.methodLink "FilterGuardModel" 324 ⟨"FilterGuardModel", "fieldOf", "(J)I"⟩ ∈ fg_g := fg_in (List.mem_of_getElem? (i := 2016) (by decide +kernel)) rfl
theorem u_2018 : Cond.code ⟨"FilterGuardModel", "fieldOf", "(J)I"⟩ prog_14_method_48_code 2 (some .int) ∈ fg_g := fg_in (List.mem_of_getElem? (i := 2018) (by decide +kernel)) rfl
theorem u_2017 : Cond.static ⟨"FilterGuardModel", "fieldOf", "(J)I"⟩ ∈ fg_g := fg_in (List.mem_of_getElem? (i := 2017) (by decide +kernel)) rfl
theorem d_M_isWellMade_206 : decode prog_14_method_55_code 206 = .ok (.ifCond .ne 7, 3) := by decide +kernel
theorem d_M_isWellMade_60 : decode prog_14_method_55_code 60 = .ok (.istore 8, 2) := by decide +kernel
theorem d_M_isWellMade_62 : decode prog_14_method_55_code 62 = .ok (.lload_n 2, 1) := by decide +kernel
theorem d_M_isWellMade_63 : decode prog_14_method_55_code 63 = .ok (.invokestatic 324, 3) := by decide +kernel
theorem d_M_isWellMade_66 : decode prog_14_method_55_code 66 = .ok (.istore 9, 2) := by decide +kernel
theorem d_M_isWellMade_68 : decode prog_14_method_55_code 68 = .ok (.iload 5, 2) := by decide +kernel
theorem d_M_isWellMade_70 : decode prog_14_method_55_code 70 = .ok (.tableswitch 341 1 13 #[66, 145, 145, 156, 145, 159, 191, 212, 212, 249, 270, 294, 315], 66) := by decide +kernel
theorem d_M_isWellMade_136 : decode prog_14_method_55_code 136 = .ok (.iload_n 1, 1) := by decide +kernel
theorem d_M_isWellMade_137 : decode prog_14_method_55_code 137 = .ok (.iconst 1, 1) := by decide +kernel
theorem d_M_isWellMade_138 : decode prog_14_method_55_code 138 = .ok (.iadd, 1) := by decide +kernel
theorem d_M_isWellMade_139 : decode prog_14_method_55_code 139 = .ok (.aload_n 0, 1) := by decide +kernel
theorem d_M_isWellMade_140 : decode prog_14_method_55_code 140 = .ok (.getfield 327, 3) := by decide +kernel
theorem u_1753 : Cond.fieldLink "FilterGuardModel" 327 "FilterGuardModel" "told" "I" ∈ fg_g := fg_in (List.mem_of_getElem? (i := 1753) (by decide +kernel)) rfl
theorem g_M_12 {p : Program} {l : Launch} {e : Env} {R : Room} {s : Jvm.State} {m : MethodId} {args : Array Value} {below : List Frame} {meth : Method} {c : Code} {H : Heap} {locs : List Loc} {cells slots : Nat} {Q : Jvm.State → Prop} {cc : ByteArray} {pc : Nat} {ls : Array Slot} {rest : List Value} {D : va_G} {ad : Nat → Nat → Nat} {ca : Nat → ClassId} {M : me_M} {N : Nat → Nat} {own : String} {index j : Nat} (hexec : p.tables.exec = Jvm.exec) (hb : c.code = cc) (hts : ∀ w ∈ fg_g, w.before args s = true) (hown : s.vm.findClass own = some m.cls) (hK : va_K D classes (me_T ca) s) (hP : va_P D classes (me_W ad ca M) H) (hwf : me_wf N M) (hj : j < N 1) (hlink : (Cond.fieldLink own index "FilterGuardModel" "told" "I").before args s = true) (hdg : decode cc pc = .ok (.getfield index, 3)) (kk : W p l e R s m args below meth c H locs cells slots Q (F0 m (pc + 3) ls (.int (mI M 1 j 12) :: rest))) : W p l e R s m args below meth c H locs cells slots Q (F0 m pc ls (.ref (ad 1 j) :: rest)) := me_get (k := 1) (f := 12) (C := "FilterGuardModel") (T := F_M) (Nf := 75) hexec hb hts i_M hown hK hP hwf hj (by decide) rfl (by decide) (by decide) hlink (fun _ h9 => h9) hdg kk
theorem d_M_isWellMade_143 : decode prog_14_method_55_code 143 = .ok (.if_icmp .ge 70, 3) := by decide +kernel
theorem d_M_isWellMade_146 : decode prog_14_method_55_code 146 = .ok (.aload_n 0, 1) := by decide +kernel
theorem d_M_isWellMade_147 : decode prog_14_method_55_code 147 = .ok (.getfield 37, 3) := by decide +kernel
theorem d_M_isWellMade_150 : decode prog_14_method_55_code 150 = .ok (.iload_n 1, 1) := by decide +kernel
theorem d_M_isWellMade_151 : decode prog_14_method_55_code 151 = .ok (.iconst 1, 1) := by decide +kernel
theorem d_M_isWellMade_152 : decode prog_14_method_55_code 152 = .ok (.iadd, 1) := by decide +kernel
theorem d_M_isWellMade_153 : decode prog_14_method_55_code 153 = .ok (.aload_n 0, 1) := by decide +kernel
theorem d_M_isWellMade_154 : decode prog_14_method_55_code 154 = .ok (.getfield 327, 3) := by decide +kernel
theorem d_M_isWellMade_157 : decode prog_14_method_55_code 157 = .ok (.if_icmp .ge 9, 3) := by decide +kernel
theorem d_M_isWellMade_166 : decode prog_14_method_55_code 166 = .ok (.iload_n 1, 1) := by decide +kernel
theorem d_M_isWellMade_160 : decode prog_14_method_55_code 160 = .ok (.iload_n 1, 1) := by decide +kernel
theorem d_M_isWellMade_161 : decode prog_14_method_55_code 161 = .ok (.iconst 1, 1) := by decide +kernel
theorem d_M_isWellMade_162 : decode prog_14_method_55_code 162 = .ok (.iadd, 1) := by decide +kernel
theorem d_M_isWellMade_163 : decode prog_14_method_55_code 163 = .ok (.goto 4, 3) := by decide +kernel
theorem d_M_isWellMade_215 : decode prog_14_method_55_code 215 = .ok (.iload 9, 2) := by decide +kernel
theorem d_M_isWellMade_217 : decode prog_14_method_55_code 217 = .ok (.ifCond .ne 7, 3) := by decide +kernel
theorem d_M_isWellMade_224 : decode prog_14_method_55_code 224 = .ok (.iconst 0, 1) := by decide +kernel
theorem d_M_isWellMade_225 : decode prog_14_method_55_code 225 = .ok (.ireturn, 1) := by decide +kernel
theorem d_M_isWellMade_220 : decode prog_14_method_55_code 220 = .ok (.iconst 1, 1) := by decide +kernel
theorem d_M_isWellMade_221 : decode prog_14_method_55_code 221 = .ok (.goto 4, 3) := by decide +kernel
theorem d_M_isWellMade_226 : decode prog_14_method_55_code 226 = .ok (.iload 7, 2) := by decide +kernel
theorem d_M_isWellMade_228 : decode prog_14_method_55_code 228 = .ok (.ireturn, 1) := by decide +kernel
theorem d_M_isWellMade_229 : decode prog_14_method_55_code 229 = .ok (.iload 8, 2) := by decide +kernel
theorem d_M_isWellMade_231 : decode prog_14_method_55_code 231 = .ok (.ifCond .eq 28, 3) := by decide +kernel
theorem d_M_isWellMade_259 : decode prog_14_method_55_code 259 = .ok (.iconst 0, 1) := by decide +kernel
theorem d_M_isWellMade_260 : decode prog_14_method_55_code 260 = .ok (.ireturn, 1) := by decide +kernel
theorem d_M_isWellMade_234 : decode prog_14_method_55_code 234 = .ok (.iload 4, 2) := by decide +kernel
theorem d_M_isWellMade_236 : decode prog_14_method_55_code 236 = .ok (.invokestatic 330, 3) := by decide +kernel
theorem u_2020 : Cond.methodLink "FilterGuardModel" 330 ⟨"FilterGuardModel", "hasFrom", "(I)Z"⟩ ∈ fg_g := fg_in (List.mem_of_getElem? (i := 2020) (by decide +kernel)) rfl
theorem u_2022 : Cond.code ⟨"FilterGuardModel", "hasFrom", "(I)Z"⟩ prog_14_method_52_code 1 (some .boolean) ∈ fg_g := fg_in (List.mem_of_getElem? (i := 2022) (by decide +kernel)) rfl
theorem u_2021 : Cond.static ⟨"FilterGuardModel", "hasFrom", "(I)Z"⟩ ∈ fg_g := fg_in (List.mem_of_getElem? (i := 2021) (by decide +kernel)) rfl
theorem d_M_isWellMade_239 : decode prog_14_method_55_code 239 = .ok (.ifCond .eq 11, 3) := by decide +kernel
theorem d_M_isWellMade_250 : decode prog_14_method_55_code 250 = .ok (.iload 7, 2) := by decide +kernel
theorem d_M_isWellMade_252 : decode prog_14_method_55_code 252 = .ok (.ifCond .eq 7, 3) := by decide +kernel
theorem d_M_isWellMade_255 : decode prog_14_method_55_code 255 = .ok (.iconst 1, 1) := by decide +kernel
theorem d_M_isWellMade_256 : decode prog_14_method_55_code 256 = .ok (.goto 4, 3) := by decide +kernel
theorem d_M_isWellMade_242 : decode prog_14_method_55_code 242 = .ok (.iload 9, 2) := by decide +kernel
theorem d_M_isWellMade_244 : decode prog_14_method_55_code 244 = .ok (.ifCond .ne 15, 3) := by decide +kernel
theorem d_M_isWellMade_247 : decode prog_14_method_55_code 247 = .ok (.goto 8, 3) := by decide +kernel
theorem d_M_isWellMade_261 : decode prog_14_method_55_code 261 = .ok (.iload 8, 2) := by decide +kernel
theorem d_M_isWellMade_263 : decode prog_14_method_55_code 263 = .ok (.ifCond .eq 17, 3) := by decide +kernel
theorem d_M_isWellMade_280 : decode prog_14_method_55_code 280 = .ok (.iconst 0, 1) := by decide +kernel
theorem d_M_isWellMade_281 : decode prog_14_method_55_code 281 = .ok (.ireturn, 1) := by decide +kernel
theorem d_M_isWellMade_266 : decode prog_14_method_55_code 266 = .ok (.iload 7, 2) := by decide +kernel
theorem d_M_isWellMade_268 : decode prog_14_method_55_code 268 = .ok (.ifCond .eq 12, 3) := by decide +kernel
theorem d_M_isWellMade_271 : decode prog_14_method_55_code 271 = .ok (.iload 9, 2) := by decide +kernel
theorem d_M_isWellMade_273 : decode prog_14_method_55_code 273 = .ok (.ifCond .ne 7, 3) := by decide +kernel
theorem d_M_isWellMade_276 : decode prog_14_method_55_code 276 = .ok (.iconst 1, 1) := by decide +kernel
theorem d_M_isWellMade_277 : decode prog_14_method_55_code 277 = .ok (.goto 4, 3) := by decide +kernel
theorem d_M_isWellMade_282 : decode prog_14_method_55_code 282 = .ok (.iload 8, 2) := by decide +kernel
theorem d_M_isWellMade_284 : decode prog_14_method_55_code 284 = .ok (.ifCond .eq 33, 3) := by decide +kernel
theorem d_M_isWellMade_317 : decode prog_14_method_55_code 317 = .ok (.iconst 0, 1) := by decide +kernel
theorem d_M_isWellMade_318 : decode prog_14_method_55_code 318 = .ok (.ireturn, 1) := by decide +kernel
theorem d_M_isWellMade_287 : decode prog_14_method_55_code 287 = .ok (.iload 7, 2) := by decide +kernel
theorem d_M_isWellMade_289 : decode prog_14_method_55_code 289 = .ok (.ifCond .eq 28, 3) := by decide +kernel
theorem d_M_isWellMade_292 : decode prog_14_method_55_code 292 = .ok (.iload 9, 2) := by decide +kernel
theorem d_M_isWellMade_294 : decode prog_14_method_55_code 294 = .ok (.bipush 16, 2) := by decide +kernel
theorem d_M_isWellMade_296 : decode prog_14_method_55_code 296 = .ok (.if_icmp .eq 17, 3) := by decide +kernel
theorem d_M_isWellMade_313 : decode prog_14_method_55_code 313 = .ok (.iconst 1, 1) := by decide +kernel
theorem d_M_isWellMade_314 : decode prog_14_method_55_code 314 = .ok (.goto 4, 3) := by decide +kernel
theorem d_M_isWellMade_299 : decode prog_14_method_55_code 299 = .ok (.iload 9, 2) := by decide +kernel
theorem d_M_isWellMade_301 : decode prog_14_method_55_code 301 = .ok (.bipush 32, 2) := by decide +kernel
theorem d_M_isWellMade_303 : decode prog_14_method_55_code 303 = .ok (.if_icmp .eq 10, 3) := by decide +kernel
theorem d_M_isWellMade_306 : decode prog_14_method_55_code 306 = .ok (.iload 9, 2) := by decide +kernel
theorem d_M_isWellMade_308 : decode prog_14_method_55_code 308 = .ok (.bipush 64, 2) := by decide +kernel
theorem d_M_isWellMade_310 : decode prog_14_method_55_code 310 = .ok (.if_icmp .ne 7, 3) := by decide +kernel
theorem d_M_isWellMade_319 : decode prog_14_method_55_code 319 = .ok (.iload 6, 2) := by decide +kernel
theorem d_M_isWellMade_321 : decode prog_14_method_55_code 321 = .ok (.ifCond .eq 17, 3) := by decide +kernel
theorem d_M_isWellMade_338 : decode prog_14_method_55_code 338 = .ok (.iconst 0, 1) := by decide +kernel
theorem d_M_isWellMade_339 : decode prog_14_method_55_code 339 = .ok (.ireturn, 1) := by decide +kernel
theorem d_M_isWellMade_324 : decode prog_14_method_55_code 324 = .ok (.iload 7, 2) := by decide +kernel
theorem d_M_isWellMade_326 : decode prog_14_method_55_code 326 = .ok (.ifCond .eq 12, 3) := by decide +kernel
theorem d_M_isWellMade_329 : decode prog_14_method_55_code 329 = .ok (.iload 9, 2) := by decide +kernel
theorem d_M_isWellMade_331 : decode prog_14_method_55_code 331 = .ok (.ifCond .ne 7, 3) := by decide +kernel
theorem d_M_isWellMade_334 : decode prog_14_method_55_code 334 = .ok (.iconst 1, 1) := by decide +kernel
theorem d_M_isWellMade_335 : decode prog_14_method_55_code 335 = .ok (.goto 4, 3) := by decide +kernel
theorem d_M_isWellMade_340 : decode prog_14_method_55_code 340 = .ok (.iload 4, 2) := by decide +kernel
theorem d_M_isWellMade_342 : decode prog_14_method_55_code 342 = .ok (.invokestatic 330, 3) := by decide +kernel
theorem d_M_isWellMade_345 : decode prog_14_method_55_code 345 = .ok (.ifCond .eq 16, 3) := by decide +kernel
theorem d_M_isWellMade_361 : decode prog_14_method_55_code 361 = .ok (.iload 7, 2) := by decide +kernel
theorem d_M_isWellMade_363 : decode prog_14_method_55_code 363 = .ok (.ireturn, 1) := by decide +kernel
theorem d_M_isWellMade_348 : decode prog_14_method_55_code 348 = .ok (.iload 9, 2) := by decide +kernel
theorem d_M_isWellMade_350 : decode prog_14_method_55_code 350 = .ok (.ifCond .ne 7, 3) := by decide +kernel
theorem d_M_isWellMade_357 : decode prog_14_method_55_code 357 = .ok (.iconst 0, 1) := by decide +kernel
theorem d_M_isWellMade_358 : decode prog_14_method_55_code 358 = .ok (.goto 5, 3) := by decide +kernel
theorem d_M_isWellMade_353 : decode prog_14_method_55_code 353 = .ok (.iconst 1, 1) := by decide +kernel
theorem d_M_isWellMade_354 : decode prog_14_method_55_code 354 = .ok (.goto 9, 3) := by decide +kernel
theorem d_M_isWellMade_364 : decode prog_14_method_55_code 364 = .ok (.iload 6, 2) := by decide +kernel
theorem d_M_isWellMade_366 : decode prog_14_method_55_code 366 = .ok (.ifCond .eq 17, 3) := by decide +kernel
theorem d_M_isWellMade_383 : decode prog_14_method_55_code 383 = .ok (.iconst 0, 1) := by decide +kernel
theorem d_M_isWellMade_384 : decode prog_14_method_55_code 384 = .ok (.ireturn, 1) := by decide +kernel
theorem d_M_isWellMade_369 : decode prog_14_method_55_code 369 = .ok (.iload 7, 2) := by decide +kernel
theorem d_M_isWellMade_371 : decode prog_14_method_55_code 371 = .ok (.ifCond .eq 12, 3) := by decide +kernel
theorem d_M_isWellMade_374 : decode prog_14_method_55_code 374 = .ok (.iload 8, 2) := by decide +kernel
theorem d_M_isWellMade_376 : decode prog_14_method_55_code 376 = .ok (.ifCond .eq 7, 3) := by decide +kernel
theorem d_M_isWellMade_379 : decode prog_14_method_55_code 379 = .ok (.iconst 1, 1) := by decide +kernel
theorem d_M_isWellMade_380 : decode prog_14_method_55_code 380 = .ok (.goto 4, 3) := by decide +kernel
theorem d_M_isWellMade_385 : decode prog_14_method_55_code 385 = .ok (.iload 6, 2) := by decide +kernel
theorem d_M_isWellMade_387 : decode prog_14_method_55_code 387 = .ok (.ifCond .eq 22, 3) := by decide +kernel
theorem d_M_isWellMade_409 : decode prog_14_method_55_code 409 = .ok (.iconst 0, 1) := by decide +kernel
theorem d_M_isWellMade_410 : decode prog_14_method_55_code 410 = .ok (.ireturn, 1) := by decide +kernel
theorem d_M_isWellMade_390 : decode prog_14_method_55_code 390 = .ok (.iload 7, 2) := by decide +kernel
theorem d_M_isWellMade_392 : decode prog_14_method_55_code 392 = .ok (.ifCond .eq 17, 3) := by decide +kernel
theorem d_M_isWellMade_395 : decode prog_14_method_55_code 395 = .ok (.iload 8, 2) := by decide +kernel
theorem d_M_isWellMade_397 : decode prog_14_method_55_code 397 = .ok (.ifCond .eq 12, 3) := by decide +kernel
theorem d_M_isWellMade_400 : decode prog_14_method_55_code 400 = .ok (.iload 9, 2) := by decide +kernel
theorem d_M_isWellMade_402 : decode prog_14_method_55_code 402 = .ok (.ifCond .ne 7, 3) := by decide +kernel
theorem d_M_isWellMade_405 : decode prog_14_method_55_code 405 = .ok (.iconst 1, 1) := by decide +kernel
theorem d_M_isWellMade_406 : decode prog_14_method_55_code 406 = .ok (.goto 4, 3) := by decide +kernel
theorem d_M_isWellMade_411 : decode prog_14_method_55_code 411 = .ok (.iconst 0, 1) := by decide +kernel
theorem d_M_isWellMade_412 : decode prog_14_method_55_code 412 = .ok (.ireturn, 1) := by decide +kernel
theorem d_M_isWellMade_46 : decode prog_14_method_55_code 46 = .ok (.istore 7, 2) := by decide +kernel
theorem d_M_isWellMade_48 : decode prog_14_method_55_code 48 = .ok (.lload_n 2, 1) := by decide +kernel
theorem d_M_isWellMade_49 : decode prog_14_method_55_code 49 = .ok (.invokestatic 321, 3) := by decide +kernel
theorem u_2013 : Cond.methodLink "FilterGuardModel" 321 ⟨"FilterGuardModel", "offsetOf", "(J)I"⟩ ∈ fg_g := fg_in (List.mem_of_getElem? (i := 2013) (by decide +kernel)) rfl
theorem u_2015 : Cond.code ⟨"FilterGuardModel", "offsetOf", "(J)I"⟩ prog_14_method_47_code 2 (some .int) ∈ fg_g := fg_in (List.mem_of_getElem? (i := 2015) (by decide +kernel)) rfl
theorem u_2014 : Cond.static ⟨"FilterGuardModel", "offsetOf", "(J)I"⟩ ∈ fg_g := fg_in (List.mem_of_getElem? (i := 2014) (by decide +kernel)) rfl
theorem d_M_isWellMade_52 : decode prog_14_method_55_code 52 = .ok (.ifCond .ne 7, 3) := by decide +kernel
theorem d_M_isWellMade_59 : decode prog_14_method_55_code 59 = .ok (.iconst 0, 1) := by decide +kernel
theorem d_M_isWellMade_55 : decode prog_14_method_55_code 55 = .ok (.iconst 1, 1) := by decide +kernel
theorem d_M_isWellMade_56 : decode prog_14_method_55_code 56 = .ok (.goto 4, 3) := by decide +kernel
theorem d_M_isWellMade_32 : decode prog_14_method_55_code 32 = .ok (.istore 6, 2) := by decide +kernel
theorem d_M_isWellMade_34 : decode prog_14_method_55_code 34 = .ok (.lload_n 2, 1) := by decide +kernel
theorem d_M_isWellMade_35 : decode prog_14_method_55_code 35 = .ok (.invokestatic 318, 3) := by decide +kernel
theorem d_M_isWellMade_38 : decode prog_14_method_55_code 38 = .ok (.ifCond .ne 7, 3) := by decide +kernel
theorem d_M_isWellMade_45 : decode prog_14_method_55_code 45 = .ok (.iconst 0, 1) := by decide +kernel
theorem d_M_isWellMade_41 : decode prog_14_method_55_code 41 = .ok (.iconst 1, 1) := by decide +kernel
theorem d_M_isWellMade_42 : decode prog_14_method_55_code 42 = .ok (.goto 4, 3) := by decide +kernel
theorem d_M_isWellMade_0 : decode prog_14_method_55_code 0 = .ok (.aload_n 0, 1) := by decide +kernel
theorem d_M_isWellMade_1 : decode prog_14_method_55_code 1 = .ok (.getfield 37, 3) := by decide +kernel
theorem d_M_isWellMade_4 : decode prog_14_method_55_code 4 = .ok (.iload_n 1, 1) := by decide +kernel
theorem d_M_isWellMade_5 : decode prog_14_method_55_code 5 = .ok (.laload, 1) := by decide +kernel
theorem d_M_isWellMade_6 : decode prog_14_method_55_code 6 = .ok (.lstore_n 2, 1) := by decide +kernel
theorem d_M_isWellMade_7 : decode prog_14_method_55_code 7 = .ok (.lload_n 2, 1) := by decide +kernel
theorem d_M_isWellMade_8 : decode prog_14_method_55_code 8 = .ok (.invokestatic 308, 3) := by decide +kernel
theorem u_1997 : Cond.methodLink "FilterGuardModel" 308 ⟨"FilterGuardModel", "opOf", "(J)I"⟩ ∈ fg_g := fg_in (List.mem_of_getElem? (i := 1997) (by decide +kernel)) rfl
theorem u_1999 : Cond.code ⟨"FilterGuardModel", "opOf", "(J)I"⟩ prog_14_method_44_code 2 (some .int) ∈ fg_g := fg_in (List.mem_of_getElem? (i := 1999) (by decide +kernel)) rfl
theorem u_1998 : Cond.static ⟨"FilterGuardModel", "opOf", "(J)I"⟩ ∈ fg_g := fg_in (List.mem_of_getElem? (i := 1998) (by decide +kernel)) rfl
theorem d_M_isWellMade_11 : decode prog_14_method_55_code 11 = .ok (.istore 4, 2) := by decide +kernel
theorem d_M_isWellMade_13 : decode prog_14_method_55_code 13 = .ok (.iload 4, 2) := by decide +kernel
theorem d_M_isWellMade_15 : decode prog_14_method_55_code 15 = .ok (.invokestatic 312, 3) := by decide +kernel
theorem u_2000 : Cond.methodLink "FilterGuardModel" 312 ⟨"FilterGuardModel", "instruction", "(I)I"⟩ ∈ fg_g := fg_in (List.mem_of_getElem? (i := 2000) (by decide +kernel)) rfl
theorem u_2002 : Cond.code ⟨"FilterGuardModel", "instruction", "(I)I"⟩ prog_14_method_49_code 2 (some .int) ∈ fg_g := fg_in (List.mem_of_getElem? (i := 2002) (by decide +kernel)) rfl
theorem u_2001 : Cond.static ⟨"FilterGuardModel", "instruction", "(I)I"⟩ ∈ fg_g := fg_in (List.mem_of_getElem? (i := 2001) (by decide +kernel)) rfl
theorem d_M_isWellMade_18 : decode prog_14_method_55_code 18 = .ok (.istore 5, 2) := by decide +kernel
theorem d_M_isWellMade_20 : decode prog_14_method_55_code 20 = .ok (.lload_n 2, 1) := by decide +kernel
theorem d_M_isWellMade_21 : decode prog_14_method_55_code 21 = .ok (.invokestatic 315, 3) := by decide +kernel
theorem u_2006 : Cond.methodLink "FilterGuardModel" 315 ⟨"FilterGuardModel", "toOf", "(J)I"⟩ ∈ fg_g := fg_in (List.mem_of_getElem? (i := 2006) (by decide +kernel)) rfl
theorem u_2008 : Cond.code ⟨"FilterGuardModel", "toOf", "(J)I"⟩ prog_14_method_45_code 2 (some .int) ∈ fg_g := fg_in (List.mem_of_getElem? (i := 2008) (by decide +kernel)) rfl
theorem u_2007 : Cond.static ⟨"FilterGuardModel", "toOf", "(J)I"⟩ ∈ fg_g := fg_in (List.mem_of_getElem? (i := 2007) (by decide +kernel)) rfl
theorem d_M_isWellMade_24 : decode prog_14_method_55_code 24 = .ok (.ifCond .ne 7, 3) := by decide +kernel
theorem d_M_isWellMade_31 : decode prog_14_method_55_code 31 = .ok (.iconst 0, 1) := by decide +kernel
theorem d_M_isWellMade_27 : decode prog_14_method_55_code 27 = .ok (.iconst 1, 1) := by decide +kernel
theorem d_M_isWellMade_28 : decode prog_14_method_55_code 28 = .ok (.goto 4, 3) := by decide +kernel
abbrev y_M_isWellMade : MethodName := ⟨"FilterGuardModel", "isWellMade", "(I)Z"⟩
def rm_M_isWellMade : Room := { frames := 3, cells := 0, slots := 0, locals := 61 }
abbrev q_M_isWellMade (D : va_G) (ad : Nat → Nat → Nat) (ca : Nat → ClassId) (N : Nat → Nat) (M0 MZ : me_M) (RZ : Int32) (A : Nat → Prop) : Array Value → Jvm.State → Outcome → Jvm.State → Prop := va_Qi (fun r (_ : Unit) => r = RZ ∧ me_wf N MZ ∧ me_kp M0 MZ ∧ (RZ = 1 ∨ RZ = 0)) (fg_B D A (fun _ => me_W ad ca MZ) (fun _ => [])) A
set_option maxHeartbeats 4000000 in
set_option maxRecDepth 100000 in
theorem c_M_isWellMade (l : Launch) (D : va_G) (ad : Nat → Nat → Nat) (ca : Nat → ClassId) (N : Nat → Nat) (M0 MZ : me_M) (RZ : Int32) (j0 : Nat) (x1 : Int32) (h : f_M_isWellMade M0 j0 x1 = (some (MZ, RZ))) (hwf : me_wf N M0) (hj0 : j0 < N 1) (sz : Nat) : Met l y_M_isWellMade (fg_w y_M_isWellMade prog_14_method_55_code 10 (some .boolean)) rm_M_isWellMade (va_Pc [.ref (ad 1 j0), .int x1] (fz_P D (me_T ca) (me_W ad ca M0) sz)) (q_M_isWellMade D ad ca N M0 MZ RZ (va_A (me_W ad ca M0) sz)) rm_M_isWellMade.cells rm_M_isWellMade.slots (va_A (me_W ad ca M0) sz) := by
  refine fz_enter (fun A => q_M_isWellMade D ad ca N M0 MZ RZ A) (by decide +kernel) (Nat.le_of_ble_eq_true rfl) ?_
  intro p e s m below meth c ls A hx hb hml hown hts hr hlocks hin hP hK hD hS hA hX hl hz
  have hl : lv_has ls 10 [(0, .ref (ad 1 j0)), (1, .int x1)] := hl
  unfold f_M_isWellMade at h
  have hkp : me_kp M0 M0 := me_kp.rf
  have hkb := hkp
  have b_167 : ∀ (M : me_M) (y2 : Int64) (y7 : Int32) (y8 : Int32) (s0 : Int32) (s1 : Nat) (H : Heap) (locs : List Loc) (ls : Array Slot), f_M_isWellMade_b167 j0 x1 M y2 y7 y8 s0 s1 = (some (MZ, RZ)) → (y7 = 1 ∨ y7 = 0) → (y8 = 1 ∨ y8 = 0) → (s1 < N 16) → me_wf N M → me_kp M0 M → va_P D classes (me_W ad ca M) H → va_D A (me_W ad ca M) → va_S A s.heap H locs → lv_has ls 10 [(0, .ref (ad 1 j0)), (1, .int x1), (2, .long y2), (7, .int y7), (8, .int y8)] → W p l e rm_M_isWellMade s m [.ref (ad 1 j0), .int x1].toArray below meth c H locs 0 0 (MQ below (q_M_isWellMade D ad ca N M0 MZ RZ A) [.ref (ad 1 j0), .int x1].toArray s rm_M_isWellMade.cells rm_M_isWellMade.slots A) (F0 m 167 ls [.int s0, .ref (ad 16 s1)]) := by
    intro M y2 y7 y8 s0 s1 H locs ls h zy7 zy8 hs1 hwf hkp hP hD hS hl
    unfold f_M_isWellMade_b167 at h
    have hkb := hkp
    obtain ⟨g1, h⟩ := gd_ob h
    refine me_lald hx hb hK hP hwf hs1 g1 d_M_isWellMade_167 ?_
    refine lv_ldc2 hx hb hown (hts _ u_2019) d_M_isWellMade_168 ?_
    refine lv_land hx hb d_M_isWellMade_171 ?_
    refine lv_lconst (v := 0) hx hb d_M_isWellMade_172 (by decide) ?_
    refine W.lcmp hx hb d_M_isWellMade_173 ?_
    refine lv_if_ne (tgt := 213) hx hb d_M_isWellMade_174 (by decide) (fun c2 => ?_) (fun c2 => ?_)
    · have h := if_f (fun z => c2 ((lg_cmp_eq _ _).mpr z)) h
      refine lv_iconst (v := 0) hx hb d_M_isWellMade_213 (by decide) ?_
      exact me_retz (me_kp M0) h (by decide) hx hb hr hlocks hwf hkp hP hK hD hS d_M_isWellMade_214
    have h := if_t ((lg_cmp_eq _ _).mp c2) h
    refine lv_iload hx hb d_M_isWellMade_177 (lv_at hl 4 rfl) ?_
    refine lv_if_eq (tgt := 213) hx hb d_M_isWellMade_179 (by decide) (fun c3 => ?_) (fun c3 => ?_)
    · have h := if_t c3 h
      refine lv_iconst (v := 0) hx hb d_M_isWellMade_213 (by decide) ?_
      exact me_retz (me_kp M0) h (by decide) hx hb hr hlocks hwf hkp hP hK hD hS d_M_isWellMade_214
    have h := if_f c3 h
    refine lv_iload hx hb d_M_isWellMade_182 (lv_at hl 3 rfl) ?_
    refine lv_if_ne (tgt := 209) hx hb d_M_isWellMade_184 (by decide) (fun c4 => ?_) (fun c4 => ?_)
    · have h := if_f c4 h
      refine lv_iconst (v := 1) hx hb d_M_isWellMade_209 (by decide) ?_
      refine lv_goto (tgt := 214) hx hb d_M_isWellMade_210 (by decide) ?_
      exact me_retz (me_kp M0) h (by decide) hx hb hr hlocks hwf hkp hP hK hD hS d_M_isWellMade_214
    have h := if_t c4 h
    refine lv_lload_n hx hb d_M_isWellMade_187 rfl (lv_at hl 2 rfl) ?_
    obtain ⟨r5, er5, h⟩ := bd_ob h
    refine me_pani' (r0 := r5) (fg_runS (wc := []) (tc := []) (A2 := A) (As := [.long y2]) (rest := []) ⟨hx, hb, hml, hown, hts⟩ (c_M_fromOf l D r5 y2 er5 _) (by show fg_nm y_M_fromOf 1; decide +kernel) u_2010 u_2011 u_192 u_2012 ⟨Nat.le_of_ble_eq_true rfl, Nat.le_of_ble_eq_true rfl⟩ hX me_P0 (hK.sub (tys' := []) [] rfl) me_D0 rfl hl.1 (Nat.le_of_ble_eq_true rfl) d_M_isWellMade_188 ⟨Nat.le_of_ble_eq_true rfl, Nat.le_of_ble_eq_true rfl⟩) hP hD hK hS hA rfl rfl (fun H locs hw hP hD hS => ?_)
    refine lv_iconst (v := 1) hx hb d_M_isWellMade_191 (by decide) ?_
    refine lv_icmp_ne (tgt := 213) hx hb d_M_isWellMade_192 (by decide) (fun c6 => ?_) (fun c6 => ?_)
    · have h := if_f c6 h
      refine lv_iconst (v := 0) hx hb d_M_isWellMade_213 (by decide) ?_
      exact me_retz (me_kp M0) h (by decide) hx hb hr hlocks hwf hkp hP hK hD hS d_M_isWellMade_214
    have h := if_t c6 h
    refine lv_aload_n hx hb d_M_isWellMade_195 rfl (lv_at hl 0 rfl) ?_
    refine g_M_13 hx hb hts hown hK hP hwf hj0 (hts _ u_1754) d_M_isWellMade_196 ?_
    obtain ⟨j7, e8, h⟩ := bd_ob h
    have hj7 : j7 < N 16 := (hwf.2.1 1 j0 13 _ e8 (by decide) hj0)
    refine me_opt (j := j7) e8 ?_
    refine lv_iload_n hx hb d_M_isWellMade_199 rfl (lv_at hl 1 rfl) ?_
    refine lv_iconst (v := 1) hx hb d_M_isWellMade_200 (by decide) ?_
    refine lv_iadd hx hb d_M_isWellMade_201 ?_
    obtain ⟨g9, h⟩ := gd_ob h
    refine me_lald hx hb hK hP hwf hj7 g9 d_M_isWellMade_202 ?_
    obtain ⟨r10, er10, h⟩ := bd_ob h
    refine me_pani' (r0 := r10) (fg_runS (wc := []) (tc := []) (A2 := A) (As := [.long (mL M 16 j7 (x1 + 1).toNatClampNeg)]) (rest := []) ⟨hx, hb, hml, hown, hts⟩ (c_M_fieldOf l D r10 (mL M 16 j7 (x1 + 1).toNatClampNeg) er10 _) (by show fg_nm y_M_fieldOf 1; decide +kernel) u_2016 u_2017 u_192 u_2018 ⟨Nat.le_of_ble_eq_true rfl, Nat.le_of_ble_eq_true rfl⟩ hX me_P0 (hK.sub (tys' := []) [] rfl) me_D0 rfl hl.1 (Nat.le_of_ble_eq_true rfl) d_M_isWellMade_203 ⟨Nat.le_of_ble_eq_true rfl, Nat.le_of_ble_eq_true rfl⟩) hP hD hK hS hA rfl rfl (fun H locs hw hP hD hS => ?_)
    refine lv_if_ne (tgt := 213) hx hb d_M_isWellMade_206 (by decide) (fun c11 => ?_) (fun c11 => ?_)
    · have h := if_f c11 h
      refine lv_iconst (v := 0) hx hb d_M_isWellMade_213 (by decide) ?_
      exact me_retz (me_kp M0) h (by decide) hx hb hr hlocks hwf hkp hP hK hD hS d_M_isWellMade_214
    have h := if_t c11 h
    refine lv_iconst (v := 1) hx hb d_M_isWellMade_209 (by decide) ?_
    refine lv_goto (tgt := 214) hx hb d_M_isWellMade_210 (by decide) ?_
    exact me_retz (me_kp M0) h (by decide) hx hb hr hlocks hwf hkp hP hK hD hS d_M_isWellMade_214
  have b_60 : ∀ (M : me_M) (y2 : Int64) (y4 : Int32) (y5 : Int32) (y6 : Int32) (y7 : Int32) (s0 : Int32) (H : Heap) (locs : List Loc) (ls : Array Slot), f_M_isWellMade_b60 j0 x1 M y2 y4 y5 y6 y7 s0 = (some (MZ, RZ)) → (y6 = 1 ∨ y6 = 0) → (y7 = 1 ∨ y7 = 0) → (s0 = 1 ∨ s0 = 0) → me_wf N M → me_kp M0 M → va_P D classes (me_W ad ca M) H → va_D A (me_W ad ca M) → va_S A s.heap H locs → lv_has ls 10 [(0, .ref (ad 1 j0)), (1, .int x1), (2, .long y2), (4, .int y4), (5, .int y5), (6, .int y6), (7, .int y7)] → W p l e rm_M_isWellMade s m [.ref (ad 1 j0), .int x1].toArray below meth c H locs 0 0 (MQ below (q_M_isWellMade D ad ca N M0 MZ RZ A) [.ref (ad 1 j0), .int x1].toArray s rm_M_isWellMade.cells rm_M_isWellMade.slots A) (F0 m 60 ls [.int s0]) := by
    intro M y2 y4 y5 y6 y7 s0 H locs ls h zy6 zy7 zs0 hwf hkp hP hD hS hl
    unfold f_M_isWellMade_b60 at h
    have hkb := hkp
    refine lv_istore (lv' := [(8, .int s0), (0, .ref (ad 1 j0)), (1, .int x1), (2, .long y2), (4, .int y4), (5, .int y5), (6, .int y6), (7, .int y7)]) hx hb d_M_isWellMade_60 hl (by decide) rfl (fun ls hl => ?_)
    refine lv_lload_n hx hb d_M_isWellMade_62 rfl (lv_at hl 3 rfl) ?_
    obtain ⟨r12, er12, h⟩ := bd_ob h
    refine me_pani' (r0 := r12) (fg_runS (wc := []) (tc := []) (A2 := A) (As := [.long y2]) (rest := []) ⟨hx, hb, hml, hown, hts⟩ (c_M_fieldOf l D r12 y2 er12 _) (by show fg_nm y_M_fieldOf 1; decide +kernel) u_2016 u_2017 u_192 u_2018 ⟨Nat.le_of_ble_eq_true rfl, Nat.le_of_ble_eq_true rfl⟩ hX me_P0 (hK.sub (tys' := []) [] rfl) me_D0 rfl hl.1 (Nat.le_of_ble_eq_true rfl) d_M_isWellMade_63 ⟨Nat.le_of_ble_eq_true rfl, Nat.le_of_ble_eq_true rfl⟩) hP hD hK hS hA rfl rfl (fun H locs hw hP hD hS => ?_)
    refine lv_istore (lv' := [(9, .int r12), (8, .int s0), (0, .ref (ad 1 j0)), (1, .int x1), (2, .long y2), (4, .int y4), (5, .int y5), (6, .int y6), (7, .int y7)]) hx hb d_M_isWellMade_66 hl (by decide) rfl (fun ls hl => ?_)
    refine lv_iload hx hb d_M_isWellMade_68 (lv_at hl 6 rfl) ?_
    refine lv_topi (fun w13 ew13 => ?_)
    by_cases n14 : w13 = 1
    · have h := if_t (ew13.symm.trans n14) h
      subst n14
      refine lv_tableIn (off := 66) (tgt := 136) hx hb d_M_isWellMade_70 (by decide) (by decide) (by decide) (by decide) ?_
      refine lv_iload_n hx hb d_M_isWellMade_136 rfl (lv_at hl 3 rfl) ?_
      refine lv_iconst (v := 1) hx hb d_M_isWellMade_137 (by decide) ?_
      refine lv_iadd hx hb d_M_isWellMade_138 ?_
      refine lv_aload_n hx hb d_M_isWellMade_139 rfl (lv_at hl 2 rfl) ?_
      refine g_M_12 hx hb hts hown hK hP hwf hj0 (hts _ u_1753) d_M_isWellMade_140 ?_
      refine lv_icmp_ge (tgt := 213) hx hb d_M_isWellMade_143 (by decide) (fun c15 => ?_) (fun c15 => ?_)
      · have h := if_t c15 h
        refine lv_iconst (v := 0) hx hb d_M_isWellMade_213 (by decide) ?_
        exact me_retz (me_kp M0) h (by decide) hx hb hr hlocks hwf hkp hP hK hD hS d_M_isWellMade_214
      have h := if_f c15 h
      refine lv_aload_n hx hb d_M_isWellMade_146 rfl (lv_at hl 2 rfl) ?_
      refine g_M_13 hx hb hts hown hK hP hwf hj0 (hts _ u_1754) d_M_isWellMade_147 ?_
      obtain ⟨j16, e17, h⟩ := bd_ob h
      have hj16 : j16 < N 16 := (hwf.2.1 1 j0 13 _ e17 (by decide) hj0)
      refine me_opt (j := j16) e17 ?_
      refine lv_iload_n hx hb d_M_isWellMade_150 rfl (lv_at hl 3 rfl) ?_
      refine lv_iconst (v := 1) hx hb d_M_isWellMade_151 (by decide) ?_
      refine lv_iadd hx hb d_M_isWellMade_152 ?_
      refine lv_aload_n hx hb d_M_isWellMade_153 rfl (lv_at hl 2 rfl) ?_
      refine g_M_12 hx hb hts hown hK hP hwf hj0 (hts _ u_1753) d_M_isWellMade_154 ?_
      refine lv_icmp_ge (tgt := 166) hx hb d_M_isWellMade_157 (by decide) (fun c18 => ?_) (fun c18 => ?_)
      · have h := if_t c18 h
        refine lv_iload_n hx hb d_M_isWellMade_166 rfl (lv_at hl 3 rfl) ?_
        exact b_167 M y2 y7 s0 x1 j16 _ _ _ h zy7 zs0 hj16 hwf hkp hP hD hS (lv_sub hl [2, 3, 4, 8, 1] rfl)
      have h := if_f c18 h
      refine lv_iload_n hx hb d_M_isWellMade_160 rfl (lv_at hl 3 rfl) ?_
      refine lv_iconst (v := 1) hx hb d_M_isWellMade_161 (by decide) ?_
      refine lv_iadd hx hb d_M_isWellMade_162 ?_
      refine lv_goto (tgt := 167) hx hb d_M_isWellMade_163 (by decide) ?_
      exact b_167 M y2 y7 s0 (x1 + 1) j16 _ _ _ h zy7 zs0 hj16 hwf hkp hP hD hS (lv_sub hl [2, 3, 4, 8, 1] rfl)
    have h := if_f (fun z => n14 (ew13.trans z)) h
    by_cases n19 : w13 = 2
    · have h := if_t (ew13.symm.trans n19) h
      subst n19
      refine lv_tableIn (off := 145) (tgt := 215) hx hb d_M_isWellMade_70 (by decide) (by decide) (by decide) (by decide) ?_
      refine lv_iload hx hb d_M_isWellMade_215 (lv_at hl 0 rfl) ?_
      refine lv_if_ne (tgt := 224) hx hb d_M_isWellMade_217 (by decide) (fun c20 => ?_) (fun c20 => ?_)
      · have h := if_f c20 h
        refine lv_iconst (v := 0) hx hb d_M_isWellMade_224 (by decide) ?_
        exact me_retz (me_kp M0) h (by decide) hx hb hr hlocks hwf hkp hP hK hD hS d_M_isWellMade_225
      have h := if_t c20 h
      refine lv_iconst (v := 1) hx hb d_M_isWellMade_220 (by decide) ?_
      refine lv_goto (tgt := 225) hx hb d_M_isWellMade_221 (by decide) ?_
      exact me_retz (me_kp M0) h (by decide) hx hb hr hlocks hwf hkp hP hK hD hS d_M_isWellMade_225
    have h := if_f (fun z => n19 (ew13.trans z)) h
    by_cases n21 : w13 = 3
    · have h := if_t (ew13.symm.trans n21) h
      subst n21
      refine lv_tableIn (off := 145) (tgt := 215) hx hb d_M_isWellMade_70 (by decide) (by decide) (by decide) (by decide) ?_
      refine lv_iload hx hb d_M_isWellMade_215 (lv_at hl 0 rfl) ?_
      refine lv_if_ne (tgt := 224) hx hb d_M_isWellMade_217 (by decide) (fun c22 => ?_) (fun c22 => ?_)
      · have h := if_f c22 h
        refine lv_iconst (v := 0) hx hb d_M_isWellMade_224 (by decide) ?_
        exact me_retz (me_kp M0) h (by decide) hx hb hr hlocks hwf hkp hP hK hD hS d_M_isWellMade_225
      have h := if_t c22 h
      refine lv_iconst (v := 1) hx hb d_M_isWellMade_220 (by decide) ?_
      refine lv_goto (tgt := 225) hx hb d_M_isWellMade_221 (by decide) ?_
      exact me_retz (me_kp M0) h (by decide) hx hb hr hlocks hwf hkp hP hK hD hS d_M_isWellMade_225
    have h := if_f (fun z => n21 (ew13.trans z)) h
    by_cases n23 : w13 = 4
    · have h := if_t (ew13.symm.trans n23) h
      subst n23
      refine lv_tableIn (off := 156) (tgt := 226) hx hb d_M_isWellMade_70 (by decide) (by decide) (by decide) (by decide) ?_
      refine lv_iload hx hb d_M_isWellMade_226 (lv_at hl 8 rfl) ?_
      exact me_retz (me_kp M0) h zy7 hx hb hr hlocks hwf hkp hP hK hD hS d_M_isWellMade_228
    have h := if_f (fun z => n23 (ew13.trans z)) h
    by_cases n24 : w13 = 5
    · have h := if_t (ew13.symm.trans n24) h
      subst n24
      refine lv_tableIn (off := 145) (tgt := 215) hx hb d_M_isWellMade_70 (by decide) (by decide) (by decide) (by decide) ?_
      refine lv_iload hx hb d_M_isWellMade_215 (lv_at hl 0 rfl) ?_
      refine lv_if_ne (tgt := 224) hx hb d_M_isWellMade_217 (by decide) (fun c25 => ?_) (fun c25 => ?_)
      · have h := if_f c25 h
        refine lv_iconst (v := 0) hx hb d_M_isWellMade_224 (by decide) ?_
        exact me_retz (me_kp M0) h (by decide) hx hb hr hlocks hwf hkp hP hK hD hS d_M_isWellMade_225
      have h := if_t c25 h
      refine lv_iconst (v := 1) hx hb d_M_isWellMade_220 (by decide) ?_
      refine lv_goto (tgt := 225) hx hb d_M_isWellMade_221 (by decide) ?_
      exact me_retz (me_kp M0) h (by decide) hx hb hr hlocks hwf hkp hP hK hD hS d_M_isWellMade_225
    have h := if_f (fun z => n24 (ew13.trans z)) h
    by_cases n26 : w13 = 6
    · have h := if_t (ew13.symm.trans n26) h
      subst n26
      refine lv_tableIn (off := 159) (tgt := 229) hx hb d_M_isWellMade_70 (by decide) (by decide) (by decide) (by decide) ?_
      refine lv_iload hx hb d_M_isWellMade_229 (lv_at hl 1 rfl) ?_
      refine lv_if_eq (tgt := 259) hx hb d_M_isWellMade_231 (by decide) (fun c27 => ?_) (fun c27 => ?_)
      · have h := if_t c27 h
        refine lv_iconst (v := 0) hx hb d_M_isWellMade_259 (by decide) ?_
        exact me_retz (me_kp M0) h (by decide) hx hb hr hlocks hwf hkp hP hK hD hS d_M_isWellMade_260
      have h := if_f c27 h
      refine lv_iload hx hb d_M_isWellMade_234 (lv_at hl 5 rfl) ?_
      obtain ⟨r28, er28, h⟩ := bd_ob h
      refine me_pani' (r0 := r28) (fg_runS (wc := []) (tc := []) (A2 := A) (As := [.int y4]) (rest := []) ⟨hx, hb, hml, hown, hts⟩ (c_M_hasFrom l D r28 y4 er28 _) (by show fg_nm y_M_hasFrom 1; decide +kernel) u_2020 u_2021 u_192 u_2022 ⟨Nat.le_of_ble_eq_true rfl, Nat.le_of_ble_eq_true rfl⟩ hX me_P0 (hK.sub (tys' := []) [] rfl) me_D0 rfl hl.1 (Nat.le_of_ble_eq_true rfl) d_M_isWellMade_236 ⟨Nat.le_of_ble_eq_true rfl, Nat.le_of_ble_eq_true rfl⟩) hP hD hK hS hA rfl rfl (fun H locs hw hP hD hS => ?_)
      have zr28 := hw
      refine lv_if_eq (tgt := 250) hx hb d_M_isWellMade_239 (by decide) (fun c29 => ?_) (fun c29 => ?_)
      · have h := if_t c29 h
        refine lv_iload hx hb d_M_isWellMade_250 (lv_at hl 8 rfl) ?_
        refine lv_if_eq (tgt := 259) hx hb d_M_isWellMade_252 (by decide) (fun c30 => ?_) (fun c30 => ?_)
        · have h := if_t c30 h
          refine lv_iconst (v := 0) hx hb d_M_isWellMade_259 (by decide) ?_
          exact me_retz (me_kp M0) h (by decide) hx hb hr hlocks hwf hkp hP hK hD hS d_M_isWellMade_260
        have h := if_f c30 h
        refine lv_iconst (v := 1) hx hb d_M_isWellMade_255 (by decide) ?_
        refine lv_goto (tgt := 260) hx hb d_M_isWellMade_256 (by decide) ?_
        exact me_retz (me_kp M0) h (by decide) hx hb hr hlocks hwf hkp hP hK hD hS d_M_isWellMade_260
      have h := if_f c29 h
      refine lv_iload hx hb d_M_isWellMade_242 (lv_at hl 0 rfl) ?_
      refine lv_if_ne (tgt := 259) hx hb d_M_isWellMade_244 (by decide) (fun c31 => ?_) (fun c31 => ?_)
      · have h := if_f c31 h
        refine lv_iconst (v := 0) hx hb d_M_isWellMade_259 (by decide) ?_
        exact me_retz (me_kp M0) h (by decide) hx hb hr hlocks hwf hkp hP hK hD hS d_M_isWellMade_260
      have h := if_t c31 h
      refine lv_goto (tgt := 255) hx hb d_M_isWellMade_247 (by decide) ?_
      refine lv_iconst (v := 1) hx hb d_M_isWellMade_255 (by decide) ?_
      refine lv_goto (tgt := 260) hx hb d_M_isWellMade_256 (by decide) ?_
      exact me_retz (me_kp M0) h (by decide) hx hb hr hlocks hwf hkp hP hK hD hS d_M_isWellMade_260
    have h := if_f (fun z => n26 (ew13.trans z)) h
    by_cases n32 : w13 = 7
    · have h := if_t (ew13.symm.trans n32) h
      subst n32
      refine lv_tableIn (off := 191) (tgt := 261) hx hb d_M_isWellMade_70 (by decide) (by decide) (by decide) (by decide) ?_
      refine lv_iload hx hb d_M_isWellMade_261 (lv_at hl 1 rfl) ?_
      refine lv_if_eq (tgt := 280) hx hb d_M_isWellMade_263 (by decide) (fun c33 => ?_) (fun c33 => ?_)
      · have h := if_t c33 h
        refine lv_iconst (v := 0) hx hb d_M_isWellMade_280 (by decide) ?_
        exact me_retz (me_kp M0) h (by decide) hx hb hr hlocks hwf hkp hP hK hD hS d_M_isWellMade_281
      have h := if_f c33 h
      refine lv_iload hx hb d_M_isWellMade_266 (lv_at hl 8 rfl) ?_
      refine lv_if_eq (tgt := 280) hx hb d_M_isWellMade_268 (by decide) (fun c34 => ?_) (fun c34 => ?_)
      · have h := if_t c34 h
        refine lv_iconst (v := 0) hx hb d_M_isWellMade_280 (by decide) ?_
        exact me_retz (me_kp M0) h (by decide) hx hb hr hlocks hwf hkp hP hK hD hS d_M_isWellMade_281
      have h := if_f c34 h
      refine lv_iload hx hb d_M_isWellMade_271 (lv_at hl 0 rfl) ?_
      refine lv_if_ne (tgt := 280) hx hb d_M_isWellMade_273 (by decide) (fun c35 => ?_) (fun c35 => ?_)
      · have h := if_f c35 h
        refine lv_iconst (v := 0) hx hb d_M_isWellMade_280 (by decide) ?_
        exact me_retz (me_kp M0) h (by decide) hx hb hr hlocks hwf hkp hP hK hD hS d_M_isWellMade_281
      have h := if_t c35 h
      refine lv_iconst (v := 1) hx hb d_M_isWellMade_276 (by decide) ?_
      refine lv_goto (tgt := 281) hx hb d_M_isWellMade_277 (by decide) ?_
      exact me_retz (me_kp M0) h (by decide) hx hb hr hlocks hwf hkp hP hK hD hS d_M_isWellMade_281
    have h := if_f (fun z => n32 (ew13.trans z)) h
    by_cases n36 : w13 = 8
    · have h := if_t (ew13.symm.trans n36) h
      subst n36
      refine lv_tableIn (off := 212) (tgt := 282) hx hb d_M_isWellMade_70 (by decide) (by decide) (by decide) (by decide) ?_
      refine lv_iload hx hb d_M_isWellMade_282 (lv_at hl 1 rfl) ?_
      refine lv_if_eq (tgt := 317) hx hb d_M_isWellMade_284 (by decide) (fun c37 => ?_) (fun c37 => ?_)
      · have h := if_t c37 h
        refine lv_iconst (v := 0) hx hb d_M_isWellMade_317 (by decide) ?_
        exact me_retz (me_kp M0) h (by decide) hx hb hr hlocks hwf hkp hP hK hD hS d_M_isWellMade_318
      have h := if_f c37 h
      refine lv_iload hx hb d_M_isWellMade_287 (lv_at hl 8 rfl) ?_
      refine lv_if_eq (tgt := 317) hx hb d_M_isWellMade_289 (by decide) (fun c38 => ?_) (fun c38 => ?_)
      · have h := if_t c38 h
        refine lv_iconst (v := 0) hx hb d_M_isWellMade_317 (by decide) ?_
        exact me_retz (me_kp M0) h (by decide) hx hb hr hlocks hwf hkp hP hK hD hS d_M_isWellMade_318
      have h := if_f c38 h
      refine lv_iload hx hb d_M_isWellMade_292 (lv_at hl 0 rfl) ?_
      refine lv_bipush (v := 16) hx hb d_M_isWellMade_294 (by decide) ?_
      refine lv_icmp_eq (tgt := 313) hx hb d_M_isWellMade_296 (by decide) (fun c39 => ?_) (fun c39 => ?_)
      · have h := if_t c39 h
        refine lv_iconst (v := 1) hx hb d_M_isWellMade_313 (by decide) ?_
        refine lv_goto (tgt := 318) hx hb d_M_isWellMade_314 (by decide) ?_
        exact me_retz (me_kp M0) h (by decide) hx hb hr hlocks hwf hkp hP hK hD hS d_M_isWellMade_318
      have h := if_f c39 h
      refine lv_iload hx hb d_M_isWellMade_299 (lv_at hl 0 rfl) ?_
      refine lv_bipush (v := 32) hx hb d_M_isWellMade_301 (by decide) ?_
      refine lv_icmp_eq (tgt := 313) hx hb d_M_isWellMade_303 (by decide) (fun c40 => ?_) (fun c40 => ?_)
      · have h := if_t c40 h
        refine lv_iconst (v := 1) hx hb d_M_isWellMade_313 (by decide) ?_
        refine lv_goto (tgt := 318) hx hb d_M_isWellMade_314 (by decide) ?_
        exact me_retz (me_kp M0) h (by decide) hx hb hr hlocks hwf hkp hP hK hD hS d_M_isWellMade_318
      have h := if_f c40 h
      refine lv_iload hx hb d_M_isWellMade_306 (lv_at hl 0 rfl) ?_
      refine lv_bipush (v := 64) hx hb d_M_isWellMade_308 (by decide) ?_
      refine lv_icmp_ne (tgt := 317) hx hb d_M_isWellMade_310 (by decide) (fun c41 => ?_) (fun c41 => ?_)
      · have h := if_f c41 h
        refine lv_iconst (v := 0) hx hb d_M_isWellMade_317 (by decide) ?_
        exact me_retz (me_kp M0) h (by decide) hx hb hr hlocks hwf hkp hP hK hD hS d_M_isWellMade_318
      have h := if_t c41 h
      refine lv_iconst (v := 1) hx hb d_M_isWellMade_313 (by decide) ?_
      refine lv_goto (tgt := 318) hx hb d_M_isWellMade_314 (by decide) ?_
      exact me_retz (me_kp M0) h (by decide) hx hb hr hlocks hwf hkp hP hK hD hS d_M_isWellMade_318
    have h := if_f (fun z => n36 (ew13.trans z)) h
    by_cases n42 : w13 = 9
    · have h := if_t (ew13.symm.trans n42) h
      subst n42
      refine lv_tableIn (off := 212) (tgt := 282) hx hb d_M_isWellMade_70 (by decide) (by decide) (by decide) (by decide) ?_
      refine lv_iload hx hb d_M_isWellMade_282 (lv_at hl 1 rfl) ?_
      refine lv_if_eq (tgt := 317) hx hb d_M_isWellMade_284 (by decide) (fun c43 => ?_) (fun c43 => ?_)
      · have h := if_t c43 h
        refine lv_iconst (v := 0) hx hb d_M_isWellMade_317 (by decide) ?_
        exact me_retz (me_kp M0) h (by decide) hx hb hr hlocks hwf hkp hP hK hD hS d_M_isWellMade_318
      have h := if_f c43 h
      refine lv_iload hx hb d_M_isWellMade_287 (lv_at hl 8 rfl) ?_
      refine lv_if_eq (tgt := 317) hx hb d_M_isWellMade_289 (by decide) (fun c44 => ?_) (fun c44 => ?_)
      · have h := if_t c44 h
        refine lv_iconst (v := 0) hx hb d_M_isWellMade_317 (by decide) ?_
        exact me_retz (me_kp M0) h (by decide) hx hb hr hlocks hwf hkp hP hK hD hS d_M_isWellMade_318
      have h := if_f c44 h
      refine lv_iload hx hb d_M_isWellMade_292 (lv_at hl 0 rfl) ?_
      refine lv_bipush (v := 16) hx hb d_M_isWellMade_294 (by decide) ?_
      refine lv_icmp_eq (tgt := 313) hx hb d_M_isWellMade_296 (by decide) (fun c45 => ?_) (fun c45 => ?_)
      · have h := if_t c45 h
        refine lv_iconst (v := 1) hx hb d_M_isWellMade_313 (by decide) ?_
        refine lv_goto (tgt := 318) hx hb d_M_isWellMade_314 (by decide) ?_
        exact me_retz (me_kp M0) h (by decide) hx hb hr hlocks hwf hkp hP hK hD hS d_M_isWellMade_318
      have h := if_f c45 h
      refine lv_iload hx hb d_M_isWellMade_299 (lv_at hl 0 rfl) ?_
      refine lv_bipush (v := 32) hx hb d_M_isWellMade_301 (by decide) ?_
      refine lv_icmp_eq (tgt := 313) hx hb d_M_isWellMade_303 (by decide) (fun c46 => ?_) (fun c46 => ?_)
      · have h := if_t c46 h
        refine lv_iconst (v := 1) hx hb d_M_isWellMade_313 (by decide) ?_
        refine lv_goto (tgt := 318) hx hb d_M_isWellMade_314 (by decide) ?_
        exact me_retz (me_kp M0) h (by decide) hx hb hr hlocks hwf hkp hP hK hD hS d_M_isWellMade_318
      have h := if_f c46 h
      refine lv_iload hx hb d_M_isWellMade_306 (lv_at hl 0 rfl) ?_
      refine lv_bipush (v := 64) hx hb d_M_isWellMade_308 (by decide) ?_
      refine lv_icmp_ne (tgt := 317) hx hb d_M_isWellMade_310 (by decide) (fun c47 => ?_) (fun c47 => ?_)
      · have h := if_f c47 h
        refine lv_iconst (v := 0) hx hb d_M_isWellMade_317 (by decide) ?_
        exact me_retz (me_kp M0) h (by decide) hx hb hr hlocks hwf hkp hP hK hD hS d_M_isWellMade_318
      have h := if_t c47 h
      refine lv_iconst (v := 1) hx hb d_M_isWellMade_313 (by decide) ?_
      refine lv_goto (tgt := 318) hx hb d_M_isWellMade_314 (by decide) ?_
      exact me_retz (me_kp M0) h (by decide) hx hb hr hlocks hwf hkp hP hK hD hS d_M_isWellMade_318
    have h := if_f (fun z => n42 (ew13.trans z)) h
    by_cases n48 : w13 = 10
    · have h := if_t (ew13.symm.trans n48) h
      subst n48
      refine lv_tableIn (off := 249) (tgt := 319) hx hb d_M_isWellMade_70 (by decide) (by decide) (by decide) (by decide) ?_
      refine lv_iload hx hb d_M_isWellMade_319 (lv_at hl 7 rfl) ?_
      refine lv_if_eq (tgt := 338) hx hb d_M_isWellMade_321 (by decide) (fun c49 => ?_) (fun c49 => ?_)
      · have h := if_t c49 h
        refine lv_iconst (v := 0) hx hb d_M_isWellMade_338 (by decide) ?_
        exact me_retz (me_kp M0) h (by decide) hx hb hr hlocks hwf hkp hP hK hD hS d_M_isWellMade_339
      have h := if_f c49 h
      refine lv_iload hx hb d_M_isWellMade_324 (lv_at hl 8 rfl) ?_
      refine lv_if_eq (tgt := 338) hx hb d_M_isWellMade_326 (by decide) (fun c50 => ?_) (fun c50 => ?_)
      · have h := if_t c50 h
        refine lv_iconst (v := 0) hx hb d_M_isWellMade_338 (by decide) ?_
        exact me_retz (me_kp M0) h (by decide) hx hb hr hlocks hwf hkp hP hK hD hS d_M_isWellMade_339
      have h := if_f c50 h
      refine lv_iload hx hb d_M_isWellMade_329 (lv_at hl 0 rfl) ?_
      refine lv_if_ne (tgt := 338) hx hb d_M_isWellMade_331 (by decide) (fun c51 => ?_) (fun c51 => ?_)
      · have h := if_f c51 h
        refine lv_iconst (v := 0) hx hb d_M_isWellMade_338 (by decide) ?_
        exact me_retz (me_kp M0) h (by decide) hx hb hr hlocks hwf hkp hP hK hD hS d_M_isWellMade_339
      have h := if_t c51 h
      refine lv_iconst (v := 1) hx hb d_M_isWellMade_334 (by decide) ?_
      refine lv_goto (tgt := 339) hx hb d_M_isWellMade_335 (by decide) ?_
      exact me_retz (me_kp M0) h (by decide) hx hb hr hlocks hwf hkp hP hK hD hS d_M_isWellMade_339
    have h := if_f (fun z => n48 (ew13.trans z)) h
    by_cases n52 : w13 = 11
    · have h := if_t (ew13.symm.trans n52) h
      subst n52
      refine lv_tableIn (off := 270) (tgt := 340) hx hb d_M_isWellMade_70 (by decide) (by decide) (by decide) (by decide) ?_
      refine lv_iload hx hb d_M_isWellMade_340 (lv_at hl 5 rfl) ?_
      obtain ⟨r53, er53, h⟩ := bd_ob h
      refine me_pani' (r0 := r53) (fg_runS (wc := []) (tc := []) (A2 := A) (As := [.int y4]) (rest := []) ⟨hx, hb, hml, hown, hts⟩ (c_M_hasFrom l D r53 y4 er53 _) (by show fg_nm y_M_hasFrom 1; decide +kernel) u_2020 u_2021 u_192 u_2022 ⟨Nat.le_of_ble_eq_true rfl, Nat.le_of_ble_eq_true rfl⟩ hX me_P0 (hK.sub (tys' := []) [] rfl) me_D0 rfl hl.1 (Nat.le_of_ble_eq_true rfl) d_M_isWellMade_342 ⟨Nat.le_of_ble_eq_true rfl, Nat.le_of_ble_eq_true rfl⟩) hP hD hK hS hA rfl rfl (fun H locs hw hP hD hS => ?_)
      have zr53 := hw
      refine lv_if_eq (tgt := 361) hx hb d_M_isWellMade_345 (by decide) (fun c54 => ?_) (fun c54 => ?_)
      · have h := if_t c54 h
        refine lv_iload hx hb d_M_isWellMade_361 (lv_at hl 8 rfl) ?_
        exact me_retz (me_kp M0) h zy7 hx hb hr hlocks hwf hkp hP hK hD hS d_M_isWellMade_363
      have h := if_f c54 h
      refine lv_iload hx hb d_M_isWellMade_348 (lv_at hl 0 rfl) ?_
      refine lv_if_ne (tgt := 357) hx hb d_M_isWellMade_350 (by decide) (fun c55 => ?_) (fun c55 => ?_)
      · have h := if_f c55 h
        refine lv_iconst (v := 0) hx hb d_M_isWellMade_357 (by decide) ?_
        refine lv_goto (tgt := 363) hx hb d_M_isWellMade_358 (by decide) ?_
        exact me_retz (me_kp M0) h (by decide) hx hb hr hlocks hwf hkp hP hK hD hS d_M_isWellMade_363
      have h := if_t c55 h
      refine lv_iconst (v := 1) hx hb d_M_isWellMade_353 (by decide) ?_
      refine lv_goto (tgt := 363) hx hb d_M_isWellMade_354 (by decide) ?_
      exact me_retz (me_kp M0) h (by decide) hx hb hr hlocks hwf hkp hP hK hD hS d_M_isWellMade_363
    have h := if_f (fun z => n52 (ew13.trans z)) h
    by_cases n56 : w13 = 12
    · have h := if_t (ew13.symm.trans n56) h
      subst n56
      refine lv_tableIn (off := 294) (tgt := 364) hx hb d_M_isWellMade_70 (by decide) (by decide) (by decide) (by decide) ?_
      refine lv_iload hx hb d_M_isWellMade_364 (lv_at hl 7 rfl) ?_
      refine lv_if_eq (tgt := 383) hx hb d_M_isWellMade_366 (by decide) (fun c57 => ?_) (fun c57 => ?_)
      · have h := if_t c57 h
        refine lv_iconst (v := 0) hx hb d_M_isWellMade_383 (by decide) ?_
        exact me_retz (me_kp M0) h (by decide) hx hb hr hlocks hwf hkp hP hK hD hS d_M_isWellMade_384
      have h := if_f c57 h
      refine lv_iload hx hb d_M_isWellMade_369 (lv_at hl 8 rfl) ?_
      refine lv_if_eq (tgt := 383) hx hb d_M_isWellMade_371 (by decide) (fun c58 => ?_) (fun c58 => ?_)
      · have h := if_t c58 h
        refine lv_iconst (v := 0) hx hb d_M_isWellMade_383 (by decide) ?_
        exact me_retz (me_kp M0) h (by decide) hx hb hr hlocks hwf hkp hP hK hD hS d_M_isWellMade_384
      have h := if_f c58 h
      refine lv_iload hx hb d_M_isWellMade_374 (lv_at hl 1 rfl) ?_
      refine lv_if_eq (tgt := 383) hx hb d_M_isWellMade_376 (by decide) (fun c59 => ?_) (fun c59 => ?_)
      · have h := if_t c59 h
        refine lv_iconst (v := 0) hx hb d_M_isWellMade_383 (by decide) ?_
        exact me_retz (me_kp M0) h (by decide) hx hb hr hlocks hwf hkp hP hK hD hS d_M_isWellMade_384
      have h := if_f c59 h
      refine lv_iconst (v := 1) hx hb d_M_isWellMade_379 (by decide) ?_
      refine lv_goto (tgt := 384) hx hb d_M_isWellMade_380 (by decide) ?_
      exact me_retz (me_kp M0) h (by decide) hx hb hr hlocks hwf hkp hP hK hD hS d_M_isWellMade_384
    have h := if_f (fun z => n56 (ew13.trans z)) h
    by_cases n60 : w13 = 13
    · have h := if_t (ew13.symm.trans n60) h
      subst n60
      refine lv_tableIn (off := 315) (tgt := 385) hx hb d_M_isWellMade_70 (by decide) (by decide) (by decide) (by decide) ?_
      refine lv_iload hx hb d_M_isWellMade_385 (lv_at hl 7 rfl) ?_
      refine lv_if_eq (tgt := 409) hx hb d_M_isWellMade_387 (by decide) (fun c61 => ?_) (fun c61 => ?_)
      · have h := if_t c61 h
        refine lv_iconst (v := 0) hx hb d_M_isWellMade_409 (by decide) ?_
        exact me_retz (me_kp M0) h (by decide) hx hb hr hlocks hwf hkp hP hK hD hS d_M_isWellMade_410
      have h := if_f c61 h
      refine lv_iload hx hb d_M_isWellMade_390 (lv_at hl 8 rfl) ?_
      refine lv_if_eq (tgt := 409) hx hb d_M_isWellMade_392 (by decide) (fun c62 => ?_) (fun c62 => ?_)
      · have h := if_t c62 h
        refine lv_iconst (v := 0) hx hb d_M_isWellMade_409 (by decide) ?_
        exact me_retz (me_kp M0) h (by decide) hx hb hr hlocks hwf hkp hP hK hD hS d_M_isWellMade_410
      have h := if_f c62 h
      refine lv_iload hx hb d_M_isWellMade_395 (lv_at hl 1 rfl) ?_
      refine lv_if_eq (tgt := 409) hx hb d_M_isWellMade_397 (by decide) (fun c63 => ?_) (fun c63 => ?_)
      · have h := if_t c63 h
        refine lv_iconst (v := 0) hx hb d_M_isWellMade_409 (by decide) ?_
        exact me_retz (me_kp M0) h (by decide) hx hb hr hlocks hwf hkp hP hK hD hS d_M_isWellMade_410
      have h := if_f c63 h
      refine lv_iload hx hb d_M_isWellMade_400 (lv_at hl 0 rfl) ?_
      refine lv_if_ne (tgt := 409) hx hb d_M_isWellMade_402 (by decide) (fun c64 => ?_) (fun c64 => ?_)
      · have h := if_f c64 h
        refine lv_iconst (v := 0) hx hb d_M_isWellMade_409 (by decide) ?_
        exact me_retz (me_kp M0) h (by decide) hx hb hr hlocks hwf hkp hP hK hD hS d_M_isWellMade_410
      have h := if_t c64 h
      refine lv_iconst (v := 1) hx hb d_M_isWellMade_405 (by decide) ?_
      refine lv_goto (tgt := 410) hx hb d_M_isWellMade_406 (by decide) ?_
      exact me_retz (me_kp M0) h (by decide) hx hb hr hlocks hwf hkp hP hK hD hS d_M_isWellMade_410
    have h := if_f (fun z => n60 (ew13.trans z)) h
    have in14 := lv_neT n14 (show (1 : Int32).toInt = 1 from rfl)
    have in19 := lv_neT n19 (show (2 : Int32).toInt = 2 from rfl)
    have in21 := lv_neT n21 (show (3 : Int32).toInt = 3 from rfl)
    have in23 := lv_neT n23 (show (4 : Int32).toInt = 4 from rfl)
    have in24 := lv_neT n24 (show (5 : Int32).toInt = 5 from rfl)
    have in26 := lv_neT n26 (show (6 : Int32).toInt = 6 from rfl)
    have in32 := lv_neT n32 (show (7 : Int32).toInt = 7 from rfl)
    have in36 := lv_neT n36 (show (8 : Int32).toInt = 8 from rfl)
    have in42 := lv_neT n42 (show (9 : Int32).toInt = 9 from rfl)
    have in48 := lv_neT n48 (show (10 : Int32).toInt = 10 from rfl)
    have in52 := lv_neT n52 (show (11 : Int32).toInt = 11 from rfl)
    have in56 := lv_neT n56 (show (12 : Int32).toInt = 12 from rfl)
    have in60 := lv_neT n60 (show (13 : Int32).toInt = 13 from rfl)
    refine lv_tableOut (tgt := 411) hx hb d_M_isWellMade_70 (by omega) (by decide) ?_
    refine lv_iconst (v := 0) hx hb d_M_isWellMade_411 (by decide) ?_
    exact me_retz (me_kp M0) h (by decide) hx hb hr hlocks hwf hkp hP hK hD hS d_M_isWellMade_412
  have b_46 : ∀ (M : me_M) (y2 : Int64) (y4 : Int32) (y5 : Int32) (y6 : Int32) (s0 : Int32) (H : Heap) (locs : List Loc) (ls : Array Slot), f_M_isWellMade_b46 j0 x1 M y2 y4 y5 y6 s0 = (some (MZ, RZ)) → (y6 = 1 ∨ y6 = 0) → (s0 = 1 ∨ s0 = 0) → me_wf N M → me_kp M0 M → va_P D classes (me_W ad ca M) H → va_D A (me_W ad ca M) → va_S A s.heap H locs → lv_has ls 10 [(0, .ref (ad 1 j0)), (1, .int x1), (2, .long y2), (4, .int y4), (5, .int y5), (6, .int y6)] → W p l e rm_M_isWellMade s m [.ref (ad 1 j0), .int x1].toArray below meth c H locs 0 0 (MQ below (q_M_isWellMade D ad ca N M0 MZ RZ A) [.ref (ad 1 j0), .int x1].toArray s rm_M_isWellMade.cells rm_M_isWellMade.slots A) (F0 m 46 ls [.int s0]) := by
    intro M y2 y4 y5 y6 s0 H locs ls h zy6 zs0 hwf hkp hP hD hS hl
    unfold f_M_isWellMade_b46 at h
    have hkb := hkp
    refine lv_istore (lv' := [(7, .int s0), (0, .ref (ad 1 j0)), (1, .int x1), (2, .long y2), (4, .int y4), (5, .int y5), (6, .int y6)]) hx hb d_M_isWellMade_46 hl (by decide) rfl (fun ls hl => ?_)
    refine lv_lload_n hx hb d_M_isWellMade_48 rfl (lv_at hl 3 rfl) ?_
    obtain ⟨r65, er65, h⟩ := bd_ob h
    refine me_pani' (r0 := r65) (fg_runS (wc := []) (tc := []) (A2 := A) (As := [.long y2]) (rest := []) ⟨hx, hb, hml, hown, hts⟩ (c_M_offsetOf l D r65 y2 er65 _) (by show fg_nm y_M_offsetOf 1; decide +kernel) u_2013 u_2014 u_192 u_2015 ⟨Nat.le_of_ble_eq_true rfl, Nat.le_of_ble_eq_true rfl⟩ hX me_P0 (hK.sub (tys' := []) [] rfl) me_D0 rfl hl.1 (Nat.le_of_ble_eq_true rfl) d_M_isWellMade_49 ⟨Nat.le_of_ble_eq_true rfl, Nat.le_of_ble_eq_true rfl⟩) hP hD hK hS hA rfl rfl (fun H locs hw hP hD hS => ?_)
    refine lv_if_ne (tgt := 59) hx hb d_M_isWellMade_52 (by decide) (fun c66 => ?_) (fun c66 => ?_)
    · have h := if_f c66 h
      refine lv_iconst (v := 0) hx hb d_M_isWellMade_59 (by decide) ?_
      exact b_60 M y2 y4 y5 y6 s0 (0 : Int32) _ _ _ h zy6 zs0 (by decide) hwf hkp hP hD hS (lv_sub hl [1, 2, 3, 4, 5, 6, 0] rfl)
    have h := if_t c66 h
    refine lv_iconst (v := 1) hx hb d_M_isWellMade_55 (by decide) ?_
    refine lv_goto (tgt := 60) hx hb d_M_isWellMade_56 (by decide) ?_
    exact b_60 M y2 y4 y5 y6 s0 (1 : Int32) _ _ _ h zy6 zs0 (by decide) hwf hkp hP hD hS (lv_sub hl [1, 2, 3, 4, 5, 6, 0] rfl)
  have b_32 : ∀ (M : me_M) (y2 : Int64) (y4 : Int32) (y5 : Int32) (s0 : Int32) (H : Heap) (locs : List Loc) (ls : Array Slot), f_M_isWellMade_b32 j0 x1 M y2 y4 y5 s0 = (some (MZ, RZ)) → (s0 = 1 ∨ s0 = 0) → me_wf N M → me_kp M0 M → va_P D classes (me_W ad ca M) H → va_D A (me_W ad ca M) → va_S A s.heap H locs → lv_has ls 10 [(0, .ref (ad 1 j0)), (1, .int x1), (2, .long y2), (4, .int y4), (5, .int y5)] → W p l e rm_M_isWellMade s m [.ref (ad 1 j0), .int x1].toArray below meth c H locs 0 0 (MQ below (q_M_isWellMade D ad ca N M0 MZ RZ A) [.ref (ad 1 j0), .int x1].toArray s rm_M_isWellMade.cells rm_M_isWellMade.slots A) (F0 m 32 ls [.int s0]) := by
    intro M y2 y4 y5 s0 H locs ls h zs0 hwf hkp hP hD hS hl
    unfold f_M_isWellMade_b32 at h
    have hkb := hkp
    refine lv_istore (lv' := [(6, .int s0), (0, .ref (ad 1 j0)), (1, .int x1), (2, .long y2), (4, .int y4), (5, .int y5)]) hx hb d_M_isWellMade_32 hl (by decide) rfl (fun ls hl => ?_)
    refine lv_lload_n hx hb d_M_isWellMade_34 rfl (lv_at hl 3 rfl) ?_
    obtain ⟨r67, er67, h⟩ := bd_ob h
    refine me_pani' (r0 := r67) (fg_runS (wc := []) (tc := []) (A2 := A) (As := [.long y2]) (rest := []) ⟨hx, hb, hml, hown, hts⟩ (c_M_fromOf l D r67 y2 er67 _) (by show fg_nm y_M_fromOf 1; decide +kernel) u_2010 u_2011 u_192 u_2012 ⟨Nat.le_of_ble_eq_true rfl, Nat.le_of_ble_eq_true rfl⟩ hX me_P0 (hK.sub (tys' := []) [] rfl) me_D0 rfl hl.1 (Nat.le_of_ble_eq_true rfl) d_M_isWellMade_35 ⟨Nat.le_of_ble_eq_true rfl, Nat.le_of_ble_eq_true rfl⟩) hP hD hK hS hA rfl rfl (fun H locs hw hP hD hS => ?_)
    refine lv_if_ne (tgt := 45) hx hb d_M_isWellMade_38 (by decide) (fun c68 => ?_) (fun c68 => ?_)
    · have h := if_f c68 h
      refine lv_iconst (v := 0) hx hb d_M_isWellMade_45 (by decide) ?_
      exact b_46 M y2 y4 y5 s0 (0 : Int32) _ _ _ h zs0 (by decide) hwf hkp hP hD hS (lv_sub hl [1, 2, 3, 4, 5, 0] rfl)
    have h := if_t c68 h
    refine lv_iconst (v := 1) hx hb d_M_isWellMade_41 (by decide) ?_
    refine lv_goto (tgt := 46) hx hb d_M_isWellMade_42 (by decide) ?_
    exact b_46 M y2 y4 y5 s0 (1 : Int32) _ _ _ h zs0 (by decide) hwf hkp hP hD hS (lv_sub hl [1, 2, 3, 4, 5, 0] rfl)
  refine lv_aload_n hx hb d_M_isWellMade_0 rfl (lv_at hl 0 rfl) ?_
  refine g_M_13 hx hb hts hown hK hP hwf hj0 (hts _ u_1754) d_M_isWellMade_1 ?_
  obtain ⟨j69, e70, h⟩ := bd_ob h
  have hj69 : j69 < N 16 := (hwf.2.1 1 j0 13 _ e70 (by decide) hj0)
  refine me_opt (j := j69) e70 ?_
  refine lv_iload_n hx hb d_M_isWellMade_4 rfl (lv_at hl 1 rfl) ?_
  obtain ⟨g71, h⟩ := gd_ob h
  refine me_lald hx hb hK hP hwf hj69 g71 d_M_isWellMade_5 ?_
  obtain ⟨v72, ev72, h⟩ := st_ob h
  refine fg_topl (y := v72) ev72.symm ?_
  refine lv_lstore_n (lv' := [(2, .long v72), (0, .ref (ad 1 j0)), (1, .int x1)]) hx hb d_M_isWellMade_6 rfl hl (by decide) rfl (fun ls hl => ?_)
  refine lv_lload_n hx hb d_M_isWellMade_7 rfl (lv_at hl 0 rfl) ?_
  obtain ⟨r73, er73, h⟩ := bd_ob h
  refine me_pani' (r0 := r73) (fg_runS (wc := []) (tc := []) (A2 := A) (As := [.long v72]) (rest := []) ⟨hx, hb, hml, hown, hts⟩ (c_M_opOf l D r73 v72 er73 _) (by show fg_nm y_M_opOf 1; decide +kernel) u_1997 u_1998 u_192 u_1999 ⟨Nat.le_of_ble_eq_true rfl, Nat.le_of_ble_eq_true rfl⟩ hX me_P0 (hK.sub (tys' := []) [] rfl) me_D0 rfl hl.1 (Nat.le_of_ble_eq_true rfl) d_M_isWellMade_8 ⟨Nat.le_of_ble_eq_true rfl, Nat.le_of_ble_eq_true rfl⟩) hP hD hK hS hA rfl rfl (fun H locs hw hP hD hS => ?_)
  refine lv_istore (lv' := [(4, .int r73), (2, .long v72), (0, .ref (ad 1 j0)), (1, .int x1)]) hx hb d_M_isWellMade_11 hl (by decide) rfl (fun ls hl => ?_)
  refine lv_iload hx hb d_M_isWellMade_13 (lv_at hl 0 rfl) ?_
  obtain ⟨r74, er74, h⟩ := bd_ob h
  refine me_pani' (r0 := r74) (fg_runS (wc := []) (tc := []) (A2 := A) (As := [.int r73]) (rest := []) ⟨hx, hb, hml, hown, hts⟩ (c_M_instruction l D r74 r73 er74 _) (by show fg_nm y_M_instruction 1; decide +kernel) u_2000 u_2001 u_192 u_2002 ⟨Nat.le_of_ble_eq_true rfl, Nat.le_of_ble_eq_true rfl⟩ hX me_P0 (hK.sub (tys' := []) [] rfl) me_D0 rfl hl.1 (Nat.le_of_ble_eq_true rfl) d_M_isWellMade_15 ⟨Nat.le_of_ble_eq_true rfl, Nat.le_of_ble_eq_true rfl⟩) hP hD hK hS hA rfl rfl (fun H locs hw hP hD hS => ?_)
  refine lv_istore (lv' := [(5, .int r74), (4, .int r73), (2, .long v72), (0, .ref (ad 1 j0)), (1, .int x1)]) hx hb d_M_isWellMade_18 hl (by decide) rfl (fun ls hl => ?_)
  refine lv_lload_n hx hb d_M_isWellMade_20 rfl (lv_at hl 2 rfl) ?_
  obtain ⟨r75, er75, h⟩ := bd_ob h
  refine me_pani' (r0 := r75) (fg_runS (wc := []) (tc := []) (A2 := A) (As := [.long v72]) (rest := []) ⟨hx, hb, hml, hown, hts⟩ (c_M_toOf l D r75 v72 er75 _) (by show fg_nm y_M_toOf 1; decide +kernel) u_2006 u_2007 u_192 u_2008 ⟨Nat.le_of_ble_eq_true rfl, Nat.le_of_ble_eq_true rfl⟩ hX me_P0 (hK.sub (tys' := []) [] rfl) me_D0 rfl hl.1 (Nat.le_of_ble_eq_true rfl) d_M_isWellMade_21 ⟨Nat.le_of_ble_eq_true rfl, Nat.le_of_ble_eq_true rfl⟩) hP hD hK hS hA rfl rfl (fun H locs hw hP hD hS => ?_)
  refine lv_if_ne (tgt := 31) hx hb d_M_isWellMade_24 (by decide) (fun c76 => ?_) (fun c76 => ?_)
  · have h := if_f c76 h
    refine lv_iconst (v := 0) hx hb d_M_isWellMade_31 (by decide) ?_
    exact b_32 M0 v72 r73 r74 (0 : Int32) _ _ _ h (by decide) hwf hkp hP hD hS (lv_sub hl [3, 4, 2, 1, 0] rfl)
  have h := if_t c76 h
  refine lv_iconst (v := 1) hx hb d_M_isWellMade_27 (by decide) ?_
  refine lv_goto (tgt := 32) hx hb d_M_isWellMade_28 (by decide) ?_
  exact b_32 M0 v72 r73 r74 (1 : Int32) _ _ _ h (by decide) hwf hkp hP hD hS (lv_sub hl [3, 4, 2, 1, 0] rfl)
theorem d_M_formFault_208 : decode prog_14_method_56_code 208 = .ok (.iload 5, 2) := by decide +kernel
theorem d_M_formFault_210 : decode prog_14_method_56_code 210 = .ok (.iconst 1, 1) := by decide +kernel
theorem d_M_formFault_211 : decode prog_14_method_56_code 211 = .ok (.if_icmp .ne 30, 3) := by decide +kernel
theorem d_M_formFault_241 : decode prog_14_method_56_code 241 = .ok (.iconst 0, 1) := by decide +kernel
theorem d_M_formFault_242 : decode prog_14_method_56_code 242 = .ok (.ireturn, 1) := by decide +kernel
theorem d_M_formFault_214 : decode prog_14_method_56_code 214 = .ok (.lload_n 2, 1) := by decide +kernel
theorem d_M_formFault_215 : decode prog_14_method_56_code 215 = .ok (.invokestatic 318, 3) := by decide +kernel
theorem d_M_formFault_218 : decode prog_14_method_56_code 218 = .ok (.iconst 1, 1) := by decide +kernel
theorem d_M_formFault_219 : decode prog_14_method_56_code 219 = .ok (.if_icmp .ne 22, 3) := by decide +kernel
theorem d_M_formFault_222 : decode prog_14_method_56_code 222 = .ok (.iload 6, 2) := by decide +kernel
theorem d_M_formFault_224 : decode prog_14_method_56_code 224 = .ok (.i2l, 1) := by decide +kernel
theorem d_M_formFault_225 : decode prog_14_method_56_code 225 = .ok (.lconst 0, 1) := by decide +kernel
theorem d_M_formFault_226 : decode prog_14_method_56_code 226 = .ok (.aload_n 0, 1) := by decide +kernel
theorem d_M_formFault_227 : decode prog_14_method_56_code 227 = .ok (.getfield 348, 3) := by decide +kernel
theorem u_1744 : Cond.fieldLink "FilterGuardModel" 348 "FilterGuardModel" "maps" "I" ∈ fg_g := fg_in (List.mem_of_getElem? (i := 1744) (by decide +kernel)) rfl
theorem g_M_3 {p : Program} {l : Launch} {e : Env} {R : Room} {s : Jvm.State} {m : MethodId} {args : Array Value} {below : List Frame} {meth : Method} {c : Code} {H : Heap} {locs : List Loc} {cells slots : Nat} {Q : Jvm.State → Prop} {cc : ByteArray} {pc : Nat} {ls : Array Slot} {rest : List Value} {D : va_G} {ad : Nat → Nat → Nat} {ca : Nat → ClassId} {M : me_M} {N : Nat → Nat} {own : String} {index j : Nat} (hexec : p.tables.exec = Jvm.exec) (hb : c.code = cc) (hts : ∀ w ∈ fg_g, w.before args s = true) (hown : s.vm.findClass own = some m.cls) (hK : va_K D classes (me_T ca) s) (hP : va_P D classes (me_W ad ca M) H) (hwf : me_wf N M) (hj : j < N 1) (hlink : (Cond.fieldLink own index "FilterGuardModel" "maps" "I").before args s = true) (hdg : decode cc pc = .ok (.getfield index, 3)) (kk : W p l e R s m args below meth c H locs cells slots Q (F0 m (pc + 3) ls (.int (mI M 1 j 3) :: rest))) : W p l e R s m args below meth c H locs cells slots Q (F0 m pc ls (.ref (ad 1 j) :: rest)) := me_get (k := 1) (f := 3) (C := "FilterGuardModel") (T := F_M) (Nf := 75) hexec hb hts i_M hown hK hP hwf hj (by decide) rfl (by decide) (by decide) hlink (fun _ h9 => h9) hdg kk
theorem d_M_formFault_230 : decode prog_14_method_56_code 230 = .ok (.iconst 1, 1) := by decide +kernel
theorem d_M_formFault_231 : decode prog_14_method_56_code 231 = .ok (.isub, 1) := by decide +kernel
theorem d_M_formFault_232 : decode prog_14_method_56_code 232 = .ok (.i2l, 1) := by decide +kernel
theorem d_M_formFault_233 : decode prog_14_method_56_code 233 = .ok (.invokestatic 342, 3) := by decide +kernel
theorem u_1976 : Cond.methodLink "FilterGuardModel" 342 ⟨"FilterGuardModel", "in", "(JJJ)Z"⟩ ∈ fg_g := fg_in (List.mem_of_getElem? (i := 1976) (by decide +kernel)) rfl
theorem u_1978 : Cond.code ⟨"FilterGuardModel", "in", "(JJJ)Z"⟩ prog_14_method_3_code 6 (some .boolean) ∈ fg_g := fg_in (List.mem_of_getElem? (i := 1978) (by decide +kernel)) rfl
theorem u_1977 : Cond.static ⟨"FilterGuardModel", "in", "(JJJ)Z"⟩ ∈ fg_g := fg_in (List.mem_of_getElem? (i := 1977) (by decide +kernel)) rfl
theorem d_M_formFault_236 : decode prog_14_method_56_code 236 = .ok (.ifCond .ne 5, 3) := by decide +kernel
theorem d_M_formFault_239 : decode prog_14_method_56_code 239 = .ok (.iconst 4, 1) := by decide +kernel
theorem d_M_formFault_240 : decode prog_14_method_56_code 240 = .ok (.ireturn, 1) := by decide +kernel
theorem d_M_formFault_188 : decode prog_14_method_56_code 188 = .ok (.iload 5, 2) := by decide +kernel
theorem d_M_formFault_190 : decode prog_14_method_56_code 190 = .ok (.bipush 12, 2) := by decide +kernel
theorem d_M_formFault_192 : decode prog_14_method_56_code 192 = .ok (.if_icmp .ne 16, 3) := by decide +kernel
theorem d_M_formFault_195 : decode prog_14_method_56_code 195 = .ok (.iload 6, 2) := by decide +kernel
theorem d_M_formFault_197 : decode prog_14_method_56_code 197 = .ok (.i2l, 1) := by decide +kernel
theorem d_M_formFault_198 : decode prog_14_method_56_code 198 = .ok (.lconst 1, 1) := by decide +kernel
theorem d_M_formFault_199 : decode prog_14_method_56_code 199 = .ok (.ldc2_w 346, 3) := by decide +kernel
theorem u_2031 : Cond.constantLong "FilterGuardModel" 346 6 ∈ fg_g := fg_in (List.mem_of_getElem? (i := 2031) (by decide +kernel)) rfl
theorem d_M_formFault_202 : decode prog_14_method_56_code 202 = .ok (.invokestatic 342, 3) := by decide +kernel
theorem d_M_formFault_205 : decode prog_14_method_56_code 205 = .ok (.ifCond .eq 34, 3) := by decide +kernel
theorem d_M_formFault_180 : decode prog_14_method_56_code 180 = .ok (.invokestatic 342, 3) := by decide +kernel
theorem d_M_formFault_183 : decode prog_14_method_56_code 183 = .ok (.ifCond .ne 5, 3) := by decide +kernel
theorem d_M_formFault_186 : decode prog_14_method_56_code 186 = .ok (.iconst 3, 1) := by decide +kernel
theorem d_M_formFault_187 : decode prog_14_method_56_code 187 = .ok (.ireturn, 1) := by decide +kernel
theorem d_M_formFault_159 : decode prog_14_method_56_code 159 = .ok (.iload 6, 2) := by decide +kernel
theorem d_M_formFault_161 : decode prog_14_method_56_code 161 = .ok (.i2l, 1) := by decide +kernel
theorem d_M_formFault_162 : decode prog_14_method_56_code 162 = .ok (.lconst 0, 1) := by decide +kernel
theorem d_M_formFault_163 : decode prog_14_method_56_code 163 = .ok (.iload 4, 2) := by decide +kernel
theorem d_M_formFault_165 : decode prog_14_method_56_code 165 = .ok (.invokestatic 339, 3) := by decide +kernel
theorem u_2026 : Cond.methodLink "FilterGuardModel" 339 ⟨"FilterGuardModel", "isNarrow", "(I)Z"⟩ ∈ fg_g := fg_in (List.mem_of_getElem? (i := 2026) (by decide +kernel)) rfl
theorem u_2028 : Cond.code ⟨"FilterGuardModel", "isNarrow", "(I)Z"⟩ prog_14_method_53_code 2 (some .boolean) ∈ fg_g := fg_in (List.mem_of_getElem? (i := 2028) (by decide +kernel)) rfl
theorem u_2027 : Cond.static ⟨"FilterGuardModel", "isNarrow", "(I)Z"⟩ ∈ fg_g := fg_in (List.mem_of_getElem? (i := 2027) (by decide +kernel)) rfl
theorem d_M_formFault_168 : decode prog_14_method_56_code 168 = .ok (.ifCond .eq 9, 3) := by decide +kernel
theorem d_M_formFault_177 : decode prog_14_method_56_code 177 = .ok (.ldc2_w 259, 3) := by decide +kernel
theorem d_M_formFault_171 : decode prog_14_method_56_code 171 = .ok (.ldc2_w 257, 3) := by decide +kernel
theorem d_M_formFault_174 : decode prog_14_method_56_code 174 = .ok (.goto 6, 3) := by decide +kernel
theorem d_M_formFault_138 : decode prog_14_method_56_code 138 = .ok (.iload 8, 2) := by decide +kernel
theorem d_M_formFault_140 : decode prog_14_method_56_code 140 = .ok (.bipush 6, 2) := by decide +kernel
theorem d_M_formFault_142 : decode prog_14_method_56_code 142 = .ok (.if_icmp .eq 17, 3) := by decide +kernel
theorem d_M_formFault_145 : decode prog_14_method_56_code 145 = .ok (.iload 8, 2) := by decide +kernel
theorem d_M_formFault_147 : decode prog_14_method_56_code 147 = .ok (.bipush 7, 2) := by decide +kernel
theorem d_M_formFault_149 : decode prog_14_method_56_code 149 = .ok (.if_icmp .eq 10, 3) := by decide +kernel
theorem d_M_formFault_152 : decode prog_14_method_56_code 152 = .ok (.iload 8, 2) := by decide +kernel
theorem d_M_formFault_154 : decode prog_14_method_56_code 154 = .ok (.bipush 12, 2) := by decide +kernel
theorem d_M_formFault_156 : decode prog_14_method_56_code 156 = .ok (.if_icmp .ne 32, 3) := by decide +kernel
theorem d_M_formFault_131 : decode prog_14_method_56_code 131 = .ok (.iload 6, 2) := by decide +kernel
theorem d_M_formFault_133 : decode prog_14_method_56_code 133 = .ok (.ifCond .ne 5, 3) := by decide +kernel
theorem d_M_formFault_136 : decode prog_14_method_56_code 136 = .ok (.iconst 3, 1) := by decide +kernel
theorem d_M_formFault_137 : decode prog_14_method_56_code 137 = .ok (.ireturn, 1) := by decide +kernel
theorem d_M_formFault_86 : decode prog_14_method_56_code 86 = .ok (.lload_n 2, 1) := by decide +kernel
theorem d_M_formFault_87 : decode prog_14_method_56_code 87 = .ok (.invokestatic 318, 3) := by decide +kernel
theorem d_M_formFault_90 : decode prog_14_method_56_code 90 = .ok (.bipush 10, 2) := by decide +kernel
theorem d_M_formFault_92 : decode prog_14_method_56_code 92 = .ok (.if_icmp .le 5, 3) := by decide +kernel
theorem d_M_formFault_97 : decode prog_14_method_56_code 97 = .ok (.iload 4, 2) := by decide +kernel
theorem d_M_formFault_99 : decode prog_14_method_56_code 99 = .ok (.iconst 4, 1) := by decide +kernel
theorem d_M_formFault_100 : decode prog_14_method_56_code 100 = .ok (.ishr, 1) := by decide +kernel
theorem d_M_formFault_101 : decode prog_14_method_56_code 101 = .ok (.istore 8, 2) := by decide +kernel
theorem d_M_formFault_103 : decode prog_14_method_56_code 103 = .ok (.iload 5, 2) := by decide +kernel
theorem d_M_formFault_105 : decode prog_14_method_56_code 105 = .ok (.bipush 6, 2) := by decide +kernel
theorem d_M_formFault_107 : decode prog_14_method_56_code 107 = .ok (.if_icmp .ne 81, 3) := by decide +kernel
theorem d_M_formFault_110 : decode prog_14_method_56_code 110 = .ok (.iload 4, 2) := by decide +kernel
theorem d_M_formFault_112 : decode prog_14_method_56_code 112 = .ok (.invokestatic 330, 3) := by decide +kernel
theorem d_M_formFault_115 : decode prog_14_method_56_code 115 = .ok (.ifCond .ne 73, 3) := by decide +kernel
theorem d_M_formFault_118 : decode prog_14_method_56_code 118 = .ok (.iload 8, 2) := by decide +kernel
theorem d_M_formFault_120 : decode prog_14_method_56_code 120 = .ok (.iconst 3, 1) := by decide +kernel
theorem d_M_formFault_121 : decode prog_14_method_56_code 121 = .ok (.if_icmp .eq 10, 3) := by decide +kernel
theorem d_M_formFault_124 : decode prog_14_method_56_code 124 = .ok (.iload 8, 2) := by decide +kernel
theorem d_M_formFault_126 : decode prog_14_method_56_code 126 = .ok (.bipush 9, 2) := by decide +kernel
theorem d_M_formFault_128 : decode prog_14_method_56_code 128 = .ok (.if_icmp .ne 10, 3) := by decide +kernel
theorem d_M_formFault_95 : decode prog_14_method_56_code 95 = .ok (.iconst 2, 1) := by decide +kernel
theorem d_M_formFault_96 : decode prog_14_method_56_code 96 = .ok (.ireturn, 1) := by decide +kernel
theorem d_M_formFault_61 : decode prog_14_method_56_code 61 = .ok (.istore 7, 2) := by decide +kernel
theorem d_M_formFault_63 : decode prog_14_method_56_code 63 = .ok (.lload_n 2, 1) := by decide +kernel
theorem d_M_formFault_64 : decode prog_14_method_56_code 64 = .ok (.invokestatic 315, 3) := by decide +kernel
theorem d_M_formFault_67 : decode prog_14_method_56_code 67 = .ok (.bipush 10, 2) := by decide +kernel
theorem d_M_formFault_69 : decode prog_14_method_56_code 69 = .ok (.if_icmp .gt 26, 3) := by decide +kernel
theorem d_M_formFault_72 : decode prog_14_method_56_code 72 = .ok (.iload 7, 2) := by decide +kernel
theorem d_M_formFault_74 : decode prog_14_method_56_code 74 = .ok (.ifCond .eq 12, 3) := by decide +kernel
theorem d_M_formFault_77 : decode prog_14_method_56_code 77 = .ok (.lload_n 2, 1) := by decide +kernel
theorem d_M_formFault_78 : decode prog_14_method_56_code 78 = .ok (.invokestatic 315, 3) := by decide +kernel
theorem d_M_formFault_81 : decode prog_14_method_56_code 81 = .ok (.bipush 10, 2) := by decide +kernel
theorem d_M_formFault_83 : decode prog_14_method_56_code 83 = .ok (.if_icmp .eq 12, 3) := by decide +kernel
theorem d_M_formFault_56 : decode prog_14_method_56_code 56 = .ok (.iconst 1, 1) := by decide +kernel
theorem d_M_formFault_57 : decode prog_14_method_56_code 57 = .ok (.goto 4, 3) := by decide +kernel
theorem d_M_formFault_0 : decode prog_14_method_56_code 0 = .ok (.aload_n 0, 1) := by decide +kernel
theorem d_M_formFault_1 : decode prog_14_method_56_code 1 = .ok (.iload_n 1, 1) := by decide +kernel
theorem d_M_formFault_2 : decode prog_14_method_56_code 2 = .ok (.invokevirtual 333, 3) := by decide +kernel
theorem u_1993 : Cond.methodLink "FilterGuardModel" 333 ⟨"FilterGuardModel", "isWellMade", "(I)Z"⟩ ∈ fg_g := fg_in (List.mem_of_getElem? (i := 1993) (by decide +kernel)) rfl
theorem u_1996 : Cond.code ⟨"FilterGuardModel", "isWellMade", "(I)Z"⟩ prog_14_method_55_code 10 (some .boolean) ∈ fg_g := fg_in (List.mem_of_getElem? (i := 1996) (by decide +kernel)) rfl
theorem u_1995 : Cond.instanceMethod ⟨"FilterGuardModel", "isWellMade", "(I)Z"⟩ ∈ fg_g := fg_in (List.mem_of_getElem? (i := 1995) (by decide +kernel)) rfl
theorem u_88 : Cond.selects "FilterGuardModel" ⟨"FilterGuardModel", "isWellMade", "(I)Z"⟩ ⟨"FilterGuardModel", "isWellMade", "(I)Z"⟩ ∈ fg_g := fg_in (List.mem_of_getElem? (i := 88) (by decide +kernel)) rfl
theorem d_M_formFault_5 : decode prog_14_method_56_code 5 = .ok (.ifCond .ne 5, 3) := by decide +kernel
theorem d_M_formFault_10 : decode prog_14_method_56_code 10 = .ok (.aload_n 0, 1) := by decide +kernel
theorem d_M_formFault_11 : decode prog_14_method_56_code 11 = .ok (.getfield 37, 3) := by decide +kernel
theorem d_M_formFault_14 : decode prog_14_method_56_code 14 = .ok (.iload_n 1, 1) := by decide +kernel
theorem d_M_formFault_15 : decode prog_14_method_56_code 15 = .ok (.laload, 1) := by decide +kernel
theorem d_M_formFault_16 : decode prog_14_method_56_code 16 = .ok (.lstore_n 2, 1) := by decide +kernel
theorem d_M_formFault_17 : decode prog_14_method_56_code 17 = .ok (.lload_n 2, 1) := by decide +kernel
theorem d_M_formFault_18 : decode prog_14_method_56_code 18 = .ok (.invokestatic 308, 3) := by decide +kernel
theorem d_M_formFault_21 : decode prog_14_method_56_code 21 = .ok (.istore 4, 2) := by decide +kernel
theorem d_M_formFault_23 : decode prog_14_method_56_code 23 = .ok (.iload 4, 2) := by decide +kernel
theorem d_M_formFault_25 : decode prog_14_method_56_code 25 = .ok (.invokestatic 312, 3) := by decide +kernel
theorem d_M_formFault_28 : decode prog_14_method_56_code 28 = .ok (.istore 5, 2) := by decide +kernel
theorem d_M_formFault_30 : decode prog_14_method_56_code 30 = .ok (.lload_n 2, 1) := by decide +kernel
theorem d_M_formFault_31 : decode prog_14_method_56_code 31 = .ok (.invokestatic 324, 3) := by decide +kernel
theorem d_M_formFault_34 : decode prog_14_method_56_code 34 = .ok (.istore 6, 2) := by decide +kernel
theorem d_M_formFault_36 : decode prog_14_method_56_code 36 = .ok (.iload 5, 2) := by decide +kernel
theorem d_M_formFault_38 : decode prog_14_method_56_code 38 = .ok (.iconst 1, 1) := by decide +kernel
theorem d_M_formFault_39 : decode prog_14_method_56_code 39 = .ok (.if_icmp .eq 17, 3) := by decide +kernel
theorem d_M_formFault_42 : decode prog_14_method_56_code 42 = .ok (.iload 5, 2) := by decide +kernel
theorem d_M_formFault_44 : decode prog_14_method_56_code 44 = .ok (.iconst 2, 1) := by decide +kernel
theorem d_M_formFault_45 : decode prog_14_method_56_code 45 = .ok (.if_icmp .eq 11, 3) := by decide +kernel
theorem d_M_formFault_48 : decode prog_14_method_56_code 48 = .ok (.iload 5, 2) := by decide +kernel
theorem d_M_formFault_50 : decode prog_14_method_56_code 50 = .ok (.invokestatic 336, 3) := by decide +kernel
theorem u_2023 : Cond.methodLink "FilterGuardModel" 336 ⟨"FilterGuardModel", "isArithmetic", "(I)Z"⟩ ∈ fg_g := fg_in (List.mem_of_getElem? (i := 2023) (by decide +kernel)) rfl
theorem u_2025 : Cond.code ⟨"FilterGuardModel", "isArithmetic", "(I)Z"⟩ prog_14_method_54_code 1 (some .boolean) ∈ fg_g := fg_in (List.mem_of_getElem? (i := 2025) (by decide +kernel)) rfl
theorem u_2024 : Cond.static ⟨"FilterGuardModel", "isArithmetic", "(I)Z"⟩ ∈ fg_g := fg_in (List.mem_of_getElem? (i := 2024) (by decide +kernel)) rfl
theorem d_M_formFault_53 : decode prog_14_method_56_code 53 = .ok (.ifCond .eq 7, 3) := by decide +kernel
theorem d_M_formFault_60 : decode prog_14_method_56_code 60 = .ok (.iconst 0, 1) := by decide +kernel
theorem d_M_formFault_8 : decode prog_14_method_56_code 8 = .ok (.iconst 1, 1) := by decide +kernel
theorem d_M_formFault_9 : decode prog_14_method_56_code 9 = .ok (.ireturn, 1) := by decide +kernel
abbrev y_M_formFault : MethodName := ⟨"FilterGuardModel", "formFault", "(I)I"⟩
def rm_M_formFault : Room := { frames := 4, cells := 0, slots := 0, locals := 90 }
abbrev q_M_formFault (D : va_G) (ad : Nat → Nat → Nat) (ca : Nat → ClassId) (N : Nat → Nat) (M0 MZ : me_M) (RZ : Int32) (A : Nat → Prop) : Array Value → Jvm.State → Outcome → Jvm.State → Prop := va_Qi (fun r (_ : Unit) => r = RZ ∧ me_wf N MZ ∧ me_kp M0 MZ) (fg_B D A (fun _ => me_W ad ca MZ) (fun _ => [])) A
set_option maxHeartbeats 4000000 in
set_option maxRecDepth 100000 in
theorem c_M_formFault (l : Launch) (D : va_G) (ad : Nat → Nat → Nat) (ca : Nat → ClassId) (N : Nat → Nat) (M0 MZ : me_M) (RZ : Int32) (j0 : Nat) (x1 : Int32) (h : f_M_formFault M0 j0 x1 = (some (MZ, RZ))) (hwf : me_wf N M0) (hj0 : j0 < N 1) (sz : Nat) : Met l y_M_formFault (fg_w y_M_formFault prog_14_method_56_code 9 (some .int)) rm_M_formFault (va_Pc [.ref (ad 1 j0), .int x1] (fz_P D (me_T ca) (me_W ad ca M0) sz)) (q_M_formFault D ad ca N M0 MZ RZ (va_A (me_W ad ca M0) sz)) rm_M_formFault.cells rm_M_formFault.slots (va_A (me_W ad ca M0) sz) := by
  refine fz_enter (fun A => q_M_formFault D ad ca N M0 MZ RZ A) (by decide +kernel) (Nat.le_of_ble_eq_true rfl) ?_
  intro p e s m below meth c ls A hx hb hml hown hts hr hlocks hin hP hK hD hS hA hX hl hz
  have hl : lv_has ls 9 [(0, .ref (ad 1 j0)), (1, .int x1)] := hl
  unfold f_M_formFault at h
  have hkp : me_kp M0 M0 := me_kp.rf
  have hkb := hkp
  have b_208 : ∀ (M : me_M) (y2 : Int64) (y5 : Int32) (y6 : Int32) (H : Heap) (locs : List Loc) (ls : Array Slot), f_M_formFault_b208 j0 M y2 y5 y6 = (some (MZ, RZ)) → me_wf N M → me_kp M0 M → va_P D classes (me_W ad ca M) H → va_D A (me_W ad ca M) → va_S A s.heap H locs → lv_has ls 9 [(0, .ref (ad 1 j0)), (2, .long y2), (5, .int y5), (6, .int y6)] → W p l e rm_M_formFault s m [.ref (ad 1 j0), .int x1].toArray below meth c H locs 0 0 (MQ below (q_M_formFault D ad ca N M0 MZ RZ A) [.ref (ad 1 j0), .int x1].toArray s rm_M_formFault.cells rm_M_formFault.slots A) (F0 m 208 ls []) := by
    intro M y2 y5 y6 H locs ls h hwf hkp hP hD hS hl
    unfold f_M_formFault_b208 at h
    have hkb := hkp
    refine lv_iload hx hb d_M_formFault_208 (lv_at hl 2 rfl) ?_
    refine lv_iconst (v := 1) hx hb d_M_formFault_210 (by decide) ?_
    refine lv_icmp_ne (tgt := 241) hx hb d_M_formFault_211 (by decide) (fun c1 => ?_) (fun c1 => ?_)
    · have h := if_f c1 h
      refine lv_iconst (v := 0) hx hb d_M_formFault_241 (by decide) ?_
      exact me_reti (me_kp M0) h hx hb hr hlocks hwf hkp hP hK hD hS d_M_formFault_242
    have h := if_t c1 h
    refine lv_lload_n hx hb d_M_formFault_214 rfl (lv_at hl 1 rfl) ?_
    obtain ⟨r2, er2, h⟩ := bd_ob h
    refine me_pani' (r0 := r2) (fg_runS (wc := []) (tc := []) (A2 := A) (As := [.long y2]) (rest := []) ⟨hx, hb, hml, hown, hts⟩ (c_M_fromOf l D r2 y2 er2 _) (by show fg_nm y_M_fromOf 1; decide +kernel) u_2010 u_2011 u_192 u_2012 ⟨Nat.le_of_ble_eq_true rfl, Nat.le_of_ble_eq_true rfl⟩ hX me_P0 (hK.sub (tys' := []) [] rfl) me_D0 rfl hl.1 (Nat.le_of_ble_eq_true rfl) d_M_formFault_215 ⟨Nat.le_of_ble_eq_true rfl, Nat.le_of_ble_eq_true rfl⟩) hP hD hK hS hA rfl rfl (fun H locs hw hP hD hS => ?_)
    refine lv_iconst (v := 1) hx hb d_M_formFault_218 (by decide) ?_
    refine lv_icmp_ne (tgt := 241) hx hb d_M_formFault_219 (by decide) (fun c3 => ?_) (fun c3 => ?_)
    · have h := if_f c3 h
      refine lv_iconst (v := 0) hx hb d_M_formFault_241 (by decide) ?_
      exact me_reti (me_kp M0) h hx hb hr hlocks hwf hkp hP hK hD hS d_M_formFault_242
    have h := if_t c3 h
    refine lv_iload hx hb d_M_formFault_222 (lv_at hl 3 rfl) ?_
    refine lv_i2l (v := y6.toInt64) hx hb d_M_formFault_224 rfl ?_
    refine lv_lconst (v := 0) hx hb d_M_formFault_225 (by decide) ?_
    refine lv_aload_n hx hb d_M_formFault_226 rfl (lv_at hl 0 rfl) ?_
    refine g_M_3 hx hb hts hown hK hP hwf hj0 (hts _ u_1744) d_M_formFault_227 ?_
    refine lv_iconst (v := 1) hx hb d_M_formFault_230 (by decide) ?_
    refine lv_isub hx hb d_M_formFault_231 ?_
    refine lv_i2l (v := ((mI M 1 j0 3) - 1).toInt64) hx hb d_M_formFault_232 rfl ?_
    obtain ⟨r4, er4, h⟩ := bd_ob h
    refine me_pani' (r0 := r4) (fg_runS (wc := []) (tc := []) (A2 := A) (As := [.long y6.toInt64, .long 0, .long (((mI M 1 j0 3) - 1).toInt64)]) (rest := []) ⟨hx, hb, hml, hown, hts⟩ (c_M_in l D r4 y6.toInt64 (0 : Int64) (((mI M 1 j0 3) - 1).toInt64) er4 _) (by show fg_nm y_M_in 3; decide +kernel) u_1976 u_1977 u_192 u_1978 ⟨Nat.le_of_ble_eq_true rfl, Nat.le_of_ble_eq_true rfl⟩ hX me_P0 (hK.sub (tys' := []) [] rfl) me_D0 rfl hl.1 (Nat.le_of_ble_eq_true rfl) d_M_formFault_233 ⟨Nat.le_of_ble_eq_true rfl, Nat.le_of_ble_eq_true rfl⟩) hP hD hK hS hA rfl rfl (fun H locs hw hP hD hS => ?_)
    have zr4 := hw
    refine lv_if_ne (tgt := 241) hx hb d_M_formFault_236 (by decide) (fun c5 => ?_) (fun c5 => ?_)
    · have h := if_f c5 h
      refine lv_iconst (v := 0) hx hb d_M_formFault_241 (by decide) ?_
      exact me_reti (me_kp M0) h hx hb hr hlocks hwf hkp hP hK hD hS d_M_formFault_242
    have h := if_t c5 h
    refine lv_iconst (v := 4) hx hb d_M_formFault_239 (by decide) ?_
    exact me_reti (me_kp M0) h hx hb hr hlocks hwf hkp hP hK hD hS d_M_formFault_240
  have b_188 : ∀ (M : me_M) (y2 : Int64) (y5 : Int32) (y6 : Int32) (H : Heap) (locs : List Loc) (ls : Array Slot), f_M_formFault_b188 j0 M y2 y5 y6 = (some (MZ, RZ)) → me_wf N M → me_kp M0 M → va_P D classes (me_W ad ca M) H → va_D A (me_W ad ca M) → va_S A s.heap H locs → lv_has ls 9 [(0, .ref (ad 1 j0)), (2, .long y2), (5, .int y5), (6, .int y6)] → W p l e rm_M_formFault s m [.ref (ad 1 j0), .int x1].toArray below meth c H locs 0 0 (MQ below (q_M_formFault D ad ca N M0 MZ RZ A) [.ref (ad 1 j0), .int x1].toArray s rm_M_formFault.cells rm_M_formFault.slots A) (F0 m 188 ls []) := by
    intro M y2 y5 y6 H locs ls h hwf hkp hP hD hS hl
    unfold f_M_formFault_b188 at h
    have hkb := hkp
    refine lv_iload hx hb d_M_formFault_188 (lv_at hl 2 rfl) ?_
    refine lv_bipush (v := 12) hx hb d_M_formFault_190 (by decide) ?_
    refine lv_icmp_ne (tgt := 208) hx hb d_M_formFault_192 (by decide) (fun c6 => ?_) (fun c6 => ?_)
    · have h := if_f c6 h
      exact b_208 M y2 y5 y6 _ _ _ h hwf hkp hP hD hS (lv_sub hl [0, 1, 2, 3] rfl)
    have h := if_t c6 h
    refine lv_iload hx hb d_M_formFault_195 (lv_at hl 3 rfl) ?_
    refine lv_i2l (v := y6.toInt64) hx hb d_M_formFault_197 rfl ?_
    refine lv_lconst (v := 1) hx hb d_M_formFault_198 (by decide) ?_
    refine lv_ldc2 hx hb hown (hts _ u_2031) d_M_formFault_199 ?_
    obtain ⟨r7, er7, h⟩ := bd_ob h
    refine me_pani' (r0 := r7) (fg_runS (wc := []) (tc := []) (A2 := A) (As := [.long y6.toInt64, .long 1, .long 6]) (rest := []) ⟨hx, hb, hml, hown, hts⟩ (c_M_in l D r7 y6.toInt64 (1 : Int64) (6 : Int64) er7 _) (by show fg_nm y_M_in 3; decide +kernel) u_1976 u_1977 u_192 u_1978 ⟨Nat.le_of_ble_eq_true rfl, Nat.le_of_ble_eq_true rfl⟩ hX me_P0 (hK.sub (tys' := []) [] rfl) me_D0 rfl hl.1 (Nat.le_of_ble_eq_true rfl) d_M_formFault_202 ⟨Nat.le_of_ble_eq_true rfl, Nat.le_of_ble_eq_true rfl⟩) hP hD hK hS hA rfl rfl (fun H locs hw hP hD hS => ?_)
    have zr7 := hw
    refine lv_if_eq (tgt := 239) hx hb d_M_formFault_205 (by decide) (fun c8 => ?_) (fun c8 => ?_)
    · have h := if_t c8 h
      refine lv_iconst (v := 4) hx hb d_M_formFault_239 (by decide) ?_
      exact me_reti (me_kp M0) h hx hb hr hlocks hwf hkp hP hK hD hS d_M_formFault_240
    have h := if_f c8 h
    exact b_208 M y2 y5 y6 _ _ _ h hwf hkp hP hD hS (lv_sub hl [0, 1, 2, 3] rfl)
  have b_180 : ∀ (M : me_M) (y2 : Int64) (y5 : Int32) (y6 : Int32) (s0 : Int64) (s1 : Int64) (s2 : Int64) (H : Heap) (locs : List Loc) (ls : Array Slot), f_M_formFault_b180 j0 M y2 y5 y6 s0 s1 s2 = (some (MZ, RZ)) → me_wf N M → me_kp M0 M → va_P D classes (me_W ad ca M) H → va_D A (me_W ad ca M) → va_S A s.heap H locs → lv_has ls 9 [(0, .ref (ad 1 j0)), (2, .long y2), (5, .int y5), (6, .int y6)] → W p l e rm_M_formFault s m [.ref (ad 1 j0), .int x1].toArray below meth c H locs 0 0 (MQ below (q_M_formFault D ad ca N M0 MZ RZ A) [.ref (ad 1 j0), .int x1].toArray s rm_M_formFault.cells rm_M_formFault.slots A) (F0 m 180 ls [.long s0, .long s1, .long s2]) := by
    intro M y2 y5 y6 s0 s1 s2 H locs ls h hwf hkp hP hD hS hl
    unfold f_M_formFault_b180 at h
    have hkb := hkp
    obtain ⟨r9, er9, h⟩ := bd_ob h
    refine me_pani' (r0 := r9) (fg_runS (wc := []) (tc := []) (A2 := A) (As := [.long s2, .long s1, .long s0]) (rest := []) ⟨hx, hb, hml, hown, hts⟩ (c_M_in l D r9 s2 s1 s0 er9 _) (by show fg_nm y_M_in 3; decide +kernel) u_1976 u_1977 u_192 u_1978 ⟨Nat.le_of_ble_eq_true rfl, Nat.le_of_ble_eq_true rfl⟩ hX me_P0 (hK.sub (tys' := []) [] rfl) me_D0 rfl hl.1 (Nat.le_of_ble_eq_true rfl) d_M_formFault_180 ⟨Nat.le_of_ble_eq_true rfl, Nat.le_of_ble_eq_true rfl⟩) hP hD hK hS hA rfl rfl (fun H locs hw hP hD hS => ?_)
    have zr9 := hw
    refine lv_if_ne (tgt := 188) hx hb d_M_formFault_183 (by decide) (fun c10 => ?_) (fun c10 => ?_)
    · have h := if_f c10 h
      exact b_188 M y2 y5 y6 _ _ _ h hwf hkp hP hD hS (lv_sub hl [0, 1, 2, 3] rfl)
    have h := if_t c10 h
    refine lv_iconst (v := 3) hx hb d_M_formFault_186 (by decide) ?_
    exact me_reti (me_kp M0) h hx hb hr hlocks hwf hkp hP hK hD hS d_M_formFault_187
  have b_159 : ∀ (M : me_M) (y2 : Int64) (y4 : Int32) (y5 : Int32) (y6 : Int32) (H : Heap) (locs : List Loc) (ls : Array Slot), f_M_formFault_b159 j0 M y2 y4 y5 y6 = (some (MZ, RZ)) → me_wf N M → me_kp M0 M → va_P D classes (me_W ad ca M) H → va_D A (me_W ad ca M) → va_S A s.heap H locs → lv_has ls 9 [(0, .ref (ad 1 j0)), (2, .long y2), (4, .int y4), (5, .int y5), (6, .int y6)] → W p l e rm_M_formFault s m [.ref (ad 1 j0), .int x1].toArray below meth c H locs 0 0 (MQ below (q_M_formFault D ad ca N M0 MZ RZ A) [.ref (ad 1 j0), .int x1].toArray s rm_M_formFault.cells rm_M_formFault.slots A) (F0 m 159 ls []) := by
    intro M y2 y4 y5 y6 H locs ls h hwf hkp hP hD hS hl
    unfold f_M_formFault_b159 at h
    have hkb := hkp
    refine lv_iload hx hb d_M_formFault_159 (lv_at hl 4 rfl) ?_
    refine lv_i2l (v := y6.toInt64) hx hb d_M_formFault_161 rfl ?_
    refine lv_lconst (v := 0) hx hb d_M_formFault_162 (by decide) ?_
    refine lv_iload hx hb d_M_formFault_163 (lv_at hl 2 rfl) ?_
    obtain ⟨r11, er11, h⟩ := bd_ob h
    refine me_pani' (r0 := r11) (fg_runS (wc := []) (tc := []) (A2 := A) (As := [.int y4]) (rest := [.long 0, .long y6.toInt64]) ⟨hx, hb, hml, hown, hts⟩ (c_M_isNarrow l D r11 y4 er11 _) (by show fg_nm y_M_isNarrow 1; decide +kernel) u_2026 u_2027 u_192 u_2028 ⟨Nat.le_of_ble_eq_true rfl, Nat.le_of_ble_eq_true rfl⟩ hX me_P0 (hK.sub (tys' := []) [] rfl) me_D0 rfl hl.1 (Nat.le_of_ble_eq_true rfl) d_M_formFault_165 ⟨Nat.le_of_ble_eq_true rfl, Nat.le_of_ble_eq_true rfl⟩) hP hD hK hS hA rfl rfl (fun H locs hw hP hD hS => ?_)
    have zr11 := hw
    refine lv_if_eq (tgt := 177) hx hb d_M_formFault_168 (by decide) (fun c12 => ?_) (fun c12 => ?_)
    · have h := if_t c12 h
      refine lv_ldc2 hx hb hown (hts _ u_2030) d_M_formFault_177 ?_
      exact b_180 M y2 y5 y6 (63 : Int64) (0 : Int64) y6.toInt64 _ _ _ h hwf hkp hP hD hS (lv_sub hl [0, 1, 3, 4] rfl)
    have h := if_f c12 h
    refine lv_ldc2 hx hb hown (hts _ u_2029) d_M_formFault_171 ?_
    refine lv_goto (tgt := 180) hx hb d_M_formFault_174 (by decide) ?_
    exact b_180 M y2 y5 y6 (31 : Int64) (0 : Int64) y6.toInt64 _ _ _ h hwf hkp hP hD hS (lv_sub hl [0, 1, 3, 4] rfl)
  have b_138 : ∀ (M : me_M) (y2 : Int64) (y4 : Int32) (y5 : Int32) (y6 : Int32) (y8 : Int32) (H : Heap) (locs : List Loc) (ls : Array Slot), f_M_formFault_b138 j0 M y2 y4 y5 y6 y8 = (some (MZ, RZ)) → me_wf N M → me_kp M0 M → va_P D classes (me_W ad ca M) H → va_D A (me_W ad ca M) → va_S A s.heap H locs → lv_has ls 9 [(0, .ref (ad 1 j0)), (2, .long y2), (4, .int y4), (5, .int y5), (6, .int y6), (8, .int y8)] → W p l e rm_M_formFault s m [.ref (ad 1 j0), .int x1].toArray below meth c H locs 0 0 (MQ below (q_M_formFault D ad ca N M0 MZ RZ A) [.ref (ad 1 j0), .int x1].toArray s rm_M_formFault.cells rm_M_formFault.slots A) (F0 m 138 ls []) := by
    intro M y2 y4 y5 y6 y8 H locs ls h hwf hkp hP hD hS hl
    unfold f_M_formFault_b138 at h
    have hkb := hkp
    refine lv_iload hx hb d_M_formFault_138 (lv_at hl 5 rfl) ?_
    refine lv_bipush (v := 6) hx hb d_M_formFault_140 (by decide) ?_
    refine lv_icmp_eq (tgt := 159) hx hb d_M_formFault_142 (by decide) (fun c13 => ?_) (fun c13 => ?_)
    · have h := if_t c13 h
      exact b_159 M y2 y4 y5 y6 _ _ _ h hwf hkp hP hD hS (lv_sub hl [0, 1, 2, 3, 4] rfl)
    have h := if_f c13 h
    refine lv_iload hx hb d_M_formFault_145 (lv_at hl 5 rfl) ?_
    refine lv_bipush (v := 7) hx hb d_M_formFault_147 (by decide) ?_
    refine lv_icmp_eq (tgt := 159) hx hb d_M_formFault_149 (by decide) (fun c14 => ?_) (fun c14 => ?_)
    · have h := if_t c14 h
      exact b_159 M y2 y4 y5 y6 _ _ _ h hwf hkp hP hD hS (lv_sub hl [0, 1, 2, 3, 4] rfl)
    have h := if_f c14 h
    refine lv_iload hx hb d_M_formFault_152 (lv_at hl 5 rfl) ?_
    refine lv_bipush (v := 12) hx hb d_M_formFault_154 (by decide) ?_
    refine lv_icmp_ne (tgt := 188) hx hb d_M_formFault_156 (by decide) (fun c15 => ?_) (fun c15 => ?_)
    · have h := if_f c15 h
      exact b_188 M y2 y5 y6 _ _ _ h hwf hkp hP hD hS (lv_sub hl [0, 1, 3, 4] rfl)
    have h := if_t c15 h
    exact b_159 M y2 y4 y5 y6 _ _ _ h hwf hkp hP hD hS (lv_sub hl [0, 1, 2, 3, 4] rfl)
  have b_131 : ∀ (M : me_M) (y2 : Int64) (y4 : Int32) (y5 : Int32) (y6 : Int32) (y8 : Int32) (H : Heap) (locs : List Loc) (ls : Array Slot), f_M_formFault_b131 j0 M y2 y4 y5 y6 y8 = (some (MZ, RZ)) → me_wf N M → me_kp M0 M → va_P D classes (me_W ad ca M) H → va_D A (me_W ad ca M) → va_S A s.heap H locs → lv_has ls 9 [(0, .ref (ad 1 j0)), (2, .long y2), (4, .int y4), (5, .int y5), (6, .int y6), (8, .int y8)] → W p l e rm_M_formFault s m [.ref (ad 1 j0), .int x1].toArray below meth c H locs 0 0 (MQ below (q_M_formFault D ad ca N M0 MZ RZ A) [.ref (ad 1 j0), .int x1].toArray s rm_M_formFault.cells rm_M_formFault.slots A) (F0 m 131 ls []) := by
    intro M y2 y4 y5 y6 y8 H locs ls h hwf hkp hP hD hS hl
    unfold f_M_formFault_b131 at h
    have hkb := hkp
    refine lv_iload hx hb d_M_formFault_131 (lv_at hl 4 rfl) ?_
    refine lv_if_ne (tgt := 138) hx hb d_M_formFault_133 (by decide) (fun c16 => ?_) (fun c16 => ?_)
    · have h := if_f c16 h
      exact b_138 M y2 y4 y5 y6 y8 _ _ _ h hwf hkp hP hD hS (lv_sub hl [0, 1, 2, 3, 4, 5] rfl)
    have h := if_t c16 h
    refine lv_iconst (v := 3) hx hb d_M_formFault_136 (by decide) ?_
    exact me_reti (me_kp M0) h hx hb hr hlocks hwf hkp hP hK hD hS d_M_formFault_137
  have b_86 : ∀ (M : me_M) (y2 : Int64) (y4 : Int32) (y5 : Int32) (y6 : Int32) (H : Heap) (locs : List Loc) (ls : Array Slot), f_M_formFault_b86 j0 M y2 y4 y5 y6 = (some (MZ, RZ)) → me_wf N M → me_kp M0 M → va_P D classes (me_W ad ca M) H → va_D A (me_W ad ca M) → va_S A s.heap H locs → lv_has ls 9 [(0, .ref (ad 1 j0)), (2, .long y2), (4, .int y4), (5, .int y5), (6, .int y6)] → W p l e rm_M_formFault s m [.ref (ad 1 j0), .int x1].toArray below meth c H locs 0 0 (MQ below (q_M_formFault D ad ca N M0 MZ RZ A) [.ref (ad 1 j0), .int x1].toArray s rm_M_formFault.cells rm_M_formFault.slots A) (F0 m 86 ls []) := by
    intro M y2 y4 y5 y6 H locs ls h hwf hkp hP hD hS hl
    unfold f_M_formFault_b86 at h
    have hkb := hkp
    refine lv_lload_n hx hb d_M_formFault_86 rfl (lv_at hl 1 rfl) ?_
    obtain ⟨r17, er17, h⟩ := bd_ob h
    refine me_pani' (r0 := r17) (fg_runS (wc := []) (tc := []) (A2 := A) (As := [.long y2]) (rest := []) ⟨hx, hb, hml, hown, hts⟩ (c_M_fromOf l D r17 y2 er17 _) (by show fg_nm y_M_fromOf 1; decide +kernel) u_2010 u_2011 u_192 u_2012 ⟨Nat.le_of_ble_eq_true rfl, Nat.le_of_ble_eq_true rfl⟩ hX me_P0 (hK.sub (tys' := []) [] rfl) me_D0 rfl hl.1 (Nat.le_of_ble_eq_true rfl) d_M_formFault_87 ⟨Nat.le_of_ble_eq_true rfl, Nat.le_of_ble_eq_true rfl⟩) hP hD hK hS hA rfl rfl (fun H locs hw hP hD hS => ?_)
    refine lv_bipush (v := 10) hx hb d_M_formFault_90 (by decide) ?_
    refine lv_icmp_le (tgt := 97) hx hb d_M_formFault_92 (by decide) (fun c18 => ?_) (fun c18 => ?_)
    · have h := if_t c18 h
      refine lv_iload hx hb d_M_formFault_97 (lv_at hl 2 rfl) ?_
      refine lv_iconst (v := 4) hx hb d_M_formFault_99 (by decide) ?_
      refine lv_ishr hx hb d_M_formFault_100 ?_
      refine fg_topi (y := jishr y4 4) rfl ?_
      obtain ⟨v19, ev19, h⟩ := st_ob h
      refine fg_topi (y := v19) ev19.symm ?_
      refine lv_istore (lv' := [(8, .int v19), (0, .ref (ad 1 j0)), (2, .long y2), (4, .int y4), (5, .int y5), (6, .int y6)]) hx hb d_M_formFault_101 hl (by decide) rfl (fun ls hl => ?_)
      refine lv_iload hx hb d_M_formFault_103 (lv_at hl 4 rfl) ?_
      refine lv_bipush (v := 6) hx hb d_M_formFault_105 (by decide) ?_
      refine lv_icmp_ne (tgt := 188) hx hb d_M_formFault_107 (by decide) (fun c20 => ?_) (fun c20 => ?_)
      · have h := if_f c20 h
        exact b_188 M y2 y5 y6 _ _ _ h hwf hkp hP hD hS (lv_sub hl [1, 2, 4, 5] rfl)
      have h := if_t c20 h
      refine lv_iload hx hb d_M_formFault_110 (lv_at hl 3 rfl) ?_
      obtain ⟨r21, er21, h⟩ := bd_ob h
      refine me_pani' (r0 := r21) (fg_runS (wc := []) (tc := []) (A2 := A) (As := [.int y4]) (rest := []) ⟨hx, hb, hml, hown, hts⟩ (c_M_hasFrom l D r21 y4 er21 _) (by show fg_nm y_M_hasFrom 1; decide +kernel) u_2020 u_2021 u_192 u_2022 ⟨Nat.le_of_ble_eq_true rfl, Nat.le_of_ble_eq_true rfl⟩ hX me_P0 (hK.sub (tys' := []) [] rfl) me_D0 rfl hl.1 (Nat.le_of_ble_eq_true rfl) d_M_formFault_112 ⟨Nat.le_of_ble_eq_true rfl, Nat.le_of_ble_eq_true rfl⟩) hP hD hK hS hA rfl rfl (fun H locs hw hP hD hS => ?_)
      have zr21 := hw
      refine lv_if_ne (tgt := 188) hx hb d_M_formFault_115 (by decide) (fun c22 => ?_) (fun c22 => ?_)
      · have h := if_f c22 h
        exact b_188 M y2 y5 y6 _ _ _ h hwf hkp hP hD hS (lv_sub hl [1, 2, 4, 5] rfl)
      have h := if_t c22 h
      refine lv_iload hx hb d_M_formFault_118 (lv_at hl 0 rfl) ?_
      refine lv_iconst (v := 3) hx hb d_M_formFault_120 (by decide) ?_
      refine lv_icmp_eq (tgt := 131) hx hb d_M_formFault_121 (by decide) (fun c23 => ?_) (fun c23 => ?_)
      · have h := if_t c23 h
        exact b_131 M y2 y4 y5 y6 v19 _ _ _ h hwf hkp hP hD hS (lv_sub hl [1, 2, 3, 4, 5, 0] rfl)
      have h := if_f c23 h
      refine lv_iload hx hb d_M_formFault_124 (lv_at hl 0 rfl) ?_
      refine lv_bipush (v := 9) hx hb d_M_formFault_126 (by decide) ?_
      refine lv_icmp_ne (tgt := 138) hx hb d_M_formFault_128 (by decide) (fun c24 => ?_) (fun c24 => ?_)
      · have h := if_f c24 h
        exact b_138 M y2 y4 y5 y6 v19 _ _ _ h hwf hkp hP hD hS (lv_sub hl [1, 2, 3, 4, 5, 0] rfl)
      have h := if_t c24 h
      exact b_131 M y2 y4 y5 y6 v19 _ _ _ h hwf hkp hP hD hS (lv_sub hl [1, 2, 3, 4, 5, 0] rfl)
    have h := if_f c18 h
    refine lv_iconst (v := 2) hx hb d_M_formFault_95 (by decide) ?_
    exact me_reti (me_kp M0) h hx hb hr hlocks hwf hkp hP hK hD hS d_M_formFault_96
  have b_61 : ∀ (M : me_M) (y2 : Int64) (y4 : Int32) (y5 : Int32) (y6 : Int32) (s0 : Int32) (H : Heap) (locs : List Loc) (ls : Array Slot), f_M_formFault_b61 j0 M y2 y4 y5 y6 s0 = (some (MZ, RZ)) → (s0 = 1 ∨ s0 = 0) → me_wf N M → me_kp M0 M → va_P D classes (me_W ad ca M) H → va_D A (me_W ad ca M) → va_S A s.heap H locs → lv_has ls 9 [(0, .ref (ad 1 j0)), (2, .long y2), (4, .int y4), (5, .int y5), (6, .int y6)] → W p l e rm_M_formFault s m [.ref (ad 1 j0), .int x1].toArray below meth c H locs 0 0 (MQ below (q_M_formFault D ad ca N M0 MZ RZ A) [.ref (ad 1 j0), .int x1].toArray s rm_M_formFault.cells rm_M_formFault.slots A) (F0 m 61 ls [.int s0]) := by
    intro M y2 y4 y5 y6 s0 H locs ls h zs0 hwf hkp hP hD hS hl
    unfold f_M_formFault_b61 at h
    have hkb := hkp
    refine lv_istore (lv' := [(7, .int s0), (0, .ref (ad 1 j0)), (2, .long y2), (4, .int y4), (5, .int y5), (6, .int y6)]) hx hb d_M_formFault_61 hl (by decide) rfl (fun ls hl => ?_)
    refine lv_lload_n hx hb d_M_formFault_63 rfl (lv_at hl 2 rfl) ?_
    obtain ⟨r25, er25, h⟩ := bd_ob h
    refine me_pani' (r0 := r25) (fg_runS (wc := []) (tc := []) (A2 := A) (As := [.long y2]) (rest := []) ⟨hx, hb, hml, hown, hts⟩ (c_M_toOf l D r25 y2 er25 _) (by show fg_nm y_M_toOf 1; decide +kernel) u_2006 u_2007 u_192 u_2008 ⟨Nat.le_of_ble_eq_true rfl, Nat.le_of_ble_eq_true rfl⟩ hX me_P0 (hK.sub (tys' := []) [] rfl) me_D0 rfl hl.1 (Nat.le_of_ble_eq_true rfl) d_M_formFault_64 ⟨Nat.le_of_ble_eq_true rfl, Nat.le_of_ble_eq_true rfl⟩) hP hD hK hS hA rfl rfl (fun H locs hw hP hD hS => ?_)
    refine lv_bipush (v := 10) hx hb d_M_formFault_67 (by decide) ?_
    refine lv_icmp_gt (tgt := 95) hx hb d_M_formFault_69 (by decide) (fun c26 => ?_) (fun c26 => ?_)
    · have h := if_t c26 h
      refine lv_iconst (v := 2) hx hb d_M_formFault_95 (by decide) ?_
      exact me_reti (me_kp M0) h hx hb hr hlocks hwf hkp hP hK hD hS d_M_formFault_96
    have h := if_f c26 h
    refine lv_iload hx hb d_M_formFault_72 (lv_at hl 0 rfl) ?_
    refine lv_if_eq (tgt := 86) hx hb d_M_formFault_74 (by decide) (fun c27 => ?_) (fun c27 => ?_)
    · have h := if_t c27 h
      exact b_86 M y2 y4 y5 y6 _ _ _ h hwf hkp hP hD hS (lv_sub hl [1, 2, 3, 4, 5] rfl)
    have h := if_f c27 h
    refine lv_lload_n hx hb d_M_formFault_77 rfl (lv_at hl 2 rfl) ?_
    obtain ⟨r28, er28, h⟩ := bd_ob h
    refine me_pani' (r0 := r28) (fg_runS (wc := []) (tc := []) (A2 := A) (As := [.long y2]) (rest := []) ⟨hx, hb, hml, hown, hts⟩ (c_M_toOf l D r28 y2 er28 _) (by show fg_nm y_M_toOf 1; decide +kernel) u_2006 u_2007 u_192 u_2008 ⟨Nat.le_of_ble_eq_true rfl, Nat.le_of_ble_eq_true rfl⟩ hX me_P0 (hK.sub (tys' := []) [] rfl) me_D0 rfl hl.1 (Nat.le_of_ble_eq_true rfl) d_M_formFault_78 ⟨Nat.le_of_ble_eq_true rfl, Nat.le_of_ble_eq_true rfl⟩) hP hD hK hS hA rfl rfl (fun H locs hw hP hD hS => ?_)
    refine lv_bipush (v := 10) hx hb d_M_formFault_81 (by decide) ?_
    refine lv_icmp_eq (tgt := 95) hx hb d_M_formFault_83 (by decide) (fun c29 => ?_) (fun c29 => ?_)
    · have h := if_t c29 h
      refine lv_iconst (v := 2) hx hb d_M_formFault_95 (by decide) ?_
      exact me_reti (me_kp M0) h hx hb hr hlocks hwf hkp hP hK hD hS d_M_formFault_96
    have h := if_f c29 h
    exact b_86 M y2 y4 y5 y6 _ _ _ h hwf hkp hP hD hS (lv_sub hl [1, 2, 3, 4, 5] rfl)
  have b_56 : ∀ (M : me_M) (y2 : Int64) (y4 : Int32) (y5 : Int32) (y6 : Int32) (H : Heap) (locs : List Loc) (ls : Array Slot), f_M_formFault_b56 j0 M y2 y4 y5 y6 = (some (MZ, RZ)) → me_wf N M → me_kp M0 M → va_P D classes (me_W ad ca M) H → va_D A (me_W ad ca M) → va_S A s.heap H locs → lv_has ls 9 [(0, .ref (ad 1 j0)), (2, .long y2), (4, .int y4), (5, .int y5), (6, .int y6)] → W p l e rm_M_formFault s m [.ref (ad 1 j0), .int x1].toArray below meth c H locs 0 0 (MQ below (q_M_formFault D ad ca N M0 MZ RZ A) [.ref (ad 1 j0), .int x1].toArray s rm_M_formFault.cells rm_M_formFault.slots A) (F0 m 56 ls []) := by
    intro M y2 y4 y5 y6 H locs ls h hwf hkp hP hD hS hl
    unfold f_M_formFault_b56 at h
    have hkb := hkp
    refine lv_iconst (v := 1) hx hb d_M_formFault_56 (by decide) ?_
    refine lv_goto (tgt := 61) hx hb d_M_formFault_57 (by decide) ?_
    exact b_61 M y2 y4 y5 y6 (1 : Int32) _ _ _ h (by decide) hwf hkp hP hD hS (lv_sub hl [0, 1, 2, 3, 4] rfl)
  refine lv_aload_n hx hb d_M_formFault_0 rfl (lv_at hl 0 rfl) ?_
  refine lv_iload_n hx hb d_M_formFault_1 rfl (lv_at hl 1 rfl) ?_
  obtain ⟨M30, r31, eM30, h⟩ := b2_ob h
  refine me_theni0 (M1 := M30) (me_runV (C := "FilterGuardModel") (As := [.int x1]) (rest := []) ⟨hx, hb, hml, hown, hts⟩ (c_M_isWellMade l D ad ca N M0 M30 r31 j0 x1 eM30 hwf hj0 _) rfl (by show fg_nm y_M_isWellMade 1; decide +kernel) u_1993 u_1995 u_88 u_192 u_1996 ⟨Nat.le_of_ble_eq_true rfl, Nat.le_of_ble_eq_true rfl⟩ hX hz hK hP hD hwf hS hA hj0 (by decide) rfl rfl rfl hl.1 (Nat.le_of_ble_eq_true rfl) d_M_formFault_2 ⟨Nat.le_of_ble_eq_true rfl, Nat.le_of_ble_eq_true rfl⟩) hP hD hK hS hA rfl rfl (fun H locs hw hP hD hS => ?_)
  obtain ⟨hwf, hk9, zr31⟩ := hw
  have hkp := hkp.tr hk9
  refine lv_if_ne (tgt := 10) hx hb d_M_formFault_5 (by decide) (fun c32 => ?_) (fun c32 => ?_)
  · have h := if_f c32 h
    refine lv_aload_n hx hb d_M_formFault_10 rfl (lv_at hl 0 rfl) ?_
    refine g_M_13 hx hb hts hown hK hP hwf hj0 (hts _ u_1754) d_M_formFault_11 ?_
    obtain ⟨j33, e34, h⟩ := bd_ob h
    have hj33 : j33 < N 16 := (hwf.2.1 1 j0 13 _ (kp_r hkb hkp e34) (by decide) hj0)
    refine me_opt (j := j33) (kp_r hkb hkp e34) ?_
    refine lv_iload_n hx hb d_M_formFault_14 rfl (lv_at hl 1 rfl) ?_
    obtain ⟨g35, h⟩ := gd_ob h
    refine me_lald hx hb hK hP hwf hj33 (kp_z hkb.z hkp.z g35) d_M_formFault_15 ?_
    obtain ⟨v36, ev36, h⟩ := st_ob h
    refine fg_topl (y := v36) ev36.symm ?_
    refine lv_lstore_n (lv' := [(2, .long v36), (0, .ref (ad 1 j0)), (1, .int x1)]) hx hb d_M_formFault_16 rfl hl (by decide) rfl (fun ls hl => ?_)
    refine lv_lload_n hx hb d_M_formFault_17 rfl (lv_at hl 0 rfl) ?_
    obtain ⟨r37, er37, h⟩ := bd_ob h
    refine me_pani' (r0 := r37) (fg_runS (wc := []) (tc := []) (A2 := A) (As := [.long v36]) (rest := []) ⟨hx, hb, hml, hown, hts⟩ (c_M_opOf l D r37 v36 er37 _) (by show fg_nm y_M_opOf 1; decide +kernel) u_1997 u_1998 u_192 u_1999 ⟨Nat.le_of_ble_eq_true rfl, Nat.le_of_ble_eq_true rfl⟩ hX me_P0 (hK.sub (tys' := []) [] rfl) me_D0 rfl hl.1 (Nat.le_of_ble_eq_true rfl) d_M_formFault_18 ⟨Nat.le_of_ble_eq_true rfl, Nat.le_of_ble_eq_true rfl⟩) hP hD hK hS hA rfl rfl (fun H locs hw hP hD hS => ?_)
    refine lv_istore (lv' := [(4, .int r37), (2, .long v36), (0, .ref (ad 1 j0)), (1, .int x1)]) hx hb d_M_formFault_21 hl (by decide) rfl (fun ls hl => ?_)
    refine lv_iload hx hb d_M_formFault_23 (lv_at hl 0 rfl) ?_
    obtain ⟨r38, er38, h⟩ := bd_ob h
    refine me_pani' (r0 := r38) (fg_runS (wc := []) (tc := []) (A2 := A) (As := [.int r37]) (rest := []) ⟨hx, hb, hml, hown, hts⟩ (c_M_instruction l D r38 r37 er38 _) (by show fg_nm y_M_instruction 1; decide +kernel) u_2000 u_2001 u_192 u_2002 ⟨Nat.le_of_ble_eq_true rfl, Nat.le_of_ble_eq_true rfl⟩ hX me_P0 (hK.sub (tys' := []) [] rfl) me_D0 rfl hl.1 (Nat.le_of_ble_eq_true rfl) d_M_formFault_25 ⟨Nat.le_of_ble_eq_true rfl, Nat.le_of_ble_eq_true rfl⟩) hP hD hK hS hA rfl rfl (fun H locs hw hP hD hS => ?_)
    refine lv_istore (lv' := [(5, .int r38), (4, .int r37), (2, .long v36), (0, .ref (ad 1 j0)), (1, .int x1)]) hx hb d_M_formFault_28 hl (by decide) rfl (fun ls hl => ?_)
    refine lv_lload_n hx hb d_M_formFault_30 rfl (lv_at hl 2 rfl) ?_
    obtain ⟨r39, er39, h⟩ := bd_ob h
    refine me_pani' (r0 := r39) (fg_runS (wc := []) (tc := []) (A2 := A) (As := [.long v36]) (rest := []) ⟨hx, hb, hml, hown, hts⟩ (c_M_fieldOf l D r39 v36 er39 _) (by show fg_nm y_M_fieldOf 1; decide +kernel) u_2016 u_2017 u_192 u_2018 ⟨Nat.le_of_ble_eq_true rfl, Nat.le_of_ble_eq_true rfl⟩ hX me_P0 (hK.sub (tys' := []) [] rfl) me_D0 rfl hl.1 (Nat.le_of_ble_eq_true rfl) d_M_formFault_31 ⟨Nat.le_of_ble_eq_true rfl, Nat.le_of_ble_eq_true rfl⟩) hP hD hK hS hA rfl rfl (fun H locs hw hP hD hS => ?_)
    refine lv_istore (lv' := [(6, .int r39), (5, .int r38), (4, .int r37), (2, .long v36), (0, .ref (ad 1 j0)), (1, .int x1)]) hx hb d_M_formFault_34 hl (by decide) rfl (fun ls hl => ?_)
    refine lv_iload hx hb d_M_formFault_36 (lv_at hl 1 rfl) ?_
    refine lv_iconst (v := 1) hx hb d_M_formFault_38 (by decide) ?_
    refine lv_icmp_eq (tgt := 56) hx hb d_M_formFault_39 (by decide) (fun c40 => ?_) (fun c40 => ?_)
    · have h := if_t c40 h
      exact b_56 M30 v36 r37 r38 r39 _ _ _ h hwf hkp hP hD hS (lv_sub hl [4, 3, 2, 1, 0] rfl)
    have h := if_f c40 h
    refine lv_iload hx hb d_M_formFault_42 (lv_at hl 1 rfl) ?_
    refine lv_iconst (v := 2) hx hb d_M_formFault_44 (by decide) ?_
    refine lv_icmp_eq (tgt := 56) hx hb d_M_formFault_45 (by decide) (fun c41 => ?_) (fun c41 => ?_)
    · have h := if_t c41 h
      exact b_56 M30 v36 r37 r38 r39 _ _ _ h hwf hkp hP hD hS (lv_sub hl [4, 3, 2, 1, 0] rfl)
    have h := if_f c41 h
    refine lv_iload hx hb d_M_formFault_48 (lv_at hl 1 rfl) ?_
    obtain ⟨r42, er42, h⟩ := bd_ob h
    refine me_pani' (r0 := r42) (fg_runS (wc := []) (tc := []) (A2 := A) (As := [.int r38]) (rest := []) ⟨hx, hb, hml, hown, hts⟩ (c_M_isArithmetic l D r42 r38 er42 _) (by show fg_nm y_M_isArithmetic 1; decide +kernel) u_2023 u_2024 u_192 u_2025 ⟨Nat.le_of_ble_eq_true rfl, Nat.le_of_ble_eq_true rfl⟩ hX me_P0 (hK.sub (tys' := []) [] rfl) me_D0 rfl hl.1 (Nat.le_of_ble_eq_true rfl) d_M_formFault_50 ⟨Nat.le_of_ble_eq_true rfl, Nat.le_of_ble_eq_true rfl⟩) hP hD hK hS hA rfl rfl (fun H locs hw hP hD hS => ?_)
    have zr42 := hw
    refine lv_if_eq (tgt := 60) hx hb d_M_formFault_53 (by decide) (fun c43 => ?_) (fun c43 => ?_)
    · have h := if_t c43 h
      refine lv_iconst (v := 0) hx hb d_M_formFault_60 (by decide) ?_
      exact b_61 M30 v36 r37 r38 r39 (0 : Int32) _ _ _ h (by decide) hwf hkp hP hD hS (lv_sub hl [4, 3, 2, 1, 0] rfl)
    have h := if_f c43 h
    exact b_56 M30 v36 r37 r38 r39 _ _ _ h hwf hkp hP hD hS (lv_sub hl [4, 3, 2, 1, 0] rfl)
  have h := if_t c32 h
  refine lv_iconst (v := 1) hx hb d_M_formFault_8 (by decide) ?_
  exact me_reti (me_kp M0) h hx hb hr hlocks hwf hkp hP hK hD hS d_M_formFault_9
