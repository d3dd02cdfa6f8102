theorem d_Cell_isOfPacket_0 : decode prog_2_method_10_code 0 = .ok (.aload_n 0, 1) := by decide +kernel
theorem d_Cell_isOfPacket_1 : decode prog_2_method_10_code 1 = .ok (.getfield 18, 3) := by decide +kernel
theorem d_Cell_isOfPacket_4 : decode prog_2_method_10_code 4 = .ok (.iconst 4, 1) := by decide +kernel
theorem d_Cell_isOfPacket_5 : decode prog_2_method_10_code 5 = .ok (.if_icmp .eq 11, 3) := by decide +kernel
theorem d_Cell_isOfPacket_16 : decode prog_2_method_10_code 16 = .ok (.iconst 1, 1) := by decide +kernel
theorem d_Cell_isOfPacket_17 : decode prog_2_method_10_code 17 = .ok (.goto 4, 3) := by decide +kernel
theorem d_Cell_isOfPacket_21 : decode prog_2_method_10_code 21 = .ok (.ireturn, 1) := by decide +kernel
theorem d_Cell_isOfPacket_8 : decode prog_2_method_10_code 8 = .ok (.aload_n 0, 1) := by decide +kernel
theorem d_Cell_isOfPacket_9 : decode prog_2_method_10_code 9 = .ok (.getfield 18, 3) := by decide +kernel
theorem d_Cell_isOfPacket_12 : decode prog_2_method_10_code 12 = .ok (.iconst 5, 1) := by decide +kernel
theorem d_Cell_isOfPacket_13 : decode prog_2_method_10_code 13 = .ok (.if_icmp .ne 7, 3) := by decide +kernel
theorem d_Cell_isOfPacket_20 : decode prog_2_method_10_code 20 = .ok (.iconst 0, 1) := by decide +kernel
abbrev y_Cell_isOfPacket : MethodName := ⟨"FilterGuard$Cell", "isOfPacket", "()Z"⟩
def rm_Cell_isOfPacket : Room := { frames := 1, cells := 0, slots := 0, locals := 20 }
abbrev q_Cell_isOfPacket (D : va_G) (ad : Nat → Nat → Nat) (ca : Nat → ClassId) (N : Nat → Nat) (M0 MZ : me_M) (RZ : Int32) (A : Nat → Prop) : Array Value → Jvm.State → Outcome → Jvm.State → Prop := va_Qi (fun r (_ : Unit) => r = RZ ∧ me_wf N MZ ∧ me_kp M0 MZ ∧ (RZ = 1 ∨ RZ = 0)) (fg_B D A (fun _ => me_W ad ca MZ) (fun _ => [])) A
set_option maxHeartbeats 4000000 in
set_option maxRecDepth 100000 in
theorem c_Cell_isOfPacket (l : Launch) (D : va_G) (ad : Nat → Nat → Nat) (ca : Nat → ClassId) (N : Nat → Nat) (M0 MZ : me_M) (RZ : Int32) (j0 : Nat) (h : f_Cell_isOfPacket M0 j0 = (some (MZ, RZ))) (hwf : me_wf N M0) (hj0 : j0 < N 10) (sz : Nat) : Met l y_Cell_isOfPacket (fg_w y_Cell_isOfPacket prog_2_method_10_code 1 (some .boolean)) rm_Cell_isOfPacket (va_Pc [.ref (ad 10 j0)] (fz_P D (me_T ca) (me_W ad ca M0) sz)) (q_Cell_isOfPacket D ad ca N M0 MZ RZ (va_A (me_W ad ca M0) sz)) rm_Cell_isOfPacket.cells rm_Cell_isOfPacket.slots (va_A (me_W ad ca M0) sz) := by
  refine fz_enter (fun A => q_Cell_isOfPacket D ad ca N M0 MZ RZ A) (by decide +kernel) (Nat.le_of_ble_eq_true rfl) ?_
  intro p e s m below meth c ls A hx hb hml hown hts hr hlocks hin hP hK hD hS hA hX hl hz
  have hl : lv_has ls 1 [(0, .ref (ad 10 j0))] := hl
  unfold f_Cell_isOfPacket at h
  have hkp : me_kp M0 M0 := me_kp.rf
  have hkb := hkp
  refine lv_aload_n hx hb d_Cell_isOfPacket_0 rfl (lv_at hl 0 rfl) ?_
  refine g_Cell_0 hx hb hts hown hK hP hwf hj0 (hts _ u_420) d_Cell_isOfPacket_1 ?_
  refine lv_iconst (v := 4) hx hb d_Cell_isOfPacket_4 (by decide) ?_
  refine lv_icmp_eq (tgt := 16) hx hb d_Cell_isOfPacket_5 (by decide) (fun c1 => ?_) (fun c1 => ?_)
  · have h := if_t c1 h
    refine lv_iconst (v := 1) hx hb d_Cell_isOfPacket_16 (by decide) ?_
    refine lv_goto (tgt := 21) hx hb d_Cell_isOfPacket_17 (by decide) ?_
    exact me_retz (me_kp M0) h (by decide) hx hb hr hlocks hwf hkp hP hK hD hS d_Cell_isOfPacket_21
  have h := if_f c1 h
  refine lv_aload_n hx hb d_Cell_isOfPacket_8 rfl (lv_at hl 0 rfl) ?_
  refine g_Cell_0 hx hb hts hown hK hP hwf hj0 (hts _ u_420) d_Cell_isOfPacket_9 ?_
  refine lv_iconst (v := 5) hx hb d_Cell_isOfPacket_12 (by decide) ?_
  refine lv_icmp_ne (tgt := 20) hx hb d_Cell_isOfPacket_13 (by decide) (fun c2 => ?_) (fun c2 => ?_)
  · have h := if_f c2 h
    refine lv_iconst (v := 0) hx hb d_Cell_isOfPacket_20 (by decide) ?_
    exact me_retz (me_kp M0) h (by decide) hx hb hr hlocks hwf hkp hP hK hD hS d_Cell_isOfPacket_21
  have h := if_t c2 h
  refine lv_iconst (v := 1) hx hb d_Cell_isOfPacket_16 (by decide) ?_
  refine lv_goto (tgt := 21) hx hb d_Cell_isOfPacket_17 (by decide) ?_
  exact me_retz (me_kp M0) h (by decide) hx hb hr hlocks hwf hkp hP hK hD hS d_Cell_isOfPacket_21
theorem d_Cell_becomeAny_0 : decode prog_2_method_5_code 0 = .ok (.aload_n 0, 1) := by decide +kernel
theorem d_Cell_becomeAny_1 : decode prog_2_method_5_code 1 = .ok (.iconst 1, 1) := by decide +kernel
theorem d_Cell_becomeAny_2 : decode prog_2_method_5_code 2 = .ok (.putfield 18, 3) := by decide +kernel
theorem d_Cell_becomeAny_5 : decode prog_2_method_5_code 5 = .ok (.aload_n 0, 1) := by decide +kernel
theorem d_Cell_becomeAny_6 : decode prog_2_method_5_code 6 = .ok (.getfield 12, 3) := by decide +kernel
theorem d_Cell_becomeAny_9 : decode prog_2_method_5_code 9 = .ok (.invokevirtual 45, 3) := by decide +kernel
theorem u_1270 : Cond.methodLink "FilterGuard$Cell" 45 ⟨"FilterGuard$Num", "any", "()V"⟩ ∈ fg_g := fg_in (List.mem_of_getElem? (i := 1270) (by decide +kernel)) rfl
theorem d_Cell_becomeAny_12 : decode prog_2_method_5_code 12 = .ok (.return_, 1) := by decide +kernel
abbrev y_Cell_becomeAny : MethodName := ⟨"FilterGuard$Cell", "becomeAny", "()V"⟩
def rm_Cell_becomeAny : Room := { frames := 2, cells := 0, slots := 0, locals := 40 }
abbrev q_Cell_becomeAny (D : va_G) (ad : Nat → Nat → Nat) (ca : Nat → ClassId) (N : Nat → Nat) (M0 MZ : me_M) (A : Nat → Prop) : Array Value → Jvm.State → Outcome → Jvm.State → Prop := va_Qv (fun (_ : Unit) => me_wf N MZ ∧ me_kp M0 MZ) (fg_B D A (fun _ => me_W ad ca MZ) (fun _ => [])) A
set_option maxHeartbeats 4000000 in
set_option maxRecDepth 100000 in
theorem c_Cell_becomeAny (l : Launch) (D : va_G) (ad : Nat → Nat → Nat) (ca : Nat → ClassId) (N : Nat → Nat) (M0 MZ : me_M) (j0 : Nat) (h : f_Cell_becomeAny M0 j0 = (some MZ)) (hwf : me_wf N M0) (hj0 : j0 < N 10) (sz : Nat) : Met l y_Cell_becomeAny (fg_w y_Cell_becomeAny prog_2_method_5_code 1 none) rm_Cell_becomeAny (va_Pc [.ref (ad 10 j0)] (fz_P D (me_T ca) (me_W ad ca M0) sz)) (q_Cell_becomeAny D ad ca N M0 MZ (va_A (me_W ad ca M0) sz)) rm_Cell_becomeAny.cells rm_Cell_becomeAny.slots (va_A (me_W ad ca M0) sz) := by
  refine fz_enter (fun A => q_Cell_becomeAny D ad ca N M0 MZ A) (by decide +kernel) (Nat.le_of_ble_eq_true rfl) ?_
  intro p e s m below meth c ls A hx hb hml hown hts hr hlocks hin hP hK hD hS hA hX hl hz
  have hl : lv_has ls 1 [(0, .ref (ad 10 j0))] := hl
  unfold f_Cell_becomeAny at h
  have hkp : me_kp M0 M0 := me_kp.rf
  have hkb := hkp
  refine lv_aload_n hx hb d_Cell_becomeAny_0 rfl (lv_at hl 0 rfl) ?_
  refine lv_iconst (v := 1) hx hb d_Cell_becomeAny_1 (by decide) ?_
  obtain ⟨M1, eM1, h⟩ := st_ob h
  refine p_Cell_0 eM1 hx hb hts hown hK hP hD hwf hS hj0 (hts _ u_420) d_Cell_becomeAny_2 (fun H locs hP hD hwf hS => ?_)
  have hkp := kp_I eM1 hkp
  refine lv_aload_n hx hb d_Cell_becomeAny_5 rfl (lv_at hl 0 rfl) ?_
  refine g_Cell_6 hx hb hts hown hK hP hwf hj0 (hts _ u_435) d_Cell_becomeAny_6 ?_
  obtain ⟨j2, e3, h⟩ := bd_ob h
  have hj2 : j2 < N 11 := (hwf.2.1 10 j0 6 _ (kp_r hkb hkp e3) (by decide) hj0)
  refine me_opt (j := j2) (kp_r hkb hkp e3) ?_
  obtain ⟨M4, eM4, h⟩ := bd_ob h
  refine me_thenv0 (M1 := M4) (me_runV (C := "FilterGuard$Num") (As := []) (rest := []) ⟨hx, hb, hml, hown, hts⟩ (c_Num_any l D ad ca N M1 M4 j2 eM4 hwf hj2 _) rfl (by show fg_nm y_Num_any 0; decide +kernel) u_1270 u_1131 u_1132 u_187 u_1133 ⟨Nat.le_of_ble_eq_true rfl, Nat.le_of_ble_eq_true rfl⟩ hX hz hK hP hD hwf hS hA hj2 (by decide) rfl rfl rfl hl.1 (Nat.le_of_ble_eq_true rfl) d_Cell_becomeAny_9 ⟨Nat.le_of_ble_eq_true rfl, Nat.le_of_ble_eq_true rfl⟩) hP hD hK hS hA rfl rfl (fun H locs hw hP hD hS => ?_)
  obtain ⟨hwf, hk9⟩ := hw
  have hkp := hkp.tr hk9
  exact me_retv (me_kp M0) h hx hb hr hlocks hwf hkp hP hK hD hS d_Cell_becomeAny_12
theorem d_Steps_arithmetic_234 : decode prog_11_method_6_code 234 = .ok (.istore_n 3, 1) := by decide +kernel
theorem d_Steps_arithmetic_235 : decode prog_11_method_6_code 235 = .ok (.aload_n 0, 1) := by decide +kernel
theorem d_Steps_arithmetic_236 : decode prog_11_method_6_code 236 = .ok (.getfield 44, 3) := by decide +kernel
theorem d_Steps_arithmetic_239 : decode prog_11_method_6_code 239 = .ok (.getfield 133, 3) := by decide +kernel
theorem d_Steps_arithmetic_242 : decode prog_11_method_6_code 242 = .ok (.iconst 1, 1) := by decide +kernel
theorem d_Steps_arithmetic_243 : decode prog_11_method_6_code 243 = .ok (.if_icmp .ne 7, 3) := by decide +kernel
theorem d_Steps_arithmetic_250 : decode prog_11_method_6_code 250 = .ok (.bipush 11, 2) := by decide +kernel
theorem d_Steps_arithmetic_252 : decode prog_11_method_6_code 252 = .ok (.ireturn, 1) := by decide +kernel
theorem d_Steps_arithmetic_246 : decode prog_11_method_6_code 246 = .ok (.iload_n 3, 1) := by decide +kernel
theorem d_Steps_arithmetic_247 : decode prog_11_method_6_code 247 = .ok (.ifCond .ne 6, 3) := by decide +kernel
theorem d_Steps_arithmetic_253 : decode prog_11_method_6_code 253 = .ok (.aload_n 1, 1) := by decide +kernel
theorem d_Steps_arithmetic_254 : decode prog_11_method_6_code 254 = .ok (.invokevirtual 164, 3) := by decide +kernel
theorem u_1266 : Cond.methodLink "FilterGuard$Steps" 164 ⟨"FilterGuard$Cell", "becomeAny", "()V"⟩ ∈ fg_g := fg_in (List.mem_of_getElem? (i := 1266) (by decide +kernel)) rfl
theorem u_1269 : Cond.code ⟨"FilterGuard$Cell", "becomeAny", "()V"⟩ prog_2_method_5_code 1 none ∈ fg_g := fg_in (List.mem_of_getElem? (i := 1269) (by decide +kernel)) rfl
theorem u_1267 : Cond.instanceMethod ⟨"FilterGuard$Cell", "becomeAny", "()V"⟩ ∈ fg_g := fg_in (List.mem_of_getElem? (i := 1267) (by decide +kernel)) rfl
theorem u_1268 : Cond.selects "FilterGuard$Cell" ⟨"FilterGuard$Cell", "becomeAny", "()V"⟩ ⟨"FilterGuard$Cell", "becomeAny", "()V"⟩ ∈ fg_g := fg_in (List.mem_of_getElem? (i := 1268) (by decide +kernel)) rfl
theorem d_Steps_arithmetic_257 : decode prog_11_method_6_code 257 = .ok (.iconst 0, 1) := by decide +kernel
theorem d_Steps_arithmetic_258 : decode prog_11_method_6_code 258 = .ok (.ireturn, 1) := by decide +kernel
theorem d_Steps_arithmetic_233 : decode prog_11_method_6_code 233 = .ok (.iconst 0, 1) := by decide +kernel
theorem d_Steps_arithmetic_215 : decode prog_11_method_6_code 215 = .ok (.aload_n 1, 1) := by decide +kernel
theorem d_Steps_arithmetic_216 : decode prog_11_method_6_code 216 = .ok (.invokevirtual 161, 3) := by decide +kernel
theorem u_1262 : Cond.methodLink "FilterGuard$Steps" 161 ⟨"FilterGuard$Cell", "isOfPacket", "()Z"⟩ ∈ fg_g := fg_in (List.mem_of_getElem? (i := 1262) (by decide +kernel)) rfl
theorem u_1265 : Cond.code ⟨"FilterGuard$Cell", "isOfPacket", "()Z"⟩ prog_2_method_10_code 1 (some .boolean) ∈ fg_g := fg_in (List.mem_of_getElem? (i := 1265) (by decide +kernel)) rfl
theorem u_1263 : Cond.instanceMethod ⟨"FilterGuard$Cell", "isOfPacket", "()Z"⟩ ∈ fg_g := fg_in (List.mem_of_getElem? (i := 1263) (by decide +kernel)) rfl
theorem u_1264 : Cond.selects "FilterGuard$Cell" ⟨"FilterGuard$Cell", "isOfPacket", "()Z"⟩ ⟨"FilterGuard$Cell", "isOfPacket", "()Z"⟩ ∈ fg_g := fg_in (List.mem_of_getElem? (i := 1264) (by decide +kernel)) rfl
theorem d_Steps_arithmetic_219 : decode prog_11_method_6_code 219 = .ok (.ifCond .eq 14, 3) := by decide +kernel
theorem d_Steps_arithmetic_222 : decode prog_11_method_6_code 222 = .ok (.aload_n 2, 1) := by decide +kernel
theorem d_Steps_arithmetic_223 : decode prog_11_method_6_code 223 = .ok (.invokevirtual 161, 3) := by decide +kernel
theorem d_Steps_arithmetic_226 : decode prog_11_method_6_code 226 = .ok (.ifCond .eq 7, 3) := by decide +kernel
theorem d_Steps_arithmetic_229 : decode prog_11_method_6_code 229 = .ok (.iconst 1, 1) := by decide +kernel
theorem d_Steps_arithmetic_230 : decode prog_11_method_6_code 230 = .ok (.goto 4, 3) := by decide +kernel
theorem d_Steps_arithmetic_164 : decode prog_11_method_6_code 164 = .ok (.aload_n 0, 1) := by decide +kernel
theorem d_Steps_arithmetic_165 : decode prog_11_method_6_code 165 = .ok (.getfield 44, 3) := by decide +kernel
theorem d_Steps_arithmetic_168 : decode prog_11_method_6_code 168 = .ok (.getfield 133, 3) := by decide +kernel
theorem d_Steps_arithmetic_171 : decode prog_11_method_6_code 171 = .ok (.ifCond .ne 44, 3) := by decide +kernel
theorem d_Steps_arithmetic_174 : decode prog_11_method_6_code 174 = .ok (.aload_n 1, 1) := by decide +kernel
theorem d_Steps_arithmetic_175 : decode prog_11_method_6_code 175 = .ok (.getfield 76, 3) := by decide +kernel
theorem d_Steps_arithmetic_178 : decode prog_11_method_6_code 178 = .ok (.iconst 1, 1) := by decide +kernel
theorem d_Steps_arithmetic_179 : decode prog_11_method_6_code 179 = .ok (.if_icmp .ne 36, 3) := by decide +kernel
theorem d_Steps_arithmetic_182 : decode prog_11_method_6_code 182 = .ok (.aload_n 2, 1) := by decide +kernel
theorem d_Steps_arithmetic_183 : decode prog_11_method_6_code 183 = .ok (.invokevirtual 150, 3) := by decide +kernel
theorem u_1242 : Cond.methodLink "FilterGuard$Steps" 150 ⟨"FilterGuard$Cell", "isPointer", "()Z"⟩ ∈ fg_g := fg_in (List.mem_of_getElem? (i := 1242) (by decide +kernel)) rfl
theorem u_1245 : Cond.code ⟨"FilterGuard$Cell", "isPointer", "()Z"⟩ prog_2_method_8_code 1 (some .boolean) ∈ fg_g := fg_in (List.mem_of_getElem? (i := 1245) (by decide +kernel)) rfl
theorem u_1243 : Cond.instanceMethod ⟨"FilterGuard$Cell", "isPointer", "()Z"⟩ ∈ fg_g := fg_in (List.mem_of_getElem? (i := 1243) (by decide +kernel)) rfl
theorem u_1244 : Cond.selects "FilterGuard$Cell" ⟨"FilterGuard$Cell", "isPointer", "()Z"⟩ ⟨"FilterGuard$Cell", "isPointer", "()Z"⟩ ∈ fg_g := fg_in (List.mem_of_getElem? (i := 1244) (by decide +kernel)) rfl
theorem d_Steps_arithmetic_186 : decode prog_11_method_6_code 186 = .ok (.ifCond .eq 29, 3) := by decide +kernel
theorem d_Steps_arithmetic_189 : decode prog_11_method_6_code 189 = .ok (.aload_n 0, 1) := by decide +kernel
theorem d_Steps_arithmetic_190 : decode prog_11_method_6_code 190 = .ok (.getfield 28, 3) := by decide +kernel
theorem g_Steps_4 {p : Program} {l : Launch} {e : Env} {R : Room} {s : Jvm.State} {m : MethodId} {args : Array Value} {below : List Frame} {meth : Method} {c : Code} {H : Heap} {locs : List Loc} {cells slots : Nat} {Q : Jvm.State → Prop} {cc : ByteArray} {pc : Nat} {ls : Array Slot} {rest : List Value} {D : va_G} {ad : Nat → Nat → Nat} {ca : Nat → ClassId} {M : me_M} {N : Nat → Nat} {own : String} {index j : Nat} (hexec : p.tables.exec = Jvm.exec) (hb : c.code = cc) (hts : ∀ w ∈ fg_g, w.before args s = true) (hown : s.vm.findClass own = some m.cls) (hK : va_K D classes (me_T ca) s) (hP : va_P D classes (me_W ad ca M) H) (hwf : me_wf N M) (hj : j < N 7) (hlink : (Cond.fieldLink own index "FilterGuard$Steps" "moreNumber" "LFilterGuard$Num;").before args s = true) (hdg : decode cc pc = .ok (.getfield index, 3)) (kk : W p l e R s m args below meth c H locs cells slots Q (F0 m (pc + 3) ls (va_rf ((mR M 7 j 4).map (ad 11)) :: rest))) : W p l e R s m args below meth c H locs cells slots Q (F0 m pc ls (.ref (ad 7 j) :: rest)) := me_get (k := 7) (f := 4) (C := "FilterGuard$Steps") (T := F_Steps) (Nf := 19) hexec hb hts i_Steps hown hK hP hwf hj (by decide) rfl (by decide) (by decide) hlink (fun _ h9 => h9) hdg kk
theorem d_Steps_arithmetic_193 : decode prog_11_method_6_code 193 = .ok (.aload_n 1, 1) := by decide +kernel
theorem d_Steps_arithmetic_194 : decode prog_11_method_6_code 194 = .ok (.getfield 143, 3) := by decide +kernel
theorem d_Steps_arithmetic_197 : decode prog_11_method_6_code 197 = .ok (.invokevirtual 158, 3) := by decide +kernel
theorem u_1261 : Cond.methodLink "FilterGuard$Steps" 158 ⟨"FilterGuard$Num", "copy", "(LFilterGuard$Num;)V"⟩ ∈ fg_g := fg_in (List.mem_of_getElem? (i := 1261) (by decide +kernel)) rfl
theorem d_Steps_arithmetic_200 : decode prog_11_method_6_code 200 = .ok (.aload_n 1, 1) := by decide +kernel
theorem d_Steps_arithmetic_201 : decode prog_11_method_6_code 201 = .ok (.aload_n 2, 1) := by decide +kernel
theorem d_Steps_arithmetic_202 : decode prog_11_method_6_code 202 = .ok (.invokevirtual 139, 3) := by decide +kernel
theorem u_1121 : Cond.methodLink "FilterGuard$Steps" 139 ⟨"FilterGuard$Cell", "copy", "(LFilterGuard$Cell;)V"⟩ ∈ fg_g := fg_in (List.mem_of_getElem? (i := 1121) (by decide +kernel)) rfl
theorem d_Steps_arithmetic_205 : decode prog_11_method_6_code 205 = .ok (.aload_n 0, 1) := by decide +kernel
theorem d_Steps_arithmetic_206 : decode prog_11_method_6_code 206 = .ok (.aload_n 1, 1) := by decide +kernel
theorem d_Steps_arithmetic_207 : decode prog_11_method_6_code 207 = .ok (.aload_n 0, 1) := by decide +kernel
theorem d_Steps_arithmetic_208 : decode prog_11_method_6_code 208 = .ok (.getfield 28, 3) := by decide +kernel
theorem d_Steps_arithmetic_211 : decode prog_11_method_6_code 211 = .ok (.invokevirtual 154, 3) := by decide +kernel
theorem u_1246 : Cond.methodLink "FilterGuard$Steps" 154 ⟨"FilterGuard$Steps", "shift", "(LFilterGuard$Cell;LFilterGuard$Num;)I"⟩ ∈ fg_g := fg_in (List.mem_of_getElem? (i := 1246) (by decide +kernel)) rfl
theorem u_1249 : Cond.code ⟨"FilterGuard$Steps", "shift", "(LFilterGuard$Cell;LFilterGuard$Num;)I"⟩ prog_11_method_7_code 7 (some .int) ∈ fg_g := fg_in (List.mem_of_getElem? (i := 1249) (by decide +kernel)) rfl
theorem u_1248 : Cond.instanceMethod ⟨"FilterGuard$Steps", "shift", "(LFilterGuard$Cell;LFilterGuard$Num;)I"⟩ ∈ fg_g := fg_in (List.mem_of_getElem? (i := 1248) (by decide +kernel)) rfl
theorem u_27 : Cond.selects "FilterGuard$Steps" ⟨"FilterGuard$Steps", "shift", "(LFilterGuard$Cell;LFilterGuard$Num;)I"⟩ ⟨"FilterGuard$Steps", "shift", "(LFilterGuard$Cell;LFilterGuard$Num;)I"⟩ ∈ fg_g := fg_in (List.mem_of_getElem? (i := 27) (by decide +kernel)) rfl
theorem d_Steps_arithmetic_214 : decode prog_11_method_6_code 214 = .ok (.ireturn, 1) := by decide +kernel
theorem d_Steps_arithmetic_115 : decode prog_11_method_6_code 115 = .ok (.aload_n 0, 1) := by decide +kernel
theorem d_Steps_arithmetic_116 : decode prog_11_method_6_code 116 = .ok (.getfield 44, 3) := by decide +kernel
theorem d_Steps_arithmetic_119 : decode prog_11_method_6_code 119 = .ok (.getfield 136, 3) := by decide +kernel
theorem u_266 : Cond.fieldLink "FilterGuard$Steps" 136 "FilterGuard$Code" "isNarrow" "Z" ∈ fg_g := fg_in (List.mem_of_getElem? (i := 266) (by decide +kernel)) rfl
theorem d_Steps_arithmetic_122 : decode prog_11_method_6_code 122 = .ok (.ifCond .ne 14, 3) := by decide +kernel
theorem d_Steps_arithmetic_136 : decode prog_11_method_6_code 136 = .ok (.bipush 11, 2) := by decide +kernel
theorem d_Steps_arithmetic_138 : decode prog_11_method_6_code 138 = .ok (.ireturn, 1) := by decide +kernel
theorem d_Steps_arithmetic_125 : decode prog_11_method_6_code 125 = .ok (.aload_n 0, 1) := by decide +kernel
theorem d_Steps_arithmetic_126 : decode prog_11_method_6_code 126 = .ok (.getfield 44, 3) := by decide +kernel
theorem d_Steps_arithmetic_129 : decode prog_11_method_6_code 129 = .ok (.getfield 133, 3) := by decide +kernel
theorem d_Steps_arithmetic_132 : decode prog_11_method_6_code 132 = .ok (.iconst 1, 1) := by decide +kernel
theorem d_Steps_arithmetic_133 : decode prog_11_method_6_code 133 = .ok (.if_icmp .le 6, 3) := by decide +kernel
theorem d_Steps_arithmetic_139 : decode prog_11_method_6_code 139 = .ok (.aload_n 1, 1) := by decide +kernel
theorem d_Steps_arithmetic_140 : decode prog_11_method_6_code 140 = .ok (.invokevirtual 150, 3) := by decide +kernel
theorem d_Steps_arithmetic_143 : decode prog_11_method_6_code 143 = .ok (.ifCond .eq 21, 3) := by decide +kernel
theorem d_Steps_arithmetic_146 : decode prog_11_method_6_code 146 = .ok (.aload_n 2, 1) := by decide +kernel
theorem d_Steps_arithmetic_147 : decode prog_11_method_6_code 147 = .ok (.getfield 76, 3) := by decide +kernel
theorem d_Steps_arithmetic_150 : decode prog_11_method_6_code 150 = .ok (.iconst 1, 1) := by decide +kernel
theorem d_Steps_arithmetic_151 : decode prog_11_method_6_code 151 = .ok (.if_icmp .ne 13, 3) := by decide +kernel
theorem d_Steps_arithmetic_154 : decode prog_11_method_6_code 154 = .ok (.aload_n 0, 1) := by decide +kernel
theorem d_Steps_arithmetic_155 : decode prog_11_method_6_code 155 = .ok (.aload_n 1, 1) := by decide +kernel
theorem d_Steps_arithmetic_156 : decode prog_11_method_6_code 156 = .ok (.aload_n 2, 1) := by decide +kernel
theorem d_Steps_arithmetic_157 : decode prog_11_method_6_code 157 = .ok (.getfield 143, 3) := by decide +kernel
theorem d_Steps_arithmetic_160 : decode prog_11_method_6_code 160 = .ok (.invokevirtual 154, 3) := by decide +kernel
theorem d_Steps_arithmetic_163 : decode prog_11_method_6_code 163 = .ok (.ireturn, 1) := by decide +kernel
theorem d_Steps_arithmetic_75 : decode prog_11_method_6_code 75 = .ok (.aload_n 1, 1) := by decide +kernel
theorem d_Steps_arithmetic_76 : decode prog_11_method_6_code 76 = .ok (.iconst 1, 1) := by decide +kernel
theorem d_Steps_arithmetic_77 : decode prog_11_method_6_code 77 = .ok (.putfield 76, 3) := by decide +kernel
theorem d_Steps_arithmetic_80 : decode prog_11_method_6_code 80 = .ok (.aload_n 0, 1) := by decide +kernel
theorem d_Steps_arithmetic_81 : decode prog_11_method_6_code 81 = .ok (.getfield 12, 3) := by decide +kernel
theorem d_Steps_arithmetic_84 : decode prog_11_method_6_code 84 = .ok (.aload_n 0, 1) := by decide +kernel
theorem d_Steps_arithmetic_85 : decode prog_11_method_6_code 85 = .ok (.getfield 44, 3) := by decide +kernel
theorem d_Steps_arithmetic_88 : decode prog_11_method_6_code 88 = .ok (.getfield 133, 3) := by decide +kernel
theorem d_Steps_arithmetic_91 : decode prog_11_method_6_code 91 = .ok (.aload_n 1, 1) := by decide +kernel
theorem d_Steps_arithmetic_92 : decode prog_11_method_6_code 92 = .ok (.getfield 143, 3) := by decide +kernel
theorem d_Steps_arithmetic_95 : decode prog_11_method_6_code 95 = .ok (.aload_n 2, 1) := by decide +kernel
theorem d_Steps_arithmetic_96 : decode prog_11_method_6_code 96 = .ok (.getfield 143, 3) := by decide +kernel
theorem d_Steps_arithmetic_99 : decode prog_11_method_6_code 99 = .ok (.aload_n 0, 1) := by decide +kernel
theorem d_Steps_arithmetic_100 : decode prog_11_method_6_code 100 = .ok (.getfield 44, 3) := by decide +kernel
theorem d_Steps_arithmetic_103 : decode prog_11_method_6_code 103 = .ok (.getfield 136, 3) := by decide +kernel
theorem d_Steps_arithmetic_106 : decode prog_11_method_6_code 106 = .ok (.aload_n 1, 1) := by decide +kernel
theorem d_Steps_arithmetic_107 : decode prog_11_method_6_code 107 = .ok (.getfield 143, 3) := by decide +kernel
theorem d_Steps_arithmetic_110 : decode prog_11_method_6_code 110 = .ok (.invokevirtual 146, 3) := by decide +kernel
theorem u_1122 : Cond.methodLink "FilterGuard$Steps" 146 ⟨"FilterGuard$Reckoner", "operate", "(ILFilterGuard$Num;LFilterGuard$Num;ZLFilterGuard$Num;)V"⟩ ∈ fg_g := fg_in (List.mem_of_getElem? (i := 1122) (by decide +kernel)) rfl
theorem u_1125 : Cond.code ⟨"FilterGuard$Reckoner", "operate", "(ILFilterGuard$Num;LFilterGuard$Num;ZLFilterGuard$Num;)V"⟩ prog_9_method_4_code 7 none ∈ fg_g := fg_in (List.mem_of_getElem? (i := 1125) (by decide +kernel)) rfl
theorem u_1123 : Cond.instanceMethod ⟨"FilterGuard$Reckoner", "operate", "(ILFilterGuard$Num;LFilterGuard$Num;ZLFilterGuard$Num;)V"⟩ ∈ fg_g := fg_in (List.mem_of_getElem? (i := 1123) (by decide +kernel)) rfl
theorem u_1124 : Cond.selects "FilterGuard$Reckoner" ⟨"FilterGuard$Reckoner", "operate", "(ILFilterGuard$Num;LFilterGuard$Num;ZLFilterGuard$Num;)V"⟩ ⟨"FilterGuard$Reckoner", "operate", "(ILFilterGuard$Num;LFilterGuard$Num;ZLFilterGuard$Num;)V"⟩ ∈ fg_g := fg_in (List.mem_of_getElem? (i := 1124) (by decide +kernel)) rfl
theorem d_Steps_arithmetic_113 : decode prog_11_method_6_code 113 = .ok (.iconst 0, 1) := by decide +kernel
theorem d_Steps_arithmetic_114 : decode prog_11_method_6_code 114 = .ok (.ireturn, 1) := by decide +kernel
theorem d_Steps_arithmetic_47 : decode prog_11_method_6_code 47 = .ok (.aload_n 2, 1) := by decide +kernel
theorem d_Steps_arithmetic_48 : decode prog_11_method_6_code 48 = .ok (.getfield 76, 3) := by decide +kernel
theorem d_Steps_arithmetic_51 : decode prog_11_method_6_code 51 = .ok (.iconst 1, 1) := by decide +kernel
theorem d_Steps_arithmetic_52 : decode prog_11_method_6_code 52 = .ok (.if_icmp .ne 63, 3) := by decide +kernel
theorem d_Steps_arithmetic_55 : decode prog_11_method_6_code 55 = .ok (.aload_n 1, 1) := by decide +kernel
theorem d_Steps_arithmetic_56 : decode prog_11_method_6_code 56 = .ok (.getfield 76, 3) := by decide +kernel
theorem d_Steps_arithmetic_59 : decode prog_11_method_6_code 59 = .ok (.iconst 1, 1) := by decide +kernel
theorem d_Steps_arithmetic_60 : decode prog_11_method_6_code 60 = .ok (.if_icmp .eq 15, 3) := by decide +kernel
theorem d_Steps_arithmetic_63 : decode prog_11_method_6_code 63 = .ok (.aload_n 0, 1) := by decide +kernel
theorem d_Steps_arithmetic_64 : decode prog_11_method_6_code 64 = .ok (.getfield 44, 3) := by decide +kernel
theorem d_Steps_arithmetic_67 : decode prog_11_method_6_code 67 = .ok (.getfield 133, 3) := by decide +kernel
theorem d_Steps_arithmetic_70 : decode prog_11_method_6_code 70 = .ok (.bipush 12, 2) := by decide +kernel
theorem d_Steps_arithmetic_72 : decode prog_11_method_6_code 72 = .ok (.if_icmp .ne 43, 3) := by decide +kernel
theorem d_Steps_arithmetic_0 : decode prog_11_method_6_code 0 = .ok (.aload_n 0, 1) := by decide +kernel
theorem d_Steps_arithmetic_1 : decode prog_11_method_6_code 1 = .ok (.getfield 66, 3) := by decide +kernel
theorem d_Steps_arithmetic_4 : decode prog_11_method_6_code 4 = .ok (.aload_n 0, 1) := by decide +kernel
theorem d_Steps_arithmetic_5 : decode prog_11_method_6_code 5 = .ok (.getfield 44, 3) := by decide +kernel
theorem d_Steps_arithmetic_8 : decode prog_11_method_6_code 8 = .ok (.getfield 73, 3) := by decide +kernel
theorem d_Steps_arithmetic_11 : decode prog_11_method_6_code 11 = .ok (.aaload, 1) := by decide +kernel
theorem d_Steps_arithmetic_12 : decode prog_11_method_6_code 12 = .ok (.astore_n 1, 1) := by decide +kernel
theorem d_Steps_arithmetic_13 : decode prog_11_method_6_code 13 = .ok (.aload_n 0, 1) := by decide +kernel
theorem d_Steps_arithmetic_14 : decode prog_11_method_6_code 14 = .ok (.invokevirtual 129, 3) := by decide +kernel
theorem u_1113 : Cond.methodLink "FilterGuard$Steps" 129 ⟨"FilterGuard$Steps", "operand", "()LFilterGuard$Cell;"⟩ ∈ fg_g := fg_in (List.mem_of_getElem? (i := 1113) (by decide +kernel)) rfl
theorem u_1116 : Cond.code ⟨"FilterGuard$Steps", "operand", "()LFilterGuard$Cell;"⟩ prog_11_method_5_code 1 (some (.object "FilterGuard$Cell")) ∈ fg_g := fg_in (List.mem_of_getElem? (i := 1116) (by decide +kernel)) rfl
theorem u_1115 : Cond.instanceMethod ⟨"FilterGuard$Steps", "operand", "()LFilterGuard$Cell;"⟩ ∈ fg_g := fg_in (List.mem_of_getElem? (i := 1115) (by decide +kernel)) rfl
theorem u_18 : Cond.selects "FilterGuard$Steps" ⟨"FilterGuard$Steps", "operand", "()LFilterGuard$Cell;"⟩ ⟨"FilterGuard$Steps", "operand", "()LFilterGuard$Cell;"⟩ ∈ fg_g := fg_in (List.mem_of_getElem? (i := 18) (by decide +kernel)) rfl
theorem d_Steps_arithmetic_17 : decode prog_11_method_6_code 17 = .ok (.astore_n 2, 1) := by decide +kernel
theorem d_Steps_arithmetic_18 : decode prog_11_method_6_code 18 = .ok (.aload_n 0, 1) := by decide +kernel
theorem d_Steps_arithmetic_19 : decode prog_11_method_6_code 19 = .ok (.getfield 44, 3) := by decide +kernel
theorem d_Steps_arithmetic_22 : decode prog_11_method_6_code 22 = .ok (.getfield 133, 3) := by decide +kernel
theorem d_Steps_arithmetic_25 : decode prog_11_method_6_code 25 = .ok (.bipush 12, 2) := by decide +kernel
theorem d_Steps_arithmetic_27 : decode prog_11_method_6_code 27 = .ok (.if_icmp .ne 20, 3) := by decide +kernel
theorem d_Steps_arithmetic_30 : decode prog_11_method_6_code 30 = .ok (.aload_n 0, 1) := by decide +kernel
theorem d_Steps_arithmetic_31 : decode prog_11_method_6_code 31 = .ok (.getfield 44, 3) := by decide +kernel
theorem d_Steps_arithmetic_34 : decode prog_11_method_6_code 34 = .ok (.getfield 136, 3) := by decide +kernel
theorem d_Steps_arithmetic_37 : decode prog_11_method_6_code 37 = .ok (.ifCond .ne 10, 3) := by decide +kernel
theorem d_Steps_arithmetic_40 : decode prog_11_method_6_code 40 = .ok (.aload_n 1, 1) := by decide +kernel
theorem d_Steps_arithmetic_41 : decode prog_11_method_6_code 41 = .ok (.aload_n 2, 1) := by decide +kernel
theorem d_Steps_arithmetic_42 : decode prog_11_method_6_code 42 = .ok (.invokevirtual 139, 3) := by decide +kernel
theorem d_Steps_arithmetic_45 : decode prog_11_method_6_code 45 = .ok (.iconst 0, 1) := by decide +kernel
theorem d_Steps_arithmetic_46 : decode prog_11_method_6_code 46 = .ok (.ireturn, 1) := by decide +kernel
abbrev y_Steps_arithmetic : MethodName := ⟨"FilterGuard$Steps", "arithmetic", "()I"⟩
def rm_Steps_arithmetic : Room := { frames := 6, cells := 0, slots := 0, locals := 136 }
abbrev q_Steps_arithmetic (D : va_G) (ad : Nat → Nat → Nat) (ca : Nat → ClassId) (N : Nat → Nat) (M0 MZ : me_M) (RZ : Int32) (A : Nat → Prop) : Array Value → Jvm.State → Outcome → Jvm.State → Prop := va_Qi (fun r (_ : Unit) => r = RZ ∧ me_wf N MZ ∧ me_kp M0 MZ) (fg_B D A (fun _ => me_W ad ca MZ) (fun _ => [])) A
set_option maxHeartbeats 4000000 in
set_option maxRecDepth 100000 in
theorem c_Steps_arithmetic (l : Launch) (D : va_G) (ad : Nat → Nat → Nat) (ca : Nat → ClassId) (N : Nat → Nat) (M0 MZ : me_M) (RZ : Int32) (j0 : Nat) (h : f_Steps_arithmetic M0 j0 = (some (MZ, RZ))) (hwf : me_wf N M0) (hj0 : j0 < N 7) (sz : Nat) : Met l y_Steps_arithmetic (fg_w y_Steps_arithmetic prog_11_method_6_code 4 (some .int)) rm_Steps_arithmetic (va_Pc [.ref (ad 7 j0)] (fz_P D (me_T ca) (me_W ad ca M0) sz)) (q_Steps_arithmetic D ad ca N M0 MZ RZ (va_A (me_W ad ca M0) sz)) rm_Steps_arithmetic.cells rm_Steps_arithmetic.slots (va_A (me_W ad ca M0) sz) := by
  refine fz_enter (fun A => q_Steps_arithmetic D ad ca N M0 MZ RZ A) (by decide +kernel) (Nat.le_of_ble_eq_true rfl) ?_
  intro p e s m below meth c ls A hx hb hml hown hts hr hlocks hin hP hK hD hS hA hX hl hz
  have hl : lv_has ls 4 [(0, .ref (ad 7 j0))] := hl
  unfold f_Steps_arithmetic at h
  have hkp : me_kp M0 M0 := me_kp.rf
  have hkb := hkp
  have b_234 : ∀ (M : me_M) (y1 : Nat) (s0 : Int32) (H : Heap) (locs : List Loc) (ls : Array Slot), f_Steps_arithmetic_b234 j0 M y1 s0 = (some (MZ, RZ)) → (y1 < N 10) → (s0 = 1 ∨ s0 = 0) → me_wf N M → me_kp M0 M → va_P D classes (me_W ad ca M) H → va_D A (me_W ad ca M) → va_S A s.heap H locs → lv_has ls 4 [(0, .ref (ad 7 j0)), (1, .ref (ad 10 y1))] → W p l e rm_Steps_arithmetic s m [.ref (ad 7 j0)].toArray below meth c H locs 0 0 (MQ below (q_Steps_arithmetic D ad ca N M0 MZ RZ A) [.ref (ad 7 j0)].toArray s rm_Steps_arithmetic.cells rm_Steps_arithmetic.slots A) (F0 m 234 ls [.int s0]) := by
    intro M y1 s0 H locs ls h hy1 zs0 hwf hkp hP hD hS hl
    unfold f_Steps_arithmetic_b234 at h
    have hkb := hkp
    refine lv_istore_n (lv' := [(3, .int s0), (0, .ref (ad 7 j0)), (1, .ref (ad 10 y1))]) hx hb d_Steps_arithmetic_234 rfl hl (by decide) rfl (fun ls hl => ?_)
    refine lv_aload_n hx hb d_Steps_arithmetic_235 rfl (lv_at hl 1 rfl) ?_
    refine g_Steps_0 hx hb hts hown hK hP hwf hj0 (hts _ u_455) d_Steps_arithmetic_236 ?_
    obtain ⟨j1, e2, h⟩ := bd_ob h
    have hj1 : j1 < N 2 := (hwf.2.1 7 j0 0 _ e2 (by decide) hj0)
    refine me_opt (j := j1) e2 ?_
    refine g_Code_12 hx hb hts hown hK hP hwf hj1 (hts _ u_262) d_Steps_arithmetic_239 ?_
    refine lv_iconst (v := 1) hx hb d_Steps_arithmetic_242 (by decide) ?_
    refine lv_icmp_ne (tgt := 250) hx hb d_Steps_arithmetic_243 (by decide) (fun c3 => ?_) (fun c3 => ?_)
    · have h := if_f c3 h
      refine lv_bipush (v := 11) hx hb d_Steps_arithmetic_250 (by decide) ?_
      exact me_reti (me_kp M0) h hx hb hr hlocks hwf hkp hP hK hD hS d_Steps_arithmetic_252
    have h := if_t c3 h
    refine lv_iload_n hx hb d_Steps_arithmetic_246 rfl (lv_at hl 0 rfl) ?_
    refine lv_if_ne (tgt := 253) hx hb d_Steps_arithmetic_247 (by decide) (fun c4 => ?_) (fun c4 => ?_)
    · have h := if_f c4 h
      refine lv_aload_n hx hb d_Steps_arithmetic_253 rfl (lv_at hl 2 rfl) ?_
      obtain ⟨M5, eM5, h⟩ := bd_ob h
      refine me_thenv0 (M1 := M5) (me_runV (C := "FilterGuard$Cell") (As := []) (rest := []) ⟨hx, hb, hml, hown, hts⟩ (c_Cell_becomeAny l D ad ca N M M5 y1 eM5 hwf hy1 _) rfl (by show fg_nm y_Cell_becomeAny 0; decide +kernel) u_1266 u_1267 u_1268 u_188 u_1269 ⟨Nat.le_of_ble_eq_true rfl, Nat.le_of_ble_eq_true rfl⟩ hX hz hK hP hD hwf hS hA hy1 (by decide) rfl rfl rfl hl.1 (Nat.le_of_ble_eq_true rfl) d_Steps_arithmetic_254 ⟨Nat.le_of_ble_eq_true rfl, Nat.le_of_ble_eq_true rfl⟩) hP hD hK hS hA rfl rfl (fun H locs hw hP hD hS => ?_)
      obtain ⟨hwf, hk9⟩ := hw
      have hkp := hkp.tr hk9
      refine lv_iconst (v := 0) hx hb d_Steps_arithmetic_257 (by decide) ?_
      exact me_reti (me_kp M0) h hx hb hr hlocks hwf hkp hP hK hD hS d_Steps_arithmetic_258
    have h := if_t c4 h
    refine lv_bipush (v := 11) hx hb d_Steps_arithmetic_250 (by decide) ?_
    exact me_reti (me_kp M0) h hx hb hr hlocks hwf hkp hP hK hD hS d_Steps_arithmetic_252
  have b_233 : ∀ (M : me_M) (y1 : Nat) (H : Heap) (locs : List Loc) (ls : Array Slot), f_Steps_arithmetic_b233 j0 M y1 = (some (MZ, RZ)) → (y1 < N 10) → me_wf N M → me_kp M0 M → va_P D classes (me_W ad ca M) H → va_D A (me_W ad ca M) → va_S A s.heap H locs → lv_has ls 4 [(0, .ref (ad 7 j0)), (1, .ref (ad 10 y1))] → W p l e rm_Steps_arithmetic s m [.ref (ad 7 j0)].toArray below meth c H locs 0 0 (MQ below (q_Steps_arithmetic D ad ca N M0 MZ RZ A) [.ref (ad 7 j0)].toArray s rm_Steps_arithmetic.cells rm_Steps_arithmetic.slots A) (F0 m 233 ls []) := by
    intro M y1 H locs ls h hy1 hwf hkp hP hD hS hl
    unfold f_Steps_arithmetic_b233 at h
    have hkb := hkp
    refine lv_iconst (v := 0) hx hb d_Steps_arithmetic_233 (by decide) ?_
    exact b_234 M y1 (0 : Int32) _ _ _ h hy1 (by decide) hwf hkp hP hD hS (lv_sub hl [0, 1] rfl)
  have b_215 : ∀ (M : me_M) (y1 : Nat) (y2 : Nat) (H : Heap) (locs : List Loc) (ls : Array Slot), f_Steps_arithmetic_b215 j0 M y1 y2 = (some (MZ, RZ)) → (y1 < N 10) → (y2 < N 10) → me_wf N M → me_kp M0 M → va_P D classes (me_W ad ca M) H → va_D A (me_W ad ca M) → va_S A s.heap H locs → lv_has ls 4 [(0, .ref (ad 7 j0)), (1, .ref (ad 10 y1)), (2, .ref (ad 10 y2))] → W p l e rm_Steps_arithmetic s m [.ref (ad 7 j0)].toArray below meth c H locs 0 0 (MQ below (q_Steps_arithmetic D ad ca N M0 MZ RZ A) [.ref (ad 7 j0)].toArray s rm_Steps_arithmetic.cells rm_Steps_arithmetic.slots A) (F0 m 215 ls []) := by
    intro M y1 y2 H locs ls h hy1 hy2 hwf hkp hP hD hS hl
    unfold f_Steps_arithmetic_b215 at h
    have hkb := hkp
    refine lv_aload_n hx hb d_Steps_arithmetic_215 rfl (lv_at hl 1 rfl) ?_
    obtain ⟨M6, r7, eM6, h⟩ := b2_ob h
    refine me_theni0 (M1 := M6) (me_runV (C := "FilterGuard$Cell") (As := []) (rest := []) ⟨hx, hb, hml, hown, hts⟩ (c_Cell_isOfPacket l D ad ca N M M6 r7 y1 eM6 hwf hy1 _) rfl (by show fg_nm y_Cell_isOfPacket 0; decide +kernel) u_1262 u_1263 u_1264 u_188 u_1265 ⟨Nat.le_of_ble_eq_true rfl, Nat.le_of_ble_eq_true rfl⟩ hX hz hK hP hD hwf hS hA hy1 (by decide) rfl rfl rfl hl.1 (Nat.le_of_ble_eq_true rfl) d_Steps_arithmetic_216 ⟨Nat.le_of_ble_eq_true rfl, Nat.le_of_ble_eq_true rfl⟩) hP hD hK hS hA rfl rfl (fun H locs hw hP hD hS => ?_)
    obtain ⟨hwf, hk9, zr7⟩ := hw
    have hkp := hkp.tr hk9
    refine lv_if_eq (tgt := 233) hx hb d_Steps_arithmetic_219 (by decide) (fun c8 => ?_) (fun c8 => ?_)
    · have h := if_t c8 h
      exact b_233 M6 y1 _ _ _ h hy1 hwf hkp hP hD hS (lv_sub hl [0, 1] rfl)
    have h := if_f c8 h
    refine lv_aload_n hx hb d_Steps_arithmetic_222 rfl (lv_at hl 2 rfl) ?_
    obtain ⟨M9, r10, eM9, h⟩ := b2_ob h
    refine me_theni0 (M1 := M9) (me_runV (C := "FilterGuard$Cell") (As := []) (rest := []) ⟨hx, hb, hml, hown, hts⟩ (c_Cell_isOfPacket l D ad ca N M6 M9 r10 y2 eM9 hwf hy2 _) rfl (by show fg_nm y_Cell_isOfPacket 0; decide +kernel) u_1262 u_1263 u_1264 u_188 u_1265 ⟨Nat.le_of_ble_eq_true rfl, Nat.le_of_ble_eq_true rfl⟩ hX hz hK hP hD hwf hS hA hy2 (by decide) rfl rfl rfl hl.1 (Nat.le_of_ble_eq_true rfl) d_Steps_arithmetic_223 ⟨Nat.le_of_ble_eq_true rfl, Nat.le_of_ble_eq_true rfl⟩) hP hD hK hS hA rfl rfl (fun H locs hw hP hD hS => ?_)
    obtain ⟨hwf, hk9, zr10⟩ := hw
    have hkp := hkp.tr hk9
    refine lv_if_eq (tgt := 233) hx hb d_Steps_arithmetic_226 (by decide) (fun c11 => ?_) (fun c11 => ?_)
    · have h := if_t c11 h
      exact b_233 M9 y1 _ _ _ h hy1 hwf hkp hP hD hS (lv_sub hl [0, 1] rfl)
    have h := if_f c11 h
    refine lv_iconst (v := 1) hx hb d_Steps_arithmetic_229 (by decide) ?_
    refine lv_goto (tgt := 234) hx hb d_Steps_arithmetic_230 (by decide) ?_
    exact b_234 M9 y1 (1 : Int32) _ _ _ h hy1 (by decide) hwf hkp hP hD hS (lv_sub hl [0, 1] rfl)
  have b_164 : ∀ (M : me_M) (y1 : Nat) (y2 : Nat) (H : Heap) (locs : List Loc) (ls : Array Slot), f_Steps_arithmetic_b164 j0 M y1 y2 = (some (MZ, RZ)) → (y1 < N 10) → (y2 < N 10) → me_wf N M → me_kp M0 M → va_P D classes (me_W ad ca M) H → va_D A (me_W ad ca M) → va_S A s.heap H locs → lv_has ls 4 [(0, .ref (ad 7 j0)), (1, .ref (ad 10 y1)), (2, .ref (ad 10 y2))] → W p l e rm_Steps_arithmetic s m [.ref (ad 7 j0)].toArray below meth c H locs 0 0 (MQ below (q_Steps_arithmetic D ad ca N M0 MZ RZ A) [.ref (ad 7 j0)].toArray s rm_Steps_arithmetic.cells rm_Steps_arithmetic.slots A) (F0 m 164 ls []) := by
    intro M y1 y2 H locs ls h hy1 hy2 hwf hkp hP hD hS hl
    unfold f_Steps_arithmetic_b164 at h
    have hkb := hkp
    refine lv_aload_n hx hb d_Steps_arithmetic_164 rfl (lv_at hl 0 rfl) ?_
    refine g_Steps_0 hx hb hts hown hK hP hwf hj0 (hts _ u_455) d_Steps_arithmetic_165 ?_
    obtain ⟨j12, e13, h⟩ := bd_ob h
    have hj12 : j12 < N 2 := (hwf.2.1 7 j0 0 _ e13 (by decide) hj0)
    refine me_opt (j := j12) e13 ?_
    refine g_Code_12 hx hb hts hown hK hP hwf hj12 (hts _ u_262) d_Steps_arithmetic_168 ?_
    refine lv_if_ne (tgt := 215) hx hb d_Steps_arithmetic_171 (by decide) (fun c14 => ?_) (fun c14 => ?_)
    · have h := if_f c14 h
      exact b_215 M y1 y2 _ _ _ h hy1 hy2 hwf hkp hP hD hS (lv_sub hl [0, 1, 2] rfl)
    have h := if_t c14 h
    refine lv_aload_n hx hb d_Steps_arithmetic_174 rfl (lv_at hl 1 rfl) ?_
    refine g_Cell_0 hx hb hts hown hK hP hwf hy1 (hts _ u_422) d_Steps_arithmetic_175 ?_
    refine lv_iconst (v := 1) hx hb d_Steps_arithmetic_178 (by decide) ?_
    refine lv_icmp_ne (tgt := 215) hx hb d_Steps_arithmetic_179 (by decide) (fun c15 => ?_) (fun c15 => ?_)
    · have h := if_f c15 h
      exact b_215 M y1 y2 _ _ _ h hy1 hy2 hwf hkp hP hD hS (lv_sub hl [0, 1, 2] rfl)
    have h := if_t c15 h
    refine lv_aload_n hx hb d_Steps_arithmetic_182 rfl (lv_at hl 2 rfl) ?_
    obtain ⟨M16, r17, eM16, h⟩ := b2_ob h
    refine me_theni0 (M1 := M16) (me_runV (C := "FilterGuard$Cell") (As := []) (rest := []) ⟨hx, hb, hml, hown, hts⟩ (c_Cell_isPointer l D ad ca N M M16 r17 y2 eM16 hwf hy2 _) rfl (by show fg_nm y_Cell_isPointer 0; decide +kernel) u_1242 u_1243 u_1244 u_188 u_1245 ⟨Nat.le_of_ble_eq_true rfl, Nat.le_of_ble_eq_true rfl⟩ hX hz hK hP hD hwf hS hA hy2 (by decide) rfl rfl rfl hl.1 (Nat.le_of_ble_eq_true rfl) d_Steps_arithmetic_183 ⟨Nat.le_of_ble_eq_true rfl, Nat.le_of_ble_eq_true rfl⟩) hP hD hK hS hA rfl rfl (fun H locs hw hP hD hS => ?_)
    obtain ⟨hwf, hk9, zr17⟩ := hw
    have hkp := hkp.tr hk9
    refine lv_if_eq (tgt := 215) hx hb d_Steps_arithmetic_186 (by decide) (fun c18 => ?_) (fun c18 => ?_)
    · have h := if_t c18 h
      exact b_215 M16 y1 y2 _ _ _ h hy1 hy2 hwf hkp hP hD hS (lv_sub hl [0, 1, 2] rfl)
    have h := if_f c18 h
    refine lv_aload_n hx hb d_Steps_arithmetic_189 rfl (lv_at hl 0 rfl) ?_
    refine g_Steps_4 hx hb hts hown hK hP hwf hj0 (hts _ u_459) d_Steps_arithmetic_190 ?_
    obtain ⟨j19, e20, h⟩ := bd_ob h
    have hj19 : j19 < N 11 := (hwf.2.1 7 j0 4 _ (kp_r hkb hkp e20) (by decide) hj0)
    refine me_opt (j := j19) (kp_r hkb hkp e20) ?_
    refine lv_aload_n hx hb d_Steps_arithmetic_193 rfl (lv_at hl 1 rfl) ?_
    refine g_Cell_6 hx hb hts hown hK hP hwf hy1 (hts _ u_437) d_Steps_arithmetic_194 ?_
    obtain ⟨j21, e22, h⟩ := bd_ob h
    have hj21 : j21 < N 11 := (hwf.2.1 10 y1 6 _ (kp_r hkb hkp e22) (by decide) hy1)
    refine me_opt (j := j21) (kp_r hkb hkp e22) ?_
    obtain ⟨M23, eM23, h⟩ := bd_ob h
    refine me_thenv0 (M1 := M23) (me_runV (C := "FilterGuard$Num") (As := [.ref (ad 11 j21)]) (rest := []) ⟨hx, hb, hml, hown, hts⟩ (c_Num_copy l D ad ca N M16 M23 j19 j21 eM23 hwf hj19 hj21 _) rfl (by show fg_nm y_Num_copy 1; decide +kernel) u_1261 u_1083 u_1084 u_187 u_1085 ⟨Nat.le_of_ble_eq_true rfl, Nat.le_of_ble_eq_true rfl⟩ hX hz hK hP hD hwf hS hA hj19 (by decide) rfl rfl rfl hl.1 (Nat.le_of_ble_eq_true rfl) d_Steps_arithmetic_197 ⟨Nat.le_of_ble_eq_true rfl, Nat.le_of_ble_eq_true rfl⟩) hP hD hK hS hA rfl rfl (fun H locs hw hP hD hS => ?_)
    obtain ⟨hwf, hk9⟩ := hw
    have hkp := hkp.tr hk9
    refine lv_aload_n hx hb d_Steps_arithmetic_200 rfl (lv_at hl 1 rfl) ?_
    refine lv_aload_n hx hb d_Steps_arithmetic_201 rfl (lv_at hl 2 rfl) ?_
    obtain ⟨M24, eM24, h⟩ := bd_ob h
    refine me_thenv0 (M1 := M24) (me_runV (C := "FilterGuard$Cell") (As := [.ref (ad 10 y2)]) (rest := []) ⟨hx, hb, hml, hown, hts⟩ (c_Cell_copy l D ad ca N M23 M24 y1 y2 eM24 hwf hy1 hy2 _) rfl (by show fg_nm y_Cell_copy 1; decide +kernel) u_1121 u_1079 u_1080 u_188 u_1081 ⟨Nat.le_of_ble_eq_true rfl, Nat.le_of_ble_eq_true rfl⟩ hX hz hK hP hD hwf hS hA hy1 (by decide) rfl rfl rfl hl.1 (Nat.le_of_ble_eq_true rfl) d_Steps_arithmetic_202 ⟨Nat.le_of_ble_eq_true rfl, Nat.le_of_ble_eq_true rfl⟩) hP hD hK hS hA rfl rfl (fun H locs hw hP hD hS => ?_)
    obtain ⟨hwf, hk9⟩ := hw
    have hkp := hkp.tr hk9
    refine lv_aload_n hx hb d_Steps_arithmetic_205 rfl (lv_at hl 0 rfl) ?_
    refine lv_aload_n hx hb d_Steps_arithmetic_206 rfl (lv_at hl 1 rfl) ?_
    refine lv_aload_n hx hb d_Steps_arithmetic_207 rfl (lv_at hl 0 rfl) ?_
    refine g_Steps_4 hx hb hts hown hK hP hwf hj0 (hts _ u_459) d_Steps_arithmetic_208 ?_
    refine me_opt (j := j19) (kp_r hkb hkp e20) ?_
    obtain ⟨M25, r26, eM25, h⟩ := b2_ob h
    refine me_theni0 (M1 := M25) (me_runV (C := "FilterGuard$Steps") (As := [.ref (ad 10 y1), .ref (ad 11 j19)]) (rest := []) ⟨hx, hb, hml, hown, hts⟩ (c_Steps_shift l D ad ca N M24 M25 r26 j0 y1 j19 eM25 hwf hj0 hy1 hj19 _) rfl (by show fg_nm y_Steps_shift 2; decide +kernel) u_1246 u_1248 u_27 u_185 u_1249 ⟨Nat.le_of_ble_eq_true rfl, Nat.le_of_ble_eq_true rfl⟩ hX hz hK hP hD hwf hS hA hj0 (by decide) rfl rfl rfl hl.1 (Nat.le_of_ble_eq_true rfl) d_Steps_arithmetic_211 ⟨Nat.le_of_ble_eq_true rfl, Nat.le_of_ble_eq_true rfl⟩) hP hD hK hS hA rfl rfl (fun H locs hw hP hD hS => ?_)
    obtain ⟨hwf, hk9⟩ := hw
    have hkp := hkp.tr hk9
    exact me_reti (me_kp M0) h hx hb hr hlocks hwf hkp hP hK hD hS d_Steps_arithmetic_214
  have b_115 : ∀ (M : me_M) (y1 : Nat) (y2 : Nat) (H : Heap) (locs : List Loc) (ls : Array Slot), f_Steps_arithmetic_b115 j0 M y1 y2 = (some (MZ, RZ)) → (y1 < N 10) → (y2 < N 10) → me_wf N M → me_kp M0 M → va_P D classes (me_W ad ca M) H → va_D A (me_W ad ca M) → va_S A s.heap H locs → lv_has ls 4 [(0, .ref (ad 7 j0)), (1, .ref (ad 10 y1)), (2, .ref (ad 10 y2))] → W p l e rm_Steps_arithmetic s m [.ref (ad 7 j0)].toArray below meth c H locs 0 0 (MQ below (q_Steps_arithmetic D ad ca N M0 MZ RZ A) [.ref (ad 7 j0)].toArray s rm_Steps_arithmetic.cells rm_Steps_arithmetic.slots A) (F0 m 115 ls []) := by
    intro M y1 y2 H locs ls h hy1 hy2 hwf hkp hP hD hS hl
    unfold f_Steps_arithmetic_b115 at h
    have hkb := hkp
    refine lv_aload_n hx hb d_Steps_arithmetic_115 rfl (lv_at hl 0 rfl) ?_
    refine g_Steps_0 hx hb hts hown hK hP hwf hj0 (hts _ u_455) d_Steps_arithmetic_116 ?_
    obtain ⟨j27, e28, h⟩ := bd_ob h
    have hj27 : j27 < N 2 := (hwf.2.1 7 j0 0 _ e28 (by decide) hj0)
    refine me_opt (j := j27) e28 ?_
    refine g_Code_13 hx hb hts hown hK hP hwf hj27 (hts _ u_266) d_Steps_arithmetic_119 ?_
    have z29 := (hwf.2.2.2 2 j27 13 rfl)
    refine lv_if_ne (tgt := 136) hx hb d_Steps_arithmetic_122 (by decide) (fun c30 => ?_) (fun c30 => ?_)
    · have h := if_f c30 h
      refine lv_bipush (v := 11) hx hb d_Steps_arithmetic_136 (by decide) ?_
      exact me_reti (me_kp M0) h hx hb hr hlocks hwf hkp hP hK hD hS d_Steps_arithmetic_138
    have h := if_t c30 h
    refine lv_aload_n hx hb d_Steps_arithmetic_125 rfl (lv_at hl 0 rfl) ?_
    refine g_Steps_0 hx hb hts hown hK hP hwf hj0 (hts _ u_455) d_Steps_arithmetic_126 ?_
    refine me_opt (j := j27) e28 ?_
    refine g_Code_12 hx hb hts hown hK hP hwf hj27 (hts _ u_262) d_Steps_arithmetic_129 ?_
    refine lv_iconst (v := 1) hx hb d_Steps_arithmetic_132 (by decide) ?_
    refine lv_icmp_le (tgt := 139) hx hb d_Steps_arithmetic_133 (by decide) (fun c31 => ?_) (fun c31 => ?_)
    · have h := if_t c31 h
      refine lv_aload_n hx hb d_Steps_arithmetic_139 rfl (lv_at hl 1 rfl) ?_
      obtain ⟨M32, r33, eM32, h⟩ := b2_ob h
      refine me_theni0 (M1 := M32) (me_runV (C := "FilterGuard$Cell") (As := []) (rest := []) ⟨hx, hb, hml, hown, hts⟩ (c_Cell_isPointer l D ad ca N M M32 r33 y1 eM32 hwf hy1 _) rfl (by show fg_nm y_Cell_isPointer 0; decide +kernel) u_1242 u_1243 u_1244 u_188 u_1245 ⟨Nat.le_of_ble_eq_true rfl, Nat.le_of_ble_eq_true rfl⟩ hX hz hK hP hD hwf hS hA hy1 (by decide) rfl rfl rfl hl.1 (Nat.le_of_ble_eq_true rfl) d_Steps_arithmetic_140 ⟨Nat.le_of_ble_eq_true rfl, Nat.le_of_ble_eq_true rfl⟩) hP hD hK hS hA rfl rfl (fun H locs hw hP hD hS => ?_)
      obtain ⟨hwf, hk9, zr33⟩ := hw
      have hkp := hkp.tr hk9
      refine lv_if_eq (tgt := 164) hx hb d_Steps_arithmetic_143 (by decide) (fun c34 => ?_) (fun c34 => ?_)
      · have h := if_t c34 h
        exact b_164 M32 y1 y2 _ _ _ h hy1 hy2 hwf hkp hP hD hS (lv_sub hl [0, 1, 2] rfl)
      have h := if_f c34 h
      refine lv_aload_n hx hb d_Steps_arithmetic_146 rfl (lv_at hl 2 rfl) ?_
      refine g_Cell_0 hx hb hts hown hK hP hwf hy2 (hts _ u_422) d_Steps_arithmetic_147 ?_
      refine lv_iconst (v := 1) hx hb d_Steps_arithmetic_150 (by decide) ?_
      refine lv_icmp_ne (tgt := 164) hx hb d_Steps_arithmetic_151 (by decide) (fun c35 => ?_) (fun c35 => ?_)
      · have h := if_f c35 h
        exact b_164 M32 y1 y2 _ _ _ h hy1 hy2 hwf hkp hP hD hS (lv_sub hl [0, 1, 2] rfl)
      have h := if_t c35 h
      refine lv_aload_n hx hb d_Steps_arithmetic_154 rfl (lv_at hl 0 rfl) ?_
      refine lv_aload_n hx hb d_Steps_arithmetic_155 rfl (lv_at hl 1 rfl) ?_
      refine lv_aload_n hx hb d_Steps_arithmetic_156 rfl (lv_at hl 2 rfl) ?_
      refine g_Cell_6 hx hb hts hown hK hP hwf hy2 (hts _ u_437) d_Steps_arithmetic_157 ?_
      obtain ⟨j36, e37, h⟩ := bd_ob h
      have hj36 : j36 < N 11 := (hwf.2.1 10 y2 6 _ (kp_r hkb hkp e37) (by decide) hy2)
      refine me_opt (j := j36) (kp_r hkb hkp e37) ?_
      obtain ⟨M38, r39, eM38, h⟩ := b2_ob h
      refine me_theni0 (M1 := M38) (me_runV (C := "FilterGuard$Steps") (As := [.ref (ad 10 y1), .ref (ad 11 j36)]) (rest := []) ⟨hx, hb, hml, hown, hts⟩ (c_Steps_shift l D ad ca N M32 M38 r39 j0 y1 j36 eM38 hwf hj0 hy1 hj36 _) rfl (by show fg_nm y_Steps_shift 2; decide +kernel) u_1246 u_1248 u_27 u_185 u_1249 ⟨Nat.le_of_ble_eq_true rfl, Nat.le_of_ble_eq_true rfl⟩ hX hz hK hP hD hwf hS hA hj0 (by decide) rfl rfl rfl hl.1 (Nat.le_of_ble_eq_true rfl) d_Steps_arithmetic_160 ⟨Nat.le_of_ble_eq_true rfl, Nat.le_of_ble_eq_true rfl⟩) hP hD hK hS hA rfl rfl (fun H locs hw hP hD hS => ?_)
      obtain ⟨hwf, hk9⟩ := hw
      have hkp := hkp.tr hk9
      exact me_reti (me_kp M0) h hx hb hr hlocks hwf hkp hP hK hD hS d_Steps_arithmetic_163
    have h := if_f c31 h
    refine lv_bipush (v := 11) hx hb d_Steps_arithmetic_136 (by decide) ?_
    exact me_reti (me_kp M0) h hx hb hr hlocks hwf hkp hP hK hD hS d_Steps_arithmetic_138
  have b_75 : ∀ (M : me_M) (y1 : Nat) (y2 : Nat) (H : Heap) (locs : List Loc) (ls : Array Slot), f_Steps_arithmetic_b75 j0 M y1 y2 = (some (MZ, RZ)) → (y1 < N 10) → (y2 < N 10) → me_wf N M → me_kp M0 M → va_P D classes (me_W ad ca M) H → va_D A (me_W ad ca M) → va_S A s.heap H locs → lv_has ls 4 [(0, .ref (ad 7 j0)), (1, .ref (ad 10 y1)), (2, .ref (ad 10 y2))] → W p l e rm_Steps_arithmetic s m [.ref (ad 7 j0)].toArray below meth c H locs 0 0 (MQ below (q_Steps_arithmetic D ad ca N M0 MZ RZ A) [.ref (ad 7 j0)].toArray s rm_Steps_arithmetic.cells rm_Steps_arithmetic.slots A) (F0 m 75 ls []) := by
    intro M y1 y2 H locs ls h hy1 hy2 hwf hkp hP hD hS hl
    unfold f_Steps_arithmetic_b75 at h
    have hkb := hkp
    refine lv_aload_n hx hb d_Steps_arithmetic_75 rfl (lv_at hl 1 rfl) ?_
    refine lv_iconst (v := 1) hx hb d_Steps_arithmetic_76 (by decide) ?_
    obtain ⟨M40, eM40, h⟩ := st_ob h
    refine p_Cell_0 eM40 hx hb hts hown hK hP hD hwf hS hy1 (hts _ u_422) d_Steps_arithmetic_77 (fun H locs hP hD hwf hS => ?_)
    have hkp := kp_I eM40 hkp
    refine lv_aload_n hx hb d_Steps_arithmetic_80 rfl (lv_at hl 0 rfl) ?_
    refine g_Steps_2 hx hb hts hown hK hP hwf hj0 (hts _ u_457) d_Steps_arithmetic_81 ?_
    obtain ⟨j41, e42, h⟩ := bd_ob h
    have hj41 : j41 < N 8 := (hwf.2.1 7 j0 2 _ (kp_r hkb hkp e42) (by decide) hj0)
    refine me_opt (j := j41) (kp_r hkb hkp e42) ?_
    refine lv_aload_n hx hb d_Steps_arithmetic_84 rfl (lv_at hl 0 rfl) ?_
    refine g_Steps_0 hx hb hts hown hK hP hwf hj0 (hts _ u_455) d_Steps_arithmetic_85 ?_
    obtain ⟨j43, e44, h⟩ := bd_ob h
    have hj43 : j43 < N 2 := (hwf.2.1 7 j0 0 _ (kp_r hkb hkp e44) (by decide) hj0)
    refine me_opt (j := j43) (kp_r hkb hkp e44) ?_
    refine g_Code_12 hx hb hts hown hK hP hwf hj43 (hts _ u_262) d_Steps_arithmetic_88 ?_
    refine lv_aload_n hx hb d_Steps_arithmetic_91 rfl (lv_at hl 1 rfl) ?_
    refine g_Cell_6 hx hb hts hown hK hP hwf hy1 (hts _ u_437) d_Steps_arithmetic_92 ?_
    obtain ⟨j45, e46, h⟩ := bd_ob h
    have hj45 : j45 < N 11 := (hwf.2.1 10 y1 6 _ (kp_r hkb hkp e46) (by decide) hy1)
    refine me_opt (j := j45) (kp_r hkb hkp e46) ?_
    refine lv_aload_n hx hb d_Steps_arithmetic_95 rfl (lv_at hl 2 rfl) ?_
    refine g_Cell_6 hx hb hts hown hK hP hwf hy2 (hts _ u_437) d_Steps_arithmetic_96 ?_
    obtain ⟨j47, e48, h⟩ := bd_ob h
    have hj47 : j47 < N 11 := (hwf.2.1 10 y2 6 _ (kp_r hkb hkp e48) (by decide) hy2)
    refine me_opt (j := j47) (kp_r hkb hkp e48) ?_
    refine lv_aload_n hx hb d_Steps_arithmetic_99 rfl (lv_at hl 0 rfl) ?_
    refine g_Steps_0 hx hb hts hown hK hP hwf hj0 (hts _ u_455) d_Steps_arithmetic_100 ?_
    refine me_opt (j := j43) (kp_r hkb hkp e44) ?_
    refine g_Code_13 hx hb hts hown hK hP hwf hj43 (hts _ u_266) d_Steps_arithmetic_103 ?_
    have z49 := (hwf.2.2.2 2 j43 13 rfl)
    refine lv_aload_n hx hb d_Steps_arithmetic_106 rfl (lv_at hl 1 rfl) ?_
    refine g_Cell_6 hx hb hts hown hK hP hwf hy1 (hts _ u_437) d_Steps_arithmetic_107 ?_
    refine me_opt (j := j45) (kp_r hkb hkp e46) ?_
    obtain ⟨M50, eM50, h⟩ := bd_ob h
    refine me_thenv0 (M1 := M50) (me_runV (C := "FilterGuard$Reckoner") (As := [.int (mI M40 2 j43 12), .ref (ad 11 j45), .ref (ad 11 j47), .int (mI M40 2 j43 13), .ref (ad 11 j45)]) (rest := []) ⟨hx, hb, hml, hown, hts⟩ (c_Reckoner_operate l D ad ca N M40 M50 j41 (mI M40 2 j43 12) j45 j47 (mI M40 2 j43 13) j45 eM50 hwf hj41 hj45 hj47 z49 hj45 _) rfl (by show fg_nm y_Reckoner_operate 5; decide +kernel) u_1122 u_1123 u_1124 u_186 u_1125 ⟨Nat.le_of_ble_eq_true rfl, Nat.le_of_ble_eq_true rfl⟩ hX hz hK hP hD hwf hS hA hj41 (by decide) rfl rfl rfl hl.1 (Nat.le_of_ble_eq_true rfl) d_Steps_arithmetic_110 ⟨Nat.le_of_ble_eq_true rfl, Nat.le_of_ble_eq_true rfl⟩) hP hD hK hS hA rfl rfl (fun H locs hw hP hD hS => ?_)
    obtain ⟨hwf, hk9⟩ := hw
    have hkp := hkp.tr hk9
    refine lv_iconst (v := 0) hx hb d_Steps_arithmetic_113 (by decide) ?_
    exact me_reti (me_kp M0) h hx hb hr hlocks hwf hkp hP hK hD hS d_Steps_arithmetic_114
  have b_47 : ∀ (M : me_M) (y1 : Nat) (y2 : Nat) (H : Heap) (locs : List Loc) (ls : Array Slot), f_Steps_arithmetic_b47 j0 M y1 y2 = (some (MZ, RZ)) → (y1 < N 10) → (y2 < N 10) → me_wf N M → me_kp M0 M → va_P D classes (me_W ad ca M) H → va_D A (me_W ad ca M) → va_S A s.heap H locs → lv_has ls 4 [(0, .ref (ad 7 j0)), (1, .ref (ad 10 y1)), (2, .ref (ad 10 y2))] → W p l e rm_Steps_arithmetic s m [.ref (ad 7 j0)].toArray below meth c H locs 0 0 (MQ below (q_Steps_arithmetic D ad ca N M0 MZ RZ A) [.ref (ad 7 j0)].toArray s rm_Steps_arithmetic.cells rm_Steps_arithmetic.slots A) (F0 m 47 ls []) := by
    intro M y1 y2 H locs ls h hy1 hy2 hwf hkp hP hD hS hl
    unfold f_Steps_arithmetic_b47 at h
    have hkb := hkp
    refine lv_aload_n hx hb d_Steps_arithmetic_47 rfl (lv_at hl 2 rfl) ?_
    refine g_Cell_0 hx hb hts hown hK hP hwf hy2 (hts _ u_422) d_Steps_arithmetic_48 ?_
    refine lv_iconst (v := 1) hx hb d_Steps_arithmetic_51 (by decide) ?_
    refine lv_icmp_ne (tgt := 115) hx hb d_Steps_arithmetic_52 (by decide) (fun c51 => ?_) (fun c51 => ?_)
    · have h := if_f c51 h
      exact b_115 M y1 y2 _ _ _ h hy1 hy2 hwf hkp hP hD hS (lv_sub hl [0, 1, 2] rfl)
    have h := if_t c51 h
    refine lv_aload_n hx hb d_Steps_arithmetic_55 rfl (lv_at hl 1 rfl) ?_
    refine g_Cell_0 hx hb hts hown hK hP hwf hy1 (hts _ u_422) d_Steps_arithmetic_56 ?_
    refine lv_iconst (v := 1) hx hb d_Steps_arithmetic_59 (by decide) ?_
    refine lv_icmp_eq (tgt := 75) hx hb d_Steps_arithmetic_60 (by decide) (fun c52 => ?_) (fun c52 => ?_)
    · have h := if_t c52 h
      exact b_75 M y1 y2 _ _ _ h hy1 hy2 hwf hkp hP hD hS (lv_sub hl [0, 1, 2] rfl)
    have h := if_f c52 h
    refine lv_aload_n hx hb d_Steps_arithmetic_63 rfl (lv_at hl 0 rfl) ?_
    refine g_Steps_0 hx hb hts hown hK hP hwf hj0 (hts _ u_455) d_Steps_arithmetic_64 ?_
    obtain ⟨j53, e54, h⟩ := bd_ob h
    have hj53 : j53 < N 2 := (hwf.2.1 7 j0 0 _ e54 (by decide) hj0)
    refine me_opt (j := j53) e54 ?_
    refine g_Code_12 hx hb hts hown hK hP hwf hj53 (hts _ u_262) d_Steps_arithmetic_67 ?_
    refine lv_bipush (v := 12) hx hb d_Steps_arithmetic_70 (by decide) ?_
    refine lv_icmp_ne (tgt := 115) hx hb d_Steps_arithmetic_72 (by decide) (fun c55 => ?_) (fun c55 => ?_)
    · have h := if_f c55 h
      exact b_115 M y1 y2 _ _ _ h hy1 hy2 hwf hkp hP hD hS (lv_sub hl [0, 1, 2] rfl)
    have h := if_t c55 h
    exact b_75 M y1 y2 _ _ _ h hy1 hy2 hwf hkp hP hD hS (lv_sub hl [0, 1, 2] rfl)
  refine lv_aload_n hx hb d_Steps_arithmetic_0 rfl (lv_at hl 0 rfl) ?_
  refine g_Steps_5 hx hb hts hown hK hP hwf hj0 (hts _ u_460) d_Steps_arithmetic_1 ?_
  obtain ⟨j56, e57, h⟩ := bd_ob h
  have hj56 : j56 < N 18 := (hwf.2.1 7 j0 5 _ e57 (by decide) hj0)
  refine me_opt (j := j56) e57 ?_
  refine lv_aload_n hx hb d_Steps_arithmetic_4 rfl (lv_at hl 0 rfl) ?_
  refine g_Steps_0 hx hb hts hown hK hP hwf hj0 (hts _ u_455) d_Steps_arithmetic_5 ?_
  obtain ⟨j58, e59, h⟩ := bd_ob h
  have hj58 : j58 < N 2 := (hwf.2.1 7 j0 0 _ e59 (by decide) hj0)
  refine me_opt (j := j58) e59 ?_
  refine g_Code_6 hx hb hts hown hK hP hwf hj58 (hts _ u_232) d_Steps_arithmetic_8 ?_
  obtain ⟨g60, h⟩ := gd_ob h
  refine me_aald (k := 18) (t := 10) hx hb hK hP hwf hj56 (by decide) (by decide) rfl (fun _ => rfl) g60 d_Steps_arithmetic_11 ?_
  obtain ⟨j61, e62, h⟩ := bd_ob h
  have hj61 : j61 < N 10 := (hwf.2.1 18 j56 ((mI M0 2 j58 6).toNatClampNeg) _ e62 (by decide) hj56)
  refine me_opt (j := j61) e62 ?_
  refine lv_astore_n (lv' := [(1, .ref (ad 10 j61)), (0, .ref (ad 7 j0))]) hx hb d_Steps_arithmetic_12 rfl hl (by decide) rfl (fun ls hl => ?_)
  refine lv_aload_n hx hb d_Steps_arithmetic_13 rfl (lv_at hl 1 rfl) ?_
  obtain ⟨M63, r64, eM63, h⟩ := b2_ob h
  refine me_thenr0 (M1 := M63) (me_runV (C := "FilterGuard$Steps") (As := []) (rest := []) ⟨hx, hb, hml, hown, hts⟩ (c_Steps_operand l D ad ca N M0 M63 r64 j0 eM63 hwf hj0 _) rfl (by show fg_nm y_Steps_operand 0; decide +kernel) u_1113 u_1115 u_18 u_185 u_1116 ⟨Nat.le_of_ble_eq_true rfl, Nat.le_of_ble_eq_true rfl⟩ hX hz hK hP hD hwf hS hA hj0 (by decide) rfl rfl rfl hl.1 (Nat.le_of_ble_eq_true rfl) d_Steps_arithmetic_14 ⟨Nat.le_of_ble_eq_true rfl, Nat.le_of_ble_eq_true rfl⟩) hP hD hK hS hA rfl rfl (fun H locs hw hP hD hS => ?_)
  obtain ⟨hwf, hk9, hr64⟩ := hw
  have hkp := hkp.tr hk9
  refine lv_astore_n (lv' := [(2, .ref (ad 10 r64)), (1, .ref (ad 10 j61)), (0, .ref (ad 7 j0))]) hx hb d_Steps_arithmetic_17 rfl hl (by decide) rfl (fun ls hl => ?_)
  refine lv_aload_n hx hb d_Steps_arithmetic_18 rfl (lv_at hl 2 rfl) ?_
  refine g_Steps_0 hx hb hts hown hK hP hwf hj0 (hts _ u_455) d_Steps_arithmetic_19 ?_
  refine me_opt (j := j58) (kp_r hkb hkp e59) ?_
  refine g_Code_12 hx hb hts hown hK hP hwf hj58 (hts _ u_262) d_Steps_arithmetic_22 ?_
  refine lv_bipush (v := 12) hx hb d_Steps_arithmetic_25 (by decide) ?_
  refine lv_icmp_ne (tgt := 47) hx hb d_Steps_arithmetic_27 (by decide) (fun c65 => ?_) (fun c65 => ?_)
  · have h := if_f c65 h
    exact b_47 M63 j61 r64 _ _ _ h hj61 hr64 hwf hkp hP hD hS (lv_sub hl [2, 1, 0] rfl)
  have h := if_t c65 h
  refine lv_aload_n hx hb d_Steps_arithmetic_30 rfl (lv_at hl 2 rfl) ?_
  refine g_Steps_0 hx hb hts hown hK hP hwf hj0 (hts _ u_455) d_Steps_arithmetic_31 ?_
  refine me_opt (j := j58) (kp_r hkb hkp e59) ?_
  refine g_Code_13 hx hb hts hown hK hP hwf hj58 (hts _ u_266) d_Steps_arithmetic_34 ?_
  have z66 := (hwf.2.2.2 2 j58 13 rfl)
  refine lv_if_ne (tgt := 47) hx hb d_Steps_arithmetic_37 (by decide) (fun c67 => ?_) (fun c67 => ?_)
  · have h := if_f c67 h
    exact b_47 M63 j61 r64 _ _ _ h hj61 hr64 hwf hkp hP hD hS (lv_sub hl [2, 1, 0] rfl)
  have h := if_t c67 h
  refine lv_aload_n hx hb d_Steps_arithmetic_40 rfl (lv_at hl 1 rfl) ?_
  refine lv_aload_n hx hb d_Steps_arithmetic_41 rfl (lv_at hl 0 rfl) ?_
  obtain ⟨M68, eM68, h⟩ := bd_ob h
  refine me_thenv0 (M1 := M68) (me_runV (C := "FilterGuard$Cell") (As := [.ref (ad 10 r64)]) (rest := []) ⟨hx, hb, hml, hown, hts⟩ (c_Cell_copy l D ad ca N M63 M68 j61 r64 eM68 hwf hj61 hr64 _) rfl (by show fg_nm y_Cell_copy 1; decide +kernel) u_1121 u_1079 u_1080 u_188 u_1081 ⟨Nat.le_of_ble_eq_true rfl, Nat.le_of_ble_eq_true rfl⟩ hX hz hK hP hD hwf hS hA hj61 (by decide) rfl rfl rfl hl.1 (Nat.le_of_ble_eq_true rfl) d_Steps_arithmetic_42 ⟨Nat.le_of_ble_eq_true rfl, Nat.le_of_ble_eq_true rfl⟩) hP hD hK hS hA rfl rfl (fun H locs hw hP hD hS => ?_)
  obtain ⟨hwf, hk9⟩ := hw
  have hkp := hkp.tr hk9
  refine lv_iconst (v := 0) hx hb d_Steps_arithmetic_45 (by decide) ?_
  exact me_reti (me_kp M0) h hx hb hr hlocks hwf hkp hP hK hD hS d_Steps_arithmetic_46
theorem d_Reckoner_same_0 : decode prog_9_method_21_code 0 = .ok (.aload_n 1, 1) := by decide +kernel
theorem d_Reckoner_same_1 : decode prog_9_method_21_code 1 = .ok (.getfield 49, 3) := by decide +kernel
theorem d_Reckoner_same_4 : decode prog_9_method_21_code 4 = .ok (.aload_n 2, 1) := by decide +kernel
theorem d_Reckoner_same_5 : decode prog_9_method_21_code 5 = .ok (.getfield 49, 3) := by decide +kernel
theorem d_Reckoner_same_8 : decode prog_9_method_21_code 8 = .ok (.lxor, 1) := by decide +kernel
theorem d_Reckoner_same_9 : decode prog_9_method_21_code 9 = .ok (.aload_n 1, 1) := by decide +kernel
theorem d_Reckoner_same_10 : decode prog_9_method_21_code 10 = .ok (.getfield 87, 3) := by decide +kernel
theorem d_Reckoner_same_13 : decode prog_9_method_21_code 13 = .ok (.ldc2_w 90, 3) := by decide +kernel
theorem d_Reckoner_same_16 : decode prog_9_method_21_code 16 = .ok (.lxor, 1) := by decide +kernel
theorem d_Reckoner_same_17 : decode prog_9_method_21_code 17 = .ok (.land, 1) := by decide +kernel
theorem d_Reckoner_same_18 : decode prog_9_method_21_code 18 = .ok (.aload_n 2, 1) := by decide +kernel
theorem d_Reckoner_same_19 : decode prog_9_method_21_code 19 = .ok (.getfield 87, 3) := by decide +kernel
theorem d_Reckoner_same_22 : decode prog_9_method_21_code 22 = .ok (.ldc2_w 90, 3) := by decide +kernel
theorem d_Reckoner_same_25 : decode prog_9_method_21_code 25 = .ok (.lxor, 1) := by decide +kernel
theorem d_Reckoner_same_26 : decode prog_9_method_21_code 26 = .ok (.land, 1) := by decide +kernel
theorem d_Reckoner_same_27 : decode prog_9_method_21_code 27 = .ok (.lconst 0, 1) := by decide +kernel
theorem d_Reckoner_same_28 : decode prog_9_method_21_code 28 = .ok (.lcmp, 1) := by decide +kernel
theorem d_Reckoner_same_29 : decode prog_9_method_21_code 29 = .ok (.ifCond .eq 5, 3) := by decide +kernel
theorem d_Reckoner_same_34 : decode prog_9_method_21_code 34 = .ok (.aload_n 1, 1) := by decide +kernel
theorem d_Reckoner_same_35 : decode prog_9_method_21_code 35 = .ok (.aload_n 1, 1) := by decide +kernel
theorem d_Reckoner_same_36 : decode prog_9_method_21_code 36 = .ok (.getfield 49, 3) := by decide +kernel
theorem d_Reckoner_same_39 : decode prog_9_method_21_code 39 = .ok (.aload_n 2, 1) := by decide +kernel
theorem d_Reckoner_same_40 : decode prog_9_method_21_code 40 = .ok (.getfield 49, 3) := by decide +kernel
theorem d_Reckoner_same_43 : decode prog_9_method_21_code 43 = .ok (.lor, 1) := by decide +kernel
theorem d_Reckoner_same_44 : decode prog_9_method_21_code 44 = .ok (.aload_n 1, 1) := by decide +kernel
theorem d_Reckoner_same_45 : decode prog_9_method_21_code 45 = .ok (.getfield 87, 3) := by decide +kernel
theorem d_Reckoner_same_48 : decode prog_9_method_21_code 48 = .ok (.aload_n 2, 1) := by decide +kernel
theorem d_Reckoner_same_49 : decode prog_9_method_21_code 49 = .ok (.getfield 87, 3) := by decide +kernel
theorem d_Reckoner_same_52 : decode prog_9_method_21_code 52 = .ok (.land, 1) := by decide +kernel
theorem d_Reckoner_same_53 : decode prog_9_method_21_code 53 = .ok (.invokevirtual 92, 3) := by decide +kernel
theorem d_Reckoner_same_56 : decode prog_9_method_21_code 56 = .ok (.aload_n 1, 1) := by decide +kernel
theorem d_Reckoner_same_57 : decode prog_9_method_21_code 57 = .ok (.aload_n 2, 1) := by decide +kernel
theorem d_Reckoner_same_58 : decode prog_9_method_21_code 58 = .ok (.getfield 96, 3) := by decide +kernel
theorem d_Reckoner_same_61 : decode prog_9_method_21_code 61 = .ok (.invokevirtual 99, 3) := by decide +kernel
theorem d_Reckoner_same_64 : decode prog_9_method_21_code 64 = .ok (.aload_n 1, 1) := by decide +kernel
theorem d_Reckoner_same_65 : decode prog_9_method_21_code 65 = .ok (.aload_n 2, 1) := by decide +kernel
theorem d_Reckoner_same_66 : decode prog_9_method_21_code 66 = .ok (.getfield 122, 3) := by decide +kernel
theorem d_Reckoner_same_69 : decode prog_9_method_21_code 69 = .ok (.invokevirtual 146, 3) := by decide +kernel
theorem d_Reckoner_same_72 : decode prog_9_method_21_code 72 = .ok (.aload_n 1, 1) := by decide +kernel
theorem d_Reckoner_same_73 : decode prog_9_method_21_code 73 = .ok (.aload_n 1, 1) := by decide +kernel
theorem d_Reckoner_same_74 : decode prog_9_method_21_code 74 = .ok (.getfield 128, 3) := by decide +kernel
theorem d_Reckoner_same_77 : decode prog_9_method_21_code 77 = .ok (.aload_n 2, 1) := by decide +kernel
theorem d_Reckoner_same_78 : decode prog_9_method_21_code 78 = .ok (.getfield 128, 3) := by decide +kernel
theorem d_Reckoner_same_81 : decode prog_9_method_21_code 81 = .ok (.invokestatic 184, 3) := by decide +kernel
theorem u_1287 : Cond.methodLink "FilterGuard$Reckoner" 184 ⟨"java/lang/Math", "max", "(JJ)J"⟩ ∈ fg_g := fg_in (List.mem_of_getElem? (i := 1287) (by decide +kernel)) rfl
theorem d_Reckoner_same_84 : decode prog_9_method_21_code 84 = .ok (.putfield 128, 3) := by decide +kernel
theorem d_Reckoner_same_87 : decode prog_9_method_21_code 87 = .ok (.aload_n 1, 1) := by decide +kernel
theorem d_Reckoner_same_88 : decode prog_9_method_21_code 88 = .ok (.aload_n 1, 1) := by decide +kernel
theorem d_Reckoner_same_89 : decode prog_9_method_21_code 89 = .ok (.getfield 131, 3) := by decide +kernel
theorem d_Reckoner_same_92 : decode prog_9_method_21_code 92 = .ok (.aload_n 2, 1) := by decide +kernel
theorem d_Reckoner_same_93 : decode prog_9_method_21_code 93 = .ok (.getfield 131, 3) := by decide +kernel
theorem d_Reckoner_same_96 : decode prog_9_method_21_code 96 = .ok (.invokestatic 189, 3) := by decide +kernel
theorem u_1288 : Cond.methodLink "FilterGuard$Reckoner" 189 ⟨"java/lang/Math", "min", "(JJ)J"⟩ ∈ fg_g := fg_in (List.mem_of_getElem? (i := 1288) (by decide +kernel)) rfl
theorem d_Reckoner_same_99 : decode prog_9_method_21_code 99 = .ok (.putfield 131, 3) := by decide +kernel
theorem d_Reckoner_same_102 : decode prog_9_method_21_code 102 = .ok (.aload_n 2, 1) := by decide +kernel
theorem d_Reckoner_same_103 : decode prog_9_method_21_code 103 = .ok (.aload_n 1, 1) := by decide +kernel
theorem d_Reckoner_same_104 : decode prog_9_method_21_code 104 = .ok (.invokevirtual 38, 3) := by decide +kernel
theorem d_Reckoner_same_107 : decode prog_9_method_21_code 107 = .ok (.iconst 1, 1) := by decide +kernel
theorem d_Reckoner_same_108 : decode prog_9_method_21_code 108 = .ok (.ireturn, 1) := by decide +kernel
theorem d_Reckoner_same_32 : decode prog_9_method_21_code 32 = .ok (.iconst 0, 1) := by decide +kernel
theorem d_Reckoner_same_33 : decode prog_9_method_21_code 33 = .ok (.ireturn, 1) := by decide +kernel
abbrev y_Reckoner_same : MethodName := ⟨"FilterGuard$Reckoner", "same", "(LFilterGuard$Num;LFilterGuard$Num;)Z"⟩
def rm_Reckoner_same : Room := { frames := 2, cells := 0, slots := 0, locals := 60 }
abbrev q_Reckoner_same (D : va_G) (ad : Nat → Nat → Nat) (ca : Nat → ClassId) (N : Nat → Nat) (M0 MZ : me_M) (RZ : Int32) (A : Nat → Prop) : Array Value → Jvm.State → Outcome → Jvm.State → Prop := va_Qi (fun r (_ : Unit) => r = RZ ∧ me_wf N MZ ∧ me_kp M0 MZ ∧ (RZ = 1 ∨ RZ = 0)) (fg_B D A (fun _ => me_W ad ca MZ) (fun _ => [])) A
set_option maxHeartbeats 4000000 in
set_option maxRecDepth 100000 in
theorem c_Reckoner_same (l : Launch) (D : va_G) (ad : Nat → Nat → Nat) (ca : Nat → ClassId) (N : Nat → Nat) (M0 MZ : me_M) (RZ : Int32) (j0 : Nat) (j1 : Nat) (j2 : Nat) (h : f_Reckoner_same M0 j0 j1 j2 = (some (MZ, RZ))) (hwf : me_wf N M0) (hj0 : j0 < N 8) (hj1 : j1 < N 11) (hj2 : j2 < N 11) (sz : Nat) : Met l y_Reckoner_same (fg_w y_Reckoner_same prog_9_method_21_code 3 (some .boolean)) rm_Reckoner_same (va_Pc [.ref (ad 8 j0), .ref (ad 11 j1), .ref (ad 11 j2)] (fz_P D (me_T ca) (me_W ad ca M0) sz)) (q_Reckoner_same D ad ca N M0 MZ RZ (va_A (me_W ad ca M0) sz)) rm_Reckoner_same.cells rm_Reckoner_same.slots (va_A (me_W ad ca M0) sz) := by
  refine fz_enter (fun A => q_Reckoner_same D ad ca N M0 MZ RZ A) (by decide +kernel) (Nat.le_of_ble_eq_true rfl) ?_
  intro p e s m below meth c ls A hx hb hml hown hts hr hlocks hin hP hK hD hS hA hX hl hz
  have hl : lv_has ls 3 [(0, .ref (ad 8 j0)), (1, .ref (ad 11 j1)), (2, .ref (ad 11 j2))] := hl
  unfold f_Reckoner_same at h
  have hkp : me_kp M0 M0 := me_kp.rf
  have hkb := hkp
  refine lv_aload_n hx hb d_Reckoner_same_0 rfl (lv_at hl 1 rfl) ?_
  refine g_Num_0 hx hb hts hown hK hP hwf hj1 (hts _ u_368) d_Reckoner_same_1 ?_
  refine lv_aload_n hx hb d_Reckoner_same_4 rfl (lv_at hl 2 rfl) ?_
  refine g_Num_0 hx hb hts hown hK hP hwf hj2 (hts _ u_368) d_Reckoner_same_5 ?_
  refine lv_lxor hx hb d_Reckoner_same_8 ?_
  refine lv_aload_n hx hb d_Reckoner_same_9 rfl (lv_at hl 1 rfl) ?_
  refine g_Num_1 hx hb hts hown hK hP hwf hj1 (hts _ u_372) d_Reckoner_same_10 ?_
  refine lv_ldc2 hx hb hown (hts _ u_1139) d_Reckoner_same_13 ?_
  refine lv_lxor hx hb d_Reckoner_same_16 ?_
  refine lv_land hx hb d_Reckoner_same_17 ?_
  refine lv_aload_n hx hb d_Reckoner_same_18 rfl (lv_at hl 2 rfl) ?_
  refine g_Num_1 hx hb hts hown hK hP hwf hj2 (hts _ u_372) d_Reckoner_same_19 ?_
  refine lv_ldc2 hx hb hown (hts _ u_1139) d_Reckoner_same_22 ?_
  refine lv_lxor hx hb d_Reckoner_same_25 ?_
  refine lv_land hx hb d_Reckoner_same_26 ?_
  obtain ⟨v1, ev1, h⟩ := st_ob h
  refine fg_topl (y := v1) ev1.symm ?_
  refine lv_lconst (v := 0) hx hb d_Reckoner_same_27 (by decide) ?_
  refine W.lcmp hx hb d_Reckoner_same_28 ?_
  refine lv_if_eq (tgt := 34) hx hb d_Reckoner_same_29 (by decide) (fun c2 => ?_) (fun c2 => ?_)
  · have h := if_t ((lg_cmp_eq _ _).mp c2) h
    refine lv_aload_n hx hb d_Reckoner_same_34 rfl (lv_at hl 1 rfl) ?_
    refine lv_aload_n hx hb d_Reckoner_same_35 rfl (lv_at hl 1 rfl) ?_
    refine g_Num_0 hx hb hts hown hK hP hwf hj1 (hts _ u_368) d_Reckoner_same_36 ?_
    refine lv_aload_n hx hb d_Reckoner_same_39 rfl (lv_at hl 2 rfl) ?_
    refine g_Num_0 hx hb hts hown hK hP hwf hj2 (hts _ u_368) d_Reckoner_same_40 ?_
    refine lv_lor hx hb d_Reckoner_same_43 ?_
    refine lv_aload_n hx hb d_Reckoner_same_44 rfl (lv_at hl 1 rfl) ?_
    refine g_Num_1 hx hb hts hown hK hP hwf hj1 (hts _ u_372) d_Reckoner_same_45 ?_
    refine lv_aload_n hx hb d_Reckoner_same_48 rfl (lv_at hl 2 rfl) ?_
    refine g_Num_1 hx hb hts hown hK hP hwf hj2 (hts _ u_372) d_Reckoner_same_49 ?_
    refine lv_land hx hb d_Reckoner_same_52 ?_
    obtain ⟨M3, eM3, h⟩ := bd_ob h
    refine me_thenv0 (M1 := M3) (me_runV (C := "FilterGuard$Num") (As := [.long ((mL M0 11 j1 0) ||| (mL M0 11 j2 0)), .long ((mL M0 11 j1 1) &&& (mL M0 11 j2 1))]) (rest := []) ⟨hx, hb, hml, hown, hts⟩ (c_Num_bits l D ad ca N M0 M3 j1 ((mL M0 11 j1 0) ||| (mL M0 11 j2 0)) ((mL M0 11 j1 1) &&& (mL M0 11 j2 1)) eM3 hwf hj1 _) rfl (by show fg_nm y_Num_bits 2; decide +kernel) u_1140 u_1141 u_1142 u_187 u_1143 ⟨Nat.le_of_ble_eq_true rfl, Nat.le_of_ble_eq_true rfl⟩ hX hz hK hP hD hwf hS hA hj1 (by decide) rfl rfl rfl hl.1 (Nat.le_of_ble_eq_true rfl) d_Reckoner_same_53 ⟨Nat.le_of_ble_eq_true rfl, Nat.le_of_ble_eq_true rfl⟩) hP hD hK hS hA rfl rfl (fun H locs hw hP hD hS => ?_)
    obtain ⟨hwf, hk9⟩ := hw
    have hkp := hkp.tr hk9
    refine lv_aload_n hx hb d_Reckoner_same_56 rfl (lv_at hl 1 rfl) ?_
    refine lv_aload_n hx hb d_Reckoner_same_57 rfl (lv_at hl 2 rfl) ?_
    refine g_Num_2 hx hb hts hown hK hP hwf hj2 (hts _ u_374) d_Reckoner_same_58 ?_
    obtain ⟨M4, eM4, h⟩ := bd_ob h
    refine me_thenv0 (M1 := M4) (me_runV (C := "FilterGuard$Num") (As := [.long (mL M3 11 j2 2)]) (rest := []) ⟨hx, hb, hml, hown, hts⟩ (c_Num_raiseLeast l D ad ca N M3 M4 j1 (mL M3 11 j2 2) eM4 hwf hj1 _) rfl (by show fg_nm y_Num_raiseLeast 1; decide +kernel) u_1198 u_1199 u_1200 u_187 u_1201 ⟨Nat.le_of_ble_eq_true rfl, Nat.le_of_ble_eq_true rfl⟩ hX hz hK hP hD hwf hS hA hj1 (by decide) rfl rfl rfl hl.1 (Nat.le_of_ble_eq_true rfl) d_Reckoner_same_61 ⟨Nat.le_of_ble_eq_true rfl, Nat.le_of_ble_eq_true rfl⟩) hP hD hK hS hA rfl rfl (fun H locs hw hP hD hS => ?_)
    obtain ⟨hwf, hk9⟩ := hw
    have hkp := hkp.tr hk9
    refine lv_aload_n hx hb d_Reckoner_same_64 rfl (lv_at hl 1 rfl) ?_
    refine lv_aload_n hx hb d_Reckoner_same_65 rfl (lv_at hl 2 rfl) ?_
    refine g_Num_3 hx hb hts hown hK hP hwf hj2 (hts _ u_377) d_Reckoner_same_66 ?_
    obtain ⟨M5, eM5, h⟩ := bd_ob h
    refine me_thenv0 (M1 := M5) (me_runV (C := "FilterGuard$Num") (As := [.long (mL M4 11 j2 3)]) (rest := []) ⟨hx, hb, hml, hown, hts⟩ (c_Num_lowerGreatest l D ad ca N M4 M5 j1 (mL M4 11 j2 3) eM5 hwf hj1 _) rfl (by show fg_nm y_Num_lowerGreatest 1; decide +kernel) u_1194 u_1195 u_1196 u_187 u_1197 ⟨Nat.le_of_ble_eq_true rfl, Nat.le_of_ble_eq_true rfl⟩ hX hz hK hP hD hwf hS hA hj1 (by decide) rfl rfl rfl hl.1 (Nat.le_of_ble_eq_true rfl) d_Reckoner_same_69 ⟨Nat.le_of_ble_eq_true rfl, Nat.le_of_ble_eq_true rfl⟩) hP hD hK hS hA rfl rfl (fun H locs hw hP hD hS => ?_)
    obtain ⟨hwf, hk9⟩ := hw
    have hkp := hkp.tr hk9
    refine lv_aload_n hx hb d_Reckoner_same_72 rfl (lv_at hl 1 rfl) ?_
    refine lv_aload_n hx hb d_Reckoner_same_73 rfl (lv_at hl 1 rfl) ?_
    refine g_Num_4 hx hb hts hown hK hP hwf hj1 (hts _ u_380) d_Reckoner_same_74 ?_
    refine lv_aload_n hx hb d_Reckoner_same_77 rfl (lv_at hl 2 rfl) ?_
    refine g_Num_4 hx hb hts hown hK hP hwf hj2 (hts _ u_380) d_Reckoner_same_78 ?_
    refine va_mmax_long hx hb (hml.trans hl.1.symm) hown (hts _ u_1287) (hts _ u_1228) (hts _ u_193) (hts _ u_1229) (Nat.le_of_ble_eq_true rfl) (Nat.le_of_ble_eq_true rfl) (Nat.le_of_ble_eq_true rfl) (Nat.le_of_ble_eq_true rfl) d_Reckoner_same_81 ?_
    refine fg_topl (y := jlmax (mL M5 11 j1 4) (mL M5 11 j2 4)) rfl ?_
    obtain ⟨M6, eM6, h⟩ := st_ob h
    refine p_Num_4 eM6 hx hb hts hown hK hP hD hwf hS hj1 (hts _ u_380) d_Reckoner_same_84 (fun H locs hP hD hwf hS => ?_)
    have hkp := kp_L eM6 hkp
    refine lv_aload_n hx hb d_Reckoner_same_87 rfl (lv_at hl 1 rfl) ?_
    refine lv_aload_n hx hb d_Reckoner_same_88 rfl (lv_at hl 1 rfl) ?_
    refine g_Num_5 hx hb hts hown hK hP hwf hj1 (hts _ u_382) d_Reckoner_same_89 ?_
    refine lv_aload_n hx hb d_Reckoner_same_92 rfl (lv_at hl 2 rfl) ?_
    refine g_Num_5 hx hb hts hown hK hP hwf hj2 (hts _ u_382) d_Reckoner_same_93 ?_
    refine va_mmin_long hx hb (hml.trans hl.1.symm) hown (hts _ u_1288) (hts _ u_1231) (hts _ u_193) (hts _ u_1232) (Nat.le_of_ble_eq_true rfl) (Nat.le_of_ble_eq_true rfl) (Nat.le_of_ble_eq_true rfl) (Nat.le_of_ble_eq_true rfl) d_Reckoner_same_96 ?_
    refine fg_topl (y := jlmin (mL M6 11 j1 5) (mL M6 11 j2 5)) rfl ?_
    obtain ⟨M7, eM7, h⟩ := st_ob h
    refine p_Num_5 eM7 hx hb hts hown hK hP hD hwf hS hj1 (hts _ u_382) d_Reckoner_same_99 (fun H locs hP hD hwf hS => ?_)
    have hkp := kp_L eM7 hkp
    refine lv_aload_n hx hb d_Reckoner_same_102 rfl (lv_at hl 2 rfl) ?_
    refine lv_aload_n hx hb d_Reckoner_same_103 rfl (lv_at hl 1 rfl) ?_
    obtain ⟨M8, eM8, h⟩ := bd_ob h
    refine me_thenv0 (M1 := M8) (me_runV (C := "FilterGuard$Num") (As := [.ref (ad 11 j1)]) (rest := []) ⟨hx, hb, hml, hown, hts⟩ (c_Num_copy l D ad ca N M7 M8 j2 j1 eM8 hwf hj2 hj1 _) rfl (by show fg_nm y_Num_copy 1; decide +kernel) u_1189 u_1083 u_1084 u_187 u_1085 ⟨Nat.le_of_ble_eq_true rfl, Nat.le_of_ble_eq_true rfl⟩ hX hz hK hP hD hwf hS hA hj2 (by decide) rfl rfl rfl hl.1 (Nat.le_of_ble_eq_true rfl) d_Reckoner_same_104 ⟨Nat.le_of_ble_eq_true rfl, Nat.le_of_ble_eq_true rfl⟩) hP hD hK hS hA rfl rfl (fun H locs hw hP hD hS => ?_)
    obtain ⟨hwf, hk9⟩ := hw
    have hkp := hkp.tr hk9
    refine lv_iconst (v := 1) hx hb d_Reckoner_same_107 (by decide) ?_
    exact me_retz (me_kp M0) h (by decide) hx hb hr hlocks hwf hkp hP hK hD hS d_Reckoner_same_108
  have h := if_f (fun z => c2 ((lg_cmp_eq _ _).mpr z)) h
  refine lv_iconst (v := 0) hx hb d_Reckoner_same_32 (by decide) ?_
  exact me_retz (me_kp M0) h (by decide) hx hb hr hlocks hwf hkp hP hK hD hS d_Reckoner_same_33
