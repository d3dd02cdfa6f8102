theorem d_Facts_part_0 : decode prog_6_method_4_code 0 = .ok (.aload_n 0, 1) := by decide +kernel
theorem d_Facts_part_1 : decode prog_6_method_4_code 1 = .ok (.getfield 15, 3) := by decide +kernel
theorem d_Facts_part_4 : decode prog_6_method_4_code 4 = .ok (.iload_n 1, 1) := by decide +kernel
theorem d_Facts_part_5 : decode prog_6_method_4_code 5 = .ok (.dup2, 1) := by decide +kernel
theorem d_Facts_part_6 : decode prog_6_method_4_code 6 = .ok (.baload, 1) := by decide +kernel
theorem d_Facts_part_7 : decode prog_6_method_4_code 7 = .ok (.iload_n 2, 1) := by decide +kernel
theorem d_Facts_part_8 : decode prog_6_method_4_code 8 = .ok (.ior, 1) := by decide +kernel
theorem d_Facts_part_9 : decode prog_6_method_4_code 9 = .ok (.bastore, 1) := by decide +kernel
theorem d_Facts_part_10 : decode prog_6_method_4_code 10 = .ok (.aload_n 0, 1) := by decide +kernel
theorem d_Facts_part_11 : decode prog_6_method_4_code 11 = .ok (.getfield 19, 3) := by decide +kernel
theorem d_Facts_part_14 : decode prog_6_method_4_code 14 = .ok (.iload_n 1, 1) := by decide +kernel
theorem d_Facts_part_15 : decode prog_6_method_4_code 15 = .ok (.dup2, 1) := by decide +kernel
theorem d_Facts_part_16 : decode prog_6_method_4_code 16 = .ok (.baload, 1) := by decide +kernel
theorem d_Facts_part_17 : decode prog_6_method_4_code 17 = .ok (.iload_n 3, 1) := by decide +kernel
theorem d_Facts_part_18 : decode prog_6_method_4_code 18 = .ok (.ior, 1) := by decide +kernel
theorem d_Facts_part_19 : decode prog_6_method_4_code 19 = .ok (.bastore, 1) := by decide +kernel
theorem d_Facts_part_20 : decode prog_6_method_4_code 20 = .ok (.return_, 1) := by decide +kernel
abbrev y_Facts_part : MethodName := ⟨"FilterGuard$Facts", "part", "(IZZ)V"⟩
def rm_Facts_part : Room := { frames := 1, cells := 0, slots := 0, locals := 20 }
abbrev q_Facts_part (D : va_G) (ad : Nat → Nat → Nat) (ca : Nat → ClassId) (N : Nat → Nat) (M0 MZ : me_M) (A : Nat → Prop) : Array Value → Jvm.State → Outcome → Jvm.State → Prop := va_Qv (fun (_ : Unit) => me_wf N MZ ∧ me_kp M0 MZ) (fg_B D A (fun _ => me_W ad ca MZ) (fun _ => [])) A
set_option maxHeartbeats 4000000 in
set_option maxRecDepth 100000 in
theorem c_Facts_part (l : Launch) (D : va_G) (ad : Nat → Nat → Nat) (ca : Nat → ClassId) (N : Nat → Nat) (M0 MZ : me_M) (j0 : Nat) (x1 : Int32) (x2 : Int32) (x3 : Int32) (h : f_Facts_part M0 j0 x1 x2 x3 = (some MZ)) (hwf : me_wf N M0) (hj0 : j0 < N 3) (zx2 : x2 = 1 ∨ x2 = 0) (zx3 : x3 = 1 ∨ x3 = 0) (sz : Nat) : Met l y_Facts_part (fg_w y_Facts_part prog_6_method_4_code 4 none) rm_Facts_part (va_Pc [.ref (ad 3 j0), .int x1, .int x2, .int x3] (fz_P D (me_T ca) (me_W ad ca M0) sz)) (q_Facts_part D ad ca N M0 MZ (va_A (me_W ad ca M0) sz)) rm_Facts_part.cells rm_Facts_part.slots (va_A (me_W ad ca M0) sz) := by
  refine fz_enter (fun A => q_Facts_part D ad ca N M0 MZ A) (by decide +kernel) (Nat.le_of_ble_eq_true rfl) ?_
  intro p e s m below meth c ls A hx hb hml hown hts hr hlocks hin hP hK hD hS hA hX hl hz
  have hl : lv_has ls 4 [(0, .ref (ad 3 j0)), (1, .int x1), (2, .int x2), (3, .int x3)] := hl
  unfold f_Facts_part at h
  have hkp : me_kp M0 M0 := me_kp.rf
  have hkb := hkp
  refine lv_aload_n hx hb d_Facts_part_0 rfl (lv_at hl 0 rfl) ?_
  refine g_Facts_1 hx hb hts hown hK hP hwf hj0 (hts _ u_319) d_Facts_part_1 ?_
  obtain ⟨j1, e2, h⟩ := bd_ob h
  have hj1 : j1 < N 15 := (hwf.2.1 3 j0 1 _ e2 (by decide) hj0)
  refine me_opt (j := j1) e2 ?_
  refine lv_iload_n hx hb d_Facts_part_4 rfl (lv_at hl 1 rfl) ?_
  refine lv_dup2_11 hx hb d_Facts_part_5 rfl rfl ?_
  obtain ⟨g3, h⟩ := gd_ob h
  refine me_zald hx hb hK hP hwf hj1 g3 d_Facts_part_6 ?_
  have z4 := hwf.2.2.2 15 j1 x1.toNatClampNeg rfl
  refine lv_iload_n hx hb d_Facts_part_7 rfl (lv_at hl 2 rfl) ?_
  refine lv_ior hx hb d_Facts_part_8 ?_
  obtain ⟨M5, eM5, h⟩ := st_ob h
  refine me_zast eM5 hx hb hK hP hD hwf hS hj1 g3 d_Facts_part_9 (fun H locs hP hD hwf hS => ?_)
  have hkp := kp_I eM5 hkp
  refine lv_aload_n hx hb d_Facts_part_10 rfl (lv_at hl 0 rfl) ?_
  refine g_Facts_2 hx hb hts hown hK hP hwf hj0 (hts _ u_320) d_Facts_part_11 ?_
  obtain ⟨j6, e7, h⟩ := bd_ob h
  have hj6 : j6 < N 15 := (hwf.2.1 3 j0 2 _ (kp_r hkb hkp e7) (by decide) hj0)
  refine me_opt (j := j6) (kp_r hkb hkp e7) ?_
  refine lv_iload_n hx hb d_Facts_part_14 rfl (lv_at hl 1 rfl) ?_
  refine lv_dup2_11 hx hb d_Facts_part_15 rfl rfl ?_
  obtain ⟨g8, h⟩ := gd_ob h
  refine me_zald hx hb hK hP hwf hj6 (kp_z hkb.z hkp.z g8) d_Facts_part_16 ?_
  have z9 := hwf.2.2.2 15 j6 x1.toNatClampNeg rfl
  refine lv_iload_n hx hb d_Facts_part_17 rfl (lv_at hl 3 rfl) ?_
  refine lv_ior hx hb d_Facts_part_18 ?_
  obtain ⟨M10, eM10, h⟩ := st_ob h
  refine me_zast eM10 hx hb hK hP hD hwf hS hj6 (kp_z hkb.z hkp.z g8) d_Facts_part_19 (fun H locs hP hD hwf hS => ?_)
  have hkp := kp_I eM10 hkp
  exact me_retv (me_kp M0) h hx hb hr hlocks hwf hkp hP hK hD hS d_Facts_part_20
theorem d_Steps_tellWay_211 : decode prog_11_method_12_code 211 = .ok (.aload_n 0, 1) := by decide +kernel
theorem d_Steps_tellWay_212 : decode prog_11_method_12_code 212 = .ok (.getfield 206, 3) := by decide +kernel
theorem g_Steps_10 {p : Program} {l : Launch} {e : Env} {R : Room} {s : Jvm.State} {m : MethodId} {args : Array Value} {below : List Frame} {meth : Method} {c : Code} {H : Heap} {locs : List Loc} {cells slots : Nat} {Q : Jvm.State → Prop} {cc : ByteArray} {pc : Nat} {ls : Array Slot} {rest : List Value} {D : va_G} {ad : Nat → Nat → Nat} {ca : Nat → ClassId} {M : me_M} {N : Nat → Nat} {own : String} {index j : Nat} (hexec : p.tables.exec = Jvm.exec) (hb : c.code = cc) (hts : ∀ w ∈ fg_g, w.before args s = true) (hown : s.vm.findClass own = some m.cls) (hK : va_K D classes (me_T ca) s) (hP : va_P D classes (me_W ad ca M) H) (hwf : me_wf N M) (hj : j < N 7) (hlink : (Cond.fieldLink own index "FilterGuard$Steps" "toldKind" "I").before args s = true) (hdg : decode cc pc = .ok (.getfield index, 3)) (kk : W p l e R s m args below meth c H locs cells slots Q (F0 m (pc + 3) ls (.int (mI M 7 j 10) :: rest))) : W p l e R s m args below meth c H locs cells slots Q (F0 m pc ls (.ref (ad 7 j) :: rest)) := me_get (k := 7) (f := 10) (C := "FilterGuard$Steps") (T := F_Steps) (Nf := 19) hexec hb hts i_Steps hown hK hP hwf hj (by decide) rfl (by decide) (by decide) hlink (fun _ h9 => h9) hdg kk
theorem d_Steps_tellWay_215 : decode prog_11_method_12_code 215 = .ok (.iconst 3, 1) := by decide +kernel
theorem d_Steps_tellWay_216 : decode prog_11_method_12_code 216 = .ok (.if_icmp .ne 27, 3) := by decide +kernel
theorem d_Steps_tellWay_243 : decode prog_11_method_12_code 243 = .ok (.iinc 5 1, 3) := by decide +kernel
theorem d_Steps_tellWay_246 : decode prog_11_method_12_code 246 = .ok (.goto (-118), 3) := by decide +kernel
theorem d_Steps_tellWay_219 : decode prog_11_method_12_code 219 = .ok (.aload 6, 2) := by decide +kernel
theorem d_Steps_tellWay_221 : decode prog_11_method_12_code 221 = .ok (.getfield 76, 3) := by decide +kernel
theorem d_Steps_tellWay_224 : decode prog_11_method_12_code 224 = .ok (.iconst 4, 1) := by decide +kernel
theorem d_Steps_tellWay_225 : decode prog_11_method_12_code 225 = .ok (.if_icmp .ne 18, 3) := by decide +kernel
theorem d_Steps_tellWay_228 : decode prog_11_method_12_code 228 = .ok (.aload 6, 2) := by decide +kernel
theorem d_Steps_tellWay_230 : decode prog_11_method_12_code 230 = .ok (.aload 6, 2) := by decide +kernel
theorem d_Steps_tellWay_232 : decode prog_11_method_12_code 232 = .ok (.getfield 197, 3) := by decide +kernel
theorem d_Steps_tellWay_235 : decode prog_11_method_12_code 235 = .ok (.iload 4, 2) := by decide +kernel
theorem d_Steps_tellWay_237 : decode prog_11_method_12_code 237 = .ok (.invokestatic 246, 3) := by decide +kernel
theorem u_1432 : Cond.methodLink "FilterGuard$Steps" 246 ⟨"java/lang/Math", "max", "(II)I"⟩ ∈ fg_g := fg_in (List.mem_of_getElem? (i := 1432) (by decide +kernel)) rfl
theorem d_Steps_tellWay_240 : decode prog_11_method_12_code 240 = .ok (.putfield 197, 3) := by decide +kernel
theorem d_Steps_tellWay_128 : decode prog_11_method_12_code 128 = .ok (.iload 5, 2) := by decide +kernel
theorem d_Steps_tellWay_130 : decode prog_11_method_12_code 130 = .ok (.aload_n 1, 1) := by decide +kernel
theorem d_Steps_tellWay_131 : decode prog_11_method_12_code 131 = .ok (.getfield 240, 3) := by decide +kernel
theorem u_529 : Cond.fieldLink "FilterGuard$Steps" 240 "FilterGuard$State" "used" "I" ∈ fg_g := fg_in (List.mem_of_getElem? (i := 529) (by decide +kernel)) rfl
theorem d_Steps_tellWay_134 : decode prog_11_method_12_code 134 = .ok (.if_icmp .ge 115, 3) := by decide +kernel
theorem d_Steps_tellWay_249 : decode prog_11_method_12_code 249 = .ok (.return_, 1) := by decide +kernel
theorem d_Steps_tellWay_137 : decode prog_11_method_12_code 137 = .ok (.aload_n 1, 1) := by decide +kernel
theorem d_Steps_tellWay_138 : decode prog_11_method_12_code 138 = .ok (.getfield 60, 3) := by decide +kernel
theorem d_Steps_tellWay_141 : decode prog_11_method_12_code 141 = .ok (.iload 5, 2) := by decide +kernel
theorem d_Steps_tellWay_143 : decode prog_11_method_12_code 143 = .ok (.aaload, 1) := by decide +kernel
theorem d_Steps_tellWay_144 : decode prog_11_method_12_code 144 = .ok (.astore 6, 2) := by decide +kernel
theorem d_Steps_tellWay_146 : decode prog_11_method_12_code 146 = .ok (.aload 6, 2) := by decide +kernel
theorem d_Steps_tellWay_148 : decode prog_11_method_12_code 148 = .ok (.invokevirtual 243, 3) := by decide +kernel
theorem u_1431 : Cond.methodLink "FilterGuard$Steps" 243 ⟨"FilterGuard$Cell", "hasIdentity", "()Z"⟩ ∈ fg_g := fg_in (List.mem_of_getElem? (i := 1431) (by decide +kernel)) rfl
theorem d_Steps_tellWay_151 : decode prog_11_method_12_code 151 = .ok (.ifCond .eq 92, 3) := by decide +kernel
theorem d_Steps_tellWay_154 : decode prog_11_method_12_code 154 = .ok (.aload 6, 2) := by decide +kernel
theorem d_Steps_tellWay_156 : decode prog_11_method_12_code 156 = .ok (.getfield 194, 3) := by decide +kernel
theorem d_Steps_tellWay_159 : decode prog_11_method_12_code 159 = .ok (.aload_n 0, 1) := by decide +kernel
theorem d_Steps_tellWay_160 : decode prog_11_method_12_code 160 = .ok (.getfield 220, 3) := by decide +kernel
theorem g_Steps_11 {p : Program} {l : Launch} {e : Env} {R : Room} {s : Jvm.State} {m : MethodId} {args : Array Value} {below : List Frame} {meth : Method} {c : Code} {H : Heap} {locs : List Loc} {cells slots : Nat} {Q : Jvm.State → Prop} {cc : ByteArray} {pc : Nat} {ls : Array Slot} {rest : List Value} {D : va_G} {ad : Nat → Nat → Nat} {ca : Nat → ClassId} {M : me_M} {N : Nat → Nat} {own : String} {index j : Nat} (hexec : p.tables.exec = Jvm.exec) (hb : c.code = cc) (hts : ∀ w ∈ fg_g, w.before args s = true) (hown : s.vm.findClass own = some m.cls) (hK : va_K D classes (me_T ca) s) (hP : va_P D classes (me_W ad ca M) H) (hwf : me_wf N M) (hj : j < N 7) (hlink : (Cond.fieldLink own index "FilterGuard$Steps" "toldIdentity" "I").before args s = true) (hdg : decode cc pc = .ok (.getfield index, 3)) (kk : W p l e R s m args below meth c H locs cells slots Q (F0 m (pc + 3) ls (.int (mI M 7 j 11) :: rest))) : W p l e R s m args below meth c H locs cells slots Q (F0 m pc ls (.ref (ad 7 j) :: rest)) := me_get (k := 7) (f := 11) (C := "FilterGuard$Steps") (T := F_Steps) (Nf := 19) hexec hb hts i_Steps hown hK hP hwf hj (by decide) rfl (by decide) (by decide) hlink (fun _ h9 => h9) hdg kk
theorem d_Steps_tellWay_163 : decode prog_11_method_12_code 163 = .ok (.if_icmp .eq 6, 3) := by decide +kernel
theorem d_Steps_tellWay_169 : decode prog_11_method_12_code 169 = .ok (.aload_n 0, 1) := by decide +kernel
theorem d_Steps_tellWay_170 : decode prog_11_method_12_code 170 = .ok (.getfield 206, 3) := by decide +kernel
theorem d_Steps_tellWay_173 : decode prog_11_method_12_code 173 = .ok (.iconst 2, 1) := by decide +kernel
theorem d_Steps_tellWay_174 : decode prog_11_method_12_code 174 = .ok (.if_icmp .ne 37, 3) := by decide +kernel
theorem d_Steps_tellWay_177 : decode prog_11_method_12_code 177 = .ok (.aload 6, 2) := by decide +kernel
theorem d_Steps_tellWay_179 : decode prog_11_method_12_code 179 = .ok (.getfield 76, 3) := by decide +kernel
theorem d_Steps_tellWay_182 : decode prog_11_method_12_code 182 = .ok (.bipush 8, 2) := by decide +kernel
theorem d_Steps_tellWay_184 : decode prog_11_method_12_code 184 = .ok (.if_icmp .ne 27, 3) := by decide +kernel
theorem d_Steps_tellWay_187 : decode prog_11_method_12_code 187 = .ok (.aload 6, 2) := by decide +kernel
theorem d_Steps_tellWay_189 : decode prog_11_method_12_code 189 = .ok (.getfield 122, 3) := by decide +kernel
theorem d_Steps_tellWay_192 : decode prog_11_method_12_code 192 = .ok (.istore 7, 2) := by decide +kernel
theorem d_Steps_tellWay_194 : decode prog_11_method_12_code 194 = .ok (.aload 6, 2) := by decide +kernel
theorem d_Steps_tellWay_196 : decode prog_11_method_12_code 196 = .ok (.iload_n 3, 1) := by decide +kernel
theorem d_Steps_tellWay_197 : decode prog_11_method_12_code 197 = .ok (.iconst 0, 1) := by decide +kernel
theorem d_Steps_tellWay_198 : decode prog_11_method_12_code 198 = .ok (.invokevirtual 115, 3) := by decide +kernel
theorem d_Steps_tellWay_201 : decode prog_11_method_12_code 201 = .ok (.aload 6, 2) := by decide +kernel
theorem d_Steps_tellWay_203 : decode prog_11_method_12_code 203 = .ok (.iload 7, 2) := by decide +kernel
theorem d_Steps_tellWay_205 : decode prog_11_method_12_code 205 = .ok (.putfield 122, 3) := by decide +kernel
theorem d_Steps_tellWay_208 : decode prog_11_method_12_code 208 = .ok (.goto 35, 3) := by decide +kernel
theorem d_Steps_tellWay_166 : decode prog_11_method_12_code 166 = .ok (.goto 77, 3) := by decide +kernel
theorem d_Steps_tellWay_107 : decode prog_11_method_12_code 107 = .ok (.istore_n 3, 1) := by decide +kernel
theorem d_Steps_tellWay_108 : decode prog_11_method_12_code 108 = .ok (.iload_n 2, 1) := by decide +kernel
theorem d_Steps_tellWay_109 : decode prog_11_method_12_code 109 = .ok (.ifCond .eq 10, 3) := by decide +kernel
theorem d_Steps_tellWay_119 : decode prog_11_method_12_code 119 = .ok (.aload_n 0, 1) := by decide +kernel
theorem d_Steps_tellWay_120 : decode prog_11_method_12_code 120 = .ok (.getfield 237, 3) := by decide +kernel
theorem g_Steps_13 {p : Program} {l : Launch} {e : Env} {R : Room} {s : Jvm.State} {m : MethodId} {args : Array Value} {below : List Frame} {meth : Method} {c : Code} {H : Heap} {locs : List Loc} {cells slots : Nat} {Q : Jvm.State → Prop} {cc : ByteArray} {pc : Nat} {ls : Array Slot} {rest : List Value} {D : va_G} {ad : Nat → Nat → Nat} {ca : Nat → ClassId} {M : me_M} {N : Nat → Nat} {own : String} {index j : Nat} (hexec : p.tables.exec = Jvm.exec) (hb : c.code = cc) (hts : ∀ w ∈ fg_g, w.before args s = true) (hown : s.vm.findClass own = some m.cls) (hK : va_K D classes (me_T ca) s) (hP : va_P D classes (me_W ad ca M) H) (hwf : me_wf N M) (hj : j < N 7) (hlink : (Cond.fieldLink own index "FilterGuard$Steps" "roomFallen" "I").before args s = true) (hdg : decode cc pc = .ok (.getfield index, 3)) (kk : W p l e R s m args below meth c H locs cells slots Q (F0 m (pc + 3) ls (.int (mI M 7 j 13) :: rest))) : W p l e R s m args below meth c H locs cells slots Q (F0 m pc ls (.ref (ad 7 j) :: rest)) := me_get (k := 7) (f := 13) (C := "FilterGuard$Steps") (T := F_Steps) (Nf := 19) hexec hb hts i_Steps hown hK hP hwf hj (by decide) rfl (by decide) (by decide) hlink (fun _ h9 => h9) hdg kk
theorem d_Steps_tellWay_123 : decode prog_11_method_12_code 123 = .ok (.istore 4, 2) := by decide +kernel
theorem d_Steps_tellWay_125 : decode prog_11_method_12_code 125 = .ok (.iconst 0, 1) := by decide +kernel
theorem d_Steps_tellWay_126 : decode prog_11_method_12_code 126 = .ok (.istore 5, 2) := by decide +kernel
theorem d_Steps_tellWay_112 : decode prog_11_method_12_code 112 = .ok (.aload_n 0, 1) := by decide +kernel
theorem d_Steps_tellWay_113 : decode prog_11_method_12_code 113 = .ok (.getfield 234, 3) := by decide +kernel
theorem g_Steps_12 {p : Program} {l : Launch} {e : Env} {R : Room} {s : Jvm.State} {m : MethodId} {args : Array Value} {below : List Frame} {meth : Method} {c : Code} {H : Heap} {locs : List Loc} {cells slots : Nat} {Q : Jvm.State → Prop} {cc : ByteArray} {pc : Nat} {ls : Array Slot} {rest : List Value} {D : va_G} {ad : Nat → Nat → Nat} {ca : Nat → ClassId} {M : me_M} {N : Nat → Nat} {own : String} {index j : Nat} (hexec : p.tables.exec = Jvm.exec) (hb : c.code = cc) (hts : ∀ w ∈ fg_g, w.before args s = true) (hown : s.vm.findClass own = some m.cls) (hK : va_K D classes (me_T ca) s) (hP : va_P D classes (me_W ad ca M) H) (hwf : me_wf N M) (hj : j < N 7) (hlink : (Cond.fieldLink own index "FilterGuard$Steps" "roomGone" "I").before args s = true) (hdg : decode cc pc = .ok (.getfield index, 3)) (kk : W p l e R s m args below meth c H locs cells slots Q (F0 m (pc + 3) ls (.int (mI M 7 j 12) :: rest))) : W p l e R s m args below meth c H locs cells slots Q (F0 m pc ls (.ref (ad 7 j) :: rest)) := me_get (k := 7) (f := 12) (C := "FilterGuard$Steps") (T := F_Steps) (Nf := 19) hexec hb hts i_Steps hown hK hP hwf hj (by decide) rfl (by decide) (by decide) hlink (fun _ h9 => h9) hdg kk
theorem d_Steps_tellWay_116 : decode prog_11_method_12_code 116 = .ok (.goto 7, 3) := by decide +kernel
theorem d_Steps_tellWay_38 : decode prog_11_method_12_code 38 = .ok (.invokevirtual 158, 3) := by decide +kernel
theorem d_Steps_tellWay_41 : decode prog_11_method_12_code 41 = .ok (.aload_n 0, 1) := by decide +kernel
theorem d_Steps_tellWay_42 : decode prog_11_method_12_code 42 = .ok (.getfield 44, 3) := by decide +kernel
theorem d_Steps_tellWay_45 : decode prog_11_method_12_code 45 = .ok (.getfield 79, 3) := by decide +kernel
theorem d_Steps_tellWay_48 : decode prog_11_method_12_code 48 = .ok (.ifCond .eq 36, 3) := by decide +kernel
theorem d_Steps_tellWay_84 : decode prog_11_method_12_code 84 = .ok (.return_, 1) := by decide +kernel
theorem d_Steps_tellWay_51 : decode prog_11_method_12_code 51 = .ok (.aload_n 1, 1) := by decide +kernel
theorem d_Steps_tellWay_52 : decode prog_11_method_12_code 52 = .ok (.getfield 60, 3) := by decide +kernel
theorem d_Steps_tellWay_55 : decode prog_11_method_12_code 55 = .ok (.aload_n 0, 1) := by decide +kernel
theorem d_Steps_tellWay_56 : decode prog_11_method_12_code 56 = .ok (.getfield 44, 3) := by decide +kernel
theorem d_Steps_tellWay_59 : decode prog_11_method_12_code 59 = .ok (.getfield 82, 3) := by decide +kernel
theorem d_Steps_tellWay_62 : decode prog_11_method_12_code 62 = .ok (.aaload, 1) := by decide +kernel
theorem d_Steps_tellWay_63 : decode prog_11_method_12_code 63 = .ok (.getfield 143, 3) := by decide +kernel
theorem d_Steps_tellWay_66 : decode prog_11_method_12_code 66 = .ok (.iload_n 2, 1) := by decide +kernel
theorem d_Steps_tellWay_67 : decode prog_11_method_12_code 67 = .ok (.ifCond .eq 10, 3) := by decide +kernel
theorem d_Steps_tellWay_77 : decode prog_11_method_12_code 77 = .ok (.aload_n 0, 1) := by decide +kernel
theorem d_Steps_tellWay_78 : decode prog_11_method_12_code 78 = .ok (.getfield 41, 3) := by decide +kernel
theorem d_Steps_tellWay_81 : decode prog_11_method_12_code 81 = .ok (.invokevirtual 158, 3) := by decide +kernel
theorem d_Steps_tellWay_70 : decode prog_11_method_12_code 70 = .ok (.aload_n 0, 1) := by decide +kernel
theorem d_Steps_tellWay_71 : decode prog_11_method_12_code 71 = .ok (.getfield 35, 3) := by decide +kernel
theorem d_Steps_tellWay_74 : decode prog_11_method_12_code 74 = .ok (.goto 7, 3) := by decide +kernel
theorem d_Steps_tellWay_0 : decode prog_11_method_12_code 0 = .ok (.aload_n 0, 1) := by decide +kernel
theorem d_Steps_tellWay_1 : decode prog_11_method_12_code 1 = .ok (.getfield 206, 3) := by decide +kernel
theorem d_Steps_tellWay_4 : decode prog_11_method_12_code 4 = .ok (.iconst 1, 1) := by decide +kernel
theorem d_Steps_tellWay_5 : decode prog_11_method_12_code 5 = .ok (.if_icmp .ne 80, 3) := by decide +kernel
theorem d_Steps_tellWay_85 : decode prog_11_method_12_code 85 = .ok (.aload_n 0, 1) := by decide +kernel
theorem d_Steps_tellWay_86 : decode prog_11_method_12_code 86 = .ok (.getfield 206, 3) := by decide +kernel
theorem d_Steps_tellWay_89 : decode prog_11_method_12_code 89 = .ok (.ifCond .ne 4, 3) := by decide +kernel
theorem d_Steps_tellWay_93 : decode prog_11_method_12_code 93 = .ok (.iload_n 2, 1) := by decide +kernel
theorem d_Steps_tellWay_94 : decode prog_11_method_12_code 94 = .ok (.aload_n 0, 1) := by decide +kernel
theorem d_Steps_tellWay_95 : decode prog_11_method_12_code 95 = .ok (.getfield 223, 3) := by decide +kernel
theorem g_Steps_14 {p : Program} {l : Launch} {e : Env} {R : Room} {s : Jvm.State} {m : MethodId} {args : Array Value} {below : List Frame} {meth : Method} {c : Code} {H : Heap} {locs : List Loc} {cells slots : Nat} {Q : Jvm.State → Prop} {cc : ByteArray} {pc : Nat} {ls : Array Slot} {rest : List Value} {D : va_G} {ad : Nat → Nat → Nat} {ca : Nat → ClassId} {M : me_M} {N : Nat → Nat} {own : String} {index j : Nat} (hexec : p.tables.exec = Jvm.exec) (hb : c.code = cc) (hts : ∀ w ∈ fg_g, w.before args s = true) (hown : s.vm.findClass own = some m.cls) (hK : va_K D classes (me_T ca) s) (hP : va_P D classes (me_W ad ca M) H) (hwf : me_wf N M) (hj : j < N 7) (hlink : (Cond.fieldLink own index "FilterGuard$Steps" "isZeroGone" "Z").before args s = true) (hdg : decode cc pc = .ok (.getfield index, 3)) (kk : W p l e R s m args below meth c H locs cells slots Q (F0 m (pc + 3) ls (.int (mI M 7 j 14) :: rest))) : W p l e R s m args below meth c H locs cells slots Q (F0 m pc ls (.ref (ad 7 j) :: rest)) := me_get (k := 7) (f := 14) (C := "FilterGuard$Steps") (T := F_Steps) (Nf := 19) hexec hb hts i_Steps hown hK hP hwf hj (by decide) rfl (by decide) (by decide) hlink (fun _ h9 => h9) hdg kk
theorem d_Steps_tellWay_98 : decode prog_11_method_12_code 98 = .ok (.if_icmp .ne 7, 3) := by decide +kernel
theorem d_Steps_tellWay_105 : decode prog_11_method_12_code 105 = .ok (.bipush 7, 2) := by decide +kernel
theorem d_Steps_tellWay_101 : decode prog_11_method_12_code 101 = .ok (.iconst 1, 1) := by decide +kernel
theorem d_Steps_tellWay_102 : decode prog_11_method_12_code 102 = .ok (.goto 5, 3) := by decide +kernel
theorem d_Steps_tellWay_92 : decode prog_11_method_12_code 92 = .ok (.return_, 1) := by decide +kernel
theorem d_Steps_tellWay_8 : decode prog_11_method_12_code 8 = .ok (.aload_n 1, 1) := by decide +kernel
theorem d_Steps_tellWay_9 : decode prog_11_method_12_code 9 = .ok (.getfield 60, 3) := by decide +kernel
theorem d_Steps_tellWay_12 : decode prog_11_method_12_code 12 = .ok (.aload_n 0, 1) := by decide +kernel
theorem d_Steps_tellWay_13 : decode prog_11_method_12_code 13 = .ok (.getfield 44, 3) := by decide +kernel
theorem d_Steps_tellWay_16 : decode prog_11_method_12_code 16 = .ok (.getfield 73, 3) := by decide +kernel
theorem d_Steps_tellWay_19 : decode prog_11_method_12_code 19 = .ok (.aaload, 1) := by decide +kernel
theorem d_Steps_tellWay_20 : decode prog_11_method_12_code 20 = .ok (.getfield 143, 3) := by decide +kernel
theorem d_Steps_tellWay_23 : decode prog_11_method_12_code 23 = .ok (.iload_n 2, 1) := by decide +kernel
theorem d_Steps_tellWay_24 : decode prog_11_method_12_code 24 = .ok (.ifCond .eq 10, 3) := by decide +kernel
theorem d_Steps_tellWay_34 : decode prog_11_method_12_code 34 = .ok (.aload_n 0, 1) := by decide +kernel
theorem d_Steps_tellWay_35 : decode prog_11_method_12_code 35 = .ok (.getfield 38, 3) := by decide +kernel
theorem d_Steps_tellWay_27 : decode prog_11_method_12_code 27 = .ok (.aload_n 0, 1) := by decide +kernel
theorem d_Steps_tellWay_28 : decode prog_11_method_12_code 28 = .ok (.getfield 32, 3) := by decide +kernel
theorem d_Steps_tellWay_31 : decode prog_11_method_12_code 31 = .ok (.goto 7, 3) := by decide +kernel
abbrev y_Steps_tellWay : MethodName := ⟨"FilterGuard$Steps", "tellWay", "(LFilterGuard$State;Z)V"⟩
def rm_Steps_tellWay : Room := { frames := 3, cells := 0, slots := 0, locals := 64 }
abbrev q_Steps_tellWay (D : va_G) (ad : Nat → Nat → Nat) (ca : Nat → ClassId) (N : Nat → Nat) (M0 MZ : me_M) (A : Nat → Prop) : Array Value → Jvm.State → Outcome → Jvm.State → Prop := va_Qv (fun (_ : Unit) => me_wf N MZ ∧ me_kp M0 MZ) (fg_B D A (fun _ => me_W ad ca MZ) (fun _ => [])) A
set_option maxHeartbeats 4000000 in
set_option maxRecDepth 100000 in
theorem c_Steps_tellWay (l : Launch) (D : va_G) (ad : Nat → Nat → Nat) (ca : Nat → ClassId) (N : Nat → Nat) (M0 MZ : me_M) (j0 : Nat) (j1 : Nat) (x2 : Int32) (h : f_Steps_tellWay M0 j0 j1 x2 = (some MZ)) (hwf : me_wf N M0) (hj0 : j0 < N 7) (hj1 : j1 < N 9) (zx2 : x2 = 1 ∨ x2 = 0) (sz : Nat) : Met l y_Steps_tellWay (fg_w y_Steps_tellWay prog_11_method_12_code 8 none) rm_Steps_tellWay (va_Pc [.ref (ad 7 j0), .ref (ad 9 j1), .int x2] (fz_P D (me_T ca) (me_W ad ca M0) sz)) (q_Steps_tellWay D ad ca N M0 MZ (va_A (me_W ad ca M0) sz)) rm_Steps_tellWay.cells rm_Steps_tellWay.slots (va_A (me_W ad ca M0) sz) := by
  refine fz_enter (fun A => q_Steps_tellWay D ad ca N M0 MZ A) (by decide +kernel) (Nat.le_of_ble_eq_true rfl) ?_
  intro p e s m below meth c ls A hx hb hml hown hts hr hlocks hin hP hK hD hS hA hX hl hz
  have hl : lv_has ls 8 [(0, .ref (ad 7 j0)), (1, .ref (ad 9 j1)), (2, .int x2)] := hl
  unfold f_Steps_tellWay at h
  have hkp : me_kp M0 M0 := me_kp.rf
  have hkb := hkp
  have b_211 : ∀ (k128 : me_M → Int32 → Int32 → Int32 → Option me_M) (hk128 : ∀ (M : me_M) (y3 : Int32) (y4 : Int32) (y5 : Int32) (H : Heap) (locs : List Loc) (ls : Array Slot), k128 M y3 y4 y5 = (some MZ) → me_wf N M → me_kp M0 M → va_P D classes (me_W ad ca M) H → va_D A (me_W ad ca M) → va_S A s.heap H locs → lv_has ls 8 [(0, .ref (ad 7 j0)), (1, .ref (ad 9 j1)), (3, .int y3), (4, .int y4), (5, .int y5)] → W p l e rm_Steps_tellWay s m [.ref (ad 7 j0), .ref (ad 9 j1), .int x2].toArray below meth c H locs 0 0 (MQ below (q_Steps_tellWay D ad ca N M0 MZ A) [.ref (ad 7 j0), .ref (ad 9 j1), .int x2].toArray s rm_Steps_tellWay.cells rm_Steps_tellWay.slots A) (F0 m 128 ls [])), ∀ (M : me_M) (y3 : Int32) (y4 : Int32) (y5 : Int32) (y6 : Nat) (H : Heap) (locs : List Loc) (ls : Array Slot), f_Steps_tellWay_b211 k128 j0 j1 M y3 y4 y5 y6 = (some MZ) → (y6 < N 10) → me_wf N M → me_kp M0 M → va_P D classes (me_W ad ca M) H → va_D A (me_W ad ca M) → va_S A s.heap H locs → lv_has ls 8 [(0, .ref (ad 7 j0)), (1, .ref (ad 9 j1)), (3, .int y3), (4, .int y4), (5, .int y5), (6, .ref (ad 10 y6))] → W p l e rm_Steps_tellWay s m [.ref (ad 7 j0), .ref (ad 9 j1), .int x2].toArray below meth c H locs 0 0 (MQ below (q_Steps_tellWay D ad ca N M0 MZ A) [.ref (ad 7 j0), .ref (ad 9 j1), .int x2].toArray s rm_Steps_tellWay.cells rm_Steps_tellWay.slots A) (F0 m 211 ls []) := by
    intro k128 hk128 M y3 y4 y5 y6 H locs ls h hy6 hwf hkp hP hD hS hl
    unfold f_Steps_tellWay_b211 at h
    have hkb := hkp
    refine lv_aload_n hx hb d_Steps_tellWay_211 rfl (lv_at hl 0 rfl) ?_
    refine g_Steps_10 hx hb hts hown hK hP hwf hj0 (hts _ u_467) d_Steps_tellWay_212 ?_
    refine lv_iconst (v := 3) hx hb d_Steps_tellWay_215 (by decide) ?_
    refine lv_icmp_ne (tgt := 243) hx hb d_Steps_tellWay_216 (by decide) (fun c1 => ?_) (fun c1 => ?_)
    · have h := if_f c1 h
      refine lv_iinc (v := y5 + 1) (lv' := [(5, .int (y5 + 1)), (0, .ref (ad 7 j0)), (1, .ref (ad 9 j1)), (3, .int y3), (4, .int y4), (6, .ref (ad 10 y6))]) hx hb d_Steps_tellWay_243 hl (k := 4) rfl (by rfl) (by decide) rfl (fun ls hl => ?_)
      refine lv_goto (tgt := 128) hx hb d_Steps_tellWay_246 (by decide) ?_
      exact hk128 M y3 y4 (y5 + 1) _ _ _ h hwf hkp hP hD hS (lv_sub hl [1, 2, 3, 4, 0] rfl)
    have h := if_t c1 h
    refine lv_aload hx hb d_Steps_tellWay_219 (lv_at hl 5 rfl) ?_
    refine g_Cell_0 hx hb hts hown hK hP hwf hy6 (hts _ u_422) d_Steps_tellWay_221 ?_
    refine lv_iconst (v := 4) hx hb d_Steps_tellWay_224 (by decide) ?_
    refine lv_icmp_ne (tgt := 243) hx hb d_Steps_tellWay_225 (by decide) (fun c2 => ?_) (fun c2 => ?_)
    · have h := if_f c2 h
      refine lv_iinc (v := y5 + 1) (lv' := [(5, .int (y5 + 1)), (0, .ref (ad 7 j0)), (1, .ref (ad 9 j1)), (3, .int y3), (4, .int y4), (6, .ref (ad 10 y6))]) hx hb d_Steps_tellWay_243 hl (k := 4) rfl (by rfl) (by decide) rfl (fun ls hl => ?_)
      refine lv_goto (tgt := 128) hx hb d_Steps_tellWay_246 (by decide) ?_
      exact hk128 M y3 y4 (y5 + 1) _ _ _ h hwf hkp hP hD hS (lv_sub hl [1, 2, 3, 4, 0] rfl)
    have h := if_t c2 h
    refine lv_aload hx hb d_Steps_tellWay_228 (lv_at hl 5 rfl) ?_
    refine lv_aload hx hb d_Steps_tellWay_230 (lv_at hl 5 rfl) ?_
    refine g_Cell_4 hx hb hts hown hK hP hwf hy6 (hts _ u_432) d_Steps_tellWay_232 ?_
    refine lv_iload hx hb d_Steps_tellWay_235 (lv_at hl 3 rfl) ?_
    refine va_mmax hx hb (hml.trans hl.1.symm) hown (hts _ u_1432) (hts _ u_1361) (hts _ u_193) (hts _ u_1362) (Nat.le_of_ble_eq_true rfl) (Nat.le_of_ble_eq_true rfl) (Nat.le_of_ble_eq_true rfl) (Nat.le_of_ble_eq_true rfl) d_Steps_tellWay_237 ?_
    refine fg_topi (y := jimax (mI M 10 y6 4) y4) rfl ?_
    obtain ⟨M3, eM3, h⟩ := st_ob h
    refine p_Cell_4 eM3 hx hb hts hown hK hP hD hwf hS hy6 (hts _ u_432) d_Steps_tellWay_240 (fun H locs hP hD hwf hS => ?_)
    have hkp := kp_I eM3 hkp
    refine lv_iinc (v := y5 + 1) (lv' := [(5, .int (y5 + 1)), (0, .ref (ad 7 j0)), (1, .ref (ad 9 j1)), (3, .int y3), (4, .int y4), (6, .ref (ad 10 y6))]) hx hb d_Steps_tellWay_243 hl (k := 4) rfl (by rfl) (by decide) rfl (fun ls hl => ?_)
    refine lv_goto (tgt := 128) hx hb d_Steps_tellWay_246 (by decide) ?_
    exact hk128 M3 y3 y4 (y5 + 1) _ _ _ h hwf hkp hP hD hS (lv_sub hl [1, 2, 3, 4, 0] rfl)
  have b_128 : ∀ (fu : Nat), ∀ (M : me_M) (y3 : Int32) (y4 : Int32) (y5 : Int32) (H : Heap) (locs : List Loc) (ls : Array Slot), f_Steps_tellWay_l128 j0 j1 fu M y3 y4 y5 = (some MZ) → me_wf N M → me_kp M0 M → va_P D classes (me_W ad ca M) H → va_D A (me_W ad ca M) → va_S A s.heap H locs → lv_has ls 8 [(0, .ref (ad 7 j0)), (1, .ref (ad 9 j1)), (3, .int y3), (4, .int y4), (5, .int y5)] → W p l e rm_Steps_tellWay s m [.ref (ad 7 j0), .ref (ad 9 j1), .int x2].toArray below meth c H locs 0 0 (MQ below (q_Steps_tellWay D ad ca N M0 MZ A) [.ref (ad 7 j0), .ref (ad 9 j1), .int x2].toArray s rm_Steps_tellWay.cells rm_Steps_tellWay.slots A) (F0 m 128 ls []) := by
    intro fu
    induction fu with
    | zero =>
      intro M y3 y4 y5 H locs ls h hwf hkp hP hD hS hl
      cases h
    | succ fu ih =>
      intro M y3 y4 y5 H locs ls h hwf hkp hP hD hS hl
      unfold f_Steps_tellWay_l128 at h
      have hkb := hkp
      refine lv_iload hx hb d_Steps_tellWay_128 (lv_at hl 4 rfl) ?_
      refine lv_aload_n hx hb d_Steps_tellWay_130 rfl (lv_at hl 1 rfl) ?_
      refine g_State_1 hx hb hts hown hK hP hwf hj1 (hts _ u_529) d_Steps_tellWay_131 ?_
      refine lv_icmp_ge (tgt := 249) hx hb d_Steps_tellWay_134 (by decide) (fun c4 => ?_) (fun c4 => ?_)
      · have h := if_t c4 h
        exact me_retv (me_kp M0) h hx hb hr hlocks hwf hkp hP hK hD hS d_Steps_tellWay_249
      have h := if_f c4 h
      refine lv_aload_n hx hb d_Steps_tellWay_137 rfl (lv_at hl 1 rfl) ?_
      refine g_State_0 hx hb hts hown hK hP hwf hj1 (hts _ u_525) d_Steps_tellWay_138 ?_
      obtain ⟨j5, e6, h⟩ := bd_ob h
      have hj5 : j5 < N 18 := (hwf.2.1 9 j1 0 _ e6 (by decide) hj1)
      refine me_opt (j := j5) e6 ?_
      refine lv_iload hx hb d_Steps_tellWay_141 (lv_at hl 4 rfl) ?_
      obtain ⟨g7, h⟩ := gd_ob h
      refine me_aald (k := 18) (t := 10) hx hb hK hP hwf hj5 (by decide) (by decide) rfl (fun _ => rfl) g7 d_Steps_tellWay_143 ?_
      obtain ⟨j8, e9, h⟩ := bd_ob h
      have hj8 : j8 < N 10 := (hwf.2.1 18 j5 y5.toNatClampNeg _ e9 (by decide) hj5)
      refine me_opt (j := j8) e9 ?_
      refine lv_astore (lv' := [(6, .ref (ad 10 j8)), (0, .ref (ad 7 j0)), (1, .ref (ad 9 j1)), (3, .int y3), (4, .int y4), (5, .int y5)]) hx hb d_Steps_tellWay_144 hl (by decide) rfl (fun ls hl => ?_)
      refine lv_aload hx hb d_Steps_tellWay_146 (lv_at hl 0 rfl) ?_
      obtain ⟨M10, r11, eM10, h⟩ := b2_ob h
      refine me_theni0 (M1 := M10) (me_runV (C := "FilterGuard$Cell") (As := []) (rest := []) ⟨hx, hb, hml, hown, hts⟩ (c_Cell_hasIdentity l D ad ca N M M10 r11 j8 eM10 hwf hj8 _) rfl (by show fg_nm y_Cell_hasIdentity 0; decide +kernel) u_1431 u_1067 u_1068 u_188 u_1069 ⟨Nat.le_of_ble_eq_true rfl, Nat.le_of_ble_eq_true rfl⟩ hX hz hK hP hD hwf hS hA hj8 (by decide) rfl rfl rfl hl.1 (Nat.le_of_ble_eq_true rfl) d_Steps_tellWay_148 ⟨Nat.le_of_ble_eq_true rfl, Nat.le_of_ble_eq_true rfl⟩) hP hD hK hS hA rfl rfl (fun H locs hw hP hD hS => ?_)
      obtain ⟨hwf, hk9, zr11⟩ := hw
      have hkp := hkp.tr hk9
      refine lv_if_eq (tgt := 243) hx hb d_Steps_tellWay_151 (by decide) (fun c12 => ?_) (fun c12 => ?_)
      · have h := if_t c12 h
        refine lv_iinc (v := y5 + 1) (lv' := [(5, .int (y5 + 1)), (6, .ref (ad 10 j8)), (0, .ref (ad 7 j0)), (1, .ref (ad 9 j1)), (3, .int y3), (4, .int y4)]) hx hb d_Steps_tellWay_243 hl (k := 5) rfl (by rfl) (by decide) rfl (fun ls hl => ?_)
        refine lv_goto (tgt := 128) hx hb d_Steps_tellWay_246 (by decide) ?_
        exact ih M10 y3 y4 (y5 + 1) _ _ _ h hwf hkp hP hD hS (lv_sub hl [2, 3, 4, 5, 0] rfl)
      have h := if_f c12 h
      refine lv_aload hx hb d_Steps_tellWay_154 (lv_at hl 0 rfl) ?_
      refine g_Cell_3 hx hb hts hown hK hP hwf hj8 (hts _ u_430) d_Steps_tellWay_156 ?_
      refine lv_aload_n hx hb d_Steps_tellWay_159 rfl (lv_at hl 1 rfl) ?_
      refine g_Steps_11 hx hb hts hown hK hP hwf hj0 (hts _ u_468) d_Steps_tellWay_160 ?_
      refine lv_icmp_eq (tgt := 169) hx hb d_Steps_tellWay_163 (by decide) (fun c13 => ?_) (fun c13 => ?_)
      · have h := if_t c13 h
        refine lv_aload_n hx hb d_Steps_tellWay_169 rfl (lv_at hl 1 rfl) ?_
        refine g_Steps_10 hx hb hts hown hK hP hwf hj0 (hts _ u_467) d_Steps_tellWay_170 ?_
        refine lv_iconst (v := 2) hx hb d_Steps_tellWay_173 (by decide) ?_
        refine lv_icmp_ne (tgt := 211) hx hb d_Steps_tellWay_174 (by decide) (fun c14 => ?_) (fun c14 => ?_)
        · have h := if_f c14 h
          exact b_211 _ ih M10 y3 y4 y5 j8 _ _ _ h hj8 hwf hkp hP hD hS (lv_sub hl [1, 2, 3, 4, 5, 0] rfl)
        have h := if_t c14 h
        refine lv_aload hx hb d_Steps_tellWay_177 (lv_at hl 0 rfl) ?_
        refine g_Cell_0 hx hb hts hown hK hP hwf hj8 (hts _ u_422) d_Steps_tellWay_179 ?_
        refine lv_bipush (v := 8) hx hb d_Steps_tellWay_182 (by decide) ?_
        refine lv_icmp_ne (tgt := 211) hx hb d_Steps_tellWay_184 (by decide) (fun c15 => ?_) (fun c15 => ?_)
        · have h := if_f c15 h
          exact b_211 _ ih M10 y3 y4 y5 j8 _ _ _ h hj8 hwf hkp hP hD hS (lv_sub hl [1, 2, 3, 4, 5, 0] rfl)
        have h := if_t c15 h
        refine lv_aload hx hb d_Steps_tellWay_187 (lv_at hl 0 rfl) ?_
        refine g_Cell_2 hx hb hts hown hK hP hwf hj8 (hts _ u_427) d_Steps_tellWay_189 ?_
        obtain ⟨v16, ev16, h⟩ := st_ob h
        refine fg_topi (y := v16) ev16.symm ?_
        refine lv_istore (lv' := [(7, .int v16), (6, .ref (ad 10 j8)), (0, .ref (ad 7 j0)), (1, .ref (ad 9 j1)), (3, .int y3), (4, .int y4), (5, .int y5)]) hx hb d_Steps_tellWay_192 hl (by decide) rfl (fun ls hl => ?_)
        refine lv_aload hx hb d_Steps_tellWay_194 (lv_at hl 1 rfl) ?_
        refine lv_iload_n hx hb d_Steps_tellWay_196 rfl (lv_at hl 4 rfl) ?_
        refine lv_iconst (v := 0) hx hb d_Steps_tellWay_197 (by decide) ?_
        obtain ⟨M17, eM17, h⟩ := bd_ob h
        refine me_thenv0 (M1 := M17) (me_runV (C := "FilterGuard$Cell") (As := [.int y3, .int 0]) (rest := []) ⟨hx, hb, hml, hown, hts⟩ (c_Cell_become l D ad ca N M10 M17 j8 y3 (0 : Int32) eM17 hwf hj8 _) rfl (by show fg_nm y_Cell_become 2; decide +kernel) u_1108 u_1033 u_1034 u_188 u_1035 ⟨Nat.le_of_ble_eq_true rfl, Nat.le_of_ble_eq_true rfl⟩ hX hz hK hP hD hwf hS hA hj8 (by decide) rfl rfl rfl hl.1 (Nat.le_of_ble_eq_true rfl) d_Steps_tellWay_198 ⟨Nat.le_of_ble_eq_true rfl, Nat.le_of_ble_eq_true rfl⟩) hP hD hK hS hA rfl rfl (fun H locs hw hP hD hS => ?_)
        obtain ⟨hwf, hk9⟩ := hw
        have hkp := hkp.tr hk9
        refine lv_aload hx hb d_Steps_tellWay_201 (lv_at hl 1 rfl) ?_
        refine lv_iload hx hb d_Steps_tellWay_203 (lv_at hl 0 rfl) ?_
        obtain ⟨M18, eM18, h⟩ := st_ob h
        refine p_Cell_2 eM18 hx hb hts hown hK hP hD hwf hS hj8 (hts _ u_427) d_Steps_tellWay_205 (fun H locs hP hD hwf hS => ?_)
        have hkp := kp_I eM18 hkp
        refine lv_goto (tgt := 243) hx hb d_Steps_tellWay_208 (by decide) ?_
        refine lv_iinc (v := y5 + 1) (lv' := [(5, .int (y5 + 1)), (7, .int v16), (6, .ref (ad 10 j8)), (0, .ref (ad 7 j0)), (1, .ref (ad 9 j1)), (3, .int y3), (4, .int y4)]) hx hb d_Steps_tellWay_243 hl (k := 6) rfl (by rfl) (by decide) rfl (fun ls hl => ?_)
        refine lv_goto (tgt := 128) hx hb d_Steps_tellWay_246 (by decide) ?_
        exact ih M18 y3 y4 (y5 + 1) _ _ _ h hwf hkp hP hD hS (lv_sub hl [3, 4, 5, 6, 0] rfl)
      have h := if_f c13 h
      refine lv_goto (tgt := 243) hx hb d_Steps_tellWay_166 (by decide) ?_
      refine lv_iinc (v := y5 + 1) (lv' := [(5, .int (y5 + 1)), (6, .ref (ad 10 j8)), (0, .ref (ad 7 j0)), (1, .ref (ad 9 j1)), (3, .int y3), (4, .int y4)]) hx hb d_Steps_tellWay_243 hl (k := 5) rfl (by rfl) (by decide) rfl (fun ls hl => ?_)
      refine lv_goto (tgt := 128) hx hb d_Steps_tellWay_246 (by decide) ?_
      exact ih M10 y3 y4 (y5 + 1) _ _ _ h hwf hkp hP hD hS (lv_sub hl [2, 3, 4, 5, 0] rfl)
  have b_107 : ∀ (M : me_M) (s0 : Int32) (H : Heap) (locs : List Loc) (ls : Array Slot), f_Steps_tellWay_b107 j0 j1 x2 M s0 = (some MZ) → me_wf N M → me_kp M0 M → va_P D classes (me_W ad ca M) H → va_D A (me_W ad ca M) → va_S A s.heap H locs → lv_has ls 8 [(0, .ref (ad 7 j0)), (1, .ref (ad 9 j1)), (2, .int x2)] → W p l e rm_Steps_tellWay s m [.ref (ad 7 j0), .ref (ad 9 j1), .int x2].toArray below meth c H locs 0 0 (MQ below (q_Steps_tellWay D ad ca N M0 MZ A) [.ref (ad 7 j0), .ref (ad 9 j1), .int x2].toArray s rm_Steps_tellWay.cells rm_Steps_tellWay.slots A) (F0 m 107 ls [.int s0]) := by
    intro M s0 H locs ls h hwf hkp hP hD hS hl
    unfold f_Steps_tellWay_b107 at h
    have hkb := hkp
    refine lv_istore_n (lv' := [(3, .int s0), (0, .ref (ad 7 j0)), (1, .ref (ad 9 j1)), (2, .int x2)]) hx hb d_Steps_tellWay_107 rfl hl (by decide) rfl (fun ls hl => ?_)
    refine lv_iload_n hx hb d_Steps_tellWay_108 rfl (lv_at hl 3 rfl) ?_
    refine lv_if_eq (tgt := 119) hx hb d_Steps_tellWay_109 (by decide) (fun c19 => ?_) (fun c19 => ?_)
    · have h := if_t c19 h
      refine lv_aload_n hx hb d_Steps_tellWay_119 rfl (lv_at hl 1 rfl) ?_
      refine g_Steps_13 hx hb hts hown hK hP hwf hj0 (hts _ u_470) d_Steps_tellWay_120 ?_
      obtain ⟨v20, ev20, h⟩ := st_ob h
      refine fg_topi (y := v20) ev20.symm ?_
      refine lv_istore (lv' := [(4, .int v20), (3, .int s0), (0, .ref (ad 7 j0)), (1, .ref (ad 9 j1)), (2, .int x2)]) hx hb d_Steps_tellWay_123 hl (by decide) rfl (fun ls hl => ?_)
      refine lv_iconst (v := 0) hx hb d_Steps_tellWay_125 (by decide) ?_
      refine lv_istore (lv' := [(5, .int 0), (4, .int v20), (3, .int s0), (0, .ref (ad 7 j0)), (1, .ref (ad 9 j1)), (2, .int x2)]) hx hb d_Steps_tellWay_126 hl (by decide) rfl (fun ls hl => ?_)
      exact b_128 _ M s0 v20 (0 : Int32) _ _ _ h hwf hkp hP hD hS (lv_sub hl [3, 4, 2, 1, 0] rfl)
    have h := if_f c19 h
    refine lv_aload_n hx hb d_Steps_tellWay_112 rfl (lv_at hl 1 rfl) ?_
    refine g_Steps_12 hx hb hts hown hK hP hwf hj0 (hts _ u_469) d_Steps_tellWay_113 ?_
    refine lv_goto (tgt := 123) hx hb d_Steps_tellWay_116 (by decide) ?_
    obtain ⟨v21, ev21, h⟩ := st_ob h
    refine fg_topi (y := v21) ev21.symm ?_
    refine lv_istore (lv' := [(4, .int v21), (3, .int s0), (0, .ref (ad 7 j0)), (1, .ref (ad 9 j1)), (2, .int x2)]) hx hb d_Steps_tellWay_123 hl (by decide) rfl (fun ls hl => ?_)
    refine lv_iconst (v := 0) hx hb d_Steps_tellWay_125 (by decide) ?_
    refine lv_istore (lv' := [(5, .int 0), (4, .int v21), (3, .int s0), (0, .ref (ad 7 j0)), (1, .ref (ad 9 j1)), (2, .int x2)]) hx hb d_Steps_tellWay_126 hl (by decide) rfl (fun ls hl => ?_)
    exact b_128 _ M s0 v21 (0 : Int32) _ _ _ h hwf hkp hP hD hS (lv_sub hl [3, 4, 2, 1, 0] rfl)
  have b_38 : ∀ (M : me_M) (s0 : Nat) (s1 : Nat) (H : Heap) (locs : List Loc) (ls : Array Slot), f_Steps_tellWay_b38 j0 j1 x2 M s0 s1 = (some MZ) → (s0 < N 11) → (s1 < N 11) → me_wf N M → me_kp M0 M → va_P D classes (me_W ad ca M) H → va_D A (me_W ad ca M) → va_S A s.heap H locs → lv_has ls 8 [(0, .ref (ad 7 j0)), (1, .ref (ad 9 j1)), (2, .int x2)] → W p l e rm_Steps_tellWay s m [.ref (ad 7 j0), .ref (ad 9 j1), .int x2].toArray below meth c H locs 0 0 (MQ below (q_Steps_tellWay D ad ca N M0 MZ A) [.ref (ad 7 j0), .ref (ad 9 j1), .int x2].toArray s rm_Steps_tellWay.cells rm_Steps_tellWay.slots A) (F0 m 38 ls [.ref (ad 11 s0), .ref (ad 11 s1)]) := by
    intro M s0 s1 H locs ls h hs0 hs1 hwf hkp hP hD hS hl
    unfold f_Steps_tellWay_b38 at h
    have hkb := hkp
    obtain ⟨M22, eM22, h⟩ := bd_ob h
    refine me_thenv0 (M1 := M22) (me_runV (C := "FilterGuard$Num") (As := [.ref (ad 11 s0)]) (rest := []) ⟨hx, hb, hml, hown, hts⟩ (c_Num_copy l D ad ca N M M22 s1 s0 eM22 hwf hs1 hs0 _) rfl (by show fg_nm y_Num_copy 1; decide +kernel) u_1261 u_1083 u_1084 u_187 u_1085 ⟨Nat.le_of_ble_eq_true rfl, Nat.le_of_ble_eq_true rfl⟩ hX hz hK hP hD hwf hS hA hs1 (by decide) rfl rfl rfl hl.1 (Nat.le_of_ble_eq_true rfl) d_Steps_tellWay_38 ⟨Nat.le_of_ble_eq_true rfl, Nat.le_of_ble_eq_true rfl⟩) hP hD hK hS hA rfl rfl (fun H locs hw hP hD hS => ?_)
    obtain ⟨hwf, hk9⟩ := hw
    have hkp := hkp.tr hk9
    refine lv_aload_n hx hb d_Steps_tellWay_41 rfl (lv_at hl 0 rfl) ?_
    refine g_Steps_0 hx hb hts hown hK hP hwf hj0 (hts _ u_455) d_Steps_tellWay_42 ?_
    obtain ⟨j23, e24, h⟩ := bd_ob h
    have hj23 : j23 < N 2 := (hwf.2.1 7 j0 0 _ (kp_r hkb hkp e24) (by decide) hj0)
    refine me_opt (j := j23) (kp_r hkb hkp e24) ?_
    refine g_Code_15 hx hb hts hown hK hP hwf hj23 (hts _ u_272) d_Steps_tellWay_45 ?_
    have z25 := (hwf.2.2.2 2 j23 15 rfl)
    refine lv_if_eq (tgt := 84) hx hb d_Steps_tellWay_48 (by decide) (fun c26 => ?_) (fun c26 => ?_)
    · have h := if_t c26 h
      exact me_retv (me_kp M0) h hx hb hr hlocks hwf hkp hP hK hD hS d_Steps_tellWay_84
    have h := if_f c26 h
    refine lv_aload_n hx hb d_Steps_tellWay_51 rfl (lv_at hl 1 rfl) ?_
    refine g_State_0 hx hb hts hown hK hP hwf hj1 (hts _ u_525) d_Steps_tellWay_52 ?_
    obtain ⟨j27, e28, h⟩ := bd_ob h
    have hj27 : j27 < N 18 := (hwf.2.1 9 j1 0 _ (kp_r hkb hkp e28) (by decide) hj1)
    refine me_opt (j := j27) (kp_r hkb hkp e28) ?_
    refine lv_aload_n hx hb d_Steps_tellWay_55 rfl (lv_at hl 0 rfl) ?_
    refine g_Steps_0 hx hb hts hown hK hP hwf hj0 (hts _ u_455) d_Steps_tellWay_56 ?_
    refine me_opt (j := j23) (kp_r hkb hkp e24) ?_
    refine g_Code_7 hx hb hts hown hK hP hwf hj23 (hts _ u_239) d_Steps_tellWay_59 ?_
    obtain ⟨g29, h⟩ := gd_ob h
    refine me_aald (k := 18) (t := 10) hx hb hK hP hwf hj27 (by decide) (by decide) rfl (fun _ => rfl) (kp_z hkb.z hkp.z g29) d_Steps_tellWay_62 ?_
    obtain ⟨j30, e31, h⟩ := bd_ob h
    have hj30 : j30 < N 10 := (hwf.2.1 18 j27 ((mI M22 2 j23 7).toNatClampNeg) _ (kp_r hkb hkp e31) (by decide) hj27)
    refine me_opt (j := j30) (kp_r hkb hkp e31) ?_
    refine g_Cell_6 hx hb hts hown hK hP hwf hj30 (hts _ u_437) d_Steps_tellWay_63 ?_
    obtain ⟨j32, e33, h⟩ := bd_ob h
    have hj32 : j32 < N 11 := (hwf.2.1 10 j30 6 _ (kp_r hkb hkp e33) (by decide) hj30)
    refine me_opt (j := j32) (kp_r hkb hkp e33) ?_
    refine lv_iload_n hx hb d_Steps_tellWay_66 rfl (lv_at hl 2 rfl) ?_
    refine lv_if_eq (tgt := 77) hx hb d_Steps_tellWay_67 (by decide) (fun c34 => ?_) (fun c34 => ?_)
    · have h := if_t c34 h
      refine lv_aload_n hx hb d_Steps_tellWay_77 rfl (lv_at hl 0 rfl) ?_
      refine g_Steps_18 hx hb hts hown hK hP hwf hj0 (hts _ u_475) d_Steps_tellWay_78 ?_
      obtain ⟨j35, e36, h⟩ := bd_ob h
      have hj35 : j35 < N 11 := (hwf.2.1 7 j0 18 _ (kp_r hkb hkp e36) (by decide) hj0)
      refine me_opt (j := j35) (kp_r hkb hkp e36) ?_
      obtain ⟨M37, eM37, h⟩ := bd_ob h
      refine me_thenv0 (M1 := M37) (me_runV (C := "FilterGuard$Num") (As := [.ref (ad 11 j35)]) (rest := []) ⟨hx, hb, hml, hown, hts⟩ (c_Num_copy l D ad ca N M22 M37 j32 j35 eM37 hwf hj32 hj35 _) rfl (by show fg_nm y_Num_copy 1; decide +kernel) u_1261 u_1083 u_1084 u_187 u_1085 ⟨Nat.le_of_ble_eq_true rfl, Nat.le_of_ble_eq_true rfl⟩ hX hz hK hP hD hwf hS hA hj32 (by decide) rfl rfl rfl hl.1 (Nat.le_of_ble_eq_true rfl) d_Steps_tellWay_81 ⟨Nat.le_of_ble_eq_true rfl, Nat.le_of_ble_eq_true rfl⟩) hP hD hK hS hA rfl rfl (fun H locs hw hP hD hS => ?_)
      obtain ⟨hwf, hk9⟩ := hw
      have hkp := hkp.tr hk9
      exact me_retv (me_kp M0) h hx hb hr hlocks hwf hkp hP hK hD hS d_Steps_tellWay_84
    have h := if_f c34 h
    refine lv_aload_n hx hb d_Steps_tellWay_70 rfl (lv_at hl 0 rfl) ?_
    refine g_Steps_16 hx hb hts hown hK hP hwf hj0 (hts _ u_473) d_Steps_tellWay_71 ?_
    obtain ⟨j38, e39, h⟩ := bd_ob h
    have hj38 : j38 < N 11 := (hwf.2.1 7 j0 16 _ (kp_r hkb hkp e39) (by decide) hj0)
    refine me_opt (j := j38) (kp_r hkb hkp e39) ?_
    refine lv_goto (tgt := 81) hx hb d_Steps_tellWay_74 (by decide) ?_
    obtain ⟨M40, eM40, h⟩ := bd_ob h
    refine me_thenv0 (M1 := M40) (me_runV (C := "FilterGuard$Num") (As := [.ref (ad 11 j38)]) (rest := []) ⟨hx, hb, hml, hown, hts⟩ (c_Num_copy l D ad ca N M22 M40 j32 j38 eM40 hwf hj32 hj38 _) rfl (by show fg_nm y_Num_copy 1; decide +kernel) u_1261 u_1083 u_1084 u_187 u_1085 ⟨Nat.le_of_ble_eq_true rfl, Nat.le_of_ble_eq_true rfl⟩ hX hz hK hP hD hwf hS hA hj32 (by decide) rfl rfl rfl hl.1 (Nat.le_of_ble_eq_true rfl) d_Steps_tellWay_81 ⟨Nat.le_of_ble_eq_true rfl, Nat.le_of_ble_eq_true rfl⟩) hP hD hK hS hA rfl rfl (fun H locs hw hP hD hS => ?_)
    obtain ⟨hwf, hk9⟩ := hw
    have hkp := hkp.tr hk9
    exact me_retv (me_kp M0) h hx hb hr hlocks hwf hkp hP hK hD hS d_Steps_tellWay_84
  refine lv_aload_n hx hb d_Steps_tellWay_0 rfl (lv_at hl 0 rfl) ?_
  refine g_Steps_10 hx hb hts hown hK hP hwf hj0 (hts _ u_467) d_Steps_tellWay_1 ?_
  refine lv_iconst (v := 1) hx hb d_Steps_tellWay_4 (by decide) ?_
  refine lv_icmp_ne (tgt := 85) hx hb d_Steps_tellWay_5 (by decide) (fun c41 => ?_) (fun c41 => ?_)
  · have h := if_f c41 h
    refine lv_aload_n hx hb d_Steps_tellWay_85 rfl (lv_at hl 0 rfl) ?_
    refine g_Steps_10 hx hb hts hown hK hP hwf hj0 (hts _ u_467) d_Steps_tellWay_86 ?_
    refine lv_if_ne (tgt := 93) hx hb d_Steps_tellWay_89 (by decide) (fun c42 => ?_) (fun c42 => ?_)
    · have h := if_f c42 h
      refine lv_iload_n hx hb d_Steps_tellWay_93 rfl (lv_at hl 2 rfl) ?_
      refine lv_aload_n hx hb d_Steps_tellWay_94 rfl (lv_at hl 0 rfl) ?_
      refine g_Steps_14 hx hb hts hown hK hP hwf hj0 (hts _ u_471) d_Steps_tellWay_95 ?_
      have z43 := (hwf.2.2.2 7 j0 14 rfl)
      refine lv_icmp_ne (tgt := 105) hx hb d_Steps_tellWay_98 (by decide) (fun c44 => ?_) (fun c44 => ?_)
      · have h := if_f c44 h
        refine lv_bipush (v := 7) hx hb d_Steps_tellWay_105 (by decide) ?_
        exact b_107 M0 (7 : Int32) _ _ _ h hwf hkp hP hD hS (lv_sub hl [0, 1, 2] rfl)
      have h := if_t c44 h
      refine lv_iconst (v := 1) hx hb d_Steps_tellWay_101 (by decide) ?_
      refine lv_goto (tgt := 107) hx hb d_Steps_tellWay_102 (by decide) ?_
      exact b_107 M0 (1 : Int32) _ _ _ h hwf hkp hP hD hS (lv_sub hl [0, 1, 2] rfl)
    have h := if_t c42 h
    exact me_retv (me_kp M0) h hx hb hr hlocks hwf hkp hP hK hD hS d_Steps_tellWay_92
  have h := if_t c41 h
  refine lv_aload_n hx hb d_Steps_tellWay_8 rfl (lv_at hl 1 rfl) ?_
  refine g_State_0 hx hb hts hown hK hP hwf hj1 (hts _ u_525) d_Steps_tellWay_9 ?_
  obtain ⟨j45, e46, h⟩ := bd_ob h
  have hj45 : j45 < N 18 := (hwf.2.1 9 j1 0 _ e46 (by decide) hj1)
  refine me_opt (j := j45) e46 ?_
  refine lv_aload_n hx hb d_Steps_tellWay_12 rfl (lv_at hl 0 rfl) ?_
  refine g_Steps_0 hx hb hts hown hK hP hwf hj0 (hts _ u_455) d_Steps_tellWay_13 ?_
  obtain ⟨j47, e48, h⟩ := bd_ob h
  have hj47 : j47 < N 2 := (hwf.2.1 7 j0 0 _ e48 (by decide) hj0)
  refine me_opt (j := j47) e48 ?_
  refine g_Code_6 hx hb hts hown hK hP hwf hj47 (hts _ u_232) d_Steps_tellWay_16 ?_
  obtain ⟨g49, h⟩ := gd_ob h
  refine me_aald (k := 18) (t := 10) hx hb hK hP hwf hj45 (by decide) (by decide) rfl (fun _ => rfl) g49 d_Steps_tellWay_19 ?_
  obtain ⟨j50, e51, h⟩ := bd_ob h
  have hj50 : j50 < N 10 := (hwf.2.1 18 j45 ((mI M0 2 j47 6).toNatClampNeg) _ e51 (by decide) hj45)
  refine me_opt (j := j50) e51 ?_
  refine g_Cell_6 hx hb hts hown hK hP hwf hj50 (hts _ u_437) d_Steps_tellWay_20 ?_
  obtain ⟨j52, e53, h⟩ := bd_ob h
  have hj52 : j52 < N 11 := (hwf.2.1 10 j50 6 _ e53 (by decide) hj50)
  refine me_opt (j := j52) e53 ?_
  refine lv_iload_n hx hb d_Steps_tellWay_23 rfl (lv_at hl 2 rfl) ?_
  refine lv_if_eq (tgt := 34) hx hb d_Steps_tellWay_24 (by decide) (fun c54 => ?_) (fun c54 => ?_)
  · have h := if_t c54 h
    refine lv_aload_n hx hb d_Steps_tellWay_34 rfl (lv_at hl 0 rfl) ?_
    refine g_Steps_17 hx hb hts hown hK hP hwf hj0 (hts _ u_474) d_Steps_tellWay_35 ?_
    obtain ⟨j55, e56, h⟩ := bd_ob h
    have hj55 : j55 < N 11 := (hwf.2.1 7 j0 17 _ e56 (by decide) hj0)
    refine me_opt (j := j55) e56 ?_
    exact b_38 M0 j55 j52 _ _ _ h hj55 hj52 hwf hkp hP hD hS (lv_sub hl [0, 1, 2] rfl)
  have h := if_f c54 h
  refine lv_aload_n hx hb d_Steps_tellWay_27 rfl (lv_at hl 0 rfl) ?_
  refine g_Steps_15 hx hb hts hown hK hP hwf hj0 (hts _ u_472) d_Steps_tellWay_28 ?_
  obtain ⟨j57, e58, h⟩ := bd_ob h
  have hj57 : j57 < N 11 := (hwf.2.1 7 j0 15 _ e58 (by decide) hj0)
  refine me_opt (j := j57) e58 ?_
  refine lv_goto (tgt := 38) hx hb d_Steps_tellWay_31 (by decide) ?_
  exact b_38 M0 j57 j52 _ _ _ h hj57 hj52 hwf hkp hP hD hS (lv_sub hl [0, 1, 2] rfl)
theorem d_Explorer_holdBack_43 : decode prog_5_method_10_code 43 = .ok (.astore_n 2, 1) := by decide +kernel
theorem d_Explorer_holdBack_44 : decode prog_5_method_10_code 44 = .ok (.aload_n 2, 1) := by decide +kernel
theorem d_Explorer_holdBack_45 : decode prog_5_method_10_code 45 = .ok (.aload_n 0, 1) := by decide +kernel
theorem d_Explorer_holdBack_46 : decode prog_5_method_10_code 46 = .ok (.getfield 45, 3) := by decide +kernel
theorem d_Explorer_holdBack_49 : decode prog_5_method_10_code 49 = .ok (.invokevirtual 117, 3) := by decide +kernel
theorem d_Explorer_holdBack_52 : decode prog_5_method_10_code 52 = .ok (.aload_n 2, 1) := by decide +kernel
theorem d_Explorer_holdBack_53 : decode prog_5_method_10_code 53 = .ok (.iload_n 1, 1) := by decide +kernel
theorem d_Explorer_holdBack_54 : decode prog_5_method_10_code 54 = .ok (.putfield 65, 3) := by decide +kernel
theorem d_Explorer_holdBack_57 : decode prog_5_method_10_code 57 = .ok (.aload_n 0, 1) := by decide +kernel
theorem d_Explorer_holdBack_58 : decode prog_5_method_10_code 58 = .ok (.getfield 40, 3) := by decide +kernel
theorem g_Explorer_2 {p : Program} {l : Launch} {e : Env} {R : Room} {s : Jvm.State} {m : MethodId} {args : Array Value} {below : List Frame} {meth : Method} {c : Code} {H : Heap} {locs : List Loc} {cells slots : Nat} {Q : Jvm.State → Prop} {cc : ByteArray} {pc : Nat} {ls : Array Slot} {rest : List Value} {D : va_G} {ad : Nat → Nat → Nat} {ca : Nat → ClassId} {M : me_M} {N : Nat → Nat} {own : String} {index j : Nat} (hexec : p.tables.exec = Jvm.exec) (hb : c.code = cc) (hts : ∀ w ∈ fg_g, w.before args s = true) (hown : s.vm.findClass own = some m.cls) (hK : va_K D classes (me_T ca) s) (hP : va_P D classes (me_W ad ca M) H) (hwf : me_wf N M) (hj : j < N 4) (hlink : (Cond.fieldLink own index "FilterGuard$Explorer" "steps" "LFilterGuard$Steps;").before args s = true) (hdg : decode cc pc = .ok (.getfield index, 3)) (kk : W p l e R s m args below meth c H locs cells slots Q (F0 m (pc + 3) ls (va_rf ((mR M 4 j 2).map (ad 7)) :: rest))) : W p l e R s m args below meth c H locs cells slots Q (F0 m pc ls (.ref (ad 4 j) :: rest)) := me_get (k := 4) (f := 2) (C := "FilterGuard$Explorer") (T := F_Explorer) (Nf := 15) hexec hb hts i_Explorer hown hK hP hwf hj (by decide) rfl (by decide) (by decide) hlink (fun _ h9 => h9) hdg kk
theorem d_Explorer_holdBack_61 : decode prog_5_method_10_code 61 = .ok (.aload_n 2, 1) := by decide +kernel
theorem d_Explorer_holdBack_62 : decode prog_5_method_10_code 62 = .ok (.iconst 1, 1) := by decide +kernel
theorem d_Explorer_holdBack_63 : decode prog_5_method_10_code 63 = .ok (.invokevirtual 181, 3) := by decide +kernel
theorem u_1427 : Cond.methodLink "FilterGuard$Explorer" 181 ⟨"FilterGuard$Steps", "tellWay", "(LFilterGuard$State;Z)V"⟩ ∈ fg_g := fg_in (List.mem_of_getElem? (i := 1427) (by decide +kernel)) rfl
theorem u_1430 : Cond.code ⟨"FilterGuard$Steps", "tellWay", "(LFilterGuard$State;Z)V"⟩ prog_11_method_12_code 8 none ∈ fg_g := fg_in (List.mem_of_getElem? (i := 1430) (by decide +kernel)) rfl
theorem u_1428 : Cond.instanceMethod ⟨"FilterGuard$Steps", "tellWay", "(LFilterGuard$State;Z)V"⟩ ∈ fg_g := fg_in (List.mem_of_getElem? (i := 1428) (by decide +kernel)) rfl
theorem u_1429 : Cond.selects "FilterGuard$Steps" ⟨"FilterGuard$Steps", "tellWay", "(LFilterGuard$State;Z)V"⟩ ⟨"FilterGuard$Steps", "tellWay", "(LFilterGuard$State;Z)V"⟩ ∈ fg_g := fg_in (List.mem_of_getElem? (i := 1429) (by decide +kernel)) rfl
theorem d_Explorer_holdBack_66 : decode prog_5_method_10_code 66 = .ok (.aload_n 0, 1) := by decide +kernel
theorem d_Explorer_holdBack_67 : decode prog_5_method_10_code 67 = .ok (.getfield 17, 3) := by decide +kernel
theorem g_Explorer_4 {p : Program} {l : Launch} {e : Env} {R : Room} {s : Jvm.State} {m : MethodId} {args : Array Value} {below : List Frame} {meth : Method} {c : Code} {H : Heap} {locs : List Loc} {cells slots : Nat} {Q : Jvm.State → Prop} {cc : ByteArray} {pc : Nat} {ls : Array Slot} {rest : List Value} {D : va_G} {ad : Nat → Nat → Nat} {ca : Nat → ClassId} {M : me_M} {N : Nat → Nat} {own : String} {index j : Nat} (hexec : p.tables.exec = Jvm.exec) (hb : c.code = cc) (hts : ∀ w ∈ fg_g, w.before args s = true) (hown : s.vm.findClass own = some m.cls) (hK : va_K D classes (me_T ca) s) (hP : va_P D classes (me_W ad ca M) H) (hwf : me_wf N M) (hj : j < N 4) (hlink : (Cond.fieldLink own index "FilterGuard$Explorer" "waiting" "[LFilterGuard$State;").before args s = true) (hdg : decode cc pc = .ok (.getfield index, 3)) (kk : W p l e R s m args below meth c H locs cells slots Q (F0 m (pc + 3) ls (va_rf ((mR M 4 j 4).map (ad 17)) :: rest))) : W p l e R s m args below meth c H locs cells slots Q (F0 m pc ls (.ref (ad 4 j) :: rest)) := me_get (k := 4) (f := 4) (C := "FilterGuard$Explorer") (T := F_Explorer) (Nf := 15) hexec hb hts i_Explorer hown hK hP hwf hj (by decide) rfl (by decide) (by decide) hlink (fun _ h9 => h9) hdg kk
theorem d_Explorer_holdBack_70 : decode prog_5_method_10_code 70 = .ok (.aload_n 0, 1) := by decide +kernel
theorem d_Explorer_holdBack_71 : decode prog_5_method_10_code 71 = .ok (.getfield 49, 3) := by decide +kernel
theorem d_Explorer_holdBack_74 : decode prog_5_method_10_code 74 = .ok (.aload_n 2, 1) := by decide +kernel
theorem d_Explorer_holdBack_75 : decode prog_5_method_10_code 75 = .ok (.aastore, 1) := by decide +kernel
theorem d_Explorer_holdBack_76 : decode prog_5_method_10_code 76 = .ok (.aload_n 0, 1) := by decide +kernel
theorem d_Explorer_holdBack_77 : decode prog_5_method_10_code 77 = .ok (.dup, 1) := by decide +kernel
theorem d_Explorer_holdBack_78 : decode prog_5_method_10_code 78 = .ok (.getfield 49, 3) := by decide +kernel
theorem d_Explorer_holdBack_81 : decode prog_5_method_10_code 81 = .ok (.iconst 1, 1) := by decide +kernel
theorem d_Explorer_holdBack_82 : decode prog_5_method_10_code 82 = .ok (.iadd, 1) := by decide +kernel
theorem d_Explorer_holdBack_83 : decode prog_5_method_10_code 83 = .ok (.putfield 49, 3) := by decide +kernel
theorem d_Explorer_holdBack_86 : decode prog_5_method_10_code 86 = .ok (.aload_n 0, 1) := by decide +kernel
theorem d_Explorer_holdBack_87 : decode prog_5_method_10_code 87 = .ok (.aload_n 0, 1) := by decide +kernel
theorem d_Explorer_holdBack_88 : decode prog_5_method_10_code 88 = .ok (.getfield 59, 3) := by decide +kernel
theorem g_Explorer_13 {p : Program} {l : Launch} {e : Env} {R : Room} {s : Jvm.State} {m : MethodId} {args : Array Value} {below : List Frame} {meth : Method} {c : Code} {H : Heap} {locs : List Loc} {cells slots : Nat} {Q : Jvm.State → Prop} {cc : ByteArray} {pc : Nat} {ls : Array Slot} {rest : List Value} {D : va_G} {ad : Nat → Nat → Nat} {ca : Nat → ClassId} {M : me_M} {N : Nat → Nat} {own : String} {index j : Nat} (hexec : p.tables.exec = Jvm.exec) (hb : c.code = cc) (hts : ∀ w ∈ fg_g, w.before args s = true) (hown : s.vm.findClass own = some m.cls) (hK : va_K D classes (me_T ca) s) (hP : va_P D classes (me_W ad ca M) H) (hwf : me_wf N M) (hj : j < N 4) (hlink : (Cond.fieldLink own index "FilterGuard$Explorer" "mostWaiting" "I").before args s = true) (hdg : decode cc pc = .ok (.getfield index, 3)) (kk : W p l e R s m args below meth c H locs cells slots Q (F0 m (pc + 3) ls (.int (mI M 4 j 13) :: rest))) : W p l e R s m args below meth c H locs cells slots Q (F0 m pc ls (.ref (ad 4 j) :: rest)) := me_get (k := 4) (f := 13) (C := "FilterGuard$Explorer") (T := F_Explorer) (Nf := 15) hexec hb hts i_Explorer hown hK hP hwf hj (by decide) rfl (by decide) (by decide) hlink (fun _ h9 => h9) hdg kk
theorem d_Explorer_holdBack_91 : decode prog_5_method_10_code 91 = .ok (.aload_n 0, 1) := by decide +kernel
theorem d_Explorer_holdBack_92 : decode prog_5_method_10_code 92 = .ok (.getfield 49, 3) := by decide +kernel
theorem d_Explorer_holdBack_95 : decode prog_5_method_10_code 95 = .ok (.invokestatic 185, 3) := by decide +kernel
theorem u_1433 : Cond.methodLink "FilterGuard$Explorer" 185 ⟨"java/lang/Math", "max", "(II)I"⟩ ∈ fg_g := fg_in (List.mem_of_getElem? (i := 1433) (by decide +kernel)) rfl
theorem d_Explorer_holdBack_98 : decode prog_5_method_10_code 98 = .ok (.putfield 59, 3) := by decide +kernel
theorem d_Explorer_holdBack_101 : decode prog_5_method_10_code 101 = .ok (.iconst 1, 1) := by decide +kernel
theorem d_Explorer_holdBack_102 : decode prog_5_method_10_code 102 = .ok (.ireturn, 1) := by decide +kernel
theorem d_Explorer_holdBack_0 : decode prog_5_method_10_code 0 = .ok (.aload_n 0, 1) := by decide +kernel
theorem d_Explorer_holdBack_1 : decode prog_5_method_10_code 1 = .ok (.getfield 49, 3) := by decide +kernel
theorem d_Explorer_holdBack_4 : decode prog_5_method_10_code 4 = .ok (.sipush 200, 3) := by decide +kernel
theorem d_Explorer_holdBack_7 : decode prog_5_method_10_code 7 = .ok (.if_icmp .lt 5, 3) := by decide +kernel
theorem d_Explorer_holdBack_12 : decode prog_5_method_10_code 12 = .ok (.aload_n 0, 1) := by decide +kernel
theorem d_Explorer_holdBack_13 : decode prog_5_method_10_code 13 = .ok (.getfield 17, 3) := by decide +kernel
theorem d_Explorer_holdBack_16 : decode prog_5_method_10_code 16 = .ok (.aload_n 0, 1) := by decide +kernel
theorem d_Explorer_holdBack_17 : decode prog_5_method_10_code 17 = .ok (.getfield 49, 3) := by decide +kernel
theorem d_Explorer_holdBack_20 : decode prog_5_method_10_code 20 = .ok (.aaload, 1) := by decide +kernel
theorem d_Explorer_holdBack_21 : decode prog_5_method_10_code 21 = .ok (.ifnonnull 13, 3) := by decide +kernel
theorem d_Explorer_holdBack_24 : decode prog_5_method_10_code 24 = .ok (.new 9, 3) := by decide +kernel
theorem d_Explorer_holdBack_27 : decode prog_5_method_10_code 27 = .ok (.dup, 1) := by decide +kernel
theorem d_Explorer_holdBack_28 : decode prog_5_method_10_code 28 = .ok (.invokespecial 44, 3) := by decide +kernel
theorem d_Explorer_holdBack_31 : decode prog_5_method_10_code 31 = .ok (.goto 12, 3) := by decide +kernel
theorem d_Explorer_holdBack_34 : decode prog_5_method_10_code 34 = .ok (.aload_n 0, 1) := by decide +kernel
theorem d_Explorer_holdBack_35 : decode prog_5_method_10_code 35 = .ok (.getfield 17, 3) := by decide +kernel
theorem d_Explorer_holdBack_38 : decode prog_5_method_10_code 38 = .ok (.aload_n 0, 1) := by decide +kernel
theorem d_Explorer_holdBack_39 : decode prog_5_method_10_code 39 = .ok (.getfield 49, 3) := by decide +kernel
theorem d_Explorer_holdBack_42 : decode prog_5_method_10_code 42 = .ok (.aaload, 1) := by decide +kernel
theorem d_Explorer_holdBack_10 : decode prog_5_method_10_code 10 = .ok (.iconst 0, 1) := by decide +kernel
theorem d_Explorer_holdBack_11 : decode prog_5_method_10_code 11 = .ok (.ireturn, 1) := by decide +kernel
abbrev y_Explorer_holdBack : MethodName := ⟨"FilterGuard$Explorer", "holdBack", "(I)Z"⟩
def rm_Explorer_holdBack (N0 : Nat → Nat) : Room := { frames := 4, cells := me_CL - me_cN N0, slots := me_SL - me_sN N0, locals := 91 }
abbrev q_Explorer_holdBack (D : va_G) (ad0 : Nat → Nat → Nat) (ca : Nat → ClassId) (N0 : Nat → Nat) (MZ : me_M) (RZ : Int32) (A : Nat → Prop) : Array Value → Jvm.State → Outcome → Jvm.State → Prop := va_Qi (fun r (u : Nat → Nat → Nat) => r = RZ ∧ al_P ad0 N0 MZ u ∧ (RZ = 1 ∨ RZ = 0)) (fg_B D A (fun u => me_W u ca MZ) (fun _ => [])) A
set_option maxHeartbeats 4000000 in
set_option maxRecDepth 100000 in
theorem c_Explorer_holdBack (l : Launch) (D : va_G) (ad0 : Nat → Nat → Nat) (ca : Nat → ClassId) (N0 : Nat → Nat) (M0 MZ : me_M) (RZ : Int32) (j0 : Nat) (x1 : Int32) (h : f_Explorer_holdBack M0 j0 x1 = (some (MZ, RZ))) (hwf : me_wf N0 M0) (hcl : me_cN N0 ≤ me_CL ∧ me_sN N0 ≤ me_SL) (hj0 : j0 < N0 4) (sz : Nat) : Met l y_Explorer_holdBack (fg_w y_Explorer_holdBack prog_5_method_10_code 3 (some .boolean)) (rm_Explorer_holdBack N0) (va_Pc [.ref (ad0 4 j0), .int x1] (fz_P D (me_T ca) (me_W ad0 ca M0) sz)) (q_Explorer_holdBack D ad0 ca N0 MZ RZ (va_A (me_W ad0 ca M0) sz)) (me_cN (mN MZ) - me_cN N0) (me_sN (mN MZ) - me_sN N0) (va_A (me_W ad0 ca M0) sz) := by
  refine fz_enter (fun A => q_Explorer_holdBack D ad0 ca N0 MZ RZ A) (by decide +kernel) (Nat.le_of_ble_eq_true rfl) ?_
  intro p e s m below meth c ls A hx hb hml hown hts hr hlocks hin hP hK hD hS hA hX hl hz
  refine W.widen (k := me_cN N0 - me_cN N0) (n := me_sN N0 - me_sN N0) (Nat.zero_le _) (Nat.zero_le _) ?_
  unfold f_Explorer_holdBack at h
  have hok : me_ok N0 N0 := me_ok.rf hcl
  have b_43 : ∀ (ad : Nat → Nat → Nat) (N : Nat → Nat) (M : me_M) (s0 : Nat) (H : Heap) (locs : List Loc) (ls : Array Slot), f_Explorer_holdBack_b43 j0 x1 M s0 = (some (MZ, RZ)) → (s0 < N 9) → me_wf N M → me_ok N0 N → (∀ a b, b < N0 a → ad a b = ad0 a b) → va_P D classes (me_W ad ca M) H → va_D A (me_W ad ca M) → va_S A s.heap H locs → lv_has ls 3 [(0, .ref (ad 4 j0)), (1, .int x1)] → W p l e (rm_Explorer_holdBack N0) s m [.ref (ad0 4 j0), .int x1].toArray below meth c H locs (me_cN N - me_cN N0) (me_sN N - me_sN N0) (MQ below (q_Explorer_holdBack D ad0 ca N0 MZ RZ A) [.ref (ad0 4 j0), .int x1].toArray s (me_cN (mN MZ) - me_cN N0) (me_sN (mN MZ) - me_sN N0) A) (F0 m 43 ls [.ref (ad 9 s0)]) := by
    intro ad N M s0 H locs ls h hs0 hwf hok hext0 hP hD hS hl
    unfold f_Explorer_holdBack_b43 at h
    have hj0 : j0 < N 4 := Nat.lt_of_lt_of_le hj0 (hok.2.2.2.2 4)
    refine lv_astore_n (lv' := [(2, .ref (ad 9 s0)), (0, .ref (ad 4 j0)), (1, .int x1)]) hx hb d_Explorer_holdBack_43 rfl hl (by decide) rfl (fun ls hl => ?_)
    refine lv_aload_n hx hb d_Explorer_holdBack_44 rfl (lv_at hl 0 rfl) ?_
    refine lv_aload_n hx hb d_Explorer_holdBack_45 rfl (lv_at hl 1 rfl) ?_
    refine g_Explorer_8 hx hb hts hown hK hP hwf hj0 (hts _ u_554) d_Explorer_holdBack_46 ?_
    obtain ⟨j1, e2, h⟩ := bd_ob h
    have hj1 : j1 < N 9 := (hwf.2.1 4 j0 8 _ e2 (by decide) hj0)
    refine me_opt (j := j1) e2 ?_
    obtain ⟨M3, eM3, h⟩ := bd_ob h
    refine me_thenv0 (M1 := M3) (me_runV (C := "FilterGuard$State") (As := [.ref (ad 9 j1)]) (rest := []) ⟨hx, hb, hml, hown, hts⟩ (c_State_copy l D ad ca N M M3 s0 j1 eM3 hwf hs0 hj1 _) rfl (by show fg_nm y_State_copy 1; decide +kernel) u_1074 u_1075 u_1076 u_189 u_1077 ⟨Nat.le_of_ble_eq_true rfl, Nat.le_of_ble_eq_true rfl⟩ hX hz hK hP hD hwf hS hA hs0 (by decide) rfl rfl rfl hl.1 (Nat.le_of_ble_eq_true rfl) d_Explorer_holdBack_49 (al_f hok)) hP hD hK hS hA rfl rfl (fun H locs hw hP hD hS => ?_)
    obtain ⟨hwf, hk9⟩ := hw
    refine lv_aload_n hx hb d_Explorer_holdBack_52 rfl (lv_at hl 0 rfl) ?_
    refine lv_iload_n hx hb d_Explorer_holdBack_53 rfl (lv_at hl 2 rfl) ?_
    obtain ⟨M4, eM4, h⟩ := st_ob h
    refine p_State_2 eM4 hx hb hts hown hK hP hD hwf hS hs0 (hts _ u_531) d_Explorer_holdBack_54 (fun H locs hP hD hwf hS => ?_)
    refine lv_aload_n hx hb d_Explorer_holdBack_57 rfl (lv_at hl 1 rfl) ?_
    refine g_Explorer_2 hx hb hts hown hK hP hwf hj0 (hts _ u_548) d_Explorer_holdBack_58 ?_
    obtain ⟨j5, e6, h⟩ := bd_ob h
    have hj5 : j5 < N 7 := (hwf.2.1 4 j0 2 _ e6 (by decide) hj0)
    refine me_opt (j := j5) e6 ?_
    refine lv_aload_n hx hb d_Explorer_holdBack_61 rfl (lv_at hl 0 rfl) ?_
    refine lv_iconst (v := 1) hx hb d_Explorer_holdBack_62 (by decide) ?_
    obtain ⟨M7, eM7, h⟩ := bd_ob h
    refine me_thenv0 (M1 := M7) (me_runV (C := "FilterGuard$Steps") (As := [.ref (ad 9 s0), .int 1]) (rest := []) ⟨hx, hb, hml, hown, hts⟩ (c_Steps_tellWay l D ad ca N M4 M7 j5 s0 (1 : Int32) eM7 hwf hj5 hs0 (by decide) _) rfl (by show fg_nm y_Steps_tellWay 2; decide +kernel) u_1427 u_1428 u_1429 u_185 u_1430 ⟨Nat.le_of_ble_eq_true rfl, Nat.le_of_ble_eq_true rfl⟩ hX hz hK hP hD hwf hS hA hj5 (by decide) rfl rfl rfl hl.1 (Nat.le_of_ble_eq_true rfl) d_Explorer_holdBack_63 (al_f hok)) hP hD hK hS hA rfl rfl (fun H locs hw hP hD hS => ?_)
    obtain ⟨hwf, hk9⟩ := hw
    refine lv_aload_n hx hb d_Explorer_holdBack_66 rfl (lv_at hl 1 rfl) ?_
    refine g_Explorer_4 hx hb hts hown hK hP hwf hj0 (hts _ u_550) d_Explorer_holdBack_67 ?_
    obtain ⟨j8, e9, h⟩ := bd_ob h
    have hj8 : j8 < N 17 := (hwf.2.1 4 j0 4 _ e9 (by decide) hj0)
    refine me_opt (j := j8) e9 ?_
    refine lv_aload_n hx hb d_Explorer_holdBack_70 rfl (lv_at hl 1 rfl) ?_
    refine g_Explorer_9 hx hb hts hown hK hP hwf hj0 (hts _ u_555) d_Explorer_holdBack_71 ?_
    refine lv_aload_n hx hb d_Explorer_holdBack_74 rfl (lv_at hl 0 rfl) ?_
    obtain ⟨g10, h⟩ := gd_ob h
    obtain ⟨M11, eM11, h⟩ := st_ob h
    refine me_aast (k := 17) (t := 9) eM11 hx hb hK hP hD hwf hS hj8 hs0 (by decide) (by decide) (by decide) rfl rfl (fun _ => rfl) g10 d_Explorer_holdBack_75 (fun H locs hP hD hwf hS => ?_)
    refine lv_aload_n hx hb d_Explorer_holdBack_76 rfl (lv_at hl 1 rfl) ?_
    refine lv_dup hx hb d_Explorer_holdBack_77 rfl ?_
    refine g_Explorer_9 hx hb hts hown hK hP hwf hj0 (hts _ u_555) d_Explorer_holdBack_78 ?_
    refine lv_iconst (v := 1) hx hb d_Explorer_holdBack_81 (by decide) ?_
    refine lv_iadd hx hb d_Explorer_holdBack_82 ?_
    obtain ⟨M12, eM12, h⟩ := st_ob h
    refine p_Explorer_9 eM12 hx hb hts hown hK hP hD hwf hS hj0 (hts _ u_555) d_Explorer_holdBack_83 (fun H locs hP hD hwf hS => ?_)
    refine lv_aload_n hx hb d_Explorer_holdBack_86 rfl (lv_at hl 1 rfl) ?_
    refine lv_aload_n hx hb d_Explorer_holdBack_87 rfl (lv_at hl 1 rfl) ?_
    refine g_Explorer_13 hx hb hts hown hK hP hwf hj0 (hts _ u_561) d_Explorer_holdBack_88 ?_
    refine lv_aload_n hx hb d_Explorer_holdBack_91 rfl (lv_at hl 1 rfl) ?_
    refine g_Explorer_9 hx hb hts hown hK hP hwf hj0 (hts _ u_555) d_Explorer_holdBack_92 ?_
    refine al_mmax hok (by rfl) (by rfl) hx hb (hml.trans hl.1.symm) hown (hts _ u_1433) (hts _ u_1361) (hts _ u_193) (hts _ u_1362) (Nat.le_of_ble_eq_true rfl) (Nat.le_of_ble_eq_true rfl)  d_Explorer_holdBack_95 ?_
    refine fg_topi (y := jimax (mI M12 4 j0 13) (mI M12 4 j0 9)) rfl ?_
    obtain ⟨M13, eM13, h⟩ := st_ob h
    refine p_Explorer_13 eM13 hx hb hts hown hK hP hD hwf hS hj0 (hts _ u_561) d_Explorer_holdBack_98 (fun H locs hP hD hwf hS => ?_)
    refine lv_iconst (v := 1) hx hb d_Explorer_holdBack_101 (by decide) ?_
    exact al_retz h (by decide) hx hb hr hlocks hwf hok hext0 hP hK hD hS d_Explorer_holdBack_102
  obtain ⟨ad, N, hext0, hok, hwf, hP, hD, hN9, had9, hj0⟩ : ∃ (ad : Nat → Nat → Nat) (N : Nat → Nat), (∀ a b, b < N0 a → ad a b = ad0 a b) ∧ me_ok N0 N ∧ me_wf N M0 ∧ va_P D classes (me_W ad ca M0) s.heap ∧ va_D A (me_W ad ca M0) ∧ N = N0 ∧ ad = ad0 ∧ j0 < N 4 := ⟨ad0, N0, fun _ _ _ => rfl, hok, hwf, hP, hD, rfl, rfl, hj0⟩
  have hl : lv_has ls 3 [(0, .ref (ad 4 j0)), (1, .int x1)] := by rw [had9]; exact hl
  have hcs : W p l e (rm_Explorer_holdBack N0) s m [.ref (ad0 4 j0), .int x1].toArray below meth c s.heap [] (me_cN N - me_cN N0) (me_sN N - me_sN N0) (MQ below (q_Explorer_holdBack D ad0 ca N0 MZ RZ A) [.ref (ad0 4 j0), .int x1].toArray s (me_cN (mN MZ) - me_cN N0) (me_sN (mN MZ) - me_sN N0) A) (F0 m 0 ls []) := by
    clear had9
    refine lv_aload_n hx hb d_Explorer_holdBack_0 rfl (lv_at hl 0 rfl) ?_
    refine g_Explorer_9 hx hb hts hown hK hP hwf hj0 (hts _ u_555) d_Explorer_holdBack_1 ?_
    refine lv_sipush (v := 200) hx hb d_Explorer_holdBack_4 (by decide) ?_
    refine lv_icmp_lt (tgt := 12) hx hb d_Explorer_holdBack_7 (by decide) (fun c14 => ?_) (fun c14 => ?_)
    · have h := if_t c14 h
      refine lv_aload_n hx hb d_Explorer_holdBack_12 rfl (lv_at hl 0 rfl) ?_
      refine g_Explorer_4 hx hb hts hown hK hP hwf hj0 (hts _ u_550) d_Explorer_holdBack_13 ?_
      obtain ⟨j15, e16, h⟩ := bd_ob h
      have hj15 : j15 < N 17 := (hwf.2.1 4 j0 4 _ e16 (by decide) hj0)
      refine me_opt (j := j15) e16 ?_
      refine lv_aload_n hx hb d_Explorer_holdBack_16 rfl (lv_at hl 0 rfl) ?_
      refine g_Explorer_9 hx hb hts hown hK hP hwf hj0 (hts _ u_555) d_Explorer_holdBack_17 ?_
      obtain ⟨g17, h⟩ := gd_ob h
      refine me_aald (k := 17) (t := 9) hx hb hK hP hwf hj15 (by decide) (by decide) rfl (fun _ => rfl) g17 d_Explorer_holdBack_20 ?_
      rcases e19 : (mR M0 17 j15 ((mI M0 4 j0 9).toNatClampNeg)) with _ | j18
      · have h := oc_n2 e19 h
        refine lv_ifnonnullN hx hb d_Explorer_holdBack_21 ?_
        obtain ⟨g20, h⟩ := gd_ob h
        obtain ⟨M21, eM21, h⟩ := st_ob h
        refine al_new (k := 9) (fs := [.null, .int 0, .int 0, .int 0, .int 0]) (C := "FilterGuard$State") (T := F_State) (Nf := 5) eM21 g20 hx hb hts i_State t_State t_State_ok hown (hts _ u_347) (hts _ u_515) (hts _ u_189) hK hP hD hwf hok hS hA (by decide) rfl (by decide) z_State rfl rfl rfl d_Explorer_holdBack_24 (fun ad N H hext hNN hn22 hwf hok1 hP hD hS => ?_)
        have hext0 := al_ext hext hext0 hok
        have hok := hok1
        have hl : lv_has ls 3 [(0, .ref (ad 4 j0)), (1, .int x1)] := by rw [hext 4 j0 hj0]; exact hl
        have hj0 : j0 < N 4 := Nat.lt_of_lt_of_le hj0 (hNN 4)
        refine lv_dup hx hb d_Explorer_holdBack_27 rfl ?_
        obtain ⟨M23, eM23, h⟩ := bd_ob h
        refine al_thenv (M1 := M23) (al_runI (As := []) (rest := [.ref (ad 9 (mN M0 9))]) ⟨hx, hb, hml, hown, hts⟩ (c_State_init l D ad ca N M21 M23 (mN M0 9) eM23 hwf ⟨hok.2.2.1, hok.2.2.2.1⟩ hn22 _) rfl (by show fg_nm y_State_init 0; decide +kernel) u_516 u_517 u_189 u_518 ⟨Nat.le_of_ble_eq_true rfl, Nat.le_of_ble_eq_true rfl⟩ hX hz hK hP hD hS hA rfl hl.1 (Nat.le_of_ble_eq_true rfl) d_Explorer_holdBack_28 (al_g hok)) hP hD hok hK hS hA (fun ad N H locs hext hNN hwf hok1 heN hq9 hP hD hS => ?_)
        have hext0 := al_ext hext hext0 hok
        have hok := hok1
        have hl : lv_has ls 3 [(0, .ref (ad 4 j0)), (1, .int x1)] := by rw [hext 4 j0 hj0]; exact hl
        refine W.eq (g2 := F0 m 31 ls [.ref (ad 9 (mN M0 9))]) (by rw [hext 9 (mN M0 9) hn22]) ?_
        have hj0 : j0 < N 4 := Nat.lt_of_lt_of_le hj0 (hNN 4)
        have hn22 : (mN M0 9) < N 9 := Nat.lt_of_lt_of_le hn22 (hNN 9)
        refine lv_goto (tgt := 43) hx hb d_Explorer_holdBack_31 (by decide) ?_
        exact b_43 ad N M23 (mN M0 9) _ _ _ h hn22 hwf hok hext0 hP hD hS (lv_sub hl [0, 1] rfl)
      have h := oc_s2 e19 h
      refine lv_ifnonnull (tgt := 34) hx hb d_Explorer_holdBack_21 (by decide) ?_
      refine lv_aload_n hx hb d_Explorer_holdBack_34 rfl (lv_at hl 0 rfl) ?_
      refine g_Explorer_4 hx hb hts hown hK hP hwf hj0 (hts _ u_550) d_Explorer_holdBack_35 ?_
      refine me_opt (j := j15) e16 ?_
      refine lv_aload_n hx hb d_Explorer_holdBack_38 rfl (lv_at hl 0 rfl) ?_
      refine g_Explorer_9 hx hb hts hown hK hP hwf hj0 (hts _ u_555) d_Explorer_holdBack_39 ?_
      refine me_aald (k := 17) (t := 9) hx hb hK hP hwf hj15 (by decide) (by decide) rfl (fun _ => rfl) g17 d_Explorer_holdBack_42 ?_
      obtain ⟨j24, e25, h⟩ := bd_ob h
      have hj24 : j24 < N 9 := (hwf.2.1 17 j15 ((mI M0 4 j0 9).toNatClampNeg) _ e25 (by decide) hj15)
      refine me_opt (j := j24) e25 ?_
      exact b_43 ad N M0 j24 _ _ _ h hj24 hwf hok hext0 hP hD hS (lv_sub hl [0, 1] rfl)
    have h := if_f c14 h
    refine lv_iconst (v := 0) hx hb d_Explorer_holdBack_10 (by decide) ?_
    exact al_retz h (by decide) hx hb hr hlocks hwf hok hext0 hP hK hD hS d_Explorer_holdBack_11
  rw [hN9] at hcs
  exact hcs
