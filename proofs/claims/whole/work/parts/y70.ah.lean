theorem d_Code_isShaped_0 : decode prog_4_method_18_code 0 = .ok (.aload_n 0, 1) := by decide +kernel
theorem d_Code_isShaped_1 : decode prog_4_method_18_code 1 = .ok (.getfield 55, 3) := by decide +kernel
theorem d_Code_isShaped_4 : decode prog_4_method_18_code 4 = .ok (.tableswitch 270 1 10 #[56, 124, 124, 137, 124, 150, 182, 177, 209, 236], 56) := by decide +kernel
theorem d_Code_isShaped_60 : decode prog_4_method_18_code 60 = .ok (.aload_n 0, 1) := by decide +kernel
theorem d_Code_isShaped_61 : decode prog_4_method_18_code 61 = .ok (.getfield 38, 3) := by decide +kernel
theorem g_Code_8 {p : Program} {l : Launch} {e : Env} {R : Room} {s : Jvm.State} {m : MethodId} {args : Array Value} {below : List Frame} {meth : Method} {c : Code} {H : Heap} {locs : List Loc} {cells slots : Nat} {Q : Jvm.State → Prop} {cc : ByteArray} {pc : Nat} {ls : Array Slot} {rest : List Value} {D : va_G} {ad : Nat → Nat → Nat} {ca : Nat → ClassId} {M : me_M} {N : Nat → Nat} {own : String} {index j : Nat} (hexec : p.tables.exec = Jvm.exec) (hb : c.code = cc) (hts : ∀ w ∈ fg_g, w.before args s = true) (hown : s.vm.findClass own = some m.cls) (hK : va_K D classes (me_T ca) s) (hP : va_P D classes (me_W ad ca M) H) (hwf : me_wf N M) (hj : j < N 2) (hlink : (Cond.fieldLink own index "FilterGuard$Code" "offset" "I").before args s = true) (hdg : decode cc pc = .ok (.getfield index, 3)) (kk : W p l e R s m args below meth c H locs cells slots Q (F0 m (pc + 3) ls (.int (mI M 2 j 8) :: rest))) : W p l e R s m args below meth c H locs cells slots Q (F0 m pc ls (.ref (ad 2 j) :: rest)) := me_get (k := 2) (f := 8) (C := "FilterGuard$Code") (T := F_Code) (Nf := 16) hexec hb hts i_Code hown hK hP hwf hj (by decide) rfl (by decide) (by decide) hlink (fun _ h9 => h9) hdg kk
theorem d_Code_isShaped_64 : decode prog_4_method_18_code 64 = .ok (.ifCond .ne 62, 3) := by decide +kernel
theorem d_Code_isShaped_126 : decode prog_4_method_18_code 126 = .ok (.iconst 0, 1) := by decide +kernel
theorem d_Code_isShaped_127 : decode prog_4_method_18_code 127 = .ok (.ireturn, 1) := by decide +kernel
theorem d_Code_isShaped_67 : decode prog_4_method_18_code 67 = .ok (.aload_n 0, 1) := by decide +kernel
theorem d_Code_isShaped_68 : decode prog_4_method_18_code 68 = .ok (.getfield 35, 3) := by decide +kernel
theorem d_Code_isShaped_71 : decode prog_4_method_18_code 71 = .ok (.iconst 1, 1) := by decide +kernel
theorem d_Code_isShaped_72 : decode prog_4_method_18_code 72 = .ok (.if_icmp .gt 54, 3) := by decide +kernel
theorem d_Code_isShaped_75 : decode prog_4_method_18_code 75 = .ok (.iload_n 1, 1) := by decide +kernel
theorem d_Code_isShaped_76 : decode prog_4_method_18_code 76 = .ok (.iconst 1, 1) := by decide +kernel
theorem d_Code_isShaped_77 : decode prog_4_method_18_code 77 = .ok (.iadd, 1) := by decide +kernel
theorem d_Code_isShaped_78 : decode prog_4_method_18_code 78 = .ok (.aload_n 0, 1) := by decide +kernel
theorem d_Code_isShaped_79 : decode prog_4_method_18_code 79 = .ok (.getfield 22, 3) := by decide +kernel
theorem d_Code_isShaped_82 : decode prog_4_method_18_code 82 = .ok (.if_icmp .ge 44, 3) := by decide +kernel
theorem d_Code_isShaped_85 : decode prog_4_method_18_code 85 = .ok (.aload_n 0, 1) := by decide +kernel
theorem d_Code_isShaped_86 : decode prog_4_method_18_code 86 = .ok (.getfield 9, 3) := by decide +kernel
theorem d_Code_isShaped_89 : decode prog_4_method_18_code 89 = .ok (.iload_n 1, 1) := by decide +kernel
theorem d_Code_isShaped_90 : decode prog_4_method_18_code 90 = .ok (.iconst 1, 1) := by decide +kernel
theorem d_Code_isShaped_91 : decode prog_4_method_18_code 91 = .ok (.iadd, 1) := by decide +kernel
theorem d_Code_isShaped_92 : decode prog_4_method_18_code 92 = .ok (.laload, 1) := by decide +kernel
theorem d_Code_isShaped_93 : decode prog_4_method_18_code 93 = .ok (.ldc2_w 86, 3) := by decide +kernel
theorem u_987 : Cond.constantLong "FilterGuard$Code" 86 4294967295 ∈ fg_g := fg_in (List.mem_of_getElem? (i := 987) (by decide +kernel)) rfl
theorem d_Code_isShaped_96 : decode prog_4_method_18_code 96 = .ok (.land, 1) := by decide +kernel
theorem d_Code_isShaped_97 : decode prog_4_method_18_code 97 = .ok (.lconst 0, 1) := by decide +kernel
theorem d_Code_isShaped_98 : decode prog_4_method_18_code 98 = .ok (.lcmp, 1) := by decide +kernel
theorem d_Code_isShaped_99 : decode prog_4_method_18_code 99 = .ok (.ifCond .ne 27, 3) := by decide +kernel
theorem d_Code_isShaped_102 : decode prog_4_method_18_code 102 = .ok (.aload_n 0, 1) := by decide +kernel
theorem d_Code_isShaped_103 : decode prog_4_method_18_code 103 = .ok (.getfield 35, 3) := by decide +kernel
theorem d_Code_isShaped_106 : decode prog_4_method_18_code 106 = .ok (.ifCond .eq 16, 3) := by decide +kernel
theorem d_Code_isShaped_122 : decode prog_4_method_18_code 122 = .ok (.iconst 1, 1) := by decide +kernel
theorem d_Code_isShaped_123 : decode prog_4_method_18_code 123 = .ok (.goto 4, 3) := by decide +kernel
theorem d_Code_isShaped_109 : decode prog_4_method_18_code 109 = .ok (.aload_n 0, 1) := by decide +kernel
theorem d_Code_isShaped_110 : decode prog_4_method_18_code 110 = .ok (.getfield 9, 3) := by decide +kernel
theorem d_Code_isShaped_113 : decode prog_4_method_18_code 113 = .ok (.iload_n 1, 1) := by decide +kernel
theorem d_Code_isShaped_114 : decode prog_4_method_18_code 114 = .ok (.iconst 1, 1) := by decide +kernel
theorem d_Code_isShaped_115 : decode prog_4_method_18_code 115 = .ok (.iadd, 1) := by decide +kernel
theorem d_Code_isShaped_116 : decode prog_4_method_18_code 116 = .ok (.laload, 1) := by decide +kernel
theorem d_Code_isShaped_117 : decode prog_4_method_18_code 117 = .ok (.lconst 0, 1) := by decide +kernel
theorem d_Code_isShaped_118 : decode prog_4_method_18_code 118 = .ok (.lcmp, 1) := by decide +kernel
theorem d_Code_isShaped_119 : decode prog_4_method_18_code 119 = .ok (.ifCond .ne 7, 3) := by decide +kernel
theorem d_Code_isShaped_128 : decode prog_4_method_18_code 128 = .ok (.aload_n 0, 1) := by decide +kernel
theorem d_Code_isShaped_129 : decode prog_4_method_18_code 129 = .ok (.getfield 41, 3) := by decide +kernel
theorem d_Code_isShaped_132 : decode prog_4_method_18_code 132 = .ok (.ifCond .ne 7, 3) := by decide +kernel
theorem d_Code_isShaped_139 : decode prog_4_method_18_code 139 = .ok (.iconst 0, 1) := by decide +kernel
theorem d_Code_isShaped_140 : decode prog_4_method_18_code 140 = .ok (.ireturn, 1) := by decide +kernel
theorem d_Code_isShaped_135 : decode prog_4_method_18_code 135 = .ok (.iconst 1, 1) := by decide +kernel
theorem d_Code_isShaped_136 : decode prog_4_method_18_code 136 = .ok (.goto 4, 3) := by decide +kernel
theorem d_Code_isShaped_141 : decode prog_4_method_18_code 141 = .ok (.aload_n 0, 1) := by decide +kernel
theorem d_Code_isShaped_142 : decode prog_4_method_18_code 142 = .ok (.getfield 35, 3) := by decide +kernel
theorem d_Code_isShaped_145 : decode prog_4_method_18_code 145 = .ok (.ifCond .ne 7, 3) := by decide +kernel
theorem d_Code_isShaped_152 : decode prog_4_method_18_code 152 = .ok (.iconst 0, 1) := by decide +kernel
theorem d_Code_isShaped_153 : decode prog_4_method_18_code 153 = .ok (.ireturn, 1) := by decide +kernel
theorem d_Code_isShaped_148 : decode prog_4_method_18_code 148 = .ok (.iconst 1, 1) := by decide +kernel
theorem d_Code_isShaped_149 : decode prog_4_method_18_code 149 = .ok (.goto 4, 3) := by decide +kernel
theorem d_Code_isShaped_154 : decode prog_4_method_18_code 154 = .ok (.aload_n 0, 1) := by decide +kernel
theorem d_Code_isShaped_155 : decode prog_4_method_18_code 155 = .ok (.getfield 38, 3) := by decide +kernel
theorem d_Code_isShaped_158 : decode prog_4_method_18_code 158 = .ok (.ifCond .ne 21, 3) := by decide +kernel
theorem d_Code_isShaped_179 : decode prog_4_method_18_code 179 = .ok (.iconst 0, 1) := by decide +kernel
theorem d_Code_isShaped_180 : decode prog_4_method_18_code 180 = .ok (.ireturn, 1) := by decide +kernel
theorem d_Code_isShaped_161 : decode prog_4_method_18_code 161 = .ok (.aload_n 0, 1) := by decide +kernel
theorem d_Code_isShaped_162 : decode prog_4_method_18_code 162 = .ok (.invokevirtual 114, 3) := by decide +kernel
theorem u_988 : Cond.methodLink "FilterGuard$Code" 114 ⟨"FilterGuard$Code", "isOneOperand", "()Z"⟩ ∈ fg_g := fg_in (List.mem_of_getElem? (i := 988) (by decide +kernel)) rfl
theorem u_991 : Cond.code ⟨"FilterGuard$Code", "isOneOperand", "()Z"⟩ prog_4_method_19_code 1 (some .boolean) ∈ fg_g := fg_in (List.mem_of_getElem? (i := 991) (by decide +kernel)) rfl
theorem u_990 : Cond.instanceMethod ⟨"FilterGuard$Code", "isOneOperand", "()Z"⟩ ∈ fg_g := fg_in (List.mem_of_getElem? (i := 990) (by decide +kernel)) rfl
theorem u_8 : Cond.selects "FilterGuard$Code" ⟨"FilterGuard$Code", "isOneOperand", "()Z"⟩ ⟨"FilterGuard$Code", "isOneOperand", "()Z"⟩ ∈ fg_g := fg_in (List.mem_of_getElem? (i := 8) (by decide +kernel)) rfl
theorem d_Code_isShaped_165 : decode prog_4_method_18_code 165 = .ok (.ifCond .eq 14, 3) := by decide +kernel
theorem d_Code_isShaped_168 : decode prog_4_method_18_code 168 = .ok (.aload_n 0, 1) := by decide +kernel
theorem d_Code_isShaped_169 : decode prog_4_method_18_code 169 = .ok (.invokevirtual 117, 3) := by decide +kernel
theorem u_992 : Cond.methodLink "FilterGuard$Code" 117 ⟨"FilterGuard$Code", "isFieldShaped", "()Z"⟩ ∈ fg_g := fg_in (List.mem_of_getElem? (i := 992) (by decide +kernel)) rfl
theorem u_995 : Cond.code ⟨"FilterGuard$Code", "isFieldShaped", "()Z"⟩ prog_4_method_20_code 1 (some .boolean) ∈ fg_g := fg_in (List.mem_of_getElem? (i := 995) (by decide +kernel)) rfl
theorem u_994 : Cond.instanceMethod ⟨"FilterGuard$Code", "isFieldShaped", "()Z"⟩ ∈ fg_g := fg_in (List.mem_of_getElem? (i := 994) (by decide +kernel)) rfl
theorem u_9 : Cond.selects "FilterGuard$Code" ⟨"FilterGuard$Code", "isFieldShaped", "()Z"⟩ ⟨"FilterGuard$Code", "isFieldShaped", "()Z"⟩ ∈ fg_g := fg_in (List.mem_of_getElem? (i := 9) (by decide +kernel)) rfl
theorem d_Code_isShaped_172 : decode prog_4_method_18_code 172 = .ok (.ifCond .eq 7, 3) := by decide +kernel
theorem d_Code_isShaped_175 : decode prog_4_method_18_code 175 = .ok (.iconst 1, 1) := by decide +kernel
theorem d_Code_isShaped_176 : decode prog_4_method_18_code 176 = .ok (.goto 4, 3) := by decide +kernel
theorem d_Code_isShaped_186 : decode prog_4_method_18_code 186 = .ok (.aload_n 0, 1) := by decide +kernel
theorem d_Code_isShaped_187 : decode prog_4_method_18_code 187 = .ok (.getfield 41, 3) := by decide +kernel
theorem d_Code_isShaped_190 : decode prog_4_method_18_code 190 = .ok (.ifCond .ne 21, 3) := by decide +kernel
theorem d_Code_isShaped_211 : decode prog_4_method_18_code 211 = .ok (.iconst 0, 1) := by decide +kernel
theorem d_Code_isShaped_212 : decode prog_4_method_18_code 212 = .ok (.ireturn, 1) := by decide +kernel
theorem d_Code_isShaped_193 : decode prog_4_method_18_code 193 = .ok (.aload_n 0, 1) := by decide +kernel
theorem d_Code_isShaped_194 : decode prog_4_method_18_code 194 = .ok (.getfield 32, 3) := by decide +kernel
theorem g_Code_6 {p : Program} {l : Launch} {e : Env} {R : Room} {s : Jvm.State} {m : MethodId} {args : Array Value} {below : List Frame} {meth : Method} {c : Code} {H : Heap} {locs : List Loc} {cells slots : Nat} {Q : Jvm.State → Prop} {cc : ByteArray} {pc : Nat} {ls : Array Slot} {rest : List Value} {D : va_G} {ad : Nat → Nat → Nat} {ca : Nat → ClassId} {M : me_M} {N : Nat → Nat} {own : String} {index j : Nat} (hexec : p.tables.exec = Jvm.exec) (hb : c.code = cc) (hts : ∀ w ∈ fg_g, w.before args s = true) (hown : s.vm.findClass own = some m.cls) (hK : va_K D classes (me_T ca) s) (hP : va_P D classes (me_W ad ca M) H) (hwf : me_wf N M) (hj : j < N 2) (hlink : (Cond.fieldLink own index "FilterGuard$Code" "to" "I").before args s = true) (hdg : decode cc pc = .ok (.getfield index, 3)) (kk : W p l e R s m args below meth c H locs cells slots Q (F0 m (pc + 3) ls (.int (mI M 2 j 6) :: rest))) : W p l e R s m args below meth c H locs cells slots Q (F0 m pc ls (.ref (ad 2 j) :: rest)) := me_get (k := 2) (f := 6) (C := "FilterGuard$Code") (T := F_Code) (Nf := 16) hexec hb hts i_Code hown hK hP hwf hj (by decide) rfl (by decide) (by decide) hlink (fun _ h9 => h9) hdg kk
theorem d_Code_isShaped_197 : decode prog_4_method_18_code 197 = .ok (.ifCond .ne 14, 3) := by decide +kernel
theorem d_Code_isShaped_200 : decode prog_4_method_18_code 200 = .ok (.aload_n 0, 1) := by decide +kernel
theorem d_Code_isShaped_201 : decode prog_4_method_18_code 201 = .ok (.getfield 35, 3) := by decide +kernel
theorem d_Code_isShaped_204 : decode prog_4_method_18_code 204 = .ok (.ifCond .ne 7, 3) := by decide +kernel
theorem d_Code_isShaped_207 : decode prog_4_method_18_code 207 = .ok (.iconst 1, 1) := by decide +kernel
theorem d_Code_isShaped_208 : decode prog_4_method_18_code 208 = .ok (.goto 4, 3) := by decide +kernel
theorem d_Code_isShaped_181 : decode prog_4_method_18_code 181 = .ok (.aload_n 0, 1) := by decide +kernel
theorem d_Code_isShaped_182 : decode prog_4_method_18_code 182 = .ok (.invokevirtual 114, 3) := by decide +kernel
theorem d_Code_isShaped_185 : decode prog_4_method_18_code 185 = .ok (.ireturn, 1) := by decide +kernel
theorem d_Code_isShaped_213 : decode prog_4_method_18_code 213 = .ok (.aload_n 0, 1) := by decide +kernel
theorem d_Code_isShaped_214 : decode prog_4_method_18_code 214 = .ok (.getfield 38, 3) := by decide +kernel
theorem d_Code_isShaped_217 : decode prog_4_method_18_code 217 = .ok (.ifCond .ne 21, 3) := by decide +kernel
theorem d_Code_isShaped_238 : decode prog_4_method_18_code 238 = .ok (.iconst 0, 1) := by decide +kernel
theorem d_Code_isShaped_239 : decode prog_4_method_18_code 239 = .ok (.ireturn, 1) := by decide +kernel
theorem d_Code_isShaped_220 : decode prog_4_method_18_code 220 = .ok (.aload_n 0, 1) := by decide +kernel
theorem d_Code_isShaped_221 : decode prog_4_method_18_code 221 = .ok (.getfield 32, 3) := by decide +kernel
theorem d_Code_isShaped_224 : decode prog_4_method_18_code 224 = .ok (.ifCond .ne 14, 3) := by decide +kernel
theorem d_Code_isShaped_227 : decode prog_4_method_18_code 227 = .ok (.aload_n 0, 1) := by decide +kernel
theorem d_Code_isShaped_228 : decode prog_4_method_18_code 228 = .ok (.getfield 35, 3) := by decide +kernel
theorem d_Code_isShaped_231 : decode prog_4_method_18_code 231 = .ok (.ifCond .ne 7, 3) := by decide +kernel
theorem d_Code_isShaped_234 : decode prog_4_method_18_code 234 = .ok (.iconst 1, 1) := by decide +kernel
theorem d_Code_isShaped_235 : decode prog_4_method_18_code 235 = .ok (.goto 4, 3) := by decide +kernel
theorem d_Code_isShaped_240 : decode prog_4_method_18_code 240 = .ok (.aload_n 0, 1) := by decide +kernel
theorem d_Code_isShaped_241 : decode prog_4_method_18_code 241 = .ok (.getfield 41, 3) := by decide +kernel
theorem d_Code_isShaped_244 : decode prog_4_method_18_code 244 = .ok (.ifCond .ne 28, 3) := by decide +kernel
theorem d_Code_isShaped_272 : decode prog_4_method_18_code 272 = .ok (.iconst 0, 1) := by decide +kernel
theorem d_Code_isShaped_273 : decode prog_4_method_18_code 273 = .ok (.ireturn, 1) := by decide +kernel
theorem d_Code_isShaped_247 : decode prog_4_method_18_code 247 = .ok (.aload_n 0, 1) := by decide +kernel
theorem d_Code_isShaped_248 : decode prog_4_method_18_code 248 = .ok (.getfield 38, 3) := by decide +kernel
theorem d_Code_isShaped_251 : decode prog_4_method_18_code 251 = .ok (.ifCond .ne 21, 3) := by decide +kernel
theorem d_Code_isShaped_254 : decode prog_4_method_18_code 254 = .ok (.aload_n 0, 1) := by decide +kernel
theorem d_Code_isShaped_255 : decode prog_4_method_18_code 255 = .ok (.getfield 32, 3) := by decide +kernel
theorem d_Code_isShaped_258 : decode prog_4_method_18_code 258 = .ok (.ifCond .ne 14, 3) := by decide +kernel
theorem d_Code_isShaped_261 : decode prog_4_method_18_code 261 = .ok (.aload_n 0, 1) := by decide +kernel
theorem d_Code_isShaped_262 : decode prog_4_method_18_code 262 = .ok (.getfield 35, 3) := by decide +kernel
theorem d_Code_isShaped_265 : decode prog_4_method_18_code 265 = .ok (.ifCond .ne 7, 3) := by decide +kernel
theorem d_Code_isShaped_268 : decode prog_4_method_18_code 268 = .ok (.iconst 1, 1) := by decide +kernel
theorem d_Code_isShaped_269 : decode prog_4_method_18_code 269 = .ok (.goto 4, 3) := by decide +kernel
theorem d_Code_isShaped_274 : decode prog_4_method_18_code 274 = .ok (.iconst 0, 1) := by decide +kernel
theorem d_Code_isShaped_275 : decode prog_4_method_18_code 275 = .ok (.ireturn, 1) := by decide +kernel
abbrev y_Code_isShaped : MethodName := ⟨"FilterGuard$Code", "isShaped", "(I)Z"⟩
def rm_Code_isShaped : Room := { frames := 2, cells := 0, slots := 0, locals := 40 }
abbrev q_Code_isShaped (D : va_G) (ad : Nat → Nat → Nat) (ca : Nat → ClassId) (N : Nat → Nat) (M0 MZ : me_M) (RZ : Int32) (A : Nat → Prop) : Array Value → Jvm.State → Outcome → Jvm.State → Prop := va_Qi (fun r (_ : Unit) => r = RZ ∧ me_wf N MZ ∧ me_kp M0 MZ ∧ (RZ = 1 ∨ RZ = 0)) (fg_B D A (fun _ => me_W ad ca MZ) (fun _ => [])) A
set_option maxHeartbeats 4000000 in
set_option maxRecDepth 100000 in
theorem c_Code_isShaped (l : Launch) (D : va_G) (ad : Nat → Nat → Nat) (ca : Nat → ClassId) (N : Nat → Nat) (M0 MZ : me_M) (RZ : Int32) (j0 : Nat) (x1 : Int32) (h : f_Code_isShaped M0 j0 x1 = (some (MZ, RZ))) (hwf : me_wf N M0) (hj0 : j0 < N 2) (sz : Nat) : Met l y_Code_isShaped (fg_w y_Code_isShaped prog_4_method_18_code 2 (some .boolean)) rm_Code_isShaped (va_Pc [.ref (ad 2 j0), .int x1] (fz_P D (me_T ca) (me_W ad ca M0) sz)) (q_Code_isShaped D ad ca N M0 MZ RZ (va_A (me_W ad ca M0) sz)) rm_Code_isShaped.cells rm_Code_isShaped.slots (va_A (me_W ad ca M0) sz) := by
  refine fz_enter (fun A => q_Code_isShaped D ad ca N M0 MZ RZ A) (by decide +kernel) (Nat.le_of_ble_eq_true rfl) ?_
  intro p e s m below meth c ls A hx hb hml hown hts hr hlocks hin hP hK hD hS hA hX hl hz
  have hl : lv_has ls 2 [(0, .ref (ad 2 j0)), (1, .int x1)] := hl
  unfold f_Code_isShaped at h
  have hkp : me_kp M0 M0 := me_kp.rf
  have hkb := hkp
  refine lv_aload_n hx hb d_Code_isShaped_0 rfl (lv_at hl 0 rfl) ?_
  refine g_Code_10 hx hb hts hown hK hP hwf hj0 (hts _ u_252) d_Code_isShaped_1 ?_
  refine lv_topi (fun w1 ew1 => ?_)
  by_cases n2 : w1 = 1
  · have h := if_t (ew1.symm.trans n2) h
    subst n2
    refine lv_tableIn (off := 56) (tgt := 60) hx hb d_Code_isShaped_4 (by decide) (by decide) (by decide) (by decide) ?_
    refine lv_aload_n hx hb d_Code_isShaped_60 rfl (lv_at hl 0 rfl) ?_
    refine g_Code_8 hx hb hts hown hK hP hwf hj0 (hts _ u_242) d_Code_isShaped_61 ?_
    refine lv_if_ne (tgt := 126) hx hb d_Code_isShaped_64 (by decide) (fun c3 => ?_) (fun c3 => ?_)
    · have h := if_f c3 h
      refine lv_iconst (v := 0) hx hb d_Code_isShaped_126 (by decide) ?_
      exact me_retz (me_kp M0) h (by decide) hx hb hr hlocks hwf hkp hP hK hD hS d_Code_isShaped_127
    have h := if_t c3 h
    refine lv_aload_n hx hb d_Code_isShaped_67 rfl (lv_at hl 0 rfl) ?_
    refine g_Code_7 hx hb hts hown hK hP hwf hj0 (hts _ u_238) d_Code_isShaped_68 ?_
    refine lv_iconst (v := 1) hx hb d_Code_isShaped_71 (by decide) ?_
    refine lv_icmp_gt (tgt := 126) hx hb d_Code_isShaped_72 (by decide) (fun c4 => ?_) (fun c4 => ?_)
    · have h := if_t c4 h
      refine lv_iconst (v := 0) hx hb d_Code_isShaped_126 (by decide) ?_
      exact me_retz (me_kp M0) h (by decide) hx hb hr hlocks hwf hkp hP hK hD hS d_Code_isShaped_127
    have h := if_f c4 h
    refine lv_iload_n hx hb d_Code_isShaped_75 rfl (lv_at hl 1 rfl) ?_
    refine lv_iconst (v := 1) hx hb d_Code_isShaped_76 (by decide) ?_
    refine lv_iadd hx hb d_Code_isShaped_77 ?_
    refine lv_aload_n hx hb d_Code_isShaped_78 rfl (lv_at hl 0 rfl) ?_
    refine g_Code_3 hx hb hts hown hK hP hwf hj0 (hts _ u_226) d_Code_isShaped_79 ?_
    refine lv_icmp_ge (tgt := 126) hx hb d_Code_isShaped_82 (by decide) (fun c5 => ?_) (fun c5 => ?_)
    · have h := if_t c5 h
      refine lv_iconst (v := 0) hx hb d_Code_isShaped_126 (by decide) ?_
      exact me_retz (me_kp M0) h (by decide) hx hb hr hlocks hwf hkp hP hK hD hS d_Code_isShaped_127
    have h := if_f c5 h
    refine lv_aload_n hx hb d_Code_isShaped_85 rfl (lv_at hl 0 rfl) ?_
    refine g_Code_0 hx hb hts hown hK hP hwf hj0 (hts _ u_220) d_Code_isShaped_86 ?_
    obtain ⟨j6, e7, h⟩ := bd_ob h
    have hj6 : j6 < N 16 := (hwf.2.1 2 j0 0 _ e7 (by decide) hj0)
    refine me_opt (j := j6) e7 ?_
    refine lv_iload_n hx hb d_Code_isShaped_89 rfl (lv_at hl 1 rfl) ?_
    refine lv_iconst (v := 1) hx hb d_Code_isShaped_90 (by decide) ?_
    refine lv_iadd hx hb d_Code_isShaped_91 ?_
    obtain ⟨g8, h⟩ := gd_ob h
    refine me_lald hx hb hK hP hwf hj6 g8 d_Code_isShaped_92 ?_
    refine lv_ldc2 hx hb hown (hts _ u_987) d_Code_isShaped_93 ?_
    refine lv_land hx hb d_Code_isShaped_96 ?_
    refine lv_lconst (v := 0) hx hb d_Code_isShaped_97 (by decide) ?_
    refine W.lcmp hx hb d_Code_isShaped_98 ?_
    refine lv_if_ne (tgt := 126) hx hb d_Code_isShaped_99 (by decide) (fun c9 => ?_) (fun c9 => ?_)
    · have h := if_f (fun z => c9 ((lg_cmp_eq _ _).mpr z)) h
      refine lv_iconst (v := 0) hx hb d_Code_isShaped_126 (by decide) ?_
      exact me_retz (me_kp M0) h (by decide) hx hb hr hlocks hwf hkp hP hK hD hS d_Code_isShaped_127
    have h := if_t ((lg_cmp_eq _ _).mp c9) h
    refine lv_aload_n hx hb d_Code_isShaped_102 rfl (lv_at hl 0 rfl) ?_
    refine g_Code_7 hx hb hts hown hK hP hwf hj0 (hts _ u_238) d_Code_isShaped_103 ?_
    refine lv_if_eq (tgt := 122) hx hb d_Code_isShaped_106 (by decide) (fun c10 => ?_) (fun c10 => ?_)
    · have h := if_t c10 h
      refine lv_iconst (v := 1) hx hb d_Code_isShaped_122 (by decide) ?_
      refine lv_goto (tgt := 127) hx hb d_Code_isShaped_123 (by decide) ?_
      exact me_retz (me_kp M0) h (by decide) hx hb hr hlocks hwf hkp hP hK hD hS d_Code_isShaped_127
    have h := if_f c10 h
    refine lv_aload_n hx hb d_Code_isShaped_109 rfl (lv_at hl 0 rfl) ?_
    refine g_Code_0 hx hb hts hown hK hP hwf hj0 (hts _ u_220) d_Code_isShaped_110 ?_
    refine me_opt (j := j6) e7 ?_
    refine lv_iload_n hx hb d_Code_isShaped_113 rfl (lv_at hl 1 rfl) ?_
    refine lv_iconst (v := 1) hx hb d_Code_isShaped_114 (by decide) ?_
    refine lv_iadd hx hb d_Code_isShaped_115 ?_
    refine me_lald hx hb hK hP hwf hj6 g8 d_Code_isShaped_116 ?_
    refine lv_lconst (v := 0) hx hb d_Code_isShaped_117 (by decide) ?_
    refine W.lcmp hx hb d_Code_isShaped_118 ?_
    refine lv_if_ne (tgt := 126) hx hb d_Code_isShaped_119 (by decide) (fun c11 => ?_) (fun c11 => ?_)
    · have h := if_f (fun z => c11 ((lg_cmp_eq _ _).mpr z)) h
      refine lv_iconst (v := 0) hx hb d_Code_isShaped_126 (by decide) ?_
      exact me_retz (me_kp M0) h (by decide) hx hb hr hlocks hwf hkp hP hK hD hS d_Code_isShaped_127
    have h := if_t ((lg_cmp_eq _ _).mp c11) h
    refine lv_iconst (v := 1) hx hb d_Code_isShaped_122 (by decide) ?_
    refine lv_goto (tgt := 127) hx hb d_Code_isShaped_123 (by decide) ?_
    exact me_retz (me_kp M0) h (by decide) hx hb hr hlocks hwf hkp hP hK hD hS d_Code_isShaped_127
  have h := if_f (fun z => n2 (ew1.trans z)) h
  by_cases n12 : w1 = 2
  · have h := if_t (ew1.symm.trans n12) h
    subst n12
    refine lv_tableIn (off := 124) (tgt := 128) hx hb d_Code_isShaped_4 (by decide) (by decide) (by decide) (by decide) ?_
    refine lv_aload_n hx hb d_Code_isShaped_128 rfl (lv_at hl 0 rfl) ?_
    refine g_Code_9 hx hb hts hown hK hP hwf hj0 (hts _ u_247) d_Code_isShaped_129 ?_
    refine lv_if_ne (tgt := 139) hx hb d_Code_isShaped_132 (by decide) (fun c13 => ?_) (fun c13 => ?_)
    · have h := if_f c13 h
      refine lv_iconst (v := 0) hx hb d_Code_isShaped_139 (by decide) ?_
      exact me_retz (me_kp M0) h (by decide) hx hb hr hlocks hwf hkp hP hK hD hS d_Code_isShaped_140
    have h := if_t c13 h
    refine lv_iconst (v := 1) hx hb d_Code_isShaped_135 (by decide) ?_
    refine lv_goto (tgt := 140) hx hb d_Code_isShaped_136 (by decide) ?_
    exact me_retz (me_kp M0) h (by decide) hx hb hr hlocks hwf hkp hP hK hD hS d_Code_isShaped_140
  have h := if_f (fun z => n12 (ew1.trans z)) h
  by_cases n14 : w1 = 3
  · have h := if_t (ew1.symm.trans n14) h
    subst n14
    refine lv_tableIn (off := 124) (tgt := 128) hx hb d_Code_isShaped_4 (by decide) (by decide) (by decide) (by decide) ?_
    refine lv_aload_n hx hb d_Code_isShaped_128 rfl (lv_at hl 0 rfl) ?_
    refine g_Code_9 hx hb hts hown hK hP hwf hj0 (hts _ u_247) d_Code_isShaped_129 ?_
    refine lv_if_ne (tgt := 139) hx hb d_Code_isShaped_132 (by decide) (fun c15 => ?_) (fun c15 => ?_)
    · have h := if_f c15 h
      refine lv_iconst (v := 0) hx hb d_Code_isShaped_139 (by decide) ?_
      exact me_retz (me_kp M0) h (by decide) hx hb hr hlocks hwf hkp hP hK hD hS d_Code_isShaped_140
    have h := if_t c15 h
    refine lv_iconst (v := 1) hx hb d_Code_isShaped_135 (by decide) ?_
    refine lv_goto (tgt := 140) hx hb d_Code_isShaped_136 (by decide) ?_
    exact me_retz (me_kp M0) h (by decide) hx hb hr hlocks hwf hkp hP hK hD hS d_Code_isShaped_140
  have h := if_f (fun z => n14 (ew1.trans z)) h
  by_cases n16 : w1 = 4
  · have h := if_t (ew1.symm.trans n16) h
    subst n16
    refine lv_tableIn (off := 137) (tgt := 141) hx hb d_Code_isShaped_4 (by decide) (by decide) (by decide) (by decide) ?_
    refine lv_aload_n hx hb d_Code_isShaped_141 rfl (lv_at hl 0 rfl) ?_
    refine g_Code_7 hx hb hts hown hK hP hwf hj0 (hts _ u_238) d_Code_isShaped_142 ?_
    refine lv_if_ne (tgt := 152) hx hb d_Code_isShaped_145 (by decide) (fun c17 => ?_) (fun c17 => ?_)
    · have h := if_f c17 h
      refine lv_iconst (v := 0) hx hb d_Code_isShaped_152 (by decide) ?_
      exact me_retz (me_kp M0) h (by decide) hx hb hr hlocks hwf hkp hP hK hD hS d_Code_isShaped_153
    have h := if_t c17 h
    refine lv_iconst (v := 1) hx hb d_Code_isShaped_148 (by decide) ?_
    refine lv_goto (tgt := 153) hx hb d_Code_isShaped_149 (by decide) ?_
    exact me_retz (me_kp M0) h (by decide) hx hb hr hlocks hwf hkp hP hK hD hS d_Code_isShaped_153
  have h := if_f (fun z => n16 (ew1.trans z)) h
  by_cases n18 : w1 = 5
  · have h := if_t (ew1.symm.trans n18) h
    subst n18
    refine lv_tableIn (off := 124) (tgt := 128) hx hb d_Code_isShaped_4 (by decide) (by decide) (by decide) (by decide) ?_
    refine lv_aload_n hx hb d_Code_isShaped_128 rfl (lv_at hl 0 rfl) ?_
    refine g_Code_9 hx hb hts hown hK hP hwf hj0 (hts _ u_247) d_Code_isShaped_129 ?_
    refine lv_if_ne (tgt := 139) hx hb d_Code_isShaped_132 (by decide) (fun c19 => ?_) (fun c19 => ?_)
    · have h := if_f c19 h
      refine lv_iconst (v := 0) hx hb d_Code_isShaped_139 (by decide) ?_
      exact me_retz (me_kp M0) h (by decide) hx hb hr hlocks hwf hkp hP hK hD hS d_Code_isShaped_140
    have h := if_t c19 h
    refine lv_iconst (v := 1) hx hb d_Code_isShaped_135 (by decide) ?_
    refine lv_goto (tgt := 140) hx hb d_Code_isShaped_136 (by decide) ?_
    exact me_retz (me_kp M0) h (by decide) hx hb hr hlocks hwf hkp hP hK hD hS d_Code_isShaped_140
  have h := if_f (fun z => n18 (ew1.trans z)) h
  by_cases n20 : w1 = 6
  · have h := if_t (ew1.symm.trans n20) h
    subst n20
    refine lv_tableIn (off := 150) (tgt := 154) hx hb d_Code_isShaped_4 (by decide) (by decide) (by decide) (by decide) ?_
    refine lv_aload_n hx hb d_Code_isShaped_154 rfl (lv_at hl 0 rfl) ?_
    refine g_Code_8 hx hb hts hown hK hP hwf hj0 (hts _ u_242) d_Code_isShaped_155 ?_
    refine lv_if_ne (tgt := 179) hx hb d_Code_isShaped_158 (by decide) (fun c21 => ?_) (fun c21 => ?_)
    · have h := if_f c21 h
      refine lv_iconst (v := 0) hx hb d_Code_isShaped_179 (by decide) ?_
      exact me_retz (me_kp M0) h (by decide) hx hb hr hlocks hwf hkp hP hK hD hS d_Code_isShaped_180
    have h := if_t c21 h
    refine lv_aload_n hx hb d_Code_isShaped_161 rfl (lv_at hl 0 rfl) ?_
    obtain ⟨M22, r23, eM22, h⟩ := b2_ob h
    refine me_theni0 (M1 := M22) (me_runV (C := "FilterGuard$Code") (As := []) (rest := []) ⟨hx, hb, hml, hown, hts⟩ (c_Code_isOneOperand l D ad ca N M0 M22 r23 j0 eM22 hwf hj0 _) rfl (by show fg_nm y_Code_isOneOperand 0; decide +kernel) u_988 u_990 u_8 u_182 u_991 ⟨Nat.le_of_ble_eq_true rfl, Nat.le_of_ble_eq_true rfl⟩ hX hz hK hP hD hwf hS hA hj0 (by decide) rfl rfl rfl hl.1 (Nat.le_of_ble_eq_true rfl) d_Code_isShaped_162 ⟨Nat.le_of_ble_eq_true rfl, Nat.le_of_ble_eq_true rfl⟩) hP hD hK hS hA rfl rfl (fun H locs hw hP hD hS => ?_)
    obtain ⟨hwf, hk9, zr23⟩ := hw
    have hkp := hkp.tr hk9
    refine lv_if_eq (tgt := 179) hx hb d_Code_isShaped_165 (by decide) (fun c24 => ?_) (fun c24 => ?_)
    · have h := if_t c24 h
      refine lv_iconst (v := 0) hx hb d_Code_isShaped_179 (by decide) ?_
      exact me_retz (me_kp M0) h (by decide) hx hb hr hlocks hwf hkp hP hK hD hS d_Code_isShaped_180
    have h := if_f c24 h
    refine lv_aload_n hx hb d_Code_isShaped_168 rfl (lv_at hl 0 rfl) ?_
    obtain ⟨M25, r26, eM25, h⟩ := b2_ob h
    refine me_theni0 (M1 := M25) (me_runV (C := "FilterGuard$Code") (As := []) (rest := []) ⟨hx, hb, hml, hown, hts⟩ (c_Code_isFieldShaped l D ad ca N M22 M25 r26 j0 eM25 hwf hj0 _) rfl (by show fg_nm y_Code_isFieldShaped 0; decide +kernel) u_992 u_994 u_9 u_182 u_995 ⟨Nat.le_of_ble_eq_true rfl, Nat.le_of_ble_eq_true rfl⟩ hX hz hK hP hD hwf hS hA hj0 (by decide) rfl rfl rfl hl.1 (Nat.le_of_ble_eq_true rfl) d_Code_isShaped_169 ⟨Nat.le_of_ble_eq_true rfl, Nat.le_of_ble_eq_true rfl⟩) hP hD hK hS hA rfl rfl (fun H locs hw hP hD hS => ?_)
    obtain ⟨hwf, hk9, zr26⟩ := hw
    have hkp := hkp.tr hk9
    refine lv_if_eq (tgt := 179) hx hb d_Code_isShaped_172 (by decide) (fun c27 => ?_) (fun c27 => ?_)
    · have h := if_t c27 h
      refine lv_iconst (v := 0) hx hb d_Code_isShaped_179 (by decide) ?_
      exact me_retz (me_kp M0) h (by decide) hx hb hr hlocks hwf hkp hP hK hD hS d_Code_isShaped_180
    have h := if_f c27 h
    refine lv_iconst (v := 1) hx hb d_Code_isShaped_175 (by decide) ?_
    refine lv_goto (tgt := 180) hx hb d_Code_isShaped_176 (by decide) ?_
    exact me_retz (me_kp M0) h (by decide) hx hb hr hlocks hwf hkp hP hK hD hS d_Code_isShaped_180
  have h := if_f (fun z => n20 (ew1.trans z)) h
  by_cases n28 : w1 = 7
  · have h := if_t (ew1.symm.trans n28) h
    subst n28
    refine lv_tableIn (off := 182) (tgt := 186) hx hb d_Code_isShaped_4 (by decide) (by decide) (by decide) (by decide) ?_
    refine lv_aload_n hx hb d_Code_isShaped_186 rfl (lv_at hl 0 rfl) ?_
    refine g_Code_9 hx hb hts hown hK hP hwf hj0 (hts _ u_247) d_Code_isShaped_187 ?_
    refine lv_if_ne (tgt := 211) hx hb d_Code_isShaped_190 (by decide) (fun c29 => ?_) (fun c29 => ?_)
    · have h := if_f c29 h
      refine lv_iconst (v := 0) hx hb d_Code_isShaped_211 (by decide) ?_
      exact me_retz (me_kp M0) h (by decide) hx hb hr hlocks hwf hkp hP hK hD hS d_Code_isShaped_212
    have h := if_t c29 h
    refine lv_aload_n hx hb d_Code_isShaped_193 rfl (lv_at hl 0 rfl) ?_
    refine g_Code_6 hx hb hts hown hK hP hwf hj0 (hts _ u_233) d_Code_isShaped_194 ?_
    refine lv_if_ne (tgt := 211) hx hb d_Code_isShaped_197 (by decide) (fun c30 => ?_) (fun c30 => ?_)
    · have h := if_f c30 h
      refine lv_iconst (v := 0) hx hb d_Code_isShaped_211 (by decide) ?_
      exact me_retz (me_kp M0) h (by decide) hx hb hr hlocks hwf hkp hP hK hD hS d_Code_isShaped_212
    have h := if_t c30 h
    refine lv_aload_n hx hb d_Code_isShaped_200 rfl (lv_at hl 0 rfl) ?_
    refine g_Code_7 hx hb hts hown hK hP hwf hj0 (hts _ u_238) d_Code_isShaped_201 ?_
    refine lv_if_ne (tgt := 211) hx hb d_Code_isShaped_204 (by decide) (fun c31 => ?_) (fun c31 => ?_)
    · have h := if_f c31 h
      refine lv_iconst (v := 0) hx hb d_Code_isShaped_211 (by decide) ?_
      exact me_retz (me_kp M0) h (by decide) hx hb hr hlocks hwf hkp hP hK hD hS d_Code_isShaped_212
    have h := if_t c31 h
    refine lv_iconst (v := 1) hx hb d_Code_isShaped_207 (by decide) ?_
    refine lv_goto (tgt := 212) hx hb d_Code_isShaped_208 (by decide) ?_
    exact me_retz (me_kp M0) h (by decide) hx hb hr hlocks hwf hkp hP hK hD hS d_Code_isShaped_212
  have h := if_f (fun z => n28 (ew1.trans z)) h
  by_cases n32 : w1 = 8
  · have h := if_t (ew1.symm.trans n32) h
    subst n32
    refine lv_tableIn (off := 177) (tgt := 181) hx hb d_Code_isShaped_4 (by decide) (by decide) (by decide) (by decide) ?_
    refine lv_aload_n hx hb d_Code_isShaped_181 rfl (lv_at hl 0 rfl) ?_
    obtain ⟨M33, r34, eM33, h⟩ := b2_ob h
    refine me_theni0 (M1 := M33) (me_runV (C := "FilterGuard$Code") (As := []) (rest := []) ⟨hx, hb, hml, hown, hts⟩ (c_Code_isOneOperand l D ad ca N M0 M33 r34 j0 eM33 hwf hj0 _) rfl (by show fg_nm y_Code_isOneOperand 0; decide +kernel) u_988 u_990 u_8 u_182 u_991 ⟨Nat.le_of_ble_eq_true rfl, Nat.le_of_ble_eq_true rfl⟩ hX hz hK hP hD hwf hS hA hj0 (by decide) rfl rfl rfl hl.1 (Nat.le_of_ble_eq_true rfl) d_Code_isShaped_182 ⟨Nat.le_of_ble_eq_true rfl, Nat.le_of_ble_eq_true rfl⟩) hP hD hK hS hA rfl rfl (fun H locs hw hP hD hS => ?_)
    obtain ⟨hwf, hk9, zr34⟩ := hw
    have hkp := hkp.tr hk9
    exact me_retz (me_kp M0) h zr34 hx hb hr hlocks hwf hkp hP hK hD hS d_Code_isShaped_185
  have h := if_f (fun z => n32 (ew1.trans z)) h
  by_cases n35 : w1 = 9
  · have h := if_t (ew1.symm.trans n35) h
    subst n35
    refine lv_tableIn (off := 209) (tgt := 213) hx hb d_Code_isShaped_4 (by decide) (by decide) (by decide) (by decide) ?_
    refine lv_aload_n hx hb d_Code_isShaped_213 rfl (lv_at hl 0 rfl) ?_
    refine g_Code_8 hx hb hts hown hK hP hwf hj0 (hts _ u_242) d_Code_isShaped_214 ?_
    refine lv_if_ne (tgt := 238) hx hb d_Code_isShaped_217 (by decide) (fun c36 => ?_) (fun c36 => ?_)
    · have h := if_f c36 h
      refine lv_iconst (v := 0) hx hb d_Code_isShaped_238 (by decide) ?_
      exact me_retz (me_kp M0) h (by decide) hx hb hr hlocks hwf hkp hP hK hD hS d_Code_isShaped_239
    have h := if_t c36 h
    refine lv_aload_n hx hb d_Code_isShaped_220 rfl (lv_at hl 0 rfl) ?_
    refine g_Code_6 hx hb hts hown hK hP hwf hj0 (hts _ u_233) d_Code_isShaped_221 ?_
    refine lv_if_ne (tgt := 238) hx hb d_Code_isShaped_224 (by decide) (fun c37 => ?_) (fun c37 => ?_)
    · have h := if_f c37 h
      refine lv_iconst (v := 0) hx hb d_Code_isShaped_238 (by decide) ?_
      exact me_retz (me_kp M0) h (by decide) hx hb hr hlocks hwf hkp hP hK hD hS d_Code_isShaped_239
    have h := if_t c37 h
    refine lv_aload_n hx hb d_Code_isShaped_227 rfl (lv_at hl 0 rfl) ?_
    refine g_Code_7 hx hb hts hown hK hP hwf hj0 (hts _ u_238) d_Code_isShaped_228 ?_
    refine lv_if_ne (tgt := 238) hx hb d_Code_isShaped_231 (by decide) (fun c38 => ?_) (fun c38 => ?_)
    · have h := if_f c38 h
      refine lv_iconst (v := 0) hx hb d_Code_isShaped_238 (by decide) ?_
      exact me_retz (me_kp M0) h (by decide) hx hb hr hlocks hwf hkp hP hK hD hS d_Code_isShaped_239
    have h := if_t c38 h
    refine lv_iconst (v := 1) hx hb d_Code_isShaped_234 (by decide) ?_
    refine lv_goto (tgt := 239) hx hb d_Code_isShaped_235 (by decide) ?_
    exact me_retz (me_kp M0) h (by decide) hx hb hr hlocks hwf hkp hP hK hD hS d_Code_isShaped_239
  have h := if_f (fun z => n35 (ew1.trans z)) h
  by_cases n39 : w1 = 10
  · have h := if_t (ew1.symm.trans n39) h
    subst n39
    refine lv_tableIn (off := 236) (tgt := 240) hx hb d_Code_isShaped_4 (by decide) (by decide) (by decide) (by decide) ?_
    refine lv_aload_n hx hb d_Code_isShaped_240 rfl (lv_at hl 0 rfl) ?_
    refine g_Code_9 hx hb hts hown hK hP hwf hj0 (hts _ u_247) d_Code_isShaped_241 ?_
    refine lv_if_ne (tgt := 272) hx hb d_Code_isShaped_244 (by decide) (fun c40 => ?_) (fun c40 => ?_)
    · have h := if_f c40 h
      refine lv_iconst (v := 0) hx hb d_Code_isShaped_272 (by decide) ?_
      exact me_retz (me_kp M0) h (by decide) hx hb hr hlocks hwf hkp hP hK hD hS d_Code_isShaped_273
    have h := if_t c40 h
    refine lv_aload_n hx hb d_Code_isShaped_247 rfl (lv_at hl 0 rfl) ?_
    refine g_Code_8 hx hb hts hown hK hP hwf hj0 (hts _ u_242) d_Code_isShaped_248 ?_
    refine lv_if_ne (tgt := 272) hx hb d_Code_isShaped_251 (by decide) (fun c41 => ?_) (fun c41 => ?_)
    · have h := if_f c41 h
      refine lv_iconst (v := 0) hx hb d_Code_isShaped_272 (by decide) ?_
      exact me_retz (me_kp M0) h (by decide) hx hb hr hlocks hwf hkp hP hK hD hS d_Code_isShaped_273
    have h := if_t c41 h
    refine lv_aload_n hx hb d_Code_isShaped_254 rfl (lv_at hl 0 rfl) ?_
    refine g_Code_6 hx hb hts hown hK hP hwf hj0 (hts _ u_233) d_Code_isShaped_255 ?_
    refine lv_if_ne (tgt := 272) hx hb d_Code_isShaped_258 (by decide) (fun c42 => ?_) (fun c42 => ?_)
    · have h := if_f c42 h
      refine lv_iconst (v := 0) hx hb d_Code_isShaped_272 (by decide) ?_
      exact me_retz (me_kp M0) h (by decide) hx hb hr hlocks hwf hkp hP hK hD hS d_Code_isShaped_273
    have h := if_t c42 h
    refine lv_aload_n hx hb d_Code_isShaped_261 rfl (lv_at hl 0 rfl) ?_
    refine g_Code_7 hx hb hts hown hK hP hwf hj0 (hts _ u_238) d_Code_isShaped_262 ?_
    refine lv_if_ne (tgt := 272) hx hb d_Code_isShaped_265 (by decide) (fun c43 => ?_) (fun c43 => ?_)
    · have h := if_f c43 h
      refine lv_iconst (v := 0) hx hb d_Code_isShaped_272 (by decide) ?_
      exact me_retz (me_kp M0) h (by decide) hx hb hr hlocks hwf hkp hP hK hD hS d_Code_isShaped_273
    have h := if_t c43 h
    refine lv_iconst (v := 1) hx hb d_Code_isShaped_268 (by decide) ?_
    refine lv_goto (tgt := 273) hx hb d_Code_isShaped_269 (by decide) ?_
    exact me_retz (me_kp M0) h (by decide) hx hb hr hlocks hwf hkp hP hK hD hS d_Code_isShaped_273
  have h := if_f (fun z => n39 (ew1.trans z)) h
  have in2 := lv_neT n2 (show (1 : Int32).toInt = 1 from rfl)
  have in12 := lv_neT n12 (show (2 : Int32).toInt = 2 from rfl)
  have in14 := lv_neT n14 (show (3 : Int32).toInt = 3 from rfl)
  have in16 := lv_neT n16 (show (4 : Int32).toInt = 4 from rfl)
  have in18 := lv_neT n18 (show (5 : Int32).toInt = 5 from rfl)
  have in20 := lv_neT n20 (show (6 : Int32).toInt = 6 from rfl)
  have in28 := lv_neT n28 (show (7 : Int32).toInt = 7 from rfl)
  have in32 := lv_neT n32 (show (8 : Int32).toInt = 8 from rfl)
  have in35 := lv_neT n35 (show (9 : Int32).toInt = 9 from rfl)
  have in39 := lv_neT n39 (show (10 : Int32).toInt = 10 from rfl)
  refine lv_tableOut (tgt := 274) hx hb d_Code_isShaped_4 (by omega) (by decide) ?_
  refine lv_iconst (v := 0) hx hb d_Code_isShaped_274 (by decide) ?_
  exact me_retz (me_kp M0) h (by decide) hx hb hr hlocks hwf hkp hP hK hD hS d_Code_isShaped_275
theorem d_Code_isWrongField_52 : decode prog_4_method_17_code 52 = .ok (.istore_n 1, 1) := by decide +kernel
theorem d_Code_isWrongField_53 : decode prog_4_method_17_code 53 = .ok (.iload_n 1, 1) := by decide +kernel
theorem d_Code_isWrongField_54 : decode prog_4_method_17_code 54 = .ok (.ifCond .eq 35, 3) := by decide +kernel
theorem d_Code_isWrongField_89 : decode prog_4_method_17_code 89 = .ok (.iconst 0, 1) := by decide +kernel
theorem d_Code_isWrongField_90 : decode prog_4_method_17_code 90 = .ok (.ireturn, 1) := by decide +kernel
theorem d_Code_isWrongField_57 : decode prog_4_method_17_code 57 = .ok (.aload_n 0, 1) := by decide +kernel
theorem d_Code_isWrongField_58 : decode prog_4_method_17_code 58 = .ok (.getfield 41, 3) := by decide +kernel
theorem d_Code_isWrongField_61 : decode prog_4_method_17_code 61 = .ok (.ifCond .lt 24, 3) := by decide +kernel
theorem d_Code_isWrongField_85 : decode prog_4_method_17_code 85 = .ok (.iconst 1, 1) := by decide +kernel
theorem d_Code_isWrongField_86 : decode prog_4_method_17_code 86 = .ok (.goto 4, 3) := by decide +kernel
theorem d_Code_isWrongField_64 : decode prog_4_method_17_code 64 = .ok (.aload_n 0, 1) := by decide +kernel
theorem d_Code_isWrongField_65 : decode prog_4_method_17_code 65 = .ok (.getfield 41, 3) := by decide +kernel
theorem d_Code_isWrongField_68 : decode prog_4_method_17_code 68 = .ok (.aload_n 0, 1) := by decide +kernel
theorem d_Code_isWrongField_69 : decode prog_4_method_17_code 69 = .ok (.getfield 61, 3) := by decide +kernel
theorem g_Code_13 {p : Program} {l : Launch} {e : Env} {R : Room} {s : Jvm.State} {m : MethodId} {args : Array Value} {below : List Frame} {meth : Method} {c : Code} {H : Heap} {locs : List Loc} {cells slots : Nat} {Q : Jvm.State → Prop} {cc : ByteArray} {pc : Nat} {ls : Array Slot} {rest : List Value} {D : va_G} {ad : Nat → Nat → Nat} {ca : Nat → ClassId} {M : me_M} {N : Nat → Nat} {own : String} {index j : Nat} (hexec : p.tables.exec = Jvm.exec) (hb : c.code = cc) (hts : ∀ w ∈ fg_g, w.before args s = true) (hown : s.vm.findClass own = some m.cls) (hK : va_K D classes (me_T ca) s) (hP : va_P D classes (me_W ad ca M) H) (hwf : me_wf N M) (hj : j < N 2) (hlink : (Cond.fieldLink own index "FilterGuard$Code" "isNarrow" "Z").before args s = true) (hdg : decode cc pc = .ok (.getfield index, 3)) (kk : W p l e R s m args below meth c H locs cells slots Q (F0 m (pc + 3) ls (.int (mI M 2 j 13) :: rest))) : W p l e R s m args below meth c H locs cells slots Q (F0 m pc ls (.ref (ad 2 j) :: rest)) := me_get (k := 2) (f := 13) (C := "FilterGuard$Code") (T := F_Code) (Nf := 16) hexec hb hts i_Code hown hK hP hwf hj (by decide) rfl (by decide) (by decide) hlink (fun _ h9 => h9) hdg kk
theorem d_Code_isWrongField_72 : decode prog_4_method_17_code 72 = .ok (.ifCond .eq 8, 3) := by decide +kernel
theorem d_Code_isWrongField_80 : decode prog_4_method_17_code 80 = .ok (.bipush 63, 2) := by decide +kernel
theorem d_Code_isWrongField_82 : decode prog_4_method_17_code 82 = .ok (.if_icmp .le 7, 3) := by decide +kernel
theorem d_Code_isWrongField_75 : decode prog_4_method_17_code 75 = .ok (.bipush 31, 2) := by decide +kernel
theorem d_Code_isWrongField_77 : decode prog_4_method_17_code 77 = .ok (.goto 5, 3) := by decide +kernel
theorem d_Code_isWrongField_51 : decode prog_4_method_17_code 51 = .ok (.iconst 0, 1) := by decide +kernel
theorem d_Code_isWrongField_0 : decode prog_4_method_17_code 0 = .ok (.aload_n 0, 1) := by decide +kernel
theorem d_Code_isWrongField_1 : decode prog_4_method_17_code 1 = .ok (.getfield 58, 3) := by decide +kernel
theorem d_Code_isWrongField_4 : decode prog_4_method_17_code 4 = .ok (.iconst 3, 1) := by decide +kernel
theorem d_Code_isWrongField_5 : decode prog_4_method_17_code 5 = .ok (.if_icmp .eq 11, 3) := by decide +kernel
theorem d_Code_isWrongField_16 : decode prog_4_method_17_code 16 = .ok (.aload_n 0, 1) := by decide +kernel
theorem d_Code_isWrongField_17 : decode prog_4_method_17_code 17 = .ok (.getfield 41, 3) := by decide +kernel
theorem d_Code_isWrongField_20 : decode prog_4_method_17_code 20 = .ok (.ifCond .ne 7, 3) := by decide +kernel
theorem d_Code_isWrongField_27 : decode prog_4_method_17_code 27 = .ok (.iconst 0, 1) := by decide +kernel
theorem d_Code_isWrongField_28 : decode prog_4_method_17_code 28 = .ok (.ireturn, 1) := by decide +kernel
theorem d_Code_isWrongField_23 : decode prog_4_method_17_code 23 = .ok (.iconst 1, 1) := by decide +kernel
theorem d_Code_isWrongField_24 : decode prog_4_method_17_code 24 = .ok (.goto 4, 3) := by decide +kernel
theorem d_Code_isWrongField_8 : decode prog_4_method_17_code 8 = .ok (.aload_n 0, 1) := by decide +kernel
theorem d_Code_isWrongField_9 : decode prog_4_method_17_code 9 = .ok (.getfield 58, 3) := by decide +kernel
theorem d_Code_isWrongField_12 : decode prog_4_method_17_code 12 = .ok (.iconst 4, 1) := by decide +kernel
theorem d_Code_isWrongField_13 : decode prog_4_method_17_code 13 = .ok (.if_icmp .ne 16, 3) := by decide +kernel
theorem d_Code_isWrongField_29 : decode prog_4_method_17_code 29 = .ok (.aload_n 0, 1) := by decide +kernel
theorem d_Code_isWrongField_30 : decode prog_4_method_17_code 30 = .ok (.getfield 58, 3) := by decide +kernel
theorem d_Code_isWrongField_33 : decode prog_4_method_17_code 33 = .ok (.bipush 8, 2) := by decide +kernel
theorem d_Code_isWrongField_35 : decode prog_4_method_17_code 35 = .ok (.if_icmp .lt 16, 3) := by decide +kernel
theorem d_Code_isWrongField_38 : decode prog_4_method_17_code 38 = .ok (.aload_n 0, 1) := by decide +kernel
theorem d_Code_isWrongField_39 : decode prog_4_method_17_code 39 = .ok (.getfield 58, 3) := by decide +kernel
theorem d_Code_isWrongField_42 : decode prog_4_method_17_code 42 = .ok (.bipush 10, 2) := by decide +kernel
theorem d_Code_isWrongField_44 : decode prog_4_method_17_code 44 = .ok (.if_icmp .gt 7, 3) := by decide +kernel
theorem d_Code_isWrongField_47 : decode prog_4_method_17_code 47 = .ok (.iconst 1, 1) := by decide +kernel
theorem d_Code_isWrongField_48 : decode prog_4_method_17_code 48 = .ok (.goto 4, 3) := by decide +kernel
abbrev y_Code_isWrongField : MethodName := ⟨"FilterGuard$Code", "isWrongField", "()Z"⟩
def rm_Code_isWrongField : Room := { frames := 1, cells := 0, slots := 0, locals := 20 }
abbrev q_Code_isWrongField (D : va_G) (ad : Nat → Nat → Nat) (ca : Nat → ClassId) (N : Nat → Nat) (M0 MZ : me_M) (RZ : Int32) (A : Nat → Prop) : Array Value → Jvm.State → Outcome → Jvm.State → Prop := va_Qi (fun r (_ : Unit) => r = RZ ∧ me_wf N MZ ∧ me_kp M0 MZ ∧ (RZ = 1 ∨ RZ = 0)) (fg_B D A (fun _ => me_W ad ca MZ) (fun _ => [])) A
set_option maxHeartbeats 4000000 in
set_option maxRecDepth 100000 in
theorem c_Code_isWrongField (l : Launch) (D : va_G) (ad : Nat → Nat → Nat) (ca : Nat → ClassId) (N : Nat → Nat) (M0 MZ : me_M) (RZ : Int32) (j0 : Nat) (h : f_Code_isWrongField M0 j0 = (some (MZ, RZ))) (hwf : me_wf N M0) (hj0 : j0 < N 2) (sz : Nat) : Met l y_Code_isWrongField (fg_w y_Code_isWrongField prog_4_method_17_code 2 (some .boolean)) rm_Code_isWrongField (va_Pc [.ref (ad 2 j0)] (fz_P D (me_T ca) (me_W ad ca M0) sz)) (q_Code_isWrongField D ad ca N M0 MZ RZ (va_A (me_W ad ca M0) sz)) rm_Code_isWrongField.cells rm_Code_isWrongField.slots (va_A (me_W ad ca M0) sz) := by
  refine fz_enter (fun A => q_Code_isWrongField D ad ca N M0 MZ RZ A) (by decide +kernel) (Nat.le_of_ble_eq_true rfl) ?_
  intro p e s m below meth c ls A hx hb hml hown hts hr hlocks hin hP hK hD hS hA hX hl hz
  have hl : lv_has ls 2 [(0, .ref (ad 2 j0))] := hl
  unfold f_Code_isWrongField at h
  have hkp : me_kp M0 M0 := me_kp.rf
  have hkb := hkp
  have b_52 : ∀ (M : me_M) (s0 : Int32) (H : Heap) (locs : List Loc) (ls : Array Slot), f_Code_isWrongField_b52 j0 M s0 = (some (MZ, RZ)) → (s0 = 1 ∨ s0 = 0) → me_wf N M → me_kp M0 M → va_P D classes (me_W ad ca M) H → va_D A (me_W ad ca M) → va_S A s.heap H locs → lv_has ls 2 [(0, .ref (ad 2 j0))] → W p l e rm_Code_isWrongField s m [.ref (ad 2 j0)].toArray below meth c H locs 0 0 (MQ below (q_Code_isWrongField D ad ca N M0 MZ RZ A) [.ref (ad 2 j0)].toArray s rm_Code_isWrongField.cells rm_Code_isWrongField.slots A) (F0 m 52 ls [.int s0]) := by
    intro M s0 H locs ls h zs0 hwf hkp hP hD hS hl
    unfold f_Code_isWrongField_b52 at h
    have hkb := hkp
    refine lv_istore_n (lv' := [(1, .int s0), (0, .ref (ad 2 j0))]) hx hb d_Code_isWrongField_52 rfl hl (by decide) rfl (fun ls hl => ?_)
    refine lv_iload_n hx hb d_Code_isWrongField_53 rfl (lv_at hl 0 rfl) ?_
    refine lv_if_eq (tgt := 89) hx hb d_Code_isWrongField_54 (by decide) (fun c1 => ?_) (fun c1 => ?_)
    · have h := if_t c1 h
      refine lv_iconst (v := 0) hx hb d_Code_isWrongField_89 (by decide) ?_
      exact me_retz (me_kp M0) h (by decide) hx hb hr hlocks hwf hkp hP hK hD hS d_Code_isWrongField_90
    have h := if_f c1 h
    refine lv_aload_n hx hb d_Code_isWrongField_57 rfl (lv_at hl 1 rfl) ?_
    refine g_Code_9 hx hb hts hown hK hP hwf hj0 (hts _ u_247) d_Code_isWrongField_58 ?_
    refine lv_if_lt (tgt := 85) hx hb d_Code_isWrongField_61 (by decide) (fun c2 => ?_) (fun c2 => ?_)
    · have h := if_t c2 h
      refine lv_iconst (v := 1) hx hb d_Code_isWrongField_85 (by decide) ?_
      refine lv_goto (tgt := 90) hx hb d_Code_isWrongField_86 (by decide) ?_
      exact me_retz (me_kp M0) h (by decide) hx hb hr hlocks hwf hkp hP hK hD hS d_Code_isWrongField_90
    have h := if_f c2 h
    refine lv_aload_n hx hb d_Code_isWrongField_64 rfl (lv_at hl 1 rfl) ?_
    refine g_Code_9 hx hb hts hown hK hP hwf hj0 (hts _ u_247) d_Code_isWrongField_65 ?_
    refine lv_aload_n hx hb d_Code_isWrongField_68 rfl (lv_at hl 1 rfl) ?_
    refine g_Code_13 hx hb hts hown hK hP hwf hj0 (hts _ u_265) d_Code_isWrongField_69 ?_
    have z3 := (hwf.2.2.2 2 j0 13 rfl)
    refine lv_if_eq (tgt := 80) hx hb d_Code_isWrongField_72 (by decide) (fun c4 => ?_) (fun c4 => ?_)
    · have h := if_t c4 h
      refine lv_bipush (v := 63) hx hb d_Code_isWrongField_80 (by decide) ?_
      refine lv_icmp_le (tgt := 89) hx hb d_Code_isWrongField_82 (by decide) (fun c5 => ?_) (fun c5 => ?_)
      · have h := if_t c5 h
        refine lv_iconst (v := 0) hx hb d_Code_isWrongField_89 (by decide) ?_
        exact me_retz (me_kp M0) h (by decide) hx hb hr hlocks hwf hkp hP hK hD hS d_Code_isWrongField_90
      have h := if_f c5 h
      refine lv_iconst (v := 1) hx hb d_Code_isWrongField_85 (by decide) ?_
      refine lv_goto (tgt := 90) hx hb d_Code_isWrongField_86 (by decide) ?_
      exact me_retz (me_kp M0) h (by decide) hx hb hr hlocks hwf hkp hP hK hD hS d_Code_isWrongField_90
    have h := if_f c4 h
    refine lv_bipush (v := 31) hx hb d_Code_isWrongField_75 (by decide) ?_
    refine lv_goto (tgt := 82) hx hb d_Code_isWrongField_77 (by decide) ?_
    refine lv_icmp_le (tgt := 89) hx hb d_Code_isWrongField_82 (by decide) (fun c6 => ?_) (fun c6 => ?_)
    · have h := if_t c6 h
      refine lv_iconst (v := 0) hx hb d_Code_isWrongField_89 (by decide) ?_
      exact me_retz (me_kp M0) h (by decide) hx hb hr hlocks hwf hkp hP hK hD hS d_Code_isWrongField_90
    have h := if_f c6 h
    refine lv_iconst (v := 1) hx hb d_Code_isWrongField_85 (by decide) ?_
    refine lv_goto (tgt := 90) hx hb d_Code_isWrongField_86 (by decide) ?_
    exact me_retz (me_kp M0) h (by decide) hx hb hr hlocks hwf hkp hP hK hD hS d_Code_isWrongField_90
  have b_51 : ∀ (M : me_M) (H : Heap) (locs : List Loc) (ls : Array Slot), f_Code_isWrongField_b51 j0 M = (some (MZ, RZ)) → me_wf N M → me_kp M0 M → va_P D classes (me_W ad ca M) H → va_D A (me_W ad ca M) → va_S A s.heap H locs → lv_has ls 2 [(0, .ref (ad 2 j0))] → W p l e rm_Code_isWrongField s m [.ref (ad 2 j0)].toArray below meth c H locs 0 0 (MQ below (q_Code_isWrongField D ad ca N M0 MZ RZ A) [.ref (ad 2 j0)].toArray s rm_Code_isWrongField.cells rm_Code_isWrongField.slots A) (F0 m 51 ls []) := by
    intro M H locs ls h hwf hkp hP hD hS hl
    unfold f_Code_isWrongField_b51 at h
    have hkb := hkp
    refine lv_iconst (v := 0) hx hb d_Code_isWrongField_51 (by decide) ?_
    exact b_52 M (0 : Int32) _ _ _ h (by decide) hwf hkp hP hD hS (lv_sub hl [0] rfl)
  refine lv_aload_n hx hb d_Code_isWrongField_0 rfl (lv_at hl 0 rfl) ?_
  refine g_Code_12 hx hb hts hown hK hP hwf hj0 (hts _ u_261) d_Code_isWrongField_1 ?_
  refine lv_iconst (v := 3) hx hb d_Code_isWrongField_4 (by decide) ?_
  refine lv_icmp_eq (tgt := 16) hx hb d_Code_isWrongField_5 (by decide) (fun c7 => ?_) (fun c7 => ?_)
  · have h := if_t c7 h
    refine lv_aload_n hx hb d_Code_isWrongField_16 rfl (lv_at hl 0 rfl) ?_
    refine g_Code_9 hx hb hts hown hK hP hwf hj0 (hts _ u_247) d_Code_isWrongField_17 ?_
    refine lv_if_ne (tgt := 27) hx hb d_Code_isWrongField_20 (by decide) (fun c8 => ?_) (fun c8 => ?_)
    · have h := if_f c8 h
      refine lv_iconst (v := 0) hx hb d_Code_isWrongField_27 (by decide) ?_
      exact me_retz (me_kp M0) h (by decide) hx hb hr hlocks hwf hkp hP hK hD hS d_Code_isWrongField_28
    have h := if_t c8 h
    refine lv_iconst (v := 1) hx hb d_Code_isWrongField_23 (by decide) ?_
    refine lv_goto (tgt := 28) hx hb d_Code_isWrongField_24 (by decide) ?_
    exact me_retz (me_kp M0) h (by decide) hx hb hr hlocks hwf hkp hP hK hD hS d_Code_isWrongField_28
  have h := if_f c7 h
  refine lv_aload_n hx hb d_Code_isWrongField_8 rfl (lv_at hl 0 rfl) ?_
  refine g_Code_12 hx hb hts hown hK hP hwf hj0 (hts _ u_261) d_Code_isWrongField_9 ?_
  refine lv_iconst (v := 4) hx hb d_Code_isWrongField_12 (by decide) ?_
  refine lv_icmp_ne (tgt := 29) hx hb d_Code_isWrongField_13 (by decide) (fun c9 => ?_) (fun c9 => ?_)
  · have h := if_f c9 h
    refine lv_aload_n hx hb d_Code_isWrongField_29 rfl (lv_at hl 0 rfl) ?_
    refine g_Code_12 hx hb hts hown hK hP hwf hj0 (hts _ u_261) d_Code_isWrongField_30 ?_
    refine lv_bipush (v := 8) hx hb d_Code_isWrongField_33 (by decide) ?_
    refine lv_icmp_lt (tgt := 51) hx hb d_Code_isWrongField_35 (by decide) (fun c10 => ?_) (fun c10 => ?_)
    · have h := if_t c10 h
      exact b_51 M0 _ _ _ h hwf hkp hP hD hS (lv_sub hl [0] rfl)
    have h := if_f c10 h
    refine lv_aload_n hx hb d_Code_isWrongField_38 rfl (lv_at hl 0 rfl) ?_
    refine g_Code_12 hx hb hts hown hK hP hwf hj0 (hts _ u_261) d_Code_isWrongField_39 ?_
    refine lv_bipush (v := 10) hx hb d_Code_isWrongField_42 (by decide) ?_
    refine lv_icmp_gt (tgt := 51) hx hb d_Code_isWrongField_44 (by decide) (fun c11 => ?_) (fun c11 => ?_)
    · have h := if_t c11 h
      exact b_51 M0 _ _ _ h hwf hkp hP hD hS (lv_sub hl [0] rfl)
    have h := if_f c11 h
    refine lv_iconst (v := 1) hx hb d_Code_isWrongField_47 (by decide) ?_
    refine lv_goto (tgt := 52) hx hb d_Code_isWrongField_48 (by decide) ?_
    exact b_52 M0 (1 : Int32) _ _ _ h (by decide) hwf hkp hP hD hS (lv_sub hl [0] rfl)
  have h := if_t c9 h
  refine lv_aload_n hx hb d_Code_isWrongField_16 rfl (lv_at hl 0 rfl) ?_
  refine g_Code_9 hx hb hts hown hK hP hwf hj0 (hts _ u_247) d_Code_isWrongField_17 ?_
  refine lv_if_ne (tgt := 27) hx hb d_Code_isWrongField_20 (by decide) (fun c12 => ?_) (fun c12 => ?_)
  · have h := if_f c12 h
    refine lv_iconst (v := 0) hx hb d_Code_isWrongField_27 (by decide) ?_
    exact me_retz (me_kp M0) h (by decide) hx hb hr hlocks hwf hkp hP hK hD hS d_Code_isWrongField_28
  have h := if_t c12 h
  refine lv_iconst (v := 1) hx hb d_Code_isWrongField_23 (by decide) ?_
  refine lv_goto (tgt := 28) hx hb d_Code_isWrongField_24 (by decide) ?_
  exact me_retz (me_kp M0) h (by decide) hx hb hr hlocks hwf hkp hP hK hD hS d_Code_isWrongField_28
theorem d_Code_faultOfSlot_127 : decode prog_4_method_16_code 127 = .ok (.aload_n 0, 1) := by decide +kernel
theorem d_Code_faultOfSlot_128 : decode prog_4_method_16_code 128 = .ok (.getfield 55, 3) := by decide +kernel
theorem d_Code_faultOfSlot_131 : decode prog_4_method_16_code 131 = .ok (.iconst 1, 1) := by decide +kernel
theorem d_Code_faultOfSlot_132 : decode prog_4_method_16_code 132 = .ok (.if_icmp .ne 30, 3) := by decide +kernel
theorem d_Code_faultOfSlot_162 : decode prog_4_method_16_code 162 = .ok (.iconst 0, 1) := by decide +kernel
theorem d_Code_faultOfSlot_163 : decode prog_4_method_16_code 163 = .ok (.ireturn, 1) := by decide +kernel
theorem d_Code_faultOfSlot_135 : decode prog_4_method_16_code 135 = .ok (.aload_n 0, 1) := by decide +kernel
theorem d_Code_faultOfSlot_136 : decode prog_4_method_16_code 136 = .ok (.getfield 35, 3) := by decide +kernel
theorem d_Code_faultOfSlot_139 : decode prog_4_method_16_code 139 = .ok (.iconst 1, 1) := by decide +kernel
theorem d_Code_faultOfSlot_140 : decode prog_4_method_16_code 140 = .ok (.if_icmp .ne 22, 3) := by decide +kernel
theorem d_Code_faultOfSlot_143 : decode prog_4_method_16_code 143 = .ok (.aload_n 0, 1) := by decide +kernel
theorem d_Code_faultOfSlot_144 : decode prog_4_method_16_code 144 = .ok (.getfield 41, 3) := by decide +kernel
theorem d_Code_faultOfSlot_147 : decode prog_4_method_16_code 147 = .ok (.ifCond .lt 11, 3) := by decide +kernel
theorem d_Code_faultOfSlot_158 : decode prog_4_method_16_code 158 = .ok (.iconst 4, 1) := by decide +kernel
theorem d_Code_faultOfSlot_159 : decode prog_4_method_16_code 159 = .ok (.goto 4, 3) := by decide +kernel
theorem d_Code_faultOfSlot_150 : decode prog_4_method_16_code 150 = .ok (.aload_n 0, 1) := by decide +kernel
theorem d_Code_faultOfSlot_151 : decode prog_4_method_16_code 151 = .ok (.getfield 41, 3) := by decide +kernel
theorem d_Code_faultOfSlot_154 : decode prog_4_method_16_code 154 = .ok (.iload_n 2, 1) := by decide +kernel
theorem d_Code_faultOfSlot_155 : decode prog_4_method_16_code 155 = .ok (.if_icmp .lt 7, 3) := by decide +kernel
theorem d_Code_faultOfSlot_99 : decode prog_4_method_16_code 99 = .ok (.aload_n 0, 1) := by decide +kernel
theorem d_Code_faultOfSlot_100 : decode prog_4_method_16_code 100 = .ok (.getfield 55, 3) := by decide +kernel
theorem d_Code_faultOfSlot_103 : decode prog_4_method_16_code 103 = .ok (.bipush 9, 2) := by decide +kernel
theorem d_Code_faultOfSlot_105 : decode prog_4_method_16_code 105 = .ok (.if_icmp .ne 22, 3) := by decide +kernel
theorem d_Code_faultOfSlot_108 : decode prog_4_method_16_code 108 = .ok (.aload_n 0, 1) := by decide +kernel
theorem d_Code_faultOfSlot_109 : decode prog_4_method_16_code 109 = .ok (.getfield 41, 3) := by decide +kernel
theorem d_Code_faultOfSlot_112 : decode prog_4_method_16_code 112 = .ok (.iconst 1, 1) := by decide +kernel
theorem d_Code_faultOfSlot_113 : decode prog_4_method_16_code 113 = .ok (.if_icmp .lt 12, 3) := by decide +kernel
theorem d_Code_faultOfSlot_125 : decode prog_4_method_16_code 125 = .ok (.iconst 4, 1) := by decide +kernel
theorem d_Code_faultOfSlot_126 : decode prog_4_method_16_code 126 = .ok (.ireturn, 1) := by decide +kernel
theorem d_Code_faultOfSlot_116 : decode prog_4_method_16_code 116 = .ok (.aload_n 0, 1) := by decide +kernel
theorem d_Code_faultOfSlot_117 : decode prog_4_method_16_code 117 = .ok (.getfield 41, 3) := by decide +kernel
theorem d_Code_faultOfSlot_120 : decode prog_4_method_16_code 120 = .ok (.bipush 6, 2) := by decide +kernel
theorem d_Code_faultOfSlot_122 : decode prog_4_method_16_code 122 = .ok (.if_icmp .le 5, 3) := by decide +kernel
theorem d_Code_faultOfSlot_74 : decode prog_4_method_16_code 74 = .ok (.aload_n 0, 1) := by decide +kernel
theorem d_Code_faultOfSlot_75 : decode prog_4_method_16_code 75 = .ok (.getfield 55, 3) := by decide +kernel
theorem d_Code_faultOfSlot_78 : decode prog_4_method_16_code 78 = .ok (.bipush 6, 2) := by decide +kernel
theorem d_Code_faultOfSlot_80 : decode prog_4_method_16_code 80 = .ok (.if_icmp .ne 19, 3) := by decide +kernel
theorem d_Code_faultOfSlot_83 : decode prog_4_method_16_code 83 = .ok (.aload_n 0, 1) := by decide +kernel
theorem d_Code_faultOfSlot_84 : decode prog_4_method_16_code 84 = .ok (.getfield 68, 3) := by decide +kernel
theorem d_Code_faultOfSlot_87 : decode prog_4_method_16_code 87 = .ok (.ifCond .ne 12, 3) := by decide +kernel
theorem d_Code_faultOfSlot_90 : decode prog_4_method_16_code 90 = .ok (.aload_n 0, 1) := by decide +kernel
theorem d_Code_faultOfSlot_91 : decode prog_4_method_16_code 91 = .ok (.invokevirtual 111, 3) := by decide +kernel
theorem u_996 : Cond.methodLink "FilterGuard$Code" 111 ⟨"FilterGuard$Code", "isWrongField", "()Z"⟩ ∈ fg_g := fg_in (List.mem_of_getElem? (i := 996) (by decide +kernel)) rfl
theorem u_999 : Cond.code ⟨"FilterGuard$Code", "isWrongField", "()Z"⟩ prog_4_method_17_code 2 (some .boolean) ∈ fg_g := fg_in (List.mem_of_getElem? (i := 999) (by decide +kernel)) rfl
theorem u_998 : Cond.instanceMethod ⟨"FilterGuard$Code", "isWrongField", "()Z"⟩ ∈ fg_g := fg_in (List.mem_of_getElem? (i := 998) (by decide +kernel)) rfl
theorem u_10 : Cond.selects "FilterGuard$Code" ⟨"FilterGuard$Code", "isWrongField", "()Z"⟩ ⟨"FilterGuard$Code", "isWrongField", "()Z"⟩ ∈ fg_g := fg_in (List.mem_of_getElem? (i := 10) (by decide +kernel)) rfl
theorem d_Code_faultOfSlot_94 : decode prog_4_method_16_code 94 = .ok (.ifCond .eq 5, 3) := by decide +kernel
theorem d_Code_faultOfSlot_97 : decode prog_4_method_16_code 97 = .ok (.iconst 3, 1) := by decide +kernel
theorem d_Code_faultOfSlot_98 : decode prog_4_method_16_code 98 = .ok (.ireturn, 1) := by decide +kernel
theorem d_Code_faultOfSlot_40 : decode prog_4_method_16_code 40 = .ok (.istore_n 3, 1) := by decide +kernel
theorem d_Code_faultOfSlot_41 : decode prog_4_method_16_code 41 = .ok (.aload_n 0, 1) := by decide +kernel
theorem d_Code_faultOfSlot_42 : decode prog_4_method_16_code 42 = .ok (.getfield 32, 3) := by decide +kernel
theorem d_Code_faultOfSlot_45 : decode prog_4_method_16_code 45 = .ok (.bipush 10, 2) := by decide +kernel
theorem d_Code_faultOfSlot_47 : decode prog_4_method_16_code 47 = .ok (.if_icmp .gt 25, 3) := by decide +kernel
theorem d_Code_faultOfSlot_72 : decode prog_4_method_16_code 72 = .ok (.iconst 2, 1) := by decide +kernel
theorem d_Code_faultOfSlot_73 : decode prog_4_method_16_code 73 = .ok (.ireturn, 1) := by decide +kernel
theorem d_Code_faultOfSlot_50 : decode prog_4_method_16_code 50 = .ok (.aload_n 0, 1) := by decide +kernel
theorem d_Code_faultOfSlot_51 : decode prog_4_method_16_code 51 = .ok (.getfield 35, 3) := by decide +kernel
theorem d_Code_faultOfSlot_54 : decode prog_4_method_16_code 54 = .ok (.bipush 10, 2) := by decide +kernel
theorem d_Code_faultOfSlot_56 : decode prog_4_method_16_code 56 = .ok (.if_icmp .gt 16, 3) := by decide +kernel
theorem d_Code_faultOfSlot_59 : decode prog_4_method_16_code 59 = .ok (.iload_n 3, 1) := by decide +kernel
theorem d_Code_faultOfSlot_60 : decode prog_4_method_16_code 60 = .ok (.ifCond .eq 14, 3) := by decide +kernel
theorem d_Code_faultOfSlot_63 : decode prog_4_method_16_code 63 = .ok (.aload_n 0, 1) := by decide +kernel
theorem d_Code_faultOfSlot_64 : decode prog_4_method_16_code 64 = .ok (.getfield 32, 3) := by decide +kernel
theorem d_Code_faultOfSlot_67 : decode prog_4_method_16_code 67 = .ok (.bipush 10, 2) := by decide +kernel
theorem d_Code_faultOfSlot_69 : decode prog_4_method_16_code 69 = .ok (.if_icmp .ne 5, 3) := by decide +kernel
theorem d_Code_faultOfSlot_35 : decode prog_4_method_16_code 35 = .ok (.iconst 1, 1) := by decide +kernel
theorem d_Code_faultOfSlot_36 : decode prog_4_method_16_code 36 = .ok (.goto 4, 3) := by decide +kernel
theorem d_Code_faultOfSlot_0 : decode prog_4_method_16_code 0 = .ok (.aload_n 0, 1) := by decide +kernel
theorem d_Code_faultOfSlot_1 : decode prog_4_method_16_code 1 = .ok (.iload_n 1, 1) := by decide +kernel
theorem d_Code_faultOfSlot_2 : decode prog_4_method_16_code 2 = .ok (.invokevirtual 108, 3) := by decide +kernel
theorem u_983 : Cond.methodLink "FilterGuard$Code" 108 ⟨"FilterGuard$Code", "isShaped", "(I)Z"⟩ ∈ fg_g := fg_in (List.mem_of_getElem? (i := 983) (by decide +kernel)) rfl
theorem u_986 : Cond.code ⟨"FilterGuard$Code", "isShaped", "(I)Z"⟩ prog_4_method_18_code 2 (some .boolean) ∈ fg_g := fg_in (List.mem_of_getElem? (i := 986) (by decide +kernel)) rfl
theorem u_985 : Cond.instanceMethod ⟨"FilterGuard$Code", "isShaped", "(I)Z"⟩ ∈ fg_g := fg_in (List.mem_of_getElem? (i := 985) (by decide +kernel)) rfl
theorem u_7 : Cond.selects "FilterGuard$Code" ⟨"FilterGuard$Code", "isShaped", "(I)Z"⟩ ⟨"FilterGuard$Code", "isShaped", "(I)Z"⟩ ∈ fg_g := fg_in (List.mem_of_getElem? (i := 7) (by decide +kernel)) rfl
theorem d_Code_faultOfSlot_5 : decode prog_4_method_16_code 5 = .ok (.ifCond .ne 5, 3) := by decide +kernel
theorem d_Code_faultOfSlot_10 : decode prog_4_method_16_code 10 = .ok (.aload_n 0, 1) := by decide +kernel
theorem d_Code_faultOfSlot_11 : decode prog_4_method_16_code 11 = .ok (.getfield 55, 3) := by decide +kernel
theorem d_Code_faultOfSlot_14 : decode prog_4_method_16_code 14 = .ok (.iconst 1, 1) := by decide +kernel
theorem d_Code_faultOfSlot_15 : decode prog_4_method_16_code 15 = .ok (.if_icmp .eq 20, 3) := by decide +kernel
theorem d_Code_faultOfSlot_18 : decode prog_4_method_16_code 18 = .ok (.aload_n 0, 1) := by decide +kernel
theorem d_Code_faultOfSlot_19 : decode prog_4_method_16_code 19 = .ok (.getfield 55, 3) := by decide +kernel
theorem d_Code_faultOfSlot_22 : decode prog_4_method_16_code 22 = .ok (.iconst 2, 1) := by decide +kernel
theorem d_Code_faultOfSlot_23 : decode prog_4_method_16_code 23 = .ok (.if_icmp .eq 12, 3) := by decide +kernel
theorem d_Code_faultOfSlot_26 : decode prog_4_method_16_code 26 = .ok (.aload_n 0, 1) := by decide +kernel
theorem d_Code_faultOfSlot_27 : decode prog_4_method_16_code 27 = .ok (.getfield 55, 3) := by decide +kernel
theorem d_Code_faultOfSlot_30 : decode prog_4_method_16_code 30 = .ok (.bipush 6, 2) := by decide +kernel
theorem d_Code_faultOfSlot_32 : decode prog_4_method_16_code 32 = .ok (.if_icmp .ne 7, 3) := by decide +kernel
theorem d_Code_faultOfSlot_39 : decode prog_4_method_16_code 39 = .ok (.iconst 0, 1) := by decide +kernel
theorem d_Code_faultOfSlot_8 : decode prog_4_method_16_code 8 = .ok (.iconst 1, 1) := by decide +kernel
theorem d_Code_faultOfSlot_9 : decode prog_4_method_16_code 9 = .ok (.ireturn, 1) := by decide +kernel
abbrev y_Code_faultOfSlot : MethodName := ⟨"FilterGuard$Code", "faultOfSlot", "(II)I"⟩
def rm_Code_faultOfSlot : Room := { frames := 3, cells := 0, slots := 0, locals := 61 }
abbrev q_Code_faultOfSlot (D : va_G) (ad : Nat → Nat → Nat) (ca : Nat → ClassId) (N : Nat → Nat) (M0 MZ : me_M) (RZ : Int32) (A : Nat → Prop) : Array Value → Jvm.State → Outcome → Jvm.State → Prop := va_Qi (fun r (_ : Unit) => r = RZ ∧ me_wf N MZ ∧ me_kp M0 MZ) (fg_B D A (fun _ => me_W ad ca MZ) (fun _ => [])) A
set_option maxHeartbeats 4000000 in
set_option maxRecDepth 100000 in
theorem c_Code_faultOfSlot (l : Launch) (D : va_G) (ad : Nat → Nat → Nat) (ca : Nat → ClassId) (N : Nat → Nat) (M0 MZ : me_M) (RZ : Int32) (j0 : Nat) (x1 : Int32) (x2 : Int32) (h : f_Code_faultOfSlot M0 j0 x1 x2 = (some (MZ, RZ))) (hwf : me_wf N M0) (hj0 : j0 < N 2) (sz : Nat) : Met l y_Code_faultOfSlot (fg_w y_Code_faultOfSlot prog_4_method_16_code 4 (some .int)) rm_Code_faultOfSlot (va_Pc [.ref (ad 2 j0), .int x1, .int x2] (fz_P D (me_T ca) (me_W ad ca M0) sz)) (q_Code_faultOfSlot D ad ca N M0 MZ RZ (va_A (me_W ad ca M0) sz)) rm_Code_faultOfSlot.cells rm_Code_faultOfSlot.slots (va_A (me_W ad ca M0) sz) := by
  refine fz_enter (fun A => q_Code_faultOfSlot D ad ca N M0 MZ RZ A) (by decide +kernel) (Nat.le_of_ble_eq_true rfl) ?_
  intro p e s m below meth c ls A hx hb hml hown hts hr hlocks hin hP hK hD hS hA hX hl hz
  have hl : lv_has ls 4 [(0, .ref (ad 2 j0)), (1, .int x1), (2, .int x2)] := hl
  unfold f_Code_faultOfSlot at h
  have hkp : me_kp M0 M0 := me_kp.rf
  have hkb := hkp
  have b_127 : ∀ (M : me_M) (H : Heap) (locs : List Loc) (ls : Array Slot), f_Code_faultOfSlot_b127 j0 x2 M = (some (MZ, RZ)) → me_wf N M → me_kp M0 M → va_P D classes (me_W ad ca M) H → va_D A (me_W ad ca M) → va_S A s.heap H locs → lv_has ls 4 [(0, .ref (ad 2 j0)), (2, .int x2)] → W p l e rm_Code_faultOfSlot s m [.ref (ad 2 j0), .int x1, .int x2].toArray below meth c H locs 0 0 (MQ below (q_Code_faultOfSlot D ad ca N M0 MZ RZ A) [.ref (ad 2 j0), .int x1, .int x2].toArray s rm_Code_faultOfSlot.cells rm_Code_faultOfSlot.slots A) (F0 m 127 ls []) := by
    intro M H locs ls h hwf hkp hP hD hS hl
    unfold f_Code_faultOfSlot_b127 at h
    have hkb := hkp
    refine lv_aload_n hx hb d_Code_faultOfSlot_127 rfl (lv_at hl 0 rfl) ?_
    refine g_Code_10 hx hb hts hown hK hP hwf hj0 (hts _ u_252) d_Code_faultOfSlot_128 ?_
    refine lv_iconst (v := 1) hx hb d_Code_faultOfSlot_131 (by decide) ?_
    refine lv_icmp_ne (tgt := 162) hx hb d_Code_faultOfSlot_132 (by decide) (fun c1 => ?_) (fun c1 => ?_)
    · have h := if_f c1 h
      refine lv_iconst (v := 0) hx hb d_Code_faultOfSlot_162 (by decide) ?_
      exact me_reti (me_kp M0) h hx hb hr hlocks hwf hkp hP hK hD hS d_Code_faultOfSlot_163
    have h := if_t c1 h
    refine lv_aload_n hx hb d_Code_faultOfSlot_135 rfl (lv_at hl 0 rfl) ?_
    refine g_Code_7 hx hb hts hown hK hP hwf hj0 (hts _ u_238) d_Code_faultOfSlot_136 ?_
    refine lv_iconst (v := 1) hx hb d_Code_faultOfSlot_139 (by decide) ?_
    refine lv_icmp_ne (tgt := 162) hx hb d_Code_faultOfSlot_140 (by decide) (fun c2 => ?_) (fun c2 => ?_)
    · have h := if_f c2 h
      refine lv_iconst (v := 0) hx hb d_Code_faultOfSlot_162 (by decide) ?_
      exact me_reti (me_kp M0) h hx hb hr hlocks hwf hkp hP hK hD hS d_Code_faultOfSlot_163
    have h := if_t c2 h
    refine lv_aload_n hx hb d_Code_faultOfSlot_143 rfl (lv_at hl 0 rfl) ?_
    refine g_Code_9 hx hb hts hown hK hP hwf hj0 (hts _ u_247) d_Code_faultOfSlot_144 ?_
    refine lv_if_lt (tgt := 158) hx hb d_Code_faultOfSlot_147 (by decide) (fun c3 => ?_) (fun c3 => ?_)
    · have h := if_t c3 h
      refine lv_iconst (v := 4) hx hb d_Code_faultOfSlot_158 (by decide) ?_
      refine lv_goto (tgt := 163) hx hb d_Code_faultOfSlot_159 (by decide) ?_
      exact me_reti (me_kp M0) h hx hb hr hlocks hwf hkp hP hK hD hS d_Code_faultOfSlot_163
    have h := if_f c3 h
    refine lv_aload_n hx hb d_Code_faultOfSlot_150 rfl (lv_at hl 0 rfl) ?_
    refine g_Code_9 hx hb hts hown hK hP hwf hj0 (hts _ u_247) d_Code_faultOfSlot_151 ?_
    refine lv_iload_n hx hb d_Code_faultOfSlot_154 rfl (lv_at hl 1 rfl) ?_
    refine lv_icmp_lt (tgt := 162) hx hb d_Code_faultOfSlot_155 (by decide) (fun c4 => ?_) (fun c4 => ?_)
    · have h := if_t c4 h
      refine lv_iconst (v := 0) hx hb d_Code_faultOfSlot_162 (by decide) ?_
      exact me_reti (me_kp M0) h hx hb hr hlocks hwf hkp hP hK hD hS d_Code_faultOfSlot_163
    have h := if_f c4 h
    refine lv_iconst (v := 4) hx hb d_Code_faultOfSlot_158 (by decide) ?_
    refine lv_goto (tgt := 163) hx hb d_Code_faultOfSlot_159 (by decide) ?_
    exact me_reti (me_kp M0) h hx hb hr hlocks hwf hkp hP hK hD hS d_Code_faultOfSlot_163
  have b_99 : ∀ (M : me_M) (H : Heap) (locs : List Loc) (ls : Array Slot), f_Code_faultOfSlot_b99 j0 x2 M = (some (MZ, RZ)) → me_wf N M → me_kp M0 M → va_P D classes (me_W ad ca M) H → va_D A (me_W ad ca M) → va_S A s.heap H locs → lv_has ls 4 [(0, .ref (ad 2 j0)), (2, .int x2)] → W p l e rm_Code_faultOfSlot s m [.ref (ad 2 j0), .int x1, .int x2].toArray below meth c H locs 0 0 (MQ below (q_Code_faultOfSlot D ad ca N M0 MZ RZ A) [.ref (ad 2 j0), .int x1, .int x2].toArray s rm_Code_faultOfSlot.cells rm_Code_faultOfSlot.slots A) (F0 m 99 ls []) := by
    intro M H locs ls h hwf hkp hP hD hS hl
    unfold f_Code_faultOfSlot_b99 at h
    have hkb := hkp
    refine lv_aload_n hx hb d_Code_faultOfSlot_99 rfl (lv_at hl 0 rfl) ?_
    refine g_Code_10 hx hb hts hown hK hP hwf hj0 (hts _ u_252) d_Code_faultOfSlot_100 ?_
    refine lv_bipush (v := 9) hx hb d_Code_faultOfSlot_103 (by decide) ?_
    refine lv_icmp_ne (tgt := 127) hx hb d_Code_faultOfSlot_105 (by decide) (fun c5 => ?_) (fun c5 => ?_)
    · have h := if_f c5 h
      exact b_127 M _ _ _ h hwf hkp hP hD hS (lv_sub hl [0, 1] rfl)
    have h := if_t c5 h
    refine lv_aload_n hx hb d_Code_faultOfSlot_108 rfl (lv_at hl 0 rfl) ?_
    refine g_Code_9 hx hb hts hown hK hP hwf hj0 (hts _ u_247) d_Code_faultOfSlot_109 ?_
    refine lv_iconst (v := 1) hx hb d_Code_faultOfSlot_112 (by decide) ?_
    refine lv_icmp_lt (tgt := 125) hx hb d_Code_faultOfSlot_113 (by decide) (fun c6 => ?_) (fun c6 => ?_)
    · have h := if_t c6 h
      refine lv_iconst (v := 4) hx hb d_Code_faultOfSlot_125 (by decide) ?_
      exact me_reti (me_kp M0) h hx hb hr hlocks hwf hkp hP hK hD hS d_Code_faultOfSlot_126
    have h := if_f c6 h
    refine lv_aload_n hx hb d_Code_faultOfSlot_116 rfl (lv_at hl 0 rfl) ?_
    refine g_Code_9 hx hb hts hown hK hP hwf hj0 (hts _ u_247) d_Code_faultOfSlot_117 ?_
    refine lv_bipush (v := 6) hx hb d_Code_faultOfSlot_120 (by decide) ?_
    refine lv_icmp_le (tgt := 127) hx hb d_Code_faultOfSlot_122 (by decide) (fun c7 => ?_) (fun c7 => ?_)
    · have h := if_t c7 h
      exact b_127 M _ _ _ h hwf hkp hP hD hS (lv_sub hl [0, 1] rfl)
    have h := if_f c7 h
    refine lv_iconst (v := 4) hx hb d_Code_faultOfSlot_125 (by decide) ?_
    exact me_reti (me_kp M0) h hx hb hr hlocks hwf hkp hP hK hD hS d_Code_faultOfSlot_126
  have b_74 : ∀ (M : me_M) (H : Heap) (locs : List Loc) (ls : Array Slot), f_Code_faultOfSlot_b74 j0 x2 M = (some (MZ, RZ)) → me_wf N M → me_kp M0 M → va_P D classes (me_W ad ca M) H → va_D A (me_W ad ca M) → va_S A s.heap H locs → lv_has ls 4 [(0, .ref (ad 2 j0)), (2, .int x2)] → W p l e rm_Code_faultOfSlot s m [.ref (ad 2 j0), .int x1, .int x2].toArray below meth c H locs 0 0 (MQ below (q_Code_faultOfSlot D ad ca N M0 MZ RZ A) [.ref (ad 2 j0), .int x1, .int x2].toArray s rm_Code_faultOfSlot.cells rm_Code_faultOfSlot.slots A) (F0 m 74 ls []) := by
    intro M H locs ls h hwf hkp hP hD hS hl
    unfold f_Code_faultOfSlot_b74 at h
    have hkb := hkp
    refine lv_aload_n hx hb d_Code_faultOfSlot_74 rfl (lv_at hl 0 rfl) ?_
    refine g_Code_10 hx hb hts hown hK hP hwf hj0 (hts _ u_252) d_Code_faultOfSlot_75 ?_
    refine lv_bipush (v := 6) hx hb d_Code_faultOfSlot_78 (by decide) ?_
    refine lv_icmp_ne (tgt := 99) hx hb d_Code_faultOfSlot_80 (by decide) (fun c8 => ?_) (fun c8 => ?_)
    · have h := if_f c8 h
      exact b_99 M _ _ _ h hwf hkp hP hD hS (lv_sub hl [0, 1] rfl)
    have h := if_t c8 h
    refine lv_aload_n hx hb d_Code_faultOfSlot_83 rfl (lv_at hl 0 rfl) ?_
    refine g_Code_15 hx hb hts hown hK hP hwf hj0 (hts _ u_273) d_Code_faultOfSlot_84 ?_
    have z9 := (hwf.2.2.2 2 j0 15 rfl)
    refine lv_if_ne (tgt := 99) hx hb d_Code_faultOfSlot_87 (by decide) (fun c10 => ?_) (fun c10 => ?_)
    · have h := if_f c10 h
      exact b_99 M _ _ _ h hwf hkp hP hD hS (lv_sub hl [0, 1] rfl)
    have h := if_t c10 h
    refine lv_aload_n hx hb d_Code_faultOfSlot_90 rfl (lv_at hl 0 rfl) ?_
    obtain ⟨M11, r12, eM11, h⟩ := b2_ob h
    refine me_theni0 (M1 := M11) (me_runV (C := "FilterGuard$Code") (As := []) (rest := []) ⟨hx, hb, hml, hown, hts⟩ (c_Code_isWrongField l D ad ca N M M11 r12 j0 eM11 hwf hj0 _) rfl (by show fg_nm y_Code_isWrongField 0; decide +kernel) u_996 u_998 u_10 u_182 u_999 ⟨Nat.le_of_ble_eq_true rfl, Nat.le_of_ble_eq_true rfl⟩ hX hz hK hP hD hwf hS hA hj0 (by decide) rfl rfl rfl hl.1 (Nat.le_of_ble_eq_true rfl) d_Code_faultOfSlot_91 ⟨Nat.le_of_ble_eq_true rfl, Nat.le_of_ble_eq_true rfl⟩) hP hD hK hS hA rfl rfl (fun H locs hw hP hD hS => ?_)
    obtain ⟨hwf, hk9, zr12⟩ := hw
    have hkp := hkp.tr hk9
    refine lv_if_eq (tgt := 99) hx hb d_Code_faultOfSlot_94 (by decide) (fun c13 => ?_) (fun c13 => ?_)
    · have h := if_t c13 h
      exact b_99 M11 _ _ _ h hwf hkp hP hD hS (lv_sub hl [0, 1] rfl)
    have h := if_f c13 h
    refine lv_iconst (v := 3) hx hb d_Code_faultOfSlot_97 (by decide) ?_
    exact me_reti (me_kp M0) h hx hb hr hlocks hwf hkp hP hK hD hS d_Code_faultOfSlot_98
  have b_40 : ∀ (M : me_M) (s0 : Int32) (H : Heap) (locs : List Loc) (ls : Array Slot), f_Code_faultOfSlot_b40 j0 x2 M s0 = (some (MZ, RZ)) → (s0 = 1 ∨ s0 = 0) → me_wf N M → me_kp M0 M → va_P D classes (me_W ad ca M) H → va_D A (me_W ad ca M) → va_S A s.heap H locs → lv_has ls 4 [(0, .ref (ad 2 j0)), (2, .int x2)] → W p l e rm_Code_faultOfSlot s m [.ref (ad 2 j0), .int x1, .int x2].toArray below meth c H locs 0 0 (MQ below (q_Code_faultOfSlot D ad ca N M0 MZ RZ A) [.ref (ad 2 j0), .int x1, .int x2].toArray s rm_Code_faultOfSlot.cells rm_Code_faultOfSlot.slots A) (F0 m 40 ls [.int s0]) := by
    intro M s0 H locs ls h zs0 hwf hkp hP hD hS hl
    unfold f_Code_faultOfSlot_b40 at h
    have hkb := hkp
    refine lv_istore_n (lv' := [(3, .int s0), (0, .ref (ad 2 j0)), (2, .int x2)]) hx hb d_Code_faultOfSlot_40 rfl hl (by decide) rfl (fun ls hl => ?_)
    refine lv_aload_n hx hb d_Code_faultOfSlot_41 rfl (lv_at hl 1 rfl) ?_
    refine g_Code_6 hx hb hts hown hK hP hwf hj0 (hts _ u_233) d_Code_faultOfSlot_42 ?_
    refine lv_bipush (v := 10) hx hb d_Code_faultOfSlot_45 (by decide) ?_
    refine lv_icmp_gt (tgt := 72) hx hb d_Code_faultOfSlot_47 (by decide) (fun c14 => ?_) (fun c14 => ?_)
    · have h := if_t c14 h
      refine lv_iconst (v := 2) hx hb d_Code_faultOfSlot_72 (by decide) ?_
      exact me_reti (me_kp M0) h hx hb hr hlocks hwf hkp hP hK hD hS d_Code_faultOfSlot_73
    have h := if_f c14 h
    refine lv_aload_n hx hb d_Code_faultOfSlot_50 rfl (lv_at hl 1 rfl) ?_
    refine g_Code_7 hx hb hts hown hK hP hwf hj0 (hts _ u_238) d_Code_faultOfSlot_51 ?_
    refine lv_bipush (v := 10) hx hb d_Code_faultOfSlot_54 (by decide) ?_
    refine lv_icmp_gt (tgt := 72) hx hb d_Code_faultOfSlot_56 (by decide) (fun c15 => ?_) (fun c15 => ?_)
    · have h := if_t c15 h
      refine lv_iconst (v := 2) hx hb d_Code_faultOfSlot_72 (by decide) ?_
      exact me_reti (me_kp M0) h hx hb hr hlocks hwf hkp hP hK hD hS d_Code_faultOfSlot_73
    have h := if_f c15 h
    refine lv_iload_n hx hb d_Code_faultOfSlot_59 rfl (lv_at hl 0 rfl) ?_
    refine lv_if_eq (tgt := 74) hx hb d_Code_faultOfSlot_60 (by decide) (fun c16 => ?_) (fun c16 => ?_)
    · have h := if_t c16 h
      exact b_74 M _ _ _ h hwf hkp hP hD hS (lv_sub hl [1, 2] rfl)
    have h := if_f c16 h
    refine lv_aload_n hx hb d_Code_faultOfSlot_63 rfl (lv_at hl 1 rfl) ?_
    refine g_Code_6 hx hb hts hown hK hP hwf hj0 (hts _ u_233) d_Code_faultOfSlot_64 ?_
    refine lv_bipush (v := 10) hx hb d_Code_faultOfSlot_67 (by decide) ?_
    refine lv_icmp_ne (tgt := 74) hx hb d_Code_faultOfSlot_69 (by decide) (fun c17 => ?_) (fun c17 => ?_)
    · have h := if_f c17 h
      exact b_74 M _ _ _ h hwf hkp hP hD hS (lv_sub hl [1, 2] rfl)
    have h := if_t c17 h
    refine lv_iconst (v := 2) hx hb d_Code_faultOfSlot_72 (by decide) ?_
    exact me_reti (me_kp M0) h hx hb hr hlocks hwf hkp hP hK hD hS d_Code_faultOfSlot_73
  have b_35 : ∀ (M : me_M) (H : Heap) (locs : List Loc) (ls : Array Slot), f_Code_faultOfSlot_b35 j0 x2 M = (some (MZ, RZ)) → me_wf N M → me_kp M0 M → va_P D classes (me_W ad ca M) H → va_D A (me_W ad ca M) → va_S A s.heap H locs → lv_has ls 4 [(0, .ref (ad 2 j0)), (2, .int x2)] → W p l e rm_Code_faultOfSlot s m [.ref (ad 2 j0), .int x1, .int x2].toArray below meth c H locs 0 0 (MQ below (q_Code_faultOfSlot D ad ca N M0 MZ RZ A) [.ref (ad 2 j0), .int x1, .int x2].toArray s rm_Code_faultOfSlot.cells rm_Code_faultOfSlot.slots A) (F0 m 35 ls []) := by
    intro M H locs ls h hwf hkp hP hD hS hl
    unfold f_Code_faultOfSlot_b35 at h
    have hkb := hkp
    refine lv_iconst (v := 1) hx hb d_Code_faultOfSlot_35 (by decide) ?_
    refine lv_goto (tgt := 40) hx hb d_Code_faultOfSlot_36 (by decide) ?_
    exact b_40 M (1 : Int32) _ _ _ h (by decide) hwf hkp hP hD hS (lv_sub hl [0, 1] rfl)
  refine lv_aload_n hx hb d_Code_faultOfSlot_0 rfl (lv_at hl 0 rfl) ?_
  refine lv_iload_n hx hb d_Code_faultOfSlot_1 rfl (lv_at hl 1 rfl) ?_
  obtain ⟨M18, r19, eM18, h⟩ := b2_ob h
  refine me_theni0 (M1 := M18) (me_runV (C := "FilterGuard$Code") (As := [.int x1]) (rest := []) ⟨hx, hb, hml, hown, hts⟩ (c_Code_isShaped l D ad ca N M0 M18 r19 j0 x1 eM18 hwf hj0 _) rfl (by show fg_nm y_Code_isShaped 1; decide +kernel) u_983 u_985 u_7 u_182 u_986 ⟨Nat.le_of_ble_eq_true rfl, Nat.le_of_ble_eq_true rfl⟩ hX hz hK hP hD hwf hS hA hj0 (by decide) rfl rfl rfl hl.1 (Nat.le_of_ble_eq_true rfl) d_Code_faultOfSlot_2 ⟨Nat.le_of_ble_eq_true rfl, Nat.le_of_ble_eq_true rfl⟩) hP hD hK hS hA rfl rfl (fun H locs hw hP hD hS => ?_)
  obtain ⟨hwf, hk9, zr19⟩ := hw
  have hkp := hkp.tr hk9
  refine lv_if_ne (tgt := 10) hx hb d_Code_faultOfSlot_5 (by decide) (fun c20 => ?_) (fun c20 => ?_)
  · have h := if_f c20 h
    refine lv_aload_n hx hb d_Code_faultOfSlot_10 rfl (lv_at hl 0 rfl) ?_
    refine g_Code_10 hx hb hts hown hK hP hwf hj0 (hts _ u_252) d_Code_faultOfSlot_11 ?_
    refine lv_iconst (v := 1) hx hb d_Code_faultOfSlot_14 (by decide) ?_
    refine lv_icmp_eq (tgt := 35) hx hb d_Code_faultOfSlot_15 (by decide) (fun c21 => ?_) (fun c21 => ?_)
    · have h := if_t c21 h
      exact b_35 M18 _ _ _ h hwf hkp hP hD hS (lv_sub hl [0, 2] rfl)
    have h := if_f c21 h
    refine lv_aload_n hx hb d_Code_faultOfSlot_18 rfl (lv_at hl 0 rfl) ?_
    refine g_Code_10 hx hb hts hown hK hP hwf hj0 (hts _ u_252) d_Code_faultOfSlot_19 ?_
    refine lv_iconst (v := 2) hx hb d_Code_faultOfSlot_22 (by decide) ?_
    refine lv_icmp_eq (tgt := 35) hx hb d_Code_faultOfSlot_23 (by decide) (fun c22 => ?_) (fun c22 => ?_)
    · have h := if_t c22 h
      exact b_35 M18 _ _ _ h hwf hkp hP hD hS (lv_sub hl [0, 2] rfl)
    have h := if_f c22 h
    refine lv_aload_n hx hb d_Code_faultOfSlot_26 rfl (lv_at hl 0 rfl) ?_
    refine g_Code_10 hx hb hts hown hK hP hwf hj0 (hts _ u_252) d_Code_faultOfSlot_27 ?_
    refine lv_bipush (v := 6) hx hb d_Code_faultOfSlot_30 (by decide) ?_
    refine lv_icmp_ne (tgt := 39) hx hb d_Code_faultOfSlot_32 (by decide) (fun c23 => ?_) (fun c23 => ?_)
    · have h := if_f c23 h
      refine lv_iconst (v := 0) hx hb d_Code_faultOfSlot_39 (by decide) ?_
      exact b_40 M18 (0 : Int32) _ _ _ h (by decide) hwf hkp hP hD hS (lv_sub hl [0, 2] rfl)
    have h := if_t c23 h
    exact b_35 M18 _ _ _ h hwf hkp hP hD hS (lv_sub hl [0, 2] rfl)
  have h := if_t c20 h
  refine lv_iconst (v := 1) hx hb d_Code_faultOfSlot_8 (by decide) ?_
  exact me_reti (me_kp M0) h hx hb hr hlocks hwf hkp hP hK hD hS d_Code_faultOfSlot_9
