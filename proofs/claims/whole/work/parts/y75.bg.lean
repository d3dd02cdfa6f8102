theorem d_M_runCall_236 : decode prog_14_method_135_code 236 = .ok (.iload 5, 2) := by decide +kernel
theorem d_M_runCall_238 : decode prog_14_method_135_code 238 = .ok (.aload_n 0, 1) := by decide +kernel
theorem d_M_runCall_239 : decode prog_14_method_135_code 239 = .ok (.getfield 77, 3) := by decide +kernel
theorem d_M_runCall_242 : decode prog_14_method_135_code 242 = .ok (.iconst 2, 1) := by decide +kernel
theorem d_M_runCall_243 : decode prog_14_method_135_code 243 = .ok (.laload, 1) := by decide +kernel
theorem d_M_runCall_244 : decode prog_14_method_135_code 244 = .ok (.l2i, 1) := by decide +kernel
theorem d_M_runCall_245 : decode prog_14_method_135_code 245 = .ok (.if_icmp .ge 31, 3) := by decide +kernel
theorem d_M_runCall_276 : decode prog_14_method_135_code 276 = .ok (.aload_n 0, 1) := by decide +kernel
theorem d_M_runCall_277 : decode prog_14_method_135_code 277 = .ok (.getfield 77, 3) := by decide +kernel
theorem d_M_runCall_280 : decode prog_14_method_135_code 280 = .ok (.iconst 0, 1) := by decide +kernel
theorem d_M_runCall_281 : decode prog_14_method_135_code 281 = .ok (.iload 4, 2) := by decide +kernel
theorem d_M_runCall_283 : decode prog_14_method_135_code 283 = .ok (.i2l, 1) := by decide +kernel
theorem d_M_runCall_284 : decode prog_14_method_135_code 284 = .ok (.ldc2_w 203, 3) := by decide +kernel
theorem d_M_runCall_287 : decode prog_14_method_135_code 287 = .ok (.land, 1) := by decide +kernel
theorem d_M_runCall_288 : decode prog_14_method_135_code 288 = .ok (.lastore, 1) := by decide +kernel
theorem d_M_runCall_289 : decode prog_14_method_135_code 289 = .ok (.return_, 1) := by decide +kernel
theorem d_M_runCall_248 : decode prog_14_method_135_code 248 = .ok (.bipush 31, 2) := by decide +kernel
theorem d_M_runCall_250 : decode prog_14_method_135_code 250 = .ok (.iload 4, 2) := by decide +kernel
theorem d_M_runCall_252 : decode prog_14_method_135_code 252 = .ok (.imul, 1) := by decide +kernel
theorem d_M_runCall_253 : decode prog_14_method_135_code 253 = .ok (.aload_n 0, 1) := by decide +kernel
theorem d_M_runCall_254 : decode prog_14_method_135_code 254 = .ok (.aload_n 0, 1) := by decide +kernel
theorem d_M_runCall_255 : decode prog_14_method_135_code 255 = .ok (.getfield 77, 3) := by decide +kernel
theorem d_M_runCall_258 : decode prog_14_method_135_code 258 = .ok (.iconst 1, 1) := by decide +kernel
theorem d_M_runCall_259 : decode prog_14_method_135_code 259 = .ok (.laload, 1) := by decide +kernel
theorem d_M_runCall_260 : decode prog_14_method_135_code 260 = .ok (.iload 5, 2) := by decide +kernel
theorem d_M_runCall_262 : decode prog_14_method_135_code 262 = .ok (.i2l, 1) := by decide +kernel
theorem d_M_runCall_263 : decode prog_14_method_135_code 263 = .ok (.ladd, 1) := by decide +kernel
theorem d_M_runCall_264 : decode prog_14_method_135_code 264 = .ok (.invokevirtual 641, 3) := by decide +kernel
theorem d_M_runCall_267 : decode prog_14_method_135_code 267 = .ok (.iadd, 1) := by decide +kernel
theorem d_M_runCall_268 : decode prog_14_method_135_code 268 = .ok (.istore 4, 2) := by decide +kernel
theorem d_M_runCall_270 : decode prog_14_method_135_code 270 = .ok (.iinc 5 1, 3) := by decide +kernel
theorem d_M_runCall_273 : decode prog_14_method_135_code 273 = .ok (.goto (-37), 3) := by decide +kernel
theorem d_M_runCall_93 : decode prog_14_method_135_code 93 = .ok (.iload 4, 2) := by decide +kernel
theorem d_M_runCall_95 : decode prog_14_method_135_code 95 = .ok (.aload_n 0, 1) := by decide +kernel
theorem d_M_runCall_96 : decode prog_14_method_135_code 96 = .ok (.getfield 21, 3) := by decide +kernel
theorem d_M_runCall_99 : decode prog_14_method_135_code 99 = .ok (.iload_n 2, 1) := by decide +kernel
theorem d_M_runCall_100 : decode prog_14_method_135_code 100 = .ok (.iaload, 1) := by decide +kernel
theorem d_M_runCall_101 : decode prog_14_method_135_code 101 = .ok (.if_icmp .ge 31, 3) := by decide +kernel
theorem d_M_runCall_132 : decode prog_14_method_135_code 132 = .ok (.aload_n 0, 1) := by decide +kernel
theorem d_M_runCall_133 : decode prog_14_method_135_code 133 = .ok (.getfield 77, 3) := by decide +kernel
theorem d_M_runCall_136 : decode prog_14_method_135_code 136 = .ok (.iconst 0, 1) := by decide +kernel
theorem d_M_runCall_137 : decode prog_14_method_135_code 137 = .ok (.aload_n 0, 1) := by decide +kernel
theorem d_M_runCall_138 : decode prog_14_method_135_code 138 = .ok (.iload_n 2, 1) := by decide +kernel
theorem d_M_runCall_139 : decode prog_14_method_135_code 139 = .ok (.invokevirtual 619, 3) := by decide +kernel
theorem d_M_runCall_142 : decode prog_14_method_135_code 142 = .ok (.i2l, 1) := by decide +kernel
theorem d_M_runCall_143 : decode prog_14_method_135_code 143 = .ok (.lastore, 1) := by decide +kernel
theorem d_M_runCall_144 : decode prog_14_method_135_code 144 = .ok (.goto 145, 3) := by decide +kernel
theorem d_M_runCall_104 : decode prog_14_method_135_code 104 = .ok (.aload_n 0, 1) := by decide +kernel
theorem d_M_runCall_105 : decode prog_14_method_135_code 105 = .ok (.getfield 86, 3) := by decide +kernel
theorem d_M_runCall_108 : decode prog_14_method_135_code 108 = .ok (.iload 4, 2) := by decide +kernel
theorem d_M_runCall_110 : decode prog_14_method_135_code 110 = .ok (.aload_n 0, 1) := by decide +kernel
theorem d_M_runCall_111 : decode prog_14_method_135_code 111 = .ok (.aload_n 0, 1) := by decide +kernel
theorem d_M_runCall_112 : decode prog_14_method_135_code 112 = .ok (.getfield 77, 3) := by decide +kernel
theorem d_M_runCall_115 : decode prog_14_method_135_code 115 = .ok (.iconst 3, 1) := by decide +kernel
theorem d_M_runCall_116 : decode prog_14_method_135_code 116 = .ok (.laload, 1) := by decide +kernel
theorem d_M_runCall_117 : decode prog_14_method_135_code 117 = .ok (.iload 4, 2) := by decide +kernel
theorem d_M_runCall_119 : decode prog_14_method_135_code 119 = .ok (.i2l, 1) := by decide +kernel
theorem d_M_runCall_120 : decode prog_14_method_135_code 120 = .ok (.ladd, 1) := by decide +kernel
theorem d_M_runCall_121 : decode prog_14_method_135_code 121 = .ok (.invokevirtual 641, 3) := by decide +kernel
theorem d_M_runCall_124 : decode prog_14_method_135_code 124 = .ok (.i2b, 1) := by decide +kernel
theorem d_M_runCall_125 : decode prog_14_method_135_code 125 = .ok (.bastore, 1) := by decide +kernel
theorem d_M_runCall_126 : decode prog_14_method_135_code 126 = .ok (.iinc 4 1, 3) := by decide +kernel
theorem d_M_runCall_129 : decode prog_14_method_135_code 129 = .ok (.goto (-36), 3) := by decide +kernel
theorem d_M_runCall_18 : decode prog_14_method_135_code 18 = .ok (.iload_n 1, 1) := by decide +kernel
theorem d_M_runCall_19 : decode prog_14_method_135_code 19 = .ok (.tableswitch 211 1 5 #[33, 71, 128, 143, 188], 33) := by decide +kernel
theorem d_M_runCall_52 : decode prog_14_method_135_code 52 = .ok (.aload_n 0, 1) := by decide +kernel
theorem d_M_runCall_53 : decode prog_14_method_135_code 53 = .ok (.iload_n 2, 1) := by decide +kernel
theorem d_M_runCall_54 : decode prog_14_method_135_code 54 = .ok (.invokevirtual 613, 3) := by decide +kernel
theorem d_M_runCall_57 : decode prog_14_method_135_code 57 = .ok (.istore_n 3, 1) := by decide +kernel
theorem d_M_runCall_58 : decode prog_14_method_135_code 58 = .ok (.aload_n 0, 1) := by decide +kernel
theorem d_M_runCall_59 : decode prog_14_method_135_code 59 = .ok (.getfield 77, 3) := by decide +kernel
theorem d_M_runCall_62 : decode prog_14_method_135_code 62 = .ok (.iconst 0, 1) := by decide +kernel
theorem d_M_runCall_63 : decode prog_14_method_135_code 63 = .ok (.iload_n 3, 1) := by decide +kernel
theorem d_M_runCall_64 : decode prog_14_method_135_code 64 = .ok (.ifCond .ge 7, 3) := by decide +kernel
theorem d_M_runCall_71 : decode prog_14_method_135_code 71 = .ok (.ldc2_w 629, 3) := by decide +kernel
theorem d_M_runCall_74 : decode prog_14_method_135_code 74 = .ok (.ldc2_w 406, 3) := by decide +kernel
theorem d_M_runCall_77 : decode prog_14_method_135_code 77 = .ok (.bipush 64, 2) := by decide +kernel
theorem d_M_runCall_79 : decode prog_14_method_135_code 79 = .ok (.iload_n 2, 1) := by decide +kernel
theorem d_M_runCall_80 : decode prog_14_method_135_code 80 = .ok (.imul, 1) := by decide +kernel
theorem d_M_runCall_81 : decode prog_14_method_135_code 81 = .ok (.iload_n 3, 1) := by decide +kernel
theorem d_M_runCall_82 : decode prog_14_method_135_code 82 = .ok (.iadd, 1) := by decide +kernel
theorem d_M_runCall_83 : decode prog_14_method_135_code 83 = .ok (.i2l, 1) := by decide +kernel
theorem d_M_runCall_84 : decode prog_14_method_135_code 84 = .ok (.lmul, 1) := by decide +kernel
theorem d_M_runCall_85 : decode prog_14_method_135_code 85 = .ok (.ladd, 1) := by decide +kernel
theorem d_M_runCall_86 : decode prog_14_method_135_code 86 = .ok (.lastore, 1) := by decide +kernel
theorem d_M_runCall_87 : decode prog_14_method_135_code 87 = .ok (.goto 202, 3) := by decide +kernel
theorem d_M_runCall_67 : decode prog_14_method_135_code 67 = .ok (.lconst 0, 1) := by decide +kernel
theorem d_M_runCall_68 : decode prog_14_method_135_code 68 = .ok (.goto 18, 3) := by decide +kernel
theorem d_M_runCall_90 : decode prog_14_method_135_code 90 = .ok (.iconst 0, 1) := by decide +kernel
theorem d_M_runCall_91 : decode prog_14_method_135_code 91 = .ok (.istore 4, 2) := by decide +kernel
theorem d_M_runCall_147 : decode prog_14_method_135_code 147 = .ok (.aload_n 0, 1) := by decide +kernel
theorem d_M_runCall_148 : decode prog_14_method_135_code 148 = .ok (.getfield 77, 3) := by decide +kernel
theorem d_M_runCall_151 : decode prog_14_method_135_code 151 = .ok (.iconst 0, 1) := by decide +kernel
theorem d_M_runCall_152 : decode prog_14_method_135_code 152 = .ok (.aload_n 0, 1) := by decide +kernel
theorem d_M_runCall_153 : decode prog_14_method_135_code 153 = .ok (.iload_n 2, 1) := by decide +kernel
theorem d_M_runCall_154 : decode prog_14_method_135_code 154 = .ok (.invokevirtual 659, 3) := by decide +kernel
theorem u_2504 : Cond.methodLink "FilterGuardModel" 659 ⟨"FilterGuardModel", "delete", "(I)I"⟩ ∈ fg_g := fg_in (List.mem_of_getElem? (i := 2504) (by decide +kernel)) rfl
theorem u_2507 : Cond.code ⟨"FilterGuardModel", "delete", "(I)I"⟩ prog_14_method_118_code 3 (some .int) ∈ fg_g := fg_in (List.mem_of_getElem? (i := 2507) (by decide +kernel)) rfl
theorem u_2506 : Cond.instanceMethod ⟨"FilterGuardModel", "delete", "(I)I"⟩ ∈ fg_g := fg_in (List.mem_of_getElem? (i := 2506) (by decide +kernel)) rfl
theorem u_178 : Cond.selects "FilterGuardModel" ⟨"FilterGuardModel", "delete", "(I)I"⟩ ⟨"FilterGuardModel", "delete", "(I)I"⟩ ∈ fg_g := fg_in (List.mem_of_getElem? (i := 178) (by decide +kernel)) rfl
theorem d_M_runCall_157 : decode prog_14_method_135_code 157 = .ok (.i2l, 1) := by decide +kernel
theorem d_M_runCall_158 : decode prog_14_method_135_code 158 = .ok (.lastore, 1) := by decide +kernel
theorem d_M_runCall_159 : decode prog_14_method_135_code 159 = .ok (.goto 130, 3) := by decide +kernel
theorem d_M_runCall_162 : decode prog_14_method_135_code 162 = .ok (.aload_n 0, 1) := by decide +kernel
theorem d_M_runCall_163 : decode prog_14_method_135_code 163 = .ok (.getfield 662, 3) := by decide +kernel
theorem u_1779 : Cond.fieldLink "FilterGuardModel" 662 "FilterGuardModel" "tellings" "I" ∈ fg_g := fg_in (List.mem_of_getElem? (i := 1779) (by decide +kernel)) rfl
theorem g_M_38 {p : Program} {l : Launch} {e : Env} {R : Room} {s : Jvm.State} {m : MethodId} {args : Array Value} {below : List Frame} {meth : Method} {c : Code} {H : Heap} {locs : List Loc} {cells slots : Nat} {Q : Jvm.State → Prop} {cc : ByteArray} {pc : Nat} {ls : Array Slot} {rest : List Value} {D : va_G} {ad : Nat → Nat → Nat} {ca : Nat → ClassId} {M : me_M} {N : Nat → Nat} {own : String} {index j : Nat} (hexec : p.tables.exec = Jvm.exec) (hb : c.code = cc) (hts : ∀ w ∈ fg_g, w.before args s = true) (hown : s.vm.findClass own = some m.cls) (hK : va_K D classes (me_T ca) s) (hP : va_P D classes (me_W ad ca M) H) (hwf : me_wf N M) (hj : j < N 1) (hlink : (Cond.fieldLink own index "FilterGuardModel" "tellings" "I").before args s = true) (hdg : decode cc pc = .ok (.getfield index, 3)) (kk : W p l e R s m args below meth c H locs cells slots Q (F0 m (pc + 3) ls (.int (mI M 1 j 38) :: rest))) : W p l e R s m args below meth c H locs cells slots Q (F0 m pc ls (.ref (ad 1 j) :: rest)) := me_get (k := 1) (f := 38) (C := "FilterGuardModel") (T := F_M) (Nf := 75) hexec hb hts i_M hown hK hP hwf hj (by decide) rfl (by decide) (by decide) hlink (fun _ h9 => h9) hdg kk
theorem d_M_runCall_166 : decode prog_14_method_135_code 166 = .ok (.sipush 1000, 3) := by decide +kernel
theorem d_M_runCall_169 : decode prog_14_method_135_code 169 = .ok (.if_icmp .ge 28, 3) := by decide +kernel
theorem d_M_runCall_197 : decode prog_14_method_135_code 197 = .ok (.aload_n 0, 1) := by decide +kernel
theorem d_M_runCall_198 : decode prog_14_method_135_code 198 = .ok (.getfield 77, 3) := by decide +kernel
theorem d_M_runCall_201 : decode prog_14_method_135_code 201 = .ok (.iconst 0, 1) := by decide +kernel
theorem d_M_runCall_202 : decode prog_14_method_135_code 202 = .ok (.lconst 0, 1) := by decide +kernel
theorem d_M_runCall_203 : decode prog_14_method_135_code 203 = .ok (.lastore, 1) := by decide +kernel
theorem d_M_runCall_204 : decode prog_14_method_135_code 204 = .ok (.goto 85, 3) := by decide +kernel
theorem d_M_runCall_172 : decode prog_14_method_135_code 172 = .ok (.aload_n 0, 1) := by decide +kernel
theorem d_M_runCall_173 : decode prog_14_method_135_code 173 = .ok (.getfield 74, 3) := by decide +kernel
theorem g_M_39 {p : Program} {l : Launch} {e : Env} {R : Room} {s : Jvm.State} {m : MethodId} {args : Array Value} {below : List Frame} {meth : Method} {c : Code} {H : Heap} {locs : List Loc} {cells slots : Nat} {Q : Jvm.State → Prop} {cc : ByteArray} {pc : Nat} {ls : Array Slot} {rest : List Value} {D : va_G} {ad : Nat → Nat → Nat} {ca : Nat → ClassId} {M : me_M} {N : Nat → Nat} {own : String} {index j : Nat} (hexec : p.tables.exec = Jvm.exec) (hb : c.code = cc) (hts : ∀ w ∈ fg_g, w.before args s = true) (hown : s.vm.findClass own = some m.cls) (hK : va_K D classes (me_T ca) s) (hP : va_P D classes (me_W ad ca M) H) (hwf : me_wf N M) (hj : j < N 1) (hlink : (Cond.fieldLink own index "FilterGuardModel" "telling" "[J").before args s = true) (hdg : decode cc pc = .ok (.getfield index, 3)) (kk : W p l e R s m args below meth c H locs cells slots Q (F0 m (pc + 3) ls (va_rf ((mR M 1 j 39).map (ad 16)) :: rest))) : W p l e R s m args below meth c H locs cells slots Q (F0 m pc ls (.ref (ad 1 j) :: rest)) := me_get (k := 1) (f := 39) (C := "FilterGuardModel") (T := F_M) (Nf := 75) hexec hb hts i_M hown hK hP hwf hj (by decide) rfl (by decide) (by decide) hlink (fun _ h9 => h9) hdg kk
theorem d_M_runCall_176 : decode prog_14_method_135_code 176 = .ok (.aload_n 0, 1) := by decide +kernel
theorem d_M_runCall_177 : decode prog_14_method_135_code 177 = .ok (.getfield 662, 3) := by decide +kernel
theorem d_M_runCall_180 : decode prog_14_method_135_code 180 = .ok (.aload_n 0, 1) := by decide +kernel
theorem d_M_runCall_181 : decode prog_14_method_135_code 181 = .ok (.getfield 77, 3) := by decide +kernel
theorem d_M_runCall_184 : decode prog_14_method_135_code 184 = .ok (.iconst 1, 1) := by decide +kernel
theorem d_M_runCall_185 : decode prog_14_method_135_code 185 = .ok (.laload, 1) := by decide +kernel
theorem d_M_runCall_186 : decode prog_14_method_135_code 186 = .ok (.lastore, 1) := by decide +kernel
theorem d_M_runCall_187 : decode prog_14_method_135_code 187 = .ok (.aload_n 0, 1) := by decide +kernel
theorem d_M_runCall_188 : decode prog_14_method_135_code 188 = .ok (.dup, 1) := by decide +kernel
theorem d_M_runCall_189 : decode prog_14_method_135_code 189 = .ok (.getfield 662, 3) := by decide +kernel
theorem d_M_runCall_192 : decode prog_14_method_135_code 192 = .ok (.iconst 1, 1) := by decide +kernel
theorem d_M_runCall_193 : decode prog_14_method_135_code 193 = .ok (.iadd, 1) := by decide +kernel
theorem d_M_runCall_194 : decode prog_14_method_135_code 194 = .ok (.putfield 662, 3) := by decide +kernel
theorem p_M_38 {p : Program} {l : Launch} {e : Env} {R : Room} {s : Jvm.State} {m : MethodId} {args : Array Value} {below : List Frame} {meth : Method} {c : Code} {H : Heap} {locs : List Loc} {cells slots : Nat} {Q : Jvm.State → Prop} {cc : ByteArray} {pc : Nat} {ls : Array Slot} {rest : List Value} {D : va_G} {A : Nat → Prop} {H0 : Heap} {ad : Nat → Nat → Nat} {ca : Nat → ClassId} {M M1 : me_M} {N : Nat → Nat} {own : String} {index j : Nat} {v : Int32} (he : M1 = wI M 1 j 38 v) (hexec : p.tables.exec = Jvm.exec) (hb : c.code = cc) (hts : ∀ w ∈ fg_g, w.before args s = true) (hown : s.vm.findClass own = some m.cls) (hK : va_K D classes (me_T ca) s) (hP : va_P D classes (me_W ad ca M) H) (hD : va_D A (me_W ad ca M)) (hwf : me_wf N M) (hS : va_S A H0 H locs) (hj : j < N 1) (hlink : (Cond.fieldLink own index "FilterGuardModel" "tellings" "I").before args s = true) (hdg : decode cc pc = .ok (.putfield index, 3)) (kk : ∀ (H1 : Heap) (locs1 : List Loc), va_P D classes (me_W ad ca M1) H1 → va_D A (me_W ad ca M1) → me_wf N M1 → va_S A H0 H1 locs1 → W p l e R s m args below meth c H1 locs1 cells slots Q (F0 m (pc + 3) ls rest)) : W p l e R s m args below meth c H locs cells slots Q (F0 m pc ls (.int v :: .ref (ad 1 j) :: rest)) := by
  subst he
  exact me_put (M1 := wI M 1 j 38 v) (k := 1) (f := 38) (C := "FilterGuardModel") (T := F_M) (Nf := 75) hexec hb hts i_M t_M t_M_ok n_M hown hK hP hD hwf hS hj (by decide) rfl (by decide) (by decide) hlink (fun _ h9 => h9) rfl rfl rfl rfl (fun a b h => me_wIE h) (me_fIw (by decide) (by decide)) hdg (fun H1 locs1 a1 a2 a3 => kk H1 locs1 a1 a2 (me_wfI hwf (fun z => absurd z (by decide)) (fun z => absurd z (by decide))) a3)
theorem d_M_runCall_207 : decode prog_14_method_135_code 207 = .ok (.aload_n 0, 1) := by decide +kernel
theorem d_M_runCall_208 : decode prog_14_method_135_code 208 = .ok (.getfield 77, 3) := by decide +kernel
theorem d_M_runCall_211 : decode prog_14_method_135_code 211 = .ok (.iconst 0, 1) := by decide +kernel
theorem d_M_runCall_212 : decode prog_14_method_135_code 212 = .ok (.aload_n 0, 1) := by decide +kernel
theorem d_M_runCall_213 : decode prog_14_method_135_code 213 = .ok (.getfield 625, 3) := by decide +kernel
theorem g_M_37 {p : Program} {l : Launch} {e : Env} {R : Room} {s : Jvm.State} {m : MethodId} {args : Array Value} {below : List Frame} {meth : Method} {c : Code} {H : Heap} {locs : List Loc} {cells slots : Nat} {Q : Jvm.State → Prop} {cc : ByteArray} {pc : Nat} {ls : Array Slot} {rest : List Value} {D : va_G} {ad : Nat → Nat → Nat} {ca : Nat → ClassId} {M : me_M} {N : Nat → Nat} {own : String} {index j : Nat} (hexec : p.tables.exec = Jvm.exec) (hb : c.code = cc) (hts : ∀ w ∈ fg_g, w.before args s = true) (hown : s.vm.findClass own = some m.cls) (hK : va_K D classes (me_T ca) s) (hP : va_P D classes (me_W ad ca M) H) (hwf : me_wf N M) (hj : j < N 1) (hlink : (Cond.fieldLink own index "FilterGuardModel" "clock" "J").before args s = true) (hdg : decode cc pc = .ok (.getfield index, 3)) (kk : W p l e R s m args below meth c H locs cells slots Q (F0 m (pc + 3) ls (.long (mL M 1 j 37) :: rest))) : W p l e R s m args below meth c H locs cells slots Q (F0 m pc ls (.ref (ad 1 j) :: rest)) := me_get (k := 1) (f := 37) (C := "FilterGuardModel") (T := F_M) (Nf := 75) hexec hb hts i_M hown hK hP hwf hj (by decide) rfl (by decide) (by decide) hlink (fun _ h9 => h9) hdg kk
theorem d_M_runCall_216 : decode prog_14_method_135_code 216 = .ok (.lastore, 1) := by decide +kernel
theorem d_M_runCall_217 : decode prog_14_method_135_code 217 = .ok (.aload_n 0, 1) := by decide +kernel
theorem d_M_runCall_218 : decode prog_14_method_135_code 218 = .ok (.dup, 1) := by decide +kernel
theorem d_M_runCall_219 : decode prog_14_method_135_code 219 = .ok (.getfield 625, 3) := by decide +kernel
theorem d_M_runCall_222 : decode prog_14_method_135_code 222 = .ok (.lconst 1, 1) := by decide +kernel
theorem d_M_runCall_223 : decode prog_14_method_135_code 223 = .ok (.ladd, 1) := by decide +kernel
theorem d_M_runCall_224 : decode prog_14_method_135_code 224 = .ok (.putfield 625, 3) := by decide +kernel
theorem d_M_runCall_227 : decode prog_14_method_135_code 227 = .ok (.goto 62, 3) := by decide +kernel
theorem d_M_runCall_230 : decode prog_14_method_135_code 230 = .ok (.iconst 1, 1) := by decide +kernel
theorem d_M_runCall_231 : decode prog_14_method_135_code 231 = .ok (.istore 4, 2) := by decide +kernel
theorem d_M_runCall_233 : decode prog_14_method_135_code 233 = .ok (.iconst 0, 1) := by decide +kernel
theorem d_M_runCall_234 : decode prog_14_method_135_code 234 = .ok (.istore 5, 2) := by decide +kernel
theorem d_M_runCall_0 : decode prog_14_method_135_code 0 = .ok (.aload_n 0, 1) := by decide +kernel
theorem d_M_runCall_1 : decode prog_14_method_135_code 1 = .ok (.getfield 77, 3) := by decide +kernel
theorem d_M_runCall_4 : decode prog_14_method_135_code 4 = .ok (.iconst 1, 1) := by decide +kernel
theorem d_M_runCall_5 : decode prog_14_method_135_code 5 = .ok (.laload, 1) := by decide +kernel
theorem d_M_runCall_6 : decode prog_14_method_135_code 6 = .ok (.l2i, 1) := by decide +kernel
theorem d_M_runCall_7 : decode prog_14_method_135_code 7 = .ok (.istore_n 2, 1) := by decide +kernel
theorem d_M_runCall_8 : decode prog_14_method_135_code 8 = .ok (.iload_n 1, 1) := by decide +kernel
theorem d_M_runCall_9 : decode prog_14_method_135_code 9 = .ok (.iconst 4, 1) := by decide +kernel
theorem d_M_runCall_10 : decode prog_14_method_135_code 10 = .ok (.if_icmp .ge 8, 3) := by decide +kernel
theorem d_M_runCall_13 : decode prog_14_method_135_code 13 = .ok (.aload_n 0, 1) := by decide +kernel
theorem d_M_runCall_14 : decode prog_14_method_135_code 14 = .ok (.iload_n 2, 1) := by decide +kernel
theorem d_M_runCall_15 : decode prog_14_method_135_code 15 = .ok (.invokevirtual 656, 3) := by decide +kernel
theorem u_2500 : Cond.methodLink "FilterGuardModel" 656 ⟨"FilterGuardModel", "readKey", "(I)V"⟩ ∈ fg_g := fg_in (List.mem_of_getElem? (i := 2500) (by decide +kernel)) rfl
theorem u_2503 : Cond.code ⟨"FilterGuardModel", "readKey", "(I)V"⟩ prog_14_method_134_code 3 none ∈ fg_g := fg_in (List.mem_of_getElem? (i := 2503) (by decide +kernel)) rfl
theorem u_2502 : Cond.instanceMethod ⟨"FilterGuardModel", "readKey", "(I)V"⟩ ∈ fg_g := fg_in (List.mem_of_getElem? (i := 2502) (by decide +kernel)) rfl
theorem u_177 : Cond.selects "FilterGuardModel" ⟨"FilterGuardModel", "readKey", "(I)V"⟩ ⟨"FilterGuardModel", "readKey", "(I)V"⟩ ∈ fg_g := fg_in (List.mem_of_getElem? (i := 177) (by decide +kernel)) rfl
abbrev y_M_runCall : MethodName := ⟨"FilterGuardModel", "runCall", "(I)V"⟩
def rm_M_runCall : Room := { frames := 3, cells := 0, slots := 0, locals := 68 }
abbrev q_M_runCall (D : va_G) (ad : Nat → Nat → Nat) (ca : Nat → ClassId) (N : Nat → Nat) (M0 MZ : me_M) (A : Nat → Prop) : Array Value → Jvm.State → Outcome → Jvm.State → Prop := va_Qv (fun (_ : Unit) => me_wf N MZ ∧ me_kp M0 MZ) (fg_B D A (fun _ => me_W ad ca MZ) (fun _ => [])) A
set_option maxHeartbeats 4000000 in
set_option maxRecDepth 100000 in
theorem c_M_runCall (l : Launch) (D : va_G) (ad : Nat → Nat → Nat) (ca : Nat → ClassId) (N : Nat → Nat) (M0 MZ : me_M) (j0 : Nat) (x1 : Int32) (h : f_M_runCall M0 j0 x1 = (some MZ)) (hwf : me_wf N M0) (hj0 : j0 < N 1) (sz : Nat) : Met l y_M_runCall (fg_w y_M_runCall prog_14_method_135_code 6 none) rm_M_runCall (va_Pc [.ref (ad 1 j0), .int x1] (fz_P D (me_T ca) (me_W ad ca M0) sz)) (q_M_runCall D ad ca N M0 MZ (va_A (me_W ad ca M0) sz)) rm_M_runCall.cells rm_M_runCall.slots (va_A (me_W ad ca M0) sz) := by
  refine fz_enter (fun A => q_M_runCall D ad ca N M0 MZ A) (by decide +kernel) (Nat.le_of_ble_eq_true rfl) ?_
  intro p e s m below meth c ls A hx hb hml hown hts hr hlocks hin hP hK hD hS hA hX hl hz
  have hl : lv_has ls 6 [(0, .ref (ad 1 j0)), (1, .int x1)] := hl
  unfold f_M_runCall at h
  have hkp : me_kp M0 M0 := me_kp.rf
  have hkb := hkp
  have b_236 : ∀ (fu : Nat), ∀ (M : me_M) (y4 : Int32) (y5 : Int32) (H : Heap) (locs : List Loc) (ls : Array Slot), f_M_runCall_l236 j0 fu M y4 y5 = (some MZ) → me_wf N M → me_kp M0 M → va_P D classes (me_W ad ca M) H → va_D A (me_W ad ca M) → va_S A s.heap H locs → lv_has ls 6 [(0, .ref (ad 1 j0)), (4, .int y4), (5, .int y5)] → W p l e rm_M_runCall s m [.ref (ad 1 j0), .int x1].toArray below meth c H locs 0 0 (MQ below (q_M_runCall D ad ca N M0 MZ A) [.ref (ad 1 j0), .int x1].toArray s rm_M_runCall.cells rm_M_runCall.slots A) (F0 m 236 ls []) := by
    intro fu
    induction fu with
    | zero =>
      intro M y4 y5 H locs ls h hwf hkp hP hD hS hl
      cases h
    | succ fu ih =>
      intro M y4 y5 H locs ls h hwf hkp hP hD hS hl
      unfold f_M_runCall_l236 at h
      have hkb := hkp
      refine lv_iload hx hb d_M_runCall_236 (lv_at hl 2 rfl) ?_
      refine lv_aload_n hx hb d_M_runCall_238 rfl (lv_at hl 0 rfl) ?_
      refine g_M_43 hx hb hts hown hK hP hwf hj0 (hts _ u_1784) d_M_runCall_239 ?_
      obtain ⟨j1, e2, h⟩ := bd_ob h
      have hj1 : j1 < N 16 := (hwf.2.1 1 j0 43 _ e2 (by decide) hj0)
      refine me_opt (j := j1) e2 ?_
      refine lv_iconst (v := 2) hx hb d_M_runCall_242 (by decide) ?_
      obtain ⟨g3, h⟩ := gd_ob h
      refine me_lald hx hb hK hP hwf hj1 (me_in (i := (2 : Int32)) (k := 2) (by decide) (by decide) g3) d_M_runCall_243 ?_
      refine fg_topl (y := mL M 16 j1 2) (congrArg _ (by decide)) ?_
      refine lv_l2i (v := (mL M 16 j1 2).toInt32) hx hb d_M_runCall_244 rfl ?_
      refine lv_icmp_ge (tgt := 276) hx hb d_M_runCall_245 (by decide) (fun c4 => ?_) (fun c4 => ?_)
      · have h := if_t c4 h
        refine lv_aload_n hx hb d_M_runCall_276 rfl (lv_at hl 0 rfl) ?_
        refine g_M_43 hx hb hts hown hK hP hwf hj0 (hts _ u_1784) d_M_runCall_277 ?_
        refine me_opt (j := j1) e2 ?_
        refine lv_iconst (v := 0) hx hb d_M_runCall_280 (by decide) ?_
        refine lv_iload hx hb d_M_runCall_281 (lv_at hl 1 rfl) ?_
        refine lv_i2l (v := y4.toInt64) hx hb d_M_runCall_283 rfl ?_
        refine lv_ldc2 hx hb hown (hts _ u_2019) d_M_runCall_284 ?_
        refine lv_land hx hb d_M_runCall_287 ?_
        obtain ⟨g5, h⟩ := gd_ob h
        obtain ⟨M6, eM6, h⟩ := st_ob h
        refine me_last (eM6.trans (by rw [show (0 : Int32).toNatClampNeg = 0 by decide])) hx hb hK hP hD hwf hS hj1 (me_in (i := (0 : Int32)) (k := 0) (by decide) (by decide) g5) d_M_runCall_288 (fun H locs hP hD hwf hS => ?_)
        have hkp := kp_L eM6 hkp
        exact me_retv (me_kp M0) h hx hb hr hlocks hwf hkp hP hK hD hS d_M_runCall_289
      have h := if_f c4 h
      refine lv_bipush (v := 31) hx hb d_M_runCall_248 (by decide) ?_
      refine lv_iload hx hb d_M_runCall_250 (lv_at hl 1 rfl) ?_
      refine lv_imul hx hb d_M_runCall_252 ?_
      refine lv_aload_n hx hb d_M_runCall_253 rfl (lv_at hl 0 rfl) ?_
      refine lv_aload_n hx hb d_M_runCall_254 rfl (lv_at hl 0 rfl) ?_
      refine g_M_43 hx hb hts hown hK hP hwf hj0 (hts _ u_1784) d_M_runCall_255 ?_
      refine me_opt (j := j1) e2 ?_
      refine lv_iconst (v := 1) hx hb d_M_runCall_258 (by decide) ?_
      obtain ⟨g7, h⟩ := gd_ob h
      refine me_lald hx hb hK hP hwf hj1 (me_in (i := (1 : Int32)) (k := 1) (by decide) (by decide) g7) d_M_runCall_259 ?_
      refine fg_topl (y := mL M 16 j1 1) (congrArg _ (by decide)) ?_
      refine lv_iload hx hb d_M_runCall_260 (lv_at hl 2 rfl) ?_
      refine lv_i2l (v := y5.toInt64) hx hb d_M_runCall_262 rfl ?_
      refine lv_ladd hx hb d_M_runCall_263 ?_
      obtain ⟨M8, r9, eM8, h⟩ := b2_ob h
      refine me_theni0 (M1 := M8) (me_runV (C := "FilterGuardModel") (As := [.long ((mL M 16 j1 1) + y5.toInt64)]) (rest := [.int (31 * y4)]) ⟨hx, hb, hml, hown, hts⟩ (c_M_byteAt l D ad ca N M M8 r9 j0 ((mL M 16 j1 1) + y5.toInt64) eM8 hwf hj0 _) rfl (by show fg_nm y_M_byteAt 1; decide +kernel) u_2475 u_2477 u_172 u_192 u_2478 ⟨Nat.le_of_ble_eq_true rfl, Nat.le_of_ble_eq_true rfl⟩ hX hz hK hP hD hwf hS hA hj0 (by decide) rfl rfl rfl hl.1 (Nat.le_of_ble_eq_true rfl) d_M_runCall_264 ⟨Nat.le_of_ble_eq_true rfl, Nat.le_of_ble_eq_true rfl⟩) hP hD hK hS hA rfl rfl (fun H locs hw hP hD hS => ?_)
      obtain ⟨hwf, hk9⟩ := hw
      have hkp := hkp.tr hk9
      refine lv_iadd hx hb d_M_runCall_267 ?_
      obtain ⟨v10, ev10, h⟩ := st_ob h
      refine fg_topi (y := v10) ev10.symm ?_
      refine lv_istore (lv' := [(4, .int v10), (0, .ref (ad 1 j0)), (5, .int y5)]) hx hb d_M_runCall_268 hl (by decide) rfl (fun ls hl => ?_)
      refine lv_iinc (v := y5 + 1) (lv' := [(5, .int (y5 + 1)), (4, .int v10), (0, .ref (ad 1 j0))]) hx hb d_M_runCall_270 hl (k := 2) rfl (by rfl) (by decide) rfl (fun ls hl => ?_)
      refine lv_goto (tgt := 236) hx hb d_M_runCall_273 (by decide) ?_
      exact ih M8 v10 (y5 + 1) _ _ _ h hwf hkp hP hD hS (lv_sub hl [2, 1, 0] rfl)
  have b_93 : ∀ (fu : Nat), ∀ (M : me_M) (y2 : Int32) (y4 : Int32) (H : Heap) (locs : List Loc) (ls : Array Slot), f_M_runCall_l93 j0 fu M y2 y4 = (some MZ) → me_wf N M → me_kp M0 M → va_P D classes (me_W ad ca M) H → va_D A (me_W ad ca M) → va_S A s.heap H locs → lv_has ls 6 [(0, .ref (ad 1 j0)), (2, .int y2), (4, .int y4)] → W p l e rm_M_runCall s m [.ref (ad 1 j0), .int x1].toArray below meth c H locs 0 0 (MQ below (q_M_runCall D ad ca N M0 MZ A) [.ref (ad 1 j0), .int x1].toArray s rm_M_runCall.cells rm_M_runCall.slots A) (F0 m 93 ls []) := by
    intro fu
    induction fu with
    | zero =>
      intro M y2 y4 H locs ls h hwf hkp hP hD hS hl
      cases h
    | succ fu ih =>
      intro M y2 y4 H locs ls h hwf hkp hP hD hS hl
      unfold f_M_runCall_l93 at h
      have hkb := hkp
      refine lv_iload hx hb d_M_runCall_93 (lv_at hl 2 rfl) ?_
      refine lv_aload_n hx hb d_M_runCall_95 rfl (lv_at hl 0 rfl) ?_
      refine g_M_7 hx hb hts hown hK hP hwf hj0 (hts _ u_1748) d_M_runCall_96 ?_
      obtain ⟨j11, e12, h⟩ := bd_ob h
      have hj11 : j11 < N 13 := (hwf.2.1 1 j0 7 _ e12 (by decide) hj0)
      refine me_opt (j := j11) e12 ?_
      refine lv_iload_n hx hb d_M_runCall_99 rfl (lv_at hl 1 rfl) ?_
      obtain ⟨g13, h⟩ := gd_ob h
      refine me_iald hx hb hK hP hwf hj11 g13 d_M_runCall_100 ?_
      refine lv_icmp_ge (tgt := 132) hx hb d_M_runCall_101 (by decide) (fun c14 => ?_) (fun c14 => ?_)
      · have h := if_t c14 h
        refine lv_aload_n hx hb d_M_runCall_132 rfl (lv_at hl 0 rfl) ?_
        refine g_M_43 hx hb hts hown hK hP hwf hj0 (hts _ u_1784) d_M_runCall_133 ?_
        obtain ⟨j15, e16, h⟩ := bd_ob h
        have hj15 : j15 < N 16 := (hwf.2.1 1 j0 43 _ e16 (by decide) hj0)
        refine me_opt (j := j15) e16 ?_
        refine lv_iconst (v := 0) hx hb d_M_runCall_136 (by decide) ?_
        refine lv_aload_n hx hb d_M_runCall_137 rfl (lv_at hl 0 rfl) ?_
        refine lv_iload_n hx hb d_M_runCall_138 rfl (lv_at hl 1 rfl) ?_
        obtain ⟨M17, r18, eM17, h⟩ := b2_ob h
        refine me_theni0 (M1 := M17) (me_runV (C := "FilterGuardModel") (As := [.int y2]) (rest := [.int 0, .ref (ad 16 j15)]) ⟨hx, hb, hml, hown, hts⟩ (c_M_update l D ad ca N M M17 r18 j0 y2 eM17 hwf hj0 _) rfl (by show fg_nm y_M_update 1; decide +kernel) u_2431 u_2433 u_168 u_192 u_2434 ⟨Nat.le_of_ble_eq_true rfl, Nat.le_of_ble_eq_true rfl⟩ hX hz hK hP hD hwf hS hA hj0 (by decide) rfl rfl rfl hl.1 (Nat.le_of_ble_eq_true rfl) d_M_runCall_139 ⟨Nat.le_of_ble_eq_true rfl, Nat.le_of_ble_eq_true rfl⟩) hP hD hK hS hA rfl rfl (fun H locs hw hP hD hS => ?_)
        obtain ⟨hwf, hk9⟩ := hw
        have hkp := hkp.tr hk9
        refine lv_i2l (v := r18.toInt64) hx hb d_M_runCall_142 rfl ?_
        obtain ⟨g19, h⟩ := gd_ob h
        obtain ⟨M20, eM20, h⟩ := st_ob h
        refine me_last (eM20.trans (by rw [show (0 : Int32).toNatClampNeg = 0 by decide])) hx hb hK hP hD hwf hS hj15 (me_in (i := (0 : Int32)) (k := 0) (by decide) (by decide) (kp_c hkb.z hkp.z g19)) d_M_runCall_143 (fun H locs hP hD hwf hS => ?_)
        have hkp := kp_L eM20 hkp
        refine lv_goto (tgt := 289) hx hb d_M_runCall_144 (by decide) ?_
        exact me_retv (me_kp M0) h hx hb hr hlocks hwf hkp hP hK hD hS d_M_runCall_289
      have h := if_f c14 h
      refine lv_aload_n hx hb d_M_runCall_104 rfl (lv_at hl 0 rfl) ?_
      refine g_M_46 hx hb hts hown hK hP hwf hj0 (hts _ u_1787) d_M_runCall_105 ?_
      obtain ⟨j21, e22, h⟩ := bd_ob h
      have hj21 : j21 < N 14 := (hwf.2.1 1 j0 46 _ e22 (by decide) hj0)
      refine me_opt (j := j21) e22 ?_
      refine lv_iload hx hb d_M_runCall_108 (lv_at hl 2 rfl) ?_
      refine lv_aload_n hx hb d_M_runCall_110 rfl (lv_at hl 0 rfl) ?_
      refine lv_aload_n hx hb d_M_runCall_111 rfl (lv_at hl 0 rfl) ?_
      refine g_M_43 hx hb hts hown hK hP hwf hj0 (hts _ u_1784) d_M_runCall_112 ?_
      obtain ⟨j23, e24, h⟩ := bd_ob h
      have hj23 : j23 < N 16 := (hwf.2.1 1 j0 43 _ e24 (by decide) hj0)
      refine me_opt (j := j23) e24 ?_
      refine lv_iconst (v := 3) hx hb d_M_runCall_115 (by decide) ?_
      obtain ⟨g25, h⟩ := gd_ob h
      refine me_lald hx hb hK hP hwf hj23 (me_in (i := (3 : Int32)) (k := 3) (by decide) (by decide) g25) d_M_runCall_116 ?_
      refine fg_topl (y := mL M 16 j23 3) (congrArg _ (by decide)) ?_
      refine lv_iload hx hb d_M_runCall_117 (lv_at hl 2 rfl) ?_
      refine lv_i2l (v := y4.toInt64) hx hb d_M_runCall_119 rfl ?_
      refine lv_ladd hx hb d_M_runCall_120 ?_
      obtain ⟨M26, r27, eM26, h⟩ := b2_ob h
      refine me_theni0 (M1 := M26) (me_runV (C := "FilterGuardModel") (As := [.long ((mL M 16 j23 3) + y4.toInt64)]) (rest := [.int y4, .ref (ad 14 j21)]) ⟨hx, hb, hml, hown, hts⟩ (c_M_byteAt l D ad ca N M M26 r27 j0 ((mL M 16 j23 3) + y4.toInt64) eM26 hwf hj0 _) rfl (by show fg_nm y_M_byteAt 1; decide +kernel) u_2475 u_2477 u_172 u_192 u_2478 ⟨Nat.le_of_ble_eq_true rfl, Nat.le_of_ble_eq_true rfl⟩ hX hz hK hP hD hwf hS hA hj0 (by decide) rfl rfl rfl hl.1 (Nat.le_of_ble_eq_true rfl) d_M_runCall_121 ⟨Nat.le_of_ble_eq_true rfl, Nat.le_of_ble_eq_true rfl⟩) hP hD hK hS hA rfl rfl (fun H locs hw hP hD hS => ?_)
      obtain ⟨hwf, hk9⟩ := hw
      have hkp := hkp.tr hk9
      refine lv_i2b (v := r27.toInt8.toInt32) hx hb d_M_runCall_124 rfl ?_
      obtain ⟨g28, h⟩ := gd_ob h
      obtain ⟨M29, eM29, h⟩ := st_ob h
      refine me_bast eM29 hx hb hK hP hD hwf hS hj21 (kp_z hkb.z hkp.z g28) d_M_runCall_125 (fun H locs hP hD hwf hS => ?_)
      have hkp := kp_I eM29 hkp
      refine lv_iinc (v := y4 + 1) (lv' := [(4, .int (y4 + 1)), (0, .ref (ad 1 j0)), (2, .int y2)]) hx hb d_M_runCall_126 hl (k := 2) rfl (by rfl) (by decide) rfl (fun ls hl => ?_)
      refine lv_goto (tgt := 93) hx hb d_M_runCall_129 (by decide) ?_
      exact ih M29 y2 (y4 + 1) _ _ _ h hwf hkp hP hD hS (lv_sub hl [1, 2, 0] rfl)
  have b_18 : ∀ (M : me_M) (y2 : Int32) (H : Heap) (locs : List Loc) (ls : Array Slot), f_M_runCall_b18 j0 x1 M y2 = (some MZ) → me_wf N M → me_kp M0 M → va_P D classes (me_W ad ca M) H → va_D A (me_W ad ca M) → va_S A s.heap H locs → lv_has ls 6 [(0, .ref (ad 1 j0)), (1, .int x1), (2, .int y2)] → W p l e rm_M_runCall s m [.ref (ad 1 j0), .int x1].toArray below meth c H locs 0 0 (MQ below (q_M_runCall D ad ca N M0 MZ A) [.ref (ad 1 j0), .int x1].toArray s rm_M_runCall.cells rm_M_runCall.slots A) (F0 m 18 ls []) := by
    intro M y2 H locs ls h hwf hkp hP hD hS hl
    unfold f_M_runCall_b18 at h
    have hkb := hkp
    refine lv_iload_n hx hb d_M_runCall_18 rfl (lv_at hl 1 rfl) ?_
    refine lv_topi (fun w30 ew30 => ?_)
    by_cases n31 : w30 = 1
    · have h := if_t (ew30.symm.trans n31) h
      subst n31
      refine lv_tableIn (off := 33) (tgt := 52) hx hb d_M_runCall_19 (by decide) (by decide) (by decide) (by decide) ?_
      refine lv_aload_n hx hb d_M_runCall_52 rfl (lv_at hl 0 rfl) ?_
      refine lv_iload_n hx hb d_M_runCall_53 rfl (lv_at hl 2 rfl) ?_
      obtain ⟨M32, r33, eM32, h⟩ := b2_ob h
      refine me_theni0 (M1 := M32) (me_runV (C := "FilterGuardModel") (As := [.int y2]) (rest := []) ⟨hx, hb, hml, hown, hts⟩ (c_M_findEntry l D ad ca N M M32 r33 j0 y2 eM32 hwf hj0 _) rfl (by show fg_nm y_M_findEntry 1; decide +kernel) u_2435 u_2437 u_169 u_192 u_2438 ⟨Nat.le_of_ble_eq_true rfl, Nat.le_of_ble_eq_true rfl⟩ hX hz hK hP hD hwf hS hA hj0 (by decide) rfl rfl rfl hl.1 (Nat.le_of_ble_eq_true rfl) d_M_runCall_54 ⟨Nat.le_of_ble_eq_true rfl, Nat.le_of_ble_eq_true rfl⟩) hP hD hK hS hA rfl rfl (fun H locs hw hP hD hS => ?_)
      obtain ⟨hwf, hk9⟩ := hw
      have hkp := hkp.tr hk9
      refine lv_istore_n (lv' := [(3, .int r33), (0, .ref (ad 1 j0)), (1, .int x1), (2, .int y2)]) hx hb d_M_runCall_57 rfl hl (by decide) rfl (fun ls hl => ?_)
      refine lv_aload_n hx hb d_M_runCall_58 rfl (lv_at hl 1 rfl) ?_
      refine g_M_43 hx hb hts hown hK hP hwf hj0 (hts _ u_1784) d_M_runCall_59 ?_
      obtain ⟨j34, e35, h⟩ := bd_ob h
      have hj34 : j34 < N 16 := (hwf.2.1 1 j0 43 _ (kp_r hkb hkp e35) (by decide) hj0)
      refine me_opt (j := j34) (kp_r hkb hkp e35) ?_
      refine lv_iconst (v := 0) hx hb d_M_runCall_62 (by decide) ?_
      refine lv_iload_n hx hb d_M_runCall_63 rfl (lv_at hl 0 rfl) ?_
      refine lv_if_ge (tgt := 71) hx hb d_M_runCall_64 (by decide) (fun c36 => ?_) (fun c36 => ?_)
      · have h := if_t c36 h
        refine lv_ldc2 hx hb hown (hts _ u_2479) d_M_runCall_71 ?_
        refine lv_ldc2 hx hb hown (hts _ u_2127) d_M_runCall_74 ?_
        refine lv_bipush (v := 64) hx hb d_M_runCall_77 (by decide) ?_
        refine lv_iload_n hx hb d_M_runCall_79 rfl (lv_at hl 3 rfl) ?_
        refine lv_imul hx hb d_M_runCall_80 ?_
        refine lv_iload_n hx hb d_M_runCall_81 rfl (lv_at hl 0 rfl) ?_
        refine lv_iadd hx hb d_M_runCall_82 ?_
        refine lv_i2l (v := ((64 * y2) + r33).toInt64) hx hb d_M_runCall_83 rfl ?_
        refine lv_lmul hx hb d_M_runCall_84 ?_
        refine lv_ladd hx hb d_M_runCall_85 ?_
        obtain ⟨g37, h⟩ := gd_ob h
        obtain ⟨M38, eM38, h⟩ := st_ob h
        refine me_last (eM38.trans (by rw [show (0 : Int32).toNatClampNeg = 0 by decide])) hx hb hK hP hD hwf hS hj34 (me_in (i := (0 : Int32)) (k := 0) (by decide) (by decide) (kp_c hkb.z hkp.z g37)) d_M_runCall_86 (fun H locs hP hD hwf hS => ?_)
        have hkp := kp_L eM38 hkp
        refine lv_goto (tgt := 289) hx hb d_M_runCall_87 (by decide) ?_
        exact me_retv (me_kp M0) h hx hb hr hlocks hwf hkp hP hK hD hS d_M_runCall_289
      have h := if_f c36 h
      refine lv_lconst (v := 0) hx hb d_M_runCall_67 (by decide) ?_
      refine lv_goto (tgt := 86) hx hb d_M_runCall_68 (by decide) ?_
      obtain ⟨g39, h⟩ := gd_ob h
      obtain ⟨M40, eM40, h⟩ := st_ob h
      refine me_last (eM40.trans (by rw [show (0 : Int32).toNatClampNeg = 0 by decide])) hx hb hK hP hD hwf hS hj34 (me_in (i := (0 : Int32)) (k := 0) (by decide) (by decide) (kp_c hkb.z hkp.z g39)) d_M_runCall_86 (fun H locs hP hD hwf hS => ?_)
      have hkp := kp_L eM40 hkp
      refine lv_goto (tgt := 289) hx hb d_M_runCall_87 (by decide) ?_
      exact me_retv (me_kp M0) h hx hb hr hlocks hwf hkp hP hK hD hS d_M_runCall_289
    have h := if_f (fun z => n31 (ew30.trans z)) h
    by_cases n41 : w30 = 2
    · have h := if_t (ew30.symm.trans n41) h
      subst n41
      refine lv_tableIn (off := 71) (tgt := 90) hx hb d_M_runCall_19 (by decide) (by decide) (by decide) (by decide) ?_
      refine lv_iconst (v := 0) hx hb d_M_runCall_90 (by decide) ?_
      refine lv_istore (lv' := [(4, .int 0), (0, .ref (ad 1 j0)), (1, .int x1), (2, .int y2)]) hx hb d_M_runCall_91 hl (by decide) rfl (fun ls hl => ?_)
      exact b_93 _ M y2 (0 : Int32) _ _ _ h hwf hkp hP hD hS (lv_sub hl [1, 3, 0] rfl)
    have h := if_f (fun z => n41 (ew30.trans z)) h
    by_cases n42 : w30 = 3
    · have h := if_t (ew30.symm.trans n42) h
      subst n42
      refine lv_tableIn (off := 128) (tgt := 147) hx hb d_M_runCall_19 (by decide) (by decide) (by decide) (by decide) ?_
      refine lv_aload_n hx hb d_M_runCall_147 rfl (lv_at hl 0 rfl) ?_
      refine g_M_43 hx hb hts hown hK hP hwf hj0 (hts _ u_1784) d_M_runCall_148 ?_
      obtain ⟨j43, e44, h⟩ := bd_ob h
      have hj43 : j43 < N 16 := (hwf.2.1 1 j0 43 _ e44 (by decide) hj0)
      refine me_opt (j := j43) e44 ?_
      refine lv_iconst (v := 0) hx hb d_M_runCall_151 (by decide) ?_
      refine lv_aload_n hx hb d_M_runCall_152 rfl (lv_at hl 0 rfl) ?_
      refine lv_iload_n hx hb d_M_runCall_153 rfl (lv_at hl 2 rfl) ?_
      obtain ⟨M45, r46, eM45, h⟩ := b2_ob h
      refine me_theni0 (M1 := M45) (me_runV (C := "FilterGuardModel") (As := [.int y2]) (rest := [.int 0, .ref (ad 16 j43)]) ⟨hx, hb, hml, hown, hts⟩ (c_M_delete l D ad ca N M M45 r46 j0 y2 eM45 hwf hj0 _) rfl (by show fg_nm y_M_delete 1; decide +kernel) u_2504 u_2506 u_178 u_192 u_2507 ⟨Nat.le_of_ble_eq_true rfl, Nat.le_of_ble_eq_true rfl⟩ hX hz hK hP hD hwf hS hA hj0 (by decide) rfl rfl rfl hl.1 (Nat.le_of_ble_eq_true rfl) d_M_runCall_154 ⟨Nat.le_of_ble_eq_true rfl, Nat.le_of_ble_eq_true rfl⟩) hP hD hK hS hA rfl rfl (fun H locs hw hP hD hS => ?_)
      obtain ⟨hwf, hk9⟩ := hw
      have hkp := hkp.tr hk9
      refine lv_i2l (v := r46.toInt64) hx hb d_M_runCall_157 rfl ?_
      obtain ⟨g47, h⟩ := gd_ob h
      obtain ⟨M48, eM48, h⟩ := st_ob h
      refine me_last (eM48.trans (by rw [show (0 : Int32).toNatClampNeg = 0 by decide])) hx hb hK hP hD hwf hS hj43 (me_in (i := (0 : Int32)) (k := 0) (by decide) (by decide) (kp_c hkb.z hkp.z g47)) d_M_runCall_158 (fun H locs hP hD hwf hS => ?_)
      have hkp := kp_L eM48 hkp
      refine lv_goto (tgt := 289) hx hb d_M_runCall_159 (by decide) ?_
      exact me_retv (me_kp M0) h hx hb hr hlocks hwf hkp hP hK hD hS d_M_runCall_289
    have h := if_f (fun z => n42 (ew30.trans z)) h
    by_cases n49 : w30 = 4
    · have h := if_t (ew30.symm.trans n49) h
      subst n49
      refine lv_tableIn (off := 143) (tgt := 162) hx hb d_M_runCall_19 (by decide) (by decide) (by decide) (by decide) ?_
      refine lv_aload_n hx hb d_M_runCall_162 rfl (lv_at hl 0 rfl) ?_
      refine g_M_38 hx hb hts hown hK hP hwf hj0 (hts _ u_1779) d_M_runCall_163 ?_
      refine lv_sipush (v := 1000) hx hb d_M_runCall_166 (by decide) ?_
      refine lv_icmp_ge (tgt := 197) hx hb d_M_runCall_169 (by decide) (fun c50 => ?_) (fun c50 => ?_)
      · have h := if_t c50 h
        refine lv_aload_n hx hb d_M_runCall_197 rfl (lv_at hl 0 rfl) ?_
        refine g_M_43 hx hb hts hown hK hP hwf hj0 (hts _ u_1784) d_M_runCall_198 ?_
        obtain ⟨j51, e52, h⟩ := bd_ob h
        have hj51 : j51 < N 16 := (hwf.2.1 1 j0 43 _ e52 (by decide) hj0)
        refine me_opt (j := j51) e52 ?_
        refine lv_iconst (v := 0) hx hb d_M_runCall_201 (by decide) ?_
        refine lv_lconst (v := 0) hx hb d_M_runCall_202 (by decide) ?_
        obtain ⟨g53, h⟩ := gd_ob h
        obtain ⟨M54, eM54, h⟩ := st_ob h
        refine me_last (eM54.trans (by rw [show (0 : Int32).toNatClampNeg = 0 by decide])) hx hb hK hP hD hwf hS hj51 (me_in (i := (0 : Int32)) (k := 0) (by decide) (by decide) g53) d_M_runCall_203 (fun H locs hP hD hwf hS => ?_)
        have hkp := kp_L eM54 hkp
        refine lv_goto (tgt := 289) hx hb d_M_runCall_204 (by decide) ?_
        exact me_retv (me_kp M0) h hx hb hr hlocks hwf hkp hP hK hD hS d_M_runCall_289
      have h := if_f c50 h
      refine lv_aload_n hx hb d_M_runCall_172 rfl (lv_at hl 0 rfl) ?_
      refine g_M_39 hx hb hts hown hK hP hwf hj0 (hts _ u_1780) d_M_runCall_173 ?_
      obtain ⟨j55, e56, h⟩ := bd_ob h
      have hj55 : j55 < N 16 := (hwf.2.1 1 j0 39 _ e56 (by decide) hj0)
      refine me_opt (j := j55) e56 ?_
      refine lv_aload_n hx hb d_M_runCall_176 rfl (lv_at hl 0 rfl) ?_
      refine g_M_38 hx hb hts hown hK hP hwf hj0 (hts _ u_1779) d_M_runCall_177 ?_
      refine lv_aload_n hx hb d_M_runCall_180 rfl (lv_at hl 0 rfl) ?_
      refine g_M_43 hx hb hts hown hK hP hwf hj0 (hts _ u_1784) d_M_runCall_181 ?_
      obtain ⟨j57, e58, h⟩ := bd_ob h
      have hj57 : j57 < N 16 := (hwf.2.1 1 j0 43 _ e58 (by decide) hj0)
      refine me_opt (j := j57) e58 ?_
      refine lv_iconst (v := 1) hx hb d_M_runCall_184 (by decide) ?_
      obtain ⟨g59, h⟩ := gd_ob h
      refine me_lald hx hb hK hP hwf hj57 (me_in (i := (1 : Int32)) (k := 1) (by decide) (by decide) g59) d_M_runCall_185 ?_
      refine fg_topl (y := mL M 16 j57 1) (congrArg _ (by decide)) ?_
      obtain ⟨g60, h⟩ := gd_ob h
      obtain ⟨M61, eM61, h⟩ := st_ob h
      refine me_last eM61 hx hb hK hP hD hwf hS hj55 g60 d_M_runCall_186 (fun H locs hP hD hwf hS => ?_)
      have hkp := kp_L eM61 hkp
      refine lv_aload_n hx hb d_M_runCall_187 rfl (lv_at hl 0 rfl) ?_
      refine lv_dup hx hb d_M_runCall_188 rfl ?_
      refine g_M_38 hx hb hts hown hK hP hwf hj0 (hts _ u_1779) d_M_runCall_189 ?_
      refine lv_iconst (v := 1) hx hb d_M_runCall_192 (by decide) ?_
      refine lv_iadd hx hb d_M_runCall_193 ?_
      obtain ⟨M62, eM62, h⟩ := st_ob h
      refine p_M_38 eM62 hx hb hts hown hK hP hD hwf hS hj0 (hts _ u_1779) d_M_runCall_194 (fun H locs hP hD hwf hS => ?_)
      have hkp := kp_I eM62 hkp
      refine lv_aload_n hx hb d_M_runCall_197 rfl (lv_at hl 0 rfl) ?_
      refine g_M_43 hx hb hts hown hK hP hwf hj0 (hts _ u_1784) d_M_runCall_198 ?_
      refine me_opt (j := j57) (kp_r hkb hkp e58) ?_
      refine lv_iconst (v := 0) hx hb d_M_runCall_201 (by decide) ?_
      refine lv_lconst (v := 0) hx hb d_M_runCall_202 (by decide) ?_
      obtain ⟨g63, h⟩ := gd_ob h
      obtain ⟨M64, eM64, h⟩ := st_ob h
      refine me_last (eM64.trans (by rw [show (0 : Int32).toNatClampNeg = 0 by decide])) hx hb hK hP hD hwf hS hj57 (me_in (i := (0 : Int32)) (k := 0) (by decide) (by decide) (kp_c hkb.z hkp.z g63)) d_M_runCall_203 (fun H locs hP hD hwf hS => ?_)
      have hkp := kp_L eM64 hkp
      refine lv_goto (tgt := 289) hx hb d_M_runCall_204 (by decide) ?_
      exact me_retv (me_kp M0) h hx hb hr hlocks hwf hkp hP hK hD hS d_M_runCall_289
    have h := if_f (fun z => n49 (ew30.trans z)) h
    by_cases n65 : w30 = 5
    · have h := if_t (ew30.symm.trans n65) h
      subst n65
      refine lv_tableIn (off := 188) (tgt := 207) hx hb d_M_runCall_19 (by decide) (by decide) (by decide) (by decide) ?_
      refine lv_aload_n hx hb d_M_runCall_207 rfl (lv_at hl 0 rfl) ?_
      refine g_M_43 hx hb hts hown hK hP hwf hj0 (hts _ u_1784) d_M_runCall_208 ?_
      obtain ⟨j66, e67, h⟩ := bd_ob h
      have hj66 : j66 < N 16 := (hwf.2.1 1 j0 43 _ e67 (by decide) hj0)
      refine me_opt (j := j66) e67 ?_
      refine lv_iconst (v := 0) hx hb d_M_runCall_211 (by decide) ?_
      refine lv_aload_n hx hb d_M_runCall_212 rfl (lv_at hl 0 rfl) ?_
      refine g_M_37 hx hb hts hown hK hP hwf hj0 (hts _ u_1778) d_M_runCall_213 ?_
      obtain ⟨g68, h⟩ := gd_ob h
      obtain ⟨M69, eM69, h⟩ := st_ob h
      refine me_last (eM69.trans (by rw [show (0 : Int32).toNatClampNeg = 0 by decide])) hx hb hK hP hD hwf hS hj66 (me_in (i := (0 : Int32)) (k := 0) (by decide) (by decide) g68) d_M_runCall_216 (fun H locs hP hD hwf hS => ?_)
      have hkp := kp_L eM69 hkp
      refine lv_aload_n hx hb d_M_runCall_217 rfl (lv_at hl 0 rfl) ?_
      refine lv_dup hx hb d_M_runCall_218 rfl ?_
      refine g_M_37 hx hb hts hown hK hP hwf hj0 (hts _ u_1778) d_M_runCall_219 ?_
      refine lv_lconst (v := 1) hx hb d_M_runCall_222 (by decide) ?_
      refine lv_ladd hx hb d_M_runCall_223 ?_
      obtain ⟨M70, eM70, h⟩ := st_ob h
      refine p_M_37 eM70 hx hb hts hown hK hP hD hwf hS hj0 (hts _ u_1778) d_M_runCall_224 (fun H locs hP hD hwf hS => ?_)
      have hkp := kp_L eM70 hkp
      refine lv_goto (tgt := 289) hx hb d_M_runCall_227 (by decide) ?_
      exact me_retv (me_kp M0) h hx hb hr hlocks hwf hkp hP hK hD hS d_M_runCall_289
    have h := if_f (fun z => n65 (ew30.trans z)) h
    have in31 := lv_neT n31 (show (1 : Int32).toInt = 1 from rfl)
    have in41 := lv_neT n41 (show (2 : Int32).toInt = 2 from rfl)
    have in42 := lv_neT n42 (show (3 : Int32).toInt = 3 from rfl)
    have in49 := lv_neT n49 (show (4 : Int32).toInt = 4 from rfl)
    have in65 := lv_neT n65 (show (5 : Int32).toInt = 5 from rfl)
    refine lv_tableOut (tgt := 230) hx hb d_M_runCall_19 (by omega) (by decide) ?_
    refine lv_iconst (v := 1) hx hb d_M_runCall_230 (by decide) ?_
    refine lv_istore (lv' := [(4, .int 1), (0, .ref (ad 1 j0)), (1, .int x1), (2, .int y2)]) hx hb d_M_runCall_231 hl (by decide) rfl (fun ls hl => ?_)
    refine lv_iconst (v := 0) hx hb d_M_runCall_233 (by decide) ?_
    refine lv_istore (lv' := [(5, .int 0), (4, .int 1), (0, .ref (ad 1 j0)), (1, .int x1), (2, .int y2)]) hx hb d_M_runCall_234 hl (by decide) rfl (fun ls hl => ?_)
    exact b_236 _ M (1 : Int32) (0 : Int32) _ _ _ h hwf hkp hP hD hS (lv_sub hl [2, 1, 0] rfl)
  refine lv_aload_n hx hb d_M_runCall_0 rfl (lv_at hl 0 rfl) ?_
  refine g_M_43 hx hb hts hown hK hP hwf hj0 (hts _ u_1784) d_M_runCall_1 ?_
  obtain ⟨j71, e72, h⟩ := bd_ob h
  have hj71 : j71 < N 16 := (hwf.2.1 1 j0 43 _ e72 (by decide) hj0)
  refine me_opt (j := j71) e72 ?_
  refine lv_iconst (v := 1) hx hb d_M_runCall_4 (by decide) ?_
  obtain ⟨g73, h⟩ := gd_ob h
  refine me_lald hx hb hK hP hwf hj71 (me_in (i := (1 : Int32)) (k := 1) (by decide) (by decide) g73) d_M_runCall_5 ?_
  refine fg_topl (y := mL M0 16 j71 1) (congrArg _ (by decide)) ?_
  refine lv_l2i (v := (mL M0 16 j71 1).toInt32) hx hb d_M_runCall_6 rfl ?_
  obtain ⟨v74, ev74, h⟩ := st_ob h
  refine fg_topi (y := v74) ev74.symm ?_
  refine lv_istore_n (lv' := [(2, .int v74), (0, .ref (ad 1 j0)), (1, .int x1)]) hx hb d_M_runCall_7 rfl hl (by decide) rfl (fun ls hl => ?_)
  refine lv_iload_n hx hb d_M_runCall_8 rfl (lv_at hl 2 rfl) ?_
  refine lv_iconst (v := 4) hx hb d_M_runCall_9 (by decide) ?_
  refine lv_icmp_ge (tgt := 18) hx hb d_M_runCall_10 (by decide) (fun c75 => ?_) (fun c75 => ?_)
  · have h := if_t c75 h
    exact b_18 M0 v74 _ _ _ h hwf hkp hP hD hS (lv_sub hl [1, 2, 0] rfl)
  have h := if_f c75 h
  refine lv_aload_n hx hb d_M_runCall_13 rfl (lv_at hl 1 rfl) ?_
  refine lv_iload_n hx hb d_M_runCall_14 rfl (lv_at hl 0 rfl) ?_
  obtain ⟨M76, eM76, h⟩ := bd_ob h
  refine me_thenv0 (M1 := M76) (me_runV (C := "FilterGuardModel") (As := [.int v74]) (rest := []) ⟨hx, hb, hml, hown, hts⟩ (c_M_readKey l D ad ca N M0 M76 j0 v74 eM76 hwf hj0 _) rfl (by show fg_nm y_M_readKey 1; decide +kernel) u_2500 u_2502 u_177 u_192 u_2503 ⟨Nat.le_of_ble_eq_true rfl, Nat.le_of_ble_eq_true rfl⟩ hX hz hK hP hD hwf hS hA hj0 (by decide) rfl rfl rfl hl.1 (Nat.le_of_ble_eq_true rfl) d_M_runCall_15 ⟨Nat.le_of_ble_eq_true rfl, Nat.le_of_ble_eq_true rfl⟩) hP hD hK hS hA rfl rfl (fun H locs hw hP hD hS => ?_)
  obtain ⟨hwf, hk9⟩ := hw
  have hkp := hkp.tr hk9
  exact b_18 M76 v74 _ _ _ h hwf hkp hP hD hS (lv_sub hl [1, 2, 0] rfl)
theorem d_M_runSlot_0 : decode prog_14_method_136_code 0 = .ok (.lload_n 2, 1) := by decide +kernel
theorem d_M_runSlot_1 : decode prog_14_method_136_code 1 = .ok (.invokestatic 308, 3) := by decide +kernel
theorem d_M_runSlot_4 : decode prog_14_method_136_code 4 = .ok (.istore 6, 2) := by decide +kernel
theorem d_M_runSlot_6 : decode prog_14_method_136_code 6 = .ok (.lload_n 2, 1) := by decide +kernel
theorem d_M_runSlot_7 : decode prog_14_method_136_code 7 = .ok (.invokestatic 315, 3) := by decide +kernel
theorem d_M_runSlot_10 : decode prog_14_method_136_code 10 = .ok (.istore 7, 2) := by decide +kernel
theorem d_M_runSlot_12 : decode prog_14_method_136_code 12 = .ok (.iload 6, 2) := by decide +kernel
theorem d_M_runSlot_14 : decode prog_14_method_136_code 14 = .ok (.invokestatic 412, 3) := by decide +kernel
theorem d_M_runSlot_17 : decode prog_14_method_136_code 17 = .ok (.istore 8, 2) := by decide +kernel
theorem d_M_runSlot_19 : decode prog_14_method_136_code 19 = .ok (.aload_n 0, 1) := by decide +kernel
theorem d_M_runSlot_20 : decode prog_14_method_136_code 20 = .ok (.getfield 77, 3) := by decide +kernel
theorem d_M_runSlot_23 : decode prog_14_method_136_code 23 = .ok (.iload 7, 2) := by decide +kernel
theorem d_M_runSlot_25 : decode prog_14_method_136_code 25 = .ok (.laload, 1) := by decide +kernel
theorem d_M_runSlot_26 : decode prog_14_method_136_code 26 = .ok (.lload_n 2, 1) := by decide +kernel
theorem d_M_runSlot_27 : decode prog_14_method_136_code 27 = .ok (.invokestatic 321, 3) := by decide +kernel
theorem d_M_runSlot_30 : decode prog_14_method_136_code 30 = .ok (.i2l, 1) := by decide +kernel
theorem d_M_runSlot_31 : decode prog_14_method_136_code 31 = .ok (.ladd, 1) := by decide +kernel
theorem d_M_runSlot_32 : decode prog_14_method_136_code 32 = .ok (.lstore 9, 2) := by decide +kernel
theorem d_M_runSlot_34 : decode prog_14_method_136_code 34 = .ok (.iload 6, 2) := by decide +kernel
theorem d_M_runSlot_36 : decode prog_14_method_136_code 36 = .ok (.invokestatic 312, 3) := by decide +kernel
theorem d_M_runSlot_39 : decode prog_14_method_136_code 39 = .ok (.tableswitch 257 1 13 #[65, 111, 143, 164, 181, 257, 257, 257, 257, 211, 220, 243, 255], 65) := by decide +kernel
theorem d_M_runSlot_104 : decode prog_14_method_136_code 104 = .ok (.aload_n 0, 1) := by decide +kernel
theorem d_M_runSlot_105 : decode prog_14_method_136_code 105 = .ok (.getfield 77, 3) := by decide +kernel
theorem d_M_runSlot_108 : decode prog_14_method_136_code 108 = .ok (.iload 7, 2) := by decide +kernel
theorem d_M_runSlot_110 : decode prog_14_method_136_code 110 = .ok (.lload_n 2, 1) := by decide +kernel
theorem d_M_runSlot_111 : decode prog_14_method_136_code 111 = .ok (.invokestatic 318, 3) := by decide +kernel
theorem d_M_runSlot_114 : decode prog_14_method_136_code 114 = .ok (.iconst 1, 1) := by decide +kernel
theorem d_M_runSlot_115 : decode prog_14_method_136_code 115 = .ok (.if_icmp .ne 11, 3) := by decide +kernel
theorem d_M_runSlot_126 : decode prog_14_method_136_code 126 = .ok (.lload_n 2, 1) := by decide +kernel
theorem d_M_runSlot_127 : decode prog_14_method_136_code 127 = .ok (.invokestatic 324, 3) := by decide +kernel
theorem d_M_runSlot_130 : decode prog_14_method_136_code 130 = .ok (.i2l, 1) := by decide +kernel
theorem d_M_runSlot_131 : decode prog_14_method_136_code 131 = .ok (.ldc2_w 203, 3) := by decide +kernel
theorem d_M_runSlot_134 : decode prog_14_method_136_code 134 = .ok (.land, 1) := by decide +kernel
theorem d_M_runSlot_135 : decode prog_14_method_136_code 135 = .ok (.lload 4, 2) := by decide +kernel
theorem d_M_runSlot_137 : decode prog_14_method_136_code 137 = .ok (.invokestatic 324, 3) := by decide +kernel
theorem d_M_runSlot_140 : decode prog_14_method_136_code 140 = .ok (.i2l, 1) := by decide +kernel
theorem d_M_runSlot_141 : decode prog_14_method_136_code 141 = .ok (.bipush 32, 2) := by decide +kernel
theorem d_M_runSlot_143 : decode prog_14_method_136_code 143 = .ok (.lshl, 1) := by decide +kernel
theorem d_M_runSlot_144 : decode prog_14_method_136_code 144 = .ok (.lor, 1) := by decide +kernel
theorem d_M_runSlot_145 : decode prog_14_method_136_code 145 = .ok (.lastore, 1) := by decide +kernel
theorem d_M_runSlot_146 : decode prog_14_method_136_code 146 = .ok (.iload_n 1, 1) := by decide +kernel
theorem d_M_runSlot_147 : decode prog_14_method_136_code 147 = .ok (.iconst 2, 1) := by decide +kernel
theorem d_M_runSlot_148 : decode prog_14_method_136_code 148 = .ok (.iadd, 1) := by decide +kernel
theorem d_M_runSlot_149 : decode prog_14_method_136_code 149 = .ok (.ireturn, 1) := by decide +kernel
theorem d_M_runSlot_118 : decode prog_14_method_136_code 118 = .ok (.lload_n 2, 1) := by decide +kernel
theorem d_M_runSlot_119 : decode prog_14_method_136_code 119 = .ok (.invokestatic 324, 3) := by decide +kernel
theorem d_M_runSlot_122 : decode prog_14_method_136_code 122 = .ok (.i2l, 1) := by decide +kernel
theorem d_M_runSlot_123 : decode prog_14_method_136_code 123 = .ok (.goto 22, 3) := by decide +kernel
theorem d_M_runSlot_150 : decode prog_14_method_136_code 150 = .ok (.aload_n 0, 1) := by decide +kernel
theorem d_M_runSlot_151 : decode prog_14_method_136_code 151 = .ok (.getfield 77, 3) := by decide +kernel
theorem d_M_runSlot_154 : decode prog_14_method_136_code 154 = .ok (.iload 7, 2) := by decide +kernel
theorem d_M_runSlot_156 : decode prog_14_method_136_code 156 = .ok (.aload_n 0, 1) := by decide +kernel
theorem d_M_runSlot_157 : decode prog_14_method_136_code 157 = .ok (.aload_n 0, 1) := by decide +kernel
theorem d_M_runSlot_158 : decode prog_14_method_136_code 158 = .ok (.getfield 77, 3) := by decide +kernel
theorem d_M_runSlot_161 : decode prog_14_method_136_code 161 = .ok (.lload_n 2, 1) := by decide +kernel
theorem d_M_runSlot_162 : decode prog_14_method_136_code 162 = .ok (.invokestatic 318, 3) := by decide +kernel
theorem d_M_runSlot_165 : decode prog_14_method_136_code 165 = .ok (.laload, 1) := by decide +kernel
theorem d_M_runSlot_166 : decode prog_14_method_136_code 166 = .ok (.lload_n 2, 1) := by decide +kernel
theorem d_M_runSlot_167 : decode prog_14_method_136_code 167 = .ok (.invokestatic 321, 3) := by decide +kernel
theorem d_M_runSlot_170 : decode prog_14_method_136_code 170 = .ok (.i2l, 1) := by decide +kernel
theorem d_M_runSlot_171 : decode prog_14_method_136_code 171 = .ok (.ladd, 1) := by decide +kernel
theorem d_M_runSlot_172 : decode prog_14_method_136_code 172 = .ok (.iload 8, 2) := by decide +kernel
theorem d_M_runSlot_174 : decode prog_14_method_136_code 174 = .ok (.invokevirtual 665, 3) := by decide +kernel
theorem u_2469 : Cond.methodLink "FilterGuardModel" 665 ⟨"FilterGuardModel", "read", "(JI)J"⟩ ∈ fg_g := fg_in (List.mem_of_getElem? (i := 2469) (by decide +kernel)) rfl
theorem u_2472 : Cond.code ⟨"FilterGuardModel", "read", "(JI)J"⟩ prog_14_method_128_code 7 (some .long) ∈ fg_g := fg_in (List.mem_of_getElem? (i := 2472) (by decide +kernel)) rfl
theorem u_2471 : Cond.instanceMethod ⟨"FilterGuardModel", "read", "(JI)J"⟩ ∈ fg_g := fg_in (List.mem_of_getElem? (i := 2471) (by decide +kernel)) rfl
theorem u_171 : Cond.selects "FilterGuardModel" ⟨"FilterGuardModel", "read", "(JI)J"⟩ ⟨"FilterGuardModel", "read", "(JI)J"⟩ ∈ fg_g := fg_in (List.mem_of_getElem? (i := 171) (by decide +kernel)) rfl
theorem d_M_runSlot_177 : decode prog_14_method_136_code 177 = .ok (.lastore, 1) := by decide +kernel
theorem d_M_runSlot_178 : decode prog_14_method_136_code 178 = .ok (.iload_n 1, 1) := by decide +kernel
theorem d_M_runSlot_179 : decode prog_14_method_136_code 179 = .ok (.iconst 1, 1) := by decide +kernel
theorem d_M_runSlot_180 : decode prog_14_method_136_code 180 = .ok (.iadd, 1) := by decide +kernel
theorem d_M_runSlot_181 : decode prog_14_method_136_code 181 = .ok (.ireturn, 1) := by decide +kernel
theorem d_M_runSlot_182 : decode prog_14_method_136_code 182 = .ok (.aload_n 0, 1) := by decide +kernel
theorem d_M_runSlot_183 : decode prog_14_method_136_code 183 = .ok (.lload 9, 2) := by decide +kernel
theorem d_M_runSlot_185 : decode prog_14_method_136_code 185 = .ok (.aload_n 0, 1) := by decide +kernel
theorem d_M_runSlot_186 : decode prog_14_method_136_code 186 = .ok (.getfield 77, 3) := by decide +kernel
theorem d_M_runSlot_189 : decode prog_14_method_136_code 189 = .ok (.lload_n 2, 1) := by decide +kernel
theorem d_M_runSlot_190 : decode prog_14_method_136_code 190 = .ok (.invokestatic 318, 3) := by decide +kernel
theorem d_M_runSlot_193 : decode prog_14_method_136_code 193 = .ok (.laload, 1) := by decide +kernel
theorem d_M_runSlot_194 : decode prog_14_method_136_code 194 = .ok (.iload 8, 2) := by decide +kernel
theorem d_M_runSlot_196 : decode prog_14_method_136_code 196 = .ok (.invokevirtual 669, 3) := by decide +kernel
theorem u_2481 : Cond.methodLink "FilterGuardModel" 669 ⟨"FilterGuardModel", "write", "(JJI)V"⟩ ∈ fg_g := fg_in (List.mem_of_getElem? (i := 2481) (by decide +kernel)) rfl
theorem u_2484 : Cond.code ⟨"FilterGuardModel", "write", "(JJI)V"⟩ prog_14_method_129_code 7 none ∈ fg_g := fg_in (List.mem_of_getElem? (i := 2484) (by decide +kernel)) rfl
theorem u_2483 : Cond.instanceMethod ⟨"FilterGuardModel", "write", "(JJI)V"⟩ ∈ fg_g := fg_in (List.mem_of_getElem? (i := 2483) (by decide +kernel)) rfl
theorem u_173 : Cond.selects "FilterGuardModel" ⟨"FilterGuardModel", "write", "(JJI)V"⟩ ⟨"FilterGuardModel", "write", "(JJI)V"⟩ ∈ fg_g := fg_in (List.mem_of_getElem? (i := 173) (by decide +kernel)) rfl
theorem d_M_runSlot_199 : decode prog_14_method_136_code 199 = .ok (.iload_n 1, 1) := by decide +kernel
theorem d_M_runSlot_200 : decode prog_14_method_136_code 200 = .ok (.iconst 1, 1) := by decide +kernel
theorem d_M_runSlot_201 : decode prog_14_method_136_code 201 = .ok (.iadd, 1) := by decide +kernel
theorem d_M_runSlot_202 : decode prog_14_method_136_code 202 = .ok (.ireturn, 1) := by decide +kernel
theorem d_M_runSlot_203 : decode prog_14_method_136_code 203 = .ok (.aload_n 0, 1) := by decide +kernel
theorem d_M_runSlot_204 : decode prog_14_method_136_code 204 = .ok (.lload 9, 2) := by decide +kernel
theorem d_M_runSlot_206 : decode prog_14_method_136_code 206 = .ok (.lload_n 2, 1) := by decide +kernel
theorem d_M_runSlot_207 : decode prog_14_method_136_code 207 = .ok (.invokestatic 324, 3) := by decide +kernel
theorem d_M_runSlot_210 : decode prog_14_method_136_code 210 = .ok (.i2l, 1) := by decide +kernel
theorem d_M_runSlot_211 : decode prog_14_method_136_code 211 = .ok (.iload 8, 2) := by decide +kernel
theorem d_M_runSlot_213 : decode prog_14_method_136_code 213 = .ok (.invokevirtual 669, 3) := by decide +kernel
theorem d_M_runSlot_216 : decode prog_14_method_136_code 216 = .ok (.iload_n 1, 1) := by decide +kernel
theorem d_M_runSlot_217 : decode prog_14_method_136_code 217 = .ok (.iconst 1, 1) := by decide +kernel
theorem d_M_runSlot_218 : decode prog_14_method_136_code 218 = .ok (.iadd, 1) := by decide +kernel
theorem d_M_runSlot_219 : decode prog_14_method_136_code 219 = .ok (.ireturn, 1) := by decide +kernel
theorem d_M_runSlot_220 : decode prog_14_method_136_code 220 = .ok (.aload_n 0, 1) := by decide +kernel
theorem d_M_runSlot_221 : decode prog_14_method_136_code 221 = .ok (.lload 9, 2) := by decide +kernel
theorem d_M_runSlot_223 : decode prog_14_method_136_code 223 = .ok (.aload_n 0, 1) := by decide +kernel
theorem d_M_runSlot_224 : decode prog_14_method_136_code 224 = .ok (.lload 9, 2) := by decide +kernel
theorem d_M_runSlot_226 : decode prog_14_method_136_code 226 = .ok (.iload 8, 2) := by decide +kernel
theorem d_M_runSlot_228 : decode prog_14_method_136_code 228 = .ok (.invokevirtual 665, 3) := by decide +kernel
theorem d_M_runSlot_231 : decode prog_14_method_136_code 231 = .ok (.aload_n 0, 1) := by decide +kernel
theorem d_M_runSlot_232 : decode prog_14_method_136_code 232 = .ok (.getfield 77, 3) := by decide +kernel
theorem d_M_runSlot_235 : decode prog_14_method_136_code 235 = .ok (.lload_n 2, 1) := by decide +kernel
theorem d_M_runSlot_236 : decode prog_14_method_136_code 236 = .ok (.invokestatic 318, 3) := by decide +kernel
theorem d_M_runSlot_239 : decode prog_14_method_136_code 239 = .ok (.laload, 1) := by decide +kernel
theorem d_M_runSlot_240 : decode prog_14_method_136_code 240 = .ok (.ladd, 1) := by decide +kernel
theorem d_M_runSlot_241 : decode prog_14_method_136_code 241 = .ok (.iload 8, 2) := by decide +kernel
theorem d_M_runSlot_243 : decode prog_14_method_136_code 243 = .ok (.invokevirtual 669, 3) := by decide +kernel
theorem d_M_runSlot_246 : decode prog_14_method_136_code 246 = .ok (.iload_n 1, 1) := by decide +kernel
theorem d_M_runSlot_247 : decode prog_14_method_136_code 247 = .ok (.iconst 1, 1) := by decide +kernel
theorem d_M_runSlot_248 : decode prog_14_method_136_code 248 = .ok (.iadd, 1) := by decide +kernel
theorem d_M_runSlot_249 : decode prog_14_method_136_code 249 = .ok (.ireturn, 1) := by decide +kernel
theorem d_M_runSlot_296 : decode prog_14_method_136_code 296 = .ok (.aload_n 0, 1) := by decide +kernel
theorem d_M_runSlot_297 : decode prog_14_method_136_code 297 = .ok (.lload_n 2, 1) := by decide +kernel
theorem d_M_runSlot_298 : decode prog_14_method_136_code 298 = .ok (.invokevirtual 679, 3) := by decide +kernel
theorem u_2508 : Cond.methodLink "FilterGuardModel" 679 ⟨"FilterGuardModel", "runArithmetic", "(J)V"⟩ ∈ fg_g := fg_in (List.mem_of_getElem? (i := 2508) (by decide +kernel)) rfl
theorem u_2511 : Cond.code ⟨"FilterGuardModel", "runArithmetic", "(J)V"⟩ prog_14_method_133_code 10 none ∈ fg_g := fg_in (List.mem_of_getElem? (i := 2511) (by decide +kernel)) rfl
theorem u_2510 : Cond.instanceMethod ⟨"FilterGuardModel", "runArithmetic", "(J)V"⟩ ∈ fg_g := fg_in (List.mem_of_getElem? (i := 2510) (by decide +kernel)) rfl
theorem u_179 : Cond.selects "FilterGuardModel" ⟨"FilterGuardModel", "runArithmetic", "(J)V"⟩ ⟨"FilterGuardModel", "runArithmetic", "(J)V"⟩ ∈ fg_g := fg_in (List.mem_of_getElem? (i := 179) (by decide +kernel)) rfl
theorem d_M_runSlot_301 : decode prog_14_method_136_code 301 = .ok (.iload_n 1, 1) := by decide +kernel
theorem d_M_runSlot_302 : decode prog_14_method_136_code 302 = .ok (.iconst 1, 1) := by decide +kernel
theorem d_M_runSlot_303 : decode prog_14_method_136_code 303 = .ok (.iadd, 1) := by decide +kernel
theorem d_M_runSlot_304 : decode prog_14_method_136_code 304 = .ok (.ireturn, 1) := by decide +kernel
theorem d_M_runSlot_250 : decode prog_14_method_136_code 250 = .ok (.iload_n 1, 1) := by decide +kernel
theorem d_M_runSlot_251 : decode prog_14_method_136_code 251 = .ok (.iconst 1, 1) := by decide +kernel
theorem d_M_runSlot_252 : decode prog_14_method_136_code 252 = .ok (.iadd, 1) := by decide +kernel
theorem d_M_runSlot_253 : decode prog_14_method_136_code 253 = .ok (.lload_n 2, 1) := by decide +kernel
theorem d_M_runSlot_254 : decode prog_14_method_136_code 254 = .ok (.invokestatic 321, 3) := by decide +kernel
theorem d_M_runSlot_257 : decode prog_14_method_136_code 257 = .ok (.iadd, 1) := by decide +kernel
theorem d_M_runSlot_258 : decode prog_14_method_136_code 258 = .ok (.ireturn, 1) := by decide +kernel
theorem d_M_runSlot_259 : decode prog_14_method_136_code 259 = .ok (.aload_n 0, 1) := by decide +kernel
theorem d_M_runSlot_260 : decode prog_14_method_136_code 260 = .ok (.lload_n 2, 1) := by decide +kernel
theorem d_M_runSlot_261 : decode prog_14_method_136_code 261 = .ok (.invokevirtual 673, 3) := by decide +kernel
theorem u_2489 : Cond.methodLink "FilterGuardModel" 673 ⟨"FilterGuardModel", "goes", "(J)Z"⟩ ∈ fg_g := fg_in (List.mem_of_getElem? (i := 2489) (by decide +kernel)) rfl
theorem u_2492 : Cond.code ⟨"FilterGuardModel", "goes", "(J)Z"⟩ prog_14_method_132_code 10 (some .boolean) ∈ fg_g := fg_in (List.mem_of_getElem? (i := 2492) (by decide +kernel)) rfl
theorem u_2491 : Cond.instanceMethod ⟨"FilterGuardModel", "goes", "(J)Z"⟩ ∈ fg_g := fg_in (List.mem_of_getElem? (i := 2491) (by decide +kernel)) rfl
theorem u_175 : Cond.selects "FilterGuardModel" ⟨"FilterGuardModel", "goes", "(J)Z"⟩ ⟨"FilterGuardModel", "goes", "(J)Z"⟩ ∈ fg_g := fg_in (List.mem_of_getElem? (i := 175) (by decide +kernel)) rfl
theorem d_M_runSlot_264 : decode prog_14_method_136_code 264 = .ok (.ifCond .eq 14, 3) := by decide +kernel
theorem d_M_runSlot_278 : decode prog_14_method_136_code 278 = .ok (.iload_n 1, 1) := by decide +kernel
theorem d_M_runSlot_279 : decode prog_14_method_136_code 279 = .ok (.iconst 1, 1) := by decide +kernel
theorem d_M_runSlot_280 : decode prog_14_method_136_code 280 = .ok (.iadd, 1) := by decide +kernel
theorem d_M_runSlot_281 : decode prog_14_method_136_code 281 = .ok (.ireturn, 1) := by decide +kernel
theorem d_M_runSlot_267 : decode prog_14_method_136_code 267 = .ok (.iload_n 1, 1) := by decide +kernel
theorem d_M_runSlot_268 : decode prog_14_method_136_code 268 = .ok (.iconst 1, 1) := by decide +kernel
theorem d_M_runSlot_269 : decode prog_14_method_136_code 269 = .ok (.iadd, 1) := by decide +kernel
theorem d_M_runSlot_270 : decode prog_14_method_136_code 270 = .ok (.lload_n 2, 1) := by decide +kernel
theorem d_M_runSlot_271 : decode prog_14_method_136_code 271 = .ok (.invokestatic 321, 3) := by decide +kernel
theorem d_M_runSlot_274 : decode prog_14_method_136_code 274 = .ok (.iadd, 1) := by decide +kernel
theorem d_M_runSlot_275 : decode prog_14_method_136_code 275 = .ok (.goto 6, 3) := by decide +kernel
theorem d_M_runSlot_282 : decode prog_14_method_136_code 282 = .ok (.aload_n 0, 1) := by decide +kernel
theorem d_M_runSlot_283 : decode prog_14_method_136_code 283 = .ok (.lload_n 2, 1) := by decide +kernel
theorem d_M_runSlot_284 : decode prog_14_method_136_code 284 = .ok (.invokestatic 324, 3) := by decide +kernel
theorem d_M_runSlot_287 : decode prog_14_method_136_code 287 = .ok (.invokevirtual 676, 3) := by decide +kernel
theorem u_2496 : Cond.methodLink "FilterGuardModel" 676 ⟨"FilterGuardModel", "runCall", "(I)V"⟩ ∈ fg_g := fg_in (List.mem_of_getElem? (i := 2496) (by decide +kernel)) rfl
theorem u_2499 : Cond.code ⟨"FilterGuardModel", "runCall", "(I)V"⟩ prog_14_method_135_code 6 none ∈ fg_g := fg_in (List.mem_of_getElem? (i := 2499) (by decide +kernel)) rfl
theorem u_2498 : Cond.instanceMethod ⟨"FilterGuardModel", "runCall", "(I)V"⟩ ∈ fg_g := fg_in (List.mem_of_getElem? (i := 2498) (by decide +kernel)) rfl
theorem u_176 : Cond.selects "FilterGuardModel" ⟨"FilterGuardModel", "runCall", "(I)V"⟩ ⟨"FilterGuardModel", "runCall", "(I)V"⟩ ∈ fg_g := fg_in (List.mem_of_getElem? (i := 176) (by decide +kernel)) rfl
theorem d_M_runSlot_290 : decode prog_14_method_136_code 290 = .ok (.iload_n 1, 1) := by decide +kernel
theorem d_M_runSlot_291 : decode prog_14_method_136_code 291 = .ok (.iconst 1, 1) := by decide +kernel
theorem d_M_runSlot_292 : decode prog_14_method_136_code 292 = .ok (.iadd, 1) := by decide +kernel
theorem d_M_runSlot_293 : decode prog_14_method_136_code 293 = .ok (.ireturn, 1) := by decide +kernel
theorem d_M_runSlot_294 : decode prog_14_method_136_code 294 = .ok (.iconst (-1), 1) := by decide +kernel
theorem d_M_runSlot_295 : decode prog_14_method_136_code 295 = .ok (.ireturn, 1) := by decide +kernel
abbrev y_M_runSlot : MethodName := ⟨"FilterGuardModel", "runSlot", "(IJJ)I"⟩
def rm_M_runSlot : Room := { frames := 5, cells := 0, slots := 0, locals := 134 }
abbrev q_M_runSlot (D : va_G) (ad : Nat → Nat → Nat) (ca : Nat → ClassId) (N : Nat → Nat) (M0 MZ : me_M) (RZ : Int32) (A : Nat → Prop) : Array Value → Jvm.State → Outcome → Jvm.State → Prop := va_Qi (fun r (_ : Unit) => r = RZ ∧ me_wf N MZ ∧ me_kp M0 MZ) (fg_B D A (fun _ => me_W ad ca MZ) (fun _ => [])) A
set_option maxHeartbeats 4000000 in
set_option maxRecDepth 100000 in
theorem c_M_runSlot (l : Launch) (D : va_G) (ad : Nat → Nat → Nat) (ca : Nat → ClassId) (N : Nat → Nat) (M0 MZ : me_M) (RZ : Int32) (j0 : Nat) (x1 : Int32) (x2 : Int64) (x4 : Int64) (h : f_M_runSlot M0 j0 x1 x2 x4 = (some (MZ, RZ))) (hwf : me_wf N M0) (hj0 : j0 < N 1) (sz : Nat) : Met l y_M_runSlot (fg_w y_M_runSlot prog_14_method_136_code 11 (some .int)) rm_M_runSlot (va_Pc [.ref (ad 1 j0), .int x1, .long x2, .long x4] (fz_P D (me_T ca) (me_W ad ca M0) sz)) (q_M_runSlot D ad ca N M0 MZ RZ (va_A (me_W ad ca M0) sz)) rm_M_runSlot.cells rm_M_runSlot.slots (va_A (me_W ad ca M0) sz) := by
  refine fz_enter (fun A => q_M_runSlot D ad ca N M0 MZ RZ A) (by decide +kernel) (Nat.le_of_ble_eq_true rfl) ?_
  intro p e s m below meth c ls A hx hb hml hown hts hr hlocks hin hP hK hD hS hA hX hl hz
  have hl : lv_has ls 11 [(0, .ref (ad 1 j0)), (1, .int x1), (2, .long x2), (4, .long x4)] := hl
  unfold f_M_runSlot at h
  have hkp : me_kp M0 M0 := me_kp.rf
  have hkb := hkp
  refine lv_lload_n hx hb d_M_runSlot_0 rfl (lv_at hl 2 rfl) ?_
  obtain ⟨r1, er1, h⟩ := bd_ob h
  refine me_pani' (r0 := r1) (fg_runS (wc := []) (tc := []) (A2 := A) (As := [.long x2]) (rest := []) ⟨hx, hb, hml, hown, hts⟩ (c_M_opOf l D r1 x2 er1 _) (by show fg_nm y_M_opOf 1; decide +kernel) u_1997 u_1998 u_192 u_1999 ⟨Nat.le_of_ble_eq_true rfl, Nat.le_of_ble_eq_true rfl⟩ hX me_P0 (hK.sub (tys' := []) [] rfl) me_D0 rfl hl.1 (Nat.le_of_ble_eq_true rfl) d_M_runSlot_1 ⟨Nat.le_of_ble_eq_true rfl, Nat.le_of_ble_eq_true rfl⟩) hP hD hK hS hA rfl rfl (fun H locs hw hP hD hS => ?_)
  refine lv_istore (lv' := [(6, .int r1), (0, .ref (ad 1 j0)), (1, .int x1), (2, .long x2), (4, .long x4)]) hx hb d_M_runSlot_4 hl (by decide) rfl (fun ls hl => ?_)
  refine lv_lload_n hx hb d_M_runSlot_6 rfl (lv_at hl 3 rfl) ?_
  obtain ⟨r2, er2, h⟩ := bd_ob h
  refine me_pani' (r0 := r2) (fg_runS (wc := []) (tc := []) (A2 := A) (As := [.long x2]) (rest := []) ⟨hx, hb, hml, hown, hts⟩ (c_M_toOf l D r2 x2 er2 _) (by show fg_nm y_M_toOf 1; decide +kernel) u_2006 u_2007 u_192 u_2008 ⟨Nat.le_of_ble_eq_true rfl, Nat.le_of_ble_eq_true rfl⟩ hX me_P0 (hK.sub (tys' := []) [] rfl) me_D0 rfl hl.1 (Nat.le_of_ble_eq_true rfl) d_M_runSlot_7 ⟨Nat.le_of_ble_eq_true rfl, Nat.le_of_ble_eq_true rfl⟩) hP hD hK hS hA rfl rfl (fun H locs hw hP hD hS => ?_)
  refine lv_istore (lv' := [(7, .int r2), (6, .int r1), (0, .ref (ad 1 j0)), (1, .int x1), (2, .long x2), (4, .long x4)]) hx hb d_M_runSlot_10 hl (by decide) rfl (fun ls hl => ?_)
  refine lv_iload hx hb d_M_runSlot_12 (lv_at hl 1 rfl) ?_
  obtain ⟨r3, er3, h⟩ := bd_ob h
  refine me_pani' (r0 := r3) (fg_runS (wc := []) (tc := []) (A2 := A) (As := [.int r1]) (rest := []) ⟨hx, hb, hml, hown, hts⟩ (c_M_widthOf l D r3 r1 er3 _) (by show fg_nm y_M_widthOf 1; decide +kernel) u_2120 u_2121 u_192 u_2122 ⟨Nat.le_of_ble_eq_true rfl, Nat.le_of_ble_eq_true rfl⟩ hX me_P0 (hK.sub (tys' := []) [] rfl) me_D0 rfl hl.1 (Nat.le_of_ble_eq_true rfl) d_M_runSlot_14 ⟨Nat.le_of_ble_eq_true rfl, Nat.le_of_ble_eq_true rfl⟩) hP hD hK hS hA rfl rfl (fun H locs hw hP hD hS => ?_)
  refine lv_istore (lv' := [(8, .int r3), (7, .int r2), (6, .int r1), (0, .ref (ad 1 j0)), (1, .int x1), (2, .long x2), (4, .long x4)]) hx hb d_M_runSlot_17 hl (by decide) rfl (fun ls hl => ?_)
  refine lv_aload_n hx hb d_M_runSlot_19 rfl (lv_at hl 3 rfl) ?_
  refine g_M_43 hx hb hts hown hK hP hwf hj0 (hts _ u_1784) d_M_runSlot_20 ?_
  obtain ⟨j4, e5, h⟩ := bd_ob h
  have hj4 : j4 < N 16 := (hwf.2.1 1 j0 43 _ e5 (by decide) hj0)
  refine me_opt (j := j4) e5 ?_
  refine lv_iload hx hb d_M_runSlot_23 (lv_at hl 1 rfl) ?_
  obtain ⟨g6, h⟩ := gd_ob h
  refine me_lald hx hb hK hP hwf hj4 g6 d_M_runSlot_25 ?_
  refine lv_lload_n hx hb d_M_runSlot_26 rfl (lv_at hl 5 rfl) ?_
  obtain ⟨r7, er7, h⟩ := bd_ob h
  refine me_pani' (r0 := r7) (fg_runS (wc := []) (tc := []) (A2 := A) (As := [.long x2]) (rest := [.long (mL M0 16 j4 r2.toNatClampNeg)]) ⟨hx, hb, hml, hown, hts⟩ (c_M_offsetOf l D r7 x2 er7 _) (by show fg_nm y_M_offsetOf 1; decide +kernel) u_2013 u_2014 u_192 u_2015 ⟨Nat.le_of_ble_eq_true rfl, Nat.le_of_ble_eq_true rfl⟩ hX me_P0 (hK.sub (tys' := []) [] rfl) me_D0 rfl hl.1 (Nat.le_of_ble_eq_true rfl) d_M_runSlot_27 ⟨Nat.le_of_ble_eq_true rfl, Nat.le_of_ble_eq_true rfl⟩) hP hD hK hS hA rfl rfl (fun H locs hw hP hD hS => ?_)
  refine lv_i2l (v := r7.toInt64) hx hb d_M_runSlot_30 rfl ?_
  refine lv_ladd hx hb d_M_runSlot_31 ?_
  obtain ⟨v8, ev8, h⟩ := st_ob h
  refine fg_topl (y := v8) ev8.symm ?_
  refine lv_lstore (lv' := [(9, .long v8), (8, .int r3), (7, .int r2), (6, .int r1), (0, .ref (ad 1 j0)), (1, .int x1), (2, .long x2), (4, .long x4)]) hx hb d_M_runSlot_32 hl (by decide) rfl (fun ls hl => ?_)
  refine lv_iload hx hb d_M_runSlot_34 (lv_at hl 3 rfl) ?_
  obtain ⟨r9, er9, h⟩ := bd_ob h
  refine me_pani' (r0 := r9) (fg_runS (wc := []) (tc := []) (A2 := A) (As := [.int r1]) (rest := []) ⟨hx, hb, hml, hown, hts⟩ (c_M_instruction l D r9 r1 er9 _) (by show fg_nm y_M_instruction 1; decide +kernel) u_2000 u_2001 u_192 u_2002 ⟨Nat.le_of_ble_eq_true rfl, Nat.le_of_ble_eq_true rfl⟩ hX me_P0 (hK.sub (tys' := []) [] rfl) me_D0 rfl hl.1 (Nat.le_of_ble_eq_true rfl) d_M_runSlot_36 ⟨Nat.le_of_ble_eq_true rfl, Nat.le_of_ble_eq_true rfl⟩) hP hD hK hS hA rfl rfl (fun H locs hw hP hD hS => ?_)
  refine lv_topi (fun w10 ew10 => ?_)
  by_cases n11 : w10 = 1
  · have h := if_t (ew10.symm.trans n11) h
    subst n11
    refine lv_tableIn (off := 65) (tgt := 104) hx hb d_M_runSlot_39 (by decide) (by decide) (by decide) (by decide) ?_
    refine lv_aload_n hx hb d_M_runSlot_104 rfl (lv_at hl 4 rfl) ?_
    refine g_M_43 hx hb hts hown hK hP hwf hj0 (hts _ u_1784) d_M_runSlot_105 ?_
    refine me_opt (j := j4) e5 ?_
    refine lv_iload hx hb d_M_runSlot_108 (lv_at hl 2 rfl) ?_
    refine lv_lload_n hx hb d_M_runSlot_110 rfl (lv_at hl 6 rfl) ?_
    obtain ⟨r12, er12, h⟩ := bd_ob h
    refine me_pani' (r0 := r12) (fg_runS (wc := []) (tc := []) (A2 := A) (As := [.long x2]) (rest := [.int r2, .ref (ad 16 j4)]) ⟨hx, hb, hml, hown, hts⟩ (c_M_fromOf l D r12 x2 er12 _) (by show fg_nm y_M_fromOf 1; decide +kernel) u_2010 u_2011 u_192 u_2012 ⟨Nat.le_of_ble_eq_true rfl, Nat.le_of_ble_eq_true rfl⟩ hX me_P0 (hK.sub (tys' := []) [] rfl) me_D0 rfl hl.1 (Nat.le_of_ble_eq_true rfl) d_M_runSlot_111 ⟨Nat.le_of_ble_eq_true rfl, Nat.le_of_ble_eq_true rfl⟩) hP hD hK hS hA rfl rfl (fun H locs hw hP hD hS => ?_)
    refine lv_iconst (v := 1) hx hb d_M_runSlot_114 (by decide) ?_
    refine lv_icmp_ne (tgt := 126) hx hb d_M_runSlot_115 (by decide) (fun c13 => ?_) (fun c13 => ?_)
    · have h := if_f c13 h
      refine lv_lload_n hx hb d_M_runSlot_126 rfl (lv_at hl 6 rfl) ?_
      obtain ⟨r14, er14, h⟩ := bd_ob h
      refine me_pani' (r0 := r14) (fg_runS (wc := []) (tc := []) (A2 := A) (As := [.long x2]) (rest := [.int r2, .ref (ad 16 j4)]) ⟨hx, hb, hml, hown, hts⟩ (c_M_fieldOf l D r14 x2 er14 _) (by show fg_nm y_M_fieldOf 1; decide +kernel) u_2016 u_2017 u_192 u_2018 ⟨Nat.le_of_ble_eq_true rfl, Nat.le_of_ble_eq_true rfl⟩ hX me_P0 (hK.sub (tys' := []) [] rfl) me_D0 rfl hl.1 (Nat.le_of_ble_eq_true rfl) d_M_runSlot_127 ⟨Nat.le_of_ble_eq_true rfl, Nat.le_of_ble_eq_true rfl⟩) hP hD hK hS hA rfl rfl (fun H locs hw hP hD hS => ?_)
      refine lv_i2l (v := r14.toInt64) hx hb d_M_runSlot_130 rfl ?_
      refine lv_ldc2 hx hb hown (hts _ u_2019) d_M_runSlot_131 ?_
      refine lv_land hx hb d_M_runSlot_134 ?_
      refine lv_lload hx hb d_M_runSlot_135 (lv_at hl 7 rfl) ?_
      obtain ⟨r15, er15, h⟩ := bd_ob h
      refine me_pani' (r0 := r15) (fg_runS (wc := []) (tc := []) (A2 := A) (As := [.long x4]) (rest := [.long (r14.toInt64 &&& 4294967295), .int r2, .ref (ad 16 j4)]) ⟨hx, hb, hml, hown, hts⟩ (c_M_fieldOf l D r15 x4 er15 _) (by show fg_nm y_M_fieldOf 1; decide +kernel) u_2016 u_2017 u_192 u_2018 ⟨Nat.le_of_ble_eq_true rfl, Nat.le_of_ble_eq_true rfl⟩ hX me_P0 (hK.sub (tys' := []) [] rfl) me_D0 rfl hl.1 (Nat.le_of_ble_eq_true rfl) d_M_runSlot_137 ⟨Nat.le_of_ble_eq_true rfl, Nat.le_of_ble_eq_true rfl⟩) hP hD hK hS hA rfl rfl (fun H locs hw hP hD hS => ?_)
      refine lv_i2l (v := r15.toInt64) hx hb d_M_runSlot_140 rfl ?_
      refine lv_bipush (v := 32) hx hb d_M_runSlot_141 (by decide) ?_
      refine lv_lshl (v := jlshl r15.toInt64 (32 : Int32)) hx hb d_M_runSlot_143 rfl ?_
      refine lv_lor hx hb d_M_runSlot_144 ?_
      obtain ⟨M16, eM16, h⟩ := st_ob h
      refine me_last eM16 hx hb hK hP hD hwf hS hj4 g6 d_M_runSlot_145 (fun H locs hP hD hwf hS => ?_)
      have hkp := kp_L eM16 hkp
      refine lv_iload_n hx hb d_M_runSlot_146 rfl (lv_at hl 5 rfl) ?_
      refine lv_iconst (v := 2) hx hb d_M_runSlot_147 (by decide) ?_
      refine lv_iadd hx hb d_M_runSlot_148 ?_
      exact me_reti (me_kp M0) h hx hb hr hlocks hwf hkp hP hK hD hS d_M_runSlot_149
    have h := if_t c13 h
    refine lv_lload_n hx hb d_M_runSlot_118 rfl (lv_at hl 6 rfl) ?_
    obtain ⟨r17, er17, h⟩ := bd_ob h
    refine me_pani' (r0 := r17) (fg_runS (wc := []) (tc := []) (A2 := A) (As := [.long x2]) (rest := [.int r2, .ref (ad 16 j4)]) ⟨hx, hb, hml, hown, hts⟩ (c_M_fieldOf l D r17 x2 er17 _) (by show fg_nm y_M_fieldOf 1; decide +kernel) u_2016 u_2017 u_192 u_2018 ⟨Nat.le_of_ble_eq_true rfl, Nat.le_of_ble_eq_true rfl⟩ hX me_P0 (hK.sub (tys' := []) [] rfl) me_D0 rfl hl.1 (Nat.le_of_ble_eq_true rfl) d_M_runSlot_119 ⟨Nat.le_of_ble_eq_true rfl, Nat.le_of_ble_eq_true rfl⟩) hP hD hK hS hA rfl rfl (fun H locs hw hP hD hS => ?_)
    refine lv_i2l (v := r17.toInt64) hx hb d_M_runSlot_122 rfl ?_
    refine lv_goto (tgt := 145) hx hb d_M_runSlot_123 (by decide) ?_
    obtain ⟨M18, eM18, h⟩ := st_ob h
    refine me_last eM18 hx hb hK hP hD hwf hS hj4 g6 d_M_runSlot_145 (fun H locs hP hD hwf hS => ?_)
    have hkp := kp_L eM18 hkp
    refine lv_iload_n hx hb d_M_runSlot_146 rfl (lv_at hl 5 rfl) ?_
    refine lv_iconst (v := 2) hx hb d_M_runSlot_147 (by decide) ?_
    refine lv_iadd hx hb d_M_runSlot_148 ?_
    exact me_reti (me_kp M0) h hx hb hr hlocks hwf hkp hP hK hD hS d_M_runSlot_149
  have h := if_f (fun z => n11 (ew10.trans z)) h
  by_cases n19 : w10 = 2
  · have h := if_t (ew10.symm.trans n19) h
    subst n19
    refine lv_tableIn (off := 111) (tgt := 150) hx hb d_M_runSlot_39 (by decide) (by decide) (by decide) (by decide) ?_
    refine lv_aload_n hx hb d_M_runSlot_150 rfl (lv_at hl 4 rfl) ?_
    refine g_M_43 hx hb hts hown hK hP hwf hj0 (hts _ u_1784) d_M_runSlot_151 ?_
    refine me_opt (j := j4) e5 ?_
    refine lv_iload hx hb d_M_runSlot_154 (lv_at hl 2 rfl) ?_
    refine lv_aload_n hx hb d_M_runSlot_156 rfl (lv_at hl 4 rfl) ?_
    refine lv_aload_n hx hb d_M_runSlot_157 rfl (lv_at hl 4 rfl) ?_
    refine g_M_43 hx hb hts hown hK hP hwf hj0 (hts _ u_1784) d_M_runSlot_158 ?_
    refine me_opt (j := j4) e5 ?_
    refine lv_lload_n hx hb d_M_runSlot_161 rfl (lv_at hl 6 rfl) ?_
    obtain ⟨r20, er20, h⟩ := bd_ob h
    refine me_pani' (r0 := r20) (fg_runS (wc := []) (tc := []) (A2 := A) (As := [.long x2]) (rest := [.ref (ad 16 j4), .ref (ad 1 j0), .int r2, .ref (ad 16 j4)]) ⟨hx, hb, hml, hown, hts⟩ (c_M_fromOf l D r20 x2 er20 _) (by show fg_nm y_M_fromOf 1; decide +kernel) u_2010 u_2011 u_192 u_2012 ⟨Nat.le_of_ble_eq_true rfl, Nat.le_of_ble_eq_true rfl⟩ hX me_P0 (hK.sub (tys' := []) [] rfl) me_D0 rfl hl.1 (Nat.le_of_ble_eq_true rfl) d_M_runSlot_162 ⟨Nat.le_of_ble_eq_true rfl, Nat.le_of_ble_eq_true rfl⟩) hP hD hK hS hA rfl rfl (fun H locs hw hP hD hS => ?_)
    obtain ⟨g21, h⟩ := gd_ob h
    refine me_lald hx hb hK hP hwf hj4 g21 d_M_runSlot_165 ?_
    refine lv_lload_n hx hb d_M_runSlot_166 rfl (lv_at hl 6 rfl) ?_
    obtain ⟨r22, er22, h⟩ := bd_ob h
    refine me_pani' (r0 := r22) (fg_runS (wc := []) (tc := []) (A2 := A) (As := [.long x2]) (rest := [.long (mL M0 16 j4 r20.toNatClampNeg), .ref (ad 1 j0), .int r2, .ref (ad 16 j4)]) ⟨hx, hb, hml, hown, hts⟩ (c_M_offsetOf l D r22 x2 er22 _) (by show fg_nm y_M_offsetOf 1; decide +kernel) u_2013 u_2014 u_192 u_2015 ⟨Nat.le_of_ble_eq_true rfl, Nat.le_of_ble_eq_true rfl⟩ hX me_P0 (hK.sub (tys' := []) [] rfl) me_D0 rfl hl.1 (Nat.le_of_ble_eq_true rfl) d_M_runSlot_167 ⟨Nat.le_of_ble_eq_true rfl, Nat.le_of_ble_eq_true rfl⟩) hP hD hK hS hA rfl rfl (fun H locs hw hP hD hS => ?_)
    refine lv_i2l (v := r22.toInt64) hx hb d_M_runSlot_170 rfl ?_
    refine lv_ladd hx hb d_M_runSlot_171 ?_
    refine lv_iload hx hb d_M_runSlot_172 (lv_at hl 1 rfl) ?_
    obtain ⟨M23, r24, eM23, h⟩ := b2_ob h
    refine me_thenl0 (M1 := M23) (me_runV (C := "FilterGuardModel") (As := [.long ((mL M0 16 j4 r20.toNatClampNeg) + r22.toInt64), .int r3]) (rest := [.int r2, .ref (ad 16 j4)]) ⟨hx, hb, hml, hown, hts⟩ (c_M_read l D ad ca N M0 M23 r24 j0 ((mL M0 16 j4 r20.toNatClampNeg) + r22.toInt64) r3 eM23 hwf hj0 _) rfl (by show fg_nm y_M_read 2; decide +kernel) u_2469 u_2471 u_171 u_192 u_2472 ⟨Nat.le_of_ble_eq_true rfl, Nat.le_of_ble_eq_true rfl⟩ hX hz hK hP hD hwf hS hA hj0 (by decide) rfl rfl rfl hl.1 (Nat.le_of_ble_eq_true rfl) d_M_runSlot_174 ⟨Nat.le_of_ble_eq_true rfl, Nat.le_of_ble_eq_true rfl⟩) hP hD hK hS hA rfl rfl (fun H locs hw hP hD hS => ?_)
    obtain ⟨hwf, hk9⟩ := hw
    have hkp := hkp.tr hk9
    obtain ⟨M25, eM25, h⟩ := st_ob h
    refine me_last eM25 hx hb hK hP hD hwf hS hj4 (kp_z hkb.z hkp.z g6) d_M_runSlot_177 (fun H locs hP hD hwf hS => ?_)
    have hkp := kp_L eM25 hkp
    refine lv_iload_n hx hb d_M_runSlot_178 rfl (lv_at hl 5 rfl) ?_
    refine lv_iconst (v := 1) hx hb d_M_runSlot_179 (by decide) ?_
    refine lv_iadd hx hb d_M_runSlot_180 ?_
    exact me_reti (me_kp M0) h hx hb hr hlocks hwf hkp hP hK hD hS d_M_runSlot_181
  have h := if_f (fun z => n19 (ew10.trans z)) h
  by_cases n26 : w10 = 3
  · have h := if_t (ew10.symm.trans n26) h
    subst n26
    refine lv_tableIn (off := 143) (tgt := 182) hx hb d_M_runSlot_39 (by decide) (by decide) (by decide) (by decide) ?_
    refine lv_aload_n hx hb d_M_runSlot_182 rfl (lv_at hl 4 rfl) ?_
    refine lv_lload hx hb d_M_runSlot_183 (lv_at hl 0 rfl) ?_
    refine lv_aload_n hx hb d_M_runSlot_185 rfl (lv_at hl 4 rfl) ?_
    refine g_M_43 hx hb hts hown hK hP hwf hj0 (hts _ u_1784) d_M_runSlot_186 ?_
    refine me_opt (j := j4) e5 ?_
    refine lv_lload_n hx hb d_M_runSlot_189 rfl (lv_at hl 6 rfl) ?_
    obtain ⟨r27, er27, h⟩ := bd_ob h
    refine me_pani' (r0 := r27) (fg_runS (wc := []) (tc := []) (A2 := A) (As := [.long x2]) (rest := [.ref (ad 16 j4), .long v8, .ref (ad 1 j0)]) ⟨hx, hb, hml, hown, hts⟩ (c_M_fromOf l D r27 x2 er27 _) (by show fg_nm y_M_fromOf 1; decide +kernel) u_2010 u_2011 u_192 u_2012 ⟨Nat.le_of_ble_eq_true rfl, Nat.le_of_ble_eq_true rfl⟩ hX me_P0 (hK.sub (tys' := []) [] rfl) me_D0 rfl hl.1 (Nat.le_of_ble_eq_true rfl) d_M_runSlot_190 ⟨Nat.le_of_ble_eq_true rfl, Nat.le_of_ble_eq_true rfl⟩) hP hD hK hS hA rfl rfl (fun H locs hw hP hD hS => ?_)
    obtain ⟨g28, h⟩ := gd_ob h
    refine me_lald hx hb hK hP hwf hj4 g28 d_M_runSlot_193 ?_
    refine lv_iload hx hb d_M_runSlot_194 (lv_at hl 1 rfl) ?_
    obtain ⟨M29, eM29, h⟩ := bd_ob h
    refine me_thenv0 (M1 := M29) (me_runV (C := "FilterGuardModel") (As := [.long v8, .long (mL M0 16 j4 r27.toNatClampNeg), .int r3]) (rest := []) ⟨hx, hb, hml, hown, hts⟩ (c_M_write l D ad ca N M0 M29 j0 v8 (mL M0 16 j4 r27.toNatClampNeg) r3 eM29 hwf hj0 _) rfl (by show fg_nm y_M_write 3; decide +kernel) u_2481 u_2483 u_173 u_192 u_2484 ⟨Nat.le_of_ble_eq_true rfl, Nat.le_of_ble_eq_true rfl⟩ hX hz hK hP hD hwf hS hA hj0 (by decide) rfl rfl rfl hl.1 (Nat.le_of_ble_eq_true rfl) d_M_runSlot_196 ⟨Nat.le_of_ble_eq_true rfl, Nat.le_of_ble_eq_true rfl⟩) hP hD hK hS hA rfl rfl (fun H locs hw hP hD hS => ?_)
    obtain ⟨hwf, hk9⟩ := hw
    have hkp := hkp.tr hk9
    refine lv_iload_n hx hb d_M_runSlot_199 rfl (lv_at hl 5 rfl) ?_
    refine lv_iconst (v := 1) hx hb d_M_runSlot_200 (by decide) ?_
    refine lv_iadd hx hb d_M_runSlot_201 ?_
    exact me_reti (me_kp M0) h hx hb hr hlocks hwf hkp hP hK hD hS d_M_runSlot_202
  have h := if_f (fun z => n26 (ew10.trans z)) h
  by_cases n30 : w10 = 4
  · have h := if_t (ew10.symm.trans n30) h
    subst n30
    refine lv_tableIn (off := 164) (tgt := 203) hx hb d_M_runSlot_39 (by decide) (by decide) (by decide) (by decide) ?_
    refine lv_aload_n hx hb d_M_runSlot_203 rfl (lv_at hl 4 rfl) ?_
    refine lv_lload hx hb d_M_runSlot_204 (lv_at hl 0 rfl) ?_
    refine lv_lload_n hx hb d_M_runSlot_206 rfl (lv_at hl 6 rfl) ?_
    obtain ⟨r31, er31, h⟩ := bd_ob h
    refine me_pani' (r0 := r31) (fg_runS (wc := []) (tc := []) (A2 := A) (As := [.long x2]) (rest := [.long v8, .ref (ad 1 j0)]) ⟨hx, hb, hml, hown, hts⟩ (c_M_fieldOf l D r31 x2 er31 _) (by show fg_nm y_M_fieldOf 1; decide +kernel) u_2016 u_2017 u_192 u_2018 ⟨Nat.le_of_ble_eq_true rfl, Nat.le_of_ble_eq_true rfl⟩ hX me_P0 (hK.sub (tys' := []) [] rfl) me_D0 rfl hl.1 (Nat.le_of_ble_eq_true rfl) d_M_runSlot_207 ⟨Nat.le_of_ble_eq_true rfl, Nat.le_of_ble_eq_true rfl⟩) hP hD hK hS hA rfl rfl (fun H locs hw hP hD hS => ?_)
    refine lv_i2l (v := r31.toInt64) hx hb d_M_runSlot_210 rfl ?_
    refine lv_iload hx hb d_M_runSlot_211 (lv_at hl 1 rfl) ?_
    obtain ⟨M32, eM32, h⟩ := bd_ob h
    refine me_thenv0 (M1 := M32) (me_runV (C := "FilterGuardModel") (As := [.long v8, .long r31.toInt64, .int r3]) (rest := []) ⟨hx, hb, hml, hown, hts⟩ (c_M_write l D ad ca N M0 M32 j0 v8 r31.toInt64 r3 eM32 hwf hj0 _) rfl (by show fg_nm y_M_write 3; decide +kernel) u_2481 u_2483 u_173 u_192 u_2484 ⟨Nat.le_of_ble_eq_true rfl, Nat.le_of_ble_eq_true rfl⟩ hX hz hK hP hD hwf hS hA hj0 (by decide) rfl rfl rfl hl.1 (Nat.le_of_ble_eq_true rfl) d_M_runSlot_213 ⟨Nat.le_of_ble_eq_true rfl, Nat.le_of_ble_eq_true rfl⟩) hP hD hK hS hA rfl rfl (fun H locs hw hP hD hS => ?_)
    obtain ⟨hwf, hk9⟩ := hw
    have hkp := hkp.tr hk9
    refine lv_iload_n hx hb d_M_runSlot_216 rfl (lv_at hl 5 rfl) ?_
    refine lv_iconst (v := 1) hx hb d_M_runSlot_217 (by decide) ?_
    refine lv_iadd hx hb d_M_runSlot_218 ?_
    exact me_reti (me_kp M0) h hx hb hr hlocks hwf hkp hP hK hD hS d_M_runSlot_219
  have h := if_f (fun z => n30 (ew10.trans z)) h
  by_cases n33 : w10 = 5
  · have h := if_t (ew10.symm.trans n33) h
    subst n33
    refine lv_tableIn (off := 181) (tgt := 220) hx hb d_M_runSlot_39 (by decide) (by decide) (by decide) (by decide) ?_
    refine lv_aload_n hx hb d_M_runSlot_220 rfl (lv_at hl 4 rfl) ?_
    refine lv_lload hx hb d_M_runSlot_221 (lv_at hl 0 rfl) ?_
    refine lv_aload_n hx hb d_M_runSlot_223 rfl (lv_at hl 4 rfl) ?_
    refine lv_lload hx hb d_M_runSlot_224 (lv_at hl 0 rfl) ?_
    refine lv_iload hx hb d_M_runSlot_226 (lv_at hl 1 rfl) ?_
    obtain ⟨M34, r35, eM34, h⟩ := b2_ob h
    refine me_thenl0 (M1 := M34) (me_runV (C := "FilterGuardModel") (As := [.long v8, .int r3]) (rest := [.long v8, .ref (ad 1 j0)]) ⟨hx, hb, hml, hown, hts⟩ (c_M_read l D ad ca N M0 M34 r35 j0 v8 r3 eM34 hwf hj0 _) rfl (by show fg_nm y_M_read 2; decide +kernel) u_2469 u_2471 u_171 u_192 u_2472 ⟨Nat.le_of_ble_eq_true rfl, Nat.le_of_ble_eq_true rfl⟩ hX hz hK hP hD hwf hS hA hj0 (by decide) rfl rfl rfl hl.1 (Nat.le_of_ble_eq_true rfl) d_M_runSlot_228 ⟨Nat.le_of_ble_eq_true rfl, Nat.le_of_ble_eq_true rfl⟩) hP hD hK hS hA rfl rfl (fun H locs hw hP hD hS => ?_)
    obtain ⟨hwf, hk9⟩ := hw
    have hkp := hkp.tr hk9
    refine lv_aload_n hx hb d_M_runSlot_231 rfl (lv_at hl 4 rfl) ?_
    refine g_M_43 hx hb hts hown hK hP hwf hj0 (hts _ u_1784) d_M_runSlot_232 ?_
    refine me_opt (j := j4) (kp_r hkb hkp e5) ?_
    refine lv_lload_n hx hb d_M_runSlot_235 rfl (lv_at hl 6 rfl) ?_
    obtain ⟨r36, er36, h⟩ := bd_ob h
    refine me_pani' (r0 := r36) (fg_runS (wc := []) (tc := []) (A2 := A) (As := [.long x2]) (rest := [.ref (ad 16 j4), .long r35, .long v8, .ref (ad 1 j0)]) ⟨hx, hb, hml, hown, hts⟩ (c_M_fromOf l D r36 x2 er36 _) (by show fg_nm y_M_fromOf 1; decide +kernel) u_2010 u_2011 u_192 u_2012 ⟨Nat.le_of_ble_eq_true rfl, Nat.le_of_ble_eq_true rfl⟩ hX me_P0 (hK.sub (tys' := []) [] rfl) me_D0 rfl hl.1 (Nat.le_of_ble_eq_true rfl) d_M_runSlot_236 ⟨Nat.le_of_ble_eq_true rfl, Nat.le_of_ble_eq_true rfl⟩) hP hD hK hS hA rfl rfl (fun H locs hw hP hD hS => ?_)
    obtain ⟨g37, h⟩ := gd_ob h
    refine me_lald hx hb hK hP hwf hj4 (kp_z hkb.z hkp.z g37) d_M_runSlot_239 ?_
    refine lv_ladd hx hb d_M_runSlot_240 ?_
    refine lv_iload hx hb d_M_runSlot_241 (lv_at hl 1 rfl) ?_
    obtain ⟨M38, eM38, h⟩ := bd_ob h
    refine me_thenv0 (M1 := M38) (me_runV (C := "FilterGuardModel") (As := [.long v8, .long (r35 + (mL M34 16 j4 r36.toNatClampNeg)), .int r3]) (rest := []) ⟨hx, hb, hml, hown, hts⟩ (c_M_write l D ad ca N M34 M38 j0 v8 (r35 + (mL M34 16 j4 r36.toNatClampNeg)) r3 eM38 hwf hj0 _) rfl (by show fg_nm y_M_write 3; decide +kernel) u_2481 u_2483 u_173 u_192 u_2484 ⟨Nat.le_of_ble_eq_true rfl, Nat.le_of_ble_eq_true rfl⟩ hX hz hK hP hD hwf hS hA hj0 (by decide) rfl rfl rfl hl.1 (Nat.le_of_ble_eq_true rfl) d_M_runSlot_243 ⟨Nat.le_of_ble_eq_true rfl, Nat.le_of_ble_eq_true rfl⟩) hP hD hK hS hA rfl rfl (fun H locs hw hP hD hS => ?_)
    obtain ⟨hwf, hk9⟩ := hw
    have hkp := hkp.tr hk9
    refine lv_iload_n hx hb d_M_runSlot_246 rfl (lv_at hl 5 rfl) ?_
    refine lv_iconst (v := 1) hx hb d_M_runSlot_247 (by decide) ?_
    refine lv_iadd hx hb d_M_runSlot_248 ?_
    exact me_reti (me_kp M0) h hx hb hr hlocks hwf hkp hP hK hD hS d_M_runSlot_249
  have h := if_f (fun z => n33 (ew10.trans z)) h
  by_cases n39 : w10 = 6
  · have h := if_t (ew10.symm.trans n39) h
    subst n39
    refine lv_tableIn (off := 257) (tgt := 296) hx hb d_M_runSlot_39 (by decide) (by decide) (by decide) (by decide) ?_
    refine lv_aload_n hx hb d_M_runSlot_296 rfl (lv_at hl 4 rfl) ?_
    refine lv_lload_n hx hb d_M_runSlot_297 rfl (lv_at hl 6 rfl) ?_
    obtain ⟨M40, eM40, h⟩ := bd_ob h
    refine me_thenv0 (M1 := M40) (me_runV (C := "FilterGuardModel") (As := [.long x2]) (rest := []) ⟨hx, hb, hml, hown, hts⟩ (c_M_runArithmetic l D ad ca N M0 M40 j0 x2 eM40 hwf hj0 _) rfl (by show fg_nm y_M_runArithmetic 1; decide +kernel) u_2508 u_2510 u_179 u_192 u_2511 ⟨Nat.le_of_ble_eq_true rfl, Nat.le_of_ble_eq_true rfl⟩ hX hz hK hP hD hwf hS hA hj0 (by decide) rfl rfl rfl hl.1 (Nat.le_of_ble_eq_true rfl) d_M_runSlot_298 ⟨Nat.le_of_ble_eq_true rfl, Nat.le_of_ble_eq_true rfl⟩) hP hD hK hS hA rfl rfl (fun H locs hw hP hD hS => ?_)
    obtain ⟨hwf, hk9⟩ := hw
    have hkp := hkp.tr hk9
    refine lv_iload_n hx hb d_M_runSlot_301 rfl (lv_at hl 5 rfl) ?_
    refine lv_iconst (v := 1) hx hb d_M_runSlot_302 (by decide) ?_
    refine lv_iadd hx hb d_M_runSlot_303 ?_
    exact me_reti (me_kp M0) h hx hb hr hlocks hwf hkp hP hK hD hS d_M_runSlot_304
  have h := if_f (fun z => n39 (ew10.trans z)) h
  by_cases n41 : w10 = 7
  · have h := if_t (ew10.symm.trans n41) h
    subst n41
    refine lv_tableIn (off := 257) (tgt := 296) hx hb d_M_runSlot_39 (by decide) (by decide) (by decide) (by decide) ?_
    refine lv_aload_n hx hb d_M_runSlot_296 rfl (lv_at hl 4 rfl) ?_
    refine lv_lload_n hx hb d_M_runSlot_297 rfl (lv_at hl 6 rfl) ?_
    obtain ⟨M42, eM42, h⟩ := bd_ob h
    refine me_thenv0 (M1 := M42) (me_runV (C := "FilterGuardModel") (As := [.long x2]) (rest := []) ⟨hx, hb, hml, hown, hts⟩ (c_M_runArithmetic l D ad ca N M0 M42 j0 x2 eM42 hwf hj0 _) rfl (by show fg_nm y_M_runArithmetic 1; decide +kernel) u_2508 u_2510 u_179 u_192 u_2511 ⟨Nat.le_of_ble_eq_true rfl, Nat.le_of_ble_eq_true rfl⟩ hX hz hK hP hD hwf hS hA hj0 (by decide) rfl rfl rfl hl.1 (Nat.le_of_ble_eq_true rfl) d_M_runSlot_298 ⟨Nat.le_of_ble_eq_true rfl, Nat.le_of_ble_eq_true rfl⟩) hP hD hK hS hA rfl rfl (fun H locs hw hP hD hS => ?_)
    obtain ⟨hwf, hk9⟩ := hw
    have hkp := hkp.tr hk9
    refine lv_iload_n hx hb d_M_runSlot_301 rfl (lv_at hl 5 rfl) ?_
    refine lv_iconst (v := 1) hx hb d_M_runSlot_302 (by decide) ?_
    refine lv_iadd hx hb d_M_runSlot_303 ?_
    exact me_reti (me_kp M0) h hx hb hr hlocks hwf hkp hP hK hD hS d_M_runSlot_304
  have h := if_f (fun z => n41 (ew10.trans z)) h
  by_cases n43 : w10 = 8
  · have h := if_t (ew10.symm.trans n43) h
    subst n43
    refine lv_tableIn (off := 257) (tgt := 296) hx hb d_M_runSlot_39 (by decide) (by decide) (by decide) (by decide) ?_
    refine lv_aload_n hx hb d_M_runSlot_296 rfl (lv_at hl 4 rfl) ?_
    refine lv_lload_n hx hb d_M_runSlot_297 rfl (lv_at hl 6 rfl) ?_
    obtain ⟨M44, eM44, h⟩ := bd_ob h
    refine me_thenv0 (M1 := M44) (me_runV (C := "FilterGuardModel") (As := [.long x2]) (rest := []) ⟨hx, hb, hml, hown, hts⟩ (c_M_runArithmetic l D ad ca N M0 M44 j0 x2 eM44 hwf hj0 _) rfl (by show fg_nm y_M_runArithmetic 1; decide +kernel) u_2508 u_2510 u_179 u_192 u_2511 ⟨Nat.le_of_ble_eq_true rfl, Nat.le_of_ble_eq_true rfl⟩ hX hz hK hP hD hwf hS hA hj0 (by decide) rfl rfl rfl hl.1 (Nat.le_of_ble_eq_true rfl) d_M_runSlot_298 ⟨Nat.le_of_ble_eq_true rfl, Nat.le_of_ble_eq_true rfl⟩) hP hD hK hS hA rfl rfl (fun H locs hw hP hD hS => ?_)
    obtain ⟨hwf, hk9⟩ := hw
    have hkp := hkp.tr hk9
    refine lv_iload_n hx hb d_M_runSlot_301 rfl (lv_at hl 5 rfl) ?_
    refine lv_iconst (v := 1) hx hb d_M_runSlot_302 (by decide) ?_
    refine lv_iadd hx hb d_M_runSlot_303 ?_
    exact me_reti (me_kp M0) h hx hb hr hlocks hwf hkp hP hK hD hS d_M_runSlot_304
  have h := if_f (fun z => n43 (ew10.trans z)) h
  by_cases n45 : w10 = 9
  · have h := if_t (ew10.symm.trans n45) h
    subst n45
    refine lv_tableIn (off := 257) (tgt := 296) hx hb d_M_runSlot_39 (by decide) (by decide) (by decide) (by decide) ?_
    refine lv_aload_n hx hb d_M_runSlot_296 rfl (lv_at hl 4 rfl) ?_
    refine lv_lload_n hx hb d_M_runSlot_297 rfl (lv_at hl 6 rfl) ?_
    obtain ⟨M46, eM46, h⟩ := bd_ob h
    refine me_thenv0 (M1 := M46) (me_runV (C := "FilterGuardModel") (As := [.long x2]) (rest := []) ⟨hx, hb, hml, hown, hts⟩ (c_M_runArithmetic l D ad ca N M0 M46 j0 x2 eM46 hwf hj0 _) rfl (by show fg_nm y_M_runArithmetic 1; decide +kernel) u_2508 u_2510 u_179 u_192 u_2511 ⟨Nat.le_of_ble_eq_true rfl, Nat.le_of_ble_eq_true rfl⟩ hX hz hK hP hD hwf hS hA hj0 (by decide) rfl rfl rfl hl.1 (Nat.le_of_ble_eq_true rfl) d_M_runSlot_298 ⟨Nat.le_of_ble_eq_true rfl, Nat.le_of_ble_eq_true rfl⟩) hP hD hK hS hA rfl rfl (fun H locs hw hP hD hS => ?_)
    obtain ⟨hwf, hk9⟩ := hw
    have hkp := hkp.tr hk9
    refine lv_iload_n hx hb d_M_runSlot_301 rfl (lv_at hl 5 rfl) ?_
    refine lv_iconst (v := 1) hx hb d_M_runSlot_302 (by decide) ?_
    refine lv_iadd hx hb d_M_runSlot_303 ?_
    exact me_reti (me_kp M0) h hx hb hr hlocks hwf hkp hP hK hD hS d_M_runSlot_304
  have h := if_f (fun z => n45 (ew10.trans z)) h
  by_cases n47 : w10 = 10
  · have h := if_t (ew10.symm.trans n47) h
    subst n47
    refine lv_tableIn (off := 211) (tgt := 250) hx hb d_M_runSlot_39 (by decide) (by decide) (by decide) (by decide) ?_
    refine lv_iload_n hx hb d_M_runSlot_250 rfl (lv_at hl 5 rfl) ?_
    refine lv_iconst (v := 1) hx hb d_M_runSlot_251 (by decide) ?_
    refine lv_iadd hx hb d_M_runSlot_252 ?_
    refine lv_lload_n hx hb d_M_runSlot_253 rfl (lv_at hl 6 rfl) ?_
    obtain ⟨r48, er48, h⟩ := bd_ob h
    refine me_pani' (r0 := r48) (fg_runS (wc := []) (tc := []) (A2 := A) (As := [.long x2]) (rest := [.int (x1 + 1)]) ⟨hx, hb, hml, hown, hts⟩ (c_M_offsetOf l D r48 x2 er48 _) (by show fg_nm y_M_offsetOf 1; decide +kernel) u_2013 u_2014 u_192 u_2015 ⟨Nat.le_of_ble_eq_true rfl, Nat.le_of_ble_eq_true rfl⟩ hX me_P0 (hK.sub (tys' := []) [] rfl) me_D0 rfl hl.1 (Nat.le_of_ble_eq_true rfl) d_M_runSlot_254 ⟨Nat.le_of_ble_eq_true rfl, Nat.le_of_ble_eq_true rfl⟩) hP hD hK hS hA rfl rfl (fun H locs hw hP hD hS => ?_)
    refine lv_iadd hx hb d_M_runSlot_257 ?_
    exact me_reti (me_kp M0) h hx hb hr hlocks hwf hkp hP hK hD hS d_M_runSlot_258
  have h := if_f (fun z => n47 (ew10.trans z)) h
  by_cases n49 : w10 = 11
  · have h := if_t (ew10.symm.trans n49) h
    subst n49
    refine lv_tableIn (off := 220) (tgt := 259) hx hb d_M_runSlot_39 (by decide) (by decide) (by decide) (by decide) ?_
    refine lv_aload_n hx hb d_M_runSlot_259 rfl (lv_at hl 4 rfl) ?_
    refine lv_lload_n hx hb d_M_runSlot_260 rfl (lv_at hl 6 rfl) ?_
    obtain ⟨M50, r51, eM50, h⟩ := b2_ob h
    refine me_theni0 (M1 := M50) (me_runV (C := "FilterGuardModel") (As := [.long x2]) (rest := []) ⟨hx, hb, hml, hown, hts⟩ (c_M_goes l D ad ca N M0 M50 r51 j0 x2 eM50 hwf hj0 _) rfl (by show fg_nm y_M_goes 1; decide +kernel) u_2489 u_2491 u_175 u_192 u_2492 ⟨Nat.le_of_ble_eq_true rfl, Nat.le_of_ble_eq_true rfl⟩ hX hz hK hP hD hwf hS hA hj0 (by decide) rfl rfl rfl hl.1 (Nat.le_of_ble_eq_true rfl) d_M_runSlot_261 ⟨Nat.le_of_ble_eq_true rfl, Nat.le_of_ble_eq_true rfl⟩) hP hD hK hS hA rfl rfl (fun H locs hw hP hD hS => ?_)
    obtain ⟨hwf, hk9, zr51⟩ := hw
    have hkp := hkp.tr hk9
    refine lv_if_eq (tgt := 278) hx hb d_M_runSlot_264 (by decide) (fun c52 => ?_) (fun c52 => ?_)
    · have h := if_t c52 h
      refine lv_iload_n hx hb d_M_runSlot_278 rfl (lv_at hl 5 rfl) ?_
      refine lv_iconst (v := 1) hx hb d_M_runSlot_279 (by decide) ?_
      refine lv_iadd hx hb d_M_runSlot_280 ?_
      exact me_reti (me_kp M0) h hx hb hr hlocks hwf hkp hP hK hD hS d_M_runSlot_281
    have h := if_f c52 h
    refine lv_iload_n hx hb d_M_runSlot_267 rfl (lv_at hl 5 rfl) ?_
    refine lv_iconst (v := 1) hx hb d_M_runSlot_268 (by decide) ?_
    refine lv_iadd hx hb d_M_runSlot_269 ?_
    refine lv_lload_n hx hb d_M_runSlot_270 rfl (lv_at hl 6 rfl) ?_
    obtain ⟨r53, er53, h⟩ := bd_ob h
    refine me_pani' (r0 := r53) (fg_runS (wc := []) (tc := []) (A2 := A) (As := [.long x2]) (rest := [.int (x1 + 1)]) ⟨hx, hb, hml, hown, hts⟩ (c_M_offsetOf l D r53 x2 er53 _) (by show fg_nm y_M_offsetOf 1; decide +kernel) u_2013 u_2014 u_192 u_2015 ⟨Nat.le_of_ble_eq_true rfl, Nat.le_of_ble_eq_true rfl⟩ hX me_P0 (hK.sub (tys' := []) [] rfl) me_D0 rfl hl.1 (Nat.le_of_ble_eq_true rfl) d_M_runSlot_271 ⟨Nat.le_of_ble_eq_true rfl, Nat.le_of_ble_eq_true rfl⟩) hP hD hK hS hA rfl rfl (fun H locs hw hP hD hS => ?_)
    refine lv_iadd hx hb d_M_runSlot_274 ?_
    refine lv_goto (tgt := 281) hx hb d_M_runSlot_275 (by decide) ?_
    exact me_reti (me_kp M0) h hx hb hr hlocks hwf hkp hP hK hD hS d_M_runSlot_281
  have h := if_f (fun z => n49 (ew10.trans z)) h
  by_cases n54 : w10 = 12
  · have h := if_t (ew10.symm.trans n54) h
    subst n54
    refine lv_tableIn (off := 243) (tgt := 282) hx hb d_M_runSlot_39 (by decide) (by decide) (by decide) (by decide) ?_
    refine lv_aload_n hx hb d_M_runSlot_282 rfl (lv_at hl 4 rfl) ?_
    refine lv_lload_n hx hb d_M_runSlot_283 rfl (lv_at hl 6 rfl) ?_
    obtain ⟨r55, er55, h⟩ := bd_ob h
    refine me_pani' (r0 := r55) (fg_runS (wc := []) (tc := []) (A2 := A) (As := [.long x2]) (rest := [.ref (ad 1 j0)]) ⟨hx, hb, hml, hown, hts⟩ (c_M_fieldOf l D r55 x2 er55 _) (by show fg_nm y_M_fieldOf 1; decide +kernel) u_2016 u_2017 u_192 u_2018 ⟨Nat.le_of_ble_eq_true rfl, Nat.le_of_ble_eq_true rfl⟩ hX me_P0 (hK.sub (tys' := []) [] rfl) me_D0 rfl hl.1 (Nat.le_of_ble_eq_true rfl) d_M_runSlot_284 ⟨Nat.le_of_ble_eq_true rfl, Nat.le_of_ble_eq_true rfl⟩) hP hD hK hS hA rfl rfl (fun H locs hw hP hD hS => ?_)
    obtain ⟨M56, eM56, h⟩ := bd_ob h
    refine me_thenv0 (M1 := M56) (me_runV (C := "FilterGuardModel") (As := [.int r55]) (rest := []) ⟨hx, hb, hml, hown, hts⟩ (c_M_runCall l D ad ca N M0 M56 j0 r55 eM56 hwf hj0 _) rfl (by show fg_nm y_M_runCall 1; decide +kernel) u_2496 u_2498 u_176 u_192 u_2499 ⟨Nat.le_of_ble_eq_true rfl, Nat.le_of_ble_eq_true rfl⟩ hX hz hK hP hD hwf hS hA hj0 (by decide) rfl rfl rfl hl.1 (Nat.le_of_ble_eq_true rfl) d_M_runSlot_287 ⟨Nat.le_of_ble_eq_true rfl, Nat.le_of_ble_eq_true rfl⟩) hP hD hK hS hA rfl rfl (fun H locs hw hP hD hS => ?_)
    obtain ⟨hwf, hk9⟩ := hw
    have hkp := hkp.tr hk9
    refine lv_iload_n hx hb d_M_runSlot_290 rfl (lv_at hl 5 rfl) ?_
    refine lv_iconst (v := 1) hx hb d_M_runSlot_291 (by decide) ?_
    refine lv_iadd hx hb d_M_runSlot_292 ?_
    exact me_reti (me_kp M0) h hx hb hr hlocks hwf hkp hP hK hD hS d_M_runSlot_293
  have h := if_f (fun z => n54 (ew10.trans z)) h
  by_cases n57 : w10 = 13
  · have h := if_t (ew10.symm.trans n57) h
    subst n57
    refine lv_tableIn (off := 255) (tgt := 294) hx hb d_M_runSlot_39 (by decide) (by decide) (by decide) (by decide) ?_
    refine lv_iconst (v := (-1)) hx hb d_M_runSlot_294 (by decide) ?_
    exact me_reti (me_kp M0) h hx hb hr hlocks hwf hkp hP hK hD hS d_M_runSlot_295
  have h := if_f (fun z => n57 (ew10.trans z)) h
  have in11 := lv_neT n11 (show (1 : Int32).toInt = 1 from rfl)
  have in19 := lv_neT n19 (show (2 : Int32).toInt = 2 from rfl)
  have in26 := lv_neT n26 (show (3 : Int32).toInt = 3 from rfl)
  have in30 := lv_neT n30 (show (4 : Int32).toInt = 4 from rfl)
  have in33 := lv_neT n33 (show (5 : Int32).toInt = 5 from rfl)
  have in39 := lv_neT n39 (show (6 : Int32).toInt = 6 from rfl)
  have in41 := lv_neT n41 (show (7 : Int32).toInt = 7 from rfl)
  have in43 := lv_neT n43 (show (8 : Int32).toInt = 8 from rfl)
  have in45 := lv_neT n45 (show (9 : Int32).toInt = 9 from rfl)
  have in47 := lv_neT n47 (show (10 : Int32).toInt = 10 from rfl)
  have in49 := lv_neT n49 (show (11 : Int32).toInt = 11 from rfl)
  have in54 := lv_neT n54 (show (12 : Int32).toInt = 12 from rfl)
  have in57 := lv_neT n57 (show (13 : Int32).toInt = 13 from rfl)
  refine lv_tableOut (tgt := 296) hx hb d_M_runSlot_39 (by omega) (by decide) ?_
  refine lv_aload_n hx hb d_M_runSlot_296 rfl (lv_at hl 4 rfl) ?_
  refine lv_lload_n hx hb d_M_runSlot_297 rfl (lv_at hl 6 rfl) ?_
  obtain ⟨M58, eM58, h⟩ := bd_ob h
  refine me_thenv0 (M1 := M58) (me_runV (C := "FilterGuardModel") (As := [.long x2]) (rest := []) ⟨hx, hb, hml, hown, hts⟩ (c_M_runArithmetic l D ad ca N M0 M58 j0 x2 eM58 hwf hj0 _) rfl (by show fg_nm y_M_runArithmetic 1; decide +kernel) u_2508 u_2510 u_179 u_192 u_2511 ⟨Nat.le_of_ble_eq_true rfl, Nat.le_of_ble_eq_true rfl⟩ hX hz hK hP hD hwf hS hA hj0 (by decide) rfl rfl rfl hl.1 (Nat.le_of_ble_eq_true rfl) d_M_runSlot_298 ⟨Nat.le_of_ble_eq_true rfl, Nat.le_of_ble_eq_true rfl⟩) hP hD hK hS hA rfl rfl (fun H locs hw hP hD hS => ?_)
  obtain ⟨hwf, hk9⟩ := hw
  have hkp := hkp.tr hk9
  refine lv_iload_n hx hb d_M_runSlot_301 rfl (lv_at hl 5 rfl) ?_
  refine lv_iconst (v := 1) hx hb d_M_runSlot_302 (by decide) ?_
  refine lv_iadd hx hb d_M_runSlot_303 ?_
  exact me_reti (me_kp M0) h hx hb hr hlocks hwf hkp hP hK hD hS d_M_runSlot_304
