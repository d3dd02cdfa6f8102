theorem d_M_form_146 : decode prog_14_method_57_code 146 = .ok (.aload_n 0, 1) := by decide +kernel
theorem d_M_form_147 : decode prog_14_method_57_code 147 = .ok (.iload_n 3, 1) := by decide +kernel
theorem d_M_form_148 : decode prog_14_method_57_code 148 = .ok (.putfield 351, 3) := by decide +kernel
theorem u_1762 : Cond.fieldLink "FilterGuardModel" 351 "FilterGuardModel" "faultSlot" "I" ∈ fg_g := fg_in (List.mem_of_getElem? (i := 1762) (by decide +kernel)) rfl
theorem p_M_21 {p : Program} {l : Launch} {e : Env} {R : Room} {s : Jvm.State} {m : MethodId} {args : Array Value} {below : List Frame} {meth : Method} {c : Code} {H : Heap} {locs : List Loc} {cells slots : Nat} {Q : Jvm.State → Prop} {cc : ByteArray} {pc : Nat} {ls : Array Slot} {rest : List Value} {D : va_G} {A : Nat → Prop} {H0 : Heap} {ad : Nat → Nat → Nat} {ca : Nat → ClassId} {M M1 : me_M} {N : Nat → Nat} {own : String} {index j : Nat} {v : Int32} (he : M1 = wI M 1 j 21 v) (hexec : p.tables.exec = Jvm.exec) (hb : c.code = cc) (hts : ∀ w ∈ fg_g, w.before args s = true) (hown : s.vm.findClass own = some m.cls) (hK : va_K D classes (me_T ca) s) (hP : va_P D classes (me_W ad ca M) H) (hD : va_D A (me_W ad ca M)) (hwf : me_wf N M) (hS : va_S A H0 H locs) (hj : j < N 1) (hlink : (Cond.fieldLink own index "FilterGuardModel" "faultSlot" "I").before args s = true) (hdg : decode cc pc = .ok (.putfield index, 3)) (kk : ∀ (H1 : Heap) (locs1 : List Loc), va_P D classes (me_W ad ca M1) H1 → va_D A (me_W ad ca M1) → me_wf N M1 → va_S A H0 H1 locs1 → W p l e R s m args below meth c H1 locs1 cells slots Q (F0 m (pc + 3) ls rest)) : W p l e R s m args below meth c H locs cells slots Q (F0 m pc ls (.int v :: .ref (ad 1 j) :: rest)) := by
  subst he
  exact me_put (M1 := wI M 1 j 21 v) (k := 1) (f := 21) (C := "FilterGuardModel") (T := F_M) (Nf := 75) hexec hb hts i_M t_M t_M_ok n_M hown hK hP hD hwf hS hj (by decide) rfl (by decide) (by decide) hlink (fun _ h9 => h9) rfl rfl rfl rfl (fun a b h => me_wIE h) (me_fIw (by decide) (by decide)) hdg (fun H1 locs1 a1 a2 a3 => kk H1 locs1 a1 a2 (me_wfI hwf (fun z => absurd z (by decide)) (fun z => absurd z (by decide))) a3)
theorem d_M_form_151 : decode prog_14_method_57_code 151 = .ok (.iload_n 3, 1) := by decide +kernel
theorem d_M_form_152 : decode prog_14_method_57_code 152 = .ok (.iconst 1, 1) := by decide +kernel
theorem d_M_form_153 : decode prog_14_method_57_code 153 = .ok (.iadd, 1) := by decide +kernel
theorem d_M_form_154 : decode prog_14_method_57_code 154 = .ok (.aload_n 0, 1) := by decide +kernel
theorem d_M_form_155 : decode prog_14_method_57_code 155 = .ok (.getfield 37, 3) := by decide +kernel
theorem d_M_form_158 : decode prog_14_method_57_code 158 = .ok (.iload_n 3, 1) := by decide +kernel
theorem d_M_form_159 : decode prog_14_method_57_code 159 = .ok (.laload, 1) := by decide +kernel
theorem d_M_form_160 : decode prog_14_method_57_code 160 = .ok (.invokestatic 321, 3) := by decide +kernel
theorem d_M_form_163 : decode prog_14_method_57_code 163 = .ok (.iadd, 1) := by decide +kernel
theorem d_M_form_164 : decode prog_14_method_57_code 164 = .ok (.istore 5, 2) := by decide +kernel
theorem d_M_form_166 : decode prog_14_method_57_code 166 = .ok (.iload 5, 2) := by decide +kernel
theorem d_M_form_168 : decode prog_14_method_57_code 168 = .ok (.ifCond .lt 34, 3) := by decide +kernel
theorem d_M_form_202 : decode prog_14_method_57_code 202 = .ok (.iconst 5, 1) := by decide +kernel
theorem d_M_form_203 : decode prog_14_method_57_code 203 = .ok (.ireturn, 1) := by decide +kernel
theorem d_M_form_171 : decode prog_14_method_57_code 171 = .ok (.iload 5, 2) := by decide +kernel
theorem d_M_form_173 : decode prog_14_method_57_code 173 = .ok (.iload_n 1, 1) := by decide +kernel
theorem d_M_form_174 : decode prog_14_method_57_code 174 = .ok (.if_icmp .ge 28, 3) := by decide +kernel
theorem d_M_form_177 : decode prog_14_method_57_code 177 = .ok (.aload_n 0, 1) := by decide +kernel
theorem d_M_form_178 : decode prog_14_method_57_code 178 = .ok (.getfield 62, 3) := by decide +kernel
theorem g_M_32 {p : Program} {l : Launch} {e : Env} {R : Room} {s : Jvm.State} {m : MethodId} {args : Array Value} {below : List Frame} {meth : Method} {c : Code} {H : Heap} {locs : List Loc} {cells slots : Nat} {Q : Jvm.State → Prop} {cc : ByteArray} {pc : Nat} {ls : Array Slot} {rest : List Value} {D : va_G} {ad : Nat → Nat → Nat} {ca : Nat → ClassId} {M : me_M} {N : Nat → Nat} {own : String} {index j : Nat} (hexec : p.tables.exec = Jvm.exec) (hb : c.code = cc) (hts : ∀ w ∈ fg_g, w.before args s = true) (hown : s.vm.findClass own = some m.cls) (hK : va_K D classes (me_T ca) s) (hP : va_P D classes (me_W ad ca M) H) (hwf : me_wf N M) (hj : j < N 1) (hlink : (Cond.fieldLink own index "FilterGuardModel" "second" "[Z").before args s = true) (hdg : decode cc pc = .ok (.getfield index, 3)) (kk : W p l e R s m args below meth c H locs cells slots Q (F0 m (pc + 3) ls (va_rf ((mR M 1 j 32).map (ad 15)) :: rest))) : W p l e R s m args below meth c H locs cells slots Q (F0 m pc ls (.ref (ad 1 j) :: rest)) := me_get (k := 1) (f := 32) (C := "FilterGuardModel") (T := F_M) (Nf := 75) hexec hb hts i_M hown hK hP hwf hj (by decide) rfl (by decide) (by decide) hlink (fun _ h9 => h9) hdg kk
theorem d_M_form_181 : decode prog_14_method_57_code 181 = .ok (.iload 5, 2) := by decide +kernel
theorem d_M_form_183 : decode prog_14_method_57_code 183 = .ok (.ifCond .lt 14, 3) := by decide +kernel
theorem d_M_form_197 : decode prog_14_method_57_code 197 = .ok (.iconst 0, 1) := by decide +kernel
theorem d_M_form_198 : decode prog_14_method_57_code 198 = .ok (.baload, 1) := by decide +kernel
theorem d_M_form_199 : decode prog_14_method_57_code 199 = .ok (.ifCond .eq 5, 3) := by decide +kernel
theorem d_M_form_204 : decode prog_14_method_57_code 204 = .ok (.aload_n 0, 1) := by decide +kernel
theorem d_M_form_205 : decode prog_14_method_57_code 205 = .ok (.getfield 65, 3) := by decide +kernel
theorem g_M_33 {p : Program} {l : Launch} {e : Env} {R : Room} {s : Jvm.State} {m : MethodId} {args : Array Value} {below : List Frame} {meth : Method} {c : Code} {H : Heap} {locs : List Loc} {cells slots : Nat} {Q : Jvm.State → Prop} {cc : ByteArray} {pc : Nat} {ls : Array Slot} {rest : List Value} {D : va_G} {ad : Nat → Nat → Nat} {ca : Nat → ClassId} {M : me_M} {N : Nat → Nat} {own : String} {index j : Nat} (hexec : p.tables.exec = Jvm.exec) (hb : c.code = cc) (hts : ∀ w ∈ fg_g, w.before args s = true) (hown : s.vm.findClass own = some m.cls) (hK : va_K D classes (me_T ca) s) (hP : va_P D classes (me_W ad ca M) H) (hwf : me_wf N M) (hj : j < N 1) (hlink : (Cond.fieldLink own index "FilterGuardModel" "isMark" "[Z").before args s = true) (hdg : decode cc pc = .ok (.getfield index, 3)) (kk : W p l e R s m args below meth c H locs cells slots Q (F0 m (pc + 3) ls (va_rf ((mR M 1 j 33).map (ad 15)) :: rest))) : W p l e R s m args below meth c H locs cells slots Q (F0 m pc ls (.ref (ad 1 j) :: rest)) := me_get (k := 1) (f := 33) (C := "FilterGuardModel") (T := F_M) (Nf := 75) hexec hb hts i_M hown hK hP hwf hj (by decide) rfl (by decide) (by decide) hlink (fun _ h9 => h9) hdg kk
theorem d_M_form_208 : decode prog_14_method_57_code 208 = .ok (.iload 5, 2) := by decide +kernel
theorem d_M_form_210 : decode prog_14_method_57_code 210 = .ok (.iconst 1, 1) := by decide +kernel
theorem d_M_form_211 : decode prog_14_method_57_code 211 = .ok (.bastore, 1) := by decide +kernel
theorem d_M_form_212 : decode prog_14_method_57_code 212 = .ok (.iinc 3 1, 3) := by decide +kernel
theorem d_M_form_215 : decode prog_14_method_57_code 215 = .ok (.goto (-118), 3) := by decide +kernel
theorem d_M_form_186 : decode prog_14_method_57_code 186 = .ok (.iload 5, 2) := by decide +kernel
theorem d_M_form_188 : decode prog_14_method_57_code 188 = .ok (.iload_n 1, 1) := by decide +kernel
theorem d_M_form_189 : decode prog_14_method_57_code 189 = .ok (.if_icmp .ge 8, 3) := by decide +kernel
theorem d_M_form_192 : decode prog_14_method_57_code 192 = .ok (.iload 5, 2) := by decide +kernel
theorem d_M_form_194 : decode prog_14_method_57_code 194 = .ok (.goto 4, 3) := by decide +kernel
theorem d_M_form_127 : decode prog_14_method_57_code 127 = .ok (.istore 4, 2) := by decide +kernel
theorem d_M_form_129 : decode prog_14_method_57_code 129 = .ok (.iload 4, 2) := by decide +kernel
theorem d_M_form_131 : decode prog_14_method_57_code 131 = .ok (.bipush 10, 2) := by decide +kernel
theorem d_M_form_133 : decode prog_14_method_57_code 133 = .ok (.if_icmp .eq 13, 3) := by decide +kernel
theorem d_M_form_136 : decode prog_14_method_57_code 136 = .ok (.iload 4, 2) := by decide +kernel
theorem d_M_form_138 : decode prog_14_method_57_code 138 = .ok (.bipush 11, 2) := by decide +kernel
theorem d_M_form_140 : decode prog_14_method_57_code 140 = .ok (.if_icmp .eq 6, 3) := by decide +kernel
theorem d_M_form_143 : decode prog_14_method_57_code 143 = .ok (.goto 69, 3) := by decide +kernel
theorem d_M_form_97 : decode prog_14_method_57_code 97 = .ok (.iload_n 3, 1) := by decide +kernel
theorem d_M_form_98 : decode prog_14_method_57_code 98 = .ok (.iload_n 1, 1) := by decide +kernel
theorem d_M_form_99 : decode prog_14_method_57_code 99 = .ok (.if_icmp .ge 119, 3) := by decide +kernel
theorem d_M_form_218 : decode prog_14_method_57_code 218 = .ok (.aload_n 0, 1) := by decide +kernel
theorem d_M_form_219 : decode prog_14_method_57_code 219 = .ok (.iload_n 2, 1) := by decide +kernel
theorem d_M_form_220 : decode prog_14_method_57_code 220 = .ok (.putfield 351, 3) := by decide +kernel
theorem d_M_form_223 : decode prog_14_method_57_code 223 = .ok (.aload_n 0, 1) := by decide +kernel
theorem d_M_form_224 : decode prog_14_method_57_code 224 = .ok (.getfield 37, 3) := by decide +kernel
theorem d_M_form_227 : decode prog_14_method_57_code 227 = .ok (.iload_n 2, 1) := by decide +kernel
theorem d_M_form_228 : decode prog_14_method_57_code 228 = .ok (.laload, 1) := by decide +kernel
theorem d_M_form_229 : decode prog_14_method_57_code 229 = .ok (.invokestatic 308, 3) := by decide +kernel
theorem d_M_form_232 : decode prog_14_method_57_code 232 = .ok (.invokestatic 312, 3) := by decide +kernel
theorem d_M_form_235 : decode prog_14_method_57_code 235 = .ok (.istore_n 3, 1) := by decide +kernel
theorem d_M_form_236 : decode prog_14_method_57_code 236 = .ok (.iload_n 3, 1) := by decide +kernel
theorem d_M_form_237 : decode prog_14_method_57_code 237 = .ok (.bipush 13, 2) := by decide +kernel
theorem d_M_form_239 : decode prog_14_method_57_code 239 = .ok (.if_icmp .eq 9, 3) := by decide +kernel
theorem d_M_form_248 : decode prog_14_method_57_code 248 = .ok (.iconst 0, 1) := by decide +kernel
theorem d_M_form_249 : decode prog_14_method_57_code 249 = .ok (.goto 5, 3) := by decide +kernel
theorem d_M_form_254 : decode prog_14_method_57_code 254 = .ok (.ireturn, 1) := by decide +kernel
theorem d_M_form_242 : decode prog_14_method_57_code 242 = .ok (.iload_n 3, 1) := by decide +kernel
theorem d_M_form_243 : decode prog_14_method_57_code 243 = .ok (.bipush 10, 2) := by decide +kernel
theorem d_M_form_245 : decode prog_14_method_57_code 245 = .ok (.if_icmp .ne 7, 3) := by decide +kernel
theorem d_M_form_252 : decode prog_14_method_57_code 252 = .ok (.bipush 6, 2) := by decide +kernel
theorem d_M_form_102 : decode prog_14_method_57_code 102 = .ok (.aload_n 0, 1) := by decide +kernel
theorem d_M_form_103 : decode prog_14_method_57_code 103 = .ok (.getfield 62, 3) := by decide +kernel
theorem d_M_form_106 : decode prog_14_method_57_code 106 = .ok (.iload_n 3, 1) := by decide +kernel
theorem d_M_form_107 : decode prog_14_method_57_code 107 = .ok (.baload, 1) := by decide +kernel
theorem d_M_form_108 : decode prog_14_method_57_code 108 = .ok (.ifCond .eq 7, 3) := by decide +kernel
theorem d_M_form_115 : decode prog_14_method_57_code 115 = .ok (.aload_n 0, 1) := by decide +kernel
theorem d_M_form_116 : decode prog_14_method_57_code 116 = .ok (.getfield 37, 3) := by decide +kernel
theorem d_M_form_119 : decode prog_14_method_57_code 119 = .ok (.iload_n 3, 1) := by decide +kernel
theorem d_M_form_120 : decode prog_14_method_57_code 120 = .ok (.laload, 1) := by decide +kernel
theorem d_M_form_121 : decode prog_14_method_57_code 121 = .ok (.invokestatic 308, 3) := by decide +kernel
theorem d_M_form_124 : decode prog_14_method_57_code 124 = .ok (.invokestatic 312, 3) := by decide +kernel
theorem d_M_form_111 : decode prog_14_method_57_code 111 = .ok (.iconst 0, 1) := by decide +kernel
theorem d_M_form_112 : decode prog_14_method_57_code 112 = .ok (.goto 15, 3) := by decide +kernel
theorem d_M_form_36 : decode prog_14_method_57_code 36 = .ok (.iload_n 3, 1) := by decide +kernel
theorem d_M_form_37 : decode prog_14_method_57_code 37 = .ok (.iload_n 1, 1) := by decide +kernel
theorem d_M_form_38 : decode prog_14_method_57_code 38 = .ok (.if_icmp .ge 57, 3) := by decide +kernel
theorem d_M_form_95 : decode prog_14_method_57_code 95 = .ok (.iconst 0, 1) := by decide +kernel
theorem d_M_form_96 : decode prog_14_method_57_code 96 = .ok (.istore_n 3, 1) := by decide +kernel
theorem d_M_form_41 : decode prog_14_method_57_code 41 = .ok (.aload_n 0, 1) := by decide +kernel
theorem d_M_form_42 : decode prog_14_method_57_code 42 = .ok (.iload_n 3, 1) := by decide +kernel
theorem d_M_form_43 : decode prog_14_method_57_code 43 = .ok (.putfield 351, 3) := by decide +kernel
theorem d_M_form_46 : decode prog_14_method_57_code 46 = .ok (.iload_n 3, 1) := by decide +kernel
theorem d_M_form_47 : decode prog_14_method_57_code 47 = .ok (.istore_n 2, 1) := by decide +kernel
theorem d_M_form_48 : decode prog_14_method_57_code 48 = .ok (.aload_n 0, 1) := by decide +kernel
theorem d_M_form_49 : decode prog_14_method_57_code 49 = .ok (.iload_n 3, 1) := by decide +kernel
theorem d_M_form_50 : decode prog_14_method_57_code 50 = .ok (.invokevirtual 354, 3) := by decide +kernel
theorem u_1989 : Cond.methodLink "FilterGuardModel" 354 ⟨"FilterGuardModel", "formFault", "(I)I"⟩ ∈ fg_g := fg_in (List.mem_of_getElem? (i := 1989) (by decide +kernel)) rfl
theorem u_1992 : Cond.code ⟨"FilterGuardModel", "formFault", "(I)I"⟩ prog_14_method_56_code 9 (some .int) ∈ fg_g := fg_in (List.mem_of_getElem? (i := 1992) (by decide +kernel)) rfl
theorem u_1991 : Cond.instanceMethod ⟨"FilterGuardModel", "formFault", "(I)I"⟩ ∈ fg_g := fg_in (List.mem_of_getElem? (i := 1991) (by decide +kernel)) rfl
theorem u_87 : Cond.selects "FilterGuardModel" ⟨"FilterGuardModel", "formFault", "(I)I"⟩ ⟨"FilterGuardModel", "formFault", "(I)I"⟩ ∈ fg_g := fg_in (List.mem_of_getElem? (i := 87) (by decide +kernel)) rfl
theorem d_M_form_53 : decode prog_14_method_57_code 53 = .ok (.istore 4, 2) := by decide +kernel
theorem d_M_form_55 : decode prog_14_method_57_code 55 = .ok (.iload 4, 2) := by decide +kernel
theorem d_M_form_57 : decode prog_14_method_57_code 57 = .ok (.ifCond .le 6, 3) := by decide +kernel
theorem d_M_form_63 : decode prog_14_method_57_code 63 = .ok (.aload_n 0, 1) := by decide +kernel
theorem d_M_form_64 : decode prog_14_method_57_code 64 = .ok (.getfield 37, 3) := by decide +kernel
theorem d_M_form_67 : decode prog_14_method_57_code 67 = .ok (.iload_n 3, 1) := by decide +kernel
theorem d_M_form_68 : decode prog_14_method_57_code 68 = .ok (.laload, 1) := by decide +kernel
theorem d_M_form_69 : decode prog_14_method_57_code 69 = .ok (.invokestatic 308, 3) := by decide +kernel
theorem d_M_form_72 : decode prog_14_method_57_code 72 = .ok (.invokestatic 312, 3) := by decide +kernel
theorem d_M_form_75 : decode prog_14_method_57_code 75 = .ok (.iconst 1, 1) := by decide +kernel
theorem d_M_form_76 : decode prog_14_method_57_code 76 = .ok (.if_icmp .ne 13, 3) := by decide +kernel
theorem d_M_form_89 : decode prog_14_method_57_code 89 = .ok (.iinc 3 1, 3) := by decide +kernel
theorem d_M_form_92 : decode prog_14_method_57_code 92 = .ok (.goto (-56), 3) := by decide +kernel
theorem d_M_form_79 : decode prog_14_method_57_code 79 = .ok (.iinc 3 1, 3) := by decide +kernel
theorem d_M_form_82 : decode prog_14_method_57_code 82 = .ok (.aload_n 0, 1) := by decide +kernel
theorem d_M_form_83 : decode prog_14_method_57_code 83 = .ok (.getfield 62, 3) := by decide +kernel
theorem d_M_form_86 : decode prog_14_method_57_code 86 = .ok (.iload_n 3, 1) := by decide +kernel
theorem d_M_form_87 : decode prog_14_method_57_code 87 = .ok (.iconst 1, 1) := by decide +kernel
theorem d_M_form_88 : decode prog_14_method_57_code 88 = .ok (.bastore, 1) := by decide +kernel
theorem d_M_form_60 : decode prog_14_method_57_code 60 = .ok (.iload 4, 2) := by decide +kernel
theorem d_M_form_62 : decode prog_14_method_57_code 62 = .ok (.ireturn, 1) := by decide +kernel
theorem d_M_form_7 : decode prog_14_method_57_code 7 = .ok (.iload_n 2, 1) := by decide +kernel
theorem d_M_form_8 : decode prog_14_method_57_code 8 = .ok (.iload_n 1, 1) := by decide +kernel
theorem d_M_form_9 : decode prog_14_method_57_code 9 = .ok (.if_icmp .ge 23, 3) := by decide +kernel
theorem d_M_form_32 : decode prog_14_method_57_code 32 = .ok (.iconst 0, 1) := by decide +kernel
theorem d_M_form_33 : decode prog_14_method_57_code 33 = .ok (.istore_n 2, 1) := by decide +kernel
theorem d_M_form_34 : decode prog_14_method_57_code 34 = .ok (.iconst 0, 1) := by decide +kernel
theorem d_M_form_35 : decode prog_14_method_57_code 35 = .ok (.istore_n 3, 1) := by decide +kernel
theorem d_M_form_12 : decode prog_14_method_57_code 12 = .ok (.aload_n 0, 1) := by decide +kernel
theorem d_M_form_13 : decode prog_14_method_57_code 13 = .ok (.getfield 62, 3) := by decide +kernel
theorem d_M_form_16 : decode prog_14_method_57_code 16 = .ok (.iload_n 2, 1) := by decide +kernel
theorem d_M_form_17 : decode prog_14_method_57_code 17 = .ok (.iconst 0, 1) := by decide +kernel
theorem d_M_form_18 : decode prog_14_method_57_code 18 = .ok (.bastore, 1) := by decide +kernel
theorem d_M_form_19 : decode prog_14_method_57_code 19 = .ok (.aload_n 0, 1) := by decide +kernel
theorem d_M_form_20 : decode prog_14_method_57_code 20 = .ok (.getfield 65, 3) := by decide +kernel
theorem d_M_form_23 : decode prog_14_method_57_code 23 = .ok (.iload_n 2, 1) := by decide +kernel
theorem d_M_form_24 : decode prog_14_method_57_code 24 = .ok (.iconst 0, 1) := by decide +kernel
theorem d_M_form_25 : decode prog_14_method_57_code 25 = .ok (.bastore, 1) := by decide +kernel
theorem d_M_form_26 : decode prog_14_method_57_code 26 = .ok (.iinc 2 1, 3) := by decide +kernel
theorem d_M_form_29 : decode prog_14_method_57_code 29 = .ok (.goto (-22), 3) := by decide +kernel
theorem d_M_form_0 : decode prog_14_method_57_code 0 = .ok (.aload_n 0, 1) := by decide +kernel
theorem d_M_form_1 : decode prog_14_method_57_code 1 = .ok (.iload_n 1, 1) := by decide +kernel
theorem d_M_form_2 : decode prog_14_method_57_code 2 = .ok (.putfield 327, 3) := by decide +kernel
theorem p_M_12 {p : Program} {l : Launch} {e : Env} {R : Room} {s : Jvm.State} {m : MethodId} {args : Array Value} {below : List Frame} {meth : Method} {c : Code} {H : Heap} {locs : List Loc} {cells slots : Nat} {Q : Jvm.State → Prop} {cc : ByteArray} {pc : Nat} {ls : Array Slot} {rest : List Value} {D : va_G} {A : Nat → Prop} {H0 : Heap} {ad : Nat → Nat → Nat} {ca : Nat → ClassId} {M M1 : me_M} {N : Nat → Nat} {own : String} {index j : Nat} {v : Int32} (he : M1 = wI M 1 j 12 v) (hexec : p.tables.exec = Jvm.exec) (hb : c.code = cc) (hts : ∀ w ∈ fg_g, w.before args s = true) (hown : s.vm.findClass own = some m.cls) (hK : va_K D classes (me_T ca) s) (hP : va_P D classes (me_W ad ca M) H) (hD : va_D A (me_W ad ca M)) (hwf : me_wf N M) (hS : va_S A H0 H locs) (hj : j < N 1) (hlink : (Cond.fieldLink own index "FilterGuardModel" "told" "I").before args s = true) (hdg : decode cc pc = .ok (.putfield index, 3)) (kk : ∀ (H1 : Heap) (locs1 : List Loc), va_P D classes (me_W ad ca M1) H1 → va_D A (me_W ad ca M1) → me_wf N M1 → va_S A H0 H1 locs1 → W p l e R s m args below meth c H1 locs1 cells slots Q (F0 m (pc + 3) ls rest)) : W p l e R s m args below meth c H locs cells slots Q (F0 m pc ls (.int v :: .ref (ad 1 j) :: rest)) := by
  subst he
  exact me_put (M1 := wI M 1 j 12 v) (k := 1) (f := 12) (C := "FilterGuardModel") (T := F_M) (Nf := 75) hexec hb hts i_M t_M t_M_ok n_M hown hK hP hD hwf hS hj (by decide) rfl (by decide) (by decide) hlink (fun _ h9 => h9) rfl rfl rfl rfl (fun a b h => me_wIE h) (me_fIw (by decide) (by decide)) hdg (fun H1 locs1 a1 a2 a3 => kk H1 locs1 a1 a2 (me_wfI hwf (fun z => absurd z (by decide)) (fun z => absurd z (by decide))) a3)
theorem d_M_form_5 : decode prog_14_method_57_code 5 = .ok (.iconst 0, 1) := by decide +kernel
theorem d_M_form_6 : decode prog_14_method_57_code 6 = .ok (.istore_n 2, 1) := by decide +kernel
abbrev y_M_form : MethodName := ⟨"FilterGuardModel", "form", "(I)I"⟩
def rm_M_form : Room := { frames := 5, cells := 0, slots := 0, locals := 118 }
abbrev q_M_form (D : va_G) (ad : Nat → Nat → Nat) (ca : Nat → ClassId) (N : Nat → Nat) (M0 MZ : me_M) (RZ : Int32) (A : Nat → Prop) : Array Value → Jvm.State → Outcome → Jvm.State → Prop := va_Qi (fun r (_ : Unit) => r = RZ ∧ me_wf N MZ ∧ me_kp M0 MZ) (fg_B D A (fun _ => me_W ad ca MZ) (fun _ => [])) A
set_option maxHeartbeats 4000000 in
set_option maxRecDepth 100000 in
theorem c_M_form (l : Launch) (D : va_G) (ad : Nat → Nat → Nat) (ca : Nat → ClassId) (N : Nat → Nat) (M0 MZ : me_M) (RZ : Int32) (j0 : Nat) (x1 : Int32) (h : f_M_form M0 j0 x1 = (some (MZ, RZ))) (hwf : me_wf N M0) (hj0 : j0 < N 1) (sz : Nat) : Met l y_M_form (fg_w y_M_form prog_14_method_57_code 6 (some .int)) rm_M_form (va_Pc [.ref (ad 1 j0), .int x1] (fz_P D (me_T ca) (me_W ad ca M0) sz)) (q_M_form D ad ca N M0 MZ RZ (va_A (me_W ad ca M0) sz)) rm_M_form.cells rm_M_form.slots (va_A (me_W ad ca M0) sz) := by
  refine fz_enter (fun A => q_M_form D ad ca N M0 MZ RZ A) (by decide +kernel) (Nat.le_of_ble_eq_true rfl) ?_
  intro p e s m below meth c ls A hx hb hml hown hts hr hlocks hin hP hK hD hS hA hX hl hz
  have hl : lv_has ls 6 [(0, .ref (ad 1 j0)), (1, .int x1)] := hl
  unfold f_M_form at h
  have hkp : me_kp M0 M0 := me_kp.rf
  have hkb := hkp
  have b_146 : ∀ (k97 : me_M → Int32 → Int32 → Option (me_M × Int32)) (hk97 : ∀ (M : me_M) (y2 : Int32) (y3 : Int32) (H : Heap) (locs : List Loc) (ls : Array Slot), k97 M y2 y3 = (some (MZ, RZ)) → me_wf N M → me_kp M0 M → va_P D classes (me_W ad ca M) H → va_D A (me_W ad ca M) → va_S A s.heap H locs → lv_has ls 6 [(0, .ref (ad 1 j0)), (1, .int x1), (2, .int y2), (3, .int y3)] → W p l e rm_M_form s m [.ref (ad 1 j0), .int x1].toArray below meth c H locs 0 0 (MQ below (q_M_form D ad ca N M0 MZ RZ A) [.ref (ad 1 j0), .int x1].toArray s rm_M_form.cells rm_M_form.slots A) (F0 m 97 ls [])), ∀ (M : me_M) (y2 : Int32) (y3 : Int32) (H : Heap) (locs : List Loc) (ls : Array Slot), f_M_form_b146 k97 j0 x1 M y2 y3 = (some (MZ, RZ)) → me_wf N M → me_kp M0 M → va_P D classes (me_W ad ca M) H → va_D A (me_W ad ca M) → va_S A s.heap H locs → lv_has ls 6 [(0, .ref (ad 1 j0)), (1, .int x1), (2, .int y2), (3, .int y3)] → W p l e rm_M_form s m [.ref (ad 1 j0), .int x1].toArray below meth c H locs 0 0 (MQ below (q_M_form D ad ca N M0 MZ RZ A) [.ref (ad 1 j0), .int x1].toArray s rm_M_form.cells rm_M_form.slots A) (F0 m 146 ls []) := by
    intro k97 hk97 M y2 y3 H locs ls h hwf hkp hP hD hS hl
    unfold f_M_form_b146 at h
    have hkb := hkp
    refine lv_aload_n hx hb d_M_form_146 rfl (lv_at hl 0 rfl) ?_
    refine lv_iload_n hx hb d_M_form_147 rfl (lv_at hl 3 rfl) ?_
    obtain ⟨M1, eM1, h⟩ := st_ob h
    refine p_M_21 eM1 hx hb hts hown hK hP hD hwf hS hj0 (hts _ u_1762) d_M_form_148 (fun H locs hP hD hwf hS => ?_)
    have hkp := kp_I eM1 hkp
    refine lv_iload_n hx hb d_M_form_151 rfl (lv_at hl 3 rfl) ?_
    refine lv_iconst (v := 1) hx hb d_M_form_152 (by decide) ?_
    refine lv_iadd hx hb d_M_form_153 ?_
    refine lv_aload_n hx hb d_M_form_154 rfl (lv_at hl 0 rfl) ?_
    refine g_M_13 hx hb hts hown hK hP hwf hj0 (hts _ u_1754) d_M_form_155 ?_
    obtain ⟨j2, e3, h⟩ := bd_ob h
    have hj2 : j2 < N 16 := (hwf.2.1 1 j0 13 _ (kp_r hkb hkp e3) (by decide) hj0)
    refine me_opt (j := j2) (kp_r hkb hkp e3) ?_
    refine lv_iload_n hx hb d_M_form_158 rfl (lv_at hl 3 rfl) ?_
    obtain ⟨g4, h⟩ := gd_ob h
    refine me_lald hx hb hK hP hwf hj2 (kp_z hkb.z hkp.z g4) d_M_form_159 ?_
    obtain ⟨r5, er5, h⟩ := bd_ob h
    refine me_pani' (r0 := r5) (fg_runS (wc := []) (tc := []) (A2 := A) (As := [.long (mL M1 16 j2 y3.toNatClampNeg)]) (rest := [.int (y3 + 1)]) ⟨hx, hb, hml, hown, hts⟩ (c_M_offsetOf l D r5 (mL M1 16 j2 y3.toNatClampNeg) er5 _) (by show fg_nm y_M_offsetOf 1; decide +kernel) u_2013 u_2014 u_192 u_2015 ⟨Nat.le_of_ble_eq_true rfl, Nat.le_of_ble_eq_true rfl⟩ hX me_P0 (hK.sub (tys' := []) [] rfl) me_D0 rfl hl.1 (Nat.le_of_ble_eq_true rfl) d_M_form_160 ⟨Nat.le_of_ble_eq_true rfl, Nat.le_of_ble_eq_true rfl⟩) hP hD hK hS hA rfl rfl (fun H locs hw hP hD hS => ?_)
    refine lv_iadd hx hb d_M_form_163 ?_
    obtain ⟨v6, ev6, h⟩ := st_ob h
    refine fg_topi (y := v6) ev6.symm ?_
    refine lv_istore (lv' := [(5, .int v6), (0, .ref (ad 1 j0)), (1, .int x1), (2, .int y2), (3, .int y3)]) hx hb d_M_form_164 hl (by decide) rfl (fun ls hl => ?_)
    refine lv_iload hx hb d_M_form_166 (lv_at hl 0 rfl) ?_
    refine lv_if_lt (tgt := 202) hx hb d_M_form_168 (by decide) (fun c7 => ?_) (fun c7 => ?_)
    · have h := if_t c7 h
      refine lv_iconst (v := 5) hx hb d_M_form_202 (by decide) ?_
      exact me_reti (me_kp M0) h hx hb hr hlocks hwf hkp hP hK hD hS d_M_form_203
    have h := if_f c7 h
    refine lv_iload hx hb d_M_form_171 (lv_at hl 0 rfl) ?_
    refine lv_iload_n hx hb d_M_form_173 rfl (lv_at hl 2 rfl) ?_
    refine lv_icmp_ge (tgt := 202) hx hb d_M_form_174 (by decide) (fun c8 => ?_) (fun c8 => ?_)
    · have h := if_t c8 h
      refine lv_iconst (v := 5) hx hb d_M_form_202 (by decide) ?_
      exact me_reti (me_kp M0) h hx hb hr hlocks hwf hkp hP hK hD hS d_M_form_203
    have h := if_f c8 h
    refine lv_aload_n hx hb d_M_form_177 rfl (lv_at hl 1 rfl) ?_
    refine g_M_32 hx hb hts hown hK hP hwf hj0 (hts _ u_1773) d_M_form_178 ?_
    obtain ⟨j9, e10, h⟩ := bd_ob h
    have hj9 : j9 < N 15 := (hwf.2.1 1 j0 32 _ (kp_r hkb hkp e10) (by decide) hj0)
    refine me_opt (j := j9) (kp_r hkb hkp e10) ?_
    refine lv_iload hx hb d_M_form_181 (lv_at hl 0 rfl) ?_
    refine lv_if_lt (tgt := 197) hx hb d_M_form_183 (by decide) (fun c11 => ?_) (fun c11 => ?_)
    · have h := if_t c11 h
      refine lv_iconst (v := 0) hx hb d_M_form_197 (by decide) ?_
      obtain ⟨g12, h⟩ := gd_ob h
      refine me_zald hx hb hK hP hwf hj9 (me_in (i := (0 : Int32)) (k := 0) (by decide) (by decide) (kp_c hkb.z hkp.z g12)) d_M_form_198 ?_
      refine fg_topi (y := mI M1 15 j9 0) (congrArg _ (by decide)) ?_
      have z13 := hwf.2.2.2 15 j9 0 rfl
      refine lv_if_eq (tgt := 204) hx hb d_M_form_199 (by decide) (fun c14 => ?_) (fun c14 => ?_)
      · have h := if_t c14 h
        refine lv_aload_n hx hb d_M_form_204 rfl (lv_at hl 1 rfl) ?_
        refine g_M_33 hx hb hts hown hK hP hwf hj0 (hts _ u_1774) d_M_form_205 ?_
        obtain ⟨j15, e16, h⟩ := bd_ob h
        have hj15 : j15 < N 15 := (hwf.2.1 1 j0 33 _ (kp_r hkb hkp e16) (by decide) hj0)
        refine me_opt (j := j15) (kp_r hkb hkp e16) ?_
        refine lv_iload hx hb d_M_form_208 (lv_at hl 0 rfl) ?_
        refine lv_iconst (v := 1) hx hb d_M_form_210 (by decide) ?_
        obtain ⟨g17, h⟩ := gd_ob h
        obtain ⟨M18, eM18, h⟩ := st_ob h
        refine me_zast eM18 hx hb hK hP hD hwf hS hj15 (kp_z hkb.z hkp.z g17) d_M_form_211 (fun H locs hP hD hwf hS => ?_)
        have hkp := kp_I eM18 hkp
        refine lv_iinc (v := y3 + 1) (lv' := [(3, .int (y3 + 1)), (5, .int v6), (0, .ref (ad 1 j0)), (1, .int x1), (2, .int y2)]) hx hb d_M_form_212 hl (k := 4) rfl (by rfl) (by decide) rfl (fun ls hl => ?_)
        refine lv_goto (tgt := 97) hx hb d_M_form_215 (by decide) ?_
        exact hk97 M18 y2 (y3 + 1) _ _ _ h hwf hkp hP hD hS (lv_sub hl [2, 3, 4, 0] rfl)
      have h := if_f c14 h
      refine lv_iconst (v := 5) hx hb d_M_form_202 (by decide) ?_
      exact me_reti (me_kp M0) h hx hb hr hlocks hwf hkp hP hK hD hS d_M_form_203
    have h := if_f c11 h
    refine lv_iload hx hb d_M_form_186 (lv_at hl 0 rfl) ?_
    refine lv_iload_n hx hb d_M_form_188 rfl (lv_at hl 2 rfl) ?_
    refine lv_icmp_ge (tgt := 197) hx hb d_M_form_189 (by decide) (fun c19 => ?_) (fun c19 => ?_)
    · have h := if_t c19 h
      refine lv_iconst (v := 0) hx hb d_M_form_197 (by decide) ?_
      obtain ⟨g20, h⟩ := gd_ob h
      refine me_zald hx hb hK hP hwf hj9 (me_in (i := (0 : Int32)) (k := 0) (by decide) (by decide) (kp_c hkb.z hkp.z g20)) d_M_form_198 ?_
      refine fg_topi (y := mI M1 15 j9 0) (congrArg _ (by decide)) ?_
      have z21 := hwf.2.2.2 15 j9 0 rfl
      refine lv_if_eq (tgt := 204) hx hb d_M_form_199 (by decide) (fun c22 => ?_) (fun c22 => ?_)
      · have h := if_t c22 h
        refine lv_aload_n hx hb d_M_form_204 rfl (lv_at hl 1 rfl) ?_
        refine g_M_33 hx hb hts hown hK hP hwf hj0 (hts _ u_1774) d_M_form_205 ?_
        obtain ⟨j23, e24, h⟩ := bd_ob h
        have hj23 : j23 < N 15 := (hwf.2.1 1 j0 33 _ (kp_r hkb hkp e24) (by decide) hj0)
        refine me_opt (j := j23) (kp_r hkb hkp e24) ?_
        refine lv_iload hx hb d_M_form_208 (lv_at hl 0 rfl) ?_
        refine lv_iconst (v := 1) hx hb d_M_form_210 (by decide) ?_
        obtain ⟨g25, h⟩ := gd_ob h
        obtain ⟨M26, eM26, h⟩ := st_ob h
        refine me_zast eM26 hx hb hK hP hD hwf hS hj23 (kp_z hkb.z hkp.z g25) d_M_form_211 (fun H locs hP hD hwf hS => ?_)
        have hkp := kp_I eM26 hkp
        refine lv_iinc (v := y3 + 1) (lv' := [(3, .int (y3 + 1)), (5, .int v6), (0, .ref (ad 1 j0)), (1, .int x1), (2, .int y2)]) hx hb d_M_form_212 hl (k := 4) rfl (by rfl) (by decide) rfl (fun ls hl => ?_)
        refine lv_goto (tgt := 97) hx hb d_M_form_215 (by decide) ?_
        exact hk97 M26 y2 (y3 + 1) _ _ _ h hwf hkp hP hD hS (lv_sub hl [2, 3, 4, 0] rfl)
      have h := if_f c22 h
      refine lv_iconst (v := 5) hx hb d_M_form_202 (by decide) ?_
      exact me_reti (me_kp M0) h hx hb hr hlocks hwf hkp hP hK hD hS d_M_form_203
    have h := if_f c19 h
    refine lv_iload hx hb d_M_form_192 (lv_at hl 0 rfl) ?_
    refine lv_goto (tgt := 198) hx hb d_M_form_194 (by decide) ?_
    obtain ⟨g27, h⟩ := gd_ob h
    refine me_zald hx hb hK hP hwf hj9 (kp_z hkb.z hkp.z g27) d_M_form_198 ?_
    have z28 := hwf.2.2.2 15 j9 v6.toNatClampNeg rfl
    refine lv_if_eq (tgt := 204) hx hb d_M_form_199 (by decide) (fun c29 => ?_) (fun c29 => ?_)
    · have h := if_t c29 h
      refine lv_aload_n hx hb d_M_form_204 rfl (lv_at hl 1 rfl) ?_
      refine g_M_33 hx hb hts hown hK hP hwf hj0 (hts _ u_1774) d_M_form_205 ?_
      obtain ⟨j30, e31, h⟩ := bd_ob h
      have hj30 : j30 < N 15 := (hwf.2.1 1 j0 33 _ (kp_r hkb hkp e31) (by decide) hj0)
      refine me_opt (j := j30) (kp_r hkb hkp e31) ?_
      refine lv_iload hx hb d_M_form_208 (lv_at hl 0 rfl) ?_
      refine lv_iconst (v := 1) hx hb d_M_form_210 (by decide) ?_
      obtain ⟨g32, h⟩ := gd_ob h
      obtain ⟨M33, eM33, h⟩ := st_ob h
      refine me_zast eM33 hx hb hK hP hD hwf hS hj30 (kp_z hkb.z hkp.z g32) d_M_form_211 (fun H locs hP hD hwf hS => ?_)
      have hkp := kp_I eM33 hkp
      refine lv_iinc (v := y3 + 1) (lv' := [(3, .int (y3 + 1)), (5, .int v6), (0, .ref (ad 1 j0)), (1, .int x1), (2, .int y2)]) hx hb d_M_form_212 hl (k := 4) rfl (by rfl) (by decide) rfl (fun ls hl => ?_)
      refine lv_goto (tgt := 97) hx hb d_M_form_215 (by decide) ?_
      exact hk97 M33 y2 (y3 + 1) _ _ _ h hwf hkp hP hD hS (lv_sub hl [2, 3, 4, 0] rfl)
    have h := if_f c29 h
    refine lv_iconst (v := 5) hx hb d_M_form_202 (by decide) ?_
    exact me_reti (me_kp M0) h hx hb hr hlocks hwf hkp hP hK hD hS d_M_form_203
  have b_127 : ∀ (k97 : me_M → Int32 → Int32 → Option (me_M × Int32)) (hk97 : ∀ (M : me_M) (y2 : Int32) (y3 : Int32) (H : Heap) (locs : List Loc) (ls : Array Slot), k97 M y2 y3 = (some (MZ, RZ)) → me_wf N M → me_kp M0 M → va_P D classes (me_W ad ca M) H → va_D A (me_W ad ca M) → va_S A s.heap H locs → lv_has ls 6 [(0, .ref (ad 1 j0)), (1, .int x1), (2, .int y2), (3, .int y3)] → W p l e rm_M_form s m [.ref (ad 1 j0), .int x1].toArray below meth c H locs 0 0 (MQ below (q_M_form D ad ca N M0 MZ RZ A) [.ref (ad 1 j0), .int x1].toArray s rm_M_form.cells rm_M_form.slots A) (F0 m 97 ls [])), ∀ (M : me_M) (y2 : Int32) (y3 : Int32) (s0 : Int32) (H : Heap) (locs : List Loc) (ls : Array Slot), f_M_form_b127 k97 j0 x1 M y2 y3 s0 = (some (MZ, RZ)) → me_wf N M → me_kp M0 M → va_P D classes (me_W ad ca M) H → va_D A (me_W ad ca M) → va_S A s.heap H locs → lv_has ls 6 [(0, .ref (ad 1 j0)), (1, .int x1), (2, .int y2), (3, .int y3)] → W p l e rm_M_form s m [.ref (ad 1 j0), .int x1].toArray below meth c H locs 0 0 (MQ below (q_M_form D ad ca N M0 MZ RZ A) [.ref (ad 1 j0), .int x1].toArray s rm_M_form.cells rm_M_form.slots A) (F0 m 127 ls [.int s0]) := by
    intro k97 hk97 M y2 y3 s0 H locs ls h hwf hkp hP hD hS hl
    unfold f_M_form_b127 at h
    have hkb := hkp
    refine lv_istore (lv' := [(4, .int s0), (0, .ref (ad 1 j0)), (1, .int x1), (2, .int y2), (3, .int y3)]) hx hb d_M_form_127 hl (by decide) rfl (fun ls hl => ?_)
    refine lv_iload hx hb d_M_form_129 (lv_at hl 0 rfl) ?_
    refine lv_bipush (v := 10) hx hb d_M_form_131 (by decide) ?_
    refine lv_icmp_eq (tgt := 146) hx hb d_M_form_133 (by decide) (fun c34 => ?_) (fun c34 => ?_)
    · have h := if_t c34 h
      exact b_146 _ hk97 M y2 y3 _ _ _ h hwf hkp hP hD hS (lv_sub hl [1, 2, 3, 4] rfl)
    have h := if_f c34 h
    refine lv_iload hx hb d_M_form_136 (lv_at hl 0 rfl) ?_
    refine lv_bipush (v := 11) hx hb d_M_form_138 (by decide) ?_
    refine lv_icmp_eq (tgt := 146) hx hb d_M_form_140 (by decide) (fun c35 => ?_) (fun c35 => ?_)
    · have h := if_t c35 h
      exact b_146 _ hk97 M y2 y3 _ _ _ h hwf hkp hP hD hS (lv_sub hl [1, 2, 3, 4] rfl)
    have h := if_f c35 h
    refine lv_goto (tgt := 212) hx hb d_M_form_143 (by decide) ?_
    refine lv_iinc (v := y3 + 1) (lv' := [(3, .int (y3 + 1)), (4, .int s0), (0, .ref (ad 1 j0)), (1, .int x1), (2, .int y2)]) hx hb d_M_form_212 hl (k := 4) rfl (by rfl) (by decide) rfl (fun ls hl => ?_)
    refine lv_goto (tgt := 97) hx hb d_M_form_215 (by decide) ?_
    exact hk97 M y2 (y3 + 1) _ _ _ h hwf hkp hP hD hS (lv_sub hl [2, 3, 4, 0] rfl)
  have b_97 : ∀ (fu : Nat), ∀ (M : me_M) (y2 : Int32) (y3 : Int32) (H : Heap) (locs : List Loc) (ls : Array Slot), f_M_form_l97 j0 x1 fu M y2 y3 = (some (MZ, RZ)) → me_wf N M → me_kp M0 M → va_P D classes (me_W ad ca M) H → va_D A (me_W ad ca M) → va_S A s.heap H locs → lv_has ls 6 [(0, .ref (ad 1 j0)), (1, .int x1), (2, .int y2), (3, .int y3)] → W p l e rm_M_form s m [.ref (ad 1 j0), .int x1].toArray below meth c H locs 0 0 (MQ below (q_M_form D ad ca N M0 MZ RZ A) [.ref (ad 1 j0), .int x1].toArray s rm_M_form.cells rm_M_form.slots A) (F0 m 97 ls []) := by
    intro fu
    induction fu with
    | zero =>
      intro M y2 y3 H locs ls h hwf hkp hP hD hS hl
      cases h
    | succ fu ih =>
      intro M y2 y3 H locs ls h hwf hkp hP hD hS hl
      unfold f_M_form_l97 at h
      have hkb := hkp
      refine lv_iload_n hx hb d_M_form_97 rfl (lv_at hl 3 rfl) ?_
      refine lv_iload_n hx hb d_M_form_98 rfl (lv_at hl 1 rfl) ?_
      refine lv_icmp_ge (tgt := 218) hx hb d_M_form_99 (by decide) (fun c36 => ?_) (fun c36 => ?_)
      · have h := if_t c36 h
        refine lv_aload_n hx hb d_M_form_218 rfl (lv_at hl 0 rfl) ?_
        refine lv_iload_n hx hb d_M_form_219 rfl (lv_at hl 2 rfl) ?_
        obtain ⟨M37, eM37, h⟩ := st_ob h
        refine p_M_21 eM37 hx hb hts hown hK hP hD hwf hS hj0 (hts _ u_1762) d_M_form_220 (fun H locs hP hD hwf hS => ?_)
        have hkp := kp_I eM37 hkp
        refine lv_aload_n hx hb d_M_form_223 rfl (lv_at hl 0 rfl) ?_
        refine g_M_13 hx hb hts hown hK hP hwf hj0 (hts _ u_1754) d_M_form_224 ?_
        obtain ⟨j38, e39, h⟩ := bd_ob h
        have hj38 : j38 < N 16 := (hwf.2.1 1 j0 13 _ (kp_r hkb hkp e39) (by decide) hj0)
        refine me_opt (j := j38) (kp_r hkb hkp e39) ?_
        refine lv_iload_n hx hb d_M_form_227 rfl (lv_at hl 2 rfl) ?_
        obtain ⟨g40, h⟩ := gd_ob h
        refine me_lald hx hb hK hP hwf hj38 (kp_z hkb.z hkp.z g40) d_M_form_228 ?_
        obtain ⟨r41, er41, h⟩ := bd_ob h
        refine me_pani' (r0 := r41) (fg_runS (wc := []) (tc := []) (A2 := A) (As := [.long (mL M37 16 j38 y2.toNatClampNeg)]) (rest := []) ⟨hx, hb, hml, hown, hts⟩ (c_M_opOf l D r41 (mL M37 16 j38 y2.toNatClampNeg) er41 _) (by show fg_nm y_M_opOf 1; decide +kernel) u_1997 u_1998 u_192 u_1999 ⟨Nat.le_of_ble_eq_true rfl, Nat.le_of_ble_eq_true rfl⟩ hX me_P0 (hK.sub (tys' := []) [] rfl) me_D0 rfl hl.1 (Nat.le_of_ble_eq_true rfl) d_M_form_229 ⟨Nat.le_of_ble_eq_true rfl, Nat.le_of_ble_eq_true rfl⟩) hP hD hK hS hA rfl rfl (fun H locs hw hP hD hS => ?_)
        obtain ⟨r42, er42, h⟩ := bd_ob h
        refine me_pani' (r0 := r42) (fg_runS (wc := []) (tc := []) (A2 := A) (As := [.int r41]) (rest := []) ⟨hx, hb, hml, hown, hts⟩ (c_M_instruction l D r42 r41 er42 _) (by show fg_nm y_M_instruction 1; decide +kernel) u_2000 u_2001 u_192 u_2002 ⟨Nat.le_of_ble_eq_true rfl, Nat.le_of_ble_eq_true rfl⟩ hX me_P0 (hK.sub (tys' := []) [] rfl) me_D0 rfl hl.1 (Nat.le_of_ble_eq_true rfl) d_M_form_232 ⟨Nat.le_of_ble_eq_true rfl, Nat.le_of_ble_eq_true rfl⟩) hP hD hK hS hA rfl rfl (fun H locs hw hP hD hS => ?_)
        refine lv_istore_n (lv' := [(3, .int r42), (0, .ref (ad 1 j0)), (1, .int x1), (2, .int y2)]) hx hb d_M_form_235 rfl hl (by decide) rfl (fun ls hl => ?_)
        refine lv_iload_n hx hb d_M_form_236 rfl (lv_at hl 0 rfl) ?_
        refine lv_bipush (v := 13) hx hb d_M_form_237 (by decide) ?_
        refine lv_icmp_eq (tgt := 248) hx hb d_M_form_239 (by decide) (fun c43 => ?_) (fun c43 => ?_)
        · have h := if_t c43 h
          refine lv_iconst (v := 0) hx hb d_M_form_248 (by decide) ?_
          refine lv_goto (tgt := 254) hx hb d_M_form_249 (by decide) ?_
          exact me_reti (me_kp M0) h hx hb hr hlocks hwf hkp hP hK hD hS d_M_form_254
        have h := if_f c43 h
        refine lv_iload_n hx hb d_M_form_242 rfl (lv_at hl 0 rfl) ?_
        refine lv_bipush (v := 10) hx hb d_M_form_243 (by decide) ?_
        refine lv_icmp_ne (tgt := 252) hx hb d_M_form_245 (by decide) (fun c44 => ?_) (fun c44 => ?_)
        · have h := if_f c44 h
          refine lv_bipush (v := 6) hx hb d_M_form_252 (by decide) ?_
          exact me_reti (me_kp M0) h hx hb hr hlocks hwf hkp hP hK hD hS d_M_form_254
        have h := if_t c44 h
        refine lv_iconst (v := 0) hx hb d_M_form_248 (by decide) ?_
        refine lv_goto (tgt := 254) hx hb d_M_form_249 (by decide) ?_
        exact me_reti (me_kp M0) h hx hb hr hlocks hwf hkp hP hK hD hS d_M_form_254
      have h := if_f c36 h
      refine lv_aload_n hx hb d_M_form_102 rfl (lv_at hl 0 rfl) ?_
      refine g_M_32 hx hb hts hown hK hP hwf hj0 (hts _ u_1773) d_M_form_103 ?_
      obtain ⟨j45, e46, h⟩ := bd_ob h
      have hj45 : j45 < N 15 := (hwf.2.1 1 j0 32 _ e46 (by decide) hj0)
      refine me_opt (j := j45) e46 ?_
      refine lv_iload_n hx hb d_M_form_106 rfl (lv_at hl 3 rfl) ?_
      obtain ⟨g47, h⟩ := gd_ob h
      refine me_zald hx hb hK hP hwf hj45 g47 d_M_form_107 ?_
      have z48 := hwf.2.2.2 15 j45 y3.toNatClampNeg rfl
      refine lv_if_eq (tgt := 115) hx hb d_M_form_108 (by decide) (fun c49 => ?_) (fun c49 => ?_)
      · have h := if_t c49 h
        refine lv_aload_n hx hb d_M_form_115 rfl (lv_at hl 0 rfl) ?_
        refine g_M_13 hx hb hts hown hK hP hwf hj0 (hts _ u_1754) d_M_form_116 ?_
        obtain ⟨j50, e51, h⟩ := bd_ob h
        have hj50 : j50 < N 16 := (hwf.2.1 1 j0 13 _ e51 (by decide) hj0)
        refine me_opt (j := j50) e51 ?_
        refine lv_iload_n hx hb d_M_form_119 rfl (lv_at hl 3 rfl) ?_
        obtain ⟨g52, h⟩ := gd_ob h
        refine me_lald hx hb hK hP hwf hj50 g52 d_M_form_120 ?_
        obtain ⟨r53, er53, h⟩ := bd_ob h
        refine me_pani' (r0 := r53) (fg_runS (wc := []) (tc := []) (A2 := A) (As := [.long (mL M 16 j50 y3.toNatClampNeg)]) (rest := []) ⟨hx, hb, hml, hown, hts⟩ (c_M_opOf l D r53 (mL M 16 j50 y3.toNatClampNeg) er53 _) (by show fg_nm y_M_opOf 1; decide +kernel) u_1997 u_1998 u_192 u_1999 ⟨Nat.le_of_ble_eq_true rfl, Nat.le_of_ble_eq_true rfl⟩ hX me_P0 (hK.sub (tys' := []) [] rfl) me_D0 rfl hl.1 (Nat.le_of_ble_eq_true rfl) d_M_form_121 ⟨Nat.le_of_ble_eq_true rfl, Nat.le_of_ble_eq_true rfl⟩) hP hD hK hS hA rfl rfl (fun H locs hw hP hD hS => ?_)
        obtain ⟨r54, er54, h⟩ := bd_ob h
        refine me_pani' (r0 := r54) (fg_runS (wc := []) (tc := []) (A2 := A) (As := [.int r53]) (rest := []) ⟨hx, hb, hml, hown, hts⟩ (c_M_instruction l D r54 r53 er54 _) (by show fg_nm y_M_instruction 1; decide +kernel) u_2000 u_2001 u_192 u_2002 ⟨Nat.le_of_ble_eq_true rfl, Nat.le_of_ble_eq_true rfl⟩ hX me_P0 (hK.sub (tys' := []) [] rfl) me_D0 rfl hl.1 (Nat.le_of_ble_eq_true rfl) d_M_form_124 ⟨Nat.le_of_ble_eq_true rfl, Nat.le_of_ble_eq_true rfl⟩) hP hD hK hS hA rfl rfl (fun H locs hw hP hD hS => ?_)
        exact b_127 _ ih M y2 y3 r54 _ _ _ h hwf hkp hP hD hS (lv_sub hl [0, 1, 2, 3] rfl)
      have h := if_f c49 h
      refine lv_iconst (v := 0) hx hb d_M_form_111 (by decide) ?_
      refine lv_goto (tgt := 127) hx hb d_M_form_112 (by decide) ?_
      exact b_127 _ ih M y2 y3 (0 : Int32) _ _ _ h hwf hkp hP hD hS (lv_sub hl [0, 1, 2, 3] rfl)
  have b_36 : ∀ (fu : Nat), ∀ (M : me_M) (y2 : Int32) (y3 : Int32) (H : Heap) (locs : List Loc) (ls : Array Slot), f_M_form_l36 j0 x1 fu M y2 y3 = (some (MZ, RZ)) → me_wf N M → me_kp M0 M → va_P D classes (me_W ad ca M) H → va_D A (me_W ad ca M) → va_S A s.heap H locs → lv_has ls 6 [(0, .ref (ad 1 j0)), (1, .int x1), (2, .int y2), (3, .int y3)] → W p l e rm_M_form s m [.ref (ad 1 j0), .int x1].toArray below meth c H locs 0 0 (MQ below (q_M_form D ad ca N M0 MZ RZ A) [.ref (ad 1 j0), .int x1].toArray s rm_M_form.cells rm_M_form.slots A) (F0 m 36 ls []) := by
    intro fu
    induction fu with
    | zero =>
      intro M y2 y3 H locs ls h hwf hkp hP hD hS hl
      cases h
    | succ fu ih =>
      intro M y2 y3 H locs ls h hwf hkp hP hD hS hl
      unfold f_M_form_l36 at h
      have hkb := hkp
      refine lv_iload_n hx hb d_M_form_36 rfl (lv_at hl 3 rfl) ?_
      refine lv_iload_n hx hb d_M_form_37 rfl (lv_at hl 1 rfl) ?_
      refine lv_icmp_ge (tgt := 95) hx hb d_M_form_38 (by decide) (fun c55 => ?_) (fun c55 => ?_)
      · have h := if_t c55 h
        refine lv_iconst (v := 0) hx hb d_M_form_95 (by decide) ?_
        refine lv_istore_n (lv' := [(3, .int 0), (0, .ref (ad 1 j0)), (1, .int x1), (2, .int y2)]) hx hb d_M_form_96 rfl hl (by decide) rfl (fun ls hl => ?_)
        exact b_97 _ M y2 (0 : Int32) _ _ _ h hwf hkp hP hD hS (lv_sub hl [1, 2, 3, 0] rfl)
      have h := if_f c55 h
      refine lv_aload_n hx hb d_M_form_41 rfl (lv_at hl 0 rfl) ?_
      refine lv_iload_n hx hb d_M_form_42 rfl (lv_at hl 3 rfl) ?_
      obtain ⟨M56, eM56, h⟩ := st_ob h
      refine p_M_21 eM56 hx hb hts hown hK hP hD hwf hS hj0 (hts _ u_1762) d_M_form_43 (fun H locs hP hD hwf hS => ?_)
      have hkp := kp_I eM56 hkp
      refine lv_iload_n hx hb d_M_form_46 rfl (lv_at hl 3 rfl) ?_
      refine lv_istore_n (lv' := [(2, .int y3), (0, .ref (ad 1 j0)), (1, .int x1), (3, .int y3)]) hx hb d_M_form_47 rfl hl (by decide) rfl (fun ls hl => ?_)
      refine lv_aload_n hx hb d_M_form_48 rfl (lv_at hl 1 rfl) ?_
      refine lv_iload_n hx hb d_M_form_49 rfl (lv_at hl 3 rfl) ?_
      obtain ⟨M57, r58, eM57, h⟩ := b2_ob h
      refine me_theni0 (M1 := M57) (me_runV (C := "FilterGuardModel") (As := [.int y3]) (rest := []) ⟨hx, hb, hml, hown, hts⟩ (c_M_formFault l D ad ca N M56 M57 r58 j0 y3 eM57 hwf hj0 _) rfl (by show fg_nm y_M_formFault 1; decide +kernel) u_1989 u_1991 u_87 u_192 u_1992 ⟨Nat.le_of_ble_eq_true rfl, Nat.le_of_ble_eq_true rfl⟩ hX hz hK hP hD hwf hS hA hj0 (by decide) rfl rfl rfl hl.1 (Nat.le_of_ble_eq_true rfl) d_M_form_50 ⟨Nat.le_of_ble_eq_true rfl, Nat.le_of_ble_eq_true rfl⟩) hP hD hK hS hA rfl rfl (fun H locs hw hP hD hS => ?_)
      obtain ⟨hwf, hk9⟩ := hw
      have hkp := hkp.tr hk9
      refine lv_istore (lv' := [(4, .int r58), (2, .int y3), (0, .ref (ad 1 j0)), (1, .int x1), (3, .int y3)]) hx hb d_M_form_53 hl (by decide) rfl (fun ls hl => ?_)
      refine lv_iload hx hb d_M_form_55 (lv_at hl 0 rfl) ?_
      refine lv_if_le (tgt := 63) hx hb d_M_form_57 (by decide) (fun c59 => ?_) (fun c59 => ?_)
      · have h := if_t c59 h
        refine lv_aload_n hx hb d_M_form_63 rfl (lv_at hl 2 rfl) ?_
        refine g_M_13 hx hb hts hown hK hP hwf hj0 (hts _ u_1754) d_M_form_64 ?_
        obtain ⟨j60, e61, h⟩ := bd_ob h
        have hj60 : j60 < N 16 := (hwf.2.1 1 j0 13 _ (kp_r hkb hkp e61) (by decide) hj0)
        refine me_opt (j := j60) (kp_r hkb hkp e61) ?_
        refine lv_iload_n hx hb d_M_form_67 rfl (lv_at hl 4 rfl) ?_
        obtain ⟨g62, h⟩ := gd_ob h
        refine me_lald hx hb hK hP hwf hj60 (kp_z hkb.z hkp.z g62) d_M_form_68 ?_
        obtain ⟨r63, er63, h⟩ := bd_ob h
        refine me_pani' (r0 := r63) (fg_runS (wc := []) (tc := []) (A2 := A) (As := [.long (mL M57 16 j60 y3.toNatClampNeg)]) (rest := []) ⟨hx, hb, hml, hown, hts⟩ (c_M_opOf l D r63 (mL M57 16 j60 y3.toNatClampNeg) er63 _) (by show fg_nm y_M_opOf 1; decide +kernel) u_1997 u_1998 u_192 u_1999 ⟨Nat.le_of_ble_eq_true rfl, Nat.le_of_ble_eq_true rfl⟩ hX me_P0 (hK.sub (tys' := []) [] rfl) me_D0 rfl hl.1 (Nat.le_of_ble_eq_true rfl) d_M_form_69 ⟨Nat.le_of_ble_eq_true rfl, Nat.le_of_ble_eq_true rfl⟩) hP hD hK hS hA rfl rfl (fun H locs hw hP hD hS => ?_)
        obtain ⟨r64, er64, h⟩ := bd_ob h
        refine me_pani' (r0 := r64) (fg_runS (wc := []) (tc := []) (A2 := A) (As := [.int r63]) (rest := []) ⟨hx, hb, hml, hown, hts⟩ (c_M_instruction l D r64 r63 er64 _) (by show fg_nm y_M_instruction 1; decide +kernel) u_2000 u_2001 u_192 u_2002 ⟨Nat.le_of_ble_eq_true rfl, Nat.le_of_ble_eq_true rfl⟩ hX me_P0 (hK.sub (tys' := []) [] rfl) me_D0 rfl hl.1 (Nat.le_of_ble_eq_true rfl) d_M_form_72 ⟨Nat.le_of_ble_eq_true rfl, Nat.le_of_ble_eq_true rfl⟩) hP hD hK hS hA rfl rfl (fun H locs hw hP hD hS => ?_)
        refine lv_iconst (v := 1) hx hb d_M_form_75 (by decide) ?_
        refine lv_icmp_ne (tgt := 89) hx hb d_M_form_76 (by decide) (fun c65 => ?_) (fun c65 => ?_)
        · have h := if_f c65 h
          refine lv_iinc (v := y3 + 1) (lv' := [(3, .int (y3 + 1)), (4, .int r58), (2, .int y3), (0, .ref (ad 1 j0)), (1, .int x1)]) hx hb d_M_form_89 hl (k := 4) rfl (by rfl) (by decide) rfl (fun ls hl => ?_)
          refine lv_goto (tgt := 36) hx hb d_M_form_92 (by decide) ?_
          exact ih M57 y3 (y3 + 1) _ _ _ h hwf hkp hP hD hS (lv_sub hl [3, 4, 2, 0] rfl)
        have h := if_t c65 h
        refine lv_iinc (v := y3 + 1) (lv' := [(3, .int (y3 + 1)), (4, .int r58), (2, .int y3), (0, .ref (ad 1 j0)), (1, .int x1)]) hx hb d_M_form_79 hl (k := 4) rfl (by rfl) (by decide) rfl (fun ls hl => ?_)
        refine lv_aload_n hx hb d_M_form_82 rfl (lv_at hl 3 rfl) ?_
        refine g_M_32 hx hb hts hown hK hP hwf hj0 (hts _ u_1773) d_M_form_83 ?_
        obtain ⟨j66, e67, h⟩ := bd_ob h
        have hj66 : j66 < N 15 := (hwf.2.1 1 j0 32 _ (kp_r hkb hkp e67) (by decide) hj0)
        refine me_opt (j := j66) (kp_r hkb hkp e67) ?_
        refine lv_iload_n hx hb d_M_form_86 rfl (lv_at hl 0 rfl) ?_
        refine lv_iconst (v := 1) hx hb d_M_form_87 (by decide) ?_
        obtain ⟨g68, h⟩ := gd_ob h
        obtain ⟨M69, eM69, h⟩ := st_ob h
        refine me_zast eM69 hx hb hK hP hD hwf hS hj66 (kp_z hkb.z hkp.z g68) d_M_form_88 (fun H locs hP hD hwf hS => ?_)
        have hkp := kp_I eM69 hkp
        refine lv_iinc (v := (y3 + 1) + 1) (lv' := [(3, .int ((y3 + 1) + 1)), (4, .int r58), (2, .int y3), (0, .ref (ad 1 j0)), (1, .int x1)]) hx hb d_M_form_89 hl (k := 0) rfl (by rfl) (by decide) rfl (fun ls hl => ?_)
        refine lv_goto (tgt := 36) hx hb d_M_form_92 (by decide) ?_
        exact ih M69 y3 ((y3 + 1) + 1) _ _ _ h hwf hkp hP hD hS (lv_sub hl [3, 4, 2, 0] rfl)
      have h := if_f c59 h
      refine lv_iload hx hb d_M_form_60 (lv_at hl 0 rfl) ?_
      exact me_reti (me_kp M0) h hx hb hr hlocks hwf hkp hP hK hD hS d_M_form_62
  have b_7 : ∀ (fu : Nat), ∀ (M : me_M) (y2 : Int32) (H : Heap) (locs : List Loc) (ls : Array Slot), f_M_form_l7 j0 x1 fu M y2 = (some (MZ, RZ)) → me_wf N M → me_kp M0 M → va_P D classes (me_W ad ca M) H → va_D A (me_W ad ca M) → va_S A s.heap H locs → lv_has ls 6 [(0, .ref (ad 1 j0)), (1, .int x1), (2, .int y2)] → W p l e rm_M_form s m [.ref (ad 1 j0), .int x1].toArray below meth c H locs 0 0 (MQ below (q_M_form D ad ca N M0 MZ RZ A) [.ref (ad 1 j0), .int x1].toArray s rm_M_form.cells rm_M_form.slots A) (F0 m 7 ls []) := by
    intro fu
    induction fu with
    | zero =>
      intro M y2 H locs ls h hwf hkp hP hD hS hl
      cases h
    | succ fu ih =>
      intro M y2 H locs ls h hwf hkp hP hD hS hl
      unfold f_M_form_l7 at h
      have hkb := hkp
      refine lv_iload_n hx hb d_M_form_7 rfl (lv_at hl 2 rfl) ?_
      refine lv_iload_n hx hb d_M_form_8 rfl (lv_at hl 1 rfl) ?_
      refine lv_icmp_ge (tgt := 32) hx hb d_M_form_9 (by decide) (fun c70 => ?_) (fun c70 => ?_)
      · have h := if_t c70 h
        refine lv_iconst (v := 0) hx hb d_M_form_32 (by decide) ?_
        refine lv_istore_n (lv' := [(2, .int 0), (0, .ref (ad 1 j0)), (1, .int x1)]) hx hb d_M_form_33 rfl hl (by decide) rfl (fun ls hl => ?_)
        refine lv_iconst (v := 0) hx hb d_M_form_34 (by decide) ?_
        refine lv_istore_n (lv' := [(3, .int 0), (2, .int 0), (0, .ref (ad 1 j0)), (1, .int x1)]) hx hb d_M_form_35 rfl hl (by decide) rfl (fun ls hl => ?_)
        exact b_36 _ M (0 : Int32) (0 : Int32) _ _ _ h hwf hkp hP hD hS (lv_sub hl [2, 3, 1, 0] rfl)
      have h := if_f c70 h
      refine lv_aload_n hx hb d_M_form_12 rfl (lv_at hl 0 rfl) ?_
      refine g_M_32 hx hb hts hown hK hP hwf hj0 (hts _ u_1773) d_M_form_13 ?_
      obtain ⟨j71, e72, h⟩ := bd_ob h
      have hj71 : j71 < N 15 := (hwf.2.1 1 j0 32 _ e72 (by decide) hj0)
      refine me_opt (j := j71) e72 ?_
      refine lv_iload_n hx hb d_M_form_16 rfl (lv_at hl 2 rfl) ?_
      refine lv_iconst (v := 0) hx hb d_M_form_17 (by decide) ?_
      obtain ⟨g73, h⟩ := gd_ob h
      obtain ⟨M74, eM74, h⟩ := st_ob h
      refine me_zast eM74 hx hb hK hP hD hwf hS hj71 g73 d_M_form_18 (fun H locs hP hD hwf hS => ?_)
      have hkp := kp_I eM74 hkp
      refine lv_aload_n hx hb d_M_form_19 rfl (lv_at hl 0 rfl) ?_
      refine g_M_33 hx hb hts hown hK hP hwf hj0 (hts _ u_1774) d_M_form_20 ?_
      obtain ⟨j75, e76, h⟩ := bd_ob h
      have hj75 : j75 < N 15 := (hwf.2.1 1 j0 33 _ (kp_r hkb hkp e76) (by decide) hj0)
      refine me_opt (j := j75) (kp_r hkb hkp e76) ?_
      refine lv_iload_n hx hb d_M_form_23 rfl (lv_at hl 2 rfl) ?_
      refine lv_iconst (v := 0) hx hb d_M_form_24 (by decide) ?_
      obtain ⟨g77, h⟩ := gd_ob h
      obtain ⟨M78, eM78, h⟩ := st_ob h
      refine me_zast eM78 hx hb hK hP hD hwf hS hj75 (kp_z hkb.z hkp.z g77) d_M_form_25 (fun H locs hP hD hwf hS => ?_)
      have hkp := kp_I eM78 hkp
      refine lv_iinc (v := y2 + 1) (lv' := [(2, .int (y2 + 1)), (0, .ref (ad 1 j0)), (1, .int x1)]) hx hb d_M_form_26 hl (k := 2) rfl (by rfl) (by decide) rfl (fun ls hl => ?_)
      refine lv_goto (tgt := 7) hx hb d_M_form_29 (by decide) ?_
      exact ih M78 (y2 + 1) _ _ _ h hwf hkp hP hD hS (lv_sub hl [1, 2, 0] rfl)
  refine lv_aload_n hx hb d_M_form_0 rfl (lv_at hl 0 rfl) ?_
  refine lv_iload_n hx hb d_M_form_1 rfl (lv_at hl 1 rfl) ?_
  obtain ⟨M79, eM79, h⟩ := st_ob h
  refine p_M_12 eM79 hx hb hts hown hK hP hD hwf hS hj0 (hts _ u_1753) d_M_form_2 (fun H locs hP hD hwf hS => ?_)
  have hkp := kp_I eM79 hkp
  refine lv_iconst (v := 0) hx hb d_M_form_5 (by decide) ?_
  refine lv_istore_n (lv' := [(2, .int 0), (0, .ref (ad 1 j0)), (1, .int x1)]) hx hb d_M_form_6 rfl hl (by decide) rfl (fun ls hl => ?_)
  exact b_7 _ M79 (0 : Int32) _ _ _ h hwf hkp hP hD hS (lv_sub hl [1, 2, 0] rfl)
theorem d_M_rowOf_0 : decode prog_14_method_58_code 0 = .ok (.bipush 75, 2) := by decide +kernel
theorem d_M_rowOf_2 : decode prog_14_method_58_code 2 = .ok (.iload_n 0, 1) := by decide +kernel
theorem d_M_rowOf_3 : decode prog_14_method_58_code 3 = .ok (.imul, 1) := by decide +kernel
theorem d_M_rowOf_4 : decode prog_14_method_58_code 4 = .ok (.ireturn, 1) := by decide +kernel
abbrev y_M_rowOf : MethodName := ⟨"FilterGuardModel", "rowOf", "(I)I"⟩
def rm_M_rowOf : Room := { frames := 1, cells := 0, slots := 0, locals := 20 }
abbrev q_M_rowOf (D : va_G) (RZ : Int32) (A : Nat → Prop) : Array Value → Jvm.State → Outcome → Jvm.State → Prop := va_Qi (fun r (_ : Unit) => r = RZ ∧ True) (fg_B D A (fun _ => []) (fun _ => [])) A
set_option maxHeartbeats 4000000 in
set_option maxRecDepth 100000 in
theorem c_M_rowOf (l : Launch) (D : va_G) (RZ : Int32) (x0 : Int32) (h : f_M_rowOf x0 = (some RZ)) (sz : Nat) : Met l y_M_rowOf (fg_w y_M_rowOf prog_14_method_58_code 1 (some .int)) rm_M_rowOf (va_Pc [.int x0] (fg_P D [] [] sz)) (q_M_rowOf D RZ (va_A [] sz)) rm_M_rowOf.cells rm_M_rowOf.slots (va_A [] sz) := by
  refine fg_enter (fun A => q_M_rowOf D RZ A) (by decide +kernel) (Nat.le_of_ble_eq_true rfl) ?_
  intro p e s m below meth c ls A hx hb hml hown hts hr hlocks hin hP hK hD hS hA hX hl
  have hl : lv_has ls 1 [(0, .int x0)] := hl
  unfold f_M_rowOf at h
  refine lv_bipush (v := 75) hx hb d_M_rowOf_0 (by decide) ?_
  refine lv_iload_n hx hb d_M_rowOf_2 rfl (lv_at hl 0 rfl) ?_
  refine lv_imul hx hb d_M_rowOf_3 ?_
  exact me_preti h hx hb hr hlocks hK hS d_M_rowOf_4
theorem d_M_copyItem_0 : decode prog_14_method_59_code 0 = .ok (.aload_n 0, 1) := by decide +kernel
theorem d_M_copyItem_1 : decode prog_14_method_59_code 1 = .ok (.getfield 89, 3) := by decide +kernel
theorem g_M_47 {p : Program} {l : Launch} {e : Env} {R : Room} {s : Jvm.State} {m : MethodId} {args : Array Value} {below : List Frame} {meth : Method} {c : Code} {H : Heap} {locs : List Loc} {cells slots : Nat} {Q : Jvm.State → Prop} {cc : ByteArray} {pc : Nat} {ls : Array Slot} {rest : List Value} {D : va_G} {ad : Nat → Nat → Nat} {ca : Nat → ClassId} {M : me_M} {N : Nat → Nat} {own : String} {index j : Nat} (hexec : p.tables.exec = Jvm.exec) (hb : c.code = cc) (hts : ∀ w ∈ fg_g, w.before args s = true) (hown : s.vm.findClass own = some m.cls) (hK : va_K D classes (me_T ca) s) (hP : va_P D classes (me_W ad ca M) H) (hwf : me_wf N M) (hj : j < N 1) (hlink : (Cond.fieldLink own index "FilterGuardModel" "kind" "[B").before args s = true) (hdg : decode cc pc = .ok (.getfield index, 3)) (kk : W p l e R s m args below meth c H locs cells slots Q (F0 m (pc + 3) ls (va_rf ((mR M 1 j 47).map (ad 14)) :: rest))) : W p l e R s m args below meth c H locs cells slots Q (F0 m pc ls (.ref (ad 1 j) :: rest)) := me_get (k := 1) (f := 47) (C := "FilterGuardModel") (T := F_M) (Nf := 75) hexec hb hts i_M hown hK hP hwf hj (by decide) rfl (by decide) (by decide) hlink (fun _ h9 => h9) hdg kk
theorem d_M_copyItem_4 : decode prog_14_method_59_code 4 = .ok (.iload_n 2, 1) := by decide +kernel
theorem d_M_copyItem_5 : decode prog_14_method_59_code 5 = .ok (.aload_n 0, 1) := by decide +kernel
theorem d_M_copyItem_6 : decode prog_14_method_59_code 6 = .ok (.getfield 89, 3) := by decide +kernel
theorem d_M_copyItem_9 : decode prog_14_method_59_code 9 = .ok (.iload_n 1, 1) := by decide +kernel
theorem d_M_copyItem_10 : decode prog_14_method_59_code 10 = .ok (.baload, 1) := by decide +kernel
theorem d_M_copyItem_11 : decode prog_14_method_59_code 11 = .ok (.bastore, 1) := by decide +kernel
theorem d_M_copyItem_12 : decode prog_14_method_59_code 12 = .ok (.aload_n 0, 1) := by decide +kernel
theorem d_M_copyItem_13 : decode prog_14_method_59_code 13 = .ok (.getfield 92, 3) := by decide +kernel
theorem g_M_48 {p : Program} {l : Launch} {e : Env} {R : Room} {s : Jvm.State} {m : MethodId} {args : Array Value} {below : List Frame} {meth : Method} {c : Code} {H : Heap} {locs : List Loc} {cells slots : Nat} {Q : Jvm.State → Prop} {cc : ByteArray} {pc : Nat} {ls : Array Slot} {rest : List Value} {D : va_G} {ad : Nat → Nat → Nat} {ca : Nat → ClassId} {M : me_M} {N : Nat → Nat} {own : String} {index j : Nat} (hexec : p.tables.exec = Jvm.exec) (hb : c.code = cc) (hts : ∀ w ∈ fg_g, w.before args s = true) (hown : s.vm.findClass own = some m.cls) (hK : va_K D classes (me_T ca) s) (hP : va_P D classes (me_W ad ca M) H) (hwf : me_wf N M) (hj : j < N 1) (hlink : (Cond.fieldLink own index "FilterGuardModel" "place" "[I").before args s = true) (hdg : decode cc pc = .ok (.getfield index, 3)) (kk : W p l e R s m args below meth c H locs cells slots Q (F0 m (pc + 3) ls (va_rf ((mR M 1 j 48).map (ad 13)) :: rest))) : W p l e R s m args below meth c H locs cells slots Q (F0 m pc ls (.ref (ad 1 j) :: rest)) := me_get (k := 1) (f := 48) (C := "FilterGuardModel") (T := F_M) (Nf := 75) hexec hb hts i_M hown hK hP hwf hj (by decide) rfl (by decide) (by decide) hlink (fun _ h9 => h9) hdg kk
theorem d_M_copyItem_16 : decode prog_14_method_59_code 16 = .ok (.iload_n 2, 1) := by decide +kernel
theorem d_M_copyItem_17 : decode prog_14_method_59_code 17 = .ok (.aload_n 0, 1) := by decide +kernel
theorem d_M_copyItem_18 : decode prog_14_method_59_code 18 = .ok (.getfield 92, 3) := by decide +kernel
theorem d_M_copyItem_21 : decode prog_14_method_59_code 21 = .ok (.iload_n 1, 1) := by decide +kernel
theorem d_M_copyItem_22 : decode prog_14_method_59_code 22 = .ok (.iaload, 1) := by decide +kernel
theorem d_M_copyItem_23 : decode prog_14_method_59_code 23 = .ok (.iastore, 1) := by decide +kernel
theorem d_M_copyItem_24 : decode prog_14_method_59_code 24 = .ok (.aload_n 0, 1) := by decide +kernel
theorem d_M_copyItem_25 : decode prog_14_method_59_code 25 = .ok (.getfield 95, 3) := by decide +kernel
theorem g_M_49 {p : Program} {l : Launch} {e : Env} {R : Room} {s : Jvm.State} {m : MethodId} {args : Array Value} {below : List Frame} {meth : Method} {c : Code} {H : Heap} {locs : List Loc} {cells slots : Nat} {Q : Jvm.State → Prop} {cc : ByteArray} {pc : Nat} {ls : Array Slot} {rest : List Value} {D : va_G} {ad : Nat → Nat → Nat} {ca : Nat → ClassId} {M : me_M} {N : Nat → Nat} {own : String} {index j : Nat} (hexec : p.tables.exec = Jvm.exec) (hb : c.code = cc) (hts : ∀ w ∈ fg_g, w.before args s = true) (hown : s.vm.findClass own = some m.cls) (hK : va_K D classes (me_T ca) s) (hP : va_P D classes (me_W ad ca M) H) (hwf : me_wf N M) (hj : j < N 1) (hlink : (Cond.fieldLink own index "FilterGuardModel" "map" "[I").before args s = true) (hdg : decode cc pc = .ok (.getfield index, 3)) (kk : W p l e R s m args below meth c H locs cells slots Q (F0 m (pc + 3) ls (va_rf ((mR M 1 j 49).map (ad 13)) :: rest))) : W p l e R s m args below meth c H locs cells slots Q (F0 m pc ls (.ref (ad 1 j) :: rest)) := me_get (k := 1) (f := 49) (C := "FilterGuardModel") (T := F_M) (Nf := 75) hexec hb hts i_M hown hK hP hwf hj (by decide) rfl (by decide) (by decide) hlink (fun _ h9 => h9) hdg kk
theorem d_M_copyItem_28 : decode prog_14_method_59_code 28 = .ok (.iload_n 2, 1) := by decide +kernel
theorem d_M_copyItem_29 : decode prog_14_method_59_code 29 = .ok (.aload_n 0, 1) := by decide +kernel
theorem d_M_copyItem_30 : decode prog_14_method_59_code 30 = .ok (.getfield 95, 3) := by decide +kernel
theorem d_M_copyItem_33 : decode prog_14_method_59_code 33 = .ok (.iload_n 1, 1) := by decide +kernel
theorem d_M_copyItem_34 : decode prog_14_method_59_code 34 = .ok (.iaload, 1) := by decide +kernel
theorem d_M_copyItem_35 : decode prog_14_method_59_code 35 = .ok (.iastore, 1) := by decide +kernel
theorem d_M_copyItem_36 : decode prog_14_method_59_code 36 = .ok (.aload_n 0, 1) := by decide +kernel
theorem d_M_copyItem_37 : decode prog_14_method_59_code 37 = .ok (.getfield 98, 3) := by decide +kernel
theorem g_M_50 {p : Program} {l : Launch} {e : Env} {R : Room} {s : Jvm.State} {m : MethodId} {args : Array Value} {below : List Frame} {meth : Method} {c : Code} {H : Heap} {locs : List Loc} {cells slots : Nat} {Q : Jvm.State → Prop} {cc : ByteArray} {pc : Nat} {ls : Array Slot} {rest : List Value} {D : va_G} {ad : Nat → Nat → Nat} {ca : Nat → ClassId} {M : me_M} {N : Nat → Nat} {own : String} {index j : Nat} (hexec : p.tables.exec = Jvm.exec) (hb : c.code = cc) (hts : ∀ w ∈ fg_g, w.before args s = true) (hown : s.vm.findClass own = some m.cls) (hK : va_K D classes (me_T ca) s) (hP : va_P D classes (me_W ad ca M) H) (hwf : me_wf N M) (hj : j < N 1) (hlink : (Cond.fieldLink own index "FilterGuardModel" "identity" "[I").before args s = true) (hdg : decode cc pc = .ok (.getfield index, 3)) (kk : W p l e R s m args below meth c H locs cells slots Q (F0 m (pc + 3) ls (va_rf ((mR M 1 j 50).map (ad 13)) :: rest))) : W p l e R s m args below meth c H locs cells slots Q (F0 m pc ls (.ref (ad 1 j) :: rest)) := me_get (k := 1) (f := 50) (C := "FilterGuardModel") (T := F_M) (Nf := 75) hexec hb hts i_M hown hK hP hwf hj (by decide) rfl (by decide) (by decide) hlink (fun _ h9 => h9) hdg kk
theorem d_M_copyItem_40 : decode prog_14_method_59_code 40 = .ok (.iload_n 2, 1) := by decide +kernel
theorem d_M_copyItem_41 : decode prog_14_method_59_code 41 = .ok (.aload_n 0, 1) := by decide +kernel
theorem d_M_copyItem_42 : decode prog_14_method_59_code 42 = .ok (.getfield 98, 3) := by decide +kernel
theorem d_M_copyItem_45 : decode prog_14_method_59_code 45 = .ok (.iload_n 1, 1) := by decide +kernel
theorem d_M_copyItem_46 : decode prog_14_method_59_code 46 = .ok (.iaload, 1) := by decide +kernel
theorem d_M_copyItem_47 : decode prog_14_method_59_code 47 = .ok (.iastore, 1) := by decide +kernel
theorem d_M_copyItem_48 : decode prog_14_method_59_code 48 = .ok (.aload_n 0, 1) := by decide +kernel
theorem d_M_copyItem_49 : decode prog_14_method_59_code 49 = .ok (.getfield 101, 3) := by decide +kernel
theorem g_M_51 {p : Program} {l : Launch} {e : Env} {R : Room} {s : Jvm.State} {m : MethodId} {args : Array Value} {below : List Frame} {meth : Method} {c : Code} {H : Heap} {locs : List Loc} {cells slots : Nat} {Q : Jvm.State → Prop} {cc : ByteArray} {pc : Nat} {ls : Array Slot} {rest : List Value} {D : va_G} {ad : Nat → Nat → Nat} {ca : Nat → ClassId} {M : me_M} {N : Nat → Nat} {own : String} {index j : Nat} (hexec : p.tables.exec = Jvm.exec) (hb : c.code = cc) (hts : ∀ w ∈ fg_g, w.before args s = true) (hown : s.vm.findClass own = some m.cls) (hK : va_K D classes (me_T ca) s) (hP : va_P D classes (me_W ad ca M) H) (hwf : me_wf N M) (hj : j < N 1) (hlink : (Cond.fieldLink own index "FilterGuardModel" "room" "[I").before args s = true) (hdg : decode cc pc = .ok (.getfield index, 3)) (kk : W p l e R s m args below meth c H locs cells slots Q (F0 m (pc + 3) ls (va_rf ((mR M 1 j 51).map (ad 13)) :: rest))) : W p l e R s m args below meth c H locs cells slots Q (F0 m pc ls (.ref (ad 1 j) :: rest)) := me_get (k := 1) (f := 51) (C := "FilterGuardModel") (T := F_M) (Nf := 75) hexec hb hts i_M hown hK hP hwf hj (by decide) rfl (by decide) (by decide) hlink (fun _ h9 => h9) hdg kk
theorem d_M_copyItem_52 : decode prog_14_method_59_code 52 = .ok (.iload_n 2, 1) := by decide +kernel
theorem d_M_copyItem_53 : decode prog_14_method_59_code 53 = .ok (.aload_n 0, 1) := by decide +kernel
theorem d_M_copyItem_54 : decode prog_14_method_59_code 54 = .ok (.getfield 101, 3) := by decide +kernel
theorem d_M_copyItem_57 : decode prog_14_method_59_code 57 = .ok (.iload_n 1, 1) := by decide +kernel
theorem d_M_copyItem_58 : decode prog_14_method_59_code 58 = .ok (.iaload, 1) := by decide +kernel
theorem d_M_copyItem_59 : decode prog_14_method_59_code 59 = .ok (.iastore, 1) := by decide +kernel
theorem d_M_copyItem_60 : decode prog_14_method_59_code 60 = .ok (.aload_n 0, 1) := by decide +kernel
theorem d_M_copyItem_61 : decode prog_14_method_59_code 61 = .ok (.iload_n 1, 1) := by decide +kernel
theorem d_M_copyItem_62 : decode prog_14_method_59_code 62 = .ok (.iload_n 2, 1) := by decide +kernel
theorem d_M_copyItem_63 : decode prog_14_method_59_code 63 = .ok (.invokevirtual 208, 3) := by decide +kernel
theorem d_M_copyItem_66 : decode prog_14_method_59_code 66 = .ok (.return_, 1) := by decide +kernel
abbrev y_M_copyItem : MethodName := ⟨"FilterGuardModel", "copyItem", "(II)V"⟩
def rm_M_copyItem : Room := { frames := 2, cells := 0, slots := 0, locals := 42 }
abbrev q_M_copyItem (D : va_G) (ad : Nat → Nat → Nat) (ca : Nat → ClassId) (N : Nat → Nat) (M0 MZ : me_M) (A : Nat → Prop) : Array Value → Jvm.State → Outcome → Jvm.State → Prop := va_Qv (fun (_ : Unit) => me_wf N MZ ∧ me_kp M0 MZ) (fg_B D A (fun _ => me_W ad ca MZ) (fun _ => [])) A
set_option maxHeartbeats 4000000 in
set_option maxRecDepth 100000 in
theorem c_M_copyItem (l : Launch) (D : va_G) (ad : Nat → Nat → Nat) (ca : Nat → ClassId) (N : Nat → Nat) (M0 MZ : me_M) (j0 : Nat) (x1 : Int32) (x2 : Int32) (h : f_M_copyItem M0 j0 x1 x2 = (some MZ)) (hwf : me_wf N M0) (hj0 : j0 < N 1) (sz : Nat) : Met l y_M_copyItem (fg_w y_M_copyItem prog_14_method_59_code 3 none) rm_M_copyItem (va_Pc [.ref (ad 1 j0), .int x1, .int x2] (fz_P D (me_T ca) (me_W ad ca M0) sz)) (q_M_copyItem D ad ca N M0 MZ (va_A (me_W ad ca M0) sz)) rm_M_copyItem.cells rm_M_copyItem.slots (va_A (me_W ad ca M0) sz) := by
  refine fz_enter (fun A => q_M_copyItem D ad ca N M0 MZ A) (by decide +kernel) (Nat.le_of_ble_eq_true rfl) ?_
  intro p e s m below meth c ls A hx hb hml hown hts hr hlocks hin hP hK hD hS hA hX hl hz
  have hl : lv_has ls 3 [(0, .ref (ad 1 j0)), (1, .int x1), (2, .int x2)] := hl
  unfold f_M_copyItem at h
  have hkp : me_kp M0 M0 := me_kp.rf
  have hkb := hkp
  refine lv_aload_n hx hb d_M_copyItem_0 rfl (lv_at hl 0 rfl) ?_
  refine g_M_47 hx hb hts hown hK hP hwf hj0 (hts _ u_1788) d_M_copyItem_1 ?_
  obtain ⟨j1, e2, h⟩ := bd_ob h
  have hj1 : j1 < N 14 := (hwf.2.1 1 j0 47 _ e2 (by decide) hj0)
  refine me_opt (j := j1) e2 ?_
  refine lv_iload_n hx hb d_M_copyItem_4 rfl (lv_at hl 2 rfl) ?_
  refine lv_aload_n hx hb d_M_copyItem_5 rfl (lv_at hl 0 rfl) ?_
  refine g_M_47 hx hb hts hown hK hP hwf hj0 (hts _ u_1788) d_M_copyItem_6 ?_
  refine me_opt (j := j1) e2 ?_
  refine lv_iload_n hx hb d_M_copyItem_9 rfl (lv_at hl 1 rfl) ?_
  obtain ⟨g3, h⟩ := gd_ob h
  refine me_bald hx hb hK hP hwf hj1 g3 d_M_copyItem_10 ?_
  obtain ⟨g4, h⟩ := gd_ob h
  obtain ⟨M5, eM5, h⟩ := st_ob h
  refine me_bast eM5 hx hb hK hP hD hwf hS hj1 g4 d_M_copyItem_11 (fun H locs hP hD hwf hS => ?_)
  have hkp := kp_I eM5 hkp
  refine lv_aload_n hx hb d_M_copyItem_12 rfl (lv_at hl 0 rfl) ?_
  refine g_M_48 hx hb hts hown hK hP hwf hj0 (hts _ u_1789) d_M_copyItem_13 ?_
  obtain ⟨j6, e7, h⟩ := bd_ob h
  have hj6 : j6 < N 13 := (hwf.2.1 1 j0 48 _ (kp_r hkb hkp e7) (by decide) hj0)
  refine me_opt (j := j6) (kp_r hkb hkp e7) ?_
  refine lv_iload_n hx hb d_M_copyItem_16 rfl (lv_at hl 2 rfl) ?_
  refine lv_aload_n hx hb d_M_copyItem_17 rfl (lv_at hl 0 rfl) ?_
  refine g_M_48 hx hb hts hown hK hP hwf hj0 (hts _ u_1789) d_M_copyItem_18 ?_
  refine me_opt (j := j6) (kp_r hkb hkp e7) ?_
  refine lv_iload_n hx hb d_M_copyItem_21 rfl (lv_at hl 1 rfl) ?_
  obtain ⟨g8, h⟩ := gd_ob h
  refine me_iald hx hb hK hP hwf hj6 (kp_z hkb.z hkp.z g8) d_M_copyItem_22 ?_
  obtain ⟨g9, h⟩ := gd_ob h
  obtain ⟨M10, eM10, h⟩ := st_ob h
  refine me_iast eM10 hx hb hK hP hD hwf hS hj6 (kp_z hkb.z hkp.z g9) d_M_copyItem_23 (fun H locs hP hD hwf hS => ?_)
  have hkp := kp_I eM10 hkp
  refine lv_aload_n hx hb d_M_copyItem_24 rfl (lv_at hl 0 rfl) ?_
  refine g_M_49 hx hb hts hown hK hP hwf hj0 (hts _ u_1790) d_M_copyItem_25 ?_
  obtain ⟨j11, e12, h⟩ := bd_ob h
  have hj11 : j11 < N 13 := (hwf.2.1 1 j0 49 _ (kp_r hkb hkp e12) (by decide) hj0)
  refine me_opt (j := j11) (kp_r hkb hkp e12) ?_
  refine lv_iload_n hx hb d_M_copyItem_28 rfl (lv_at hl 2 rfl) ?_
  refine lv_aload_n hx hb d_M_copyItem_29 rfl (lv_at hl 0 rfl) ?_
  refine g_M_49 hx hb hts hown hK hP hwf hj0 (hts _ u_1790) d_M_copyItem_30 ?_
  refine me_opt (j := j11) (kp_r hkb hkp e12) ?_
  refine lv_iload_n hx hb d_M_copyItem_33 rfl (lv_at hl 1 rfl) ?_
  obtain ⟨g13, h⟩ := gd_ob h
  refine me_iald hx hb hK hP hwf hj11 (kp_z hkb.z hkp.z g13) d_M_copyItem_34 ?_
  obtain ⟨g14, h⟩ := gd_ob h
  obtain ⟨M15, eM15, h⟩ := st_ob h
  refine me_iast eM15 hx hb hK hP hD hwf hS hj11 (kp_z hkb.z hkp.z g14) d_M_copyItem_35 (fun H locs hP hD hwf hS => ?_)
  have hkp := kp_I eM15 hkp
  refine lv_aload_n hx hb d_M_copyItem_36 rfl (lv_at hl 0 rfl) ?_
  refine g_M_50 hx hb hts hown hK hP hwf hj0 (hts _ u_1791) d_M_copyItem_37 ?_
  obtain ⟨j16, e17, h⟩ := bd_ob h
  have hj16 : j16 < N 13 := (hwf.2.1 1 j0 50 _ (kp_r hkb hkp e17) (by decide) hj0)
  refine me_opt (j := j16) (kp_r hkb hkp e17) ?_
  refine lv_iload_n hx hb d_M_copyItem_40 rfl (lv_at hl 2 rfl) ?_
  refine lv_aload_n hx hb d_M_copyItem_41 rfl (lv_at hl 0 rfl) ?_
  refine g_M_50 hx hb hts hown hK hP hwf hj0 (hts _ u_1791) d_M_copyItem_42 ?_
  refine me_opt (j := j16) (kp_r hkb hkp e17) ?_
  refine lv_iload_n hx hb d_M_copyItem_45 rfl (lv_at hl 1 rfl) ?_
  obtain ⟨g18, h⟩ := gd_ob h
  refine me_iald hx hb hK hP hwf hj16 (kp_z hkb.z hkp.z g18) d_M_copyItem_46 ?_
  obtain ⟨g19, h⟩ := gd_ob h
  obtain ⟨M20, eM20, h⟩ := st_ob h
  refine me_iast eM20 hx hb hK hP hD hwf hS hj16 (kp_z hkb.z hkp.z g19) d_M_copyItem_47 (fun H locs hP hD hwf hS => ?_)
  have hkp := kp_I eM20 hkp
  refine lv_aload_n hx hb d_M_copyItem_48 rfl (lv_at hl 0 rfl) ?_
  refine g_M_51 hx hb hts hown hK hP hwf hj0 (hts _ u_1792) d_M_copyItem_49 ?_
  obtain ⟨j21, e22, h⟩ := bd_ob h
  have hj21 : j21 < N 13 := (hwf.2.1 1 j0 51 _ (kp_r hkb hkp e22) (by decide) hj0)
  refine me_opt (j := j21) (kp_r hkb hkp e22) ?_
  refine lv_iload_n hx hb d_M_copyItem_52 rfl (lv_at hl 2 rfl) ?_
  refine lv_aload_n hx hb d_M_copyItem_53 rfl (lv_at hl 0 rfl) ?_
  refine g_M_51 hx hb hts hown hK hP hwf hj0 (hts _ u_1792) d_M_copyItem_54 ?_
  refine me_opt (j := j21) (kp_r hkb hkp e22) ?_
  refine lv_iload_n hx hb d_M_copyItem_57 rfl (lv_at hl 1 rfl) ?_
  obtain ⟨g23, h⟩ := gd_ob h
  refine me_iald hx hb hK hP hwf hj21 (kp_z hkb.z hkp.z g23) d_M_copyItem_58 ?_
  obtain ⟨g24, h⟩ := gd_ob h
  obtain ⟨M25, eM25, h⟩ := st_ob h
  refine me_iast eM25 hx hb hK hP hD hwf hS hj21 (kp_z hkb.z hkp.z g24) d_M_copyItem_59 (fun H locs hP hD hwf hS => ?_)
  have hkp := kp_I eM25 hkp
  refine lv_aload_n hx hb d_M_copyItem_60 rfl (lv_at hl 0 rfl) ?_
  refine lv_iload_n hx hb d_M_copyItem_61 rfl (lv_at hl 1 rfl) ?_
  refine lv_iload_n hx hb d_M_copyItem_62 rfl (lv_at hl 2 rfl) ?_
  obtain ⟨M26, eM26, h⟩ := bd_ob h
  refine me_thenv0 (M1 := M26) (me_runV (C := "FilterGuardModel") (As := [.int x1, .int x2]) (rest := []) ⟨hx, hb, hml, hown, hts⟩ (c_M_copyNumber l D ad ca N M25 M26 j0 x1 x2 eM26 hwf hj0 _) rfl (by show fg_nm y_M_copyNumber 2; decide +kernel) u_2096 u_2098 u_103 u_192 u_2099 ⟨Nat.le_of_ble_eq_true rfl, Nat.le_of_ble_eq_true rfl⟩ hX hz hK hP hD hwf hS hA hj0 (by decide) rfl rfl rfl hl.1 (Nat.le_of_ble_eq_true rfl) d_M_copyItem_63 ⟨Nat.le_of_ble_eq_true rfl, Nat.le_of_ble_eq_true rfl⟩) hP hD hK hS hA rfl rfl (fun H locs hw hP hD hS => ?_)
  obtain ⟨hwf, hk9⟩ := hw
  have hkp := hkp.tr hk9
  exact me_retv (me_kp M0) h hx hb hr hlocks hwf hkp hP hK hD hS d_M_copyItem_66
