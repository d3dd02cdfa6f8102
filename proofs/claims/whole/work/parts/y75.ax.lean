theorem d_M_jump_90 : decode prog_14_method_103_code 90 = .ok (.bastore, 1) := by decide +kernel
theorem d_M_jump_91 : decode prog_14_method_103_code 91 = .ok (.aload_n 0, 1) := by decide +kernel
theorem d_M_jump_92 : decode prog_14_method_103_code 92 = .ok (.getfield 454, 3) := by decide +kernel
theorem d_M_jump_95 : decode prog_14_method_103_code 95 = .ok (.iconst 3, 1) := by decide +kernel
theorem d_M_jump_96 : decode prog_14_method_103_code 96 = .ok (.if_icmp .ne 78, 3) := by decide +kernel
theorem d_M_jump_174 : decode prog_14_method_103_code 174 = .ok (.aload_n 0, 1) := by decide +kernel
theorem d_M_jump_175 : decode prog_14_method_103_code 175 = .ok (.getfield 454, 3) := by decide +kernel
theorem d_M_jump_178 : decode prog_14_method_103_code 178 = .ok (.iconst 1, 1) := by decide +kernel
theorem d_M_jump_179 : decode prog_14_method_103_code 179 = .ok (.if_icmp .ne 34, 3) := by decide +kernel
theorem d_M_jump_213 : decode prog_14_method_103_code 213 = .ok (.aload_n 0, 1) := by decide +kernel
theorem d_M_jump_214 : decode prog_14_method_103_code 214 = .ok (.getfield 454, 3) := by decide +kernel
theorem d_M_jump_217 : decode prog_14_method_103_code 217 = .ok (.ifCond .ne 8, 3) := by decide +kernel
theorem d_M_jump_225 : decode prog_14_method_103_code 225 = .ok (.iconst 0, 1) := by decide +kernel
theorem d_M_jump_226 : decode prog_14_method_103_code 226 = .ok (.ireturn, 1) := by decide +kernel
theorem d_M_jump_220 : decode prog_14_method_103_code 220 = .ok (.aload_n 0, 1) := by decide +kernel
theorem d_M_jump_221 : decode prog_14_method_103_code 221 = .ok (.iconst (-1), 1) := by decide +kernel
theorem d_M_jump_222 : decode prog_14_method_103_code 222 = .ok (.putfield 514, 3) := by decide +kernel
theorem d_M_jump_182 : decode prog_14_method_103_code 182 = .ok (.aload_n 0, 1) := by decide +kernel
theorem d_M_jump_183 : decode prog_14_method_103_code 183 = .ok (.getfield 457, 3) := by decide +kernel
theorem d_M_jump_186 : decode prog_14_method_103_code 186 = .ok (.sipush 200, 3) := by decide +kernel
theorem d_M_jump_189 : decode prog_14_method_103_code 189 = .ok (.if_icmp .ge 16, 3) := by decide +kernel
theorem d_M_jump_205 : decode prog_14_method_103_code 205 = .ok (.aload_n 0, 1) := by decide +kernel
theorem d_M_jump_206 : decode prog_14_method_103_code 206 = .ok (.iload_n 3, 1) := by decide +kernel
theorem d_M_jump_207 : decode prog_14_method_103_code 207 = .ok (.putfield 514, 3) := by decide +kernel
theorem d_M_jump_210 : decode prog_14_method_103_code 210 = .ok (.goto 15, 3) := by decide +kernel
theorem d_M_jump_192 : decode prog_14_method_103_code 192 = .ok (.aload_n 0, 1) := by decide +kernel
theorem d_M_jump_193 : decode prog_14_method_103_code 193 = .ok (.sipush 201, 3) := by decide +kernel
theorem d_M_jump_196 : decode prog_14_method_103_code 196 = .ok (.aload_n 0, 1) := by decide +kernel
theorem d_M_jump_197 : decode prog_14_method_103_code 197 = .ok (.getfield 457, 3) := by decide +kernel
theorem d_M_jump_200 : decode prog_14_method_103_code 200 = .ok (.iadd, 1) := by decide +kernel
theorem d_M_jump_201 : decode prog_14_method_103_code 201 = .ok (.iconst 0, 1) := by decide +kernel
theorem d_M_jump_202 : decode prog_14_method_103_code 202 = .ok (.invokevirtual 467, 3) := by decide +kernel
theorem d_M_jump_99 : decode prog_14_method_103_code 99 = .ok (.aload_n 0, 1) := by decide +kernel
theorem d_M_jump_100 : decode prog_14_method_103_code 100 = .ok (.getfield 457, 3) := by decide +kernel
theorem d_M_jump_103 : decode prog_14_method_103_code 103 = .ok (.sipush 200, 3) := by decide +kernel
theorem d_M_jump_106 : decode prog_14_method_103_code 106 = .ok (.if_icmp .ne 6, 3) := by decide +kernel
theorem d_M_jump_112 : decode prog_14_method_103_code 112 = .ok (.aload_n 0, 1) := by decide +kernel
theorem d_M_jump_113 : decode prog_14_method_103_code 113 = .ok (.getfield 131, 3) := by decide +kernel
theorem g_M_63 {p : Program} {l : Launch} {e : Env} {R : Room} {s : Jvm.State} {m : MethodId} {args : Array Value} {below : List Frame} {meth : Method} {c : Code} {H : Heap} {locs : List Loc} {cells slots : Nat} {Q : Jvm.State → Prop} {cc : ByteArray} {pc : Nat} {ls : Array Slot} {rest : List Value} {D : va_G} {ad : Nat → Nat → Nat} {ca : Nat → ClassId} {M : me_M} {N : Nat → Nat} {own : String} {index j : Nat} (hexec : p.tables.exec = Jvm.exec) (hb : c.code = cc) (hts : ∀ w ∈ fg_g, w.before args s = true) (hown : s.vm.findClass own = some m.cls) (hK : va_K D classes (me_T ca) s) (hP : va_P D classes (me_W ad ca M) H) (hwf : me_wf N M) (hj : j < N 1) (hlink : (Cond.fieldLink own index "FilterGuardModel" "waitsAt" "[I").before args s = true) (hdg : decode cc pc = .ok (.getfield index, 3)) (kk : W p l e R s m args below meth c H locs cells slots Q (F0 m (pc + 3) ls (va_rf ((mR M 1 j 63).map (ad 13)) :: rest))) : W p l e R s m args below meth c H locs cells slots Q (F0 m pc ls (.ref (ad 1 j) :: rest)) := me_get (k := 1) (f := 63) (C := "FilterGuardModel") (T := F_M) (Nf := 75) hexec hb hts i_M hown hK hP hwf hj (by decide) rfl (by decide) (by decide) hlink (fun _ h9 => h9) hdg kk
theorem d_M_jump_116 : decode prog_14_method_103_code 116 = .ok (.aload_n 0, 1) := by decide +kernel
theorem d_M_jump_117 : decode prog_14_method_103_code 117 = .ok (.getfield 457, 3) := by decide +kernel
theorem d_M_jump_120 : decode prog_14_method_103_code 120 = .ok (.iload_n 3, 1) := by decide +kernel
theorem d_M_jump_121 : decode prog_14_method_103_code 121 = .ok (.iastore, 1) := by decide +kernel
theorem d_M_jump_122 : decode prog_14_method_103_code 122 = .ok (.aload_n 0, 1) := by decide +kernel
theorem d_M_jump_123 : decode prog_14_method_103_code 123 = .ok (.getfield 134, 3) := by decide +kernel
theorem d_M_jump_126 : decode prog_14_method_103_code 126 = .ok (.aload_n 0, 1) := by decide +kernel
theorem d_M_jump_127 : decode prog_14_method_103_code 127 = .ok (.getfield 457, 3) := by decide +kernel
theorem d_M_jump_130 : decode prog_14_method_103_code 130 = .ok (.aload_n 0, 1) := by decide +kernel
theorem d_M_jump_131 : decode prog_14_method_103_code 131 = .ok (.getfield 499, 3) := by decide +kernel
theorem d_M_jump_134 : decode prog_14_method_103_code 134 = .ok (.iastore, 1) := by decide +kernel
theorem d_M_jump_135 : decode prog_14_method_103_code 135 = .ok (.aload_n 0, 1) := by decide +kernel
theorem d_M_jump_136 : decode prog_14_method_103_code 136 = .ok (.dup, 1) := by decide +kernel
theorem d_M_jump_137 : decode prog_14_method_103_code 137 = .ok (.getfield 457, 3) := by decide +kernel
theorem d_M_jump_140 : decode prog_14_method_103_code 140 = .ok (.iconst 1, 1) := by decide +kernel
theorem d_M_jump_141 : decode prog_14_method_103_code 141 = .ok (.iadd, 1) := by decide +kernel
theorem d_M_jump_142 : decode prog_14_method_103_code 142 = .ok (.putfield 457, 3) := by decide +kernel
theorem p_M_62 {p : Program} {l : Launch} {e : Env} {R : Room} {s : Jvm.State} {m : MethodId} {args : Array Value} {below : List Frame} {meth : Method} {c : Code} {H : Heap} {locs : List Loc} {cells slots : Nat} {Q : Jvm.State → Prop} {cc : ByteArray} {pc : Nat} {ls : Array Slot} {rest : List Value} {D : va_G} {A : Nat → Prop} {H0 : Heap} {ad : Nat → Nat → Nat} {ca : Nat → ClassId} {M M1 : me_M} {N : Nat → Nat} {own : String} {index j : Nat} {v : Int32} (he : M1 = wI M 1 j 62 v) (hexec : p.tables.exec = Jvm.exec) (hb : c.code = cc) (hts : ∀ w ∈ fg_g, w.before args s = true) (hown : s.vm.findClass own = some m.cls) (hK : va_K D classes (me_T ca) s) (hP : va_P D classes (me_W ad ca M) H) (hD : va_D A (me_W ad ca M)) (hwf : me_wf N M) (hS : va_S A H0 H locs) (hj : j < N 1) (hlink : (Cond.fieldLink own index "FilterGuardModel" "waiting" "I").before args s = true) (hdg : decode cc pc = .ok (.putfield index, 3)) (kk : ∀ (H1 : Heap) (locs1 : List Loc), va_P D classes (me_W ad ca M1) H1 → va_D A (me_W ad ca M1) → me_wf N M1 → va_S A H0 H1 locs1 → W p l e R s m args below meth c H1 locs1 cells slots Q (F0 m (pc + 3) ls rest)) : W p l e R s m args below meth c H locs cells slots Q (F0 m pc ls (.int v :: .ref (ad 1 j) :: rest)) := by
  subst he
  exact me_put (M1 := wI M 1 j 62 v) (k := 1) (f := 62) (C := "FilterGuardModel") (T := F_M) (Nf := 75) hexec hb hts i_M t_M t_M_ok n_M hown hK hP hD hwf hS hj (by decide) rfl (by decide) (by decide) hlink (fun _ h9 => h9) rfl rfl rfl rfl (fun a b h => me_wIE h) (me_fIw (by decide) (by decide)) hdg (fun H1 locs1 a1 a2 a3 => kk H1 locs1 a1 a2 (me_wfI hwf (fun z => absurd z (by decide)) (fun z => absurd z (by decide))) a3)
theorem d_M_jump_145 : decode prog_14_method_103_code 145 = .ok (.aload_n 0, 1) := by decide +kernel
theorem d_M_jump_146 : decode prog_14_method_103_code 146 = .ok (.aload_n 0, 1) := by decide +kernel
theorem d_M_jump_147 : decode prog_14_method_103_code 147 = .ok (.getfield 457, 3) := by decide +kernel
theorem d_M_jump_150 : decode prog_14_method_103_code 150 = .ok (.aload_n 0, 1) := by decide +kernel
theorem d_M_jump_151 : decode prog_14_method_103_code 151 = .ok (.getfield 520, 3) := by decide +kernel
theorem u_1765 : Cond.fieldLink "FilterGuardModel" 520 "FilterGuardModel" "mostWaited" "I" ∈ fg_g := fg_in (List.mem_of_getElem? (i := 1765) (by decide +kernel)) rfl
theorem g_M_24 {p : Program} {l : Launch} {e : Env} {R : Room} {s : Jvm.State} {m : MethodId} {args : Array Value} {below : List Frame} {meth : Method} {c : Code} {H : Heap} {locs : List Loc} {cells slots : Nat} {Q : Jvm.State → Prop} {cc : ByteArray} {pc : Nat} {ls : Array Slot} {rest : List Value} {D : va_G} {ad : Nat → Nat → Nat} {ca : Nat → ClassId} {M : me_M} {N : Nat → Nat} {own : String} {index j : Nat} (hexec : p.tables.exec = Jvm.exec) (hb : c.code = cc) (hts : ∀ w ∈ fg_g, w.before args s = true) (hown : s.vm.findClass own = some m.cls) (hK : va_K D classes (me_T ca) s) (hP : va_P D classes (me_W ad ca M) H) (hwf : me_wf N M) (hj : j < N 1) (hlink : (Cond.fieldLink own index "FilterGuardModel" "mostWaited" "I").before args s = true) (hdg : decode cc pc = .ok (.getfield index, 3)) (kk : W p l e R s m args below meth c H locs cells slots Q (F0 m (pc + 3) ls (.int (mI M 1 j 24) :: rest))) : W p l e R s m args below meth c H locs cells slots Q (F0 m pc ls (.ref (ad 1 j) :: rest)) := me_get (k := 1) (f := 24) (C := "FilterGuardModel") (T := F_M) (Nf := 75) hexec hb hts i_M hown hK hP hwf hj (by decide) rfl (by decide) (by decide) hlink (fun _ h9 => h9) hdg kk
theorem d_M_jump_154 : decode prog_14_method_103_code 154 = .ok (.if_icmp .le 10, 3) := by decide +kernel
theorem d_M_jump_164 : decode prog_14_method_103_code 164 = .ok (.aload_n 0, 1) := by decide +kernel
theorem d_M_jump_165 : decode prog_14_method_103_code 165 = .ok (.getfield 520, 3) := by decide +kernel
theorem d_M_jump_168 : decode prog_14_method_103_code 168 = .ok (.putfield 520, 3) := by decide +kernel
theorem p_M_24 {p : Program} {l : Launch} {e : Env} {R : Room} {s : Jvm.State} {m : MethodId} {args : Array Value} {below : List Frame} {meth : Method} {c : Code} {H : Heap} {locs : List Loc} {cells slots : Nat} {Q : Jvm.State → Prop} {cc : ByteArray} {pc : Nat} {ls : Array Slot} {rest : List Value} {D : va_G} {A : Nat → Prop} {H0 : Heap} {ad : Nat → Nat → Nat} {ca : Nat → ClassId} {M M1 : me_M} {N : Nat → Nat} {own : String} {index j : Nat} {v : Int32} (he : M1 = wI M 1 j 24 v) (hexec : p.tables.exec = Jvm.exec) (hb : c.code = cc) (hts : ∀ w ∈ fg_g, w.before args s = true) (hown : s.vm.findClass own = some m.cls) (hK : va_K D classes (me_T ca) s) (hP : va_P D classes (me_W ad ca M) H) (hD : va_D A (me_W ad ca M)) (hwf : me_wf N M) (hS : va_S A H0 H locs) (hj : j < N 1) (hlink : (Cond.fieldLink own index "FilterGuardModel" "mostWaited" "I").before args s = true) (hdg : decode cc pc = .ok (.putfield index, 3)) (kk : ∀ (H1 : Heap) (locs1 : List Loc), va_P D classes (me_W ad ca M1) H1 → va_D A (me_W ad ca M1) → me_wf N M1 → va_S A H0 H1 locs1 → W p l e R s m args below meth c H1 locs1 cells slots Q (F0 m (pc + 3) ls rest)) : W p l e R s m args below meth c H locs cells slots Q (F0 m pc ls (.int v :: .ref (ad 1 j) :: rest)) := by
  subst he
  exact me_put (M1 := wI M 1 j 24 v) (k := 1) (f := 24) (C := "FilterGuardModel") (T := F_M) (Nf := 75) hexec hb hts i_M t_M t_M_ok n_M hown hK hP hD hwf hS hj (by decide) rfl (by decide) (by decide) hlink (fun _ h9 => h9) rfl rfl rfl rfl (fun a b h => me_wIE h) (me_fIw (by decide) (by decide)) hdg (fun H1 locs1 a1 a2 a3 => kk H1 locs1 a1 a2 (me_wfI hwf (fun z => absurd z (by decide)) (fun z => absurd z (by decide))) a3)
theorem d_M_jump_171 : decode prog_14_method_103_code 171 = .ok (.goto 54, 3) := by decide +kernel
theorem d_M_jump_157 : decode prog_14_method_103_code 157 = .ok (.aload_n 0, 1) := by decide +kernel
theorem d_M_jump_158 : decode prog_14_method_103_code 158 = .ok (.getfield 457, 3) := by decide +kernel
theorem d_M_jump_161 : decode prog_14_method_103_code 161 = .ok (.goto 7, 3) := by decide +kernel
theorem d_M_jump_109 : decode prog_14_method_103_code 109 = .ok (.bipush 21, 2) := by decide +kernel
theorem d_M_jump_111 : decode prog_14_method_103_code 111 = .ok (.ireturn, 1) := by decide +kernel
theorem d_M_jump_85 : decode prog_14_method_103_code 85 = .ok (.iconst 1, 1) := by decide +kernel
theorem d_M_jump_86 : decode prog_14_method_103_code 86 = .ok (.goto 4, 3) := by decide +kernel
theorem d_M_jump_60 : decode prog_14_method_103_code 60 = .ok (.bastore, 1) := by decide +kernel
theorem d_M_jump_61 : decode prog_14_method_103_code 61 = .ok (.aload_n 0, 1) := by decide +kernel
theorem d_M_jump_62 : decode prog_14_method_103_code 62 = .ok (.getfield 53, 3) := by decide +kernel
theorem g_M_29 {p : Program} {l : Launch} {e : Env} {R : Room} {s : Jvm.State} {m : MethodId} {args : Array Value} {below : List Frame} {meth : Method} {c : Code} {H : Heap} {locs : List Loc} {cells slots : Nat} {Q : Jvm.State → Prop} {cc : ByteArray} {pc : Nat} {ls : Array Slot} {rest : List Value} {D : va_G} {ad : Nat → Nat → Nat} {ca : Nat → ClassId} {M : me_M} {N : Nat → Nat} {own : String} {index j : Nat} (hexec : p.tables.exec = Jvm.exec) (hb : c.code = cc) (hts : ∀ w ∈ fg_g, w.before args s = true) (hown : s.vm.findClass own = some m.cls) (hK : va_K D classes (me_T ca) s) (hP : va_P D classes (me_W ad ca M) H) (hwf : me_wf N M) (hj : j < N 1) (hlink : (Cond.fieldLink own index "FilterGuardModel" "fell" "[Z").before args s = true) (hdg : decode cc pc = .ok (.getfield index, 3)) (kk : W p l e R s m args below meth c H locs cells slots Q (F0 m (pc + 3) ls (va_rf ((mR M 1 j 29).map (ad 15)) :: rest))) : W p l e R s m args below meth c H locs cells slots Q (F0 m pc ls (.ref (ad 1 j) :: rest)) := me_get (k := 1) (f := 29) (C := "FilterGuardModel") (T := F_M) (Nf := 75) hexec hb hts i_M hown hK hP hwf hj (by decide) rfl (by decide) (by decide) hlink (fun _ h9 => h9) hdg kk
theorem d_M_jump_65 : decode prog_14_method_103_code 65 = .ok (.iload_n 1, 1) := by decide +kernel
theorem d_M_jump_66 : decode prog_14_method_103_code 66 = .ok (.aload_n 0, 1) := by decide +kernel
theorem d_M_jump_67 : decode prog_14_method_103_code 67 = .ok (.getfield 53, 3) := by decide +kernel
theorem d_M_jump_70 : decode prog_14_method_103_code 70 = .ok (.iload_n 1, 1) := by decide +kernel
theorem d_M_jump_71 : decode prog_14_method_103_code 71 = .ok (.baload, 1) := by decide +kernel
theorem d_M_jump_72 : decode prog_14_method_103_code 72 = .ok (.ifCond .ne 13, 3) := by decide +kernel
theorem d_M_jump_75 : decode prog_14_method_103_code 75 = .ok (.aload_n 0, 1) := by decide +kernel
theorem d_M_jump_76 : decode prog_14_method_103_code 76 = .ok (.getfield 454, 3) := by decide +kernel
theorem d_M_jump_79 : decode prog_14_method_103_code 79 = .ok (.iconst 2, 1) := by decide +kernel
theorem d_M_jump_80 : decode prog_14_method_103_code 80 = .ok (.iand, 1) := by decide +kernel
theorem d_M_jump_81 : decode prog_14_method_103_code 81 = .ok (.iconst 2, 1) := by decide +kernel
theorem d_M_jump_82 : decode prog_14_method_103_code 82 = .ok (.if_icmp .ne 7, 3) := by decide +kernel
theorem d_M_jump_89 : decode prog_14_method_103_code 89 = .ok (.iconst 0, 1) := by decide +kernel
theorem d_M_jump_55 : decode prog_14_method_103_code 55 = .ok (.iconst 1, 1) := by decide +kernel
theorem d_M_jump_56 : decode prog_14_method_103_code 56 = .ok (.goto 4, 3) := by decide +kernel
theorem d_M_jump_0 : decode prog_14_method_103_code 0 = .ok (.aload_n 0, 1) := by decide +kernel
theorem d_M_jump_1 : decode prog_14_method_103_code 1 = .ok (.aload_n 0, 1) := by decide +kernel
theorem d_M_jump_2 : decode prog_14_method_103_code 2 = .ok (.getfield 37, 3) := by decide +kernel
theorem d_M_jump_5 : decode prog_14_method_103_code 5 = .ok (.iload_n 1, 1) := by decide +kernel
theorem d_M_jump_6 : decode prog_14_method_103_code 6 = .ok (.laload, 1) := by decide +kernel
theorem d_M_jump_7 : decode prog_14_method_103_code 7 = .ok (.invokevirtual 517, 3) := by decide +kernel
theorem u_2211 : Cond.methodLink "FilterGuardModel" 517 ⟨"FilterGuardModel", "relate", "(J)I"⟩ ∈ fg_g := fg_in (List.mem_of_getElem? (i := 2211) (by decide +kernel)) rfl
theorem u_2214 : Cond.code ⟨"FilterGuardModel", "relate", "(J)I"⟩ prog_14_method_93_code 16 (some .int) ∈ fg_g := fg_in (List.mem_of_getElem? (i := 2214) (by decide +kernel)) rfl
theorem u_2213 : Cond.instanceMethod ⟨"FilterGuardModel", "relate", "(J)I"⟩ ∈ fg_g := fg_in (List.mem_of_getElem? (i := 2213) (by decide +kernel)) rfl
theorem u_127 : Cond.selects "FilterGuardModel" ⟨"FilterGuardModel", "relate", "(J)I"⟩ ⟨"FilterGuardModel", "relate", "(J)I"⟩ ∈ fg_g := fg_in (List.mem_of_getElem? (i := 127) (by decide +kernel)) rfl
theorem d_M_jump_10 : decode prog_14_method_103_code 10 = .ok (.istore_n 2, 1) := by decide +kernel
theorem d_M_jump_11 : decode prog_14_method_103_code 11 = .ok (.iload_n 2, 1) := by decide +kernel
theorem d_M_jump_12 : decode prog_14_method_103_code 12 = .ok (.ifCond .le 5, 3) := by decide +kernel
theorem d_M_jump_17 : decode prog_14_method_103_code 17 = .ok (.iload_n 1, 1) := by decide +kernel
theorem d_M_jump_18 : decode prog_14_method_103_code 18 = .ok (.iconst 1, 1) := by decide +kernel
theorem d_M_jump_19 : decode prog_14_method_103_code 19 = .ok (.iadd, 1) := by decide +kernel
theorem d_M_jump_20 : decode prog_14_method_103_code 20 = .ok (.aload_n 0, 1) := by decide +kernel
theorem d_M_jump_21 : decode prog_14_method_103_code 21 = .ok (.getfield 37, 3) := by decide +kernel
theorem d_M_jump_24 : decode prog_14_method_103_code 24 = .ok (.iload_n 1, 1) := by decide +kernel
theorem d_M_jump_25 : decode prog_14_method_103_code 25 = .ok (.laload, 1) := by decide +kernel
theorem d_M_jump_26 : decode prog_14_method_103_code 26 = .ok (.invokestatic 321, 3) := by decide +kernel
theorem d_M_jump_29 : decode prog_14_method_103_code 29 = .ok (.iadd, 1) := by decide +kernel
theorem d_M_jump_30 : decode prog_14_method_103_code 30 = .ok (.istore_n 3, 1) := by decide +kernel
theorem d_M_jump_31 : decode prog_14_method_103_code 31 = .ok (.aload_n 0, 1) := by decide +kernel
theorem d_M_jump_32 : decode prog_14_method_103_code 32 = .ok (.getfield 50, 3) := by decide +kernel
theorem g_M_28 {p : Program} {l : Launch} {e : Env} {R : Room} {s : Jvm.State} {m : MethodId} {args : Array Value} {below : List Frame} {meth : Method} {c : Code} {H : Heap} {locs : List Loc} {cells slots : Nat} {Q : Jvm.State → Prop} {cc : ByteArray} {pc : Nat} {ls : Array Slot} {rest : List Value} {D : va_G} {ad : Nat → Nat → Nat} {ca : Nat → ClassId} {M : me_M} {N : Nat → Nat} {own : String} {index j : Nat} (hexec : p.tables.exec = Jvm.exec) (hb : c.code = cc) (hts : ∀ w ∈ fg_g, w.before args s = true) (hown : s.vm.findClass own = some m.cls) (hK : va_K D classes (me_T ca) s) (hP : va_P D classes (me_W ad ca M) H) (hwf : me_wf N M) (hj : j < N 1) (hlink : (Cond.fieldLink own index "FilterGuardModel" "went" "[Z").before args s = true) (hdg : decode cc pc = .ok (.getfield index, 3)) (kk : W p l e R s m args below meth c H locs cells slots Q (F0 m (pc + 3) ls (va_rf ((mR M 1 j 28).map (ad 15)) :: rest))) : W p l e R s m args below meth c H locs cells slots Q (F0 m pc ls (.ref (ad 1 j) :: rest)) := me_get (k := 1) (f := 28) (C := "FilterGuardModel") (T := F_M) (Nf := 75) hexec hb hts i_M hown hK hP hwf hj (by decide) rfl (by decide) (by decide) hlink (fun _ h9 => h9) hdg kk
theorem d_M_jump_35 : decode prog_14_method_103_code 35 = .ok (.iload_n 1, 1) := by decide +kernel
theorem d_M_jump_36 : decode prog_14_method_103_code 36 = .ok (.aload_n 0, 1) := by decide +kernel
theorem d_M_jump_37 : decode prog_14_method_103_code 37 = .ok (.getfield 50, 3) := by decide +kernel
theorem d_M_jump_40 : decode prog_14_method_103_code 40 = .ok (.iload_n 1, 1) := by decide +kernel
theorem d_M_jump_41 : decode prog_14_method_103_code 41 = .ok (.baload, 1) := by decide +kernel
theorem d_M_jump_42 : decode prog_14_method_103_code 42 = .ok (.ifCond .ne 13, 3) := by decide +kernel
theorem d_M_jump_45 : decode prog_14_method_103_code 45 = .ok (.aload_n 0, 1) := by decide +kernel
theorem d_M_jump_46 : decode prog_14_method_103_code 46 = .ok (.getfield 454, 3) := by decide +kernel
theorem d_M_jump_49 : decode prog_14_method_103_code 49 = .ok (.iconst 1, 1) := by decide +kernel
theorem d_M_jump_50 : decode prog_14_method_103_code 50 = .ok (.iand, 1) := by decide +kernel
theorem d_M_jump_51 : decode prog_14_method_103_code 51 = .ok (.iconst 1, 1) := by decide +kernel
theorem d_M_jump_52 : decode prog_14_method_103_code 52 = .ok (.if_icmp .ne 7, 3) := by decide +kernel
theorem d_M_jump_59 : decode prog_14_method_103_code 59 = .ok (.iconst 0, 1) := by decide +kernel
theorem d_M_jump_15 : decode prog_14_method_103_code 15 = .ok (.iload_n 2, 1) := by decide +kernel
theorem d_M_jump_16 : decode prog_14_method_103_code 16 = .ok (.ireturn, 1) := by decide +kernel
abbrev y_M_jump : MethodName := ⟨"FilterGuardModel", "jump", "(I)I"⟩
def rm_M_jump : Room := { frames := 9, cells := 0, slots := 0, locals := 233 }
abbrev q_M_jump (D : va_G) (ad : Nat → Nat → Nat) (ca : Nat → ClassId) (N : Nat → Nat) (M0 MZ : me_M) (RZ : Int32) (A : Nat → Prop) : Array Value → Jvm.State → Outcome → Jvm.State → Prop := va_Qi (fun r (_ : Unit) => r = RZ ∧ me_wf N MZ ∧ me_kp M0 MZ) (fg_B D A (fun _ => me_W ad ca MZ) (fun _ => [])) A
set_option maxHeartbeats 4000000 in
set_option maxRecDepth 100000 in
theorem c_M_jump (l : Launch) (D : va_G) (ad : Nat → Nat → Nat) (ca : Nat → ClassId) (N : Nat → Nat) (M0 MZ : me_M) (RZ : Int32) (j0 : Nat) (x1 : Int32) (h : f_M_jump M0 j0 x1 = (some (MZ, RZ))) (hwf : me_wf N M0) (hj0 : j0 < N 1) (sz : Nat) : Met l y_M_jump (fg_w y_M_jump prog_14_method_103_code 4 (some .int)) rm_M_jump (va_Pc [.ref (ad 1 j0), .int x1] (fz_P D (me_T ca) (me_W ad ca M0) sz)) (q_M_jump D ad ca N M0 MZ RZ (va_A (me_W ad ca M0) sz)) rm_M_jump.cells rm_M_jump.slots (va_A (me_W ad ca M0) sz) := by
  refine fz_enter (fun A => q_M_jump D ad ca N M0 MZ RZ A) (by decide +kernel) (Nat.le_of_ble_eq_true rfl) ?_
  intro p e s m below meth c ls A hx hb hml hown hts hr hlocks hin hP hK hD hS hA hX hl hz
  have hl : lv_has ls 4 [(0, .ref (ad 1 j0)), (1, .int x1)] := hl
  unfold f_M_jump at h
  have hkp : me_kp M0 M0 := me_kp.rf
  have hkb := hkp
  have b_90 : ∀ (M : me_M) (y3 : Int32) (s0 : Int32) (s1 : Int32) (s2 : Nat) (H : Heap) (locs : List Loc) (ls : Array Slot), f_M_jump_b90 j0 M y3 s0 s1 s2 = (some (MZ, RZ)) → (s0 = 1 ∨ s0 = 0) → (s2 < N 15) → me_wf N M → me_kp M0 M → va_P D classes (me_W ad ca M) H → va_D A (me_W ad ca M) → va_S A s.heap H locs → lv_has ls 4 [(0, .ref (ad 1 j0)), (3, .int y3)] → W p l e rm_M_jump s m [.ref (ad 1 j0), .int x1].toArray below meth c H locs 0 0 (MQ below (q_M_jump D ad ca N M0 MZ RZ A) [.ref (ad 1 j0), .int x1].toArray s rm_M_jump.cells rm_M_jump.slots A) (F0 m 90 ls [.int s0, .int s1, .ref (ad 15 s2)]) := by
    intro M y3 s0 s1 s2 H locs ls h zs0 hs2 hwf hkp hP hD hS hl
    unfold f_M_jump_b90 at h
    have hkb := hkp
    obtain ⟨g1, h⟩ := gd_ob h
    obtain ⟨M2, eM2, h⟩ := st_ob h
    refine me_zast eM2 hx hb hK hP hD hwf hS hs2 g1 d_M_jump_90 (fun H locs hP hD hwf hS => ?_)
    have hkp := kp_I eM2 hkp
    refine lv_aload_n hx hb d_M_jump_91 rfl (lv_at hl 0 rfl) ?_
    refine g_M_68 hx hb hts hown hK hP hwf hj0 (hts _ u_1809) d_M_jump_92 ?_
    refine lv_iconst (v := 3) hx hb d_M_jump_95 (by decide) ?_
    refine lv_icmp_ne (tgt := 174) hx hb d_M_jump_96 (by decide) (fun c3 => ?_) (fun c3 => ?_)
    · have h := if_f c3 h
      refine lv_aload_n hx hb d_M_jump_174 rfl (lv_at hl 0 rfl) ?_
      refine g_M_68 hx hb hts hown hK hP hwf hj0 (hts _ u_1809) d_M_jump_175 ?_
      refine lv_iconst (v := 1) hx hb d_M_jump_178 (by decide) ?_
      refine lv_icmp_ne (tgt := 213) hx hb d_M_jump_179 (by decide) (fun c4 => ?_) (fun c4 => ?_)
      · have h := if_f c4 h
        refine lv_aload_n hx hb d_M_jump_213 rfl (lv_at hl 0 rfl) ?_
        refine g_M_68 hx hb hts hown hK hP hwf hj0 (hts _ u_1809) d_M_jump_214 ?_
        refine lv_if_ne (tgt := 225) hx hb d_M_jump_217 (by decide) (fun c5 => ?_) (fun c5 => ?_)
        · have h := if_f c5 h
          refine lv_iconst (v := 0) hx hb d_M_jump_225 (by decide) ?_
          exact me_reti (me_kp M0) h hx hb hr hlocks hwf hkp hP hK hD hS d_M_jump_226
        have h := if_t c5 h
        refine lv_aload_n hx hb d_M_jump_220 rfl (lv_at hl 0 rfl) ?_
        refine lv_iconst (v := (-1)) hx hb d_M_jump_221 (by decide) ?_
        obtain ⟨M6, eM6, h⟩ := st_ob h
        refine p_M_70 eM6 hx hb hts hown hK hP hD hwf hS hj0 (hts _ u_1811) d_M_jump_222 (fun H locs hP hD hwf hS => ?_)
        have hkp := kp_I eM6 hkp
        refine lv_iconst (v := 0) hx hb d_M_jump_225 (by decide) ?_
        exact me_reti (me_kp M0) h hx hb hr hlocks hwf hkp hP hK hD hS d_M_jump_226
      have h := if_t c4 h
      refine lv_aload_n hx hb d_M_jump_182 rfl (lv_at hl 0 rfl) ?_
      refine g_M_62 hx hb hts hown hK hP hwf hj0 (hts _ u_1803) d_M_jump_183 ?_
      refine lv_sipush (v := 200) hx hb d_M_jump_186 (by decide) ?_
      refine lv_icmp_ge (tgt := 205) hx hb d_M_jump_189 (by decide) (fun c7 => ?_) (fun c7 => ?_)
      · have h := if_t c7 h
        refine lv_aload_n hx hb d_M_jump_205 rfl (lv_at hl 0 rfl) ?_
        refine lv_iload_n hx hb d_M_jump_206 rfl (lv_at hl 1 rfl) ?_
        obtain ⟨M8, eM8, h⟩ := st_ob h
        refine p_M_70 eM8 hx hb hts hown hK hP hD hwf hS hj0 (hts _ u_1811) d_M_jump_207 (fun H locs hP hD hwf hS => ?_)
        have hkp := kp_I eM8 hkp
        refine lv_goto (tgt := 225) hx hb d_M_jump_210 (by decide) ?_
        refine lv_iconst (v := 0) hx hb d_M_jump_225 (by decide) ?_
        exact me_reti (me_kp M0) h hx hb hr hlocks hwf hkp hP hK hD hS d_M_jump_226
      have h := if_f c7 h
      refine lv_aload_n hx hb d_M_jump_192 rfl (lv_at hl 0 rfl) ?_
      refine lv_sipush (v := 201) hx hb d_M_jump_193 (by decide) ?_
      refine lv_aload_n hx hb d_M_jump_196 rfl (lv_at hl 0 rfl) ?_
      refine g_M_62 hx hb hts hown hK hP hwf hj0 (hts _ u_1803) d_M_jump_197 ?_
      refine lv_iadd hx hb d_M_jump_200 ?_
      refine lv_iconst (v := 0) hx hb d_M_jump_201 (by decide) ?_
      obtain ⟨M9, eM9, h⟩ := bd_ob h
      refine me_thenv0 (M1 := M9) (me_runV (C := "FilterGuardModel") (As := [.int (201 + (mI M2 1 j0 62)), .int 0]) (rest := []) ⟨hx, hb, hml, hown, hts⟩ (c_M_copyState l D ad ca N M2 M9 j0 (201 + (mI M2 1 j0 62)) (0 : Int32) eM9 hwf hj0 _) rfl (by show fg_nm y_M_copyState 2; decide +kernel) u_2088 u_2090 u_101 u_192 u_2091 ⟨Nat.le_of_ble_eq_true rfl, Nat.le_of_ble_eq_true rfl⟩ hX hz hK hP hD hwf hS hA hj0 (by decide) rfl rfl rfl hl.1 (Nat.le_of_ble_eq_true rfl) d_M_jump_202 ⟨Nat.le_of_ble_eq_true rfl, Nat.le_of_ble_eq_true rfl⟩) hP hD hK hS hA rfl rfl (fun H locs hw hP hD hS => ?_)
      obtain ⟨hwf, hk9⟩ := hw
      have hkp := hkp.tr hk9
      refine lv_aload_n hx hb d_M_jump_205 rfl (lv_at hl 0 rfl) ?_
      refine lv_iload_n hx hb d_M_jump_206 rfl (lv_at hl 1 rfl) ?_
      obtain ⟨M10, eM10, h⟩ := st_ob h
      refine p_M_70 eM10 hx hb hts hown hK hP hD hwf hS hj0 (hts _ u_1811) d_M_jump_207 (fun H locs hP hD hwf hS => ?_)
      have hkp := kp_I eM10 hkp
      refine lv_goto (tgt := 225) hx hb d_M_jump_210 (by decide) ?_
      refine lv_iconst (v := 0) hx hb d_M_jump_225 (by decide) ?_
      exact me_reti (me_kp M0) h hx hb hr hlocks hwf hkp hP hK hD hS d_M_jump_226
    have h := if_t c3 h
    refine lv_aload_n hx hb d_M_jump_99 rfl (lv_at hl 0 rfl) ?_
    refine g_M_62 hx hb hts hown hK hP hwf hj0 (hts _ u_1803) d_M_jump_100 ?_
    refine lv_sipush (v := 200) hx hb d_M_jump_103 (by decide) ?_
    refine lv_icmp_ne (tgt := 112) hx hb d_M_jump_106 (by decide) (fun c11 => ?_) (fun c11 => ?_)
    · have h := if_f c11 h
      refine lv_aload_n hx hb d_M_jump_112 rfl (lv_at hl 0 rfl) ?_
      refine g_M_63 hx hb hts hown hK hP hwf hj0 (hts _ u_1804) d_M_jump_113 ?_
      obtain ⟨j12, e13, h⟩ := bd_ob h
      have hj12 : j12 < N 13 := (hwf.2.1 1 j0 63 _ (kp_r hkb hkp e13) (by decide) hj0)
      refine me_opt (j := j12) (kp_r hkb hkp e13) ?_
      refine lv_aload_n hx hb d_M_jump_116 rfl (lv_at hl 0 rfl) ?_
      refine g_M_62 hx hb hts hown hK hP hwf hj0 (hts _ u_1803) d_M_jump_117 ?_
      refine lv_iload_n hx hb d_M_jump_120 rfl (lv_at hl 1 rfl) ?_
      obtain ⟨g14, h⟩ := gd_ob h
      obtain ⟨M15, eM15, h⟩ := st_ob h
      refine me_iast eM15 hx hb hK hP hD hwf hS hj12 (kp_z hkb.z hkp.z g14) d_M_jump_121 (fun H locs hP hD hwf hS => ?_)
      have hkp := kp_I eM15 hkp
      refine lv_aload_n hx hb d_M_jump_122 rfl (lv_at hl 0 rfl) ?_
      refine g_M_64 hx hb hts hown hK hP hwf hj0 (hts _ u_1805) d_M_jump_123 ?_
      obtain ⟨j16, e17, h⟩ := bd_ob h
      have hj16 : j16 < N 13 := (hwf.2.1 1 j0 64 _ (kp_r hkb hkp e17) (by decide) hj0)
      refine me_opt (j := j16) (kp_r hkb hkp e17) ?_
      refine lv_aload_n hx hb d_M_jump_126 rfl (lv_at hl 0 rfl) ?_
      refine g_M_62 hx hb hts hown hK hP hwf hj0 (hts _ u_1803) d_M_jump_127 ?_
      refine lv_aload_n hx hb d_M_jump_130 rfl (lv_at hl 0 rfl) ?_
      refine g_M_65 hx hb hts hown hK hP hwf hj0 (hts _ u_1806) d_M_jump_131 ?_
      obtain ⟨g18, h⟩ := gd_ob h
      obtain ⟨M19, eM19, h⟩ := st_ob h
      refine me_iast eM19 hx hb hK hP hD hwf hS hj16 (kp_z hkb.z hkp.z g18) d_M_jump_134 (fun H locs hP hD hwf hS => ?_)
      have hkp := kp_I eM19 hkp
      refine lv_aload_n hx hb d_M_jump_135 rfl (lv_at hl 0 rfl) ?_
      refine lv_dup hx hb d_M_jump_136 rfl ?_
      refine g_M_62 hx hb hts hown hK hP hwf hj0 (hts _ u_1803) d_M_jump_137 ?_
      refine lv_iconst (v := 1) hx hb d_M_jump_140 (by decide) ?_
      refine lv_iadd hx hb d_M_jump_141 ?_
      obtain ⟨M20, eM20, h⟩ := st_ob h
      refine p_M_62 eM20 hx hb hts hown hK hP hD hwf hS hj0 (hts _ u_1803) d_M_jump_142 (fun H locs hP hD hwf hS => ?_)
      have hkp := kp_I eM20 hkp
      refine lv_aload_n hx hb d_M_jump_145 rfl (lv_at hl 0 rfl) ?_
      refine lv_aload_n hx hb d_M_jump_146 rfl (lv_at hl 0 rfl) ?_
      refine g_M_62 hx hb hts hown hK hP hwf hj0 (hts _ u_1803) d_M_jump_147 ?_
      refine lv_aload_n hx hb d_M_jump_150 rfl (lv_at hl 0 rfl) ?_
      refine g_M_24 hx hb hts hown hK hP hwf hj0 (hts _ u_1765) d_M_jump_151 ?_
      refine lv_icmp_le (tgt := 164) hx hb d_M_jump_154 (by decide) (fun c21 => ?_) (fun c21 => ?_)
      · have h := if_t c21 h
        refine lv_aload_n hx hb d_M_jump_164 rfl (lv_at hl 0 rfl) ?_
        refine g_M_24 hx hb hts hown hK hP hwf hj0 (hts _ u_1765) d_M_jump_165 ?_
        obtain ⟨M22, eM22, h⟩ := st_ob h
        refine p_M_24 eM22 hx hb hts hown hK hP hD hwf hS hj0 (hts _ u_1765) d_M_jump_168 (fun H locs hP hD hwf hS => ?_)
        have hkp := kp_I eM22 hkp
        refine lv_goto (tgt := 225) hx hb d_M_jump_171 (by decide) ?_
        refine lv_iconst (v := 0) hx hb d_M_jump_225 (by decide) ?_
        exact me_reti (me_kp M0) h hx hb hr hlocks hwf hkp hP hK hD hS d_M_jump_226
      have h := if_f c21 h
      refine lv_aload_n hx hb d_M_jump_157 rfl (lv_at hl 0 rfl) ?_
      refine g_M_62 hx hb hts hown hK hP hwf hj0 (hts _ u_1803) d_M_jump_158 ?_
      refine lv_goto (tgt := 168) hx hb d_M_jump_161 (by decide) ?_
      obtain ⟨M23, eM23, h⟩ := st_ob h
      refine p_M_24 eM23 hx hb hts hown hK hP hD hwf hS hj0 (hts _ u_1765) d_M_jump_168 (fun H locs hP hD hwf hS => ?_)
      have hkp := kp_I eM23 hkp
      refine lv_goto (tgt := 225) hx hb d_M_jump_171 (by decide) ?_
      refine lv_iconst (v := 0) hx hb d_M_jump_225 (by decide) ?_
      exact me_reti (me_kp M0) h hx hb hr hlocks hwf hkp hP hK hD hS d_M_jump_226
    have h := if_t c11 h
    refine lv_bipush (v := 21) hx hb d_M_jump_109 (by decide) ?_
    exact me_reti (me_kp M0) h hx hb hr hlocks hwf hkp hP hK hD hS d_M_jump_111
  have b_85 : ∀ (M : me_M) (y3 : Int32) (s0 : Int32) (s1 : Nat) (H : Heap) (locs : List Loc) (ls : Array Slot), f_M_jump_b85 j0 M y3 s0 s1 = (some (MZ, RZ)) → (s1 < N 15) → me_wf N M → me_kp M0 M → va_P D classes (me_W ad ca M) H → va_D A (me_W ad ca M) → va_S A s.heap H locs → lv_has ls 4 [(0, .ref (ad 1 j0)), (3, .int y3)] → W p l e rm_M_jump s m [.ref (ad 1 j0), .int x1].toArray below meth c H locs 0 0 (MQ below (q_M_jump D ad ca N M0 MZ RZ A) [.ref (ad 1 j0), .int x1].toArray s rm_M_jump.cells rm_M_jump.slots A) (F0 m 85 ls [.int s0, .ref (ad 15 s1)]) := by
    intro M y3 s0 s1 H locs ls h hs1 hwf hkp hP hD hS hl
    unfold f_M_jump_b85 at h
    have hkb := hkp
    refine lv_iconst (v := 1) hx hb d_M_jump_85 (by decide) ?_
    refine lv_goto (tgt := 90) hx hb d_M_jump_86 (by decide) ?_
    exact b_90 M y3 (1 : Int32) s0 s1 _ _ _ h (by decide) hs1 hwf hkp hP hD hS (lv_sub hl [0, 1] rfl)
  have b_60 : ∀ (M : me_M) (y3 : Int32) (s0 : Int32) (s1 : Int32) (s2 : Nat) (H : Heap) (locs : List Loc) (ls : Array Slot), f_M_jump_b60 j0 x1 M y3 s0 s1 s2 = (some (MZ, RZ)) → (s0 = 1 ∨ s0 = 0) → (s2 < N 15) → me_wf N M → me_kp M0 M → va_P D classes (me_W ad ca M) H → va_D A (me_W ad ca M) → va_S A s.heap H locs → lv_has ls 4 [(0, .ref (ad 1 j0)), (1, .int x1), (3, .int y3)] → W p l e rm_M_jump s m [.ref (ad 1 j0), .int x1].toArray below meth c H locs 0 0 (MQ below (q_M_jump D ad ca N M0 MZ RZ A) [.ref (ad 1 j0), .int x1].toArray s rm_M_jump.cells rm_M_jump.slots A) (F0 m 60 ls [.int s0, .int s1, .ref (ad 15 s2)]) := by
    intro M y3 s0 s1 s2 H locs ls h zs0 hs2 hwf hkp hP hD hS hl
    unfold f_M_jump_b60 at h
    have hkb := hkp
    obtain ⟨g24, h⟩ := gd_ob h
    obtain ⟨M25, eM25, h⟩ := st_ob h
    refine me_zast eM25 hx hb hK hP hD hwf hS hs2 g24 d_M_jump_60 (fun H locs hP hD hwf hS => ?_)
    have hkp := kp_I eM25 hkp
    refine lv_aload_n hx hb d_M_jump_61 rfl (lv_at hl 0 rfl) ?_
    refine g_M_29 hx hb hts hown hK hP hwf hj0 (hts _ u_1770) d_M_jump_62 ?_
    obtain ⟨j26, e27, h⟩ := bd_ob h
    have hj26 : j26 < N 15 := (hwf.2.1 1 j0 29 _ (kp_r hkb hkp e27) (by decide) hj0)
    refine me_opt (j := j26) (kp_r hkb hkp e27) ?_
    refine lv_iload_n hx hb d_M_jump_65 rfl (lv_at hl 1 rfl) ?_
    refine lv_aload_n hx hb d_M_jump_66 rfl (lv_at hl 0 rfl) ?_
    refine g_M_29 hx hb hts hown hK hP hwf hj0 (hts _ u_1770) d_M_jump_67 ?_
    refine me_opt (j := j26) (kp_r hkb hkp e27) ?_
    refine lv_iload_n hx hb d_M_jump_70 rfl (lv_at hl 1 rfl) ?_
    obtain ⟨g28, h⟩ := gd_ob h
    refine me_zald hx hb hK hP hwf hj26 (kp_z hkb.z hkp.z g28) d_M_jump_71 ?_
    have z29 := hwf.2.2.2 15 j26 x1.toNatClampNeg rfl
    refine lv_if_ne (tgt := 85) hx hb d_M_jump_72 (by decide) (fun c30 => ?_) (fun c30 => ?_)
    · have h := if_f c30 h
      exact b_85 M25 y3 x1 j26 _ _ _ h hj26 hwf hkp hP hD hS (lv_sub hl [0, 2] rfl)
    have h := if_t c30 h
    refine lv_aload_n hx hb d_M_jump_75 rfl (lv_at hl 0 rfl) ?_
    refine g_M_68 hx hb hts hown hK hP hwf hj0 (hts _ u_1809) d_M_jump_76 ?_
    refine lv_iconst (v := 2) hx hb d_M_jump_79 (by decide) ?_
    refine lv_iand hx hb d_M_jump_80 ?_
    refine lv_iconst (v := 2) hx hb d_M_jump_81 (by decide) ?_
    refine lv_icmp_ne (tgt := 89) hx hb d_M_jump_82 (by decide) (fun c31 => ?_) (fun c31 => ?_)
    · have h := if_f c31 h
      refine lv_iconst (v := 0) hx hb d_M_jump_89 (by decide) ?_
      exact b_90 M25 y3 (0 : Int32) x1 j26 _ _ _ h (by decide) hj26 hwf hkp hP hD hS (lv_sub hl [0, 2] rfl)
    have h := if_t c31 h
    exact b_85 M25 y3 x1 j26 _ _ _ h hj26 hwf hkp hP hD hS (lv_sub hl [0, 2] rfl)
  have b_55 : ∀ (M : me_M) (y3 : Int32) (s0 : Int32) (s1 : Nat) (H : Heap) (locs : List Loc) (ls : Array Slot), f_M_jump_b55 j0 x1 M y3 s0 s1 = (some (MZ, RZ)) → (s1 < N 15) → me_wf N M → me_kp M0 M → va_P D classes (me_W ad ca M) H → va_D A (me_W ad ca M) → va_S A s.heap H locs → lv_has ls 4 [(0, .ref (ad 1 j0)), (1, .int x1), (3, .int y3)] → W p l e rm_M_jump s m [.ref (ad 1 j0), .int x1].toArray below meth c H locs 0 0 (MQ below (q_M_jump D ad ca N M0 MZ RZ A) [.ref (ad 1 j0), .int x1].toArray s rm_M_jump.cells rm_M_jump.slots A) (F0 m 55 ls [.int s0, .ref (ad 15 s1)]) := by
    intro M y3 s0 s1 H locs ls h hs1 hwf hkp hP hD hS hl
    unfold f_M_jump_b55 at h
    have hkb := hkp
    refine lv_iconst (v := 1) hx hb d_M_jump_55 (by decide) ?_
    refine lv_goto (tgt := 60) hx hb d_M_jump_56 (by decide) ?_
    exact b_60 M y3 (1 : Int32) s0 s1 _ _ _ h (by decide) hs1 hwf hkp hP hD hS (lv_sub hl [0, 1, 2] rfl)
  refine lv_aload_n hx hb d_M_jump_0 rfl (lv_at hl 0 rfl) ?_
  refine lv_aload_n hx hb d_M_jump_1 rfl (lv_at hl 0 rfl) ?_
  refine g_M_13 hx hb hts hown hK hP hwf hj0 (hts _ u_1754) d_M_jump_2 ?_
  obtain ⟨j32, e33, h⟩ := bd_ob h
  have hj32 : j32 < N 16 := (hwf.2.1 1 j0 13 _ e33 (by decide) hj0)
  refine me_opt (j := j32) e33 ?_
  refine lv_iload_n hx hb d_M_jump_5 rfl (lv_at hl 1 rfl) ?_
  obtain ⟨g34, h⟩ := gd_ob h
  refine me_lald hx hb hK hP hwf hj32 g34 d_M_jump_6 ?_
  obtain ⟨M35, r36, eM35, h⟩ := b2_ob h
  refine me_theni0 (M1 := M35) (me_runV (C := "FilterGuardModel") (As := [.long (mL M0 16 j32 x1.toNatClampNeg)]) (rest := []) ⟨hx, hb, hml, hown, hts⟩ (c_M_relate l D ad ca N M0 M35 r36 j0 (mL M0 16 j32 x1.toNatClampNeg) eM35 hwf hj0 _) rfl (by show fg_nm y_M_relate 1; decide +kernel) u_2211 u_2213 u_127 u_192 u_2214 ⟨Nat.le_of_ble_eq_true rfl, Nat.le_of_ble_eq_true rfl⟩ hX hz hK hP hD hwf hS hA hj0 (by decide) rfl rfl rfl hl.1 (Nat.le_of_ble_eq_true rfl) d_M_jump_7 ⟨Nat.le_of_ble_eq_true rfl, Nat.le_of_ble_eq_true rfl⟩) hP hD hK hS hA rfl rfl (fun H locs hw hP hD hS => ?_)
  obtain ⟨hwf, hk9⟩ := hw
  have hkp := hkp.tr hk9
  refine lv_istore_n (lv' := [(2, .int r36), (0, .ref (ad 1 j0)), (1, .int x1)]) hx hb d_M_jump_10 rfl hl (by decide) rfl (fun ls hl => ?_)
  refine lv_iload_n hx hb d_M_jump_11 rfl (lv_at hl 0 rfl) ?_
  refine lv_if_le (tgt := 17) hx hb d_M_jump_12 (by decide) (fun c37 => ?_) (fun c37 => ?_)
  · have h := if_t c37 h
    refine lv_iload_n hx hb d_M_jump_17 rfl (lv_at hl 2 rfl) ?_
    refine lv_iconst (v := 1) hx hb d_M_jump_18 (by decide) ?_
    refine lv_iadd hx hb d_M_jump_19 ?_
    refine lv_aload_n hx hb d_M_jump_20 rfl (lv_at hl 1 rfl) ?_
    refine g_M_13 hx hb hts hown hK hP hwf hj0 (hts _ u_1754) d_M_jump_21 ?_
    refine me_opt (j := j32) (kp_r hkb hkp e33) ?_
    refine lv_iload_n hx hb d_M_jump_24 rfl (lv_at hl 2 rfl) ?_
    refine me_lald hx hb hK hP hwf hj32 (kp_z hkb.z hkp.z g34) d_M_jump_25 ?_
    obtain ⟨r38, er38, h⟩ := bd_ob h
    refine me_pani' (r0 := r38) (fg_runS (wc := []) (tc := []) (A2 := A) (As := [.long (mL M35 16 j32 x1.toNatClampNeg)]) (rest := [.int (x1 + 1)]) ⟨hx, hb, hml, hown, hts⟩ (c_M_offsetOf l D r38 (mL M35 16 j32 x1.toNatClampNeg) er38 _) (by show fg_nm y_M_offsetOf 1; decide +kernel) u_2013 u_2014 u_192 u_2015 ⟨Nat.le_of_ble_eq_true rfl, Nat.le_of_ble_eq_true rfl⟩ hX me_P0 (hK.sub (tys' := []) [] rfl) me_D0 rfl hl.1 (Nat.le_of_ble_eq_true rfl) d_M_jump_26 ⟨Nat.le_of_ble_eq_true rfl, Nat.le_of_ble_eq_true rfl⟩) hP hD hK hS hA rfl rfl (fun H locs hw hP hD hS => ?_)
    refine lv_iadd hx hb d_M_jump_29 ?_
    obtain ⟨v39, ev39, h⟩ := st_ob h
    refine fg_topi (y := v39) ev39.symm ?_
    refine lv_istore_n (lv' := [(3, .int v39), (2, .int r36), (0, .ref (ad 1 j0)), (1, .int x1)]) hx hb d_M_jump_30 rfl hl (by decide) rfl (fun ls hl => ?_)
    refine lv_aload_n hx hb d_M_jump_31 rfl (lv_at hl 2 rfl) ?_
    refine g_M_28 hx hb hts hown hK hP hwf hj0 (hts _ u_1769) d_M_jump_32 ?_
    obtain ⟨j40, e41, h⟩ := bd_ob h
    have hj40 : j40 < N 15 := (hwf.2.1 1 j0 28 _ (kp_r hkb hkp e41) (by decide) hj0)
    refine me_opt (j := j40) (kp_r hkb hkp e41) ?_
    refine lv_iload_n hx hb d_M_jump_35 rfl (lv_at hl 3 rfl) ?_
    refine lv_aload_n hx hb d_M_jump_36 rfl (lv_at hl 2 rfl) ?_
    refine g_M_28 hx hb hts hown hK hP hwf hj0 (hts _ u_1769) d_M_jump_37 ?_
    refine me_opt (j := j40) (kp_r hkb hkp e41) ?_
    refine lv_iload_n hx hb d_M_jump_40 rfl (lv_at hl 3 rfl) ?_
    obtain ⟨g42, h⟩ := gd_ob h
    refine me_zald hx hb hK hP hwf hj40 (kp_z hkb.z hkp.z g42) d_M_jump_41 ?_
    have z43 := hwf.2.2.2 15 j40 x1.toNatClampNeg rfl
    refine lv_if_ne (tgt := 55) hx hb d_M_jump_42 (by decide) (fun c44 => ?_) (fun c44 => ?_)
    · have h := if_f c44 h
      exact b_55 M35 v39 x1 j40 _ _ _ h hj40 hwf hkp hP hD hS (lv_sub hl [2, 3, 0] rfl)
    have h := if_t c44 h
    refine lv_aload_n hx hb d_M_jump_45 rfl (lv_at hl 2 rfl) ?_
    refine g_M_68 hx hb hts hown hK hP hwf hj0 (hts _ u_1809) d_M_jump_46 ?_
    refine lv_iconst (v := 1) hx hb d_M_jump_49 (by decide) ?_
    refine lv_iand hx hb d_M_jump_50 ?_
    refine lv_iconst (v := 1) hx hb d_M_jump_51 (by decide) ?_
    refine lv_icmp_ne (tgt := 59) hx hb d_M_jump_52 (by decide) (fun c45 => ?_) (fun c45 => ?_)
    · have h := if_f c45 h
      refine lv_iconst (v := 0) hx hb d_M_jump_59 (by decide) ?_
      exact b_60 M35 v39 (0 : Int32) x1 j40 _ _ _ h (by decide) hj40 hwf hkp hP hD hS (lv_sub hl [2, 3, 0] rfl)
    have h := if_t c45 h
    exact b_55 M35 v39 x1 j40 _ _ _ h hj40 hwf hkp hP hD hS (lv_sub hl [2, 3, 0] rfl)
  have h := if_f c37 h
  refine lv_iload_n hx hb d_M_jump_15 rfl (lv_at hl 0 rfl) ?_
  exact me_reti (me_kp M0) h hx hb hr hlocks hwf hkp hP hK hD hS d_M_jump_16
theorem d_M_compute_83 : decode prog_14_method_105_code 83 = .ok (.istore 4, 2) := by decide +kernel
theorem d_M_compute_85 : decode prog_14_method_105_code 85 = .ok (.aload_n 0, 1) := by decide +kernel
theorem d_M_compute_86 : decode prog_14_method_105_code 86 = .ok (.getfield 56, 3) := by decide +kernel
theorem g_M_30 {p : Program} {l : Launch} {e : Env} {R : Room} {s : Jvm.State} {m : MethodId} {args : Array Value} {below : List Frame} {meth : Method} {c : Code} {H : Heap} {locs : List Loc} {cells slots : Nat} {Q : Jvm.State → Prop} {cc : ByteArray} {pc : Nat} {ls : Array Slot} {rest : List Value} {D : va_G} {ad : Nat → Nat → Nat} {ca : Nat → ClassId} {M : me_M} {N : Nat → Nat} {own : String} {index j : Nat} (hexec : p.tables.exec = Jvm.exec) (hb : c.code = cc) (hts : ∀ w ∈ fg_g, w.before args s = true) (hown : s.vm.findClass own = some m.cls) (hK : va_K D classes (me_T ca) s) (hP : va_P D classes (me_W ad ca M) H) (hwf : me_wf N M) (hj : j < N 1) (hlink : (Cond.fieldLink own index "FilterGuardModel" "exactSo" "[I").before args s = true) (hdg : decode cc pc = .ok (.getfield index, 3)) (kk : W p l e R s m args below meth c H locs cells slots Q (F0 m (pc + 3) ls (va_rf ((mR M 1 j 30).map (ad 13)) :: rest))) : W p l e R s m args below meth c H locs cells slots Q (F0 m pc ls (.ref (ad 1 j) :: rest)) := me_get (k := 1) (f := 30) (C := "FilterGuardModel") (T := F_M) (Nf := 75) hexec hb hts i_M hown hK hP hwf hj (by decide) rfl (by decide) (by decide) hlink (fun _ h9 => h9) hdg kk
theorem d_M_compute_89 : decode prog_14_method_105_code 89 = .ok (.iload_n 1, 1) := by decide +kernel
theorem d_M_compute_90 : decode prog_14_method_105_code 90 = .ok (.iload 4, 2) := by decide +kernel
theorem d_M_compute_92 : decode prog_14_method_105_code 92 = .ok (.ifCond .eq 7, 3) := by decide +kernel
theorem d_M_compute_99 : decode prog_14_method_105_code 99 = .ok (.iconst 2, 1) := by decide +kernel
theorem d_M_compute_100 : decode prog_14_method_105_code 100 = .ok (.iastore, 1) := by decide +kernel
theorem d_M_compute_101 : decode prog_14_method_105_code 101 = .ok (.aload_n 0, 1) := by decide +kernel
theorem d_M_compute_102 : decode prog_14_method_105_code 102 = .ok (.getfield 59, 3) := by decide +kernel
theorem g_M_31 {p : Program} {l : Launch} {e : Env} {R : Room} {s : Jvm.State} {m : MethodId} {args : Array Value} {below : List Frame} {meth : Method} {c : Code} {H : Heap} {locs : List Loc} {cells slots : Nat} {Q : Jvm.State → Prop} {cc : ByteArray} {pc : Nat} {ls : Array Slot} {rest : List Value} {D : va_G} {ad : Nat → Nat → Nat} {ca : Nat → ClassId} {M : me_M} {N : Nat → Nat} {own : String} {index j : Nat} (hexec : p.tables.exec = Jvm.exec) (hb : c.code = cc) (hts : ∀ w ∈ fg_g, w.before args s = true) (hown : s.vm.findClass own = some m.cls) (hK : va_K D classes (me_T ca) s) (hP : va_P D classes (me_W ad ca M) H) (hwf : me_wf N M) (hj : j < N 1) (hlink : (Cond.fieldLink own index "FilterGuardModel" "exactAs" "[J").before args s = true) (hdg : decode cc pc = .ok (.getfield index, 3)) (kk : W p l e R s m args below meth c H locs cells slots Q (F0 m (pc + 3) ls (va_rf ((mR M 1 j 31).map (ad 16)) :: rest))) : W p l e R s m args below meth c H locs cells slots Q (F0 m pc ls (.ref (ad 1 j) :: rest)) := me_get (k := 1) (f := 31) (C := "FilterGuardModel") (T := F_M) (Nf := 75) hexec hb hts i_M hown hK hP hwf hj (by decide) rfl (by decide) (by decide) hlink (fun _ h9 => h9) hdg kk
theorem d_M_compute_105 : decode prog_14_method_105_code 105 = .ok (.iload_n 1, 1) := by decide +kernel
theorem d_M_compute_106 : decode prog_14_method_105_code 106 = .ok (.aload_n 0, 1) := by decide +kernel
theorem d_M_compute_107 : decode prog_14_method_105_code 107 = .ok (.getfield 104, 3) := by decide +kernel
theorem d_M_compute_110 : decode prog_14_method_105_code 110 = .ok (.iload_n 3, 1) := by decide +kernel
theorem d_M_compute_111 : decode prog_14_method_105_code 111 = .ok (.laload, 1) := by decide +kernel
theorem d_M_compute_112 : decode prog_14_method_105_code 112 = .ok (.lastore, 1) := by decide +kernel
theorem d_M_compute_113 : decode prog_14_method_105_code 113 = .ok (.iconst 0, 1) := by decide +kernel
theorem d_M_compute_114 : decode prog_14_method_105_code 114 = .ok (.ireturn, 1) := by decide +kernel
theorem d_M_compute_95 : decode prog_14_method_105_code 95 = .ok (.iconst 1, 1) := by decide +kernel
theorem d_M_compute_96 : decode prog_14_method_105_code 96 = .ok (.goto 4, 3) := by decide +kernel
theorem d_M_compute_82 : decode prog_14_method_105_code 82 = .ok (.iconst 0, 1) := by decide +kernel
theorem d_M_compute_78 : decode prog_14_method_105_code 78 = .ok (.iconst 1, 1) := by decide +kernel
theorem d_M_compute_79 : decode prog_14_method_105_code 79 = .ok (.goto 4, 3) := by decide +kernel
theorem d_M_compute_0 : decode prog_14_method_105_code 0 = .ok (.aload_n 0, 1) := by decide +kernel
theorem d_M_compute_1 : decode prog_14_method_105_code 1 = .ok (.aload_n 0, 1) := by decide +kernel
theorem d_M_compute_2 : decode prog_14_method_105_code 2 = .ok (.getfield 37, 3) := by decide +kernel
theorem d_M_compute_5 : decode prog_14_method_105_code 5 = .ok (.iload_n 1, 1) := by decide +kernel
theorem d_M_compute_6 : decode prog_14_method_105_code 6 = .ok (.laload, 1) := by decide +kernel
theorem d_M_compute_7 : decode prog_14_method_105_code 7 = .ok (.invokevirtual 544, 3) := by decide +kernel
theorem u_2316 : Cond.methodLink "FilterGuardModel" 544 ⟨"FilterGuardModel", "arithmetic", "(J)I"⟩ ∈ fg_g := fg_in (List.mem_of_getElem? (i := 2316) (by decide +kernel)) rfl
theorem u_2319 : Cond.code ⟨"FilterGuardModel", "arithmetic", "(J)I"⟩ prog_14_method_71_code 10 (some .int) ∈ fg_g := fg_in (List.mem_of_getElem? (i := 2319) (by decide +kernel)) rfl
theorem u_2318 : Cond.instanceMethod ⟨"FilterGuardModel", "arithmetic", "(J)I"⟩ ∈ fg_g := fg_in (List.mem_of_getElem? (i := 2318) (by decide +kernel)) rfl
theorem u_150 : Cond.selects "FilterGuardModel" ⟨"FilterGuardModel", "arithmetic", "(J)I"⟩ ⟨"FilterGuardModel", "arithmetic", "(J)I"⟩ ∈ fg_g := fg_in (List.mem_of_getElem? (i := 150) (by decide +kernel)) rfl
theorem d_M_compute_10 : decode prog_14_method_105_code 10 = .ok (.istore_n 2, 1) := by decide +kernel
theorem d_M_compute_11 : decode prog_14_method_105_code 11 = .ok (.aload_n 0, 1) := by decide +kernel
theorem d_M_compute_12 : decode prog_14_method_105_code 12 = .ok (.getfield 37, 3) := by decide +kernel
theorem d_M_compute_15 : decode prog_14_method_105_code 15 = .ok (.iload_n 1, 1) := by decide +kernel
theorem d_M_compute_16 : decode prog_14_method_105_code 16 = .ok (.laload, 1) := by decide +kernel
theorem d_M_compute_17 : decode prog_14_method_105_code 17 = .ok (.invokestatic 315, 3) := by decide +kernel
theorem d_M_compute_20 : decode prog_14_method_105_code 20 = .ok (.istore_n 3, 1) := by decide +kernel
theorem d_M_compute_21 : decode prog_14_method_105_code 21 = .ok (.iload_n 2, 1) := by decide +kernel
theorem d_M_compute_22 : decode prog_14_method_105_code 22 = .ok (.ifCond .le 5, 3) := by decide +kernel
theorem d_M_compute_27 : decode prog_14_method_105_code 27 = .ok (.aload_n 0, 1) := by decide +kernel
theorem d_M_compute_28 : decode prog_14_method_105_code 28 = .ok (.iload_n 3, 1) := by decide +kernel
theorem d_M_compute_29 : decode prog_14_method_105_code 29 = .ok (.invokevirtual 378, 3) := by decide +kernel
theorem d_M_compute_32 : decode prog_14_method_105_code 32 = .ok (.ifCond .eq 50, 3) := by decide +kernel
theorem d_M_compute_35 : decode prog_14_method_105_code 35 = .ok (.aload_n 0, 1) := by decide +kernel
theorem d_M_compute_36 : decode prog_14_method_105_code 36 = .ok (.iload_n 3, 1) := by decide +kernel
theorem d_M_compute_37 : decode prog_14_method_105_code 37 = .ok (.invokevirtual 192, 3) := by decide +kernel
theorem d_M_compute_40 : decode prog_14_method_105_code 40 = .ok (.ifCond .eq 42, 3) := by decide +kernel
theorem d_M_compute_43 : decode prog_14_method_105_code 43 = .ok (.aload_n 0, 1) := by decide +kernel
theorem d_M_compute_44 : decode prog_14_method_105_code 44 = .ok (.getfield 56, 3) := by decide +kernel
theorem d_M_compute_47 : decode prog_14_method_105_code 47 = .ok (.iload_n 1, 1) := by decide +kernel
theorem d_M_compute_48 : decode prog_14_method_105_code 48 = .ok (.iaload, 1) := by decide +kernel
theorem d_M_compute_49 : decode prog_14_method_105_code 49 = .ok (.ifCond .eq 29, 3) := by decide +kernel
theorem d_M_compute_52 : decode prog_14_method_105_code 52 = .ok (.aload_n 0, 1) := by decide +kernel
theorem d_M_compute_53 : decode prog_14_method_105_code 53 = .ok (.getfield 56, 3) := by decide +kernel
theorem d_M_compute_56 : decode prog_14_method_105_code 56 = .ok (.iload_n 1, 1) := by decide +kernel
theorem d_M_compute_57 : decode prog_14_method_105_code 57 = .ok (.iaload, 1) := by decide +kernel
theorem d_M_compute_58 : decode prog_14_method_105_code 58 = .ok (.iconst 1, 1) := by decide +kernel
theorem d_M_compute_59 : decode prog_14_method_105_code 59 = .ok (.if_icmp .ne 23, 3) := by decide +kernel
theorem d_M_compute_62 : decode prog_14_method_105_code 62 = .ok (.aload_n 0, 1) := by decide +kernel
theorem d_M_compute_63 : decode prog_14_method_105_code 63 = .ok (.getfield 59, 3) := by decide +kernel
theorem d_M_compute_66 : decode prog_14_method_105_code 66 = .ok (.iload_n 1, 1) := by decide +kernel
theorem d_M_compute_67 : decode prog_14_method_105_code 67 = .ok (.laload, 1) := by decide +kernel
theorem d_M_compute_68 : decode prog_14_method_105_code 68 = .ok (.aload_n 0, 1) := by decide +kernel
theorem d_M_compute_69 : decode prog_14_method_105_code 69 = .ok (.getfield 104, 3) := by decide +kernel
theorem d_M_compute_72 : decode prog_14_method_105_code 72 = .ok (.iload_n 3, 1) := by decide +kernel
theorem d_M_compute_73 : decode prog_14_method_105_code 73 = .ok (.laload, 1) := by decide +kernel
theorem d_M_compute_74 : decode prog_14_method_105_code 74 = .ok (.lcmp, 1) := by decide +kernel
theorem d_M_compute_75 : decode prog_14_method_105_code 75 = .ok (.ifCond .ne 7, 3) := by decide +kernel
theorem d_M_compute_25 : decode prog_14_method_105_code 25 = .ok (.iload_n 2, 1) := by decide +kernel
theorem d_M_compute_26 : decode prog_14_method_105_code 26 = .ok (.ireturn, 1) := by decide +kernel
abbrev y_M_compute : MethodName := ⟨"FilterGuardModel", "compute", "(I)I"⟩
def rm_M_compute : Room := { frames := 10, cells := 0, slots := 0, locals := 247 }
abbrev q_M_compute (D : va_G) (ad : Nat → Nat → Nat) (ca : Nat → ClassId) (N : Nat → Nat) (M0 MZ : me_M) (RZ : Int32) (A : Nat → Prop) : Array Value → Jvm.State → Outcome → Jvm.State → Prop := va_Qi (fun r (_ : Unit) => r = RZ ∧ me_wf N MZ ∧ me_kp M0 MZ) (fg_B D A (fun _ => me_W ad ca MZ) (fun _ => [])) A
set_option maxHeartbeats 4000000 in
set_option maxRecDepth 100000 in
theorem c_M_compute (l : Launch) (D : va_G) (ad : Nat → Nat → Nat) (ca : Nat → ClassId) (N : Nat → Nat) (M0 MZ : me_M) (RZ : Int32) (j0 : Nat) (x1 : Int32) (h : f_M_compute M0 j0 x1 = (some (MZ, RZ))) (hwf : me_wf N M0) (hj0 : j0 < N 1) (sz : Nat) : Met l y_M_compute (fg_w y_M_compute prog_14_method_105_code 5 (some .int)) rm_M_compute (va_Pc [.ref (ad 1 j0), .int x1] (fz_P D (me_T ca) (me_W ad ca M0) sz)) (q_M_compute D ad ca N M0 MZ RZ (va_A (me_W ad ca M0) sz)) rm_M_compute.cells rm_M_compute.slots (va_A (me_W ad ca M0) sz) := by
  refine fz_enter (fun A => q_M_compute D ad ca N M0 MZ RZ A) (by decide +kernel) (Nat.le_of_ble_eq_true rfl) ?_
  intro p e s m below meth c ls A hx hb hml hown hts hr hlocks hin hP hK hD hS hA hX hl hz
  have hl : lv_has ls 5 [(0, .ref (ad 1 j0)), (1, .int x1)] := hl
  unfold f_M_compute at h
  have hkp : me_kp M0 M0 := me_kp.rf
  have hkb := hkp
  have b_83 : ∀ (M : me_M) (y3 : Int32) (s0 : Int32) (H : Heap) (locs : List Loc) (ls : Array Slot), f_M_compute_b83 j0 x1 M y3 s0 = (some (MZ, RZ)) → (s0 = 1 ∨ s0 = 0) → me_wf N M → me_kp M0 M → va_P D classes (me_W ad ca M) H → va_D A (me_W ad ca M) → va_S A s.heap H locs → lv_has ls 5 [(0, .ref (ad 1 j0)), (1, .int x1), (3, .int y3)] → W p l e rm_M_compute s m [.ref (ad 1 j0), .int x1].toArray below meth c H locs 0 0 (MQ below (q_M_compute D ad ca N M0 MZ RZ A) [.ref (ad 1 j0), .int x1].toArray s rm_M_compute.cells rm_M_compute.slots A) (F0 m 83 ls [.int s0]) := by
    intro M y3 s0 H locs ls h zs0 hwf hkp hP hD hS hl
    unfold f_M_compute_b83 at h
    have hkb := hkp
    refine lv_istore (lv' := [(4, .int s0), (0, .ref (ad 1 j0)), (1, .int x1), (3, .int y3)]) hx hb d_M_compute_83 hl (by decide) rfl (fun ls hl => ?_)
    refine lv_aload_n hx hb d_M_compute_85 rfl (lv_at hl 1 rfl) ?_
    refine g_M_30 hx hb hts hown hK hP hwf hj0 (hts _ u_1771) d_M_compute_86 ?_
    obtain ⟨j1, e2, h⟩ := bd_ob h
    have hj1 : j1 < N 13 := (hwf.2.1 1 j0 30 _ e2 (by decide) hj0)
    refine me_opt (j := j1) e2 ?_
    refine lv_iload_n hx hb d_M_compute_89 rfl (lv_at hl 2 rfl) ?_
    refine lv_iload hx hb d_M_compute_90 (lv_at hl 0 rfl) ?_
    refine lv_if_eq (tgt := 99) hx hb d_M_compute_92 (by decide) (fun c3 => ?_) (fun c3 => ?_)
    · have h := if_t c3 h
      refine lv_iconst (v := 2) hx hb d_M_compute_99 (by decide) ?_
      obtain ⟨g4, h⟩ := gd_ob h
      obtain ⟨M5, eM5, h⟩ := st_ob h
      refine me_iast eM5 hx hb hK hP hD hwf hS hj1 g4 d_M_compute_100 (fun H locs hP hD hwf hS => ?_)
      have hkp := kp_I eM5 hkp
      refine lv_aload_n hx hb d_M_compute_101 rfl (lv_at hl 1 rfl) ?_
      refine g_M_31 hx hb hts hown hK hP hwf hj0 (hts _ u_1772) d_M_compute_102 ?_
      obtain ⟨j6, e7, h⟩ := bd_ob h
      have hj6 : j6 < N 16 := (hwf.2.1 1 j0 31 _ (kp_r hkb hkp e7) (by decide) hj0)
      refine me_opt (j := j6) (kp_r hkb hkp e7) ?_
      refine lv_iload_n hx hb d_M_compute_105 rfl (lv_at hl 2 rfl) ?_
      refine lv_aload_n hx hb d_M_compute_106 rfl (lv_at hl 1 rfl) ?_
      refine g_M_52 hx hb hts hown hK hP hwf hj0 (hts _ u_1793) d_M_compute_107 ?_
      obtain ⟨j8, e9, h⟩ := bd_ob h
      have hj8 : j8 < N 16 := (hwf.2.1 1 j0 52 _ (kp_r hkb hkp e9) (by decide) hj0)
      refine me_opt (j := j8) (kp_r hkb hkp e9) ?_
      refine lv_iload_n hx hb d_M_compute_110 rfl (lv_at hl 3 rfl) ?_
      obtain ⟨g10, h⟩ := gd_ob h
      refine me_lald hx hb hK hP hwf hj8 (kp_z hkb.z hkp.z g10) d_M_compute_111 ?_
      obtain ⟨g11, h⟩ := gd_ob h
      obtain ⟨M12, eM12, h⟩ := st_ob h
      refine me_last eM12 hx hb hK hP hD hwf hS hj6 (kp_z hkb.z hkp.z g11) d_M_compute_112 (fun H locs hP hD hwf hS => ?_)
      have hkp := kp_L eM12 hkp
      refine lv_iconst (v := 0) hx hb d_M_compute_113 (by decide) ?_
      exact me_reti (me_kp M0) h hx hb hr hlocks hwf hkp hP hK hD hS d_M_compute_114
    have h := if_f c3 h
    refine lv_iconst (v := 1) hx hb d_M_compute_95 (by decide) ?_
    refine lv_goto (tgt := 100) hx hb d_M_compute_96 (by decide) ?_
    obtain ⟨g13, h⟩ := gd_ob h
    obtain ⟨M14, eM14, h⟩ := st_ob h
    refine me_iast eM14 hx hb hK hP hD hwf hS hj1 g13 d_M_compute_100 (fun H locs hP hD hwf hS => ?_)
    have hkp := kp_I eM14 hkp
    refine lv_aload_n hx hb d_M_compute_101 rfl (lv_at hl 1 rfl) ?_
    refine g_M_31 hx hb hts hown hK hP hwf hj0 (hts _ u_1772) d_M_compute_102 ?_
    obtain ⟨j15, e16, h⟩ := bd_ob h
    have hj15 : j15 < N 16 := (hwf.2.1 1 j0 31 _ (kp_r hkb hkp e16) (by decide) hj0)
    refine me_opt (j := j15) (kp_r hkb hkp e16) ?_
    refine lv_iload_n hx hb d_M_compute_105 rfl (lv_at hl 2 rfl) ?_
    refine lv_aload_n hx hb d_M_compute_106 rfl (lv_at hl 1 rfl) ?_
    refine g_M_52 hx hb hts hown hK hP hwf hj0 (hts _ u_1793) d_M_compute_107 ?_
    obtain ⟨j17, e18, h⟩ := bd_ob h
    have hj17 : j17 < N 16 := (hwf.2.1 1 j0 52 _ (kp_r hkb hkp e18) (by decide) hj0)
    refine me_opt (j := j17) (kp_r hkb hkp e18) ?_
    refine lv_iload_n hx hb d_M_compute_110 rfl (lv_at hl 3 rfl) ?_
    obtain ⟨g19, h⟩ := gd_ob h
    refine me_lald hx hb hK hP hwf hj17 (kp_z hkb.z hkp.z g19) d_M_compute_111 ?_
    obtain ⟨g20, h⟩ := gd_ob h
    obtain ⟨M21, eM21, h⟩ := st_ob h
    refine me_last eM21 hx hb hK hP hD hwf hS hj15 (kp_z hkb.z hkp.z g20) d_M_compute_112 (fun H locs hP hD hwf hS => ?_)
    have hkp := kp_L eM21 hkp
    refine lv_iconst (v := 0) hx hb d_M_compute_113 (by decide) ?_
    exact me_reti (me_kp M0) h hx hb hr hlocks hwf hkp hP hK hD hS d_M_compute_114
  have b_82 : ∀ (M : me_M) (y3 : Int32) (H : Heap) (locs : List Loc) (ls : Array Slot), f_M_compute_b82 j0 x1 M y3 = (some (MZ, RZ)) → me_wf N M → me_kp M0 M → va_P D classes (me_W ad ca M) H → va_D A (me_W ad ca M) → va_S A s.heap H locs → lv_has ls 5 [(0, .ref (ad 1 j0)), (1, .int x1), (3, .int y3)] → W p l e rm_M_compute s m [.ref (ad 1 j0), .int x1].toArray below meth c H locs 0 0 (MQ below (q_M_compute D ad ca N M0 MZ RZ A) [.ref (ad 1 j0), .int x1].toArray s rm_M_compute.cells rm_M_compute.slots A) (F0 m 82 ls []) := by
    intro M y3 H locs ls h hwf hkp hP hD hS hl
    unfold f_M_compute_b82 at h
    have hkb := hkp
    refine lv_iconst (v := 0) hx hb d_M_compute_82 (by decide) ?_
    exact b_83 M y3 (0 : Int32) _ _ _ h (by decide) hwf hkp hP hD hS (lv_sub hl [0, 1, 2] rfl)
  have b_78 : ∀ (M : me_M) (y3 : Int32) (H : Heap) (locs : List Loc) (ls : Array Slot), f_M_compute_b78 j0 x1 M y3 = (some (MZ, RZ)) → me_wf N M → me_kp M0 M → va_P D classes (me_W ad ca M) H → va_D A (me_W ad ca M) → va_S A s.heap H locs → lv_has ls 5 [(0, .ref (ad 1 j0)), (1, .int x1), (3, .int y3)] → W p l e rm_M_compute s m [.ref (ad 1 j0), .int x1].toArray below meth c H locs 0 0 (MQ below (q_M_compute D ad ca N M0 MZ RZ A) [.ref (ad 1 j0), .int x1].toArray s rm_M_compute.cells rm_M_compute.slots A) (F0 m 78 ls []) := by
    intro M y3 H locs ls h hwf hkp hP hD hS hl
    unfold f_M_compute_b78 at h
    have hkb := hkp
    refine lv_iconst (v := 1) hx hb d_M_compute_78 (by decide) ?_
    refine lv_goto (tgt := 83) hx hb d_M_compute_79 (by decide) ?_
    exact b_83 M y3 (1 : Int32) _ _ _ h (by decide) hwf hkp hP hD hS (lv_sub hl [0, 1, 2] rfl)
  refine lv_aload_n hx hb d_M_compute_0 rfl (lv_at hl 0 rfl) ?_
  refine lv_aload_n hx hb d_M_compute_1 rfl (lv_at hl 0 rfl) ?_
  refine g_M_13 hx hb hts hown hK hP hwf hj0 (hts _ u_1754) d_M_compute_2 ?_
  obtain ⟨j22, e23, h⟩ := bd_ob h
  have hj22 : j22 < N 16 := (hwf.2.1 1 j0 13 _ e23 (by decide) hj0)
  refine me_opt (j := j22) e23 ?_
  refine lv_iload_n hx hb d_M_compute_5 rfl (lv_at hl 1 rfl) ?_
  obtain ⟨g24, h⟩ := gd_ob h
  refine me_lald hx hb hK hP hwf hj22 g24 d_M_compute_6 ?_
  obtain ⟨M25, r26, eM25, h⟩ := b2_ob h
  refine me_theni0 (M1 := M25) (me_runV (C := "FilterGuardModel") (As := [.long (mL M0 16 j22 x1.toNatClampNeg)]) (rest := []) ⟨hx, hb, hml, hown, hts⟩ (c_M_arithmetic l D ad ca N M0 M25 r26 j0 (mL M0 16 j22 x1.toNatClampNeg) eM25 hwf hj0 _) rfl (by show fg_nm y_M_arithmetic 1; decide +kernel) u_2316 u_2318 u_150 u_192 u_2319 ⟨Nat.le_of_ble_eq_true rfl, Nat.le_of_ble_eq_true rfl⟩ hX hz hK hP hD hwf hS hA hj0 (by decide) rfl rfl rfl hl.1 (Nat.le_of_ble_eq_true rfl) d_M_compute_7 ⟨Nat.le_of_ble_eq_true rfl, Nat.le_of_ble_eq_true rfl⟩) hP hD hK hS hA rfl rfl (fun H locs hw hP hD hS => ?_)
  obtain ⟨hwf, hk9⟩ := hw
  have hkp := hkp.tr hk9
  refine lv_istore_n (lv' := [(2, .int r26), (0, .ref (ad 1 j0)), (1, .int x1)]) hx hb d_M_compute_10 rfl hl (by decide) rfl (fun ls hl => ?_)
  refine lv_aload_n hx hb d_M_compute_11 rfl (lv_at hl 1 rfl) ?_
  refine g_M_13 hx hb hts hown hK hP hwf hj0 (hts _ u_1754) d_M_compute_12 ?_
  refine me_opt (j := j22) (kp_r hkb hkp e23) ?_
  refine lv_iload_n hx hb d_M_compute_15 rfl (lv_at hl 2 rfl) ?_
  refine me_lald hx hb hK hP hwf hj22 (kp_z hkb.z hkp.z g24) d_M_compute_16 ?_
  obtain ⟨r27, er27, h⟩ := bd_ob h
  refine me_pani' (r0 := r27) (fg_runS (wc := []) (tc := []) (A2 := A) (As := [.long (mL M25 16 j22 x1.toNatClampNeg)]) (rest := []) ⟨hx, hb, hml, hown, hts⟩ (c_M_toOf l D r27 (mL M25 16 j22 x1.toNatClampNeg) er27 _) (by show fg_nm y_M_toOf 1; decide +kernel) u_2006 u_2007 u_192 u_2008 ⟨Nat.le_of_ble_eq_true rfl, Nat.le_of_ble_eq_true rfl⟩ hX me_P0 (hK.sub (tys' := []) [] rfl) me_D0 rfl hl.1 (Nat.le_of_ble_eq_true rfl) d_M_compute_17 ⟨Nat.le_of_ble_eq_true rfl, Nat.le_of_ble_eq_true rfl⟩) hP hD hK hS hA rfl rfl (fun H locs hw hP hD hS => ?_)
  refine lv_istore_n (lv' := [(3, .int r27), (2, .int r26), (0, .ref (ad 1 j0)), (1, .int x1)]) hx hb d_M_compute_20 rfl hl (by decide) rfl (fun ls hl => ?_)
  refine lv_iload_n hx hb d_M_compute_21 rfl (lv_at hl 1 rfl) ?_
  refine lv_if_le (tgt := 27) hx hb d_M_compute_22 (by decide) (fun c28 => ?_) (fun c28 => ?_)
  · have h := if_t c28 h
    refine lv_aload_n hx hb d_M_compute_27 rfl (lv_at hl 2 rfl) ?_
    refine lv_iload_n hx hb d_M_compute_28 rfl (lv_at hl 0 rfl) ?_
    obtain ⟨M29, r30, eM29, h⟩ := b2_ob h
    refine me_theni0 (M1 := M29) (me_runV (C := "FilterGuardModel") (As := [.int r27]) (rest := []) ⟨hx, hb, hml, hown, hts⟩ (c_M_isNumber l D ad ca N M25 M29 r30 j0 r27 eM29 hwf hj0 _) rfl (by show fg_nm y_M_isNumber 1; decide +kernel) u_2187 u_2189 u_121 u_192 u_2190 ⟨Nat.le_of_ble_eq_true rfl, Nat.le_of_ble_eq_true rfl⟩ hX hz hK hP hD hwf hS hA hj0 (by decide) rfl rfl rfl hl.1 (Nat.le_of_ble_eq_true rfl) d_M_compute_29 ⟨Nat.le_of_ble_eq_true rfl, Nat.le_of_ble_eq_true rfl⟩) hP hD hK hS hA rfl rfl (fun H locs hw hP hD hS => ?_)
    obtain ⟨hwf, hk9, zr30⟩ := hw
    have hkp := hkp.tr hk9
    refine lv_if_eq (tgt := 82) hx hb d_M_compute_32 (by decide) (fun c31 => ?_) (fun c31 => ?_)
    · have h := if_t c31 h
      exact b_82 M29 r27 _ _ _ h hwf hkp hP hD hS (lv_sub hl [2, 3, 0] rfl)
    have h := if_f c31 h
    refine lv_aload_n hx hb d_M_compute_35 rfl (lv_at hl 2 rfl) ?_
    refine lv_iload_n hx hb d_M_compute_36 rfl (lv_at hl 0 rfl) ?_
    obtain ⟨M32, r33, eM32, h⟩ := b2_ob h
    refine me_theni0 (M1 := M32) (me_runV (C := "FilterGuardModel") (As := [.int r27]) (rest := []) ⟨hx, hb, hml, hown, hts⟩ (c_M_isExact l D ad ca N M29 M32 r33 j0 r27 eM32 hwf hj0 _) rfl (by show fg_nm y_M_isExact 1; decide +kernel) u_2251 u_2253 u_136 u_192 u_2254 ⟨Nat.le_of_ble_eq_true rfl, Nat.le_of_ble_eq_true rfl⟩ hX hz hK hP hD hwf hS hA hj0 (by decide) rfl rfl rfl hl.1 (Nat.le_of_ble_eq_true rfl) d_M_compute_37 ⟨Nat.le_of_ble_eq_true rfl, Nat.le_of_ble_eq_true rfl⟩) hP hD hK hS hA rfl rfl (fun H locs hw hP hD hS => ?_)
    obtain ⟨hwf, hk9, zr33⟩ := hw
    have hkp := hkp.tr hk9
    refine lv_if_eq (tgt := 82) hx hb d_M_compute_40 (by decide) (fun c34 => ?_) (fun c34 => ?_)
    · have h := if_t c34 h
      exact b_82 M32 r27 _ _ _ h hwf hkp hP hD hS (lv_sub hl [2, 3, 0] rfl)
    have h := if_f c34 h
    refine lv_aload_n hx hb d_M_compute_43 rfl (lv_at hl 2 rfl) ?_
    refine g_M_30 hx hb hts hown hK hP hwf hj0 (hts _ u_1771) d_M_compute_44 ?_
    obtain ⟨j35, e36, h⟩ := bd_ob h
    have hj35 : j35 < N 13 := (hwf.2.1 1 j0 30 _ (kp_r hkb hkp e36) (by decide) hj0)
    refine me_opt (j := j35) (kp_r hkb hkp e36) ?_
    refine lv_iload_n hx hb d_M_compute_47 rfl (lv_at hl 3 rfl) ?_
    obtain ⟨g37, h⟩ := gd_ob h
    refine me_iald hx hb hK hP hwf hj35 (kp_z hkb.z hkp.z g37) d_M_compute_48 ?_
    refine lv_if_eq (tgt := 78) hx hb d_M_compute_49 (by decide) (fun c38 => ?_) (fun c38 => ?_)
    · have h := if_t c38 h
      exact b_78 M32 r27 _ _ _ h hwf hkp hP hD hS (lv_sub hl [2, 3, 0] rfl)
    have h := if_f c38 h
    refine lv_aload_n hx hb d_M_compute_52 rfl (lv_at hl 2 rfl) ?_
    refine g_M_30 hx hb hts hown hK hP hwf hj0 (hts _ u_1771) d_M_compute_53 ?_
    refine me_opt (j := j35) (kp_r hkb hkp e36) ?_
    refine lv_iload_n hx hb d_M_compute_56 rfl (lv_at hl 3 rfl) ?_
    refine me_iald hx hb hK hP hwf hj35 (kp_z hkb.z hkp.z g37) d_M_compute_57 ?_
    refine lv_iconst (v := 1) hx hb d_M_compute_58 (by decide) ?_
    refine lv_icmp_ne (tgt := 82) hx hb d_M_compute_59 (by decide) (fun c39 => ?_) (fun c39 => ?_)
    · have h := if_f c39 h
      exact b_82 M32 r27 _ _ _ h hwf hkp hP hD hS (lv_sub hl [2, 3, 0] rfl)
    have h := if_t c39 h
    refine lv_aload_n hx hb d_M_compute_62 rfl (lv_at hl 2 rfl) ?_
    refine g_M_31 hx hb hts hown hK hP hwf hj0 (hts _ u_1772) d_M_compute_63 ?_
    obtain ⟨j40, e41, h⟩ := bd_ob h
    have hj40 : j40 < N 16 := (hwf.2.1 1 j0 31 _ (kp_r hkb hkp e41) (by decide) hj0)
    refine me_opt (j := j40) (kp_r hkb hkp e41) ?_
    refine lv_iload_n hx hb d_M_compute_66 rfl (lv_at hl 3 rfl) ?_
    obtain ⟨g42, h⟩ := gd_ob h
    refine me_lald hx hb hK hP hwf hj40 (kp_z hkb.z hkp.z g42) d_M_compute_67 ?_
    refine lv_aload_n hx hb d_M_compute_68 rfl (lv_at hl 2 rfl) ?_
    refine g_M_52 hx hb hts hown hK hP hwf hj0 (hts _ u_1793) d_M_compute_69 ?_
    obtain ⟨j43, e44, h⟩ := bd_ob h
    have hj43 : j43 < N 16 := (hwf.2.1 1 j0 52 _ (kp_r hkb hkp e44) (by decide) hj0)
    refine me_opt (j := j43) (kp_r hkb hkp e44) ?_
    refine lv_iload_n hx hb d_M_compute_72 rfl (lv_at hl 0 rfl) ?_
    obtain ⟨g45, h⟩ := gd_ob h
    refine me_lald hx hb hK hP hwf hj43 (kp_z hkb.z hkp.z g45) d_M_compute_73 ?_
    refine W.lcmp hx hb d_M_compute_74 ?_
    refine lv_if_ne (tgt := 82) hx hb d_M_compute_75 (by decide) (fun c46 => ?_) (fun c46 => ?_)
    · have h := if_f (fun z => c46 ((lg_cmp_eq _ _).mpr z)) h
      exact b_82 M32 r27 _ _ _ h hwf hkp hP hD hS (lv_sub hl [2, 3, 0] rfl)
    have h := if_t ((lg_cmp_eq _ _).mp c46) h
    exact b_78 M32 r27 _ _ _ h hwf hkp hP hD hS (lv_sub hl [2, 3, 0] rfl)
  have h := if_f c28 h
  refine lv_iload_n hx hb d_M_compute_25 rfl (lv_at hl 1 rfl) ?_
  exact me_reti (me_kp M0) h hx hb hr hlocks hwf hkp hP hK hD hS d_M_compute_26
theorem d_M_does0_0 : decode prog_14_method_104_code 0 = .ok (.aload_n 0, 1) := by decide +kernel
theorem d_M_does0_1 : decode prog_14_method_104_code 1 = .ok (.getfield 37, 3) := by decide +kernel
theorem d_M_does0_4 : decode prog_14_method_104_code 4 = .ok (.iload_n 1, 1) := by decide +kernel
theorem d_M_does0_5 : decode prog_14_method_104_code 5 = .ok (.laload, 1) := by decide +kernel
theorem d_M_does0_6 : decode prog_14_method_104_code 6 = .ok (.lstore_n 2, 1) := by decide +kernel
theorem d_M_does0_7 : decode prog_14_method_104_code 7 = .ok (.aload_n 0, 1) := by decide +kernel
theorem d_M_does0_8 : decode prog_14_method_104_code 8 = .ok (.iload_n 1, 1) := by decide +kernel
theorem d_M_does0_9 : decode prog_14_method_104_code 9 = .ok (.iconst 1, 1) := by decide +kernel
theorem d_M_does0_10 : decode prog_14_method_104_code 10 = .ok (.iadd, 1) := by decide +kernel
theorem d_M_does0_11 : decode prog_14_method_104_code 11 = .ok (.putfield 514, 3) := by decide +kernel
theorem d_M_does0_14 : decode prog_14_method_104_code 14 = .ok (.lload_n 2, 1) := by decide +kernel
theorem d_M_does0_15 : decode prog_14_method_104_code 15 = .ok (.invokestatic 308, 3) := by decide +kernel
theorem d_M_does0_18 : decode prog_14_method_104_code 18 = .ok (.invokestatic 312, 3) := by decide +kernel
theorem d_M_does0_21 : decode prog_14_method_104_code 21 = .ok (.tableswitch 140 1 13 #[67, 73, 79, 79, 85, 140, 140, 140, 140, 91, 105, 111, 120], 67) := by decide +kernel
theorem d_M_does0_88 : decode prog_14_method_104_code 88 = .ok (.aload_n 0, 1) := by decide +kernel
theorem d_M_does0_89 : decode prog_14_method_104_code 89 = .ok (.iload_n 1, 1) := by decide +kernel
theorem d_M_does0_90 : decode prog_14_method_104_code 90 = .ok (.invokevirtual 523, 3) := by decide +kernel
theorem u_2104 : Cond.methodLink "FilterGuardModel" 523 ⟨"FilterGuardModel", "wide", "(I)I"⟩ ∈ fg_g := fg_in (List.mem_of_getElem? (i := 2104) (by decide +kernel)) rfl
theorem u_2107 : Cond.code ⟨"FilterGuardModel", "wide", "(I)I"⟩ prog_14_method_102_code 5 (some .int) ∈ fg_g := fg_in (List.mem_of_getElem? (i := 2107) (by decide +kernel)) rfl
theorem u_2106 : Cond.instanceMethod ⟨"FilterGuardModel", "wide", "(I)I"⟩ ∈ fg_g := fg_in (List.mem_of_getElem? (i := 2106) (by decide +kernel)) rfl
theorem u_105 : Cond.selects "FilterGuardModel" ⟨"FilterGuardModel", "wide", "(I)I"⟩ ⟨"FilterGuardModel", "wide", "(I)I"⟩ ∈ fg_g := fg_in (List.mem_of_getElem? (i := 105) (by decide +kernel)) rfl
theorem d_M_does0_93 : decode prog_14_method_104_code 93 = .ok (.ireturn, 1) := by decide +kernel
theorem d_M_does0_94 : decode prog_14_method_104_code 94 = .ok (.aload_n 0, 1) := by decide +kernel
theorem d_M_does0_95 : decode prog_14_method_104_code 95 = .ok (.lload_n 2, 1) := by decide +kernel
theorem d_M_does0_96 : decode prog_14_method_104_code 96 = .ok (.invokevirtual 526, 3) := by decide +kernel
theorem u_2116 : Cond.methodLink "FilterGuardModel" 526 ⟨"FilterGuardModel", "load", "(J)I"⟩ ∈ fg_g := fg_in (List.mem_of_getElem? (i := 2116) (by decide +kernel)) rfl
theorem u_2119 : Cond.code ⟨"FilterGuardModel", "load", "(J)I"⟩ prog_14_method_78_code 8 (some .int) ∈ fg_g := fg_in (List.mem_of_getElem? (i := 2119) (by decide +kernel)) rfl
theorem u_2118 : Cond.instanceMethod ⟨"FilterGuardModel", "load", "(J)I"⟩ ∈ fg_g := fg_in (List.mem_of_getElem? (i := 2118) (by decide +kernel)) rfl
theorem u_108 : Cond.selects "FilterGuardModel" ⟨"FilterGuardModel", "load", "(J)I"⟩ ⟨"FilterGuardModel", "load", "(J)I"⟩ ∈ fg_g := fg_in (List.mem_of_getElem? (i := 108) (by decide +kernel)) rfl
theorem d_M_does0_99 : decode prog_14_method_104_code 99 = .ok (.ireturn, 1) := by decide +kernel
theorem d_M_does0_100 : decode prog_14_method_104_code 100 = .ok (.aload_n 0, 1) := by decide +kernel
theorem d_M_does0_101 : decode prog_14_method_104_code 101 = .ok (.lload_n 2, 1) := by decide +kernel
theorem d_M_does0_102 : decode prog_14_method_104_code 102 = .ok (.invokevirtual 529, 3) := by decide +kernel
theorem u_2195 : Cond.methodLink "FilterGuardModel" 529 ⟨"FilterGuardModel", "store", "(J)I"⟩ ∈ fg_g := fg_in (List.mem_of_getElem? (i := 2195) (by decide +kernel)) rfl
theorem u_2198 : Cond.code ⟨"FilterGuardModel", "store", "(J)I"⟩ prog_14_method_80_code 9 (some .int) ∈ fg_g := fg_in (List.mem_of_getElem? (i := 2198) (by decide +kernel)) rfl
theorem u_2197 : Cond.instanceMethod ⟨"FilterGuardModel", "store", "(J)I"⟩ ∈ fg_g := fg_in (List.mem_of_getElem? (i := 2197) (by decide +kernel)) rfl
theorem u_123 : Cond.selects "FilterGuardModel" ⟨"FilterGuardModel", "store", "(J)I"⟩ ⟨"FilterGuardModel", "store", "(J)I"⟩ ∈ fg_g := fg_in (List.mem_of_getElem? (i := 123) (by decide +kernel)) rfl
theorem d_M_does0_105 : decode prog_14_method_104_code 105 = .ok (.ireturn, 1) := by decide +kernel
theorem d_M_does0_106 : decode prog_14_method_104_code 106 = .ok (.aload_n 0, 1) := by decide +kernel
theorem d_M_does0_107 : decode prog_14_method_104_code 107 = .ok (.lload_n 2, 1) := by decide +kernel
theorem d_M_does0_108 : decode prog_14_method_104_code 108 = .ok (.invokevirtual 532, 3) := by decide +kernel
theorem u_2203 : Cond.methodLink "FilterGuardModel" 532 ⟨"FilterGuardModel", "addTo", "(J)I"⟩ ∈ fg_g := fg_in (List.mem_of_getElem? (i := 2203) (by decide +kernel)) rfl
theorem u_2206 : Cond.code ⟨"FilterGuardModel", "addTo", "(J)I"⟩ prog_14_method_82_code 8 (some .int) ∈ fg_g := fg_in (List.mem_of_getElem? (i := 2206) (by decide +kernel)) rfl
theorem u_2205 : Cond.instanceMethod ⟨"FilterGuardModel", "addTo", "(J)I"⟩ ∈ fg_g := fg_in (List.mem_of_getElem? (i := 2205) (by decide +kernel)) rfl
theorem u_125 : Cond.selects "FilterGuardModel" ⟨"FilterGuardModel", "addTo", "(J)I"⟩ ⟨"FilterGuardModel", "addTo", "(J)I"⟩ ∈ fg_g := fg_in (List.mem_of_getElem? (i := 125) (by decide +kernel)) rfl
theorem d_M_does0_111 : decode prog_14_method_104_code 111 = .ok (.ireturn, 1) := by decide +kernel
theorem d_M_does0_161 : decode prog_14_method_104_code 161 = .ok (.aload_n 0, 1) := by decide +kernel
theorem d_M_does0_162 : decode prog_14_method_104_code 162 = .ok (.iload_n 1, 1) := by decide +kernel
theorem d_M_does0_163 : decode prog_14_method_104_code 163 = .ok (.invokevirtual 541, 3) := by decide +kernel
theorem u_2312 : Cond.methodLink "FilterGuardModel" 541 ⟨"FilterGuardModel", "compute", "(I)I"⟩ ∈ fg_g := fg_in (List.mem_of_getElem? (i := 2312) (by decide +kernel)) rfl
theorem u_2315 : Cond.code ⟨"FilterGuardModel", "compute", "(I)I"⟩ prog_14_method_105_code 5 (some .int) ∈ fg_g := fg_in (List.mem_of_getElem? (i := 2315) (by decide +kernel)) rfl
theorem u_2314 : Cond.instanceMethod ⟨"FilterGuardModel", "compute", "(I)I"⟩ ∈ fg_g := fg_in (List.mem_of_getElem? (i := 2314) (by decide +kernel)) rfl
theorem u_149 : Cond.selects "FilterGuardModel" ⟨"FilterGuardModel", "compute", "(I)I"⟩ ⟨"FilterGuardModel", "compute", "(I)I"⟩ ∈ fg_g := fg_in (List.mem_of_getElem? (i := 149) (by decide +kernel)) rfl
theorem d_M_does0_166 : decode prog_14_method_104_code 166 = .ok (.ireturn, 1) := by decide +kernel
theorem d_M_does0_112 : decode prog_14_method_104_code 112 = .ok (.aload_n 0, 1) := by decide +kernel
theorem d_M_does0_113 : decode prog_14_method_104_code 113 = .ok (.iload_n 1, 1) := by decide +kernel
theorem d_M_does0_114 : decode prog_14_method_104_code 114 = .ok (.iconst 1, 1) := by decide +kernel
theorem d_M_does0_115 : decode prog_14_method_104_code 115 = .ok (.iadd, 1) := by decide +kernel
theorem d_M_does0_116 : decode prog_14_method_104_code 116 = .ok (.lload_n 2, 1) := by decide +kernel
theorem d_M_does0_117 : decode prog_14_method_104_code 117 = .ok (.invokestatic 321, 3) := by decide +kernel
theorem d_M_does0_120 : decode prog_14_method_104_code 120 = .ok (.iadd, 1) := by decide +kernel
theorem d_M_does0_121 : decode prog_14_method_104_code 121 = .ok (.putfield 514, 3) := by decide +kernel
theorem d_M_does0_124 : decode prog_14_method_104_code 124 = .ok (.iconst 0, 1) := by decide +kernel
theorem d_M_does0_125 : decode prog_14_method_104_code 125 = .ok (.ireturn, 1) := by decide +kernel
theorem d_M_does0_126 : decode prog_14_method_104_code 126 = .ok (.aload_n 0, 1) := by decide +kernel
theorem d_M_does0_127 : decode prog_14_method_104_code 127 = .ok (.iload_n 1, 1) := by decide +kernel
theorem d_M_does0_128 : decode prog_14_method_104_code 128 = .ok (.invokevirtual 535, 3) := by decide +kernel
theorem u_2207 : Cond.methodLink "FilterGuardModel" 535 ⟨"FilterGuardModel", "jump", "(I)I"⟩ ∈ fg_g := fg_in (List.mem_of_getElem? (i := 2207) (by decide +kernel)) rfl
theorem u_2210 : Cond.code ⟨"FilterGuardModel", "jump", "(I)I"⟩ prog_14_method_103_code 4 (some .int) ∈ fg_g := fg_in (List.mem_of_getElem? (i := 2210) (by decide +kernel)) rfl
theorem u_2209 : Cond.instanceMethod ⟨"FilterGuardModel", "jump", "(I)I"⟩ ∈ fg_g := fg_in (List.mem_of_getElem? (i := 2209) (by decide +kernel)) rfl
theorem u_126 : Cond.selects "FilterGuardModel" ⟨"FilterGuardModel", "jump", "(I)I"⟩ ⟨"FilterGuardModel", "jump", "(I)I"⟩ ∈ fg_g := fg_in (List.mem_of_getElem? (i := 126) (by decide +kernel)) rfl
theorem d_M_does0_131 : decode prog_14_method_104_code 131 = .ok (.ireturn, 1) := by decide +kernel
theorem d_M_does0_132 : decode prog_14_method_104_code 132 = .ok (.aload_n 0, 1) := by decide +kernel
theorem d_M_does0_133 : decode prog_14_method_104_code 133 = .ok (.lload_n 2, 1) := by decide +kernel
theorem d_M_does0_134 : decode prog_14_method_104_code 134 = .ok (.invokestatic 324, 3) := by decide +kernel
theorem d_M_does0_137 : decode prog_14_method_104_code 137 = .ok (.invokevirtual 538, 3) := by decide +kernel
theorem u_2285 : Cond.methodLink "FilterGuardModel" 538 ⟨"FilterGuardModel", "call", "(I)I"⟩ ∈ fg_g := fg_in (List.mem_of_getElem? (i := 2285) (by decide +kernel)) rfl
theorem u_2288 : Cond.code ⟨"FilterGuardModel", "call", "(I)I"⟩ prog_14_method_87_code 5 (some .int) ∈ fg_g := fg_in (List.mem_of_getElem? (i := 2288) (by decide +kernel)) rfl
theorem u_2287 : Cond.instanceMethod ⟨"FilterGuardModel", "call", "(I)I"⟩ ∈ fg_g := fg_in (List.mem_of_getElem? (i := 2287) (by decide +kernel)) rfl
theorem u_143 : Cond.selects "FilterGuardModel" ⟨"FilterGuardModel", "call", "(I)I"⟩ ⟨"FilterGuardModel", "call", "(I)I"⟩ ∈ fg_g := fg_in (List.mem_of_getElem? (i := 143) (by decide +kernel)) rfl
theorem d_M_does0_140 : decode prog_14_method_104_code 140 = .ok (.ireturn, 1) := by decide +kernel
theorem d_M_does0_141 : decode prog_14_method_104_code 141 = .ok (.aload_n 0, 1) := by decide +kernel
theorem d_M_does0_142 : decode prog_14_method_104_code 142 = .ok (.iconst (-1), 1) := by decide +kernel
theorem d_M_does0_143 : decode prog_14_method_104_code 143 = .ok (.putfield 514, 3) := by decide +kernel
theorem d_M_does0_146 : decode prog_14_method_104_code 146 = .ok (.aload_n 0, 1) := by decide +kernel
theorem d_M_does0_147 : decode prog_14_method_104_code 147 = .ok (.iconst 0, 1) := by decide +kernel
theorem d_M_does0_148 : decode prog_14_method_104_code 148 = .ok (.invokevirtual 378, 3) := by decide +kernel
theorem d_M_does0_151 : decode prog_14_method_104_code 151 = .ok (.ifCond .eq 7, 3) := by decide +kernel
theorem d_M_does0_158 : decode prog_14_method_104_code 158 = .ok (.bipush 18, 2) := by decide +kernel
theorem d_M_does0_160 : decode prog_14_method_104_code 160 = .ok (.ireturn, 1) := by decide +kernel
theorem d_M_does0_154 : decode prog_14_method_104_code 154 = .ok (.iconst 0, 1) := by decide +kernel
theorem d_M_does0_155 : decode prog_14_method_104_code 155 = .ok (.goto 5, 3) := by decide +kernel
abbrev y_M_does0 : MethodName := ⟨"FilterGuardModel", "does", "(I)I"⟩
def rm_M_does0 : Room := { frames := 11, cells := 0, slots := 0, locals := 271 }
abbrev q_M_does0 (D : va_G) (ad : Nat → Nat → Nat) (ca : Nat → ClassId) (N : Nat → Nat) (M0 MZ : me_M) (RZ : Int32) (A : Nat → Prop) : Array Value → Jvm.State → Outcome → Jvm.State → Prop := va_Qi (fun r (_ : Unit) => r = RZ ∧ me_wf N MZ ∧ me_kp M0 MZ) (fg_B D A (fun _ => me_W ad ca MZ) (fun _ => [])) A
set_option maxHeartbeats 4000000 in
set_option maxRecDepth 100000 in
theorem c_M_does0 (l : Launch) (D : va_G) (ad : Nat → Nat → Nat) (ca : Nat → ClassId) (N : Nat → Nat) (M0 MZ : me_M) (RZ : Int32) (j0 : Nat) (x1 : Int32) (h : f_M_does0 M0 j0 x1 = (some (MZ, RZ))) (hwf : me_wf N M0) (hj0 : j0 < N 1) (sz : Nat) : Met l y_M_does0 (fg_w y_M_does0 prog_14_method_104_code 4 (some .int)) rm_M_does0 (va_Pc [.ref (ad 1 j0), .int x1] (fz_P D (me_T ca) (me_W ad ca M0) sz)) (q_M_does0 D ad ca N M0 MZ RZ (va_A (me_W ad ca M0) sz)) rm_M_does0.cells rm_M_does0.slots (va_A (me_W ad ca M0) sz) := by
  refine fz_enter (fun A => q_M_does0 D ad ca N M0 MZ RZ A) (by decide +kernel) (Nat.le_of_ble_eq_true rfl) ?_
  intro p e s m below meth c ls A hx hb hml hown hts hr hlocks hin hP hK hD hS hA hX hl hz
  have hl : lv_has ls 4 [(0, .ref (ad 1 j0)), (1, .int x1)] := hl
  unfold f_M_does0 at h
  have hkp : me_kp M0 M0 := me_kp.rf
  have hkb := hkp
  refine lv_aload_n hx hb d_M_does0_0 rfl (lv_at hl 0 rfl) ?_
  refine g_M_13 hx hb hts hown hK hP hwf hj0 (hts _ u_1754) d_M_does0_1 ?_
  obtain ⟨j1, e2, h⟩ := bd_ob h
  have hj1 : j1 < N 16 := (hwf.2.1 1 j0 13 _ e2 (by decide) hj0)
  refine me_opt (j := j1) e2 ?_
  refine lv_iload_n hx hb d_M_does0_4 rfl (lv_at hl 1 rfl) ?_
  obtain ⟨g3, h⟩ := gd_ob h
  refine me_lald hx hb hK hP hwf hj1 g3 d_M_does0_5 ?_
  obtain ⟨v4, ev4, h⟩ := st_ob h
  refine fg_topl (y := v4) ev4.symm ?_
  refine lv_lstore_n (lv' := [(2, .long v4), (0, .ref (ad 1 j0)), (1, .int x1)]) hx hb d_M_does0_6 rfl hl (by decide) rfl (fun ls hl => ?_)
  refine lv_aload_n hx hb d_M_does0_7 rfl (lv_at hl 1 rfl) ?_
  refine lv_iload_n hx hb d_M_does0_8 rfl (lv_at hl 2 rfl) ?_
  refine lv_iconst (v := 1) hx hb d_M_does0_9 (by decide) ?_
  refine lv_iadd hx hb d_M_does0_10 ?_
  obtain ⟨M5, eM5, h⟩ := st_ob h
  refine p_M_70 eM5 hx hb hts hown hK hP hD hwf hS hj0 (hts _ u_1811) d_M_does0_11 (fun H locs hP hD hwf hS => ?_)
  have hkp := kp_I eM5 hkp
  refine lv_lload_n hx hb d_M_does0_14 rfl (lv_at hl 0 rfl) ?_
  obtain ⟨r6, er6, h⟩ := bd_ob h
  refine me_pani' (r0 := r6) (fg_runS (wc := []) (tc := []) (A2 := A) (As := [.long v4]) (rest := []) ⟨hx, hb, hml, hown, hts⟩ (c_M_opOf l D r6 v4 er6 _) (by show fg_nm y_M_opOf 1; decide +kernel) u_1997 u_1998 u_192 u_1999 ⟨Nat.le_of_ble_eq_true rfl, Nat.le_of_ble_eq_true rfl⟩ hX me_P0 (hK.sub (tys' := []) [] rfl) me_D0 rfl hl.1 (Nat.le_of_ble_eq_true rfl) d_M_does0_15 ⟨Nat.le_of_ble_eq_true rfl, Nat.le_of_ble_eq_true rfl⟩) hP hD hK hS hA rfl rfl (fun H locs hw hP hD hS => ?_)
  obtain ⟨r7, er7, h⟩ := bd_ob h
  refine me_pani' (r0 := r7) (fg_runS (wc := []) (tc := []) (A2 := A) (As := [.int r6]) (rest := []) ⟨hx, hb, hml, hown, hts⟩ (c_M_instruction l D r7 r6 er7 _) (by show fg_nm y_M_instruction 1; decide +kernel) u_2000 u_2001 u_192 u_2002 ⟨Nat.le_of_ble_eq_true rfl, Nat.le_of_ble_eq_true rfl⟩ hX me_P0 (hK.sub (tys' := []) [] rfl) me_D0 rfl hl.1 (Nat.le_of_ble_eq_true rfl) d_M_does0_18 ⟨Nat.le_of_ble_eq_true rfl, Nat.le_of_ble_eq_true rfl⟩) hP hD hK hS hA rfl rfl (fun H locs hw hP hD hS => ?_)
  refine lv_topi (fun w8 ew8 => ?_)
  by_cases n9 : w8 = 1
  · have h := if_t (ew8.symm.trans n9) h
    subst n9
    refine lv_tableIn (off := 67) (tgt := 88) hx hb d_M_does0_21 (by decide) (by decide) (by decide) (by decide) ?_
    refine lv_aload_n hx hb d_M_does0_88 rfl (lv_at hl 1 rfl) ?_
    refine lv_iload_n hx hb d_M_does0_89 rfl (lv_at hl 2 rfl) ?_
    obtain ⟨M10, r11, eM10, h⟩ := b2_ob h
    refine me_theni0 (M1 := M10) (me_runV (C := "FilterGuardModel") (As := [.int x1]) (rest := []) ⟨hx, hb, hml, hown, hts⟩ (c_M_wide l D ad ca N M5 M10 r11 j0 x1 eM10 hwf hj0 _) rfl (by show fg_nm y_M_wide 1; decide +kernel) u_2104 u_2106 u_105 u_192 u_2107 ⟨Nat.le_of_ble_eq_true rfl, Nat.le_of_ble_eq_true rfl⟩ hX hz hK hP hD hwf hS hA hj0 (by decide) rfl rfl rfl hl.1 (Nat.le_of_ble_eq_true rfl) d_M_does0_90 ⟨Nat.le_of_ble_eq_true rfl, Nat.le_of_ble_eq_true rfl⟩) hP hD hK hS hA rfl rfl (fun H locs hw hP hD hS => ?_)
    obtain ⟨hwf, hk9⟩ := hw
    have hkp := hkp.tr hk9
    exact me_reti (me_kp M0) h hx hb hr hlocks hwf hkp hP hK hD hS d_M_does0_93
  have h := if_f (fun z => n9 (ew8.trans z)) h
  by_cases n12 : w8 = 2
  · have h := if_t (ew8.symm.trans n12) h
    subst n12
    refine lv_tableIn (off := 73) (tgt := 94) hx hb d_M_does0_21 (by decide) (by decide) (by decide) (by decide) ?_
    refine lv_aload_n hx hb d_M_does0_94 rfl (lv_at hl 1 rfl) ?_
    refine lv_lload_n hx hb d_M_does0_95 rfl (lv_at hl 0 rfl) ?_
    obtain ⟨M13, r14, eM13, h⟩ := b2_ob h
    refine me_theni0 (M1 := M13) (me_runV (C := "FilterGuardModel") (As := [.long v4]) (rest := []) ⟨hx, hb, hml, hown, hts⟩ (c_M_load l D ad ca N M5 M13 r14 j0 v4 eM13 hwf hj0 _) rfl (by show fg_nm y_M_load 1; decide +kernel) u_2116 u_2118 u_108 u_192 u_2119 ⟨Nat.le_of_ble_eq_true rfl, Nat.le_of_ble_eq_true rfl⟩ hX hz hK hP hD hwf hS hA hj0 (by decide) rfl rfl rfl hl.1 (Nat.le_of_ble_eq_true rfl) d_M_does0_96 ⟨Nat.le_of_ble_eq_true rfl, Nat.le_of_ble_eq_true rfl⟩) hP hD hK hS hA rfl rfl (fun H locs hw hP hD hS => ?_)
    obtain ⟨hwf, hk9⟩ := hw
    have hkp := hkp.tr hk9
    exact me_reti (me_kp M0) h hx hb hr hlocks hwf hkp hP hK hD hS d_M_does0_99
  have h := if_f (fun z => n12 (ew8.trans z)) h
  by_cases n15 : w8 = 3
  · have h := if_t (ew8.symm.trans n15) h
    subst n15
    refine lv_tableIn (off := 79) (tgt := 100) hx hb d_M_does0_21 (by decide) (by decide) (by decide) (by decide) ?_
    refine lv_aload_n hx hb d_M_does0_100 rfl (lv_at hl 1 rfl) ?_
    refine lv_lload_n hx hb d_M_does0_101 rfl (lv_at hl 0 rfl) ?_
    obtain ⟨M16, r17, eM16, h⟩ := b2_ob h
    refine me_theni0 (M1 := M16) (me_runV (C := "FilterGuardModel") (As := [.long v4]) (rest := []) ⟨hx, hb, hml, hown, hts⟩ (c_M_store l D ad ca N M5 M16 r17 j0 v4 eM16 hwf hj0 _) rfl (by show fg_nm y_M_store 1; decide +kernel) u_2195 u_2197 u_123 u_192 u_2198 ⟨Nat.le_of_ble_eq_true rfl, Nat.le_of_ble_eq_true rfl⟩ hX hz hK hP hD hwf hS hA hj0 (by decide) rfl rfl rfl hl.1 (Nat.le_of_ble_eq_true rfl) d_M_does0_102 ⟨Nat.le_of_ble_eq_true rfl, Nat.le_of_ble_eq_true rfl⟩) hP hD hK hS hA rfl rfl (fun H locs hw hP hD hS => ?_)
    obtain ⟨hwf, hk9⟩ := hw
    have hkp := hkp.tr hk9
    exact me_reti (me_kp M0) h hx hb hr hlocks hwf hkp hP hK hD hS d_M_does0_105
  have h := if_f (fun z => n15 (ew8.trans z)) h
  by_cases n18 : w8 = 4
  · have h := if_t (ew8.symm.trans n18) h
    subst n18
    refine lv_tableIn (off := 79) (tgt := 100) hx hb d_M_does0_21 (by decide) (by decide) (by decide) (by decide) ?_
    refine lv_aload_n hx hb d_M_does0_100 rfl (lv_at hl 1 rfl) ?_
    refine lv_lload_n hx hb d_M_does0_101 rfl (lv_at hl 0 rfl) ?_
    obtain ⟨M19, r20, eM19, h⟩ := b2_ob h
    refine me_theni0 (M1 := M19) (me_runV (C := "FilterGuardModel") (As := [.long v4]) (rest := []) ⟨hx, hb, hml, hown, hts⟩ (c_M_store l D ad ca N M5 M19 r20 j0 v4 eM19 hwf hj0 _) rfl (by show fg_nm y_M_store 1; decide +kernel) u_2195 u_2197 u_123 u_192 u_2198 ⟨Nat.le_of_ble_eq_true rfl, Nat.le_of_ble_eq_true rfl⟩ hX hz hK hP hD hwf hS hA hj0 (by decide) rfl rfl rfl hl.1 (Nat.le_of_ble_eq_true rfl) d_M_does0_102 ⟨Nat.le_of_ble_eq_true rfl, Nat.le_of_ble_eq_true rfl⟩) hP hD hK hS hA rfl rfl (fun H locs hw hP hD hS => ?_)
    obtain ⟨hwf, hk9⟩ := hw
    have hkp := hkp.tr hk9
    exact me_reti (me_kp M0) h hx hb hr hlocks hwf hkp hP hK hD hS d_M_does0_105
  have h := if_f (fun z => n18 (ew8.trans z)) h
  by_cases n21 : w8 = 5
  · have h := if_t (ew8.symm.trans n21) h
    subst n21
    refine lv_tableIn (off := 85) (tgt := 106) hx hb d_M_does0_21 (by decide) (by decide) (by decide) (by decide) ?_
    refine lv_aload_n hx hb d_M_does0_106 rfl (lv_at hl 1 rfl) ?_
    refine lv_lload_n hx hb d_M_does0_107 rfl (lv_at hl 0 rfl) ?_
    obtain ⟨M22, r23, eM22, h⟩ := b2_ob h
    refine me_theni0 (M1 := M22) (me_runV (C := "FilterGuardModel") (As := [.long v4]) (rest := []) ⟨hx, hb, hml, hown, hts⟩ (c_M_addTo l D ad ca N M5 M22 r23 j0 v4 eM22 hwf hj0 _) rfl (by show fg_nm y_M_addTo 1; decide +kernel) u_2203 u_2205 u_125 u_192 u_2206 ⟨Nat.le_of_ble_eq_true rfl, Nat.le_of_ble_eq_true rfl⟩ hX hz hK hP hD hwf hS hA hj0 (by decide) rfl rfl rfl hl.1 (Nat.le_of_ble_eq_true rfl) d_M_does0_108 ⟨Nat.le_of_ble_eq_true rfl, Nat.le_of_ble_eq_true rfl⟩) hP hD hK hS hA rfl rfl (fun H locs hw hP hD hS => ?_)
    obtain ⟨hwf, hk9⟩ := hw
    have hkp := hkp.tr hk9
    exact me_reti (me_kp M0) h hx hb hr hlocks hwf hkp hP hK hD hS d_M_does0_111
  have h := if_f (fun z => n21 (ew8.trans z)) h
  by_cases n24 : w8 = 6
  · have h := if_t (ew8.symm.trans n24) h
    subst n24
    refine lv_tableIn (off := 140) (tgt := 161) hx hb d_M_does0_21 (by decide) (by decide) (by decide) (by decide) ?_
    refine lv_aload_n hx hb d_M_does0_161 rfl (lv_at hl 1 rfl) ?_
    refine lv_iload_n hx hb d_M_does0_162 rfl (lv_at hl 2 rfl) ?_
    obtain ⟨M25, r26, eM25, h⟩ := b2_ob h
    refine me_theni0 (M1 := M25) (me_runV (C := "FilterGuardModel") (As := [.int x1]) (rest := []) ⟨hx, hb, hml, hown, hts⟩ (c_M_compute l D ad ca N M5 M25 r26 j0 x1 eM25 hwf hj0 _) rfl (by show fg_nm y_M_compute 1; decide +kernel) u_2312 u_2314 u_149 u_192 u_2315 ⟨Nat.le_of_ble_eq_true rfl, Nat.le_of_ble_eq_true rfl⟩ hX hz hK hP hD hwf hS hA hj0 (by decide) rfl rfl rfl hl.1 (Nat.le_of_ble_eq_true rfl) d_M_does0_163 ⟨Nat.le_of_ble_eq_true rfl, Nat.le_of_ble_eq_true rfl⟩) hP hD hK hS hA rfl rfl (fun H locs hw hP hD hS => ?_)
    obtain ⟨hwf, hk9⟩ := hw
    have hkp := hkp.tr hk9
    exact me_reti (me_kp M0) h hx hb hr hlocks hwf hkp hP hK hD hS d_M_does0_166
  have h := if_f (fun z => n24 (ew8.trans z)) h
  by_cases n27 : w8 = 7
  · have h := if_t (ew8.symm.trans n27) h
    subst n27
    refine lv_tableIn (off := 140) (tgt := 161) hx hb d_M_does0_21 (by decide) (by decide) (by decide) (by decide) ?_
    refine lv_aload_n hx hb d_M_does0_161 rfl (lv_at hl 1 rfl) ?_
    refine lv_iload_n hx hb d_M_does0_162 rfl (lv_at hl 2 rfl) ?_
    obtain ⟨M28, r29, eM28, h⟩ := b2_ob h
    refine me_theni0 (M1 := M28) (me_runV (C := "FilterGuardModel") (As := [.int x1]) (rest := []) ⟨hx, hb, hml, hown, hts⟩ (c_M_compute l D ad ca N M5 M28 r29 j0 x1 eM28 hwf hj0 _) rfl (by show fg_nm y_M_compute 1; decide +kernel) u_2312 u_2314 u_149 u_192 u_2315 ⟨Nat.le_of_ble_eq_true rfl, Nat.le_of_ble_eq_true rfl⟩ hX hz hK hP hD hwf hS hA hj0 (by decide) rfl rfl rfl hl.1 (Nat.le_of_ble_eq_true rfl) d_M_does0_163 ⟨Nat.le_of_ble_eq_true rfl, Nat.le_of_ble_eq_true rfl⟩) hP hD hK hS hA rfl rfl (fun H locs hw hP hD hS => ?_)
    obtain ⟨hwf, hk9⟩ := hw
    have hkp := hkp.tr hk9
    exact me_reti (me_kp M0) h hx hb hr hlocks hwf hkp hP hK hD hS d_M_does0_166
  have h := if_f (fun z => n27 (ew8.trans z)) h
  by_cases n30 : w8 = 8
  · have h := if_t (ew8.symm.trans n30) h
    subst n30
    refine lv_tableIn (off := 140) (tgt := 161) hx hb d_M_does0_21 (by decide) (by decide) (by decide) (by decide) ?_
    refine lv_aload_n hx hb d_M_does0_161 rfl (lv_at hl 1 rfl) ?_
    refine lv_iload_n hx hb d_M_does0_162 rfl (lv_at hl 2 rfl) ?_
    obtain ⟨M31, r32, eM31, h⟩ := b2_ob h
    refine me_theni0 (M1 := M31) (me_runV (C := "FilterGuardModel") (As := [.int x1]) (rest := []) ⟨hx, hb, hml, hown, hts⟩ (c_M_compute l D ad ca N M5 M31 r32 j0 x1 eM31 hwf hj0 _) rfl (by show fg_nm y_M_compute 1; decide +kernel) u_2312 u_2314 u_149 u_192 u_2315 ⟨Nat.le_of_ble_eq_true rfl, Nat.le_of_ble_eq_true rfl⟩ hX hz hK hP hD hwf hS hA hj0 (by decide) rfl rfl rfl hl.1 (Nat.le_of_ble_eq_true rfl) d_M_does0_163 ⟨Nat.le_of_ble_eq_true rfl, Nat.le_of_ble_eq_true rfl⟩) hP hD hK hS hA rfl rfl (fun H locs hw hP hD hS => ?_)
    obtain ⟨hwf, hk9⟩ := hw
    have hkp := hkp.tr hk9
    exact me_reti (me_kp M0) h hx hb hr hlocks hwf hkp hP hK hD hS d_M_does0_166
  have h := if_f (fun z => n30 (ew8.trans z)) h
  by_cases n33 : w8 = 9
  · have h := if_t (ew8.symm.trans n33) h
    subst n33
    refine lv_tableIn (off := 140) (tgt := 161) hx hb d_M_does0_21 (by decide) (by decide) (by decide) (by decide) ?_
    refine lv_aload_n hx hb d_M_does0_161 rfl (lv_at hl 1 rfl) ?_
    refine lv_iload_n hx hb d_M_does0_162 rfl (lv_at hl 2 rfl) ?_
    obtain ⟨M34, r35, eM34, h⟩ := b2_ob h
    refine me_theni0 (M1 := M34) (me_runV (C := "FilterGuardModel") (As := [.int x1]) (rest := []) ⟨hx, hb, hml, hown, hts⟩ (c_M_compute l D ad ca N M5 M34 r35 j0 x1 eM34 hwf hj0 _) rfl (by show fg_nm y_M_compute 1; decide +kernel) u_2312 u_2314 u_149 u_192 u_2315 ⟨Nat.le_of_ble_eq_true rfl, Nat.le_of_ble_eq_true rfl⟩ hX hz hK hP hD hwf hS hA hj0 (by decide) rfl rfl rfl hl.1 (Nat.le_of_ble_eq_true rfl) d_M_does0_163 ⟨Nat.le_of_ble_eq_true rfl, Nat.le_of_ble_eq_true rfl⟩) hP hD hK hS hA rfl rfl (fun H locs hw hP hD hS => ?_)
    obtain ⟨hwf, hk9⟩ := hw
    have hkp := hkp.tr hk9
    exact me_reti (me_kp M0) h hx hb hr hlocks hwf hkp hP hK hD hS d_M_does0_166
  have h := if_f (fun z => n33 (ew8.trans z)) h
  by_cases n36 : w8 = 10
  · have h := if_t (ew8.symm.trans n36) h
    subst n36
    refine lv_tableIn (off := 91) (tgt := 112) hx hb d_M_does0_21 (by decide) (by decide) (by decide) (by decide) ?_
    refine lv_aload_n hx hb d_M_does0_112 rfl (lv_at hl 1 rfl) ?_
    refine lv_iload_n hx hb d_M_does0_113 rfl (lv_at hl 2 rfl) ?_
    refine lv_iconst (v := 1) hx hb d_M_does0_114 (by decide) ?_
    refine lv_iadd hx hb d_M_does0_115 ?_
    refine lv_lload_n hx hb d_M_does0_116 rfl (lv_at hl 0 rfl) ?_
    obtain ⟨r37, er37, h⟩ := bd_ob h
    refine me_pani' (r0 := r37) (fg_runS (wc := []) (tc := []) (A2 := A) (As := [.long v4]) (rest := [.int (x1 + 1), .ref (ad 1 j0)]) ⟨hx, hb, hml, hown, hts⟩ (c_M_offsetOf l D r37 v4 er37 _) (by show fg_nm y_M_offsetOf 1; decide +kernel) u_2013 u_2014 u_192 u_2015 ⟨Nat.le_of_ble_eq_true rfl, Nat.le_of_ble_eq_true rfl⟩ hX me_P0 (hK.sub (tys' := []) [] rfl) me_D0 rfl hl.1 (Nat.le_of_ble_eq_true rfl) d_M_does0_117 ⟨Nat.le_of_ble_eq_true rfl, Nat.le_of_ble_eq_true rfl⟩) hP hD hK hS hA rfl rfl (fun H locs hw hP hD hS => ?_)
    refine lv_iadd hx hb d_M_does0_120 ?_
    obtain ⟨M38, eM38, h⟩ := st_ob h
    refine p_M_70 eM38 hx hb hts hown hK hP hD hwf hS hj0 (hts _ u_1811) d_M_does0_121 (fun H locs hP hD hwf hS => ?_)
    have hkp := kp_I eM38 hkp
    refine lv_iconst (v := 0) hx hb d_M_does0_124 (by decide) ?_
    exact me_reti (me_kp M0) h hx hb hr hlocks hwf hkp hP hK hD hS d_M_does0_125
  have h := if_f (fun z => n36 (ew8.trans z)) h
  by_cases n39 : w8 = 11
  · have h := if_t (ew8.symm.trans n39) h
    subst n39
    refine lv_tableIn (off := 105) (tgt := 126) hx hb d_M_does0_21 (by decide) (by decide) (by decide) (by decide) ?_
    refine lv_aload_n hx hb d_M_does0_126 rfl (lv_at hl 1 rfl) ?_
    refine lv_iload_n hx hb d_M_does0_127 rfl (lv_at hl 2 rfl) ?_
    obtain ⟨M40, r41, eM40, h⟩ := b2_ob h
    refine me_theni0 (M1 := M40) (me_runV (C := "FilterGuardModel") (As := [.int x1]) (rest := []) ⟨hx, hb, hml, hown, hts⟩ (c_M_jump l D ad ca N M5 M40 r41 j0 x1 eM40 hwf hj0 _) rfl (by show fg_nm y_M_jump 1; decide +kernel) u_2207 u_2209 u_126 u_192 u_2210 ⟨Nat.le_of_ble_eq_true rfl, Nat.le_of_ble_eq_true rfl⟩ hX hz hK hP hD hwf hS hA hj0 (by decide) rfl rfl rfl hl.1 (Nat.le_of_ble_eq_true rfl) d_M_does0_128 ⟨Nat.le_of_ble_eq_true rfl, Nat.le_of_ble_eq_true rfl⟩) hP hD hK hS hA rfl rfl (fun H locs hw hP hD hS => ?_)
    obtain ⟨hwf, hk9⟩ := hw
    have hkp := hkp.tr hk9
    exact me_reti (me_kp M0) h hx hb hr hlocks hwf hkp hP hK hD hS d_M_does0_131
  have h := if_f (fun z => n39 (ew8.trans z)) h
  by_cases n42 : w8 = 12
  · have h := if_t (ew8.symm.trans n42) h
    subst n42
    refine lv_tableIn (off := 111) (tgt := 132) hx hb d_M_does0_21 (by decide) (by decide) (by decide) (by decide) ?_
    refine lv_aload_n hx hb d_M_does0_132 rfl (lv_at hl 1 rfl) ?_
    refine lv_lload_n hx hb d_M_does0_133 rfl (lv_at hl 0 rfl) ?_
    obtain ⟨r43, er43, h⟩ := bd_ob h
    refine me_pani' (r0 := r43) (fg_runS (wc := []) (tc := []) (A2 := A) (As := [.long v4]) (rest := [.ref (ad 1 j0)]) ⟨hx, hb, hml, hown, hts⟩ (c_M_fieldOf l D r43 v4 er43 _) (by show fg_nm y_M_fieldOf 1; decide +kernel) u_2016 u_2017 u_192 u_2018 ⟨Nat.le_of_ble_eq_true rfl, Nat.le_of_ble_eq_true rfl⟩ hX me_P0 (hK.sub (tys' := []) [] rfl) me_D0 rfl hl.1 (Nat.le_of_ble_eq_true rfl) d_M_does0_134 ⟨Nat.le_of_ble_eq_true rfl, Nat.le_of_ble_eq_true rfl⟩) hP hD hK hS hA rfl rfl (fun H locs hw hP hD hS => ?_)
    obtain ⟨M44, r45, eM44, h⟩ := b2_ob h
    refine me_theni0 (M1 := M44) (me_runV (C := "FilterGuardModel") (As := [.int r43]) (rest := []) ⟨hx, hb, hml, hown, hts⟩ (c_M_call l D ad ca N M5 M44 r45 j0 r43 eM44 hwf hj0 _) rfl (by show fg_nm y_M_call 1; decide +kernel) u_2285 u_2287 u_143 u_192 u_2288 ⟨Nat.le_of_ble_eq_true rfl, Nat.le_of_ble_eq_true rfl⟩ hX hz hK hP hD hwf hS hA hj0 (by decide) rfl rfl rfl hl.1 (Nat.le_of_ble_eq_true rfl) d_M_does0_137 ⟨Nat.le_of_ble_eq_true rfl, Nat.le_of_ble_eq_true rfl⟩) hP hD hK hS hA rfl rfl (fun H locs hw hP hD hS => ?_)
    obtain ⟨hwf, hk9⟩ := hw
    have hkp := hkp.tr hk9
    exact me_reti (me_kp M0) h hx hb hr hlocks hwf hkp hP hK hD hS d_M_does0_140
  have h := if_f (fun z => n42 (ew8.trans z)) h
  by_cases n46 : w8 = 13
  · have h := if_t (ew8.symm.trans n46) h
    subst n46
    refine lv_tableIn (off := 120) (tgt := 141) hx hb d_M_does0_21 (by decide) (by decide) (by decide) (by decide) ?_
    refine lv_aload_n hx hb d_M_does0_141 rfl (lv_at hl 1 rfl) ?_
    refine lv_iconst (v := (-1)) hx hb d_M_does0_142 (by decide) ?_
    obtain ⟨M47, eM47, h⟩ := st_ob h
    refine p_M_70 eM47 hx hb hts hown hK hP hD hwf hS hj0 (hts _ u_1811) d_M_does0_143 (fun H locs hP hD hwf hS => ?_)
    have hkp := kp_I eM47 hkp
    refine lv_aload_n hx hb d_M_does0_146 rfl (lv_at hl 1 rfl) ?_
    refine lv_iconst (v := 0) hx hb d_M_does0_147 (by decide) ?_
    obtain ⟨M48, r49, eM48, h⟩ := b2_ob h
    refine me_theni0 (M1 := M48) (me_runV (C := "FilterGuardModel") (As := [.int 0]) (rest := []) ⟨hx, hb, hml, hown, hts⟩ (c_M_isNumber l D ad ca N M47 M48 r49 j0 (0 : Int32) eM48 hwf hj0 _) rfl (by show fg_nm y_M_isNumber 1; decide +kernel) u_2187 u_2189 u_121 u_192 u_2190 ⟨Nat.le_of_ble_eq_true rfl, Nat.le_of_ble_eq_true rfl⟩ hX hz hK hP hD hwf hS hA hj0 (by decide) rfl rfl rfl hl.1 (Nat.le_of_ble_eq_true rfl) d_M_does0_148 ⟨Nat.le_of_ble_eq_true rfl, Nat.le_of_ble_eq_true rfl⟩) hP hD hK hS hA rfl rfl (fun H locs hw hP hD hS => ?_)
    obtain ⟨hwf, hk9, zr49⟩ := hw
    have hkp := hkp.tr hk9
    refine lv_if_eq (tgt := 158) hx hb d_M_does0_151 (by decide) (fun c50 => ?_) (fun c50 => ?_)
    · have h := if_t c50 h
      refine lv_bipush (v := 18) hx hb d_M_does0_158 (by decide) ?_
      exact me_reti (me_kp M0) h hx hb hr hlocks hwf hkp hP hK hD hS d_M_does0_160
    have h := if_f c50 h
    refine lv_iconst (v := 0) hx hb d_M_does0_154 (by decide) ?_
    refine lv_goto (tgt := 160) hx hb d_M_does0_155 (by decide) ?_
    exact me_reti (me_kp M0) h hx hb hr hlocks hwf hkp hP hK hD hS d_M_does0_160
  have h := if_f (fun z => n46 (ew8.trans z)) h
  have in9 := lv_neT n9 (show (1 : Int32).toInt = 1 from rfl)
  have in12 := lv_neT n12 (show (2 : Int32).toInt = 2 from rfl)
  have in15 := lv_neT n15 (show (3 : Int32).toInt = 3 from rfl)
  have in18 := lv_neT n18 (show (4 : Int32).toInt = 4 from rfl)
  have in21 := lv_neT n21 (show (5 : Int32).toInt = 5 from rfl)
  have in24 := lv_neT n24 (show (6 : Int32).toInt = 6 from rfl)
  have in27 := lv_neT n27 (show (7 : Int32).toInt = 7 from rfl)
  have in30 := lv_neT n30 (show (8 : Int32).toInt = 8 from rfl)
  have in33 := lv_neT n33 (show (9 : Int32).toInt = 9 from rfl)
  have in36 := lv_neT n36 (show (10 : Int32).toInt = 10 from rfl)
  have in39 := lv_neT n39 (show (11 : Int32).toInt = 11 from rfl)
  have in42 := lv_neT n42 (show (12 : Int32).toInt = 12 from rfl)
  have in46 := lv_neT n46 (show (13 : Int32).toInt = 13 from rfl)
  refine lv_tableOut (tgt := 161) hx hb d_M_does0_21 (by omega) (by decide) ?_
  refine lv_aload_n hx hb d_M_does0_161 rfl (lv_at hl 1 rfl) ?_
  refine lv_iload_n hx hb d_M_does0_162 rfl (lv_at hl 2 rfl) ?_
  obtain ⟨M51, r52, eM51, h⟩ := b2_ob h
  refine me_theni0 (M1 := M51) (me_runV (C := "FilterGuardModel") (As := [.int x1]) (rest := []) ⟨hx, hb, hml, hown, hts⟩ (c_M_compute l D ad ca N M5 M51 r52 j0 x1 eM51 hwf hj0 _) rfl (by show fg_nm y_M_compute 1; decide +kernel) u_2312 u_2314 u_149 u_192 u_2315 ⟨Nat.le_of_ble_eq_true rfl, Nat.le_of_ble_eq_true rfl⟩ hX hz hK hP hD hwf hS hA hj0 (by decide) rfl rfl rfl hl.1 (Nat.le_of_ble_eq_true rfl) d_M_does0_163 ⟨Nat.le_of_ble_eq_true rfl, Nat.le_of_ble_eq_true rfl⟩) hP hD hK hS hA rfl rfl (fun H locs hw hP hD hS => ?_)
  obtain ⟨hwf, hk9⟩ := hw
  have hkp := hkp.tr hk9
  exact me_reti (me_kp M0) h hx hb hr hlocks hwf hkp hP hK hD hS d_M_does0_166
