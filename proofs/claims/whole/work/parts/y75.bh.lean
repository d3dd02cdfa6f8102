theorem d_M_run_159 : decode prog_14_method_137_code 159 = .ok (.lstore_n 3, 1) := by decide +kernel
theorem d_M_run_160 : decode prog_14_method_137_code 160 = .ok (.aload_n 0, 1) := by decide +kernel
theorem d_M_run_161 : decode prog_14_method_137_code 161 = .ok (.iload_n 2, 1) := by decide +kernel
theorem d_M_run_162 : decode prog_14_method_137_code 162 = .ok (.lload_n 3, 1) := by decide +kernel
theorem d_M_run_163 : decode prog_14_method_137_code 163 = .ok (.iload_n 2, 1) := by decide +kernel
theorem d_M_run_164 : decode prog_14_method_137_code 164 = .ok (.iconst 1, 1) := by decide +kernel
theorem d_M_run_165 : decode prog_14_method_137_code 165 = .ok (.iadd, 1) := by decide +kernel
theorem d_M_run_166 : decode prog_14_method_137_code 166 = .ok (.sipush 2000, 3) := by decide +kernel
theorem d_M_run_169 : decode prog_14_method_137_code 169 = .ok (.if_icmp .ge 30, 3) := by decide +kernel
theorem d_M_run_199 : decode prog_14_method_137_code 199 = .ok (.lconst 0, 1) := by decide +kernel
theorem d_M_run_200 : decode prog_14_method_137_code 200 = .ok (.invokevirtual 692, 3) := by decide +kernel
theorem u_2465 : Cond.methodLink "FilterGuardModel" 692 ⟨"FilterGuardModel", "runSlot", "(IJJ)I"⟩ ∈ fg_g := fg_in (List.mem_of_getElem? (i := 2465) (by decide +kernel)) rfl
theorem u_2468 : Cond.code ⟨"FilterGuardModel", "runSlot", "(IJJ)I"⟩ prog_14_method_136_code 11 (some .int) ∈ fg_g := fg_in (List.mem_of_getElem? (i := 2468) (by decide +kernel)) rfl
theorem u_2467 : Cond.instanceMethod ⟨"FilterGuardModel", "runSlot", "(IJJ)I"⟩ ∈ fg_g := fg_in (List.mem_of_getElem? (i := 2467) (by decide +kernel)) rfl
theorem u_170 : Cond.selects "FilterGuardModel" ⟨"FilterGuardModel", "runSlot", "(IJJ)I"⟩ ⟨"FilterGuardModel", "runSlot", "(IJJ)I"⟩ ∈ fg_g := fg_in (List.mem_of_getElem? (i := 170) (by decide +kernel)) rfl
theorem d_M_run_203 : decode prog_14_method_137_code 203 = .ok (.istore_n 2, 1) := by decide +kernel
theorem d_M_run_204 : decode prog_14_method_137_code 204 = .ok (.goto (-79), 3) := by decide +kernel
theorem d_M_run_172 : decode prog_14_method_137_code 172 = .ok (.iload_n 1, 1) := by decide +kernel
theorem d_M_run_173 : decode prog_14_method_137_code 173 = .ok (.iconst 2, 1) := by decide +kernel
theorem d_M_run_174 : decode prog_14_method_137_code 174 = .ok (.if_icmp .ne 14, 3) := by decide +kernel
theorem d_M_run_188 : decode prog_14_method_137_code 188 = .ok (.aload_n 0, 1) := by decide +kernel
theorem d_M_run_189 : decode prog_14_method_137_code 189 = .ok (.getfield 41, 3) := by decide +kernel
theorem d_M_run_192 : decode prog_14_method_137_code 192 = .ok (.iload_n 2, 1) := by decide +kernel
theorem d_M_run_193 : decode prog_14_method_137_code 193 = .ok (.iconst 1, 1) := by decide +kernel
theorem d_M_run_194 : decode prog_14_method_137_code 194 = .ok (.iadd, 1) := by decide +kernel
theorem d_M_run_195 : decode prog_14_method_137_code 195 = .ok (.laload, 1) := by decide +kernel
theorem d_M_run_196 : decode prog_14_method_137_code 196 = .ok (.goto 4, 3) := by decide +kernel
theorem d_M_run_177 : decode prog_14_method_137_code 177 = .ok (.aload_n 0, 1) := by decide +kernel
theorem d_M_run_178 : decode prog_14_method_137_code 178 = .ok (.getfield 44, 3) := by decide +kernel
theorem d_M_run_181 : decode prog_14_method_137_code 181 = .ok (.iload_n 2, 1) := by decide +kernel
theorem d_M_run_182 : decode prog_14_method_137_code 182 = .ok (.iconst 1, 1) := by decide +kernel
theorem d_M_run_183 : decode prog_14_method_137_code 183 = .ok (.iadd, 1) := by decide +kernel
theorem d_M_run_184 : decode prog_14_method_137_code 184 = .ok (.laload, 1) := by decide +kernel
theorem d_M_run_185 : decode prog_14_method_137_code 185 = .ok (.goto 15, 3) := by decide +kernel
theorem d_M_run_125 : decode prog_14_method_137_code 125 = .ok (.iload_n 2, 1) := by decide +kernel
theorem d_M_run_126 : decode prog_14_method_137_code 126 = .ok (.ifCond .lt 81, 3) := by decide +kernel
theorem d_M_run_207 : decode prog_14_method_137_code 207 = .ok (.aload_n 0, 1) := by decide +kernel
theorem d_M_run_208 : decode prog_14_method_137_code 208 = .ok (.aload_n 0, 1) := by decide +kernel
theorem d_M_run_209 : decode prog_14_method_137_code 209 = .ok (.getfield 622, 3) := by decide +kernel
theorem d_M_run_212 : decode prog_14_method_137_code 212 = .ok (.putfield 696, 3) := by decide +kernel
theorem u_1815 : Cond.fieldLink "FilterGuardModel" 696 "FilterGuardModel" "ranBytes" "I" ∈ fg_g := fg_in (List.mem_of_getElem? (i := 1815) (by decide +kernel)) rfl
theorem p_M_74 {p : Program} {l : Launch} {e : Env} {R : Room} {s : Jvm.State} {m : MethodId} {args : Array Value} {below : List Frame} {meth : Method} {c : Code} {H : Heap} {locs : List Loc} {cells slots : Nat} {Q : Jvm.State → Prop} {cc : ByteArray} {pc : Nat} {ls : Array Slot} {rest : List Value} {D : va_G} {A : Nat → Prop} {H0 : Heap} {ad : Nat → Nat → Nat} {ca : Nat → ClassId} {M M1 : me_M} {N : Nat → Nat} {own : String} {index j : Nat} {v : Int32} (he : M1 = wI M 1 j 74 v) (hexec : p.tables.exec = Jvm.exec) (hb : c.code = cc) (hts : ∀ w ∈ fg_g, w.before args s = true) (hown : s.vm.findClass own = some m.cls) (hK : va_K D classes (me_T ca) s) (hP : va_P D classes (me_W ad ca M) H) (hD : va_D A (me_W ad ca M)) (hwf : me_wf N M) (hS : va_S A H0 H locs) (hj : j < N 1) (hlink : (Cond.fieldLink own index "FilterGuardModel" "ranBytes" "I").before args s = true) (hdg : decode cc pc = .ok (.putfield index, 3)) (kk : ∀ (H1 : Heap) (locs1 : List Loc), va_P D classes (me_W ad ca M1) H1 → va_D A (me_W ad ca M1) → me_wf N M1 → va_S A H0 H1 locs1 → W p l e R s m args below meth c H1 locs1 cells slots Q (F0 m (pc + 3) ls rest)) : W p l e R s m args below meth c H locs cells slots Q (F0 m pc ls (.int v :: .ref (ad 1 j) :: rest)) := by
  subst he
  exact me_put (M1 := wI M 1 j 74 v) (k := 1) (f := 74) (C := "FilterGuardModel") (T := F_M) (Nf := 75) hexec hb hts i_M t_M t_M_ok n_M hown hK hP hD hwf hS hj (by decide) rfl (by decide) (by decide) hlink (fun _ h9 => h9) rfl rfl rfl rfl (fun a b h => me_wIE h) (me_fIw (by decide) (by decide)) hdg (fun H1 locs1 a1 a2 a3 => kk H1 locs1 a1 a2 (me_wfI hwf (fun z => absurd z (by decide)) (fun z => absurd z (by decide))) a3)
theorem d_M_run_215 : decode prog_14_method_137_code 215 = .ok (.aload_n 0, 1) := by decide +kernel
theorem d_M_run_216 : decode prog_14_method_137_code 216 = .ok (.getfield 77, 3) := by decide +kernel
theorem d_M_run_219 : decode prog_14_method_137_code 219 = .ok (.iconst 0, 1) := by decide +kernel
theorem d_M_run_220 : decode prog_14_method_137_code 220 = .ok (.laload, 1) := by decide +kernel
theorem d_M_run_221 : decode prog_14_method_137_code 221 = .ok (.lreturn, 1) := by decide +kernel
theorem d_M_run_129 : decode prog_14_method_137_code 129 = .ok (.aload_n 0, 1) := by decide +kernel
theorem d_M_run_130 : decode prog_14_method_137_code 130 = .ok (.dup, 1) := by decide +kernel
theorem d_M_run_131 : decode prog_14_method_137_code 131 = .ok (.getfield 689, 3) := by decide +kernel
theorem u_1783 : Cond.fieldLink "FilterGuardModel" 689 "FilterGuardModel" "ranSteps" "I" ∈ fg_g := fg_in (List.mem_of_getElem? (i := 1783) (by decide +kernel)) rfl
theorem g_M_42 {p : Program} {l : Launch} {e : Env} {R : Room} {s : Jvm.State} {m : MethodId} {args : Array Value} {below : List Frame} {meth : Method} {c : Code} {H : Heap} {locs : List Loc} {cells slots : Nat} {Q : Jvm.State → Prop} {cc : ByteArray} {pc : Nat} {ls : Array Slot} {rest : List Value} {D : va_G} {ad : Nat → Nat → Nat} {ca : Nat → ClassId} {M : me_M} {N : Nat → Nat} {own : String} {index j : Nat} (hexec : p.tables.exec = Jvm.exec) (hb : c.code = cc) (hts : ∀ w ∈ fg_g, w.before args s = true) (hown : s.vm.findClass own = some m.cls) (hK : va_K D classes (me_T ca) s) (hP : va_P D classes (me_W ad ca M) H) (hwf : me_wf N M) (hj : j < N 1) (hlink : (Cond.fieldLink own index "FilterGuardModel" "ranSteps" "I").before args s = true) (hdg : decode cc pc = .ok (.getfield index, 3)) (kk : W p l e R s m args below meth c H locs cells slots Q (F0 m (pc + 3) ls (.int (mI M 1 j 42) :: rest))) : W p l e R s m args below meth c H locs cells slots Q (F0 m pc ls (.ref (ad 1 j) :: rest)) := me_get (k := 1) (f := 42) (C := "FilterGuardModel") (T := F_M) (Nf := 75) hexec hb hts i_M hown hK hP hwf hj (by decide) rfl (by decide) (by decide) hlink (fun _ h9 => h9) hdg kk
theorem d_M_run_134 : decode prog_14_method_137_code 134 = .ok (.iconst 1, 1) := by decide +kernel
theorem d_M_run_135 : decode prog_14_method_137_code 135 = .ok (.iadd, 1) := by decide +kernel
theorem d_M_run_136 : decode prog_14_method_137_code 136 = .ok (.putfield 689, 3) := by decide +kernel
theorem p_M_42 {p : Program} {l : Launch} {e : Env} {R : Room} {s : Jvm.State} {m : MethodId} {args : Array Value} {below : List Frame} {meth : Method} {c : Code} {H : Heap} {locs : List Loc} {cells slots : Nat} {Q : Jvm.State → Prop} {cc : ByteArray} {pc : Nat} {ls : Array Slot} {rest : List Value} {D : va_G} {A : Nat → Prop} {H0 : Heap} {ad : Nat → Nat → Nat} {ca : Nat → ClassId} {M M1 : me_M} {N : Nat → Nat} {own : String} {index j : Nat} {v : Int32} (he : M1 = wI M 1 j 42 v) (hexec : p.tables.exec = Jvm.exec) (hb : c.code = cc) (hts : ∀ w ∈ fg_g, w.before args s = true) (hown : s.vm.findClass own = some m.cls) (hK : va_K D classes (me_T ca) s) (hP : va_P D classes (me_W ad ca M) H) (hD : va_D A (me_W ad ca M)) (hwf : me_wf N M) (hS : va_S A H0 H locs) (hj : j < N 1) (hlink : (Cond.fieldLink own index "FilterGuardModel" "ranSteps" "I").before args s = true) (hdg : decode cc pc = .ok (.putfield index, 3)) (kk : ∀ (H1 : Heap) (locs1 : List Loc), va_P D classes (me_W ad ca M1) H1 → va_D A (me_W ad ca M1) → me_wf N M1 → va_S A H0 H1 locs1 → W p l e R s m args below meth c H1 locs1 cells slots Q (F0 m (pc + 3) ls rest)) : W p l e R s m args below meth c H locs cells slots Q (F0 m pc ls (.int v :: .ref (ad 1 j) :: rest)) := by
  subst he
  exact me_put (M1 := wI M 1 j 42 v) (k := 1) (f := 42) (C := "FilterGuardModel") (T := F_M) (Nf := 75) hexec hb hts i_M t_M t_M_ok n_M hown hK hP hD hwf hS hj (by decide) rfl (by decide) (by decide) hlink (fun _ h9 => h9) rfl rfl rfl rfl (fun a b h => me_wIE h) (me_fIw (by decide) (by decide)) hdg (fun H1 locs1 a1 a2 a3 => kk H1 locs1 a1 a2 (me_wfI hwf (fun z => absurd z (by decide)) (fun z => absurd z (by decide))) a3)
theorem d_M_run_139 : decode prog_14_method_137_code 139 = .ok (.iload_n 1, 1) := by decide +kernel
theorem d_M_run_140 : decode prog_14_method_137_code 140 = .ok (.iconst 2, 1) := by decide +kernel
theorem d_M_run_141 : decode prog_14_method_137_code 141 = .ok (.if_icmp .ne 12, 3) := by decide +kernel
theorem d_M_run_153 : decode prog_14_method_137_code 153 = .ok (.aload_n 0, 1) := by decide +kernel
theorem d_M_run_154 : decode prog_14_method_137_code 154 = .ok (.getfield 41, 3) := by decide +kernel
theorem d_M_run_157 : decode prog_14_method_137_code 157 = .ok (.iload_n 2, 1) := by decide +kernel
theorem d_M_run_158 : decode prog_14_method_137_code 158 = .ok (.laload, 1) := by decide +kernel
theorem d_M_run_144 : decode prog_14_method_137_code 144 = .ok (.aload_n 0, 1) := by decide +kernel
theorem d_M_run_145 : decode prog_14_method_137_code 145 = .ok (.getfield 44, 3) := by decide +kernel
theorem d_M_run_148 : decode prog_14_method_137_code 148 = .ok (.iload_n 2, 1) := by decide +kernel
theorem d_M_run_149 : decode prog_14_method_137_code 149 = .ok (.laload, 1) := by decide +kernel
theorem d_M_run_150 : decode prog_14_method_137_code 150 = .ok (.goto 9, 3) := by decide +kernel
theorem d_M_run_64 : decode prog_14_method_137_code 64 = .ok (.iload_n 2, 1) := by decide +kernel
theorem d_M_run_65 : decode prog_14_method_137_code 65 = .ok (.sipush 512, 3) := by decide +kernel
theorem d_M_run_68 : decode prog_14_method_137_code 68 = .ok (.if_icmp .ge 16, 3) := by decide +kernel
theorem d_M_run_84 : decode prog_14_method_137_code 84 = .ok (.aload_n 0, 1) := by decide +kernel
theorem d_M_run_85 : decode prog_14_method_137_code 85 = .ok (.getfield 77, 3) := by decide +kernel
theorem d_M_run_88 : decode prog_14_method_137_code 88 = .ok (.iconst 1, 1) := by decide +kernel
theorem d_M_run_89 : decode prog_14_method_137_code 89 = .ok (.ldc2_w 637, 3) := by decide +kernel
theorem d_M_run_92 : decode prog_14_method_137_code 92 = .ok (.lastore, 1) := by decide +kernel
theorem d_M_run_93 : decode prog_14_method_137_code 93 = .ok (.aload_n 0, 1) := by decide +kernel
theorem d_M_run_94 : decode prog_14_method_137_code 94 = .ok (.getfield 77, 3) := by decide +kernel
theorem d_M_run_97 : decode prog_14_method_137_code 97 = .ok (.bipush 10, 2) := by decide +kernel
theorem d_M_run_99 : decode prog_14_method_137_code 99 = .ok (.ldc2_w 635, 3) := by decide +kernel
theorem d_M_run_102 : decode prog_14_method_137_code 102 = .ok (.lastore, 1) := by decide +kernel
theorem d_M_run_103 : decode prog_14_method_137_code 103 = .ok (.aload_n 0, 1) := by decide +kernel
theorem d_M_run_104 : decode prog_14_method_137_code 104 = .ok (.dup, 1) := by decide +kernel
theorem d_M_run_105 : decode prog_14_method_137_code 105 = .ok (.getfield 683, 3) := by decide +kernel
theorem u_1781 : Cond.fieldLink "FilterGuardModel" 683 "FilterGuardModel" "runs" "I" ∈ fg_g := fg_in (List.mem_of_getElem? (i := 1781) (by decide +kernel)) rfl
theorem g_M_40 {p : Program} {l : Launch} {e : Env} {R : Room} {s : Jvm.State} {m : MethodId} {args : Array Value} {below : List Frame} {meth : Method} {c : Code} {H : Heap} {locs : List Loc} {cells slots : Nat} {Q : Jvm.State → Prop} {cc : ByteArray} {pc : Nat} {ls : Array Slot} {rest : List Value} {D : va_G} {ad : Nat → Nat → Nat} {ca : Nat → ClassId} {M : me_M} {N : Nat → Nat} {own : String} {index j : Nat} (hexec : p.tables.exec = Jvm.exec) (hb : c.code = cc) (hts : ∀ w ∈ fg_g, w.before args s = true) (hown : s.vm.findClass own = some m.cls) (hK : va_K D classes (me_T ca) s) (hP : va_P D classes (me_W ad ca M) H) (hwf : me_wf N M) (hj : j < N 1) (hlink : (Cond.fieldLink own index "FilterGuardModel" "runs" "I").before args s = true) (hdg : decode cc pc = .ok (.getfield index, 3)) (kk : W p l e R s m args below meth c H locs cells slots Q (F0 m (pc + 3) ls (.int (mI M 1 j 40) :: rest))) : W p l e R s m args below meth c H locs cells slots Q (F0 m pc ls (.ref (ad 1 j) :: rest)) := me_get (k := 1) (f := 40) (C := "FilterGuardModel") (T := F_M) (Nf := 75) hexec hb hts i_M hown hK hP hwf hj (by decide) rfl (by decide) (by decide) hlink (fun _ h9 => h9) hdg kk
theorem d_M_run_108 : decode prog_14_method_137_code 108 = .ok (.iconst 1, 1) := by decide +kernel
theorem d_M_run_109 : decode prog_14_method_137_code 109 = .ok (.iadd, 1) := by decide +kernel
theorem d_M_run_110 : decode prog_14_method_137_code 110 = .ok (.putfield 683, 3) := by decide +kernel
theorem p_M_40 {p : Program} {l : Launch} {e : Env} {R : Room} {s : Jvm.State} {m : MethodId} {args : Array Value} {below : List Frame} {meth : Method} {c : Code} {H : Heap} {locs : List Loc} {cells slots : Nat} {Q : Jvm.State → Prop} {cc : ByteArray} {pc : Nat} {ls : Array Slot} {rest : List Value} {D : va_G} {A : Nat → Prop} {H0 : Heap} {ad : Nat → Nat → Nat} {ca : Nat → ClassId} {M M1 : me_M} {N : Nat → Nat} {own : String} {index j : Nat} {v : Int32} (he : M1 = wI M 1 j 40 v) (hexec : p.tables.exec = Jvm.exec) (hb : c.code = cc) (hts : ∀ w ∈ fg_g, w.before args s = true) (hown : s.vm.findClass own = some m.cls) (hK : va_K D classes (me_T ca) s) (hP : va_P D classes (me_W ad ca M) H) (hD : va_D A (me_W ad ca M)) (hwf : me_wf N M) (hS : va_S A H0 H locs) (hj : j < N 1) (hlink : (Cond.fieldLink own index "FilterGuardModel" "runs" "I").before args s = true) (hdg : decode cc pc = .ok (.putfield index, 3)) (kk : ∀ (H1 : Heap) (locs1 : List Loc), va_P D classes (me_W ad ca M1) H1 → va_D A (me_W ad ca M1) → me_wf N M1 → va_S A H0 H1 locs1 → W p l e R s m args below meth c H1 locs1 cells slots Q (F0 m (pc + 3) ls rest)) : W p l e R s m args below meth c H locs cells slots Q (F0 m pc ls (.int v :: .ref (ad 1 j) :: rest)) := by
  subst he
  exact me_put (M1 := wI M 1 j 40 v) (k := 1) (f := 40) (C := "FilterGuardModel") (T := F_M) (Nf := 75) hexec hb hts i_M t_M t_M_ok n_M hown hK hP hD hwf hS hj (by decide) rfl (by decide) (by decide) hlink (fun _ h9 => h9) rfl rfl rfl rfl (fun a b h => me_wIE h) (me_fIw (by decide) (by decide)) hdg (fun H1 locs1 a1 a2 a3 => kk H1 locs1 a1 a2 (me_wfI hwf (fun z => absurd z (by decide)) (fun z => absurd z (by decide))) a3)
theorem d_M_run_113 : decode prog_14_method_137_code 113 = .ok (.aload_n 0, 1) := by decide +kernel
theorem d_M_run_114 : decode prog_14_method_137_code 114 = .ok (.iload_n 1, 1) := by decide +kernel
theorem d_M_run_115 : decode prog_14_method_137_code 115 = .ok (.putfield 686, 3) := by decide +kernel
theorem u_1782 : Cond.fieldLink "FilterGuardModel" 686 "FilterGuardModel" "ranMode" "I" ∈ fg_g := fg_in (List.mem_of_getElem? (i := 1782) (by decide +kernel)) rfl
theorem p_M_41 {p : Program} {l : Launch} {e : Env} {R : Room} {s : Jvm.State} {m : MethodId} {args : Array Value} {below : List Frame} {meth : Method} {c : Code} {H : Heap} {locs : List Loc} {cells slots : Nat} {Q : Jvm.State → Prop} {cc : ByteArray} {pc : Nat} {ls : Array Slot} {rest : List Value} {D : va_G} {A : Nat → Prop} {H0 : Heap} {ad : Nat → Nat → Nat} {ca : Nat → ClassId} {M M1 : me_M} {N : Nat → Nat} {own : String} {index j : Nat} {v : Int32} (he : M1 = wI M 1 j 41 v) (hexec : p.tables.exec = Jvm.exec) (hb : c.code = cc) (hts : ∀ w ∈ fg_g, w.before args s = true) (hown : s.vm.findClass own = some m.cls) (hK : va_K D classes (me_T ca) s) (hP : va_P D classes (me_W ad ca M) H) (hD : va_D A (me_W ad ca M)) (hwf : me_wf N M) (hS : va_S A H0 H locs) (hj : j < N 1) (hlink : (Cond.fieldLink own index "FilterGuardModel" "ranMode" "I").before args s = true) (hdg : decode cc pc = .ok (.putfield index, 3)) (kk : ∀ (H1 : Heap) (locs1 : List Loc), va_P D classes (me_W ad ca M1) H1 → va_D A (me_W ad ca M1) → me_wf N M1 → va_S A H0 H1 locs1 → W p l e R s m args below meth c H1 locs1 cells slots Q (F0 m (pc + 3) ls rest)) : W p l e R s m args below meth c H locs cells slots Q (F0 m pc ls (.int v :: .ref (ad 1 j) :: rest)) := by
  subst he
  exact me_put (M1 := wI M 1 j 41 v) (k := 1) (f := 41) (C := "FilterGuardModel") (T := F_M) (Nf := 75) hexec hb hts i_M t_M t_M_ok n_M hown hK hP hD hwf hS hj (by decide) rfl (by decide) (by decide) hlink (fun _ h9 => h9) rfl rfl rfl rfl (fun a b h => me_wIE h) (me_fIw (by decide) (by decide)) hdg (fun H1 locs1 a1 a2 a3 => kk H1 locs1 a1 a2 (me_wfI hwf (fun z => absurd z (by decide)) (fun z => absurd z (by decide))) a3)
theorem d_M_run_118 : decode prog_14_method_137_code 118 = .ok (.aload_n 0, 1) := by decide +kernel
theorem d_M_run_119 : decode prog_14_method_137_code 119 = .ok (.iconst 0, 1) := by decide +kernel
theorem d_M_run_120 : decode prog_14_method_137_code 120 = .ok (.putfield 689, 3) := by decide +kernel
theorem d_M_run_123 : decode prog_14_method_137_code 123 = .ok (.iconst 0, 1) := by decide +kernel
theorem d_M_run_124 : decode prog_14_method_137_code 124 = .ok (.istore_n 2, 1) := by decide +kernel
theorem d_M_run_71 : decode prog_14_method_137_code 71 = .ok (.aload_n 0, 1) := by decide +kernel
theorem d_M_run_72 : decode prog_14_method_137_code 72 = .ok (.getfield 80, 3) := by decide +kernel
theorem d_M_run_75 : decode prog_14_method_137_code 75 = .ok (.iload_n 2, 1) := by decide +kernel
theorem d_M_run_76 : decode prog_14_method_137_code 76 = .ok (.iconst 0, 1) := by decide +kernel
theorem d_M_run_77 : decode prog_14_method_137_code 77 = .ok (.bastore, 1) := by decide +kernel
theorem d_M_run_78 : decode prog_14_method_137_code 78 = .ok (.iinc 2 1, 3) := by decide +kernel
theorem d_M_run_81 : decode prog_14_method_137_code 81 = .ok (.goto (-17), 3) := by decide +kernel
theorem d_M_run_43 : decode prog_14_method_137_code 43 = .ok (.iload_n 2, 1) := by decide +kernel
theorem d_M_run_44 : decode prog_14_method_137_code 44 = .ok (.bipush 11, 2) := by decide +kernel
theorem d_M_run_46 : decode prog_14_method_137_code 46 = .ok (.if_icmp .ge 16, 3) := by decide +kernel
theorem d_M_run_62 : decode prog_14_method_137_code 62 = .ok (.iconst 0, 1) := by decide +kernel
theorem d_M_run_63 : decode prog_14_method_137_code 63 = .ok (.istore_n 2, 1) := by decide +kernel
theorem d_M_run_49 : decode prog_14_method_137_code 49 = .ok (.aload_n 0, 1) := by decide +kernel
theorem d_M_run_50 : decode prog_14_method_137_code 50 = .ok (.getfield 77, 3) := by decide +kernel
theorem d_M_run_53 : decode prog_14_method_137_code 53 = .ok (.iload_n 2, 1) := by decide +kernel
theorem d_M_run_54 : decode prog_14_method_137_code 54 = .ok (.lconst 0, 1) := by decide +kernel
theorem d_M_run_55 : decode prog_14_method_137_code 55 = .ok (.lastore, 1) := by decide +kernel
theorem d_M_run_56 : decode prog_14_method_137_code 56 = .ok (.iinc 2 1, 3) := by decide +kernel
theorem d_M_run_59 : decode prog_14_method_137_code 59 = .ok (.goto (-16), 3) := by decide +kernel
theorem d_M_run_0 : decode prog_14_method_137_code 0 = .ok (.aload_n 0, 1) := by decide +kernel
theorem d_M_run_1 : decode prog_14_method_137_code 1 = .ok (.iload_n 1, 1) := by decide +kernel
theorem d_M_run_2 : decode prog_14_method_137_code 2 = .ok (.i2l, 1) := by decide +kernel
theorem d_M_run_3 : decode prog_14_method_137_code 3 = .ok (.lconst 0, 1) := by decide +kernel
theorem d_M_run_4 : decode prog_14_method_137_code 4 = .ok (.ldc2_w 212, 3) := by decide +kernel
theorem d_M_run_7 : decode prog_14_method_137_code 7 = .ok (.invokestatic 342, 3) := by decide +kernel
theorem d_M_run_10 : decode prog_14_method_137_code 10 = .ok (.ifCond .ne 7, 3) := by decide +kernel
theorem d_M_run_17 : decode prog_14_method_137_code 17 = .ok (.aload_n 0, 1) := by decide +kernel
theorem d_M_run_18 : decode prog_14_method_137_code 18 = .ok (.getfield 575, 3) := by decide +kernel
theorem d_M_run_21 : decode prog_14_method_137_code 21 = .ok (.ifCond .ne 7, 3) := by decide +kernel
theorem d_M_run_28 : decode prog_14_method_137_code 28 = .ok (.iconst 0, 1) := by decide +kernel
theorem d_M_run_29 : decode prog_14_method_137_code 29 = .ok (.putfield 152, 3) := by decide +kernel
theorem d_M_run_32 : decode prog_14_method_137_code 32 = .ok (.aload_n 0, 1) := by decide +kernel
theorem d_M_run_33 : decode prog_14_method_137_code 33 = .ok (.getfield 152, 3) := by decide +kernel
theorem d_M_run_36 : decode prog_14_method_137_code 36 = .ok (.ifCond .le 5, 3) := by decide +kernel
theorem d_M_run_41 : decode prog_14_method_137_code 41 = .ok (.iconst 0, 1) := by decide +kernel
theorem d_M_run_42 : decode prog_14_method_137_code 42 = .ok (.istore_n 2, 1) := by decide +kernel
theorem d_M_run_39 : decode prog_14_method_137_code 39 = .ok (.lconst 0, 1) := by decide +kernel
theorem d_M_run_40 : decode prog_14_method_137_code 40 = .ok (.lreturn, 1) := by decide +kernel
theorem d_M_run_24 : decode prog_14_method_137_code 24 = .ok (.iconst 2, 1) := by decide +kernel
theorem d_M_run_25 : decode prog_14_method_137_code 25 = .ok (.goto 4, 3) := by decide +kernel
theorem d_M_run_13 : decode prog_14_method_137_code 13 = .ok (.iconst 1, 1) := by decide +kernel
theorem d_M_run_14 : decode prog_14_method_137_code 14 = .ok (.goto 15, 3) := by decide +kernel
abbrev y_M_run : MethodName := ⟨"FilterGuardModel", "run", "(I)J"⟩
def rm_M_run : Room := { frames := 6, cells := 0, slots := 0, locals := 164 }
abbrev q_M_run (D : va_G) (ad : Nat → Nat → Nat) (ca : Nat → ClassId) (N : Nat → Nat) (M0 MZ : me_M) (RZ : Int64) (A : Nat → Prop) : Array Value → Jvm.State → Outcome → Jvm.State → Prop := va_Ql (fun r (_ : Unit) => r = RZ ∧ me_wf N MZ ∧ me_kp M0 MZ) (fg_B D A (fun _ => me_W ad ca MZ) (fun _ => [])) A
set_option maxHeartbeats 4000000 in
set_option maxRecDepth 100000 in
theorem c_M_run (l : Launch) (D : va_G) (ad : Nat → Nat → Nat) (ca : Nat → ClassId) (N : Nat → Nat) (M0 MZ : me_M) (RZ : Int64) (j0 : Nat) (x1 : Int32) (h : f_M_run M0 j0 x1 = (some (MZ, RZ))) (hwf : me_wf N M0) (hj0 : j0 < N 1) (sz : Nat) : Met l y_M_run (fg_w y_M_run prog_14_method_137_code 5 (some .long)) rm_M_run (va_Pc [.ref (ad 1 j0), .int x1] (fz_P D (me_T ca) (me_W ad ca M0) sz)) (q_M_run D ad ca N M0 MZ RZ (va_A (me_W ad ca M0) sz)) rm_M_run.cells rm_M_run.slots (va_A (me_W ad ca M0) sz) := by
  refine fz_enter (fun A => q_M_run D ad ca N M0 MZ RZ A) (by decide +kernel) (Nat.le_of_ble_eq_true rfl) ?_
  intro p e s m below meth c ls A hx hb hml hown hts hr hlocks hin hP hK hD hS hA hX hl hz
  have hl : lv_has ls 5 [(0, .ref (ad 1 j0)), (1, .int x1)] := hl
  unfold f_M_run at h
  have hkp : me_kp M0 M0 := me_kp.rf
  have hkb := hkp
  have b_159 : ∀ (k125 : me_M → Int32 → Option (me_M × Int64)) (hk125 : ∀ (M : me_M) (y2 : Int32) (H : Heap) (locs : List Loc) (ls : Array Slot), k125 M y2 = (some (MZ, RZ)) → me_wf N M → me_kp M0 M → va_P D classes (me_W ad ca M) H → va_D A (me_W ad ca M) → va_S A s.heap H locs → lv_has ls 5 [(0, .ref (ad 1 j0)), (1, .int x1), (2, .int y2)] → W p l e rm_M_run s m [.ref (ad 1 j0), .int x1].toArray below meth c H locs 0 0 (MQ below (q_M_run D ad ca N M0 MZ RZ A) [.ref (ad 1 j0), .int x1].toArray s rm_M_run.cells rm_M_run.slots A) (F0 m 125 ls [])), ∀ (M : me_M) (y2 : Int32) (s0 : Int64) (H : Heap) (locs : List Loc) (ls : Array Slot), f_M_run_b159 k125 j0 x1 M y2 s0 = (some (MZ, RZ)) → me_wf N M → me_kp M0 M → va_P D classes (me_W ad ca M) H → va_D A (me_W ad ca M) → va_S A s.heap H locs → lv_has ls 5 [(0, .ref (ad 1 j0)), (1, .int x1), (2, .int y2)] → W p l e rm_M_run s m [.ref (ad 1 j0), .int x1].toArray below meth c H locs 0 0 (MQ below (q_M_run D ad ca N M0 MZ RZ A) [.ref (ad 1 j0), .int x1].toArray s rm_M_run.cells rm_M_run.slots A) (F0 m 159 ls [.long s0]) := by
    intro k125 hk125 M y2 s0 H locs ls h hwf hkp hP hD hS hl
    unfold f_M_run_b159 at h
    have hkb := hkp
    refine lv_lstore_n (lv' := [(3, .long s0), (0, .ref (ad 1 j0)), (1, .int x1), (2, .int y2)]) hx hb d_M_run_159 rfl hl (by decide) rfl (fun ls hl => ?_)
    refine lv_aload_n hx hb d_M_run_160 rfl (lv_at hl 1 rfl) ?_
    refine lv_iload_n hx hb d_M_run_161 rfl (lv_at hl 3 rfl) ?_
    refine lv_lload_n hx hb d_M_run_162 rfl (lv_at hl 0 rfl) ?_
    refine lv_iload_n hx hb d_M_run_163 rfl (lv_at hl 3 rfl) ?_
    refine lv_iconst (v := 1) hx hb d_M_run_164 (by decide) ?_
    refine lv_iadd hx hb d_M_run_165 ?_
    refine lv_sipush (v := 2000) hx hb d_M_run_166 (by decide) ?_
    refine lv_icmp_ge (tgt := 199) hx hb d_M_run_169 (by decide) (fun c1 => ?_) (fun c1 => ?_)
    · have h := if_t c1 h
      refine lv_lconst (v := 0) hx hb d_M_run_199 (by decide) ?_
      obtain ⟨M2, r3, eM2, h⟩ := b2_ob h
      refine me_theni0 (M1 := M2) (me_runV (C := "FilterGuardModel") (As := [.int y2, .long s0, .long 0]) (rest := []) ⟨hx, hb, hml, hown, hts⟩ (c_M_runSlot l D ad ca N M M2 r3 j0 y2 s0 (0 : Int64) eM2 hwf hj0 _) rfl (by show fg_nm y_M_runSlot 3; decide +kernel) u_2465 u_2467 u_170 u_192 u_2468 ⟨Nat.le_of_ble_eq_true rfl, Nat.le_of_ble_eq_true rfl⟩ hX hz hK hP hD hwf hS hA hj0 (by decide) rfl rfl rfl hl.1 (Nat.le_of_ble_eq_true rfl) d_M_run_200 ⟨Nat.le_of_ble_eq_true rfl, Nat.le_of_ble_eq_true rfl⟩) hP hD hK hS hA rfl rfl (fun H locs hw hP hD hS => ?_)
      obtain ⟨hwf, hk9⟩ := hw
      have hkp := hkp.tr hk9
      refine lv_istore_n (lv' := [(2, .int r3), (3, .long s0), (0, .ref (ad 1 j0)), (1, .int x1)]) hx hb d_M_run_203 rfl hl (by decide) rfl (fun ls hl => ?_)
      refine lv_goto (tgt := 125) hx hb d_M_run_204 (by decide) ?_
      exact hk125 M2 r3 _ _ _ h hwf hkp hP hD hS (lv_sub hl [2, 3, 0] rfl)
    have h := if_f c1 h
    refine lv_iload_n hx hb d_M_run_172 rfl (lv_at hl 2 rfl) ?_
    refine lv_iconst (v := 2) hx hb d_M_run_173 (by decide) ?_
    refine lv_icmp_ne (tgt := 188) hx hb d_M_run_174 (by decide) (fun c4 => ?_) (fun c4 => ?_)
    · have h := if_f c4 h
      refine lv_aload_n hx hb d_M_run_188 rfl (lv_at hl 1 rfl) ?_
      refine g_M_16 hx hb hts hown hK hP hwf hj0 (hts _ u_1757) d_M_run_189 ?_
      obtain ⟨j5, e6, h⟩ := bd_ob h
      have hj5 : j5 < N 16 := (hwf.2.1 1 j0 16 _ e6 (by decide) hj0)
      refine me_opt (j := j5) e6 ?_
      refine lv_iload_n hx hb d_M_run_192 rfl (lv_at hl 3 rfl) ?_
      refine lv_iconst (v := 1) hx hb d_M_run_193 (by decide) ?_
      refine lv_iadd hx hb d_M_run_194 ?_
      obtain ⟨g7, h⟩ := gd_ob h
      refine me_lald hx hb hK hP hwf hj5 g7 d_M_run_195 ?_
      refine lv_goto (tgt := 200) hx hb d_M_run_196 (by decide) ?_
      obtain ⟨M8, r9, eM8, h⟩ := b2_ob h
      refine me_theni0 (M1 := M8) (me_runV (C := "FilterGuardModel") (As := [.int y2, .long s0, .long (mL M 16 j5 (y2 + 1).toNatClampNeg)]) (rest := []) ⟨hx, hb, hml, hown, hts⟩ (c_M_runSlot l D ad ca N M M8 r9 j0 y2 s0 (mL M 16 j5 (y2 + 1).toNatClampNeg) eM8 hwf hj0 _) rfl (by show fg_nm y_M_runSlot 3; decide +kernel) u_2465 u_2467 u_170 u_192 u_2468 ⟨Nat.le_of_ble_eq_true rfl, Nat.le_of_ble_eq_true rfl⟩ hX hz hK hP hD hwf hS hA hj0 (by decide) rfl rfl rfl hl.1 (Nat.le_of_ble_eq_true rfl) d_M_run_200 ⟨Nat.le_of_ble_eq_true rfl, Nat.le_of_ble_eq_true rfl⟩) hP hD hK hS hA rfl rfl (fun H locs hw hP hD hS => ?_)
      obtain ⟨hwf, hk9⟩ := hw
      have hkp := hkp.tr hk9
      refine lv_istore_n (lv' := [(2, .int r9), (3, .long s0), (0, .ref (ad 1 j0)), (1, .int x1)]) hx hb d_M_run_203 rfl hl (by decide) rfl (fun ls hl => ?_)
      refine lv_goto (tgt := 125) hx hb d_M_run_204 (by decide) ?_
      exact hk125 M8 r9 _ _ _ h hwf hkp hP hD hS (lv_sub hl [2, 3, 0] rfl)
    have h := if_t c4 h
    refine lv_aload_n hx hb d_M_run_177 rfl (lv_at hl 1 rfl) ?_
    refine g_M_17 hx hb hts hown hK hP hwf hj0 (hts _ u_1758) d_M_run_178 ?_
    obtain ⟨j10, e11, h⟩ := bd_ob h
    have hj10 : j10 < N 16 := (hwf.2.1 1 j0 17 _ e11 (by decide) hj0)
    refine me_opt (j := j10) e11 ?_
    refine lv_iload_n hx hb d_M_run_181 rfl (lv_at hl 3 rfl) ?_
    refine lv_iconst (v := 1) hx hb d_M_run_182 (by decide) ?_
    refine lv_iadd hx hb d_M_run_183 ?_
    obtain ⟨g12, h⟩ := gd_ob h
    refine me_lald hx hb hK hP hwf hj10 g12 d_M_run_184 ?_
    refine lv_goto (tgt := 200) hx hb d_M_run_185 (by decide) ?_
    obtain ⟨M13, r14, eM13, h⟩ := b2_ob h
    refine me_theni0 (M1 := M13) (me_runV (C := "FilterGuardModel") (As := [.int y2, .long s0, .long (mL M 16 j10 (y2 + 1).toNatClampNeg)]) (rest := []) ⟨hx, hb, hml, hown, hts⟩ (c_M_runSlot l D ad ca N M M13 r14 j0 y2 s0 (mL M 16 j10 (y2 + 1).toNatClampNeg) eM13 hwf hj0 _) rfl (by show fg_nm y_M_runSlot 3; decide +kernel) u_2465 u_2467 u_170 u_192 u_2468 ⟨Nat.le_of_ble_eq_true rfl, Nat.le_of_ble_eq_true rfl⟩ hX hz hK hP hD hwf hS hA hj0 (by decide) rfl rfl rfl hl.1 (Nat.le_of_ble_eq_true rfl) d_M_run_200 ⟨Nat.le_of_ble_eq_true rfl, Nat.le_of_ble_eq_true rfl⟩) hP hD hK hS hA rfl rfl (fun H locs hw hP hD hS => ?_)
    obtain ⟨hwf, hk9⟩ := hw
    have hkp := hkp.tr hk9
    refine lv_istore_n (lv' := [(2, .int r14), (3, .long s0), (0, .ref (ad 1 j0)), (1, .int x1)]) hx hb d_M_run_203 rfl hl (by decide) rfl (fun ls hl => ?_)
    refine lv_goto (tgt := 125) hx hb d_M_run_204 (by decide) ?_
    exact hk125 M13 r14 _ _ _ h hwf hkp hP hD hS (lv_sub hl [2, 3, 0] rfl)
  have b_125 : ∀ (fu : Nat), ∀ (M : me_M) (y2 : Int32) (H : Heap) (locs : List Loc) (ls : Array Slot), f_M_run_l125 j0 x1 fu M y2 = (some (MZ, RZ)) → me_wf N M → me_kp M0 M → va_P D classes (me_W ad ca M) H → va_D A (me_W ad ca M) → va_S A s.heap H locs → lv_has ls 5 [(0, .ref (ad 1 j0)), (1, .int x1), (2, .int y2)] → W p l e rm_M_run s m [.ref (ad 1 j0), .int x1].toArray below meth c H locs 0 0 (MQ below (q_M_run D ad ca N M0 MZ RZ A) [.ref (ad 1 j0), .int x1].toArray s rm_M_run.cells rm_M_run.slots A) (F0 m 125 ls []) := by
    intro fu
    induction fu with
    | zero =>
      intro M y2 H locs ls h hwf hkp hP hD hS hl
      cases h
    | succ fu ih =>
      intro M y2 H locs ls h hwf hkp hP hD hS hl
      unfold f_M_run_l125 at h
      have hkb := hkp
      refine lv_iload_n hx hb d_M_run_125 rfl (lv_at hl 2 rfl) ?_
      refine lv_if_lt (tgt := 207) hx hb d_M_run_126 (by decide) (fun c15 => ?_) (fun c15 => ?_)
      · have h := if_t c15 h
        refine lv_aload_n hx hb d_M_run_207 rfl (lv_at hl 0 rfl) ?_
        refine lv_aload_n hx hb d_M_run_208 rfl (lv_at hl 0 rfl) ?_
        refine g_M_34 hx hb hts hown hK hP hwf hj0 (hts _ u_1775) d_M_run_209 ?_
        obtain ⟨M16, eM16, h⟩ := st_ob h
        refine p_M_74 eM16 hx hb hts hown hK hP hD hwf hS hj0 (hts _ u_1815) d_M_run_212 (fun H locs hP hD hwf hS => ?_)
        have hkp := kp_I eM16 hkp
        refine lv_aload_n hx hb d_M_run_215 rfl (lv_at hl 0 rfl) ?_
        refine g_M_43 hx hb hts hown hK hP hwf hj0 (hts _ u_1784) d_M_run_216 ?_
        obtain ⟨j17, e18, h⟩ := bd_ob h
        have hj17 : j17 < N 16 := (hwf.2.1 1 j0 43 _ (kp_r hkb hkp e18) (by decide) hj0)
        refine me_opt (j := j17) (kp_r hkb hkp e18) ?_
        refine lv_iconst (v := 0) hx hb d_M_run_219 (by decide) ?_
        obtain ⟨g19, h⟩ := gd_ob h
        refine me_lald hx hb hK hP hwf hj17 (me_in (i := (0 : Int32)) (k := 0) (by decide) (by decide) (kp_c hkb.z hkp.z g19)) d_M_run_220 ?_
        refine fg_topl (y := mL M16 16 j17 0) (congrArg _ (by decide)) ?_
        exact me_retl (me_kp M0) h hx hb hr hlocks hwf hkp hP hK hD hS d_M_run_221
      have h := if_f c15 h
      refine lv_aload_n hx hb d_M_run_129 rfl (lv_at hl 0 rfl) ?_
      refine lv_dup hx hb d_M_run_130 rfl ?_
      refine g_M_42 hx hb hts hown hK hP hwf hj0 (hts _ u_1783) d_M_run_131 ?_
      refine lv_iconst (v := 1) hx hb d_M_run_134 (by decide) ?_
      refine lv_iadd hx hb d_M_run_135 ?_
      obtain ⟨M20, eM20, h⟩ := st_ob h
      refine p_M_42 eM20 hx hb hts hown hK hP hD hwf hS hj0 (hts _ u_1783) d_M_run_136 (fun H locs hP hD hwf hS => ?_)
      have hkp := kp_I eM20 hkp
      refine lv_iload_n hx hb d_M_run_139 rfl (lv_at hl 1 rfl) ?_
      refine lv_iconst (v := 2) hx hb d_M_run_140 (by decide) ?_
      refine lv_icmp_ne (tgt := 153) hx hb d_M_run_141 (by decide) (fun c21 => ?_) (fun c21 => ?_)
      · have h := if_f c21 h
        refine lv_aload_n hx hb d_M_run_153 rfl (lv_at hl 0 rfl) ?_
        refine g_M_16 hx hb hts hown hK hP hwf hj0 (hts _ u_1757) d_M_run_154 ?_
        obtain ⟨j22, e23, h⟩ := bd_ob h
        have hj22 : j22 < N 16 := (hwf.2.1 1 j0 16 _ (kp_r hkb hkp e23) (by decide) hj0)
        refine me_opt (j := j22) (kp_r hkb hkp e23) ?_
        refine lv_iload_n hx hb d_M_run_157 rfl (lv_at hl 2 rfl) ?_
        obtain ⟨g24, h⟩ := gd_ob h
        refine me_lald hx hb hK hP hwf hj22 (kp_z hkb.z hkp.z g24) d_M_run_158 ?_
        exact b_159 _ ih M20 y2 (mL M20 16 j22 y2.toNatClampNeg) _ _ _ h hwf hkp hP hD hS (lv_sub hl [0, 1, 2] rfl)
      have h := if_t c21 h
      refine lv_aload_n hx hb d_M_run_144 rfl (lv_at hl 0 rfl) ?_
      refine g_M_17 hx hb hts hown hK hP hwf hj0 (hts _ u_1758) d_M_run_145 ?_
      obtain ⟨j25, e26, h⟩ := bd_ob h
      have hj25 : j25 < N 16 := (hwf.2.1 1 j0 17 _ (kp_r hkb hkp e26) (by decide) hj0)
      refine me_opt (j := j25) (kp_r hkb hkp e26) ?_
      refine lv_iload_n hx hb d_M_run_148 rfl (lv_at hl 2 rfl) ?_
      obtain ⟨g27, h⟩ := gd_ob h
      refine me_lald hx hb hK hP hwf hj25 (kp_z hkb.z hkp.z g27) d_M_run_149 ?_
      refine lv_goto (tgt := 159) hx hb d_M_run_150 (by decide) ?_
      exact b_159 _ ih M20 y2 (mL M20 16 j25 y2.toNatClampNeg) _ _ _ h hwf hkp hP hD hS (lv_sub hl [0, 1, 2] rfl)
  have b_64 : ∀ (fu : Nat), ∀ (M : me_M) (y2 : Int32) (H : Heap) (locs : List Loc) (ls : Array Slot), f_M_run_l64 j0 x1 fu M y2 = (some (MZ, RZ)) → me_wf N M → me_kp M0 M → va_P D classes (me_W ad ca M) H → va_D A (me_W ad ca M) → va_S A s.heap H locs → lv_has ls 5 [(0, .ref (ad 1 j0)), (1, .int x1), (2, .int y2)] → W p l e rm_M_run s m [.ref (ad 1 j0), .int x1].toArray below meth c H locs 0 0 (MQ below (q_M_run D ad ca N M0 MZ RZ A) [.ref (ad 1 j0), .int x1].toArray s rm_M_run.cells rm_M_run.slots A) (F0 m 64 ls []) := by
    intro fu
    induction fu with
    | zero =>
      intro M y2 H locs ls h hwf hkp hP hD hS hl
      cases h
    | succ fu ih =>
      intro M y2 H locs ls h hwf hkp hP hD hS hl
      unfold f_M_run_l64 at h
      have hkb := hkp
      refine lv_iload_n hx hb d_M_run_64 rfl (lv_at hl 2 rfl) ?_
      refine lv_sipush (v := 512) hx hb d_M_run_65 (by decide) ?_
      refine lv_icmp_ge (tgt := 84) hx hb d_M_run_68 (by decide) (fun c28 => ?_) (fun c28 => ?_)
      · have h := if_t c28 h
        refine lv_aload_n hx hb d_M_run_84 rfl (lv_at hl 0 rfl) ?_
        refine g_M_43 hx hb hts hown hK hP hwf hj0 (hts _ u_1784) d_M_run_85 ?_
        obtain ⟨j29, e30, h⟩ := bd_ob h
        have hj29 : j29 < N 16 := (hwf.2.1 1 j0 43 _ e30 (by decide) hj0)
        refine me_opt (j := j29) e30 ?_
        refine lv_iconst (v := 1) hx hb d_M_run_88 (by decide) ?_
        refine lv_ldc2 hx hb hown (hts _ u_2463) d_M_run_89 ?_
        obtain ⟨g31, h⟩ := gd_ob h
        obtain ⟨M32, eM32, h⟩ := st_ob h
        refine me_last (eM32.trans (by rw [show (1 : Int32).toNatClampNeg = 1 by decide])) hx hb hK hP hD hwf hS hj29 (me_in (i := (1 : Int32)) (k := 1) (by decide) (by decide) g31) d_M_run_92 (fun H locs hP hD hwf hS => ?_)
        have hkp := kp_L eM32 hkp
        refine lv_aload_n hx hb d_M_run_93 rfl (lv_at hl 0 rfl) ?_
        refine g_M_43 hx hb hts hown hK hP hwf hj0 (hts _ u_1784) d_M_run_94 ?_
        refine me_opt (j := j29) (kp_r hkb hkp e30) ?_
        refine lv_bipush (v := 10) hx hb d_M_run_97 (by decide) ?_
        refine lv_ldc2 hx hb hown (hts _ u_2464) d_M_run_99 ?_
        obtain ⟨g33, h⟩ := gd_ob h
        obtain ⟨M34, eM34, h⟩ := st_ob h
        refine me_last (eM34.trans (by rw [show (10 : Int32).toNatClampNeg = 10 by decide])) hx hb hK hP hD hwf hS hj29 (me_in (i := (10 : Int32)) (k := 10) (by decide) (by decide) (kp_c hkb.z hkp.z g33)) d_M_run_102 (fun H locs hP hD hwf hS => ?_)
        have hkp := kp_L eM34 hkp
        refine lv_aload_n hx hb d_M_run_103 rfl (lv_at hl 0 rfl) ?_
        refine lv_dup hx hb d_M_run_104 rfl ?_
        refine g_M_40 hx hb hts hown hK hP hwf hj0 (hts _ u_1781) d_M_run_105 ?_
        refine lv_iconst (v := 1) hx hb d_M_run_108 (by decide) ?_
        refine lv_iadd hx hb d_M_run_109 ?_
        obtain ⟨M35, eM35, h⟩ := st_ob h
        refine p_M_40 eM35 hx hb hts hown hK hP hD hwf hS hj0 (hts _ u_1781) d_M_run_110 (fun H locs hP hD hwf hS => ?_)
        have hkp := kp_I eM35 hkp
        refine lv_aload_n hx hb d_M_run_113 rfl (lv_at hl 0 rfl) ?_
        refine lv_iload_n hx hb d_M_run_114 rfl (lv_at hl 1 rfl) ?_
        obtain ⟨M36, eM36, h⟩ := st_ob h
        refine p_M_41 eM36 hx hb hts hown hK hP hD hwf hS hj0 (hts _ u_1782) d_M_run_115 (fun H locs hP hD hwf hS => ?_)
        have hkp := kp_I eM36 hkp
        refine lv_aload_n hx hb d_M_run_118 rfl (lv_at hl 0 rfl) ?_
        refine lv_iconst (v := 0) hx hb d_M_run_119 (by decide) ?_
        obtain ⟨M37, eM37, h⟩ := st_ob h
        refine p_M_42 eM37 hx hb hts hown hK hP hD hwf hS hj0 (hts _ u_1783) d_M_run_120 (fun H locs hP hD hwf hS => ?_)
        have hkp := kp_I eM37 hkp
        refine lv_iconst (v := 0) hx hb d_M_run_123 (by decide) ?_
        refine lv_istore_n (lv' := [(2, .int 0), (0, .ref (ad 1 j0)), (1, .int x1)]) hx hb d_M_run_124 rfl hl (by decide) rfl (fun ls hl => ?_)
        exact b_125 _ M37 (0 : Int32) _ _ _ h hwf hkp hP hD hS (lv_sub hl [1, 2, 0] rfl)
      have h := if_f c28 h
      refine lv_aload_n hx hb d_M_run_71 rfl (lv_at hl 0 rfl) ?_
      refine g_M_44 hx hb hts hown hK hP hwf hj0 (hts _ u_1785) d_M_run_72 ?_
      obtain ⟨j38, e39, h⟩ := bd_ob h
      have hj38 : j38 < N 14 := (hwf.2.1 1 j0 44 _ e39 (by decide) hj0)
      refine me_opt (j := j38) e39 ?_
      refine lv_iload_n hx hb d_M_run_75 rfl (lv_at hl 2 rfl) ?_
      refine lv_iconst (v := 0) hx hb d_M_run_76 (by decide) ?_
      obtain ⟨g40, h⟩ := gd_ob h
      obtain ⟨M41, eM41, h⟩ := st_ob h
      refine me_bast eM41 hx hb hK hP hD hwf hS hj38 g40 d_M_run_77 (fun H locs hP hD hwf hS => ?_)
      have hkp := kp_I eM41 hkp
      refine lv_iinc (v := y2 + 1) (lv' := [(2, .int (y2 + 1)), (0, .ref (ad 1 j0)), (1, .int x1)]) hx hb d_M_run_78 hl (k := 2) rfl (by rfl) (by decide) rfl (fun ls hl => ?_)
      refine lv_goto (tgt := 64) hx hb d_M_run_81 (by decide) ?_
      exact ih M41 (y2 + 1) _ _ _ h hwf hkp hP hD hS (lv_sub hl [1, 2, 0] rfl)
  have b_43 : ∀ (fu : Nat), ∀ (M : me_M) (y2 : Int32) (H : Heap) (locs : List Loc) (ls : Array Slot), f_M_run_l43 j0 x1 fu M y2 = (some (MZ, RZ)) → me_wf N M → me_kp M0 M → va_P D classes (me_W ad ca M) H → va_D A (me_W ad ca M) → va_S A s.heap H locs → lv_has ls 5 [(0, .ref (ad 1 j0)), (1, .int x1), (2, .int y2)] → W p l e rm_M_run s m [.ref (ad 1 j0), .int x1].toArray below meth c H locs 0 0 (MQ below (q_M_run D ad ca N M0 MZ RZ A) [.ref (ad 1 j0), .int x1].toArray s rm_M_run.cells rm_M_run.slots A) (F0 m 43 ls []) := by
    intro fu
    induction fu with
    | zero =>
      intro M y2 H locs ls h hwf hkp hP hD hS hl
      cases h
    | succ fu ih =>
      intro M y2 H locs ls h hwf hkp hP hD hS hl
      unfold f_M_run_l43 at h
      have hkb := hkp
      refine lv_iload_n hx hb d_M_run_43 rfl (lv_at hl 2 rfl) ?_
      refine lv_bipush (v := 11) hx hb d_M_run_44 (by decide) ?_
      refine lv_icmp_ge (tgt := 62) hx hb d_M_run_46 (by decide) (fun c42 => ?_) (fun c42 => ?_)
      · have h := if_t c42 h
        refine lv_iconst (v := 0) hx hb d_M_run_62 (by decide) ?_
        refine lv_istore_n (lv' := [(2, .int 0), (0, .ref (ad 1 j0)), (1, .int x1)]) hx hb d_M_run_63 rfl hl (by decide) rfl (fun ls hl => ?_)
        exact b_64 _ M (0 : Int32) _ _ _ h hwf hkp hP hD hS (lv_sub hl [1, 2, 0] rfl)
      have h := if_f c42 h
      refine lv_aload_n hx hb d_M_run_49 rfl (lv_at hl 0 rfl) ?_
      refine g_M_43 hx hb hts hown hK hP hwf hj0 (hts _ u_1784) d_M_run_50 ?_
      obtain ⟨j43, e44, h⟩ := bd_ob h
      have hj43 : j43 < N 16 := (hwf.2.1 1 j0 43 _ e44 (by decide) hj0)
      refine me_opt (j := j43) e44 ?_
      refine lv_iload_n hx hb d_M_run_53 rfl (lv_at hl 2 rfl) ?_
      refine lv_lconst (v := 0) hx hb d_M_run_54 (by decide) ?_
      obtain ⟨g45, h⟩ := gd_ob h
      obtain ⟨M46, eM46, h⟩ := st_ob h
      refine me_last eM46 hx hb hK hP hD hwf hS hj43 g45 d_M_run_55 (fun H locs hP hD hwf hS => ?_)
      have hkp := kp_L eM46 hkp
      refine lv_iinc (v := y2 + 1) (lv' := [(2, .int (y2 + 1)), (0, .ref (ad 1 j0)), (1, .int x1)]) hx hb d_M_run_56 hl (k := 2) rfl (by rfl) (by decide) rfl (fun ls hl => ?_)
      refine lv_goto (tgt := 43) hx hb d_M_run_59 (by decide) ?_
      exact ih M46 (y2 + 1) _ _ _ h hwf hkp hP hD hS (lv_sub hl [1, 2, 0] rfl)
  refine lv_aload_n hx hb d_M_run_0 rfl (lv_at hl 0 rfl) ?_
  refine lv_iload_n hx hb d_M_run_1 rfl (lv_at hl 1 rfl) ?_
  refine lv_i2l (v := x1.toInt64) hx hb d_M_run_2 rfl ?_
  refine lv_lconst (v := 0) hx hb d_M_run_3 (by decide) ?_
  refine lv_ldc2 hx hb hown (hts _ u_2305) d_M_run_4 ?_
  obtain ⟨r47, er47, h⟩ := bd_ob h
  refine me_pani' (r0 := r47) (fg_runS (wc := []) (tc := []) (A2 := A) (As := [.long x1.toInt64, .long 0, .long 2]) (rest := [.ref (ad 1 j0)]) ⟨hx, hb, hml, hown, hts⟩ (c_M_in l D r47 x1.toInt64 (0 : Int64) (2 : Int64) er47 _) (by show fg_nm y_M_in 3; decide +kernel) u_1976 u_1977 u_192 u_1978 ⟨Nat.le_of_ble_eq_true rfl, Nat.le_of_ble_eq_true rfl⟩ hX me_P0 (hK.sub (tys' := []) [] rfl) me_D0 rfl hl.1 (Nat.le_of_ble_eq_true rfl) d_M_run_7 ⟨Nat.le_of_ble_eq_true rfl, Nat.le_of_ble_eq_true rfl⟩) hP hD hK hS hA rfl rfl (fun H locs hw hP hD hS => ?_)
  have zr47 := hw
  refine lv_if_ne (tgt := 17) hx hb d_M_run_10 (by decide) (fun c48 => ?_) (fun c48 => ?_)
  · have h := if_f c48 h
    refine lv_aload_n hx hb d_M_run_17 rfl (lv_at hl 0 rfl) ?_
    refine g_M_19 hx hb hts hown hK hP hwf hj0 (hts _ u_1760) d_M_run_18 ?_
    have z49 := (hwf.2.2.2 1 j0 19 rfl)
    refine lv_if_ne (tgt := 28) hx hb d_M_run_21 (by decide) (fun c50 => ?_) (fun c50 => ?_)
    · have h := if_f c50 h
      refine lv_iconst (v := 0) hx hb d_M_run_28 (by decide) ?_
      obtain ⟨M51, eM51, h⟩ := st_ob h
      refine p_M_0 eM51 hx hb hts hown hK hP hD hwf hS hj0 (hts _ u_1741) d_M_run_29 (fun H locs hP hD hwf hS => ?_)
      have hkp := kp_I eM51 hkp
      refine lv_aload_n hx hb d_M_run_32 rfl (lv_at hl 0 rfl) ?_
      refine g_M_0 hx hb hts hown hK hP hwf hj0 (hts _ u_1741) d_M_run_33 ?_
      refine lv_if_le (tgt := 41) hx hb d_M_run_36 (by decide) (fun c52 => ?_) (fun c52 => ?_)
      · have h := if_t c52 h
        refine lv_iconst (v := 0) hx hb d_M_run_41 (by decide) ?_
        refine lv_istore_n (lv' := [(2, .int 0), (0, .ref (ad 1 j0)), (1, .int x1)]) hx hb d_M_run_42 rfl hl (by decide) rfl (fun ls hl => ?_)
        exact b_43 _ M51 (0 : Int32) _ _ _ h hwf hkp hP hD hS (lv_sub hl [1, 2, 0] rfl)
      have h := if_f c52 h
      refine lv_lconst (v := 0) hx hb d_M_run_39 (by decide) ?_
      exact me_retl (me_kp M0) h hx hb hr hlocks hwf hkp hP hK hD hS d_M_run_40
    have h := if_t c50 h
    refine lv_iconst (v := 2) hx hb d_M_run_24 (by decide) ?_
    refine lv_goto (tgt := 29) hx hb d_M_run_25 (by decide) ?_
    obtain ⟨M53, eM53, h⟩ := st_ob h
    refine p_M_0 eM53 hx hb hts hown hK hP hD hwf hS hj0 (hts _ u_1741) d_M_run_29 (fun H locs hP hD hwf hS => ?_)
    have hkp := kp_I eM53 hkp
    refine lv_aload_n hx hb d_M_run_32 rfl (lv_at hl 0 rfl) ?_
    refine g_M_0 hx hb hts hown hK hP hwf hj0 (hts _ u_1741) d_M_run_33 ?_
    refine lv_if_le (tgt := 41) hx hb d_M_run_36 (by decide) (fun c54 => ?_) (fun c54 => ?_)
    · have h := if_t c54 h
      refine lv_iconst (v := 0) hx hb d_M_run_41 (by decide) ?_
      refine lv_istore_n (lv' := [(2, .int 0), (0, .ref (ad 1 j0)), (1, .int x1)]) hx hb d_M_run_42 rfl hl (by decide) rfl (fun ls hl => ?_)
      exact b_43 _ M53 (0 : Int32) _ _ _ h hwf hkp hP hD hS (lv_sub hl [1, 2, 0] rfl)
    have h := if_f c54 h
    refine lv_lconst (v := 0) hx hb d_M_run_39 (by decide) ?_
    exact me_retl (me_kp M0) h hx hb hr hlocks hwf hkp hP hK hD hS d_M_run_40
  have h := if_t c48 h
  refine lv_iconst (v := 1) hx hb d_M_run_13 (by decide) ?_
  refine lv_goto (tgt := 29) hx hb d_M_run_14 (by decide) ?_
  obtain ⟨M55, eM55, h⟩ := st_ob h
  refine p_M_0 eM55 hx hb hts hown hK hP hD hwf hS hj0 (hts _ u_1741) d_M_run_29 (fun H locs hP hD hwf hS => ?_)
  have hkp := kp_I eM55 hkp
  refine lv_aload_n hx hb d_M_run_32 rfl (lv_at hl 0 rfl) ?_
  refine g_M_0 hx hb hts hown hK hP hwf hj0 (hts _ u_1741) d_M_run_33 ?_
  refine lv_if_le (tgt := 41) hx hb d_M_run_36 (by decide) (fun c56 => ?_) (fun c56 => ?_)
  · have h := if_t c56 h
    refine lv_iconst (v := 0) hx hb d_M_run_41 (by decide) ?_
    refine lv_istore_n (lv' := [(2, .int 0), (0, .ref (ad 1 j0)), (1, .int x1)]) hx hb d_M_run_42 rfl hl (by decide) rfl (fun ls hl => ?_)
    exact b_43 _ M55 (0 : Int32) _ _ _ h hwf hkp hP hD hS (lv_sub hl [1, 2, 0] rfl)
  have h := if_f c56 h
  refine lv_lconst (v := 0) hx hb d_M_run_39 (by decide) ?_
  exact me_retl (me_kp M0) h hx hb hr hlocks hwf hkp hP hK hD hS d_M_run_40
theorem d_M_ran_0 : decode prog_14_method_138_code 0 = .ok (.aload_n 0, 1) := by decide +kernel
theorem d_M_ran_1 : decode prog_14_method_138_code 1 = .ok (.iconst 0, 1) := by decide +kernel
theorem d_M_ran_2 : decode prog_14_method_138_code 2 = .ok (.putfield 152, 3) := by decide +kernel
theorem d_M_ran_5 : decode prog_14_method_138_code 5 = .ok (.aload_n 0, 1) := by decide +kernel
theorem d_M_ran_6 : decode prog_14_method_138_code 6 = .ok (.getfield 683, 3) := by decide +kernel
theorem d_M_ran_9 : decode prog_14_method_138_code 9 = .ok (.ifCond .ne 5, 3) := by decide +kernel
theorem d_M_ran_14 : decode prog_14_method_138_code 14 = .ok (.iload_n 1, 1) := by decide +kernel
theorem d_M_ran_15 : decode prog_14_method_138_code 15 = .ok (.ifCond .ne 10, 3) := by decide +kernel
theorem d_M_ran_25 : decode prog_14_method_138_code 25 = .ok (.iload_n 1, 1) := by decide +kernel
theorem d_M_ran_26 : decode prog_14_method_138_code 26 = .ok (.iconst 1, 1) := by decide +kernel
theorem d_M_ran_27 : decode prog_14_method_138_code 27 = .ok (.if_icmp .ne 10, 3) := by decide +kernel
theorem d_M_ran_37 : decode prog_14_method_138_code 37 = .ok (.iload_n 1, 1) := by decide +kernel
theorem d_M_ran_38 : decode prog_14_method_138_code 38 = .ok (.iconst 2, 1) := by decide +kernel
theorem d_M_ran_39 : decode prog_14_method_138_code 39 = .ok (.if_icmp .ne 10, 3) := by decide +kernel
theorem d_M_ran_49 : decode prog_14_method_138_code 49 = .ok (.iconst (-1), 1) := by decide +kernel
theorem d_M_ran_50 : decode prog_14_method_138_code 50 = .ok (.ireturn, 1) := by decide +kernel
theorem d_M_ran_42 : decode prog_14_method_138_code 42 = .ok (.aload_n 0, 1) := by decide +kernel
theorem d_M_ran_43 : decode prog_14_method_138_code 43 = .ok (.getfield 696, 3) := by decide +kernel
theorem g_M_74 {p : Program} {l : Launch} {e : Env} {R : Room} {s : Jvm.State} {m : MethodId} {args : Array Value} {below : List Frame} {meth : Method} {c : Code} {H : Heap} {locs : List Loc} {cells slots : Nat} {Q : Jvm.State → Prop} {cc : ByteArray} {pc : Nat} {ls : Array Slot} {rest : List Value} {D : va_G} {ad : Nat → Nat → Nat} {ca : Nat → ClassId} {M : me_M} {N : Nat → Nat} {own : String} {index j : Nat} (hexec : p.tables.exec = Jvm.exec) (hb : c.code = cc) (hts : ∀ w ∈ fg_g, w.before args s = true) (hown : s.vm.findClass own = some m.cls) (hK : va_K D classes (me_T ca) s) (hP : va_P D classes (me_W ad ca M) H) (hwf : me_wf N M) (hj : j < N 1) (hlink : (Cond.fieldLink own index "FilterGuardModel" "ranBytes" "I").before args s = true) (hdg : decode cc pc = .ok (.getfield index, 3)) (kk : W p l e R s m args below meth c H locs cells slots Q (F0 m (pc + 3) ls (.int (mI M 1 j 74) :: rest))) : W p l e R s m args below meth c H locs cells slots Q (F0 m pc ls (.ref (ad 1 j) :: rest)) := me_get (k := 1) (f := 74) (C := "FilterGuardModel") (T := F_M) (Nf := 75) hexec hb hts i_M hown hK hP hwf hj (by decide) rfl (by decide) (by decide) hlink (fun _ h9 => h9) hdg kk
theorem d_M_ran_46 : decode prog_14_method_138_code 46 = .ok (.goto 4, 3) := by decide +kernel
theorem d_M_ran_30 : decode prog_14_method_138_code 30 = .ok (.aload_n 0, 1) := by decide +kernel
theorem d_M_ran_31 : decode prog_14_method_138_code 31 = .ok (.getfield 686, 3) := by decide +kernel
theorem g_M_41 {p : Program} {l : Launch} {e : Env} {R : Room} {s : Jvm.State} {m : MethodId} {args : Array Value} {below : List Frame} {meth : Method} {c : Code} {H : Heap} {locs : List Loc} {cells slots : Nat} {Q : Jvm.State → Prop} {cc : ByteArray} {pc : Nat} {ls : Array Slot} {rest : List Value} {D : va_G} {ad : Nat → Nat → Nat} {ca : Nat → ClassId} {M : me_M} {N : Nat → Nat} {own : String} {index j : Nat} (hexec : p.tables.exec = Jvm.exec) (hb : c.code = cc) (hts : ∀ w ∈ fg_g, w.before args s = true) (hown : s.vm.findClass own = some m.cls) (hK : va_K D classes (me_T ca) s) (hP : va_P D classes (me_W ad ca M) H) (hwf : me_wf N M) (hj : j < N 1) (hlink : (Cond.fieldLink own index "FilterGuardModel" "ranMode" "I").before args s = true) (hdg : decode cc pc = .ok (.getfield index, 3)) (kk : W p l e R s m args below meth c H locs cells slots Q (F0 m (pc + 3) ls (.int (mI M 1 j 41) :: rest))) : W p l e R s m args below meth c H locs cells slots Q (F0 m pc ls (.ref (ad 1 j) :: rest)) := me_get (k := 1) (f := 41) (C := "FilterGuardModel") (T := F_M) (Nf := 75) hexec hb hts i_M hown hK hP hwf hj (by decide) rfl (by decide) (by decide) hlink (fun _ h9 => h9) hdg kk
theorem d_M_ran_34 : decode prog_14_method_138_code 34 = .ok (.goto 16, 3) := by decide +kernel
theorem d_M_ran_18 : decode prog_14_method_138_code 18 = .ok (.aload_n 0, 1) := by decide +kernel
theorem d_M_ran_19 : decode prog_14_method_138_code 19 = .ok (.getfield 689, 3) := by decide +kernel
theorem d_M_ran_22 : decode prog_14_method_138_code 22 = .ok (.goto 28, 3) := by decide +kernel
theorem d_M_ran_12 : decode prog_14_method_138_code 12 = .ok (.iconst (-1), 1) := by decide +kernel
theorem d_M_ran_13 : decode prog_14_method_138_code 13 = .ok (.ireturn, 1) := by decide +kernel
abbrev y_M_ran : MethodName := ⟨"FilterGuardModel", "ran", "(I)I"⟩
def rm_M_ran : Room := { frames := 1, cells := 0, slots := 0, locals := 20 }
abbrev q_M_ran (D : va_G) (ad : Nat → Nat → Nat) (ca : Nat → ClassId) (N : Nat → Nat) (M0 MZ : me_M) (RZ : Int32) (A : Nat → Prop) : Array Value → Jvm.State → Outcome → Jvm.State → Prop := va_Qi (fun r (_ : Unit) => r = RZ ∧ me_wf N MZ ∧ me_kp M0 MZ) (fg_B D A (fun _ => me_W ad ca MZ) (fun _ => [])) A
set_option maxHeartbeats 4000000 in
set_option maxRecDepth 100000 in
theorem c_M_ran (l : Launch) (D : va_G) (ad : Nat → Nat → Nat) (ca : Nat → ClassId) (N : Nat → Nat) (M0 MZ : me_M) (RZ : Int32) (j0 : Nat) (x1 : Int32) (h : f_M_ran M0 j0 x1 = (some (MZ, RZ))) (hwf : me_wf N M0) (hj0 : j0 < N 1) (sz : Nat) : Met l y_M_ran (fg_w y_M_ran prog_14_method_138_code 2 (some .int)) rm_M_ran (va_Pc [.ref (ad 1 j0), .int x1] (fz_P D (me_T ca) (me_W ad ca M0) sz)) (q_M_ran D ad ca N M0 MZ RZ (va_A (me_W ad ca M0) sz)) rm_M_ran.cells rm_M_ran.slots (va_A (me_W ad ca M0) sz) := by
  refine fz_enter (fun A => q_M_ran D ad ca N M0 MZ RZ A) (by decide +kernel) (Nat.le_of_ble_eq_true rfl) ?_
  intro p e s m below meth c ls A hx hb hml hown hts hr hlocks hin hP hK hD hS hA hX hl hz
  have hl : lv_has ls 2 [(0, .ref (ad 1 j0)), (1, .int x1)] := hl
  unfold f_M_ran at h
  have hkp : me_kp M0 M0 := me_kp.rf
  have hkb := hkp
  refine lv_aload_n hx hb d_M_ran_0 rfl (lv_at hl 0 rfl) ?_
  refine lv_iconst (v := 0) hx hb d_M_ran_1 (by decide) ?_
  obtain ⟨M1, eM1, h⟩ := st_ob h
  refine p_M_0 eM1 hx hb hts hown hK hP hD hwf hS hj0 (hts _ u_1741) d_M_ran_2 (fun H locs hP hD hwf hS => ?_)
  have hkp := kp_I eM1 hkp
  refine lv_aload_n hx hb d_M_ran_5 rfl (lv_at hl 0 rfl) ?_
  refine g_M_40 hx hb hts hown hK hP hwf hj0 (hts _ u_1781) d_M_ran_6 ?_
  refine lv_if_ne (tgt := 14) hx hb d_M_ran_9 (by decide) (fun c2 => ?_) (fun c2 => ?_)
  · have h := if_f c2 h
    refine lv_iload_n hx hb d_M_ran_14 rfl (lv_at hl 1 rfl) ?_
    refine lv_if_ne (tgt := 25) hx hb d_M_ran_15 (by decide) (fun c3 => ?_) (fun c3 => ?_)
    · have h := if_f c3 h
      refine lv_iload_n hx hb d_M_ran_25 rfl (lv_at hl 1 rfl) ?_
      refine lv_iconst (v := 1) hx hb d_M_ran_26 (by decide) ?_
      refine lv_icmp_ne (tgt := 37) hx hb d_M_ran_27 (by decide) (fun c4 => ?_) (fun c4 => ?_)
      · have h := if_f c4 h
        refine lv_iload_n hx hb d_M_ran_37 rfl (lv_at hl 1 rfl) ?_
        refine lv_iconst (v := 2) hx hb d_M_ran_38 (by decide) ?_
        refine lv_icmp_ne (tgt := 49) hx hb d_M_ran_39 (by decide) (fun c5 => ?_) (fun c5 => ?_)
        · have h := if_f c5 h
          refine lv_iconst (v := (-1)) hx hb d_M_ran_49 (by decide) ?_
          exact me_reti (me_kp M0) h hx hb hr hlocks hwf hkp hP hK hD hS d_M_ran_50
        have h := if_t c5 h
        refine lv_aload_n hx hb d_M_ran_42 rfl (lv_at hl 0 rfl) ?_
        refine g_M_74 hx hb hts hown hK hP hwf hj0 (hts _ u_1815) d_M_ran_43 ?_
        refine lv_goto (tgt := 50) hx hb d_M_ran_46 (by decide) ?_
        exact me_reti (me_kp M0) h hx hb hr hlocks hwf hkp hP hK hD hS d_M_ran_50
      have h := if_t c4 h
      refine lv_aload_n hx hb d_M_ran_30 rfl (lv_at hl 0 rfl) ?_
      refine g_M_41 hx hb hts hown hK hP hwf hj0 (hts _ u_1782) d_M_ran_31 ?_
      refine lv_goto (tgt := 50) hx hb d_M_ran_34 (by decide) ?_
      exact me_reti (me_kp M0) h hx hb hr hlocks hwf hkp hP hK hD hS d_M_ran_50
    have h := if_t c3 h
    refine lv_aload_n hx hb d_M_ran_18 rfl (lv_at hl 0 rfl) ?_
    refine g_M_42 hx hb hts hown hK hP hwf hj0 (hts _ u_1783) d_M_ran_19 ?_
    refine lv_goto (tgt := 50) hx hb d_M_ran_22 (by decide) ?_
    exact me_reti (me_kp M0) h hx hb hr hlocks hwf hkp hP hK hD hS d_M_ran_50
  have h := if_t c2 h
  refine lv_iconst (v := (-1)) hx hb d_M_ran_12 (by decide) ?_
  exact me_reti (me_kp M0) h hx hb hr hlocks hwf hkp hP hK hD hS d_M_ran_13
theorem d_M_told_0 : decode prog_14_method_139_code 0 = .ok (.aload_n 0, 1) := by decide +kernel
theorem d_M_told_1 : decode prog_14_method_139_code 1 = .ok (.iload_n 1, 1) := by decide +kernel
theorem d_M_told_2 : decode prog_14_method_139_code 2 = .ok (.ifCond .lt 15, 3) := by decide +kernel
theorem d_M_told_17 : decode prog_14_method_139_code 17 = .ok (.iconst 1, 1) := by decide +kernel
theorem d_M_told_18 : decode prog_14_method_139_code 18 = .ok (.putfield 152, 3) := by decide +kernel
theorem d_M_told_21 : decode prog_14_method_139_code 21 = .ok (.aload_n 0, 1) := by decide +kernel
theorem d_M_told_22 : decode prog_14_method_139_code 22 = .ok (.getfield 152, 3) := by decide +kernel
theorem d_M_told_25 : decode prog_14_method_139_code 25 = .ok (.ifCond .le 7, 3) := by decide +kernel
theorem d_M_told_32 : decode prog_14_method_139_code 32 = .ok (.aload_n 0, 1) := by decide +kernel
theorem d_M_told_33 : decode prog_14_method_139_code 33 = .ok (.getfield 74, 3) := by decide +kernel
theorem d_M_told_36 : decode prog_14_method_139_code 36 = .ok (.iload_n 1, 1) := by decide +kernel
theorem d_M_told_37 : decode prog_14_method_139_code 37 = .ok (.laload, 1) := by decide +kernel
theorem d_M_told_38 : decode prog_14_method_139_code 38 = .ok (.lreturn, 1) := by decide +kernel
theorem d_M_told_28 : decode prog_14_method_139_code 28 = .ok (.lconst 0, 1) := by decide +kernel
theorem d_M_told_29 : decode prog_14_method_139_code 29 = .ok (.goto 9, 3) := by decide +kernel
theorem d_M_told_5 : decode prog_14_method_139_code 5 = .ok (.iload_n 1, 1) := by decide +kernel
theorem d_M_told_6 : decode prog_14_method_139_code 6 = .ok (.aload_n 0, 1) := by decide +kernel
theorem d_M_told_7 : decode prog_14_method_139_code 7 = .ok (.getfield 662, 3) := by decide +kernel
theorem d_M_told_10 : decode prog_14_method_139_code 10 = .ok (.if_icmp .ge 7, 3) := by decide +kernel
theorem d_M_told_13 : decode prog_14_method_139_code 13 = .ok (.iconst 0, 1) := by decide +kernel
theorem d_M_told_14 : decode prog_14_method_139_code 14 = .ok (.goto 4, 3) := by decide +kernel
abbrev y_M_told : MethodName := ⟨"FilterGuardModel", "told", "(I)J"⟩
def rm_M_told : Room := { frames := 1, cells := 0, slots := 0, locals := 20 }
abbrev q_M_told (D : va_G) (ad : Nat → Nat → Nat) (ca : Nat → ClassId) (N : Nat → Nat) (M0 MZ : me_M) (RZ : Int64) (A : Nat → Prop) : Array Value → Jvm.State → Outcome → Jvm.State → Prop := va_Ql (fun r (_ : Unit) => r = RZ ∧ me_wf N MZ ∧ me_kp M0 MZ) (fg_B D A (fun _ => me_W ad ca MZ) (fun _ => [])) A
set_option maxHeartbeats 4000000 in
set_option maxRecDepth 100000 in
theorem c_M_told (l : Launch) (D : va_G) (ad : Nat → Nat → Nat) (ca : Nat → ClassId) (N : Nat → Nat) (M0 MZ : me_M) (RZ : Int64) (j0 : Nat) (x1 : Int32) (h : f_M_told M0 j0 x1 = (some (MZ, RZ))) (hwf : me_wf N M0) (hj0 : j0 < N 1) (sz : Nat) : Met l y_M_told (fg_w y_M_told prog_14_method_139_code 2 (some .long)) rm_M_told (va_Pc [.ref (ad 1 j0), .int x1] (fz_P D (me_T ca) (me_W ad ca M0) sz)) (q_M_told D ad ca N M0 MZ RZ (va_A (me_W ad ca M0) sz)) rm_M_told.cells rm_M_told.slots (va_A (me_W ad ca M0) sz) := by
  refine fz_enter (fun A => q_M_told D ad ca N M0 MZ RZ A) (by decide +kernel) (Nat.le_of_ble_eq_true rfl) ?_
  intro p e s m below meth c ls A hx hb hml hown hts hr hlocks hin hP hK hD hS hA hX hl hz
  have hl : lv_has ls 2 [(0, .ref (ad 1 j0)), (1, .int x1)] := hl
  unfold f_M_told at h
  have hkp : me_kp M0 M0 := me_kp.rf
  have hkb := hkp
  refine lv_aload_n hx hb d_M_told_0 rfl (lv_at hl 0 rfl) ?_
  refine lv_iload_n hx hb d_M_told_1 rfl (lv_at hl 1 rfl) ?_
  refine lv_if_lt (tgt := 17) hx hb d_M_told_2 (by decide) (fun c1 => ?_) (fun c1 => ?_)
  · have h := if_t c1 h
    refine lv_iconst (v := 1) hx hb d_M_told_17 (by decide) ?_
    obtain ⟨M2, eM2, h⟩ := st_ob h
    refine p_M_0 eM2 hx hb hts hown hK hP hD hwf hS hj0 (hts _ u_1741) d_M_told_18 (fun H locs hP hD hwf hS => ?_)
    have hkp := kp_I eM2 hkp
    refine lv_aload_n hx hb d_M_told_21 rfl (lv_at hl 0 rfl) ?_
    refine g_M_0 hx hb hts hown hK hP hwf hj0 (hts _ u_1741) d_M_told_22 ?_
    refine lv_if_le (tgt := 32) hx hb d_M_told_25 (by decide) (fun c3 => ?_) (fun c3 => ?_)
    · have h := if_t c3 h
      refine lv_aload_n hx hb d_M_told_32 rfl (lv_at hl 0 rfl) ?_
      refine g_M_39 hx hb hts hown hK hP hwf hj0 (hts _ u_1780) d_M_told_33 ?_
      obtain ⟨j4, e5, h⟩ := bd_ob h
      have hj4 : j4 < N 16 := (hwf.2.1 1 j0 39 _ (kp_r hkb hkp e5) (by decide) hj0)
      refine me_opt (j := j4) (kp_r hkb hkp e5) ?_
      refine lv_iload_n hx hb d_M_told_36 rfl (lv_at hl 1 rfl) ?_
      obtain ⟨g6, h⟩ := gd_ob h
      refine me_lald hx hb hK hP hwf hj4 (kp_z hkb.z hkp.z g6) d_M_told_37 ?_
      exact me_retl (me_kp M0) h hx hb hr hlocks hwf hkp hP hK hD hS d_M_told_38
    have h := if_f c3 h
    refine lv_lconst (v := 0) hx hb d_M_told_28 (by decide) ?_
    refine lv_goto (tgt := 38) hx hb d_M_told_29 (by decide) ?_
    exact me_retl (me_kp M0) h hx hb hr hlocks hwf hkp hP hK hD hS d_M_told_38
  have h := if_f c1 h
  refine lv_iload_n hx hb d_M_told_5 rfl (lv_at hl 1 rfl) ?_
  refine lv_aload_n hx hb d_M_told_6 rfl (lv_at hl 0 rfl) ?_
  refine g_M_38 hx hb hts hown hK hP hwf hj0 (hts _ u_1779) d_M_told_7 ?_
  refine lv_icmp_ge (tgt := 17) hx hb d_M_told_10 (by decide) (fun c7 => ?_) (fun c7 => ?_)
  · have h := if_t c7 h
    refine lv_iconst (v := 1) hx hb d_M_told_17 (by decide) ?_
    obtain ⟨M8, eM8, h⟩ := st_ob h
    refine p_M_0 eM8 hx hb hts hown hK hP hD hwf hS hj0 (hts _ u_1741) d_M_told_18 (fun H locs hP hD hwf hS => ?_)
    have hkp := kp_I eM8 hkp
    refine lv_aload_n hx hb d_M_told_21 rfl (lv_at hl 0 rfl) ?_
    refine g_M_0 hx hb hts hown hK hP hwf hj0 (hts _ u_1741) d_M_told_22 ?_
    refine lv_if_le (tgt := 32) hx hb d_M_told_25 (by decide) (fun c9 => ?_) (fun c9 => ?_)
    · have h := if_t c9 h
      refine lv_aload_n hx hb d_M_told_32 rfl (lv_at hl 0 rfl) ?_
      refine g_M_39 hx hb hts hown hK hP hwf hj0 (hts _ u_1780) d_M_told_33 ?_
      obtain ⟨j10, e11, h⟩ := bd_ob h
      have hj10 : j10 < N 16 := (hwf.2.1 1 j0 39 _ (kp_r hkb hkp e11) (by decide) hj0)
      refine me_opt (j := j10) (kp_r hkb hkp e11) ?_
      refine lv_iload_n hx hb d_M_told_36 rfl (lv_at hl 1 rfl) ?_
      obtain ⟨g12, h⟩ := gd_ob h
      refine me_lald hx hb hK hP hwf hj10 (kp_z hkb.z hkp.z g12) d_M_told_37 ?_
      exact me_retl (me_kp M0) h hx hb hr hlocks hwf hkp hP hK hD hS d_M_told_38
    have h := if_f c9 h
    refine lv_lconst (v := 0) hx hb d_M_told_28 (by decide) ?_
    refine lv_goto (tgt := 38) hx hb d_M_told_29 (by decide) ?_
    exact me_retl (me_kp M0) h hx hb hr hlocks hwf hkp hP hK hD hS d_M_told_38
  have h := if_f c7 h
  refine lv_iconst (v := 0) hx hb d_M_told_13 (by decide) ?_
  refine lv_goto (tgt := 18) hx hb d_M_told_14 (by decide) ?_
  obtain ⟨M13, eM13, h⟩ := st_ob h
  refine p_M_0 eM13 hx hb hts hown hK hP hD hwf hS hj0 (hts _ u_1741) d_M_told_18 (fun H locs hP hD hwf hS => ?_)
  have hkp := kp_I eM13 hkp
  refine lv_aload_n hx hb d_M_told_21 rfl (lv_at hl 0 rfl) ?_
  refine g_M_0 hx hb hts hown hK hP hwf hj0 (hts _ u_1741) d_M_told_22 ?_
  refine lv_if_le (tgt := 32) hx hb d_M_told_25 (by decide) (fun c14 => ?_) (fun c14 => ?_)
  · have h := if_t c14 h
    refine lv_aload_n hx hb d_M_told_32 rfl (lv_at hl 0 rfl) ?_
    refine g_M_39 hx hb hts hown hK hP hwf hj0 (hts _ u_1780) d_M_told_33 ?_
    obtain ⟨j15, e16, h⟩ := bd_ob h
    have hj15 : j15 < N 16 := (hwf.2.1 1 j0 39 _ (kp_r hkb hkp e16) (by decide) hj0)
    refine me_opt (j := j15) (kp_r hkb hkp e16) ?_
    refine lv_iload_n hx hb d_M_told_36 rfl (lv_at hl 1 rfl) ?_
    obtain ⟨g17, h⟩ := gd_ob h
    refine me_lald hx hb hK hP hwf hj15 (kp_z hkb.z hkp.z g17) d_M_told_37 ?_
    exact me_retl (me_kp M0) h hx hb hr hlocks hwf hkp hP hK hD hS d_M_told_38
  have h := if_f c14 h
  refine lv_lconst (v := 0) hx hb d_M_told_28 (by decide) ?_
  refine lv_goto (tgt := 38) hx hb d_M_told_29 (by decide) ?_
  exact me_retl (me_kp M0) h hx hb hr hlocks hwf hkp hP hK hD hS d_M_told_38
theorem d_M_count_21 : decode prog_14_method_140_code 21 = .ok (.iload 4, 2) := by decide +kernel
theorem d_M_count_23 : decode prog_14_method_140_code 23 = .ok (.bipush 64, 2) := by decide +kernel
theorem d_M_count_25 : decode prog_14_method_140_code 25 = .ok (.if_icmp .ge 40, 3) := by decide +kernel
theorem d_M_count_65 : decode prog_14_method_140_code 65 = .ok (.aload_n 0, 1) := by decide +kernel
theorem d_M_count_66 : decode prog_14_method_140_code 66 = .ok (.iload_n 2, 1) := by decide +kernel
theorem d_M_count_67 : decode prog_14_method_140_code 67 = .ok (.invokevirtual 616, 3) := by decide +kernel
theorem d_M_count_70 : decode prog_14_method_140_code 70 = .ok (.ifCond .eq 7, 3) := by decide +kernel
theorem d_M_count_77 : decode prog_14_method_140_code 77 = .ok (.iconst (-1), 1) := by decide +kernel
theorem d_M_count_78 : decode prog_14_method_140_code 78 = .ok (.ireturn, 1) := by decide +kernel
theorem d_M_count_73 : decode prog_14_method_140_code 73 = .ok (.iload_n 3, 1) := by decide +kernel
theorem d_M_count_74 : decode prog_14_method_140_code 74 = .ok (.goto 4, 3) := by decide +kernel
theorem d_M_count_28 : decode prog_14_method_140_code 28 = .ok (.aload_n 0, 1) := by decide +kernel
theorem d_M_count_29 : decode prog_14_method_140_code 29 = .ok (.iload_n 2, 1) := by decide +kernel
theorem d_M_count_30 : decode prog_14_method_140_code 30 = .ok (.invokevirtual 616, 3) := by decide +kernel
theorem d_M_count_33 : decode prog_14_method_140_code 33 = .ok (.ifCond .eq 32, 3) := by decide +kernel
theorem d_M_count_36 : decode prog_14_method_140_code 36 = .ok (.iload_n 3, 1) := by decide +kernel
theorem d_M_count_37 : decode prog_14_method_140_code 37 = .ok (.aload_n 0, 1) := by decide +kernel
theorem d_M_count_38 : decode prog_14_method_140_code 38 = .ok (.getfield 27, 3) := by decide +kernel
theorem d_M_count_41 : decode prog_14_method_140_code 41 = .ok (.bipush 64, 2) := by decide +kernel
theorem d_M_count_43 : decode prog_14_method_140_code 43 = .ok (.iload_n 2, 1) := by decide +kernel
theorem d_M_count_44 : decode prog_14_method_140_code 44 = .ok (.imul, 1) := by decide +kernel
theorem d_M_count_45 : decode prog_14_method_140_code 45 = .ok (.iload 4, 2) := by decide +kernel
theorem d_M_count_47 : decode prog_14_method_140_code 47 = .ok (.iadd, 1) := by decide +kernel
theorem d_M_count_48 : decode prog_14_method_140_code 48 = .ok (.baload, 1) := by decide +kernel
theorem d_M_count_49 : decode prog_14_method_140_code 49 = .ok (.ifCond .eq 7, 3) := by decide +kernel
theorem d_M_count_56 : decode prog_14_method_140_code 56 = .ok (.iconst 0, 1) := by decide +kernel
theorem d_M_count_57 : decode prog_14_method_140_code 57 = .ok (.iadd, 1) := by decide +kernel
theorem d_M_count_58 : decode prog_14_method_140_code 58 = .ok (.istore_n 3, 1) := by decide +kernel
theorem d_M_count_59 : decode prog_14_method_140_code 59 = .ok (.iinc 4 1, 3) := by decide +kernel
theorem d_M_count_62 : decode prog_14_method_140_code 62 = .ok (.goto (-41), 3) := by decide +kernel
theorem d_M_count_52 : decode prog_14_method_140_code 52 = .ok (.iconst 1, 1) := by decide +kernel
theorem d_M_count_53 : decode prog_14_method_140_code 53 = .ok (.goto 4, 3) := by decide +kernel
theorem d_M_count_0 : decode prog_14_method_140_code 0 = .ok (.aload_n 0, 1) := by decide +kernel
theorem d_M_count_1 : decode prog_14_method_140_code 1 = .ok (.iconst 0, 1) := by decide +kernel
theorem d_M_count_2 : decode prog_14_method_140_code 2 = .ok (.putfield 152, 3) := by decide +kernel
theorem d_M_count_5 : decode prog_14_method_140_code 5 = .ok (.iload_n 1, 1) := by decide +kernel
theorem d_M_count_6 : decode prog_14_method_140_code 6 = .ok (.bipush 10, 2) := by decide +kernel
theorem d_M_count_8 : decode prog_14_method_140_code 8 = .ok (.if_icmp .lt 71, 3) := by decide +kernel
theorem d_M_count_79 : decode prog_14_method_140_code 79 = .ok (.iload_n 1, 1) := by decide +kernel
theorem d_M_count_80 : decode prog_14_method_140_code 80 = .ok (.tableswitch 69 0 4 #[36, 41, 46, 51, 64], 36) := by decide +kernel
theorem d_M_count_116 : decode prog_14_method_140_code 116 = .ok (.aload_n 0, 1) := by decide +kernel
theorem d_M_count_117 : decode prog_14_method_140_code 117 = .ok (.getfield 566, 3) := by decide +kernel
theorem d_M_count_120 : decode prog_14_method_140_code 120 = .ok (.ireturn, 1) := by decide +kernel
theorem d_M_count_121 : decode prog_14_method_140_code 121 = .ok (.aload_n 0, 1) := by decide +kernel
theorem d_M_count_122 : decode prog_14_method_140_code 122 = .ok (.getfield 348, 3) := by decide +kernel
theorem d_M_count_125 : decode prog_14_method_140_code 125 = .ok (.ireturn, 1) := by decide +kernel
theorem d_M_count_126 : decode prog_14_method_140_code 126 = .ok (.aload_n 0, 1) := by decide +kernel
theorem d_M_count_127 : decode prog_14_method_140_code 127 = .ok (.getfield 662, 3) := by decide +kernel
theorem d_M_count_130 : decode prog_14_method_140_code 130 = .ok (.ireturn, 1) := by decide +kernel
theorem d_M_count_131 : decode prog_14_method_140_code 131 = .ok (.aload_n 0, 1) := by decide +kernel
theorem d_M_count_132 : decode prog_14_method_140_code 132 = .ok (.getfield 575, 3) := by decide +kernel
theorem d_M_count_135 : decode prog_14_method_140_code 135 = .ok (.ifCond .eq 7, 3) := by decide +kernel
theorem d_M_count_142 : decode prog_14_method_140_code 142 = .ok (.iconst 0, 1) := by decide +kernel
theorem d_M_count_143 : decode prog_14_method_140_code 143 = .ok (.ireturn, 1) := by decide +kernel
theorem d_M_count_138 : decode prog_14_method_140_code 138 = .ok (.iconst 1, 1) := by decide +kernel
theorem d_M_count_139 : decode prog_14_method_140_code 139 = .ok (.goto 4, 3) := by decide +kernel
theorem d_M_count_144 : decode prog_14_method_140_code 144 = .ok (.aload_n 0, 1) := by decide +kernel
theorem d_M_count_145 : decode prog_14_method_140_code 145 = .ok (.getfield 683, 3) := by decide +kernel
theorem d_M_count_148 : decode prog_14_method_140_code 148 = .ok (.ireturn, 1) := by decide +kernel
theorem d_M_count_149 : decode prog_14_method_140_code 149 = .ok (.iconst (-1), 1) := by decide +kernel
theorem d_M_count_150 : decode prog_14_method_140_code 150 = .ok (.ireturn, 1) := by decide +kernel
theorem d_M_count_11 : decode prog_14_method_140_code 11 = .ok (.iload_n 1, 1) := by decide +kernel
theorem d_M_count_12 : decode prog_14_method_140_code 12 = .ok (.bipush 10, 2) := by decide +kernel
theorem d_M_count_14 : decode prog_14_method_140_code 14 = .ok (.isub, 1) := by decide +kernel
theorem d_M_count_15 : decode prog_14_method_140_code 15 = .ok (.istore_n 2, 1) := by decide +kernel
theorem d_M_count_16 : decode prog_14_method_140_code 16 = .ok (.iconst 0, 1) := by decide +kernel
theorem d_M_count_17 : decode prog_14_method_140_code 17 = .ok (.istore_n 3, 1) := by decide +kernel
theorem d_M_count_18 : decode prog_14_method_140_code 18 = .ok (.iconst 0, 1) := by decide +kernel
theorem d_M_count_19 : decode prog_14_method_140_code 19 = .ok (.istore 4, 2) := by decide +kernel
abbrev y_M_count : MethodName := ⟨"FilterGuardModel", "count", "(I)I"⟩
def rm_M_count : Room := { frames := 2, cells := 0, slots := 0, locals := 41 }
abbrev q_M_count (D : va_G) (ad : Nat → Nat → Nat) (ca : Nat → ClassId) (N : Nat → Nat) (M0 MZ : me_M) (RZ : Int32) (A : Nat → Prop) : Array Value → Jvm.State → Outcome → Jvm.State → Prop := va_Qi (fun r (_ : Unit) => r = RZ ∧ me_wf N MZ ∧ me_kp M0 MZ) (fg_B D A (fun _ => me_W ad ca MZ) (fun _ => [])) A
set_option maxHeartbeats 4000000 in
set_option maxRecDepth 100000 in
theorem c_M_count (l : Launch) (D : va_G) (ad : Nat → Nat → Nat) (ca : Nat → ClassId) (N : Nat → Nat) (M0 MZ : me_M) (RZ : Int32) (j0 : Nat) (x1 : Int32) (h : f_M_count M0 j0 x1 = (some (MZ, RZ))) (hwf : me_wf N M0) (hj0 : j0 < N 1) (sz : Nat) : Met l y_M_count (fg_w y_M_count prog_14_method_140_code 5 (some .int)) rm_M_count (va_Pc [.ref (ad 1 j0), .int x1] (fz_P D (me_T ca) (me_W ad ca M0) sz)) (q_M_count D ad ca N M0 MZ RZ (va_A (me_W ad ca M0) sz)) rm_M_count.cells rm_M_count.slots (va_A (me_W ad ca M0) sz) := by
  refine fz_enter (fun A => q_M_count D ad ca N M0 MZ RZ A) (by decide +kernel) (Nat.le_of_ble_eq_true rfl) ?_
  intro p e s m below meth c ls A hx hb hml hown hts hr hlocks hin hP hK hD hS hA hX hl hz
  have hl : lv_has ls 5 [(0, .ref (ad 1 j0)), (1, .int x1)] := hl
  unfold f_M_count at h
  have hkp : me_kp M0 M0 := me_kp.rf
  have hkb := hkp
  have b_21 : ∀ (fu : Nat), ∀ (M : me_M) (y2 : Int32) (y3 : Int32) (y4 : Int32) (H : Heap) (locs : List Loc) (ls : Array Slot), f_M_count_l21 j0 fu M y2 y3 y4 = (some (MZ, RZ)) → me_wf N M → me_kp M0 M → va_P D classes (me_W ad ca M) H → va_D A (me_W ad ca M) → va_S A s.heap H locs → lv_has ls 5 [(0, .ref (ad 1 j0)), (2, .int y2), (3, .int y3), (4, .int y4)] → W p l e rm_M_count s m [.ref (ad 1 j0), .int x1].toArray below meth c H locs 0 0 (MQ below (q_M_count D ad ca N M0 MZ RZ A) [.ref (ad 1 j0), .int x1].toArray s rm_M_count.cells rm_M_count.slots A) (F0 m 21 ls []) := by
    intro fu
    induction fu with
    | zero =>
      intro M y2 y3 y4 H locs ls h hwf hkp hP hD hS hl
      cases h
    | succ fu ih =>
      intro M y2 y3 y4 H locs ls h hwf hkp hP hD hS hl
      unfold f_M_count_l21 at h
      have hkb := hkp
      refine lv_iload hx hb d_M_count_21 (lv_at hl 3 rfl) ?_
      refine lv_bipush (v := 64) hx hb d_M_count_23 (by decide) ?_
      refine lv_icmp_ge (tgt := 65) hx hb d_M_count_25 (by decide) (fun c1 => ?_) (fun c1 => ?_)
      · have h := if_t c1 h
        refine lv_aload_n hx hb d_M_count_65 rfl (lv_at hl 0 rfl) ?_
        refine lv_iload_n hx hb d_M_count_66 rfl (lv_at hl 1 rfl) ?_
        obtain ⟨M2, r3, eM2, h⟩ := b2_ob h
        refine me_theni0 (M1 := M2) (me_runV (C := "FilterGuardModel") (As := [.int y2]) (rest := []) ⟨hx, hb, hml, hown, hts⟩ (c_M_isMap l D ad ca N M M2 r3 j0 y2 eM2 hwf hj0 _) rfl (by show fg_nm y_M_isMap 1; decide +kernel) u_2427 u_2429 u_167 u_192 u_2430 ⟨Nat.le_of_ble_eq_true rfl, Nat.le_of_ble_eq_true rfl⟩ hX hz hK hP hD hwf hS hA hj0 (by decide) rfl rfl rfl hl.1 (Nat.le_of_ble_eq_true rfl) d_M_count_67 ⟨Nat.le_of_ble_eq_true rfl, Nat.le_of_ble_eq_true rfl⟩) hP hD hK hS hA rfl rfl (fun H locs hw hP hD hS => ?_)
        obtain ⟨hwf, hk9, zr3⟩ := hw
        have hkp := hkp.tr hk9
        refine lv_if_eq (tgt := 77) hx hb d_M_count_70 (by decide) (fun c4 => ?_) (fun c4 => ?_)
        · have h := if_t c4 h
          refine lv_iconst (v := (-1)) hx hb d_M_count_77 (by decide) ?_
          exact me_reti (me_kp M0) h hx hb hr hlocks hwf hkp hP hK hD hS d_M_count_78
        have h := if_f c4 h
        refine lv_iload_n hx hb d_M_count_73 rfl (lv_at hl 2 rfl) ?_
        refine lv_goto (tgt := 78) hx hb d_M_count_74 (by decide) ?_
        exact me_reti (me_kp M0) h hx hb hr hlocks hwf hkp hP hK hD hS d_M_count_78
      have h := if_f c1 h
      refine lv_aload_n hx hb d_M_count_28 rfl (lv_at hl 0 rfl) ?_
      refine lv_iload_n hx hb d_M_count_29 rfl (lv_at hl 1 rfl) ?_
      obtain ⟨M5, r6, eM5, h⟩ := b2_ob h
      refine me_theni0 (M1 := M5) (me_runV (C := "FilterGuardModel") (As := [.int y2]) (rest := []) ⟨hx, hb, hml, hown, hts⟩ (c_M_isMap l D ad ca N M M5 r6 j0 y2 eM5 hwf hj0 _) rfl (by show fg_nm y_M_isMap 1; decide +kernel) u_2427 u_2429 u_167 u_192 u_2430 ⟨Nat.le_of_ble_eq_true rfl, Nat.le_of_ble_eq_true rfl⟩ hX hz hK hP hD hwf hS hA hj0 (by decide) rfl rfl rfl hl.1 (Nat.le_of_ble_eq_true rfl) d_M_count_30 ⟨Nat.le_of_ble_eq_true rfl, Nat.le_of_ble_eq_true rfl⟩) hP hD hK hS hA rfl rfl (fun H locs hw hP hD hS => ?_)
      obtain ⟨hwf, hk9, zr6⟩ := hw
      have hkp := hkp.tr hk9
      refine lv_if_eq (tgt := 65) hx hb d_M_count_33 (by decide) (fun c7 => ?_) (fun c7 => ?_)
      · have h := if_t c7 h
        refine lv_aload_n hx hb d_M_count_65 rfl (lv_at hl 0 rfl) ?_
        refine lv_iload_n hx hb d_M_count_66 rfl (lv_at hl 1 rfl) ?_
        obtain ⟨M8, r9, eM8, h⟩ := b2_ob h
        refine me_theni0 (M1 := M8) (me_runV (C := "FilterGuardModel") (As := [.int y2]) (rest := []) ⟨hx, hb, hml, hown, hts⟩ (c_M_isMap l D ad ca N M5 M8 r9 j0 y2 eM8 hwf hj0 _) rfl (by show fg_nm y_M_isMap 1; decide +kernel) u_2427 u_2429 u_167 u_192 u_2430 ⟨Nat.le_of_ble_eq_true rfl, Nat.le_of_ble_eq_true rfl⟩ hX hz hK hP hD hwf hS hA hj0 (by decide) rfl rfl rfl hl.1 (Nat.le_of_ble_eq_true rfl) d_M_count_67 ⟨Nat.le_of_ble_eq_true rfl, Nat.le_of_ble_eq_true rfl⟩) hP hD hK hS hA rfl rfl (fun H locs hw hP hD hS => ?_)
        obtain ⟨hwf, hk9, zr9⟩ := hw
        have hkp := hkp.tr hk9
        refine lv_if_eq (tgt := 77) hx hb d_M_count_70 (by decide) (fun c10 => ?_) (fun c10 => ?_)
        · have h := if_t c10 h
          refine lv_iconst (v := (-1)) hx hb d_M_count_77 (by decide) ?_
          exact me_reti (me_kp M0) h hx hb hr hlocks hwf hkp hP hK hD hS d_M_count_78
        have h := if_f c10 h
        refine lv_iload_n hx hb d_M_count_73 rfl (lv_at hl 2 rfl) ?_
        refine lv_goto (tgt := 78) hx hb d_M_count_74 (by decide) ?_
        exact me_reti (me_kp M0) h hx hb hr hlocks hwf hkp hP hK hD hS d_M_count_78
      have h := if_f c7 h
      refine lv_iload_n hx hb d_M_count_36 rfl (lv_at hl 2 rfl) ?_
      refine lv_aload_n hx hb d_M_count_37 rfl (lv_at hl 0 rfl) ?_
      refine g_M_9 hx hb hts hown hK hP hwf hj0 (hts _ u_1750) d_M_count_38 ?_
      obtain ⟨j11, e12, h⟩ := bd_ob h
      have hj11 : j11 < N 15 := (hwf.2.1 1 j0 9 _ (kp_r hkb hkp e12) (by decide) hj0)
      refine me_opt (j := j11) (kp_r hkb hkp e12) ?_
      refine lv_bipush (v := 64) hx hb d_M_count_41 (by decide) ?_
      refine lv_iload_n hx hb d_M_count_43 rfl (lv_at hl 1 rfl) ?_
      refine lv_imul hx hb d_M_count_44 ?_
      refine lv_iload hx hb d_M_count_45 (lv_at hl 3 rfl) ?_
      refine lv_iadd hx hb d_M_count_47 ?_
      obtain ⟨g13, h⟩ := gd_ob h
      refine me_zald hx hb hK hP hwf hj11 (kp_z hkb.z hkp.z g13) d_M_count_48 ?_
      have z14 := hwf.2.2.2 15 j11 (((64 * y2) + y4).toNatClampNeg) rfl
      refine lv_if_eq (tgt := 56) hx hb d_M_count_49 (by decide) (fun c15 => ?_) (fun c15 => ?_)
      · have h := if_t c15 h
        refine lv_iconst (v := 0) hx hb d_M_count_56 (by decide) ?_
        refine lv_iadd hx hb d_M_count_57 ?_
        obtain ⟨v16, ev16, h⟩ := st_ob h
        refine fg_topi (y := v16) ev16.symm ?_
        refine lv_istore_n (lv' := [(3, .int v16), (0, .ref (ad 1 j0)), (2, .int y2), (4, .int y4)]) hx hb d_M_count_58 rfl hl (by decide) rfl (fun ls hl => ?_)
        refine lv_iinc (v := y4 + 1) (lv' := [(4, .int (y4 + 1)), (3, .int v16), (0, .ref (ad 1 j0)), (2, .int y2)]) hx hb d_M_count_59 hl (k := 3) rfl (by rfl) (by decide) rfl (fun ls hl => ?_)
        refine lv_goto (tgt := 21) hx hb d_M_count_62 (by decide) ?_
        exact ih M5 y2 v16 (y4 + 1) _ _ _ h hwf hkp hP hD hS (lv_sub hl [2, 3, 1, 0] rfl)
      have h := if_f c15 h
      refine lv_iconst (v := 1) hx hb d_M_count_52 (by decide) ?_
      refine lv_goto (tgt := 57) hx hb d_M_count_53 (by decide) ?_
      refine lv_iadd hx hb d_M_count_57 ?_
      obtain ⟨v17, ev17, h⟩ := st_ob h
      refine fg_topi (y := v17) ev17.symm ?_
      refine lv_istore_n (lv' := [(3, .int v17), (0, .ref (ad 1 j0)), (2, .int y2), (4, .int y4)]) hx hb d_M_count_58 rfl hl (by decide) rfl (fun ls hl => ?_)
      refine lv_iinc (v := y4 + 1) (lv' := [(4, .int (y4 + 1)), (3, .int v17), (0, .ref (ad 1 j0)), (2, .int y2)]) hx hb d_M_count_59 hl (k := 3) rfl (by rfl) (by decide) rfl (fun ls hl => ?_)
      refine lv_goto (tgt := 21) hx hb d_M_count_62 (by decide) ?_
      exact ih M5 y2 v17 (y4 + 1) _ _ _ h hwf hkp hP hD hS (lv_sub hl [2, 3, 1, 0] rfl)
  refine lv_aload_n hx hb d_M_count_0 rfl (lv_at hl 0 rfl) ?_
  refine lv_iconst (v := 0) hx hb d_M_count_1 (by decide) ?_
  obtain ⟨M18, eM18, h⟩ := st_ob h
  refine p_M_0 eM18 hx hb hts hown hK hP hD hwf hS hj0 (hts _ u_1741) d_M_count_2 (fun H locs hP hD hwf hS => ?_)
  have hkp := kp_I eM18 hkp
  refine lv_iload_n hx hb d_M_count_5 rfl (lv_at hl 1 rfl) ?_
  refine lv_bipush (v := 10) hx hb d_M_count_6 (by decide) ?_
  refine lv_icmp_lt (tgt := 79) hx hb d_M_count_8 (by decide) (fun c19 => ?_) (fun c19 => ?_)
  · have h := if_t c19 h
    refine lv_iload_n hx hb d_M_count_79 rfl (lv_at hl 1 rfl) ?_
    refine lv_topi (fun w20 ew20 => ?_)
    by_cases n21 : w20 = 0
    · have h := if_t (ew20.symm.trans n21) h
      subst n21
      refine lv_tableIn (off := 36) (tgt := 116) hx hb d_M_count_80 (by decide) (by decide) (by decide) (by decide) ?_
      refine lv_aload_n hx hb d_M_count_116 rfl (lv_at hl 0 rfl) ?_
      refine g_M_2 hx hb hts hown hK hP hwf hj0 (hts _ u_1743) d_M_count_117 ?_
      exact me_reti (me_kp M0) h hx hb hr hlocks hwf hkp hP hK hD hS d_M_count_120
    have h := if_f (fun z => n21 (ew20.trans z)) h
    by_cases n22 : w20 = 1
    · have h := if_t (ew20.symm.trans n22) h
      subst n22
      refine lv_tableIn (off := 41) (tgt := 121) hx hb d_M_count_80 (by decide) (by decide) (by decide) (by decide) ?_
      refine lv_aload_n hx hb d_M_count_121 rfl (lv_at hl 0 rfl) ?_
      refine g_M_3 hx hb hts hown hK hP hwf hj0 (hts _ u_1744) d_M_count_122 ?_
      exact me_reti (me_kp M0) h hx hb hr hlocks hwf hkp hP hK hD hS d_M_count_125
    have h := if_f (fun z => n22 (ew20.trans z)) h
    by_cases n23 : w20 = 2
    · have h := if_t (ew20.symm.trans n23) h
      subst n23
      refine lv_tableIn (off := 46) (tgt := 126) hx hb d_M_count_80 (by decide) (by decide) (by decide) (by decide) ?_
      refine lv_aload_n hx hb d_M_count_126 rfl (lv_at hl 0 rfl) ?_
      refine g_M_38 hx hb hts hown hK hP hwf hj0 (hts _ u_1779) d_M_count_127 ?_
      exact me_reti (me_kp M0) h hx hb hr hlocks hwf hkp hP hK hD hS d_M_count_130
    have h := if_f (fun z => n23 (ew20.trans z)) h
    by_cases n24 : w20 = 3
    · have h := if_t (ew20.symm.trans n24) h
      subst n24
      refine lv_tableIn (off := 51) (tgt := 131) hx hb d_M_count_80 (by decide) (by decide) (by decide) (by decide) ?_
      refine lv_aload_n hx hb d_M_count_131 rfl (lv_at hl 0 rfl) ?_
      refine g_M_19 hx hb hts hown hK hP hwf hj0 (hts _ u_1760) d_M_count_132 ?_
      have z25 := (hwf.2.2.2 1 j0 19 rfl)
      refine lv_if_eq (tgt := 142) hx hb d_M_count_135 (by decide) (fun c26 => ?_) (fun c26 => ?_)
      · have h := if_t c26 h
        refine lv_iconst (v := 0) hx hb d_M_count_142 (by decide) ?_
        exact me_reti (me_kp M0) h hx hb hr hlocks hwf hkp hP hK hD hS d_M_count_143
      have h := if_f c26 h
      refine lv_iconst (v := 1) hx hb d_M_count_138 (by decide) ?_
      refine lv_goto (tgt := 143) hx hb d_M_count_139 (by decide) ?_
      exact me_reti (me_kp M0) h hx hb hr hlocks hwf hkp hP hK hD hS d_M_count_143
    have h := if_f (fun z => n24 (ew20.trans z)) h
    by_cases n27 : w20 = 4
    · have h := if_t (ew20.symm.trans n27) h
      subst n27
      refine lv_tableIn (off := 64) (tgt := 144) hx hb d_M_count_80 (by decide) (by decide) (by decide) (by decide) ?_
      refine lv_aload_n hx hb d_M_count_144 rfl (lv_at hl 0 rfl) ?_
      refine g_M_40 hx hb hts hown hK hP hwf hj0 (hts _ u_1781) d_M_count_145 ?_
      exact me_reti (me_kp M0) h hx hb hr hlocks hwf hkp hP hK hD hS d_M_count_148
    have h := if_f (fun z => n27 (ew20.trans z)) h
    have in21 := lv_neT n21 (show (0 : Int32).toInt = 0 from rfl)
    have in22 := lv_neT n22 (show (1 : Int32).toInt = 1 from rfl)
    have in23 := lv_neT n23 (show (2 : Int32).toInt = 2 from rfl)
    have in24 := lv_neT n24 (show (3 : Int32).toInt = 3 from rfl)
    have in27 := lv_neT n27 (show (4 : Int32).toInt = 4 from rfl)
    refine lv_tableOut (tgt := 149) hx hb d_M_count_80 (by omega) (by decide) ?_
    refine lv_iconst (v := (-1)) hx hb d_M_count_149 (by decide) ?_
    exact me_reti (me_kp M0) h hx hb hr hlocks hwf hkp hP hK hD hS d_M_count_150
  have h := if_f c19 h
  refine lv_iload_n hx hb d_M_count_11 rfl (lv_at hl 1 rfl) ?_
  refine lv_bipush (v := 10) hx hb d_M_count_12 (by decide) ?_
  refine lv_isub hx hb d_M_count_14 ?_
  obtain ⟨v28, ev28, h⟩ := st_ob h
  refine fg_topi (y := v28) ev28.symm ?_
  refine lv_istore_n (lv' := [(2, .int v28), (0, .ref (ad 1 j0)), (1, .int x1)]) hx hb d_M_count_15 rfl hl (by decide) rfl (fun ls hl => ?_)
  refine lv_iconst (v := 0) hx hb d_M_count_16 (by decide) ?_
  refine lv_istore_n (lv' := [(3, .int 0), (2, .int v28), (0, .ref (ad 1 j0)), (1, .int x1)]) hx hb d_M_count_17 rfl hl (by decide) rfl (fun ls hl => ?_)
  refine lv_iconst (v := 0) hx hb d_M_count_18 (by decide) ?_
  refine lv_istore (lv' := [(4, .int 0), (3, .int 0), (2, .int v28), (0, .ref (ad 1 j0)), (1, .int x1)]) hx hb d_M_count_19 hl (by decide) rfl (fun ls hl => ?_)
  exact b_21 _ M18 v28 (0 : Int32) (0 : Int32) _ _ _ h hwf hkp hP hD hS (lv_sub hl [3, 2, 1, 0] rfl)
