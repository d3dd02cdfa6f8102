theorem d_M_program_212 : decode prog_14_method_108_code 212 = .ok (.iload 4, 2) := by decide +kernel
theorem d_M_program_214 : decode prog_14_method_108_code 214 = .ok (.iload_n 1, 1) := by decide +kernel
theorem d_M_program_215 : decode prog_14_method_108_code 215 = .ok (.if_icmp .ge 23, 3) := by decide +kernel
theorem d_M_program_238 : decode prog_14_method_108_code 238 = .ok (.aload_n 0, 1) := by decide +kernel
theorem d_M_program_239 : decode prog_14_method_108_code 239 = .ok (.iload_n 1, 1) := by decide +kernel
theorem d_M_program_240 : decode prog_14_method_108_code 240 = .ok (.invokevirtual 596, 3) := by decide +kernel
theorem u_2392 : Cond.methodLink "FilterGuardModel" 596 ⟨"FilterGuardModel", "shorten", "(I)V"⟩ ∈ fg_g := fg_in (List.mem_of_getElem? (i := 2392) (by decide +kernel)) rfl
theorem u_2395 : Cond.code ⟨"FilterGuardModel", "shorten", "(I)V"⟩ prog_14_method_110_code 7 none ∈ fg_g := fg_in (List.mem_of_getElem? (i := 2395) (by decide +kernel)) rfl
theorem u_2394 : Cond.instanceMethod ⟨"FilterGuardModel", "shorten", "(I)V"⟩ ∈ fg_g := fg_in (List.mem_of_getElem? (i := 2394) (by decide +kernel)) rfl
theorem u_166 : Cond.selects "FilterGuardModel" ⟨"FilterGuardModel", "shorten", "(I)V"⟩ ⟨"FilterGuardModel", "shorten", "(I)V"⟩ ∈ fg_g := fg_in (List.mem_of_getElem? (i := 166) (by decide +kernel)) rfl
theorem d_M_program_243 : decode prog_14_method_108_code 243 = .ok (.iconst 0, 1) := by decide +kernel
theorem d_M_program_244 : decode prog_14_method_108_code 244 = .ok (.ireturn, 1) := by decide +kernel
theorem d_M_program_218 : decode prog_14_method_108_code 218 = .ok (.aload_n 0, 1) := by decide +kernel
theorem d_M_program_219 : decode prog_14_method_108_code 219 = .ok (.getfield 41, 3) := by decide +kernel
theorem g_M_16 {p : Program} {l : Launch} {e : Env} {R : Room} {s : Jvm.State} {m : MethodId} {args : Array Value} {below : List Frame} {meth : Method} {c : Code} {H : Heap} {locs : List Loc} {cells slots : Nat} {Q : Jvm.State → Prop} {cc : ByteArray} {pc : Nat} {ls : Array Slot} {rest : List Value} {D : va_G} {ad : Nat → Nat → Nat} {ca : Nat → ClassId} {M : me_M} {N : Nat → Nat} {own : String} {index j : Nat} (hexec : p.tables.exec = Jvm.exec) (hb : c.code = cc) (hts : ∀ w ∈ fg_g, w.before args s = true) (hown : s.vm.findClass own = some m.cls) (hK : va_K D classes (me_T ca) s) (hP : va_P D classes (me_W ad ca M) H) (hwf : me_wf N M) (hj : j < N 1) (hlink : (Cond.fieldLink own index "FilterGuardModel" "program" "[J").before args s = true) (hdg : decode cc pc = .ok (.getfield index, 3)) (kk : W p l e R s m args below meth c H locs cells slots Q (F0 m (pc + 3) ls (va_rf ((mR M 1 j 16).map (ad 16)) :: rest))) : W p l e R s m args below meth c H locs cells slots Q (F0 m pc ls (.ref (ad 1 j) :: rest)) := me_get (k := 1) (f := 16) (C := "FilterGuardModel") (T := F_M) (Nf := 75) hexec hb hts i_M hown hK hP hwf hj (by decide) rfl (by decide) (by decide) hlink (fun _ h9 => h9) hdg kk
theorem d_M_program_222 : decode prog_14_method_108_code 222 = .ok (.iload 4, 2) := by decide +kernel
theorem d_M_program_224 : decode prog_14_method_108_code 224 = .ok (.aload_n 0, 1) := by decide +kernel
theorem d_M_program_225 : decode prog_14_method_108_code 225 = .ok (.getfield 37, 3) := by decide +kernel
theorem d_M_program_228 : decode prog_14_method_108_code 228 = .ok (.iload 4, 2) := by decide +kernel
theorem d_M_program_230 : decode prog_14_method_108_code 230 = .ok (.laload, 1) := by decide +kernel
theorem d_M_program_231 : decode prog_14_method_108_code 231 = .ok (.lastore, 1) := by decide +kernel
theorem d_M_program_232 : decode prog_14_method_108_code 232 = .ok (.iinc 4 1, 3) := by decide +kernel
theorem d_M_program_235 : decode prog_14_method_108_code 235 = .ok (.goto (-23), 3) := by decide +kernel
theorem d_M_program_177 : decode prog_14_method_108_code 177 = .ok (.aload_n 0, 1) := by decide +kernel
theorem d_M_program_178 : decode prog_14_method_108_code 178 = .ok (.getfield 584, 3) := by decide +kernel
theorem u_1761 : Cond.fieldLink "FilterGuardModel" 584 "FilterGuardModel" "fault" "I" ∈ fg_g := fg_in (List.mem_of_getElem? (i := 1761) (by decide +kernel)) rfl
theorem g_M_20 {p : Program} {l : Launch} {e : Env} {R : Room} {s : Jvm.State} {m : MethodId} {args : Array Value} {below : List Frame} {meth : Method} {c : Code} {H : Heap} {locs : List Loc} {cells slots : Nat} {Q : Jvm.State → Prop} {cc : ByteArray} {pc : Nat} {ls : Array Slot} {rest : List Value} {D : va_G} {ad : Nat → Nat → Nat} {ca : Nat → ClassId} {M : me_M} {N : Nat → Nat} {own : String} {index j : Nat} (hexec : p.tables.exec = Jvm.exec) (hb : c.code = cc) (hts : ∀ w ∈ fg_g, w.before args s = true) (hown : s.vm.findClass own = some m.cls) (hK : va_K D classes (me_T ca) s) (hP : va_P D classes (me_W ad ca M) H) (hwf : me_wf N M) (hj : j < N 1) (hlink : (Cond.fieldLink own index "FilterGuardModel" "fault" "I").before args s = true) (hdg : decode cc pc = .ok (.getfield index, 3)) (kk : W p l e R s m args below meth c H locs cells slots Q (F0 m (pc + 3) ls (.int (mI M 1 j 20) :: rest))) : W p l e R s m args below meth c H locs cells slots Q (F0 m pc ls (.ref (ad 1 j) :: rest)) := me_get (k := 1) (f := 20) (C := "FilterGuardModel") (T := F_M) (Nf := 75) hexec hb hts i_M hown hK hP hwf hj (by decide) rfl (by decide) (by decide) hlink (fun _ h9 => h9) hdg kk
theorem d_M_program_181 : decode prog_14_method_108_code 181 = .ok (.ifCond .le 8, 3) := by decide +kernel
theorem d_M_program_189 : decode prog_14_method_108_code 189 = .ok (.aload_n 0, 1) := by decide +kernel
theorem d_M_program_190 : decode prog_14_method_108_code 190 = .ok (.iconst (-1), 1) := by decide +kernel
theorem d_M_program_191 : decode prog_14_method_108_code 191 = .ok (.putfield 351, 3) := by decide +kernel
theorem d_M_program_194 : decode prog_14_method_108_code 194 = .ok (.aload_n 0, 1) := by decide +kernel
theorem d_M_program_195 : decode prog_14_method_108_code 195 = .ok (.iconst 1, 1) := by decide +kernel
theorem d_M_program_196 : decode prog_14_method_108_code 196 = .ok (.putfield 575, 3) := by decide +kernel
theorem u_1760 : Cond.fieldLink "FilterGuardModel" 575 "FilterGuardModel" "hasProgram" "Z" ∈ fg_g := fg_in (List.mem_of_getElem? (i := 1760) (by decide +kernel)) rfl
theorem p_M_19 {p : Program} {l : Launch} {e : Env} {R : Room} {s : Jvm.State} {m : MethodId} {args : Array Value} {below : List Frame} {meth : Method} {c : Code} {H : Heap} {locs : List Loc} {cells slots : Nat} {Q : Jvm.State → Prop} {cc : ByteArray} {pc : Nat} {ls : Array Slot} {rest : List Value} {D : va_G} {A : Nat → Prop} {H0 : Heap} {ad : Nat → Nat → Nat} {ca : Nat → ClassId} {M M1 : me_M} {N : Nat → Nat} {own : String} {index j : Nat} {v : Int32} (he : M1 = wI M 1 j 19 v) (hexec : p.tables.exec = Jvm.exec) (hb : c.code = cc) (hts : ∀ w ∈ fg_g, w.before args s = true) (hown : s.vm.findClass own = some m.cls) (hK : va_K D classes (me_T ca) s) (hP : va_P D classes (me_W ad ca M) H) (hD : va_D A (me_W ad ca M)) (hwf : me_wf N M) (hS : va_S A H0 H locs) (hj : j < N 1) (hv : v = 1 ∨ v = 0) (hlink : (Cond.fieldLink own index "FilterGuardModel" "hasProgram" "Z").before args s = true) (hdg : decode cc pc = .ok (.putfield index, 3)) (kk : ∀ (H1 : Heap) (locs1 : List Loc), va_P D classes (me_W ad ca M1) H1 → va_D A (me_W ad ca M1) → me_wf N M1 → va_S A H0 H1 locs1 → W p l e R s m args below meth c H1 locs1 cells slots Q (F0 m (pc + 3) ls rest)) : W p l e R s m args below meth c H locs cells slots Q (F0 m pc ls (.int v :: .ref (ad 1 j) :: rest)) := by
  subst he
  exact me_put (M1 := wI M 1 j 19 v) (k := 1) (f := 19) (C := "FilterGuardModel") (T := F_M) (Nf := 75) hexec hb hts i_M t_M t_M_ok n_M hown hK hP hD hwf hS hj (by decide) rfl (by decide) (by decide) hlink (fun _ h9 => h9) rfl (me_nz hv) (me_fz hv) rfl (fun a b h => me_wIE h) (me_fIw (by decide) (by decide)) hdg (fun H1 locs1 a1 a2 a3 => kk H1 locs1 a1 a2 (me_wfI hwf (fun z => absurd z (by decide)) (fun _ => hv)) a3)
theorem d_M_program_199 : decode prog_14_method_108_code 199 = .ok (.aload_n 0, 1) := by decide +kernel
theorem d_M_program_200 : decode prog_14_method_108_code 200 = .ok (.iconst 1, 1) := by decide +kernel
theorem d_M_program_201 : decode prog_14_method_108_code 201 = .ok (.putfield 590, 3) := by decide +kernel
theorem u_1745 : Cond.fieldLink "FilterGuardModel" 590 "FilterGuardModel" "everAccepted" "Z" ∈ fg_g := fg_in (List.mem_of_getElem? (i := 1745) (by decide +kernel)) rfl
theorem p_M_4 {p : Program} {l : Launch} {e : Env} {R : Room} {s : Jvm.State} {m : MethodId} {args : Array Value} {below : List Frame} {meth : Method} {c : Code} {H : Heap} {locs : List Loc} {cells slots : Nat} {Q : Jvm.State → Prop} {cc : ByteArray} {pc : Nat} {ls : Array Slot} {rest : List Value} {D : va_G} {A : Nat → Prop} {H0 : Heap} {ad : Nat → Nat → Nat} {ca : Nat → ClassId} {M M1 : me_M} {N : Nat → Nat} {own : String} {index j : Nat} {v : Int32} (he : M1 = wI M 1 j 4 v) (hexec : p.tables.exec = Jvm.exec) (hb : c.code = cc) (hts : ∀ w ∈ fg_g, w.before args s = true) (hown : s.vm.findClass own = some m.cls) (hK : va_K D classes (me_T ca) s) (hP : va_P D classes (me_W ad ca M) H) (hD : va_D A (me_W ad ca M)) (hwf : me_wf N M) (hS : va_S A H0 H locs) (hj : j < N 1) (hv : v = 1 ∨ v = 0) (hlink : (Cond.fieldLink own index "FilterGuardModel" "everAccepted" "Z").before args s = true) (hdg : decode cc pc = .ok (.putfield index, 3)) (kk : ∀ (H1 : Heap) (locs1 : List Loc), va_P D classes (me_W ad ca M1) H1 → va_D A (me_W ad ca M1) → me_wf N M1 → va_S A H0 H1 locs1 → W p l e R s m args below meth c H1 locs1 cells slots Q (F0 m (pc + 3) ls rest)) : W p l e R s m args below meth c H locs cells slots Q (F0 m pc ls (.int v :: .ref (ad 1 j) :: rest)) := by
  subst he
  exact me_put (M1 := wI M 1 j 4 v) (k := 1) (f := 4) (C := "FilterGuardModel") (T := F_M) (Nf := 75) hexec hb hts i_M t_M t_M_ok n_M hown hK hP hD hwf hS hj (by decide) rfl (by decide) (by decide) hlink (fun _ h9 => h9) rfl (me_nz hv) (me_fz hv) rfl (fun a b h => me_wIE h) (me_fIw (by decide) (by decide)) hdg (fun H1 locs1 a1 a2 a3 => kk H1 locs1 a1 a2 (me_wfI hwf (fun z => absurd z (by decide)) (fun _ => hv)) a3)
theorem d_M_program_204 : decode prog_14_method_108_code 204 = .ok (.aload_n 0, 1) := by decide +kernel
theorem d_M_program_205 : decode prog_14_method_108_code 205 = .ok (.iload_n 1, 1) := by decide +kernel
theorem d_M_program_206 : decode prog_14_method_108_code 206 = .ok (.putfield 593, 3) := by decide +kernel
theorem u_1755 : Cond.fieldLink "FilterGuardModel" 593 "FilterGuardModel" "programSlots" "I" ∈ fg_g := fg_in (List.mem_of_getElem? (i := 1755) (by decide +kernel)) rfl
theorem p_M_14 {p : Program} {l : Launch} {e : Env} {R : Room} {s : Jvm.State} {m : MethodId} {args : Array Value} {below : List Frame} {meth : Method} {c : Code} {H : Heap} {locs : List Loc} {cells slots : Nat} {Q : Jvm.State → Prop} {cc : ByteArray} {pc : Nat} {ls : Array Slot} {rest : List Value} {D : va_G} {A : Nat → Prop} {H0 : Heap} {ad : Nat → Nat → Nat} {ca : Nat → ClassId} {M M1 : me_M} {N : Nat → Nat} {own : String} {index j : Nat} {v : Int32} (he : M1 = wI M 1 j 14 v) (hexec : p.tables.exec = Jvm.exec) (hb : c.code = cc) (hts : ∀ w ∈ fg_g, w.before args s = true) (hown : s.vm.findClass own = some m.cls) (hK : va_K D classes (me_T ca) s) (hP : va_P D classes (me_W ad ca M) H) (hD : va_D A (me_W ad ca M)) (hwf : me_wf N M) (hS : va_S A H0 H locs) (hj : j < N 1) (hlink : (Cond.fieldLink own index "FilterGuardModel" "programSlots" "I").before args s = true) (hdg : decode cc pc = .ok (.putfield index, 3)) (kk : ∀ (H1 : Heap) (locs1 : List Loc), va_P D classes (me_W ad ca M1) H1 → va_D A (me_W ad ca M1) → me_wf N M1 → va_S A H0 H1 locs1 → W p l e R s m args below meth c H1 locs1 cells slots Q (F0 m (pc + 3) ls rest)) : W p l e R s m args below meth c H locs cells slots Q (F0 m pc ls (.int v :: .ref (ad 1 j) :: rest)) := by
  subst he
  exact me_put (M1 := wI M 1 j 14 v) (k := 1) (f := 14) (C := "FilterGuardModel") (T := F_M) (Nf := 75) hexec hb hts i_M t_M t_M_ok n_M hown hK hP hD hwf hS hj (by decide) rfl (by decide) (by decide) hlink (fun _ h9 => h9) rfl rfl rfl rfl (fun a b h => me_wIE h) (me_fIw (by decide) (by decide)) hdg (fun H1 locs1 a1 a2 a3 => kk H1 locs1 a1 a2 (me_wfI hwf (fun z => absurd z (by decide)) (fun z => absurd z (by decide))) a3)
theorem d_M_program_209 : decode prog_14_method_108_code 209 = .ok (.iconst 0, 1) := by decide +kernel
theorem d_M_program_210 : decode prog_14_method_108_code 210 = .ok (.istore 4, 2) := by decide +kernel
theorem d_M_program_184 : decode prog_14_method_108_code 184 = .ok (.aload_n 0, 1) := by decide +kernel
theorem d_M_program_185 : decode prog_14_method_108_code 185 = .ok (.getfield 584, 3) := by decide +kernel
theorem d_M_program_188 : decode prog_14_method_108_code 188 = .ok (.ireturn, 1) := by decide +kernel
theorem d_M_program_126 : decode prog_14_method_108_code 126 = .ok (.aload_n 0, 1) := by decide +kernel
theorem d_M_program_127 : decode prog_14_method_108_code 127 = .ok (.iconst 0, 1) := by decide +kernel
theorem d_M_program_128 : decode prog_14_method_108_code 128 = .ok (.putfield 566, 3) := by decide +kernel
theorem u_1743 : Cond.fieldLink "FilterGuardModel" 566 "FilterGuardModel" "taped" "I" ∈ fg_g := fg_in (List.mem_of_getElem? (i := 1743) (by decide +kernel)) rfl
theorem p_M_2 {p : Program} {l : Launch} {e : Env} {R : Room} {s : Jvm.State} {m : MethodId} {args : Array Value} {below : List Frame} {meth : Method} {c : Code} {H : Heap} {locs : List Loc} {cells slots : Nat} {Q : Jvm.State → Prop} {cc : ByteArray} {pc : Nat} {ls : Array Slot} {rest : List Value} {D : va_G} {A : Nat → Prop} {H0 : Heap} {ad : Nat → Nat → Nat} {ca : Nat → ClassId} {M M1 : me_M} {N : Nat → Nat} {own : String} {index j : Nat} {v : Int32} (he : M1 = wI M 1 j 2 v) (hexec : p.tables.exec = Jvm.exec) (hb : c.code = cc) (hts : ∀ w ∈ fg_g, w.before args s = true) (hown : s.vm.findClass own = some m.cls) (hK : va_K D classes (me_T ca) s) (hP : va_P D classes (me_W ad ca M) H) (hD : va_D A (me_W ad ca M)) (hwf : me_wf N M) (hS : va_S A H0 H locs) (hj : j < N 1) (hlink : (Cond.fieldLink own index "FilterGuardModel" "taped" "I").before args s = true) (hdg : decode cc pc = .ok (.putfield index, 3)) (kk : ∀ (H1 : Heap) (locs1 : List Loc), va_P D classes (me_W ad ca M1) H1 → va_D A (me_W ad ca M1) → me_wf N M1 → va_S A H0 H1 locs1 → W p l e R s m args below meth c H1 locs1 cells slots Q (F0 m (pc + 3) ls rest)) : W p l e R s m args below meth c H locs cells slots Q (F0 m pc ls (.int v :: .ref (ad 1 j) :: rest)) := by
  subst he
  exact me_put (M1 := wI M 1 j 2 v) (k := 1) (f := 2) (C := "FilterGuardModel") (T := F_M) (Nf := 75) hexec hb hts i_M t_M t_M_ok n_M hown hK hP hD hwf hS hj (by decide) rfl (by decide) (by decide) hlink (fun _ h9 => h9) rfl rfl rfl rfl (fun a b h => me_wIE h) (me_fIw (by decide) (by decide)) hdg (fun H1 locs1 a1 a2 a3 => kk H1 locs1 a1 a2 (me_wfI hwf (fun z => absurd z (by decide)) (fun z => absurd z (by decide))) a3)
theorem d_M_program_131 : decode prog_14_method_108_code 131 = .ok (.iload_n 3, 1) := by decide +kernel
theorem d_M_program_132 : decode prog_14_method_108_code 132 = .ok (.ifCond .ne 5, 3) := by decide +kernel
theorem d_M_program_137 : decode prog_14_method_108_code 137 = .ok (.aload_n 0, 1) := by decide +kernel
theorem d_M_program_138 : decode prog_14_method_108_code 138 = .ok (.iconst 1, 1) := by decide +kernel
theorem d_M_program_139 : decode prog_14_method_108_code 139 = .ok (.putfield 571, 3) := by decide +kernel
theorem u_1759 : Cond.fieldLink "FilterGuardModel" 571 "FilterGuardModel" "isExplored" "Z" ∈ fg_g := fg_in (List.mem_of_getElem? (i := 1759) (by decide +kernel)) rfl
theorem p_M_18 {p : Program} {l : Launch} {e : Env} {R : Room} {s : Jvm.State} {m : MethodId} {args : Array Value} {below : List Frame} {meth : Method} {c : Code} {H : Heap} {locs : List Loc} {cells slots : Nat} {Q : Jvm.State → Prop} {cc : ByteArray} {pc : Nat} {ls : Array Slot} {rest : List Value} {D : va_G} {A : Nat → Prop} {H0 : Heap} {ad : Nat → Nat → Nat} {ca : Nat → ClassId} {M M1 : me_M} {N : Nat → Nat} {own : String} {index j : Nat} {v : Int32} (he : M1 = wI M 1 j 18 v) (hexec : p.tables.exec = Jvm.exec) (hb : c.code = cc) (hts : ∀ w ∈ fg_g, w.before args s = true) (hown : s.vm.findClass own = some m.cls) (hK : va_K D classes (me_T ca) s) (hP : va_P D classes (me_W ad ca M) H) (hD : va_D A (me_W ad ca M)) (hwf : me_wf N M) (hS : va_S A H0 H locs) (hj : j < N 1) (hv : v = 1 ∨ v = 0) (hlink : (Cond.fieldLink own index "FilterGuardModel" "isExplored" "Z").before args s = true) (hdg : decode cc pc = .ok (.putfield index, 3)) (kk : ∀ (H1 : Heap) (locs1 : List Loc), va_P D classes (me_W ad ca M1) H1 → va_D A (me_W ad ca M1) → me_wf N M1 → va_S A H0 H1 locs1 → W p l e R s m args below meth c H1 locs1 cells slots Q (F0 m (pc + 3) ls rest)) : W p l e R s m args below meth c H locs cells slots Q (F0 m pc ls (.int v :: .ref (ad 1 j) :: rest)) := by
  subst he
  exact me_put (M1 := wI M 1 j 18 v) (k := 1) (f := 18) (C := "FilterGuardModel") (T := F_M) (Nf := 75) hexec hb hts i_M t_M t_M_ok n_M hown hK hP hD hwf hS hj (by decide) rfl (by decide) (by decide) hlink (fun _ h9 => h9) rfl (me_nz hv) (me_fz hv) rfl (fun a b h => me_wIE h) (me_fIw (by decide) (by decide)) hdg (fun H1 locs1 a1 a2 a3 => kk H1 locs1 a1 a2 (me_wfI hwf (fun z => absurd z (by decide)) (fun _ => hv)) a3)
theorem d_M_program_142 : decode prog_14_method_108_code 142 = .ok (.aload_n 0, 1) := by decide +kernel
theorem d_M_program_143 : decode prog_14_method_108_code 143 = .ok (.iconst 0, 1) := by decide +kernel
theorem d_M_program_144 : decode prog_14_method_108_code 144 = .ok (.putfield 575, 3) := by decide +kernel
theorem d_M_program_147 : decode prog_14_method_108_code 147 = .ok (.aload_n 0, 1) := by decide +kernel
theorem d_M_program_148 : decode prog_14_method_108_code 148 = .ok (.iload_n 1, 1) := by decide +kernel
theorem d_M_program_149 : decode prog_14_method_108_code 149 = .ok (.invokevirtual 578, 3) := by decide +kernel
theorem u_1981 : Cond.methodLink "FilterGuardModel" 578 ⟨"FilterGuardModel", "forget", "(I)V"⟩ ∈ fg_g := fg_in (List.mem_of_getElem? (i := 1981) (by decide +kernel)) rfl
theorem u_1984 : Cond.code ⟨"FilterGuardModel", "forget", "(I)V"⟩ prog_14_method_107_code 3 none ∈ fg_g := fg_in (List.mem_of_getElem? (i := 1984) (by decide +kernel)) rfl
theorem u_1983 : Cond.instanceMethod ⟨"FilterGuardModel", "forget", "(I)V"⟩ ∈ fg_g := fg_in (List.mem_of_getElem? (i := 1983) (by decide +kernel)) rfl
theorem u_85 : Cond.selects "FilterGuardModel" ⟨"FilterGuardModel", "forget", "(I)V"⟩ ⟨"FilterGuardModel", "forget", "(I)V"⟩ ∈ fg_g := fg_in (List.mem_of_getElem? (i := 85) (by decide +kernel)) rfl
theorem d_M_program_152 : decode prog_14_method_108_code 152 = .ok (.aload_n 0, 1) := by decide +kernel
theorem d_M_program_153 : decode prog_14_method_108_code 153 = .ok (.aload_n 0, 1) := by decide +kernel
theorem d_M_program_154 : decode prog_14_method_108_code 154 = .ok (.iload_n 1, 1) := by decide +kernel
theorem d_M_program_155 : decode prog_14_method_108_code 155 = .ok (.invokevirtual 581, 3) := by decide +kernel
theorem u_1985 : Cond.methodLink "FilterGuardModel" 581 ⟨"FilterGuardModel", "form", "(I)I"⟩ ∈ fg_g := fg_in (List.mem_of_getElem? (i := 1985) (by decide +kernel)) rfl
theorem u_1988 : Cond.code ⟨"FilterGuardModel", "form", "(I)I"⟩ prog_14_method_57_code 6 (some .int) ∈ fg_g := fg_in (List.mem_of_getElem? (i := 1988) (by decide +kernel)) rfl
theorem u_1987 : Cond.instanceMethod ⟨"FilterGuardModel", "form", "(I)I"⟩ ∈ fg_g := fg_in (List.mem_of_getElem? (i := 1987) (by decide +kernel)) rfl
theorem u_86 : Cond.selects "FilterGuardModel" ⟨"FilterGuardModel", "form", "(I)I"⟩ ⟨"FilterGuardModel", "form", "(I)I"⟩ ∈ fg_g := fg_in (List.mem_of_getElem? (i := 86) (by decide +kernel)) rfl
theorem d_M_program_158 : decode prog_14_method_108_code 158 = .ok (.putfield 584, 3) := by decide +kernel
theorem p_M_20 {p : Program} {l : Launch} {e : Env} {R : Room} {s : Jvm.State} {m : MethodId} {args : Array Value} {below : List Frame} {meth : Method} {c : Code} {H : Heap} {locs : List Loc} {cells slots : Nat} {Q : Jvm.State → Prop} {cc : ByteArray} {pc : Nat} {ls : Array Slot} {rest : List Value} {D : va_G} {A : Nat → Prop} {H0 : Heap} {ad : Nat → Nat → Nat} {ca : Nat → ClassId} {M M1 : me_M} {N : Nat → Nat} {own : String} {index j : Nat} {v : Int32} (he : M1 = wI M 1 j 20 v) (hexec : p.tables.exec = Jvm.exec) (hb : c.code = cc) (hts : ∀ w ∈ fg_g, w.before args s = true) (hown : s.vm.findClass own = some m.cls) (hK : va_K D classes (me_T ca) s) (hP : va_P D classes (me_W ad ca M) H) (hD : va_D A (me_W ad ca M)) (hwf : me_wf N M) (hS : va_S A H0 H locs) (hj : j < N 1) (hlink : (Cond.fieldLink own index "FilterGuardModel" "fault" "I").before args s = true) (hdg : decode cc pc = .ok (.putfield index, 3)) (kk : ∀ (H1 : Heap) (locs1 : List Loc), va_P D classes (me_W ad ca M1) H1 → va_D A (me_W ad ca M1) → me_wf N M1 → va_S A H0 H1 locs1 → W p l e R s m args below meth c H1 locs1 cells slots Q (F0 m (pc + 3) ls rest)) : W p l e R s m args below meth c H locs cells slots Q (F0 m pc ls (.int v :: .ref (ad 1 j) :: rest)) := by
  subst he
  exact me_put (M1 := wI M 1 j 20 v) (k := 1) (f := 20) (C := "FilterGuardModel") (T := F_M) (Nf := 75) hexec hb hts i_M t_M t_M_ok n_M hown hK hP hD hwf hS hj (by decide) rfl (by decide) (by decide) hlink (fun _ h9 => h9) rfl rfl rfl rfl (fun a b h => me_wIE h) (me_fIw (by decide) (by decide)) hdg (fun H1 locs1 a1 a2 a3 => kk H1 locs1 a1 a2 (me_wfI hwf (fun z => absurd z (by decide)) (fun z => absurd z (by decide))) a3)
theorem d_M_program_161 : decode prog_14_method_108_code 161 = .ok (.aload_n 0, 1) := by decide +kernel
theorem d_M_program_162 : decode prog_14_method_108_code 162 = .ok (.getfield 584, 3) := by decide +kernel
theorem d_M_program_165 : decode prog_14_method_108_code 165 = .ok (.ifCond .ne 12, 3) := by decide +kernel
theorem d_M_program_168 : decode prog_14_method_108_code 168 = .ok (.aload_n 0, 1) := by decide +kernel
theorem d_M_program_169 : decode prog_14_method_108_code 169 = .ok (.aload_n 0, 1) := by decide +kernel
theorem d_M_program_170 : decode prog_14_method_108_code 170 = .ok (.iload_n 2, 1) := by decide +kernel
theorem d_M_program_171 : decode prog_14_method_108_code 171 = .ok (.invokevirtual 587, 3) := by decide +kernel
theorem u_2032 : Cond.methodLink "FilterGuardModel" 587 ⟨"FilterGuardModel", "explore", "(I)I"⟩ ∈ fg_g := fg_in (List.mem_of_getElem? (i := 2032) (by decide +kernel)) rfl
theorem u_2035 : Cond.code ⟨"FilterGuardModel", "explore", "(I)I"⟩ prog_14_method_106_code 4 (some .int) ∈ fg_g := fg_in (List.mem_of_getElem? (i := 2035) (by decide +kernel)) rfl
theorem u_2034 : Cond.instanceMethod ⟨"FilterGuardModel", "explore", "(I)I"⟩ ∈ fg_g := fg_in (List.mem_of_getElem? (i := 2034) (by decide +kernel)) rfl
theorem u_89 : Cond.selects "FilterGuardModel" ⟨"FilterGuardModel", "explore", "(I)I"⟩ ⟨"FilterGuardModel", "explore", "(I)I"⟩ ∈ fg_g := fg_in (List.mem_of_getElem? (i := 89) (by decide +kernel)) rfl
theorem d_M_program_174 : decode prog_14_method_108_code 174 = .ok (.putfield 584, 3) := by decide +kernel
theorem d_M_program_135 : decode prog_14_method_108_code 135 = .ok (.iconst 0, 1) := by decide +kernel
theorem d_M_program_136 : decode prog_14_method_108_code 136 = .ok (.ireturn, 1) := by decide +kernel
theorem d_M_program_74 : decode prog_14_method_108_code 74 = .ok (.iload 7, 2) := by decide +kernel
theorem d_M_program_76 : decode prog_14_method_108_code 76 = .ok (.ifCond .lt 35, 3) := by decide +kernel
theorem d_M_program_111 : decode prog_14_method_108_code 111 = .ok (.aload_n 0, 1) := by decide +kernel
theorem d_M_program_112 : decode prog_14_method_108_code 112 = .ok (.getfield 37, 3) := by decide +kernel
theorem d_M_program_115 : decode prog_14_method_108_code 115 = .ok (.iload 4, 2) := by decide +kernel
theorem d_M_program_117 : decode prog_14_method_108_code 117 = .ok (.lload 5, 2) := by decide +kernel
theorem d_M_program_119 : decode prog_14_method_108_code 119 = .ok (.lastore, 1) := by decide +kernel
theorem d_M_program_120 : decode prog_14_method_108_code 120 = .ok (.iinc 4 1, 3) := by decide +kernel
theorem d_M_program_123 : decode prog_14_method_108_code 123 = .ok (.goto (-66), 3) := by decide +kernel
theorem d_M_program_79 : decode prog_14_method_108_code 79 = .ok (.lload 5, 2) := by decide +kernel
theorem d_M_program_81 : decode prog_14_method_108_code 81 = .ok (.bipush 8, 2) := by decide +kernel
theorem d_M_program_83 : decode prog_14_method_108_code 83 = .ok (.lshl, 1) := by decide +kernel
theorem d_M_program_84 : decode prog_14_method_108_code 84 = .ok (.aload_n 0, 1) := by decide +kernel
theorem d_M_program_85 : decode prog_14_method_108_code 85 = .ok (.getfield 10, 3) := by decide +kernel
theorem g_M_1 {p : Program} {l : Launch} {e : Env} {R : Room} {s : Jvm.State} {m : MethodId} {args : Array Value} {below : List Frame} {meth : Method} {c : Code} {H : Heap} {locs : List Loc} {cells slots : Nat} {Q : Jvm.State → Prop} {cc : ByteArray} {pc : Nat} {ls : Array Slot} {rest : List Value} {D : va_G} {ad : Nat → Nat → Nat} {ca : Nat → ClassId} {M : me_M} {N : Nat → Nat} {own : String} {index j : Nat} (hexec : p.tables.exec = Jvm.exec) (hb : c.code = cc) (hts : ∀ w ∈ fg_g, w.before args s = true) (hown : s.vm.findClass own = some m.cls) (hK : va_K D classes (me_T ca) s) (hP : va_P D classes (me_W ad ca M) H) (hwf : me_wf N M) (hj : j < N 1) (hlink : (Cond.fieldLink own index "FilterGuardModel" "tape" "[B").before args s = true) (hdg : decode cc pc = .ok (.getfield index, 3)) (kk : W p l e R s m args below meth c H locs cells slots Q (F0 m (pc + 3) ls (va_rf ((mR M 1 j 1).map (ad 14)) :: rest))) : W p l e R s m args below meth c H locs cells slots Q (F0 m pc ls (.ref (ad 1 j) :: rest)) := me_get (k := 1) (f := 1) (C := "FilterGuardModel") (T := F_M) (Nf := 75) hexec hb hts i_M hown hK hP hwf hj (by decide) rfl (by decide) (by decide) hlink (fun _ h9 => h9) hdg kk
theorem d_M_program_88 : decode prog_14_method_108_code 88 = .ok (.bipush 8, 2) := by decide +kernel
theorem d_M_program_90 : decode prog_14_method_108_code 90 = .ok (.iload 4, 2) := by decide +kernel
theorem d_M_program_92 : decode prog_14_method_108_code 92 = .ok (.imul, 1) := by decide +kernel
theorem d_M_program_93 : decode prog_14_method_108_code 93 = .ok (.iload 7, 2) := by decide +kernel
theorem d_M_program_95 : decode prog_14_method_108_code 95 = .ok (.iadd, 1) := by decide +kernel
theorem d_M_program_96 : decode prog_14_method_108_code 96 = .ok (.baload, 1) := by decide +kernel
theorem d_M_program_97 : decode prog_14_method_108_code 97 = .ok (.i2l, 1) := by decide +kernel
theorem d_M_program_98 : decode prog_14_method_108_code 98 = .ok (.ldc2_w 218, 3) := by decide +kernel
theorem d_M_program_101 : decode prog_14_method_108_code 101 = .ok (.land, 1) := by decide +kernel
theorem d_M_program_102 : decode prog_14_method_108_code 102 = .ok (.lor, 1) := by decide +kernel
theorem d_M_program_103 : decode prog_14_method_108_code 103 = .ok (.lstore 5, 2) := by decide +kernel
theorem d_M_program_105 : decode prog_14_method_108_code 105 = .ok (.iinc 7 (-1), 3) := by decide +kernel
theorem d_M_program_108 : decode prog_14_method_108_code 108 = .ok (.goto (-34), 3) := by decide +kernel
theorem d_M_program_57 : decode prog_14_method_108_code 57 = .ok (.iload 4, 2) := by decide +kernel
theorem d_M_program_59 : decode prog_14_method_108_code 59 = .ok (.iload_n 1, 1) := by decide +kernel
theorem d_M_program_60 : decode prog_14_method_108_code 60 = .ok (.if_icmp .ge 66, 3) := by decide +kernel
theorem d_M_program_63 : decode prog_14_method_108_code 63 = .ok (.iload_n 3, 1) := by decide +kernel
theorem d_M_program_64 : decode prog_14_method_108_code 64 = .ok (.ifCond .eq 62, 3) := by decide +kernel
theorem d_M_program_67 : decode prog_14_method_108_code 67 = .ok (.lconst 0, 1) := by decide +kernel
theorem d_M_program_68 : decode prog_14_method_108_code 68 = .ok (.lstore 5, 2) := by decide +kernel
theorem d_M_program_70 : decode prog_14_method_108_code 70 = .ok (.bipush 7, 2) := by decide +kernel
theorem d_M_program_72 : decode prog_14_method_108_code 72 = .ok (.istore 7, 2) := by decide +kernel
theorem d_M_program_40 : decode prog_14_method_108_code 40 = .ok (.istore_n 3, 1) := by decide +kernel
theorem d_M_program_41 : decode prog_14_method_108_code 41 = .ok (.aload_n 0, 1) := by decide +kernel
theorem d_M_program_42 : decode prog_14_method_108_code 42 = .ok (.iload_n 3, 1) := by decide +kernel
theorem d_M_program_43 : decode prog_14_method_108_code 43 = .ok (.ifCond .eq 7, 3) := by decide +kernel
theorem d_M_program_50 : decode prog_14_method_108_code 50 = .ok (.iconst 1, 1) := by decide +kernel
theorem d_M_program_51 : decode prog_14_method_108_code 51 = .ok (.putfield 152, 3) := by decide +kernel
theorem p_M_0 {p : Program} {l : Launch} {e : Env} {R : Room} {s : Jvm.State} {m : MethodId} {args : Array Value} {below : List Frame} {meth : Method} {c : Code} {H : Heap} {locs : List Loc} {cells slots : Nat} {Q : Jvm.State → Prop} {cc : ByteArray} {pc : Nat} {ls : Array Slot} {rest : List Value} {D : va_G} {A : Nat → Prop} {H0 : Heap} {ad : Nat → Nat → Nat} {ca : Nat → ClassId} {M M1 : me_M} {N : Nat → Nat} {own : String} {index j : Nat} {v : Int32} (he : M1 = wI M 1 j 0 v) (hexec : p.tables.exec = Jvm.exec) (hb : c.code = cc) (hts : ∀ w ∈ fg_g, w.before args s = true) (hown : s.vm.findClass own = some m.cls) (hK : va_K D classes (me_T ca) s) (hP : va_P D classes (me_W ad ca M) H) (hD : va_D A (me_W ad ca M)) (hwf : me_wf N M) (hS : va_S A H0 H locs) (hj : j < N 1) (hlink : (Cond.fieldLink own index "FilterGuardModel" "thrown" "I").before args s = true) (hdg : decode cc pc = .ok (.putfield index, 3)) (kk : ∀ (H1 : Heap) (locs1 : List Loc), va_P D classes (me_W ad ca M1) H1 → va_D A (me_W ad ca M1) → me_wf N M1 → va_S A H0 H1 locs1 → W p l e R s m args below meth c H1 locs1 cells slots Q (F0 m (pc + 3) ls rest)) : W p l e R s m args below meth c H locs cells slots Q (F0 m pc ls (.int v :: .ref (ad 1 j) :: rest)) := by
  subst he
  exact me_put (M1 := wI M 1 j 0 v) (k := 1) (f := 0) (C := "FilterGuardModel") (T := F_M) (Nf := 75) hexec hb hts i_M t_M t_M_ok n_M hown hK hP hD hwf hS hj (by decide) rfl (by decide) (by decide) hlink (fun _ h9 => h9) rfl rfl rfl rfl (fun a b h => me_wIE h) (me_fIw (by decide) (by decide)) hdg (fun H1 locs1 a1 a2 a3 => kk H1 locs1 a1 a2 (me_wfI hwf (fun z => absurd z (by decide)) (fun z => absurd z (by decide))) a3)
theorem d_M_program_54 : decode prog_14_method_108_code 54 = .ok (.iconst 0, 1) := by decide +kernel
theorem d_M_program_55 : decode prog_14_method_108_code 55 = .ok (.istore 4, 2) := by decide +kernel
theorem d_M_program_46 : decode prog_14_method_108_code 46 = .ok (.iconst 0, 1) := by decide +kernel
theorem d_M_program_47 : decode prog_14_method_108_code 47 = .ok (.goto 4, 3) := by decide +kernel
theorem d_M_program_39 : decode prog_14_method_108_code 39 = .ok (.iconst 0, 1) := by decide +kernel
theorem d_M_program_0 : decode prog_14_method_108_code 0 = .ok (.iload_n 1, 1) := by decide +kernel
theorem d_M_program_1 : decode prog_14_method_108_code 1 = .ok (.i2l, 1) := by decide +kernel
theorem d_M_program_2 : decode prog_14_method_108_code 2 = .ok (.lconst 1, 1) := by decide +kernel
theorem d_M_program_3 : decode prog_14_method_108_code 3 = .ok (.ldc2_w 564, 3) := by decide +kernel
theorem u_1975 : Cond.constantLong "FilterGuardModel" 564 2000 ∈ fg_g := fg_in (List.mem_of_getElem? (i := 1975) (by decide +kernel)) rfl
theorem d_M_program_6 : decode prog_14_method_108_code 6 = .ok (.invokestatic 342, 3) := by decide +kernel
theorem d_M_program_9 : decode prog_14_method_108_code 9 = .ok (.ifCond .eq 30, 3) := by decide +kernel
theorem d_M_program_12 : decode prog_14_method_108_code 12 = .ok (.aload_n 0, 1) := by decide +kernel
theorem d_M_program_13 : decode prog_14_method_108_code 13 = .ok (.getfield 566, 3) := by decide +kernel
theorem g_M_2 {p : Program} {l : Launch} {e : Env} {R : Room} {s : Jvm.State} {m : MethodId} {args : Array Value} {below : List Frame} {meth : Method} {c : Code} {H : Heap} {locs : List Loc} {cells slots : Nat} {Q : Jvm.State → Prop} {cc : ByteArray} {pc : Nat} {ls : Array Slot} {rest : List Value} {D : va_G} {ad : Nat → Nat → Nat} {ca : Nat → ClassId} {M : me_M} {N : Nat → Nat} {own : String} {index j : Nat} (hexec : p.tables.exec = Jvm.exec) (hb : c.code = cc) (hts : ∀ w ∈ fg_g, w.before args s = true) (hown : s.vm.findClass own = some m.cls) (hK : va_K D classes (me_T ca) s) (hP : va_P D classes (me_W ad ca M) H) (hwf : me_wf N M) (hj : j < N 1) (hlink : (Cond.fieldLink own index "FilterGuardModel" "taped" "I").before args s = true) (hdg : decode cc pc = .ok (.getfield index, 3)) (kk : W p l e R s m args below meth c H locs cells slots Q (F0 m (pc + 3) ls (.int (mI M 1 j 2) :: rest))) : W p l e R s m args below meth c H locs cells slots Q (F0 m pc ls (.ref (ad 1 j) :: rest)) := me_get (k := 1) (f := 2) (C := "FilterGuardModel") (T := F_M) (Nf := 75) hexec hb hts i_M hown hK hP hwf hj (by decide) rfl (by decide) (by decide) hlink (fun _ h9 => h9) hdg kk
theorem d_M_program_16 : decode prog_14_method_108_code 16 = .ok (.bipush 8, 2) := by decide +kernel
theorem d_M_program_18 : decode prog_14_method_108_code 18 = .ok (.iload_n 1, 1) := by decide +kernel
theorem d_M_program_19 : decode prog_14_method_108_code 19 = .ok (.imul, 1) := by decide +kernel
theorem d_M_program_20 : decode prog_14_method_108_code 20 = .ok (.if_icmp .lt 19, 3) := by decide +kernel
theorem d_M_program_23 : decode prog_14_method_108_code 23 = .ok (.iload_n 2, 1) := by decide +kernel
theorem d_M_program_24 : decode prog_14_method_108_code 24 = .ok (.i2l, 1) := by decide +kernel
theorem d_M_program_25 : decode prog_14_method_108_code 25 = .ok (.lconst 1, 1) := by decide +kernel
theorem d_M_program_26 : decode prog_14_method_108_code 26 = .ok (.ldc2_w 569, 3) := by decide +kernel
theorem u_1979 : Cond.constantLong "FilterGuardModel" 569 20000 ∈ fg_g := fg_in (List.mem_of_getElem? (i := 1979) (by decide +kernel)) rfl
theorem d_M_program_29 : decode prog_14_method_108_code 29 = .ok (.invokestatic 342, 3) := by decide +kernel
theorem d_M_program_32 : decode prog_14_method_108_code 32 = .ok (.ifCond .eq 7, 3) := by decide +kernel
theorem d_M_program_35 : decode prog_14_method_108_code 35 = .ok (.iconst 1, 1) := by decide +kernel
theorem d_M_program_36 : decode prog_14_method_108_code 36 = .ok (.goto 4, 3) := by decide +kernel
abbrev y_M_program : MethodName := ⟨"FilterGuardModel", "program", "(II)I"⟩
def rm_M_program : Room := { frames := 13, cells := 0, slots := 0, locals := 317 }
abbrev q_M_program (D : va_G) (ad : Nat → Nat → Nat) (ca : Nat → ClassId) (N : Nat → Nat) (M0 MZ : me_M) (RZ : Int32) (A : Nat → Prop) : Array Value → Jvm.State → Outcome → Jvm.State → Prop := va_Qi (fun r (_ : Unit) => r = RZ ∧ me_wf N MZ ∧ me_kp M0 MZ) (fg_B D A (fun _ => me_W ad ca MZ) (fun _ => [])) A
set_option maxHeartbeats 4000000 in
set_option maxRecDepth 100000 in
theorem c_M_program (l : Launch) (D : va_G) (ad : Nat → Nat → Nat) (ca : Nat → ClassId) (N : Nat → Nat) (M0 MZ : me_M) (RZ : Int32) (j0 : Nat) (x1 : Int32) (x2 : Int32) (h : f_M_program M0 j0 x1 x2 = (some (MZ, RZ))) (hwf : me_wf N M0) (hj0 : j0 < N 1) (sz : Nat) : Met l y_M_program (fg_w y_M_program prog_14_method_108_code 8 (some .int)) rm_M_program (va_Pc [.ref (ad 1 j0), .int x1, .int x2] (fz_P D (me_T ca) (me_W ad ca M0) sz)) (q_M_program D ad ca N M0 MZ RZ (va_A (me_W ad ca M0) sz)) rm_M_program.cells rm_M_program.slots (va_A (me_W ad ca M0) sz) := by
  refine fz_enter (fun A => q_M_program D ad ca N M0 MZ RZ A) (by decide +kernel) (Nat.le_of_ble_eq_true rfl) ?_
  intro p e s m below meth c ls A hx hb hml hown hts hr hlocks hin hP hK hD hS hA hX hl hz
  have hl : lv_has ls 8 [(0, .ref (ad 1 j0)), (1, .int x1), (2, .int x2)] := hl
  unfold f_M_program at h
  have hkp : me_kp M0 M0 := me_kp.rf
  have hkb := hkp
  have b_212 : ∀ (fu : Nat), ∀ (M : me_M) (y4 : Int32) (H : Heap) (locs : List Loc) (ls : Array Slot), f_M_program_l212 j0 x1 fu M y4 = (some (MZ, RZ)) → me_wf N M → me_kp M0 M → va_P D classes (me_W ad ca M) H → va_D A (me_W ad ca M) → va_S A s.heap H locs → lv_has ls 8 [(0, .ref (ad 1 j0)), (1, .int x1), (4, .int y4)] → W p l e rm_M_program s m [.ref (ad 1 j0), .int x1, .int x2].toArray below meth c H locs 0 0 (MQ below (q_M_program D ad ca N M0 MZ RZ A) [.ref (ad 1 j0), .int x1, .int x2].toArray s rm_M_program.cells rm_M_program.slots A) (F0 m 212 ls []) := by
    intro fu
    induction fu with
    | zero =>
      intro M y4 H locs ls h hwf hkp hP hD hS hl
      cases h
    | succ fu ih =>
      intro M y4 H locs ls h hwf hkp hP hD hS hl
      unfold f_M_program_l212 at h
      have hkb := hkp
      refine lv_iload hx hb d_M_program_212 (lv_at hl 2 rfl) ?_
      refine lv_iload_n hx hb d_M_program_214 rfl (lv_at hl 1 rfl) ?_
      refine lv_icmp_ge (tgt := 238) hx hb d_M_program_215 (by decide) (fun c1 => ?_) (fun c1 => ?_)
      · have h := if_t c1 h
        refine lv_aload_n hx hb d_M_program_238 rfl (lv_at hl 0 rfl) ?_
        refine lv_iload_n hx hb d_M_program_239 rfl (lv_at hl 1 rfl) ?_
        obtain ⟨M2, eM2, h⟩ := bd_ob h
        refine me_thenv0 (M1 := M2) (me_runV (C := "FilterGuardModel") (As := [.int x1]) (rest := []) ⟨hx, hb, hml, hown, hts⟩ (c_M_shorten l D ad ca N M M2 j0 x1 eM2 hwf hj0 _) rfl (by show fg_nm y_M_shorten 1; decide +kernel) u_2392 u_2394 u_166 u_192 u_2395 ⟨Nat.le_of_ble_eq_true rfl, Nat.le_of_ble_eq_true rfl⟩ hX hz hK hP hD hwf hS hA hj0 (by decide) rfl rfl rfl hl.1 (Nat.le_of_ble_eq_true rfl) d_M_program_240 ⟨Nat.le_of_ble_eq_true rfl, Nat.le_of_ble_eq_true rfl⟩) hP hD hK hS hA rfl rfl (fun H locs hw hP hD hS => ?_)
        obtain ⟨hwf, hk9⟩ := hw
        have hkp := hkp.tr hk9
        refine lv_iconst (v := 0) hx hb d_M_program_243 (by decide) ?_
        exact me_reti (me_kp M0) h hx hb hr hlocks hwf hkp hP hK hD hS d_M_program_244
      have h := if_f c1 h
      refine lv_aload_n hx hb d_M_program_218 rfl (lv_at hl 0 rfl) ?_
      refine g_M_16 hx hb hts hown hK hP hwf hj0 (hts _ u_1757) d_M_program_219 ?_
      obtain ⟨j3, e4, h⟩ := bd_ob h
      have hj3 : j3 < N 16 := (hwf.2.1 1 j0 16 _ e4 (by decide) hj0)
      refine me_opt (j := j3) e4 ?_
      refine lv_iload hx hb d_M_program_222 (lv_at hl 2 rfl) ?_
      refine lv_aload_n hx hb d_M_program_224 rfl (lv_at hl 0 rfl) ?_
      refine g_M_13 hx hb hts hown hK hP hwf hj0 (hts _ u_1754) d_M_program_225 ?_
      obtain ⟨j5, e6, h⟩ := bd_ob h
      have hj5 : j5 < N 16 := (hwf.2.1 1 j0 13 _ e6 (by decide) hj0)
      refine me_opt (j := j5) e6 ?_
      refine lv_iload hx hb d_M_program_228 (lv_at hl 2 rfl) ?_
      obtain ⟨g7, h⟩ := gd_ob h
      refine me_lald hx hb hK hP hwf hj5 g7 d_M_program_230 ?_
      obtain ⟨g8, h⟩ := gd_ob h
      obtain ⟨M9, eM9, h⟩ := st_ob h
      refine me_last eM9 hx hb hK hP hD hwf hS hj3 g8 d_M_program_231 (fun H locs hP hD hwf hS => ?_)
      have hkp := kp_L eM9 hkp
      refine lv_iinc (v := y4 + 1) (lv' := [(4, .int (y4 + 1)), (0, .ref (ad 1 j0)), (1, .int x1)]) hx hb d_M_program_232 hl (k := 2) rfl (by rfl) (by decide) rfl (fun ls hl => ?_)
      refine lv_goto (tgt := 212) hx hb d_M_program_235 (by decide) ?_
      exact ih M9 (y4 + 1) _ _ _ h hwf hkp hP hD hS (lv_sub hl [1, 2, 0] rfl)
  have b_177 : ∀ (M : me_M) (H : Heap) (locs : List Loc) (ls : Array Slot), f_M_program_b177 j0 x1 M = (some (MZ, RZ)) → me_wf N M → me_kp M0 M → va_P D classes (me_W ad ca M) H → va_D A (me_W ad ca M) → va_S A s.heap H locs → lv_has ls 8 [(0, .ref (ad 1 j0)), (1, .int x1)] → W p l e rm_M_program s m [.ref (ad 1 j0), .int x1, .int x2].toArray below meth c H locs 0 0 (MQ below (q_M_program D ad ca N M0 MZ RZ A) [.ref (ad 1 j0), .int x1, .int x2].toArray s rm_M_program.cells rm_M_program.slots A) (F0 m 177 ls []) := by
    intro M H locs ls h hwf hkp hP hD hS hl
    unfold f_M_program_b177 at h
    have hkb := hkp
    refine lv_aload_n hx hb d_M_program_177 rfl (lv_at hl 0 rfl) ?_
    refine g_M_20 hx hb hts hown hK hP hwf hj0 (hts _ u_1761) d_M_program_178 ?_
    refine lv_if_le (tgt := 189) hx hb d_M_program_181 (by decide) (fun c10 => ?_) (fun c10 => ?_)
    · have h := if_t c10 h
      refine lv_aload_n hx hb d_M_program_189 rfl (lv_at hl 0 rfl) ?_
      refine lv_iconst (v := (-1)) hx hb d_M_program_190 (by decide) ?_
      obtain ⟨M11, eM11, h⟩ := st_ob h
      refine p_M_21 eM11 hx hb hts hown hK hP hD hwf hS hj0 (hts _ u_1762) d_M_program_191 (fun H locs hP hD hwf hS => ?_)
      have hkp := kp_I eM11 hkp
      refine lv_aload_n hx hb d_M_program_194 rfl (lv_at hl 0 rfl) ?_
      refine lv_iconst (v := 1) hx hb d_M_program_195 (by decide) ?_
      obtain ⟨M12, eM12, h⟩ := st_ob h
      refine p_M_19 eM12 hx hb hts hown hK hP hD hwf hS hj0 (by decide) (hts _ u_1760) d_M_program_196 (fun H locs hP hD hwf hS => ?_)
      have hkp := kp_I eM12 hkp
      refine lv_aload_n hx hb d_M_program_199 rfl (lv_at hl 0 rfl) ?_
      refine lv_iconst (v := 1) hx hb d_M_program_200 (by decide) ?_
      obtain ⟨M13, eM13, h⟩ := st_ob h
      refine p_M_4 eM13 hx hb hts hown hK hP hD hwf hS hj0 (by decide) (hts _ u_1745) d_M_program_201 (fun H locs hP hD hwf hS => ?_)
      have hkp := kp_I eM13 hkp
      refine lv_aload_n hx hb d_M_program_204 rfl (lv_at hl 0 rfl) ?_
      refine lv_iload_n hx hb d_M_program_205 rfl (lv_at hl 1 rfl) ?_
      obtain ⟨M14, eM14, h⟩ := st_ob h
      refine p_M_14 eM14 hx hb hts hown hK hP hD hwf hS hj0 (hts _ u_1755) d_M_program_206 (fun H locs hP hD hwf hS => ?_)
      have hkp := kp_I eM14 hkp
      refine lv_iconst (v := 0) hx hb d_M_program_209 (by decide) ?_
      refine lv_istore (lv' := [(4, .int 0), (0, .ref (ad 1 j0)), (1, .int x1)]) hx hb d_M_program_210 hl (by decide) rfl (fun ls hl => ?_)
      exact b_212 _ M14 (0 : Int32) _ _ _ h hwf hkp hP hD hS (lv_sub hl [1, 2, 0] rfl)
    have h := if_f c10 h
    refine lv_aload_n hx hb d_M_program_184 rfl (lv_at hl 0 rfl) ?_
    refine g_M_20 hx hb hts hown hK hP hwf hj0 (hts _ u_1761) d_M_program_185 ?_
    exact me_reti (me_kp M0) h hx hb hr hlocks hwf hkp hP hK hD hS d_M_program_188
  have b_126 : ∀ (M : me_M) (y3 : Int32) (H : Heap) (locs : List Loc) (ls : Array Slot), f_M_program_b126 j0 x1 x2 M y3 = (some (MZ, RZ)) → (y3 = 1 ∨ y3 = 0) → me_wf N M → me_kp M0 M → va_P D classes (me_W ad ca M) H → va_D A (me_W ad ca M) → va_S A s.heap H locs → lv_has ls 8 [(0, .ref (ad 1 j0)), (1, .int x1), (2, .int x2), (3, .int y3)] → W p l e rm_M_program s m [.ref (ad 1 j0), .int x1, .int x2].toArray below meth c H locs 0 0 (MQ below (q_M_program D ad ca N M0 MZ RZ A) [.ref (ad 1 j0), .int x1, .int x2].toArray s rm_M_program.cells rm_M_program.slots A) (F0 m 126 ls []) := by
    intro M y3 H locs ls h zy3 hwf hkp hP hD hS hl
    unfold f_M_program_b126 at h
    have hkb := hkp
    refine lv_aload_n hx hb d_M_program_126 rfl (lv_at hl 0 rfl) ?_
    refine lv_iconst (v := 0) hx hb d_M_program_127 (by decide) ?_
    obtain ⟨M15, eM15, h⟩ := st_ob h
    refine p_M_2 eM15 hx hb hts hown hK hP hD hwf hS hj0 (hts _ u_1743) d_M_program_128 (fun H locs hP hD hwf hS => ?_)
    have hkp := kp_I eM15 hkp
    refine lv_iload_n hx hb d_M_program_131 rfl (lv_at hl 3 rfl) ?_
    refine lv_if_ne (tgt := 137) hx hb d_M_program_132 (by decide) (fun c16 => ?_) (fun c16 => ?_)
    · have h := if_f c16 h
      refine lv_aload_n hx hb d_M_program_137 rfl (lv_at hl 0 rfl) ?_
      refine lv_iconst (v := 1) hx hb d_M_program_138 (by decide) ?_
      obtain ⟨M17, eM17, h⟩ := st_ob h
      refine p_M_18 eM17 hx hb hts hown hK hP hD hwf hS hj0 (by decide) (hts _ u_1759) d_M_program_139 (fun H locs hP hD hwf hS => ?_)
      have hkp := kp_I eM17 hkp
      refine lv_aload_n hx hb d_M_program_142 rfl (lv_at hl 0 rfl) ?_
      refine lv_iconst (v := 0) hx hb d_M_program_143 (by decide) ?_
      obtain ⟨M18, eM18, h⟩ := st_ob h
      refine p_M_19 eM18 hx hb hts hown hK hP hD hwf hS hj0 (by decide) (hts _ u_1760) d_M_program_144 (fun H locs hP hD hwf hS => ?_)
      have hkp := kp_I eM18 hkp
      refine lv_aload_n hx hb d_M_program_147 rfl (lv_at hl 0 rfl) ?_
      refine lv_iload_n hx hb d_M_program_148 rfl (lv_at hl 1 rfl) ?_
      obtain ⟨M19, eM19, h⟩ := bd_ob h
      refine me_thenv0 (M1 := M19) (me_runV (C := "FilterGuardModel") (As := [.int x1]) (rest := []) ⟨hx, hb, hml, hown, hts⟩ (c_M_forget l D ad ca N M18 M19 j0 x1 eM19 hwf hj0 _) rfl (by show fg_nm y_M_forget 1; decide +kernel) u_1981 u_1983 u_85 u_192 u_1984 ⟨Nat.le_of_ble_eq_true rfl, Nat.le_of_ble_eq_true rfl⟩ hX hz hK hP hD hwf hS hA hj0 (by decide) rfl rfl rfl hl.1 (Nat.le_of_ble_eq_true rfl) d_M_program_149 ⟨Nat.le_of_ble_eq_true rfl, Nat.le_of_ble_eq_true rfl⟩) hP hD hK hS hA rfl rfl (fun H locs hw hP hD hS => ?_)
      obtain ⟨hwf, hk9⟩ := hw
      have hkp := hkp.tr hk9
      refine lv_aload_n hx hb d_M_program_152 rfl (lv_at hl 0 rfl) ?_
      refine lv_aload_n hx hb d_M_program_153 rfl (lv_at hl 0 rfl) ?_
      refine lv_iload_n hx hb d_M_program_154 rfl (lv_at hl 1 rfl) ?_
      obtain ⟨M20, r21, eM20, h⟩ := b2_ob h
      refine me_theni0 (M1 := M20) (me_runV (C := "FilterGuardModel") (As := [.int x1]) (rest := [.ref (ad 1 j0)]) ⟨hx, hb, hml, hown, hts⟩ (c_M_form l D ad ca N M19 M20 r21 j0 x1 eM20 hwf hj0 _) rfl (by show fg_nm y_M_form 1; decide +kernel) u_1985 u_1987 u_86 u_192 u_1988 ⟨Nat.le_of_ble_eq_true rfl, Nat.le_of_ble_eq_true rfl⟩ hX hz hK hP hD hwf hS hA hj0 (by decide) rfl rfl rfl hl.1 (Nat.le_of_ble_eq_true rfl) d_M_program_155 ⟨Nat.le_of_ble_eq_true rfl, Nat.le_of_ble_eq_true rfl⟩) hP hD hK hS hA rfl rfl (fun H locs hw hP hD hS => ?_)
      obtain ⟨hwf, hk9⟩ := hw
      have hkp := hkp.tr hk9
      obtain ⟨M22, eM22, h⟩ := st_ob h
      refine p_M_20 eM22 hx hb hts hown hK hP hD hwf hS hj0 (hts _ u_1761) d_M_program_158 (fun H locs hP hD hwf hS => ?_)
      have hkp := kp_I eM22 hkp
      refine lv_aload_n hx hb d_M_program_161 rfl (lv_at hl 0 rfl) ?_
      refine g_M_20 hx hb hts hown hK hP hwf hj0 (hts _ u_1761) d_M_program_162 ?_
      refine lv_if_ne (tgt := 177) hx hb d_M_program_165 (by decide) (fun c23 => ?_) (fun c23 => ?_)
      · have h := if_f c23 h
        exact b_177 M22 _ _ _ h hwf hkp hP hD hS (lv_sub hl [0, 1] rfl)
      have h := if_t c23 h
      refine lv_aload_n hx hb d_M_program_168 rfl (lv_at hl 0 rfl) ?_
      refine lv_aload_n hx hb d_M_program_169 rfl (lv_at hl 0 rfl) ?_
      refine lv_iload_n hx hb d_M_program_170 rfl (lv_at hl 2 rfl) ?_
      obtain ⟨M24, r25, eM24, h⟩ := b2_ob h
      refine me_theni0 (M1 := M24) (me_runV (C := "FilterGuardModel") (As := [.int x2]) (rest := [.ref (ad 1 j0)]) ⟨hx, hb, hml, hown, hts⟩ (c_M_explore l D ad ca N M22 M24 r25 j0 x2 eM24 hwf hj0 _) rfl (by show fg_nm y_M_explore 1; decide +kernel) u_2032 u_2034 u_89 u_192 u_2035 ⟨Nat.le_of_ble_eq_true rfl, Nat.le_of_ble_eq_true rfl⟩ hX hz hK hP hD hwf hS hA hj0 (by decide) rfl rfl rfl hl.1 (Nat.le_of_ble_eq_true rfl) d_M_program_171 ⟨Nat.le_of_ble_eq_true rfl, Nat.le_of_ble_eq_true rfl⟩) hP hD hK hS hA rfl rfl (fun H locs hw hP hD hS => ?_)
      obtain ⟨hwf, hk9⟩ := hw
      have hkp := hkp.tr hk9
      obtain ⟨M26, eM26, h⟩ := st_ob h
      refine p_M_20 eM26 hx hb hts hown hK hP hD hwf hS hj0 (hts _ u_1761) d_M_program_174 (fun H locs hP hD hwf hS => ?_)
      have hkp := kp_I eM26 hkp
      exact b_177 M26 _ _ _ h hwf hkp hP hD hS (lv_sub hl [0, 1] rfl)
    have h := if_t c16 h
    refine lv_iconst (v := 0) hx hb d_M_program_135 (by decide) ?_
    exact me_reti (me_kp M0) h hx hb hr hlocks hwf hkp hP hK hD hS d_M_program_136
  have b_74 : ∀ (k57 : me_M → Int32 → Int32 → Option (me_M × Int32)) (hk57 : ∀ (M : me_M) (y3 : Int32) (y4 : Int32) (H : Heap) (locs : List Loc) (ls : Array Slot), k57 M y3 y4 = (some (MZ, RZ)) → (y3 = 1 ∨ y3 = 0) → me_wf N M → me_kp M0 M → va_P D classes (me_W ad ca M) H → va_D A (me_W ad ca M) → va_S A s.heap H locs → lv_has ls 8 [(0, .ref (ad 1 j0)), (1, .int x1), (2, .int x2), (3, .int y3), (4, .int y4)] → W p l e rm_M_program s m [.ref (ad 1 j0), .int x1, .int x2].toArray below meth c H locs 0 0 (MQ below (q_M_program D ad ca N M0 MZ RZ A) [.ref (ad 1 j0), .int x1, .int x2].toArray s rm_M_program.cells rm_M_program.slots A) (F0 m 57 ls [])), ∀ (fu : Nat), ∀ (M : me_M) (y3 : Int32) (y4 : Int32) (y5 : Int64) (y7 : Int32) (H : Heap) (locs : List Loc) (ls : Array Slot), f_M_program_l74 k57 j0 x1 x2 fu M y3 y4 y5 y7 = (some (MZ, RZ)) → (y3 = 1 ∨ y3 = 0) → me_wf N M → me_kp M0 M → va_P D classes (me_W ad ca M) H → va_D A (me_W ad ca M) → va_S A s.heap H locs → lv_has ls 8 [(0, .ref (ad 1 j0)), (1, .int x1), (2, .int x2), (3, .int y3), (4, .int y4), (5, .long y5), (7, .int y7)] → W p l e rm_M_program s m [.ref (ad 1 j0), .int x1, .int x2].toArray below meth c H locs 0 0 (MQ below (q_M_program D ad ca N M0 MZ RZ A) [.ref (ad 1 j0), .int x1, .int x2].toArray s rm_M_program.cells rm_M_program.slots A) (F0 m 74 ls []) := by
    intro k57 hk57 fu
    induction fu with
    | zero =>
      intro M y3 y4 y5 y7 H locs ls h zy3 hwf hkp hP hD hS hl
      cases h
    | succ fu ih =>
      intro M y3 y4 y5 y7 H locs ls h zy3 hwf hkp hP hD hS hl
      unfold f_M_program_l74 at h
      have hkb := hkp
      refine lv_iload hx hb d_M_program_74 (lv_at hl 6 rfl) ?_
      refine lv_if_lt (tgt := 111) hx hb d_M_program_76 (by decide) (fun c27 => ?_) (fun c27 => ?_)
      · have h := if_t c27 h
        refine lv_aload_n hx hb d_M_program_111 rfl (lv_at hl 0 rfl) ?_
        refine g_M_13 hx hb hts hown hK hP hwf hj0 (hts _ u_1754) d_M_program_112 ?_
        obtain ⟨j28, e29, h⟩ := bd_ob h
        have hj28 : j28 < N 16 := (hwf.2.1 1 j0 13 _ e29 (by decide) hj0)
        refine me_opt (j := j28) e29 ?_
        refine lv_iload hx hb d_M_program_115 (lv_at hl 4 rfl) ?_
        refine lv_lload hx hb d_M_program_117 (lv_at hl 5 rfl) ?_
        obtain ⟨g30, h⟩ := gd_ob h
        obtain ⟨M31, eM31, h⟩ := st_ob h
        refine me_last eM31 hx hb hK hP hD hwf hS hj28 g30 d_M_program_119 (fun H locs hP hD hwf hS => ?_)
        have hkp := kp_L eM31 hkp
        refine lv_iinc (v := y4 + 1) (lv' := [(4, .int (y4 + 1)), (0, .ref (ad 1 j0)), (1, .int x1), (2, .int x2), (3, .int y3), (5, .long y5), (7, .int y7)]) hx hb d_M_program_120 hl (k := 4) rfl (by rfl) (by decide) rfl (fun ls hl => ?_)
        refine lv_goto (tgt := 57) hx hb d_M_program_123 (by decide) ?_
        exact hk57 M31 y3 (y4 + 1) _ _ _ h zy3 hwf hkp hP hD hS (lv_sub hl [1, 2, 3, 4, 0] rfl)
      have h := if_f c27 h
      refine lv_lload hx hb d_M_program_79 (lv_at hl 5 rfl) ?_
      refine lv_bipush (v := 8) hx hb d_M_program_81 (by decide) ?_
      refine lv_lshl (v := jlshl y5 (8 : Int32)) hx hb d_M_program_83 rfl ?_
      refine lv_aload_n hx hb d_M_program_84 rfl (lv_at hl 0 rfl) ?_
      refine g_M_1 hx hb hts hown hK hP hwf hj0 (hts _ u_1742) d_M_program_85 ?_
      obtain ⟨j32, e33, h⟩ := bd_ob h
      have hj32 : j32 < N 14 := (hwf.2.1 1 j0 1 _ e33 (by decide) hj0)
      refine me_opt (j := j32) e33 ?_
      refine lv_bipush (v := 8) hx hb d_M_program_88 (by decide) ?_
      refine lv_iload hx hb d_M_program_90 (lv_at hl 4 rfl) ?_
      refine lv_imul hx hb d_M_program_92 ?_
      refine lv_iload hx hb d_M_program_93 (lv_at hl 6 rfl) ?_
      refine lv_iadd hx hb d_M_program_95 ?_
      obtain ⟨g34, h⟩ := gd_ob h
      refine me_bald hx hb hK hP hwf hj32 g34 d_M_program_96 ?_
      refine lv_i2l (v := (mI M 14 j32 ((8 * y4) + y7).toNatClampNeg).toInt64) hx hb d_M_program_97 rfl ?_
      refine lv_ldc2 hx hb hown (hts _ u_1980) d_M_program_98 ?_
      refine lv_land hx hb d_M_program_101 ?_
      refine lv_lor hx hb d_M_program_102 ?_
      obtain ⟨v35, ev35, h⟩ := st_ob h
      refine fg_topl (y := v35) ev35.symm ?_
      refine lv_lstore (lv' := [(5, .long v35), (0, .ref (ad 1 j0)), (1, .int x1), (2, .int x2), (3, .int y3), (4, .int y4), (7, .int y7)]) hx hb d_M_program_103 hl (by decide) rfl (fun ls hl => ?_)
      refine lv_iinc (v := y7 + (-1)) (lv' := [(7, .int (y7 + (-1))), (5, .long v35), (0, .ref (ad 1 j0)), (1, .int x1), (2, .int x2), (3, .int y3), (4, .int y4)]) hx hb d_M_program_105 hl (k := 6) rfl (by rfl) (by decide) rfl (fun ls hl => ?_)
      refine lv_goto (tgt := 74) hx hb d_M_program_108 (by decide) ?_
      exact ih M y3 y4 v35 (y7 + (-1)) _ _ _ h zy3 hwf hkp hP hD hS (lv_sub hl [2, 3, 4, 5, 6, 1, 0] rfl)
  have b_57 : ∀ (fu : Nat), ∀ (M : me_M) (y3 : Int32) (y4 : Int32) (H : Heap) (locs : List Loc) (ls : Array Slot), f_M_program_l57 j0 x1 x2 fu M y3 y4 = (some (MZ, RZ)) → (y3 = 1 ∨ y3 = 0) → me_wf N M → me_kp M0 M → va_P D classes (me_W ad ca M) H → va_D A (me_W ad ca M) → va_S A s.heap H locs → lv_has ls 8 [(0, .ref (ad 1 j0)), (1, .int x1), (2, .int x2), (3, .int y3), (4, .int y4)] → W p l e rm_M_program s m [.ref (ad 1 j0), .int x1, .int x2].toArray below meth c H locs 0 0 (MQ below (q_M_program D ad ca N M0 MZ RZ A) [.ref (ad 1 j0), .int x1, .int x2].toArray s rm_M_program.cells rm_M_program.slots A) (F0 m 57 ls []) := by
    intro fu
    induction fu with
    | zero =>
      intro M y3 y4 H locs ls h zy3 hwf hkp hP hD hS hl
      cases h
    | succ fu ih =>
      intro M y3 y4 H locs ls h zy3 hwf hkp hP hD hS hl
      unfold f_M_program_l57 at h
      have hkb := hkp
      refine lv_iload hx hb d_M_program_57 (lv_at hl 4 rfl) ?_
      refine lv_iload_n hx hb d_M_program_59 rfl (lv_at hl 1 rfl) ?_
      refine lv_icmp_ge (tgt := 126) hx hb d_M_program_60 (by decide) (fun c36 => ?_) (fun c36 => ?_)
      · have h := if_t c36 h
        exact b_126 M y3 _ _ _ h zy3 hwf hkp hP hD hS (lv_sub hl [0, 1, 2, 3] rfl)
      have h := if_f c36 h
      refine lv_iload_n hx hb d_M_program_63 rfl (lv_at hl 3 rfl) ?_
      refine lv_if_eq (tgt := 126) hx hb d_M_program_64 (by decide) (fun c37 => ?_) (fun c37 => ?_)
      · have h := if_t c37 h
        exact b_126 M y3 _ _ _ h zy3 hwf hkp hP hD hS (lv_sub hl [0, 1, 2, 3] rfl)
      have h := if_f c37 h
      refine lv_lconst (v := 0) hx hb d_M_program_67 (by decide) ?_
      refine lv_lstore (lv' := [(5, .long 0), (0, .ref (ad 1 j0)), (1, .int x1), (2, .int x2), (3, .int y3), (4, .int y4)]) hx hb d_M_program_68 hl (by decide) rfl (fun ls hl => ?_)
      refine lv_bipush (v := 7) hx hb d_M_program_70 (by decide) ?_
      refine lv_istore (lv' := [(7, .int 7), (5, .long 0), (0, .ref (ad 1 j0)), (1, .int x1), (2, .int x2), (3, .int y3), (4, .int y4)]) hx hb d_M_program_72 hl (by decide) rfl (fun ls hl => ?_)
      exact b_74 _ ih _ M y3 y4 (0 : Int64) (7 : Int32) _ _ _ h zy3 hwf hkp hP hD hS (lv_sub hl [2, 3, 4, 5, 6, 1, 0] rfl)
  have b_40 : ∀ (M : me_M) (s0 : Int32) (H : Heap) (locs : List Loc) (ls : Array Slot), f_M_program_b40 j0 x1 x2 M s0 = (some (MZ, RZ)) → (s0 = 1 ∨ s0 = 0) → me_wf N M → me_kp M0 M → va_P D classes (me_W ad ca M) H → va_D A (me_W ad ca M) → va_S A s.heap H locs → lv_has ls 8 [(0, .ref (ad 1 j0)), (1, .int x1), (2, .int x2)] → W p l e rm_M_program s m [.ref (ad 1 j0), .int x1, .int x2].toArray below meth c H locs 0 0 (MQ below (q_M_program D ad ca N M0 MZ RZ A) [.ref (ad 1 j0), .int x1, .int x2].toArray s rm_M_program.cells rm_M_program.slots A) (F0 m 40 ls [.int s0]) := by
    intro M s0 H locs ls h zs0 hwf hkp hP hD hS hl
    unfold f_M_program_b40 at h
    have hkb := hkp
    refine lv_istore_n (lv' := [(3, .int s0), (0, .ref (ad 1 j0)), (1, .int x1), (2, .int x2)]) hx hb d_M_program_40 rfl hl (by decide) rfl (fun ls hl => ?_)
    refine lv_aload_n hx hb d_M_program_41 rfl (lv_at hl 1 rfl) ?_
    refine lv_iload_n hx hb d_M_program_42 rfl (lv_at hl 0 rfl) ?_
    refine lv_if_eq (tgt := 50) hx hb d_M_program_43 (by decide) (fun c38 => ?_) (fun c38 => ?_)
    · have h := if_t c38 h
      refine lv_iconst (v := 1) hx hb d_M_program_50 (by decide) ?_
      obtain ⟨M39, eM39, h⟩ := st_ob h
      refine p_M_0 eM39 hx hb hts hown hK hP hD hwf hS hj0 (hts _ u_1741) d_M_program_51 (fun H locs hP hD hwf hS => ?_)
      have hkp := kp_I eM39 hkp
      refine lv_iconst (v := 0) hx hb d_M_program_54 (by decide) ?_
      refine lv_istore (lv' := [(4, .int 0), (3, .int s0), (0, .ref (ad 1 j0)), (1, .int x1), (2, .int x2)]) hx hb d_M_program_55 hl (by decide) rfl (fun ls hl => ?_)
      exact b_57 _ M39 s0 (0 : Int32) _ _ _ h zs0 hwf hkp hP hD hS (lv_sub hl [2, 3, 4, 1, 0] rfl)
    have h := if_f c38 h
    refine lv_iconst (v := 0) hx hb d_M_program_46 (by decide) ?_
    refine lv_goto (tgt := 51) hx hb d_M_program_47 (by decide) ?_
    obtain ⟨M40, eM40, h⟩ := st_ob h
    refine p_M_0 eM40 hx hb hts hown hK hP hD hwf hS hj0 (hts _ u_1741) d_M_program_51 (fun H locs hP hD hwf hS => ?_)
    have hkp := kp_I eM40 hkp
    refine lv_iconst (v := 0) hx hb d_M_program_54 (by decide) ?_
    refine lv_istore (lv' := [(4, .int 0), (3, .int s0), (0, .ref (ad 1 j0)), (1, .int x1), (2, .int x2)]) hx hb d_M_program_55 hl (by decide) rfl (fun ls hl => ?_)
    exact b_57 _ M40 s0 (0 : Int32) _ _ _ h zs0 hwf hkp hP hD hS (lv_sub hl [2, 3, 4, 1, 0] rfl)
  have b_39 : ∀ (M : me_M) (H : Heap) (locs : List Loc) (ls : Array Slot), f_M_program_b39 j0 x1 x2 M = (some (MZ, RZ)) → me_wf N M → me_kp M0 M → va_P D classes (me_W ad ca M) H → va_D A (me_W ad ca M) → va_S A s.heap H locs → lv_has ls 8 [(0, .ref (ad 1 j0)), (1, .int x1), (2, .int x2)] → W p l e rm_M_program s m [.ref (ad 1 j0), .int x1, .int x2].toArray below meth c H locs 0 0 (MQ below (q_M_program D ad ca N M0 MZ RZ A) [.ref (ad 1 j0), .int x1, .int x2].toArray s rm_M_program.cells rm_M_program.slots A) (F0 m 39 ls []) := by
    intro M H locs ls h hwf hkp hP hD hS hl
    unfold f_M_program_b39 at h
    have hkb := hkp
    refine lv_iconst (v := 0) hx hb d_M_program_39 (by decide) ?_
    exact b_40 M (0 : Int32) _ _ _ h (by decide) hwf hkp hP hD hS (lv_sub hl [0, 1, 2] rfl)
  refine lv_iload_n hx hb d_M_program_0 rfl (lv_at hl 1 rfl) ?_
  refine lv_i2l (v := x1.toInt64) hx hb d_M_program_1 rfl ?_
  refine lv_lconst (v := 1) hx hb d_M_program_2 (by decide) ?_
  refine lv_ldc2 hx hb hown (hts _ u_1975) d_M_program_3 ?_
  obtain ⟨r41, er41, h⟩ := bd_ob h
  refine me_pani' (r0 := r41) (fg_runS (wc := []) (tc := []) (A2 := A) (As := [.long x1.toInt64, .long 1, .long 2000]) (rest := []) ⟨hx, hb, hml, hown, hts⟩ (c_M_in l D r41 x1.toInt64 (1 : Int64) (2000 : Int64) er41 _) (by show fg_nm y_M_in 3; decide +kernel) u_1976 u_1977 u_192 u_1978 ⟨Nat.le_of_ble_eq_true rfl, Nat.le_of_ble_eq_true rfl⟩ hX me_P0 (hK.sub (tys' := []) [] rfl) me_D0 rfl hl.1 (Nat.le_of_ble_eq_true rfl) d_M_program_6 ⟨Nat.le_of_ble_eq_true rfl, Nat.le_of_ble_eq_true rfl⟩) hP hD hK hS hA rfl rfl (fun H locs hw hP hD hS => ?_)
  have zr41 := hw
  refine lv_if_eq (tgt := 39) hx hb d_M_program_9 (by decide) (fun c42 => ?_) (fun c42 => ?_)
  · have h := if_t c42 h
    exact b_39 M0 _ _ _ h hwf hkp hP hD hS (lv_sub hl [0, 1, 2] rfl)
  have h := if_f c42 h
  refine lv_aload_n hx hb d_M_program_12 rfl (lv_at hl 0 rfl) ?_
  refine g_M_2 hx hb hts hown hK hP hwf hj0 (hts _ u_1743) d_M_program_13 ?_
  refine lv_bipush (v := 8) hx hb d_M_program_16 (by decide) ?_
  refine lv_iload_n hx hb d_M_program_18 rfl (lv_at hl 1 rfl) ?_
  refine lv_imul hx hb d_M_program_19 ?_
  refine lv_icmp_lt (tgt := 39) hx hb d_M_program_20 (by decide) (fun c43 => ?_) (fun c43 => ?_)
  · have h := if_t c43 h
    exact b_39 M0 _ _ _ h hwf hkp hP hD hS (lv_sub hl [0, 1, 2] rfl)
  have h := if_f c43 h
  refine lv_iload_n hx hb d_M_program_23 rfl (lv_at hl 2 rfl) ?_
  refine lv_i2l (v := x2.toInt64) hx hb d_M_program_24 rfl ?_
  refine lv_lconst (v := 1) hx hb d_M_program_25 (by decide) ?_
  refine lv_ldc2 hx hb hown (hts _ u_1979) d_M_program_26 ?_
  obtain ⟨r44, er44, h⟩ := bd_ob h
  refine me_pani' (r0 := r44) (fg_runS (wc := []) (tc := []) (A2 := A) (As := [.long x2.toInt64, .long 1, .long 20000]) (rest := []) ⟨hx, hb, hml, hown, hts⟩ (c_M_in l D r44 x2.toInt64 (1 : Int64) (20000 : Int64) er44 _) (by show fg_nm y_M_in 3; decide +kernel) u_1976 u_1977 u_192 u_1978 ⟨Nat.le_of_ble_eq_true rfl, Nat.le_of_ble_eq_true rfl⟩ hX me_P0 (hK.sub (tys' := []) [] rfl) me_D0 rfl hl.1 (Nat.le_of_ble_eq_true rfl) d_M_program_29 ⟨Nat.le_of_ble_eq_true rfl, Nat.le_of_ble_eq_true rfl⟩) hP hD hK hS hA rfl rfl (fun H locs hw hP hD hS => ?_)
  have zr44 := hw
  refine lv_if_eq (tgt := 39) hx hb d_M_program_32 (by decide) (fun c45 => ?_) (fun c45 => ?_)
  · have h := if_t c45 h
    exact b_39 M0 _ _ _ h hwf hkp hP hD hS (lv_sub hl [0, 1, 2] rfl)
  have h := if_f c45 h
  refine lv_iconst (v := 1) hx hb d_M_program_35 (by decide) ?_
  refine lv_goto (tgt := 40) hx hb d_M_program_36 (by decide) ?_
  exact b_40 M0 (1 : Int32) _ _ _ h (by decide) hwf hkp hP hD hS (lv_sub hl [0, 1, 2] rfl)
theorem d_M_about_0 : decode prog_14_method_111_code 0 = .ok (.aload_n 0, 1) := by decide +kernel
theorem d_M_about_1 : decode prog_14_method_111_code 1 = .ok (.iconst 0, 1) := by decide +kernel
theorem d_M_about_2 : decode prog_14_method_111_code 2 = .ok (.putfield 152, 3) := by decide +kernel
theorem d_M_about_5 : decode prog_14_method_111_code 5 = .ok (.aload_n 0, 1) := by decide +kernel
theorem d_M_about_6 : decode prog_14_method_111_code 6 = .ok (.getfield 571, 3) := by decide +kernel
theorem g_M_18 {p : Program} {l : Launch} {e : Env} {R : Room} {s : Jvm.State} {m : MethodId} {args : Array Value} {below : List Frame} {meth : Method} {c : Code} {H : Heap} {locs : List Loc} {cells slots : Nat} {Q : Jvm.State → Prop} {cc : ByteArray} {pc : Nat} {ls : Array Slot} {rest : List Value} {D : va_G} {ad : Nat → Nat → Nat} {ca : Nat → ClassId} {M : me_M} {N : Nat → Nat} {own : String} {index j : Nat} (hexec : p.tables.exec = Jvm.exec) (hb : c.code = cc) (hts : ∀ w ∈ fg_g, w.before args s = true) (hown : s.vm.findClass own = some m.cls) (hK : va_K D classes (me_T ca) s) (hP : va_P D classes (me_W ad ca M) H) (hwf : me_wf N M) (hj : j < N 1) (hlink : (Cond.fieldLink own index "FilterGuardModel" "isExplored" "Z").before args s = true) (hdg : decode cc pc = .ok (.getfield index, 3)) (kk : W p l e R s m args below meth c H locs cells slots Q (F0 m (pc + 3) ls (.int (mI M 1 j 18) :: rest))) : W p l e R s m args below meth c H locs cells slots Q (F0 m pc ls (.ref (ad 1 j) :: rest)) := me_get (k := 1) (f := 18) (C := "FilterGuardModel") (T := F_M) (Nf := 75) hexec hb hts i_M hown hK hP hwf hj (by decide) rfl (by decide) (by decide) hlink (fun _ h9 => h9) hdg kk
theorem d_M_about_9 : decode prog_14_method_111_code 9 = .ok (.ifCond .ne 5, 3) := by decide +kernel
theorem d_M_about_14 : decode prog_14_method_111_code 14 = .ok (.iload_n 1, 1) := by decide +kernel
theorem d_M_about_15 : decode prog_14_method_111_code 15 = .ok (.tableswitch 85 0 7 #[45, 50, 55, 60, 65, 70, 75, 80], 45) := by decide +kernel
theorem d_M_about_60 : decode prog_14_method_111_code 60 = .ok (.aload_n 0, 1) := by decide +kernel
theorem d_M_about_61 : decode prog_14_method_111_code 61 = .ok (.getfield 584, 3) := by decide +kernel
theorem d_M_about_64 : decode prog_14_method_111_code 64 = .ok (.ireturn, 1) := by decide +kernel
theorem d_M_about_65 : decode prog_14_method_111_code 65 = .ok (.aload_n 0, 1) := by decide +kernel
theorem d_M_about_66 : decode prog_14_method_111_code 66 = .ok (.getfield 351, 3) := by decide +kernel
theorem g_M_21 {p : Program} {l : Launch} {e : Env} {R : Room} {s : Jvm.State} {m : MethodId} {args : Array Value} {below : List Frame} {meth : Method} {c : Code} {H : Heap} {locs : List Loc} {cells slots : Nat} {Q : Jvm.State → Prop} {cc : ByteArray} {pc : Nat} {ls : Array Slot} {rest : List Value} {D : va_G} {ad : Nat → Nat → Nat} {ca : Nat → ClassId} {M : me_M} {N : Nat → Nat} {own : String} {index j : Nat} (hexec : p.tables.exec = Jvm.exec) (hb : c.code = cc) (hts : ∀ w ∈ fg_g, w.before args s = true) (hown : s.vm.findClass own = some m.cls) (hK : va_K D classes (me_T ca) s) (hP : va_P D classes (me_W ad ca M) H) (hwf : me_wf N M) (hj : j < N 1) (hlink : (Cond.fieldLink own index "FilterGuardModel" "faultSlot" "I").before args s = true) (hdg : decode cc pc = .ok (.getfield index, 3)) (kk : W p l e R s m args below meth c H locs cells slots Q (F0 m (pc + 3) ls (.int (mI M 1 j 21) :: rest))) : W p l e R s m args below meth c H locs cells slots Q (F0 m pc ls (.ref (ad 1 j) :: rest)) := me_get (k := 1) (f := 21) (C := "FilterGuardModel") (T := F_M) (Nf := 75) hexec hb hts i_M hown hK hP hwf hj (by decide) rfl (by decide) (by decide) hlink (fun _ h9 => h9) hdg kk
theorem d_M_about_69 : decode prog_14_method_111_code 69 = .ok (.ireturn, 1) := by decide +kernel
theorem d_M_about_70 : decode prog_14_method_111_code 70 = .ok (.aload_n 0, 1) := by decide +kernel
theorem d_M_about_71 : decode prog_14_method_111_code 71 = .ok (.getfield 553, 3) := by decide +kernel
theorem d_M_about_74 : decode prog_14_method_111_code 74 = .ok (.ireturn, 1) := by decide +kernel
theorem d_M_about_75 : decode prog_14_method_111_code 75 = .ok (.aload_n 0, 1) := by decide +kernel
theorem d_M_about_76 : decode prog_14_method_111_code 76 = .ok (.getfield 505, 3) := by decide +kernel
theorem d_M_about_79 : decode prog_14_method_111_code 79 = .ok (.ireturn, 1) := by decide +kernel
theorem d_M_about_80 : decode prog_14_method_111_code 80 = .ok (.aload_n 0, 1) := by decide +kernel
theorem d_M_about_81 : decode prog_14_method_111_code 81 = .ok (.getfield 520, 3) := by decide +kernel
theorem d_M_about_84 : decode prog_14_method_111_code 84 = .ok (.ireturn, 1) := by decide +kernel
theorem d_M_about_85 : decode prog_14_method_111_code 85 = .ok (.aload_n 0, 1) := by decide +kernel
theorem d_M_about_86 : decode prog_14_method_111_code 86 = .ok (.getfield 558, 3) := by decide +kernel
theorem d_M_about_89 : decode prog_14_method_111_code 89 = .ok (.ireturn, 1) := by decide +kernel
theorem d_M_about_90 : decode prog_14_method_111_code 90 = .ok (.aload_n 0, 1) := by decide +kernel
theorem d_M_about_91 : decode prog_14_method_111_code 91 = .ok (.getfield 327, 3) := by decide +kernel
theorem d_M_about_94 : decode prog_14_method_111_code 94 = .ok (.ireturn, 1) := by decide +kernel
theorem d_M_about_95 : decode prog_14_method_111_code 95 = .ok (.aload_n 0, 1) := by decide +kernel
theorem d_M_about_96 : decode prog_14_method_111_code 96 = .ok (.getfield 561, 3) := by decide +kernel
theorem g_M_26 {p : Program} {l : Launch} {e : Env} {R : Room} {s : Jvm.State} {m : MethodId} {args : Array Value} {below : List Frame} {meth : Method} {c : Code} {H : Heap} {locs : List Loc} {cells slots : Nat} {Q : Jvm.State → Prop} {cc : ByteArray} {pc : Nat} {ls : Array Slot} {rest : List Value} {D : va_G} {ad : Nat → Nat → Nat} {ca : Nat → ClassId} {M : me_M} {N : Nat → Nat} {own : String} {index j : Nat} (hexec : p.tables.exec = Jvm.exec) (hb : c.code = cc) (hts : ∀ w ∈ fg_g, w.before args s = true) (hown : s.vm.findClass own = some m.cls) (hK : va_K D classes (me_T ca) s) (hP : va_P D classes (me_W ad ca M) H) (hwf : me_wf N M) (hj : j < N 1) (hlink : (Cond.fieldLink own index "FilterGuardModel" "shortSlots" "I").before args s = true) (hdg : decode cc pc = .ok (.getfield index, 3)) (kk : W p l e R s m args below meth c H locs cells slots Q (F0 m (pc + 3) ls (.int (mI M 1 j 26) :: rest))) : W p l e R s m args below meth c H locs cells slots Q (F0 m pc ls (.ref (ad 1 j) :: rest)) := me_get (k := 1) (f := 26) (C := "FilterGuardModel") (T := F_M) (Nf := 75) hexec hb hts i_M hown hK hP hwf hj (by decide) rfl (by decide) (by decide) hlink (fun _ h9 => h9) hdg kk
theorem d_M_about_99 : decode prog_14_method_111_code 99 = .ok (.ireturn, 1) := by decide +kernel
theorem d_M_about_100 : decode prog_14_method_111_code 100 = .ok (.iconst (-1), 1) := by decide +kernel
theorem d_M_about_101 : decode prog_14_method_111_code 101 = .ok (.ireturn, 1) := by decide +kernel
theorem d_M_about_12 : decode prog_14_method_111_code 12 = .ok (.iconst (-1), 1) := by decide +kernel
theorem d_M_about_13 : decode prog_14_method_111_code 13 = .ok (.ireturn, 1) := by decide +kernel
abbrev y_M_about : MethodName := ⟨"FilterGuardModel", "about", "(I)I"⟩
def rm_M_about : Room := { frames := 1, cells := 0, slots := 0, locals := 20 }
abbrev q_M_about (D : va_G) (ad : Nat → Nat → Nat) (ca : Nat → ClassId) (N : Nat → Nat) (M0 MZ : me_M) (RZ : Int32) (A : Nat → Prop) : Array Value → Jvm.State → Outcome → Jvm.State → Prop := va_Qi (fun r (_ : Unit) => r = RZ ∧ me_wf N MZ ∧ me_kp M0 MZ) (fg_B D A (fun _ => me_W ad ca MZ) (fun _ => [])) A
set_option maxHeartbeats 4000000 in
set_option maxRecDepth 100000 in
theorem c_M_about (l : Launch) (D : va_G) (ad : Nat → Nat → Nat) (ca : Nat → ClassId) (N : Nat → Nat) (M0 MZ : me_M) (RZ : Int32) (j0 : Nat) (x1 : Int32) (h : f_M_about M0 j0 x1 = (some (MZ, RZ))) (hwf : me_wf N M0) (hj0 : j0 < N 1) (sz : Nat) : Met l y_M_about (fg_w y_M_about prog_14_method_111_code 2 (some .int)) rm_M_about (va_Pc [.ref (ad 1 j0), .int x1] (fz_P D (me_T ca) (me_W ad ca M0) sz)) (q_M_about D ad ca N M0 MZ RZ (va_A (me_W ad ca M0) sz)) rm_M_about.cells rm_M_about.slots (va_A (me_W ad ca M0) sz) := by
  refine fz_enter (fun A => q_M_about D ad ca N M0 MZ RZ A) (by decide +kernel) (Nat.le_of_ble_eq_true rfl) ?_
  intro p e s m below meth c ls A hx hb hml hown hts hr hlocks hin hP hK hD hS hA hX hl hz
  have hl : lv_has ls 2 [(0, .ref (ad 1 j0)), (1, .int x1)] := hl
  unfold f_M_about at h
  have hkp : me_kp M0 M0 := me_kp.rf
  have hkb := hkp
  refine lv_aload_n hx hb d_M_about_0 rfl (lv_at hl 0 rfl) ?_
  refine lv_iconst (v := 0) hx hb d_M_about_1 (by decide) ?_
  obtain ⟨M1, eM1, h⟩ := st_ob h
  refine p_M_0 eM1 hx hb hts hown hK hP hD hwf hS hj0 (hts _ u_1741) d_M_about_2 (fun H locs hP hD hwf hS => ?_)
  have hkp := kp_I eM1 hkp
  refine lv_aload_n hx hb d_M_about_5 rfl (lv_at hl 0 rfl) ?_
  refine g_M_18 hx hb hts hown hK hP hwf hj0 (hts _ u_1759) d_M_about_6 ?_
  have z2 := (hwf.2.2.2 1 j0 18 rfl)
  refine lv_if_ne (tgt := 14) hx hb d_M_about_9 (by decide) (fun c3 => ?_) (fun c3 => ?_)
  · have h := if_f c3 h
    refine lv_iload_n hx hb d_M_about_14 rfl (lv_at hl 1 rfl) ?_
    refine lv_topi (fun w4 ew4 => ?_)
    by_cases n5 : w4 = 0
    · have h := if_t (ew4.symm.trans n5) h
      subst n5
      refine lv_tableIn (off := 45) (tgt := 60) hx hb d_M_about_15 (by decide) (by decide) (by decide) (by decide) ?_
      refine lv_aload_n hx hb d_M_about_60 rfl (lv_at hl 0 rfl) ?_
      refine g_M_20 hx hb hts hown hK hP hwf hj0 (hts _ u_1761) d_M_about_61 ?_
      exact me_reti (me_kp M0) h hx hb hr hlocks hwf hkp hP hK hD hS d_M_about_64
    have h := if_f (fun z => n5 (ew4.trans z)) h
    by_cases n6 : w4 = 1
    · have h := if_t (ew4.symm.trans n6) h
      subst n6
      refine lv_tableIn (off := 50) (tgt := 65) hx hb d_M_about_15 (by decide) (by decide) (by decide) (by decide) ?_
      refine lv_aload_n hx hb d_M_about_65 rfl (lv_at hl 0 rfl) ?_
      refine g_M_21 hx hb hts hown hK hP hwf hj0 (hts _ u_1762) d_M_about_66 ?_
      exact me_reti (me_kp M0) h hx hb hr hlocks hwf hkp hP hK hD hS d_M_about_69
    have h := if_f (fun z => n6 (ew4.trans z)) h
    by_cases n7 : w4 = 2
    · have h := if_t (ew4.symm.trans n7) h
      subst n7
      refine lv_tableIn (off := 55) (tgt := 70) hx hb d_M_about_15 (by decide) (by decide) (by decide) (by decide) ?_
      refine lv_aload_n hx hb d_M_about_70 rfl (lv_at hl 0 rfl) ?_
      refine g_M_22 hx hb hts hown hK hP hwf hj0 (hts _ u_1763) d_M_about_71 ?_
      exact me_reti (me_kp M0) h hx hb hr hlocks hwf hkp hP hK hD hS d_M_about_74
    have h := if_f (fun z => n7 (ew4.trans z)) h
    by_cases n8 : w4 = 3
    · have h := if_t (ew4.symm.trans n8) h
      subst n8
      refine lv_tableIn (off := 60) (tgt := 75) hx hb d_M_about_15 (by decide) (by decide) (by decide) (by decide) ?_
      refine lv_aload_n hx hb d_M_about_75 rfl (lv_at hl 0 rfl) ?_
      refine g_M_23 hx hb hts hown hK hP hwf hj0 (hts _ u_1764) d_M_about_76 ?_
      exact me_reti (me_kp M0) h hx hb hr hlocks hwf hkp hP hK hD hS d_M_about_79
    have h := if_f (fun z => n8 (ew4.trans z)) h
    by_cases n9 : w4 = 4
    · have h := if_t (ew4.symm.trans n9) h
      subst n9
      refine lv_tableIn (off := 65) (tgt := 80) hx hb d_M_about_15 (by decide) (by decide) (by decide) (by decide) ?_
      refine lv_aload_n hx hb d_M_about_80 rfl (lv_at hl 0 rfl) ?_
      refine g_M_24 hx hb hts hown hK hP hwf hj0 (hts _ u_1765) d_M_about_81 ?_
      exact me_reti (me_kp M0) h hx hb hr hlocks hwf hkp hP hK hD hS d_M_about_84
    have h := if_f (fun z => n9 (ew4.trans z)) h
    by_cases n10 : w4 = 5
    · have h := if_t (ew4.symm.trans n10) h
      subst n10
      refine lv_tableIn (off := 70) (tgt := 85) hx hb d_M_about_15 (by decide) (by decide) (by decide) (by decide) ?_
      refine lv_aload_n hx hb d_M_about_85 rfl (lv_at hl 0 rfl) ?_
      refine g_M_25 hx hb hts hown hK hP hwf hj0 (hts _ u_1766) d_M_about_86 ?_
      exact me_reti (me_kp M0) h hx hb hr hlocks hwf hkp hP hK hD hS d_M_about_89
    have h := if_f (fun z => n10 (ew4.trans z)) h
    by_cases n11 : w4 = 6
    · have h := if_t (ew4.symm.trans n11) h
      subst n11
      refine lv_tableIn (off := 75) (tgt := 90) hx hb d_M_about_15 (by decide) (by decide) (by decide) (by decide) ?_
      refine lv_aload_n hx hb d_M_about_90 rfl (lv_at hl 0 rfl) ?_
      refine g_M_12 hx hb hts hown hK hP hwf hj0 (hts _ u_1753) d_M_about_91 ?_
      exact me_reti (me_kp M0) h hx hb hr hlocks hwf hkp hP hK hD hS d_M_about_94
    have h := if_f (fun z => n11 (ew4.trans z)) h
    by_cases n12 : w4 = 7
    · have h := if_t (ew4.symm.trans n12) h
      subst n12
      refine lv_tableIn (off := 80) (tgt := 95) hx hb d_M_about_15 (by decide) (by decide) (by decide) (by decide) ?_
      refine lv_aload_n hx hb d_M_about_95 rfl (lv_at hl 0 rfl) ?_
      refine g_M_26 hx hb hts hown hK hP hwf hj0 (hts _ u_1767) d_M_about_96 ?_
      exact me_reti (me_kp M0) h hx hb hr hlocks hwf hkp hP hK hD hS d_M_about_99
    have h := if_f (fun z => n12 (ew4.trans z)) h
    have in5 := lv_neT n5 (show (0 : Int32).toInt = 0 from rfl)
    have in6 := lv_neT n6 (show (1 : Int32).toInt = 1 from rfl)
    have in7 := lv_neT n7 (show (2 : Int32).toInt = 2 from rfl)
    have in8 := lv_neT n8 (show (3 : Int32).toInt = 3 from rfl)
    have in9 := lv_neT n9 (show (4 : Int32).toInt = 4 from rfl)
    have in10 := lv_neT n10 (show (5 : Int32).toInt = 5 from rfl)
    have in11 := lv_neT n11 (show (6 : Int32).toInt = 6 from rfl)
    have in12 := lv_neT n12 (show (7 : Int32).toInt = 7 from rfl)
    refine lv_tableOut (tgt := 100) hx hb d_M_about_15 (by omega) (by decide) ?_
    refine lv_iconst (v := (-1)) hx hb d_M_about_100 (by decide) ?_
    exact me_reti (me_kp M0) h hx hb hr hlocks hwf hkp hP hK hD hS d_M_about_101
  have h := if_t c3 h
  refine lv_iconst (v := (-1)) hx hb d_M_about_12 (by decide) ?_
  exact me_reti (me_kp M0) h hx hb hr hlocks hwf hkp hP hK hD hS d_M_about_13
