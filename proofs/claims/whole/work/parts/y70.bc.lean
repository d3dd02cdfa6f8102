theorem d_G_program_164 : decode prog_1_method_5_code 164 = .ok (.putfield 129, 3) := by decide +kernel
theorem u_705 : Cond.fieldLink "FilterGuard" 129 "FilterGuard" "isProgram" "Z" ∈ fg_g := fg_in (List.mem_of_getElem? (i := 705) (by decide +kernel)) rfl
theorem p_G_12 {p : Program} {l : Launch} {e : Env} {R : Room} {s : Jvm.State} {m : MethodId} {args : Array Value} {below : List Frame} {meth : Method} {c : Code} {H : Heap} {locs : List Loc} {cells slots : Nat} {Q : Jvm.State → Prop} {cc : ByteArray} {pc : Nat} {ls : Array Slot} {rest : List Value} {D : va_G} {A : Nat → Prop} {H0 : Heap} {ad : Nat → Nat → Nat} {ca : Nat → ClassId} {M M1 : me_M} {N : Nat → Nat} {own : String} {index j : Nat} {v : Int32} (he : M1 = wI M 0 j 12 v) (hexec : p.tables.exec = Jvm.exec) (hb : c.code = cc) (hts : ∀ w ∈ fg_g, w.before args s = true) (hown : s.vm.findClass own = some m.cls) (hK : va_K D classes (me_T ca) s) (hP : va_P D classes (me_W ad ca M) H) (hD : va_D A (me_W ad ca M)) (hwf : me_wf N M) (hS : va_S A H0 H locs) (hj : j < N 0) (hv : v = 1 ∨ v = 0) (hlink : (Cond.fieldLink own index "FilterGuard" "isProgram" "Z").before args s = true) (hdg : decode cc pc = .ok (.putfield index, 3)) (kk : ∀ (H1 : Heap) (locs1 : List Loc), va_P D classes (me_W ad ca M1) H1 → va_D A (me_W ad ca M1) → me_wf N M1 → va_S A H0 H1 locs1 → W p l e R s m args below meth c H1 locs1 cells slots Q (F0 m (pc + 3) ls rest)) : W p l e R s m args below meth c H locs cells slots Q (F0 m pc ls (.int v :: .ref (ad 0 j) :: rest)) := by
  subst he
  exact me_put (M1 := wI M 0 j 12 v) (k := 0) (f := 12) (C := "FilterGuard") (T := F_G) (Nf := 14) hexec hb hts i_G t_G t_G_ok n_G hown hK hP hD hwf hS hj (by decide) rfl (by decide) (by decide) hlink (fun _ h9 => h9) rfl (me_nz hv) (me_fz hv) rfl (fun a b h => me_wIE h) (me_fIw (by decide) (by decide)) hdg (fun H1 locs1 a1 a2 a3 => kk H1 locs1 a1 a2 (me_wfI hwf (fun z => absurd z (by decide)) (fun _ => hv)) a3)
theorem d_G_program_167 : decode prog_1_method_5_code 167 = .ok (.aload_n 0, 1) := by decide +kernel
theorem d_G_program_168 : decode prog_1_method_5_code 168 = .ok (.getfield 129, 3) := by decide +kernel
theorem g_G_12 {p : Program} {l : Launch} {e : Env} {R : Room} {s : Jvm.State} {m : MethodId} {args : Array Value} {below : List Frame} {meth : Method} {c : Code} {H : Heap} {locs : List Loc} {cells slots : Nat} {Q : Jvm.State → Prop} {cc : ByteArray} {pc : Nat} {ls : Array Slot} {rest : List Value} {D : va_G} {ad : Nat → Nat → Nat} {ca : Nat → ClassId} {M : me_M} {N : Nat → Nat} {own : String} {index j : Nat} (hexec : p.tables.exec = Jvm.exec) (hb : c.code = cc) (hts : ∀ w ∈ fg_g, w.before args s = true) (hown : s.vm.findClass own = some m.cls) (hK : va_K D classes (me_T ca) s) (hP : va_P D classes (me_W ad ca M) H) (hwf : me_wf N M) (hj : j < N 0) (hlink : (Cond.fieldLink own index "FilterGuard" "isProgram" "Z").before args s = true) (hdg : decode cc pc = .ok (.getfield index, 3)) (kk : W p l e R s m args below meth c H locs cells slots Q (F0 m (pc + 3) ls (.int (mI M 0 j 12) :: rest))) : W p l e R s m args below meth c H locs cells slots Q (F0 m pc ls (.ref (ad 0 j) :: rest)) := me_get (k := 0) (f := 12) (C := "FilterGuard") (T := F_G) (Nf := 14) hexec hb hts i_G hown hK hP hwf hj (by decide) rfl (by decide) (by decide) hlink (fun _ h9 => h9) hdg kk
theorem d_G_program_171 : decode prog_1_method_5_code 171 = .ok (.ifCond .eq 26, 3) := by decide +kernel
theorem d_G_program_197 : decode prog_1_method_5_code 197 = .ok (.aload_n 0, 1) := by decide +kernel
theorem d_G_program_198 : decode prog_1_method_5_code 198 = .ok (.getfield 26, 3) := by decide +kernel
theorem d_G_program_201 : decode prog_1_method_5_code 201 = .ok (.iconst 0, 1) := by decide +kernel
theorem d_G_program_202 : decode prog_1_method_5_code 202 = .ok (.putfield 136, 3) := by decide +kernel
theorem u_227 : Cond.fieldLink "FilterGuard" 136 "FilterGuard$Code" "size" "I" ∈ fg_g := fg_in (List.mem_of_getElem? (i := 227) (by decide +kernel)) rfl
theorem d_G_program_205 : decode prog_1_method_5_code 205 = .ok (.aload_n 0, 1) := by decide +kernel
theorem d_G_program_206 : decode prog_1_method_5_code 206 = .ok (.getfield 118, 3) := by decide +kernel
theorem u_702 : Cond.fieldLink "FilterGuard" 118 "FilterGuard" "fault" "I" ∈ fg_g := fg_in (List.mem_of_getElem? (i := 702) (by decide +kernel)) rfl
theorem g_G_9 {p : Program} {l : Launch} {e : Env} {R : Room} {s : Jvm.State} {m : MethodId} {args : Array Value} {below : List Frame} {meth : Method} {c : Code} {H : Heap} {locs : List Loc} {cells slots : Nat} {Q : Jvm.State → Prop} {cc : ByteArray} {pc : Nat} {ls : Array Slot} {rest : List Value} {D : va_G} {ad : Nat → Nat → Nat} {ca : Nat → ClassId} {M : me_M} {N : Nat → Nat} {own : String} {index j : Nat} (hexec : p.tables.exec = Jvm.exec) (hb : c.code = cc) (hts : ∀ w ∈ fg_g, w.before args s = true) (hown : s.vm.findClass own = some m.cls) (hK : va_K D classes (me_T ca) s) (hP : va_P D classes (me_W ad ca M) H) (hwf : me_wf N M) (hj : j < N 0) (hlink : (Cond.fieldLink own index "FilterGuard" "fault" "I").before args s = true) (hdg : decode cc pc = .ok (.getfield index, 3)) (kk : W p l e R s m args below meth c H locs cells slots Q (F0 m (pc + 3) ls (.int (mI M 0 j 9) :: rest))) : W p l e R s m args below meth c H locs cells slots Q (F0 m pc ls (.ref (ad 0 j) :: rest)) := me_get (k := 0) (f := 9) (C := "FilterGuard") (T := F_G) (Nf := 14) hexec hb hts i_G hown hK hP hwf hj (by decide) rfl (by decide) (by decide) hlink (fun _ h9 => h9) hdg kk
theorem d_G_program_209 : decode prog_1_method_5_code 209 = .ok (.ireturn, 1) := by decide +kernel
theorem d_G_program_174 : decode prog_1_method_5_code 174 = .ok (.aload_n 0, 1) := by decide +kernel
theorem d_G_program_175 : decode prog_1_method_5_code 175 = .ok (.iconst 1, 1) := by decide +kernel
theorem d_G_program_176 : decode prog_1_method_5_code 176 = .ok (.putfield 88, 3) := by decide +kernel
theorem p_G_13 {p : Program} {l : Launch} {e : Env} {R : Room} {s : Jvm.State} {m : MethodId} {args : Array Value} {below : List Frame} {meth : Method} {c : Code} {H : Heap} {locs : List Loc} {cells slots : Nat} {Q : Jvm.State → Prop} {cc : ByteArray} {pc : Nat} {ls : Array Slot} {rest : List Value} {D : va_G} {A : Nat → Prop} {H0 : Heap} {ad : Nat → Nat → Nat} {ca : Nat → ClassId} {M M1 : me_M} {N : Nat → Nat} {own : String} {index j : Nat} {v : Int32} (he : M1 = wI M 0 j 13 v) (hexec : p.tables.exec = Jvm.exec) (hb : c.code = cc) (hts : ∀ w ∈ fg_g, w.before args s = true) (hown : s.vm.findClass own = some m.cls) (hK : va_K D classes (me_T ca) s) (hP : va_P D classes (me_W ad ca M) H) (hD : va_D A (me_W ad ca M)) (hwf : me_wf N M) (hS : va_S A H0 H locs) (hj : j < N 0) (hv : v = 1 ∨ v = 0) (hlink : (Cond.fieldLink own index "FilterGuard" "wasAccepted" "Z").before args s = true) (hdg : decode cc pc = .ok (.putfield index, 3)) (kk : ∀ (H1 : Heap) (locs1 : List Loc), va_P D classes (me_W ad ca M1) H1 → va_D A (me_W ad ca M1) → me_wf N M1 → va_S A H0 H1 locs1 → W p l e R s m args below meth c H1 locs1 cells slots Q (F0 m (pc + 3) ls rest)) : W p l e R s m args below meth c H locs cells slots Q (F0 m pc ls (.int v :: .ref (ad 0 j) :: rest)) := by
  subst he
  exact me_put (M1 := wI M 0 j 13 v) (k := 0) (f := 13) (C := "FilterGuard") (T := F_G) (Nf := 14) hexec hb hts i_G t_G t_G_ok n_G hown hK hP hD hwf hS hj (by decide) rfl (by decide) (by decide) hlink (fun _ h9 => h9) rfl (me_nz hv) (me_fz hv) rfl (fun a b h => me_wIE h) (me_fIw (by decide) (by decide)) hdg (fun H1 locs1 a1 a2 a3 => kk H1 locs1 a1 a2 (me_wfI hwf (fun z => absurd z (by decide)) (fun _ => hv)) a3)
theorem d_G_program_179 : decode prog_1_method_5_code 179 = .ok (.aload_n 0, 1) := by decide +kernel
theorem d_G_program_180 : decode prog_1_method_5_code 180 = .ok (.getfield 32, 3) := by decide +kernel
theorem d_G_program_183 : decode prog_1_method_5_code 183 = .ok (.aload_n 0, 1) := by decide +kernel
theorem d_G_program_184 : decode prog_1_method_5_code 184 = .ok (.getfield 22, 3) := by decide +kernel
theorem d_G_program_187 : decode prog_1_method_5_code 187 = .ok (.aload_n 0, 1) := by decide +kernel
theorem d_G_program_188 : decode prog_1_method_5_code 188 = .ok (.getfield 26, 3) := by decide +kernel
theorem d_G_program_191 : decode prog_1_method_5_code 191 = .ok (.invokevirtual 132, 3) := by decide +kernel
theorem u_1451 : Cond.methodLink "FilterGuard" 132 ⟨"FilterGuard$Facts", "shorten", "(LFilterGuard$Code;LFilterGuard$Code;)V"⟩ ∈ fg_g := fg_in (List.mem_of_getElem? (i := 1451) (by decide +kernel)) rfl
theorem u_1454 : Cond.code ⟨"FilterGuard$Facts", "shorten", "(LFilterGuard$Code;LFilterGuard$Code;)V"⟩ prog_6_method_7_code 4 none ∈ fg_g := fg_in (List.mem_of_getElem? (i := 1454) (by decide +kernel)) rfl
theorem u_1452 : Cond.instanceMethod ⟨"FilterGuard$Facts", "shorten", "(LFilterGuard$Code;LFilterGuard$Code;)V"⟩ ∈ fg_g := fg_in (List.mem_of_getElem? (i := 1452) (by decide +kernel)) rfl
theorem u_1453 : Cond.selects "FilterGuard$Facts" ⟨"FilterGuard$Facts", "shorten", "(LFilterGuard$Code;LFilterGuard$Code;)V"⟩ ⟨"FilterGuard$Facts", "shorten", "(LFilterGuard$Code;LFilterGuard$Code;)V"⟩ ∈ fg_g := fg_in (List.mem_of_getElem? (i := 1453) (by decide +kernel)) rfl
theorem d_G_program_194 : decode prog_1_method_5_code 194 = .ok (.goto 11, 3) := by decide +kernel
theorem d_G_program_151 : decode prog_1_method_5_code 151 = .ok (.aload_n 0, 1) := by decide +kernel
theorem d_G_program_152 : decode prog_1_method_5_code 152 = .ok (.aload_n 0, 1) := by decide +kernel
theorem d_G_program_153 : decode prog_1_method_5_code 153 = .ok (.getfield 118, 3) := by decide +kernel
theorem d_G_program_156 : decode prog_1_method_5_code 156 = .ok (.ifCond .ne 7, 3) := by decide +kernel
theorem d_G_program_163 : decode prog_1_method_5_code 163 = .ok (.iconst 0, 1) := by decide +kernel
theorem d_G_program_159 : decode prog_1_method_5_code 159 = .ok (.iconst 1, 1) := by decide +kernel
theorem d_G_program_160 : decode prog_1_method_5_code 160 = .ok (.goto 4, 3) := by decide +kernel
theorem d_G_program_148 : decode prog_1_method_5_code 148 = .ok (.putfield 54, 3) := by decide +kernel
theorem d_G_program_0 : decode prog_1_method_5_code 0 = .ok (.aload_n 0, 1) := by decide +kernel
theorem d_G_program_1 : decode prog_1_method_5_code 1 = .ok (.getfield 58, 3) := by decide +kernel
theorem d_G_program_4 : decode prog_1_method_5_code 4 = .ok (.istore_n 3, 1) := by decide +kernel
theorem d_G_program_5 : decode prog_1_method_5_code 5 = .ok (.aload_n 0, 1) := by decide +kernel
theorem d_G_program_6 : decode prog_1_method_5_code 6 = .ok (.iconst 0, 1) := by decide +kernel
theorem d_G_program_7 : decode prog_1_method_5_code 7 = .ok (.putfield 58, 3) := by decide +kernel
theorem d_G_program_10 : decode prog_1_method_5_code 10 = .ok (.iload_n 1, 1) := by decide +kernel
theorem d_G_program_11 : decode prog_1_method_5_code 11 = .ok (.iconst 1, 1) := by decide +kernel
theorem d_G_program_12 : decode prog_1_method_5_code 12 = .ok (.if_icmp .lt 30, 3) := by decide +kernel
theorem d_G_program_42 : decode prog_1_method_5_code 42 = .ok (.new 78, 3) := by decide +kernel
theorem d_G_program_15 : decode prog_1_method_5_code 15 = .ok (.iload_n 1, 1) := by decide +kernel
theorem d_G_program_16 : decode prog_1_method_5_code 16 = .ok (.sipush 2000, 3) := by decide +kernel
theorem d_G_program_19 : decode prog_1_method_5_code 19 = .ok (.if_icmp .gt 23, 3) := by decide +kernel
theorem d_G_program_22 : decode prog_1_method_5_code 22 = .ok (.bipush 8, 2) := by decide +kernel
theorem d_G_program_24 : decode prog_1_method_5_code 24 = .ok (.iload_n 1, 1) := by decide +kernel
theorem d_G_program_25 : decode prog_1_method_5_code 25 = .ok (.imul, 1) := by decide +kernel
theorem d_G_program_26 : decode prog_1_method_5_code 26 = .ok (.iload_n 3, 1) := by decide +kernel
theorem d_G_program_27 : decode prog_1_method_5_code 27 = .ok (.if_icmp .gt 15, 3) := by decide +kernel
theorem d_G_program_30 : decode prog_1_method_5_code 30 = .ok (.iload_n 2, 1) := by decide +kernel
theorem d_G_program_31 : decode prog_1_method_5_code 31 = .ok (.iconst 1, 1) := by decide +kernel
theorem d_G_program_32 : decode prog_1_method_5_code 32 = .ok (.if_icmp .lt 10, 3) := by decide +kernel
theorem d_G_program_35 : decode prog_1_method_5_code 35 = .ok (.iload_n 2, 1) := by decide +kernel
theorem d_G_program_36 : decode prog_1_method_5_code 36 = .ok (.sipush 20000, 3) := by decide +kernel
theorem d_G_program_39 : decode prog_1_method_5_code 39 = .ok (.if_icmp .le 13, 3) := by decide +kernel
theorem d_G_program_52 : decode prog_1_method_5_code 52 = .ok (.aload_n 0, 1) := by decide +kernel
theorem d_G_program_53 : decode prog_1_method_5_code 53 = .ok (.getfield 22, 3) := by decide +kernel
theorem d_G_program_56 : decode prog_1_method_5_code 56 = .ok (.aload_n 0, 1) := by decide +kernel
theorem d_G_program_57 : decode prog_1_method_5_code 57 = .ok (.getfield 9, 3) := by decide +kernel
theorem d_G_program_60 : decode prog_1_method_5_code 60 = .ok (.iload_n 1, 1) := by decide +kernel
theorem d_G_program_61 : decode prog_1_method_5_code 61 = .ok (.invokevirtual 102, 3) := by decide +kernel
theorem u_941 : Cond.methodLink "FilterGuard" 102 ⟨"FilterGuard$Code", "load", "([BI)V"⟩ ∈ fg_g := fg_in (List.mem_of_getElem? (i := 941) (by decide +kernel)) rfl
theorem u_944 : Cond.code ⟨"FilterGuard$Code", "load", "([BI)V"⟩ prog_4_method_2_code 7 none ∈ fg_g := fg_in (List.mem_of_getElem? (i := 944) (by decide +kernel)) rfl
theorem u_942 : Cond.instanceMethod ⟨"FilterGuard$Code", "load", "([BI)V"⟩ ∈ fg_g := fg_in (List.mem_of_getElem? (i := 942) (by decide +kernel)) rfl
theorem u_943 : Cond.selects "FilterGuard$Code" ⟨"FilterGuard$Code", "load", "([BI)V"⟩ ⟨"FilterGuard$Code", "load", "([BI)V"⟩ ∈ fg_g := fg_in (List.mem_of_getElem? (i := 943) (by decide +kernel)) rfl
theorem d_G_program_64 : decode prog_1_method_5_code 64 = .ok (.aload_n 0, 1) := by decide +kernel
theorem d_G_program_65 : decode prog_1_method_5_code 65 = .ok (.getfield 32, 3) := by decide +kernel
theorem d_G_program_68 : decode prog_1_method_5_code 68 = .ok (.iload_n 1, 1) := by decide +kernel
theorem d_G_program_69 : decode prog_1_method_5_code 69 = .ok (.invokevirtual 106, 3) := by decide +kernel
theorem u_945 : Cond.methodLink "FilterGuard" 106 ⟨"FilterGuard$Facts", "clear", "(I)V"⟩ ∈ fg_g := fg_in (List.mem_of_getElem? (i := 945) (by decide +kernel)) rfl
theorem u_948 : Cond.code ⟨"FilterGuard$Facts", "clear", "(I)V"⟩ prog_6_method_2_code 3 none ∈ fg_g := fg_in (List.mem_of_getElem? (i := 948) (by decide +kernel)) rfl
theorem u_946 : Cond.instanceMethod ⟨"FilterGuard$Facts", "clear", "(I)V"⟩ ∈ fg_g := fg_in (List.mem_of_getElem? (i := 946) (by decide +kernel)) rfl
theorem u_947 : Cond.selects "FilterGuard$Facts" ⟨"FilterGuard$Facts", "clear", "(I)V"⟩ ⟨"FilterGuard$Facts", "clear", "(I)V"⟩ ∈ fg_g := fg_in (List.mem_of_getElem? (i := 947) (by decide +kernel)) rfl
theorem d_G_program_72 : decode prog_1_method_5_code 72 = .ok (.aload_n 0, 1) := by decide +kernel
theorem d_G_program_73 : decode prog_1_method_5_code 73 = .ok (.getfield 41, 3) := by decide +kernel
theorem g_G_7 {p : Program} {l : Launch} {e : Env} {R : Room} {s : Jvm.State} {m : MethodId} {args : Array Value} {below : List Frame} {meth : Method} {c : Code} {H : Heap} {locs : List Loc} {cells slots : Nat} {Q : Jvm.State → Prop} {cc : ByteArray} {pc : Nat} {ls : Array Slot} {rest : List Value} {D : va_G} {ad : Nat → Nat → Nat} {ca : Nat → ClassId} {M : me_M} {N : Nat → Nat} {own : String} {index j : Nat} (hexec : p.tables.exec = Jvm.exec) (hb : c.code = cc) (hts : ∀ w ∈ fg_g, w.before args s = true) (hown : s.vm.findClass own = some m.cls) (hK : va_K D classes (me_T ca) s) (hP : va_P D classes (me_W ad ca M) H) (hwf : me_wf N M) (hj : j < N 0) (hlink : (Cond.fieldLink own index "FilterGuard" "explorer" "LFilterGuard$Explorer;").before args s = true) (hdg : decode cc pc = .ok (.getfield index, 3)) (kk : W p l e R s m args below meth c H locs cells slots Q (F0 m (pc + 3) ls (va_rf ((mR M 0 j 7).map (ad 4)) :: rest))) : W p l e R s m args below meth c H locs cells slots Q (F0 m pc ls (.ref (ad 0 j) :: rest)) := me_get (k := 0) (f := 7) (C := "FilterGuard") (T := F_G) (Nf := 14) hexec hb hts i_G hown hK hP hwf hj (by decide) rfl (by decide) (by decide) hlink (fun _ h9 => h9) hdg kk
theorem d_G_program_76 : decode prog_1_method_5_code 76 = .ok (.invokevirtual 109, 3) := by decide +kernel
theorem u_949 : Cond.methodLink "FilterGuard" 109 ⟨"FilterGuard$Explorer", "clear", "()V"⟩ ∈ fg_g := fg_in (List.mem_of_getElem? (i := 949) (by decide +kernel)) rfl
theorem u_952 : Cond.code ⟨"FilterGuard$Explorer", "clear", "()V"⟩ prog_5_method_2_code 1 none ∈ fg_g := fg_in (List.mem_of_getElem? (i := 952) (by decide +kernel)) rfl
theorem u_950 : Cond.instanceMethod ⟨"FilterGuard$Explorer", "clear", "()V"⟩ ∈ fg_g := fg_in (List.mem_of_getElem? (i := 950) (by decide +kernel)) rfl
theorem u_951 : Cond.selects "FilterGuard$Explorer" ⟨"FilterGuard$Explorer", "clear", "()V"⟩ ⟨"FilterGuard$Explorer", "clear", "()V"⟩ ∈ fg_g := fg_in (List.mem_of_getElem? (i := 951) (by decide +kernel)) rfl
theorem d_G_program_79 : decode prog_1_method_5_code 79 = .ok (.aload_n 0, 1) := by decide +kernel
theorem d_G_program_80 : decode prog_1_method_5_code 80 = .ok (.iconst 1, 1) := by decide +kernel
theorem d_G_program_81 : decode prog_1_method_5_code 81 = .ok (.putfield 111, 3) := by decide +kernel
theorem u_704 : Cond.fieldLink "FilterGuard" 111 "FilterGuard" "isLoaded" "Z" ∈ fg_g := fg_in (List.mem_of_getElem? (i := 704) (by decide +kernel)) rfl
theorem p_G_11 {p : Program} {l : Launch} {e : Env} {R : Room} {s : Jvm.State} {m : MethodId} {args : Array Value} {below : List Frame} {meth : Method} {c : Code} {H : Heap} {locs : List Loc} {cells slots : Nat} {Q : Jvm.State → Prop} {cc : ByteArray} {pc : Nat} {ls : Array Slot} {rest : List Value} {D : va_G} {A : Nat → Prop} {H0 : Heap} {ad : Nat → Nat → Nat} {ca : Nat → ClassId} {M M1 : me_M} {N : Nat → Nat} {own : String} {index j : Nat} {v : Int32} (he : M1 = wI M 0 j 11 v) (hexec : p.tables.exec = Jvm.exec) (hb : c.code = cc) (hts : ∀ w ∈ fg_g, w.before args s = true) (hown : s.vm.findClass own = some m.cls) (hK : va_K D classes (me_T ca) s) (hP : va_P D classes (me_W ad ca M) H) (hD : va_D A (me_W ad ca M)) (hwf : me_wf N M) (hS : va_S A H0 H locs) (hj : j < N 0) (hv : v = 1 ∨ v = 0) (hlink : (Cond.fieldLink own index "FilterGuard" "isLoaded" "Z").before args s = true) (hdg : decode cc pc = .ok (.putfield index, 3)) (kk : ∀ (H1 : Heap) (locs1 : List Loc), va_P D classes (me_W ad ca M1) H1 → va_D A (me_W ad ca M1) → me_wf N M1 → va_S A H0 H1 locs1 → W p l e R s m args below meth c H1 locs1 cells slots Q (F0 m (pc + 3) ls rest)) : W p l e R s m args below meth c H locs cells slots Q (F0 m pc ls (.int v :: .ref (ad 0 j) :: rest)) := by
  subst he
  exact me_put (M1 := wI M 0 j 11 v) (k := 0) (f := 11) (C := "FilterGuard") (T := F_G) (Nf := 14) hexec hb hts i_G t_G t_G_ok n_G hown hK hP hD hwf hS hj (by decide) rfl (by decide) (by decide) hlink (fun _ h9 => h9) rfl (me_nz hv) (me_fz hv) rfl (fun a b h => me_wIE h) (me_fIw (by decide) (by decide)) hdg (fun H1 locs1 a1 a2 a3 => kk H1 locs1 a1 a2 (me_wfI hwf (fun z => absurd z (by decide)) (fun _ => hv)) a3)
theorem d_G_program_84 : decode prog_1_method_5_code 84 = .ok (.aload_n 0, 1) := by decide +kernel
theorem d_G_program_85 : decode prog_1_method_5_code 85 = .ok (.aload_n 0, 1) := by decide +kernel
theorem d_G_program_86 : decode prog_1_method_5_code 86 = .ok (.getfield 22, 3) := by decide +kernel
theorem d_G_program_89 : decode prog_1_method_5_code 89 = .ok (.aload_n 0, 1) := by decide +kernel
theorem d_G_program_90 : decode prog_1_method_5_code 90 = .ok (.getfield 85, 3) := by decide +kernel
theorem d_G_program_93 : decode prog_1_method_5_code 93 = .ok (.invokevirtual 114, 3) := by decide +kernel
theorem u_953 : Cond.methodLink "FilterGuard" 114 ⟨"FilterGuard$Code", "faultOfForm", "(I)I"⟩ ∈ fg_g := fg_in (List.mem_of_getElem? (i := 953) (by decide +kernel)) rfl
theorem u_956 : Cond.code ⟨"FilterGuard$Code", "faultOfForm", "(I)I"⟩ prog_4_method_14_code 5 (some .int) ∈ fg_g := fg_in (List.mem_of_getElem? (i := 956) (by decide +kernel)) rfl
theorem u_954 : Cond.instanceMethod ⟨"FilterGuard$Code", "faultOfForm", "(I)I"⟩ ∈ fg_g := fg_in (List.mem_of_getElem? (i := 954) (by decide +kernel)) rfl
theorem u_955 : Cond.selects "FilterGuard$Code" ⟨"FilterGuard$Code", "faultOfForm", "(I)I"⟩ ⟨"FilterGuard$Code", "faultOfForm", "(I)I"⟩ ∈ fg_g := fg_in (List.mem_of_getElem? (i := 955) (by decide +kernel)) rfl
theorem d_G_program_96 : decode prog_1_method_5_code 96 = .ok (.putfield 118, 3) := by decide +kernel
theorem p_G_9 {p : Program} {l : Launch} {e : Env} {R : Room} {s : Jvm.State} {m : MethodId} {args : Array Value} {below : List Frame} {meth : Method} {c : Code} {H : Heap} {locs : List Loc} {cells slots : Nat} {Q : Jvm.State → Prop} {cc : ByteArray} {pc : Nat} {ls : Array Slot} {rest : List Value} {D : va_G} {A : Nat → Prop} {H0 : Heap} {ad : Nat → Nat → Nat} {ca : Nat → ClassId} {M M1 : me_M} {N : Nat → Nat} {own : String} {index j : Nat} {v : Int32} (he : M1 = wI M 0 j 9 v) (hexec : p.tables.exec = Jvm.exec) (hb : c.code = cc) (hts : ∀ w ∈ fg_g, w.before args s = true) (hown : s.vm.findClass own = some m.cls) (hK : va_K D classes (me_T ca) s) (hP : va_P D classes (me_W ad ca M) H) (hD : va_D A (me_W ad ca M)) (hwf : me_wf N M) (hS : va_S A H0 H locs) (hj : j < N 0) (hlink : (Cond.fieldLink own index "FilterGuard" "fault" "I").before args s = true) (hdg : decode cc pc = .ok (.putfield index, 3)) (kk : ∀ (H1 : Heap) (locs1 : List Loc), va_P D classes (me_W ad ca M1) H1 → va_D A (me_W ad ca M1) → me_wf N M1 → va_S A H0 H1 locs1 → W p l e R s m args below meth c H1 locs1 cells slots Q (F0 m (pc + 3) ls rest)) : W p l e R s m args below meth c H locs cells slots Q (F0 m pc ls (.int v :: .ref (ad 0 j) :: rest)) := by
  subst he
  exact me_put (M1 := wI M 0 j 9 v) (k := 0) (f := 9) (C := "FilterGuard") (T := F_G) (Nf := 14) hexec hb hts i_G t_G t_G_ok n_G hown hK hP hD hwf hS hj (by decide) rfl (by decide) (by decide) hlink (fun _ h9 => h9) rfl rfl rfl rfl (fun a b h => me_wIE h) (me_fIw (by decide) (by decide)) hdg (fun H1 locs1 a1 a2 a3 => kk H1 locs1 a1 a2 (me_wfI hwf (fun z => absurd z (by decide)) (fun z => absurd z (by decide))) a3)
theorem d_G_program_99 : decode prog_1_method_5_code 99 = .ok (.aload_n 0, 1) := by decide +kernel
theorem d_G_program_100 : decode prog_1_method_5_code 100 = .ok (.aload_n 0, 1) := by decide +kernel
theorem d_G_program_101 : decode prog_1_method_5_code 101 = .ok (.getfield 22, 3) := by decide +kernel
theorem d_G_program_104 : decode prog_1_method_5_code 104 = .ok (.getfield 121, 3) := by decide +kernel
theorem u_230 : Cond.fieldLink "FilterGuard" 121 "FilterGuard$Code" "faultSlot" "I" ∈ fg_g := fg_in (List.mem_of_getElem? (i := 230) (by decide +kernel)) rfl
theorem g_Code_4 {p : Program} {l : Launch} {e : Env} {R : Room} {s : Jvm.State} {m : MethodId} {args : Array Value} {below : List Frame} {meth : Method} {c : Code} {H : Heap} {locs : List Loc} {cells slots : Nat} {Q : Jvm.State → Prop} {cc : ByteArray} {pc : Nat} {ls : Array Slot} {rest : List Value} {D : va_G} {ad : Nat → Nat → Nat} {ca : Nat → ClassId} {M : me_M} {N : Nat → Nat} {own : String} {index j : Nat} (hexec : p.tables.exec = Jvm.exec) (hb : c.code = cc) (hts : ∀ w ∈ fg_g, w.before args s = true) (hown : s.vm.findClass own = some m.cls) (hK : va_K D classes (me_T ca) s) (hP : va_P D classes (me_W ad ca M) H) (hwf : me_wf N M) (hj : j < N 2) (hlink : (Cond.fieldLink own index "FilterGuard$Code" "faultSlot" "I").before args s = true) (hdg : decode cc pc = .ok (.getfield index, 3)) (kk : W p l e R s m args below meth c H locs cells slots Q (F0 m (pc + 3) ls (.int (mI M 2 j 4) :: rest))) : W p l e R s m args below meth c H locs cells slots Q (F0 m pc ls (.ref (ad 2 j) :: rest)) := me_get (k := 2) (f := 4) (C := "FilterGuard$Code") (T := F_Code) (Nf := 16) hexec hb hts i_Code hown hK hP hwf hj (by decide) rfl (by decide) (by decide) hlink (fun _ h9 => h9) hdg kk
theorem d_G_program_107 : decode prog_1_method_5_code 107 = .ok (.putfield 54, 3) := by decide +kernel
theorem d_G_program_110 : decode prog_1_method_5_code 110 = .ok (.aload_n 0, 1) := by decide +kernel
theorem d_G_program_111 : decode prog_1_method_5_code 111 = .ok (.getfield 118, 3) := by decide +kernel
theorem d_G_program_114 : decode prog_1_method_5_code 114 = .ok (.ifCond .ne 37, 3) := by decide +kernel
theorem d_G_program_117 : decode prog_1_method_5_code 117 = .ok (.aload_n 0, 1) := by decide +kernel
theorem d_G_program_118 : decode prog_1_method_5_code 118 = .ok (.aload_n 0, 1) := by decide +kernel
theorem d_G_program_119 : decode prog_1_method_5_code 119 = .ok (.getfield 41, 3) := by decide +kernel
theorem d_G_program_122 : decode prog_1_method_5_code 122 = .ok (.iload_n 2, 1) := by decide +kernel
theorem d_G_program_123 : decode prog_1_method_5_code 123 = .ok (.invokevirtual 122, 3) := by decide +kernel
theorem u_1012 : Cond.methodLink "FilterGuard" 122 ⟨"FilterGuard$Explorer", "explore", "(I)I"⟩ ∈ fg_g := fg_in (List.mem_of_getElem? (i := 1012) (by decide +kernel)) rfl
theorem u_1015 : Cond.code ⟨"FilterGuard$Explorer", "explore", "(I)I"⟩ prog_5_method_4_code 4 (some .int) ∈ fg_g := fg_in (List.mem_of_getElem? (i := 1015) (by decide +kernel)) rfl
theorem u_1013 : Cond.instanceMethod ⟨"FilterGuard$Explorer", "explore", "(I)I"⟩ ∈ fg_g := fg_in (List.mem_of_getElem? (i := 1013) (by decide +kernel)) rfl
theorem u_1014 : Cond.selects "FilterGuard$Explorer" ⟨"FilterGuard$Explorer", "explore", "(I)I"⟩ ⟨"FilterGuard$Explorer", "explore", "(I)I"⟩ ∈ fg_g := fg_in (List.mem_of_getElem? (i := 1014) (by decide +kernel)) rfl
theorem d_G_program_126 : decode prog_1_method_5_code 126 = .ok (.putfield 118, 3) := by decide +kernel
theorem d_G_program_129 : decode prog_1_method_5_code 129 = .ok (.aload_n 0, 1) := by decide +kernel
theorem d_G_program_130 : decode prog_1_method_5_code 130 = .ok (.aload_n 0, 1) := by decide +kernel
theorem d_G_program_131 : decode prog_1_method_5_code 131 = .ok (.getfield 118, 3) := by decide +kernel
theorem d_G_program_134 : decode prog_1_method_5_code 134 = .ok (.ifCond .ne 7, 3) := by decide +kernel
theorem d_G_program_141 : decode prog_1_method_5_code 141 = .ok (.aload_n 0, 1) := by decide +kernel
theorem d_G_program_142 : decode prog_1_method_5_code 142 = .ok (.getfield 41, 3) := by decide +kernel
theorem d_G_program_145 : decode prog_1_method_5_code 145 = .ok (.invokevirtual 125, 3) := by decide +kernel
theorem u_1447 : Cond.methodLink "FilterGuard" 125 ⟨"FilterGuard$Explorer", "place", "()I"⟩ ∈ fg_g := fg_in (List.mem_of_getElem? (i := 1447) (by decide +kernel)) rfl
theorem u_1450 : Cond.code ⟨"FilterGuard$Explorer", "place", "()I"⟩ prog_5_method_3_code 1 (some .int) ∈ fg_g := fg_in (List.mem_of_getElem? (i := 1450) (by decide +kernel)) rfl
theorem u_1448 : Cond.instanceMethod ⟨"FilterGuard$Explorer", "place", "()I"⟩ ∈ fg_g := fg_in (List.mem_of_getElem? (i := 1448) (by decide +kernel)) rfl
theorem u_1449 : Cond.selects "FilterGuard$Explorer" ⟨"FilterGuard$Explorer", "place", "()I"⟩ ⟨"FilterGuard$Explorer", "place", "()I"⟩ ∈ fg_g := fg_in (List.mem_of_getElem? (i := 1449) (by decide +kernel)) rfl
theorem d_G_program_137 : decode prog_1_method_5_code 137 = .ok (.iconst (-1), 1) := by decide +kernel
theorem d_G_program_138 : decode prog_1_method_5_code 138 = .ok (.goto 10, 3) := by decide +kernel
abbrev y_G_program : MethodName := ⟨"FilterGuard", "program", "(II)I"⟩
theorem o_940 : Cond.stringRef "FilterGuard" 100 "no such program or budget" ∈ lw_tbl := List.mem_of_getElem? (i := 940) (by decide +kernel)
theorem d_G_program_45 : decode prog_1_method_5_code 45 = .ok (.dup, 1) := by decide +kernel
theorem d_G_program_46 : decode prog_1_method_5_code 46 = .ok (.ldc 100, 2) := by decide +kernel
theorem d_G_program_48 : decode prog_1_method_5_code 48 = .ok (.invokespecial 82, 3) := by decide +kernel
theorem d_G_program_51 : decode prog_1_method_5_code 51 = .ok (.athrow, 1) := by decide +kernel
def rm_G_program (N0 : Nat → Nat) : Room := { frames := 9, cells := me_CL - me_cN N0, slots := me_SL - me_sN N0, locals := 220 }
abbrev q_G_program (D : va_G) (ad0 : Nat → Nat → Nat) (ca : Nat → ClassId) (N0 : Nat → Nat) (MZ : me_M) (RZ : Int32) (A : Nat → Prop) : Array Value → Jvm.State → Outcome → Jvm.State → Prop := va_Qi (fun r (u : Nat → Nat → Nat) => r = RZ ∧ al_P ad0 N0 MZ u ∧ True) (fg_B D A (fun u => me_W u ca MZ) (fun _ => [])) A
set_option maxHeartbeats 4000000 in
set_option maxRecDepth 100000 in
theorem c_G_program (l : Launch) (D : va_G) (ad0 : Nat → Nat → Nat) (ca : Nat → ClassId) (N0 : Nat → Nat) (M0 MZ : me_M) (RZ : Int32) (j0 : Nat) (x1 : Int32) (x2 : Int32) (h : f_G_program M0 j0 x1 x2 = (some (MZ, RZ))) (hwf : me_wf N0 M0) (hcl : me_cN N0 ≤ me_CL ∧ me_sN N0 ≤ me_SL) (hj0 : j0 < N0 0) (sz : Nat) : Met l y_G_program (fg_w y_G_program prog_1_method_5_code 4 (some .int)) (rm_G_program N0) (va_Pc [.ref (ad0 0 j0), .int x1, .int x2] (fz_P D (me_T ca) (me_W ad0 ca M0) sz)) (q_G_program D ad0 ca N0 MZ RZ (va_A (me_W ad0 ca M0) sz)) (me_cN (mN MZ) - me_cN N0) (me_sN (mN MZ) - me_sN N0) (va_A (me_W ad0 ca M0) sz) := by
  refine fz_enter (fun A => q_G_program D ad0 ca N0 MZ RZ A) (by decide +kernel) (Nat.le_of_ble_eq_true rfl) ?_
  intro p e s m below meth c ls A hx hb hml hown hts hr hlocks hin hP hK hD hS hA hX hl hz
  refine W.widen (k := me_cN N0 - me_cN N0) (n := me_sN N0 - me_sN N0) (Nat.zero_le _) (Nat.zero_le _) ?_
  unfold f_G_program at h
  have hok : me_ok N0 N0 := me_ok.rf hcl
  have b_164 : ∀ (ad : Nat → Nat → Nat) (N : Nat → Nat) (M : me_M) (s0 : Int32) (s1 : Nat) (H : Heap) (locs : List Loc) (ls : Array Slot), f_G_program_b164 j0 M s0 s1 = (some (MZ, RZ)) → (s0 = 1 ∨ s0 = 0) → (s1 < N 0) → me_wf N M → me_ok N0 N → (∀ a b, b < N0 a → ad a b = ad0 a b) → va_P D classes (me_W ad ca M) H → va_D A (me_W ad ca M) → va_S A s.heap H locs → lv_has ls 4 [(0, .ref (ad 0 j0))] → W p l e (rm_G_program N0) s m [.ref (ad0 0 j0), .int x1, .int x2].toArray below meth c H locs (me_cN N - me_cN N0) (me_sN N - me_sN N0) (MQ below (q_G_program D ad0 ca N0 MZ RZ A) [.ref (ad0 0 j0), .int x1, .int x2].toArray s (me_cN (mN MZ) - me_cN N0) (me_sN (mN MZ) - me_sN N0) A) (F0 m 164 ls [.int s0, .ref (ad 0 s1)]) := by
    intro ad N M s0 s1 H locs ls h zs0 hs1 hwf hok hext0 hP hD hS hl
    unfold f_G_program_b164 at h
    have hj0 : j0 < N 0 := Nat.lt_of_lt_of_le hj0 (hok.2.2.2.2 0)
    obtain ⟨M1, eM1, h⟩ := st_ob h
    refine p_G_12 eM1 hx hb hts hown hK hP hD hwf hS hs1 zs0 (hts _ u_705) d_G_program_164 (fun H locs hP hD hwf hS => ?_)
    refine lv_aload_n hx hb d_G_program_167 rfl (lv_at hl 0 rfl) ?_
    refine g_G_12 hx hb hts hown hK hP hwf hj0 (hts _ u_705) d_G_program_168 ?_
    have z2 := (hwf.2.2.2 0 j0 12 rfl)
    refine lv_if_eq (tgt := 197) hx hb d_G_program_171 (by decide) (fun c3 => ?_) (fun c3 => ?_)
    · have h := if_t c3 h
      refine lv_aload_n hx hb d_G_program_197 rfl (lv_at hl 0 rfl) ?_
      refine g_G_5 hx hb hts hown hK hP hwf hj0 (hts _ u_698) d_G_program_198 ?_
      obtain ⟨j4, e5, h⟩ := bd_ob h
      have hj4 : j4 < N 2 := (hwf.2.1 0 j0 5 _ e5 (by decide) hj0)
      refine me_opt (j := j4) e5 ?_
      refine lv_iconst (v := 0) hx hb d_G_program_201 (by decide) ?_
      obtain ⟨M6, eM6, h⟩ := st_ob h
      refine p_Code_3 eM6 hx hb hts hown hK hP hD hwf hS hj4 (hts _ u_227) d_G_program_202 (fun H locs hP hD hwf hS => ?_)
      refine lv_aload_n hx hb d_G_program_205 rfl (lv_at hl 0 rfl) ?_
      refine g_G_9 hx hb hts hown hK hP hwf hj0 (hts _ u_702) d_G_program_206 ?_
      exact al_reti h hx hb hr hlocks hwf hok hext0 hP hK hD hS d_G_program_209
    have h := if_f c3 h
    refine lv_aload_n hx hb d_G_program_174 rfl (lv_at hl 0 rfl) ?_
    refine lv_iconst (v := 1) hx hb d_G_program_175 (by decide) ?_
    obtain ⟨M7, eM7, h⟩ := st_ob h
    refine p_G_13 eM7 hx hb hts hown hK hP hD hwf hS hj0 (by decide) (hts _ u_706) d_G_program_176 (fun H locs hP hD hwf hS => ?_)
    refine lv_aload_n hx hb d_G_program_179 rfl (lv_at hl 0 rfl) ?_
    refine g_G_6 hx hb hts hown hK hP hwf hj0 (hts _ u_699) d_G_program_180 ?_
    obtain ⟨j8, e9, h⟩ := bd_ob h
    have hj8 : j8 < N 3 := (hwf.2.1 0 j0 6 _ e9 (by decide) hj0)
    refine me_opt (j := j8) e9 ?_
    refine lv_aload_n hx hb d_G_program_183 rfl (lv_at hl 0 rfl) ?_
    refine g_G_4 hx hb hts hown hK hP hwf hj0 (hts _ u_697) d_G_program_184 ?_
    obtain ⟨j10, e11, h⟩ := bd_ob h
    have hj10 : j10 < N 2 := (hwf.2.1 0 j0 4 _ e11 (by decide) hj0)
    refine me_opt (j := j10) e11 ?_
    refine lv_aload_n hx hb d_G_program_187 rfl (lv_at hl 0 rfl) ?_
    refine g_G_5 hx hb hts hown hK hP hwf hj0 (hts _ u_698) d_G_program_188 ?_
    obtain ⟨j12, e13, h⟩ := bd_ob h
    have hj12 : j12 < N 2 := (hwf.2.1 0 j0 5 _ e13 (by decide) hj0)
    refine me_opt (j := j12) e13 ?_
    obtain ⟨M14, eM14, h⟩ := bd_ob h
    refine me_thenv0 (M1 := M14) (me_runV (C := "FilterGuard$Facts") (As := [.ref (ad 2 j10), .ref (ad 2 j12)]) (rest := []) ⟨hx, hb, hml, hown, hts⟩ (c_Facts_shorten l D ad ca N M7 M14 j8 j10 j12 eM14 hwf hj8 hj10 hj12 _) rfl (by show fg_nm y_Facts_shorten 2; decide +kernel) u_1451 u_1452 u_1453 u_183 u_1454 ⟨Nat.le_of_ble_eq_true rfl, Nat.le_of_ble_eq_true rfl⟩ hX hz hK hP hD hwf hS hA hj8 (by decide) rfl rfl rfl hl.1 (Nat.le_of_ble_eq_true rfl) d_G_program_191 (al_f hok)) hP hD hK hS hA rfl rfl (fun H locs hw hP hD hS => ?_)
    obtain ⟨hwf, hk9⟩ := hw
    refine lv_goto (tgt := 205) hx hb d_G_program_194 (by decide) ?_
    refine lv_aload_n hx hb d_G_program_205 rfl (lv_at hl 0 rfl) ?_
    refine g_G_9 hx hb hts hown hK hP hwf hj0 (hts _ u_702) d_G_program_206 ?_
    exact al_reti h hx hb hr hlocks hwf hok hext0 hP hK hD hS d_G_program_209
  have b_151 : ∀ (ad : Nat → Nat → Nat) (N : Nat → Nat) (M : me_M) (H : Heap) (locs : List Loc) (ls : Array Slot), f_G_program_b151 j0 M = (some (MZ, RZ)) → me_wf N M → me_ok N0 N → (∀ a b, b < N0 a → ad a b = ad0 a b) → va_P D classes (me_W ad ca M) H → va_D A (me_W ad ca M) → va_S A s.heap H locs → lv_has ls 4 [(0, .ref (ad 0 j0))] → W p l e (rm_G_program N0) s m [.ref (ad0 0 j0), .int x1, .int x2].toArray below meth c H locs (me_cN N - me_cN N0) (me_sN N - me_sN N0) (MQ below (q_G_program D ad0 ca N0 MZ RZ A) [.ref (ad0 0 j0), .int x1, .int x2].toArray s (me_cN (mN MZ) - me_cN N0) (me_sN (mN MZ) - me_sN N0) A) (F0 m 151 ls []) := by
    intro ad N M H locs ls h hwf hok hext0 hP hD hS hl
    unfold f_G_program_b151 at h
    have hj0 : j0 < N 0 := Nat.lt_of_lt_of_le hj0 (hok.2.2.2.2 0)
    refine lv_aload_n hx hb d_G_program_151 rfl (lv_at hl 0 rfl) ?_
    refine lv_aload_n hx hb d_G_program_152 rfl (lv_at hl 0 rfl) ?_
    refine g_G_9 hx hb hts hown hK hP hwf hj0 (hts _ u_702) d_G_program_153 ?_
    refine lv_if_ne (tgt := 163) hx hb d_G_program_156 (by decide) (fun c15 => ?_) (fun c15 => ?_)
    · have h := if_f c15 h
      refine lv_iconst (v := 0) hx hb d_G_program_163 (by decide) ?_
      exact b_164 ad N M (0 : Int32) j0 _ _ _ h (by decide) hj0 hwf hok hext0 hP hD hS (lv_sub hl [0] rfl)
    have h := if_t c15 h
    refine lv_iconst (v := 1) hx hb d_G_program_159 (by decide) ?_
    refine lv_goto (tgt := 164) hx hb d_G_program_160 (by decide) ?_
    exact b_164 ad N M (1 : Int32) j0 _ _ _ h (by decide) hj0 hwf hok hext0 hP hD hS (lv_sub hl [0] rfl)
  have b_148 : ∀ (ad : Nat → Nat → Nat) (N : Nat → Nat) (M : me_M) (s0 : Int32) (s1 : Nat) (H : Heap) (locs : List Loc) (ls : Array Slot), f_G_program_b148 j0 M s0 s1 = (some (MZ, RZ)) → (s1 < N 0) → me_wf N M → me_ok N0 N → (∀ a b, b < N0 a → ad a b = ad0 a b) → va_P D classes (me_W ad ca M) H → va_D A (me_W ad ca M) → va_S A s.heap H locs → lv_has ls 4 [(0, .ref (ad 0 j0))] → W p l e (rm_G_program N0) s m [.ref (ad0 0 j0), .int x1, .int x2].toArray below meth c H locs (me_cN N - me_cN N0) (me_sN N - me_sN N0) (MQ below (q_G_program D ad0 ca N0 MZ RZ A) [.ref (ad0 0 j0), .int x1, .int x2].toArray s (me_cN (mN MZ) - me_cN N0) (me_sN (mN MZ) - me_sN N0) A) (F0 m 148 ls [.int s0, .ref (ad 0 s1)]) := by
    intro ad N M s0 s1 H locs ls h hs1 hwf hok hext0 hP hD hS hl
    unfold f_G_program_b148 at h
    have hj0 : j0 < N 0 := Nat.lt_of_lt_of_le hj0 (hok.2.2.2.2 0)
    obtain ⟨M16, eM16, h⟩ := st_ob h
    refine p_G_10 eM16 hx hb hts hown hK hP hD hwf hS hs1 (hts _ u_703) d_G_program_148 (fun H locs hP hD hwf hS => ?_)
    exact b_151 ad N M16 _ _ _ h hwf hok hext0 hP hD hS (lv_sub hl [0] rfl)
  obtain ⟨ad, N, hext0, hok, hwf, hP, hD, hN9, had9, hj0⟩ : ∃ (ad : Nat → Nat → Nat) (N : Nat → Nat), (∀ a b, b < N0 a → ad a b = ad0 a b) ∧ me_ok N0 N ∧ me_wf N M0 ∧ va_P D classes (me_W ad ca M0) s.heap ∧ va_D A (me_W ad ca M0) ∧ N = N0 ∧ ad = ad0 ∧ j0 < N 0 := ⟨ad0, N0, fun _ _ _ => rfl, hok, hwf, hP, hD, rfl, rfl, hj0⟩
  have hl : lv_has ls 4 [(0, .ref (ad 0 j0)), (1, .int x1), (2, .int x2)] := by rw [had9]; exact hl
  have hcs : W p l e (rm_G_program N0) s m [.ref (ad0 0 j0), .int x1, .int x2].toArray below meth c s.heap [] (me_cN N - me_cN N0) (me_sN N - me_sN N0) (MQ below (q_G_program D ad0 ca N0 MZ RZ A) [.ref (ad0 0 j0), .int x1, .int x2].toArray s (me_cN (mN MZ) - me_cN N0) (me_sN (mN MZ) - me_sN N0) A) (F0 m 0 ls []) := by
    clear had9
    refine lv_aload_n hx hb d_G_program_0 rfl (lv_at hl 0 rfl) ?_
    refine g_G_1 hx hb hts hown hK hP hwf hj0 (hts _ u_694) d_G_program_1 ?_
    obtain ⟨v17, ev17, h⟩ := st_ob h
    refine fg_topi (y := v17) ev17.symm ?_
    refine lv_istore_n (lv' := [(3, .int v17), (0, .ref (ad 0 j0)), (1, .int x1), (2, .int x2)]) hx hb d_G_program_4 rfl hl (by decide) rfl (fun ls hl => ?_)
    refine lv_aload_n hx hb d_G_program_5 rfl (lv_at hl 1 rfl) ?_
    refine lv_iconst (v := 0) hx hb d_G_program_6 (by decide) ?_
    obtain ⟨M18, eM18, h⟩ := st_ob h
    refine p_G_1 eM18 hx hb hts hown hK hP hD hwf hS hj0 (hts _ u_694) d_G_program_7 (fun H locs hP hD hwf hS => ?_)
    refine lv_iload_n hx hb d_G_program_10 rfl (lv_at hl 2 rfl) ?_
    refine lv_iconst (v := 1) hx hb d_G_program_11 (by decide) ?_
    refine lv_icmp_lt (tgt := 42) hx hb d_G_program_12 (by decide) (fun c19 => ?_) (fun c19 => ?_)
    · have h := if_t c19 h
      exact absurd h (by simp)
    have h := if_f c19 h
    refine lv_iload_n hx hb d_G_program_15 rfl (lv_at hl 2 rfl) ?_
    refine lv_sipush (v := 2000) hx hb d_G_program_16 (by decide) ?_
    refine lv_icmp_gt (tgt := 42) hx hb d_G_program_19 (by decide) (fun c20 => ?_) (fun c20 => ?_)
    · have h := if_t c20 h
      exact absurd h (by simp)
    have h := if_f c20 h
    refine lv_bipush (v := 8) hx hb d_G_program_22 (by decide) ?_
    refine lv_iload_n hx hb d_G_program_24 rfl (lv_at hl 2 rfl) ?_
    refine lv_imul hx hb d_G_program_25 ?_
    refine lv_iload_n hx hb d_G_program_26 rfl (lv_at hl 0 rfl) ?_
    refine lv_icmp_gt (tgt := 42) hx hb d_G_program_27 (by decide) (fun c21 => ?_) (fun c21 => ?_)
    · have h := if_t c21 h
      exact absurd h (by simp)
    have h := if_f c21 h
    refine lv_iload_n hx hb d_G_program_30 rfl (lv_at hl 3 rfl) ?_
    refine lv_iconst (v := 1) hx hb d_G_program_31 (by decide) ?_
    refine lv_icmp_lt (tgt := 42) hx hb d_G_program_32 (by decide) (fun c22 => ?_) (fun c22 => ?_)
    · have h := if_t c22 h
      exact absurd h (by simp)
    have h := if_f c22 h
    refine lv_iload_n hx hb d_G_program_35 rfl (lv_at hl 3 rfl) ?_
    refine lv_sipush (v := 20000) hx hb d_G_program_36 (by decide) ?_
    refine lv_icmp_le (tgt := 52) hx hb d_G_program_39 (by decide) (fun c23 => ?_) (fun c23 => ?_)
    · have h := if_t c23 h
      refine lv_aload_n hx hb d_G_program_52 rfl (lv_at hl 1 rfl) ?_
      refine g_G_4 hx hb hts hown hK hP hwf hj0 (hts _ u_697) d_G_program_53 ?_
      obtain ⟨j24, e25, h⟩ := bd_ob h
      have hj24 : j24 < N 2 := (hwf.2.1 0 j0 4 _ e25 (by decide) hj0)
      refine me_opt (j := j24) e25 ?_
      refine lv_aload_n hx hb d_G_program_56 rfl (lv_at hl 1 rfl) ?_
      refine g_G_0 hx hb hts hown hK hP hwf hj0 (hts _ u_693) d_G_program_57 ?_
      obtain ⟨j26, e27, h⟩ := bd_ob h
      have hj26 : j26 < N 14 := (hwf.2.1 0 j0 0 _ e27 (by decide) hj0)
      refine me_opt (j := j26) e27 ?_
      refine lv_iload_n hx hb d_G_program_60 rfl (lv_at hl 2 rfl) ?_
      obtain ⟨M28, eM28, h⟩ := bd_ob h
      refine me_thenv0 (M1 := M28) (me_runV (C := "FilterGuard$Code") (As := [.ref (ad 14 j26), .int x1]) (rest := []) ⟨hx, hb, hml, hown, hts⟩ (c_Code_load l D ad ca N M18 M28 j24 j26 x1 eM28 hwf hj24 hj26 _) rfl (by show fg_nm y_Code_load 2; decide +kernel) u_941 u_942 u_943 u_182 u_944 ⟨Nat.le_of_ble_eq_true rfl, Nat.le_of_ble_eq_true rfl⟩ hX hz hK hP hD hwf hS hA hj24 (by decide) rfl rfl rfl hl.1 (Nat.le_of_ble_eq_true rfl) d_G_program_61 (al_f hok)) hP hD hK hS hA rfl rfl (fun H locs hw hP hD hS => ?_)
      obtain ⟨hwf, hk9⟩ := hw
      refine lv_aload_n hx hb d_G_program_64 rfl (lv_at hl 1 rfl) ?_
      refine g_G_6 hx hb hts hown hK hP hwf hj0 (hts _ u_699) d_G_program_65 ?_
      obtain ⟨j29, e30, h⟩ := bd_ob h
      have hj29 : j29 < N 3 := (hwf.2.1 0 j0 6 _ e30 (by decide) hj0)
      refine me_opt (j := j29) e30 ?_
      refine lv_iload_n hx hb d_G_program_68 rfl (lv_at hl 2 rfl) ?_
      obtain ⟨M31, eM31, h⟩ := bd_ob h
      refine me_thenv0 (M1 := M31) (me_runV (C := "FilterGuard$Facts") (As := [.int x1]) (rest := []) ⟨hx, hb, hml, hown, hts⟩ (c_Facts_clear l D ad ca N M28 M31 j29 x1 eM31 hwf hj29 _) rfl (by show fg_nm y_Facts_clear 1; decide +kernel) u_945 u_946 u_947 u_183 u_948 ⟨Nat.le_of_ble_eq_true rfl, Nat.le_of_ble_eq_true rfl⟩ hX hz hK hP hD hwf hS hA hj29 (by decide) rfl rfl rfl hl.1 (Nat.le_of_ble_eq_true rfl) d_G_program_69 (al_f hok)) hP hD hK hS hA rfl rfl (fun H locs hw hP hD hS => ?_)
      obtain ⟨hwf, hk9⟩ := hw
      refine lv_aload_n hx hb d_G_program_72 rfl (lv_at hl 1 rfl) ?_
      refine g_G_7 hx hb hts hown hK hP hwf hj0 (hts _ u_700) d_G_program_73 ?_
      obtain ⟨j32, e33, h⟩ := bd_ob h
      have hj32 : j32 < N 4 := (hwf.2.1 0 j0 7 _ e33 (by decide) hj0)
      refine me_opt (j := j32) e33 ?_
      obtain ⟨M34, eM34, h⟩ := bd_ob h
      refine me_thenv0 (M1 := M34) (me_runV (C := "FilterGuard$Explorer") (As := []) (rest := []) ⟨hx, hb, hml, hown, hts⟩ (c_Explorer_clear l D ad ca N M31 M34 j32 eM34 hwf hj32 _) rfl (by show fg_nm y_Explorer_clear 0; decide +kernel) u_949 u_950 u_951 u_184 u_952 ⟨Nat.le_of_ble_eq_true rfl, Nat.le_of_ble_eq_true rfl⟩ hX hz hK hP hD hwf hS hA hj32 (by decide) rfl rfl rfl hl.1 (Nat.le_of_ble_eq_true rfl) d_G_program_76 (al_f hok)) hP hD hK hS hA rfl rfl (fun H locs hw hP hD hS => ?_)
      obtain ⟨hwf, hk9⟩ := hw
      refine lv_aload_n hx hb d_G_program_79 rfl (lv_at hl 1 rfl) ?_
      refine lv_iconst (v := 1) hx hb d_G_program_80 (by decide) ?_
      obtain ⟨M35, eM35, h⟩ := st_ob h
      refine p_G_11 eM35 hx hb hts hown hK hP hD hwf hS hj0 (by decide) (hts _ u_704) d_G_program_81 (fun H locs hP hD hwf hS => ?_)
      refine lv_aload_n hx hb d_G_program_84 rfl (lv_at hl 1 rfl) ?_
      refine lv_aload_n hx hb d_G_program_85 rfl (lv_at hl 1 rfl) ?_
      refine g_G_4 hx hb hts hown hK hP hwf hj0 (hts _ u_697) d_G_program_86 ?_
      obtain ⟨j36, e37, h⟩ := bd_ob h
      have hj36 : j36 < N 2 := (hwf.2.1 0 j0 4 _ e37 (by decide) hj0)
      refine me_opt (j := j36) e37 ?_
      refine lv_aload_n hx hb d_G_program_89 rfl (lv_at hl 1 rfl) ?_
      refine g_G_3 hx hb hts hown hK hP hwf hj0 (hts _ u_696) d_G_program_90 ?_
      obtain ⟨M38, r39, eM38, h⟩ := b2_ob h
      refine me_theni0 (M1 := M38) (me_runV (C := "FilterGuard$Code") (As := [.int (mI M35 0 j0 3)]) (rest := [.ref (ad 0 j0)]) ⟨hx, hb, hml, hown, hts⟩ (c_Code_faultOfForm l D ad ca N M35 M38 r39 j36 (mI M35 0 j0 3) eM38 hwf hj36 _) rfl (by show fg_nm y_Code_faultOfForm 1; decide +kernel) u_953 u_954 u_955 u_182 u_956 ⟨Nat.le_of_ble_eq_true rfl, Nat.le_of_ble_eq_true rfl⟩ hX hz hK hP hD hwf hS hA hj36 (by decide) rfl rfl rfl hl.1 (Nat.le_of_ble_eq_true rfl) d_G_program_93 (al_f hok)) hP hD hK hS hA rfl rfl (fun H locs hw hP hD hS => ?_)
      obtain ⟨hwf, hk9⟩ := hw
      obtain ⟨M40, eM40, h⟩ := st_ob h
      refine p_G_9 eM40 hx hb hts hown hK hP hD hwf hS hj0 (hts _ u_702) d_G_program_96 (fun H locs hP hD hwf hS => ?_)
      refine lv_aload_n hx hb d_G_program_99 rfl (lv_at hl 1 rfl) ?_
      refine lv_aload_n hx hb d_G_program_100 rfl (lv_at hl 1 rfl) ?_
      refine g_G_4 hx hb hts hown hK hP hwf hj0 (hts _ u_697) d_G_program_101 ?_
      obtain ⟨j41, e42, h⟩ := bd_ob h
      have hj41 : j41 < N 2 := (hwf.2.1 0 j0 4 _ e42 (by decide) hj0)
      refine me_opt (j := j41) e42 ?_
      refine g_Code_4 hx hb hts hown hK hP hwf hj41 (hts _ u_230) d_G_program_104 ?_
      obtain ⟨M43, eM43, h⟩ := st_ob h
      refine p_G_10 eM43 hx hb hts hown hK hP hD hwf hS hj0 (hts _ u_703) d_G_program_107 (fun H locs hP hD hwf hS => ?_)
      refine lv_aload_n hx hb d_G_program_110 rfl (lv_at hl 1 rfl) ?_
      refine g_G_9 hx hb hts hown hK hP hwf hj0 (hts _ u_702) d_G_program_111 ?_
      refine lv_if_ne (tgt := 151) hx hb d_G_program_114 (by decide) (fun c44 => ?_) (fun c44 => ?_)
      · have h := if_f c44 h
        exact b_151 ad N M43 _ _ _ h hwf hok hext0 hP hD hS (lv_sub hl [1] rfl)
      have h := if_t c44 h
      refine lv_aload_n hx hb d_G_program_117 rfl (lv_at hl 1 rfl) ?_
      refine lv_aload_n hx hb d_G_program_118 rfl (lv_at hl 1 rfl) ?_
      refine g_G_7 hx hb hts hown hK hP hwf hj0 (hts _ u_700) d_G_program_119 ?_
      obtain ⟨j45, e46, h⟩ := bd_ob h
      have hj45 : j45 < N 4 := (hwf.2.1 0 j0 7 _ e46 (by decide) hj0)
      refine me_opt (j := j45) e46 ?_
      refine lv_iload_n hx hb d_G_program_122 rfl (lv_at hl 3 rfl) ?_
      obtain ⟨M47, r48, eM47, h⟩ := b2_ob h
      refine al_theni (M1 := M47) (al_runV (C := "FilterGuard$Explorer") (As := [.int x2]) (rest := [.ref (ad 0 j0)]) ⟨hx, hb, hml, hown, hts⟩ (c_Explorer_explore l D ad ca N M43 M47 r48 j45 x2 eM47 hwf ⟨hok.2.2.1, hok.2.2.2.1⟩ hj45 _) rfl (by show fg_nm y_Explorer_explore 1; decide +kernel) u_1012 u_1013 u_1014 u_184 u_1015 ⟨Nat.le_of_ble_eq_true rfl, Nat.le_of_ble_eq_true rfl⟩ hX hz hK hP hD hwf hS hA hj45 (by decide) rfl rfl rfl hl.1 (Nat.le_of_ble_eq_true rfl) d_G_program_123 (al_g hok)) hP hD hok hK hS hA (fun ad N H locs hext hNN hwf hok1 heN hq9 hP hD hS => ?_)
      have hext0 := al_ext hext hext0 hok
      have hok := hok1
      have hl : lv_has ls 4 [(3, .int v17), (0, .ref (ad 0 j0)), (1, .int x1), (2, .int x2)] := by rw [hext 0 j0 hj0]; exact hl
      refine W.eq (g2 := F0 m 126 ls [.int r48, .ref (ad 0 j0)]) (by rw [hext 0 j0 hj0]) ?_
      have hj0 : j0 < N 0 := Nat.lt_of_lt_of_le hj0 (hNN 0)
      obtain ⟨M49, eM49, h⟩ := st_ob h
      refine p_G_9 eM49 hx hb hts hown hK hP hD hwf hS hj0 (hts _ u_702) d_G_program_126 (fun H locs hP hD hwf hS => ?_)
      refine lv_aload_n hx hb d_G_program_129 rfl (lv_at hl 1 rfl) ?_
      refine lv_aload_n hx hb d_G_program_130 rfl (lv_at hl 1 rfl) ?_
      refine g_G_9 hx hb hts hown hK hP hwf hj0 (hts _ u_702) d_G_program_131 ?_
      refine lv_if_ne (tgt := 141) hx hb d_G_program_134 (by decide) (fun c50 => ?_) (fun c50 => ?_)
      · have h := if_f c50 h
        refine lv_aload_n hx hb d_G_program_141 rfl (lv_at hl 1 rfl) ?_
        refine g_G_7 hx hb hts hown hK hP hwf hj0 (hts _ u_700) d_G_program_142 ?_
        obtain ⟨j51, e52, h⟩ := bd_ob h
        have hj51 : j51 < N 4 := (hwf.2.1 0 j0 7 _ e52 (by decide) hj0)
        refine me_opt (j := j51) e52 ?_
        obtain ⟨M53, r54, eM53, h⟩ := b2_ob h
        refine me_theni0 (M1 := M53) (me_runV (C := "FilterGuard$Explorer") (As := []) (rest := [.ref (ad 0 j0)]) ⟨hx, hb, hml, hown, hts⟩ (c_Explorer_place l D ad ca N M49 M53 r54 j51 eM53 hwf hj51 _) rfl (by show fg_nm y_Explorer_place 0; decide +kernel) u_1447 u_1448 u_1449 u_184 u_1450 ⟨Nat.le_of_ble_eq_true rfl, Nat.le_of_ble_eq_true rfl⟩ hX hz hK hP hD hwf hS hA hj51 (by decide) rfl rfl rfl hl.1 (Nat.le_of_ble_eq_true rfl) d_G_program_145 (al_f hok)) hP hD hK hS hA rfl rfl (fun H locs hw hP hD hS => ?_)
        obtain ⟨hwf, hk9⟩ := hw
        exact b_148 ad N M53 r54 j0 _ _ _ h hj0 hwf hok hext0 hP hD hS (lv_sub hl [1] rfl)
      have h := if_t c50 h
      refine lv_iconst (v := (-1)) hx hb d_G_program_137 (by decide) ?_
      refine lv_goto (tgt := 148) hx hb d_G_program_138 (by decide) ?_
      exact b_148 ad N M49 (-1 : Int32) j0 _ _ _ h hj0 hwf hok hext0 hP hD hS (lv_sub hl [1] rfl)
    have h := if_f c23 h
    exact absurd h (by simp)
  rw [hN9] at hcs
  exact hcs
def rmT1_G_program : Room := { frames := 6, cells := 1, slots := 6, locals := 117 }
abbrev qT1_G_program (D : va_G) (ad : Nat → Nat → Nat) (ca : Nat → ClassId) (N : Nat → Nat) (M0 MZ : me_M) (A : Nat → Prop) : Array Value → Jvm.State → Outcome → Jvm.State → Prop := fg_Qt "java/lang/IllegalArgumentException" (fun (_ : Unit) => me_wf N MZ ∧ me_kz M0 MZ) (fg_B D A (fun _ => me_W ad ca MZ) (fun _ => [])) A
set_option maxHeartbeats 4000000 in
set_option maxRecDepth 100000 in
theorem cT1_G_program (l : Launch) (hl9 : l.stackTraces = false) (D : va_G) (ad : Nat → Nat → Nat) (ca : Nat → ClassId) (N : Nat → Nat) (M0 MZ : me_M) (j0 : Nat) (x1 : Int32) (x2 : Int32) (h : fT1_G_program M0 j0 x1 x2 = (some MZ)) (hwf : me_wf N M0) (hj0 : j0 < N 0) (sz : Nat) : fg_MetT l y_G_program (fg_w y_G_program prog_1_method_5_code 4 (some .int)) rmT1_G_program (va_Pc [.ref (ad 0 j0), .int x1, .int x2] (fg_PZ D (me_T ca) (me_W ad ca M0) sz)) (qT1_G_program D ad ca N M0 MZ (va_A (me_W ad ca M0) sz)) rmT1_G_program.cells rmT1_G_program.slots (va_A (me_W ad ca M0) sz) := by
  refine fg_enterT (fun A => qT1_G_program D ad ca N M0 MZ A) (by decide +kernel) (Nat.le_of_ble_eq_true rfl) ?_
  intro p e s m below meth c ls A hx hb hml hown hts hr hlocks hin hP hK hD hS hA hX hl hno hz hy
  have hz0 := hz.1
  have hz := hz.2
  have hl : lv_has ls 4 [(0, .ref (ad 0 j0)), (1, .int x1), (2, .int x2)] := hl
  unfold fT1_G_program at h
  have hkp : me_kz M0 M0 := me_kz.rf
  have hkb := hkp
  have b_164 : ∀ (M : me_M) (s0 : Int32) (s1 : Nat) (H : Heap) (locs : List Loc) (ls : Array Slot), fT1_G_program_b164 j0 M s0 s1 = (some MZ) → (s0 = 1 ∨ s0 = 0) → (s1 < N 0) → me_wf N M → me_kz M0 M → va_P D classes (me_W ad ca M) H → va_D A (me_W ad ca M) → va_S A s.heap H locs → lv_has ls 4 [(0, .ref (ad 0 j0))] → W p l e rmT1_G_program s m [.ref (ad 0 j0), .int x1, .int x2].toArray below meth c H locs 0 0 (fg_MQT below (qT1_G_program D ad ca N M0 MZ A) [.ref (ad 0 j0), .int x1, .int x2].toArray s rmT1_G_program.cells rmT1_G_program.slots A) (F0 m 164 ls [.int s0, .ref (ad 0 s1)]) := by
    intro M s0 s1 H locs ls h zs0 hs1 hwf hkp hP hD hS hl
    unfold fT1_G_program_b164 at h
    have hkb := hkp
    obtain ⟨M1, eM1, h⟩ := st_ob h
    refine p_G_12 eM1 hx hb hts hown hK hP hD hwf hS hs1 zs0 (hts _ u_705) d_G_program_164 (fun H locs hP hD hwf hS => ?_)
    have hkp := kz_I eM1 hkp
    refine lv_aload_n hx hb d_G_program_167 rfl (lv_at hl 0 rfl) ?_
    refine g_G_12 hx hb hts hown hK hP hwf hj0 (hts _ u_705) d_G_program_168 ?_
    have z2 := (hwf.2.2.2 0 j0 12 rfl)
    refine lv_if_eq (tgt := 197) hx hb d_G_program_171 (by decide) (fun c3 => ?_) (fun c3 => ?_)
    · have h := if_t c3 h
      refine lv_aload_n hx hb d_G_program_197 rfl (lv_at hl 0 rfl) ?_
      refine g_G_5 hx hb hts hown hK hP hwf hj0 (hts _ u_698) d_G_program_198 ?_
      obtain ⟨j4, e5, h⟩ := bd_ob h
      have hj4 : j4 < N 2 := (hwf.2.1 0 j0 5 _ e5 (by decide) hj0)
      refine me_opt (j := j4) e5 ?_
      refine lv_iconst (v := 0) hx hb d_G_program_201 (by decide) ?_
      obtain ⟨M6, eM6, h⟩ := st_ob h
      refine p_Code_3 eM6 hx hb hts hown hK hP hD hwf hS hj4 (hts _ u_227) d_G_program_202 (fun H locs hP hD hwf hS => ?_)
      have hkp := kz_I eM6 hkp
      refine lv_aload_n hx hb d_G_program_205 rfl (lv_at hl 0 rfl) ?_
      refine g_G_9 hx hb hts hown hK hP hwf hj0 (hts _ u_702) d_G_program_206 ?_
      exact absurd h (by simp)
    have h := if_f c3 h
    refine lv_aload_n hx hb d_G_program_174 rfl (lv_at hl 0 rfl) ?_
    refine lv_iconst (v := 1) hx hb d_G_program_175 (by decide) ?_
    obtain ⟨M7, eM7, h⟩ := st_ob h
    refine p_G_13 eM7 hx hb hts hown hK hP hD hwf hS hj0 (by decide) (hts _ u_706) d_G_program_176 (fun H locs hP hD hwf hS => ?_)
    have hkp := kz_I eM7 hkp
    refine lv_aload_n hx hb d_G_program_179 rfl (lv_at hl 0 rfl) ?_
    refine g_G_6 hx hb hts hown hK hP hwf hj0 (hts _ u_699) d_G_program_180 ?_
    obtain ⟨j8, e9, h⟩ := bd_ob h
    have hj8 : j8 < N 3 := (hwf.2.1 0 j0 6 _ e9 (by decide) hj0)
    refine me_opt (j := j8) e9 ?_
    refine lv_aload_n hx hb d_G_program_183 rfl (lv_at hl 0 rfl) ?_
    refine g_G_4 hx hb hts hown hK hP hwf hj0 (hts _ u_697) d_G_program_184 ?_
    obtain ⟨j10, e11, h⟩ := bd_ob h
    have hj10 : j10 < N 2 := (hwf.2.1 0 j0 4 _ e11 (by decide) hj0)
    refine me_opt (j := j10) e11 ?_
    refine lv_aload_n hx hb d_G_program_187 rfl (lv_at hl 0 rfl) ?_
    refine g_G_5 hx hb hts hown hK hP hwf hj0 (hts _ u_698) d_G_program_188 ?_
    obtain ⟨j12, e13, h⟩ := bd_ob h
    have hj12 : j12 < N 2 := (hwf.2.1 0 j0 5 _ e13 (by decide) hj0)
    refine me_opt (j := j12) e13 ?_
    obtain ⟨M14, eM14, h⟩ := bd_ob h
    refine me_thenv0 (M1 := M14) (me_runV (C := "FilterGuard$Facts") (As := [.ref (ad 2 j10), .ref (ad 2 j12)]) (rest := []) ⟨hx, hb, hml, hown, hts⟩ (c_Facts_shorten l D ad ca N M7 M14 j8 j10 j12 eM14 hwf hj8 hj10 hj12 _) rfl (by show fg_nm y_Facts_shorten 2; decide +kernel) u_1451 u_1452 u_1453 u_183 u_1454 ⟨Nat.le_of_ble_eq_true rfl, Nat.le_of_ble_eq_true rfl⟩ hX hz hK hP hD hwf hS hA hj8 (by decide) rfl rfl rfl hl.1 (Nat.le_of_ble_eq_true rfl) d_G_program_191 ⟨Nat.le_of_ble_eq_true rfl, Nat.le_of_ble_eq_true rfl⟩) hP hD hK hS hA rfl rfl (fun H locs hw hP hD hS => ?_)
    obtain ⟨hwf, hk9⟩ := hw
    have hkp := hkp.tr hk9.z
    refine lv_goto (tgt := 205) hx hb d_G_program_194 (by decide) ?_
    refine lv_aload_n hx hb d_G_program_205 rfl (lv_at hl 0 rfl) ?_
    refine g_G_9 hx hb hts hown hK hP hwf hj0 (hts _ u_702) d_G_program_206 ?_
    exact absurd h (by simp)
  have b_151 : ∀ (M : me_M) (H : Heap) (locs : List Loc) (ls : Array Slot), fT1_G_program_b151 j0 M = (some MZ) → me_wf N M → me_kz M0 M → va_P D classes (me_W ad ca M) H → va_D A (me_W ad ca M) → va_S A s.heap H locs → lv_has ls 4 [(0, .ref (ad 0 j0))] → W p l e rmT1_G_program s m [.ref (ad 0 j0), .int x1, .int x2].toArray below meth c H locs 0 0 (fg_MQT below (qT1_G_program D ad ca N M0 MZ A) [.ref (ad 0 j0), .int x1, .int x2].toArray s rmT1_G_program.cells rmT1_G_program.slots A) (F0 m 151 ls []) := by
    intro M H locs ls h hwf hkp hP hD hS hl
    unfold fT1_G_program_b151 at h
    have hkb := hkp
    refine lv_aload_n hx hb d_G_program_151 rfl (lv_at hl 0 rfl) ?_
    refine lv_aload_n hx hb d_G_program_152 rfl (lv_at hl 0 rfl) ?_
    refine g_G_9 hx hb hts hown hK hP hwf hj0 (hts _ u_702) d_G_program_153 ?_
    refine lv_if_ne (tgt := 163) hx hb d_G_program_156 (by decide) (fun c15 => ?_) (fun c15 => ?_)
    · have h := if_f c15 h
      refine lv_iconst (v := 0) hx hb d_G_program_163 (by decide) ?_
      exact b_164 M (0 : Int32) j0 _ _ _ h (by decide) hj0 hwf hkp hP hD hS (lv_sub hl [0] rfl)
    have h := if_t c15 h
    refine lv_iconst (v := 1) hx hb d_G_program_159 (by decide) ?_
    refine lv_goto (tgt := 164) hx hb d_G_program_160 (by decide) ?_
    exact b_164 M (1 : Int32) j0 _ _ _ h (by decide) hj0 hwf hkp hP hD hS (lv_sub hl [0] rfl)
  have b_148 : ∀ (M : me_M) (s0 : Int32) (s1 : Nat) (H : Heap) (locs : List Loc) (ls : Array Slot), fT1_G_program_b148 j0 M s0 s1 = (some MZ) → (s1 < N 0) → me_wf N M → me_kz M0 M → va_P D classes (me_W ad ca M) H → va_D A (me_W ad ca M) → va_S A s.heap H locs → lv_has ls 4 [(0, .ref (ad 0 j0))] → W p l e rmT1_G_program s m [.ref (ad 0 j0), .int x1, .int x2].toArray below meth c H locs 0 0 (fg_MQT below (qT1_G_program D ad ca N M0 MZ A) [.ref (ad 0 j0), .int x1, .int x2].toArray s rmT1_G_program.cells rmT1_G_program.slots A) (F0 m 148 ls [.int s0, .ref (ad 0 s1)]) := by
    intro M s0 s1 H locs ls h hs1 hwf hkp hP hD hS hl
    unfold fT1_G_program_b148 at h
    have hkb := hkp
    obtain ⟨M16, eM16, h⟩ := st_ob h
    refine p_G_10 eM16 hx hb hts hown hK hP hD hwf hS hs1 (hts _ u_703) d_G_program_148 (fun H locs hP hD hwf hS => ?_)
    have hkp := kz_I eM16 hkp
    exact b_151 M16 _ _ _ h hwf hkp hP hD hS (lv_sub hl [0] rfl)
  refine lv_aload_n hx hb d_G_program_0 rfl (lv_at hl 0 rfl) ?_
  refine g_G_1 hx hb hts hown hK hP hwf hj0 (hts _ u_694) d_G_program_1 ?_
  obtain ⟨v17, ev17, h⟩ := st_ob h
  refine fg_topi (y := v17) ev17.symm ?_
  refine lv_istore_n (lv' := [(3, .int v17), (0, .ref (ad 0 j0)), (1, .int x1), (2, .int x2)]) hx hb d_G_program_4 rfl hl (by decide) rfl (fun ls hl => ?_)
  refine lv_aload_n hx hb d_G_program_5 rfl (lv_at hl 1 rfl) ?_
  refine lv_iconst (v := 0) hx hb d_G_program_6 (by decide) ?_
  obtain ⟨M18, eM18, h⟩ := st_ob h
  refine p_G_1 eM18 hx hb hts hown hK hP hD hwf hS hj0 (hts _ u_694) d_G_program_7 (fun H locs hP hD hwf hS => ?_)
  have hkp := kz_I eM18 hkp
  refine lv_iload_n hx hb d_G_program_10 rfl (lv_at hl 2 rfl) ?_
  refine lv_iconst (v := 1) hx hb d_G_program_11 (by decide) ?_
  refine lv_icmp_lt (tgt := 42) hx hb d_G_program_12 (by decide) (fun c19 => ?_) (fun c19 => ?_)
  · have h := if_t c19 h
    obtain ⟨hwf, hkp, hP, hD⟩ := me_sub1 (me_kz M0) h hwf hkp hP hD
    obtain ⟨qs20, hqs20⟩ := hy.1 _ _ _ o_940
    exact fg_throw (X := "java/lang/IllegalArgumentException") (names := fg_up) () hl9 hx hb hno hlocks hown hts hX hz0 hqs20 (by decide +kernel) (by decide +kernel) a_G_82 u_812 u_199 ⟨hwf, hkp⟩ hP (hK.sub (tys' := []) [] rfl) hD hS (hl.1.trans hml.symm) (Nat.lt_of_lt_of_le (Nat.lt_succ_self 5) (Nat.le_of_ble_eq_true rfl)) (Nat.le_of_ble_eq_true rfl) (Nat.le_of_ble_eq_true rfl) (Nat.le_of_ble_eq_true rfl) (Nat.le_of_ble_eq_true rfl) (Nat.le_of_ble_eq_true rfl) d_G_program_42 d_G_program_45 d_G_program_46 d_G_program_48 d_G_program_51
  have h := if_f c19 h
  refine lv_iload_n hx hb d_G_program_15 rfl (lv_at hl 2 rfl) ?_
  refine lv_sipush (v := 2000) hx hb d_G_program_16 (by decide) ?_
  refine lv_icmp_gt (tgt := 42) hx hb d_G_program_19 (by decide) (fun c21 => ?_) (fun c21 => ?_)
  · have h := if_t c21 h
    obtain ⟨hwf, hkp, hP, hD⟩ := me_sub1 (me_kz M0) h hwf hkp hP hD
    obtain ⟨qs22, hqs22⟩ := hy.1 _ _ _ o_940
    exact fg_throw (X := "java/lang/IllegalArgumentException") (names := fg_up) () hl9 hx hb hno hlocks hown hts hX hz0 hqs22 (by decide +kernel) (by decide +kernel) a_G_82 u_812 u_199 ⟨hwf, hkp⟩ hP (hK.sub (tys' := []) [] rfl) hD hS (hl.1.trans hml.symm) (Nat.lt_of_lt_of_le (Nat.lt_succ_self 5) (Nat.le_of_ble_eq_true rfl)) (Nat.le_of_ble_eq_true rfl) (Nat.le_of_ble_eq_true rfl) (Nat.le_of_ble_eq_true rfl) (Nat.le_of_ble_eq_true rfl) (Nat.le_of_ble_eq_true rfl) d_G_program_42 d_G_program_45 d_G_program_46 d_G_program_48 d_G_program_51
  have h := if_f c21 h
  refine lv_bipush (v := 8) hx hb d_G_program_22 (by decide) ?_
  refine lv_iload_n hx hb d_G_program_24 rfl (lv_at hl 2 rfl) ?_
  refine lv_imul hx hb d_G_program_25 ?_
  refine lv_iload_n hx hb d_G_program_26 rfl (lv_at hl 0 rfl) ?_
  refine lv_icmp_gt (tgt := 42) hx hb d_G_program_27 (by decide) (fun c23 => ?_) (fun c23 => ?_)
  · have h := if_t c23 h
    obtain ⟨hwf, hkp, hP, hD⟩ := me_sub1 (me_kz M0) h hwf hkp hP hD
    obtain ⟨qs24, hqs24⟩ := hy.1 _ _ _ o_940
    exact fg_throw (X := "java/lang/IllegalArgumentException") (names := fg_up) () hl9 hx hb hno hlocks hown hts hX hz0 hqs24 (by decide +kernel) (by decide +kernel) a_G_82 u_812 u_199 ⟨hwf, hkp⟩ hP (hK.sub (tys' := []) [] rfl) hD hS (hl.1.trans hml.symm) (Nat.lt_of_lt_of_le (Nat.lt_succ_self 5) (Nat.le_of_ble_eq_true rfl)) (Nat.le_of_ble_eq_true rfl) (Nat.le_of_ble_eq_true rfl) (Nat.le_of_ble_eq_true rfl) (Nat.le_of_ble_eq_true rfl) (Nat.le_of_ble_eq_true rfl) d_G_program_42 d_G_program_45 d_G_program_46 d_G_program_48 d_G_program_51
  have h := if_f c23 h
  refine lv_iload_n hx hb d_G_program_30 rfl (lv_at hl 3 rfl) ?_
  refine lv_iconst (v := 1) hx hb d_G_program_31 (by decide) ?_
  refine lv_icmp_lt (tgt := 42) hx hb d_G_program_32 (by decide) (fun c25 => ?_) (fun c25 => ?_)
  · have h := if_t c25 h
    obtain ⟨hwf, hkp, hP, hD⟩ := me_sub1 (me_kz M0) h hwf hkp hP hD
    obtain ⟨qs26, hqs26⟩ := hy.1 _ _ _ o_940
    exact fg_throw (X := "java/lang/IllegalArgumentException") (names := fg_up) () hl9 hx hb hno hlocks hown hts hX hz0 hqs26 (by decide +kernel) (by decide +kernel) a_G_82 u_812 u_199 ⟨hwf, hkp⟩ hP (hK.sub (tys' := []) [] rfl) hD hS (hl.1.trans hml.symm) (Nat.lt_of_lt_of_le (Nat.lt_succ_self 5) (Nat.le_of_ble_eq_true rfl)) (Nat.le_of_ble_eq_true rfl) (Nat.le_of_ble_eq_true rfl) (Nat.le_of_ble_eq_true rfl) (Nat.le_of_ble_eq_true rfl) (Nat.le_of_ble_eq_true rfl) d_G_program_42 d_G_program_45 d_G_program_46 d_G_program_48 d_G_program_51
  have h := if_f c25 h
  refine lv_iload_n hx hb d_G_program_35 rfl (lv_at hl 3 rfl) ?_
  refine lv_sipush (v := 20000) hx hb d_G_program_36 (by decide) ?_
  refine lv_icmp_le (tgt := 52) hx hb d_G_program_39 (by decide) (fun c27 => ?_) (fun c27 => ?_)
  · have h := if_t c27 h
    refine lv_aload_n hx hb d_G_program_52 rfl (lv_at hl 1 rfl) ?_
    refine g_G_4 hx hb hts hown hK hP hwf hj0 (hts _ u_697) d_G_program_53 ?_
    obtain ⟨j28, e29, h⟩ := bd_ob h
    have hj28 : j28 < N 2 := (hwf.2.1 0 j0 4 _ e29 (by decide) hj0)
    refine me_opt (j := j28) e29 ?_
    refine lv_aload_n hx hb d_G_program_56 rfl (lv_at hl 1 rfl) ?_
    refine g_G_0 hx hb hts hown hK hP hwf hj0 (hts _ u_693) d_G_program_57 ?_
    obtain ⟨j30, e31, h⟩ := bd_ob h
    have hj30 : j30 < N 14 := (hwf.2.1 0 j0 0 _ e31 (by decide) hj0)
    refine me_opt (j := j30) e31 ?_
    refine lv_iload_n hx hb d_G_program_60 rfl (lv_at hl 2 rfl) ?_
    obtain ⟨M32, eM32, h⟩ := bd_ob h
    refine me_thenv0 (M1 := M32) (me_runV (C := "FilterGuard$Code") (As := [.ref (ad 14 j30), .int x1]) (rest := []) ⟨hx, hb, hml, hown, hts⟩ (c_Code_load l D ad ca N M18 M32 j28 j30 x1 eM32 hwf hj28 hj30 _) rfl (by show fg_nm y_Code_load 2; decide +kernel) u_941 u_942 u_943 u_182 u_944 ⟨Nat.le_of_ble_eq_true rfl, Nat.le_of_ble_eq_true rfl⟩ hX hz hK hP hD hwf hS hA hj28 (by decide) rfl rfl rfl hl.1 (Nat.le_of_ble_eq_true rfl) d_G_program_61 ⟨Nat.le_of_ble_eq_true rfl, Nat.le_of_ble_eq_true rfl⟩) hP hD hK hS hA rfl rfl (fun H locs hw hP hD hS => ?_)
    obtain ⟨hwf, hk9⟩ := hw
    have hkp := hkp.tr hk9.z
    refine lv_aload_n hx hb d_G_program_64 rfl (lv_at hl 1 rfl) ?_
    refine g_G_6 hx hb hts hown hK hP hwf hj0 (hts _ u_699) d_G_program_65 ?_
    obtain ⟨j33, e34, h⟩ := bd_ob h
    have hj33 : j33 < N 3 := (hwf.2.1 0 j0 6 _ e34 (by decide) hj0)
    refine me_opt (j := j33) e34 ?_
    refine lv_iload_n hx hb d_G_program_68 rfl (lv_at hl 2 rfl) ?_
    obtain ⟨M35, eM35, h⟩ := bd_ob h
    refine me_thenv0 (M1 := M35) (me_runV (C := "FilterGuard$Facts") (As := [.int x1]) (rest := []) ⟨hx, hb, hml, hown, hts⟩ (c_Facts_clear l D ad ca N M32 M35 j33 x1 eM35 hwf hj33 _) rfl (by show fg_nm y_Facts_clear 1; decide +kernel) u_945 u_946 u_947 u_183 u_948 ⟨Nat.le_of_ble_eq_true rfl, Nat.le_of_ble_eq_true rfl⟩ hX hz hK hP hD hwf hS hA hj33 (by decide) rfl rfl rfl hl.1 (Nat.le_of_ble_eq_true rfl) d_G_program_69 ⟨Nat.le_of_ble_eq_true rfl, Nat.le_of_ble_eq_true rfl⟩) hP hD hK hS hA rfl rfl (fun H locs hw hP hD hS => ?_)
    obtain ⟨hwf, hk9⟩ := hw
    have hkp := hkp.tr hk9.z
    refine lv_aload_n hx hb d_G_program_72 rfl (lv_at hl 1 rfl) ?_
    refine g_G_7 hx hb hts hown hK hP hwf hj0 (hts _ u_700) d_G_program_73 ?_
    obtain ⟨j36, e37, h⟩ := bd_ob h
    have hj36 : j36 < N 4 := (hwf.2.1 0 j0 7 _ e37 (by decide) hj0)
    refine me_opt (j := j36) e37 ?_
    obtain ⟨M38, eM38, h⟩ := bd_ob h
    refine me_thenv0 (M1 := M38) (me_runV (C := "FilterGuard$Explorer") (As := []) (rest := []) ⟨hx, hb, hml, hown, hts⟩ (c_Explorer_clear l D ad ca N M35 M38 j36 eM38 hwf hj36 _) rfl (by show fg_nm y_Explorer_clear 0; decide +kernel) u_949 u_950 u_951 u_184 u_952 ⟨Nat.le_of_ble_eq_true rfl, Nat.le_of_ble_eq_true rfl⟩ hX hz hK hP hD hwf hS hA hj36 (by decide) rfl rfl rfl hl.1 (Nat.le_of_ble_eq_true rfl) d_G_program_76 ⟨Nat.le_of_ble_eq_true rfl, Nat.le_of_ble_eq_true rfl⟩) hP hD hK hS hA rfl rfl (fun H locs hw hP hD hS => ?_)
    obtain ⟨hwf, hk9⟩ := hw
    have hkp := hkp.tr hk9.z
    refine lv_aload_n hx hb d_G_program_79 rfl (lv_at hl 1 rfl) ?_
    refine lv_iconst (v := 1) hx hb d_G_program_80 (by decide) ?_
    obtain ⟨M39, eM39, h⟩ := st_ob h
    refine p_G_11 eM39 hx hb hts hown hK hP hD hwf hS hj0 (by decide) (hts _ u_704) d_G_program_81 (fun H locs hP hD hwf hS => ?_)
    have hkp := kz_I eM39 hkp
    refine lv_aload_n hx hb d_G_program_84 rfl (lv_at hl 1 rfl) ?_
    refine lv_aload_n hx hb d_G_program_85 rfl (lv_at hl 1 rfl) ?_
    refine g_G_4 hx hb hts hown hK hP hwf hj0 (hts _ u_697) d_G_program_86 ?_
    obtain ⟨j40, e41, h⟩ := bd_ob h
    have hj40 : j40 < N 2 := (hwf.2.1 0 j0 4 _ e41 (by decide) hj0)
    refine me_opt (j := j40) e41 ?_
    refine lv_aload_n hx hb d_G_program_89 rfl (lv_at hl 1 rfl) ?_
    refine g_G_3 hx hb hts hown hK hP hwf hj0 (hts _ u_696) d_G_program_90 ?_
    obtain ⟨M42, r43, eM42, h⟩ := b2_ob h
    refine me_theni0 (M1 := M42) (me_runV (C := "FilterGuard$Code") (As := [.int (mI M39 0 j0 3)]) (rest := [.ref (ad 0 j0)]) ⟨hx, hb, hml, hown, hts⟩ (c_Code_faultOfForm l D ad ca N M39 M42 r43 j40 (mI M39 0 j0 3) eM42 hwf hj40 _) rfl (by show fg_nm y_Code_faultOfForm 1; decide +kernel) u_953 u_954 u_955 u_182 u_956 ⟨Nat.le_of_ble_eq_true rfl, Nat.le_of_ble_eq_true rfl⟩ hX hz hK hP hD hwf hS hA hj40 (by decide) rfl rfl rfl hl.1 (Nat.le_of_ble_eq_true rfl) d_G_program_93 ⟨Nat.le_of_ble_eq_true rfl, Nat.le_of_ble_eq_true rfl⟩) hP hD hK hS hA rfl rfl (fun H locs hw hP hD hS => ?_)
    obtain ⟨hwf, hk9⟩ := hw
    have hkp := hkp.tr hk9.z
    obtain ⟨M44, eM44, h⟩ := st_ob h
    refine p_G_9 eM44 hx hb hts hown hK hP hD hwf hS hj0 (hts _ u_702) d_G_program_96 (fun H locs hP hD hwf hS => ?_)
    have hkp := kz_I eM44 hkp
    refine lv_aload_n hx hb d_G_program_99 rfl (lv_at hl 1 rfl) ?_
    refine lv_aload_n hx hb d_G_program_100 rfl (lv_at hl 1 rfl) ?_
    refine g_G_4 hx hb hts hown hK hP hwf hj0 (hts _ u_697) d_G_program_101 ?_
    obtain ⟨j45, e46, h⟩ := bd_ob h
    have hj45 : j45 < N 2 := (hwf.2.1 0 j0 4 _ e46 (by decide) hj0)
    refine me_opt (j := j45) e46 ?_
    refine g_Code_4 hx hb hts hown hK hP hwf hj45 (hts _ u_230) d_G_program_104 ?_
    obtain ⟨M47, eM47, h⟩ := st_ob h
    refine p_G_10 eM47 hx hb hts hown hK hP hD hwf hS hj0 (hts _ u_703) d_G_program_107 (fun H locs hP hD hwf hS => ?_)
    have hkp := kz_I eM47 hkp
    refine lv_aload_n hx hb d_G_program_110 rfl (lv_at hl 1 rfl) ?_
    refine g_G_9 hx hb hts hown hK hP hwf hj0 (hts _ u_702) d_G_program_111 ?_
    refine lv_if_ne (tgt := 151) hx hb d_G_program_114 (by decide) (fun c48 => ?_) (fun c48 => ?_)
    · have h := if_f c48 h
      exact b_151 M47 _ _ _ h hwf hkp hP hD hS (lv_sub hl [1] rfl)
    have h := if_t c48 h
    refine lv_aload_n hx hb d_G_program_117 rfl (lv_at hl 1 rfl) ?_
    refine lv_aload_n hx hb d_G_program_118 rfl (lv_at hl 1 rfl) ?_
    refine g_G_7 hx hb hts hown hK hP hwf hj0 (hts _ u_700) d_G_program_119 ?_
    obtain ⟨j49, e50, h⟩ := bd_ob h
    have hj49 : j49 < N 4 := (hwf.2.1 0 j0 7 _ e50 (by decide) hj0)
    refine me_opt (j := j49) e50 ?_
    refine lv_iload_n hx hb d_G_program_122 rfl (lv_at hl 3 rfl) ?_
    exact absurd h (by simp)
  have h := if_f c27 h
  obtain ⟨hwf, hkp, hP, hD⟩ := me_sub1 (me_kz M0) h hwf hkp hP hD
  obtain ⟨qs51, hqs51⟩ := hy.1 _ _ _ o_940
  exact fg_throw (X := "java/lang/IllegalArgumentException") (names := fg_up) () hl9 hx hb hno hlocks hown hts hX hz0 hqs51 (by decide +kernel) (by decide +kernel) a_G_82 u_812 u_199 ⟨hwf, hkp⟩ hP (hK.sub (tys' := []) [] rfl) hD hS (hl.1.trans hml.symm) (Nat.lt_of_lt_of_le (Nat.lt_succ_self 5) (Nat.le_of_ble_eq_true rfl)) (Nat.le_of_ble_eq_true rfl) (Nat.le_of_ble_eq_true rfl) (Nat.le_of_ble_eq_true rfl) (Nat.le_of_ble_eq_true rfl) (Nat.le_of_ble_eq_true rfl) d_G_program_42 d_G_program_45 d_G_program_46 d_G_program_48 d_G_program_51
theorem d_G_about_0 : decode prog_1_method_6_code 0 = .ok (.aload_n 0, 1) := by decide +kernel
theorem d_G_about_1 : decode prog_1_method_6_code 1 = .ok (.getfield 111, 3) := by decide +kernel
theorem g_G_11 {p : Program} {l : Launch} {e : Env} {R : Room} {s : Jvm.State} {m : MethodId} {args : Array Value} {below : List Frame} {meth : Method} {c : Code} {H : Heap} {locs : List Loc} {cells slots : Nat} {Q : Jvm.State → Prop} {cc : ByteArray} {pc : Nat} {ls : Array Slot} {rest : List Value} {D : va_G} {ad : Nat → Nat → Nat} {ca : Nat → ClassId} {M : me_M} {N : Nat → Nat} {own : String} {index j : Nat} (hexec : p.tables.exec = Jvm.exec) (hb : c.code = cc) (hts : ∀ w ∈ fg_g, w.before args s = true) (hown : s.vm.findClass own = some m.cls) (hK : va_K D classes (me_T ca) s) (hP : va_P D classes (me_W ad ca M) H) (hwf : me_wf N M) (hj : j < N 0) (hlink : (Cond.fieldLink own index "FilterGuard" "isLoaded" "Z").before args s = true) (hdg : decode cc pc = .ok (.getfield index, 3)) (kk : W p l e R s m args below meth c H locs cells slots Q (F0 m (pc + 3) ls (.int (mI M 0 j 11) :: rest))) : W p l e R s m args below meth c H locs cells slots Q (F0 m pc ls (.ref (ad 0 j) :: rest)) := me_get (k := 0) (f := 11) (C := "FilterGuard") (T := F_G) (Nf := 14) hexec hb hts i_G hown hK hP hwf hj (by decide) rfl (by decide) (by decide) hlink (fun _ h9 => h9) hdg kk
theorem d_G_about_4 : decode prog_1_method_6_code 4 = .ok (.ifCond .ne 5, 3) := by decide +kernel
theorem d_G_about_9 : decode prog_1_method_6_code 9 = .ok (.iload_n 1, 1) := by decide +kernel
theorem d_G_about_10 : decode prog_1_method_6_code 10 = .ok (.tableswitch 104 0 7 #[46, 51, 56, 64, 72, 80, 88, 96], 46) := by decide +kernel
theorem d_G_about_56 : decode prog_1_method_6_code 56 = .ok (.aload_n 0, 1) := by decide +kernel
theorem d_G_about_57 : decode prog_1_method_6_code 57 = .ok (.getfield 118, 3) := by decide +kernel
theorem d_G_about_60 : decode prog_1_method_6_code 60 = .ok (.ireturn, 1) := by decide +kernel
theorem d_G_about_61 : decode prog_1_method_6_code 61 = .ok (.aload_n 0, 1) := by decide +kernel
theorem d_G_about_62 : decode prog_1_method_6_code 62 = .ok (.getfield 54, 3) := by decide +kernel
theorem g_G_10 {p : Program} {l : Launch} {e : Env} {R : Room} {s : Jvm.State} {m : MethodId} {args : Array Value} {below : List Frame} {meth : Method} {c : Code} {H : Heap} {locs : List Loc} {cells slots : Nat} {Q : Jvm.State → Prop} {cc : ByteArray} {pc : Nat} {ls : Array Slot} {rest : List Value} {D : va_G} {ad : Nat → Nat → Nat} {ca : Nat → ClassId} {M : me_M} {N : Nat → Nat} {own : String} {index j : Nat} (hexec : p.tables.exec = Jvm.exec) (hb : c.code = cc) (hts : ∀ w ∈ fg_g, w.before args s = true) (hown : s.vm.findClass own = some m.cls) (hK : va_K D classes (me_T ca) s) (hP : va_P D classes (me_W ad ca M) H) (hwf : me_wf N M) (hj : j < N 0) (hlink : (Cond.fieldLink own index "FilterGuard" "faultSlot" "I").before args s = true) (hdg : decode cc pc = .ok (.getfield index, 3)) (kk : W p l e R s m args below meth c H locs cells slots Q (F0 m (pc + 3) ls (.int (mI M 0 j 10) :: rest))) : W p l e R s m args below meth c H locs cells slots Q (F0 m pc ls (.ref (ad 0 j) :: rest)) := me_get (k := 0) (f := 10) (C := "FilterGuard") (T := F_G) (Nf := 14) hexec hb hts i_G hown hK hP hwf hj (by decide) rfl (by decide) (by decide) hlink (fun _ h9 => h9) hdg kk
theorem d_G_about_65 : decode prog_1_method_6_code 65 = .ok (.ireturn, 1) := by decide +kernel
theorem d_G_about_66 : decode prog_1_method_6_code 66 = .ok (.aload_n 0, 1) := by decide +kernel
theorem d_G_about_67 : decode prog_1_method_6_code 67 = .ok (.getfield 41, 3) := by decide +kernel
theorem d_G_about_70 : decode prog_1_method_6_code 70 = .ok (.getfield 139, 3) := by decide +kernel
theorem u_560 : Cond.fieldLink "FilterGuard" 139 "FilterGuard$Explorer" "visits" "I" ∈ fg_g := fg_in (List.mem_of_getElem? (i := 560) (by decide +kernel)) rfl
theorem d_G_about_73 : decode prog_1_method_6_code 73 = .ok (.ireturn, 1) := by decide +kernel
theorem d_G_about_74 : decode prog_1_method_6_code 74 = .ok (.aload_n 0, 1) := by decide +kernel
theorem d_G_about_75 : decode prog_1_method_6_code 75 = .ok (.getfield 41, 3) := by decide +kernel
theorem d_G_about_78 : decode prog_1_method_6_code 78 = .ok (.getfield 142, 3) := by decide +kernel
theorem u_558 : Cond.fieldLink "FilterGuard" 142 "FilterGuard$Explorer" "keptCount" "I" ∈ fg_g := fg_in (List.mem_of_getElem? (i := 558) (by decide +kernel)) rfl
theorem d_G_about_81 : decode prog_1_method_6_code 81 = .ok (.ireturn, 1) := by decide +kernel
theorem d_G_about_82 : decode prog_1_method_6_code 82 = .ok (.aload_n 0, 1) := by decide +kernel
theorem d_G_about_83 : decode prog_1_method_6_code 83 = .ok (.getfield 41, 3) := by decide +kernel
theorem d_G_about_86 : decode prog_1_method_6_code 86 = .ok (.getfield 145, 3) := by decide +kernel
theorem u_562 : Cond.fieldLink "FilterGuard" 145 "FilterGuard$Explorer" "mostWaiting" "I" ∈ fg_g := fg_in (List.mem_of_getElem? (i := 562) (by decide +kernel)) rfl
theorem d_G_about_89 : decode prog_1_method_6_code 89 = .ok (.ireturn, 1) := by decide +kernel
theorem d_G_about_90 : decode prog_1_method_6_code 90 = .ok (.aload_n 0, 1) := by decide +kernel
theorem d_G_about_91 : decode prog_1_method_6_code 91 = .ok (.getfield 41, 3) := by decide +kernel
theorem d_G_about_94 : decode prog_1_method_6_code 94 = .ok (.getfield 148, 3) := by decide +kernel
theorem u_564 : Cond.fieldLink "FilterGuard" 148 "FilterGuard$Explorer" "paths" "I" ∈ fg_g := fg_in (List.mem_of_getElem? (i := 564) (by decide +kernel)) rfl
theorem d_G_about_97 : decode prog_1_method_6_code 97 = .ok (.ireturn, 1) := by decide +kernel
theorem d_G_about_98 : decode prog_1_method_6_code 98 = .ok (.aload_n 0, 1) := by decide +kernel
theorem d_G_about_99 : decode prog_1_method_6_code 99 = .ok (.getfield 22, 3) := by decide +kernel
theorem d_G_about_102 : decode prog_1_method_6_code 102 = .ok (.getfield 136, 3) := by decide +kernel
theorem d_G_about_105 : decode prog_1_method_6_code 105 = .ok (.ireturn, 1) := by decide +kernel
theorem d_G_about_106 : decode prog_1_method_6_code 106 = .ok (.aload_n 0, 1) := by decide +kernel
theorem d_G_about_107 : decode prog_1_method_6_code 107 = .ok (.getfield 26, 3) := by decide +kernel
theorem d_G_about_110 : decode prog_1_method_6_code 110 = .ok (.getfield 136, 3) := by decide +kernel
theorem d_G_about_113 : decode prog_1_method_6_code 113 = .ok (.ireturn, 1) := by decide +kernel
theorem d_G_about_114 : decode prog_1_method_6_code 114 = .ok (.iconst (-1), 1) := by decide +kernel
theorem d_G_about_115 : decode prog_1_method_6_code 115 = .ok (.ireturn, 1) := by decide +kernel
theorem d_G_about_7 : decode prog_1_method_6_code 7 = .ok (.iconst (-1), 1) := by decide +kernel
theorem d_G_about_8 : decode prog_1_method_6_code 8 = .ok (.ireturn, 1) := by decide +kernel
abbrev y_G_about : MethodName := ⟨"FilterGuard", "about", "(I)I"⟩
def rm_G_about : Room := { frames := 1, cells := 0, slots := 0, locals := 20 }
abbrev q_G_about (D : va_G) (ad : Nat → Nat → Nat) (ca : Nat → ClassId) (N : Nat → Nat) (M0 MZ : me_M) (RZ : Int32) (A : Nat → Prop) : Array Value → Jvm.State → Outcome → Jvm.State → Prop := va_Qi (fun r (_ : Unit) => r = RZ ∧ me_wf N MZ ∧ me_kp M0 MZ) (fg_B D A (fun _ => me_W ad ca MZ) (fun _ => [])) A
set_option maxHeartbeats 4000000 in
set_option maxRecDepth 100000 in
theorem c_G_about (l : Launch) (D : va_G) (ad : Nat → Nat → Nat) (ca : Nat → ClassId) (N : Nat → Nat) (M0 MZ : me_M) (RZ : Int32) (j0 : Nat) (x1 : Int32) (h : f_G_about M0 j0 x1 = (some (MZ, RZ))) (hwf : me_wf N M0) (hj0 : j0 < N 0) (sz : Nat) : Met l y_G_about (fg_w y_G_about prog_1_method_6_code 2 (some .int)) rm_G_about (va_Pc [.ref (ad 0 j0), .int x1] (fz_P D (me_T ca) (me_W ad ca M0) sz)) (q_G_about D ad ca N M0 MZ RZ (va_A (me_W ad ca M0) sz)) rm_G_about.cells rm_G_about.slots (va_A (me_W ad ca M0) sz) := by
  refine fz_enter (fun A => q_G_about D ad ca N M0 MZ RZ A) (by decide +kernel) (Nat.le_of_ble_eq_true rfl) ?_
  intro p e s m below meth c ls A hx hb hml hown hts hr hlocks hin hP hK hD hS hA hX hl hz
  have hl : lv_has ls 2 [(0, .ref (ad 0 j0)), (1, .int x1)] := hl
  unfold f_G_about at h
  have hkp : me_kp M0 M0 := me_kp.rf
  have hkb := hkp
  refine lv_aload_n hx hb d_G_about_0 rfl (lv_at hl 0 rfl) ?_
  refine g_G_11 hx hb hts hown hK hP hwf hj0 (hts _ u_704) d_G_about_1 ?_
  have z1 := (hwf.2.2.2 0 j0 11 rfl)
  refine lv_if_ne (tgt := 9) hx hb d_G_about_4 (by decide) (fun c2 => ?_) (fun c2 => ?_)
  · have h := if_f c2 h
    refine lv_iload_n hx hb d_G_about_9 rfl (lv_at hl 1 rfl) ?_
    refine lv_topi (fun w3 ew3 => ?_)
    by_cases n4 : w3 = 0
    · have h := if_t (ew3.symm.trans n4) h
      subst n4
      refine lv_tableIn (off := 46) (tgt := 56) hx hb d_G_about_10 (by decide) (by decide) (by decide) (by decide) ?_
      refine lv_aload_n hx hb d_G_about_56 rfl (lv_at hl 0 rfl) ?_
      refine g_G_9 hx hb hts hown hK hP hwf hj0 (hts _ u_702) d_G_about_57 ?_
      exact me_reti (me_kp M0) h hx hb hr hlocks hwf hkp hP hK hD hS d_G_about_60
    have h := if_f (fun z => n4 (ew3.trans z)) h
    by_cases n5 : w3 = 1
    · have h := if_t (ew3.symm.trans n5) h
      subst n5
      refine lv_tableIn (off := 51) (tgt := 61) hx hb d_G_about_10 (by decide) (by decide) (by decide) (by decide) ?_
      refine lv_aload_n hx hb d_G_about_61 rfl (lv_at hl 0 rfl) ?_
      refine g_G_10 hx hb hts hown hK hP hwf hj0 (hts _ u_703) d_G_about_62 ?_
      exact me_reti (me_kp M0) h hx hb hr hlocks hwf hkp hP hK hD hS d_G_about_65
    have h := if_f (fun z => n5 (ew3.trans z)) h
    by_cases n6 : w3 = 2
    · have h := if_t (ew3.symm.trans n6) h
      subst n6
      refine lv_tableIn (off := 56) (tgt := 66) hx hb d_G_about_10 (by decide) (by decide) (by decide) (by decide) ?_
      refine lv_aload_n hx hb d_G_about_66 rfl (lv_at hl 0 rfl) ?_
      refine g_G_7 hx hb hts hown hK hP hwf hj0 (hts _ u_700) d_G_about_67 ?_
      obtain ⟨j7, e8, h⟩ := bd_ob h
      have hj7 : j7 < N 4 := (hwf.2.1 0 j0 7 _ e8 (by decide) hj0)
      refine me_opt (j := j7) e8 ?_
      refine g_Explorer_12 hx hb hts hown hK hP hwf hj7 (hts _ u_560) d_G_about_70 ?_
      exact me_reti (me_kp M0) h hx hb hr hlocks hwf hkp hP hK hD hS d_G_about_73
    have h := if_f (fun z => n6 (ew3.trans z)) h
    by_cases n9 : w3 = 3
    · have h := if_t (ew3.symm.trans n9) h
      subst n9
      refine lv_tableIn (off := 64) (tgt := 74) hx hb d_G_about_10 (by decide) (by decide) (by decide) (by decide) ?_
      refine lv_aload_n hx hb d_G_about_74 rfl (lv_at hl 0 rfl) ?_
      refine g_G_7 hx hb hts hown hK hP hwf hj0 (hts _ u_700) d_G_about_75 ?_
      obtain ⟨j10, e11, h⟩ := bd_ob h
      have hj10 : j10 < N 4 := (hwf.2.1 0 j0 7 _ e11 (by decide) hj0)
      refine me_opt (j := j10) e11 ?_
      refine g_Explorer_11 hx hb hts hown hK hP hwf hj10 (hts _ u_558) d_G_about_78 ?_
      exact me_reti (me_kp M0) h hx hb hr hlocks hwf hkp hP hK hD hS d_G_about_81
    have h := if_f (fun z => n9 (ew3.trans z)) h
    by_cases n12 : w3 = 4
    · have h := if_t (ew3.symm.trans n12) h
      subst n12
      refine lv_tableIn (off := 72) (tgt := 82) hx hb d_G_about_10 (by decide) (by decide) (by decide) (by decide) ?_
      refine lv_aload_n hx hb d_G_about_82 rfl (lv_at hl 0 rfl) ?_
      refine g_G_7 hx hb hts hown hK hP hwf hj0 (hts _ u_700) d_G_about_83 ?_
      obtain ⟨j13, e14, h⟩ := bd_ob h
      have hj13 : j13 < N 4 := (hwf.2.1 0 j0 7 _ e14 (by decide) hj0)
      refine me_opt (j := j13) e14 ?_
      refine g_Explorer_13 hx hb hts hown hK hP hwf hj13 (hts _ u_562) d_G_about_86 ?_
      exact me_reti (me_kp M0) h hx hb hr hlocks hwf hkp hP hK hD hS d_G_about_89
    have h := if_f (fun z => n12 (ew3.trans z)) h
    by_cases n15 : w3 = 5
    · have h := if_t (ew3.symm.trans n15) h
      subst n15
      refine lv_tableIn (off := 80) (tgt := 90) hx hb d_G_about_10 (by decide) (by decide) (by decide) (by decide) ?_
      refine lv_aload_n hx hb d_G_about_90 rfl (lv_at hl 0 rfl) ?_
      refine g_G_7 hx hb hts hown hK hP hwf hj0 (hts _ u_700) d_G_about_91 ?_
      obtain ⟨j16, e17, h⟩ := bd_ob h
      have hj16 : j16 < N 4 := (hwf.2.1 0 j0 7 _ e17 (by decide) hj0)
      refine me_opt (j := j16) e17 ?_
      refine g_Explorer_14 hx hb hts hown hK hP hwf hj16 (hts _ u_564) d_G_about_94 ?_
      exact me_reti (me_kp M0) h hx hb hr hlocks hwf hkp hP hK hD hS d_G_about_97
    have h := if_f (fun z => n15 (ew3.trans z)) h
    by_cases n18 : w3 = 6
    · have h := if_t (ew3.symm.trans n18) h
      subst n18
      refine lv_tableIn (off := 88) (tgt := 98) hx hb d_G_about_10 (by decide) (by decide) (by decide) (by decide) ?_
      refine lv_aload_n hx hb d_G_about_98 rfl (lv_at hl 0 rfl) ?_
      refine g_G_4 hx hb hts hown hK hP hwf hj0 (hts _ u_697) d_G_about_99 ?_
      obtain ⟨j19, e20, h⟩ := bd_ob h
      have hj19 : j19 < N 2 := (hwf.2.1 0 j0 4 _ e20 (by decide) hj0)
      refine me_opt (j := j19) e20 ?_
      refine g_Code_3 hx hb hts hown hK hP hwf hj19 (hts _ u_227) d_G_about_102 ?_
      exact me_reti (me_kp M0) h hx hb hr hlocks hwf hkp hP hK hD hS d_G_about_105
    have h := if_f (fun z => n18 (ew3.trans z)) h
    by_cases n21 : w3 = 7
    · have h := if_t (ew3.symm.trans n21) h
      subst n21
      refine lv_tableIn (off := 96) (tgt := 106) hx hb d_G_about_10 (by decide) (by decide) (by decide) (by decide) ?_
      refine lv_aload_n hx hb d_G_about_106 rfl (lv_at hl 0 rfl) ?_
      refine g_G_5 hx hb hts hown hK hP hwf hj0 (hts _ u_698) d_G_about_107 ?_
      obtain ⟨j22, e23, h⟩ := bd_ob h
      have hj22 : j22 < N 2 := (hwf.2.1 0 j0 5 _ e23 (by decide) hj0)
      refine me_opt (j := j22) e23 ?_
      refine g_Code_3 hx hb hts hown hK hP hwf hj22 (hts _ u_227) d_G_about_110 ?_
      exact me_reti (me_kp M0) h hx hb hr hlocks hwf hkp hP hK hD hS d_G_about_113
    have h := if_f (fun z => n21 (ew3.trans z)) h
    have in4 := lv_neT n4 (show (0 : Int32).toInt = 0 from rfl)
    have in5 := lv_neT n5 (show (1 : Int32).toInt = 1 from rfl)
    have in6 := lv_neT n6 (show (2 : Int32).toInt = 2 from rfl)
    have in9 := lv_neT n9 (show (3 : Int32).toInt = 3 from rfl)
    have in12 := lv_neT n12 (show (4 : Int32).toInt = 4 from rfl)
    have in15 := lv_neT n15 (show (5 : Int32).toInt = 5 from rfl)
    have in18 := lv_neT n18 (show (6 : Int32).toInt = 6 from rfl)
    have in21 := lv_neT n21 (show (7 : Int32).toInt = 7 from rfl)
    refine lv_tableOut (tgt := 114) hx hb d_G_about_10 (by omega) (by decide) ?_
    refine lv_iconst (v := (-1)) hx hb d_G_about_114 (by decide) ?_
    exact me_reti (me_kp M0) h hx hb hr hlocks hwf hkp hP hK hD hS d_G_about_115
  have h := if_t c2 h
  refine lv_iconst (v := (-1)) hx hb d_G_about_7 (by decide) ?_
  exact me_reti (me_kp M0) h hx hb hr hlocks hwf hkp hP hK hD hS d_G_about_8
