theorem d_M_explore_102 : decode prog_14_method_106_code 102 = .ok (.iload_n 2, 1) := by decide +kernel
theorem d_M_explore_103 : decode prog_14_method_106_code 103 = .ok (.ifCond .ge 66, 3) := by decide +kernel
theorem d_M_explore_169 : decode prog_14_method_106_code 169 = .ok (.goto (-158), 3) := by decide +kernel
theorem d_M_explore_106 : decode prog_14_method_106_code 106 = .ok (.aload_n 0, 1) := by decide +kernel
theorem d_M_explore_107 : decode prog_14_method_106_code 107 = .ok (.dup, 1) := by decide +kernel
theorem d_M_explore_108 : decode prog_14_method_106_code 108 = .ok (.getfield 558, 3) := by decide +kernel
theorem u_1766 : Cond.fieldLink "FilterGuardModel" 558 "FilterGuardModel" "paths" "I" ∈ fg_g := fg_in (List.mem_of_getElem? (i := 1766) (by decide +kernel)) rfl
theorem g_M_25 {p : Program} {l : Launch} {e : Env} {R : Room} {s : Jvm.State} {m : MethodId} {args : Array Value} {below : List Frame} {meth : Method} {c : Code} {H : Heap} {locs : List Loc} {cells slots : Nat} {Q : Jvm.State → Prop} {cc : ByteArray} {pc : Nat} {ls : Array Slot} {rest : List Value} {D : va_G} {ad : Nat → Nat → Nat} {ca : Nat → ClassId} {M : me_M} {N : Nat → Nat} {own : String} {index j : Nat} (hexec : p.tables.exec = Jvm.exec) (hb : c.code = cc) (hts : ∀ w ∈ fg_g, w.before args s = true) (hown : s.vm.findClass own = some m.cls) (hK : va_K D classes (me_T ca) s) (hP : va_P D classes (me_W ad ca M) H) (hwf : me_wf N M) (hj : j < N 1) (hlink : (Cond.fieldLink own index "FilterGuardModel" "paths" "I").before args s = true) (hdg : decode cc pc = .ok (.getfield index, 3)) (kk : W p l e R s m args below meth c H locs cells slots Q (F0 m (pc + 3) ls (.int (mI M 1 j 25) :: rest))) : W p l e R s m args below meth c H locs cells slots Q (F0 m pc ls (.ref (ad 1 j) :: rest)) := me_get (k := 1) (f := 25) (C := "FilterGuardModel") (T := F_M) (Nf := 75) hexec hb hts i_M hown hK hP hwf hj (by decide) rfl (by decide) (by decide) hlink (fun _ h9 => h9) hdg kk
theorem d_M_explore_111 : decode prog_14_method_106_code 111 = .ok (.iconst 1, 1) := by decide +kernel
theorem d_M_explore_112 : decode prog_14_method_106_code 112 = .ok (.iadd, 1) := by decide +kernel
theorem d_M_explore_113 : decode prog_14_method_106_code 113 = .ok (.putfield 558, 3) := by decide +kernel
theorem p_M_25 {p : Program} {l : Launch} {e : Env} {R : Room} {s : Jvm.State} {m : MethodId} {args : Array Value} {below : List Frame} {meth : Method} {c : Code} {H : Heap} {locs : List Loc} {cells slots : Nat} {Q : Jvm.State → Prop} {cc : ByteArray} {pc : Nat} {ls : Array Slot} {rest : List Value} {D : va_G} {A : Nat → Prop} {H0 : Heap} {ad : Nat → Nat → Nat} {ca : Nat → ClassId} {M M1 : me_M} {N : Nat → Nat} {own : String} {index j : Nat} {v : Int32} (he : M1 = wI M 1 j 25 v) (hexec : p.tables.exec = Jvm.exec) (hb : c.code = cc) (hts : ∀ w ∈ fg_g, w.before args s = true) (hown : s.vm.findClass own = some m.cls) (hK : va_K D classes (me_T ca) s) (hP : va_P D classes (me_W ad ca M) H) (hD : va_D A (me_W ad ca M)) (hwf : me_wf N M) (hS : va_S A H0 H locs) (hj : j < N 1) (hlink : (Cond.fieldLink own index "FilterGuardModel" "paths" "I").before args s = true) (hdg : decode cc pc = .ok (.putfield index, 3)) (kk : ∀ (H1 : Heap) (locs1 : List Loc), va_P D classes (me_W ad ca M1) H1 → va_D A (me_W ad ca M1) → me_wf N M1 → va_S A H0 H1 locs1 → W p l e R s m args below meth c H1 locs1 cells slots Q (F0 m (pc + 3) ls rest)) : W p l e R s m args below meth c H locs cells slots Q (F0 m pc ls (.int v :: .ref (ad 1 j) :: rest)) := by
  subst he
  exact me_put (M1 := wI M 1 j 25 v) (k := 1) (f := 25) (C := "FilterGuardModel") (T := F_M) (Nf := 75) hexec hb hts i_M t_M t_M_ok n_M hown hK hP hD hwf hS hj (by decide) rfl (by decide) (by decide) hlink (fun _ h9 => h9) rfl rfl rfl rfl (fun a b h => me_wIE h) (me_fIw (by decide) (by decide)) hdg (fun H1 locs1 a1 a2 a3 => kk H1 locs1 a1 a2 (me_wfI hwf (fun z => absurd z (by decide)) (fun z => absurd z (by decide))) a3)
theorem d_M_explore_116 : decode prog_14_method_106_code 116 = .ok (.aload_n 0, 1) := by decide +kernel
theorem d_M_explore_117 : decode prog_14_method_106_code 117 = .ok (.getfield 457, 3) := by decide +kernel
theorem d_M_explore_120 : decode prog_14_method_106_code 120 = .ok (.ifCond .le 49, 3) := by decide +kernel
theorem d_M_explore_123 : decode prog_14_method_106_code 123 = .ok (.aload_n 0, 1) := by decide +kernel
theorem d_M_explore_124 : decode prog_14_method_106_code 124 = .ok (.dup, 1) := by decide +kernel
theorem d_M_explore_125 : decode prog_14_method_106_code 125 = .ok (.getfield 457, 3) := by decide +kernel
theorem d_M_explore_128 : decode prog_14_method_106_code 128 = .ok (.iconst 1, 1) := by decide +kernel
theorem d_M_explore_129 : decode prog_14_method_106_code 129 = .ok (.isub, 1) := by decide +kernel
theorem d_M_explore_130 : decode prog_14_method_106_code 130 = .ok (.putfield 457, 3) := by decide +kernel
theorem d_M_explore_133 : decode prog_14_method_106_code 133 = .ok (.aload_n 0, 1) := by decide +kernel
theorem d_M_explore_134 : decode prog_14_method_106_code 134 = .ok (.sipush 201, 3) := by decide +kernel
theorem d_M_explore_137 : decode prog_14_method_106_code 137 = .ok (.aload_n 0, 1) := by decide +kernel
theorem d_M_explore_138 : decode prog_14_method_106_code 138 = .ok (.getfield 457, 3) := by decide +kernel
theorem d_M_explore_141 : decode prog_14_method_106_code 141 = .ok (.iadd, 1) := by decide +kernel
theorem d_M_explore_142 : decode prog_14_method_106_code 142 = .ok (.iconst 0, 1) := by decide +kernel
theorem d_M_explore_143 : decode prog_14_method_106_code 143 = .ok (.invokevirtual 467, 3) := by decide +kernel
theorem d_M_explore_146 : decode prog_14_method_106_code 146 = .ok (.aload_n 0, 1) := by decide +kernel
theorem d_M_explore_147 : decode prog_14_method_106_code 147 = .ok (.aload_n 0, 1) := by decide +kernel
theorem d_M_explore_148 : decode prog_14_method_106_code 148 = .ok (.getfield 134, 3) := by decide +kernel
theorem d_M_explore_151 : decode prog_14_method_106_code 151 = .ok (.aload_n 0, 1) := by decide +kernel
theorem d_M_explore_152 : decode prog_14_method_106_code 152 = .ok (.getfield 457, 3) := by decide +kernel
theorem d_M_explore_155 : decode prog_14_method_106_code 155 = .ok (.iaload, 1) := by decide +kernel
theorem d_M_explore_156 : decode prog_14_method_106_code 156 = .ok (.putfield 499, 3) := by decide +kernel
theorem d_M_explore_159 : decode prog_14_method_106_code 159 = .ok (.aload_n 0, 1) := by decide +kernel
theorem d_M_explore_160 : decode prog_14_method_106_code 160 = .ok (.getfield 131, 3) := by decide +kernel
theorem d_M_explore_163 : decode prog_14_method_106_code 163 = .ok (.aload_n 0, 1) := by decide +kernel
theorem d_M_explore_164 : decode prog_14_method_106_code 164 = .ok (.getfield 457, 3) := by decide +kernel
theorem d_M_explore_167 : decode prog_14_method_106_code 167 = .ok (.iaload, 1) := by decide +kernel
theorem d_M_explore_168 : decode prog_14_method_106_code 168 = .ok (.istore_n 2, 1) := by decide +kernel
theorem d_M_explore_38 : decode prog_14_method_106_code 38 = .ok (.istore_n 3, 1) := by decide +kernel
theorem d_M_explore_39 : decode prog_14_method_106_code 39 = .ok (.iload_n 3, 1) := by decide +kernel
theorem d_M_explore_40 : decode prog_14_method_106_code 40 = .ok (.ifCond .le 5, 3) := by decide +kernel
theorem d_M_explore_45 : decode prog_14_method_106_code 45 = .ok (.iload_n 3, 1) := by decide +kernel
theorem d_M_explore_46 : decode prog_14_method_106_code 46 = .ok (.ifCond .ne 54, 3) := by decide +kernel
theorem d_M_explore_100 : decode prog_14_method_106_code 100 = .ok (.iconst (-1), 1) := by decide +kernel
theorem d_M_explore_101 : decode prog_14_method_106_code 101 = .ok (.istore_n 2, 1) := by decide +kernel
theorem d_M_explore_49 : decode prog_14_method_106_code 49 = .ok (.aload_n 0, 1) := by decide +kernel
theorem d_M_explore_50 : decode prog_14_method_106_code 50 = .ok (.getfield 553, 3) := by decide +kernel
theorem u_1763 : Cond.fieldLink "FilterGuardModel" 553 "FilterGuardModel" "visits" "I" ∈ fg_g := fg_in (List.mem_of_getElem? (i := 1763) (by decide +kernel)) rfl
theorem g_M_22 {p : Program} {l : Launch} {e : Env} {R : Room} {s : Jvm.State} {m : MethodId} {args : Array Value} {below : List Frame} {meth : Method} {c : Code} {H : Heap} {locs : List Loc} {cells slots : Nat} {Q : Jvm.State → Prop} {cc : ByteArray} {pc : Nat} {ls : Array Slot} {rest : List Value} {D : va_G} {ad : Nat → Nat → Nat} {ca : Nat → ClassId} {M : me_M} {N : Nat → Nat} {own : String} {index j : Nat} (hexec : p.tables.exec = Jvm.exec) (hb : c.code = cc) (hts : ∀ w ∈ fg_g, w.before args s = true) (hown : s.vm.findClass own = some m.cls) (hK : va_K D classes (me_T ca) s) (hP : va_P D classes (me_W ad ca M) H) (hwf : me_wf N M) (hj : j < N 1) (hlink : (Cond.fieldLink own index "FilterGuardModel" "visits" "I").before args s = true) (hdg : decode cc pc = .ok (.getfield index, 3)) (kk : W p l e R s m args below meth c H locs cells slots Q (F0 m (pc + 3) ls (.int (mI M 1 j 22) :: rest))) : W p l e R s m args below meth c H locs cells slots Q (F0 m pc ls (.ref (ad 1 j) :: rest)) := me_get (k := 1) (f := 22) (C := "FilterGuardModel") (T := F_M) (Nf := 75) hexec hb hts i_M hown hK hP hwf hj (by decide) rfl (by decide) (by decide) hlink (fun _ h9 => h9) hdg kk
theorem d_M_explore_53 : decode prog_14_method_106_code 53 = .ok (.iload_n 1, 1) := by decide +kernel
theorem d_M_explore_54 : decode prog_14_method_106_code 54 = .ok (.if_icmp .ne 6, 3) := by decide +kernel
theorem d_M_explore_60 : decode prog_14_method_106_code 60 = .ok (.aload_n 0, 1) := by decide +kernel
theorem d_M_explore_61 : decode prog_14_method_106_code 61 = .ok (.dup, 1) := by decide +kernel
theorem d_M_explore_62 : decode prog_14_method_106_code 62 = .ok (.getfield 553, 3) := by decide +kernel
theorem d_M_explore_65 : decode prog_14_method_106_code 65 = .ok (.iconst 1, 1) := by decide +kernel
theorem d_M_explore_66 : decode prog_14_method_106_code 66 = .ok (.iadd, 1) := by decide +kernel
theorem d_M_explore_67 : decode prog_14_method_106_code 67 = .ok (.putfield 553, 3) := by decide +kernel
theorem p_M_22 {p : Program} {l : Launch} {e : Env} {R : Room} {s : Jvm.State} {m : MethodId} {args : Array Value} {below : List Frame} {meth : Method} {c : Code} {H : Heap} {locs : List Loc} {cells slots : Nat} {Q : Jvm.State → Prop} {cc : ByteArray} {pc : Nat} {ls : Array Slot} {rest : List Value} {D : va_G} {A : Nat → Prop} {H0 : Heap} {ad : Nat → Nat → Nat} {ca : Nat → ClassId} {M M1 : me_M} {N : Nat → Nat} {own : String} {index j : Nat} {v : Int32} (he : M1 = wI M 1 j 22 v) (hexec : p.tables.exec = Jvm.exec) (hb : c.code = cc) (hts : ∀ w ∈ fg_g, w.before args s = true) (hown : s.vm.findClass own = some m.cls) (hK : va_K D classes (me_T ca) s) (hP : va_P D classes (me_W ad ca M) H) (hD : va_D A (me_W ad ca M)) (hwf : me_wf N M) (hS : va_S A H0 H locs) (hj : j < N 1) (hlink : (Cond.fieldLink own index "FilterGuardModel" "visits" "I").before args s = true) (hdg : decode cc pc = .ok (.putfield index, 3)) (kk : ∀ (H1 : Heap) (locs1 : List Loc), va_P D classes (me_W ad ca M1) H1 → va_D A (me_W ad ca M1) → me_wf N M1 → va_S A H0 H1 locs1 → W p l e R s m args below meth c H1 locs1 cells slots Q (F0 m (pc + 3) ls rest)) : W p l e R s m args below meth c H locs cells slots Q (F0 m pc ls (.int v :: .ref (ad 1 j) :: rest)) := by
  subst he
  exact me_put (M1 := wI M 1 j 22 v) (k := 1) (f := 22) (C := "FilterGuardModel") (T := F_M) (Nf := 75) hexec hb hts i_M t_M t_M_ok n_M hown hK hP hD hwf hS hj (by decide) rfl (by decide) (by decide) hlink (fun _ h9 => h9) rfl rfl rfl rfl (fun a b h => me_wIE h) (me_fIw (by decide) (by decide)) hdg (fun H1 locs1 a1 a2 a3 => kk H1 locs1 a1 a2 (me_wfI hwf (fun z => absurd z (by decide)) (fun z => absurd z (by decide))) a3)
theorem d_M_explore_70 : decode prog_14_method_106_code 70 = .ok (.aload_n 0, 1) := by decide +kernel
theorem d_M_explore_71 : decode prog_14_method_106_code 71 = .ok (.getfield 47, 3) := by decide +kernel
theorem g_M_27 {p : Program} {l : Launch} {e : Env} {R : Room} {s : Jvm.State} {m : MethodId} {args : Array Value} {below : List Frame} {meth : Method} {c : Code} {H : Heap} {locs : List Loc} {cells slots : Nat} {Q : Jvm.State → Prop} {cc : ByteArray} {pc : Nat} {ls : Array Slot} {rest : List Value} {D : va_G} {ad : Nat → Nat → Nat} {ca : Nat → ClassId} {M : me_M} {N : Nat → Nat} {own : String} {index j : Nat} (hexec : p.tables.exec = Jvm.exec) (hb : c.code = cc) (hts : ∀ w ∈ fg_g, w.before args s = true) (hown : s.vm.findClass own = some m.cls) (hK : va_K D classes (me_T ca) s) (hP : va_P D classes (me_W ad ca M) H) (hwf : me_wf N M) (hj : j < N 1) (hlink : (Cond.fieldLink own index "FilterGuardModel" "visited" "[I").before args s = true) (hdg : decode cc pc = .ok (.getfield index, 3)) (kk : W p l e R s m args below meth c H locs cells slots Q (F0 m (pc + 3) ls (va_rf ((mR M 1 j 27).map (ad 13)) :: rest))) : W p l e R s m args below meth c H locs cells slots Q (F0 m pc ls (.ref (ad 1 j) :: rest)) := me_get (k := 1) (f := 27) (C := "FilterGuardModel") (T := F_M) (Nf := 75) hexec hb hts i_M hown hK hP hwf hj (by decide) rfl (by decide) (by decide) hlink (fun _ h9 => h9) hdg kk
theorem d_M_explore_74 : decode prog_14_method_106_code 74 = .ok (.iload_n 2, 1) := by decide +kernel
theorem d_M_explore_75 : decode prog_14_method_106_code 75 = .ok (.dup2, 1) := by decide +kernel
theorem d_M_explore_76 : decode prog_14_method_106_code 76 = .ok (.iaload, 1) := by decide +kernel
theorem d_M_explore_77 : decode prog_14_method_106_code 77 = .ok (.iconst 1, 1) := by decide +kernel
theorem d_M_explore_78 : decode prog_14_method_106_code 78 = .ok (.iadd, 1) := by decide +kernel
theorem d_M_explore_79 : decode prog_14_method_106_code 79 = .ok (.iastore, 1) := by decide +kernel
theorem d_M_explore_80 : decode prog_14_method_106_code 80 = .ok (.aload_n 0, 1) := by decide +kernel
theorem d_M_explore_81 : decode prog_14_method_106_code 81 = .ok (.iload_n 2, 1) := by decide +kernel
theorem d_M_explore_82 : decode prog_14_method_106_code 82 = .ok (.invokevirtual 556, 3) := by decide +kernel
theorem u_2100 : Cond.methodLink "FilterGuardModel" 556 ⟨"FilterGuardModel", "does", "(I)I"⟩ ∈ fg_g := fg_in (List.mem_of_getElem? (i := 2100) (by decide +kernel)) rfl
theorem u_2103 : Cond.code ⟨"FilterGuardModel", "does", "(I)I"⟩ prog_14_method_104_code 4 (some .int) ∈ fg_g := fg_in (List.mem_of_getElem? (i := 2103) (by decide +kernel)) rfl
theorem u_2102 : Cond.instanceMethod ⟨"FilterGuardModel", "does", "(I)I"⟩ ∈ fg_g := fg_in (List.mem_of_getElem? (i := 2102) (by decide +kernel)) rfl
theorem u_104 : Cond.selects "FilterGuardModel" ⟨"FilterGuardModel", "does", "(I)I"⟩ ⟨"FilterGuardModel", "does", "(I)I"⟩ ∈ fg_g := fg_in (List.mem_of_getElem? (i := 104) (by decide +kernel)) rfl
theorem d_M_explore_85 : decode prog_14_method_106_code 85 = .ok (.istore_n 3, 1) := by decide +kernel
theorem d_M_explore_86 : decode prog_14_method_106_code 86 = .ok (.iload_n 3, 1) := by decide +kernel
theorem d_M_explore_87 : decode prog_14_method_106_code 87 = .ok (.ifCond .le 5, 3) := by decide +kernel
theorem d_M_explore_92 : decode prog_14_method_106_code 92 = .ok (.aload_n 0, 1) := by decide +kernel
theorem d_M_explore_93 : decode prog_14_method_106_code 93 = .ok (.getfield 514, 3) := by decide +kernel
theorem g_M_70 {p : Program} {l : Launch} {e : Env} {R : Room} {s : Jvm.State} {m : MethodId} {args : Array Value} {below : List Frame} {meth : Method} {c : Code} {H : Heap} {locs : List Loc} {cells slots : Nat} {Q : Jvm.State → Prop} {cc : ByteArray} {pc : Nat} {ls : Array Slot} {rest : List Value} {D : va_G} {ad : Nat → Nat → Nat} {ca : Nat → ClassId} {M : me_M} {N : Nat → Nat} {own : String} {index j : Nat} (hexec : p.tables.exec = Jvm.exec) (hb : c.code = cc) (hts : ∀ w ∈ fg_g, w.before args s = true) (hown : s.vm.findClass own = some m.cls) (hK : va_K D classes (me_T ca) s) (hP : va_P D classes (me_W ad ca M) H) (hwf : me_wf N M) (hj : j < N 1) (hlink : (Cond.fieldLink own index "FilterGuardModel" "next" "I").before args s = true) (hdg : decode cc pc = .ok (.getfield index, 3)) (kk : W p l e R s m args below meth c H locs cells slots Q (F0 m (pc + 3) ls (.int (mI M 1 j 70) :: rest))) : W p l e R s m args below meth c H locs cells slots Q (F0 m pc ls (.ref (ad 1 j) :: rest)) := me_get (k := 1) (f := 70) (C := "FilterGuardModel") (T := F_M) (Nf := 75) hexec hb hts i_M hown hK hP hwf hj (by decide) rfl (by decide) (by decide) hlink (fun _ h9 => h9) hdg kk
theorem d_M_explore_96 : decode prog_14_method_106_code 96 = .ok (.istore_n 2, 1) := by decide +kernel
theorem d_M_explore_97 : decode prog_14_method_106_code 97 = .ok (.goto 5, 3) := by decide +kernel
theorem d_M_explore_90 : decode prog_14_method_106_code 90 = .ok (.iload_n 3, 1) := by decide +kernel
theorem d_M_explore_91 : decode prog_14_method_106_code 91 = .ok (.ireturn, 1) := by decide +kernel
theorem d_M_explore_57 : decode prog_14_method_106_code 57 = .ok (.bipush 20, 2) := by decide +kernel
theorem d_M_explore_59 : decode prog_14_method_106_code 59 = .ok (.ireturn, 1) := by decide +kernel
theorem d_M_explore_43 : decode prog_14_method_106_code 43 = .ok (.iload_n 3, 1) := by decide +kernel
theorem d_M_explore_44 : decode prog_14_method_106_code 44 = .ok (.ireturn, 1) := by decide +kernel
theorem d_M_explore_11 : decode prog_14_method_106_code 11 = .ok (.iload_n 2, 1) := by decide +kernel
theorem d_M_explore_12 : decode prog_14_method_106_code 12 = .ok (.ifCond .lt 160, 3) := by decide +kernel
theorem d_M_explore_172 : decode prog_14_method_106_code 172 = .ok (.iconst 0, 1) := by decide +kernel
theorem d_M_explore_173 : decode prog_14_method_106_code 173 = .ok (.ireturn, 1) := by decide +kernel
theorem d_M_explore_15 : decode prog_14_method_106_code 15 = .ok (.aload_n 0, 1) := by decide +kernel
theorem d_M_explore_16 : decode prog_14_method_106_code 16 = .ok (.iload_n 2, 1) := by decide +kernel
theorem d_M_explore_17 : decode prog_14_method_106_code 17 = .ok (.putfield 351, 3) := by decide +kernel
theorem d_M_explore_20 : decode prog_14_method_106_code 20 = .ok (.aload_n 0, 1) := by decide +kernel
theorem d_M_explore_21 : decode prog_14_method_106_code 21 = .ok (.getfield 65, 3) := by decide +kernel
theorem d_M_explore_24 : decode prog_14_method_106_code 24 = .ok (.iload_n 2, 1) := by decide +kernel
theorem d_M_explore_25 : decode prog_14_method_106_code 25 = .ok (.baload, 1) := by decide +kernel
theorem d_M_explore_26 : decode prog_14_method_106_code 26 = .ok (.ifCond .eq 11, 3) := by decide +kernel
theorem d_M_explore_37 : decode prog_14_method_106_code 37 = .ok (.iconst 0, 1) := by decide +kernel
theorem d_M_explore_29 : decode prog_14_method_106_code 29 = .ok (.aload_n 0, 1) := by decide +kernel
theorem d_M_explore_30 : decode prog_14_method_106_code 30 = .ok (.iload_n 2, 1) := by decide +kernel
theorem d_M_explore_31 : decode prog_14_method_106_code 31 = .ok (.invokevirtual 550, 3) := by decide +kernel
theorem u_2048 : Cond.methodLink "FilterGuardModel" 550 ⟨"FilterGuardModel", "lookAtKept", "(I)I"⟩ ∈ fg_g := fg_in (List.mem_of_getElem? (i := 2048) (by decide +kernel)) rfl
theorem u_2051 : Cond.code ⟨"FilterGuardModel", "lookAtKept", "(I)I"⟩ prog_14_method_101_code 3 (some .int) ∈ fg_g := fg_in (List.mem_of_getElem? (i := 2051) (by decide +kernel)) rfl
theorem u_2050 : Cond.instanceMethod ⟨"FilterGuardModel", "lookAtKept", "(I)I"⟩ ∈ fg_g := fg_in (List.mem_of_getElem? (i := 2050) (by decide +kernel)) rfl
theorem u_93 : Cond.selects "FilterGuardModel" ⟨"FilterGuardModel", "lookAtKept", "(I)I"⟩ ⟨"FilterGuardModel", "lookAtKept", "(I)I"⟩ ∈ fg_g := fg_in (List.mem_of_getElem? (i := 93) (by decide +kernel)) rfl
theorem d_M_explore_34 : decode prog_14_method_106_code 34 = .ok (.goto 4, 3) := by decide +kernel
theorem d_M_explore_0 : decode prog_14_method_106_code 0 = .ok (.aload_n 0, 1) := by decide +kernel
theorem d_M_explore_1 : decode prog_14_method_106_code 1 = .ok (.invokevirtual 547, 3) := by decide +kernel
theorem u_2036 : Cond.methodLink "FilterGuardModel" 547 ⟨"FilterGuardModel", "begin", "()V"⟩ ∈ fg_g := fg_in (List.mem_of_getElem? (i := 2036) (by decide +kernel)) rfl
theorem u_2039 : Cond.code ⟨"FilterGuardModel", "begin", "()V"⟩ prog_14_method_63_code 2 none ∈ fg_g := fg_in (List.mem_of_getElem? (i := 2039) (by decide +kernel)) rfl
theorem u_2038 : Cond.instanceMethod ⟨"FilterGuardModel", "begin", "()V"⟩ ∈ fg_g := fg_in (List.mem_of_getElem? (i := 2038) (by decide +kernel)) rfl
theorem u_90 : Cond.selects "FilterGuardModel" ⟨"FilterGuardModel", "begin", "()V"⟩ ⟨"FilterGuardModel", "begin", "()V"⟩ ∈ fg_g := fg_in (List.mem_of_getElem? (i := 90) (by decide +kernel)) rfl
theorem d_M_explore_4 : decode prog_14_method_106_code 4 = .ok (.aload_n 0, 1) := by decide +kernel
theorem d_M_explore_5 : decode prog_14_method_106_code 5 = .ok (.iconst 0, 1) := by decide +kernel
theorem d_M_explore_6 : decode prog_14_method_106_code 6 = .ok (.putfield 499, 3) := by decide +kernel
theorem d_M_explore_9 : decode prog_14_method_106_code 9 = .ok (.iconst 0, 1) := by decide +kernel
theorem d_M_explore_10 : decode prog_14_method_106_code 10 = .ok (.istore_n 2, 1) := by decide +kernel
abbrev y_M_explore : MethodName := ⟨"FilterGuardModel", "explore", "(I)I"⟩
def rm_M_explore : Room := { frames := 12, cells := 0, slots := 0, locals := 294 }
abbrev q_M_explore (D : va_G) (ad : Nat → Nat → Nat) (ca : Nat → ClassId) (N : Nat → Nat) (M0 MZ : me_M) (RZ : Int32) (A : Nat → Prop) : Array Value → Jvm.State → Outcome → Jvm.State → Prop := va_Qi (fun r (_ : Unit) => r = RZ ∧ me_wf N MZ ∧ me_kp M0 MZ) (fg_B D A (fun _ => me_W ad ca MZ) (fun _ => [])) A
set_option maxHeartbeats 4000000 in
set_option maxRecDepth 100000 in
theorem c_M_explore (l : Launch) (D : va_G) (ad : Nat → Nat → Nat) (ca : Nat → ClassId) (N : Nat → Nat) (M0 MZ : me_M) (RZ : Int32) (j0 : Nat) (x1 : Int32) (h : f_M_explore M0 j0 x1 = (some (MZ, RZ))) (hwf : me_wf N M0) (hj0 : j0 < N 1) (sz : Nat) : Met l y_M_explore (fg_w y_M_explore prog_14_method_106_code 4 (some .int)) rm_M_explore (va_Pc [.ref (ad 1 j0), .int x1] (fz_P D (me_T ca) (me_W ad ca M0) sz)) (q_M_explore D ad ca N M0 MZ RZ (va_A (me_W ad ca M0) sz)) rm_M_explore.cells rm_M_explore.slots (va_A (me_W ad ca M0) sz) := by
  refine fz_enter (fun A => q_M_explore D ad ca N M0 MZ RZ A) (by decide +kernel) (Nat.le_of_ble_eq_true rfl) ?_
  intro p e s m below meth c ls A hx hb hml hown hts hr hlocks hin hP hK hD hS hA hX hl hz
  have hl : lv_has ls 4 [(0, .ref (ad 1 j0)), (1, .int x1)] := hl
  unfold f_M_explore at h
  have hkp : me_kp M0 M0 := me_kp.rf
  have hkb := hkp
  have b_102 : ∀ (k11 : me_M → Int32 → Option (me_M × Int32)) (hk11 : ∀ (M : me_M) (y2 : Int32) (H : Heap) (locs : List Loc) (ls : Array Slot), k11 M y2 = (some (MZ, RZ)) → me_wf N M → me_kp M0 M → va_P D classes (me_W ad ca M) H → va_D A (me_W ad ca M) → va_S A s.heap H locs → lv_has ls 4 [(0, .ref (ad 1 j0)), (1, .int x1), (2, .int y2)] → W p l e rm_M_explore s m [.ref (ad 1 j0), .int x1].toArray below meth c H locs 0 0 (MQ below (q_M_explore D ad ca N M0 MZ RZ A) [.ref (ad 1 j0), .int x1].toArray s rm_M_explore.cells rm_M_explore.slots A) (F0 m 11 ls [])), ∀ (M : me_M) (y2 : Int32) (H : Heap) (locs : List Loc) (ls : Array Slot), f_M_explore_b102 k11 j0 x1 M y2 = (some (MZ, RZ)) → me_wf N M → me_kp M0 M → va_P D classes (me_W ad ca M) H → va_D A (me_W ad ca M) → va_S A s.heap H locs → lv_has ls 4 [(0, .ref (ad 1 j0)), (1, .int x1), (2, .int y2)] → W p l e rm_M_explore s m [.ref (ad 1 j0), .int x1].toArray below meth c H locs 0 0 (MQ below (q_M_explore D ad ca N M0 MZ RZ A) [.ref (ad 1 j0), .int x1].toArray s rm_M_explore.cells rm_M_explore.slots A) (F0 m 102 ls []) := by
    intro k11 hk11 M y2 H locs ls h hwf hkp hP hD hS hl
    unfold f_M_explore_b102 at h
    have hkb := hkp
    refine lv_iload_n hx hb d_M_explore_102 rfl (lv_at hl 2 rfl) ?_
    refine lv_if_ge (tgt := 169) hx hb d_M_explore_103 (by decide) (fun c1 => ?_) (fun c1 => ?_)
    · have h := if_t c1 h
      refine lv_goto (tgt := 11) hx hb d_M_explore_169 (by decide) ?_
      exact hk11 M y2 _ _ _ h hwf hkp hP hD hS (lv_sub hl [0, 1, 2] rfl)
    have h := if_f c1 h
    refine lv_aload_n hx hb d_M_explore_106 rfl (lv_at hl 0 rfl) ?_
    refine lv_dup hx hb d_M_explore_107 rfl ?_
    refine g_M_25 hx hb hts hown hK hP hwf hj0 (hts _ u_1766) d_M_explore_108 ?_
    refine lv_iconst (v := 1) hx hb d_M_explore_111 (by decide) ?_
    refine lv_iadd hx hb d_M_explore_112 ?_
    obtain ⟨M2, eM2, h⟩ := st_ob h
    refine p_M_25 eM2 hx hb hts hown hK hP hD hwf hS hj0 (hts _ u_1766) d_M_explore_113 (fun H locs hP hD hwf hS => ?_)
    have hkp := kp_I eM2 hkp
    refine lv_aload_n hx hb d_M_explore_116 rfl (lv_at hl 0 rfl) ?_
    refine g_M_62 hx hb hts hown hK hP hwf hj0 (hts _ u_1803) d_M_explore_117 ?_
    refine lv_if_le (tgt := 169) hx hb d_M_explore_120 (by decide) (fun c3 => ?_) (fun c3 => ?_)
    · have h := if_t c3 h
      refine lv_goto (tgt := 11) hx hb d_M_explore_169 (by decide) ?_
      exact hk11 M2 y2 _ _ _ h hwf hkp hP hD hS (lv_sub hl [0, 1, 2] rfl)
    have h := if_f c3 h
    refine lv_aload_n hx hb d_M_explore_123 rfl (lv_at hl 0 rfl) ?_
    refine lv_dup hx hb d_M_explore_124 rfl ?_
    refine g_M_62 hx hb hts hown hK hP hwf hj0 (hts _ u_1803) d_M_explore_125 ?_
    refine lv_iconst (v := 1) hx hb d_M_explore_128 (by decide) ?_
    refine lv_isub hx hb d_M_explore_129 ?_
    obtain ⟨M4, eM4, h⟩ := st_ob h
    refine p_M_62 eM4 hx hb hts hown hK hP hD hwf hS hj0 (hts _ u_1803) d_M_explore_130 (fun H locs hP hD hwf hS => ?_)
    have hkp := kp_I eM4 hkp
    refine lv_aload_n hx hb d_M_explore_133 rfl (lv_at hl 0 rfl) ?_
    refine lv_sipush (v := 201) hx hb d_M_explore_134 (by decide) ?_
    refine lv_aload_n hx hb d_M_explore_137 rfl (lv_at hl 0 rfl) ?_
    refine g_M_62 hx hb hts hown hK hP hwf hj0 (hts _ u_1803) d_M_explore_138 ?_
    refine lv_iadd hx hb d_M_explore_141 ?_
    refine lv_iconst (v := 0) hx hb d_M_explore_142 (by decide) ?_
    obtain ⟨M5, eM5, h⟩ := bd_ob h
    refine me_thenv0 (M1 := M5) (me_runV (C := "FilterGuardModel") (As := [.int (201 + (mI M4 1 j0 62)), .int 0]) (rest := []) ⟨hx, hb, hml, hown, hts⟩ (c_M_copyState l D ad ca N M4 M5 j0 (201 + (mI M4 1 j0 62)) (0 : Int32) eM5 hwf hj0 _) rfl (by show fg_nm y_M_copyState 2; decide +kernel) u_2088 u_2090 u_101 u_192 u_2091 ⟨Nat.le_of_ble_eq_true rfl, Nat.le_of_ble_eq_true rfl⟩ hX hz hK hP hD hwf hS hA hj0 (by decide) rfl rfl rfl hl.1 (Nat.le_of_ble_eq_true rfl) d_M_explore_143 ⟨Nat.le_of_ble_eq_true rfl, Nat.le_of_ble_eq_true rfl⟩) hP hD hK hS hA rfl rfl (fun H locs hw hP hD hS => ?_)
    obtain ⟨hwf, hk9⟩ := hw
    have hkp := hkp.tr hk9
    refine lv_aload_n hx hb d_M_explore_146 rfl (lv_at hl 0 rfl) ?_
    refine lv_aload_n hx hb d_M_explore_147 rfl (lv_at hl 0 rfl) ?_
    refine g_M_64 hx hb hts hown hK hP hwf hj0 (hts _ u_1805) d_M_explore_148 ?_
    obtain ⟨j6, e7, h⟩ := bd_ob h
    have hj6 : j6 < N 13 := (hwf.2.1 1 j0 64 _ (kp_r hkb hkp e7) (by decide) hj0)
    refine me_opt (j := j6) (kp_r hkb hkp e7) ?_
    refine lv_aload_n hx hb d_M_explore_151 rfl (lv_at hl 0 rfl) ?_
    refine g_M_62 hx hb hts hown hK hP hwf hj0 (hts _ u_1803) d_M_explore_152 ?_
    obtain ⟨g8, h⟩ := gd_ob h
    refine me_iald hx hb hK hP hwf hj6 (kp_z hkb.z hkp.z g8) d_M_explore_155 ?_
    obtain ⟨M9, eM9, h⟩ := st_ob h
    refine p_M_65 eM9 hx hb hts hown hK hP hD hwf hS hj0 (hts _ u_1806) d_M_explore_156 (fun H locs hP hD hwf hS => ?_)
    have hkp := kp_I eM9 hkp
    refine lv_aload_n hx hb d_M_explore_159 rfl (lv_at hl 0 rfl) ?_
    refine g_M_63 hx hb hts hown hK hP hwf hj0 (hts _ u_1804) d_M_explore_160 ?_
    obtain ⟨j10, e11, h⟩ := bd_ob h
    have hj10 : j10 < N 13 := (hwf.2.1 1 j0 63 _ (kp_r hkb hkp e11) (by decide) hj0)
    refine me_opt (j := j10) (kp_r hkb hkp e11) ?_
    refine lv_aload_n hx hb d_M_explore_163 rfl (lv_at hl 0 rfl) ?_
    refine g_M_62 hx hb hts hown hK hP hwf hj0 (hts _ u_1803) d_M_explore_164 ?_
    obtain ⟨g12, h⟩ := gd_ob h
    refine me_iald hx hb hK hP hwf hj10 (kp_z hkb.z hkp.z g12) d_M_explore_167 ?_
    obtain ⟨v13, ev13, h⟩ := st_ob h
    refine fg_topi (y := v13) ev13.symm ?_
    refine lv_istore_n (lv' := [(2, .int v13), (0, .ref (ad 1 j0)), (1, .int x1)]) hx hb d_M_explore_168 rfl hl (by decide) rfl (fun ls hl => ?_)
    refine lv_goto (tgt := 11) hx hb d_M_explore_169 (by decide) ?_
    exact hk11 M9 v13 _ _ _ h hwf hkp hP hD hS (lv_sub hl [1, 2, 0] rfl)
  have b_38 : ∀ (k11 : me_M → Int32 → Option (me_M × Int32)) (hk11 : ∀ (M : me_M) (y2 : Int32) (H : Heap) (locs : List Loc) (ls : Array Slot), k11 M y2 = (some (MZ, RZ)) → me_wf N M → me_kp M0 M → va_P D classes (me_W ad ca M) H → va_D A (me_W ad ca M) → va_S A s.heap H locs → lv_has ls 4 [(0, .ref (ad 1 j0)), (1, .int x1), (2, .int y2)] → W p l e rm_M_explore s m [.ref (ad 1 j0), .int x1].toArray below meth c H locs 0 0 (MQ below (q_M_explore D ad ca N M0 MZ RZ A) [.ref (ad 1 j0), .int x1].toArray s rm_M_explore.cells rm_M_explore.slots A) (F0 m 11 ls [])), ∀ (M : me_M) (y2 : Int32) (s0 : Int32) (H : Heap) (locs : List Loc) (ls : Array Slot), f_M_explore_b38 k11 j0 x1 M y2 s0 = (some (MZ, RZ)) → me_wf N M → me_kp M0 M → va_P D classes (me_W ad ca M) H → va_D A (me_W ad ca M) → va_S A s.heap H locs → lv_has ls 4 [(0, .ref (ad 1 j0)), (1, .int x1), (2, .int y2)] → W p l e rm_M_explore s m [.ref (ad 1 j0), .int x1].toArray below meth c H locs 0 0 (MQ below (q_M_explore D ad ca N M0 MZ RZ A) [.ref (ad 1 j0), .int x1].toArray s rm_M_explore.cells rm_M_explore.slots A) (F0 m 38 ls [.int s0]) := by
    intro k11 hk11 M y2 s0 H locs ls h hwf hkp hP hD hS hl
    unfold f_M_explore_b38 at h
    have hkb := hkp
    refine lv_istore_n (lv' := [(3, .int s0), (0, .ref (ad 1 j0)), (1, .int x1), (2, .int y2)]) hx hb d_M_explore_38 rfl hl (by decide) rfl (fun ls hl => ?_)
    refine lv_iload_n hx hb d_M_explore_39 rfl (lv_at hl 0 rfl) ?_
    refine lv_if_le (tgt := 45) hx hb d_M_explore_40 (by decide) (fun c14 => ?_) (fun c14 => ?_)
    · have h := if_t c14 h
      refine lv_iload_n hx hb d_M_explore_45 rfl (lv_at hl 0 rfl) ?_
      refine lv_if_ne (tgt := 100) hx hb d_M_explore_46 (by decide) (fun c15 => ?_) (fun c15 => ?_)
      · have h := if_f c15 h
        refine lv_iconst (v := (-1)) hx hb d_M_explore_100 (by decide) ?_
        refine lv_istore_n (lv' := [(2, .int (-1)), (3, .int s0), (0, .ref (ad 1 j0)), (1, .int x1)]) hx hb d_M_explore_101 rfl hl (by decide) rfl (fun ls hl => ?_)
        exact b_102 _ hk11 M (-1 : Int32) _ _ _ h hwf hkp hP hD hS (lv_sub hl [2, 3, 0] rfl)
      have h := if_t c15 h
      refine lv_aload_n hx hb d_M_explore_49 rfl (lv_at hl 1 rfl) ?_
      refine g_M_22 hx hb hts hown hK hP hwf hj0 (hts _ u_1763) d_M_explore_50 ?_
      refine lv_iload_n hx hb d_M_explore_53 rfl (lv_at hl 2 rfl) ?_
      refine lv_icmp_ne (tgt := 60) hx hb d_M_explore_54 (by decide) (fun c16 => ?_) (fun c16 => ?_)
      · have h := if_f c16 h
        refine lv_aload_n hx hb d_M_explore_60 rfl (lv_at hl 1 rfl) ?_
        refine lv_dup hx hb d_M_explore_61 rfl ?_
        refine g_M_22 hx hb hts hown hK hP hwf hj0 (hts _ u_1763) d_M_explore_62 ?_
        refine lv_iconst (v := 1) hx hb d_M_explore_65 (by decide) ?_
        refine lv_iadd hx hb d_M_explore_66 ?_
        obtain ⟨M17, eM17, h⟩ := st_ob h
        refine p_M_22 eM17 hx hb hts hown hK hP hD hwf hS hj0 (hts _ u_1763) d_M_explore_67 (fun H locs hP hD hwf hS => ?_)
        have hkp := kp_I eM17 hkp
        refine lv_aload_n hx hb d_M_explore_70 rfl (lv_at hl 1 rfl) ?_
        refine g_M_27 hx hb hts hown hK hP hwf hj0 (hts _ u_1768) d_M_explore_71 ?_
        obtain ⟨j18, e19, h⟩ := bd_ob h
        have hj18 : j18 < N 13 := (hwf.2.1 1 j0 27 _ (kp_r hkb hkp e19) (by decide) hj0)
        refine me_opt (j := j18) (kp_r hkb hkp e19) ?_
        refine lv_iload_n hx hb d_M_explore_74 rfl (lv_at hl 3 rfl) ?_
        refine lv_dup2_11 hx hb d_M_explore_75 rfl rfl ?_
        obtain ⟨g20, h⟩ := gd_ob h
        refine me_iald hx hb hK hP hwf hj18 (kp_z hkb.z hkp.z g20) d_M_explore_76 ?_
        refine lv_iconst (v := 1) hx hb d_M_explore_77 (by decide) ?_
        refine lv_iadd hx hb d_M_explore_78 ?_
        obtain ⟨M21, eM21, h⟩ := st_ob h
        refine me_iast eM21 hx hb hK hP hD hwf hS hj18 (kp_z hkb.z hkp.z g20) d_M_explore_79 (fun H locs hP hD hwf hS => ?_)
        have hkp := kp_I eM21 hkp
        refine lv_aload_n hx hb d_M_explore_80 rfl (lv_at hl 1 rfl) ?_
        refine lv_iload_n hx hb d_M_explore_81 rfl (lv_at hl 3 rfl) ?_
        obtain ⟨M22, r23, eM22, h⟩ := b2_ob h
        refine me_theni0 (M1 := M22) (me_runV (C := "FilterGuardModel") (As := [.int y2]) (rest := []) ⟨hx, hb, hml, hown, hts⟩ (c_M_does0 l D ad ca N M21 M22 r23 j0 y2 eM22 hwf hj0 _) rfl (by show fg_nm y_M_does0 1; decide +kernel) u_2100 u_2102 u_104 u_192 u_2103 ⟨Nat.le_of_ble_eq_true rfl, Nat.le_of_ble_eq_true rfl⟩ hX hz hK hP hD hwf hS hA hj0 (by decide) rfl rfl rfl hl.1 (Nat.le_of_ble_eq_true rfl) d_M_explore_82 ⟨Nat.le_of_ble_eq_true rfl, Nat.le_of_ble_eq_true rfl⟩) hP hD hK hS hA rfl rfl (fun H locs hw hP hD hS => ?_)
        obtain ⟨hwf, hk9⟩ := hw
        have hkp := hkp.tr hk9
        refine lv_istore_n (lv' := [(3, .int r23), (0, .ref (ad 1 j0)), (1, .int x1), (2, .int y2)]) hx hb d_M_explore_85 rfl hl (by decide) rfl (fun ls hl => ?_)
        refine lv_iload_n hx hb d_M_explore_86 rfl (lv_at hl 0 rfl) ?_
        refine lv_if_le (tgt := 92) hx hb d_M_explore_87 (by decide) (fun c24 => ?_) (fun c24 => ?_)
        · have h := if_t c24 h
          refine lv_aload_n hx hb d_M_explore_92 rfl (lv_at hl 1 rfl) ?_
          refine g_M_70 hx hb hts hown hK hP hwf hj0 (hts _ u_1811) d_M_explore_93 ?_
          obtain ⟨v25, ev25, h⟩ := st_ob h
          refine fg_topi (y := v25) ev25.symm ?_
          refine lv_istore_n (lv' := [(2, .int v25), (3, .int r23), (0, .ref (ad 1 j0)), (1, .int x1)]) hx hb d_M_explore_96 rfl hl (by decide) rfl (fun ls hl => ?_)
          refine lv_goto (tgt := 102) hx hb d_M_explore_97 (by decide) ?_
          exact b_102 _ hk11 M22 v25 _ _ _ h hwf hkp hP hD hS (lv_sub hl [2, 3, 0] rfl)
        have h := if_f c24 h
        refine lv_iload_n hx hb d_M_explore_90 rfl (lv_at hl 0 rfl) ?_
        exact me_reti (me_kp M0) h hx hb hr hlocks hwf hkp hP hK hD hS d_M_explore_91
      have h := if_t c16 h
      refine lv_bipush (v := 20) hx hb d_M_explore_57 (by decide) ?_
      exact me_reti (me_kp M0) h hx hb hr hlocks hwf hkp hP hK hD hS d_M_explore_59
    have h := if_f c14 h
    refine lv_iload_n hx hb d_M_explore_43 rfl (lv_at hl 0 rfl) ?_
    exact me_reti (me_kp M0) h hx hb hr hlocks hwf hkp hP hK hD hS d_M_explore_44
  have b_11 : ∀ (fu : Nat), ∀ (M : me_M) (y2 : Int32) (H : Heap) (locs : List Loc) (ls : Array Slot), f_M_explore_l11 j0 x1 fu M y2 = (some (MZ, RZ)) → me_wf N M → me_kp M0 M → va_P D classes (me_W ad ca M) H → va_D A (me_W ad ca M) → va_S A s.heap H locs → lv_has ls 4 [(0, .ref (ad 1 j0)), (1, .int x1), (2, .int y2)] → W p l e rm_M_explore s m [.ref (ad 1 j0), .int x1].toArray below meth c H locs 0 0 (MQ below (q_M_explore D ad ca N M0 MZ RZ A) [.ref (ad 1 j0), .int x1].toArray s rm_M_explore.cells rm_M_explore.slots A) (F0 m 11 ls []) := by
    intro fu
    induction fu with
    | zero =>
      intro M y2 H locs ls h hwf hkp hP hD hS hl
      cases h
    | succ fu ih =>
      intro M y2 H locs ls h hwf hkp hP hD hS hl
      unfold f_M_explore_l11 at h
      have hkb := hkp
      refine lv_iload_n hx hb d_M_explore_11 rfl (lv_at hl 2 rfl) ?_
      refine lv_if_lt (tgt := 172) hx hb d_M_explore_12 (by decide) (fun c26 => ?_) (fun c26 => ?_)
      · have h := if_t c26 h
        refine lv_iconst (v := 0) hx hb d_M_explore_172 (by decide) ?_
        exact me_reti (me_kp M0) h hx hb hr hlocks hwf hkp hP hK hD hS d_M_explore_173
      have h := if_f c26 h
      refine lv_aload_n hx hb d_M_explore_15 rfl (lv_at hl 0 rfl) ?_
      refine lv_iload_n hx hb d_M_explore_16 rfl (lv_at hl 2 rfl) ?_
      obtain ⟨M27, eM27, h⟩ := st_ob h
      refine p_M_21 eM27 hx hb hts hown hK hP hD hwf hS hj0 (hts _ u_1762) d_M_explore_17 (fun H locs hP hD hwf hS => ?_)
      have hkp := kp_I eM27 hkp
      refine lv_aload_n hx hb d_M_explore_20 rfl (lv_at hl 0 rfl) ?_
      refine g_M_33 hx hb hts hown hK hP hwf hj0 (hts _ u_1774) d_M_explore_21 ?_
      obtain ⟨j28, e29, h⟩ := bd_ob h
      have hj28 : j28 < N 15 := (hwf.2.1 1 j0 33 _ (kp_r hkb hkp e29) (by decide) hj0)
      refine me_opt (j := j28) (kp_r hkb hkp e29) ?_
      refine lv_iload_n hx hb d_M_explore_24 rfl (lv_at hl 2 rfl) ?_
      obtain ⟨g30, h⟩ := gd_ob h
      refine me_zald hx hb hK hP hwf hj28 (kp_z hkb.z hkp.z g30) d_M_explore_25 ?_
      have z31 := hwf.2.2.2 15 j28 y2.toNatClampNeg rfl
      refine lv_if_eq (tgt := 37) hx hb d_M_explore_26 (by decide) (fun c32 => ?_) (fun c32 => ?_)
      · have h := if_t c32 h
        refine lv_iconst (v := 0) hx hb d_M_explore_37 (by decide) ?_
        exact b_38 _ ih M27 y2 (0 : Int32) _ _ _ h hwf hkp hP hD hS (lv_sub hl [0, 1, 2] rfl)
      have h := if_f c32 h
      refine lv_aload_n hx hb d_M_explore_29 rfl (lv_at hl 0 rfl) ?_
      refine lv_iload_n hx hb d_M_explore_30 rfl (lv_at hl 2 rfl) ?_
      obtain ⟨M33, r34, eM33, h⟩ := b2_ob h
      refine me_theni0 (M1 := M33) (me_runV (C := "FilterGuardModel") (As := [.int y2]) (rest := []) ⟨hx, hb, hml, hown, hts⟩ (c_M_lookAtKept l D ad ca N M27 M33 r34 j0 y2 eM33 hwf hj0 _) rfl (by show fg_nm y_M_lookAtKept 1; decide +kernel) u_2048 u_2050 u_93 u_192 u_2051 ⟨Nat.le_of_ble_eq_true rfl, Nat.le_of_ble_eq_true rfl⟩ hX hz hK hP hD hwf hS hA hj0 (by decide) rfl rfl rfl hl.1 (Nat.le_of_ble_eq_true rfl) d_M_explore_31 ⟨Nat.le_of_ble_eq_true rfl, Nat.le_of_ble_eq_true rfl⟩) hP hD hK hS hA rfl rfl (fun H locs hw hP hD hS => ?_)
      obtain ⟨hwf, hk9⟩ := hw
      have hkp := hkp.tr hk9
      refine lv_goto (tgt := 38) hx hb d_M_explore_34 (by decide) ?_
      exact b_38 _ ih M33 y2 r34 _ _ _ h hwf hkp hP hD hS (lv_sub hl [0, 1, 2] rfl)
  refine lv_aload_n hx hb d_M_explore_0 rfl (lv_at hl 0 rfl) ?_
  obtain ⟨M35, eM35, h⟩ := bd_ob h
  refine me_thenv0 (M1 := M35) (me_runV (C := "FilterGuardModel") (As := []) (rest := []) ⟨hx, hb, hml, hown, hts⟩ (c_M_begin l D ad ca N M0 M35 j0 eM35 hwf hj0 _) rfl (by show fg_nm y_M_begin 0; decide +kernel) u_2036 u_2038 u_90 u_192 u_2039 ⟨Nat.le_of_ble_eq_true rfl, Nat.le_of_ble_eq_true rfl⟩ hX hz hK hP hD hwf hS hA hj0 (by decide) rfl rfl rfl hl.1 (Nat.le_of_ble_eq_true rfl) d_M_explore_1 ⟨Nat.le_of_ble_eq_true rfl, Nat.le_of_ble_eq_true rfl⟩) hP hD hK hS hA rfl rfl (fun H locs hw hP hD hS => ?_)
  obtain ⟨hwf, hk9⟩ := hw
  have hkp := hkp.tr hk9
  refine lv_aload_n hx hb d_M_explore_4 rfl (lv_at hl 0 rfl) ?_
  refine lv_iconst (v := 0) hx hb d_M_explore_5 (by decide) ?_
  obtain ⟨M36, eM36, h⟩ := st_ob h
  refine p_M_65 eM36 hx hb hts hown hK hP hD hwf hS hj0 (hts _ u_1806) d_M_explore_6 (fun H locs hP hD hwf hS => ?_)
  have hkp := kp_I eM36 hkp
  refine lv_iconst (v := 0) hx hb d_M_explore_9 (by decide) ?_
  refine lv_istore_n (lv' := [(2, .int 0), (0, .ref (ad 1 j0)), (1, .int x1)]) hx hb d_M_explore_10 rfl hl (by decide) rfl (fun ls hl => ?_)
  exact b_11 _ M36 (0 : Int32) _ _ _ h hwf hkp hP hD hS (lv_sub hl [1, 2, 0] rfl)
theorem d_M_forget_2 : decode prog_14_method_107_code 2 = .ok (.iload_n 2, 1) := by decide +kernel
theorem d_M_forget_3 : decode prog_14_method_107_code 3 = .ok (.iload_n 1, 1) := by decide +kernel
theorem d_M_forget_4 : decode prog_14_method_107_code 4 = .ok (.if_icmp .ge 44, 3) := by decide +kernel
theorem d_M_forget_48 : decode prog_14_method_107_code 48 = .ok (.aload_n 0, 1) := by decide +kernel
theorem d_M_forget_49 : decode prog_14_method_107_code 49 = .ok (.iconst 0, 1) := by decide +kernel
theorem d_M_forget_50 : decode prog_14_method_107_code 50 = .ok (.putfield 553, 3) := by decide +kernel
theorem d_M_forget_53 : decode prog_14_method_107_code 53 = .ok (.aload_n 0, 1) := by decide +kernel
theorem d_M_forget_54 : decode prog_14_method_107_code 54 = .ok (.iconst 0, 1) := by decide +kernel
theorem d_M_forget_55 : decode prog_14_method_107_code 55 = .ok (.putfield 505, 3) := by decide +kernel
theorem d_M_forget_58 : decode prog_14_method_107_code 58 = .ok (.aload_n 0, 1) := by decide +kernel
theorem d_M_forget_59 : decode prog_14_method_107_code 59 = .ok (.iconst 0, 1) := by decide +kernel
theorem d_M_forget_60 : decode prog_14_method_107_code 60 = .ok (.putfield 520, 3) := by decide +kernel
theorem d_M_forget_63 : decode prog_14_method_107_code 63 = .ok (.aload_n 0, 1) := by decide +kernel
theorem d_M_forget_64 : decode prog_14_method_107_code 64 = .ok (.iconst 0, 1) := by decide +kernel
theorem d_M_forget_65 : decode prog_14_method_107_code 65 = .ok (.putfield 558, 3) := by decide +kernel
theorem d_M_forget_68 : decode prog_14_method_107_code 68 = .ok (.aload_n 0, 1) := by decide +kernel
theorem d_M_forget_69 : decode prog_14_method_107_code 69 = .ok (.iconst 0, 1) := by decide +kernel
theorem d_M_forget_70 : decode prog_14_method_107_code 70 = .ok (.putfield 457, 3) := by decide +kernel
theorem d_M_forget_73 : decode prog_14_method_107_code 73 = .ok (.aload_n 0, 1) := by decide +kernel
theorem d_M_forget_74 : decode prog_14_method_107_code 74 = .ok (.iconst 0, 1) := by decide +kernel
theorem d_M_forget_75 : decode prog_14_method_107_code 75 = .ok (.putfield 561, 3) := by decide +kernel
theorem u_1767 : Cond.fieldLink "FilterGuardModel" 561 "FilterGuardModel" "shortSlots" "I" ∈ fg_g := fg_in (List.mem_of_getElem? (i := 1767) (by decide +kernel)) rfl
theorem p_M_26 {p : Program} {l : Launch} {e : Env} {R : Room} {s : Jvm.State} {m : MethodId} {args : Array Value} {below : List Frame} {meth : Method} {c : Code} {H : Heap} {locs : List Loc} {cells slots : Nat} {Q : Jvm.State → Prop} {cc : ByteArray} {pc : Nat} {ls : Array Slot} {rest : List Value} {D : va_G} {A : Nat → Prop} {H0 : Heap} {ad : Nat → Nat → Nat} {ca : Nat → ClassId} {M M1 : me_M} {N : Nat → Nat} {own : String} {index j : Nat} {v : Int32} (he : M1 = wI M 1 j 26 v) (hexec : p.tables.exec = Jvm.exec) (hb : c.code = cc) (hts : ∀ w ∈ fg_g, w.before args s = true) (hown : s.vm.findClass own = some m.cls) (hK : va_K D classes (me_T ca) s) (hP : va_P D classes (me_W ad ca M) H) (hD : va_D A (me_W ad ca M)) (hwf : me_wf N M) (hS : va_S A H0 H locs) (hj : j < N 1) (hlink : (Cond.fieldLink own index "FilterGuardModel" "shortSlots" "I").before args s = true) (hdg : decode cc pc = .ok (.putfield index, 3)) (kk : ∀ (H1 : Heap) (locs1 : List Loc), va_P D classes (me_W ad ca M1) H1 → va_D A (me_W ad ca M1) → me_wf N M1 → va_S A H0 H1 locs1 → W p l e R s m args below meth c H1 locs1 cells slots Q (F0 m (pc + 3) ls rest)) : W p l e R s m args below meth c H locs cells slots Q (F0 m pc ls (.int v :: .ref (ad 1 j) :: rest)) := by
  subst he
  exact me_put (M1 := wI M 1 j 26 v) (k := 1) (f := 26) (C := "FilterGuardModel") (T := F_M) (Nf := 75) hexec hb hts i_M t_M t_M_ok n_M hown hK hP hD hwf hS hj (by decide) rfl (by decide) (by decide) hlink (fun _ h9 => h9) rfl rfl rfl rfl (fun a b h => me_wIE h) (me_fIw (by decide) (by decide)) hdg (fun H1 locs1 a1 a2 a3 => kk H1 locs1 a1 a2 (me_wfI hwf (fun z => absurd z (by decide)) (fun z => absurd z (by decide))) a3)
theorem d_M_forget_78 : decode prog_14_method_107_code 78 = .ok (.return_, 1) := by decide +kernel
theorem d_M_forget_7 : decode prog_14_method_107_code 7 = .ok (.aload_n 0, 1) := by decide +kernel
theorem d_M_forget_8 : decode prog_14_method_107_code 8 = .ok (.getfield 47, 3) := by decide +kernel
theorem d_M_forget_11 : decode prog_14_method_107_code 11 = .ok (.iload_n 2, 1) := by decide +kernel
theorem d_M_forget_12 : decode prog_14_method_107_code 12 = .ok (.iconst 0, 1) := by decide +kernel
theorem d_M_forget_13 : decode prog_14_method_107_code 13 = .ok (.iastore, 1) := by decide +kernel
theorem d_M_forget_14 : decode prog_14_method_107_code 14 = .ok (.aload_n 0, 1) := by decide +kernel
theorem d_M_forget_15 : decode prog_14_method_107_code 15 = .ok (.getfield 50, 3) := by decide +kernel
theorem d_M_forget_18 : decode prog_14_method_107_code 18 = .ok (.iload_n 2, 1) := by decide +kernel
theorem d_M_forget_19 : decode prog_14_method_107_code 19 = .ok (.iconst 0, 1) := by decide +kernel
theorem d_M_forget_20 : decode prog_14_method_107_code 20 = .ok (.bastore, 1) := by decide +kernel
theorem d_M_forget_21 : decode prog_14_method_107_code 21 = .ok (.aload_n 0, 1) := by decide +kernel
theorem d_M_forget_22 : decode prog_14_method_107_code 22 = .ok (.getfield 53, 3) := by decide +kernel
theorem d_M_forget_25 : decode prog_14_method_107_code 25 = .ok (.iload_n 2, 1) := by decide +kernel
theorem d_M_forget_26 : decode prog_14_method_107_code 26 = .ok (.iconst 0, 1) := by decide +kernel
theorem d_M_forget_27 : decode prog_14_method_107_code 27 = .ok (.bastore, 1) := by decide +kernel
theorem d_M_forget_28 : decode prog_14_method_107_code 28 = .ok (.aload_n 0, 1) := by decide +kernel
theorem d_M_forget_29 : decode prog_14_method_107_code 29 = .ok (.getfield 56, 3) := by decide +kernel
theorem d_M_forget_32 : decode prog_14_method_107_code 32 = .ok (.iload_n 2, 1) := by decide +kernel
theorem d_M_forget_33 : decode prog_14_method_107_code 33 = .ok (.iconst 0, 1) := by decide +kernel
theorem d_M_forget_34 : decode prog_14_method_107_code 34 = .ok (.iastore, 1) := by decide +kernel
theorem d_M_forget_35 : decode prog_14_method_107_code 35 = .ok (.aload_n 0, 1) := by decide +kernel
theorem d_M_forget_36 : decode prog_14_method_107_code 36 = .ok (.getfield 59, 3) := by decide +kernel
theorem d_M_forget_39 : decode prog_14_method_107_code 39 = .ok (.iload_n 2, 1) := by decide +kernel
theorem d_M_forget_40 : decode prog_14_method_107_code 40 = .ok (.lconst 0, 1) := by decide +kernel
theorem d_M_forget_41 : decode prog_14_method_107_code 41 = .ok (.lastore, 1) := by decide +kernel
theorem d_M_forget_42 : decode prog_14_method_107_code 42 = .ok (.iinc 2 1, 3) := by decide +kernel
theorem d_M_forget_45 : decode prog_14_method_107_code 45 = .ok (.goto (-43), 3) := by decide +kernel
theorem d_M_forget_0 : decode prog_14_method_107_code 0 = .ok (.iconst 0, 1) := by decide +kernel
theorem d_M_forget_1 : decode prog_14_method_107_code 1 = .ok (.istore_n 2, 1) := by decide +kernel
abbrev y_M_forget : MethodName := ⟨"FilterGuardModel", "forget", "(I)V"⟩
def rm_M_forget : Room := { frames := 1, cells := 0, slots := 0, locals := 20 }
abbrev q_M_forget (D : va_G) (ad : Nat → Nat → Nat) (ca : Nat → ClassId) (N : Nat → Nat) (M0 MZ : me_M) (A : Nat → Prop) : Array Value → Jvm.State → Outcome → Jvm.State → Prop := va_Qv (fun (_ : Unit) => me_wf N MZ ∧ me_kp M0 MZ) (fg_B D A (fun _ => me_W ad ca MZ) (fun _ => [])) A
set_option maxHeartbeats 4000000 in
set_option maxRecDepth 100000 in
theorem c_M_forget (l : Launch) (D : va_G) (ad : Nat → Nat → Nat) (ca : Nat → ClassId) (N : Nat → Nat) (M0 MZ : me_M) (j0 : Nat) (x1 : Int32) (h : f_M_forget M0 j0 x1 = (some MZ)) (hwf : me_wf N M0) (hj0 : j0 < N 1) (sz : Nat) : Met l y_M_forget (fg_w y_M_forget prog_14_method_107_code 3 none) rm_M_forget (va_Pc [.ref (ad 1 j0), .int x1] (fz_P D (me_T ca) (me_W ad ca M0) sz)) (q_M_forget D ad ca N M0 MZ (va_A (me_W ad ca M0) sz)) rm_M_forget.cells rm_M_forget.slots (va_A (me_W ad ca M0) sz) := by
  refine fz_enter (fun A => q_M_forget D ad ca N M0 MZ A) (by decide +kernel) (Nat.le_of_ble_eq_true rfl) ?_
  intro p e s m below meth c ls A hx hb hml hown hts hr hlocks hin hP hK hD hS hA hX hl hz
  have hl : lv_has ls 3 [(0, .ref (ad 1 j0)), (1, .int x1)] := hl
  unfold f_M_forget at h
  have hkp : me_kp M0 M0 := me_kp.rf
  have hkb := hkp
  have b_2 : ∀ (fu : Nat), ∀ (M : me_M) (y2 : Int32) (H : Heap) (locs : List Loc) (ls : Array Slot), f_M_forget_l2 j0 x1 fu M y2 = (some MZ) → me_wf N M → me_kp M0 M → va_P D classes (me_W ad ca M) H → va_D A (me_W ad ca M) → va_S A s.heap H locs → lv_has ls 3 [(0, .ref (ad 1 j0)), (1, .int x1), (2, .int y2)] → W p l e rm_M_forget s m [.ref (ad 1 j0), .int x1].toArray below meth c H locs 0 0 (MQ below (q_M_forget D ad ca N M0 MZ A) [.ref (ad 1 j0), .int x1].toArray s rm_M_forget.cells rm_M_forget.slots A) (F0 m 2 ls []) := by
    intro fu
    induction fu with
    | zero =>
      intro M y2 H locs ls h hwf hkp hP hD hS hl
      cases h
    | succ fu ih =>
      intro M y2 H locs ls h hwf hkp hP hD hS hl
      unfold f_M_forget_l2 at h
      have hkb := hkp
      refine lv_iload_n hx hb d_M_forget_2 rfl (lv_at hl 2 rfl) ?_
      refine lv_iload_n hx hb d_M_forget_3 rfl (lv_at hl 1 rfl) ?_
      refine lv_icmp_ge (tgt := 48) hx hb d_M_forget_4 (by decide) (fun c1 => ?_) (fun c1 => ?_)
      · have h := if_t c1 h
        refine lv_aload_n hx hb d_M_forget_48 rfl (lv_at hl 0 rfl) ?_
        refine lv_iconst (v := 0) hx hb d_M_forget_49 (by decide) ?_
        obtain ⟨M2, eM2, h⟩ := st_ob h
        refine p_M_22 eM2 hx hb hts hown hK hP hD hwf hS hj0 (hts _ u_1763) d_M_forget_50 (fun H locs hP hD hwf hS => ?_)
        have hkp := kp_I eM2 hkp
        refine lv_aload_n hx hb d_M_forget_53 rfl (lv_at hl 0 rfl) ?_
        refine lv_iconst (v := 0) hx hb d_M_forget_54 (by decide) ?_
        obtain ⟨M3, eM3, h⟩ := st_ob h
        refine p_M_23 eM3 hx hb hts hown hK hP hD hwf hS hj0 (hts _ u_1764) d_M_forget_55 (fun H locs hP hD hwf hS => ?_)
        have hkp := kp_I eM3 hkp
        refine lv_aload_n hx hb d_M_forget_58 rfl (lv_at hl 0 rfl) ?_
        refine lv_iconst (v := 0) hx hb d_M_forget_59 (by decide) ?_
        obtain ⟨M4, eM4, h⟩ := st_ob h
        refine p_M_24 eM4 hx hb hts hown hK hP hD hwf hS hj0 (hts _ u_1765) d_M_forget_60 (fun H locs hP hD hwf hS => ?_)
        have hkp := kp_I eM4 hkp
        refine lv_aload_n hx hb d_M_forget_63 rfl (lv_at hl 0 rfl) ?_
        refine lv_iconst (v := 0) hx hb d_M_forget_64 (by decide) ?_
        obtain ⟨M5, eM5, h⟩ := st_ob h
        refine p_M_25 eM5 hx hb hts hown hK hP hD hwf hS hj0 (hts _ u_1766) d_M_forget_65 (fun H locs hP hD hwf hS => ?_)
        have hkp := kp_I eM5 hkp
        refine lv_aload_n hx hb d_M_forget_68 rfl (lv_at hl 0 rfl) ?_
        refine lv_iconst (v := 0) hx hb d_M_forget_69 (by decide) ?_
        obtain ⟨M6, eM6, h⟩ := st_ob h
        refine p_M_62 eM6 hx hb hts hown hK hP hD hwf hS hj0 (hts _ u_1803) d_M_forget_70 (fun H locs hP hD hwf hS => ?_)
        have hkp := kp_I eM6 hkp
        refine lv_aload_n hx hb d_M_forget_73 rfl (lv_at hl 0 rfl) ?_
        refine lv_iconst (v := 0) hx hb d_M_forget_74 (by decide) ?_
        obtain ⟨M7, eM7, h⟩ := st_ob h
        refine p_M_26 eM7 hx hb hts hown hK hP hD hwf hS hj0 (hts _ u_1767) d_M_forget_75 (fun H locs hP hD hwf hS => ?_)
        have hkp := kp_I eM7 hkp
        exact me_retv (me_kp M0) h hx hb hr hlocks hwf hkp hP hK hD hS d_M_forget_78
      have h := if_f c1 h
      refine lv_aload_n hx hb d_M_forget_7 rfl (lv_at hl 0 rfl) ?_
      refine g_M_27 hx hb hts hown hK hP hwf hj0 (hts _ u_1768) d_M_forget_8 ?_
      obtain ⟨j8, e9, h⟩ := bd_ob h
      have hj8 : j8 < N 13 := (hwf.2.1 1 j0 27 _ e9 (by decide) hj0)
      refine me_opt (j := j8) e9 ?_
      refine lv_iload_n hx hb d_M_forget_11 rfl (lv_at hl 2 rfl) ?_
      refine lv_iconst (v := 0) hx hb d_M_forget_12 (by decide) ?_
      obtain ⟨g10, h⟩ := gd_ob h
      obtain ⟨M11, eM11, h⟩ := st_ob h
      refine me_iast eM11 hx hb hK hP hD hwf hS hj8 g10 d_M_forget_13 (fun H locs hP hD hwf hS => ?_)
      have hkp := kp_I eM11 hkp
      refine lv_aload_n hx hb d_M_forget_14 rfl (lv_at hl 0 rfl) ?_
      refine g_M_28 hx hb hts hown hK hP hwf hj0 (hts _ u_1769) d_M_forget_15 ?_
      obtain ⟨j12, e13, h⟩ := bd_ob h
      have hj12 : j12 < N 15 := (hwf.2.1 1 j0 28 _ (kp_r hkb hkp e13) (by decide) hj0)
      refine me_opt (j := j12) (kp_r hkb hkp e13) ?_
      refine lv_iload_n hx hb d_M_forget_18 rfl (lv_at hl 2 rfl) ?_
      refine lv_iconst (v := 0) hx hb d_M_forget_19 (by decide) ?_
      obtain ⟨g14, h⟩ := gd_ob h
      obtain ⟨M15, eM15, h⟩ := st_ob h
      refine me_zast eM15 hx hb hK hP hD hwf hS hj12 (kp_z hkb.z hkp.z g14) d_M_forget_20 (fun H locs hP hD hwf hS => ?_)
      have hkp := kp_I eM15 hkp
      refine lv_aload_n hx hb d_M_forget_21 rfl (lv_at hl 0 rfl) ?_
      refine g_M_29 hx hb hts hown hK hP hwf hj0 (hts _ u_1770) d_M_forget_22 ?_
      obtain ⟨j16, e17, h⟩ := bd_ob h
      have hj16 : j16 < N 15 := (hwf.2.1 1 j0 29 _ (kp_r hkb hkp e17) (by decide) hj0)
      refine me_opt (j := j16) (kp_r hkb hkp e17) ?_
      refine lv_iload_n hx hb d_M_forget_25 rfl (lv_at hl 2 rfl) ?_
      refine lv_iconst (v := 0) hx hb d_M_forget_26 (by decide) ?_
      obtain ⟨g18, h⟩ := gd_ob h
      obtain ⟨M19, eM19, h⟩ := st_ob h
      refine me_zast eM19 hx hb hK hP hD hwf hS hj16 (kp_z hkb.z hkp.z g18) d_M_forget_27 (fun H locs hP hD hwf hS => ?_)
      have hkp := kp_I eM19 hkp
      refine lv_aload_n hx hb d_M_forget_28 rfl (lv_at hl 0 rfl) ?_
      refine g_M_30 hx hb hts hown hK hP hwf hj0 (hts _ u_1771) d_M_forget_29 ?_
      obtain ⟨j20, e21, h⟩ := bd_ob h
      have hj20 : j20 < N 13 := (hwf.2.1 1 j0 30 _ (kp_r hkb hkp e21) (by decide) hj0)
      refine me_opt (j := j20) (kp_r hkb hkp e21) ?_
      refine lv_iload_n hx hb d_M_forget_32 rfl (lv_at hl 2 rfl) ?_
      refine lv_iconst (v := 0) hx hb d_M_forget_33 (by decide) ?_
      obtain ⟨g22, h⟩ := gd_ob h
      obtain ⟨M23, eM23, h⟩ := st_ob h
      refine me_iast eM23 hx hb hK hP hD hwf hS hj20 (kp_z hkb.z hkp.z g22) d_M_forget_34 (fun H locs hP hD hwf hS => ?_)
      have hkp := kp_I eM23 hkp
      refine lv_aload_n hx hb d_M_forget_35 rfl (lv_at hl 0 rfl) ?_
      refine g_M_31 hx hb hts hown hK hP hwf hj0 (hts _ u_1772) d_M_forget_36 ?_
      obtain ⟨j24, e25, h⟩ := bd_ob h
      have hj24 : j24 < N 16 := (hwf.2.1 1 j0 31 _ (kp_r hkb hkp e25) (by decide) hj0)
      refine me_opt (j := j24) (kp_r hkb hkp e25) ?_
      refine lv_iload_n hx hb d_M_forget_39 rfl (lv_at hl 2 rfl) ?_
      refine lv_lconst (v := 0) hx hb d_M_forget_40 (by decide) ?_
      obtain ⟨g26, h⟩ := gd_ob h
      obtain ⟨M27, eM27, h⟩ := st_ob h
      refine me_last eM27 hx hb hK hP hD hwf hS hj24 (kp_z hkb.z hkp.z g26) d_M_forget_41 (fun H locs hP hD hwf hS => ?_)
      have hkp := kp_L eM27 hkp
      refine lv_iinc (v := y2 + 1) (lv' := [(2, .int (y2 + 1)), (0, .ref (ad 1 j0)), (1, .int x1)]) hx hb d_M_forget_42 hl (k := 2) rfl (by rfl) (by decide) rfl (fun ls hl => ?_)
      refine lv_goto (tgt := 2) hx hb d_M_forget_45 (by decide) ?_
      exact ih M27 (y2 + 1) _ _ _ h hwf hkp hP hD hS (lv_sub hl [1, 2, 0] rfl)
  refine lv_iconst (v := 0) hx hb d_M_forget_0 (by decide) ?_
  refine lv_istore_n (lv' := [(2, .int 0), (0, .ref (ad 1 j0)), (1, .int x1)]) hx hb d_M_forget_1 rfl hl (by decide) rfl (fun ls hl => ?_)
  exact b_2 _ M0 (0 : Int32) _ _ _ h hwf hkp hP hD hS (lv_sub hl [1, 2, 0] rfl)
theorem d_M_made_0 : decode prog_14_method_109_code 0 = .ok (.iload_n 0, 1) := by decide +kernel
theorem d_M_made_1 : decode prog_14_method_109_code 1 = .ok (.i2l, 1) := by decide +kernel
theorem d_M_made_2 : decode prog_14_method_109_code 2 = .ok (.iload_n 1, 1) := by decide +kernel
theorem d_M_made_3 : decode prog_14_method_109_code 3 = .ok (.i2l, 1) := by decide +kernel
theorem d_M_made_4 : decode prog_14_method_109_code 4 = .ok (.bipush 8, 2) := by decide +kernel
theorem d_M_made_6 : decode prog_14_method_109_code 6 = .ok (.lshl, 1) := by decide +kernel
theorem d_M_made_7 : decode prog_14_method_109_code 7 = .ok (.lor, 1) := by decide +kernel
theorem d_M_made_8 : decode prog_14_method_109_code 8 = .ok (.iload_n 2, 1) := by decide +kernel
theorem d_M_made_9 : decode prog_14_method_109_code 9 = .ok (.i2l, 1) := by decide +kernel
theorem d_M_made_10 : decode prog_14_method_109_code 10 = .ok (.bipush 32, 2) := by decide +kernel
theorem d_M_made_12 : decode prog_14_method_109_code 12 = .ok (.lshl, 1) := by decide +kernel
theorem d_M_made_13 : decode prog_14_method_109_code 13 = .ok (.lor, 1) := by decide +kernel
theorem d_M_made_14 : decode prog_14_method_109_code 14 = .ok (.lreturn, 1) := by decide +kernel
abbrev y_M_made : MethodName := ⟨"FilterGuardModel", "made", "(III)J"⟩
def rm_M_made : Room := { frames := 1, cells := 0, slots := 0, locals := 20 }
abbrev q_M_made (D : va_G) (RZ : Int64) (A : Nat → Prop) : Array Value → Jvm.State → Outcome → Jvm.State → Prop := va_Ql (fun r (_ : Unit) => r = RZ ∧ True) (fg_B D A (fun _ => []) (fun _ => [])) A
set_option maxHeartbeats 4000000 in
set_option maxRecDepth 100000 in
theorem c_M_made (l : Launch) (D : va_G) (RZ : Int64) (x0 : Int32) (x1 : Int32) (x2 : Int32) (h : f_M_made x0 x1 x2 = (some RZ)) (sz : Nat) : Met l y_M_made (fg_w y_M_made prog_14_method_109_code 3 (some .long)) rm_M_made (va_Pc [.int x0, .int x1, .int x2] (fg_P D [] [] sz)) (q_M_made D RZ (va_A [] sz)) rm_M_made.cells rm_M_made.slots (va_A [] sz) := by
  refine fg_enter (fun A => q_M_made D RZ A) (by decide +kernel) (Nat.le_of_ble_eq_true rfl) ?_
  intro p e s m below meth c ls A hx hb hml hown hts hr hlocks hin hP hK hD hS hA hX hl
  have hl : lv_has ls 3 [(0, .int x0), (1, .int x1), (2, .int x2)] := hl
  unfold f_M_made at h
  refine lv_iload_n hx hb d_M_made_0 rfl (lv_at hl 0 rfl) ?_
  refine lv_i2l (v := x0.toInt64) hx hb d_M_made_1 rfl ?_
  refine lv_iload_n hx hb d_M_made_2 rfl (lv_at hl 1 rfl) ?_
  refine lv_i2l (v := x1.toInt64) hx hb d_M_made_3 rfl ?_
  refine lv_bipush (v := 8) hx hb d_M_made_4 (by decide) ?_
  refine lv_lshl (v := jlshl x1.toInt64 (8 : Int32)) hx hb d_M_made_6 rfl ?_
  refine lv_lor hx hb d_M_made_7 ?_
  refine lv_iload_n hx hb d_M_made_8 rfl (lv_at hl 2 rfl) ?_
  refine lv_i2l (v := x2.toInt64) hx hb d_M_made_9 rfl ?_
  refine lv_bipush (v := 32) hx hb d_M_made_10 (by decide) ?_
  refine lv_lshl (v := jlshl x2.toInt64 (32 : Int32)) hx hb d_M_made_12 rfl ?_
  refine lv_lor hx hb d_M_made_13 ?_
  obtain ⟨v1, ev1, h⟩ := st_ob h
  refine fg_topl (y := v1) ev1.symm ?_
  exact me_pretl h hx hb hr hlocks hK hS d_M_made_14
theorem d_M_shorten_475 : decode prog_14_method_110_code 475 = .ok (.aload_n 0, 1) := by decide +kernel
theorem d_M_shorten_476 : decode prog_14_method_110_code 476 = .ok (.getfield 149, 3) := by decide +kernel
theorem g_M_73 {p : Program} {l : Launch} {e : Env} {R : Room} {s : Jvm.State} {m : MethodId} {args : Array Value} {below : List Frame} {meth : Method} {c : Code} {H : Heap} {locs : List Loc} {cells slots : Nat} {Q : Jvm.State → Prop} {cc : ByteArray} {pc : Nat} {ls : Array Slot} {rest : List Value} {D : va_G} {ad : Nat → Nat → Nat} {ca : Nat → ClassId} {M : me_M} {N : Nat → Nat} {own : String} {index j : Nat} (hexec : p.tables.exec = Jvm.exec) (hb : c.code = cc) (hts : ∀ w ∈ fg_g, w.before args s = true) (hown : s.vm.findClass own = some m.cls) (hK : va_K D classes (me_T ca) s) (hP : va_P D classes (me_W ad ca M) H) (hwf : me_wf N M) (hj : j < N 1) (hlink : (Cond.fieldLink own index "FilterGuardModel" "newPlace" "[I").before args s = true) (hdg : decode cc pc = .ok (.getfield index, 3)) (kk : W p l e R s m args below meth c H locs cells slots Q (F0 m (pc + 3) ls (va_rf ((mR M 1 j 73).map (ad 13)) :: rest))) : W p l e R s m args below meth c H locs cells slots Q (F0 m pc ls (.ref (ad 1 j) :: rest)) := me_get (k := 1) (f := 73) (C := "FilterGuardModel") (T := F_M) (Nf := 75) hexec hb hts i_M hown hK hP hwf hj (by decide) rfl (by decide) (by decide) hlink (fun _ h9 => h9) hdg kk
theorem d_M_shorten_479 : decode prog_14_method_110_code 479 = .ok (.iload_n 2, 1) := by decide +kernel
theorem d_M_shorten_480 : decode prog_14_method_110_code 480 = .ok (.iconst 1, 1) := by decide +kernel
theorem d_M_shorten_481 : decode prog_14_method_110_code 481 = .ok (.iadd, 1) := by decide +kernel
theorem d_M_shorten_482 : decode prog_14_method_110_code 482 = .ok (.lload_n 3, 1) := by decide +kernel
theorem d_M_shorten_483 : decode prog_14_method_110_code 483 = .ok (.invokestatic 321, 3) := by decide +kernel
theorem d_M_shorten_486 : decode prog_14_method_110_code 486 = .ok (.iadd, 1) := by decide +kernel
theorem d_M_shorten_487 : decode prog_14_method_110_code 487 = .ok (.iaload, 1) := by decide +kernel
theorem d_M_shorten_488 : decode prog_14_method_110_code 488 = .ok (.aload_n 0, 1) := by decide +kernel
theorem d_M_shorten_489 : decode prog_14_method_110_code 489 = .ok (.getfield 149, 3) := by decide +kernel
theorem d_M_shorten_492 : decode prog_14_method_110_code 492 = .ok (.iload_n 2, 1) := by decide +kernel
theorem d_M_shorten_493 : decode prog_14_method_110_code 493 = .ok (.iaload, 1) := by decide +kernel
theorem d_M_shorten_494 : decode prog_14_method_110_code 494 = .ok (.isub, 1) := by decide +kernel
theorem d_M_shorten_495 : decode prog_14_method_110_code 495 = .ok (.iconst 1, 1) := by decide +kernel
theorem d_M_shorten_496 : decode prog_14_method_110_code 496 = .ok (.isub, 1) := by decide +kernel
theorem d_M_shorten_497 : decode prog_14_method_110_code 497 = .ok (.istore 6, 2) := by decide +kernel
theorem d_M_shorten_499 : decode prog_14_method_110_code 499 = .ok (.lload_n 3, 1) := by decide +kernel
theorem d_M_shorten_500 : decode prog_14_method_110_code 500 = .ok (.ldc2_w 610, 3) := by decide +kernel
theorem u_2401 : Cond.constantLong "FilterGuardModel" 610 (-4294901761) ∈ fg_g := fg_in (List.mem_of_getElem? (i := 2401) (by decide +kernel)) rfl
theorem d_M_shorten_503 : decode prog_14_method_110_code 503 = .ok (.land, 1) := by decide +kernel
theorem d_M_shorten_504 : decode prog_14_method_110_code 504 = .ok (.iload 6, 2) := by decide +kernel
theorem d_M_shorten_506 : decode prog_14_method_110_code 506 = .ok (.ldc_w 612, 3) := by decide +kernel
theorem u_2402 : Cond.constant "FilterGuardModel" 612 65535 ∈ fg_g := fg_in (List.mem_of_getElem? (i := 2402) (by decide +kernel)) rfl
theorem d_M_shorten_509 : decode prog_14_method_110_code 509 = .ok (.iand, 1) := by decide +kernel
theorem d_M_shorten_510 : decode prog_14_method_110_code 510 = .ok (.i2l, 1) := by decide +kernel
theorem d_M_shorten_511 : decode prog_14_method_110_code 511 = .ok (.bipush 16, 2) := by decide +kernel
theorem d_M_shorten_513 : decode prog_14_method_110_code 513 = .ok (.lshl, 1) := by decide +kernel
theorem d_M_shorten_514 : decode prog_14_method_110_code 514 = .ok (.lor, 1) := by decide +kernel
theorem d_M_shorten_515 : decode prog_14_method_110_code 515 = .ok (.lstore_n 3, 1) := by decide +kernel
theorem d_M_shorten_516 : decode prog_14_method_110_code 516 = .ok (.aload_n 0, 1) := by decide +kernel
theorem d_M_shorten_517 : decode prog_14_method_110_code 517 = .ok (.getfield 44, 3) := by decide +kernel
theorem g_M_17 {p : Program} {l : Launch} {e : Env} {R : Room} {s : Jvm.State} {m : MethodId} {args : Array Value} {below : List Frame} {meth : Method} {c : Code} {H : Heap} {locs : List Loc} {cells slots : Nat} {Q : Jvm.State → Prop} {cc : ByteArray} {pc : Nat} {ls : Array Slot} {rest : List Value} {D : va_G} {ad : Nat → Nat → Nat} {ca : Nat → ClassId} {M : me_M} {N : Nat → Nat} {own : String} {index j : Nat} (hexec : p.tables.exec = Jvm.exec) (hb : c.code = cc) (hts : ∀ w ∈ fg_g, w.before args s = true) (hown : s.vm.findClass own = some m.cls) (hK : va_K D classes (me_T ca) s) (hP : va_P D classes (me_W ad ca M) H) (hwf : me_wf N M) (hj : j < N 1) (hlink : (Cond.fieldLink own index "FilterGuardModel" "shorter" "[J").before args s = true) (hdg : decode cc pc = .ok (.getfield index, 3)) (kk : W p l e R s m args below meth c H locs cells slots Q (F0 m (pc + 3) ls (va_rf ((mR M 1 j 17).map (ad 16)) :: rest))) : W p l e R s m args below meth c H locs cells slots Q (F0 m pc ls (.ref (ad 1 j) :: rest)) := me_get (k := 1) (f := 17) (C := "FilterGuardModel") (T := F_M) (Nf := 75) hexec hb hts i_M hown hK hP hwf hj (by decide) rfl (by decide) (by decide) hlink (fun _ h9 => h9) hdg kk
theorem d_M_shorten_520 : decode prog_14_method_110_code 520 = .ok (.aload_n 0, 1) := by decide +kernel
theorem d_M_shorten_521 : decode prog_14_method_110_code 521 = .ok (.getfield 149, 3) := by decide +kernel
theorem d_M_shorten_524 : decode prog_14_method_110_code 524 = .ok (.iload_n 2, 1) := by decide +kernel
theorem d_M_shorten_525 : decode prog_14_method_110_code 525 = .ok (.iaload, 1) := by decide +kernel
theorem d_M_shorten_526 : decode prog_14_method_110_code 526 = .ok (.lload_n 3, 1) := by decide +kernel
theorem d_M_shorten_527 : decode prog_14_method_110_code 527 = .ok (.lastore, 1) := by decide +kernel
theorem d_M_shorten_528 : decode prog_14_method_110_code 528 = .ok (.iinc 2 1, 3) := by decide +kernel
theorem d_M_shorten_531 : decode prog_14_method_110_code 531 = .ok (.goto (-116), 3) := by decide +kernel
theorem d_M_shorten_459 : decode prog_14_method_110_code 459 = .ok (.istore 5, 2) := by decide +kernel
theorem d_M_shorten_461 : decode prog_14_method_110_code 461 = .ok (.iload 5, 2) := by decide +kernel
theorem d_M_shorten_463 : decode prog_14_method_110_code 463 = .ok (.bipush 10, 2) := by decide +kernel
theorem d_M_shorten_465 : decode prog_14_method_110_code 465 = .ok (.if_icmp .eq 10, 3) := by decide +kernel
theorem d_M_shorten_468 : decode prog_14_method_110_code 468 = .ok (.iload 5, 2) := by decide +kernel
theorem d_M_shorten_470 : decode prog_14_method_110_code 470 = .ok (.bipush 11, 2) := by decide +kernel
theorem d_M_shorten_472 : decode prog_14_method_110_code 472 = .ok (.if_icmp .ne 44, 3) := by decide +kernel
theorem d_M_shorten_415 : decode prog_14_method_110_code 415 = .ok (.iload_n 2, 1) := by decide +kernel
theorem d_M_shorten_416 : decode prog_14_method_110_code 416 = .ok (.iload_n 1, 1) := by decide +kernel
theorem d_M_shorten_417 : decode prog_14_method_110_code 417 = .ok (.if_icmp .ge 117, 3) := by decide +kernel
theorem d_M_shorten_534 : decode prog_14_method_110_code 534 = .ok (.aload_n 0, 1) := by decide +kernel
theorem d_M_shorten_535 : decode prog_14_method_110_code 535 = .ok (.aload_n 0, 1) := by decide +kernel
theorem d_M_shorten_536 : decode prog_14_method_110_code 536 = .ok (.getfield 607, 3) := by decide +kernel
theorem u_1756 : Cond.fieldLink "FilterGuardModel" 607 "FilterGuardModel" "shorterSlots" "I" ∈ fg_g := fg_in (List.mem_of_getElem? (i := 1756) (by decide +kernel)) rfl
theorem g_M_15 {p : Program} {l : Launch} {e : Env} {R : Room} {s : Jvm.State} {m : MethodId} {args : Array Value} {below : List Frame} {meth : Method} {c : Code} {H : Heap} {locs : List Loc} {cells slots : Nat} {Q : Jvm.State → Prop} {cc : ByteArray} {pc : Nat} {ls : Array Slot} {rest : List Value} {D : va_G} {ad : Nat → Nat → Nat} {ca : Nat → ClassId} {M : me_M} {N : Nat → Nat} {own : String} {index j : Nat} (hexec : p.tables.exec = Jvm.exec) (hb : c.code = cc) (hts : ∀ w ∈ fg_g, w.before args s = true) (hown : s.vm.findClass own = some m.cls) (hK : va_K D classes (me_T ca) s) (hP : va_P D classes (me_W ad ca M) H) (hwf : me_wf N M) (hj : j < N 1) (hlink : (Cond.fieldLink own index "FilterGuardModel" "shorterSlots" "I").before args s = true) (hdg : decode cc pc = .ok (.getfield index, 3)) (kk : W p l e R s m args below meth c H locs cells slots Q (F0 m (pc + 3) ls (.int (mI M 1 j 15) :: rest))) : W p l e R s m args below meth c H locs cells slots Q (F0 m pc ls (.ref (ad 1 j) :: rest)) := me_get (k := 1) (f := 15) (C := "FilterGuardModel") (T := F_M) (Nf := 75) hexec hb hts i_M hown hK hP hwf hj (by decide) rfl (by decide) (by decide) hlink (fun _ h9 => h9) hdg kk
theorem d_M_shorten_539 : decode prog_14_method_110_code 539 = .ok (.putfield 561, 3) := by decide +kernel
theorem d_M_shorten_542 : decode prog_14_method_110_code 542 = .ok (.return_, 1) := by decide +kernel
theorem d_M_shorten_420 : decode prog_14_method_110_code 420 = .ok (.aload_n 0, 1) := by decide +kernel
theorem d_M_shorten_421 : decode prog_14_method_110_code 421 = .ok (.getfield 143, 3) := by decide +kernel
theorem g_M_71 {p : Program} {l : Launch} {e : Env} {R : Room} {s : Jvm.State} {m : MethodId} {args : Array Value} {below : List Frame} {meth : Method} {c : Code} {H : Heap} {locs : List Loc} {cells slots : Nat} {Q : Jvm.State → Prop} {cc : ByteArray} {pc : Nat} {ls : Array Slot} {rest : List Value} {D : va_G} {ad : Nat → Nat → Nat} {ca : Nat → ClassId} {M : me_M} {N : Nat → Nat} {own : String} {index j : Nat} (hexec : p.tables.exec = Jvm.exec) (hb : c.code = cc) (hts : ∀ w ∈ fg_g, w.before args s = true) (hown : s.vm.findClass own = some m.cls) (hK : va_K D classes (me_T ca) s) (hP : va_P D classes (me_W ad ca M) H) (hwf : me_wf N M) (hj : j < N 1) (hlink : (Cond.fieldLink own index "FilterGuardModel" "stays" "[Z").before args s = true) (hdg : decode cc pc = .ok (.getfield index, 3)) (kk : W p l e R s m args below meth c H locs cells slots Q (F0 m (pc + 3) ls (va_rf ((mR M 1 j 71).map (ad 15)) :: rest))) : W p l e R s m args below meth c H locs cells slots Q (F0 m pc ls (.ref (ad 1 j) :: rest)) := me_get (k := 1) (f := 71) (C := "FilterGuardModel") (T := F_M) (Nf := 75) hexec hb hts i_M hown hK hP hwf hj (by decide) rfl (by decide) (by decide) hlink (fun _ h9 => h9) hdg kk
theorem d_M_shorten_424 : decode prog_14_method_110_code 424 = .ok (.iload_n 2, 1) := by decide +kernel
theorem d_M_shorten_425 : decode prog_14_method_110_code 425 = .ok (.baload, 1) := by decide +kernel
theorem d_M_shorten_426 : decode prog_14_method_110_code 426 = .ok (.ifCond .ne 6, 3) := by decide +kernel
theorem d_M_shorten_432 : decode prog_14_method_110_code 432 = .ok (.aload_n 0, 1) := by decide +kernel
theorem d_M_shorten_433 : decode prog_14_method_110_code 433 = .ok (.getfield 146, 3) := by decide +kernel
theorem g_M_72 {p : Program} {l : Launch} {e : Env} {R : Room} {s : Jvm.State} {m : MethodId} {args : Array Value} {below : List Frame} {meth : Method} {c : Code} {H : Heap} {locs : List Loc} {cells slots : Nat} {Q : Jvm.State → Prop} {cc : ByteArray} {pc : Nat} {ls : Array Slot} {rest : List Value} {D : va_G} {ad : Nat → Nat → Nat} {ca : Nat → ClassId} {M : me_M} {N : Nat → Nat} {own : String} {index j : Nat} (hexec : p.tables.exec = Jvm.exec) (hb : c.code = cc) (hts : ∀ w ∈ fg_g, w.before args s = true) (hown : s.vm.findClass own = some m.cls) (hK : va_K D classes (me_T ca) s) (hP : va_P D classes (me_W ad ca M) H) (hwf : me_wf N M) (hj : j < N 1) (hlink : (Cond.fieldLink own index "FilterGuardModel" "becomes" "[J").before args s = true) (hdg : decode cc pc = .ok (.getfield index, 3)) (kk : W p l e R s m args below meth c H locs cells slots Q (F0 m (pc + 3) ls (va_rf ((mR M 1 j 72).map (ad 16)) :: rest))) : W p l e R s m args below meth c H locs cells slots Q (F0 m pc ls (.ref (ad 1 j) :: rest)) := me_get (k := 1) (f := 72) (C := "FilterGuardModel") (T := F_M) (Nf := 75) hexec hb hts i_M hown hK hP hwf hj (by decide) rfl (by decide) (by decide) hlink (fun _ h9 => h9) hdg kk
theorem d_M_shorten_436 : decode prog_14_method_110_code 436 = .ok (.iload_n 2, 1) := by decide +kernel
theorem d_M_shorten_437 : decode prog_14_method_110_code 437 = .ok (.laload, 1) := by decide +kernel
theorem d_M_shorten_438 : decode prog_14_method_110_code 438 = .ok (.lstore_n 3, 1) := by decide +kernel
theorem d_M_shorten_439 : decode prog_14_method_110_code 439 = .ok (.aload_n 0, 1) := by decide +kernel
theorem d_M_shorten_440 : decode prog_14_method_110_code 440 = .ok (.getfield 62, 3) := by decide +kernel
theorem d_M_shorten_443 : decode prog_14_method_110_code 443 = .ok (.iload_n 2, 1) := by decide +kernel
theorem d_M_shorten_444 : decode prog_14_method_110_code 444 = .ok (.baload, 1) := by decide +kernel
theorem d_M_shorten_445 : decode prog_14_method_110_code 445 = .ok (.ifCond .eq 7, 3) := by decide +kernel
theorem d_M_shorten_452 : decode prog_14_method_110_code 452 = .ok (.lload_n 3, 1) := by decide +kernel
theorem d_M_shorten_453 : decode prog_14_method_110_code 453 = .ok (.invokestatic 308, 3) := by decide +kernel
theorem d_M_shorten_456 : decode prog_14_method_110_code 456 = .ok (.invokestatic 312, 3) := by decide +kernel
theorem d_M_shorten_448 : decode prog_14_method_110_code 448 = .ok (.iconst 0, 1) := by decide +kernel
theorem d_M_shorten_449 : decode prog_14_method_110_code 449 = .ok (.goto 10, 3) := by decide +kernel
theorem d_M_shorten_429 : decode prog_14_method_110_code 429 = .ok (.goto 99, 3) := by decide +kernel
theorem d_M_shorten_369 : decode prog_14_method_110_code 369 = .ok (.iload_n 2, 1) := by decide +kernel
theorem d_M_shorten_370 : decode prog_14_method_110_code 370 = .ok (.iload_n 1, 1) := by decide +kernel
theorem d_M_shorten_371 : decode prog_14_method_110_code 371 = .ok (.if_icmp .ge 42, 3) := by decide +kernel
theorem d_M_shorten_413 : decode prog_14_method_110_code 413 = .ok (.iconst 0, 1) := by decide +kernel
theorem d_M_shorten_414 : decode prog_14_method_110_code 414 = .ok (.istore_n 2, 1) := by decide +kernel
theorem d_M_shorten_374 : decode prog_14_method_110_code 374 = .ok (.aload_n 0, 1) := by decide +kernel
theorem d_M_shorten_375 : decode prog_14_method_110_code 375 = .ok (.getfield 149, 3) := by decide +kernel
theorem d_M_shorten_378 : decode prog_14_method_110_code 378 = .ok (.iload_n 2, 1) := by decide +kernel
theorem d_M_shorten_379 : decode prog_14_method_110_code 379 = .ok (.aload_n 0, 1) := by decide +kernel
theorem d_M_shorten_380 : decode prog_14_method_110_code 380 = .ok (.getfield 607, 3) := by decide +kernel
theorem d_M_shorten_383 : decode prog_14_method_110_code 383 = .ok (.iastore, 1) := by decide +kernel
theorem d_M_shorten_384 : decode prog_14_method_110_code 384 = .ok (.aload_n 0, 1) := by decide +kernel
theorem d_M_shorten_385 : decode prog_14_method_110_code 385 = .ok (.dup, 1) := by decide +kernel
theorem d_M_shorten_386 : decode prog_14_method_110_code 386 = .ok (.getfield 607, 3) := by decide +kernel
theorem d_M_shorten_389 : decode prog_14_method_110_code 389 = .ok (.aload_n 0, 1) := by decide +kernel
theorem d_M_shorten_390 : decode prog_14_method_110_code 390 = .ok (.getfield 143, 3) := by decide +kernel
theorem d_M_shorten_393 : decode prog_14_method_110_code 393 = .ok (.iload_n 2, 1) := by decide +kernel
theorem d_M_shorten_394 : decode prog_14_method_110_code 394 = .ok (.baload, 1) := by decide +kernel
theorem d_M_shorten_395 : decode prog_14_method_110_code 395 = .ok (.ifCond .eq 7, 3) := by decide +kernel
theorem d_M_shorten_402 : decode prog_14_method_110_code 402 = .ok (.iconst 0, 1) := by decide +kernel
theorem d_M_shorten_403 : decode prog_14_method_110_code 403 = .ok (.iadd, 1) := by decide +kernel
theorem d_M_shorten_404 : decode prog_14_method_110_code 404 = .ok (.putfield 607, 3) := by decide +kernel
theorem p_M_15 {p : Program} {l : Launch} {e : Env} {R : Room} {s : Jvm.State} {m : MethodId} {args : Array Value} {below : List Frame} {meth : Method} {c : Code} {H : Heap} {locs : List Loc} {cells slots : Nat} {Q : Jvm.State → Prop} {cc : ByteArray} {pc : Nat} {ls : Array Slot} {rest : List Value} {D : va_G} {A : Nat → Prop} {H0 : Heap} {ad : Nat → Nat → Nat} {ca : Nat → ClassId} {M M1 : me_M} {N : Nat → Nat} {own : String} {index j : Nat} {v : Int32} (he : M1 = wI M 1 j 15 v) (hexec : p.tables.exec = Jvm.exec) (hb : c.code = cc) (hts : ∀ w ∈ fg_g, w.before args s = true) (hown : s.vm.findClass own = some m.cls) (hK : va_K D classes (me_T ca) s) (hP : va_P D classes (me_W ad ca M) H) (hD : va_D A (me_W ad ca M)) (hwf : me_wf N M) (hS : va_S A H0 H locs) (hj : j < N 1) (hlink : (Cond.fieldLink own index "FilterGuardModel" "shorterSlots" "I").before args s = true) (hdg : decode cc pc = .ok (.putfield index, 3)) (kk : ∀ (H1 : Heap) (locs1 : List Loc), va_P D classes (me_W ad ca M1) H1 → va_D A (me_W ad ca M1) → me_wf N M1 → va_S A H0 H1 locs1 → W p l e R s m args below meth c H1 locs1 cells slots Q (F0 m (pc + 3) ls rest)) : W p l e R s m args below meth c H locs cells slots Q (F0 m pc ls (.int v :: .ref (ad 1 j) :: rest)) := by
  subst he
  exact me_put (M1 := wI M 1 j 15 v) (k := 1) (f := 15) (C := "FilterGuardModel") (T := F_M) (Nf := 75) hexec hb hts i_M t_M t_M_ok n_M hown hK hP hD hwf hS hj (by decide) rfl (by decide) (by decide) hlink (fun _ h9 => h9) rfl rfl rfl rfl (fun a b h => me_wIE h) (me_fIw (by decide) (by decide)) hdg (fun H1 locs1 a1 a2 a3 => kk H1 locs1 a1 a2 (me_wfI hwf (fun z => absurd z (by decide)) (fun z => absurd z (by decide))) a3)
theorem d_M_shorten_407 : decode prog_14_method_110_code 407 = .ok (.iinc 2 1, 3) := by decide +kernel
theorem d_M_shorten_410 : decode prog_14_method_110_code 410 = .ok (.goto (-41), 3) := by decide +kernel
theorem d_M_shorten_398 : decode prog_14_method_110_code 398 = .ok (.iconst 1, 1) := by decide +kernel
theorem d_M_shorten_399 : decode prog_14_method_110_code 399 = .ok (.goto 4, 3) := by decide +kernel
theorem d_M_shorten_306 : decode prog_14_method_110_code 306 = .ok (.iload 5, 2) := by decide +kernel
theorem d_M_shorten_308 : decode prog_14_method_110_code 308 = .ok (.iload_n 3, 1) := by decide +kernel
theorem d_M_shorten_309 : decode prog_14_method_110_code 309 = .ok (.if_icmp .ge 31, 3) := by decide +kernel
theorem d_M_shorten_340 : decode prog_14_method_110_code 340 = .ok (.aload_n 0, 1) := by decide +kernel
theorem d_M_shorten_341 : decode prog_14_method_110_code 341 = .ok (.getfield 143, 3) := by decide +kernel
theorem d_M_shorten_344 : decode prog_14_method_110_code 344 = .ok (.iload_n 2, 1) := by decide +kernel
theorem d_M_shorten_345 : decode prog_14_method_110_code 345 = .ok (.iload 4, 2) := by decide +kernel
theorem d_M_shorten_347 : decode prog_14_method_110_code 347 = .ok (.ifCond .ne 7, 3) := by decide +kernel
theorem d_M_shorten_354 : decode prog_14_method_110_code 354 = .ok (.iconst 0, 1) := by decide +kernel
theorem d_M_shorten_355 : decode prog_14_method_110_code 355 = .ok (.bastore, 1) := by decide +kernel
theorem d_M_shorten_356 : decode prog_14_method_110_code 356 = .ok (.iinc 2 (-1), 3) := by decide +kernel
theorem d_M_shorten_359 : decode prog_14_method_110_code 359 = .ok (.goto (-122), 3) := by decide +kernel
theorem d_M_shorten_350 : decode prog_14_method_110_code 350 = .ok (.iconst 1, 1) := by decide +kernel
theorem d_M_shorten_351 : decode prog_14_method_110_code 351 = .ok (.goto 4, 3) := by decide +kernel
theorem d_M_shorten_312 : decode prog_14_method_110_code 312 = .ok (.iload 4, 2) := by decide +kernel
theorem d_M_shorten_314 : decode prog_14_method_110_code 314 = .ok (.ifCond .eq 17, 3) := by decide +kernel
theorem d_M_shorten_331 : decode prog_14_method_110_code 331 = .ok (.iconst 0, 1) := by decide +kernel
theorem d_M_shorten_332 : decode prog_14_method_110_code 332 = .ok (.istore 4, 2) := by decide +kernel
theorem d_M_shorten_334 : decode prog_14_method_110_code 334 = .ok (.iinc 5 1, 3) := by decide +kernel
theorem d_M_shorten_337 : decode prog_14_method_110_code 337 = .ok (.goto (-31), 3) := by decide +kernel
theorem d_M_shorten_317 : decode prog_14_method_110_code 317 = .ok (.aload_n 0, 1) := by decide +kernel
theorem d_M_shorten_318 : decode prog_14_method_110_code 318 = .ok (.getfield 143, 3) := by decide +kernel
theorem d_M_shorten_321 : decode prog_14_method_110_code 321 = .ok (.iload 5, 2) := by decide +kernel
theorem d_M_shorten_323 : decode prog_14_method_110_code 323 = .ok (.baload, 1) := by decide +kernel
theorem d_M_shorten_324 : decode prog_14_method_110_code 324 = .ok (.ifCond .ne 7, 3) := by decide +kernel
theorem d_M_shorten_327 : decode prog_14_method_110_code 327 = .ok (.iconst 1, 1) := by decide +kernel
theorem d_M_shorten_328 : decode prog_14_method_110_code 328 = .ok (.goto 4, 3) := by decide +kernel
theorem d_M_shorten_237 : decode prog_14_method_110_code 237 = .ok (.iload_n 2, 1) := by decide +kernel
theorem d_M_shorten_238 : decode prog_14_method_110_code 238 = .ok (.ifCond .lt 124, 3) := by decide +kernel
theorem d_M_shorten_362 : decode prog_14_method_110_code 362 = .ok (.aload_n 0, 1) := by decide +kernel
theorem d_M_shorten_363 : decode prog_14_method_110_code 363 = .ok (.iconst 0, 1) := by decide +kernel
theorem d_M_shorten_364 : decode prog_14_method_110_code 364 = .ok (.putfield 607, 3) := by decide +kernel
theorem d_M_shorten_367 : decode prog_14_method_110_code 367 = .ok (.iconst 0, 1) := by decide +kernel
theorem d_M_shorten_368 : decode prog_14_method_110_code 368 = .ok (.istore_n 2, 1) := by decide +kernel
theorem d_M_shorten_241 : decode prog_14_method_110_code 241 = .ok (.aload_n 0, 1) := by decide +kernel
theorem d_M_shorten_242 : decode prog_14_method_110_code 242 = .ok (.getfield 143, 3) := by decide +kernel
theorem d_M_shorten_245 : decode prog_14_method_110_code 245 = .ok (.iload_n 2, 1) := by decide +kernel
theorem d_M_shorten_246 : decode prog_14_method_110_code 246 = .ok (.baload, 1) := by decide +kernel
theorem d_M_shorten_247 : decode prog_14_method_110_code 247 = .ok (.ifCond .eq 109, 3) := by decide +kernel
theorem d_M_shorten_250 : decode prog_14_method_110_code 250 = .ok (.aload_n 0, 1) := by decide +kernel
theorem d_M_shorten_251 : decode prog_14_method_110_code 251 = .ok (.getfield 62, 3) := by decide +kernel
theorem d_M_shorten_254 : decode prog_14_method_110_code 254 = .ok (.iload_n 2, 1) := by decide +kernel
theorem d_M_shorten_255 : decode prog_14_method_110_code 255 = .ok (.baload, 1) := by decide +kernel
theorem d_M_shorten_256 : decode prog_14_method_110_code 256 = .ok (.ifCond .ne 100, 3) := by decide +kernel
theorem d_M_shorten_259 : decode prog_14_method_110_code 259 = .ok (.aload_n 0, 1) := by decide +kernel
theorem d_M_shorten_260 : decode prog_14_method_110_code 260 = .ok (.getfield 146, 3) := by decide +kernel
theorem d_M_shorten_263 : decode prog_14_method_110_code 263 = .ok (.iload_n 2, 1) := by decide +kernel
theorem d_M_shorten_264 : decode prog_14_method_110_code 264 = .ok (.laload, 1) := by decide +kernel
theorem d_M_shorten_265 : decode prog_14_method_110_code 265 = .ok (.invokestatic 308, 3) := by decide +kernel
theorem d_M_shorten_268 : decode prog_14_method_110_code 268 = .ok (.iconst 5, 1) := by decide +kernel
theorem d_M_shorten_269 : decode prog_14_method_110_code 269 = .ok (.if_icmp .eq 6, 3) := by decide +kernel
theorem d_M_shorten_275 : decode prog_14_method_110_code 275 = .ok (.iload_n 2, 1) := by decide +kernel
theorem d_M_shorten_276 : decode prog_14_method_110_code 276 = .ok (.iconst 1, 1) := by decide +kernel
theorem d_M_shorten_277 : decode prog_14_method_110_code 277 = .ok (.iadd, 1) := by decide +kernel
theorem d_M_shorten_278 : decode prog_14_method_110_code 278 = .ok (.aload_n 0, 1) := by decide +kernel
theorem d_M_shorten_279 : decode prog_14_method_110_code 279 = .ok (.getfield 146, 3) := by decide +kernel
theorem d_M_shorten_282 : decode prog_14_method_110_code 282 = .ok (.iload_n 2, 1) := by decide +kernel
theorem d_M_shorten_283 : decode prog_14_method_110_code 283 = .ok (.laload, 1) := by decide +kernel
theorem d_M_shorten_284 : decode prog_14_method_110_code 284 = .ok (.invokestatic 321, 3) := by decide +kernel
theorem d_M_shorten_287 : decode prog_14_method_110_code 287 = .ok (.iadd, 1) := by decide +kernel
theorem d_M_shorten_288 : decode prog_14_method_110_code 288 = .ok (.istore_n 3, 1) := by decide +kernel
theorem d_M_shorten_289 : decode prog_14_method_110_code 289 = .ok (.iload_n 3, 1) := by decide +kernel
theorem d_M_shorten_290 : decode prog_14_method_110_code 290 = .ok (.iload_n 2, 1) := by decide +kernel
theorem d_M_shorten_291 : decode prog_14_method_110_code 291 = .ok (.if_icmp .le 7, 3) := by decide +kernel
theorem d_M_shorten_298 : decode prog_14_method_110_code 298 = .ok (.iconst 0, 1) := by decide +kernel
theorem d_M_shorten_299 : decode prog_14_method_110_code 299 = .ok (.istore 4, 2) := by decide +kernel
theorem d_M_shorten_301 : decode prog_14_method_110_code 301 = .ok (.iload_n 2, 1) := by decide +kernel
theorem d_M_shorten_302 : decode prog_14_method_110_code 302 = .ok (.iconst 1, 1) := by decide +kernel
theorem d_M_shorten_303 : decode prog_14_method_110_code 303 = .ok (.iadd, 1) := by decide +kernel
theorem d_M_shorten_304 : decode prog_14_method_110_code 304 = .ok (.istore 5, 2) := by decide +kernel
theorem d_M_shorten_294 : decode prog_14_method_110_code 294 = .ok (.iconst 1, 1) := by decide +kernel
theorem d_M_shorten_295 : decode prog_14_method_110_code 295 = .ok (.goto 4, 3) := by decide +kernel
theorem d_M_shorten_272 : decode prog_14_method_110_code 272 = .ok (.goto 84, 3) := by decide +kernel
theorem d_M_shorten_168 : decode prog_14_method_110_code 168 = .ok (.iload 5, 2) := by decide +kernel
theorem d_M_shorten_170 : decode prog_14_method_110_code 170 = .ok (.invokestatic 336, 3) := by decide +kernel
theorem d_M_shorten_173 : decode prog_14_method_110_code 173 = .ok (.ifCond .eq 54, 3) := by decide +kernel
theorem d_M_shorten_227 : decode prog_14_method_110_code 227 = .ok (.iinc 2 1, 3) := by decide +kernel
theorem d_M_shorten_230 : decode prog_14_method_110_code 230 = .ok (.goto (-228), 3) := by decide +kernel
theorem d_M_shorten_176 : decode prog_14_method_110_code 176 = .ok (.aload_n 0, 1) := by decide +kernel
theorem d_M_shorten_177 : decode prog_14_method_110_code 177 = .ok (.getfield 56, 3) := by decide +kernel
theorem d_M_shorten_180 : decode prog_14_method_110_code 180 = .ok (.iload_n 2, 1) := by decide +kernel
theorem d_M_shorten_181 : decode prog_14_method_110_code 181 = .ok (.iaload, 1) := by decide +kernel
theorem d_M_shorten_182 : decode prog_14_method_110_code 182 = .ok (.iconst 1, 1) := by decide +kernel
theorem d_M_shorten_183 : decode prog_14_method_110_code 183 = .ok (.if_icmp .ne 44, 3) := by decide +kernel
theorem d_M_shorten_186 : decode prog_14_method_110_code 186 = .ok (.aload_n 0, 1) := by decide +kernel
theorem d_M_shorten_187 : decode prog_14_method_110_code 187 = .ok (.getfield 59, 3) := by decide +kernel
theorem d_M_shorten_190 : decode prog_14_method_110_code 190 = .ok (.iload_n 2, 1) := by decide +kernel
theorem d_M_shorten_191 : decode prog_14_method_110_code 191 = .ok (.laload, 1) := by decide +kernel
theorem d_M_shorten_192 : decode prog_14_method_110_code 192 = .ok (.aload_n 0, 1) := by decide +kernel
theorem d_M_shorten_193 : decode prog_14_method_110_code 193 = .ok (.getfield 59, 3) := by decide +kernel
theorem d_M_shorten_196 : decode prog_14_method_110_code 196 = .ok (.iload_n 2, 1) := by decide +kernel
theorem d_M_shorten_197 : decode prog_14_method_110_code 197 = .ok (.laload, 1) := by decide +kernel
theorem d_M_shorten_198 : decode prog_14_method_110_code 198 = .ok (.l2i, 1) := by decide +kernel
theorem d_M_shorten_199 : decode prog_14_method_110_code 199 = .ok (.i2l, 1) := by decide +kernel
theorem d_M_shorten_200 : decode prog_14_method_110_code 200 = .ok (.lcmp, 1) := by decide +kernel
theorem d_M_shorten_201 : decode prog_14_method_110_code 201 = .ok (.ifCond .ne 26, 3) := by decide +kernel
theorem d_M_shorten_204 : decode prog_14_method_110_code 204 = .ok (.aload_n 0, 1) := by decide +kernel
theorem d_M_shorten_205 : decode prog_14_method_110_code 205 = .ok (.getfield 146, 3) := by decide +kernel
theorem d_M_shorten_208 : decode prog_14_method_110_code 208 = .ok (.iload_n 2, 1) := by decide +kernel
theorem d_M_shorten_209 : decode prog_14_method_110_code 209 = .ok (.sipush 183, 3) := by decide +kernel
theorem d_M_shorten_212 : decode prog_14_method_110_code 212 = .ok (.lload_n 3, 1) := by decide +kernel
theorem d_M_shorten_213 : decode prog_14_method_110_code 213 = .ok (.invokestatic 315, 3) := by decide +kernel
theorem d_M_shorten_216 : decode prog_14_method_110_code 216 = .ok (.aload_n 0, 1) := by decide +kernel
theorem d_M_shorten_217 : decode prog_14_method_110_code 217 = .ok (.getfield 59, 3) := by decide +kernel
theorem d_M_shorten_220 : decode prog_14_method_110_code 220 = .ok (.iload_n 2, 1) := by decide +kernel
theorem d_M_shorten_221 : decode prog_14_method_110_code 221 = .ok (.laload, 1) := by decide +kernel
theorem d_M_shorten_222 : decode prog_14_method_110_code 222 = .ok (.l2i, 1) := by decide +kernel
theorem d_M_shorten_223 : decode prog_14_method_110_code 223 = .ok (.invokestatic 603, 3) := by decide +kernel
theorem u_2398 : Cond.methodLink "FilterGuardModel" 603 ⟨"FilterGuardModel", "made", "(III)J"⟩ ∈ fg_g := fg_in (List.mem_of_getElem? (i := 2398) (by decide +kernel)) rfl
theorem u_2400 : Cond.code ⟨"FilterGuardModel", "made", "(III)J"⟩ prog_14_method_109_code 3 (some .long) ∈ fg_g := fg_in (List.mem_of_getElem? (i := 2400) (by decide +kernel)) rfl
theorem u_2399 : Cond.static ⟨"FilterGuardModel", "made", "(III)J"⟩ ∈ fg_g := fg_in (List.mem_of_getElem? (i := 2399) (by decide +kernel)) rfl
theorem d_M_shorten_226 : decode prog_14_method_110_code 226 = .ok (.lastore, 1) := by decide +kernel
theorem d_M_shorten_120 : decode prog_14_method_110_code 120 = .ok (.bastore, 1) := by decide +kernel
theorem d_M_shorten_121 : decode prog_14_method_110_code 121 = .ok (.aload_n 0, 1) := by decide +kernel
theorem d_M_shorten_122 : decode prog_14_method_110_code 122 = .ok (.getfield 146, 3) := by decide +kernel
theorem d_M_shorten_125 : decode prog_14_method_110_code 125 = .ok (.iload_n 2, 1) := by decide +kernel
theorem d_M_shorten_126 : decode prog_14_method_110_code 126 = .ok (.lload_n 3, 1) := by decide +kernel
theorem d_M_shorten_127 : decode prog_14_method_110_code 127 = .ok (.lastore, 1) := by decide +kernel
theorem d_M_shorten_128 : decode prog_14_method_110_code 128 = .ok (.iload 5, 2) := by decide +kernel
theorem d_M_shorten_130 : decode prog_14_method_110_code 130 = .ok (.bipush 11, 2) := by decide +kernel
theorem d_M_shorten_132 : decode prog_14_method_110_code 132 = .ok (.if_icmp .ne 36, 3) := by decide +kernel
theorem d_M_shorten_135 : decode prog_14_method_110_code 135 = .ok (.aload_n 0, 1) := by decide +kernel
theorem d_M_shorten_136 : decode prog_14_method_110_code 136 = .ok (.getfield 50, 3) := by decide +kernel
theorem d_M_shorten_139 : decode prog_14_method_110_code 139 = .ok (.iload_n 2, 1) := by decide +kernel
theorem d_M_shorten_140 : decode prog_14_method_110_code 140 = .ok (.baload, 1) := by decide +kernel
theorem d_M_shorten_141 : decode prog_14_method_110_code 141 = .ok (.ifCond .eq 27, 3) := by decide +kernel
theorem d_M_shorten_144 : decode prog_14_method_110_code 144 = .ok (.aload_n 0, 1) := by decide +kernel
theorem d_M_shorten_145 : decode prog_14_method_110_code 145 = .ok (.getfield 53, 3) := by decide +kernel
theorem d_M_shorten_148 : decode prog_14_method_110_code 148 = .ok (.iload_n 2, 1) := by decide +kernel
theorem d_M_shorten_149 : decode prog_14_method_110_code 149 = .ok (.baload, 1) := by decide +kernel
theorem d_M_shorten_150 : decode prog_14_method_110_code 150 = .ok (.ifCond .ne 18, 3) := by decide +kernel
theorem d_M_shorten_153 : decode prog_14_method_110_code 153 = .ok (.aload_n 0, 1) := by decide +kernel
theorem d_M_shorten_154 : decode prog_14_method_110_code 154 = .ok (.getfield 146, 3) := by decide +kernel
theorem d_M_shorten_157 : decode prog_14_method_110_code 157 = .ok (.iload_n 2, 1) := by decide +kernel
theorem d_M_shorten_158 : decode prog_14_method_110_code 158 = .ok (.ldc2_w 599, 3) := by decide +kernel
theorem u_2396 : Cond.constantLong "FilterGuardModel" 599 5 ∈ fg_g := fg_in (List.mem_of_getElem? (i := 2396) (by decide +kernel)) rfl
theorem d_M_shorten_161 : decode prog_14_method_110_code 161 = .ok (.lload_n 3, 1) := by decide +kernel
theorem d_M_shorten_162 : decode prog_14_method_110_code 162 = .ok (.ldc2_w 601, 3) := by decide +kernel
theorem u_2397 : Cond.constantLong "FilterGuardModel" 601 4294901760 ∈ fg_g := fg_in (List.mem_of_getElem? (i := 2397) (by decide +kernel)) rfl
theorem d_M_shorten_165 : decode prog_14_method_110_code 165 = .ok (.land, 1) := by decide +kernel
theorem d_M_shorten_166 : decode prog_14_method_110_code 166 = .ok (.lor, 1) := by decide +kernel
theorem d_M_shorten_167 : decode prog_14_method_110_code 167 = .ok (.lastore, 1) := by decide +kernel
theorem d_M_shorten_119 : decode prog_14_method_110_code 119 = .ok (.iconst 0, 1) := by decide +kernel
theorem d_M_shorten_115 : decode prog_14_method_110_code 115 = .ok (.iconst 1, 1) := by decide +kernel
theorem d_M_shorten_116 : decode prog_14_method_110_code 116 = .ok (.goto 4, 3) := by decide +kernel
theorem d_M_shorten_78 : decode prog_14_method_110_code 78 = .ok (.istore 6, 2) := by decide +kernel
theorem d_M_shorten_80 : decode prog_14_method_110_code 80 = .ok (.aload_n 0, 1) := by decide +kernel
theorem d_M_shorten_81 : decode prog_14_method_110_code 81 = .ok (.getfield 143, 3) := by decide +kernel
theorem d_M_shorten_84 : decode prog_14_method_110_code 84 = .ok (.iload_n 2, 1) := by decide +kernel
theorem d_M_shorten_85 : decode prog_14_method_110_code 85 = .ok (.iload 6, 2) := by decide +kernel
theorem d_M_shorten_87 : decode prog_14_method_110_code 87 = .ok (.ifCond .eq 32, 3) := by decide +kernel
theorem d_M_shorten_90 : decode prog_14_method_110_code 90 = .ok (.iload 5, 2) := by decide +kernel
theorem d_M_shorten_92 : decode prog_14_method_110_code 92 = .ok (.bipush 11, 2) := by decide +kernel
theorem d_M_shorten_94 : decode prog_14_method_110_code 94 = .ok (.if_icmp .ne 21, 3) := by decide +kernel
theorem d_M_shorten_97 : decode prog_14_method_110_code 97 = .ok (.aload_n 0, 1) := by decide +kernel
theorem d_M_shorten_98 : decode prog_14_method_110_code 98 = .ok (.getfield 53, 3) := by decide +kernel
theorem d_M_shorten_101 : decode prog_14_method_110_code 101 = .ok (.iload_n 2, 1) := by decide +kernel
theorem d_M_shorten_102 : decode prog_14_method_110_code 102 = .ok (.baload, 1) := by decide +kernel
theorem d_M_shorten_103 : decode prog_14_method_110_code 103 = .ok (.ifCond .eq 12, 3) := by decide +kernel
theorem d_M_shorten_106 : decode prog_14_method_110_code 106 = .ok (.aload_n 0, 1) := by decide +kernel
theorem d_M_shorten_107 : decode prog_14_method_110_code 107 = .ok (.getfield 50, 3) := by decide +kernel
theorem d_M_shorten_110 : decode prog_14_method_110_code 110 = .ok (.iload_n 2, 1) := by decide +kernel
theorem d_M_shorten_111 : decode prog_14_method_110_code 111 = .ok (.baload, 1) := by decide +kernel
theorem d_M_shorten_112 : decode prog_14_method_110_code 112 = .ok (.ifCond .eq 7, 3) := by decide +kernel
theorem d_M_shorten_34 : decode prog_14_method_110_code 34 = .ok (.istore 5, 2) := by decide +kernel
theorem d_M_shorten_36 : decode prog_14_method_110_code 36 = .ok (.aload_n 0, 1) := by decide +kernel
theorem d_M_shorten_37 : decode prog_14_method_110_code 37 = .ok (.getfield 62, 3) := by decide +kernel
theorem d_M_shorten_40 : decode prog_14_method_110_code 40 = .ok (.iload_n 2, 1) := by decide +kernel
theorem d_M_shorten_41 : decode prog_14_method_110_code 41 = .ok (.baload, 1) := by decide +kernel
theorem d_M_shorten_42 : decode prog_14_method_110_code 42 = .ok (.ifCond .eq 22, 3) := by decide +kernel
theorem d_M_shorten_64 : decode prog_14_method_110_code 64 = .ok (.aload_n 0, 1) := by decide +kernel
theorem d_M_shorten_65 : decode prog_14_method_110_code 65 = .ok (.getfield 47, 3) := by decide +kernel
theorem d_M_shorten_68 : decode prog_14_method_110_code 68 = .ok (.iload_n 2, 1) := by decide +kernel
theorem d_M_shorten_69 : decode prog_14_method_110_code 69 = .ok (.iaload, 1) := by decide +kernel
theorem d_M_shorten_70 : decode prog_14_method_110_code 70 = .ok (.ifCond .le 7, 3) := by decide +kernel
theorem d_M_shorten_77 : decode prog_14_method_110_code 77 = .ok (.iconst 0, 1) := by decide +kernel
theorem d_M_shorten_73 : decode prog_14_method_110_code 73 = .ok (.iconst 1, 1) := by decide +kernel
theorem d_M_shorten_74 : decode prog_14_method_110_code 74 = .ok (.goto 4, 3) := by decide +kernel
theorem d_M_shorten_45 : decode prog_14_method_110_code 45 = .ok (.aload_n 0, 1) := by decide +kernel
theorem d_M_shorten_46 : decode prog_14_method_110_code 46 = .ok (.getfield 47, 3) := by decide +kernel
theorem d_M_shorten_49 : decode prog_14_method_110_code 49 = .ok (.iload_n 2, 1) := by decide +kernel
theorem d_M_shorten_50 : decode prog_14_method_110_code 50 = .ok (.iconst 1, 1) := by decide +kernel
theorem d_M_shorten_51 : decode prog_14_method_110_code 51 = .ok (.isub, 1) := by decide +kernel
theorem d_M_shorten_52 : decode prog_14_method_110_code 52 = .ok (.iaload, 1) := by decide +kernel
theorem d_M_shorten_53 : decode prog_14_method_110_code 53 = .ok (.ifCond .le 7, 3) := by decide +kernel
theorem d_M_shorten_60 : decode prog_14_method_110_code 60 = .ok (.iconst 0, 1) := by decide +kernel
theorem d_M_shorten_61 : decode prog_14_method_110_code 61 = .ok (.goto 17, 3) := by decide +kernel
theorem d_M_shorten_56 : decode prog_14_method_110_code 56 = .ok (.iconst 1, 1) := by decide +kernel
theorem d_M_shorten_57 : decode prog_14_method_110_code 57 = .ok (.goto 21, 3) := by decide +kernel
theorem d_M_shorten_2 : decode prog_14_method_110_code 2 = .ok (.iload_n 2, 1) := by decide +kernel
theorem d_M_shorten_3 : decode prog_14_method_110_code 3 = .ok (.iload_n 1, 1) := by decide +kernel
theorem d_M_shorten_4 : decode prog_14_method_110_code 4 = .ok (.if_icmp .ge 229, 3) := by decide +kernel
theorem d_M_shorten_233 : decode prog_14_method_110_code 233 = .ok (.iload_n 1, 1) := by decide +kernel
theorem d_M_shorten_234 : decode prog_14_method_110_code 234 = .ok (.iconst 1, 1) := by decide +kernel
theorem d_M_shorten_235 : decode prog_14_method_110_code 235 = .ok (.isub, 1) := by decide +kernel
theorem d_M_shorten_236 : decode prog_14_method_110_code 236 = .ok (.istore_n 2, 1) := by decide +kernel
theorem d_M_shorten_7 : decode prog_14_method_110_code 7 = .ok (.aload_n 0, 1) := by decide +kernel
theorem d_M_shorten_8 : decode prog_14_method_110_code 8 = .ok (.getfield 37, 3) := by decide +kernel
theorem d_M_shorten_11 : decode prog_14_method_110_code 11 = .ok (.iload_n 2, 1) := by decide +kernel
theorem d_M_shorten_12 : decode prog_14_method_110_code 12 = .ok (.laload, 1) := by decide +kernel
theorem d_M_shorten_13 : decode prog_14_method_110_code 13 = .ok (.lstore_n 3, 1) := by decide +kernel
theorem d_M_shorten_14 : decode prog_14_method_110_code 14 = .ok (.aload_n 0, 1) := by decide +kernel
theorem d_M_shorten_15 : decode prog_14_method_110_code 15 = .ok (.getfield 62, 3) := by decide +kernel
theorem d_M_shorten_18 : decode prog_14_method_110_code 18 = .ok (.iload_n 2, 1) := by decide +kernel
theorem d_M_shorten_19 : decode prog_14_method_110_code 19 = .ok (.baload, 1) := by decide +kernel
theorem d_M_shorten_20 : decode prog_14_method_110_code 20 = .ok (.ifCond .eq 7, 3) := by decide +kernel
theorem d_M_shorten_27 : decode prog_14_method_110_code 27 = .ok (.lload_n 3, 1) := by decide +kernel
theorem d_M_shorten_28 : decode prog_14_method_110_code 28 = .ok (.invokestatic 308, 3) := by decide +kernel
theorem d_M_shorten_31 : decode prog_14_method_110_code 31 = .ok (.invokestatic 312, 3) := by decide +kernel
theorem d_M_shorten_23 : decode prog_14_method_110_code 23 = .ok (.iconst 0, 1) := by decide +kernel
theorem d_M_shorten_24 : decode prog_14_method_110_code 24 = .ok (.goto 10, 3) := by decide +kernel
theorem d_M_shorten_0 : decode prog_14_method_110_code 0 = .ok (.iconst 0, 1) := by decide +kernel
theorem d_M_shorten_1 : decode prog_14_method_110_code 1 = .ok (.istore_n 2, 1) := by decide +kernel
abbrev y_M_shorten : MethodName := ⟨"FilterGuardModel", "shorten", "(I)V"⟩
def rm_M_shorten : Room := { frames := 3, cells := 0, slots := 0, locals := 61 }
abbrev q_M_shorten (D : va_G) (ad : Nat → Nat → Nat) (ca : Nat → ClassId) (N : Nat → Nat) (M0 MZ : me_M) (A : Nat → Prop) : Array Value → Jvm.State → Outcome → Jvm.State → Prop := va_Qv (fun (_ : Unit) => me_wf N MZ ∧ me_kp M0 MZ) (fg_B D A (fun _ => me_W ad ca MZ) (fun _ => [])) A
set_option maxHeartbeats 4000000 in
set_option maxRecDepth 100000 in
theorem c_M_shorten (l : Launch) (D : va_G) (ad : Nat → Nat → Nat) (ca : Nat → ClassId) (N : Nat → Nat) (M0 MZ : me_M) (j0 : Nat) (x1 : Int32) (h : f_M_shorten M0 j0 x1 = (some MZ)) (hwf : me_wf N M0) (hj0 : j0 < N 1) (sz : Nat) : Met l y_M_shorten (fg_w y_M_shorten prog_14_method_110_code 7 none) rm_M_shorten (va_Pc [.ref (ad 1 j0), .int x1] (fz_P D (me_T ca) (me_W ad ca M0) sz)) (q_M_shorten D ad ca N M0 MZ (va_A (me_W ad ca M0) sz)) rm_M_shorten.cells rm_M_shorten.slots (va_A (me_W ad ca M0) sz) := by
  refine fz_enter (fun A => q_M_shorten D ad ca N M0 MZ A) (by decide +kernel) (Nat.le_of_ble_eq_true rfl) ?_
  intro p e s m below meth c ls A hx hb hml hown hts hr hlocks hin hP hK hD hS hA hX hl hz
  have hl : lv_has ls 7 [(0, .ref (ad 1 j0)), (1, .int x1)] := hl
  unfold f_M_shorten at h
  have hkp : me_kp M0 M0 := me_kp.rf
  have hkb := hkp
  have b_475 : ∀ (k415 : me_M → Int32 → Option me_M) (hk415 : ∀ (M : me_M) (y2 : Int32) (H : Heap) (locs : List Loc) (ls : Array Slot), k415 M y2 = (some MZ) → me_wf N M → me_kp M0 M → va_P D classes (me_W ad ca M) H → va_D A (me_W ad ca M) → va_S A s.heap H locs → lv_has ls 7 [(0, .ref (ad 1 j0)), (1, .int x1), (2, .int y2)] → W p l e rm_M_shorten s m [.ref (ad 1 j0), .int x1].toArray below meth c H locs 0 0 (MQ below (q_M_shorten D ad ca N M0 MZ A) [.ref (ad 1 j0), .int x1].toArray s rm_M_shorten.cells rm_M_shorten.slots A) (F0 m 415 ls [])), ∀ (M : me_M) (y2 : Int32) (y3 : Int64) (H : Heap) (locs : List Loc) (ls : Array Slot), f_M_shorten_b475 k415 j0 x1 M y2 y3 = (some MZ) → me_wf N M → me_kp M0 M → va_P D classes (me_W ad ca M) H → va_D A (me_W ad ca M) → va_S A s.heap H locs → lv_has ls 7 [(0, .ref (ad 1 j0)), (1, .int x1), (2, .int y2), (3, .long y3)] → W p l e rm_M_shorten s m [.ref (ad 1 j0), .int x1].toArray below meth c H locs 0 0 (MQ below (q_M_shorten D ad ca N M0 MZ A) [.ref (ad 1 j0), .int x1].toArray s rm_M_shorten.cells rm_M_shorten.slots A) (F0 m 475 ls []) := by
    intro k415 hk415 M y2 y3 H locs ls h hwf hkp hP hD hS hl
    unfold f_M_shorten_b475 at h
    have hkb := hkp
    refine lv_aload_n hx hb d_M_shorten_475 rfl (lv_at hl 0 rfl) ?_
    refine g_M_73 hx hb hts hown hK hP hwf hj0 (hts _ u_1814) d_M_shorten_476 ?_
    obtain ⟨j1, e2, h⟩ := bd_ob h
    have hj1 : j1 < N 13 := (hwf.2.1 1 j0 73 _ e2 (by decide) hj0)
    refine me_opt (j := j1) e2 ?_
    refine lv_iload_n hx hb d_M_shorten_479 rfl (lv_at hl 2 rfl) ?_
    refine lv_iconst (v := 1) hx hb d_M_shorten_480 (by decide) ?_
    refine lv_iadd hx hb d_M_shorten_481 ?_
    refine lv_lload_n hx hb d_M_shorten_482 rfl (lv_at hl 3 rfl) ?_
    obtain ⟨r3, er3, h⟩ := bd_ob h
    refine me_pani' (r0 := r3) (fg_runS (wc := []) (tc := []) (A2 := A) (As := [.long y3]) (rest := [.int (y2 + 1), .ref (ad 13 j1)]) ⟨hx, hb, hml, hown, hts⟩ (c_M_offsetOf l D r3 y3 er3 _) (by show fg_nm y_M_offsetOf 1; decide +kernel) u_2013 u_2014 u_192 u_2015 ⟨Nat.le_of_ble_eq_true rfl, Nat.le_of_ble_eq_true rfl⟩ hX me_P0 (hK.sub (tys' := []) [] rfl) me_D0 rfl hl.1 (Nat.le_of_ble_eq_true rfl) d_M_shorten_483 ⟨Nat.le_of_ble_eq_true rfl, Nat.le_of_ble_eq_true rfl⟩) hP hD hK hS hA rfl rfl (fun H locs hw hP hD hS => ?_)
    refine lv_iadd hx hb d_M_shorten_486 ?_
    obtain ⟨g4, h⟩ := gd_ob h
    refine me_iald hx hb hK hP hwf hj1 g4 d_M_shorten_487 ?_
    refine lv_aload_n hx hb d_M_shorten_488 rfl (lv_at hl 0 rfl) ?_
    refine g_M_73 hx hb hts hown hK hP hwf hj0 (hts _ u_1814) d_M_shorten_489 ?_
    refine me_opt (j := j1) e2 ?_
    refine lv_iload_n hx hb d_M_shorten_492 rfl (lv_at hl 2 rfl) ?_
    obtain ⟨g5, h⟩ := gd_ob h
    refine me_iald hx hb hK hP hwf hj1 g5 d_M_shorten_493 ?_
    refine lv_isub hx hb d_M_shorten_494 ?_
    obtain ⟨v6, ev6, h⟩ := st_ob h
    refine fg_topi (y := v6) ev6.symm ?_
    refine lv_iconst (v := 1) hx hb d_M_shorten_495 (by decide) ?_
    refine lv_isub hx hb d_M_shorten_496 ?_
    obtain ⟨v7, ev7, h⟩ := st_ob h
    refine fg_topi (y := v7) ev7.symm ?_
    refine lv_istore (lv' := [(6, .int v7), (0, .ref (ad 1 j0)), (1, .int x1), (2, .int y2), (3, .long y3)]) hx hb d_M_shorten_497 hl (by decide) rfl (fun ls hl => ?_)
    refine lv_lload_n hx hb d_M_shorten_499 rfl (lv_at hl 4 rfl) ?_
    refine lv_ldc2 hx hb hown (hts _ u_2401) d_M_shorten_500 ?_
    refine lv_land hx hb d_M_shorten_503 ?_
    refine lv_iload hx hb d_M_shorten_504 (lv_at hl 0 rfl) ?_
    refine lv_ldcw hx hb hown (hts _ u_2402) d_M_shorten_506 ?_
    refine lv_iand hx hb d_M_shorten_509 ?_
    refine lv_i2l (v := (v7 &&& 65535).toInt64) hx hb d_M_shorten_510 rfl ?_
    refine lv_bipush (v := 16) hx hb d_M_shorten_511 (by decide) ?_
    refine lv_lshl (v := jlshl ((v7 &&& 65535).toInt64) (16 : Int32)) hx hb d_M_shorten_513 rfl ?_
    refine lv_lor hx hb d_M_shorten_514 ?_
    obtain ⟨v8, ev8, h⟩ := st_ob h
    refine fg_topl (y := v8) ev8.symm ?_
    refine lv_lstore_n (lv' := [(3, .long v8), (6, .int v7), (0, .ref (ad 1 j0)), (1, .int x1), (2, .int y2)]) hx hb d_M_shorten_515 rfl hl (by decide) rfl (fun ls hl => ?_)
    refine lv_aload_n hx hb d_M_shorten_516 rfl (lv_at hl 2 rfl) ?_
    refine g_M_17 hx hb hts hown hK hP hwf hj0 (hts _ u_1758) d_M_shorten_517 ?_
    obtain ⟨j9, e10, h⟩ := bd_ob h
    have hj9 : j9 < N 16 := (hwf.2.1 1 j0 17 _ e10 (by decide) hj0)
    refine me_opt (j := j9) e10 ?_
    refine lv_aload_n hx hb d_M_shorten_520 rfl (lv_at hl 2 rfl) ?_
    refine g_M_73 hx hb hts hown hK hP hwf hj0 (hts _ u_1814) d_M_shorten_521 ?_
    refine me_opt (j := j1) e2 ?_
    refine lv_iload_n hx hb d_M_shorten_524 rfl (lv_at hl 4 rfl) ?_
    refine me_iald hx hb hK hP hwf hj1 g5 d_M_shorten_525 ?_
    refine lv_lload_n hx hb d_M_shorten_526 rfl (lv_at hl 0 rfl) ?_
    obtain ⟨g11, h⟩ := gd_ob h
    obtain ⟨M12, eM12, h⟩ := st_ob h
    refine me_last eM12 hx hb hK hP hD hwf hS hj9 g11 d_M_shorten_527 (fun H locs hP hD hwf hS => ?_)
    have hkp := kp_L eM12 hkp
    refine lv_iinc (v := y2 + 1) (lv' := [(2, .int (y2 + 1)), (3, .long v8), (6, .int v7), (0, .ref (ad 1 j0)), (1, .int x1)]) hx hb d_M_shorten_528 hl (k := 4) rfl (by rfl) (by decide) rfl (fun ls hl => ?_)
    refine lv_goto (tgt := 415) hx hb d_M_shorten_531 (by decide) ?_
    exact hk415 M12 (y2 + 1) _ _ _ h hwf hkp hP hD hS (lv_sub hl [3, 4, 0] rfl)
  have b_459 : ∀ (k415 : me_M → Int32 → Option me_M) (hk415 : ∀ (M : me_M) (y2 : Int32) (H : Heap) (locs : List Loc) (ls : Array Slot), k415 M y2 = (some MZ) → me_wf N M → me_kp M0 M → va_P D classes (me_W ad ca M) H → va_D A (me_W ad ca M) → va_S A s.heap H locs → lv_has ls 7 [(0, .ref (ad 1 j0)), (1, .int x1), (2, .int y2)] → W p l e rm_M_shorten s m [.ref (ad 1 j0), .int x1].toArray below meth c H locs 0 0 (MQ below (q_M_shorten D ad ca N M0 MZ A) [.ref (ad 1 j0), .int x1].toArray s rm_M_shorten.cells rm_M_shorten.slots A) (F0 m 415 ls [])), ∀ (M : me_M) (y2 : Int32) (y3 : Int64) (s0 : Int32) (H : Heap) (locs : List Loc) (ls : Array Slot), f_M_shorten_b459 k415 j0 x1 M y2 y3 s0 = (some MZ) → me_wf N M → me_kp M0 M → va_P D classes (me_W ad ca M) H → va_D A (me_W ad ca M) → va_S A s.heap H locs → lv_has ls 7 [(0, .ref (ad 1 j0)), (1, .int x1), (2, .int y2), (3, .long y3)] → W p l e rm_M_shorten s m [.ref (ad 1 j0), .int x1].toArray below meth c H locs 0 0 (MQ below (q_M_shorten D ad ca N M0 MZ A) [.ref (ad 1 j0), .int x1].toArray s rm_M_shorten.cells rm_M_shorten.slots A) (F0 m 459 ls [.int s0]) := by
    intro k415 hk415 M y2 y3 s0 H locs ls h hwf hkp hP hD hS hl
    unfold f_M_shorten_b459 at h
    have hkb := hkp
    refine lv_istore (lv' := [(5, .int s0), (0, .ref (ad 1 j0)), (1, .int x1), (2, .int y2), (3, .long y3)]) hx hb d_M_shorten_459 hl (by decide) rfl (fun ls hl => ?_)
    refine lv_iload hx hb d_M_shorten_461 (lv_at hl 0 rfl) ?_
    refine lv_bipush (v := 10) hx hb d_M_shorten_463 (by decide) ?_
    refine lv_icmp_eq (tgt := 475) hx hb d_M_shorten_465 (by decide) (fun c13 => ?_) (fun c13 => ?_)
    · have h := if_t c13 h
      exact b_475 _ hk415 M y2 y3 _ _ _ h hwf hkp hP hD hS (lv_sub hl [1, 2, 3, 4] rfl)
    have h := if_f c13 h
    refine lv_iload hx hb d_M_shorten_468 (lv_at hl 0 rfl) ?_
    refine lv_bipush (v := 11) hx hb d_M_shorten_470 (by decide) ?_
    refine lv_icmp_ne (tgt := 516) hx hb d_M_shorten_472 (by decide) (fun c14 => ?_) (fun c14 => ?_)
    · have h := if_f c14 h
      refine lv_aload_n hx hb d_M_shorten_516 rfl (lv_at hl 1 rfl) ?_
      refine g_M_17 hx hb hts hown hK hP hwf hj0 (hts _ u_1758) d_M_shorten_517 ?_
      obtain ⟨j15, e16, h⟩ := bd_ob h
      have hj15 : j15 < N 16 := (hwf.2.1 1 j0 17 _ e16 (by decide) hj0)
      refine me_opt (j := j15) e16 ?_
      refine lv_aload_n hx hb d_M_shorten_520 rfl (lv_at hl 1 rfl) ?_
      refine g_M_73 hx hb hts hown hK hP hwf hj0 (hts _ u_1814) d_M_shorten_521 ?_
      obtain ⟨j17, e18, h⟩ := bd_ob h
      have hj17 : j17 < N 13 := (hwf.2.1 1 j0 73 _ e18 (by decide) hj0)
      refine me_opt (j := j17) e18 ?_
      refine lv_iload_n hx hb d_M_shorten_524 rfl (lv_at hl 3 rfl) ?_
      obtain ⟨g19, h⟩ := gd_ob h
      refine me_iald hx hb hK hP hwf hj17 g19 d_M_shorten_525 ?_
      refine lv_lload_n hx hb d_M_shorten_526 rfl (lv_at hl 4 rfl) ?_
      obtain ⟨g20, h⟩ := gd_ob h
      obtain ⟨M21, eM21, h⟩ := st_ob h
      refine me_last eM21 hx hb hK hP hD hwf hS hj15 g20 d_M_shorten_527 (fun H locs hP hD hwf hS => ?_)
      have hkp := kp_L eM21 hkp
      refine lv_iinc (v := y2 + 1) (lv' := [(2, .int (y2 + 1)), (5, .int s0), (0, .ref (ad 1 j0)), (1, .int x1), (3, .long y3)]) hx hb d_M_shorten_528 hl (k := 3) rfl (by rfl) (by decide) rfl (fun ls hl => ?_)
      refine lv_goto (tgt := 415) hx hb d_M_shorten_531 (by decide) ?_
      exact hk415 M21 (y2 + 1) _ _ _ h hwf hkp hP hD hS (lv_sub hl [2, 3, 0] rfl)
    have h := if_t c14 h
    exact b_475 _ hk415 M y2 y3 _ _ _ h hwf hkp hP hD hS (lv_sub hl [1, 2, 3, 4] rfl)
  have b_415 : ∀ (fu : Nat), ∀ (M : me_M) (y2 : Int32) (H : Heap) (locs : List Loc) (ls : Array Slot), f_M_shorten_l415 j0 x1 fu M y2 = (some MZ) → me_wf N M → me_kp M0 M → va_P D classes (me_W ad ca M) H → va_D A (me_W ad ca M) → va_S A s.heap H locs → lv_has ls 7 [(0, .ref (ad 1 j0)), (1, .int x1), (2, .int y2)] → W p l e rm_M_shorten s m [.ref (ad 1 j0), .int x1].toArray below meth c H locs 0 0 (MQ below (q_M_shorten D ad ca N M0 MZ A) [.ref (ad 1 j0), .int x1].toArray s rm_M_shorten.cells rm_M_shorten.slots A) (F0 m 415 ls []) := by
    intro fu
    induction fu with
    | zero =>
      intro M y2 H locs ls h hwf hkp hP hD hS hl
      cases h
    | succ fu ih =>
      intro M y2 H locs ls h hwf hkp hP hD hS hl
      unfold f_M_shorten_l415 at h
      have hkb := hkp
      refine lv_iload_n hx hb d_M_shorten_415 rfl (lv_at hl 2 rfl) ?_
      refine lv_iload_n hx hb d_M_shorten_416 rfl (lv_at hl 1 rfl) ?_
      refine lv_icmp_ge (tgt := 534) hx hb d_M_shorten_417 (by decide) (fun c22 => ?_) (fun c22 => ?_)
      · have h := if_t c22 h
        refine lv_aload_n hx hb d_M_shorten_534 rfl (lv_at hl 0 rfl) ?_
        refine lv_aload_n hx hb d_M_shorten_535 rfl (lv_at hl 0 rfl) ?_
        refine g_M_15 hx hb hts hown hK hP hwf hj0 (hts _ u_1756) d_M_shorten_536 ?_
        obtain ⟨M23, eM23, h⟩ := st_ob h
        refine p_M_26 eM23 hx hb hts hown hK hP hD hwf hS hj0 (hts _ u_1767) d_M_shorten_539 (fun H locs hP hD hwf hS => ?_)
        have hkp := kp_I eM23 hkp
        exact me_retv (me_kp M0) h hx hb hr hlocks hwf hkp hP hK hD hS d_M_shorten_542
      have h := if_f c22 h
      refine lv_aload_n hx hb d_M_shorten_420 rfl (lv_at hl 0 rfl) ?_
      refine g_M_71 hx hb hts hown hK hP hwf hj0 (hts _ u_1812) d_M_shorten_421 ?_
      obtain ⟨j24, e25, h⟩ := bd_ob h
      have hj24 : j24 < N 15 := (hwf.2.1 1 j0 71 _ e25 (by decide) hj0)
      refine me_opt (j := j24) e25 ?_
      refine lv_iload_n hx hb d_M_shorten_424 rfl (lv_at hl 2 rfl) ?_
      obtain ⟨g26, h⟩ := gd_ob h
      refine me_zald hx hb hK hP hwf hj24 g26 d_M_shorten_425 ?_
      have z27 := hwf.2.2.2 15 j24 y2.toNatClampNeg rfl
      refine lv_if_ne (tgt := 432) hx hb d_M_shorten_426 (by decide) (fun c28 => ?_) (fun c28 => ?_)
      · have h := if_f c28 h
        refine lv_aload_n hx hb d_M_shorten_432 rfl (lv_at hl 0 rfl) ?_
        refine g_M_72 hx hb hts hown hK hP hwf hj0 (hts _ u_1813) d_M_shorten_433 ?_
        obtain ⟨j29, e30, h⟩ := bd_ob h
        have hj29 : j29 < N 16 := (hwf.2.1 1 j0 72 _ e30 (by decide) hj0)
        refine me_opt (j := j29) e30 ?_
        refine lv_iload_n hx hb d_M_shorten_436 rfl (lv_at hl 2 rfl) ?_
        obtain ⟨g31, h⟩ := gd_ob h
        refine me_lald hx hb hK hP hwf hj29 g31 d_M_shorten_437 ?_
        obtain ⟨v32, ev32, h⟩ := st_ob h
        refine fg_topl (y := v32) ev32.symm ?_
        refine lv_lstore_n (lv' := [(3, .long v32), (0, .ref (ad 1 j0)), (1, .int x1), (2, .int y2)]) hx hb d_M_shorten_438 rfl hl (by decide) rfl (fun ls hl => ?_)
        refine lv_aload_n hx hb d_M_shorten_439 rfl (lv_at hl 1 rfl) ?_
        refine g_M_32 hx hb hts hown hK hP hwf hj0 (hts _ u_1773) d_M_shorten_440 ?_
        obtain ⟨j33, e34, h⟩ := bd_ob h
        have hj33 : j33 < N 15 := (hwf.2.1 1 j0 32 _ e34 (by decide) hj0)
        refine me_opt (j := j33) e34 ?_
        refine lv_iload_n hx hb d_M_shorten_443 rfl (lv_at hl 3 rfl) ?_
        obtain ⟨g35, h⟩ := gd_ob h
        refine me_zald hx hb hK hP hwf hj33 g35 d_M_shorten_444 ?_
        have z36 := hwf.2.2.2 15 j33 y2.toNatClampNeg rfl
        refine lv_if_eq (tgt := 452) hx hb d_M_shorten_445 (by decide) (fun c37 => ?_) (fun c37 => ?_)
        · have h := if_t c37 h
          refine lv_lload_n hx hb d_M_shorten_452 rfl (lv_at hl 0 rfl) ?_
          obtain ⟨r38, er38, h⟩ := bd_ob h
          refine me_pani' (r0 := r38) (fg_runS (wc := []) (tc := []) (A2 := A) (As := [.long v32]) (rest := []) ⟨hx, hb, hml, hown, hts⟩ (c_M_opOf l D r38 v32 er38 _) (by show fg_nm y_M_opOf 1; decide +kernel) u_1997 u_1998 u_192 u_1999 ⟨Nat.le_of_ble_eq_true rfl, Nat.le_of_ble_eq_true rfl⟩ hX me_P0 (hK.sub (tys' := []) [] rfl) me_D0 rfl hl.1 (Nat.le_of_ble_eq_true rfl) d_M_shorten_453 ⟨Nat.le_of_ble_eq_true rfl, Nat.le_of_ble_eq_true rfl⟩) hP hD hK hS hA rfl rfl (fun H locs hw hP hD hS => ?_)
          obtain ⟨r39, er39, h⟩ := bd_ob h
          refine me_pani' (r0 := r39) (fg_runS (wc := []) (tc := []) (A2 := A) (As := [.int r38]) (rest := []) ⟨hx, hb, hml, hown, hts⟩ (c_M_instruction l D r39 r38 er39 _) (by show fg_nm y_M_instruction 1; decide +kernel) u_2000 u_2001 u_192 u_2002 ⟨Nat.le_of_ble_eq_true rfl, Nat.le_of_ble_eq_true rfl⟩ hX me_P0 (hK.sub (tys' := []) [] rfl) me_D0 rfl hl.1 (Nat.le_of_ble_eq_true rfl) d_M_shorten_456 ⟨Nat.le_of_ble_eq_true rfl, Nat.le_of_ble_eq_true rfl⟩) hP hD hK hS hA rfl rfl (fun H locs hw hP hD hS => ?_)
          exact b_459 _ ih M y2 v32 r39 _ _ _ h hwf hkp hP hD hS (lv_sub hl [1, 2, 3, 0] rfl)
        have h := if_f c37 h
        refine lv_iconst (v := 0) hx hb d_M_shorten_448 (by decide) ?_
        refine lv_goto (tgt := 459) hx hb d_M_shorten_449 (by decide) ?_
        exact b_459 _ ih M y2 v32 (0 : Int32) _ _ _ h hwf hkp hP hD hS (lv_sub hl [1, 2, 3, 0] rfl)
      have h := if_t c28 h
      refine lv_goto (tgt := 528) hx hb d_M_shorten_429 (by decide) ?_
      refine lv_iinc (v := y2 + 1) (lv' := [(2, .int (y2 + 1)), (0, .ref (ad 1 j0)), (1, .int x1)]) hx hb d_M_shorten_528 hl (k := 2) rfl (by rfl) (by decide) rfl (fun ls hl => ?_)
      refine lv_goto (tgt := 415) hx hb d_M_shorten_531 (by decide) ?_
      exact ih M (y2 + 1) _ _ _ h hwf hkp hP hD hS (lv_sub hl [1, 2, 0] rfl)
  have b_369 : ∀ (fu : Nat), ∀ (M : me_M) (y2 : Int32) (H : Heap) (locs : List Loc) (ls : Array Slot), f_M_shorten_l369 j0 x1 fu M y2 = (some MZ) → me_wf N M → me_kp M0 M → va_P D classes (me_W ad ca M) H → va_D A (me_W ad ca M) → va_S A s.heap H locs → lv_has ls 7 [(0, .ref (ad 1 j0)), (1, .int x1), (2, .int y2)] → W p l e rm_M_shorten s m [.ref (ad 1 j0), .int x1].toArray below meth c H locs 0 0 (MQ below (q_M_shorten D ad ca N M0 MZ A) [.ref (ad 1 j0), .int x1].toArray s rm_M_shorten.cells rm_M_shorten.slots A) (F0 m 369 ls []) := by
    intro fu
    induction fu with
    | zero =>
      intro M y2 H locs ls h hwf hkp hP hD hS hl
      cases h
    | succ fu ih =>
      intro M y2 H locs ls h hwf hkp hP hD hS hl
      unfold f_M_shorten_l369 at h
      have hkb := hkp
      refine lv_iload_n hx hb d_M_shorten_369 rfl (lv_at hl 2 rfl) ?_
      refine lv_iload_n hx hb d_M_shorten_370 rfl (lv_at hl 1 rfl) ?_
      refine lv_icmp_ge (tgt := 413) hx hb d_M_shorten_371 (by decide) (fun c40 => ?_) (fun c40 => ?_)
      · have h := if_t c40 h
        refine lv_iconst (v := 0) hx hb d_M_shorten_413 (by decide) ?_
        refine lv_istore_n (lv' := [(2, .int 0), (0, .ref (ad 1 j0)), (1, .int x1)]) hx hb d_M_shorten_414 rfl hl (by decide) rfl (fun ls hl => ?_)
        exact b_415 _ M (0 : Int32) _ _ _ h hwf hkp hP hD hS (lv_sub hl [1, 2, 0] rfl)
      have h := if_f c40 h
      refine lv_aload_n hx hb d_M_shorten_374 rfl (lv_at hl 0 rfl) ?_
      refine g_M_73 hx hb hts hown hK hP hwf hj0 (hts _ u_1814) d_M_shorten_375 ?_
      obtain ⟨j41, e42, h⟩ := bd_ob h
      have hj41 : j41 < N 13 := (hwf.2.1 1 j0 73 _ e42 (by decide) hj0)
      refine me_opt (j := j41) e42 ?_
      refine lv_iload_n hx hb d_M_shorten_378 rfl (lv_at hl 2 rfl) ?_
      refine lv_aload_n hx hb d_M_shorten_379 rfl (lv_at hl 0 rfl) ?_
      refine g_M_15 hx hb hts hown hK hP hwf hj0 (hts _ u_1756) d_M_shorten_380 ?_
      obtain ⟨g43, h⟩ := gd_ob h
      obtain ⟨M44, eM44, h⟩ := st_ob h
      refine me_iast eM44 hx hb hK hP hD hwf hS hj41 g43 d_M_shorten_383 (fun H locs hP hD hwf hS => ?_)
      have hkp := kp_I eM44 hkp
      refine lv_aload_n hx hb d_M_shorten_384 rfl (lv_at hl 0 rfl) ?_
      refine lv_dup hx hb d_M_shorten_385 rfl ?_
      refine g_M_15 hx hb hts hown hK hP hwf hj0 (hts _ u_1756) d_M_shorten_386 ?_
      refine lv_aload_n hx hb d_M_shorten_389 rfl (lv_at hl 0 rfl) ?_
      refine g_M_71 hx hb hts hown hK hP hwf hj0 (hts _ u_1812) d_M_shorten_390 ?_
      obtain ⟨j45, e46, h⟩ := bd_ob h
      have hj45 : j45 < N 15 := (hwf.2.1 1 j0 71 _ (kp_r hkb hkp e46) (by decide) hj0)
      refine me_opt (j := j45) (kp_r hkb hkp e46) ?_
      refine lv_iload_n hx hb d_M_shorten_393 rfl (lv_at hl 2 rfl) ?_
      obtain ⟨g47, h⟩ := gd_ob h
      refine me_zald hx hb hK hP hwf hj45 (kp_z hkb.z hkp.z g47) d_M_shorten_394 ?_
      have z48 := hwf.2.2.2 15 j45 y2.toNatClampNeg rfl
      refine lv_if_eq (tgt := 402) hx hb d_M_shorten_395 (by decide) (fun c49 => ?_) (fun c49 => ?_)
      · have h := if_t c49 h
        refine lv_iconst (v := 0) hx hb d_M_shorten_402 (by decide) ?_
        refine lv_iadd hx hb d_M_shorten_403 ?_
        obtain ⟨M50, eM50, h⟩ := st_ob h
        refine p_M_15 eM50 hx hb hts hown hK hP hD hwf hS hj0 (hts _ u_1756) d_M_shorten_404 (fun H locs hP hD hwf hS => ?_)
        have hkp := kp_I eM50 hkp
        refine lv_iinc (v := y2 + 1) (lv' := [(2, .int (y2 + 1)), (0, .ref (ad 1 j0)), (1, .int x1)]) hx hb d_M_shorten_407 hl (k := 2) rfl (by rfl) (by decide) rfl (fun ls hl => ?_)
        refine lv_goto (tgt := 369) hx hb d_M_shorten_410 (by decide) ?_
        exact ih M50 (y2 + 1) _ _ _ h hwf hkp hP hD hS (lv_sub hl [1, 2, 0] rfl)
      have h := if_f c49 h
      refine lv_iconst (v := 1) hx hb d_M_shorten_398 (by decide) ?_
      refine lv_goto (tgt := 403) hx hb d_M_shorten_399 (by decide) ?_
      refine lv_iadd hx hb d_M_shorten_403 ?_
      obtain ⟨M51, eM51, h⟩ := st_ob h
      refine p_M_15 eM51 hx hb hts hown hK hP hD hwf hS hj0 (hts _ u_1756) d_M_shorten_404 (fun H locs hP hD hwf hS => ?_)
      have hkp := kp_I eM51 hkp
      refine lv_iinc (v := y2 + 1) (lv' := [(2, .int (y2 + 1)), (0, .ref (ad 1 j0)), (1, .int x1)]) hx hb d_M_shorten_407 hl (k := 2) rfl (by rfl) (by decide) rfl (fun ls hl => ?_)
      refine lv_goto (tgt := 369) hx hb d_M_shorten_410 (by decide) ?_
      exact ih M51 (y2 + 1) _ _ _ h hwf hkp hP hD hS (lv_sub hl [1, 2, 0] rfl)
  have b_306 : ∀ (k237 : me_M → Int32 → Option me_M) (hk237 : ∀ (M : me_M) (y2 : Int32) (H : Heap) (locs : List Loc) (ls : Array Slot), k237 M y2 = (some MZ) → me_wf N M → me_kp M0 M → va_P D classes (me_W ad ca M) H → va_D A (me_W ad ca M) → va_S A s.heap H locs → lv_has ls 7 [(0, .ref (ad 1 j0)), (1, .int x1), (2, .int y2)] → W p l e rm_M_shorten s m [.ref (ad 1 j0), .int x1].toArray below meth c H locs 0 0 (MQ below (q_M_shorten D ad ca N M0 MZ A) [.ref (ad 1 j0), .int x1].toArray s rm_M_shorten.cells rm_M_shorten.slots A) (F0 m 237 ls [])), ∀ (fu : Nat), ∀ (M : me_M) (y2 : Int32) (y3 : Int32) (y4 : Int32) (y5 : Int32) (H : Heap) (locs : List Loc) (ls : Array Slot), f_M_shorten_l306 k237 j0 x1 fu M y2 y3 y4 y5 = (some MZ) → (y4 = 1 ∨ y4 = 0) → me_wf N M → me_kp M0 M → va_P D classes (me_W ad ca M) H → va_D A (me_W ad ca M) → va_S A s.heap H locs → lv_has ls 7 [(0, .ref (ad 1 j0)), (1, .int x1), (2, .int y2), (3, .int y3), (4, .int y4), (5, .int y5)] → W p l e rm_M_shorten s m [.ref (ad 1 j0), .int x1].toArray below meth c H locs 0 0 (MQ below (q_M_shorten D ad ca N M0 MZ A) [.ref (ad 1 j0), .int x1].toArray s rm_M_shorten.cells rm_M_shorten.slots A) (F0 m 306 ls []) := by
    intro k237 hk237 fu
    induction fu with
    | zero =>
      intro M y2 y3 y4 y5 H locs ls h zy4 hwf hkp hP hD hS hl
      cases h
    | succ fu ih =>
      intro M y2 y3 y4 y5 H locs ls h zy4 hwf hkp hP hD hS hl
      unfold f_M_shorten_l306 at h
      have hkb := hkp
      refine lv_iload hx hb d_M_shorten_306 (lv_at hl 5 rfl) ?_
      refine lv_iload_n hx hb d_M_shorten_308 rfl (lv_at hl 3 rfl) ?_
      refine lv_icmp_ge (tgt := 340) hx hb d_M_shorten_309 (by decide) (fun c52 => ?_) (fun c52 => ?_)
      · have h := if_t c52 h
        refine lv_aload_n hx hb d_M_shorten_340 rfl (lv_at hl 0 rfl) ?_
        refine g_M_71 hx hb hts hown hK hP hwf hj0 (hts _ u_1812) d_M_shorten_341 ?_
        obtain ⟨j53, e54, h⟩ := bd_ob h
        have hj53 : j53 < N 15 := (hwf.2.1 1 j0 71 _ e54 (by decide) hj0)
        refine me_opt (j := j53) e54 ?_
        refine lv_iload_n hx hb d_M_shorten_344 rfl (lv_at hl 2 rfl) ?_
        refine lv_iload hx hb d_M_shorten_345 (lv_at hl 4 rfl) ?_
        refine lv_if_ne (tgt := 354) hx hb d_M_shorten_347 (by decide) (fun c55 => ?_) (fun c55 => ?_)
        · have h := if_f c55 h
          refine lv_iconst (v := 0) hx hb d_M_shorten_354 (by decide) ?_
          obtain ⟨g56, h⟩ := gd_ob h
          obtain ⟨M57, eM57, h⟩ := st_ob h
          refine me_zast eM57 hx hb hK hP hD hwf hS hj53 g56 d_M_shorten_355 (fun H locs hP hD hwf hS => ?_)
          have hkp := kp_I eM57 hkp
          refine lv_iinc (v := y2 + (-1)) (lv' := [(2, .int (y2 + (-1))), (0, .ref (ad 1 j0)), (1, .int x1), (3, .int y3), (4, .int y4), (5, .int y5)]) hx hb d_M_shorten_356 hl (k := 2) rfl (by rfl) (by decide) rfl (fun ls hl => ?_)
          refine lv_goto (tgt := 237) hx hb d_M_shorten_359 (by decide) ?_
          exact hk237 M57 (y2 + (-1)) _ _ _ h hwf hkp hP hD hS (lv_sub hl [1, 2, 0] rfl)
        have h := if_t c55 h
        refine lv_iconst (v := 1) hx hb d_M_shorten_350 (by decide) ?_
        refine lv_goto (tgt := 355) hx hb d_M_shorten_351 (by decide) ?_
        obtain ⟨g58, h⟩ := gd_ob h
        obtain ⟨M59, eM59, h⟩ := st_ob h
        refine me_zast eM59 hx hb hK hP hD hwf hS hj53 g58 d_M_shorten_355 (fun H locs hP hD hwf hS => ?_)
        have hkp := kp_I eM59 hkp
        refine lv_iinc (v := y2 + (-1)) (lv' := [(2, .int (y2 + (-1))), (0, .ref (ad 1 j0)), (1, .int x1), (3, .int y3), (4, .int y4), (5, .int y5)]) hx hb d_M_shorten_356 hl (k := 2) rfl (by rfl) (by decide) rfl (fun ls hl => ?_)
        refine lv_goto (tgt := 237) hx hb d_M_shorten_359 (by decide) ?_
        exact hk237 M59 (y2 + (-1)) _ _ _ h hwf hkp hP hD hS (lv_sub hl [1, 2, 0] rfl)
      have h := if_f c52 h
      refine lv_iload hx hb d_M_shorten_312 (lv_at hl 4 rfl) ?_
      refine lv_if_eq (tgt := 331) hx hb d_M_shorten_314 (by decide) (fun c60 => ?_) (fun c60 => ?_)
      · have h := if_t c60 h
        refine lv_iconst (v := 0) hx hb d_M_shorten_331 (by decide) ?_
        refine lv_istore (lv' := [(4, .int 0), (0, .ref (ad 1 j0)), (1, .int x1), (2, .int y2), (3, .int y3), (5, .int y5)]) hx hb d_M_shorten_332 hl (by decide) rfl (fun ls hl => ?_)
        refine lv_iinc (v := y5 + 1) (lv' := [(5, .int (y5 + 1)), (4, .int 0), (0, .ref (ad 1 j0)), (1, .int x1), (2, .int y2), (3, .int y3)]) hx hb d_M_shorten_334 hl (k := 5) rfl (by rfl) (by decide) rfl (fun ls hl => ?_)
        refine lv_goto (tgt := 306) hx hb d_M_shorten_337 (by decide) ?_
        exact ih M y2 y3 (0 : Int32) (y5 + 1) _ _ _ h (by decide) hwf hkp hP hD hS (lv_sub hl [2, 3, 4, 5, 1, 0] rfl)
      have h := if_f c60 h
      refine lv_aload_n hx hb d_M_shorten_317 rfl (lv_at hl 0 rfl) ?_
      refine g_M_71 hx hb hts hown hK hP hwf hj0 (hts _ u_1812) d_M_shorten_318 ?_
      obtain ⟨j61, e62, h⟩ := bd_ob h
      have hj61 : j61 < N 15 := (hwf.2.1 1 j0 71 _ e62 (by decide) hj0)
      refine me_opt (j := j61) e62 ?_
      refine lv_iload hx hb d_M_shorten_321 (lv_at hl 5 rfl) ?_
      obtain ⟨g63, h⟩ := gd_ob h
      refine me_zald hx hb hK hP hwf hj61 g63 d_M_shorten_323 ?_
      have z64 := hwf.2.2.2 15 j61 y5.toNatClampNeg rfl
      refine lv_if_ne (tgt := 331) hx hb d_M_shorten_324 (by decide) (fun c65 => ?_) (fun c65 => ?_)
      · have h := if_f c65 h
        refine lv_iconst (v := 0) hx hb d_M_shorten_331 (by decide) ?_
        refine lv_istore (lv' := [(4, .int 0), (0, .ref (ad 1 j0)), (1, .int x1), (2, .int y2), (3, .int y3), (5, .int y5)]) hx hb d_M_shorten_332 hl (by decide) rfl (fun ls hl => ?_)
        refine lv_iinc (v := y5 + 1) (lv' := [(5, .int (y5 + 1)), (4, .int 0), (0, .ref (ad 1 j0)), (1, .int x1), (2, .int y2), (3, .int y3)]) hx hb d_M_shorten_334 hl (k := 5) rfl (by rfl) (by decide) rfl (fun ls hl => ?_)
        refine lv_goto (tgt := 306) hx hb d_M_shorten_337 (by decide) ?_
        exact ih M y2 y3 (0 : Int32) (y5 + 1) _ _ _ h (by decide) hwf hkp hP hD hS (lv_sub hl [2, 3, 4, 5, 1, 0] rfl)
      have h := if_t c65 h
      refine lv_iconst (v := 1) hx hb d_M_shorten_327 (by decide) ?_
      refine lv_goto (tgt := 332) hx hb d_M_shorten_328 (by decide) ?_
      refine lv_istore (lv' := [(4, .int 1), (0, .ref (ad 1 j0)), (1, .int x1), (2, .int y2), (3, .int y3), (5, .int y5)]) hx hb d_M_shorten_332 hl (by decide) rfl (fun ls hl => ?_)
      refine lv_iinc (v := y5 + 1) (lv' := [(5, .int (y5 + 1)), (4, .int 1), (0, .ref (ad 1 j0)), (1, .int x1), (2, .int y2), (3, .int y3)]) hx hb d_M_shorten_334 hl (k := 5) rfl (by rfl) (by decide) rfl (fun ls hl => ?_)
      refine lv_goto (tgt := 306) hx hb d_M_shorten_337 (by decide) ?_
      exact ih M y2 y3 (1 : Int32) (y5 + 1) _ _ _ h (by decide) hwf hkp hP hD hS (lv_sub hl [2, 3, 4, 5, 1, 0] rfl)
  have b_237 : ∀ (fu : Nat), ∀ (M : me_M) (y2 : Int32) (H : Heap) (locs : List Loc) (ls : Array Slot), f_M_shorten_l237 j0 x1 fu M y2 = (some MZ) → me_wf N M → me_kp M0 M → va_P D classes (me_W ad ca M) H → va_D A (me_W ad ca M) → va_S A s.heap H locs → lv_has ls 7 [(0, .ref (ad 1 j0)), (1, .int x1), (2, .int y2)] → W p l e rm_M_shorten s m [.ref (ad 1 j0), .int x1].toArray below meth c H locs 0 0 (MQ below (q_M_shorten D ad ca N M0 MZ A) [.ref (ad 1 j0), .int x1].toArray s rm_M_shorten.cells rm_M_shorten.slots A) (F0 m 237 ls []) := by
    intro fu
    induction fu with
    | zero =>
      intro M y2 H locs ls h hwf hkp hP hD hS hl
      cases h
    | succ fu ih =>
      intro M y2 H locs ls h hwf hkp hP hD hS hl
      unfold f_M_shorten_l237 at h
      have hkb := hkp
      refine lv_iload_n hx hb d_M_shorten_237 rfl (lv_at hl 2 rfl) ?_
      refine lv_if_lt (tgt := 362) hx hb d_M_shorten_238 (by decide) (fun c66 => ?_) (fun c66 => ?_)
      · have h := if_t c66 h
        refine lv_aload_n hx hb d_M_shorten_362 rfl (lv_at hl 0 rfl) ?_
        refine lv_iconst (v := 0) hx hb d_M_shorten_363 (by decide) ?_
        obtain ⟨M67, eM67, h⟩ := st_ob h
        refine p_M_15 eM67 hx hb hts hown hK hP hD hwf hS hj0 (hts _ u_1756) d_M_shorten_364 (fun H locs hP hD hwf hS => ?_)
        have hkp := kp_I eM67 hkp
        refine lv_iconst (v := 0) hx hb d_M_shorten_367 (by decide) ?_
        refine lv_istore_n (lv' := [(2, .int 0), (0, .ref (ad 1 j0)), (1, .int x1)]) hx hb d_M_shorten_368 rfl hl (by decide) rfl (fun ls hl => ?_)
        exact b_369 _ M67 (0 : Int32) _ _ _ h hwf hkp hP hD hS (lv_sub hl [1, 2, 0] rfl)
      have h := if_f c66 h
      refine lv_aload_n hx hb d_M_shorten_241 rfl (lv_at hl 0 rfl) ?_
      refine g_M_71 hx hb hts hown hK hP hwf hj0 (hts _ u_1812) d_M_shorten_242 ?_
      obtain ⟨j68, e69, h⟩ := bd_ob h
      have hj68 : j68 < N 15 := (hwf.2.1 1 j0 71 _ e69 (by decide) hj0)
      refine me_opt (j := j68) e69 ?_
      refine lv_iload_n hx hb d_M_shorten_245 rfl (lv_at hl 2 rfl) ?_
      obtain ⟨g70, h⟩ := gd_ob h
      refine me_zald hx hb hK hP hwf hj68 g70 d_M_shorten_246 ?_
      have z71 := hwf.2.2.2 15 j68 y2.toNatClampNeg rfl
      refine lv_if_eq (tgt := 356) hx hb d_M_shorten_247 (by decide) (fun c72 => ?_) (fun c72 => ?_)
      · have h := if_t c72 h
        refine lv_iinc (v := y2 + (-1)) (lv' := [(2, .int (y2 + (-1))), (0, .ref (ad 1 j0)), (1, .int x1)]) hx hb d_M_shorten_356 hl (k := 2) rfl (by rfl) (by decide) rfl (fun ls hl => ?_)
        refine lv_goto (tgt := 237) hx hb d_M_shorten_359 (by decide) ?_
        exact ih M (y2 + (-1)) _ _ _ h hwf hkp hP hD hS (lv_sub hl [1, 2, 0] rfl)
      have h := if_f c72 h
      refine lv_aload_n hx hb d_M_shorten_250 rfl (lv_at hl 0 rfl) ?_
      refine g_M_32 hx hb hts hown hK hP hwf hj0 (hts _ u_1773) d_M_shorten_251 ?_
      obtain ⟨j73, e74, h⟩ := bd_ob h
      have hj73 : j73 < N 15 := (hwf.2.1 1 j0 32 _ e74 (by decide) hj0)
      refine me_opt (j := j73) e74 ?_
      refine lv_iload_n hx hb d_M_shorten_254 rfl (lv_at hl 2 rfl) ?_
      obtain ⟨g75, h⟩ := gd_ob h
      refine me_zald hx hb hK hP hwf hj73 g75 d_M_shorten_255 ?_
      have z76 := hwf.2.2.2 15 j73 y2.toNatClampNeg rfl
      refine lv_if_ne (tgt := 356) hx hb d_M_shorten_256 (by decide) (fun c77 => ?_) (fun c77 => ?_)
      · have h := if_f c77 h
        refine lv_iinc (v := y2 + (-1)) (lv' := [(2, .int (y2 + (-1))), (0, .ref (ad 1 j0)), (1, .int x1)]) hx hb d_M_shorten_356 hl (k := 2) rfl (by rfl) (by decide) rfl (fun ls hl => ?_)
        refine lv_goto (tgt := 237) hx hb d_M_shorten_359 (by decide) ?_
        exact ih M (y2 + (-1)) _ _ _ h hwf hkp hP hD hS (lv_sub hl [1, 2, 0] rfl)
      have h := if_t c77 h
      refine lv_aload_n hx hb d_M_shorten_259 rfl (lv_at hl 0 rfl) ?_
      refine g_M_72 hx hb hts hown hK hP hwf hj0 (hts _ u_1813) d_M_shorten_260 ?_
      obtain ⟨j78, e79, h⟩ := bd_ob h
      have hj78 : j78 < N 16 := (hwf.2.1 1 j0 72 _ e79 (by decide) hj0)
      refine me_opt (j := j78) e79 ?_
      refine lv_iload_n hx hb d_M_shorten_263 rfl (lv_at hl 2 rfl) ?_
      obtain ⟨g80, h⟩ := gd_ob h
      refine me_lald hx hb hK hP hwf hj78 g80 d_M_shorten_264 ?_
      obtain ⟨r81, er81, h⟩ := bd_ob h
      refine me_pani' (r0 := r81) (fg_runS (wc := []) (tc := []) (A2 := A) (As := [.long (mL M 16 j78 y2.toNatClampNeg)]) (rest := []) ⟨hx, hb, hml, hown, hts⟩ (c_M_opOf l D r81 (mL M 16 j78 y2.toNatClampNeg) er81 _) (by show fg_nm y_M_opOf 1; decide +kernel) u_1997 u_1998 u_192 u_1999 ⟨Nat.le_of_ble_eq_true rfl, Nat.le_of_ble_eq_true rfl⟩ hX me_P0 (hK.sub (tys' := []) [] rfl) me_D0 rfl hl.1 (Nat.le_of_ble_eq_true rfl) d_M_shorten_265 ⟨Nat.le_of_ble_eq_true rfl, Nat.le_of_ble_eq_true rfl⟩) hP hD hK hS hA rfl rfl (fun H locs hw hP hD hS => ?_)
      refine lv_iconst (v := 5) hx hb d_M_shorten_268 (by decide) ?_
      refine lv_icmp_eq (tgt := 275) hx hb d_M_shorten_269 (by decide) (fun c82 => ?_) (fun c82 => ?_)
      · have h := if_t c82 h
        refine lv_iload_n hx hb d_M_shorten_275 rfl (lv_at hl 2 rfl) ?_
        refine lv_iconst (v := 1) hx hb d_M_shorten_276 (by decide) ?_
        refine lv_iadd hx hb d_M_shorten_277 ?_
        refine lv_aload_n hx hb d_M_shorten_278 rfl (lv_at hl 0 rfl) ?_
        refine g_M_72 hx hb hts hown hK hP hwf hj0 (hts _ u_1813) d_M_shorten_279 ?_
        refine me_opt (j := j78) e79 ?_
        refine lv_iload_n hx hb d_M_shorten_282 rfl (lv_at hl 2 rfl) ?_
        refine me_lald hx hb hK hP hwf hj78 g80 d_M_shorten_283 ?_
        obtain ⟨r83, er83, h⟩ := bd_ob h
        refine me_pani' (r0 := r83) (fg_runS (wc := []) (tc := []) (A2 := A) (As := [.long (mL M 16 j78 y2.toNatClampNeg)]) (rest := [.int (y2 + 1)]) ⟨hx, hb, hml, hown, hts⟩ (c_M_offsetOf l D r83 (mL M 16 j78 y2.toNatClampNeg) er83 _) (by show fg_nm y_M_offsetOf 1; decide +kernel) u_2013 u_2014 u_192 u_2015 ⟨Nat.le_of_ble_eq_true rfl, Nat.le_of_ble_eq_true rfl⟩ hX me_P0 (hK.sub (tys' := []) [] rfl) me_D0 rfl hl.1 (Nat.le_of_ble_eq_true rfl) d_M_shorten_284 ⟨Nat.le_of_ble_eq_true rfl, Nat.le_of_ble_eq_true rfl⟩) hP hD hK hS hA rfl rfl (fun H locs hw hP hD hS => ?_)
        refine lv_iadd hx hb d_M_shorten_287 ?_
        obtain ⟨v84, ev84, h⟩ := st_ob h
        refine fg_topi (y := v84) ev84.symm ?_
        refine lv_istore_n (lv' := [(3, .int v84), (0, .ref (ad 1 j0)), (1, .int x1), (2, .int y2)]) hx hb d_M_shorten_288 rfl hl (by decide) rfl (fun ls hl => ?_)
        refine lv_iload_n hx hb d_M_shorten_289 rfl (lv_at hl 0 rfl) ?_
        refine lv_iload_n hx hb d_M_shorten_290 rfl (lv_at hl 3 rfl) ?_
        refine lv_icmp_le (tgt := 298) hx hb d_M_shorten_291 (by decide) (fun c85 => ?_) (fun c85 => ?_)
        · have h := if_t c85 h
          refine lv_iconst (v := 0) hx hb d_M_shorten_298 (by decide) ?_
          refine lv_istore (lv' := [(4, .int 0), (3, .int v84), (0, .ref (ad 1 j0)), (1, .int x1), (2, .int y2)]) hx hb d_M_shorten_299 hl (by decide) rfl (fun ls hl => ?_)
          refine lv_iload_n hx hb d_M_shorten_301 rfl (lv_at hl 4 rfl) ?_
          refine lv_iconst (v := 1) hx hb d_M_shorten_302 (by decide) ?_
          refine lv_iadd hx hb d_M_shorten_303 ?_
          obtain ⟨v86, ev86, h⟩ := st_ob h
          refine fg_topi (y := v86) ev86.symm ?_
          refine lv_istore (lv' := [(5, .int v86), (4, .int 0), (3, .int v84), (0, .ref (ad 1 j0)), (1, .int x1), (2, .int y2)]) hx hb d_M_shorten_304 hl (by decide) rfl (fun ls hl => ?_)
          exact b_306 _ ih _ M y2 v84 (0 : Int32) v86 _ _ _ h (by decide) hwf hkp hP hD hS (lv_sub hl [3, 4, 5, 2, 1, 0] rfl)
        have h := if_f c85 h
        refine lv_iconst (v := 1) hx hb d_M_shorten_294 (by decide) ?_
        refine lv_goto (tgt := 299) hx hb d_M_shorten_295 (by decide) ?_
        refine lv_istore (lv' := [(4, .int 1), (3, .int v84), (0, .ref (ad 1 j0)), (1, .int x1), (2, .int y2)]) hx hb d_M_shorten_299 hl (by decide) rfl (fun ls hl => ?_)
        refine lv_iload_n hx hb d_M_shorten_301 rfl (lv_at hl 4 rfl) ?_
        refine lv_iconst (v := 1) hx hb d_M_shorten_302 (by decide) ?_
        refine lv_iadd hx hb d_M_shorten_303 ?_
        obtain ⟨v87, ev87, h⟩ := st_ob h
        refine fg_topi (y := v87) ev87.symm ?_
        refine lv_istore (lv' := [(5, .int v87), (4, .int 1), (3, .int v84), (0, .ref (ad 1 j0)), (1, .int x1), (2, .int y2)]) hx hb d_M_shorten_304 hl (by decide) rfl (fun ls hl => ?_)
        exact b_306 _ ih _ M y2 v84 (1 : Int32) v87 _ _ _ h (by decide) hwf hkp hP hD hS (lv_sub hl [3, 4, 5, 2, 1, 0] rfl)
      have h := if_f c82 h
      refine lv_goto (tgt := 356) hx hb d_M_shorten_272 (by decide) ?_
      refine lv_iinc (v := y2 + (-1)) (lv' := [(2, .int (y2 + (-1))), (0, .ref (ad 1 j0)), (1, .int x1)]) hx hb d_M_shorten_356 hl (k := 2) rfl (by rfl) (by decide) rfl (fun ls hl => ?_)
      refine lv_goto (tgt := 237) hx hb d_M_shorten_359 (by decide) ?_
      exact ih M (y2 + (-1)) _ _ _ h hwf hkp hP hD hS (lv_sub hl [1, 2, 0] rfl)
  have b_168 : ∀ (k2 : me_M → Int32 → Option me_M) (hk2 : ∀ (M : me_M) (y2 : Int32) (H : Heap) (locs : List Loc) (ls : Array Slot), k2 M y2 = (some MZ) → me_wf N M → me_kp M0 M → va_P D classes (me_W ad ca M) H → va_D A (me_W ad ca M) → va_S A s.heap H locs → lv_has ls 7 [(0, .ref (ad 1 j0)), (1, .int x1), (2, .int y2)] → W p l e rm_M_shorten s m [.ref (ad 1 j0), .int x1].toArray below meth c H locs 0 0 (MQ below (q_M_shorten D ad ca N M0 MZ A) [.ref (ad 1 j0), .int x1].toArray s rm_M_shorten.cells rm_M_shorten.slots A) (F0 m 2 ls [])), ∀ (M : me_M) (y2 : Int32) (y3 : Int64) (y5 : Int32) (H : Heap) (locs : List Loc) (ls : Array Slot), f_M_shorten_b168 k2 j0 x1 M y2 y3 y5 = (some MZ) → me_wf N M → me_kp M0 M → va_P D classes (me_W ad ca M) H → va_D A (me_W ad ca M) → va_S A s.heap H locs → lv_has ls 7 [(0, .ref (ad 1 j0)), (1, .int x1), (2, .int y2), (3, .long y3), (5, .int y5)] → W p l e rm_M_shorten s m [.ref (ad 1 j0), .int x1].toArray below meth c H locs 0 0 (MQ below (q_M_shorten D ad ca N M0 MZ A) [.ref (ad 1 j0), .int x1].toArray s rm_M_shorten.cells rm_M_shorten.slots A) (F0 m 168 ls []) := by
    intro k2 hk2 M y2 y3 y5 H locs ls h hwf hkp hP hD hS hl
    unfold f_M_shorten_b168 at h
    have hkb := hkp
    refine lv_iload hx hb d_M_shorten_168 (lv_at hl 4 rfl) ?_
    obtain ⟨r88, er88, h⟩ := bd_ob h
    refine me_pani' (r0 := r88) (fg_runS (wc := []) (tc := []) (A2 := A) (As := [.int y5]) (rest := []) ⟨hx, hb, hml, hown, hts⟩ (c_M_isArithmetic l D r88 y5 er88 _) (by show fg_nm y_M_isArithmetic 1; decide +kernel) u_2023 u_2024 u_192 u_2025 ⟨Nat.le_of_ble_eq_true rfl, Nat.le_of_ble_eq_true rfl⟩ hX me_P0 (hK.sub (tys' := []) [] rfl) me_D0 rfl hl.1 (Nat.le_of_ble_eq_true rfl) d_M_shorten_170 ⟨Nat.le_of_ble_eq_true rfl, Nat.le_of_ble_eq_true rfl⟩) hP hD hK hS hA rfl rfl (fun H locs hw hP hD hS => ?_)
    have zr88 := hw
    refine lv_if_eq (tgt := 227) hx hb d_M_shorten_173 (by decide) (fun c89 => ?_) (fun c89 => ?_)
    · have h := if_t c89 h
      refine lv_iinc (v := y2 + 1) (lv' := [(2, .int (y2 + 1)), (0, .ref (ad 1 j0)), (1, .int x1), (3, .long y3), (5, .int y5)]) hx hb d_M_shorten_227 hl (k := 2) rfl (by rfl) (by decide) rfl (fun ls hl => ?_)
      refine lv_goto (tgt := 2) hx hb d_M_shorten_230 (by decide) ?_
      exact hk2 M (y2 + 1) _ _ _ h hwf hkp hP hD hS (lv_sub hl [1, 2, 0] rfl)
    have h := if_f c89 h
    refine lv_aload_n hx hb d_M_shorten_176 rfl (lv_at hl 0 rfl) ?_
    refine g_M_30 hx hb hts hown hK hP hwf hj0 (hts _ u_1771) d_M_shorten_177 ?_
    obtain ⟨j90, e91, h⟩ := bd_ob h
    have hj90 : j90 < N 13 := (hwf.2.1 1 j0 30 _ e91 (by decide) hj0)
    refine me_opt (j := j90) e91 ?_
    refine lv_iload_n hx hb d_M_shorten_180 rfl (lv_at hl 2 rfl) ?_
    obtain ⟨g92, h⟩ := gd_ob h
    refine me_iald hx hb hK hP hwf hj90 g92 d_M_shorten_181 ?_
    refine lv_iconst (v := 1) hx hb d_M_shorten_182 (by decide) ?_
    refine lv_icmp_ne (tgt := 227) hx hb d_M_shorten_183 (by decide) (fun c93 => ?_) (fun c93 => ?_)
    · have h := if_f c93 h
      refine lv_iinc (v := y2 + 1) (lv' := [(2, .int (y2 + 1)), (0, .ref (ad 1 j0)), (1, .int x1), (3, .long y3), (5, .int y5)]) hx hb d_M_shorten_227 hl (k := 2) rfl (by rfl) (by decide) rfl (fun ls hl => ?_)
      refine lv_goto (tgt := 2) hx hb d_M_shorten_230 (by decide) ?_
      exact hk2 M (y2 + 1) _ _ _ h hwf hkp hP hD hS (lv_sub hl [1, 2, 0] rfl)
    have h := if_t c93 h
    refine lv_aload_n hx hb d_M_shorten_186 rfl (lv_at hl 0 rfl) ?_
    refine g_M_31 hx hb hts hown hK hP hwf hj0 (hts _ u_1772) d_M_shorten_187 ?_
    obtain ⟨j94, e95, h⟩ := bd_ob h
    have hj94 : j94 < N 16 := (hwf.2.1 1 j0 31 _ e95 (by decide) hj0)
    refine me_opt (j := j94) e95 ?_
    refine lv_iload_n hx hb d_M_shorten_190 rfl (lv_at hl 2 rfl) ?_
    obtain ⟨g96, h⟩ := gd_ob h
    refine me_lald hx hb hK hP hwf hj94 g96 d_M_shorten_191 ?_
    refine lv_aload_n hx hb d_M_shorten_192 rfl (lv_at hl 0 rfl) ?_
    refine g_M_31 hx hb hts hown hK hP hwf hj0 (hts _ u_1772) d_M_shorten_193 ?_
    refine me_opt (j := j94) e95 ?_
    refine lv_iload_n hx hb d_M_shorten_196 rfl (lv_at hl 2 rfl) ?_
    refine me_lald hx hb hK hP hwf hj94 g96 d_M_shorten_197 ?_
    refine lv_l2i (v := (mL M 16 j94 y2.toNatClampNeg).toInt32) hx hb d_M_shorten_198 rfl ?_
    refine lv_i2l (v := ((mL M 16 j94 y2.toNatClampNeg).toInt32).toInt64) hx hb d_M_shorten_199 rfl ?_
    refine W.lcmp hx hb d_M_shorten_200 ?_
    refine lv_if_ne (tgt := 227) hx hb d_M_shorten_201 (by decide) (fun c97 => ?_) (fun c97 => ?_)
    · have h := if_f (fun z => c97 ((lg_cmp_eq _ _).mpr z)) h
      refine lv_iinc (v := y2 + 1) (lv' := [(2, .int (y2 + 1)), (0, .ref (ad 1 j0)), (1, .int x1), (3, .long y3), (5, .int y5)]) hx hb d_M_shorten_227 hl (k := 2) rfl (by rfl) (by decide) rfl (fun ls hl => ?_)
      refine lv_goto (tgt := 2) hx hb d_M_shorten_230 (by decide) ?_
      exact hk2 M (y2 + 1) _ _ _ h hwf hkp hP hD hS (lv_sub hl [1, 2, 0] rfl)
    have h := if_t ((lg_cmp_eq _ _).mp c97) h
    refine lv_aload_n hx hb d_M_shorten_204 rfl (lv_at hl 0 rfl) ?_
    refine g_M_72 hx hb hts hown hK hP hwf hj0 (hts _ u_1813) d_M_shorten_205 ?_
    obtain ⟨j98, e99, h⟩ := bd_ob h
    have hj98 : j98 < N 16 := (hwf.2.1 1 j0 72 _ e99 (by decide) hj0)
    refine me_opt (j := j98) e99 ?_
    refine lv_iload_n hx hb d_M_shorten_208 rfl (lv_at hl 2 rfl) ?_
    refine lv_sipush (v := 183) hx hb d_M_shorten_209 (by decide) ?_
    refine lv_lload_n hx hb d_M_shorten_212 rfl (lv_at hl 3 rfl) ?_
    obtain ⟨r100, er100, h⟩ := bd_ob h
    refine me_pani' (r0 := r100) (fg_runS (wc := []) (tc := []) (A2 := A) (As := [.long y3]) (rest := [.int 183, .int y2, .ref (ad 16 j98)]) ⟨hx, hb, hml, hown, hts⟩ (c_M_toOf l D r100 y3 er100 _) (by show fg_nm y_M_toOf 1; decide +kernel) u_2006 u_2007 u_192 u_2008 ⟨Nat.le_of_ble_eq_true rfl, Nat.le_of_ble_eq_true rfl⟩ hX me_P0 (hK.sub (tys' := []) [] rfl) me_D0 rfl hl.1 (Nat.le_of_ble_eq_true rfl) d_M_shorten_213 ⟨Nat.le_of_ble_eq_true rfl, Nat.le_of_ble_eq_true rfl⟩) hP hD hK hS hA rfl rfl (fun H locs hw hP hD hS => ?_)
    refine lv_aload_n hx hb d_M_shorten_216 rfl (lv_at hl 0 rfl) ?_
    refine g_M_31 hx hb hts hown hK hP hwf hj0 (hts _ u_1772) d_M_shorten_217 ?_
    refine me_opt (j := j94) e95 ?_
    refine lv_iload_n hx hb d_M_shorten_220 rfl (lv_at hl 2 rfl) ?_
    refine me_lald hx hb hK hP hwf hj94 g96 d_M_shorten_221 ?_
    refine lv_l2i (v := (mL M 16 j94 y2.toNatClampNeg).toInt32) hx hb d_M_shorten_222 rfl ?_
    obtain ⟨r101, er101, h⟩ := bd_ob h
    refine me_panl' (r0 := r101) (fg_runS (wc := []) (tc := []) (A2 := A) (As := [.int 183, .int r100, .int ((mL M 16 j94 y2.toNatClampNeg).toInt32)]) (rest := [.int y2, .ref (ad 16 j98)]) ⟨hx, hb, hml, hown, hts⟩ (c_M_made l D r101 (183 : Int32) r100 ((mL M 16 j94 y2.toNatClampNeg).toInt32) er101 _) (by show fg_nm y_M_made 3; decide +kernel) u_2398 u_2399 u_192 u_2400 ⟨Nat.le_of_ble_eq_true rfl, Nat.le_of_ble_eq_true rfl⟩ hX me_P0 (hK.sub (tys' := []) [] rfl) me_D0 rfl hl.1 (Nat.le_of_ble_eq_true rfl) d_M_shorten_223 ⟨Nat.le_of_ble_eq_true rfl, Nat.le_of_ble_eq_true rfl⟩) hP hD hK hS hA rfl rfl (fun H locs hw hP hD hS => ?_)
    obtain ⟨g102, h⟩ := gd_ob h
    obtain ⟨M103, eM103, h⟩ := st_ob h
    refine me_last eM103 hx hb hK hP hD hwf hS hj98 g102 d_M_shorten_226 (fun H locs hP hD hwf hS => ?_)
    have hkp := kp_L eM103 hkp
    refine lv_iinc (v := y2 + 1) (lv' := [(2, .int (y2 + 1)), (0, .ref (ad 1 j0)), (1, .int x1), (3, .long y3), (5, .int y5)]) hx hb d_M_shorten_227 hl (k := 2) rfl (by rfl) (by decide) rfl (fun ls hl => ?_)
    refine lv_goto (tgt := 2) hx hb d_M_shorten_230 (by decide) ?_
    exact hk2 M103 (y2 + 1) _ _ _ h hwf hkp hP hD hS (lv_sub hl [1, 2, 0] rfl)
  have b_120 : ∀ (k2 : me_M → Int32 → Option me_M) (hk2 : ∀ (M : me_M) (y2 : Int32) (H : Heap) (locs : List Loc) (ls : Array Slot), k2 M y2 = (some MZ) → me_wf N M → me_kp M0 M → va_P D classes (me_W ad ca M) H → va_D A (me_W ad ca M) → va_S A s.heap H locs → lv_has ls 7 [(0, .ref (ad 1 j0)), (1, .int x1), (2, .int y2)] → W p l e rm_M_shorten s m [.ref (ad 1 j0), .int x1].toArray below meth c H locs 0 0 (MQ below (q_M_shorten D ad ca N M0 MZ A) [.ref (ad 1 j0), .int x1].toArray s rm_M_shorten.cells rm_M_shorten.slots A) (F0 m 2 ls [])), ∀ (M : me_M) (y2 : Int32) (y3 : Int64) (y5 : Int32) (s0 : Int32) (s1 : Int32) (s2 : Nat) (H : Heap) (locs : List Loc) (ls : Array Slot), f_M_shorten_b120 k2 j0 x1 M y2 y3 y5 s0 s1 s2 = (some MZ) → (s0 = 1 ∨ s0 = 0) → (s2 < N 15) → me_wf N M → me_kp M0 M → va_P D classes (me_W ad ca M) H → va_D A (me_W ad ca M) → va_S A s.heap H locs → lv_has ls 7 [(0, .ref (ad 1 j0)), (1, .int x1), (2, .int y2), (3, .long y3), (5, .int y5)] → W p l e rm_M_shorten s m [.ref (ad 1 j0), .int x1].toArray below meth c H locs 0 0 (MQ below (q_M_shorten D ad ca N M0 MZ A) [.ref (ad 1 j0), .int x1].toArray s rm_M_shorten.cells rm_M_shorten.slots A) (F0 m 120 ls [.int s0, .int s1, .ref (ad 15 s2)]) := by
    intro k2 hk2 M y2 y3 y5 s0 s1 s2 H locs ls h zs0 hs2 hwf hkp hP hD hS hl
    unfold f_M_shorten_b120 at h
    have hkb := hkp
    obtain ⟨g104, h⟩ := gd_ob h
    obtain ⟨M105, eM105, h⟩ := st_ob h
    refine me_zast eM105 hx hb hK hP hD hwf hS hs2 g104 d_M_shorten_120 (fun H locs hP hD hwf hS => ?_)
    have hkp := kp_I eM105 hkp
    refine lv_aload_n hx hb d_M_shorten_121 rfl (lv_at hl 0 rfl) ?_
    refine g_M_72 hx hb hts hown hK hP hwf hj0 (hts _ u_1813) d_M_shorten_122 ?_
    obtain ⟨j106, e107, h⟩ := bd_ob h
    have hj106 : j106 < N 16 := (hwf.2.1 1 j0 72 _ (kp_r hkb hkp e107) (by decide) hj0)
    refine me_opt (j := j106) (kp_r hkb hkp e107) ?_
    refine lv_iload_n hx hb d_M_shorten_125 rfl (lv_at hl 2 rfl) ?_
    refine lv_lload_n hx hb d_M_shorten_126 rfl (lv_at hl 3 rfl) ?_
    obtain ⟨g108, h⟩ := gd_ob h
    obtain ⟨M109, eM109, h⟩ := st_ob h
    refine me_last eM109 hx hb hK hP hD hwf hS hj106 (kp_z hkb.z hkp.z g108) d_M_shorten_127 (fun H locs hP hD hwf hS => ?_)
    have hkp := kp_L eM109 hkp
    refine lv_iload hx hb d_M_shorten_128 (lv_at hl 4 rfl) ?_
    refine lv_bipush (v := 11) hx hb d_M_shorten_130 (by decide) ?_
    refine lv_icmp_ne (tgt := 168) hx hb d_M_shorten_132 (by decide) (fun c110 => ?_) (fun c110 => ?_)
    · have h := if_f c110 h
      exact b_168 _ hk2 M109 y2 y3 y5 _ _ _ h hwf hkp hP hD hS (lv_sub hl [0, 1, 2, 3, 4] rfl)
    have h := if_t c110 h
    refine lv_aload_n hx hb d_M_shorten_135 rfl (lv_at hl 0 rfl) ?_
    refine g_M_28 hx hb hts hown hK hP hwf hj0 (hts _ u_1769) d_M_shorten_136 ?_
    obtain ⟨j111, e112, h⟩ := bd_ob h
    have hj111 : j111 < N 15 := (hwf.2.1 1 j0 28 _ (kp_r hkb hkp e112) (by decide) hj0)
    refine me_opt (j := j111) (kp_r hkb hkp e112) ?_
    refine lv_iload_n hx hb d_M_shorten_139 rfl (lv_at hl 2 rfl) ?_
    obtain ⟨g113, h⟩ := gd_ob h
    refine me_zald hx hb hK hP hwf hj111 (kp_z hkb.z hkp.z g113) d_M_shorten_140 ?_
    have z114 := hwf.2.2.2 15 j111 y2.toNatClampNeg rfl
    refine lv_if_eq (tgt := 168) hx hb d_M_shorten_141 (by decide) (fun c115 => ?_) (fun c115 => ?_)
    · have h := if_t c115 h
      exact b_168 _ hk2 M109 y2 y3 y5 _ _ _ h hwf hkp hP hD hS (lv_sub hl [0, 1, 2, 3, 4] rfl)
    have h := if_f c115 h
    refine lv_aload_n hx hb d_M_shorten_144 rfl (lv_at hl 0 rfl) ?_
    refine g_M_29 hx hb hts hown hK hP hwf hj0 (hts _ u_1770) d_M_shorten_145 ?_
    obtain ⟨j116, e117, h⟩ := bd_ob h
    have hj116 : j116 < N 15 := (hwf.2.1 1 j0 29 _ (kp_r hkb hkp e117) (by decide) hj0)
    refine me_opt (j := j116) (kp_r hkb hkp e117) ?_
    refine lv_iload_n hx hb d_M_shorten_148 rfl (lv_at hl 2 rfl) ?_
    obtain ⟨g118, h⟩ := gd_ob h
    refine me_zald hx hb hK hP hwf hj116 (kp_z hkb.z hkp.z g118) d_M_shorten_149 ?_
    have z119 := hwf.2.2.2 15 j116 y2.toNatClampNeg rfl
    refine lv_if_ne (tgt := 168) hx hb d_M_shorten_150 (by decide) (fun c120 => ?_) (fun c120 => ?_)
    · have h := if_f c120 h
      exact b_168 _ hk2 M109 y2 y3 y5 _ _ _ h hwf hkp hP hD hS (lv_sub hl [0, 1, 2, 3, 4] rfl)
    have h := if_t c120 h
    refine lv_aload_n hx hb d_M_shorten_153 rfl (lv_at hl 0 rfl) ?_
    refine g_M_72 hx hb hts hown hK hP hwf hj0 (hts _ u_1813) d_M_shorten_154 ?_
    refine me_opt (j := j106) (kp_r hkb hkp e107) ?_
    refine lv_iload_n hx hb d_M_shorten_157 rfl (lv_at hl 2 rfl) ?_
    refine lv_ldc2 hx hb hown (hts _ u_2396) d_M_shorten_158 ?_
    refine lv_lload_n hx hb d_M_shorten_161 rfl (lv_at hl 3 rfl) ?_
    refine lv_ldc2 hx hb hown (hts _ u_2397) d_M_shorten_162 ?_
    refine lv_land hx hb d_M_shorten_165 ?_
    refine lv_lor hx hb d_M_shorten_166 ?_
    obtain ⟨M121, eM121, h⟩ := st_ob h
    refine me_last eM121 hx hb hK hP hD hwf hS hj106 (kp_z hkb.z hkp.z g108) d_M_shorten_167 (fun H locs hP hD hwf hS => ?_)
    have hkp := kp_L eM121 hkp
    exact b_168 _ hk2 M121 y2 y3 y5 _ _ _ h hwf hkp hP hD hS (lv_sub hl [0, 1, 2, 3, 4] rfl)
  have b_119 : ∀ (k2 : me_M → Int32 → Option me_M) (hk2 : ∀ (M : me_M) (y2 : Int32) (H : Heap) (locs : List Loc) (ls : Array Slot), k2 M y2 = (some MZ) → me_wf N M → me_kp M0 M → va_P D classes (me_W ad ca M) H → va_D A (me_W ad ca M) → va_S A s.heap H locs → lv_has ls 7 [(0, .ref (ad 1 j0)), (1, .int x1), (2, .int y2)] → W p l e rm_M_shorten s m [.ref (ad 1 j0), .int x1].toArray below meth c H locs 0 0 (MQ below (q_M_shorten D ad ca N M0 MZ A) [.ref (ad 1 j0), .int x1].toArray s rm_M_shorten.cells rm_M_shorten.slots A) (F0 m 2 ls [])), ∀ (M : me_M) (y2 : Int32) (y3 : Int64) (y5 : Int32) (s0 : Int32) (s1 : Nat) (H : Heap) (locs : List Loc) (ls : Array Slot), f_M_shorten_b119 k2 j0 x1 M y2 y3 y5 s0 s1 = (some MZ) → (s1 < N 15) → me_wf N M → me_kp M0 M → va_P D classes (me_W ad ca M) H → va_D A (me_W ad ca M) → va_S A s.heap H locs → lv_has ls 7 [(0, .ref (ad 1 j0)), (1, .int x1), (2, .int y2), (3, .long y3), (5, .int y5)] → W p l e rm_M_shorten s m [.ref (ad 1 j0), .int x1].toArray below meth c H locs 0 0 (MQ below (q_M_shorten D ad ca N M0 MZ A) [.ref (ad 1 j0), .int x1].toArray s rm_M_shorten.cells rm_M_shorten.slots A) (F0 m 119 ls [.int s0, .ref (ad 15 s1)]) := by
    intro k2 hk2 M y2 y3 y5 s0 s1 H locs ls h hs1 hwf hkp hP hD hS hl
    unfold f_M_shorten_b119 at h
    have hkb := hkp
    refine lv_iconst (v := 0) hx hb d_M_shorten_119 (by decide) ?_
    exact b_120 _ hk2 M y2 y3 y5 (0 : Int32) s0 s1 _ _ _ h (by decide) hs1 hwf hkp hP hD hS (lv_sub hl [0, 1, 2, 3, 4] rfl)
  have b_115 : ∀ (k2 : me_M → Int32 → Option me_M) (hk2 : ∀ (M : me_M) (y2 : Int32) (H : Heap) (locs : List Loc) (ls : Array Slot), k2 M y2 = (some MZ) → me_wf N M → me_kp M0 M → va_P D classes (me_W ad ca M) H → va_D A (me_W ad ca M) → va_S A s.heap H locs → lv_has ls 7 [(0, .ref (ad 1 j0)), (1, .int x1), (2, .int y2)] → W p l e rm_M_shorten s m [.ref (ad 1 j0), .int x1].toArray below meth c H locs 0 0 (MQ below (q_M_shorten D ad ca N M0 MZ A) [.ref (ad 1 j0), .int x1].toArray s rm_M_shorten.cells rm_M_shorten.slots A) (F0 m 2 ls [])), ∀ (M : me_M) (y2 : Int32) (y3 : Int64) (y5 : Int32) (s0 : Int32) (s1 : Nat) (H : Heap) (locs : List Loc) (ls : Array Slot), f_M_shorten_b115 k2 j0 x1 M y2 y3 y5 s0 s1 = (some MZ) → (s1 < N 15) → me_wf N M → me_kp M0 M → va_P D classes (me_W ad ca M) H → va_D A (me_W ad ca M) → va_S A s.heap H locs → lv_has ls 7 [(0, .ref (ad 1 j0)), (1, .int x1), (2, .int y2), (3, .long y3), (5, .int y5)] → W p l e rm_M_shorten s m [.ref (ad 1 j0), .int x1].toArray below meth c H locs 0 0 (MQ below (q_M_shorten D ad ca N M0 MZ A) [.ref (ad 1 j0), .int x1].toArray s rm_M_shorten.cells rm_M_shorten.slots A) (F0 m 115 ls [.int s0, .ref (ad 15 s1)]) := by
    intro k2 hk2 M y2 y3 y5 s0 s1 H locs ls h hs1 hwf hkp hP hD hS hl
    unfold f_M_shorten_b115 at h
    have hkb := hkp
    refine lv_iconst (v := 1) hx hb d_M_shorten_115 (by decide) ?_
    refine lv_goto (tgt := 120) hx hb d_M_shorten_116 (by decide) ?_
    exact b_120 _ hk2 M y2 y3 y5 (1 : Int32) s0 s1 _ _ _ h (by decide) hs1 hwf hkp hP hD hS (lv_sub hl [0, 1, 2, 3, 4] rfl)
  have b_78 : ∀ (k2 : me_M → Int32 → Option me_M) (hk2 : ∀ (M : me_M) (y2 : Int32) (H : Heap) (locs : List Loc) (ls : Array Slot), k2 M y2 = (some MZ) → me_wf N M → me_kp M0 M → va_P D classes (me_W ad ca M) H → va_D A (me_W ad ca M) → va_S A s.heap H locs → lv_has ls 7 [(0, .ref (ad 1 j0)), (1, .int x1), (2, .int y2)] → W p l e rm_M_shorten s m [.ref (ad 1 j0), .int x1].toArray below meth c H locs 0 0 (MQ below (q_M_shorten D ad ca N M0 MZ A) [.ref (ad 1 j0), .int x1].toArray s rm_M_shorten.cells rm_M_shorten.slots A) (F0 m 2 ls [])), ∀ (M : me_M) (y2 : Int32) (y3 : Int64) (y5 : Int32) (s0 : Int32) (H : Heap) (locs : List Loc) (ls : Array Slot), f_M_shorten_b78 k2 j0 x1 M y2 y3 y5 s0 = (some MZ) → (s0 = 1 ∨ s0 = 0) → me_wf N M → me_kp M0 M → va_P D classes (me_W ad ca M) H → va_D A (me_W ad ca M) → va_S A s.heap H locs → lv_has ls 7 [(0, .ref (ad 1 j0)), (1, .int x1), (2, .int y2), (3, .long y3), (5, .int y5)] → W p l e rm_M_shorten s m [.ref (ad 1 j0), .int x1].toArray below meth c H locs 0 0 (MQ below (q_M_shorten D ad ca N M0 MZ A) [.ref (ad 1 j0), .int x1].toArray s rm_M_shorten.cells rm_M_shorten.slots A) (F0 m 78 ls [.int s0]) := by
    intro k2 hk2 M y2 y3 y5 s0 H locs ls h zs0 hwf hkp hP hD hS hl
    unfold f_M_shorten_b78 at h
    have hkb := hkp
    refine lv_istore (lv' := [(6, .int s0), (0, .ref (ad 1 j0)), (1, .int x1), (2, .int y2), (3, .long y3), (5, .int y5)]) hx hb d_M_shorten_78 hl (by decide) rfl (fun ls hl => ?_)
    refine lv_aload_n hx hb d_M_shorten_80 rfl (lv_at hl 1 rfl) ?_
    refine g_M_71 hx hb hts hown hK hP hwf hj0 (hts _ u_1812) d_M_shorten_81 ?_
    obtain ⟨j122, e123, h⟩ := bd_ob h
    have hj122 : j122 < N 15 := (hwf.2.1 1 j0 71 _ e123 (by decide) hj0)
    refine me_opt (j := j122) e123 ?_
    refine lv_iload_n hx hb d_M_shorten_84 rfl (lv_at hl 3 rfl) ?_
    refine lv_iload hx hb d_M_shorten_85 (lv_at hl 0 rfl) ?_
    refine lv_if_eq (tgt := 119) hx hb d_M_shorten_87 (by decide) (fun c124 => ?_) (fun c124 => ?_)
    · have h := if_t c124 h
      exact b_119 _ hk2 M y2 y3 y5 y2 j122 _ _ _ h hj122 hwf hkp hP hD hS (lv_sub hl [1, 2, 3, 4, 5] rfl)
    have h := if_f c124 h
    refine lv_iload hx hb d_M_shorten_90 (lv_at hl 5 rfl) ?_
    refine lv_bipush (v := 11) hx hb d_M_shorten_92 (by decide) ?_
    refine lv_icmp_ne (tgt := 115) hx hb d_M_shorten_94 (by decide) (fun c125 => ?_) (fun c125 => ?_)
    · have h := if_f c125 h
      exact b_115 _ hk2 M y2 y3 y5 y2 j122 _ _ _ h hj122 hwf hkp hP hD hS (lv_sub hl [1, 2, 3, 4, 5] rfl)
    have h := if_t c125 h
    refine lv_aload_n hx hb d_M_shorten_97 rfl (lv_at hl 1 rfl) ?_
    refine g_M_29 hx hb hts hown hK hP hwf hj0 (hts _ u_1770) d_M_shorten_98 ?_
    obtain ⟨j126, e127, h⟩ := bd_ob h
    have hj126 : j126 < N 15 := (hwf.2.1 1 j0 29 _ e127 (by decide) hj0)
    refine me_opt (j := j126) e127 ?_
    refine lv_iload_n hx hb d_M_shorten_101 rfl (lv_at hl 3 rfl) ?_
    obtain ⟨g128, h⟩ := gd_ob h
    refine me_zald hx hb hK hP hwf hj126 g128 d_M_shorten_102 ?_
    have z129 := hwf.2.2.2 15 j126 y2.toNatClampNeg rfl
    refine lv_if_eq (tgt := 115) hx hb d_M_shorten_103 (by decide) (fun c130 => ?_) (fun c130 => ?_)
    · have h := if_t c130 h
      exact b_115 _ hk2 M y2 y3 y5 y2 j122 _ _ _ h hj122 hwf hkp hP hD hS (lv_sub hl [1, 2, 3, 4, 5] rfl)
    have h := if_f c130 h
    refine lv_aload_n hx hb d_M_shorten_106 rfl (lv_at hl 1 rfl) ?_
    refine g_M_28 hx hb hts hown hK hP hwf hj0 (hts _ u_1769) d_M_shorten_107 ?_
    obtain ⟨j131, e132, h⟩ := bd_ob h
    have hj131 : j131 < N 15 := (hwf.2.1 1 j0 28 _ e132 (by decide) hj0)
    refine me_opt (j := j131) e132 ?_
    refine lv_iload_n hx hb d_M_shorten_110 rfl (lv_at hl 3 rfl) ?_
    obtain ⟨g133, h⟩ := gd_ob h
    refine me_zald hx hb hK hP hwf hj131 g133 d_M_shorten_111 ?_
    have z134 := hwf.2.2.2 15 j131 y2.toNatClampNeg rfl
    refine lv_if_eq (tgt := 119) hx hb d_M_shorten_112 (by decide) (fun c135 => ?_) (fun c135 => ?_)
    · have h := if_t c135 h
      exact b_119 _ hk2 M y2 y3 y5 y2 j122 _ _ _ h hj122 hwf hkp hP hD hS (lv_sub hl [1, 2, 3, 4, 5] rfl)
    have h := if_f c135 h
    exact b_115 _ hk2 M y2 y3 y5 y2 j122 _ _ _ h hj122 hwf hkp hP hD hS (lv_sub hl [1, 2, 3, 4, 5] rfl)
  have b_34 : ∀ (k2 : me_M → Int32 → Option me_M) (hk2 : ∀ (M : me_M) (y2 : Int32) (H : Heap) (locs : List Loc) (ls : Array Slot), k2 M y2 = (some MZ) → me_wf N M → me_kp M0 M → va_P D classes (me_W ad ca M) H → va_D A (me_W ad ca M) → va_S A s.heap H locs → lv_has ls 7 [(0, .ref (ad 1 j0)), (1, .int x1), (2, .int y2)] → W p l e rm_M_shorten s m [.ref (ad 1 j0), .int x1].toArray below meth c H locs 0 0 (MQ below (q_M_shorten D ad ca N M0 MZ A) [.ref (ad 1 j0), .int x1].toArray s rm_M_shorten.cells rm_M_shorten.slots A) (F0 m 2 ls [])), ∀ (M : me_M) (y2 : Int32) (y3 : Int64) (s0 : Int32) (H : Heap) (locs : List Loc) (ls : Array Slot), f_M_shorten_b34 k2 j0 x1 M y2 y3 s0 = (some MZ) → me_wf N M → me_kp M0 M → va_P D classes (me_W ad ca M) H → va_D A (me_W ad ca M) → va_S A s.heap H locs → lv_has ls 7 [(0, .ref (ad 1 j0)), (1, .int x1), (2, .int y2), (3, .long y3)] → W p l e rm_M_shorten s m [.ref (ad 1 j0), .int x1].toArray below meth c H locs 0 0 (MQ below (q_M_shorten D ad ca N M0 MZ A) [.ref (ad 1 j0), .int x1].toArray s rm_M_shorten.cells rm_M_shorten.slots A) (F0 m 34 ls [.int s0]) := by
    intro k2 hk2 M y2 y3 s0 H locs ls h hwf hkp hP hD hS hl
    unfold f_M_shorten_b34 at h
    have hkb := hkp
    refine lv_istore (lv' := [(5, .int s0), (0, .ref (ad 1 j0)), (1, .int x1), (2, .int y2), (3, .long y3)]) hx hb d_M_shorten_34 hl (by decide) rfl (fun ls hl => ?_)
    refine lv_aload_n hx hb d_M_shorten_36 rfl (lv_at hl 1 rfl) ?_
    refine g_M_32 hx hb hts hown hK hP hwf hj0 (hts _ u_1773) d_M_shorten_37 ?_
    obtain ⟨j136, e137, h⟩ := bd_ob h
    have hj136 : j136 < N 15 := (hwf.2.1 1 j0 32 _ e137 (by decide) hj0)
    refine me_opt (j := j136) e137 ?_
    refine lv_iload_n hx hb d_M_shorten_40 rfl (lv_at hl 3 rfl) ?_
    obtain ⟨g138, h⟩ := gd_ob h
    refine me_zald hx hb hK hP hwf hj136 g138 d_M_shorten_41 ?_
    have z139 := hwf.2.2.2 15 j136 y2.toNatClampNeg rfl
    refine lv_if_eq (tgt := 64) hx hb d_M_shorten_42 (by decide) (fun c140 => ?_) (fun c140 => ?_)
    · have h := if_t c140 h
      refine lv_aload_n hx hb d_M_shorten_64 rfl (lv_at hl 1 rfl) ?_
      refine g_M_27 hx hb hts hown hK hP hwf hj0 (hts _ u_1768) d_M_shorten_65 ?_
      obtain ⟨j141, e142, h⟩ := bd_ob h
      have hj141 : j141 < N 13 := (hwf.2.1 1 j0 27 _ e142 (by decide) hj0)
      refine me_opt (j := j141) e142 ?_
      refine lv_iload_n hx hb d_M_shorten_68 rfl (lv_at hl 3 rfl) ?_
      obtain ⟨g143, h⟩ := gd_ob h
      refine me_iald hx hb hK hP hwf hj141 g143 d_M_shorten_69 ?_
      refine lv_if_le (tgt := 77) hx hb d_M_shorten_70 (by decide) (fun c144 => ?_) (fun c144 => ?_)
      · have h := if_t c144 h
        refine lv_iconst (v := 0) hx hb d_M_shorten_77 (by decide) ?_
        exact b_78 _ hk2 M y2 y3 s0 (0 : Int32) _ _ _ h (by decide) hwf hkp hP hD hS (lv_sub hl [1, 2, 3, 4, 0] rfl)
      have h := if_f c144 h
      refine lv_iconst (v := 1) hx hb d_M_shorten_73 (by decide) ?_
      refine lv_goto (tgt := 78) hx hb d_M_shorten_74 (by decide) ?_
      exact b_78 _ hk2 M y2 y3 s0 (1 : Int32) _ _ _ h (by decide) hwf hkp hP hD hS (lv_sub hl [1, 2, 3, 4, 0] rfl)
    have h := if_f c140 h
    refine lv_aload_n hx hb d_M_shorten_45 rfl (lv_at hl 1 rfl) ?_
    refine g_M_27 hx hb hts hown hK hP hwf hj0 (hts _ u_1768) d_M_shorten_46 ?_
    obtain ⟨j145, e146, h⟩ := bd_ob h
    have hj145 : j145 < N 13 := (hwf.2.1 1 j0 27 _ e146 (by decide) hj0)
    refine me_opt (j := j145) e146 ?_
    refine lv_iload_n hx hb d_M_shorten_49 rfl (lv_at hl 3 rfl) ?_
    refine lv_iconst (v := 1) hx hb d_M_shorten_50 (by decide) ?_
    refine lv_isub hx hb d_M_shorten_51 ?_
    obtain ⟨g147, h⟩ := gd_ob h
    refine me_iald hx hb hK hP hwf hj145 g147 d_M_shorten_52 ?_
    refine lv_if_le (tgt := 60) hx hb d_M_shorten_53 (by decide) (fun c148 => ?_) (fun c148 => ?_)
    · have h := if_t c148 h
      refine lv_iconst (v := 0) hx hb d_M_shorten_60 (by decide) ?_
      refine lv_goto (tgt := 78) hx hb d_M_shorten_61 (by decide) ?_
      exact b_78 _ hk2 M y2 y3 s0 (0 : Int32) _ _ _ h (by decide) hwf hkp hP hD hS (lv_sub hl [1, 2, 3, 4, 0] rfl)
    have h := if_f c148 h
    refine lv_iconst (v := 1) hx hb d_M_shorten_56 (by decide) ?_
    refine lv_goto (tgt := 78) hx hb d_M_shorten_57 (by decide) ?_
    exact b_78 _ hk2 M y2 y3 s0 (1 : Int32) _ _ _ h (by decide) hwf hkp hP hD hS (lv_sub hl [1, 2, 3, 4, 0] rfl)
  have b_2 : ∀ (fu : Nat), ∀ (M : me_M) (y2 : Int32) (H : Heap) (locs : List Loc) (ls : Array Slot), f_M_shorten_l2 j0 x1 fu M y2 = (some MZ) → me_wf N M → me_kp M0 M → va_P D classes (me_W ad ca M) H → va_D A (me_W ad ca M) → va_S A s.heap H locs → lv_has ls 7 [(0, .ref (ad 1 j0)), (1, .int x1), (2, .int y2)] → W p l e rm_M_shorten s m [.ref (ad 1 j0), .int x1].toArray below meth c H locs 0 0 (MQ below (q_M_shorten D ad ca N M0 MZ A) [.ref (ad 1 j0), .int x1].toArray s rm_M_shorten.cells rm_M_shorten.slots A) (F0 m 2 ls []) := by
    intro fu
    induction fu with
    | zero =>
      intro M y2 H locs ls h hwf hkp hP hD hS hl
      cases h
    | succ fu ih =>
      intro M y2 H locs ls h hwf hkp hP hD hS hl
      unfold f_M_shorten_l2 at h
      have hkb := hkp
      refine lv_iload_n hx hb d_M_shorten_2 rfl (lv_at hl 2 rfl) ?_
      refine lv_iload_n hx hb d_M_shorten_3 rfl (lv_at hl 1 rfl) ?_
      refine lv_icmp_ge (tgt := 233) hx hb d_M_shorten_4 (by decide) (fun c149 => ?_) (fun c149 => ?_)
      · have h := if_t c149 h
        refine lv_iload_n hx hb d_M_shorten_233 rfl (lv_at hl 1 rfl) ?_
        refine lv_iconst (v := 1) hx hb d_M_shorten_234 (by decide) ?_
        refine lv_isub hx hb d_M_shorten_235 ?_
        obtain ⟨v150, ev150, h⟩ := st_ob h
        refine fg_topi (y := v150) ev150.symm ?_
        refine lv_istore_n (lv' := [(2, .int v150), (0, .ref (ad 1 j0)), (1, .int x1)]) hx hb d_M_shorten_236 rfl hl (by decide) rfl (fun ls hl => ?_)
        exact b_237 _ M v150 _ _ _ h hwf hkp hP hD hS (lv_sub hl [1, 2, 0] rfl)
      have h := if_f c149 h
      refine lv_aload_n hx hb d_M_shorten_7 rfl (lv_at hl 0 rfl) ?_
      refine g_M_13 hx hb hts hown hK hP hwf hj0 (hts _ u_1754) d_M_shorten_8 ?_
      obtain ⟨j151, e152, h⟩ := bd_ob h
      have hj151 : j151 < N 16 := (hwf.2.1 1 j0 13 _ e152 (by decide) hj0)
      refine me_opt (j := j151) e152 ?_
      refine lv_iload_n hx hb d_M_shorten_11 rfl (lv_at hl 2 rfl) ?_
      obtain ⟨g153, h⟩ := gd_ob h
      refine me_lald hx hb hK hP hwf hj151 g153 d_M_shorten_12 ?_
      obtain ⟨v154, ev154, h⟩ := st_ob h
      refine fg_topl (y := v154) ev154.symm ?_
      refine lv_lstore_n (lv' := [(3, .long v154), (0, .ref (ad 1 j0)), (1, .int x1), (2, .int y2)]) hx hb d_M_shorten_13 rfl hl (by decide) rfl (fun ls hl => ?_)
      refine lv_aload_n hx hb d_M_shorten_14 rfl (lv_at hl 1 rfl) ?_
      refine g_M_32 hx hb hts hown hK hP hwf hj0 (hts _ u_1773) d_M_shorten_15 ?_
      obtain ⟨j155, e156, h⟩ := bd_ob h
      have hj155 : j155 < N 15 := (hwf.2.1 1 j0 32 _ e156 (by decide) hj0)
      refine me_opt (j := j155) e156 ?_
      refine lv_iload_n hx hb d_M_shorten_18 rfl (lv_at hl 3 rfl) ?_
      obtain ⟨g157, h⟩ := gd_ob h
      refine me_zald hx hb hK hP hwf hj155 g157 d_M_shorten_19 ?_
      have z158 := hwf.2.2.2 15 j155 y2.toNatClampNeg rfl
      refine lv_if_eq (tgt := 27) hx hb d_M_shorten_20 (by decide) (fun c159 => ?_) (fun c159 => ?_)
      · have h := if_t c159 h
        refine lv_lload_n hx hb d_M_shorten_27 rfl (lv_at hl 0 rfl) ?_
        obtain ⟨r160, er160, h⟩ := bd_ob h
        refine me_pani' (r0 := r160) (fg_runS (wc := []) (tc := []) (A2 := A) (As := [.long v154]) (rest := []) ⟨hx, hb, hml, hown, hts⟩ (c_M_opOf l D r160 v154 er160 _) (by show fg_nm y_M_opOf 1; decide +kernel) u_1997 u_1998 u_192 u_1999 ⟨Nat.le_of_ble_eq_true rfl, Nat.le_of_ble_eq_true rfl⟩ hX me_P0 (hK.sub (tys' := []) [] rfl) me_D0 rfl hl.1 (Nat.le_of_ble_eq_true rfl) d_M_shorten_28 ⟨Nat.le_of_ble_eq_true rfl, Nat.le_of_ble_eq_true rfl⟩) hP hD hK hS hA rfl rfl (fun H locs hw hP hD hS => ?_)
        obtain ⟨r161, er161, h⟩ := bd_ob h
        refine me_pani' (r0 := r161) (fg_runS (wc := []) (tc := []) (A2 := A) (As := [.int r160]) (rest := []) ⟨hx, hb, hml, hown, hts⟩ (c_M_instruction l D r161 r160 er161 _) (by show fg_nm y_M_instruction 1; decide +kernel) u_2000 u_2001 u_192 u_2002 ⟨Nat.le_of_ble_eq_true rfl, Nat.le_of_ble_eq_true rfl⟩ hX me_P0 (hK.sub (tys' := []) [] rfl) me_D0 rfl hl.1 (Nat.le_of_ble_eq_true rfl) d_M_shorten_31 ⟨Nat.le_of_ble_eq_true rfl, Nat.le_of_ble_eq_true rfl⟩) hP hD hK hS hA rfl rfl (fun H locs hw hP hD hS => ?_)
        exact b_34 _ ih M y2 v154 r161 _ _ _ h hwf hkp hP hD hS (lv_sub hl [1, 2, 3, 0] rfl)
      have h := if_f c159 h
      refine lv_iconst (v := 0) hx hb d_M_shorten_23 (by decide) ?_
      refine lv_goto (tgt := 34) hx hb d_M_shorten_24 (by decide) ?_
      exact b_34 _ ih M y2 v154 (0 : Int32) _ _ _ h hwf hkp hP hD hS (lv_sub hl [1, 2, 3, 0] rfl)
  refine lv_iconst (v := 0) hx hb d_M_shorten_0 (by decide) ?_
  refine lv_istore_n (lv' := [(2, .int 0), (0, .ref (ad 1 j0)), (1, .int x1)]) hx hb d_M_shorten_1 rfl hl (by decide) rfl (fun ls hl => ?_)
  exact b_2 _ M0 (0 : Int32) _ _ _ h hwf hkp hP hD hS (lv_sub hl [1, 2, 0] rfl)
