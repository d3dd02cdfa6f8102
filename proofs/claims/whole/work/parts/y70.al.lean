theorem d_Explorer_meetKept_124 : decode prog_5_method_5_code 124 = .ok (.astore_n 1, 1) := by decide +kernel
theorem d_Explorer_meetKept_125 : decode prog_5_method_5_code 125 = .ok (.aload_n 1, 1) := by decide +kernel
theorem d_Explorer_meetKept_126 : decode prog_5_method_5_code 126 = .ok (.aload_n 0, 1) := by decide +kernel
theorem d_Explorer_meetKept_127 : decode prog_5_method_5_code 127 = .ok (.getfield 45, 3) := by decide +kernel
theorem d_Explorer_meetKept_130 : decode prog_5_method_5_code 130 = .ok (.invokevirtual 117, 3) := by decide +kernel
theorem u_1074 : Cond.methodLink "FilterGuard$Explorer" 117 ⟨"FilterGuard$State", "copy", "(LFilterGuard$State;)V"⟩ ∈ fg_g := fg_in (List.mem_of_getElem? (i := 1074) (by decide +kernel)) rfl
theorem u_1077 : Cond.code ⟨"FilterGuard$State", "copy", "(LFilterGuard$State;)V"⟩ prog_10_method_3_code 3 none ∈ fg_g := fg_in (List.mem_of_getElem? (i := 1077) (by decide +kernel)) rfl
theorem u_1075 : Cond.instanceMethod ⟨"FilterGuard$State", "copy", "(LFilterGuard$State;)V"⟩ ∈ fg_g := fg_in (List.mem_of_getElem? (i := 1075) (by decide +kernel)) rfl
theorem u_1076 : Cond.selects "FilterGuard$State" ⟨"FilterGuard$State", "copy", "(LFilterGuard$State;)V"⟩ ⟨"FilterGuard$State", "copy", "(LFilterGuard$State;)V"⟩ ∈ fg_g := fg_in (List.mem_of_getElem? (i := 1076) (by decide +kernel)) rfl
theorem d_Explorer_meetKept_133 : decode prog_5_method_5_code 133 = .ok (.aload_n 1, 1) := by decide +kernel
theorem d_Explorer_meetKept_134 : decode prog_5_method_5_code 134 = .ok (.iconst 1, 1) := by decide +kernel
theorem d_Explorer_meetKept_135 : decode prog_5_method_5_code 135 = .ok (.putfield 114, 3) := by decide +kernel
theorem u_534 : Cond.fieldLink "FilterGuard$Explorer" 114 "FilterGuard$State" "isOpen" "Z" ∈ fg_g := fg_in (List.mem_of_getElem? (i := 534) (by decide +kernel)) rfl
theorem p_State_4 {p : Program} {l : Launch} {e : Env} {R : Room} {s : Jvm.State} {m : MethodId} {args : Array Value} {below : List Frame} {meth : Method} {c : Code} {H : Heap} {locs : List Loc} {cells slots : Nat} {Q : Jvm.State → Prop} {cc : ByteArray} {pc : Nat} {ls : Array Slot} {rest : List Value} {D : va_G} {A : Nat → Prop} {H0 : Heap} {ad : Nat → Nat → Nat} {ca : Nat → ClassId} {M M1 : me_M} {N : Nat → Nat} {own : String} {index j : Nat} {v : Int32} (he : M1 = wI M 9 j 4 v) (hexec : p.tables.exec = Jvm.exec) (hb : c.code = cc) (hts : ∀ w ∈ fg_g, w.before args s = true) (hown : s.vm.findClass own = some m.cls) (hK : va_K D classes (me_T ca) s) (hP : va_P D classes (me_W ad ca M) H) (hD : va_D A (me_W ad ca M)) (hwf : me_wf N M) (hS : va_S A H0 H locs) (hj : j < N 9) (hv : v = 1 ∨ v = 0) (hlink : (Cond.fieldLink own index "FilterGuard$State" "isOpen" "Z").before args s = true) (hdg : decode cc pc = .ok (.putfield index, 3)) (kk : ∀ (H1 : Heap) (locs1 : List Loc), va_P D classes (me_W ad ca M1) H1 → va_D A (me_W ad ca M1) → me_wf N M1 → va_S A H0 H1 locs1 → W p l e R s m args below meth c H1 locs1 cells slots Q (F0 m (pc + 3) ls rest)) : W p l e R s m args below meth c H locs cells slots Q (F0 m pc ls (.int v :: .ref (ad 9 j) :: rest)) := by
  subst he
  exact me_put (M1 := wI M 9 j 4 v) (k := 9) (f := 4) (C := "FilterGuard$State") (T := F_State) (Nf := 5) hexec hb hts i_State t_State t_State_ok n_State hown hK hP hD hwf hS hj (by decide) rfl (by decide) (by decide) hlink (fun _ h9 => h9) rfl (me_nz hv) (me_fz hv) rfl (fun a b h => me_wIE h) (me_fIw (by decide) (by decide)) hdg (fun H1 locs1 a1 a2 a3 => kk H1 locs1 a1 a2 (me_wfI hwf (fun z => absurd z (by decide)) (fun _ => hv)) a3)
theorem d_Explorer_meetKept_138 : decode prog_5_method_5_code 138 = .ok (.aload_n 1, 1) := by decide +kernel
theorem d_Explorer_meetKept_139 : decode prog_5_method_5_code 139 = .ok (.aload_n 0, 1) := by decide +kernel
theorem d_Explorer_meetKept_140 : decode prog_5_method_5_code 140 = .ok (.getfield 49, 3) := by decide +kernel
theorem g_Explorer_9 {p : Program} {l : Launch} {e : Env} {R : Room} {s : Jvm.State} {m : MethodId} {args : Array Value} {below : List Frame} {meth : Method} {c : Code} {H : Heap} {locs : List Loc} {cells slots : Nat} {Q : Jvm.State → Prop} {cc : ByteArray} {pc : Nat} {ls : Array Slot} {rest : List Value} {D : va_G} {ad : Nat → Nat → Nat} {ca : Nat → ClassId} {M : me_M} {N : Nat → Nat} {own : String} {index j : Nat} (hexec : p.tables.exec = Jvm.exec) (hb : c.code = cc) (hts : ∀ w ∈ fg_g, w.before args s = true) (hown : s.vm.findClass own = some m.cls) (hK : va_K D classes (me_T ca) s) (hP : va_P D classes (me_W ad ca M) H) (hwf : me_wf N M) (hj : j < N 4) (hlink : (Cond.fieldLink own index "FilterGuard$Explorer" "waitingCount" "I").before args s = true) (hdg : decode cc pc = .ok (.getfield index, 3)) (kk : W p l e R s m args below meth c H locs cells slots Q (F0 m (pc + 3) ls (.int (mI M 4 j 9) :: rest))) : W p l e R s m args below meth c H locs cells slots Q (F0 m pc ls (.ref (ad 4 j) :: rest)) := me_get (k := 4) (f := 9) (C := "FilterGuard$Explorer") (T := F_Explorer) (Nf := 15) hexec hb hts i_Explorer hown hK hP hwf hj (by decide) rfl (by decide) (by decide) hlink (fun _ h9 => h9) hdg kk
theorem d_Explorer_meetKept_143 : decode prog_5_method_5_code 143 = .ok (.putfield 121, 3) := by decide +kernel
theorem u_533 : Cond.fieldLink "FilterGuard$Explorer" 121 "FilterGuard$State" "waitingThen" "I" ∈ fg_g := fg_in (List.mem_of_getElem? (i := 533) (by decide +kernel)) rfl
theorem p_State_3 {p : Program} {l : Launch} {e : Env} {R : Room} {s : Jvm.State} {m : MethodId} {args : Array Value} {below : List Frame} {meth : Method} {c : Code} {H : Heap} {locs : List Loc} {cells slots : Nat} {Q : Jvm.State → Prop} {cc : ByteArray} {pc : Nat} {ls : Array Slot} {rest : List Value} {D : va_G} {A : Nat → Prop} {H0 : Heap} {ad : Nat → Nat → Nat} {ca : Nat → ClassId} {M M1 : me_M} {N : Nat → Nat} {own : String} {index j : Nat} {v : Int32} (he : M1 = wI M 9 j 3 v) (hexec : p.tables.exec = Jvm.exec) (hb : c.code = cc) (hts : ∀ w ∈ fg_g, w.before args s = true) (hown : s.vm.findClass own = some m.cls) (hK : va_K D classes (me_T ca) s) (hP : va_P D classes (me_W ad ca M) H) (hD : va_D A (me_W ad ca M)) (hwf : me_wf N M) (hS : va_S A H0 H locs) (hj : j < N 9) (hlink : (Cond.fieldLink own index "FilterGuard$State" "waitingThen" "I").before args s = true) (hdg : decode cc pc = .ok (.putfield index, 3)) (kk : ∀ (H1 : Heap) (locs1 : List Loc), va_P D classes (me_W ad ca M1) H1 → va_D A (me_W ad ca M1) → me_wf N M1 → va_S A H0 H1 locs1 → W p l e R s m args below meth c H1 locs1 cells slots Q (F0 m (pc + 3) ls rest)) : W p l e R s m args below meth c H locs cells slots Q (F0 m pc ls (.int v :: .ref (ad 9 j) :: rest)) := by
  subst he
  exact me_put (M1 := wI M 9 j 3 v) (k := 9) (f := 3) (C := "FilterGuard$State") (T := F_State) (Nf := 5) hexec hb hts i_State t_State t_State_ok n_State hown hK hP hD hwf hS hj (by decide) rfl (by decide) (by decide) hlink (fun _ h9 => h9) rfl rfl rfl rfl (fun a b h => me_wIE h) (me_fIw (by decide) (by decide)) hdg (fun H1 locs1 a1 a2 a3 => kk H1 locs1 a1 a2 (me_wfI hwf (fun z => absurd z (by decide)) (fun z => absurd z (by decide))) a3)
theorem d_Explorer_meetKept_146 : decode prog_5_method_5_code 146 = .ok (.aload_n 0, 1) := by decide +kernel
theorem d_Explorer_meetKept_147 : decode prog_5_method_5_code 147 = .ok (.getfield 11, 3) := by decide +kernel
theorem g_Explorer_3 {p : Program} {l : Launch} {e : Env} {R : Room} {s : Jvm.State} {m : MethodId} {args : Array Value} {below : List Frame} {meth : Method} {c : Code} {H : Heap} {locs : List Loc} {cells slots : Nat} {Q : Jvm.State → Prop} {cc : ByteArray} {pc : Nat} {ls : Array Slot} {rest : List Value} {D : va_G} {ad : Nat → Nat → Nat} {ca : Nat → ClassId} {M : me_M} {N : Nat → Nat} {own : String} {index j : Nat} (hexec : p.tables.exec = Jvm.exec) (hb : c.code = cc) (hts : ∀ w ∈ fg_g, w.before args s = true) (hown : s.vm.findClass own = some m.cls) (hK : va_K D classes (me_T ca) s) (hP : va_P D classes (me_W ad ca M) H) (hwf : me_wf N M) (hj : j < N 4) (hlink : (Cond.fieldLink own index "FilterGuard$Explorer" "kept" "[LFilterGuard$State;").before args s = true) (hdg : decode cc pc = .ok (.getfield index, 3)) (kk : W p l e R s m args below meth c H locs cells slots Q (F0 m (pc + 3) ls (va_rf ((mR M 4 j 3).map (ad 17)) :: rest))) : W p l e R s m args below meth c H locs cells slots Q (F0 m pc ls (.ref (ad 4 j) :: rest)) := me_get (k := 4) (f := 3) (C := "FilterGuard$Explorer") (T := F_Explorer) (Nf := 15) hexec hb hts i_Explorer hown hK hP hwf hj (by decide) rfl (by decide) (by decide) hlink (fun _ h9 => h9) hdg kk
theorem d_Explorer_meetKept_150 : decode prog_5_method_5_code 150 = .ok (.aload_n 0, 1) := by decide +kernel
theorem d_Explorer_meetKept_151 : decode prog_5_method_5_code 151 = .ok (.getfield 53, 3) := by decide +kernel
theorem g_Explorer_11 {p : Program} {l : Launch} {e : Env} {R : Room} {s : Jvm.State} {m : MethodId} {args : Array Value} {below : List Frame} {meth : Method} {c : Code} {H : Heap} {locs : List Loc} {cells slots : Nat} {Q : Jvm.State → Prop} {cc : ByteArray} {pc : Nat} {ls : Array Slot} {rest : List Value} {D : va_G} {ad : Nat → Nat → Nat} {ca : Nat → ClassId} {M : me_M} {N : Nat → Nat} {own : String} {index j : Nat} (hexec : p.tables.exec = Jvm.exec) (hb : c.code = cc) (hts : ∀ w ∈ fg_g, w.before args s = true) (hown : s.vm.findClass own = some m.cls) (hK : va_K D classes (me_T ca) s) (hP : va_P D classes (me_W ad ca M) H) (hwf : me_wf N M) (hj : j < N 4) (hlink : (Cond.fieldLink own index "FilterGuard$Explorer" "keptCount" "I").before args s = true) (hdg : decode cc pc = .ok (.getfield index, 3)) (kk : W p l e R s m args below meth c H locs cells slots Q (F0 m (pc + 3) ls (.int (mI M 4 j 11) :: rest))) : W p l e R s m args below meth c H locs cells slots Q (F0 m pc ls (.ref (ad 4 j) :: rest)) := me_get (k := 4) (f := 11) (C := "FilterGuard$Explorer") (T := F_Explorer) (Nf := 15) hexec hb hts i_Explorer hown hK hP hwf hj (by decide) rfl (by decide) (by decide) hlink (fun _ h9 => h9) hdg kk
theorem d_Explorer_meetKept_154 : decode prog_5_method_5_code 154 = .ok (.aload_n 1, 1) := by decide +kernel
theorem d_Explorer_meetKept_155 : decode prog_5_method_5_code 155 = .ok (.aastore, 1) := by decide +kernel
theorem d_Explorer_meetKept_156 : decode prog_5_method_5_code 156 = .ok (.aload_n 0, 1) := by decide +kernel
theorem d_Explorer_meetKept_157 : decode prog_5_method_5_code 157 = .ok (.dup, 1) := by decide +kernel
theorem d_Explorer_meetKept_158 : decode prog_5_method_5_code 158 = .ok (.getfield 53, 3) := by decide +kernel
theorem d_Explorer_meetKept_161 : decode prog_5_method_5_code 161 = .ok (.iconst 1, 1) := by decide +kernel
theorem d_Explorer_meetKept_162 : decode prog_5_method_5_code 162 = .ok (.iadd, 1) := by decide +kernel
theorem d_Explorer_meetKept_163 : decode prog_5_method_5_code 163 = .ok (.putfield 53, 3) := by decide +kernel
theorem d_Explorer_meetKept_166 : decode prog_5_method_5_code 166 = .ok (.iconst 0, 1) := by decide +kernel
theorem d_Explorer_meetKept_167 : decode prog_5_method_5_code 167 = .ok (.ireturn, 1) := by decide +kernel
theorem d_Explorer_meetKept_2 : decode prog_5_method_5_code 2 = .ok (.iload_n 1, 1) := by decide +kernel
theorem d_Explorer_meetKept_3 : decode prog_5_method_5_code 3 = .ok (.aload_n 0, 1) := by decide +kernel
theorem d_Explorer_meetKept_4 : decode prog_5_method_5_code 4 = .ok (.getfield 53, 3) := by decide +kernel
theorem d_Explorer_meetKept_7 : decode prog_5_method_5_code 7 = .ok (.if_icmp .ge 76, 3) := by decide +kernel
theorem d_Explorer_meetKept_83 : decode prog_5_method_5_code 83 = .ok (.aload_n 0, 1) := by decide +kernel
theorem d_Explorer_meetKept_84 : decode prog_5_method_5_code 84 = .ok (.getfield 53, 3) := by decide +kernel
theorem d_Explorer_meetKept_87 : decode prog_5_method_5_code 87 = .ok (.sipush 200, 3) := by decide +kernel
theorem d_Explorer_meetKept_90 : decode prog_5_method_5_code 90 = .ok (.if_icmp .ge 76, 3) := by decide +kernel
theorem d_Explorer_meetKept_93 : decode prog_5_method_5_code 93 = .ok (.aload_n 0, 1) := by decide +kernel
theorem d_Explorer_meetKept_94 : decode prog_5_method_5_code 94 = .ok (.getfield 11, 3) := by decide +kernel
theorem d_Explorer_meetKept_97 : decode prog_5_method_5_code 97 = .ok (.aload_n 0, 1) := by decide +kernel
theorem d_Explorer_meetKept_98 : decode prog_5_method_5_code 98 = .ok (.getfield 53, 3) := by decide +kernel
theorem d_Explorer_meetKept_101 : decode prog_5_method_5_code 101 = .ok (.aaload, 1) := by decide +kernel
theorem d_Explorer_meetKept_102 : decode prog_5_method_5_code 102 = .ok (.ifnonnull 13, 3) := by decide +kernel
theorem d_Explorer_meetKept_105 : decode prog_5_method_5_code 105 = .ok (.new 9, 3) := by decide +kernel
theorem d_Explorer_meetKept_108 : decode prog_5_method_5_code 108 = .ok (.dup, 1) := by decide +kernel
theorem d_Explorer_meetKept_109 : decode prog_5_method_5_code 109 = .ok (.invokespecial 44, 3) := by decide +kernel
theorem d_Explorer_meetKept_112 : decode prog_5_method_5_code 112 = .ok (.goto 12, 3) := by decide +kernel
theorem d_Explorer_meetKept_115 : decode prog_5_method_5_code 115 = .ok (.aload_n 0, 1) := by decide +kernel
theorem d_Explorer_meetKept_116 : decode prog_5_method_5_code 116 = .ok (.getfield 11, 3) := by decide +kernel
theorem d_Explorer_meetKept_119 : decode prog_5_method_5_code 119 = .ok (.aload_n 0, 1) := by decide +kernel
theorem d_Explorer_meetKept_120 : decode prog_5_method_5_code 120 = .ok (.getfield 53, 3) := by decide +kernel
theorem d_Explorer_meetKept_123 : decode prog_5_method_5_code 123 = .ok (.aaload, 1) := by decide +kernel
theorem oc_n2 {α β : Type} {o : Option α} {x y : β} {f : α → β} (e : o = none) (h : oc o x f = y) : x = y := by subst e; exact h
theorem oc_s2 {α β : Type} {o : Option α} {j : α} {x y : β} {f : α → β} (e : o = some j) (h : oc o x f = y) : f j = y := by subst e; exact h
theorem d_Explorer_meetKept_10 : decode prog_5_method_5_code 10 = .ok (.aload_n 0, 1) := by decide +kernel
theorem d_Explorer_meetKept_11 : decode prog_5_method_5_code 11 = .ok (.getfield 11, 3) := by decide +kernel
theorem d_Explorer_meetKept_14 : decode prog_5_method_5_code 14 = .ok (.iload_n 1, 1) := by decide +kernel
theorem d_Explorer_meetKept_15 : decode prog_5_method_5_code 15 = .ok (.aaload, 1) := by decide +kernel
theorem d_Explorer_meetKept_16 : decode prog_5_method_5_code 16 = .ok (.getfield 65, 3) := by decide +kernel
theorem u_531 : Cond.fieldLink "FilterGuard$Explorer" 65 "FilterGuard$State" "at" "I" ∈ fg_g := fg_in (List.mem_of_getElem? (i := 531) (by decide +kernel)) rfl
theorem d_Explorer_meetKept_19 : decode prog_5_method_5_code 19 = .ok (.aload_n 0, 1) := by decide +kernel
theorem d_Explorer_meetKept_20 : decode prog_5_method_5_code 20 = .ok (.getfield 45, 3) := by decide +kernel
theorem d_Explorer_meetKept_23 : decode prog_5_method_5_code 23 = .ok (.getfield 65, 3) := by decide +kernel
theorem d_Explorer_meetKept_26 : decode prog_5_method_5_code 26 = .ok (.if_icmp .ne 51, 3) := by decide +kernel
theorem d_Explorer_meetKept_77 : decode prog_5_method_5_code 77 = .ok (.iinc 1 1, 3) := by decide +kernel
theorem d_Explorer_meetKept_80 : decode prog_5_method_5_code 80 = .ok (.goto (-78), 3) := by decide +kernel
theorem d_Explorer_meetKept_29 : decode prog_5_method_5_code 29 = .ok (.aload_n 0, 1) := by decide +kernel
theorem d_Explorer_meetKept_30 : decode prog_5_method_5_code 30 = .ok (.aload_n 0, 1) := by decide +kernel
theorem d_Explorer_meetKept_31 : decode prog_5_method_5_code 31 = .ok (.getfield 11, 3) := by decide +kernel
theorem d_Explorer_meetKept_34 : decode prog_5_method_5_code 34 = .ok (.iload_n 1, 1) := by decide +kernel
theorem d_Explorer_meetKept_35 : decode prog_5_method_5_code 35 = .ok (.aaload, 1) := by decide +kernel
theorem d_Explorer_meetKept_36 : decode prog_5_method_5_code 36 = .ok (.invokevirtual 110, 3) := by decide +kernel
theorem u_1049 : Cond.methodLink "FilterGuard$Explorer" 110 ⟨"FilterGuard$Explorer", "isWithin", "(LFilterGuard$State;)Z"⟩ ∈ fg_g := fg_in (List.mem_of_getElem? (i := 1049) (by decide +kernel)) rfl
theorem u_1052 : Cond.code ⟨"FilterGuard$Explorer", "isWithin", "(LFilterGuard$State;)Z"⟩ prog_5_method_6_code 5 (some .boolean) ∈ fg_g := fg_in (List.mem_of_getElem? (i := 1052) (by decide +kernel)) rfl
theorem u_1051 : Cond.instanceMethod ⟨"FilterGuard$Explorer", "isWithin", "(LFilterGuard$State;)Z"⟩ ∈ fg_g := fg_in (List.mem_of_getElem? (i := 1051) (by decide +kernel)) rfl
theorem u_14 : Cond.selects "FilterGuard$Explorer" ⟨"FilterGuard$Explorer", "isWithin", "(LFilterGuard$State;)Z"⟩ ⟨"FilterGuard$Explorer", "isWithin", "(LFilterGuard$State;)Z"⟩ ∈ fg_g := fg_in (List.mem_of_getElem? (i := 14) (by decide +kernel)) rfl
theorem d_Explorer_meetKept_39 : decode prog_5_method_5_code 39 = .ok (.ifCond .eq 38, 3) := by decide +kernel
theorem d_Explorer_meetKept_42 : decode prog_5_method_5_code 42 = .ok (.aload_n 0, 1) := by decide +kernel
theorem d_Explorer_meetKept_43 : decode prog_5_method_5_code 43 = .ok (.aload_n 0, 1) := by decide +kernel
theorem d_Explorer_meetKept_44 : decode prog_5_method_5_code 44 = .ok (.getfield 11, 3) := by decide +kernel
theorem d_Explorer_meetKept_47 : decode prog_5_method_5_code 47 = .ok (.iload_n 1, 1) := by decide +kernel
theorem d_Explorer_meetKept_48 : decode prog_5_method_5_code 48 = .ok (.aaload, 1) := by decide +kernel
theorem d_Explorer_meetKept_49 : decode prog_5_method_5_code 49 = .ok (.getfield 114, 3) := by decide +kernel
theorem g_State_4 {p : Program} {l : Launch} {e : Env} {R : Room} {s : Jvm.State} {m : MethodId} {args : Array Value} {below : List Frame} {meth : Method} {c : Code} {H : Heap} {locs : List Loc} {cells slots : Nat} {Q : Jvm.State → Prop} {cc : ByteArray} {pc : Nat} {ls : Array Slot} {rest : List Value} {D : va_G} {ad : Nat → Nat → Nat} {ca : Nat → ClassId} {M : me_M} {N : Nat → Nat} {own : String} {index j : Nat} (hexec : p.tables.exec = Jvm.exec) (hb : c.code = cc) (hts : ∀ w ∈ fg_g, w.before args s = true) (hown : s.vm.findClass own = some m.cls) (hK : va_K D classes (me_T ca) s) (hP : va_P D classes (me_W ad ca M) H) (hwf : me_wf N M) (hj : j < N 9) (hlink : (Cond.fieldLink own index "FilterGuard$State" "isOpen" "Z").before args s = true) (hdg : decode cc pc = .ok (.getfield index, 3)) (kk : W p l e R s m args below meth c H locs cells slots Q (F0 m (pc + 3) ls (.int (mI M 9 j 4) :: rest))) : W p l e R s m args below meth c H locs cells slots Q (F0 m pc ls (.ref (ad 9 j) :: rest)) := me_get (k := 9) (f := 4) (C := "FilterGuard$State") (T := F_State) (Nf := 5) hexec hb hts i_State hown hK hP hwf hj (by decide) rfl (by decide) (by decide) hlink (fun _ h9 => h9) hdg kk
theorem d_Explorer_meetKept_52 : decode prog_5_method_5_code 52 = .ok (.ifCond .ne 7, 3) := by decide +kernel
theorem d_Explorer_meetKept_59 : decode prog_5_method_5_code 59 = .ok (.iconst 0, 1) := by decide +kernel
theorem d_Explorer_meetKept_60 : decode prog_5_method_5_code 60 = .ok (.putfield 75, 3) := by decide +kernel
theorem u_556 : Cond.fieldLink "FilterGuard$Explorer" 75 "FilterGuard$Explorer" "isThrough" "Z" ∈ fg_g := fg_in (List.mem_of_getElem? (i := 556) (by decide +kernel)) rfl
theorem p_Explorer_10 {p : Program} {l : Launch} {e : Env} {R : Room} {s : Jvm.State} {m : MethodId} {args : Array Value} {below : List Frame} {meth : Method} {c : Code} {H : Heap} {locs : List Loc} {cells slots : Nat} {Q : Jvm.State → Prop} {cc : ByteArray} {pc : Nat} {ls : Array Slot} {rest : List Value} {D : va_G} {A : Nat → Prop} {H0 : Heap} {ad : Nat → Nat → Nat} {ca : Nat → ClassId} {M M1 : me_M} {N : Nat → Nat} {own : String} {index j : Nat} {v : Int32} (he : M1 = wI M 4 j 10 v) (hexec : p.tables.exec = Jvm.exec) (hb : c.code = cc) (hts : ∀ w ∈ fg_g, w.before args s = true) (hown : s.vm.findClass own = some m.cls) (hK : va_K D classes (me_T ca) s) (hP : va_P D classes (me_W ad ca M) H) (hD : va_D A (me_W ad ca M)) (hwf : me_wf N M) (hS : va_S A H0 H locs) (hj : j < N 4) (hv : v = 1 ∨ v = 0) (hlink : (Cond.fieldLink own index "FilterGuard$Explorer" "isThrough" "Z").before args s = true) (hdg : decode cc pc = .ok (.putfield index, 3)) (kk : ∀ (H1 : Heap) (locs1 : List Loc), va_P D classes (me_W ad ca M1) H1 → va_D A (me_W ad ca M1) → me_wf N M1 → va_S A H0 H1 locs1 → W p l e R s m args below meth c H1 locs1 cells slots Q (F0 m (pc + 3) ls rest)) : W p l e R s m args below meth c H locs cells slots Q (F0 m pc ls (.int v :: .ref (ad 4 j) :: rest)) := by
  subst he
  exact me_put (M1 := wI M 4 j 10 v) (k := 4) (f := 10) (C := "FilterGuard$Explorer") (T := F_Explorer) (Nf := 15) hexec hb hts i_Explorer t_Explorer t_Explorer_ok n_Explorer hown hK hP hD hwf hS hj (by decide) rfl (by decide) (by decide) hlink (fun _ h9 => h9) rfl (me_nz hv) (me_fz hv) rfl (fun a b h => me_wIE h) (me_fIw (by decide) (by decide)) hdg (fun H1 locs1 a1 a2 a3 => kk H1 locs1 a1 a2 (me_wfI hwf (fun z => absurd z (by decide)) (fun _ => hv)) a3)
theorem d_Explorer_meetKept_63 : decode prog_5_method_5_code 63 = .ok (.aload_n 0, 1) := by decide +kernel
theorem d_Explorer_meetKept_64 : decode prog_5_method_5_code 64 = .ok (.getfield 75, 3) := by decide +kernel
theorem g_Explorer_10 {p : Program} {l : Launch} {e : Env} {R : Room} {s : Jvm.State} {m : MethodId} {args : Array Value} {below : List Frame} {meth : Method} {c : Code} {H : Heap} {locs : List Loc} {cells slots : Nat} {Q : Jvm.State → Prop} {cc : ByteArray} {pc : Nat} {ls : Array Slot} {rest : List Value} {D : va_G} {ad : Nat → Nat → Nat} {ca : Nat → ClassId} {M : me_M} {N : Nat → Nat} {own : String} {index j : Nat} (hexec : p.tables.exec = Jvm.exec) (hb : c.code = cc) (hts : ∀ w ∈ fg_g, w.before args s = true) (hown : s.vm.findClass own = some m.cls) (hK : va_K D classes (me_T ca) s) (hP : va_P D classes (me_W ad ca M) H) (hwf : me_wf N M) (hj : j < N 4) (hlink : (Cond.fieldLink own index "FilterGuard$Explorer" "isThrough" "Z").before args s = true) (hdg : decode cc pc = .ok (.getfield index, 3)) (kk : W p l e R s m args below meth c H locs cells slots Q (F0 m (pc + 3) ls (.int (mI M 4 j 10) :: rest))) : W p l e R s m args below meth c H locs cells slots Q (F0 m pc ls (.ref (ad 4 j) :: rest)) := me_get (k := 4) (f := 10) (C := "FilterGuard$Explorer") (T := F_Explorer) (Nf := 15) hexec hb hts i_Explorer hown hK hP hwf hj (by decide) rfl (by decide) (by decide) hlink (fun _ h9 => h9) hdg kk
theorem d_Explorer_meetKept_67 : decode prog_5_method_5_code 67 = .ok (.ifCond .eq 7, 3) := by decide +kernel
theorem d_Explorer_meetKept_74 : decode prog_5_method_5_code 74 = .ok (.bipush 19, 2) := by decide +kernel
theorem d_Explorer_meetKept_76 : decode prog_5_method_5_code 76 = .ok (.ireturn, 1) := by decide +kernel
theorem d_Explorer_meetKept_70 : decode prog_5_method_5_code 70 = .ok (.iconst 0, 1) := by decide +kernel
theorem d_Explorer_meetKept_71 : decode prog_5_method_5_code 71 = .ok (.goto 5, 3) := by decide +kernel
theorem d_Explorer_meetKept_55 : decode prog_5_method_5_code 55 = .ok (.iconst 1, 1) := by decide +kernel
theorem d_Explorer_meetKept_56 : decode prog_5_method_5_code 56 = .ok (.goto 4, 3) := by decide +kernel
theorem d_Explorer_meetKept_0 : decode prog_5_method_5_code 0 = .ok (.iconst 0, 1) := by decide +kernel
theorem d_Explorer_meetKept_1 : decode prog_5_method_5_code 1 = .ok (.istore_n 1, 1) := by decide +kernel
abbrev y_Explorer_meetKept : MethodName := ⟨"FilterGuard$Explorer", "meetKept", "()I"⟩
def rm_Explorer_meetKept (N0 : Nat → Nat) : Room := { frames := 5, cells := me_CL - me_cN N0, slots := me_SL - me_sN N0, locals := 110 }
abbrev q_Explorer_meetKept (D : va_G) (ad0 : Nat → Nat → Nat) (ca : Nat → ClassId) (N0 : Nat → Nat) (MZ : me_M) (RZ : Int32) (A : Nat → Prop) : Array Value → Jvm.State → Outcome → Jvm.State → Prop := va_Qi (fun r (u : Nat → Nat → Nat) => r = RZ ∧ al_P ad0 N0 MZ u ∧ True) (fg_B D A (fun u => me_W u ca MZ) (fun _ => [])) A
set_option maxHeartbeats 4000000 in
set_option maxRecDepth 100000 in
theorem c_Explorer_meetKept (l : Launch) (D : va_G) (ad0 : Nat → Nat → Nat) (ca : Nat → ClassId) (N0 : Nat → Nat) (M0 MZ : me_M) (RZ : Int32) (j0 : Nat) (h : f_Explorer_meetKept M0 j0 = (some (MZ, RZ))) (hwf : me_wf N0 M0) (hcl : me_cN N0 ≤ me_CL ∧ me_sN N0 ≤ me_SL) (hj0 : j0 < N0 4) (sz : Nat) : Met l y_Explorer_meetKept (fg_w y_Explorer_meetKept prog_5_method_5_code 2 (some .int)) (rm_Explorer_meetKept N0) (va_Pc [.ref (ad0 4 j0)] (fz_P D (me_T ca) (me_W ad0 ca M0) sz)) (q_Explorer_meetKept D ad0 ca N0 MZ RZ (va_A (me_W ad0 ca M0) sz)) (me_cN (mN MZ) - me_cN N0) (me_sN (mN MZ) - me_sN N0) (va_A (me_W ad0 ca M0) sz) := by
  refine fz_enter (fun A => q_Explorer_meetKept D ad0 ca N0 MZ RZ A) (by decide +kernel) (Nat.le_of_ble_eq_true rfl) ?_
  intro p e s m below meth c ls A hx hb hml hown hts hr hlocks hin hP hK hD hS hA hX hl hz
  refine W.widen (k := me_cN N0 - me_cN N0) (n := me_sN N0 - me_sN N0) (Nat.zero_le _) (Nat.zero_le _) ?_
  unfold f_Explorer_meetKept at h
  have hok : me_ok N0 N0 := me_ok.rf hcl
  have b_124 : ∀ (ad : Nat → Nat → Nat) (N : Nat → Nat) (M : me_M) (s0 : Nat) (H : Heap) (locs : List Loc) (ls : Array Slot), f_Explorer_meetKept_b124 j0 M s0 = (some (MZ, RZ)) → (s0 < N 9) → me_wf N M → me_ok N0 N → (∀ a b, b < N0 a → ad a b = ad0 a b) → va_P D classes (me_W ad ca M) H → va_D A (me_W ad ca M) → va_S A s.heap H locs → lv_has ls 2 [(0, .ref (ad 4 j0))] → W p l e (rm_Explorer_meetKept N0) s m [.ref (ad0 4 j0)].toArray below meth c H locs (me_cN N - me_cN N0) (me_sN N - me_sN N0) (MQ below (q_Explorer_meetKept D ad0 ca N0 MZ RZ A) [.ref (ad0 4 j0)].toArray s (me_cN (mN MZ) - me_cN N0) (me_sN (mN MZ) - me_sN N0) A) (F0 m 124 ls [.ref (ad 9 s0)]) := by
    intro ad N M s0 H locs ls h hs0 hwf hok hext0 hP hD hS hl
    unfold f_Explorer_meetKept_b124 at h
    have hj0 : j0 < N 4 := Nat.lt_of_lt_of_le hj0 (hok.2.2.2.2 4)
    refine lv_astore_n (lv' := [(1, .ref (ad 9 s0)), (0, .ref (ad 4 j0))]) hx hb d_Explorer_meetKept_124 rfl hl (by decide) rfl (fun ls hl => ?_)
    refine lv_aload_n hx hb d_Explorer_meetKept_125 rfl (lv_at hl 0 rfl) ?_
    refine lv_aload_n hx hb d_Explorer_meetKept_126 rfl (lv_at hl 1 rfl) ?_
    refine g_Explorer_8 hx hb hts hown hK hP hwf hj0 (hts _ u_554) d_Explorer_meetKept_127 ?_
    obtain ⟨j1, e2, h⟩ := bd_ob h
    have hj1 : j1 < N 9 := (hwf.2.1 4 j0 8 _ e2 (by decide) hj0)
    refine me_opt (j := j1) e2 ?_
    obtain ⟨M3, eM3, h⟩ := bd_ob h
    refine me_thenv0 (M1 := M3) (me_runV (C := "FilterGuard$State") (As := [.ref (ad 9 j1)]) (rest := []) ⟨hx, hb, hml, hown, hts⟩ (c_State_copy l D ad ca N M M3 s0 j1 eM3 hwf hs0 hj1 _) rfl (by show fg_nm y_State_copy 1; decide +kernel) u_1074 u_1075 u_1076 u_189 u_1077 ⟨Nat.le_of_ble_eq_true rfl, Nat.le_of_ble_eq_true rfl⟩ hX hz hK hP hD hwf hS hA hs0 (by decide) rfl rfl rfl hl.1 (Nat.le_of_ble_eq_true rfl) d_Explorer_meetKept_130 (al_f hok)) hP hD hK hS hA rfl rfl (fun H locs hw hP hD hS => ?_)
    obtain ⟨hwf, hk9⟩ := hw
    refine lv_aload_n hx hb d_Explorer_meetKept_133 rfl (lv_at hl 0 rfl) ?_
    refine lv_iconst (v := 1) hx hb d_Explorer_meetKept_134 (by decide) ?_
    obtain ⟨M4, eM4, h⟩ := st_ob h
    refine p_State_4 eM4 hx hb hts hown hK hP hD hwf hS hs0 (by decide) (hts _ u_534) d_Explorer_meetKept_135 (fun H locs hP hD hwf hS => ?_)
    refine lv_aload_n hx hb d_Explorer_meetKept_138 rfl (lv_at hl 0 rfl) ?_
    refine lv_aload_n hx hb d_Explorer_meetKept_139 rfl (lv_at hl 1 rfl) ?_
    refine g_Explorer_9 hx hb hts hown hK hP hwf hj0 (hts _ u_555) d_Explorer_meetKept_140 ?_
    obtain ⟨M5, eM5, h⟩ := st_ob h
    refine p_State_3 eM5 hx hb hts hown hK hP hD hwf hS hs0 (hts _ u_533) d_Explorer_meetKept_143 (fun H locs hP hD hwf hS => ?_)
    refine lv_aload_n hx hb d_Explorer_meetKept_146 rfl (lv_at hl 1 rfl) ?_
    refine g_Explorer_3 hx hb hts hown hK hP hwf hj0 (hts _ u_549) d_Explorer_meetKept_147 ?_
    obtain ⟨j6, e7, h⟩ := bd_ob h
    have hj6 : j6 < N 17 := (hwf.2.1 4 j0 3 _ e7 (by decide) hj0)
    refine me_opt (j := j6) e7 ?_
    refine lv_aload_n hx hb d_Explorer_meetKept_150 rfl (lv_at hl 1 rfl) ?_
    refine g_Explorer_11 hx hb hts hown hK hP hwf hj0 (hts _ u_557) d_Explorer_meetKept_151 ?_
    refine lv_aload_n hx hb d_Explorer_meetKept_154 rfl (lv_at hl 0 rfl) ?_
    obtain ⟨g8, h⟩ := gd_ob h
    obtain ⟨M9, eM9, h⟩ := st_ob h
    refine me_aast (k := 17) (t := 9) eM9 hx hb hK hP hD hwf hS hj6 hs0 (by decide) (by decide) (by decide) rfl rfl (fun _ => rfl) g8 d_Explorer_meetKept_155 (fun H locs hP hD hwf hS => ?_)
    refine lv_aload_n hx hb d_Explorer_meetKept_156 rfl (lv_at hl 1 rfl) ?_
    refine lv_dup hx hb d_Explorer_meetKept_157 rfl ?_
    refine g_Explorer_11 hx hb hts hown hK hP hwf hj0 (hts _ u_557) d_Explorer_meetKept_158 ?_
    refine lv_iconst (v := 1) hx hb d_Explorer_meetKept_161 (by decide) ?_
    refine lv_iadd hx hb d_Explorer_meetKept_162 ?_
    obtain ⟨M10, eM10, h⟩ := st_ob h
    refine p_Explorer_11 eM10 hx hb hts hown hK hP hD hwf hS hj0 (hts _ u_557) d_Explorer_meetKept_163 (fun H locs hP hD hwf hS => ?_)
    refine lv_iconst (v := 0) hx hb d_Explorer_meetKept_166 (by decide) ?_
    exact al_reti h hx hb hr hlocks hwf hok hext0 hP hK hD hS d_Explorer_meetKept_167
  have b_2 : ∀ (fu : Nat), ∀ (ad : Nat → Nat → Nat) (N : Nat → Nat) (M : me_M) (y1 : Int32) (H : Heap) (locs : List Loc) (ls : Array Slot), f_Explorer_meetKept_l2 j0 fu M y1 = (some (MZ, RZ)) → me_wf N M → me_ok N0 N → (∀ a b, b < N0 a → ad a b = ad0 a b) → va_P D classes (me_W ad ca M) H → va_D A (me_W ad ca M) → va_S A s.heap H locs → lv_has ls 2 [(0, .ref (ad 4 j0)), (1, .int y1)] → W p l e (rm_Explorer_meetKept N0) s m [.ref (ad0 4 j0)].toArray below meth c H locs (me_cN N - me_cN N0) (me_sN N - me_sN N0) (MQ below (q_Explorer_meetKept D ad0 ca N0 MZ RZ A) [.ref (ad0 4 j0)].toArray s (me_cN (mN MZ) - me_cN N0) (me_sN (mN MZ) - me_sN N0) A) (F0 m 2 ls []) := by
    intro fu
    induction fu with
    | zero =>
      intro ad N M y1 H locs ls h hwf hok hext0 hP hD hS hl
      cases h
    | succ fu ih =>
      intro ad N M y1 H locs ls h hwf hok hext0 hP hD hS hl
      unfold f_Explorer_meetKept_l2 at h
      have hj0 : j0 < N 4 := Nat.lt_of_lt_of_le hj0 (hok.2.2.2.2 4)
      refine lv_iload_n hx hb d_Explorer_meetKept_2 rfl (lv_at hl 1 rfl) ?_
      refine lv_aload_n hx hb d_Explorer_meetKept_3 rfl (lv_at hl 0 rfl) ?_
      refine g_Explorer_11 hx hb hts hown hK hP hwf hj0 (hts _ u_557) d_Explorer_meetKept_4 ?_
      refine lv_icmp_ge (tgt := 83) hx hb d_Explorer_meetKept_7 (by decide) (fun c11 => ?_) (fun c11 => ?_)
      · have h := if_t c11 h
        refine lv_aload_n hx hb d_Explorer_meetKept_83 rfl (lv_at hl 0 rfl) ?_
        refine g_Explorer_11 hx hb hts hown hK hP hwf hj0 (hts _ u_557) d_Explorer_meetKept_84 ?_
        refine lv_sipush (v := 200) hx hb d_Explorer_meetKept_87 (by decide) ?_
        refine lv_icmp_ge (tgt := 166) hx hb d_Explorer_meetKept_90 (by decide) (fun c12 => ?_) (fun c12 => ?_)
        · have h := if_t c12 h
          refine lv_iconst (v := 0) hx hb d_Explorer_meetKept_166 (by decide) ?_
          exact al_reti h hx hb hr hlocks hwf hok hext0 hP hK hD hS d_Explorer_meetKept_167
        have h := if_f c12 h
        refine lv_aload_n hx hb d_Explorer_meetKept_93 rfl (lv_at hl 0 rfl) ?_
        refine g_Explorer_3 hx hb hts hown hK hP hwf hj0 (hts _ u_549) d_Explorer_meetKept_94 ?_
        obtain ⟨j13, e14, h⟩ := bd_ob h
        have hj13 : j13 < N 17 := (hwf.2.1 4 j0 3 _ e14 (by decide) hj0)
        refine me_opt (j := j13) e14 ?_
        refine lv_aload_n hx hb d_Explorer_meetKept_97 rfl (lv_at hl 0 rfl) ?_
        refine g_Explorer_11 hx hb hts hown hK hP hwf hj0 (hts _ u_557) d_Explorer_meetKept_98 ?_
        obtain ⟨g15, h⟩ := gd_ob h
        refine me_aald (k := 17) (t := 9) hx hb hK hP hwf hj13 (by decide) (by decide) rfl (fun _ => rfl) g15 d_Explorer_meetKept_101 ?_
        rcases e17 : (mR M 17 j13 ((mI M 4 j0 11).toNatClampNeg)) with _ | j16
        · have h := oc_n2 e17 h
          refine lv_ifnonnullN hx hb d_Explorer_meetKept_102 ?_
          obtain ⟨g18, h⟩ := gd_ob h
          obtain ⟨M19, eM19, h⟩ := st_ob h
          refine al_new (k := 9) (fs := [.null, .int 0, .int 0, .int 0, .int 0]) (C := "FilterGuard$State") (T := F_State) (Nf := 5) eM19 g18 hx hb hts i_State t_State t_State_ok hown (hts _ u_347) (hts _ u_515) (hts _ u_189) hK hP hD hwf hok hS hA (by decide) rfl (by decide) z_State rfl rfl rfl d_Explorer_meetKept_105 (fun ad N H hext hNN hn20 hwf hok1 hP hD hS => ?_)
          have hext0 := al_ext hext hext0 hok
          have hok := hok1
          have hl : lv_has ls 2 [(0, .ref (ad 4 j0)), (1, .int y1)] := by rw [hext 4 j0 hj0]; exact hl
          have hj0 : j0 < N 4 := Nat.lt_of_lt_of_le hj0 (hNN 4)
          refine lv_dup hx hb d_Explorer_meetKept_108 rfl ?_
          obtain ⟨M21, eM21, h⟩ := bd_ob h
          refine al_thenv (M1 := M21) (al_runI (As := []) (rest := [.ref (ad 9 (mN M 9))]) ⟨hx, hb, hml, hown, hts⟩ (c_State_init l D ad ca N M19 M21 (mN M 9) eM21 hwf ⟨hok.2.2.1, hok.2.2.2.1⟩ hn20 _) rfl (by show fg_nm y_State_init 0; decide +kernel) u_516 u_517 u_189 u_518 ⟨Nat.le_of_ble_eq_true rfl, Nat.le_of_ble_eq_true rfl⟩ hX hz hK hP hD hS hA rfl hl.1 (Nat.le_of_ble_eq_true rfl) d_Explorer_meetKept_109 (al_g hok)) hP hD hok hK hS hA (fun ad N H locs hext hNN hwf hok1 heN hq9 hP hD hS => ?_)
          have hext0 := al_ext hext hext0 hok
          have hok := hok1
          have hl : lv_has ls 2 [(0, .ref (ad 4 j0)), (1, .int y1)] := by rw [hext 4 j0 hj0]; exact hl
          refine W.eq (g2 := F0 m 112 ls [.ref (ad 9 (mN M 9))]) (by rw [hext 9 (mN M 9) hn20]) ?_
          have hj0 : j0 < N 4 := Nat.lt_of_lt_of_le hj0 (hNN 4)
          have hn20 : (mN M 9) < N 9 := Nat.lt_of_lt_of_le hn20 (hNN 9)
          refine lv_goto (tgt := 124) hx hb d_Explorer_meetKept_112 (by decide) ?_
          exact b_124 ad N M21 (mN M 9) _ _ _ h hn20 hwf hok hext0 hP hD hS (lv_sub hl [0] rfl)
        have h := oc_s2 e17 h
        refine lv_ifnonnull (tgt := 115) hx hb d_Explorer_meetKept_102 (by decide) ?_
        refine lv_aload_n hx hb d_Explorer_meetKept_115 rfl (lv_at hl 0 rfl) ?_
        refine g_Explorer_3 hx hb hts hown hK hP hwf hj0 (hts _ u_549) d_Explorer_meetKept_116 ?_
        refine me_opt (j := j13) e14 ?_
        refine lv_aload_n hx hb d_Explorer_meetKept_119 rfl (lv_at hl 0 rfl) ?_
        refine g_Explorer_11 hx hb hts hown hK hP hwf hj0 (hts _ u_557) d_Explorer_meetKept_120 ?_
        refine me_aald (k := 17) (t := 9) hx hb hK hP hwf hj13 (by decide) (by decide) rfl (fun _ => rfl) g15 d_Explorer_meetKept_123 ?_
        obtain ⟨j22, e23, h⟩ := bd_ob h
        have hj22 : j22 < N 9 := (hwf.2.1 17 j13 ((mI M 4 j0 11).toNatClampNeg) _ e23 (by decide) hj13)
        refine me_opt (j := j22) e23 ?_
        exact b_124 ad N M j22 _ _ _ h hj22 hwf hok hext0 hP hD hS (lv_sub hl [0] rfl)
      have h := if_f c11 h
      refine lv_aload_n hx hb d_Explorer_meetKept_10 rfl (lv_at hl 0 rfl) ?_
      refine g_Explorer_3 hx hb hts hown hK hP hwf hj0 (hts _ u_549) d_Explorer_meetKept_11 ?_
      obtain ⟨j24, e25, h⟩ := bd_ob h
      have hj24 : j24 < N 17 := (hwf.2.1 4 j0 3 _ e25 (by decide) hj0)
      refine me_opt (j := j24) e25 ?_
      refine lv_iload_n hx hb d_Explorer_meetKept_14 rfl (lv_at hl 1 rfl) ?_
      obtain ⟨g26, h⟩ := gd_ob h
      refine me_aald (k := 17) (t := 9) hx hb hK hP hwf hj24 (by decide) (by decide) rfl (fun _ => rfl) g26 d_Explorer_meetKept_15 ?_
      obtain ⟨j27, e28, h⟩ := bd_ob h
      have hj27 : j27 < N 9 := (hwf.2.1 17 j24 y1.toNatClampNeg _ e28 (by decide) hj24)
      refine me_opt (j := j27) e28 ?_
      refine g_State_2 hx hb hts hown hK hP hwf hj27 (hts _ u_531) d_Explorer_meetKept_16 ?_
      refine lv_aload_n hx hb d_Explorer_meetKept_19 rfl (lv_at hl 0 rfl) ?_
      refine g_Explorer_8 hx hb hts hown hK hP hwf hj0 (hts _ u_554) d_Explorer_meetKept_20 ?_
      obtain ⟨j29, e30, h⟩ := bd_ob h
      have hj29 : j29 < N 9 := (hwf.2.1 4 j0 8 _ e30 (by decide) hj0)
      refine me_opt (j := j29) e30 ?_
      refine g_State_2 hx hb hts hown hK hP hwf hj29 (hts _ u_531) d_Explorer_meetKept_23 ?_
      refine lv_icmp_ne (tgt := 77) hx hb d_Explorer_meetKept_26 (by decide) (fun c31 => ?_) (fun c31 => ?_)
      · have h := if_f c31 h
        refine lv_iinc (v := y1 + 1) (lv' := [(1, .int (y1 + 1)), (0, .ref (ad 4 j0))]) hx hb d_Explorer_meetKept_77 hl (k := 1) rfl (by rfl) (by decide) rfl (fun ls hl => ?_)
        refine lv_goto (tgt := 2) hx hb d_Explorer_meetKept_80 (by decide) ?_
        exact ih ad N M (y1 + 1) _ _ _ h hwf hok hext0 hP hD hS (lv_sub hl [1, 0] rfl)
      have h := if_t c31 h
      refine lv_aload_n hx hb d_Explorer_meetKept_29 rfl (lv_at hl 0 rfl) ?_
      refine lv_aload_n hx hb d_Explorer_meetKept_30 rfl (lv_at hl 0 rfl) ?_
      refine g_Explorer_3 hx hb hts hown hK hP hwf hj0 (hts _ u_549) d_Explorer_meetKept_31 ?_
      refine me_opt (j := j24) e25 ?_
      refine lv_iload_n hx hb d_Explorer_meetKept_34 rfl (lv_at hl 1 rfl) ?_
      refine me_aald (k := 17) (t := 9) hx hb hK hP hwf hj24 (by decide) (by decide) rfl (fun _ => rfl) g26 d_Explorer_meetKept_35 ?_
      refine me_opt (j := j27) e28 ?_
      obtain ⟨M32, r33, eM32, h⟩ := b2_ob h
      refine me_theni0 (M1 := M32) (me_runV (C := "FilterGuard$Explorer") (As := [.ref (ad 9 j27)]) (rest := []) ⟨hx, hb, hml, hown, hts⟩ (c_Explorer_isWithin l D ad ca N M M32 r33 j0 j27 eM32 hwf hj0 hj27 _) rfl (by show fg_nm y_Explorer_isWithin 1; decide +kernel) u_1049 u_1051 u_14 u_184 u_1052 ⟨Nat.le_of_ble_eq_true rfl, Nat.le_of_ble_eq_true rfl⟩ hX hz hK hP hD hwf hS hA hj0 (by decide) rfl rfl rfl hl.1 (Nat.le_of_ble_eq_true rfl) d_Explorer_meetKept_36 (al_f hok)) hP hD hK hS hA rfl rfl (fun H locs hw hP hD hS => ?_)
      obtain ⟨hwf, hk9, zr33⟩ := hw
      refine lv_if_eq (tgt := 77) hx hb d_Explorer_meetKept_39 (by decide) (fun c34 => ?_) (fun c34 => ?_)
      · have h := if_t c34 h
        refine lv_iinc (v := y1 + 1) (lv' := [(1, .int (y1 + 1)), (0, .ref (ad 4 j0))]) hx hb d_Explorer_meetKept_77 hl (k := 1) rfl (by rfl) (by decide) rfl (fun ls hl => ?_)
        refine lv_goto (tgt := 2) hx hb d_Explorer_meetKept_80 (by decide) ?_
        exact ih ad N M32 (y1 + 1) _ _ _ h hwf hok hext0 hP hD hS (lv_sub hl [1, 0] rfl)
      have h := if_f c34 h
      refine lv_aload_n hx hb d_Explorer_meetKept_42 rfl (lv_at hl 0 rfl) ?_
      refine lv_aload_n hx hb d_Explorer_meetKept_43 rfl (lv_at hl 0 rfl) ?_
      refine g_Explorer_3 hx hb hts hown hK hP hwf hj0 (hts _ u_549) d_Explorer_meetKept_44 ?_
      obtain ⟨j35, e36, h⟩ := bd_ob h
      have hj35 : j35 < N 17 := (hwf.2.1 4 j0 3 _ e36 (by decide) hj0)
      refine me_opt (j := j35) e36 ?_
      refine lv_iload_n hx hb d_Explorer_meetKept_47 rfl (lv_at hl 1 rfl) ?_
      obtain ⟨g37, h⟩ := gd_ob h
      refine me_aald (k := 17) (t := 9) hx hb hK hP hwf hj35 (by decide) (by decide) rfl (fun _ => rfl) g37 d_Explorer_meetKept_48 ?_
      obtain ⟨j38, e39, h⟩ := bd_ob h
      have hj38 : j38 < N 9 := (hwf.2.1 17 j35 y1.toNatClampNeg _ e39 (by decide) hj35)
      refine me_opt (j := j38) e39 ?_
      refine g_State_4 hx hb hts hown hK hP hwf hj38 (hts _ u_534) d_Explorer_meetKept_49 ?_
      have z40 := (hwf.2.2.2 9 j38 4 rfl)
      refine lv_if_ne (tgt := 59) hx hb d_Explorer_meetKept_52 (by decide) (fun c41 => ?_) (fun c41 => ?_)
      · have h := if_f c41 h
        refine lv_iconst (v := 0) hx hb d_Explorer_meetKept_59 (by decide) ?_
        obtain ⟨M42, eM42, h⟩ := st_ob h
        refine p_Explorer_10 eM42 hx hb hts hown hK hP hD hwf hS hj0 (by decide) (hts _ u_556) d_Explorer_meetKept_60 (fun H locs hP hD hwf hS => ?_)
        refine lv_aload_n hx hb d_Explorer_meetKept_63 rfl (lv_at hl 0 rfl) ?_
        refine g_Explorer_10 hx hb hts hown hK hP hwf hj0 (hts _ u_556) d_Explorer_meetKept_64 ?_
        have z43 := (hwf.2.2.2 4 j0 10 rfl)
        refine lv_if_eq (tgt := 74) hx hb d_Explorer_meetKept_67 (by decide) (fun c44 => ?_) (fun c44 => ?_)
        · have h := if_t c44 h
          refine lv_bipush (v := 19) hx hb d_Explorer_meetKept_74 (by decide) ?_
          exact al_reti h hx hb hr hlocks hwf hok hext0 hP hK hD hS d_Explorer_meetKept_76
        have h := if_f c44 h
        refine lv_iconst (v := 0) hx hb d_Explorer_meetKept_70 (by decide) ?_
        refine lv_goto (tgt := 76) hx hb d_Explorer_meetKept_71 (by decide) ?_
        exact al_reti h hx hb hr hlocks hwf hok hext0 hP hK hD hS d_Explorer_meetKept_76
      have h := if_t c41 h
      refine lv_iconst (v := 1) hx hb d_Explorer_meetKept_55 (by decide) ?_
      refine lv_goto (tgt := 60) hx hb d_Explorer_meetKept_56 (by decide) ?_
      obtain ⟨M45, eM45, h⟩ := st_ob h
      refine p_Explorer_10 eM45 hx hb hts hown hK hP hD hwf hS hj0 (by decide) (hts _ u_556) d_Explorer_meetKept_60 (fun H locs hP hD hwf hS => ?_)
      refine lv_aload_n hx hb d_Explorer_meetKept_63 rfl (lv_at hl 0 rfl) ?_
      refine g_Explorer_10 hx hb hts hown hK hP hwf hj0 (hts _ u_556) d_Explorer_meetKept_64 ?_
      have z46 := (hwf.2.2.2 4 j0 10 rfl)
      refine lv_if_eq (tgt := 74) hx hb d_Explorer_meetKept_67 (by decide) (fun c47 => ?_) (fun c47 => ?_)
      · have h := if_t c47 h
        refine lv_bipush (v := 19) hx hb d_Explorer_meetKept_74 (by decide) ?_
        exact al_reti h hx hb hr hlocks hwf hok hext0 hP hK hD hS d_Explorer_meetKept_76
      have h := if_f c47 h
      refine lv_iconst (v := 0) hx hb d_Explorer_meetKept_70 (by decide) ?_
      refine lv_goto (tgt := 76) hx hb d_Explorer_meetKept_71 (by decide) ?_
      exact al_reti h hx hb hr hlocks hwf hok hext0 hP hK hD hS d_Explorer_meetKept_76
  obtain ⟨ad, N, hext0, hok, hwf, hP, hD, hN9, had9, hj0⟩ : ∃ (ad : Nat → Nat → Nat) (N : Nat → Nat), (∀ a b, b < N0 a → ad a b = ad0 a b) ∧ me_ok N0 N ∧ me_wf N M0 ∧ va_P D classes (me_W ad ca M0) s.heap ∧ va_D A (me_W ad ca M0) ∧ N = N0 ∧ ad = ad0 ∧ j0 < N 4 := ⟨ad0, N0, fun _ _ _ => rfl, hok, hwf, hP, hD, rfl, rfl, hj0⟩
  have hl : lv_has ls 2 [(0, .ref (ad 4 j0))] := by rw [had9]; exact hl
  have hcs : W p l e (rm_Explorer_meetKept N0) s m [.ref (ad0 4 j0)].toArray below meth c s.heap [] (me_cN N - me_cN N0) (me_sN N - me_sN N0) (MQ below (q_Explorer_meetKept D ad0 ca N0 MZ RZ A) [.ref (ad0 4 j0)].toArray s (me_cN (mN MZ) - me_cN N0) (me_sN (mN MZ) - me_sN N0) A) (F0 m 0 ls []) := by
    clear had9
    refine lv_iconst (v := 0) hx hb d_Explorer_meetKept_0 (by decide) ?_
    refine lv_istore_n (lv' := [(1, .int 0), (0, .ref (ad 4 j0))]) hx hb d_Explorer_meetKept_1 rfl hl (by decide) rfl (fun ls hl => ?_)
    exact b_2 _ ad N M0 (0 : Int32) _ _ _ h hwf hok hext0 hP hD hS (lv_sub hl [1, 0] rfl)
  rw [hN9] at hcs
  exact hcs
theorem d_Facts_visit_0 : decode prog_6_method_3_code 0 = .ok (.aload_n 0, 1) := by decide +kernel
theorem d_Facts_visit_1 : decode prog_6_method_3_code 1 = .ok (.getfield 9, 3) := by decide +kernel
theorem d_Facts_visit_4 : decode prog_6_method_3_code 4 = .ok (.iload_n 1, 1) := by decide +kernel
theorem d_Facts_visit_5 : decode prog_6_method_3_code 5 = .ok (.dup2, 1) := by decide +kernel
theorem d_Facts_visit_6 : decode prog_6_method_3_code 6 = .ok (.iaload, 1) := by decide +kernel
theorem d_Facts_visit_7 : decode prog_6_method_3_code 7 = .ok (.iconst 1, 1) := by decide +kernel
theorem d_Facts_visit_8 : decode prog_6_method_3_code 8 = .ok (.iadd, 1) := by decide +kernel
theorem d_Facts_visit_9 : decode prog_6_method_3_code 9 = .ok (.iastore, 1) := by decide +kernel
theorem d_Facts_visit_10 : decode prog_6_method_3_code 10 = .ok (.return_, 1) := by decide +kernel
abbrev y_Facts_visit : MethodName := ⟨"FilterGuard$Facts", "visit", "(I)V"⟩
def rm_Facts_visit : Room := { frames := 1, cells := 0, slots := 0, locals := 20 }
abbrev q_Facts_visit (D : va_G) (ad : Nat → Nat → Nat) (ca : Nat → ClassId) (N : Nat → Nat) (M0 MZ : me_M) (A : Nat → Prop) : Array Value → Jvm.State → Outcome → Jvm.State → Prop := va_Qv (fun (_ : Unit) => me_wf N MZ ∧ me_kp M0 MZ) (fg_B D A (fun _ => me_W ad ca MZ) (fun _ => [])) A
set_option maxHeartbeats 4000000 in
set_option maxRecDepth 100000 in
theorem c_Facts_visit (l : Launch) (D : va_G) (ad : Nat → Nat → Nat) (ca : Nat → ClassId) (N : Nat → Nat) (M0 MZ : me_M) (j0 : Nat) (x1 : Int32) (h : f_Facts_visit M0 j0 x1 = (some MZ)) (hwf : me_wf N M0) (hj0 : j0 < N 3) (sz : Nat) : Met l y_Facts_visit (fg_w y_Facts_visit prog_6_method_3_code 2 none) rm_Facts_visit (va_Pc [.ref (ad 3 j0), .int x1] (fz_P D (me_T ca) (me_W ad ca M0) sz)) (q_Facts_visit D ad ca N M0 MZ (va_A (me_W ad ca M0) sz)) rm_Facts_visit.cells rm_Facts_visit.slots (va_A (me_W ad ca M0) sz) := by
  refine fz_enter (fun A => q_Facts_visit D ad ca N M0 MZ A) (by decide +kernel) (Nat.le_of_ble_eq_true rfl) ?_
  intro p e s m below meth c ls A hx hb hml hown hts hr hlocks hin hP hK hD hS hA hX hl hz
  have hl : lv_has ls 2 [(0, .ref (ad 3 j0)), (1, .int x1)] := hl
  unfold f_Facts_visit at h
  have hkp : me_kp M0 M0 := me_kp.rf
  have hkb := hkp
  refine lv_aload_n hx hb d_Facts_visit_0 rfl (lv_at hl 0 rfl) ?_
  refine g_Facts_0 hx hb hts hown hK hP hwf hj0 (hts _ u_318) d_Facts_visit_1 ?_
  obtain ⟨j1, e2, h⟩ := bd_ob h
  have hj1 : j1 < N 13 := (hwf.2.1 3 j0 0 _ e2 (by decide) hj0)
  refine me_opt (j := j1) e2 ?_
  refine lv_iload_n hx hb d_Facts_visit_4 rfl (lv_at hl 1 rfl) ?_
  refine lv_dup2_11 hx hb d_Facts_visit_5 rfl rfl ?_
  obtain ⟨g3, h⟩ := gd_ob h
  refine me_iald hx hb hK hP hwf hj1 g3 d_Facts_visit_6 ?_
  refine lv_iconst (v := 1) hx hb d_Facts_visit_7 (by decide) ?_
  refine lv_iadd hx hb d_Facts_visit_8 ?_
  obtain ⟨M4, eM4, h⟩ := st_ob h
  refine me_iast eM4 hx hb hK hP hD hwf hS hj1 g3 d_Facts_visit_9 (fun H locs hP hD hwf hS => ?_)
  have hkp := kp_I eM4 hkp
  exact me_retv (me_kp M0) h hx hb hr hlocks hwf hkp hP hK hD hS d_Facts_visit_10
theorem d_Code_wideNumber_0 : decode prog_4_method_9_code 0 = .ok (.iload_n 1, 1) := by decide +kernel
theorem d_Code_wideNumber_1 : decode prog_4_method_9_code 1 = .ok (.iconst 1, 1) := by decide +kernel
theorem d_Code_wideNumber_2 : decode prog_4_method_9_code 2 = .ok (.iadd, 1) := by decide +kernel
theorem d_Code_wideNumber_3 : decode prog_4_method_9_code 3 = .ok (.aload_n 0, 1) := by decide +kernel
theorem d_Code_wideNumber_4 : decode prog_4_method_9_code 4 = .ok (.getfield 22, 3) := by decide +kernel
theorem d_Code_wideNumber_7 : decode prog_4_method_9_code 7 = .ok (.if_icmp .ge 18, 3) := by decide +kernel
theorem d_Code_wideNumber_25 : decode prog_4_method_9_code 25 = .ok (.lconst 0, 1) := by decide +kernel
theorem d_Code_wideNumber_26 : decode prog_4_method_9_code 26 = .ok (.lstore_n 2, 1) := by decide +kernel
theorem d_Code_wideNumber_27 : decode prog_4_method_9_code 27 = .ok (.lload_n 2, 1) := by decide +kernel
theorem d_Code_wideNumber_28 : decode prog_4_method_9_code 28 = .ok (.aload_n 0, 1) := by decide +kernel
theorem d_Code_wideNumber_29 : decode prog_4_method_9_code 29 = .ok (.getfield 41, 3) := by decide +kernel
theorem d_Code_wideNumber_32 : decode prog_4_method_9_code 32 = .ok (.i2l, 1) := by decide +kernel
theorem d_Code_wideNumber_33 : decode prog_4_method_9_code 33 = .ok (.ldc2_w 86, 3) := by decide +kernel
theorem d_Code_wideNumber_36 : decode prog_4_method_9_code 36 = .ok (.land, 1) := by decide +kernel
theorem d_Code_wideNumber_37 : decode prog_4_method_9_code 37 = .ok (.lor, 1) := by decide +kernel
theorem d_Code_wideNumber_38 : decode prog_4_method_9_code 38 = .ok (.lreturn, 1) := by decide +kernel
theorem d_Code_wideNumber_10 : decode prog_4_method_9_code 10 = .ok (.aload_n 0, 1) := by decide +kernel
theorem d_Code_wideNumber_11 : decode prog_4_method_9_code 11 = .ok (.getfield 9, 3) := by decide +kernel
theorem d_Code_wideNumber_14 : decode prog_4_method_9_code 14 = .ok (.iload_n 1, 1) := by decide +kernel
theorem d_Code_wideNumber_15 : decode prog_4_method_9_code 15 = .ok (.iconst 1, 1) := by decide +kernel
theorem d_Code_wideNumber_16 : decode prog_4_method_9_code 16 = .ok (.iadd, 1) := by decide +kernel
theorem d_Code_wideNumber_17 : decode prog_4_method_9_code 17 = .ok (.laload, 1) := by decide +kernel
theorem d_Code_wideNumber_18 : decode prog_4_method_9_code 18 = .ok (.ldc2_w 84, 3) := by decide +kernel
theorem u_1103 : Cond.constantLong "FilterGuard$Code" 84 (-4294967296) ∈ fg_g := fg_in (List.mem_of_getElem? (i := 1103) (by decide +kernel)) rfl
theorem d_Code_wideNumber_21 : decode prog_4_method_9_code 21 = .ok (.land, 1) := by decide +kernel
theorem d_Code_wideNumber_22 : decode prog_4_method_9_code 22 = .ok (.goto 4, 3) := by decide +kernel
abbrev y_Code_wideNumber : MethodName := ⟨"FilterGuard$Code", "wideNumber", "(I)J"⟩
def rm_Code_wideNumber : Room := { frames := 1, cells := 0, slots := 0, locals := 20 }
abbrev q_Code_wideNumber (D : va_G) (ad : Nat → Nat → Nat) (ca : Nat → ClassId) (N : Nat → Nat) (M0 MZ : me_M) (RZ : Int64) (A : Nat → Prop) : Array Value → Jvm.State → Outcome → Jvm.State → Prop := va_Ql (fun r (_ : Unit) => r = RZ ∧ me_wf N MZ ∧ me_kp M0 MZ) (fg_B D A (fun _ => me_W ad ca MZ) (fun _ => [])) A
set_option maxHeartbeats 4000000 in
set_option maxRecDepth 100000 in
theorem c_Code_wideNumber (l : Launch) (D : va_G) (ad : Nat → Nat → Nat) (ca : Nat → ClassId) (N : Nat → Nat) (M0 MZ : me_M) (RZ : Int64) (j0 : Nat) (x1 : Int32) (h : f_Code_wideNumber M0 j0 x1 = (some (MZ, RZ))) (hwf : me_wf N M0) (hj0 : j0 < N 2) (sz : Nat) : Met l y_Code_wideNumber (fg_w y_Code_wideNumber prog_4_method_9_code 4 (some .long)) rm_Code_wideNumber (va_Pc [.ref (ad 2 j0), .int x1] (fz_P D (me_T ca) (me_W ad ca M0) sz)) (q_Code_wideNumber D ad ca N M0 MZ RZ (va_A (me_W ad ca M0) sz)) rm_Code_wideNumber.cells rm_Code_wideNumber.slots (va_A (me_W ad ca M0) sz) := by
  refine fz_enter (fun A => q_Code_wideNumber D ad ca N M0 MZ RZ A) (by decide +kernel) (Nat.le_of_ble_eq_true rfl) ?_
  intro p e s m below meth c ls A hx hb hml hown hts hr hlocks hin hP hK hD hS hA hX hl hz
  have hl : lv_has ls 4 [(0, .ref (ad 2 j0)), (1, .int x1)] := hl
  unfold f_Code_wideNumber at h
  have hkp : me_kp M0 M0 := me_kp.rf
  have hkb := hkp
  refine lv_iload_n hx hb d_Code_wideNumber_0 rfl (lv_at hl 1 rfl) ?_
  refine lv_iconst (v := 1) hx hb d_Code_wideNumber_1 (by decide) ?_
  refine lv_iadd hx hb d_Code_wideNumber_2 ?_
  refine lv_aload_n hx hb d_Code_wideNumber_3 rfl (lv_at hl 0 rfl) ?_
  refine g_Code_3 hx hb hts hown hK hP hwf hj0 (hts _ u_226) d_Code_wideNumber_4 ?_
  refine lv_icmp_ge (tgt := 25) hx hb d_Code_wideNumber_7 (by decide) (fun c1 => ?_) (fun c1 => ?_)
  · have h := if_t c1 h
    refine lv_lconst (v := 0) hx hb d_Code_wideNumber_25 (by decide) ?_
    refine lv_lstore_n (lv' := [(2, .long 0), (0, .ref (ad 2 j0)), (1, .int x1)]) hx hb d_Code_wideNumber_26 rfl hl (by decide) rfl (fun ls hl => ?_)
    refine lv_lload_n hx hb d_Code_wideNumber_27 rfl (lv_at hl 0 rfl) ?_
    refine lv_aload_n hx hb d_Code_wideNumber_28 rfl (lv_at hl 1 rfl) ?_
    refine g_Code_9 hx hb hts hown hK hP hwf hj0 (hts _ u_247) d_Code_wideNumber_29 ?_
    refine lv_i2l (v := (mI M0 2 j0 9).toInt64) hx hb d_Code_wideNumber_32 rfl ?_
    refine lv_ldc2 hx hb hown (hts _ u_987) d_Code_wideNumber_33 ?_
    refine lv_land hx hb d_Code_wideNumber_36 ?_
    refine lv_lor hx hb d_Code_wideNumber_37 ?_
    exact me_retl (me_kp M0) h hx hb hr hlocks hwf hkp hP hK hD hS d_Code_wideNumber_38
  have h := if_f c1 h
  refine lv_aload_n hx hb d_Code_wideNumber_10 rfl (lv_at hl 0 rfl) ?_
  refine g_Code_0 hx hb hts hown hK hP hwf hj0 (hts _ u_220) d_Code_wideNumber_11 ?_
  obtain ⟨j2, e3, h⟩ := bd_ob h
  have hj2 : j2 < N 16 := (hwf.2.1 2 j0 0 _ e3 (by decide) hj0)
  refine me_opt (j := j2) e3 ?_
  refine lv_iload_n hx hb d_Code_wideNumber_14 rfl (lv_at hl 1 rfl) ?_
  refine lv_iconst (v := 1) hx hb d_Code_wideNumber_15 (by decide) ?_
  refine lv_iadd hx hb d_Code_wideNumber_16 ?_
  obtain ⟨g4, h⟩ := gd_ob h
  refine me_lald hx hb hK hP hwf hj2 g4 d_Code_wideNumber_17 ?_
  refine lv_ldc2 hx hb hown (hts _ u_1103) d_Code_wideNumber_18 ?_
  refine lv_land hx hb d_Code_wideNumber_21 ?_
  refine lv_goto (tgt := 26) hx hb d_Code_wideNumber_22 (by decide) ?_
  obtain ⟨v5, ev5, h⟩ := st_ob h
  refine fg_topl (y := v5) ev5.symm ?_
  refine lv_lstore_n (lv' := [(2, .long v5), (0, .ref (ad 2 j0)), (1, .int x1)]) hx hb d_Code_wideNumber_26 rfl hl (by decide) rfl (fun ls hl => ?_)
  refine lv_lload_n hx hb d_Code_wideNumber_27 rfl (lv_at hl 0 rfl) ?_
  refine lv_aload_n hx hb d_Code_wideNumber_28 rfl (lv_at hl 1 rfl) ?_
  refine g_Code_9 hx hb hts hown hK hP hwf hj0 (hts _ u_247) d_Code_wideNumber_29 ?_
  refine lv_i2l (v := (mI M0 2 j0 9).toInt64) hx hb d_Code_wideNumber_32 rfl ?_
  refine lv_ldc2 hx hb hown (hts _ u_987) d_Code_wideNumber_33 ?_
  refine lv_land hx hb d_Code_wideNumber_36 ?_
  refine lv_lor hx hb d_Code_wideNumber_37 ?_
  exact me_retl (me_kp M0) h hx hb hr hlocks hwf hkp hP hK hD hS d_Code_wideNumber_38
theorem d_Cell_becomeExact_0 : decode prog_2_method_4_code 0 = .ok (.aload_n 0, 1) := by decide +kernel
theorem d_Cell_becomeExact_1 : decode prog_2_method_4_code 1 = .ok (.iconst 1, 1) := by decide +kernel
theorem d_Cell_becomeExact_2 : decode prog_2_method_4_code 2 = .ok (.putfield 18, 3) := by decide +kernel
theorem d_Cell_becomeExact_5 : decode prog_2_method_4_code 5 = .ok (.aload_n 0, 1) := by decide +kernel
theorem d_Cell_becomeExact_6 : decode prog_2_method_4_code 6 = .ok (.getfield 12, 3) := by decide +kernel
theorem d_Cell_becomeExact_9 : decode prog_2_method_4_code 9 = .ok (.lload_n 1, 1) := by decide +kernel
theorem d_Cell_becomeExact_10 : decode prog_2_method_4_code 10 = .ok (.invokevirtual 41, 3) := by decide +kernel
theorem d_Cell_becomeExact_13 : decode prog_2_method_4_code 13 = .ok (.return_, 1) := by decide +kernel
abbrev y_Cell_becomeExact : MethodName := ⟨"FilterGuard$Cell", "becomeExact", "(J)V"⟩
def rm_Cell_becomeExact : Room := { frames := 2, cells := 0, slots := 0, locals := 42 }
abbrev q_Cell_becomeExact (D : va_G) (ad : Nat → Nat → Nat) (ca : Nat → ClassId) (N : Nat → Nat) (M0 MZ : me_M) (A : Nat → Prop) : Array Value → Jvm.State → Outcome → Jvm.State → Prop := va_Qv (fun (_ : Unit) => me_wf N MZ ∧ me_kp M0 MZ) (fg_B D A (fun _ => me_W ad ca MZ) (fun _ => [])) A
set_option maxHeartbeats 4000000 in
set_option maxRecDepth 100000 in
theorem c_Cell_becomeExact (l : Launch) (D : va_G) (ad : Nat → Nat → Nat) (ca : Nat → ClassId) (N : Nat → Nat) (M0 MZ : me_M) (j0 : Nat) (x1 : Int64) (h : f_Cell_becomeExact M0 j0 x1 = (some MZ)) (hwf : me_wf N M0) (hj0 : j0 < N 10) (sz : Nat) : Met l y_Cell_becomeExact (fg_w y_Cell_becomeExact prog_2_method_4_code 3 none) rm_Cell_becomeExact (va_Pc [.ref (ad 10 j0), .long x1] (fz_P D (me_T ca) (me_W ad ca M0) sz)) (q_Cell_becomeExact D ad ca N M0 MZ (va_A (me_W ad ca M0) sz)) rm_Cell_becomeExact.cells rm_Cell_becomeExact.slots (va_A (me_W ad ca M0) sz) := by
  refine fz_enter (fun A => q_Cell_becomeExact D ad ca N M0 MZ A) (by decide +kernel) (Nat.le_of_ble_eq_true rfl) ?_
  intro p e s m below meth c ls A hx hb hml hown hts hr hlocks hin hP hK hD hS hA hX hl hz
  have hl : lv_has ls 3 [(0, .ref (ad 10 j0)), (1, .long x1)] := hl
  unfold f_Cell_becomeExact at h
  have hkp : me_kp M0 M0 := me_kp.rf
  have hkb := hkp
  refine lv_aload_n hx hb d_Cell_becomeExact_0 rfl (lv_at hl 0 rfl) ?_
  refine lv_iconst (v := 1) hx hb d_Cell_becomeExact_1 (by decide) ?_
  obtain ⟨M1, eM1, h⟩ := st_ob h
  refine p_Cell_0 eM1 hx hb hts hown hK hP hD hwf hS hj0 (hts _ u_420) d_Cell_becomeExact_2 (fun H locs hP hD hwf hS => ?_)
  have hkp := kp_I eM1 hkp
  refine lv_aload_n hx hb d_Cell_becomeExact_5 rfl (lv_at hl 0 rfl) ?_
  refine g_Cell_6 hx hb hts hown hK hP hwf hj0 (hts _ u_435) d_Cell_becomeExact_6 ?_
  obtain ⟨j2, e3, h⟩ := bd_ob h
  have hj2 : j2 < N 11 := (hwf.2.1 10 j0 6 _ (kp_r hkb hkp e3) (by decide) hj0)
  refine me_opt (j := j2) (kp_r hkb hkp e3) ?_
  refine lv_lload_n hx hb d_Cell_becomeExact_9 rfl (lv_at hl 1 rfl) ?_
  obtain ⟨M4, eM4, h⟩ := bd_ob h
  refine me_thenv0 (M1 := M4) (me_runV (C := "FilterGuard$Num") (As := [.long x1]) (rest := []) ⟨hx, hb, hml, hown, hts⟩ (c_Num_exact l D ad ca N M1 M4 j2 x1 eM4 hwf hj2 _) rfl (by show fg_nm y_Num_exact 1; decide +kernel) u_1036 u_1037 u_1038 u_187 u_1039 ⟨Nat.le_of_ble_eq_true rfl, Nat.le_of_ble_eq_true rfl⟩ hX hz hK hP hD hwf hS hA hj2 (by decide) rfl rfl rfl hl.1 (Nat.le_of_ble_eq_true rfl) d_Cell_becomeExact_10 ⟨Nat.le_of_ble_eq_true rfl, Nat.le_of_ble_eq_true rfl⟩) hP hD hK hS hA rfl rfl (fun H locs hw hP hD hS => ?_)
  obtain ⟨hwf, hk9⟩ := hw
  have hkp := hkp.tr hk9
  exact me_retv (me_kp M0) h hx hb hr hlocks hwf hkp hP hK hD hS d_Cell_becomeExact_13
theorem d_Steps_wide_0 : decode prog_11_method_4_code 0 = .ok (.aload_n 0, 1) := by decide +kernel
theorem d_Steps_wide_1 : decode prog_11_method_4_code 1 = .ok (.getfield 44, 3) := by decide +kernel
theorem g_Steps_0 {p : Program} {l : Launch} {e : Env} {R : Room} {s : Jvm.State} {m : MethodId} {args : Array Value} {below : List Frame} {meth : Method} {c : Code} {H : Heap} {locs : List Loc} {cells slots : Nat} {Q : Jvm.State → Prop} {cc : ByteArray} {pc : Nat} {ls : Array Slot} {rest : List Value} {D : va_G} {ad : Nat → Nat → Nat} {ca : Nat → ClassId} {M : me_M} {N : Nat → Nat} {own : String} {index j : Nat} (hexec : p.tables.exec = Jvm.exec) (hb : c.code = cc) (hts : ∀ w ∈ fg_g, w.before args s = true) (hown : s.vm.findClass own = some m.cls) (hK : va_K D classes (me_T ca) s) (hP : va_P D classes (me_W ad ca M) H) (hwf : me_wf N M) (hj : j < N 7) (hlink : (Cond.fieldLink own index "FilterGuard$Steps" "code" "LFilterGuard$Code;").before args s = true) (hdg : decode cc pc = .ok (.getfield index, 3)) (kk : W p l e R s m args below meth c H locs cells slots Q (F0 m (pc + 3) ls (va_rf ((mR M 7 j 0).map (ad 2)) :: rest))) : W p l e R s m args below meth c H locs cells slots Q (F0 m pc ls (.ref (ad 7 j) :: rest)) := me_get (k := 7) (f := 0) (C := "FilterGuard$Steps") (T := F_Steps) (Nf := 19) hexec hb hts i_Steps hown hK hP hwf hj (by decide) rfl (by decide) (by decide) hlink (fun _ h9 => h9) hdg kk
theorem d_Steps_wide_4 : decode prog_11_method_4_code 4 = .ok (.getfield 82, 3) := by decide +kernel
theorem u_239 : Cond.fieldLink "FilterGuard$Steps" 82 "FilterGuard$Code" "from" "I" ∈ fg_g := fg_in (List.mem_of_getElem? (i := 239) (by decide +kernel)) rfl
theorem d_Steps_wide_7 : decode prog_11_method_4_code 7 = .ok (.ifCond .ne 35, 3) := by decide +kernel
theorem d_Steps_wide_42 : decode prog_11_method_4_code 42 = .ok (.aload_n 0, 1) := by decide +kernel
theorem d_Steps_wide_43 : decode prog_11_method_4_code 43 = .ok (.getfield 66, 3) := by decide +kernel
theorem u_460 : Cond.fieldLink "FilterGuard$Steps" 66 "FilterGuard$Steps" "cells" "[LFilterGuard$Cell;" ∈ fg_g := fg_in (List.mem_of_getElem? (i := 460) (by decide +kernel)) rfl
theorem g_Steps_5 {p : Program} {l : Launch} {e : Env} {R : Room} {s : Jvm.State} {m : MethodId} {args : Array Value} {below : List Frame} {meth : Method} {c : Code} {H : Heap} {locs : List Loc} {cells slots : Nat} {Q : Jvm.State → Prop} {cc : ByteArray} {pc : Nat} {ls : Array Slot} {rest : List Value} {D : va_G} {ad : Nat → Nat → Nat} {ca : Nat → ClassId} {M : me_M} {N : Nat → Nat} {own : String} {index j : Nat} (hexec : p.tables.exec = Jvm.exec) (hb : c.code = cc) (hts : ∀ w ∈ fg_g, w.before args s = true) (hown : s.vm.findClass own = some m.cls) (hK : va_K D classes (me_T ca) s) (hP : va_P D classes (me_W ad ca M) H) (hwf : me_wf N M) (hj : j < N 7) (hlink : (Cond.fieldLink own index "FilterGuard$Steps" "cells" "[LFilterGuard$Cell;").before args s = true) (hdg : decode cc pc = .ok (.getfield index, 3)) (kk : W p l e R s m args below meth c H locs cells slots Q (F0 m (pc + 3) ls (va_rf ((mR M 7 j 5).map (ad 18)) :: rest))) : W p l e R s m args below meth c H locs cells slots Q (F0 m pc ls (.ref (ad 7 j) :: rest)) := me_get (k := 7) (f := 5) (C := "FilterGuard$Steps") (T := F_Steps) (Nf := 19) hexec hb hts i_Steps hown hK hP hwf hj (by decide) rfl (by decide) (by decide) hlink (fun _ h9 => h9) hdg kk
theorem d_Steps_wide_46 : decode prog_11_method_4_code 46 = .ok (.aload_n 0, 1) := by decide +kernel
theorem d_Steps_wide_47 : decode prog_11_method_4_code 47 = .ok (.getfield 44, 3) := by decide +kernel
theorem d_Steps_wide_50 : decode prog_11_method_4_code 50 = .ok (.getfield 73, 3) := by decide +kernel
theorem u_232 : Cond.fieldLink "FilterGuard$Steps" 73 "FilterGuard$Code" "to" "I" ∈ fg_g := fg_in (List.mem_of_getElem? (i := 232) (by decide +kernel)) rfl
theorem d_Steps_wide_53 : decode prog_11_method_4_code 53 = .ok (.aaload, 1) := by decide +kernel
theorem d_Steps_wide_54 : decode prog_11_method_4_code 54 = .ok (.bipush 6, 2) := by decide +kernel
theorem d_Steps_wide_56 : decode prog_11_method_4_code 56 = .ok (.iconst 0, 1) := by decide +kernel
theorem d_Steps_wide_57 : decode prog_11_method_4_code 57 = .ok (.invokevirtual 115, 3) := by decide +kernel
theorem u_1108 : Cond.methodLink "FilterGuard$Steps" 115 ⟨"FilterGuard$Cell", "become", "(II)V"⟩ ∈ fg_g := fg_in (List.mem_of_getElem? (i := 1108) (by decide +kernel)) rfl
theorem d_Steps_wide_60 : decode prog_11_method_4_code 60 = .ok (.aload_n 0, 1) := by decide +kernel
theorem d_Steps_wide_61 : decode prog_11_method_4_code 61 = .ok (.getfield 66, 3) := by decide +kernel
theorem d_Steps_wide_64 : decode prog_11_method_4_code 64 = .ok (.aload_n 0, 1) := by decide +kernel
theorem d_Steps_wide_65 : decode prog_11_method_4_code 65 = .ok (.getfield 44, 3) := by decide +kernel
theorem d_Steps_wide_68 : decode prog_11_method_4_code 68 = .ok (.getfield 73, 3) := by decide +kernel
theorem d_Steps_wide_71 : decode prog_11_method_4_code 71 = .ok (.aaload, 1) := by decide +kernel
theorem d_Steps_wide_72 : decode prog_11_method_4_code 72 = .ok (.aload_n 0, 1) := by decide +kernel
theorem d_Steps_wide_73 : decode prog_11_method_4_code 73 = .ok (.getfield 44, 3) := by decide +kernel
theorem d_Steps_wide_76 : decode prog_11_method_4_code 76 = .ok (.getfield 119, 3) := by decide +kernel
theorem u_248 : Cond.fieldLink "FilterGuard$Steps" 119 "FilterGuard$Code" "field" "I" ∈ fg_g := fg_in (List.mem_of_getElem? (i := 248) (by decide +kernel)) rfl
theorem d_Steps_wide_79 : decode prog_11_method_4_code 79 = .ok (.putfield 122, 3) := by decide +kernel
theorem u_427 : Cond.fieldLink "FilterGuard$Steps" 122 "FilterGuard$Cell" "mapNumber" "I" ∈ fg_g := fg_in (List.mem_of_getElem? (i := 427) (by decide +kernel)) rfl
theorem d_Steps_wide_82 : decode prog_11_method_4_code 82 = .ok (.iconst 0, 1) := by decide +kernel
theorem d_Steps_wide_83 : decode prog_11_method_4_code 83 = .ok (.ireturn, 1) := by decide +kernel
theorem d_Steps_wide_10 : decode prog_11_method_4_code 10 = .ok (.aload_n 0, 1) := by decide +kernel
theorem d_Steps_wide_11 : decode prog_11_method_4_code 11 = .ok (.getfield 66, 3) := by decide +kernel
theorem d_Steps_wide_14 : decode prog_11_method_4_code 14 = .ok (.aload_n 0, 1) := by decide +kernel
theorem d_Steps_wide_15 : decode prog_11_method_4_code 15 = .ok (.getfield 44, 3) := by decide +kernel
theorem d_Steps_wide_18 : decode prog_11_method_4_code 18 = .ok (.getfield 73, 3) := by decide +kernel
theorem d_Steps_wide_21 : decode prog_11_method_4_code 21 = .ok (.aaload, 1) := by decide +kernel
theorem d_Steps_wide_22 : decode prog_11_method_4_code 22 = .ok (.aload_n 0, 1) := by decide +kernel
theorem d_Steps_wide_23 : decode prog_11_method_4_code 23 = .ok (.getfield 44, 3) := by decide +kernel
theorem d_Steps_wide_26 : decode prog_11_method_4_code 26 = .ok (.aload_n 0, 1) := by decide +kernel
theorem d_Steps_wide_27 : decode prog_11_method_4_code 27 = .ok (.getfield 56, 3) := by decide +kernel
theorem u_461 : Cond.fieldLink "FilterGuard$Steps" 56 "FilterGuard$Steps" "state" "LFilterGuard$State;" ∈ fg_g := fg_in (List.mem_of_getElem? (i := 461) (by decide +kernel)) rfl
theorem g_Steps_6 {p : Program} {l : Launch} {e : Env} {R : Room} {s : Jvm.State} {m : MethodId} {args : Array Value} {below : List Frame} {meth : Method} {c : Code} {H : Heap} {locs : List Loc} {cells slots : Nat} {Q : Jvm.State → Prop} {cc : ByteArray} {pc : Nat} {ls : Array Slot} {rest : List Value} {D : va_G} {ad : Nat → Nat → Nat} {ca : Nat → ClassId} {M : me_M} {N : Nat → Nat} {own : String} {index j : Nat} (hexec : p.tables.exec = Jvm.exec) (hb : c.code = cc) (hts : ∀ w ∈ fg_g, w.before args s = true) (hown : s.vm.findClass own = some m.cls) (hK : va_K D classes (me_T ca) s) (hP : va_P D classes (me_W ad ca M) H) (hwf : me_wf N M) (hj : j < N 7) (hlink : (Cond.fieldLink own index "FilterGuard$Steps" "state" "LFilterGuard$State;").before args s = true) (hdg : decode cc pc = .ok (.getfield index, 3)) (kk : W p l e R s m args below meth c H locs cells slots Q (F0 m (pc + 3) ls (va_rf ((mR M 7 j 6).map (ad 9)) :: rest))) : W p l e R s m args below meth c H locs cells slots Q (F0 m pc ls (.ref (ad 7 j) :: rest)) := me_get (k := 7) (f := 6) (C := "FilterGuard$Steps") (T := F_Steps) (Nf := 19) hexec hb hts i_Steps hown hK hP hwf hj (by decide) rfl (by decide) (by decide) hlink (fun _ h9 => h9) hdg kk
theorem d_Steps_wide_30 : decode prog_11_method_4_code 30 = .ok (.getfield 104, 3) := by decide +kernel
theorem u_532 : Cond.fieldLink "FilterGuard$Steps" 104 "FilterGuard$State" "at" "I" ∈ fg_g := fg_in (List.mem_of_getElem? (i := 532) (by decide +kernel)) rfl
theorem d_Steps_wide_33 : decode prog_11_method_4_code 33 = .ok (.invokevirtual 107, 3) := by decide +kernel
theorem u_1099 : Cond.methodLink "FilterGuard$Steps" 107 ⟨"FilterGuard$Code", "wideNumber", "(I)J"⟩ ∈ fg_g := fg_in (List.mem_of_getElem? (i := 1099) (by decide +kernel)) rfl
theorem u_1102 : Cond.code ⟨"FilterGuard$Code", "wideNumber", "(I)J"⟩ prog_4_method_9_code 4 (some .long) ∈ fg_g := fg_in (List.mem_of_getElem? (i := 1102) (by decide +kernel)) rfl
theorem u_1100 : Cond.instanceMethod ⟨"FilterGuard$Code", "wideNumber", "(I)J"⟩ ∈ fg_g := fg_in (List.mem_of_getElem? (i := 1100) (by decide +kernel)) rfl
theorem u_1101 : Cond.selects "FilterGuard$Code" ⟨"FilterGuard$Code", "wideNumber", "(I)J"⟩ ⟨"FilterGuard$Code", "wideNumber", "(I)J"⟩ ∈ fg_g := fg_in (List.mem_of_getElem? (i := 1101) (by decide +kernel)) rfl
theorem d_Steps_wide_36 : decode prog_11_method_4_code 36 = .ok (.invokevirtual 111, 3) := by decide +kernel
theorem u_1104 : Cond.methodLink "FilterGuard$Steps" 111 ⟨"FilterGuard$Cell", "becomeExact", "(J)V"⟩ ∈ fg_g := fg_in (List.mem_of_getElem? (i := 1104) (by decide +kernel)) rfl
theorem u_1107 : Cond.code ⟨"FilterGuard$Cell", "becomeExact", "(J)V"⟩ prog_2_method_4_code 3 none ∈ fg_g := fg_in (List.mem_of_getElem? (i := 1107) (by decide +kernel)) rfl
theorem u_1105 : Cond.instanceMethod ⟨"FilterGuard$Cell", "becomeExact", "(J)V"⟩ ∈ fg_g := fg_in (List.mem_of_getElem? (i := 1105) (by decide +kernel)) rfl
theorem u_1106 : Cond.selects "FilterGuard$Cell" ⟨"FilterGuard$Cell", "becomeExact", "(J)V"⟩ ⟨"FilterGuard$Cell", "becomeExact", "(J)V"⟩ ∈ fg_g := fg_in (List.mem_of_getElem? (i := 1106) (by decide +kernel)) rfl
theorem d_Steps_wide_39 : decode prog_11_method_4_code 39 = .ok (.goto 43, 3) := by decide +kernel
abbrev y_Steps_wide : MethodName := ⟨"FilterGuard$Steps", "wide", "()I"⟩
def rm_Steps_wide : Room := { frames := 3, cells := 0, slots := 0, locals := 64 }
abbrev q_Steps_wide (D : va_G) (ad : Nat → Nat → Nat) (ca : Nat → ClassId) (N : Nat → Nat) (M0 MZ : me_M) (RZ : Int32) (A : Nat → Prop) : Array Value → Jvm.State → Outcome → Jvm.State → Prop := va_Qi (fun r (_ : Unit) => r = RZ ∧ me_wf N MZ ∧ me_kp M0 MZ) (fg_B D A (fun _ => me_W ad ca MZ) (fun _ => [])) A
set_option maxHeartbeats 4000000 in
set_option maxRecDepth 100000 in
theorem c_Steps_wide (l : Launch) (D : va_G) (ad : Nat → Nat → Nat) (ca : Nat → ClassId) (N : Nat → Nat) (M0 MZ : me_M) (RZ : Int32) (j0 : Nat) (h : f_Steps_wide M0 j0 = (some (MZ, RZ))) (hwf : me_wf N M0) (hj0 : j0 < N 7) (sz : Nat) : Met l y_Steps_wide (fg_w y_Steps_wide prog_11_method_4_code 1 (some .int)) rm_Steps_wide (va_Pc [.ref (ad 7 j0)] (fz_P D (me_T ca) (me_W ad ca M0) sz)) (q_Steps_wide D ad ca N M0 MZ RZ (va_A (me_W ad ca M0) sz)) rm_Steps_wide.cells rm_Steps_wide.slots (va_A (me_W ad ca M0) sz) := by
  refine fz_enter (fun A => q_Steps_wide D ad ca N M0 MZ RZ A) (by decide +kernel) (Nat.le_of_ble_eq_true rfl) ?_
  intro p e s m below meth c ls A hx hb hml hown hts hr hlocks hin hP hK hD hS hA hX hl hz
  have hl : lv_has ls 1 [(0, .ref (ad 7 j0))] := hl
  unfold f_Steps_wide at h
  have hkp : me_kp M0 M0 := me_kp.rf
  have hkb := hkp
  refine lv_aload_n hx hb d_Steps_wide_0 rfl (lv_at hl 0 rfl) ?_
  refine g_Steps_0 hx hb hts hown hK hP hwf hj0 (hts _ u_455) d_Steps_wide_1 ?_
  obtain ⟨j1, e2, h⟩ := bd_ob h
  have hj1 : j1 < N 2 := (hwf.2.1 7 j0 0 _ e2 (by decide) hj0)
  refine me_opt (j := j1) e2 ?_
  refine g_Code_7 hx hb hts hown hK hP hwf hj1 (hts _ u_239) d_Steps_wide_4 ?_
  refine lv_if_ne (tgt := 42) hx hb d_Steps_wide_7 (by decide) (fun c3 => ?_) (fun c3 => ?_)
  · have h := if_f c3 h
    refine lv_aload_n hx hb d_Steps_wide_42 rfl (lv_at hl 0 rfl) ?_
    refine g_Steps_5 hx hb hts hown hK hP hwf hj0 (hts _ u_460) d_Steps_wide_43 ?_
    obtain ⟨j4, e5, h⟩ := bd_ob h
    have hj4 : j4 < N 18 := (hwf.2.1 7 j0 5 _ e5 (by decide) hj0)
    refine me_opt (j := j4) e5 ?_
    refine lv_aload_n hx hb d_Steps_wide_46 rfl (lv_at hl 0 rfl) ?_
    refine g_Steps_0 hx hb hts hown hK hP hwf hj0 (hts _ u_455) d_Steps_wide_47 ?_
    refine me_opt (j := j1) e2 ?_
    refine g_Code_6 hx hb hts hown hK hP hwf hj1 (hts _ u_232) d_Steps_wide_50 ?_
    obtain ⟨g6, h⟩ := gd_ob h
    refine me_aald (k := 18) (t := 10) hx hb hK hP hwf hj4 (by decide) (by decide) rfl (fun _ => rfl) g6 d_Steps_wide_53 ?_
    obtain ⟨j7, e8, h⟩ := bd_ob h
    have hj7 : j7 < N 10 := (hwf.2.1 18 j4 ((mI M0 2 j1 6).toNatClampNeg) _ e8 (by decide) hj4)
    refine me_opt (j := j7) e8 ?_
    refine lv_bipush (v := 6) hx hb d_Steps_wide_54 (by decide) ?_
    refine lv_iconst (v := 0) hx hb d_Steps_wide_56 (by decide) ?_
    obtain ⟨M9, eM9, h⟩ := bd_ob h
    refine me_thenv0 (M1 := M9) (me_runV (C := "FilterGuard$Cell") (As := [.int 6, .int 0]) (rest := []) ⟨hx, hb, hml, hown, hts⟩ (c_Cell_become l D ad ca N M0 M9 j7 (6 : Int32) (0 : Int32) eM9 hwf hj7 _) rfl (by show fg_nm y_Cell_become 2; decide +kernel) u_1108 u_1033 u_1034 u_188 u_1035 ⟨Nat.le_of_ble_eq_true rfl, Nat.le_of_ble_eq_true rfl⟩ hX hz hK hP hD hwf hS hA hj7 (by decide) rfl rfl rfl hl.1 (Nat.le_of_ble_eq_true rfl) d_Steps_wide_57 ⟨Nat.le_of_ble_eq_true rfl, Nat.le_of_ble_eq_true rfl⟩) hP hD hK hS hA rfl rfl (fun H locs hw hP hD hS => ?_)
    obtain ⟨hwf, hk9⟩ := hw
    have hkp := hkp.tr hk9
    refine lv_aload_n hx hb d_Steps_wide_60 rfl (lv_at hl 0 rfl) ?_
    refine g_Steps_5 hx hb hts hown hK hP hwf hj0 (hts _ u_460) d_Steps_wide_61 ?_
    refine me_opt (j := j4) (kp_r hkb hkp e5) ?_
    refine lv_aload_n hx hb d_Steps_wide_64 rfl (lv_at hl 0 rfl) ?_
    refine g_Steps_0 hx hb hts hown hK hP hwf hj0 (hts _ u_455) d_Steps_wide_65 ?_
    refine me_opt (j := j1) (kp_r hkb hkp e2) ?_
    refine g_Code_6 hx hb hts hown hK hP hwf hj1 (hts _ u_232) d_Steps_wide_68 ?_
    obtain ⟨g10, h⟩ := gd_ob h
    refine me_aald (k := 18) (t := 10) hx hb hK hP hwf hj4 (by decide) (by decide) rfl (fun _ => rfl) (kp_z hkb.z hkp.z g10) d_Steps_wide_71 ?_
    obtain ⟨j11, e12, h⟩ := bd_ob h
    have hj11 : j11 < N 10 := (hwf.2.1 18 j4 ((mI M9 2 j1 6).toNatClampNeg) _ (kp_r hkb hkp e12) (by decide) hj4)
    refine me_opt (j := j11) (kp_r hkb hkp e12) ?_
    refine lv_aload_n hx hb d_Steps_wide_72 rfl (lv_at hl 0 rfl) ?_
    refine g_Steps_0 hx hb hts hown hK hP hwf hj0 (hts _ u_455) d_Steps_wide_73 ?_
    refine me_opt (j := j1) (kp_r hkb hkp e2) ?_
    refine g_Code_9 hx hb hts hown hK hP hwf hj1 (hts _ u_248) d_Steps_wide_76 ?_
    obtain ⟨M13, eM13, h⟩ := st_ob h
    refine p_Cell_2 eM13 hx hb hts hown hK hP hD hwf hS hj11 (hts _ u_427) d_Steps_wide_79 (fun H locs hP hD hwf hS => ?_)
    have hkp := kp_I eM13 hkp
    refine lv_iconst (v := 0) hx hb d_Steps_wide_82 (by decide) ?_
    exact me_reti (me_kp M0) h hx hb hr hlocks hwf hkp hP hK hD hS d_Steps_wide_83
  have h := if_t c3 h
  refine lv_aload_n hx hb d_Steps_wide_10 rfl (lv_at hl 0 rfl) ?_
  refine g_Steps_5 hx hb hts hown hK hP hwf hj0 (hts _ u_460) d_Steps_wide_11 ?_
  obtain ⟨j14, e15, h⟩ := bd_ob h
  have hj14 : j14 < N 18 := (hwf.2.1 7 j0 5 _ e15 (by decide) hj0)
  refine me_opt (j := j14) e15 ?_
  refine lv_aload_n hx hb d_Steps_wide_14 rfl (lv_at hl 0 rfl) ?_
  refine g_Steps_0 hx hb hts hown hK hP hwf hj0 (hts _ u_455) d_Steps_wide_15 ?_
  refine me_opt (j := j1) e2 ?_
  refine g_Code_6 hx hb hts hown hK hP hwf hj1 (hts _ u_232) d_Steps_wide_18 ?_
  obtain ⟨g16, h⟩ := gd_ob h
  refine me_aald (k := 18) (t := 10) hx hb hK hP hwf hj14 (by decide) (by decide) rfl (fun _ => rfl) g16 d_Steps_wide_21 ?_
  obtain ⟨j17, e18, h⟩ := bd_ob h
  have hj17 : j17 < N 10 := (hwf.2.1 18 j14 ((mI M0 2 j1 6).toNatClampNeg) _ e18 (by decide) hj14)
  refine me_opt (j := j17) e18 ?_
  refine lv_aload_n hx hb d_Steps_wide_22 rfl (lv_at hl 0 rfl) ?_
  refine g_Steps_0 hx hb hts hown hK hP hwf hj0 (hts _ u_455) d_Steps_wide_23 ?_
  refine me_opt (j := j1) e2 ?_
  refine lv_aload_n hx hb d_Steps_wide_26 rfl (lv_at hl 0 rfl) ?_
  refine g_Steps_6 hx hb hts hown hK hP hwf hj0 (hts _ u_461) d_Steps_wide_27 ?_
  obtain ⟨j19, e20, h⟩ := bd_ob h
  have hj19 : j19 < N 9 := (hwf.2.1 7 j0 6 _ e20 (by decide) hj0)
  refine me_opt (j := j19) e20 ?_
  refine g_State_2 hx hb hts hown hK hP hwf hj19 (hts _ u_532) d_Steps_wide_30 ?_
  obtain ⟨M21, r22, eM21, h⟩ := b2_ob h
  refine me_thenl0 (M1 := M21) (me_runV (C := "FilterGuard$Code") (As := [.int (mI M0 9 j19 2)]) (rest := [.ref (ad 10 j17)]) ⟨hx, hb, hml, hown, hts⟩ (c_Code_wideNumber l D ad ca N M0 M21 r22 j1 (mI M0 9 j19 2) eM21 hwf hj1 _) rfl (by show fg_nm y_Code_wideNumber 1; decide +kernel) u_1099 u_1100 u_1101 u_182 u_1102 ⟨Nat.le_of_ble_eq_true rfl, Nat.le_of_ble_eq_true rfl⟩ hX hz hK hP hD hwf hS hA hj1 (by decide) rfl rfl rfl hl.1 (Nat.le_of_ble_eq_true rfl) d_Steps_wide_33 ⟨Nat.le_of_ble_eq_true rfl, Nat.le_of_ble_eq_true rfl⟩) hP hD hK hS hA rfl rfl (fun H locs hw hP hD hS => ?_)
  obtain ⟨hwf, hk9⟩ := hw
  have hkp := hkp.tr hk9
  obtain ⟨M23, eM23, h⟩ := bd_ob h
  refine me_thenv0 (M1 := M23) (me_runV (C := "FilterGuard$Cell") (As := [.long r22]) (rest := []) ⟨hx, hb, hml, hown, hts⟩ (c_Cell_becomeExact l D ad ca N M21 M23 j17 r22 eM23 hwf hj17 _) rfl (by show fg_nm y_Cell_becomeExact 1; decide +kernel) u_1104 u_1105 u_1106 u_188 u_1107 ⟨Nat.le_of_ble_eq_true rfl, Nat.le_of_ble_eq_true rfl⟩ hX hz hK hP hD hwf hS hA hj17 (by decide) rfl rfl rfl hl.1 (Nat.le_of_ble_eq_true rfl) d_Steps_wide_36 ⟨Nat.le_of_ble_eq_true rfl, Nat.le_of_ble_eq_true rfl⟩) hP hD hK hS hA rfl rfl (fun H locs hw hP hD hS => ?_)
  obtain ⟨hwf, hk9⟩ := hw
  have hkp := hkp.tr hk9
  refine lv_goto (tgt := 82) hx hb d_Steps_wide_39 (by decide) ?_
  refine lv_iconst (v := 0) hx hb d_Steps_wide_82 (by decide) ?_
  exact me_reti (me_kp M0) h hx hb hr hlocks hwf hkp hP hK hD hS d_Steps_wide_83
