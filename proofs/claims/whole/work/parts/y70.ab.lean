theorem d_Steps_init_0 : decode prog_11_method_1_code 0 = .ok (.aload_n 0, 1) := by decide +kernel
theorem d_Steps_init_1 : decode prog_11_method_1_code 1 = .ok (.invokespecial 3, 3) := by decide +kernel
theorem u_354 : Cond.methodLink "FilterGuard$Steps" 3 ⟨"java/lang/Object", "<init>", "()V"⟩ ∈ fg_g := fg_in (List.mem_of_getElem? (i := 354) (by decide +kernel)) rfl
theorem d_Steps_init_4 : decode prog_11_method_1_code 4 = .ok (.aload_n 0, 1) := by decide +kernel
theorem d_Steps_init_5 : decode prog_11_method_1_code 5 = .ok (.new 9, 3) := by decide +kernel
theorem u_355 : Cond.classLink "FilterGuard$Steps" 9 "FilterGuard$Reckoner" ∈ fg_g := fg_in (List.mem_of_getElem? (i := 355) (by decide +kernel)) rfl
theorem u_356 : Cond.instantiable "FilterGuard$Reckoner" 5 ∈ fg_g := fg_in (List.mem_of_getElem? (i := 356) (by decide +kernel)) rfl
theorem u_186 : Cond.initialized "FilterGuard$Reckoner" ∈ fg_g := fg_in (List.mem_of_getElem? (i := 186) (by decide +kernel)) rfl
theorem d_Steps_init_8 : decode prog_11_method_1_code 8 = .ok (.dup, 1) := by decide +kernel
theorem d_Steps_init_9 : decode prog_11_method_1_code 9 = .ok (.invokespecial 11, 3) := by decide +kernel
theorem o_357 : Cond.methodLinkNest "FilterGuard$Steps" 11 ⟨"FilterGuard$Reckoner", "<init>", "()V"⟩ "FilterGuard" ∈ lw_tbl := List.mem_of_getElem? (i := 357) (by decide +kernel)
theorem u_359 : Cond.code ⟨"FilterGuard$Reckoner", "<init>", "()V"⟩ prog_9_method_1_code 1 none ∈ fg_g := fg_in (List.mem_of_getElem? (i := 359) (by decide +kernel)) rfl
theorem u_358 : Cond.instanceMethod ⟨"FilterGuard$Reckoner", "<init>", "()V"⟩ ∈ fg_g := fg_in (List.mem_of_getElem? (i := 358) (by decide +kernel)) rfl
theorem d_Steps_init_12 : decode prog_11_method_1_code 12 = .ok (.putfield 12, 3) := by decide +kernel
theorem u_457 : Cond.fieldLink "FilterGuard$Steps" 12 "FilterGuard$Steps" "reckoner" "LFilterGuard$Reckoner;" ∈ fg_g := fg_in (List.mem_of_getElem? (i := 457) (by decide +kernel)) rfl
theorem P_Steps_2 {p : Program} {l : Launch} {e : Env} {R : Room} {s : Jvm.State} {m : MethodId} {args : Array Value} {below : List Frame} {meth : Method} {c : Code} {H : Heap} {locs : List Loc} {cells slots : Nat} {Q : Jvm.State → Prop} {cc : ByteArray} {pc : Nat} {ls : Array Slot} {rest : List Value} {D : va_G} {A : Nat → Prop} {H0 : Heap} {ad : Nat → Nat → Nat} {ca : Nat → ClassId} {M M1 : me_M} {N : Nat → Nat} {index j : Nat} {v : Nat} (he : M1 = wR M 7 j 2 (some v)) (hexec : p.tables.exec = Jvm.exec) (hb : c.code = cc) (hts : ∀ w ∈ fg_g, w.before args s = true) (hown : s.vm.findClass "FilterGuard$Steps" = some m.cls) (hK : va_K D classes (me_T ca) s) (hP : va_P D classes (me_W ad ca M) H) (hD : va_D A (me_W ad ca M)) (hwf : me_wf N M) (hS : va_S A H0 H locs) (hj : j < N 7) (hv : v < N 8) (hin2 : meth.name = "<init>") (hlink : (Cond.fieldLink "FilterGuard$Steps" index "FilterGuard$Steps" "reckoner" "LFilterGuard$Reckoner;").before args s = true) (hdg : decode cc pc = .ok (.putfield index, 3)) (kk : ∀ (H1 : Heap) (locs1 : List Loc), va_P D classes (me_W ad ca M1) H1 → va_D A (me_W ad ca M1) → me_wf N M1 → va_S A H0 H1 locs1 → W p l e R s m args below meth c H1 locs1 cells slots Q (F0 m (pc + 3) ls rest)) : W p l e R s m args below meth c H locs cells slots Q (F0 m pc ls (.ref (ad 8 v) :: .ref (ad 7 j) :: rest)) := by
  subst he
  exact me_putF (M1 := wR M 7 j 2 (some v)) (k := 7) (f := 2) (C := "FilterGuard$Steps") (T := F_Steps) (Nf := 19) hexec hb hts i_Steps t_Steps t_Steps_ok n_Steps hown hK hP hD hwf hS hj (by decide) rfl (by decide) (by decide) hlink (fun _ h9 => h9) rfl hin2 rfl rfl rfl rfl (fun a b h => me_wRE h) (me_fRw (v := some v) (by decide) (by decide)) hdg (fun H1 locs1 a1 a2 a3 => kk H1 locs1 a1 a2 (me_wfR hwf (fun t z => by cases z; exact hv)) a3)
theorem d_Steps_init_15 : decode prog_11_method_1_code 15 = .ok (.aload_n 0, 1) := by decide +kernel
theorem d_Steps_init_16 : decode prog_11_method_1_code 16 = .ok (.new 18, 3) := by decide +kernel
theorem u_412 : Cond.classLink "FilterGuard$Steps" 18 "FilterGuard$Cell" ∈ fg_g := fg_in (List.mem_of_getElem? (i := 412) (by decide +kernel)) rfl
theorem u_413 : Cond.instantiable "FilterGuard$Cell" 7 ∈ fg_g := fg_in (List.mem_of_getElem? (i := 413) (by decide +kernel)) rfl
theorem u_188 : Cond.initialized "FilterGuard$Cell" ∈ fg_g := fg_in (List.mem_of_getElem? (i := 188) (by decide +kernel)) rfl
theorem d_Steps_init_19 : decode prog_11_method_1_code 19 = .ok (.dup, 1) := by decide +kernel
theorem d_Steps_init_20 : decode prog_11_method_1_code 20 = .ok (.invokespecial 20, 3) := by decide +kernel
theorem o_414 : Cond.methodLinkNest "FilterGuard$Steps" 20 ⟨"FilterGuard$Cell", "<init>", "()V"⟩ "FilterGuard" ∈ lw_tbl := List.mem_of_getElem? (i := 414) (by decide +kernel)
theorem u_416 : Cond.code ⟨"FilterGuard$Cell", "<init>", "()V"⟩ prog_2_method_1_code 1 none ∈ fg_g := fg_in (List.mem_of_getElem? (i := 416) (by decide +kernel)) rfl
theorem u_415 : Cond.instanceMethod ⟨"FilterGuard$Cell", "<init>", "()V"⟩ ∈ fg_g := fg_in (List.mem_of_getElem? (i := 415) (by decide +kernel)) rfl
theorem d_Steps_init_23 : decode prog_11_method_1_code 23 = .ok (.putfield 21, 3) := by decide +kernel
theorem u_458 : Cond.fieldLink "FilterGuard$Steps" 21 "FilterGuard$Steps" "fieldCell" "LFilterGuard$Cell;" ∈ fg_g := fg_in (List.mem_of_getElem? (i := 458) (by decide +kernel)) rfl
theorem P_Steps_3 {p : Program} {l : Launch} {e : Env} {R : Room} {s : Jvm.State} {m : MethodId} {args : Array Value} {below : List Frame} {meth : Method} {c : Code} {H : Heap} {locs : List Loc} {cells slots : Nat} {Q : Jvm.State → Prop} {cc : ByteArray} {pc : Nat} {ls : Array Slot} {rest : List Value} {D : va_G} {A : Nat → Prop} {H0 : Heap} {ad : Nat → Nat → Nat} {ca : Nat → ClassId} {M M1 : me_M} {N : Nat → Nat} {index j : Nat} {v : Nat} (he : M1 = wR M 7 j 3 (some v)) (hexec : p.tables.exec = Jvm.exec) (hb : c.code = cc) (hts : ∀ w ∈ fg_g, w.before args s = true) (hown : s.vm.findClass "FilterGuard$Steps" = some m.cls) (hK : va_K D classes (me_T ca) s) (hP : va_P D classes (me_W ad ca M) H) (hD : va_D A (me_W ad ca M)) (hwf : me_wf N M) (hS : va_S A H0 H locs) (hj : j < N 7) (hv : v < N 10) (hin2 : meth.name = "<init>") (hlink : (Cond.fieldLink "FilterGuard$Steps" index "FilterGuard$Steps" "fieldCell" "LFilterGuard$Cell;").before args s = true) (hdg : decode cc pc = .ok (.putfield index, 3)) (kk : ∀ (H1 : Heap) (locs1 : List Loc), va_P D classes (me_W ad ca M1) H1 → va_D A (me_W ad ca M1) → me_wf N M1 → va_S A H0 H1 locs1 → W p l e R s m args below meth c H1 locs1 cells slots Q (F0 m (pc + 3) ls rest)) : W p l e R s m args below meth c H locs cells slots Q (F0 m pc ls (.ref (ad 10 v) :: .ref (ad 7 j) :: rest)) := by
  subst he
  exact me_putF (M1 := wR M 7 j 3 (some v)) (k := 7) (f := 3) (C := "FilterGuard$Steps") (T := F_Steps) (Nf := 19) hexec hb hts i_Steps t_Steps t_Steps_ok n_Steps hown hK hP hD hwf hS hj (by decide) rfl (by decide) (by decide) hlink (fun _ h9 => h9) rfl hin2 rfl rfl rfl rfl (fun a b h => me_wRE h) (me_fRw (v := some v) (by decide) (by decide)) hdg (fun H1 locs1 a1 a2 a3 => kk H1 locs1 a1 a2 (me_wfR hwf (fun t z => by cases z; exact hv)) a3)
theorem d_Steps_init_26 : decode prog_11_method_1_code 26 = .ok (.aload_n 0, 1) := by decide +kernel
theorem d_Steps_init_27 : decode prog_11_method_1_code 27 = .ok (.new 25, 3) := by decide +kernel
theorem u_453 : Cond.classLink "FilterGuard$Steps" 25 "FilterGuard$Num" ∈ fg_g := fg_in (List.mem_of_getElem? (i := 453) (by decide +kernel)) rfl
theorem d_Steps_init_30 : decode prog_11_method_1_code 30 = .ok (.dup, 1) := by decide +kernel
theorem d_Steps_init_31 : decode prog_11_method_1_code 31 = .ok (.invokespecial 27, 3) := by decide +kernel
theorem o_454 : Cond.methodLinkNest "FilterGuard$Steps" 27 ⟨"FilterGuard$Num", "<init>", "()V"⟩ "FilterGuard" ∈ lw_tbl := List.mem_of_getElem? (i := 454) (by decide +kernel)
theorem d_Steps_init_34 : decode prog_11_method_1_code 34 = .ok (.putfield 28, 3) := by decide +kernel
theorem u_459 : Cond.fieldLink "FilterGuard$Steps" 28 "FilterGuard$Steps" "moreNumber" "LFilterGuard$Num;" ∈ fg_g := fg_in (List.mem_of_getElem? (i := 459) (by decide +kernel)) rfl
theorem P_Steps_4 {p : Program} {l : Launch} {e : Env} {R : Room} {s : Jvm.State} {m : MethodId} {args : Array Value} {below : List Frame} {meth : Method} {c : Code} {H : Heap} {locs : List Loc} {cells slots : Nat} {Q : Jvm.State → Prop} {cc : ByteArray} {pc : Nat} {ls : Array Slot} {rest : List Value} {D : va_G} {A : Nat → Prop} {H0 : Heap} {ad : Nat → Nat → Nat} {ca : Nat → ClassId} {M M1 : me_M} {N : Nat → Nat} {index j : Nat} {v : Nat} (he : M1 = wR M 7 j 4 (some v)) (hexec : p.tables.exec = Jvm.exec) (hb : c.code = cc) (hts : ∀ w ∈ fg_g, w.before args s = true) (hown : s.vm.findClass "FilterGuard$Steps" = some m.cls) (hK : va_K D classes (me_T ca) s) (hP : va_P D classes (me_W ad ca M) H) (hD : va_D A (me_W ad ca M)) (hwf : me_wf N M) (hS : va_S A H0 H locs) (hj : j < N 7) (hv : v < N 11) (hin2 : meth.name = "<init>") (hlink : (Cond.fieldLink "FilterGuard$Steps" index "FilterGuard$Steps" "moreNumber" "LFilterGuard$Num;").before args s = true) (hdg : decode cc pc = .ok (.putfield index, 3)) (kk : ∀ (H1 : Heap) (locs1 : List Loc), va_P D classes (me_W ad ca M1) H1 → va_D A (me_W ad ca M1) → me_wf N M1 → va_S A H0 H1 locs1 → W p l e R s m args below meth c H1 locs1 cells slots Q (F0 m (pc + 3) ls rest)) : W p l e R s m args below meth c H locs cells slots Q (F0 m pc ls (.ref (ad 11 v) :: .ref (ad 7 j) :: rest)) := by
  subst he
  exact me_putF (M1 := wR M 7 j 4 (some v)) (k := 7) (f := 4) (C := "FilterGuard$Steps") (T := F_Steps) (Nf := 19) hexec hb hts i_Steps t_Steps t_Steps_ok n_Steps hown hK hP hD hwf hS hj (by decide) rfl (by decide) (by decide) hlink (fun _ h9 => h9) rfl hin2 rfl rfl rfl rfl (fun a b h => me_wRE h) (me_fRw (v := some v) (by decide) (by decide)) hdg (fun H1 locs1 a1 a2 a3 => kk H1 locs1 a1 a2 (me_wfR hwf (fun t z => by cases z; exact hv)) a3)
theorem d_Steps_init_37 : decode prog_11_method_1_code 37 = .ok (.aload_n 0, 1) := by decide +kernel
theorem d_Steps_init_38 : decode prog_11_method_1_code 38 = .ok (.new 25, 3) := by decide +kernel
theorem d_Steps_init_41 : decode prog_11_method_1_code 41 = .ok (.dup, 1) := by decide +kernel
theorem d_Steps_init_42 : decode prog_11_method_1_code 42 = .ok (.invokespecial 27, 3) := by decide +kernel
theorem d_Steps_init_45 : decode prog_11_method_1_code 45 = .ok (.putfield 32, 3) := by decide +kernel
theorem u_472 : Cond.fieldLink "FilterGuard$Steps" 32 "FilterGuard$Steps" "toGone" "LFilterGuard$Num;" ∈ fg_g := fg_in (List.mem_of_getElem? (i := 472) (by decide +kernel)) rfl
theorem P_Steps_15 {p : Program} {l : Launch} {e : Env} {R : Room} {s : Jvm.State} {m : MethodId} {args : Array Value} {below : List Frame} {meth : Method} {c : Code} {H : Heap} {locs : List Loc} {cells slots : Nat} {Q : Jvm.State → Prop} {cc : ByteArray} {pc : Nat} {ls : Array Slot} {rest : List Value} {D : va_G} {A : Nat → Prop} {H0 : Heap} {ad : Nat → Nat → Nat} {ca : Nat → ClassId} {M M1 : me_M} {N : Nat → Nat} {index j : Nat} {v : Nat} (he : M1 = wR M 7 j 15 (some v)) (hexec : p.tables.exec = Jvm.exec) (hb : c.code = cc) (hts : ∀ w ∈ fg_g, w.before args s = true) (hown : s.vm.findClass "FilterGuard$Steps" = some m.cls) (hK : va_K D classes (me_T ca) s) (hP : va_P D classes (me_W ad ca M) H) (hD : va_D A (me_W ad ca M)) (hwf : me_wf N M) (hS : va_S A H0 H locs) (hj : j < N 7) (hv : v < N 11) (hin2 : meth.name = "<init>") (hlink : (Cond.fieldLink "FilterGuard$Steps" index "FilterGuard$Steps" "toGone" "LFilterGuard$Num;").before args s = true) (hdg : decode cc pc = .ok (.putfield index, 3)) (kk : ∀ (H1 : Heap) (locs1 : List Loc), va_P D classes (me_W ad ca M1) H1 → va_D A (me_W ad ca M1) → me_wf N M1 → va_S A H0 H1 locs1 → W p l e R s m args below meth c H1 locs1 cells slots Q (F0 m (pc + 3) ls rest)) : W p l e R s m args below meth c H locs cells slots Q (F0 m pc ls (.ref (ad 11 v) :: .ref (ad 7 j) :: rest)) := by
  subst he
  exact me_putF (M1 := wR M 7 j 15 (some v)) (k := 7) (f := 15) (C := "FilterGuard$Steps") (T := F_Steps) (Nf := 19) hexec hb hts i_Steps t_Steps t_Steps_ok n_Steps hown hK hP hD hwf hS hj (by decide) rfl (by decide) (by decide) hlink (fun _ h9 => h9) rfl hin2 rfl rfl rfl rfl (fun a b h => me_wRE h) (me_fRw (v := some v) (by decide) (by decide)) hdg (fun H1 locs1 a1 a2 a3 => kk H1 locs1 a1 a2 (me_wfR hwf (fun t z => by cases z; exact hv)) a3)
theorem d_Steps_init_48 : decode prog_11_method_1_code 48 = .ok (.aload_n 0, 1) := by decide +kernel
theorem d_Steps_init_49 : decode prog_11_method_1_code 49 = .ok (.new 25, 3) := by decide +kernel
theorem d_Steps_init_52 : decode prog_11_method_1_code 52 = .ok (.dup, 1) := by decide +kernel
theorem d_Steps_init_53 : decode prog_11_method_1_code 53 = .ok (.invokespecial 27, 3) := by decide +kernel
theorem d_Steps_init_56 : decode prog_11_method_1_code 56 = .ok (.putfield 35, 3) := by decide +kernel
theorem u_473 : Cond.fieldLink "FilterGuard$Steps" 35 "FilterGuard$Steps" "fromGone" "LFilterGuard$Num;" ∈ fg_g := fg_in (List.mem_of_getElem? (i := 473) (by decide +kernel)) rfl
theorem P_Steps_16 {p : Program} {l : Launch} {e : Env} {R : Room} {s : Jvm.State} {m : MethodId} {args : Array Value} {below : List Frame} {meth : Method} {c : Code} {H : Heap} {locs : List Loc} {cells slots : Nat} {Q : Jvm.State → Prop} {cc : ByteArray} {pc : Nat} {ls : Array Slot} {rest : List Value} {D : va_G} {A : Nat → Prop} {H0 : Heap} {ad : Nat → Nat → Nat} {ca : Nat → ClassId} {M M1 : me_M} {N : Nat → Nat} {index j : Nat} {v : Nat} (he : M1 = wR M 7 j 16 (some v)) (hexec : p.tables.exec = Jvm.exec) (hb : c.code = cc) (hts : ∀ w ∈ fg_g, w.before args s = true) (hown : s.vm.findClass "FilterGuard$Steps" = some m.cls) (hK : va_K D classes (me_T ca) s) (hP : va_P D classes (me_W ad ca M) H) (hD : va_D A (me_W ad ca M)) (hwf : me_wf N M) (hS : va_S A H0 H locs) (hj : j < N 7) (hv : v < N 11) (hin2 : meth.name = "<init>") (hlink : (Cond.fieldLink "FilterGuard$Steps" index "FilterGuard$Steps" "fromGone" "LFilterGuard$Num;").before args s = true) (hdg : decode cc pc = .ok (.putfield index, 3)) (kk : ∀ (H1 : Heap) (locs1 : List Loc), va_P D classes (me_W ad ca M1) H1 → va_D A (me_W ad ca M1) → me_wf N M1 → va_S A H0 H1 locs1 → W p l e R s m args below meth c H1 locs1 cells slots Q (F0 m (pc + 3) ls rest)) : W p l e R s m args below meth c H locs cells slots Q (F0 m pc ls (.ref (ad 11 v) :: .ref (ad 7 j) :: rest)) := by
  subst he
  exact me_putF (M1 := wR M 7 j 16 (some v)) (k := 7) (f := 16) (C := "FilterGuard$Steps") (T := F_Steps) (Nf := 19) hexec hb hts i_Steps t_Steps t_Steps_ok n_Steps hown hK hP hD hwf hS hj (by decide) rfl (by decide) (by decide) hlink (fun _ h9 => h9) rfl hin2 rfl rfl rfl rfl (fun a b h => me_wRE h) (me_fRw (v := some v) (by decide) (by decide)) hdg (fun H1 locs1 a1 a2 a3 => kk H1 locs1 a1 a2 (me_wfR hwf (fun t z => by cases z; exact hv)) a3)
theorem d_Steps_init_59 : decode prog_11_method_1_code 59 = .ok (.aload_n 0, 1) := by decide +kernel
theorem d_Steps_init_60 : decode prog_11_method_1_code 60 = .ok (.new 25, 3) := by decide +kernel
theorem d_Steps_init_63 : decode prog_11_method_1_code 63 = .ok (.dup, 1) := by decide +kernel
theorem d_Steps_init_64 : decode prog_11_method_1_code 64 = .ok (.invokespecial 27, 3) := by decide +kernel
theorem d_Steps_init_67 : decode prog_11_method_1_code 67 = .ok (.putfield 38, 3) := by decide +kernel
theorem u_474 : Cond.fieldLink "FilterGuard$Steps" 38 "FilterGuard$Steps" "toFallen" "LFilterGuard$Num;" ∈ fg_g := fg_in (List.mem_of_getElem? (i := 474) (by decide +kernel)) rfl
theorem P_Steps_17 {p : Program} {l : Launch} {e : Env} {R : Room} {s : Jvm.State} {m : MethodId} {args : Array Value} {below : List Frame} {meth : Method} {c : Code} {H : Heap} {locs : List Loc} {cells slots : Nat} {Q : Jvm.State → Prop} {cc : ByteArray} {pc : Nat} {ls : Array Slot} {rest : List Value} {D : va_G} {A : Nat → Prop} {H0 : Heap} {ad : Nat → Nat → Nat} {ca : Nat → ClassId} {M M1 : me_M} {N : Nat → Nat} {index j : Nat} {v : Nat} (he : M1 = wR M 7 j 17 (some v)) (hexec : p.tables.exec = Jvm.exec) (hb : c.code = cc) (hts : ∀ w ∈ fg_g, w.before args s = true) (hown : s.vm.findClass "FilterGuard$Steps" = some m.cls) (hK : va_K D classes (me_T ca) s) (hP : va_P D classes (me_W ad ca M) H) (hD : va_D A (me_W ad ca M)) (hwf : me_wf N M) (hS : va_S A H0 H locs) (hj : j < N 7) (hv : v < N 11) (hin2 : meth.name = "<init>") (hlink : (Cond.fieldLink "FilterGuard$Steps" index "FilterGuard$Steps" "toFallen" "LFilterGuard$Num;").before args s = true) (hdg : decode cc pc = .ok (.putfield index, 3)) (kk : ∀ (H1 : Heap) (locs1 : List Loc), va_P D classes (me_W ad ca M1) H1 → va_D A (me_W ad ca M1) → me_wf N M1 → va_S A H0 H1 locs1 → W p l e R s m args below meth c H1 locs1 cells slots Q (F0 m (pc + 3) ls rest)) : W p l e R s m args below meth c H locs cells slots Q (F0 m pc ls (.ref (ad 11 v) :: .ref (ad 7 j) :: rest)) := by
  subst he
  exact me_putF (M1 := wR M 7 j 17 (some v)) (k := 7) (f := 17) (C := "FilterGuard$Steps") (T := F_Steps) (Nf := 19) hexec hb hts i_Steps t_Steps t_Steps_ok n_Steps hown hK hP hD hwf hS hj (by decide) rfl (by decide) (by decide) hlink (fun _ h9 => h9) rfl hin2 rfl rfl rfl rfl (fun a b h => me_wRE h) (me_fRw (v := some v) (by decide) (by decide)) hdg (fun H1 locs1 a1 a2 a3 => kk H1 locs1 a1 a2 (me_wfR hwf (fun t z => by cases z; exact hv)) a3)
theorem d_Steps_init_70 : decode prog_11_method_1_code 70 = .ok (.aload_n 0, 1) := by decide +kernel
theorem d_Steps_init_71 : decode prog_11_method_1_code 71 = .ok (.new 25, 3) := by decide +kernel
theorem d_Steps_init_74 : decode prog_11_method_1_code 74 = .ok (.dup, 1) := by decide +kernel
theorem d_Steps_init_75 : decode prog_11_method_1_code 75 = .ok (.invokespecial 27, 3) := by decide +kernel
theorem d_Steps_init_78 : decode prog_11_method_1_code 78 = .ok (.putfield 41, 3) := by decide +kernel
theorem u_475 : Cond.fieldLink "FilterGuard$Steps" 41 "FilterGuard$Steps" "fromFallen" "LFilterGuard$Num;" ∈ fg_g := fg_in (List.mem_of_getElem? (i := 475) (by decide +kernel)) rfl
theorem P_Steps_18 {p : Program} {l : Launch} {e : Env} {R : Room} {s : Jvm.State} {m : MethodId} {args : Array Value} {below : List Frame} {meth : Method} {c : Code} {H : Heap} {locs : List Loc} {cells slots : Nat} {Q : Jvm.State → Prop} {cc : ByteArray} {pc : Nat} {ls : Array Slot} {rest : List Value} {D : va_G} {A : Nat → Prop} {H0 : Heap} {ad : Nat → Nat → Nat} {ca : Nat → ClassId} {M M1 : me_M} {N : Nat → Nat} {index j : Nat} {v : Nat} (he : M1 = wR M 7 j 18 (some v)) (hexec : p.tables.exec = Jvm.exec) (hb : c.code = cc) (hts : ∀ w ∈ fg_g, w.before args s = true) (hown : s.vm.findClass "FilterGuard$Steps" = some m.cls) (hK : va_K D classes (me_T ca) s) (hP : va_P D classes (me_W ad ca M) H) (hD : va_D A (me_W ad ca M)) (hwf : me_wf N M) (hS : va_S A H0 H locs) (hj : j < N 7) (hv : v < N 11) (hin2 : meth.name = "<init>") (hlink : (Cond.fieldLink "FilterGuard$Steps" index "FilterGuard$Steps" "fromFallen" "LFilterGuard$Num;").before args s = true) (hdg : decode cc pc = .ok (.putfield index, 3)) (kk : ∀ (H1 : Heap) (locs1 : List Loc), va_P D classes (me_W ad ca M1) H1 → va_D A (me_W ad ca M1) → me_wf N M1 → va_S A H0 H1 locs1 → W p l e R s m args below meth c H1 locs1 cells slots Q (F0 m (pc + 3) ls rest)) : W p l e R s m args below meth c H locs cells slots Q (F0 m pc ls (.ref (ad 11 v) :: .ref (ad 7 j) :: rest)) := by
  subst he
  exact me_putF (M1 := wR M 7 j 18 (some v)) (k := 7) (f := 18) (C := "FilterGuard$Steps") (T := F_Steps) (Nf := 19) hexec hb hts i_Steps t_Steps t_Steps_ok n_Steps hown hK hP hD hwf hS hj (by decide) rfl (by decide) (by decide) hlink (fun _ h9 => h9) rfl hin2 rfl rfl rfl rfl (fun a b h => me_wRE h) (me_fRw (v := some v) (by decide) (by decide)) hdg (fun H1 locs1 a1 a2 a3 => kk H1 locs1 a1 a2 (me_wfR hwf (fun t z => by cases z; exact hv)) a3)
theorem d_Steps_init_81 : decode prog_11_method_1_code 81 = .ok (.aload_n 0, 1) := by decide +kernel
theorem d_Steps_init_82 : decode prog_11_method_1_code 82 = .ok (.aload_n 1, 1) := by decide +kernel
theorem d_Steps_init_83 : decode prog_11_method_1_code 83 = .ok (.putfield 44, 3) := by decide +kernel
theorem u_455 : Cond.fieldLink "FilterGuard$Steps" 44 "FilterGuard$Steps" "code" "LFilterGuard$Code;" ∈ fg_g := fg_in (List.mem_of_getElem? (i := 455) (by decide +kernel)) rfl
theorem P_Steps_0 {p : Program} {l : Launch} {e : Env} {R : Room} {s : Jvm.State} {m : MethodId} {args : Array Value} {below : List Frame} {meth : Method} {c : Code} {H : Heap} {locs : List Loc} {cells slots : Nat} {Q : Jvm.State → Prop} {cc : ByteArray} {pc : Nat} {ls : Array Slot} {rest : List Value} {D : va_G} {A : Nat → Prop} {H0 : Heap} {ad : Nat → Nat → Nat} {ca : Nat → ClassId} {M M1 : me_M} {N : Nat → Nat} {index j : Nat} {v : Nat} (he : M1 = wR M 7 j 0 (some v)) (hexec : p.tables.exec = Jvm.exec) (hb : c.code = cc) (hts : ∀ w ∈ fg_g, w.before args s = true) (hown : s.vm.findClass "FilterGuard$Steps" = some m.cls) (hK : va_K D classes (me_T ca) s) (hP : va_P D classes (me_W ad ca M) H) (hD : va_D A (me_W ad ca M)) (hwf : me_wf N M) (hS : va_S A H0 H locs) (hj : j < N 7) (hv : v < N 2) (hin2 : meth.name = "<init>") (hlink : (Cond.fieldLink "FilterGuard$Steps" index "FilterGuard$Steps" "code" "LFilterGuard$Code;").before args s = true) (hdg : decode cc pc = .ok (.putfield index, 3)) (kk : ∀ (H1 : Heap) (locs1 : List Loc), va_P D classes (me_W ad ca M1) H1 → va_D A (me_W ad ca M1) → me_wf N M1 → va_S A H0 H1 locs1 → W p l e R s m args below meth c H1 locs1 cells slots Q (F0 m (pc + 3) ls rest)) : W p l e R s m args below meth c H locs cells slots Q (F0 m pc ls (.ref (ad 2 v) :: .ref (ad 7 j) :: rest)) := by
  subst he
  exact me_putF (M1 := wR M 7 j 0 (some v)) (k := 7) (f := 0) (C := "FilterGuard$Steps") (T := F_Steps) (Nf := 19) hexec hb hts i_Steps t_Steps t_Steps_ok n_Steps hown hK hP hD hwf hS hj (by decide) rfl (by decide) (by decide) hlink (fun _ h9 => h9) rfl hin2 rfl rfl rfl rfl (fun a b h => me_wRE h) (me_fRw (v := some v) (by decide) (by decide)) hdg (fun H1 locs1 a1 a2 a3 => kk H1 locs1 a1 a2 (me_wfR hwf (fun t z => by cases z; exact hv)) a3)
theorem d_Steps_init_86 : decode prog_11_method_1_code 86 = .ok (.aload_n 0, 1) := by decide +kernel
theorem d_Steps_init_87 : decode prog_11_method_1_code 87 = .ok (.aload_n 2, 1) := by decide +kernel
theorem d_Steps_init_88 : decode prog_11_method_1_code 88 = .ok (.putfield 48, 3) := by decide +kernel
theorem u_456 : Cond.fieldLink "FilterGuard$Steps" 48 "FilterGuard$Steps" "stores" "[LFilterGuard$Store;" ∈ fg_g := fg_in (List.mem_of_getElem? (i := 456) (by decide +kernel)) rfl
theorem P_Steps_1 {p : Program} {l : Launch} {e : Env} {R : Room} {s : Jvm.State} {m : MethodId} {args : Array Value} {below : List Frame} {meth : Method} {c : Code} {H : Heap} {locs : List Loc} {cells slots : Nat} {Q : Jvm.State → Prop} {cc : ByteArray} {pc : Nat} {ls : Array Slot} {rest : List Value} {D : va_G} {A : Nat → Prop} {H0 : Heap} {ad : Nat → Nat → Nat} {ca : Nat → ClassId} {M M1 : me_M} {N : Nat → Nat} {index j : Nat} {v : Nat} (he : M1 = wR M 7 j 1 (some v)) (hexec : p.tables.exec = Jvm.exec) (hb : c.code = cc) (hts : ∀ w ∈ fg_g, w.before args s = true) (hown : s.vm.findClass "FilterGuard$Steps" = some m.cls) (hK : va_K D classes (me_T ca) s) (hP : va_P D classes (me_W ad ca M) H) (hD : va_D A (me_W ad ca M)) (hwf : me_wf N M) (hS : va_S A H0 H locs) (hj : j < N 7) (hv : v < N 19) (hin2 : meth.name = "<init>") (hlink : (Cond.fieldLink "FilterGuard$Steps" index "FilterGuard$Steps" "stores" "[LFilterGuard$Store;").before args s = true) (hdg : decode cc pc = .ok (.putfield index, 3)) (kk : ∀ (H1 : Heap) (locs1 : List Loc), va_P D classes (me_W ad ca M1) H1 → va_D A (me_W ad ca M1) → me_wf N M1 → va_S A H0 H1 locs1 → W p l e R s m args below meth c H1 locs1 cells slots Q (F0 m (pc + 3) ls rest)) : W p l e R s m args below meth c H locs cells slots Q (F0 m pc ls (.ref (ad 19 v) :: .ref (ad 7 j) :: rest)) := by
  subst he
  exact me_putF (M1 := wR M 7 j 1 (some v)) (k := 7) (f := 1) (C := "FilterGuard$Steps") (T := F_Steps) (Nf := 19) hexec hb hts i_Steps t_Steps t_Steps_ok n_Steps hown hK hP hD hwf hS hj (by decide) rfl (by decide) (by decide) hlink (fun _ h9 => h9) rfl hin2 rfl rfl rfl rfl (fun a b h => me_wRE h) (me_fRw (v := some v) (by decide) (by decide)) hdg (fun H1 locs1 a1 a2 a3 => kk H1 locs1 a1 a2 (me_wfR hwf (fun t z => by cases z; exact hv)) a3)
theorem d_Steps_init_91 : decode prog_11_method_1_code 91 = .ok (.return_, 1) := by decide +kernel
abbrev y_Steps_init : MethodName := ⟨"FilterGuard$Steps", "<init>", "(LFilterGuard$Code;[LFilterGuard$Store;)V"⟩
def rm_Steps_init (N0 : Nat → Nat) : Room := { frames := 3, cells := me_CL - me_cN N0, slots := me_SL - me_sN N0, locals := 70 }
abbrev q_Steps_init (D : va_G) (ad0 : Nat → Nat → Nat) (ca : Nat → ClassId) (N0 : Nat → Nat) (MZ : me_M) (A : Nat → Prop) : Array Value → Jvm.State → Outcome → Jvm.State → Prop := va_Qv (fun (u : Nat → Nat → Nat) => al_P ad0 N0 MZ u ∧ True) (fg_B D A (fun u => me_W u ca MZ) (fun _ => [])) A
set_option maxHeartbeats 4000000 in
set_option maxRecDepth 100000 in
theorem c_Steps_init (l : Launch) (D : va_G) (ad0 : Nat → Nat → Nat) (ca : Nat → ClassId) (N0 : Nat → Nat) (M0 MZ : me_M) (j0 : Nat) (j1 : Nat) (j2 : Nat) (h : f_Steps_init M0 j0 j1 j2 = (some MZ)) (hwf : me_wf N0 M0) (hcl : me_cN N0 ≤ me_CL ∧ me_sN N0 ≤ me_SL) (hj0 : j0 < N0 7) (hj1 : j1 < N0 2) (hj2 : j2 < N0 19) (sz : Nat) : Met l y_Steps_init (fg_w y_Steps_init prog_11_method_1_code 3 none) (rm_Steps_init N0) (va_Pc [.ref (ad0 7 j0), .ref (ad0 2 j1), .ref (ad0 19 j2)] (fz_P D (me_T ca) (me_W ad0 ca M0) sz)) (q_Steps_init D ad0 ca N0 MZ (va_A (me_W ad0 ca M0) sz)) (me_cN (mN MZ) - me_cN N0) (me_sN (mN MZ) - me_sN N0) (va_A (me_W ad0 ca M0) sz) := by
  refine fz_enter (fun A => q_Steps_init D ad0 ca N0 MZ A) (by decide +kernel) (Nat.le_of_ble_eq_true rfl) ?_
  intro p e s m below meth c ls A hx hb hml hown hts hr hlocks hin hP hK hD hS hA hX hl hz
  refine W.widen (k := me_cN N0 - me_cN N0) (n := me_sN N0 - me_sN N0) (Nat.zero_le _) (Nat.zero_le _) ?_
  unfold f_Steps_init at h
  have hok : me_ok N0 N0 := me_ok.rf hcl
  obtain ⟨ad, N, hext0, hok, hwf, hP, hD, hN9, had9, hj0, hj1, hj2⟩ : ∃ (ad : Nat → Nat → Nat) (N : Nat → Nat), (∀ a b, b < N0 a → ad a b = ad0 a b) ∧ me_ok N0 N ∧ me_wf N M0 ∧ va_P D classes (me_W ad ca M0) s.heap ∧ va_D A (me_W ad ca M0) ∧ N = N0 ∧ ad = ad0 ∧ j0 < N 7 ∧ j1 < N 2 ∧ j2 < N 19 := ⟨ad0, N0, fun _ _ _ => rfl, hok, hwf, hP, hD, rfl, rfl, hj0, hj1, hj2⟩
  have hl : lv_has ls 3 [(0, .ref (ad 7 j0)), (1, .ref (ad 2 j1)), (2, .ref (ad 19 j2))] := by rw [had9]; exact hl
  have hcs : W p l e (rm_Steps_init N0) s m [.ref (ad0 7 j0), .ref (ad0 2 j1), .ref (ad0 19 j2)].toArray below meth c s.heap [] (me_cN N - me_cN N0) (me_sN N - me_sN N0) (MQ below (q_Steps_init D ad0 ca N0 MZ A) [.ref (ad0 7 j0), .ref (ad0 2 j1), .ref (ad0 19 j2)].toArray s (me_cN (mN MZ) - me_cN N0) (me_sN (mN MZ) - me_sN N0) A) (F0 m 0 ls []) := by
    clear had9
    refine lv_aload_n hx hb d_Steps_init_0 rfl (lv_at hl 0 rfl) ?_
    refine W.objInit hx hb hown (hts _ u_354) (hts _ u_210) (hts _ u_211) rfl (by rw [hml]; exact hl.1) rfl d_Steps_init_1 (Nat.le_of_ble_eq_true rfl) (Nat.le_of_ble_eq_true rfl) ?_
    refine W.eq (g2 := F0 m 4 ls []) rfl ?_
    refine lv_aload_n hx hb d_Steps_init_4 rfl (lv_at hl 0 rfl) ?_
    obtain ⟨g1, h⟩ := gd_ob h
    obtain ⟨M2, eM2, h⟩ := st_ob h
    refine al_new (k := 8) (fs := [.null, .null, .null, .null, .null]) (C := "FilterGuard$Reckoner") (T := F_Reckoner) (Nf := 5) eM2 g1 hx hb hts i_Reckoner t_Reckoner t_Reckoner_ok hown (hts _ u_355) (hts _ u_356) (hts _ u_186) hK hP hD hwf hok hS hA (by decide) rfl (by decide) z_Reckoner rfl rfl rfl d_Steps_init_5 (fun ad N H hext hNN hn3 hwf hok1 hP hD hS => ?_)
    have hext0 := al_ext hext hext0 hok
    have hok := hok1
    have hl : lv_has ls 3 [(0, .ref (ad 7 j0)), (1, .ref (ad 2 j1)), (2, .ref (ad 19 j2))] := by rw [hext 7 j0 hj0, hext 2 j1 hj1, hext 19 j2 hj2]; exact hl
    refine W.eq (g2 := F0 m 8 ls [.ref (ad 8 (mN M0 8)), .ref (ad 7 j0)]) (by rw [hext 7 j0 hj0]) ?_
    have hj0 : j0 < N 7 := Nat.lt_of_lt_of_le hj0 (hNN 7)
    have hj1 : j1 < N 2 := Nat.lt_of_lt_of_le hj1 (hNN 2)
    have hj2 : j2 < N 19 := Nat.lt_of_lt_of_le hj2 (hNN 19)
    refine lv_dup hx hb d_Steps_init_8 rfl ?_
    obtain ⟨M4, eM4, h⟩ := bd_ob h
    refine al_thenv (M1 := M4) (al_runIN (As := []) (rest := [.ref (ad 8 (mN M0 8)), .ref (ad 7 j0)]) ⟨hx, hb, hml, hown, hts⟩ (c_Reckoner_init l D ad ca N M2 M4 (mN M0 8) eM4 hwf ⟨hok.2.2.1, hok.2.2.2.1⟩ hn3 _) rfl (by show fg_nm y_Reckoner_init 0; decide +kernel) o_357 u_358 u_186 u_359 ⟨Nat.le_of_ble_eq_true rfl, Nat.le_of_ble_eq_true rfl⟩ hX hz hK hP hD hS hA rfl hl.1 (Nat.le_of_ble_eq_true rfl) d_Steps_init_9 (al_g hok)) hP hD hok hK hS hA (fun ad N H locs hext hNN hwf hok1 heN hq9 hP hD hS => ?_)
    have hext0 := al_ext hext hext0 hok
    have hok := hok1
    have hl : lv_has ls 3 [(0, .ref (ad 7 j0)), (1, .ref (ad 2 j1)), (2, .ref (ad 19 j2))] := by rw [hext 7 j0 hj0, hext 2 j1 hj1, hext 19 j2 hj2]; exact hl
    refine W.eq (g2 := F0 m 12 ls [.ref (ad 8 (mN M0 8)), .ref (ad 7 j0)]) (by rw [hext 8 (mN M0 8) hn3, hext 7 j0 hj0]) ?_
    have hj0 : j0 < N 7 := Nat.lt_of_lt_of_le hj0 (hNN 7)
    have hj1 : j1 < N 2 := Nat.lt_of_lt_of_le hj1 (hNN 2)
    have hj2 : j2 < N 19 := Nat.lt_of_lt_of_le hj2 (hNN 19)
    have hn3 : (mN M0 8) < N 8 := Nat.lt_of_lt_of_le hn3 (hNN 8)
    obtain ⟨M5, eM5, h⟩ := st_ob h
    refine P_Steps_2 eM5 hx hb hts hown hK hP hD hwf hS hj0 hn3 hin (hts _ u_457) d_Steps_init_12 (fun H locs hP hD hwf hS => ?_)
    refine lv_aload_n hx hb d_Steps_init_15 rfl (lv_at hl 0 rfl) ?_
    obtain ⟨g6, h⟩ := gd_ob h
    obtain ⟨M7, eM7, h⟩ := st_ob h
    refine al_new (k := 10) (fs := [.int 0, .int 0, .int 0, .int 0, .int 0, .int 0, .null]) (C := "FilterGuard$Cell") (T := F_Cell) (Nf := 7) eM7 g6 hx hb hts i_Cell t_Cell t_Cell_ok hown (hts _ u_412) (hts _ u_413) (hts _ u_188) hK hP hD hwf hok hS hA (by decide) rfl (by decide) z_Cell rfl rfl rfl d_Steps_init_16 (fun ad N H hext hNN hn8 hwf hok1 hP hD hS => ?_)
    have hext0 := al_ext hext hext0 hok
    have hok := hok1
    have hl : lv_has ls 3 [(0, .ref (ad 7 j0)), (1, .ref (ad 2 j1)), (2, .ref (ad 19 j2))] := by rw [hext 7 j0 hj0, hext 2 j1 hj1, hext 19 j2 hj2]; exact hl
    refine W.eq (g2 := F0 m 19 ls [.ref (ad 10 (mN M5 10)), .ref (ad 7 j0)]) (by rw [hext 7 j0 hj0]) ?_
    have hj0 : j0 < N 7 := Nat.lt_of_lt_of_le hj0 (hNN 7)
    have hj1 : j1 < N 2 := Nat.lt_of_lt_of_le hj1 (hNN 2)
    have hj2 : j2 < N 19 := Nat.lt_of_lt_of_le hj2 (hNN 19)
    refine lv_dup hx hb d_Steps_init_19 rfl ?_
    obtain ⟨M9, eM9, h⟩ := bd_ob h
    refine al_thenv (M1 := M9) (al_runIN (As := []) (rest := [.ref (ad 10 (mN M5 10)), .ref (ad 7 j0)]) ⟨hx, hb, hml, hown, hts⟩ (c_Cell_init l D ad ca N M7 M9 (mN M5 10) eM9 hwf ⟨hok.2.2.1, hok.2.2.2.1⟩ hn8 _) rfl (by show fg_nm y_Cell_init 0; decide +kernel) o_414 u_415 u_188 u_416 ⟨Nat.le_of_ble_eq_true rfl, Nat.le_of_ble_eq_true rfl⟩ hX hz hK hP hD hS hA rfl hl.1 (Nat.le_of_ble_eq_true rfl) d_Steps_init_20 (al_g hok)) hP hD hok hK hS hA (fun ad N H locs hext hNN hwf hok1 heN hq9 hP hD hS => ?_)
    have hext0 := al_ext hext hext0 hok
    have hok := hok1
    have hl : lv_has ls 3 [(0, .ref (ad 7 j0)), (1, .ref (ad 2 j1)), (2, .ref (ad 19 j2))] := by rw [hext 7 j0 hj0, hext 2 j1 hj1, hext 19 j2 hj2]; exact hl
    refine W.eq (g2 := F0 m 23 ls [.ref (ad 10 (mN M5 10)), .ref (ad 7 j0)]) (by rw [hext 10 (mN M5 10) hn8, hext 7 j0 hj0]) ?_
    have hj0 : j0 < N 7 := Nat.lt_of_lt_of_le hj0 (hNN 7)
    have hj1 : j1 < N 2 := Nat.lt_of_lt_of_le hj1 (hNN 2)
    have hj2 : j2 < N 19 := Nat.lt_of_lt_of_le hj2 (hNN 19)
    have hn8 : (mN M5 10) < N 10 := Nat.lt_of_lt_of_le hn8 (hNN 10)
    obtain ⟨M10, eM10, h⟩ := st_ob h
    refine P_Steps_3 eM10 hx hb hts hown hK hP hD hwf hS hj0 hn8 hin (hts _ u_458) d_Steps_init_23 (fun H locs hP hD hwf hS => ?_)
    refine lv_aload_n hx hb d_Steps_init_26 rfl (lv_at hl 0 rfl) ?_
    obtain ⟨g11, h⟩ := gd_ob h
    obtain ⟨M12, eM12, h⟩ := st_ob h
    refine al_new (k := 11) (fs := [.long 0, .long 0, .long 0, .long 0, .long 0, .long 0]) (C := "FilterGuard$Num") (T := F_Num) (Nf := 6) eM12 g11 hx hb hts i_Num t_Num t_Num_ok hown (hts _ u_453) (hts _ u_362) (hts _ u_187) hK hP hD hwf hok hS hA (by decide) rfl (by decide) z_Num rfl rfl rfl d_Steps_init_27 (fun ad N H hext hNN hn13 hwf hok1 hP hD hS => ?_)
    have hext0 := al_ext hext hext0 hok
    have hok := hok1
    have hl : lv_has ls 3 [(0, .ref (ad 7 j0)), (1, .ref (ad 2 j1)), (2, .ref (ad 19 j2))] := by rw [hext 7 j0 hj0, hext 2 j1 hj1, hext 19 j2 hj2]; exact hl
    refine W.eq (g2 := F0 m 30 ls [.ref (ad 11 (mN M10 11)), .ref (ad 7 j0)]) (by rw [hext 7 j0 hj0]) ?_
    have hj0 : j0 < N 7 := Nat.lt_of_lt_of_le hj0 (hNN 7)
    have hj1 : j1 < N 2 := Nat.lt_of_lt_of_le hj1 (hNN 2)
    have hj2 : j2 < N 19 := Nat.lt_of_lt_of_le hj2 (hNN 19)
    refine lv_dup hx hb d_Steps_init_30 rfl ?_
    obtain ⟨M14, eM14, h⟩ := bd_ob h
    refine me_thenv0 (M1 := M14) (al_runIN (As := []) (rest := [.ref (ad 11 (mN M10 11)), .ref (ad 7 j0)]) ⟨hx, hb, hml, hown, hts⟩ (c_Num_init l D ad ca N M12 M14 (mN M10 11) eM14 hwf hn13 _) rfl (by show fg_nm y_Num_init 0; decide +kernel) o_454 u_364 u_187 u_365 ⟨Nat.le_of_ble_eq_true rfl, Nat.le_of_ble_eq_true rfl⟩ hX hz hK hP hD hS hA rfl hl.1 (Nat.le_of_ble_eq_true rfl) d_Steps_init_31 (al_f hok)) hP hD hK hS hA rfl rfl (fun H locs hw hP hD hS => ?_)
    obtain ⟨hwf, hk9⟩ := hw
    obtain ⟨M15, eM15, h⟩ := st_ob h
    refine P_Steps_4 eM15 hx hb hts hown hK hP hD hwf hS hj0 hn13 hin (hts _ u_459) d_Steps_init_34 (fun H locs hP hD hwf hS => ?_)
    refine lv_aload_n hx hb d_Steps_init_37 rfl (lv_at hl 0 rfl) ?_
    obtain ⟨g16, h⟩ := gd_ob h
    obtain ⟨M17, eM17, h⟩ := st_ob h
    refine al_new (k := 11) (fs := [.long 0, .long 0, .long 0, .long 0, .long 0, .long 0]) (C := "FilterGuard$Num") (T := F_Num) (Nf := 6) eM17 g16 hx hb hts i_Num t_Num t_Num_ok hown (hts _ u_453) (hts _ u_362) (hts _ u_187) hK hP hD hwf hok hS hA (by decide) rfl (by decide) z_Num rfl rfl rfl d_Steps_init_38 (fun ad N H hext hNN hn18 hwf hok1 hP hD hS => ?_)
    have hext0 := al_ext hext hext0 hok
    have hok := hok1
    have hl : lv_has ls 3 [(0, .ref (ad 7 j0)), (1, .ref (ad 2 j1)), (2, .ref (ad 19 j2))] := by rw [hext 7 j0 hj0, hext 2 j1 hj1, hext 19 j2 hj2]; exact hl
    refine W.eq (g2 := F0 m 41 ls [.ref (ad 11 (mN M15 11)), .ref (ad 7 j0)]) (by rw [hext 7 j0 hj0]) ?_
    have hj0 : j0 < N 7 := Nat.lt_of_lt_of_le hj0 (hNN 7)
    have hj1 : j1 < N 2 := Nat.lt_of_lt_of_le hj1 (hNN 2)
    have hj2 : j2 < N 19 := Nat.lt_of_lt_of_le hj2 (hNN 19)
    refine lv_dup hx hb d_Steps_init_41 rfl ?_
    obtain ⟨M19, eM19, h⟩ := bd_ob h
    refine me_thenv0 (M1 := M19) (al_runIN (As := []) (rest := [.ref (ad 11 (mN M15 11)), .ref (ad 7 j0)]) ⟨hx, hb, hml, hown, hts⟩ (c_Num_init l D ad ca N M17 M19 (mN M15 11) eM19 hwf hn18 _) rfl (by show fg_nm y_Num_init 0; decide +kernel) o_454 u_364 u_187 u_365 ⟨Nat.le_of_ble_eq_true rfl, Nat.le_of_ble_eq_true rfl⟩ hX hz hK hP hD hS hA rfl hl.1 (Nat.le_of_ble_eq_true rfl) d_Steps_init_42 (al_f hok)) hP hD hK hS hA rfl rfl (fun H locs hw hP hD hS => ?_)
    obtain ⟨hwf, hk9⟩ := hw
    obtain ⟨M20, eM20, h⟩ := st_ob h
    refine P_Steps_15 eM20 hx hb hts hown hK hP hD hwf hS hj0 hn18 hin (hts _ u_472) d_Steps_init_45 (fun H locs hP hD hwf hS => ?_)
    refine lv_aload_n hx hb d_Steps_init_48 rfl (lv_at hl 0 rfl) ?_
    obtain ⟨g21, h⟩ := gd_ob h
    obtain ⟨M22, eM22, h⟩ := st_ob h
    refine al_new (k := 11) (fs := [.long 0, .long 0, .long 0, .long 0, .long 0, .long 0]) (C := "FilterGuard$Num") (T := F_Num) (Nf := 6) eM22 g21 hx hb hts i_Num t_Num t_Num_ok hown (hts _ u_453) (hts _ u_362) (hts _ u_187) hK hP hD hwf hok hS hA (by decide) rfl (by decide) z_Num rfl rfl rfl d_Steps_init_49 (fun ad N H hext hNN hn23 hwf hok1 hP hD hS => ?_)
    have hext0 := al_ext hext hext0 hok
    have hok := hok1
    have hl : lv_has ls 3 [(0, .ref (ad 7 j0)), (1, .ref (ad 2 j1)), (2, .ref (ad 19 j2))] := by rw [hext 7 j0 hj0, hext 2 j1 hj1, hext 19 j2 hj2]; exact hl
    refine W.eq (g2 := F0 m 52 ls [.ref (ad 11 (mN M20 11)), .ref (ad 7 j0)]) (by rw [hext 7 j0 hj0]) ?_
    have hj0 : j0 < N 7 := Nat.lt_of_lt_of_le hj0 (hNN 7)
    have hj1 : j1 < N 2 := Nat.lt_of_lt_of_le hj1 (hNN 2)
    have hj2 : j2 < N 19 := Nat.lt_of_lt_of_le hj2 (hNN 19)
    refine lv_dup hx hb d_Steps_init_52 rfl ?_
    obtain ⟨M24, eM24, h⟩ := bd_ob h
    refine me_thenv0 (M1 := M24) (al_runIN (As := []) (rest := [.ref (ad 11 (mN M20 11)), .ref (ad 7 j0)]) ⟨hx, hb, hml, hown, hts⟩ (c_Num_init l D ad ca N M22 M24 (mN M20 11) eM24 hwf hn23 _) rfl (by show fg_nm y_Num_init 0; decide +kernel) o_454 u_364 u_187 u_365 ⟨Nat.le_of_ble_eq_true rfl, Nat.le_of_ble_eq_true rfl⟩ hX hz hK hP hD hS hA rfl hl.1 (Nat.le_of_ble_eq_true rfl) d_Steps_init_53 (al_f hok)) hP hD hK hS hA rfl rfl (fun H locs hw hP hD hS => ?_)
    obtain ⟨hwf, hk9⟩ := hw
    obtain ⟨M25, eM25, h⟩ := st_ob h
    refine P_Steps_16 eM25 hx hb hts hown hK hP hD hwf hS hj0 hn23 hin (hts _ u_473) d_Steps_init_56 (fun H locs hP hD hwf hS => ?_)
    refine lv_aload_n hx hb d_Steps_init_59 rfl (lv_at hl 0 rfl) ?_
    obtain ⟨g26, h⟩ := gd_ob h
    obtain ⟨M27, eM27, h⟩ := st_ob h
    refine al_new (k := 11) (fs := [.long 0, .long 0, .long 0, .long 0, .long 0, .long 0]) (C := "FilterGuard$Num") (T := F_Num) (Nf := 6) eM27 g26 hx hb hts i_Num t_Num t_Num_ok hown (hts _ u_453) (hts _ u_362) (hts _ u_187) hK hP hD hwf hok hS hA (by decide) rfl (by decide) z_Num rfl rfl rfl d_Steps_init_60 (fun ad N H hext hNN hn28 hwf hok1 hP hD hS => ?_)
    have hext0 := al_ext hext hext0 hok
    have hok := hok1
    have hl : lv_has ls 3 [(0, .ref (ad 7 j0)), (1, .ref (ad 2 j1)), (2, .ref (ad 19 j2))] := by rw [hext 7 j0 hj0, hext 2 j1 hj1, hext 19 j2 hj2]; exact hl
    refine W.eq (g2 := F0 m 63 ls [.ref (ad 11 (mN M25 11)), .ref (ad 7 j0)]) (by rw [hext 7 j0 hj0]) ?_
    have hj0 : j0 < N 7 := Nat.lt_of_lt_of_le hj0 (hNN 7)
    have hj1 : j1 < N 2 := Nat.lt_of_lt_of_le hj1 (hNN 2)
    have hj2 : j2 < N 19 := Nat.lt_of_lt_of_le hj2 (hNN 19)
    refine lv_dup hx hb d_Steps_init_63 rfl ?_
    obtain ⟨M29, eM29, h⟩ := bd_ob h
    refine me_thenv0 (M1 := M29) (al_runIN (As := []) (rest := [.ref (ad 11 (mN M25 11)), .ref (ad 7 j0)]) ⟨hx, hb, hml, hown, hts⟩ (c_Num_init l D ad ca N M27 M29 (mN M25 11) eM29 hwf hn28 _) rfl (by show fg_nm y_Num_init 0; decide +kernel) o_454 u_364 u_187 u_365 ⟨Nat.le_of_ble_eq_true rfl, Nat.le_of_ble_eq_true rfl⟩ hX hz hK hP hD hS hA rfl hl.1 (Nat.le_of_ble_eq_true rfl) d_Steps_init_64 (al_f hok)) hP hD hK hS hA rfl rfl (fun H locs hw hP hD hS => ?_)
    obtain ⟨hwf, hk9⟩ := hw
    obtain ⟨M30, eM30, h⟩ := st_ob h
    refine P_Steps_17 eM30 hx hb hts hown hK hP hD hwf hS hj0 hn28 hin (hts _ u_474) d_Steps_init_67 (fun H locs hP hD hwf hS => ?_)
    refine lv_aload_n hx hb d_Steps_init_70 rfl (lv_at hl 0 rfl) ?_
    obtain ⟨g31, h⟩ := gd_ob h
    obtain ⟨M32, eM32, h⟩ := st_ob h
    refine al_new (k := 11) (fs := [.long 0, .long 0, .long 0, .long 0, .long 0, .long 0]) (C := "FilterGuard$Num") (T := F_Num) (Nf := 6) eM32 g31 hx hb hts i_Num t_Num t_Num_ok hown (hts _ u_453) (hts _ u_362) (hts _ u_187) hK hP hD hwf hok hS hA (by decide) rfl (by decide) z_Num rfl rfl rfl d_Steps_init_71 (fun ad N H hext hNN hn33 hwf hok1 hP hD hS => ?_)
    have hext0 := al_ext hext hext0 hok
    have hok := hok1
    have hl : lv_has ls 3 [(0, .ref (ad 7 j0)), (1, .ref (ad 2 j1)), (2, .ref (ad 19 j2))] := by rw [hext 7 j0 hj0, hext 2 j1 hj1, hext 19 j2 hj2]; exact hl
    refine W.eq (g2 := F0 m 74 ls [.ref (ad 11 (mN M30 11)), .ref (ad 7 j0)]) (by rw [hext 7 j0 hj0]) ?_
    have hj0 : j0 < N 7 := Nat.lt_of_lt_of_le hj0 (hNN 7)
    have hj1 : j1 < N 2 := Nat.lt_of_lt_of_le hj1 (hNN 2)
    have hj2 : j2 < N 19 := Nat.lt_of_lt_of_le hj2 (hNN 19)
    refine lv_dup hx hb d_Steps_init_74 rfl ?_
    obtain ⟨M34, eM34, h⟩ := bd_ob h
    refine me_thenv0 (M1 := M34) (al_runIN (As := []) (rest := [.ref (ad 11 (mN M30 11)), .ref (ad 7 j0)]) ⟨hx, hb, hml, hown, hts⟩ (c_Num_init l D ad ca N M32 M34 (mN M30 11) eM34 hwf hn33 _) rfl (by show fg_nm y_Num_init 0; decide +kernel) o_454 u_364 u_187 u_365 ⟨Nat.le_of_ble_eq_true rfl, Nat.le_of_ble_eq_true rfl⟩ hX hz hK hP hD hS hA rfl hl.1 (Nat.le_of_ble_eq_true rfl) d_Steps_init_75 (al_f hok)) hP hD hK hS hA rfl rfl (fun H locs hw hP hD hS => ?_)
    obtain ⟨hwf, hk9⟩ := hw
    obtain ⟨M35, eM35, h⟩ := st_ob h
    refine P_Steps_18 eM35 hx hb hts hown hK hP hD hwf hS hj0 hn33 hin (hts _ u_475) d_Steps_init_78 (fun H locs hP hD hwf hS => ?_)
    refine lv_aload_n hx hb d_Steps_init_81 rfl (lv_at hl 0 rfl) ?_
    refine lv_aload_n hx hb d_Steps_init_82 rfl (lv_at hl 1 rfl) ?_
    obtain ⟨M36, eM36, h⟩ := st_ob h
    refine P_Steps_0 eM36 hx hb hts hown hK hP hD hwf hS hj0 hj1 hin (hts _ u_455) d_Steps_init_83 (fun H locs hP hD hwf hS => ?_)
    refine lv_aload_n hx hb d_Steps_init_86 rfl (lv_at hl 0 rfl) ?_
    refine lv_aload_n hx hb d_Steps_init_87 rfl (lv_at hl 2 rfl) ?_
    obtain ⟨M37, eM37, h⟩ := st_ob h
    refine P_Steps_1 eM37 hx hb hts hown hK hP hD hwf hS hj0 hj2 hin (hts _ u_456) d_Steps_init_88 (fun H locs hP hD hwf hS => ?_)
    exact al_retv h hx hb hr hlocks hwf hok hext0 hP hK hD hS d_Steps_init_91
  rw [hN9] at hcs
  exact hcs
theorem d_State_init_21 : decode prog_10_method_1_code 21 = .ok (.iload_n 1, 1) := by decide +kernel
theorem d_State_init_22 : decode prog_10_method_1_code 22 = .ok (.bipush 75, 2) := by decide +kernel
theorem d_State_init_24 : decode prog_10_method_1_code 24 = .ok (.if_icmp .ge 22, 3) := by decide +kernel
theorem d_State_init_46 : decode prog_10_method_1_code 46 = .ok (.return_, 1) := by decide +kernel
theorem d_State_init_27 : decode prog_10_method_1_code 27 = .ok (.aload_n 0, 1) := by decide +kernel
theorem d_State_init_28 : decode prog_10_method_1_code 28 = .ok (.getfield 11, 3) := by decide +kernel
theorem u_523 : Cond.fieldLink "FilterGuard$State" 11 "FilterGuard$State" "cells" "[LFilterGuard$Cell;" ∈ fg_g := fg_in (List.mem_of_getElem? (i := 523) (by decide +kernel)) rfl
theorem g_State_0 {p : Program} {l : Launch} {e : Env} {R : Room} {s : Jvm.State} {m : MethodId} {args : Array Value} {below : List Frame} {meth : Method} {c : Code} {H : Heap} {locs : List Loc} {cells slots : Nat} {Q : Jvm.State → Prop} {cc : ByteArray} {pc : Nat} {ls : Array Slot} {rest : List Value} {D : va_G} {ad : Nat → Nat → Nat} {ca : Nat → ClassId} {M : me_M} {N : Nat → Nat} {own : String} {index j : Nat} (hexec : p.tables.exec = Jvm.exec) (hb : c.code = cc) (hts : ∀ w ∈ fg_g, w.before args s = true) (hown : s.vm.findClass own = some m.cls) (hK : va_K D classes (me_T ca) s) (hP : va_P D classes (me_W ad ca M) H) (hwf : me_wf N M) (hj : j < N 9) (hlink : (Cond.fieldLink own index "FilterGuard$State" "cells" "[LFilterGuard$Cell;").before args s = true) (hdg : decode cc pc = .ok (.getfield index, 3)) (kk : W p l e R s m args below meth c H locs cells slots Q (F0 m (pc + 3) ls (va_rf ((mR M 9 j 0).map (ad 18)) :: rest))) : W p l e R s m args below meth c H locs cells slots Q (F0 m pc ls (.ref (ad 9 j) :: rest)) := me_get (k := 9) (f := 0) (C := "FilterGuard$State") (T := F_State) (Nf := 5) hexec hb hts i_State hown hK hP hwf hj (by decide) rfl (by decide) (by decide) hlink (fun _ h9 => h9) hdg kk
theorem d_State_init_31 : decode prog_10_method_1_code 31 = .ok (.iload_n 1, 1) := by decide +kernel
theorem d_State_init_32 : decode prog_10_method_1_code 32 = .ok (.new 9, 3) := by decide +kernel
theorem u_520 : Cond.classLink "FilterGuard$State" 9 "FilterGuard$Cell" ∈ fg_g := fg_in (List.mem_of_getElem? (i := 520) (by decide +kernel)) rfl
theorem d_State_init_35 : decode prog_10_method_1_code 35 = .ok (.dup, 1) := by decide +kernel
theorem d_State_init_36 : decode prog_10_method_1_code 36 = .ok (.invokespecial 21, 3) := by decide +kernel
theorem o_522 : Cond.methodLinkNest "FilterGuard$State" 21 ⟨"FilterGuard$Cell", "<init>", "()V"⟩ "FilterGuard" ∈ lw_tbl := List.mem_of_getElem? (i := 522) (by decide +kernel)
theorem d_State_init_39 : decode prog_10_method_1_code 39 = .ok (.aastore, 1) := by decide +kernel
theorem d_State_init_40 : decode prog_10_method_1_code 40 = .ok (.iinc 1 1, 3) := by decide +kernel
theorem d_State_init_43 : decode prog_10_method_1_code 43 = .ok (.goto (-22), 3) := by decide +kernel
theorem d_State_init_0 : decode prog_10_method_1_code 0 = .ok (.aload_n 0, 1) := by decide +kernel
theorem d_State_init_1 : decode prog_10_method_1_code 1 = .ok (.invokespecial 3, 3) := by decide +kernel
theorem u_519 : Cond.methodLink "FilterGuard$State" 3 ⟨"java/lang/Object", "<init>", "()V"⟩ ∈ fg_g := fg_in (List.mem_of_getElem? (i := 519) (by decide +kernel)) rfl
theorem d_State_init_4 : decode prog_10_method_1_code 4 = .ok (.aload_n 0, 1) := by decide +kernel
theorem d_State_init_5 : decode prog_10_method_1_code 5 = .ok (.bipush 75, 2) := by decide +kernel
theorem d_State_init_7 : decode prog_10_method_1_code 7 = .ok (.anewarray 9, 3) := by decide +kernel
theorem o_521 : Cond.arrayOver (.object "FilterGuard$Cell") ∈ lw_tbl := List.mem_of_getElem? (i := 521) (by decide +kernel)
theorem d_State_init_10 : decode prog_10_method_1_code 10 = .ok (.putfield 11, 3) := by decide +kernel
theorem P_State_0 {p : Program} {l : Launch} {e : Env} {R : Room} {s : Jvm.State} {m : MethodId} {args : Array Value} {below : List Frame} {meth : Method} {c : Code} {H : Heap} {locs : List Loc} {cells slots : Nat} {Q : Jvm.State → Prop} {cc : ByteArray} {pc : Nat} {ls : Array Slot} {rest : List Value} {D : va_G} {A : Nat → Prop} {H0 : Heap} {ad : Nat → Nat → Nat} {ca : Nat → ClassId} {M M1 : me_M} {N : Nat → Nat} {index j : Nat} {v : Nat} (he : M1 = wR M 9 j 0 (some v)) (hexec : p.tables.exec = Jvm.exec) (hb : c.code = cc) (hts : ∀ w ∈ fg_g, w.before args s = true) (hown : s.vm.findClass "FilterGuard$State" = some m.cls) (hK : va_K D classes (me_T ca) s) (hP : va_P D classes (me_W ad ca M) H) (hD : va_D A (me_W ad ca M)) (hwf : me_wf N M) (hS : va_S A H0 H locs) (hj : j < N 9) (hv : v < N 18) (hin2 : meth.name = "<init>") (hlink : (Cond.fieldLink "FilterGuard$State" index "FilterGuard$State" "cells" "[LFilterGuard$Cell;").before args s = true) (hdg : decode cc pc = .ok (.putfield index, 3)) (kk : ∀ (H1 : Heap) (locs1 : List Loc), va_P D classes (me_W ad ca M1) H1 → va_D A (me_W ad ca M1) → me_wf N M1 → va_S A H0 H1 locs1 → W p l e R s m args below meth c H1 locs1 cells slots Q (F0 m (pc + 3) ls rest)) : W p l e R s m args below meth c H locs cells slots Q (F0 m pc ls (.ref (ad 18 v) :: .ref (ad 9 j) :: rest)) := by
  subst he
  exact me_putF (M1 := wR M 9 j 0 (some v)) (k := 9) (f := 0) (C := "FilterGuard$State") (T := F_State) (Nf := 5) hexec hb hts i_State t_State t_State_ok n_State hown hK hP hD hwf hS hj (by decide) rfl (by decide) (by decide) hlink (fun _ h9 => h9) rfl hin2 rfl rfl rfl rfl (fun a b h => me_wRE h) (me_fRw (v := some v) (by decide) (by decide)) hdg (fun H1 locs1 a1 a2 a3 => kk H1 locs1 a1 a2 (me_wfR hwf (fun t z => by cases z; exact hv)) a3)
theorem d_State_init_13 : decode prog_10_method_1_code 13 = .ok (.aload_n 0, 1) := by decide +kernel
theorem d_State_init_14 : decode prog_10_method_1_code 14 = .ok (.bipush 11, 2) := by decide +kernel
theorem d_State_init_16 : decode prog_10_method_1_code 16 = .ok (.putfield 17, 3) := by decide +kernel
theorem u_527 : Cond.fieldLink "FilterGuard$State" 17 "FilterGuard$State" "used" "I" ∈ fg_g := fg_in (List.mem_of_getElem? (i := 527) (by decide +kernel)) rfl
theorem p_State_1 {p : Program} {l : Launch} {e : Env} {R : Room} {s : Jvm.State} {m : MethodId} {args : Array Value} {below : List Frame} {meth : Method} {c : Code} {H : Heap} {locs : List Loc} {cells slots : Nat} {Q : Jvm.State → Prop} {cc : ByteArray} {pc : Nat} {ls : Array Slot} {rest : List Value} {D : va_G} {A : Nat → Prop} {H0 : Heap} {ad : Nat → Nat → Nat} {ca : Nat → ClassId} {M M1 : me_M} {N : Nat → Nat} {own : String} {index j : Nat} {v : Int32} (he : M1 = wI M 9 j 1 v) (hexec : p.tables.exec = Jvm.exec) (hb : c.code = cc) (hts : ∀ w ∈ fg_g, w.before args s = true) (hown : s.vm.findClass own = some m.cls) (hK : va_K D classes (me_T ca) s) (hP : va_P D classes (me_W ad ca M) H) (hD : va_D A (me_W ad ca M)) (hwf : me_wf N M) (hS : va_S A H0 H locs) (hj : j < N 9) (hlink : (Cond.fieldLink own index "FilterGuard$State" "used" "I").before args s = true) (hdg : decode cc pc = .ok (.putfield index, 3)) (kk : ∀ (H1 : Heap) (locs1 : List Loc), va_P D classes (me_W ad ca M1) H1 → va_D A (me_W ad ca M1) → me_wf N M1 → va_S A H0 H1 locs1 → W p l e R s m args below meth c H1 locs1 cells slots Q (F0 m (pc + 3) ls rest)) : W p l e R s m args below meth c H locs cells slots Q (F0 m pc ls (.int v :: .ref (ad 9 j) :: rest)) := by
  subst he
  exact me_put (M1 := wI M 9 j 1 v) (k := 9) (f := 1) (C := "FilterGuard$State") (T := F_State) (Nf := 5) hexec hb hts i_State t_State t_State_ok n_State hown hK hP hD hwf hS hj (by decide) rfl (by decide) (by decide) hlink (fun _ h9 => h9) rfl rfl rfl rfl (fun a b h => me_wIE h) (me_fIw (by decide) (by decide)) hdg (fun H1 locs1 a1 a2 a3 => kk H1 locs1 a1 a2 (me_wfI hwf (fun z => absurd z (by decide)) (fun z => absurd z (by decide))) a3)
theorem d_State_init_19 : decode prog_10_method_1_code 19 = .ok (.iconst 0, 1) := by decide +kernel
theorem d_State_init_20 : decode prog_10_method_1_code 20 = .ok (.istore_n 1, 1) := by decide +kernel
abbrev y_State_init : MethodName := ⟨"FilterGuard$State", "<init>", "()V"⟩
def rm_State_init (N0 : Nat → Nat) : Room := { frames := 3, cells := me_CL - me_cN N0, slots := me_SL - me_sN N0, locals := 70 }
abbrev q_State_init (D : va_G) (ad0 : Nat → Nat → Nat) (ca : Nat → ClassId) (N0 : Nat → Nat) (MZ : me_M) (A : Nat → Prop) : Array Value → Jvm.State → Outcome → Jvm.State → Prop := va_Qv (fun (u : Nat → Nat → Nat) => al_P ad0 N0 MZ u ∧ True) (fg_B D A (fun u => me_W u ca MZ) (fun _ => [])) A
set_option maxHeartbeats 4000000 in
set_option maxRecDepth 100000 in
theorem c_State_init (l : Launch) (D : va_G) (ad0 : Nat → Nat → Nat) (ca : Nat → ClassId) (N0 : Nat → Nat) (M0 MZ : me_M) (j0 : Nat) (h : f_State_init M0 j0 = (some MZ)) (hwf : me_wf N0 M0) (hcl : me_cN N0 ≤ me_CL ∧ me_sN N0 ≤ me_SL) (hj0 : j0 < N0 9) (sz : Nat) : Met l y_State_init (fg_w y_State_init prog_10_method_1_code 2 none) (rm_State_init N0) (va_Pc [.ref (ad0 9 j0)] (fz_P D (me_T ca) (me_W ad0 ca M0) sz)) (q_State_init D ad0 ca N0 MZ (va_A (me_W ad0 ca M0) sz)) (me_cN (mN MZ) - me_cN N0) (me_sN (mN MZ) - me_sN N0) (va_A (me_W ad0 ca M0) sz) := by
  refine fz_enter (fun A => q_State_init D ad0 ca N0 MZ A) (by decide +kernel) (Nat.le_of_ble_eq_true rfl) ?_
  intro p e s m below meth c ls A hx hb hml hown hts hr hlocks hin hP hK hD hS hA hX hl hz
  refine W.widen (k := me_cN N0 - me_cN N0) (n := me_sN N0 - me_sN N0) (Nat.zero_le _) (Nat.zero_le _) ?_
  unfold f_State_init at h
  have hok : me_ok N0 N0 := me_ok.rf hcl
  have b_21 : ∀ (fu : Nat), ∀ (ad : Nat → Nat → Nat) (N : Nat → Nat) (M : me_M) (y1 : Int32) (H : Heap) (locs : List Loc) (ls : Array Slot), f_State_init_l21 j0 fu M y1 = (some MZ) → me_wf N M → me_ok N0 N → (∀ a b, b < N0 a → ad a b = ad0 a b) → va_P D classes (me_W ad ca M) H → va_D A (me_W ad ca M) → va_S A s.heap H locs → lv_has ls 2 [(0, .ref (ad 9 j0)), (1, .int y1)] → W p l e (rm_State_init N0) s m [.ref (ad0 9 j0)].toArray below meth c H locs (me_cN N - me_cN N0) (me_sN N - me_sN N0) (MQ below (q_State_init D ad0 ca N0 MZ A) [.ref (ad0 9 j0)].toArray s (me_cN (mN MZ) - me_cN N0) (me_sN (mN MZ) - me_sN N0) A) (F0 m 21 ls []) := by
    intro fu
    induction fu with
    | zero =>
      intro ad N M y1 H locs ls h hwf hok hext0 hP hD hS hl
      cases h
    | succ fu ih =>
      intro ad N M y1 H locs ls h hwf hok hext0 hP hD hS hl
      unfold f_State_init_l21 at h
      have hj0 : j0 < N 9 := Nat.lt_of_lt_of_le hj0 (hok.2.2.2.2 9)
      refine lv_iload_n hx hb d_State_init_21 rfl (lv_at hl 1 rfl) ?_
      refine lv_bipush (v := 75) hx hb d_State_init_22 (by decide) ?_
      refine lv_icmp_ge (tgt := 46) hx hb d_State_init_24 (by decide) (fun c1 => ?_) (fun c1 => ?_)
      · have h := if_t c1 h
        exact al_retv h hx hb hr hlocks hwf hok hext0 hP hK hD hS d_State_init_46
      have h := if_f c1 h
      refine lv_aload_n hx hb d_State_init_27 rfl (lv_at hl 0 rfl) ?_
      refine g_State_0 hx hb hts hown hK hP hwf hj0 (hts _ u_523) d_State_init_28 ?_
      obtain ⟨j2, e3, h⟩ := bd_ob h
      have hj2 : j2 < N 18 := (hwf.2.1 9 j0 0 _ e3 (by decide) hj0)
      refine me_opt (j := j2) e3 ?_
      refine lv_iload_n hx hb d_State_init_31 rfl (lv_at hl 1 rfl) ?_
      obtain ⟨g4, h⟩ := gd_ob h
      obtain ⟨M5, eM5, h⟩ := st_ob h
      refine al_new (k := 10) (fs := [.int 0, .int 0, .int 0, .int 0, .int 0, .int 0, .null]) (C := "FilterGuard$Cell") (T := F_Cell) (Nf := 7) eM5 g4 hx hb hts i_Cell t_Cell t_Cell_ok hown (hts _ u_520) (hts _ u_413) (hts _ u_188) hK hP hD hwf hok hS hA (by decide) rfl (by decide) z_Cell rfl rfl rfl d_State_init_32 (fun ad N H hext hNN hn6 hwf hok1 hP hD hS => ?_)
      have hext0 := al_ext hext hext0 hok
      have hok := hok1
      have hl : lv_has ls 2 [(0, .ref (ad 9 j0)), (1, .int y1)] := by rw [hext 9 j0 hj0]; exact hl
      refine W.eq (g2 := F0 m 35 ls [.ref (ad 10 (mN M 10)), .int y1, .ref (ad 18 j2)]) (by rw [hext 18 j2 hj2]) ?_
      have hj0 : j0 < N 9 := Nat.lt_of_lt_of_le hj0 (hNN 9)
      have hj2 : j2 < N 18 := Nat.lt_of_lt_of_le hj2 (hNN 18)
      refine lv_dup hx hb d_State_init_35 rfl ?_
      obtain ⟨M7, eM7, h⟩ := bd_ob h
      refine al_thenv (M1 := M7) (al_runIN (As := []) (rest := [.ref (ad 10 (mN M 10)), .int y1, .ref (ad 18 j2)]) ⟨hx, hb, hml, hown, hts⟩ (c_Cell_init l D ad ca N M5 M7 (mN M 10) eM7 hwf ⟨hok.2.2.1, hok.2.2.2.1⟩ hn6 _) rfl (by show fg_nm y_Cell_init 0; decide +kernel) o_522 u_415 u_188 u_416 ⟨Nat.le_of_ble_eq_true rfl, Nat.le_of_ble_eq_true rfl⟩ hX hz hK hP hD hS hA rfl hl.1 (Nat.le_of_ble_eq_true rfl) d_State_init_36 (al_g hok)) hP hD hok hK hS hA (fun ad N H locs hext hNN hwf hok1 heN hq9 hP hD hS => ?_)
      have hext0 := al_ext hext hext0 hok
      have hok := hok1
      have hl : lv_has ls 2 [(0, .ref (ad 9 j0)), (1, .int y1)] := by rw [hext 9 j0 hj0]; exact hl
      refine W.eq (g2 := F0 m 39 ls [.ref (ad 10 (mN M 10)), .int y1, .ref (ad 18 j2)]) (by rw [hext 10 (mN M 10) hn6, hext 18 j2 hj2]) ?_
      have hj0 : j0 < N 9 := Nat.lt_of_lt_of_le hj0 (hNN 9)
      have hn6 : (mN M 10) < N 10 := Nat.lt_of_lt_of_le hn6 (hNN 10)
      have hj2 : j2 < N 18 := Nat.lt_of_lt_of_le hj2 (hNN 18)
      obtain ⟨g8, h⟩ := gd_ob h
      obtain ⟨M9, eM9, h⟩ := st_ob h
      refine me_aast (k := 18) (t := 10) eM9 hx hb hK hP hD hwf hS hj2 hn6 (by decide) (by decide) (by decide) rfl rfl (fun _ => rfl) g8 d_State_init_39 (fun H locs hP hD hwf hS => ?_)
      refine lv_iinc (v := y1 + 1) (lv' := [(1, .int (y1 + 1)), (0, .ref (ad 9 j0))]) hx hb d_State_init_40 hl (k := 1) rfl (by rfl) (by decide) rfl (fun ls hl => ?_)
      refine lv_goto (tgt := 21) hx hb d_State_init_43 (by decide) ?_
      exact ih ad N M9 (y1 + 1) _ _ _ h hwf hok hext0 hP hD hS (lv_sub hl [1, 0] rfl)
  obtain ⟨ad, N, hext0, hok, hwf, hP, hD, hN9, had9, hj0⟩ : ∃ (ad : Nat → Nat → Nat) (N : Nat → Nat), (∀ a b, b < N0 a → ad a b = ad0 a b) ∧ me_ok N0 N ∧ me_wf N M0 ∧ va_P D classes (me_W ad ca M0) s.heap ∧ va_D A (me_W ad ca M0) ∧ N = N0 ∧ ad = ad0 ∧ j0 < N 9 := ⟨ad0, N0, fun _ _ _ => rfl, hok, hwf, hP, hD, rfl, rfl, hj0⟩
  have hl : lv_has ls 2 [(0, .ref (ad 9 j0))] := by rw [had9]; exact hl
  have hcs : W p l e (rm_State_init N0) s m [.ref (ad0 9 j0)].toArray below meth c s.heap [] (me_cN N - me_cN N0) (me_sN N - me_sN N0) (MQ below (q_State_init D ad0 ca N0 MZ A) [.ref (ad0 9 j0)].toArray s (me_cN (mN MZ) - me_cN N0) (me_sN (mN MZ) - me_sN N0) A) (F0 m 0 ls []) := by
    clear had9
    refine lv_aload_n hx hb d_State_init_0 rfl (lv_at hl 0 rfl) ?_
    refine W.objInit hx hb hown (hts _ u_519) (hts _ u_210) (hts _ u_211) rfl (by rw [hml]; exact hl.1) rfl d_State_init_1 (Nat.le_of_ble_eq_true rfl) (Nat.le_of_ble_eq_true rfl) ?_
    refine W.eq (g2 := F0 m 4 ls []) rfl ?_
    refine lv_aload_n hx hb d_State_init_4 rfl (lv_at hl 0 rfl) ?_
    refine lv_bipush (v := 75) hx hb d_State_init_5 (by decide) ?_
    obtain ⟨g10, h⟩ := gd_ob h
    obtain ⟨M11, eM11, h⟩ := st_ob h
    refine al_newq (k := 18) (C := "FilterGuard$Cell") eM11 g10 hx hb hown (hts _ u_520) (hX _ o_521 rfl) hK hP hD hwf hok hS hA (by decide) (by decide) rfl (by decide) rfl rfl d_State_init_7 (fun ad N H hext hNN hn12 hwf hok1 hP hD hS => ?_)
    have hext0 := al_ext hext hext0 hok
    have hok := hok1
    have hl : lv_has ls 2 [(0, .ref (ad 9 j0))] := by rw [hext 9 j0 hj0]; exact hl
    refine W.eq (g2 := F0 m 10 ls [.ref (ad 18 (mN M0 18)), .ref (ad 9 j0)]) (by rw [hext 9 j0 hj0]) ?_
    have hj0 : j0 < N 9 := Nat.lt_of_lt_of_le hj0 (hNN 9)
    obtain ⟨M13, eM13, h⟩ := st_ob h
    refine P_State_0 eM13 hx hb hts hown hK hP hD hwf hS hj0 hn12 hin (hts _ u_523) d_State_init_10 (fun H locs hP hD hwf hS => ?_)
    refine lv_aload_n hx hb d_State_init_13 rfl (lv_at hl 0 rfl) ?_
    refine lv_bipush (v := 11) hx hb d_State_init_14 (by decide) ?_
    obtain ⟨M14, eM14, h⟩ := st_ob h
    refine p_State_1 eM14 hx hb hts hown hK hP hD hwf hS hj0 (hts _ u_527) d_State_init_16 (fun H locs hP hD hwf hS => ?_)
    refine lv_iconst (v := 0) hx hb d_State_init_19 (by decide) ?_
    refine lv_istore_n (lv' := [(1, .int 0), (0, .ref (ad 9 j0))]) hx hb d_State_init_20 rfl hl (by decide) rfl (fun ls hl => ?_)
    exact b_21 _ ad N M14 (0 : Int32) _ _ _ h hwf hok hext0 hP hD hS (lv_sub hl [1, 0] rfl)
  rw [hN9] at hcs
  exact hcs
theorem d_Explorer_init_0 : decode prog_5_method_1_code 0 = .ok (.aload_n 0, 1) := by decide +kernel
theorem d_Explorer_init_1 : decode prog_5_method_1_code 1 = .ok (.invokespecial 3, 3) := by decide +kernel
theorem u_346 : Cond.methodLink "FilterGuard$Explorer" 3 ⟨"java/lang/Object", "<init>", "()V"⟩ ∈ fg_g := fg_in (List.mem_of_getElem? (i := 346) (by decide +kernel)) rfl
theorem d_Explorer_init_4 : decode prog_5_method_1_code 4 = .ok (.aload_n 0, 1) := by decide +kernel
theorem d_Explorer_init_5 : decode prog_5_method_1_code 5 = .ok (.sipush 200, 3) := by decide +kernel
theorem d_Explorer_init_8 : decode prog_5_method_1_code 8 = .ok (.anewarray 9, 3) := by decide +kernel
theorem u_347 : Cond.classLink "FilterGuard$Explorer" 9 "FilterGuard$State" ∈ fg_g := fg_in (List.mem_of_getElem? (i := 347) (by decide +kernel)) rfl
theorem o_348 : Cond.arrayOver (.object "FilterGuard$State") ∈ lw_tbl := List.mem_of_getElem? (i := 348) (by decide +kernel)
theorem d_Explorer_init_11 : decode prog_5_method_1_code 11 = .ok (.putfield 11, 3) := by decide +kernel
theorem u_549 : Cond.fieldLink "FilterGuard$Explorer" 11 "FilterGuard$Explorer" "kept" "[LFilterGuard$State;" ∈ fg_g := fg_in (List.mem_of_getElem? (i := 549) (by decide +kernel)) rfl
theorem P_Explorer_3 {p : Program} {l : Launch} {e : Env} {R : Room} {s : Jvm.State} {m : MethodId} {args : Array Value} {below : List Frame} {meth : Method} {c : Code} {H : Heap} {locs : List Loc} {cells slots : Nat} {Q : Jvm.State → Prop} {cc : ByteArray} {pc : Nat} {ls : Array Slot} {rest : List Value} {D : va_G} {A : Nat → Prop} {H0 : Heap} {ad : Nat → Nat → Nat} {ca : Nat → ClassId} {M M1 : me_M} {N : Nat → Nat} {index j : Nat} {v : Nat} (he : M1 = wR M 4 j 3 (some v)) (hexec : p.tables.exec = Jvm.exec) (hb : c.code = cc) (hts : ∀ w ∈ fg_g, w.before args s = true) (hown : s.vm.findClass "FilterGuard$Explorer" = some m.cls) (hK : va_K D classes (me_T ca) s) (hP : va_P D classes (me_W ad ca M) H) (hD : va_D A (me_W ad ca M)) (hwf : me_wf N M) (hS : va_S A H0 H locs) (hj : j < N 4) (hv : v < N 17) (hin2 : meth.name = "<init>") (hlink : (Cond.fieldLink "FilterGuard$Explorer" index "FilterGuard$Explorer" "kept" "[LFilterGuard$State;").before args s = true) (hdg : decode cc pc = .ok (.putfield index, 3)) (kk : ∀ (H1 : Heap) (locs1 : List Loc), va_P D classes (me_W ad ca M1) H1 → va_D A (me_W ad ca M1) → me_wf N M1 → va_S A H0 H1 locs1 → W p l e R s m args below meth c H1 locs1 cells slots Q (F0 m (pc + 3) ls rest)) : W p l e R s m args below meth c H locs cells slots Q (F0 m pc ls (.ref (ad 17 v) :: .ref (ad 4 j) :: rest)) := by
  subst he
  exact me_putF (M1 := wR M 4 j 3 (some v)) (k := 4) (f := 3) (C := "FilterGuard$Explorer") (T := F_Explorer) (Nf := 15) hexec hb hts i_Explorer t_Explorer t_Explorer_ok n_Explorer hown hK hP hD hwf hS hj (by decide) rfl (by decide) (by decide) hlink (fun _ h9 => h9) rfl hin2 rfl rfl rfl rfl (fun a b h => me_wRE h) (me_fRw (v := some v) (by decide) (by decide)) hdg (fun H1 locs1 a1 a2 a3 => kk H1 locs1 a1 a2 (me_wfR hwf (fun t z => by cases z; exact hv)) a3)
theorem d_Explorer_init_14 : decode prog_5_method_1_code 14 = .ok (.aload_n 0, 1) := by decide +kernel
theorem d_Explorer_init_15 : decode prog_5_method_1_code 15 = .ok (.sipush 200, 3) := by decide +kernel
theorem d_Explorer_init_18 : decode prog_5_method_1_code 18 = .ok (.anewarray 9, 3) := by decide +kernel
theorem d_Explorer_init_21 : decode prog_5_method_1_code 21 = .ok (.putfield 17, 3) := by decide +kernel
theorem u_550 : Cond.fieldLink "FilterGuard$Explorer" 17 "FilterGuard$Explorer" "waiting" "[LFilterGuard$State;" ∈ fg_g := fg_in (List.mem_of_getElem? (i := 550) (by decide +kernel)) rfl
theorem P_Explorer_4 {p : Program} {l : Launch} {e : Env} {R : Room} {s : Jvm.State} {m : MethodId} {args : Array Value} {below : List Frame} {meth : Method} {c : Code} {H : Heap} {locs : List Loc} {cells slots : Nat} {Q : Jvm.State → Prop} {cc : ByteArray} {pc : Nat} {ls : Array Slot} {rest : List Value} {D : va_G} {A : Nat → Prop} {H0 : Heap} {ad : Nat → Nat → Nat} {ca : Nat → ClassId} {M M1 : me_M} {N : Nat → Nat} {index j : Nat} {v : Nat} (he : M1 = wR M 4 j 4 (some v)) (hexec : p.tables.exec = Jvm.exec) (hb : c.code = cc) (hts : ∀ w ∈ fg_g, w.before args s = true) (hown : s.vm.findClass "FilterGuard$Explorer" = some m.cls) (hK : va_K D classes (me_T ca) s) (hP : va_P D classes (me_W ad ca M) H) (hD : va_D A (me_W ad ca M)) (hwf : me_wf N M) (hS : va_S A H0 H locs) (hj : j < N 4) (hv : v < N 17) (hin2 : meth.name = "<init>") (hlink : (Cond.fieldLink "FilterGuard$Explorer" index "FilterGuard$Explorer" "waiting" "[LFilterGuard$State;").before args s = true) (hdg : decode cc pc = .ok (.putfield index, 3)) (kk : ∀ (H1 : Heap) (locs1 : List Loc), va_P D classes (me_W ad ca M1) H1 → va_D A (me_W ad ca M1) → me_wf N M1 → va_S A H0 H1 locs1 → W p l e R s m args below meth c H1 locs1 cells slots Q (F0 m (pc + 3) ls rest)) : W p l e R s m args below meth c H locs cells slots Q (F0 m pc ls (.ref (ad 17 v) :: .ref (ad 4 j) :: rest)) := by
  subst he
  exact me_putF (M1 := wR M 4 j 4 (some v)) (k := 4) (f := 4) (C := "FilterGuard$Explorer") (T := F_Explorer) (Nf := 15) hexec hb hts i_Explorer t_Explorer t_Explorer_ok n_Explorer hown hK hP hD hwf hS hj (by decide) rfl (by decide) (by decide) hlink (fun _ h9 => h9) rfl hin2 rfl rfl rfl rfl (fun a b h => me_wRE h) (me_fRw (v := some v) (by decide) (by decide)) hdg (fun H1 locs1 a1 a2 a3 => kk H1 locs1 a1 a2 (me_wfR hwf (fun t z => by cases z; exact hv)) a3)
theorem d_Explorer_init_24 : decode prog_5_method_1_code 24 = .ok (.aload_n 0, 1) := by decide +kernel
theorem d_Explorer_init_25 : decode prog_5_method_1_code 25 = .ok (.bipush 76, 2) := by decide +kernel
theorem d_Explorer_init_27 : decode prog_5_method_1_code 27 = .ok (.newarray .int, 2) := by decide +kernel
theorem d_Explorer_init_29 : decode prog_5_method_1_code 29 = .ok (.putfield 20, 3) := by decide +kernel
theorem u_551 : Cond.fieldLink "FilterGuard$Explorer" 20 "FilterGuard$Explorer" "keptIdentities" "[I" ∈ fg_g := fg_in (List.mem_of_getElem? (i := 551) (by decide +kernel)) rfl
theorem P_Explorer_5 {p : Program} {l : Launch} {e : Env} {R : Room} {s : Jvm.State} {m : MethodId} {args : Array Value} {below : List Frame} {meth : Method} {c : Code} {H : Heap} {locs : List Loc} {cells slots : Nat} {Q : Jvm.State → Prop} {cc : ByteArray} {pc : Nat} {ls : Array Slot} {rest : List Value} {D : va_G} {A : Nat → Prop} {H0 : Heap} {ad : Nat → Nat → Nat} {ca : Nat → ClassId} {M M1 : me_M} {N : Nat → Nat} {index j : Nat} {v : Nat} (he : M1 = wR M 4 j 5 (some v)) (hexec : p.tables.exec = Jvm.exec) (hb : c.code = cc) (hts : ∀ w ∈ fg_g, w.before args s = true) (hown : s.vm.findClass "FilterGuard$Explorer" = some m.cls) (hK : va_K D classes (me_T ca) s) (hP : va_P D classes (me_W ad ca M) H) (hD : va_D A (me_W ad ca M)) (hwf : me_wf N M) (hS : va_S A H0 H locs) (hj : j < N 4) (hv : v < N 13) (hin2 : meth.name = "<init>") (hlink : (Cond.fieldLink "FilterGuard$Explorer" index "FilterGuard$Explorer" "keptIdentities" "[I").before args s = true) (hdg : decode cc pc = .ok (.putfield index, 3)) (kk : ∀ (H1 : Heap) (locs1 : List Loc), va_P D classes (me_W ad ca M1) H1 → va_D A (me_W ad ca M1) → me_wf N M1 → va_S A H0 H1 locs1 → W p l e R s m args below meth c H1 locs1 cells slots Q (F0 m (pc + 3) ls rest)) : W p l e R s m args below meth c H locs cells slots Q (F0 m pc ls (.ref (ad 13 v) :: .ref (ad 4 j) :: rest)) := by
  subst he
  exact me_putF (M1 := wR M 4 j 5 (some v)) (k := 4) (f := 5) (C := "FilterGuard$Explorer") (T := F_Explorer) (Nf := 15) hexec hb hts i_Explorer t_Explorer t_Explorer_ok n_Explorer hown hK hP hD hwf hS hj (by decide) rfl (by decide) (by decide) hlink (fun _ h9 => h9) rfl hin2 rfl rfl rfl rfl (fun a b h => me_wRE h) (me_fRw (v := some v) (by decide) (by decide)) hdg (fun H1 locs1 a1 a2 a3 => kk H1 locs1 a1 a2 (me_wfR hwf (fun t z => by cases z; exact hv)) a3)
theorem d_Explorer_init_32 : decode prog_5_method_1_code 32 = .ok (.aload_n 0, 1) := by decide +kernel
theorem d_Explorer_init_33 : decode prog_5_method_1_code 33 = .ok (.bipush 76, 2) := by decide +kernel
theorem d_Explorer_init_35 : decode prog_5_method_1_code 35 = .ok (.newarray .int, 2) := by decide +kernel
theorem d_Explorer_init_37 : decode prog_5_method_1_code 37 = .ok (.putfield 24, 3) := by decide +kernel
theorem u_552 : Cond.fieldLink "FilterGuard$Explorer" 24 "FilterGuard$Explorer" "itsIdentities" "[I" ∈ fg_g := fg_in (List.mem_of_getElem? (i := 552) (by decide +kernel)) rfl
theorem P_Explorer_6 {p : Program} {l : Launch} {e : Env} {R : Room} {s : Jvm.State} {m : MethodId} {args : Array Value} {below : List Frame} {meth : Method} {c : Code} {H : Heap} {locs : List Loc} {cells slots : Nat} {Q : Jvm.State → Prop} {cc : ByteArray} {pc : Nat} {ls : Array Slot} {rest : List Value} {D : va_G} {A : Nat → Prop} {H0 : Heap} {ad : Nat → Nat → Nat} {ca : Nat → ClassId} {M M1 : me_M} {N : Nat → Nat} {index j : Nat} {v : Nat} (he : M1 = wR M 4 j 6 (some v)) (hexec : p.tables.exec = Jvm.exec) (hb : c.code = cc) (hts : ∀ w ∈ fg_g, w.before args s = true) (hown : s.vm.findClass "FilterGuard$Explorer" = some m.cls) (hK : va_K D classes (me_T ca) s) (hP : va_P D classes (me_W ad ca M) H) (hD : va_D A (me_W ad ca M)) (hwf : me_wf N M) (hS : va_S A H0 H locs) (hj : j < N 4) (hv : v < N 13) (hin2 : meth.name = "<init>") (hlink : (Cond.fieldLink "FilterGuard$Explorer" index "FilterGuard$Explorer" "itsIdentities" "[I").before args s = true) (hdg : decode cc pc = .ok (.putfield index, 3)) (kk : ∀ (H1 : Heap) (locs1 : List Loc), va_P D classes (me_W ad ca M1) H1 → va_D A (me_W ad ca M1) → me_wf N M1 → va_S A H0 H1 locs1 → W p l e R s m args below meth c H1 locs1 cells slots Q (F0 m (pc + 3) ls rest)) : W p l e R s m args below meth c H locs cells slots Q (F0 m pc ls (.ref (ad 13 v) :: .ref (ad 4 j) :: rest)) := by
  subst he
  exact me_putF (M1 := wR M 4 j 6 (some v)) (k := 4) (f := 6) (C := "FilterGuard$Explorer") (T := F_Explorer) (Nf := 15) hexec hb hts i_Explorer t_Explorer t_Explorer_ok n_Explorer hown hK hP hD hwf hS hj (by decide) rfl (by decide) (by decide) hlink (fun _ h9 => h9) rfl hin2 rfl rfl rfl rfl (fun a b h => me_wRE h) (me_fRw (v := some v) (by decide) (by decide)) hdg (fun H1 locs1 a1 a2 a3 => kk H1 locs1 a1 a2 (me_wfR hwf (fun t z => by cases z; exact hv)) a3)
theorem d_Explorer_init_40 : decode prog_5_method_1_code 40 = .ok (.aload_n 0, 1) := by decide +kernel
theorem d_Explorer_init_41 : decode prog_5_method_1_code 41 = .ok (.aload_n 1, 1) := by decide +kernel
theorem d_Explorer_init_42 : decode prog_5_method_1_code 42 = .ok (.putfield 27, 3) := by decide +kernel
theorem u_546 : Cond.fieldLink "FilterGuard$Explorer" 27 "FilterGuard$Explorer" "code" "LFilterGuard$Code;" ∈ fg_g := fg_in (List.mem_of_getElem? (i := 546) (by decide +kernel)) rfl
theorem P_Explorer_0 {p : Program} {l : Launch} {e : Env} {R : Room} {s : Jvm.State} {m : MethodId} {args : Array Value} {below : List Frame} {meth : Method} {c : Code} {H : Heap} {locs : List Loc} {cells slots : Nat} {Q : Jvm.State → Prop} {cc : ByteArray} {pc : Nat} {ls : Array Slot} {rest : List Value} {D : va_G} {A : Nat → Prop} {H0 : Heap} {ad : Nat → Nat → Nat} {ca : Nat → ClassId} {M M1 : me_M} {N : Nat → Nat} {index j : Nat} {v : Nat} (he : M1 = wR M 4 j 0 (some v)) (hexec : p.tables.exec = Jvm.exec) (hb : c.code = cc) (hts : ∀ w ∈ fg_g, w.before args s = true) (hown : s.vm.findClass "FilterGuard$Explorer" = some m.cls) (hK : va_K D classes (me_T ca) s) (hP : va_P D classes (me_W ad ca M) H) (hD : va_D A (me_W ad ca M)) (hwf : me_wf N M) (hS : va_S A H0 H locs) (hj : j < N 4) (hv : v < N 2) (hin2 : meth.name = "<init>") (hlink : (Cond.fieldLink "FilterGuard$Explorer" index "FilterGuard$Explorer" "code" "LFilterGuard$Code;").before args s = true) (hdg : decode cc pc = .ok (.putfield index, 3)) (kk : ∀ (H1 : Heap) (locs1 : List Loc), va_P D classes (me_W ad ca M1) H1 → va_D A (me_W ad ca M1) → me_wf N M1 → va_S A H0 H1 locs1 → W p l e R s m args below meth c H1 locs1 cells slots Q (F0 m (pc + 3) ls rest)) : W p l e R s m args below meth c H locs cells slots Q (F0 m pc ls (.ref (ad 2 v) :: .ref (ad 4 j) :: rest)) := by
  subst he
  exact me_putF (M1 := wR M 4 j 0 (some v)) (k := 4) (f := 0) (C := "FilterGuard$Explorer") (T := F_Explorer) (Nf := 15) hexec hb hts i_Explorer t_Explorer t_Explorer_ok n_Explorer hown hK hP hD hwf hS hj (by decide) rfl (by decide) (by decide) hlink (fun _ h9 => h9) rfl hin2 rfl rfl rfl rfl (fun a b h => me_wRE h) (me_fRw (v := some v) (by decide) (by decide)) hdg (fun H1 locs1 a1 a2 a3 => kk H1 locs1 a1 a2 (me_wfR hwf (fun t z => by cases z; exact hv)) a3)
theorem d_Explorer_init_45 : decode prog_5_method_1_code 45 = .ok (.aload_n 0, 1) := by decide +kernel
theorem d_Explorer_init_46 : decode prog_5_method_1_code 46 = .ok (.aload_n 3, 1) := by decide +kernel
theorem d_Explorer_init_47 : decode prog_5_method_1_code 47 = .ok (.putfield 31, 3) := by decide +kernel
theorem u_547 : Cond.fieldLink "FilterGuard$Explorer" 31 "FilterGuard$Explorer" "facts" "LFilterGuard$Facts;" ∈ fg_g := fg_in (List.mem_of_getElem? (i := 547) (by decide +kernel)) rfl
theorem P_Explorer_1 {p : Program} {l : Launch} {e : Env} {R : Room} {s : Jvm.State} {m : MethodId} {args : Array Value} {below : List Frame} {meth : Method} {c : Code} {H : Heap} {locs : List Loc} {cells slots : Nat} {Q : Jvm.State → Prop} {cc : ByteArray} {pc : Nat} {ls : Array Slot} {rest : List Value} {D : va_G} {A : Nat → Prop} {H0 : Heap} {ad : Nat → Nat → Nat} {ca : Nat → ClassId} {M M1 : me_M} {N : Nat → Nat} {index j : Nat} {v : Nat} (he : M1 = wR M 4 j 1 (some v)) (hexec : p.tables.exec = Jvm.exec) (hb : c.code = cc) (hts : ∀ w ∈ fg_g, w.before args s = true) (hown : s.vm.findClass "FilterGuard$Explorer" = some m.cls) (hK : va_K D classes (me_T ca) s) (hP : va_P D classes (me_W ad ca M) H) (hD : va_D A (me_W ad ca M)) (hwf : me_wf N M) (hS : va_S A H0 H locs) (hj : j < N 4) (hv : v < N 3) (hin2 : meth.name = "<init>") (hlink : (Cond.fieldLink "FilterGuard$Explorer" index "FilterGuard$Explorer" "facts" "LFilterGuard$Facts;").before args s = true) (hdg : decode cc pc = .ok (.putfield index, 3)) (kk : ∀ (H1 : Heap) (locs1 : List Loc), va_P D classes (me_W ad ca M1) H1 → va_D A (me_W ad ca M1) → me_wf N M1 → va_S A H0 H1 locs1 → W p l e R s m args below meth c H1 locs1 cells slots Q (F0 m (pc + 3) ls rest)) : W p l e R s m args below meth c H locs cells slots Q (F0 m pc ls (.ref (ad 3 v) :: .ref (ad 4 j) :: rest)) := by
  subst he
  exact me_putF (M1 := wR M 4 j 1 (some v)) (k := 4) (f := 1) (C := "FilterGuard$Explorer") (T := F_Explorer) (Nf := 15) hexec hb hts i_Explorer t_Explorer t_Explorer_ok n_Explorer hown hK hP hD hwf hS hj (by decide) rfl (by decide) (by decide) hlink (fun _ h9 => h9) rfl hin2 rfl rfl rfl rfl (fun a b h => me_wRE h) (me_fRw (v := some v) (by decide) (by decide)) hdg (fun H1 locs1 a1 a2 a3 => kk H1 locs1 a1 a2 (me_wfR hwf (fun t z => by cases z; exact hv)) a3)
theorem d_Explorer_init_50 : decode prog_5_method_1_code 50 = .ok (.aload_n 0, 1) := by decide +kernel
theorem d_Explorer_init_51 : decode prog_5_method_1_code 51 = .ok (.new 35, 3) := by decide +kernel
theorem u_349 : Cond.classLink "FilterGuard$Explorer" 35 "FilterGuard$Steps" ∈ fg_g := fg_in (List.mem_of_getElem? (i := 349) (by decide +kernel)) rfl
theorem u_350 : Cond.instantiable "FilterGuard$Steps" 19 ∈ fg_g := fg_in (List.mem_of_getElem? (i := 350) (by decide +kernel)) rfl
theorem u_185 : Cond.initialized "FilterGuard$Steps" ∈ fg_g := fg_in (List.mem_of_getElem? (i := 185) (by decide +kernel)) rfl
theorem d_Explorer_init_54 : decode prog_5_method_1_code 54 = .ok (.dup, 1) := by decide +kernel
theorem d_Explorer_init_55 : decode prog_5_method_1_code 55 = .ok (.aload_n 1, 1) := by decide +kernel
theorem d_Explorer_init_56 : decode prog_5_method_1_code 56 = .ok (.aload_n 2, 1) := by decide +kernel
theorem d_Explorer_init_57 : decode prog_5_method_1_code 57 = .ok (.invokespecial 37, 3) := by decide +kernel
theorem u_351 : Cond.methodLink "FilterGuard$Explorer" 37 ⟨"FilterGuard$Steps", "<init>", "(LFilterGuard$Code;[LFilterGuard$Store;)V"⟩ ∈ fg_g := fg_in (List.mem_of_getElem? (i := 351) (by decide +kernel)) rfl
theorem u_353 : Cond.code ⟨"FilterGuard$Steps", "<init>", "(LFilterGuard$Code;[LFilterGuard$Store;)V"⟩ prog_11_method_1_code 3 none ∈ fg_g := fg_in (List.mem_of_getElem? (i := 353) (by decide +kernel)) rfl
theorem u_352 : Cond.instanceMethod ⟨"FilterGuard$Steps", "<init>", "(LFilterGuard$Code;[LFilterGuard$Store;)V"⟩ ∈ fg_g := fg_in (List.mem_of_getElem? (i := 352) (by decide +kernel)) rfl
theorem d_Explorer_init_60 : decode prog_5_method_1_code 60 = .ok (.putfield 40, 3) := by decide +kernel
theorem u_548 : Cond.fieldLink "FilterGuard$Explorer" 40 "FilterGuard$Explorer" "steps" "LFilterGuard$Steps;" ∈ fg_g := fg_in (List.mem_of_getElem? (i := 548) (by decide +kernel)) rfl
theorem P_Explorer_2 {p : Program} {l : Launch} {e : Env} {R : Room} {s : Jvm.State} {m : MethodId} {args : Array Value} {below : List Frame} {meth : Method} {c : Code} {H : Heap} {locs : List Loc} {cells slots : Nat} {Q : Jvm.State → Prop} {cc : ByteArray} {pc : Nat} {ls : Array Slot} {rest : List Value} {D : va_G} {A : Nat → Prop} {H0 : Heap} {ad : Nat → Nat → Nat} {ca : Nat → ClassId} {M M1 : me_M} {N : Nat → Nat} {index j : Nat} {v : Nat} (he : M1 = wR M 4 j 2 (some v)) (hexec : p.tables.exec = Jvm.exec) (hb : c.code = cc) (hts : ∀ w ∈ fg_g, w.before args s = true) (hown : s.vm.findClass "FilterGuard$Explorer" = some m.cls) (hK : va_K D classes (me_T ca) s) (hP : va_P D classes (me_W ad ca M) H) (hD : va_D A (me_W ad ca M)) (hwf : me_wf N M) (hS : va_S A H0 H locs) (hj : j < N 4) (hv : v < N 7) (hin2 : meth.name = "<init>") (hlink : (Cond.fieldLink "FilterGuard$Explorer" index "FilterGuard$Explorer" "steps" "LFilterGuard$Steps;").before args s = true) (hdg : decode cc pc = .ok (.putfield index, 3)) (kk : ∀ (H1 : Heap) (locs1 : List Loc), va_P D classes (me_W ad ca M1) H1 → va_D A (me_W ad ca M1) → me_wf N M1 → va_S A H0 H1 locs1 → W p l e R s m args below meth c H1 locs1 cells slots Q (F0 m (pc + 3) ls rest)) : W p l e R s m args below meth c H locs cells slots Q (F0 m pc ls (.ref (ad 7 v) :: .ref (ad 4 j) :: rest)) := by
  subst he
  exact me_putF (M1 := wR M 4 j 2 (some v)) (k := 4) (f := 2) (C := "FilterGuard$Explorer") (T := F_Explorer) (Nf := 15) hexec hb hts i_Explorer t_Explorer t_Explorer_ok n_Explorer hown hK hP hD hwf hS hj (by decide) rfl (by decide) (by decide) hlink (fun _ h9 => h9) rfl hin2 rfl rfl rfl rfl (fun a b h => me_wRE h) (me_fRw (v := some v) (by decide) (by decide)) hdg (fun H1 locs1 a1 a2 a3 => kk H1 locs1 a1 a2 (me_wfR hwf (fun t z => by cases z; exact hv)) a3)
theorem d_Explorer_init_63 : decode prog_5_method_1_code 63 = .ok (.aload_n 0, 1) := by decide +kernel
theorem d_Explorer_init_64 : decode prog_5_method_1_code 64 = .ok (.new 9, 3) := by decide +kernel
theorem u_515 : Cond.instantiable "FilterGuard$State" 5 ∈ fg_g := fg_in (List.mem_of_getElem? (i := 515) (by decide +kernel)) rfl
theorem u_189 : Cond.initialized "FilterGuard$State" ∈ fg_g := fg_in (List.mem_of_getElem? (i := 189) (by decide +kernel)) rfl
theorem d_Explorer_init_67 : decode prog_5_method_1_code 67 = .ok (.dup, 1) := by decide +kernel
theorem d_Explorer_init_68 : decode prog_5_method_1_code 68 = .ok (.invokespecial 44, 3) := by decide +kernel
theorem u_516 : Cond.methodLink "FilterGuard$Explorer" 44 ⟨"FilterGuard$State", "<init>", "()V"⟩ ∈ fg_g := fg_in (List.mem_of_getElem? (i := 516) (by decide +kernel)) rfl
theorem u_518 : Cond.code ⟨"FilterGuard$State", "<init>", "()V"⟩ prog_10_method_1_code 2 none ∈ fg_g := fg_in (List.mem_of_getElem? (i := 518) (by decide +kernel)) rfl
theorem u_517 : Cond.instanceMethod ⟨"FilterGuard$State", "<init>", "()V"⟩ ∈ fg_g := fg_in (List.mem_of_getElem? (i := 517) (by decide +kernel)) rfl
theorem d_Explorer_init_71 : decode prog_5_method_1_code 71 = .ok (.putfield 45, 3) := by decide +kernel
theorem u_554 : Cond.fieldLink "FilterGuard$Explorer" 45 "FilterGuard$Explorer" "now" "LFilterGuard$State;" ∈ fg_g := fg_in (List.mem_of_getElem? (i := 554) (by decide +kernel)) rfl
theorem p_Explorer_8 {p : Program} {l : Launch} {e : Env} {R : Room} {s : Jvm.State} {m : MethodId} {args : Array Value} {below : List Frame} {meth : Method} {c : Code} {H : Heap} {locs : List Loc} {cells slots : Nat} {Q : Jvm.State → Prop} {cc : ByteArray} {pc : Nat} {ls : Array Slot} {rest : List Value} {D : va_G} {A : Nat → Prop} {H0 : Heap} {ad : Nat → Nat → Nat} {ca : Nat → ClassId} {M M1 : me_M} {N : Nat → Nat} {own : String} {index j : Nat} {v : Nat} (he : M1 = wR M 4 j 8 (some v)) (hexec : p.tables.exec = Jvm.exec) (hb : c.code = cc) (hts : ∀ w ∈ fg_g, w.before args s = true) (hown : s.vm.findClass own = some m.cls) (hK : va_K D classes (me_T ca) s) (hP : va_P D classes (me_W ad ca M) H) (hD : va_D A (me_W ad ca M)) (hwf : me_wf N M) (hS : va_S A H0 H locs) (hj : j < N 4) (hv : v < N 9) (hlink : (Cond.fieldLink own index "FilterGuard$Explorer" "now" "LFilterGuard$State;").before args s = true) (hdg : decode cc pc = .ok (.putfield index, 3)) (kk : ∀ (H1 : Heap) (locs1 : List Loc), va_P D classes (me_W ad ca M1) H1 → va_D A (me_W ad ca M1) → me_wf N M1 → va_S A H0 H1 locs1 → W p l e R s m args below meth c H1 locs1 cells slots Q (F0 m (pc + 3) ls rest)) : W p l e R s m args below meth c H locs cells slots Q (F0 m pc ls (.ref (ad 9 v) :: .ref (ad 4 j) :: rest)) := by
  subst he
  exact me_put (M1 := wR M 4 j 8 (some v)) (k := 4) (f := 8) (C := "FilterGuard$Explorer") (T := F_Explorer) (Nf := 15) hexec hb hts i_Explorer t_Explorer t_Explorer_ok n_Explorer hown hK hP hD hwf hS hj (by decide) rfl (by decide) (by decide) hlink (fun _ h9 => h9) rfl rfl rfl rfl (fun a b h => me_wRE h) (me_fRw (v := some v) (by decide) (by decide)) hdg (fun H1 locs1 a1 a2 a3 => kk H1 locs1 a1 a2 (me_wfR hwf (fun t z => by cases z; exact hv)) a3)
theorem d_Explorer_init_74 : decode prog_5_method_1_code 74 = .ok (.return_, 1) := by decide +kernel
abbrev y_Explorer_init : MethodName := ⟨"FilterGuard$Explorer", "<init>", "(LFilterGuard$Code;[LFilterGuard$Store;LFilterGuard$Facts;)V"⟩
def rm_Explorer_init (N0 : Nat → Nat) : Room := { frames := 4, cells := me_CL - me_cN N0, slots := me_SL - me_sN N0, locals := 92 }
abbrev q_Explorer_init (D : va_G) (ad0 : Nat → Nat → Nat) (ca : Nat → ClassId) (N0 : Nat → Nat) (MZ : me_M) (A : Nat → Prop) : Array Value → Jvm.State → Outcome → Jvm.State → Prop := va_Qv (fun (u : Nat → Nat → Nat) => al_P ad0 N0 MZ u ∧ True) (fg_B D A (fun u => me_W u ca MZ) (fun _ => [])) A
set_option maxHeartbeats 4000000 in
set_option maxRecDepth 100000 in
theorem c_Explorer_init (l : Launch) (D : va_G) (ad0 : Nat → Nat → Nat) (ca : Nat → ClassId) (N0 : Nat → Nat) (M0 MZ : me_M) (j0 : Nat) (j1 : Nat) (j2 : Nat) (j3 : Nat) (h : f_Explorer_init M0 j0 j1 j2 j3 = (some MZ)) (hwf : me_wf N0 M0) (hcl : me_cN N0 ≤ me_CL ∧ me_sN N0 ≤ me_SL) (hj0 : j0 < N0 4) (hj1 : j1 < N0 2) (hj2 : j2 < N0 19) (hj3 : j3 < N0 3) (sz : Nat) : Met l y_Explorer_init (fg_w y_Explorer_init prog_5_method_1_code 4 none) (rm_Explorer_init N0) (va_Pc [.ref (ad0 4 j0), .ref (ad0 2 j1), .ref (ad0 19 j2), .ref (ad0 3 j3)] (fz_P D (me_T ca) (me_W ad0 ca M0) sz)) (q_Explorer_init D ad0 ca N0 MZ (va_A (me_W ad0 ca M0) sz)) (me_cN (mN MZ) - me_cN N0) (me_sN (mN MZ) - me_sN N0) (va_A (me_W ad0 ca M0) sz) := by
  refine fz_enter (fun A => q_Explorer_init D ad0 ca N0 MZ A) (by decide +kernel) (Nat.le_of_ble_eq_true rfl) ?_
  intro p e s m below meth c ls A hx hb hml hown hts hr hlocks hin hP hK hD hS hA hX hl hz
  refine W.widen (k := me_cN N0 - me_cN N0) (n := me_sN N0 - me_sN N0) (Nat.zero_le _) (Nat.zero_le _) ?_
  unfold f_Explorer_init at h
  have hok : me_ok N0 N0 := me_ok.rf hcl
  obtain ⟨ad, N, hext0, hok, hwf, hP, hD, hN9, had9, hj0, hj1, hj2, hj3⟩ : ∃ (ad : Nat → Nat → Nat) (N : Nat → Nat), (∀ a b, b < N0 a → ad a b = ad0 a b) ∧ me_ok N0 N ∧ me_wf N M0 ∧ va_P D classes (me_W ad ca M0) s.heap ∧ va_D A (me_W ad ca M0) ∧ N = N0 ∧ ad = ad0 ∧ j0 < N 4 ∧ j1 < N 2 ∧ j2 < N 19 ∧ j3 < N 3 := ⟨ad0, N0, fun _ _ _ => rfl, hok, hwf, hP, hD, rfl, rfl, hj0, hj1, hj2, hj3⟩
  have hl : lv_has ls 4 [(0, .ref (ad 4 j0)), (1, .ref (ad 2 j1)), (2, .ref (ad 19 j2)), (3, .ref (ad 3 j3))] := by rw [had9]; exact hl
  have hcs : W p l e (rm_Explorer_init N0) s m [.ref (ad0 4 j0), .ref (ad0 2 j1), .ref (ad0 19 j2), .ref (ad0 3 j3)].toArray below meth c s.heap [] (me_cN N - me_cN N0) (me_sN N - me_sN N0) (MQ below (q_Explorer_init D ad0 ca N0 MZ A) [.ref (ad0 4 j0), .ref (ad0 2 j1), .ref (ad0 19 j2), .ref (ad0 3 j3)].toArray s (me_cN (mN MZ) - me_cN N0) (me_sN (mN MZ) - me_sN N0) A) (F0 m 0 ls []) := by
    clear had9
    refine lv_aload_n hx hb d_Explorer_init_0 rfl (lv_at hl 0 rfl) ?_
    refine W.objInit hx hb hown (hts _ u_346) (hts _ u_210) (hts _ u_211) rfl (by rw [hml]; exact hl.1) rfl d_Explorer_init_1 (Nat.le_of_ble_eq_true rfl) (Nat.le_of_ble_eq_true rfl) ?_
    refine W.eq (g2 := F0 m 4 ls []) rfl ?_
    refine lv_aload_n hx hb d_Explorer_init_4 rfl (lv_at hl 0 rfl) ?_
    refine lv_sipush (v := 200) hx hb d_Explorer_init_5 (by decide) ?_
    obtain ⟨g1, h⟩ := gd_ob h
    obtain ⟨M2, eM2, h⟩ := st_ob h
    refine al_newq (k := 17) (C := "FilterGuard$State") eM2 g1 hx hb hown (hts _ u_347) (hX _ o_348 rfl) hK hP hD hwf hok hS hA (by decide) (by decide) rfl (by decide) rfl rfl d_Explorer_init_8 (fun ad N H hext hNN hn3 hwf hok1 hP hD hS => ?_)
    have hext0 := al_ext hext hext0 hok
    have hok := hok1
    have hl : lv_has ls 4 [(0, .ref (ad 4 j0)), (1, .ref (ad 2 j1)), (2, .ref (ad 19 j2)), (3, .ref (ad 3 j3))] := by rw [hext 4 j0 hj0, hext 2 j1 hj1, hext 19 j2 hj2, hext 3 j3 hj3]; exact hl
    refine W.eq (g2 := F0 m 11 ls [.ref (ad 17 (mN M0 17)), .ref (ad 4 j0)]) (by rw [hext 4 j0 hj0]) ?_
    have hj0 : j0 < N 4 := Nat.lt_of_lt_of_le hj0 (hNN 4)
    have hj1 : j1 < N 2 := Nat.lt_of_lt_of_le hj1 (hNN 2)
    have hj2 : j2 < N 19 := Nat.lt_of_lt_of_le hj2 (hNN 19)
    have hj3 : j3 < N 3 := Nat.lt_of_lt_of_le hj3 (hNN 3)
    obtain ⟨M4, eM4, h⟩ := st_ob h
    refine P_Explorer_3 eM4 hx hb hts hown hK hP hD hwf hS hj0 hn3 hin (hts _ u_549) d_Explorer_init_11 (fun H locs hP hD hwf hS => ?_)
    refine lv_aload_n hx hb d_Explorer_init_14 rfl (lv_at hl 0 rfl) ?_
    refine lv_sipush (v := 200) hx hb d_Explorer_init_15 (by decide) ?_
    obtain ⟨g5, h⟩ := gd_ob h
    obtain ⟨M6, eM6, h⟩ := st_ob h
    refine al_newq (k := 17) (C := "FilterGuard$State") eM6 g5 hx hb hown (hts _ u_347) (hX _ o_348 rfl) hK hP hD hwf hok hS hA (by decide) (by decide) rfl (by decide) rfl rfl d_Explorer_init_18 (fun ad N H hext hNN hn7 hwf hok1 hP hD hS => ?_)
    have hext0 := al_ext hext hext0 hok
    have hok := hok1
    have hl : lv_has ls 4 [(0, .ref (ad 4 j0)), (1, .ref (ad 2 j1)), (2, .ref (ad 19 j2)), (3, .ref (ad 3 j3))] := by rw [hext 4 j0 hj0, hext 2 j1 hj1, hext 19 j2 hj2, hext 3 j3 hj3]; exact hl
    refine W.eq (g2 := F0 m 21 ls [.ref (ad 17 (mN M4 17)), .ref (ad 4 j0)]) (by rw [hext 4 j0 hj0]) ?_
    have hj0 : j0 < N 4 := Nat.lt_of_lt_of_le hj0 (hNN 4)
    have hj1 : j1 < N 2 := Nat.lt_of_lt_of_le hj1 (hNN 2)
    have hj2 : j2 < N 19 := Nat.lt_of_lt_of_le hj2 (hNN 19)
    have hj3 : j3 < N 3 := Nat.lt_of_lt_of_le hj3 (hNN 3)
    obtain ⟨M8, eM8, h⟩ := st_ob h
    refine P_Explorer_4 eM8 hx hb hts hown hK hP hD hwf hS hj0 hn7 hin (hts _ u_550) d_Explorer_init_21 (fun H locs hP hD hwf hS => ?_)
    refine lv_aload_n hx hb d_Explorer_init_24 rfl (lv_at hl 0 rfl) ?_
    refine lv_bipush (v := 76) hx hb d_Explorer_init_25 (by decide) ?_
    obtain ⟨g9, h⟩ := gd_ob h
    obtain ⟨M10, eM10, h⟩ := st_ob h
    refine al_newa (k := 13) (atype := .int) (a0 := ((76 : Int32).toNatClampNeg, .inl (fun _ => 0))) eM10 g9 hx hb (hts _ u_340) rfl hK hP hD hwf hok hS hA (by decide) (by decide) rfl (fun _ _ h9 => h9) (by decide) (fun _ => rfl) (fun ad1 => by rw [eM10]; exact al_ar13) rfl rfl d_Explorer_init_27 (fun ad N H hext hNN hn11 hwf hok1 hP hD hS => ?_)
    have hext0 := al_ext hext hext0 hok
    have hok := hok1
    have hl : lv_has ls 4 [(0, .ref (ad 4 j0)), (1, .ref (ad 2 j1)), (2, .ref (ad 19 j2)), (3, .ref (ad 3 j3))] := by rw [hext 4 j0 hj0, hext 2 j1 hj1, hext 19 j2 hj2, hext 3 j3 hj3]; exact hl
    refine W.eq (g2 := F0 m 29 ls [.ref (ad 13 (mN M8 13)), .ref (ad 4 j0)]) (by rw [hext 4 j0 hj0]) ?_
    have hj0 : j0 < N 4 := Nat.lt_of_lt_of_le hj0 (hNN 4)
    have hj1 : j1 < N 2 := Nat.lt_of_lt_of_le hj1 (hNN 2)
    have hj2 : j2 < N 19 := Nat.lt_of_lt_of_le hj2 (hNN 19)
    have hj3 : j3 < N 3 := Nat.lt_of_lt_of_le hj3 (hNN 3)
    obtain ⟨M12, eM12, h⟩ := st_ob h
    refine P_Explorer_5 eM12 hx hb hts hown hK hP hD hwf hS hj0 hn11 hin (hts _ u_551) d_Explorer_init_29 (fun H locs hP hD hwf hS => ?_)
    refine lv_aload_n hx hb d_Explorer_init_32 rfl (lv_at hl 0 rfl) ?_
    refine lv_bipush (v := 76) hx hb d_Explorer_init_33 (by decide) ?_
    obtain ⟨g13, h⟩ := gd_ob h
    obtain ⟨M14, eM14, h⟩ := st_ob h
    refine al_newa (k := 13) (atype := .int) (a0 := ((76 : Int32).toNatClampNeg, .inl (fun _ => 0))) eM14 g13 hx hb (hts _ u_340) rfl hK hP hD hwf hok hS hA (by decide) (by decide) rfl (fun _ _ h9 => h9) (by decide) (fun _ => rfl) (fun ad1 => by rw [eM14]; exact al_ar13) rfl rfl d_Explorer_init_35 (fun ad N H hext hNN hn15 hwf hok1 hP hD hS => ?_)
    have hext0 := al_ext hext hext0 hok
    have hok := hok1
    have hl : lv_has ls 4 [(0, .ref (ad 4 j0)), (1, .ref (ad 2 j1)), (2, .ref (ad 19 j2)), (3, .ref (ad 3 j3))] := by rw [hext 4 j0 hj0, hext 2 j1 hj1, hext 19 j2 hj2, hext 3 j3 hj3]; exact hl
    refine W.eq (g2 := F0 m 37 ls [.ref (ad 13 (mN M12 13)), .ref (ad 4 j0)]) (by rw [hext 4 j0 hj0]) ?_
    have hj0 : j0 < N 4 := Nat.lt_of_lt_of_le hj0 (hNN 4)
    have hj1 : j1 < N 2 := Nat.lt_of_lt_of_le hj1 (hNN 2)
    have hj2 : j2 < N 19 := Nat.lt_of_lt_of_le hj2 (hNN 19)
    have hj3 : j3 < N 3 := Nat.lt_of_lt_of_le hj3 (hNN 3)
    obtain ⟨M16, eM16, h⟩ := st_ob h
    refine P_Explorer_6 eM16 hx hb hts hown hK hP hD hwf hS hj0 hn15 hin (hts _ u_552) d_Explorer_init_37 (fun H locs hP hD hwf hS => ?_)
    refine lv_aload_n hx hb d_Explorer_init_40 rfl (lv_at hl 0 rfl) ?_
    refine lv_aload_n hx hb d_Explorer_init_41 rfl (lv_at hl 1 rfl) ?_
    obtain ⟨M17, eM17, h⟩ := st_ob h
    refine P_Explorer_0 eM17 hx hb hts hown hK hP hD hwf hS hj0 hj1 hin (hts _ u_546) d_Explorer_init_42 (fun H locs hP hD hwf hS => ?_)
    refine lv_aload_n hx hb d_Explorer_init_45 rfl (lv_at hl 0 rfl) ?_
    refine lv_aload_n hx hb d_Explorer_init_46 rfl (lv_at hl 3 rfl) ?_
    obtain ⟨M18, eM18, h⟩ := st_ob h
    refine P_Explorer_1 eM18 hx hb hts hown hK hP hD hwf hS hj0 hj3 hin (hts _ u_547) d_Explorer_init_47 (fun H locs hP hD hwf hS => ?_)
    refine lv_aload_n hx hb d_Explorer_init_50 rfl (lv_at hl 0 rfl) ?_
    obtain ⟨g19, h⟩ := gd_ob h
    obtain ⟨M20, eM20, h⟩ := st_ob h
    refine al_new (k := 7) (fs := [.null, .null, .null, .null, .null, .null, .null, .int 0, .int 0, .int 0, .int 0, .int 0, .int 0, .int 0, .int 0, .null, .null, .null, .null]) (C := "FilterGuard$Steps") (T := F_Steps) (Nf := 19) eM20 g19 hx hb hts i_Steps t_Steps t_Steps_ok hown (hts _ u_349) (hts _ u_350) (hts _ u_185) hK hP hD hwf hok hS hA (by decide) rfl (by decide) z_Steps rfl rfl rfl d_Explorer_init_51 (fun ad N H hext hNN hn21 hwf hok1 hP hD hS => ?_)
    have hext0 := al_ext hext hext0 hok
    have hok := hok1
    have hl : lv_has ls 4 [(0, .ref (ad 4 j0)), (1, .ref (ad 2 j1)), (2, .ref (ad 19 j2)), (3, .ref (ad 3 j3))] := by rw [hext 4 j0 hj0, hext 2 j1 hj1, hext 19 j2 hj2, hext 3 j3 hj3]; exact hl
    refine W.eq (g2 := F0 m 54 ls [.ref (ad 7 (mN M18 7)), .ref (ad 4 j0)]) (by rw [hext 4 j0 hj0]) ?_
    have hj0 : j0 < N 4 := Nat.lt_of_lt_of_le hj0 (hNN 4)
    have hj1 : j1 < N 2 := Nat.lt_of_lt_of_le hj1 (hNN 2)
    have hj2 : j2 < N 19 := Nat.lt_of_lt_of_le hj2 (hNN 19)
    have hj3 : j3 < N 3 := Nat.lt_of_lt_of_le hj3 (hNN 3)
    refine lv_dup hx hb d_Explorer_init_54 rfl ?_
    refine lv_aload_n hx hb d_Explorer_init_55 rfl (lv_at hl 1 rfl) ?_
    refine lv_aload_n hx hb d_Explorer_init_56 rfl (lv_at hl 2 rfl) ?_
    obtain ⟨M22, eM22, h⟩ := bd_ob h
    refine al_thenv (M1 := M22) (al_runI (As := [.ref (ad 2 j1), .ref (ad 19 j2)]) (rest := [.ref (ad 7 (mN M18 7)), .ref (ad 4 j0)]) ⟨hx, hb, hml, hown, hts⟩ (c_Steps_init l D ad ca N M20 M22 (mN M18 7) j1 j2 eM22 hwf ⟨hok.2.2.1, hok.2.2.2.1⟩ hn21 hj1 hj2 _) rfl (by show fg_nm y_Steps_init 2; decide +kernel) u_351 u_352 u_185 u_353 ⟨Nat.le_of_ble_eq_true rfl, Nat.le_of_ble_eq_true rfl⟩ hX hz hK hP hD hS hA rfl hl.1 (Nat.le_of_ble_eq_true rfl) d_Explorer_init_57 (al_g hok)) hP hD hok hK hS hA (fun ad N H locs hext hNN hwf hok1 heN hq9 hP hD hS => ?_)
    have hext0 := al_ext hext hext0 hok
    have hok := hok1
    have hl : lv_has ls 4 [(0, .ref (ad 4 j0)), (1, .ref (ad 2 j1)), (2, .ref (ad 19 j2)), (3, .ref (ad 3 j3))] := by rw [hext 4 j0 hj0, hext 2 j1 hj1, hext 19 j2 hj2, hext 3 j3 hj3]; exact hl
    refine W.eq (g2 := F0 m 60 ls [.ref (ad 7 (mN M18 7)), .ref (ad 4 j0)]) (by rw [hext 7 (mN M18 7) hn21, hext 4 j0 hj0]) ?_
    have hj0 : j0 < N 4 := Nat.lt_of_lt_of_le hj0 (hNN 4)
    have hj1 : j1 < N 2 := Nat.lt_of_lt_of_le hj1 (hNN 2)
    have hj2 : j2 < N 19 := Nat.lt_of_lt_of_le hj2 (hNN 19)
    have hj3 : j3 < N 3 := Nat.lt_of_lt_of_le hj3 (hNN 3)
    have hn21 : (mN M18 7) < N 7 := Nat.lt_of_lt_of_le hn21 (hNN 7)
    obtain ⟨M23, eM23, h⟩ := st_ob h
    refine P_Explorer_2 eM23 hx hb hts hown hK hP hD hwf hS hj0 hn21 hin (hts _ u_548) d_Explorer_init_60 (fun H locs hP hD hwf hS => ?_)
    refine lv_aload_n hx hb d_Explorer_init_63 rfl (lv_at hl 0 rfl) ?_
    obtain ⟨g24, h⟩ := gd_ob h
    obtain ⟨M25, eM25, h⟩ := st_ob h
    refine al_new (k := 9) (fs := [.null, .int 0, .int 0, .int 0, .int 0]) (C := "FilterGuard$State") (T := F_State) (Nf := 5) eM25 g24 hx hb hts i_State t_State t_State_ok hown (hts _ u_347) (hts _ u_515) (hts _ u_189) hK hP hD hwf hok hS hA (by decide) rfl (by decide) z_State rfl rfl rfl d_Explorer_init_64 (fun ad N H hext hNN hn26 hwf hok1 hP hD hS => ?_)
    have hext0 := al_ext hext hext0 hok
    have hok := hok1
    have hl : lv_has ls 4 [(0, .ref (ad 4 j0)), (1, .ref (ad 2 j1)), (2, .ref (ad 19 j2)), (3, .ref (ad 3 j3))] := by rw [hext 4 j0 hj0, hext 2 j1 hj1, hext 19 j2 hj2, hext 3 j3 hj3]; exact hl
    refine W.eq (g2 := F0 m 67 ls [.ref (ad 9 (mN M23 9)), .ref (ad 4 j0)]) (by rw [hext 4 j0 hj0]) ?_
    have hj0 : j0 < N 4 := Nat.lt_of_lt_of_le hj0 (hNN 4)
    have hj1 : j1 < N 2 := Nat.lt_of_lt_of_le hj1 (hNN 2)
    have hj2 : j2 < N 19 := Nat.lt_of_lt_of_le hj2 (hNN 19)
    have hj3 : j3 < N 3 := Nat.lt_of_lt_of_le hj3 (hNN 3)
    refine lv_dup hx hb d_Explorer_init_67 rfl ?_
    obtain ⟨M27, eM27, h⟩ := bd_ob h
    refine al_thenv (M1 := M27) (al_runI (As := []) (rest := [.ref (ad 9 (mN M23 9)), .ref (ad 4 j0)]) ⟨hx, hb, hml, hown, hts⟩ (c_State_init l D ad ca N M25 M27 (mN M23 9) eM27 hwf ⟨hok.2.2.1, hok.2.2.2.1⟩ hn26 _) rfl (by show fg_nm y_State_init 0; decide +kernel) u_516 u_517 u_189 u_518 ⟨Nat.le_of_ble_eq_true rfl, Nat.le_of_ble_eq_true rfl⟩ hX hz hK hP hD hS hA rfl hl.1 (Nat.le_of_ble_eq_true rfl) d_Explorer_init_68 (al_g hok)) hP hD hok hK hS hA (fun ad N H locs hext hNN hwf hok1 heN hq9 hP hD hS => ?_)
    have hext0 := al_ext hext hext0 hok
    have hok := hok1
    have hl : lv_has ls 4 [(0, .ref (ad 4 j0)), (1, .ref (ad 2 j1)), (2, .ref (ad 19 j2)), (3, .ref (ad 3 j3))] := by rw [hext 4 j0 hj0, hext 2 j1 hj1, hext 19 j2 hj2, hext 3 j3 hj3]; exact hl
    refine W.eq (g2 := F0 m 71 ls [.ref (ad 9 (mN M23 9)), .ref (ad 4 j0)]) (by rw [hext 9 (mN M23 9) hn26, hext 4 j0 hj0]) ?_
    have hj0 : j0 < N 4 := Nat.lt_of_lt_of_le hj0 (hNN 4)
    have hj1 : j1 < N 2 := Nat.lt_of_lt_of_le hj1 (hNN 2)
    have hj2 : j2 < N 19 := Nat.lt_of_lt_of_le hj2 (hNN 19)
    have hj3 : j3 < N 3 := Nat.lt_of_lt_of_le hj3 (hNN 3)
    have hn26 : (mN M23 9) < N 9 := Nat.lt_of_lt_of_le hn26 (hNN 9)
    obtain ⟨M28, eM28, h⟩ := st_ob h
    refine p_Explorer_8 eM28 hx hb hts hown hK hP hD hwf hS hj0 hn26 (hts _ u_554) d_Explorer_init_71 (fun H locs hP hD hwf hS => ?_)
    exact al_retv h hx hb hr hlocks hwf hok hext0 hP hK hD hS d_Explorer_init_74
  rw [hN9] at hcs
  exact hcs
