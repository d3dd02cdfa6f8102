theorem d_M_init_0 : decode prog_14_method_1_code 0 = .ok (.aload_n 0, 1) := by decide +kernel
theorem d_M_init_1 : decode prog_14_method_1_code 1 = .ok (.invokespecial 3, 3) := by decide +kernel
theorem u_1739 : Cond.methodLink "FilterGuardModel" 3 ⟨"java/lang/Object", "<init>", "()V"⟩ ∈ fg_g := fg_in (List.mem_of_getElem? (i := 1739) (by decide +kernel)) rfl
theorem d_M_init_4 : decode prog_14_method_1_code 4 = .ok (.aload_n 0, 1) := by decide +kernel
theorem d_M_init_5 : decode prog_14_method_1_code 5 = .ok (.ldc 9, 2) := by decide +kernel
theorem u_1740 : Cond.constant "FilterGuardModel" 9 65536 ∈ fg_g := fg_in (List.mem_of_getElem? (i := 1740) (by decide +kernel)) rfl
theorem d_M_init_7 : decode prog_14_method_1_code 7 = .ok (.newarray .byte, 2) := by decide +kernel
theorem d_M_init_9 : decode prog_14_method_1_code 9 = .ok (.putfield 10, 3) := by decide +kernel
theorem u_1742 : Cond.fieldLink "FilterGuardModel" 10 "FilterGuardModel" "tape" "[B" ∈ fg_g := fg_in (List.mem_of_getElem? (i := 1742) (by decide +kernel)) rfl
theorem P_M_1 {p : Program} {l : Launch} {e : Env} {R : Room} {s : Jvm.State} {m : MethodId} {args : Array Value} {below : List Frame} {meth : Method} {c : Code} {H : Heap} {locs : List Loc} {cells slots : Nat} {Q : Jvm.State → Prop} {cc : ByteArray} {pc : Nat} {ls : Array Slot} {rest : List Value} {D : va_G} {A : Nat → Prop} {H0 : Heap} {ad : Nat → Nat → Nat} {ca : Nat → ClassId} {M M1 : me_M} {N : Nat → Nat} {index j : Nat} {v : Nat} (he : M1 = wR M 1 j 1 (some v)) (hexec : p.tables.exec = Jvm.exec) (hb : c.code = cc) (hts : ∀ w ∈ fg_g, w.before args s = true) (hown : s.vm.findClass "FilterGuardModel" = some m.cls) (hK : va_K D classes (me_T ca) s) (hP : va_P D classes (me_W ad ca M) H) (hD : va_D A (me_W ad ca M)) (hwf : me_wf N M) (hS : va_S A H0 H locs) (hj : j < N 1) (hv : v < N 14) (hin2 : meth.name = "<init>") (hlink : (Cond.fieldLink "FilterGuardModel" index "FilterGuardModel" "tape" "[B").before args s = true) (hdg : decode cc pc = .ok (.putfield index, 3)) (kk : ∀ (H1 : Heap) (locs1 : List Loc), va_P D classes (me_W ad ca M1) H1 → va_D A (me_W ad ca M1) → me_wf N M1 → va_S A H0 H1 locs1 → W p l e R s m args below meth c H1 locs1 cells slots Q (F0 m (pc + 3) ls rest)) : W p l e R s m args below meth c H locs cells slots Q (F0 m pc ls (.ref (ad 14 v) :: .ref (ad 1 j) :: rest)) := by
  subst he
  exact me_putF (M1 := wR M 1 j 1 (some v)) (k := 1) (f := 1) (C := "FilterGuardModel") (T := F_M) (Nf := 75) hexec hb hts i_M t_M t_M_ok n_M hown hK hP hD hwf hS hj (by decide) rfl (by decide) (by decide) hlink (fun _ h9 => h9) rfl hin2 rfl rfl rfl rfl (fun a b h => me_wRE h) (me_fRw (v := some v) (by decide) (by decide)) hdg (fun H1 locs1 a1 a2 a3 => kk H1 locs1 a1 a2 (me_wfR hwf (fun t z => by cases z; exact hv)) a3)
theorem d_M_init_12 : decode prog_14_method_1_code 12 = .ok (.aload_n 0, 1) := by decide +kernel
theorem d_M_init_13 : decode prog_14_method_1_code 13 = .ok (.iconst 4, 1) := by decide +kernel
theorem d_M_init_14 : decode prog_14_method_1_code 14 = .ok (.newarray .int, 2) := by decide +kernel
theorem d_M_init_16 : decode prog_14_method_1_code 16 = .ok (.putfield 14, 3) := by decide +kernel
theorem u_1746 : Cond.fieldLink "FilterGuardModel" 14 "FilterGuardModel" "mapKind" "[I" ∈ fg_g := fg_in (List.mem_of_getElem? (i := 1746) (by decide +kernel)) rfl
theorem P_M_5 {p : Program} {l : Launch} {e : Env} {R : Room} {s : Jvm.State} {m : MethodId} {args : Array Value} {below : List Frame} {meth : Method} {c : Code} {H : Heap} {locs : List Loc} {cells slots : Nat} {Q : Jvm.State → Prop} {cc : ByteArray} {pc : Nat} {ls : Array Slot} {rest : List Value} {D : va_G} {A : Nat → Prop} {H0 : Heap} {ad : Nat → Nat → Nat} {ca : Nat → ClassId} {M M1 : me_M} {N : Nat → Nat} {index j : Nat} {v : Nat} (he : M1 = wR M 1 j 5 (some v)) (hexec : p.tables.exec = Jvm.exec) (hb : c.code = cc) (hts : ∀ w ∈ fg_g, w.before args s = true) (hown : s.vm.findClass "FilterGuardModel" = some m.cls) (hK : va_K D classes (me_T ca) s) (hP : va_P D classes (me_W ad ca M) H) (hD : va_D A (me_W ad ca M)) (hwf : me_wf N M) (hS : va_S A H0 H locs) (hj : j < N 1) (hv : v < N 13) (hin2 : meth.name = "<init>") (hlink : (Cond.fieldLink "FilterGuardModel" index "FilterGuardModel" "mapKind" "[I").before args s = true) (hdg : decode cc pc = .ok (.putfield index, 3)) (kk : ∀ (H1 : Heap) (locs1 : List Loc), va_P D classes (me_W ad ca M1) H1 → va_D A (me_W ad ca M1) → me_wf N M1 → va_S A H0 H1 locs1 → W p l e R s m args below meth c H1 locs1 cells slots Q (F0 m (pc + 3) ls rest)) : W p l e R s m args below meth c H locs cells slots Q (F0 m pc ls (.ref (ad 13 v) :: .ref (ad 1 j) :: rest)) := by
  subst he
  exact me_putF (M1 := wR M 1 j 5 (some v)) (k := 1) (f := 5) (C := "FilterGuardModel") (T := F_M) (Nf := 75) hexec hb hts i_M t_M t_M_ok n_M hown hK hP hD hwf hS hj (by decide) rfl (by decide) (by decide) hlink (fun _ h9 => h9) rfl hin2 rfl rfl rfl rfl (fun a b h => me_wRE h) (me_fRw (v := some v) (by decide) (by decide)) hdg (fun H1 locs1 a1 a2 a3 => kk H1 locs1 a1 a2 (me_wfR hwf (fun t z => by cases z; exact hv)) a3)
theorem d_M_init_19 : decode prog_14_method_1_code 19 = .ok (.aload_n 0, 1) := by decide +kernel
theorem d_M_init_20 : decode prog_14_method_1_code 20 = .ok (.iconst 4, 1) := by decide +kernel
theorem d_M_init_21 : decode prog_14_method_1_code 21 = .ok (.newarray .int, 2) := by decide +kernel
theorem d_M_init_23 : decode prog_14_method_1_code 23 = .ok (.putfield 18, 3) := by decide +kernel
theorem u_1747 : Cond.fieldLink "FilterGuardModel" 18 "FilterGuardModel" "keyBytes" "[I" ∈ fg_g := fg_in (List.mem_of_getElem? (i := 1747) (by decide +kernel)) rfl
theorem P_M_6 {p : Program} {l : Launch} {e : Env} {R : Room} {s : Jvm.State} {m : MethodId} {args : Array Value} {below : List Frame} {meth : Method} {c : Code} {H : Heap} {locs : List Loc} {cells slots : Nat} {Q : Jvm.State → Prop} {cc : ByteArray} {pc : Nat} {ls : Array Slot} {rest : List Value} {D : va_G} {A : Nat → Prop} {H0 : Heap} {ad : Nat → Nat → Nat} {ca : Nat → ClassId} {M M1 : me_M} {N : Nat → Nat} {index j : Nat} {v : Nat} (he : M1 = wR M 1 j 6 (some v)) (hexec : p.tables.exec = Jvm.exec) (hb : c.code = cc) (hts : ∀ w ∈ fg_g, w.before args s = true) (hown : s.vm.findClass "FilterGuardModel" = some m.cls) (hK : va_K D classes (me_T ca) s) (hP : va_P D classes (me_W ad ca M) H) (hD : va_D A (me_W ad ca M)) (hwf : me_wf N M) (hS : va_S A H0 H locs) (hj : j < N 1) (hv : v < N 13) (hin2 : meth.name = "<init>") (hlink : (Cond.fieldLink "FilterGuardModel" index "FilterGuardModel" "keyBytes" "[I").before args s = true) (hdg : decode cc pc = .ok (.putfield index, 3)) (kk : ∀ (H1 : Heap) (locs1 : List Loc), va_P D classes (me_W ad ca M1) H1 → va_D A (me_W ad ca M1) → me_wf N M1 → va_S A H0 H1 locs1 → W p l e R s m args below meth c H1 locs1 cells slots Q (F0 m (pc + 3) ls rest)) : W p l e R s m args below meth c H locs cells slots Q (F0 m pc ls (.ref (ad 13 v) :: .ref (ad 1 j) :: rest)) := by
  subst he
  exact me_putF (M1 := wR M 1 j 6 (some v)) (k := 1) (f := 6) (C := "FilterGuardModel") (T := F_M) (Nf := 75) hexec hb hts i_M t_M t_M_ok n_M hown hK hP hD hwf hS hj (by decide) rfl (by decide) (by decide) hlink (fun _ h9 => h9) rfl hin2 rfl rfl rfl rfl (fun a b h => me_wRE h) (me_fRw (v := some v) (by decide) (by decide)) hdg (fun H1 locs1 a1 a2 a3 => kk H1 locs1 a1 a2 (me_wfR hwf (fun t z => by cases z; exact hv)) a3)
theorem d_M_init_26 : decode prog_14_method_1_code 26 = .ok (.aload_n 0, 1) := by decide +kernel
theorem d_M_init_27 : decode prog_14_method_1_code 27 = .ok (.iconst 4, 1) := by decide +kernel
theorem d_M_init_28 : decode prog_14_method_1_code 28 = .ok (.newarray .int, 2) := by decide +kernel
theorem d_M_init_30 : decode prog_14_method_1_code 30 = .ok (.putfield 21, 3) := by decide +kernel
theorem u_1748 : Cond.fieldLink "FilterGuardModel" 21 "FilterGuardModel" "valueBytes" "[I" ∈ fg_g := fg_in (List.mem_of_getElem? (i := 1748) (by decide +kernel)) rfl
theorem P_M_7 {p : Program} {l : Launch} {e : Env} {R : Room} {s : Jvm.State} {m : MethodId} {args : Array Value} {below : List Frame} {meth : Method} {c : Code} {H : Heap} {locs : List Loc} {cells slots : Nat} {Q : Jvm.State → Prop} {cc : ByteArray} {pc : Nat} {ls : Array Slot} {rest : List Value} {D : va_G} {A : Nat → Prop} {H0 : Heap} {ad : Nat → Nat → Nat} {ca : Nat → ClassId} {M M1 : me_M} {N : Nat → Nat} {index j : Nat} {v : Nat} (he : M1 = wR M 1 j 7 (some v)) (hexec : p.tables.exec = Jvm.exec) (hb : c.code = cc) (hts : ∀ w ∈ fg_g, w.before args s = true) (hown : s.vm.findClass "FilterGuardModel" = some m.cls) (hK : va_K D classes (me_T ca) s) (hP : va_P D classes (me_W ad ca M) H) (hD : va_D A (me_W ad ca M)) (hwf : me_wf N M) (hS : va_S A H0 H locs) (hj : j < N 1) (hv : v < N 13) (hin2 : meth.name = "<init>") (hlink : (Cond.fieldLink "FilterGuardModel" index "FilterGuardModel" "valueBytes" "[I").before args s = true) (hdg : decode cc pc = .ok (.putfield index, 3)) (kk : ∀ (H1 : Heap) (locs1 : List Loc), va_P D classes (me_W ad ca M1) H1 → va_D A (me_W ad ca M1) → me_wf N M1 → va_S A H0 H1 locs1 → W p l e R s m args below meth c H1 locs1 cells slots Q (F0 m (pc + 3) ls rest)) : W p l e R s m args below meth c H locs cells slots Q (F0 m pc ls (.ref (ad 13 v) :: .ref (ad 1 j) :: rest)) := by
  subst he
  exact me_putF (M1 := wR M 1 j 7 (some v)) (k := 1) (f := 7) (C := "FilterGuardModel") (T := F_M) (Nf := 75) hexec hb hts i_M t_M t_M_ok n_M hown hK hP hD hwf hS hj (by decide) rfl (by decide) (by decide) hlink (fun _ h9 => h9) rfl hin2 rfl rfl rfl rfl (fun a b h => me_wRE h) (me_fRw (v := some v) (by decide) (by decide)) hdg (fun H1 locs1 a1 a2 a3 => kk H1 locs1 a1 a2 (me_wfR hwf (fun t z => by cases z; exact hv)) a3)
theorem d_M_init_33 : decode prog_14_method_1_code 33 = .ok (.aload_n 0, 1) := by decide +kernel
theorem d_M_init_34 : decode prog_14_method_1_code 34 = .ok (.iconst 4, 1) := by decide +kernel
theorem d_M_init_35 : decode prog_14_method_1_code 35 = .ok (.newarray .int, 2) := by decide +kernel
theorem d_M_init_37 : decode prog_14_method_1_code 37 = .ok (.putfield 24, 3) := by decide +kernel
theorem u_1749 : Cond.fieldLink "FilterGuardModel" 24 "FilterGuardModel" "entries" "[I" ∈ fg_g := fg_in (List.mem_of_getElem? (i := 1749) (by decide +kernel)) rfl
theorem P_M_8 {p : Program} {l : Launch} {e : Env} {R : Room} {s : Jvm.State} {m : MethodId} {args : Array Value} {below : List Frame} {meth : Method} {c : Code} {H : Heap} {locs : List Loc} {cells slots : Nat} {Q : Jvm.State → Prop} {cc : ByteArray} {pc : Nat} {ls : Array Slot} {rest : List Value} {D : va_G} {A : Nat → Prop} {H0 : Heap} {ad : Nat → Nat → Nat} {ca : Nat → ClassId} {M M1 : me_M} {N : Nat → Nat} {index j : Nat} {v : Nat} (he : M1 = wR M 1 j 8 (some v)) (hexec : p.tables.exec = Jvm.exec) (hb : c.code = cc) (hts : ∀ w ∈ fg_g, w.before args s = true) (hown : s.vm.findClass "FilterGuardModel" = some m.cls) (hK : va_K D classes (me_T ca) s) (hP : va_P D classes (me_W ad ca M) H) (hD : va_D A (me_W ad ca M)) (hwf : me_wf N M) (hS : va_S A H0 H locs) (hj : j < N 1) (hv : v < N 13) (hin2 : meth.name = "<init>") (hlink : (Cond.fieldLink "FilterGuardModel" index "FilterGuardModel" "entries" "[I").before args s = true) (hdg : decode cc pc = .ok (.putfield index, 3)) (kk : ∀ (H1 : Heap) (locs1 : List Loc), va_P D classes (me_W ad ca M1) H1 → va_D A (me_W ad ca M1) → me_wf N M1 → va_S A H0 H1 locs1 → W p l e R s m args below meth c H1 locs1 cells slots Q (F0 m (pc + 3) ls rest)) : W p l e R s m args below meth c H locs cells slots Q (F0 m pc ls (.ref (ad 13 v) :: .ref (ad 1 j) :: rest)) := by
  subst he
  exact me_putF (M1 := wR M 1 j 8 (some v)) (k := 1) (f := 8) (C := "FilterGuardModel") (T := F_M) (Nf := 75) hexec hb hts i_M t_M t_M_ok n_M hown hK hP hD hwf hS hj (by decide) rfl (by decide) (by decide) hlink (fun _ h9 => h9) rfl hin2 rfl rfl rfl rfl (fun a b h => me_wRE h) (me_fRw (v := some v) (by decide) (by decide)) hdg (fun H1 locs1 a1 a2 a3 => kk H1 locs1 a1 a2 (me_wfR hwf (fun t z => by cases z; exact hv)) a3)
theorem d_M_init_40 : decode prog_14_method_1_code 40 = .ok (.aload_n 0, 1) := by decide +kernel
theorem d_M_init_41 : decode prog_14_method_1_code 41 = .ok (.sipush 256, 3) := by decide +kernel
theorem d_M_init_44 : decode prog_14_method_1_code 44 = .ok (.newarray .boolean, 2) := by decide +kernel
theorem d_M_init_46 : decode prog_14_method_1_code 46 = .ok (.putfield 27, 3) := by decide +kernel
theorem u_1750 : Cond.fieldLink "FilterGuardModel" 27 "FilterGuardModel" "there" "[Z" ∈ fg_g := fg_in (List.mem_of_getElem? (i := 1750) (by decide +kernel)) rfl
theorem P_M_9 {p : Program} {l : Launch} {e : Env} {R : Room} {s : Jvm.State} {m : MethodId} {args : Array Value} {below : List Frame} {meth : Method} {c : Code} {H : Heap} {locs : List Loc} {cells slots : Nat} {Q : Jvm.State → Prop} {cc : ByteArray} {pc : Nat} {ls : Array Slot} {rest : List Value} {D : va_G} {A : Nat → Prop} {H0 : Heap} {ad : Nat → Nat → Nat} {ca : Nat → ClassId} {M M1 : me_M} {N : Nat → Nat} {index j : Nat} {v : Nat} (he : M1 = wR M 1 j 9 (some v)) (hexec : p.tables.exec = Jvm.exec) (hb : c.code = cc) (hts : ∀ w ∈ fg_g, w.before args s = true) (hown : s.vm.findClass "FilterGuardModel" = some m.cls) (hK : va_K D classes (me_T ca) s) (hP : va_P D classes (me_W ad ca M) H) (hD : va_D A (me_W ad ca M)) (hwf : me_wf N M) (hS : va_S A H0 H locs) (hj : j < N 1) (hv : v < N 15) (hin2 : meth.name = "<init>") (hlink : (Cond.fieldLink "FilterGuardModel" index "FilterGuardModel" "there" "[Z").before args s = true) (hdg : decode cc pc = .ok (.putfield index, 3)) (kk : ∀ (H1 : Heap) (locs1 : List Loc), va_P D classes (me_W ad ca M1) H1 → va_D A (me_W ad ca M1) → me_wf N M1 → va_S A H0 H1 locs1 → W p l e R s m args below meth c H1 locs1 cells slots Q (F0 m (pc + 3) ls rest)) : W p l e R s m args below meth c H locs cells slots Q (F0 m pc ls (.ref (ad 15 v) :: .ref (ad 1 j) :: rest)) := by
  subst he
  exact me_putF (M1 := wR M 1 j 9 (some v)) (k := 1) (f := 9) (C := "FilterGuardModel") (T := F_M) (Nf := 75) hexec hb hts i_M t_M t_M_ok n_M hown hK hP hD hwf hS hj (by decide) rfl (by decide) (by decide) hlink (fun _ h9 => h9) rfl hin2 rfl rfl rfl rfl (fun a b h => me_wRE h) (me_fRw (v := some v) (by decide) (by decide)) hdg (fun H1 locs1 a1 a2 a3 => kk H1 locs1 a1 a2 (me_wfR hwf (fun t z => by cases z; exact hv)) a3)
theorem d_M_init_49 : decode prog_14_method_1_code 49 = .ok (.aload_n 0, 1) := by decide +kernel
theorem d_M_init_50 : decode prog_14_method_1_code 50 = .ok (.sipush 4096, 3) := by decide +kernel
theorem d_M_init_53 : decode prog_14_method_1_code 53 = .ok (.newarray .byte, 2) := by decide +kernel
theorem d_M_init_55 : decode prog_14_method_1_code 55 = .ok (.putfield 31, 3) := by decide +kernel
theorem u_1751 : Cond.fieldLink "FilterGuardModel" 31 "FilterGuardModel" "keys" "[B" ∈ fg_g := fg_in (List.mem_of_getElem? (i := 1751) (by decide +kernel)) rfl
theorem P_M_10 {p : Program} {l : Launch} {e : Env} {R : Room} {s : Jvm.State} {m : MethodId} {args : Array Value} {below : List Frame} {meth : Method} {c : Code} {H : Heap} {locs : List Loc} {cells slots : Nat} {Q : Jvm.State → Prop} {cc : ByteArray} {pc : Nat} {ls : Array Slot} {rest : List Value} {D : va_G} {A : Nat → Prop} {H0 : Heap} {ad : Nat → Nat → Nat} {ca : Nat → ClassId} {M M1 : me_M} {N : Nat → Nat} {index j : Nat} {v : Nat} (he : M1 = wR M 1 j 10 (some v)) (hexec : p.tables.exec = Jvm.exec) (hb : c.code = cc) (hts : ∀ w ∈ fg_g, w.before args s = true) (hown : s.vm.findClass "FilterGuardModel" = some m.cls) (hK : va_K D classes (me_T ca) s) (hP : va_P D classes (me_W ad ca M) H) (hD : va_D A (me_W ad ca M)) (hwf : me_wf N M) (hS : va_S A H0 H locs) (hj : j < N 1) (hv : v < N 14) (hin2 : meth.name = "<init>") (hlink : (Cond.fieldLink "FilterGuardModel" index "FilterGuardModel" "keys" "[B").before args s = true) (hdg : decode cc pc = .ok (.putfield index, 3)) (kk : ∀ (H1 : Heap) (locs1 : List Loc), va_P D classes (me_W ad ca M1) H1 → va_D A (me_W ad ca M1) → me_wf N M1 → va_S A H0 H1 locs1 → W p l e R s m args below meth c H1 locs1 cells slots Q (F0 m (pc + 3) ls rest)) : W p l e R s m args below meth c H locs cells slots Q (F0 m pc ls (.ref (ad 14 v) :: .ref (ad 1 j) :: rest)) := by
  subst he
  exact me_putF (M1 := wR M 1 j 10 (some v)) (k := 1) (f := 10) (C := "FilterGuardModel") (T := F_M) (Nf := 75) hexec hb hts i_M t_M t_M_ok n_M hown hK hP hD hwf hS hj (by decide) rfl (by decide) (by decide) hlink (fun _ h9 => h9) rfl hin2 rfl rfl rfl rfl (fun a b h => me_wRE h) (me_fRw (v := some v) (by decide) (by decide)) hdg (fun H1 locs1 a1 a2 a3 => kk H1 locs1 a1 a2 (me_wfR hwf (fun t z => by cases z; exact hv)) a3)
theorem d_M_init_58 : decode prog_14_method_1_code 58 = .ok (.aload_n 0, 1) := by decide +kernel
theorem d_M_init_59 : decode prog_14_method_1_code 59 = .ok (.sipush 16384, 3) := by decide +kernel
theorem d_M_init_62 : decode prog_14_method_1_code 62 = .ok (.newarray .byte, 2) := by decide +kernel
theorem d_M_init_64 : decode prog_14_method_1_code 64 = .ok (.putfield 34, 3) := by decide +kernel
theorem u_1752 : Cond.fieldLink "FilterGuardModel" 34 "FilterGuardModel" "values" "[B" ∈ fg_g := fg_in (List.mem_of_getElem? (i := 1752) (by decide +kernel)) rfl
theorem P_M_11 {p : Program} {l : Launch} {e : Env} {R : Room} {s : Jvm.State} {m : MethodId} {args : Array Value} {below : List Frame} {meth : Method} {c : Code} {H : Heap} {locs : List Loc} {cells slots : Nat} {Q : Jvm.State → Prop} {cc : ByteArray} {pc : Nat} {ls : Array Slot} {rest : List Value} {D : va_G} {A : Nat → Prop} {H0 : Heap} {ad : Nat → Nat → Nat} {ca : Nat → ClassId} {M M1 : me_M} {N : Nat → Nat} {index j : Nat} {v : Nat} (he : M1 = wR M 1 j 11 (some v)) (hexec : p.tables.exec = Jvm.exec) (hb : c.code = cc) (hts : ∀ w ∈ fg_g, w.before args s = true) (hown : s.vm.findClass "FilterGuardModel" = some m.cls) (hK : va_K D classes (me_T ca) s) (hP : va_P D classes (me_W ad ca M) H) (hD : va_D A (me_W ad ca M)) (hwf : me_wf N M) (hS : va_S A H0 H locs) (hj : j < N 1) (hv : v < N 14) (hin2 : meth.name = "<init>") (hlink : (Cond.fieldLink "FilterGuardModel" index "FilterGuardModel" "values" "[B").before args s = true) (hdg : decode cc pc = .ok (.putfield index, 3)) (kk : ∀ (H1 : Heap) (locs1 : List Loc), va_P D classes (me_W ad ca M1) H1 → va_D A (me_W ad ca M1) → me_wf N M1 → va_S A H0 H1 locs1 → W p l e R s m args below meth c H1 locs1 cells slots Q (F0 m (pc + 3) ls rest)) : W p l e R s m args below meth c H locs cells slots Q (F0 m pc ls (.ref (ad 14 v) :: .ref (ad 1 j) :: rest)) := by
  subst he
  exact me_putF (M1 := wR M 1 j 11 (some v)) (k := 1) (f := 11) (C := "FilterGuardModel") (T := F_M) (Nf := 75) hexec hb hts i_M t_M t_M_ok n_M hown hK hP hD hwf hS hj (by decide) rfl (by decide) (by decide) hlink (fun _ h9 => h9) rfl hin2 rfl rfl rfl rfl (fun a b h => me_wRE h) (me_fRw (v := some v) (by decide) (by decide)) hdg (fun H1 locs1 a1 a2 a3 => kk H1 locs1 a1 a2 (me_wfR hwf (fun t z => by cases z; exact hv)) a3)
theorem d_M_init_67 : decode prog_14_method_1_code 67 = .ok (.aload_n 0, 1) := by decide +kernel
theorem d_M_init_68 : decode prog_14_method_1_code 68 = .ok (.sipush 2000, 3) := by decide +kernel
theorem d_M_init_71 : decode prog_14_method_1_code 71 = .ok (.newarray .long, 2) := by decide +kernel
theorem d_M_init_73 : decode prog_14_method_1_code 73 = .ok (.putfield 37, 3) := by decide +kernel
theorem u_1754 : Cond.fieldLink "FilterGuardModel" 37 "FilterGuardModel" "slot" "[J" ∈ fg_g := fg_in (List.mem_of_getElem? (i := 1754) (by decide +kernel)) rfl
theorem P_M_13 {p : Program} {l : Launch} {e : Env} {R : Room} {s : Jvm.State} {m : MethodId} {args : Array Value} {below : List Frame} {meth : Method} {c : Code} {H : Heap} {locs : List Loc} {cells slots : Nat} {Q : Jvm.State → Prop} {cc : ByteArray} {pc : Nat} {ls : Array Slot} {rest : List Value} {D : va_G} {A : Nat → Prop} {H0 : Heap} {ad : Nat → Nat → Nat} {ca : Nat → ClassId} {M M1 : me_M} {N : Nat → Nat} {index j : Nat} {v : Nat} (he : M1 = wR M 1 j 13 (some v)) (hexec : p.tables.exec = Jvm.exec) (hb : c.code = cc) (hts : ∀ w ∈ fg_g, w.before args s = true) (hown : s.vm.findClass "FilterGuardModel" = some m.cls) (hK : va_K D classes (me_T ca) s) (hP : va_P D classes (me_W ad ca M) H) (hD : va_D A (me_W ad ca M)) (hwf : me_wf N M) (hS : va_S A H0 H locs) (hj : j < N 1) (hv : v < N 16) (hin2 : meth.name = "<init>") (hlink : (Cond.fieldLink "FilterGuardModel" index "FilterGuardModel" "slot" "[J").before args s = true) (hdg : decode cc pc = .ok (.putfield index, 3)) (kk : ∀ (H1 : Heap) (locs1 : List Loc), va_P D classes (me_W ad ca M1) H1 → va_D A (me_W ad ca M1) → me_wf N M1 → va_S A H0 H1 locs1 → W p l e R s m args below meth c H1 locs1 cells slots Q (F0 m (pc + 3) ls rest)) : W p l e R s m args below meth c H locs cells slots Q (F0 m pc ls (.ref (ad 16 v) :: .ref (ad 1 j) :: rest)) := by
  subst he
  exact me_putF (M1 := wR M 1 j 13 (some v)) (k := 1) (f := 13) (C := "FilterGuardModel") (T := F_M) (Nf := 75) hexec hb hts i_M t_M t_M_ok n_M hown hK hP hD hwf hS hj (by decide) rfl (by decide) (by decide) hlink (fun _ h9 => h9) rfl hin2 rfl rfl rfl rfl (fun a b h => me_wRE h) (me_fRw (v := some v) (by decide) (by decide)) hdg (fun H1 locs1 a1 a2 a3 => kk H1 locs1 a1 a2 (me_wfR hwf (fun t z => by cases z; exact hv)) a3)
theorem d_M_init_76 : decode prog_14_method_1_code 76 = .ok (.aload_n 0, 1) := by decide +kernel
theorem d_M_init_77 : decode prog_14_method_1_code 77 = .ok (.sipush 2000, 3) := by decide +kernel
theorem d_M_init_80 : decode prog_14_method_1_code 80 = .ok (.newarray .long, 2) := by decide +kernel
theorem d_M_init_82 : decode prog_14_method_1_code 82 = .ok (.putfield 41, 3) := by decide +kernel
theorem u_1757 : Cond.fieldLink "FilterGuardModel" 41 "FilterGuardModel" "program" "[J" ∈ fg_g := fg_in (List.mem_of_getElem? (i := 1757) (by decide +kernel)) rfl
theorem P_M_16 {p : Program} {l : Launch} {e : Env} {R : Room} {s : Jvm.State} {m : MethodId} {args : Array Value} {below : List Frame} {meth : Method} {c : Code} {H : Heap} {locs : List Loc} {cells slots : Nat} {Q : Jvm.State → Prop} {cc : ByteArray} {pc : Nat} {ls : Array Slot} {rest : List Value} {D : va_G} {A : Nat → Prop} {H0 : Heap} {ad : Nat → Nat → Nat} {ca : Nat → ClassId} {M M1 : me_M} {N : Nat → Nat} {index j : Nat} {v : Nat} (he : M1 = wR M 1 j 16 (some v)) (hexec : p.tables.exec = Jvm.exec) (hb : c.code = cc) (hts : ∀ w ∈ fg_g, w.before args s = true) (hown : s.vm.findClass "FilterGuardModel" = some m.cls) (hK : va_K D classes (me_T ca) s) (hP : va_P D classes (me_W ad ca M) H) (hD : va_D A (me_W ad ca M)) (hwf : me_wf N M) (hS : va_S A H0 H locs) (hj : j < N 1) (hv : v < N 16) (hin2 : meth.name = "<init>") (hlink : (Cond.fieldLink "FilterGuardModel" index "FilterGuardModel" "program" "[J").before args s = true) (hdg : decode cc pc = .ok (.putfield index, 3)) (kk : ∀ (H1 : Heap) (locs1 : List Loc), va_P D classes (me_W ad ca M1) H1 → va_D A (me_W ad ca M1) → me_wf N M1 → va_S A H0 H1 locs1 → W p l e R s m args below meth c H1 locs1 cells slots Q (F0 m (pc + 3) ls rest)) : W p l e R s m args below meth c H locs cells slots Q (F0 m pc ls (.ref (ad 16 v) :: .ref (ad 1 j) :: rest)) := by
  subst he
  exact me_putF (M1 := wR M 1 j 16 (some v)) (k := 1) (f := 16) (C := "FilterGuardModel") (T := F_M) (Nf := 75) hexec hb hts i_M t_M t_M_ok n_M hown hK hP hD hwf hS hj (by decide) rfl (by decide) (by decide) hlink (fun _ h9 => h9) rfl hin2 rfl rfl rfl rfl (fun a b h => me_wRE h) (me_fRw (v := some v) (by decide) (by decide)) hdg (fun H1 locs1 a1 a2 a3 => kk H1 locs1 a1 a2 (me_wfR hwf (fun t z => by cases z; exact hv)) a3)
theorem d_M_init_85 : decode prog_14_method_1_code 85 = .ok (.aload_n 0, 1) := by decide +kernel
theorem d_M_init_86 : decode prog_14_method_1_code 86 = .ok (.sipush 2000, 3) := by decide +kernel
theorem d_M_init_89 : decode prog_14_method_1_code 89 = .ok (.newarray .long, 2) := by decide +kernel
theorem d_M_init_91 : decode prog_14_method_1_code 91 = .ok (.putfield 44, 3) := by decide +kernel
theorem u_1758 : Cond.fieldLink "FilterGuardModel" 44 "FilterGuardModel" "shorter" "[J" ∈ fg_g := fg_in (List.mem_of_getElem? (i := 1758) (by decide +kernel)) rfl
theorem P_M_17 {p : Program} {l : Launch} {e : Env} {R : Room} {s : Jvm.State} {m : MethodId} {args : Array Value} {below : List Frame} {meth : Method} {c : Code} {H : Heap} {locs : List Loc} {cells slots : Nat} {Q : Jvm.State → Prop} {cc : ByteArray} {pc : Nat} {ls : Array Slot} {rest : List Value} {D : va_G} {A : Nat → Prop} {H0 : Heap} {ad : Nat → Nat → Nat} {ca : Nat → ClassId} {M M1 : me_M} {N : Nat → Nat} {index j : Nat} {v : Nat} (he : M1 = wR M 1 j 17 (some v)) (hexec : p.tables.exec = Jvm.exec) (hb : c.code = cc) (hts : ∀ w ∈ fg_g, w.before args s = true) (hown : s.vm.findClass "FilterGuardModel" = some m.cls) (hK : va_K D classes (me_T ca) s) (hP : va_P D classes (me_W ad ca M) H) (hD : va_D A (me_W ad ca M)) (hwf : me_wf N M) (hS : va_S A H0 H locs) (hj : j < N 1) (hv : v < N 16) (hin2 : meth.name = "<init>") (hlink : (Cond.fieldLink "FilterGuardModel" index "FilterGuardModel" "shorter" "[J").before args s = true) (hdg : decode cc pc = .ok (.putfield index, 3)) (kk : ∀ (H1 : Heap) (locs1 : List Loc), va_P D classes (me_W ad ca M1) H1 → va_D A (me_W ad ca M1) → me_wf N M1 → va_S A H0 H1 locs1 → W p l e R s m args below meth c H1 locs1 cells slots Q (F0 m (pc + 3) ls rest)) : W p l e R s m args below meth c H locs cells slots Q (F0 m pc ls (.ref (ad 16 v) :: .ref (ad 1 j) :: rest)) := by
  subst he
  exact me_putF (M1 := wR M 1 j 17 (some v)) (k := 1) (f := 17) (C := "FilterGuardModel") (T := F_M) (Nf := 75) hexec hb hts i_M t_M t_M_ok n_M hown hK hP hD hwf hS hj (by decide) rfl (by decide) (by decide) hlink (fun _ h9 => h9) rfl hin2 rfl rfl rfl rfl (fun a b h => me_wRE h) (me_fRw (v := some v) (by decide) (by decide)) hdg (fun H1 locs1 a1 a2 a3 => kk H1 locs1 a1 a2 (me_wfR hwf (fun t z => by cases z; exact hv)) a3)
theorem d_M_init_94 : decode prog_14_method_1_code 94 = .ok (.aload_n 0, 1) := by decide +kernel
theorem d_M_init_95 : decode prog_14_method_1_code 95 = .ok (.sipush 2000, 3) := by decide +kernel
theorem d_M_init_98 : decode prog_14_method_1_code 98 = .ok (.newarray .int, 2) := by decide +kernel
theorem d_M_init_100 : decode prog_14_method_1_code 100 = .ok (.putfield 47, 3) := by decide +kernel
theorem u_1768 : Cond.fieldLink "FilterGuardModel" 47 "FilterGuardModel" "visited" "[I" ∈ fg_g := fg_in (List.mem_of_getElem? (i := 1768) (by decide +kernel)) rfl
theorem P_M_27 {p : Program} {l : Launch} {e : Env} {R : Room} {s : Jvm.State} {m : MethodId} {args : Array Value} {below : List Frame} {meth : Method} {c : Code} {H : Heap} {locs : List Loc} {cells slots : Nat} {Q : Jvm.State → Prop} {cc : ByteArray} {pc : Nat} {ls : Array Slot} {rest : List Value} {D : va_G} {A : Nat → Prop} {H0 : Heap} {ad : Nat → Nat → Nat} {ca : Nat → ClassId} {M M1 : me_M} {N : Nat → Nat} {index j : Nat} {v : Nat} (he : M1 = wR M 1 j 27 (some v)) (hexec : p.tables.exec = Jvm.exec) (hb : c.code = cc) (hts : ∀ w ∈ fg_g, w.before args s = true) (hown : s.vm.findClass "FilterGuardModel" = some m.cls) (hK : va_K D classes (me_T ca) s) (hP : va_P D classes (me_W ad ca M) H) (hD : va_D A (me_W ad ca M)) (hwf : me_wf N M) (hS : va_S A H0 H locs) (hj : j < N 1) (hv : v < N 13) (hin2 : meth.name = "<init>") (hlink : (Cond.fieldLink "FilterGuardModel" index "FilterGuardModel" "visited" "[I").before args s = true) (hdg : decode cc pc = .ok (.putfield index, 3)) (kk : ∀ (H1 : Heap) (locs1 : List Loc), va_P D classes (me_W ad ca M1) H1 → va_D A (me_W ad ca M1) → me_wf N M1 → va_S A H0 H1 locs1 → W p l e R s m args below meth c H1 locs1 cells slots Q (F0 m (pc + 3) ls rest)) : W p l e R s m args below meth c H locs cells slots Q (F0 m pc ls (.ref (ad 13 v) :: .ref (ad 1 j) :: rest)) := by
  subst he
  exact me_putF (M1 := wR M 1 j 27 (some v)) (k := 1) (f := 27) (C := "FilterGuardModel") (T := F_M) (Nf := 75) hexec hb hts i_M t_M t_M_ok n_M hown hK hP hD hwf hS hj (by decide) rfl (by decide) (by decide) hlink (fun _ h9 => h9) rfl hin2 rfl rfl rfl rfl (fun a b h => me_wRE h) (me_fRw (v := some v) (by decide) (by decide)) hdg (fun H1 locs1 a1 a2 a3 => kk H1 locs1 a1 a2 (me_wfR hwf (fun t z => by cases z; exact hv)) a3)
theorem d_M_init_103 : decode prog_14_method_1_code 103 = .ok (.aload_n 0, 1) := by decide +kernel
theorem d_M_init_104 : decode prog_14_method_1_code 104 = .ok (.sipush 2000, 3) := by decide +kernel
theorem d_M_init_107 : decode prog_14_method_1_code 107 = .ok (.newarray .boolean, 2) := by decide +kernel
theorem d_M_init_109 : decode prog_14_method_1_code 109 = .ok (.putfield 50, 3) := by decide +kernel
theorem u_1769 : Cond.fieldLink "FilterGuardModel" 50 "FilterGuardModel" "went" "[Z" ∈ fg_g := fg_in (List.mem_of_getElem? (i := 1769) (by decide +kernel)) rfl
theorem P_M_28 {p : Program} {l : Launch} {e : Env} {R : Room} {s : Jvm.State} {m : MethodId} {args : Array Value} {below : List Frame} {meth : Method} {c : Code} {H : Heap} {locs : List Loc} {cells slots : Nat} {Q : Jvm.State → Prop} {cc : ByteArray} {pc : Nat} {ls : Array Slot} {rest : List Value} {D : va_G} {A : Nat → Prop} {H0 : Heap} {ad : Nat → Nat → Nat} {ca : Nat → ClassId} {M M1 : me_M} {N : Nat → Nat} {index j : Nat} {v : Nat} (he : M1 = wR M 1 j 28 (some v)) (hexec : p.tables.exec = Jvm.exec) (hb : c.code = cc) (hts : ∀ w ∈ fg_g, w.before args s = true) (hown : s.vm.findClass "FilterGuardModel" = some m.cls) (hK : va_K D classes (me_T ca) s) (hP : va_P D classes (me_W ad ca M) H) (hD : va_D A (me_W ad ca M)) (hwf : me_wf N M) (hS : va_S A H0 H locs) (hj : j < N 1) (hv : v < N 15) (hin2 : meth.name = "<init>") (hlink : (Cond.fieldLink "FilterGuardModel" index "FilterGuardModel" "went" "[Z").before args s = true) (hdg : decode cc pc = .ok (.putfield index, 3)) (kk : ∀ (H1 : Heap) (locs1 : List Loc), va_P D classes (me_W ad ca M1) H1 → va_D A (me_W ad ca M1) → me_wf N M1 → va_S A H0 H1 locs1 → W p l e R s m args below meth c H1 locs1 cells slots Q (F0 m (pc + 3) ls rest)) : W p l e R s m args below meth c H locs cells slots Q (F0 m pc ls (.ref (ad 15 v) :: .ref (ad 1 j) :: rest)) := by
  subst he
  exact me_putF (M1 := wR M 1 j 28 (some v)) (k := 1) (f := 28) (C := "FilterGuardModel") (T := F_M) (Nf := 75) hexec hb hts i_M t_M t_M_ok n_M hown hK hP hD hwf hS hj (by decide) rfl (by decide) (by decide) hlink (fun _ h9 => h9) rfl hin2 rfl rfl rfl rfl (fun a b h => me_wRE h) (me_fRw (v := some v) (by decide) (by decide)) hdg (fun H1 locs1 a1 a2 a3 => kk H1 locs1 a1 a2 (me_wfR hwf (fun t z => by cases z; exact hv)) a3)
theorem d_M_init_112 : decode prog_14_method_1_code 112 = .ok (.aload_n 0, 1) := by decide +kernel
theorem d_M_init_113 : decode prog_14_method_1_code 113 = .ok (.sipush 2000, 3) := by decide +kernel
theorem d_M_init_116 : decode prog_14_method_1_code 116 = .ok (.newarray .boolean, 2) := by decide +kernel
theorem d_M_init_118 : decode prog_14_method_1_code 118 = .ok (.putfield 53, 3) := by decide +kernel
theorem u_1770 : Cond.fieldLink "FilterGuardModel" 53 "FilterGuardModel" "fell" "[Z" ∈ fg_g := fg_in (List.mem_of_getElem? (i := 1770) (by decide +kernel)) rfl
theorem P_M_29 {p : Program} {l : Launch} {e : Env} {R : Room} {s : Jvm.State} {m : MethodId} {args : Array Value} {below : List Frame} {meth : Method} {c : Code} {H : Heap} {locs : List Loc} {cells slots : Nat} {Q : Jvm.State → Prop} {cc : ByteArray} {pc : Nat} {ls : Array Slot} {rest : List Value} {D : va_G} {A : Nat → Prop} {H0 : Heap} {ad : Nat → Nat → Nat} {ca : Nat → ClassId} {M M1 : me_M} {N : Nat → Nat} {index j : Nat} {v : Nat} (he : M1 = wR M 1 j 29 (some v)) (hexec : p.tables.exec = Jvm.exec) (hb : c.code = cc) (hts : ∀ w ∈ fg_g, w.before args s = true) (hown : s.vm.findClass "FilterGuardModel" = some m.cls) (hK : va_K D classes (me_T ca) s) (hP : va_P D classes (me_W ad ca M) H) (hD : va_D A (me_W ad ca M)) (hwf : me_wf N M) (hS : va_S A H0 H locs) (hj : j < N 1) (hv : v < N 15) (hin2 : meth.name = "<init>") (hlink : (Cond.fieldLink "FilterGuardModel" index "FilterGuardModel" "fell" "[Z").before args s = true) (hdg : decode cc pc = .ok (.putfield index, 3)) (kk : ∀ (H1 : Heap) (locs1 : List Loc), va_P D classes (me_W ad ca M1) H1 → va_D A (me_W ad ca M1) → me_wf N M1 → va_S A H0 H1 locs1 → W p l e R s m args below meth c H1 locs1 cells slots Q (F0 m (pc + 3) ls rest)) : W p l e R s m args below meth c H locs cells slots Q (F0 m pc ls (.ref (ad 15 v) :: .ref (ad 1 j) :: rest)) := by
  subst he
  exact me_putF (M1 := wR M 1 j 29 (some v)) (k := 1) (f := 29) (C := "FilterGuardModel") (T := F_M) (Nf := 75) hexec hb hts i_M t_M t_M_ok n_M hown hK hP hD hwf hS hj (by decide) rfl (by decide) (by decide) hlink (fun _ h9 => h9) rfl hin2 rfl rfl rfl rfl (fun a b h => me_wRE h) (me_fRw (v := some v) (by decide) (by decide)) hdg (fun H1 locs1 a1 a2 a3 => kk H1 locs1 a1 a2 (me_wfR hwf (fun t z => by cases z; exact hv)) a3)
theorem d_M_init_121 : decode prog_14_method_1_code 121 = .ok (.aload_n 0, 1) := by decide +kernel
theorem d_M_init_122 : decode prog_14_method_1_code 122 = .ok (.sipush 2000, 3) := by decide +kernel
theorem d_M_init_125 : decode prog_14_method_1_code 125 = .ok (.newarray .int, 2) := by decide +kernel
theorem d_M_init_127 : decode prog_14_method_1_code 127 = .ok (.putfield 56, 3) := by decide +kernel
theorem u_1771 : Cond.fieldLink "FilterGuardModel" 56 "FilterGuardModel" "exactSo" "[I" ∈ fg_g := fg_in (List.mem_of_getElem? (i := 1771) (by decide +kernel)) rfl
theorem P_M_30 {p : Program} {l : Launch} {e : Env} {R : Room} {s : Jvm.State} {m : MethodId} {args : Array Value} {below : List Frame} {meth : Method} {c : Code} {H : Heap} {locs : List Loc} {cells slots : Nat} {Q : Jvm.State → Prop} {cc : ByteArray} {pc : Nat} {ls : Array Slot} {rest : List Value} {D : va_G} {A : Nat → Prop} {H0 : Heap} {ad : Nat → Nat → Nat} {ca : Nat → ClassId} {M M1 : me_M} {N : Nat → Nat} {index j : Nat} {v : Nat} (he : M1 = wR M 1 j 30 (some v)) (hexec : p.tables.exec = Jvm.exec) (hb : c.code = cc) (hts : ∀ w ∈ fg_g, w.before args s = true) (hown : s.vm.findClass "FilterGuardModel" = some m.cls) (hK : va_K D classes (me_T ca) s) (hP : va_P D classes (me_W ad ca M) H) (hD : va_D A (me_W ad ca M)) (hwf : me_wf N M) (hS : va_S A H0 H locs) (hj : j < N 1) (hv : v < N 13) (hin2 : meth.name = "<init>") (hlink : (Cond.fieldLink "FilterGuardModel" index "FilterGuardModel" "exactSo" "[I").before args s = true) (hdg : decode cc pc = .ok (.putfield index, 3)) (kk : ∀ (H1 : Heap) (locs1 : List Loc), va_P D classes (me_W ad ca M1) H1 → va_D A (me_W ad ca M1) → me_wf N M1 → va_S A H0 H1 locs1 → W p l e R s m args below meth c H1 locs1 cells slots Q (F0 m (pc + 3) ls rest)) : W p l e R s m args below meth c H locs cells slots Q (F0 m pc ls (.ref (ad 13 v) :: .ref (ad 1 j) :: rest)) := by
  subst he
  exact me_putF (M1 := wR M 1 j 30 (some v)) (k := 1) (f := 30) (C := "FilterGuardModel") (T := F_M) (Nf := 75) hexec hb hts i_M t_M t_M_ok n_M hown hK hP hD hwf hS hj (by decide) rfl (by decide) (by decide) hlink (fun _ h9 => h9) rfl hin2 rfl rfl rfl rfl (fun a b h => me_wRE h) (me_fRw (v := some v) (by decide) (by decide)) hdg (fun H1 locs1 a1 a2 a3 => kk H1 locs1 a1 a2 (me_wfR hwf (fun t z => by cases z; exact hv)) a3)
theorem d_M_init_130 : decode prog_14_method_1_code 130 = .ok (.aload_n 0, 1) := by decide +kernel
theorem d_M_init_131 : decode prog_14_method_1_code 131 = .ok (.sipush 2000, 3) := by decide +kernel
theorem d_M_init_134 : decode prog_14_method_1_code 134 = .ok (.newarray .long, 2) := by decide +kernel
theorem d_M_init_136 : decode prog_14_method_1_code 136 = .ok (.putfield 59, 3) := by decide +kernel
theorem u_1772 : Cond.fieldLink "FilterGuardModel" 59 "FilterGuardModel" "exactAs" "[J" ∈ fg_g := fg_in (List.mem_of_getElem? (i := 1772) (by decide +kernel)) rfl
theorem P_M_31 {p : Program} {l : Launch} {e : Env} {R : Room} {s : Jvm.State} {m : MethodId} {args : Array Value} {below : List Frame} {meth : Method} {c : Code} {H : Heap} {locs : List Loc} {cells slots : Nat} {Q : Jvm.State → Prop} {cc : ByteArray} {pc : Nat} {ls : Array Slot} {rest : List Value} {D : va_G} {A : Nat → Prop} {H0 : Heap} {ad : Nat → Nat → Nat} {ca : Nat → ClassId} {M M1 : me_M} {N : Nat → Nat} {index j : Nat} {v : Nat} (he : M1 = wR M 1 j 31 (some v)) (hexec : p.tables.exec = Jvm.exec) (hb : c.code = cc) (hts : ∀ w ∈ fg_g, w.before args s = true) (hown : s.vm.findClass "FilterGuardModel" = some m.cls) (hK : va_K D classes (me_T ca) s) (hP : va_P D classes (me_W ad ca M) H) (hD : va_D A (me_W ad ca M)) (hwf : me_wf N M) (hS : va_S A H0 H locs) (hj : j < N 1) (hv : v < N 16) (hin2 : meth.name = "<init>") (hlink : (Cond.fieldLink "FilterGuardModel" index "FilterGuardModel" "exactAs" "[J").before args s = true) (hdg : decode cc pc = .ok (.putfield index, 3)) (kk : ∀ (H1 : Heap) (locs1 : List Loc), va_P D classes (me_W ad ca M1) H1 → va_D A (me_W ad ca M1) → me_wf N M1 → va_S A H0 H1 locs1 → W p l e R s m args below meth c H1 locs1 cells slots Q (F0 m (pc + 3) ls rest)) : W p l e R s m args below meth c H locs cells slots Q (F0 m pc ls (.ref (ad 16 v) :: .ref (ad 1 j) :: rest)) := by
  subst he
  exact me_putF (M1 := wR M 1 j 31 (some v)) (k := 1) (f := 31) (C := "FilterGuardModel") (T := F_M) (Nf := 75) hexec hb hts i_M t_M t_M_ok n_M hown hK hP hD hwf hS hj (by decide) rfl (by decide) (by decide) hlink (fun _ h9 => h9) rfl hin2 rfl rfl rfl rfl (fun a b h => me_wRE h) (me_fRw (v := some v) (by decide) (by decide)) hdg (fun H1 locs1 a1 a2 a3 => kk H1 locs1 a1 a2 (me_wfR hwf (fun t z => by cases z; exact hv)) a3)
theorem d_M_init_139 : decode prog_14_method_1_code 139 = .ok (.aload_n 0, 1) := by decide +kernel
theorem d_M_init_140 : decode prog_14_method_1_code 140 = .ok (.sipush 2000, 3) := by decide +kernel
theorem d_M_init_143 : decode prog_14_method_1_code 143 = .ok (.newarray .boolean, 2) := by decide +kernel
theorem d_M_init_145 : decode prog_14_method_1_code 145 = .ok (.putfield 62, 3) := by decide +kernel
theorem u_1773 : Cond.fieldLink "FilterGuardModel" 62 "FilterGuardModel" "second" "[Z" ∈ fg_g := fg_in (List.mem_of_getElem? (i := 1773) (by decide +kernel)) rfl
theorem P_M_32 {p : Program} {l : Launch} {e : Env} {R : Room} {s : Jvm.State} {m : MethodId} {args : Array Value} {below : List Frame} {meth : Method} {c : Code} {H : Heap} {locs : List Loc} {cells slots : Nat} {Q : Jvm.State → Prop} {cc : ByteArray} {pc : Nat} {ls : Array Slot} {rest : List Value} {D : va_G} {A : Nat → Prop} {H0 : Heap} {ad : Nat → Nat → Nat} {ca : Nat → ClassId} {M M1 : me_M} {N : Nat → Nat} {index j : Nat} {v : Nat} (he : M1 = wR M 1 j 32 (some v)) (hexec : p.tables.exec = Jvm.exec) (hb : c.code = cc) (hts : ∀ w ∈ fg_g, w.before args s = true) (hown : s.vm.findClass "FilterGuardModel" = some m.cls) (hK : va_K D classes (me_T ca) s) (hP : va_P D classes (me_W ad ca M) H) (hD : va_D A (me_W ad ca M)) (hwf : me_wf N M) (hS : va_S A H0 H locs) (hj : j < N 1) (hv : v < N 15) (hin2 : meth.name = "<init>") (hlink : (Cond.fieldLink "FilterGuardModel" index "FilterGuardModel" "second" "[Z").before args s = true) (hdg : decode cc pc = .ok (.putfield index, 3)) (kk : ∀ (H1 : Heap) (locs1 : List Loc), va_P D classes (me_W ad ca M1) H1 → va_D A (me_W ad ca M1) → me_wf N M1 → va_S A H0 H1 locs1 → W p l e R s m args below meth c H1 locs1 cells slots Q (F0 m (pc + 3) ls rest)) : W p l e R s m args below meth c H locs cells slots Q (F0 m pc ls (.ref (ad 15 v) :: .ref (ad 1 j) :: rest)) := by
  subst he
  exact me_putF (M1 := wR M 1 j 32 (some v)) (k := 1) (f := 32) (C := "FilterGuardModel") (T := F_M) (Nf := 75) hexec hb hts i_M t_M t_M_ok n_M hown hK hP hD hwf hS hj (by decide) rfl (by decide) (by decide) hlink (fun _ h9 => h9) rfl hin2 rfl rfl rfl rfl (fun a b h => me_wRE h) (me_fRw (v := some v) (by decide) (by decide)) hdg (fun H1 locs1 a1 a2 a3 => kk H1 locs1 a1 a2 (me_wfR hwf (fun t z => by cases z; exact hv)) a3)
theorem d_M_init_148 : decode prog_14_method_1_code 148 = .ok (.aload_n 0, 1) := by decide +kernel
theorem d_M_init_149 : decode prog_14_method_1_code 149 = .ok (.sipush 2000, 3) := by decide +kernel
theorem d_M_init_152 : decode prog_14_method_1_code 152 = .ok (.newarray .boolean, 2) := by decide +kernel
theorem d_M_init_154 : decode prog_14_method_1_code 154 = .ok (.putfield 65, 3) := by decide +kernel
theorem u_1774 : Cond.fieldLink "FilterGuardModel" 65 "FilterGuardModel" "isMark" "[Z" ∈ fg_g := fg_in (List.mem_of_getElem? (i := 1774) (by decide +kernel)) rfl
theorem P_M_33 {p : Program} {l : Launch} {e : Env} {R : Room} {s : Jvm.State} {m : MethodId} {args : Array Value} {below : List Frame} {meth : Method} {c : Code} {H : Heap} {locs : List Loc} {cells slots : Nat} {Q : Jvm.State → Prop} {cc : ByteArray} {pc : Nat} {ls : Array Slot} {rest : List Value} {D : va_G} {A : Nat → Prop} {H0 : Heap} {ad : Nat → Nat → Nat} {ca : Nat → ClassId} {M M1 : me_M} {N : Nat → Nat} {index j : Nat} {v : Nat} (he : M1 = wR M 1 j 33 (some v)) (hexec : p.tables.exec = Jvm.exec) (hb : c.code = cc) (hts : ∀ w ∈ fg_g, w.before args s = true) (hown : s.vm.findClass "FilterGuardModel" = some m.cls) (hK : va_K D classes (me_T ca) s) (hP : va_P D classes (me_W ad ca M) H) (hD : va_D A (me_W ad ca M)) (hwf : me_wf N M) (hS : va_S A H0 H locs) (hj : j < N 1) (hv : v < N 15) (hin2 : meth.name = "<init>") (hlink : (Cond.fieldLink "FilterGuardModel" index "FilterGuardModel" "isMark" "[Z").before args s = true) (hdg : decode cc pc = .ok (.putfield index, 3)) (kk : ∀ (H1 : Heap) (locs1 : List Loc), va_P D classes (me_W ad ca M1) H1 → va_D A (me_W ad ca M1) → me_wf N M1 → va_S A H0 H1 locs1 → W p l e R s m args below meth c H1 locs1 cells slots Q (F0 m (pc + 3) ls rest)) : W p l e R s m args below meth c H locs cells slots Q (F0 m pc ls (.ref (ad 15 v) :: .ref (ad 1 j) :: rest)) := by
  subst he
  exact me_putF (M1 := wR M 1 j 33 (some v)) (k := 1) (f := 33) (C := "FilterGuardModel") (T := F_M) (Nf := 75) hexec hb hts i_M t_M t_M_ok n_M hown hK hP hD hwf hS hj (by decide) rfl (by decide) (by decide) hlink (fun _ h9 => h9) rfl hin2 rfl rfl rfl rfl (fun a b h => me_wRE h) (me_fRw (v := some v) (by decide) (by decide)) hdg (fun H1 locs1 a1 a2 a3 => kk H1 locs1 a1 a2 (me_wfR hwf (fun t z => by cases z; exact hv)) a3)
theorem d_M_init_157 : decode prog_14_method_1_code 157 = .ok (.aload_n 0, 1) := by decide +kernel
theorem d_M_init_158 : decode prog_14_method_1_code 158 = .ok (.sipush 2000, 3) := by decide +kernel
theorem d_M_init_161 : decode prog_14_method_1_code 161 = .ok (.newarray .byte, 2) := by decide +kernel
theorem d_M_init_163 : decode prog_14_method_1_code 163 = .ok (.putfield 68, 3) := by decide +kernel
theorem u_1776 : Cond.fieldLink "FilterGuardModel" 68 "FilterGuardModel" "packet" "[B" ∈ fg_g := fg_in (List.mem_of_getElem? (i := 1776) (by decide +kernel)) rfl
theorem P_M_35 {p : Program} {l : Launch} {e : Env} {R : Room} {s : Jvm.State} {m : MethodId} {args : Array Value} {below : List Frame} {meth : Method} {c : Code} {H : Heap} {locs : List Loc} {cells slots : Nat} {Q : Jvm.State → Prop} {cc : ByteArray} {pc : Nat} {ls : Array Slot} {rest : List Value} {D : va_G} {A : Nat → Prop} {H0 : Heap} {ad : Nat → Nat → Nat} {ca : Nat → ClassId} {M M1 : me_M} {N : Nat → Nat} {index j : Nat} {v : Nat} (he : M1 = wR M 1 j 35 (some v)) (hexec : p.tables.exec = Jvm.exec) (hb : c.code = cc) (hts : ∀ w ∈ fg_g, w.before args s = true) (hown : s.vm.findClass "FilterGuardModel" = some m.cls) (hK : va_K D classes (me_T ca) s) (hP : va_P D classes (me_W ad ca M) H) (hD : va_D A (me_W ad ca M)) (hwf : me_wf N M) (hS : va_S A H0 H locs) (hj : j < N 1) (hv : v < N 14) (hin2 : meth.name = "<init>") (hlink : (Cond.fieldLink "FilterGuardModel" index "FilterGuardModel" "packet" "[B").before args s = true) (hdg : decode cc pc = .ok (.putfield index, 3)) (kk : ∀ (H1 : Heap) (locs1 : List Loc), va_P D classes (me_W ad ca M1) H1 → va_D A (me_W ad ca M1) → me_wf N M1 → va_S A H0 H1 locs1 → W p l e R s m args below meth c H1 locs1 cells slots Q (F0 m (pc + 3) ls rest)) : W p l e R s m args below meth c H locs cells slots Q (F0 m pc ls (.ref (ad 14 v) :: .ref (ad 1 j) :: rest)) := by
  subst he
  exact me_putF (M1 := wR M 1 j 35 (some v)) (k := 1) (f := 35) (C := "FilterGuardModel") (T := F_M) (Nf := 75) hexec hb hts i_M t_M t_M_ok n_M hown hK hP hD hwf hS hj (by decide) rfl (by decide) (by decide) hlink (fun _ h9 => h9) rfl hin2 rfl rfl rfl rfl (fun a b h => me_wRE h) (me_fRw (v := some v) (by decide) (by decide)) hdg (fun H1 locs1 a1 a2 a3 => kk H1 locs1 a1 a2 (me_wfR hwf (fun t z => by cases z; exact hv)) a3)
theorem d_M_init_166 : decode prog_14_method_1_code 166 = .ok (.aload_n 0, 1) := by decide +kernel
theorem d_M_init_167 : decode prog_14_method_1_code 167 = .ok (.bipush 64, 2) := by decide +kernel
theorem d_M_init_169 : decode prog_14_method_1_code 169 = .ok (.newarray .byte, 2) := by decide +kernel
theorem d_M_init_171 : decode prog_14_method_1_code 171 = .ok (.putfield 71, 3) := by decide +kernel
theorem u_1777 : Cond.fieldLink "FilterGuardModel" 71 "FilterGuardModel" "context" "[B" ∈ fg_g := fg_in (List.mem_of_getElem? (i := 1777) (by decide +kernel)) rfl
theorem P_M_36 {p : Program} {l : Launch} {e : Env} {R : Room} {s : Jvm.State} {m : MethodId} {args : Array Value} {below : List Frame} {meth : Method} {c : Code} {H : Heap} {locs : List Loc} {cells slots : Nat} {Q : Jvm.State → Prop} {cc : ByteArray} {pc : Nat} {ls : Array Slot} {rest : List Value} {D : va_G} {A : Nat → Prop} {H0 : Heap} {ad : Nat → Nat → Nat} {ca : Nat → ClassId} {M M1 : me_M} {N : Nat → Nat} {index j : Nat} {v : Nat} (he : M1 = wR M 1 j 36 (some v)) (hexec : p.tables.exec = Jvm.exec) (hb : c.code = cc) (hts : ∀ w ∈ fg_g, w.before args s = true) (hown : s.vm.findClass "FilterGuardModel" = some m.cls) (hK : va_K D classes (me_T ca) s) (hP : va_P D classes (me_W ad ca M) H) (hD : va_D A (me_W ad ca M)) (hwf : me_wf N M) (hS : va_S A H0 H locs) (hj : j < N 1) (hv : v < N 14) (hin2 : meth.name = "<init>") (hlink : (Cond.fieldLink "FilterGuardModel" index "FilterGuardModel" "context" "[B").before args s = true) (hdg : decode cc pc = .ok (.putfield index, 3)) (kk : ∀ (H1 : Heap) (locs1 : List Loc), va_P D classes (me_W ad ca M1) H1 → va_D A (me_W ad ca M1) → me_wf N M1 → va_S A H0 H1 locs1 → W p l e R s m args below meth c H1 locs1 cells slots Q (F0 m (pc + 3) ls rest)) : W p l e R s m args below meth c H locs cells slots Q (F0 m pc ls (.ref (ad 14 v) :: .ref (ad 1 j) :: rest)) := by
  subst he
  exact me_putF (M1 := wR M 1 j 36 (some v)) (k := 1) (f := 36) (C := "FilterGuardModel") (T := F_M) (Nf := 75) hexec hb hts i_M t_M t_M_ok n_M hown hK hP hD hwf hS hj (by decide) rfl (by decide) (by decide) hlink (fun _ h9 => h9) rfl hin2 rfl rfl rfl rfl (fun a b h => me_wRE h) (me_fRw (v := some v) (by decide) (by decide)) hdg (fun H1 locs1 a1 a2 a3 => kk H1 locs1 a1 a2 (me_wfR hwf (fun t z => by cases z; exact hv)) a3)
theorem d_M_init_174 : decode prog_14_method_1_code 174 = .ok (.aload_n 0, 1) := by decide +kernel
theorem d_M_init_175 : decode prog_14_method_1_code 175 = .ok (.sipush 1000, 3) := by decide +kernel
theorem d_M_init_178 : decode prog_14_method_1_code 178 = .ok (.newarray .long, 2) := by decide +kernel
theorem d_M_init_180 : decode prog_14_method_1_code 180 = .ok (.putfield 74, 3) := by decide +kernel
theorem u_1780 : Cond.fieldLink "FilterGuardModel" 74 "FilterGuardModel" "telling" "[J" ∈ fg_g := fg_in (List.mem_of_getElem? (i := 1780) (by decide +kernel)) rfl
theorem P_M_39 {p : Program} {l : Launch} {e : Env} {R : Room} {s : Jvm.State} {m : MethodId} {args : Array Value} {below : List Frame} {meth : Method} {c : Code} {H : Heap} {locs : List Loc} {cells slots : Nat} {Q : Jvm.State → Prop} {cc : ByteArray} {pc : Nat} {ls : Array Slot} {rest : List Value} {D : va_G} {A : Nat → Prop} {H0 : Heap} {ad : Nat → Nat → Nat} {ca : Nat → ClassId} {M M1 : me_M} {N : Nat → Nat} {index j : Nat} {v : Nat} (he : M1 = wR M 1 j 39 (some v)) (hexec : p.tables.exec = Jvm.exec) (hb : c.code = cc) (hts : ∀ w ∈ fg_g, w.before args s = true) (hown : s.vm.findClass "FilterGuardModel" = some m.cls) (hK : va_K D classes (me_T ca) s) (hP : va_P D classes (me_W ad ca M) H) (hD : va_D A (me_W ad ca M)) (hwf : me_wf N M) (hS : va_S A H0 H locs) (hj : j < N 1) (hv : v < N 16) (hin2 : meth.name = "<init>") (hlink : (Cond.fieldLink "FilterGuardModel" index "FilterGuardModel" "telling" "[J").before args s = true) (hdg : decode cc pc = .ok (.putfield index, 3)) (kk : ∀ (H1 : Heap) (locs1 : List Loc), va_P D classes (me_W ad ca M1) H1 → va_D A (me_W ad ca M1) → me_wf N M1 → va_S A H0 H1 locs1 → W p l e R s m args below meth c H1 locs1 cells slots Q (F0 m (pc + 3) ls rest)) : W p l e R s m args below meth c H locs cells slots Q (F0 m pc ls (.ref (ad 16 v) :: .ref (ad 1 j) :: rest)) := by
  subst he
  exact me_putF (M1 := wR M 1 j 39 (some v)) (k := 1) (f := 39) (C := "FilterGuardModel") (T := F_M) (Nf := 75) hexec hb hts i_M t_M t_M_ok n_M hown hK hP hD hwf hS hj (by decide) rfl (by decide) (by decide) hlink (fun _ h9 => h9) rfl hin2 rfl rfl rfl rfl (fun a b h => me_wRE h) (me_fRw (v := some v) (by decide) (by decide)) hdg (fun H1 locs1 a1 a2 a3 => kk H1 locs1 a1 a2 (me_wfR hwf (fun t z => by cases z; exact hv)) a3)
theorem d_M_init_183 : decode prog_14_method_1_code 183 = .ok (.aload_n 0, 1) := by decide +kernel
theorem d_M_init_184 : decode prog_14_method_1_code 184 = .ok (.bipush 11, 2) := by decide +kernel
theorem d_M_init_186 : decode prog_14_method_1_code 186 = .ok (.newarray .long, 2) := by decide +kernel
theorem d_M_init_188 : decode prog_14_method_1_code 188 = .ok (.putfield 77, 3) := by decide +kernel
theorem u_1784 : Cond.fieldLink "FilterGuardModel" 77 "FilterGuardModel" "reg" "[J" ∈ fg_g := fg_in (List.mem_of_getElem? (i := 1784) (by decide +kernel)) rfl
theorem P_M_43 {p : Program} {l : Launch} {e : Env} {R : Room} {s : Jvm.State} {m : MethodId} {args : Array Value} {below : List Frame} {meth : Method} {c : Code} {H : Heap} {locs : List Loc} {cells slots : Nat} {Q : Jvm.State → Prop} {cc : ByteArray} {pc : Nat} {ls : Array Slot} {rest : List Value} {D : va_G} {A : Nat → Prop} {H0 : Heap} {ad : Nat → Nat → Nat} {ca : Nat → ClassId} {M M1 : me_M} {N : Nat → Nat} {index j : Nat} {v : Nat} (he : M1 = wR M 1 j 43 (some v)) (hexec : p.tables.exec = Jvm.exec) (hb : c.code = cc) (hts : ∀ w ∈ fg_g, w.before args s = true) (hown : s.vm.findClass "FilterGuardModel" = some m.cls) (hK : va_K D classes (me_T ca) s) (hP : va_P D classes (me_W ad ca M) H) (hD : va_D A (me_W ad ca M)) (hwf : me_wf N M) (hS : va_S A H0 H locs) (hj : j < N 1) (hv : v < N 16) (hin2 : meth.name = "<init>") (hlink : (Cond.fieldLink "FilterGuardModel" index "FilterGuardModel" "reg" "[J").before args s = true) (hdg : decode cc pc = .ok (.putfield index, 3)) (kk : ∀ (H1 : Heap) (locs1 : List Loc), va_P D classes (me_W ad ca M1) H1 → va_D A (me_W ad ca M1) → me_wf N M1 → va_S A H0 H1 locs1 → W p l e R s m args below meth c H1 locs1 cells slots Q (F0 m (pc + 3) ls rest)) : W p l e R s m args below meth c H locs cells slots Q (F0 m pc ls (.ref (ad 16 v) :: .ref (ad 1 j) :: rest)) := by
  subst he
  exact me_putF (M1 := wR M 1 j 43 (some v)) (k := 1) (f := 43) (C := "FilterGuardModel") (T := F_M) (Nf := 75) hexec hb hts i_M t_M t_M_ok n_M hown hK hP hD hwf hS hj (by decide) rfl (by decide) (by decide) hlink (fun _ h9 => h9) rfl hin2 rfl rfl rfl rfl (fun a b h => me_wRE h) (me_fRw (v := some v) (by decide) (by decide)) hdg (fun H1 locs1 a1 a2 a3 => kk H1 locs1 a1 a2 (me_wfR hwf (fun t z => by cases z; exact hv)) a3)
theorem d_M_init_191 : decode prog_14_method_1_code 191 = .ok (.aload_n 0, 1) := by decide +kernel
theorem d_M_init_192 : decode prog_14_method_1_code 192 = .ok (.sipush 512, 3) := by decide +kernel
theorem d_M_init_195 : decode prog_14_method_1_code 195 = .ok (.newarray .byte, 2) := by decide +kernel
theorem d_M_init_197 : decode prog_14_method_1_code 197 = .ok (.putfield 80, 3) := by decide +kernel
theorem u_1785 : Cond.fieldLink "FilterGuardModel" 80 "FilterGuardModel" "stack" "[B" ∈ fg_g := fg_in (List.mem_of_getElem? (i := 1785) (by decide +kernel)) rfl
theorem P_M_44 {p : Program} {l : Launch} {e : Env} {R : Room} {s : Jvm.State} {m : MethodId} {args : Array Value} {below : List Frame} {meth : Method} {c : Code} {H : Heap} {locs : List Loc} {cells slots : Nat} {Q : Jvm.State → Prop} {cc : ByteArray} {pc : Nat} {ls : Array Slot} {rest : List Value} {D : va_G} {A : Nat → Prop} {H0 : Heap} {ad : Nat → Nat → Nat} {ca : Nat → ClassId} {M M1 : me_M} {N : Nat → Nat} {index j : Nat} {v : Nat} (he : M1 = wR M 1 j 44 (some v)) (hexec : p.tables.exec = Jvm.exec) (hb : c.code = cc) (hts : ∀ w ∈ fg_g, w.before args s = true) (hown : s.vm.findClass "FilterGuardModel" = some m.cls) (hK : va_K D classes (me_T ca) s) (hP : va_P D classes (me_W ad ca M) H) (hD : va_D A (me_W ad ca M)) (hwf : me_wf N M) (hS : va_S A H0 H locs) (hj : j < N 1) (hv : v < N 14) (hin2 : meth.name = "<init>") (hlink : (Cond.fieldLink "FilterGuardModel" index "FilterGuardModel" "stack" "[B").before args s = true) (hdg : decode cc pc = .ok (.putfield index, 3)) (kk : ∀ (H1 : Heap) (locs1 : List Loc), va_P D classes (me_W ad ca M1) H1 → va_D A (me_W ad ca M1) → me_wf N M1 → va_S A H0 H1 locs1 → W p l e R s m args below meth c H1 locs1 cells slots Q (F0 m (pc + 3) ls rest)) : W p l e R s m args below meth c H locs cells slots Q (F0 m pc ls (.ref (ad 14 v) :: .ref (ad 1 j) :: rest)) := by
  subst he
  exact me_putF (M1 := wR M 1 j 44 (some v)) (k := 1) (f := 44) (C := "FilterGuardModel") (T := F_M) (Nf := 75) hexec hb hts i_M t_M t_M_ok n_M hown hK hP hD hwf hS hj (by decide) rfl (by decide) (by decide) hlink (fun _ h9 => h9) rfl hin2 rfl rfl rfl rfl (fun a b h => me_wRE h) (me_fRw (v := some v) (by decide) (by decide)) hdg (fun H1 locs1 a1 a2 a3 => kk H1 locs1 a1 a2 (me_wfR hwf (fun t z => by cases z; exact hv)) a3)
theorem d_M_init_200 : decode prog_14_method_1_code 200 = .ok (.aload_n 0, 1) := by decide +kernel
theorem d_M_init_201 : decode prog_14_method_1_code 201 = .ok (.bipush 64, 2) := by decide +kernel
theorem d_M_init_203 : decode prog_14_method_1_code 203 = .ok (.newarray .byte, 2) := by decide +kernel
theorem d_M_init_205 : decode prog_14_method_1_code 205 = .ok (.putfield 83, 3) := by decide +kernel
theorem u_1786 : Cond.fieldLink "FilterGuardModel" 83 "FilterGuardModel" "keyRead" "[B" ∈ fg_g := fg_in (List.mem_of_getElem? (i := 1786) (by decide +kernel)) rfl
theorem P_M_45 {p : Program} {l : Launch} {e : Env} {R : Room} {s : Jvm.State} {m : MethodId} {args : Array Value} {below : List Frame} {meth : Method} {c : Code} {H : Heap} {locs : List Loc} {cells slots : Nat} {Q : Jvm.State → Prop} {cc : ByteArray} {pc : Nat} {ls : Array Slot} {rest : List Value} {D : va_G} {A : Nat → Prop} {H0 : Heap} {ad : Nat → Nat → Nat} {ca : Nat → ClassId} {M M1 : me_M} {N : Nat → Nat} {index j : Nat} {v : Nat} (he : M1 = wR M 1 j 45 (some v)) (hexec : p.tables.exec = Jvm.exec) (hb : c.code = cc) (hts : ∀ w ∈ fg_g, w.before args s = true) (hown : s.vm.findClass "FilterGuardModel" = some m.cls) (hK : va_K D classes (me_T ca) s) (hP : va_P D classes (me_W ad ca M) H) (hD : va_D A (me_W ad ca M)) (hwf : me_wf N M) (hS : va_S A H0 H locs) (hj : j < N 1) (hv : v < N 14) (hin2 : meth.name = "<init>") (hlink : (Cond.fieldLink "FilterGuardModel" index "FilterGuardModel" "keyRead" "[B").before args s = true) (hdg : decode cc pc = .ok (.putfield index, 3)) (kk : ∀ (H1 : Heap) (locs1 : List Loc), va_P D classes (me_W ad ca M1) H1 → va_D A (me_W ad ca M1) → me_wf N M1 → va_S A H0 H1 locs1 → W p l e R s m args below meth c H1 locs1 cells slots Q (F0 m (pc + 3) ls rest)) : W p l e R s m args below meth c H locs cells slots Q (F0 m pc ls (.ref (ad 14 v) :: .ref (ad 1 j) :: rest)) := by
  subst he
  exact me_putF (M1 := wR M 1 j 45 (some v)) (k := 1) (f := 45) (C := "FilterGuardModel") (T := F_M) (Nf := 75) hexec hb hts i_M t_M t_M_ok n_M hown hK hP hD hwf hS hj (by decide) rfl (by decide) (by decide) hlink (fun _ h9 => h9) rfl hin2 rfl rfl rfl rfl (fun a b h => me_wRE h) (me_fRw (v := some v) (by decide) (by decide)) hdg (fun H1 locs1 a1 a2 a3 => kk H1 locs1 a1 a2 (me_wfR hwf (fun t z => by cases z; exact hv)) a3)
theorem d_M_init_208 : decode prog_14_method_1_code 208 = .ok (.aload_n 0, 1) := by decide +kernel
theorem d_M_init_209 : decode prog_14_method_1_code 209 = .ok (.bipush 64, 2) := by decide +kernel
theorem d_M_init_211 : decode prog_14_method_1_code 211 = .ok (.newarray .byte, 2) := by decide +kernel
theorem d_M_init_213 : decode prog_14_method_1_code 213 = .ok (.putfield 86, 3) := by decide +kernel
theorem u_1787 : Cond.fieldLink "FilterGuardModel" 86 "FilterGuardModel" "valueRead" "[B" ∈ fg_g := fg_in (List.mem_of_getElem? (i := 1787) (by decide +kernel)) rfl
theorem P_M_46 {p : Program} {l : Launch} {e : Env} {R : Room} {s : Jvm.State} {m : MethodId} {args : Array Value} {below : List Frame} {meth : Method} {c : Code} {H : Heap} {locs : List Loc} {cells slots : Nat} {Q : Jvm.State → Prop} {cc : ByteArray} {pc : Nat} {ls : Array Slot} {rest : List Value} {D : va_G} {A : Nat → Prop} {H0 : Heap} {ad : Nat → Nat → Nat} {ca : Nat → ClassId} {M M1 : me_M} {N : Nat → Nat} {index j : Nat} {v : Nat} (he : M1 = wR M 1 j 46 (some v)) (hexec : p.tables.exec = Jvm.exec) (hb : c.code = cc) (hts : ∀ w ∈ fg_g, w.before args s = true) (hown : s.vm.findClass "FilterGuardModel" = some m.cls) (hK : va_K D classes (me_T ca) s) (hP : va_P D classes (me_W ad ca M) H) (hD : va_D A (me_W ad ca M)) (hwf : me_wf N M) (hS : va_S A H0 H locs) (hj : j < N 1) (hv : v < N 14) (hin2 : meth.name = "<init>") (hlink : (Cond.fieldLink "FilterGuardModel" index "FilterGuardModel" "valueRead" "[B").before args s = true) (hdg : decode cc pc = .ok (.putfield index, 3)) (kk : ∀ (H1 : Heap) (locs1 : List Loc), va_P D classes (me_W ad ca M1) H1 → va_D A (me_W ad ca M1) → me_wf N M1 → va_S A H0 H1 locs1 → W p l e R s m args below meth c H1 locs1 cells slots Q (F0 m (pc + 3) ls rest)) : W p l e R s m args below meth c H locs cells slots Q (F0 m pc ls (.ref (ad 14 v) :: .ref (ad 1 j) :: rest)) := by
  subst he
  exact me_putF (M1 := wR M 1 j 46 (some v)) (k := 1) (f := 46) (C := "FilterGuardModel") (T := F_M) (Nf := 75) hexec hb hts i_M t_M t_M_ok n_M hown hK hP hD hwf hS hj (by decide) rfl (by decide) (by decide) hlink (fun _ h9 => h9) rfl hin2 rfl rfl rfl rfl (fun a b h => me_wRE h) (me_fRw (v := some v) (by decide) (by decide)) hdg (fun H1 locs1 a1 a2 a3 => kk H1 locs1 a1 a2 (me_wfR hwf (fun t z => by cases z; exact hv)) a3)
theorem d_M_init_216 : decode prog_14_method_1_code 216 = .ok (.aload_n 0, 1) := by decide +kernel
theorem d_M_init_217 : decode prog_14_method_1_code 217 = .ok (.sipush 30081, 3) := by decide +kernel
theorem d_M_init_220 : decode prog_14_method_1_code 220 = .ok (.newarray .byte, 2) := by decide +kernel
theorem d_M_init_222 : decode prog_14_method_1_code 222 = .ok (.putfield 89, 3) := by decide +kernel
theorem u_1788 : Cond.fieldLink "FilterGuardModel" 89 "FilterGuardModel" "kind" "[B" ∈ fg_g := fg_in (List.mem_of_getElem? (i := 1788) (by decide +kernel)) rfl
theorem P_M_47 {p : Program} {l : Launch} {e : Env} {R : Room} {s : Jvm.State} {m : MethodId} {args : Array Value} {below : List Frame} {meth : Method} {c : Code} {H : Heap} {locs : List Loc} {cells slots : Nat} {Q : Jvm.State → Prop} {cc : ByteArray} {pc : Nat} {ls : Array Slot} {rest : List Value} {D : va_G} {A : Nat → Prop} {H0 : Heap} {ad : Nat → Nat → Nat} {ca : Nat → ClassId} {M M1 : me_M} {N : Nat → Nat} {index j : Nat} {v : Nat} (he : M1 = wR M 1 j 47 (some v)) (hexec : p.tables.exec = Jvm.exec) (hb : c.code = cc) (hts : ∀ w ∈ fg_g, w.before args s = true) (hown : s.vm.findClass "FilterGuardModel" = some m.cls) (hK : va_K D classes (me_T ca) s) (hP : va_P D classes (me_W ad ca M) H) (hD : va_D A (me_W ad ca M)) (hwf : me_wf N M) (hS : va_S A H0 H locs) (hj : j < N 1) (hv : v < N 14) (hin2 : meth.name = "<init>") (hlink : (Cond.fieldLink "FilterGuardModel" index "FilterGuardModel" "kind" "[B").before args s = true) (hdg : decode cc pc = .ok (.putfield index, 3)) (kk : ∀ (H1 : Heap) (locs1 : List Loc), va_P D classes (me_W ad ca M1) H1 → va_D A (me_W ad ca M1) → me_wf N M1 → va_S A H0 H1 locs1 → W p l e R s m args below meth c H1 locs1 cells slots Q (F0 m (pc + 3) ls rest)) : W p l e R s m args below meth c H locs cells slots Q (F0 m pc ls (.ref (ad 14 v) :: .ref (ad 1 j) :: rest)) := by
  subst he
  exact me_putF (M1 := wR M 1 j 47 (some v)) (k := 1) (f := 47) (C := "FilterGuardModel") (T := F_M) (Nf := 75) hexec hb hts i_M t_M t_M_ok n_M hown hK hP hD hwf hS hj (by decide) rfl (by decide) (by decide) hlink (fun _ h9 => h9) rfl hin2 rfl rfl rfl rfl (fun a b h => me_wRE h) (me_fRw (v := some v) (by decide) (by decide)) hdg (fun H1 locs1 a1 a2 a3 => kk H1 locs1 a1 a2 (me_wfR hwf (fun t z => by cases z; exact hv)) a3)
theorem d_M_init_225 : decode prog_14_method_1_code 225 = .ok (.aload_n 0, 1) := by decide +kernel
theorem d_M_init_226 : decode prog_14_method_1_code 226 = .ok (.sipush 30081, 3) := by decide +kernel
theorem d_M_init_229 : decode prog_14_method_1_code 229 = .ok (.newarray .int, 2) := by decide +kernel
theorem d_M_init_231 : decode prog_14_method_1_code 231 = .ok (.putfield 92, 3) := by decide +kernel
theorem u_1789 : Cond.fieldLink "FilterGuardModel" 92 "FilterGuardModel" "place" "[I" ∈ fg_g := fg_in (List.mem_of_getElem? (i := 1789) (by decide +kernel)) rfl
theorem P_M_48 {p : Program} {l : Launch} {e : Env} {R : Room} {s : Jvm.State} {m : MethodId} {args : Array Value} {below : List Frame} {meth : Method} {c : Code} {H : Heap} {locs : List Loc} {cells slots : Nat} {Q : Jvm.State → Prop} {cc : ByteArray} {pc : Nat} {ls : Array Slot} {rest : List Value} {D : va_G} {A : Nat → Prop} {H0 : Heap} {ad : Nat → Nat → Nat} {ca : Nat → ClassId} {M M1 : me_M} {N : Nat → Nat} {index j : Nat} {v : Nat} (he : M1 = wR M 1 j 48 (some v)) (hexec : p.tables.exec = Jvm.exec) (hb : c.code = cc) (hts : ∀ w ∈ fg_g, w.before args s = true) (hown : s.vm.findClass "FilterGuardModel" = some m.cls) (hK : va_K D classes (me_T ca) s) (hP : va_P D classes (me_W ad ca M) H) (hD : va_D A (me_W ad ca M)) (hwf : me_wf N M) (hS : va_S A H0 H locs) (hj : j < N 1) (hv : v < N 13) (hin2 : meth.name = "<init>") (hlink : (Cond.fieldLink "FilterGuardModel" index "FilterGuardModel" "place" "[I").before args s = true) (hdg : decode cc pc = .ok (.putfield index, 3)) (kk : ∀ (H1 : Heap) (locs1 : List Loc), va_P D classes (me_W ad ca M1) H1 → va_D A (me_W ad ca M1) → me_wf N M1 → va_S A H0 H1 locs1 → W p l e R s m args below meth c H1 locs1 cells slots Q (F0 m (pc + 3) ls rest)) : W p l e R s m args below meth c H locs cells slots Q (F0 m pc ls (.ref (ad 13 v) :: .ref (ad 1 j) :: rest)) := by
  subst he
  exact me_putF (M1 := wR M 1 j 48 (some v)) (k := 1) (f := 48) (C := "FilterGuardModel") (T := F_M) (Nf := 75) hexec hb hts i_M t_M t_M_ok n_M hown hK hP hD hwf hS hj (by decide) rfl (by decide) (by decide) hlink (fun _ h9 => h9) rfl hin2 rfl rfl rfl rfl (fun a b h => me_wRE h) (me_fRw (v := some v) (by decide) (by decide)) hdg (fun H1 locs1 a1 a2 a3 => kk H1 locs1 a1 a2 (me_wfR hwf (fun t z => by cases z; exact hv)) a3)
theorem d_M_init_234 : decode prog_14_method_1_code 234 = .ok (.aload_n 0, 1) := by decide +kernel
theorem d_M_init_235 : decode prog_14_method_1_code 235 = .ok (.sipush 30081, 3) := by decide +kernel
theorem d_M_init_238 : decode prog_14_method_1_code 238 = .ok (.newarray .int, 2) := by decide +kernel
theorem d_M_init_240 : decode prog_14_method_1_code 240 = .ok (.putfield 95, 3) := by decide +kernel
theorem u_1790 : Cond.fieldLink "FilterGuardModel" 95 "FilterGuardModel" "map" "[I" ∈ fg_g := fg_in (List.mem_of_getElem? (i := 1790) (by decide +kernel)) rfl
theorem P_M_49 {p : Program} {l : Launch} {e : Env} {R : Room} {s : Jvm.State} {m : MethodId} {args : Array Value} {below : List Frame} {meth : Method} {c : Code} {H : Heap} {locs : List Loc} {cells slots : Nat} {Q : Jvm.State → Prop} {cc : ByteArray} {pc : Nat} {ls : Array Slot} {rest : List Value} {D : va_G} {A : Nat → Prop} {H0 : Heap} {ad : Nat → Nat → Nat} {ca : Nat → ClassId} {M M1 : me_M} {N : Nat → Nat} {index j : Nat} {v : Nat} (he : M1 = wR M 1 j 49 (some v)) (hexec : p.tables.exec = Jvm.exec) (hb : c.code = cc) (hts : ∀ w ∈ fg_g, w.before args s = true) (hown : s.vm.findClass "FilterGuardModel" = some m.cls) (hK : va_K D classes (me_T ca) s) (hP : va_P D classes (me_W ad ca M) H) (hD : va_D A (me_W ad ca M)) (hwf : me_wf N M) (hS : va_S A H0 H locs) (hj : j < N 1) (hv : v < N 13) (hin2 : meth.name = "<init>") (hlink : (Cond.fieldLink "FilterGuardModel" index "FilterGuardModel" "map" "[I").before args s = true) (hdg : decode cc pc = .ok (.putfield index, 3)) (kk : ∀ (H1 : Heap) (locs1 : List Loc), va_P D classes (me_W ad ca M1) H1 → va_D A (me_W ad ca M1) → me_wf N M1 → va_S A H0 H1 locs1 → W p l e R s m args below meth c H1 locs1 cells slots Q (F0 m (pc + 3) ls rest)) : W p l e R s m args below meth c H locs cells slots Q (F0 m pc ls (.ref (ad 13 v) :: .ref (ad 1 j) :: rest)) := by
  subst he
  exact me_putF (M1 := wR M 1 j 49 (some v)) (k := 1) (f := 49) (C := "FilterGuardModel") (T := F_M) (Nf := 75) hexec hb hts i_M t_M t_M_ok n_M hown hK hP hD hwf hS hj (by decide) rfl (by decide) (by decide) hlink (fun _ h9 => h9) rfl hin2 rfl rfl rfl rfl (fun a b h => me_wRE h) (me_fRw (v := some v) (by decide) (by decide)) hdg (fun H1 locs1 a1 a2 a3 => kk H1 locs1 a1 a2 (me_wfR hwf (fun t z => by cases z; exact hv)) a3)
theorem d_M_init_243 : decode prog_14_method_1_code 243 = .ok (.aload_n 0, 1) := by decide +kernel
theorem d_M_init_244 : decode prog_14_method_1_code 244 = .ok (.sipush 30081, 3) := by decide +kernel
theorem d_M_init_247 : decode prog_14_method_1_code 247 = .ok (.newarray .int, 2) := by decide +kernel
theorem d_M_init_249 : decode prog_14_method_1_code 249 = .ok (.putfield 98, 3) := by decide +kernel
theorem u_1791 : Cond.fieldLink "FilterGuardModel" 98 "FilterGuardModel" "identity" "[I" ∈ fg_g := fg_in (List.mem_of_getElem? (i := 1791) (by decide +kernel)) rfl
theorem P_M_50 {p : Program} {l : Launch} {e : Env} {R : Room} {s : Jvm.State} {m : MethodId} {args : Array Value} {below : List Frame} {meth : Method} {c : Code} {H : Heap} {locs : List Loc} {cells slots : Nat} {Q : Jvm.State → Prop} {cc : ByteArray} {pc : Nat} {ls : Array Slot} {rest : List Value} {D : va_G} {A : Nat → Prop} {H0 : Heap} {ad : Nat → Nat → Nat} {ca : Nat → ClassId} {M M1 : me_M} {N : Nat → Nat} {index j : Nat} {v : Nat} (he : M1 = wR M 1 j 50 (some v)) (hexec : p.tables.exec = Jvm.exec) (hb : c.code = cc) (hts : ∀ w ∈ fg_g, w.before args s = true) (hown : s.vm.findClass "FilterGuardModel" = some m.cls) (hK : va_K D classes (me_T ca) s) (hP : va_P D classes (me_W ad ca M) H) (hD : va_D A (me_W ad ca M)) (hwf : me_wf N M) (hS : va_S A H0 H locs) (hj : j < N 1) (hv : v < N 13) (hin2 : meth.name = "<init>") (hlink : (Cond.fieldLink "FilterGuardModel" index "FilterGuardModel" "identity" "[I").before args s = true) (hdg : decode cc pc = .ok (.putfield index, 3)) (kk : ∀ (H1 : Heap) (locs1 : List Loc), va_P D classes (me_W ad ca M1) H1 → va_D A (me_W ad ca M1) → me_wf N M1 → va_S A H0 H1 locs1 → W p l e R s m args below meth c H1 locs1 cells slots Q (F0 m (pc + 3) ls rest)) : W p l e R s m args below meth c H locs cells slots Q (F0 m pc ls (.ref (ad 13 v) :: .ref (ad 1 j) :: rest)) := by
  subst he
  exact me_putF (M1 := wR M 1 j 50 (some v)) (k := 1) (f := 50) (C := "FilterGuardModel") (T := F_M) (Nf := 75) hexec hb hts i_M t_M t_M_ok n_M hown hK hP hD hwf hS hj (by decide) rfl (by decide) (by decide) hlink (fun _ h9 => h9) rfl hin2 rfl rfl rfl rfl (fun a b h => me_wRE h) (me_fRw (v := some v) (by decide) (by decide)) hdg (fun H1 locs1 a1 a2 a3 => kk H1 locs1 a1 a2 (me_wfR hwf (fun t z => by cases z; exact hv)) a3)
theorem d_M_init_252 : decode prog_14_method_1_code 252 = .ok (.aload_n 0, 1) := by decide +kernel
theorem d_M_init_253 : decode prog_14_method_1_code 253 = .ok (.sipush 30081, 3) := by decide +kernel
theorem d_M_init_256 : decode prog_14_method_1_code 256 = .ok (.newarray .int, 2) := by decide +kernel
theorem d_M_init_258 : decode prog_14_method_1_code 258 = .ok (.putfield 101, 3) := by decide +kernel
theorem u_1792 : Cond.fieldLink "FilterGuardModel" 101 "FilterGuardModel" "room" "[I" ∈ fg_g := fg_in (List.mem_of_getElem? (i := 1792) (by decide +kernel)) rfl
theorem P_M_51 {p : Program} {l : Launch} {e : Env} {R : Room} {s : Jvm.State} {m : MethodId} {args : Array Value} {below : List Frame} {meth : Method} {c : Code} {H : Heap} {locs : List Loc} {cells slots : Nat} {Q : Jvm.State → Prop} {cc : ByteArray} {pc : Nat} {ls : Array Slot} {rest : List Value} {D : va_G} {A : Nat → Prop} {H0 : Heap} {ad : Nat → Nat → Nat} {ca : Nat → ClassId} {M M1 : me_M} {N : Nat → Nat} {index j : Nat} {v : Nat} (he : M1 = wR M 1 j 51 (some v)) (hexec : p.tables.exec = Jvm.exec) (hb : c.code = cc) (hts : ∀ w ∈ fg_g, w.before args s = true) (hown : s.vm.findClass "FilterGuardModel" = some m.cls) (hK : va_K D classes (me_T ca) s) (hP : va_P D classes (me_W ad ca M) H) (hD : va_D A (me_W ad ca M)) (hwf : me_wf N M) (hS : va_S A H0 H locs) (hj : j < N 1) (hv : v < N 13) (hin2 : meth.name = "<init>") (hlink : (Cond.fieldLink "FilterGuardModel" index "FilterGuardModel" "room" "[I").before args s = true) (hdg : decode cc pc = .ok (.putfield index, 3)) (kk : ∀ (H1 : Heap) (locs1 : List Loc), va_P D classes (me_W ad ca M1) H1 → va_D A (me_W ad ca M1) → me_wf N M1 → va_S A H0 H1 locs1 → W p l e R s m args below meth c H1 locs1 cells slots Q (F0 m (pc + 3) ls rest)) : W p l e R s m args below meth c H locs cells slots Q (F0 m pc ls (.ref (ad 13 v) :: .ref (ad 1 j) :: rest)) := by
  subst he
  exact me_putF (M1 := wR M 1 j 51 (some v)) (k := 1) (f := 51) (C := "FilterGuardModel") (T := F_M) (Nf := 75) hexec hb hts i_M t_M t_M_ok n_M hown hK hP hD hwf hS hj (by decide) rfl (by decide) (by decide) hlink (fun _ h9 => h9) rfl hin2 rfl rfl rfl rfl (fun a b h => me_wRE h) (me_fRw (v := some v) (by decide) (by decide)) hdg (fun H1 locs1 a1 a2 a3 => kk H1 locs1 a1 a2 (me_wfR hwf (fun t z => by cases z; exact hv)) a3)
theorem d_M_init_261 : decode prog_14_method_1_code 261 = .ok (.aload_n 0, 1) := by decide +kernel
theorem d_M_init_262 : decode prog_14_method_1_code 262 = .ok (.sipush 30081, 3) := by decide +kernel
theorem d_M_init_265 : decode prog_14_method_1_code 265 = .ok (.newarray .long, 2) := by decide +kernel
theorem d_M_init_267 : decode prog_14_method_1_code 267 = .ok (.putfield 104, 3) := by decide +kernel
theorem u_1793 : Cond.fieldLink "FilterGuardModel" 104 "FilterGuardModel" "value" "[J" ∈ fg_g := fg_in (List.mem_of_getElem? (i := 1793) (by decide +kernel)) rfl
theorem P_M_52 {p : Program} {l : Launch} {e : Env} {R : Room} {s : Jvm.State} {m : MethodId} {args : Array Value} {below : List Frame} {meth : Method} {c : Code} {H : Heap} {locs : List Loc} {cells slots : Nat} {Q : Jvm.State → Prop} {cc : ByteArray} {pc : Nat} {ls : Array Slot} {rest : List Value} {D : va_G} {A : Nat → Prop} {H0 : Heap} {ad : Nat → Nat → Nat} {ca : Nat → ClassId} {M M1 : me_M} {N : Nat → Nat} {index j : Nat} {v : Nat} (he : M1 = wR M 1 j 52 (some v)) (hexec : p.tables.exec = Jvm.exec) (hb : c.code = cc) (hts : ∀ w ∈ fg_g, w.before args s = true) (hown : s.vm.findClass "FilterGuardModel" = some m.cls) (hK : va_K D classes (me_T ca) s) (hP : va_P D classes (me_W ad ca M) H) (hD : va_D A (me_W ad ca M)) (hwf : me_wf N M) (hS : va_S A H0 H locs) (hj : j < N 1) (hv : v < N 16) (hin2 : meth.name = "<init>") (hlink : (Cond.fieldLink "FilterGuardModel" index "FilterGuardModel" "value" "[J").before args s = true) (hdg : decode cc pc = .ok (.putfield index, 3)) (kk : ∀ (H1 : Heap) (locs1 : List Loc), va_P D classes (me_W ad ca M1) H1 → va_D A (me_W ad ca M1) → me_wf N M1 → va_S A H0 H1 locs1 → W p l e R s m args below meth c H1 locs1 cells slots Q (F0 m (pc + 3) ls rest)) : W p l e R s m args below meth c H locs cells slots Q (F0 m pc ls (.ref (ad 16 v) :: .ref (ad 1 j) :: rest)) := by
  subst he
  exact me_putF (M1 := wR M 1 j 52 (some v)) (k := 1) (f := 52) (C := "FilterGuardModel") (T := F_M) (Nf := 75) hexec hb hts i_M t_M t_M_ok n_M hown hK hP hD hwf hS hj (by decide) rfl (by decide) (by decide) hlink (fun _ h9 => h9) rfl hin2 rfl rfl rfl rfl (fun a b h => me_wRE h) (me_fRw (v := some v) (by decide) (by decide)) hdg (fun H1 locs1 a1 a2 a3 => kk H1 locs1 a1 a2 (me_wfR hwf (fun t z => by cases z; exact hv)) a3)
theorem d_M_init_270 : decode prog_14_method_1_code 270 = .ok (.aload_n 0, 1) := by decide +kernel
theorem d_M_init_271 : decode prog_14_method_1_code 271 = .ok (.sipush 30081, 3) := by decide +kernel
theorem d_M_init_274 : decode prog_14_method_1_code 274 = .ok (.newarray .long, 2) := by decide +kernel
theorem d_M_init_276 : decode prog_14_method_1_code 276 = .ok (.putfield 107, 3) := by decide +kernel
theorem u_1794 : Cond.fieldLink "FilterGuardModel" 107 "FilterGuardModel" "mask" "[J" ∈ fg_g := fg_in (List.mem_of_getElem? (i := 1794) (by decide +kernel)) rfl
theorem P_M_53 {p : Program} {l : Launch} {e : Env} {R : Room} {s : Jvm.State} {m : MethodId} {args : Array Value} {below : List Frame} {meth : Method} {c : Code} {H : Heap} {locs : List Loc} {cells slots : Nat} {Q : Jvm.State → Prop} {cc : ByteArray} {pc : Nat} {ls : Array Slot} {rest : List Value} {D : va_G} {A : Nat → Prop} {H0 : Heap} {ad : Nat → Nat → Nat} {ca : Nat → ClassId} {M M1 : me_M} {N : Nat → Nat} {index j : Nat} {v : Nat} (he : M1 = wR M 1 j 53 (some v)) (hexec : p.tables.exec = Jvm.exec) (hb : c.code = cc) (hts : ∀ w ∈ fg_g, w.before args s = true) (hown : s.vm.findClass "FilterGuardModel" = some m.cls) (hK : va_K D classes (me_T ca) s) (hP : va_P D classes (me_W ad ca M) H) (hD : va_D A (me_W ad ca M)) (hwf : me_wf N M) (hS : va_S A H0 H locs) (hj : j < N 1) (hv : v < N 16) (hin2 : meth.name = "<init>") (hlink : (Cond.fieldLink "FilterGuardModel" index "FilterGuardModel" "mask" "[J").before args s = true) (hdg : decode cc pc = .ok (.putfield index, 3)) (kk : ∀ (H1 : Heap) (locs1 : List Loc), va_P D classes (me_W ad ca M1) H1 → va_D A (me_W ad ca M1) → me_wf N M1 → va_S A H0 H1 locs1 → W p l e R s m args below meth c H1 locs1 cells slots Q (F0 m (pc + 3) ls rest)) : W p l e R s m args below meth c H locs cells slots Q (F0 m pc ls (.ref (ad 16 v) :: .ref (ad 1 j) :: rest)) := by
  subst he
  exact me_putF (M1 := wR M 1 j 53 (some v)) (k := 1) (f := 53) (C := "FilterGuardModel") (T := F_M) (Nf := 75) hexec hb hts i_M t_M t_M_ok n_M hown hK hP hD hwf hS hj (by decide) rfl (by decide) (by decide) hlink (fun _ h9 => h9) rfl hin2 rfl rfl rfl rfl (fun a b h => me_wRE h) (me_fRw (v := some v) (by decide) (by decide)) hdg (fun H1 locs1 a1 a2 a3 => kk H1 locs1 a1 a2 (me_wfR hwf (fun t z => by cases z; exact hv)) a3)
theorem d_M_init_279 : decode prog_14_method_1_code 279 = .ok (.aload_n 0, 1) := by decide +kernel
theorem d_M_init_280 : decode prog_14_method_1_code 280 = .ok (.sipush 30081, 3) := by decide +kernel
theorem d_M_init_283 : decode prog_14_method_1_code 283 = .ok (.newarray .long, 2) := by decide +kernel
theorem d_M_init_285 : decode prog_14_method_1_code 285 = .ok (.putfield 110, 3) := by decide +kernel
theorem u_1795 : Cond.fieldLink "FilterGuardModel" 110 "FilterGuardModel" "least" "[J" ∈ fg_g := fg_in (List.mem_of_getElem? (i := 1795) (by decide +kernel)) rfl
theorem P_M_54 {p : Program} {l : Launch} {e : Env} {R : Room} {s : Jvm.State} {m : MethodId} {args : Array Value} {below : List Frame} {meth : Method} {c : Code} {H : Heap} {locs : List Loc} {cells slots : Nat} {Q : Jvm.State → Prop} {cc : ByteArray} {pc : Nat} {ls : Array Slot} {rest : List Value} {D : va_G} {A : Nat → Prop} {H0 : Heap} {ad : Nat → Nat → Nat} {ca : Nat → ClassId} {M M1 : me_M} {N : Nat → Nat} {index j : Nat} {v : Nat} (he : M1 = wR M 1 j 54 (some v)) (hexec : p.tables.exec = Jvm.exec) (hb : c.code = cc) (hts : ∀ w ∈ fg_g, w.before args s = true) (hown : s.vm.findClass "FilterGuardModel" = some m.cls) (hK : va_K D classes (me_T ca) s) (hP : va_P D classes (me_W ad ca M) H) (hD : va_D A (me_W ad ca M)) (hwf : me_wf N M) (hS : va_S A H0 H locs) (hj : j < N 1) (hv : v < N 16) (hin2 : meth.name = "<init>") (hlink : (Cond.fieldLink "FilterGuardModel" index "FilterGuardModel" "least" "[J").before args s = true) (hdg : decode cc pc = .ok (.putfield index, 3)) (kk : ∀ (H1 : Heap) (locs1 : List Loc), va_P D classes (me_W ad ca M1) H1 → va_D A (me_W ad ca M1) → me_wf N M1 → va_S A H0 H1 locs1 → W p l e R s m args below meth c H1 locs1 cells slots Q (F0 m (pc + 3) ls rest)) : W p l e R s m args below meth c H locs cells slots Q (F0 m pc ls (.ref (ad 16 v) :: .ref (ad 1 j) :: rest)) := by
  subst he
  exact me_putF (M1 := wR M 1 j 54 (some v)) (k := 1) (f := 54) (C := "FilterGuardModel") (T := F_M) (Nf := 75) hexec hb hts i_M t_M t_M_ok n_M hown hK hP hD hwf hS hj (by decide) rfl (by decide) (by decide) hlink (fun _ h9 => h9) rfl hin2 rfl rfl rfl rfl (fun a b h => me_wRE h) (me_fRw (v := some v) (by decide) (by decide)) hdg (fun H1 locs1 a1 a2 a3 => kk H1 locs1 a1 a2 (me_wfR hwf (fun t z => by cases z; exact hv)) a3)
theorem d_M_init_288 : decode prog_14_method_1_code 288 = .ok (.aload_n 0, 1) := by decide +kernel
theorem d_M_init_289 : decode prog_14_method_1_code 289 = .ok (.sipush 30081, 3) := by decide +kernel
theorem d_M_init_292 : decode prog_14_method_1_code 292 = .ok (.newarray .long, 2) := by decide +kernel
theorem d_M_init_294 : decode prog_14_method_1_code 294 = .ok (.putfield 113, 3) := by decide +kernel
theorem u_1796 : Cond.fieldLink "FilterGuardModel" 113 "FilterGuardModel" "great" "[J" ∈ fg_g := fg_in (List.mem_of_getElem? (i := 1796) (by decide +kernel)) rfl
theorem P_M_55 {p : Program} {l : Launch} {e : Env} {R : Room} {s : Jvm.State} {m : MethodId} {args : Array Value} {below : List Frame} {meth : Method} {c : Code} {H : Heap} {locs : List Loc} {cells slots : Nat} {Q : Jvm.State → Prop} {cc : ByteArray} {pc : Nat} {ls : Array Slot} {rest : List Value} {D : va_G} {A : Nat → Prop} {H0 : Heap} {ad : Nat → Nat → Nat} {ca : Nat → ClassId} {M M1 : me_M} {N : Nat → Nat} {index j : Nat} {v : Nat} (he : M1 = wR M 1 j 55 (some v)) (hexec : p.tables.exec = Jvm.exec) (hb : c.code = cc) (hts : ∀ w ∈ fg_g, w.before args s = true) (hown : s.vm.findClass "FilterGuardModel" = some m.cls) (hK : va_K D classes (me_T ca) s) (hP : va_P D classes (me_W ad ca M) H) (hD : va_D A (me_W ad ca M)) (hwf : me_wf N M) (hS : va_S A H0 H locs) (hj : j < N 1) (hv : v < N 16) (hin2 : meth.name = "<init>") (hlink : (Cond.fieldLink "FilterGuardModel" index "FilterGuardModel" "great" "[J").before args s = true) (hdg : decode cc pc = .ok (.putfield index, 3)) (kk : ∀ (H1 : Heap) (locs1 : List Loc), va_P D classes (me_W ad ca M1) H1 → va_D A (me_W ad ca M1) → me_wf N M1 → va_S A H0 H1 locs1 → W p l e R s m args below meth c H1 locs1 cells slots Q (F0 m (pc + 3) ls rest)) : W p l e R s m args below meth c H locs cells slots Q (F0 m pc ls (.ref (ad 16 v) :: .ref (ad 1 j) :: rest)) := by
  subst he
  exact me_putF (M1 := wR M 1 j 55 (some v)) (k := 1) (f := 55) (C := "FilterGuardModel") (T := F_M) (Nf := 75) hexec hb hts i_M t_M t_M_ok n_M hown hK hP hD hwf hS hj (by decide) rfl (by decide) (by decide) hlink (fun _ h9 => h9) rfl hin2 rfl rfl rfl rfl (fun a b h => me_wRE h) (me_fRw (v := some v) (by decide) (by decide)) hdg (fun H1 locs1 a1 a2 a3 => kk H1 locs1 a1 a2 (me_wfR hwf (fun t z => by cases z; exact hv)) a3)
theorem d_M_init_297 : decode prog_14_method_1_code 297 = .ok (.aload_n 0, 1) := by decide +kernel
theorem d_M_init_298 : decode prog_14_method_1_code 298 = .ok (.sipush 30081, 3) := by decide +kernel
theorem d_M_init_301 : decode prog_14_method_1_code 301 = .ok (.newarray .long, 2) := by decide +kernel
theorem d_M_init_303 : decode prog_14_method_1_code 303 = .ok (.putfield 116, 3) := by decide +kernel
theorem u_1797 : Cond.fieldLink "FilterGuardModel" 116 "FilterGuardModel" "low" "[J" ∈ fg_g := fg_in (List.mem_of_getElem? (i := 1797) (by decide +kernel)) rfl
theorem P_M_56 {p : Program} {l : Launch} {e : Env} {R : Room} {s : Jvm.State} {m : MethodId} {args : Array Value} {below : List Frame} {meth : Method} {c : Code} {H : Heap} {locs : List Loc} {cells slots : Nat} {Q : Jvm.State → Prop} {cc : ByteArray} {pc : Nat} {ls : Array Slot} {rest : List Value} {D : va_G} {A : Nat → Prop} {H0 : Heap} {ad : Nat → Nat → Nat} {ca : Nat → ClassId} {M M1 : me_M} {N : Nat → Nat} {index j : Nat} {v : Nat} (he : M1 = wR M 1 j 56 (some v)) (hexec : p.tables.exec = Jvm.exec) (hb : c.code = cc) (hts : ∀ w ∈ fg_g, w.before args s = true) (hown : s.vm.findClass "FilterGuardModel" = some m.cls) (hK : va_K D classes (me_T ca) s) (hP : va_P D classes (me_W ad ca M) H) (hD : va_D A (me_W ad ca M)) (hwf : me_wf N M) (hS : va_S A H0 H locs) (hj : j < N 1) (hv : v < N 16) (hin2 : meth.name = "<init>") (hlink : (Cond.fieldLink "FilterGuardModel" index "FilterGuardModel" "low" "[J").before args s = true) (hdg : decode cc pc = .ok (.putfield index, 3)) (kk : ∀ (H1 : Heap) (locs1 : List Loc), va_P D classes (me_W ad ca M1) H1 → va_D A (me_W ad ca M1) → me_wf N M1 → va_S A H0 H1 locs1 → W p l e R s m args below meth c H1 locs1 cells slots Q (F0 m (pc + 3) ls rest)) : W p l e R s m args below meth c H locs cells slots Q (F0 m pc ls (.ref (ad 16 v) :: .ref (ad 1 j) :: rest)) := by
  subst he
  exact me_putF (M1 := wR M 1 j 56 (some v)) (k := 1) (f := 56) (C := "FilterGuardModel") (T := F_M) (Nf := 75) hexec hb hts i_M t_M t_M_ok n_M hown hK hP hD hwf hS hj (by decide) rfl (by decide) (by decide) hlink (fun _ h9 => h9) rfl hin2 rfl rfl rfl rfl (fun a b h => me_wRE h) (me_fRw (v := some v) (by decide) (by decide)) hdg (fun H1 locs1 a1 a2 a3 => kk H1 locs1 a1 a2 (me_wfR hwf (fun t z => by cases z; exact hv)) a3)
theorem d_M_init_306 : decode prog_14_method_1_code 306 = .ok (.aload_n 0, 1) := by decide +kernel
theorem d_M_init_307 : decode prog_14_method_1_code 307 = .ok (.sipush 30081, 3) := by decide +kernel
theorem d_M_init_310 : decode prog_14_method_1_code 310 = .ok (.newarray .long, 2) := by decide +kernel
theorem d_M_init_312 : decode prog_14_method_1_code 312 = .ok (.putfield 119, 3) := by decide +kernel
theorem u_1798 : Cond.fieldLink "FilterGuardModel" 119 "FilterGuardModel" "high" "[J" ∈ fg_g := fg_in (List.mem_of_getElem? (i := 1798) (by decide +kernel)) rfl
theorem P_M_57 {p : Program} {l : Launch} {e : Env} {R : Room} {s : Jvm.State} {m : MethodId} {args : Array Value} {below : List Frame} {meth : Method} {c : Code} {H : Heap} {locs : List Loc} {cells slots : Nat} {Q : Jvm.State → Prop} {cc : ByteArray} {pc : Nat} {ls : Array Slot} {rest : List Value} {D : va_G} {A : Nat → Prop} {H0 : Heap} {ad : Nat → Nat → Nat} {ca : Nat → ClassId} {M M1 : me_M} {N : Nat → Nat} {index j : Nat} {v : Nat} (he : M1 = wR M 1 j 57 (some v)) (hexec : p.tables.exec = Jvm.exec) (hb : c.code = cc) (hts : ∀ w ∈ fg_g, w.before args s = true) (hown : s.vm.findClass "FilterGuardModel" = some m.cls) (hK : va_K D classes (me_T ca) s) (hP : va_P D classes (me_W ad ca M) H) (hD : va_D A (me_W ad ca M)) (hwf : me_wf N M) (hS : va_S A H0 H locs) (hj : j < N 1) (hv : v < N 16) (hin2 : meth.name = "<init>") (hlink : (Cond.fieldLink "FilterGuardModel" index "FilterGuardModel" "high" "[J").before args s = true) (hdg : decode cc pc = .ok (.putfield index, 3)) (kk : ∀ (H1 : Heap) (locs1 : List Loc), va_P D classes (me_W ad ca M1) H1 → va_D A (me_W ad ca M1) → me_wf N M1 → va_S A H0 H1 locs1 → W p l e R s m args below meth c H1 locs1 cells slots Q (F0 m (pc + 3) ls rest)) : W p l e R s m args below meth c H locs cells slots Q (F0 m pc ls (.ref (ad 16 v) :: .ref (ad 1 j) :: rest)) := by
  subst he
  exact me_putF (M1 := wR M 1 j 57 (some v)) (k := 1) (f := 57) (C := "FilterGuardModel") (T := F_M) (Nf := 75) hexec hb hts i_M t_M t_M_ok n_M hown hK hP hD hwf hS hj (by decide) rfl (by decide) (by decide) hlink (fun _ h9 => h9) rfl hin2 rfl rfl rfl rfl (fun a b h => me_wRE h) (me_fRw (v := some v) (by decide) (by decide)) hdg (fun H1 locs1 a1 a2 a3 => kk H1 locs1 a1 a2 (me_wfR hwf (fun t z => by cases z; exact hv)) a3)
theorem d_M_init_315 : decode prog_14_method_1_code 315 = .ok (.aload_n 0, 1) := by decide +kernel
theorem d_M_init_316 : decode prog_14_method_1_code 316 = .ok (.sipush 25664, 3) := by decide +kernel
theorem d_M_init_319 : decode prog_14_method_1_code 319 = .ok (.newarray .int, 2) := by decide +kernel
theorem d_M_init_321 : decode prog_14_method_1_code 321 = .ok (.putfield 122, 3) := by decide +kernel
theorem u_1799 : Cond.fieldLink "FilterGuardModel" 122 "FilterGuardModel" "written" "[I" ∈ fg_g := fg_in (List.mem_of_getElem? (i := 1799) (by decide +kernel)) rfl
theorem P_M_58 {p : Program} {l : Launch} {e : Env} {R : Room} {s : Jvm.State} {m : MethodId} {args : Array Value} {below : List Frame} {meth : Method} {c : Code} {H : Heap} {locs : List Loc} {cells slots : Nat} {Q : Jvm.State → Prop} {cc : ByteArray} {pc : Nat} {ls : Array Slot} {rest : List Value} {D : va_G} {A : Nat → Prop} {H0 : Heap} {ad : Nat → Nat → Nat} {ca : Nat → ClassId} {M M1 : me_M} {N : Nat → Nat} {index j : Nat} {v : Nat} (he : M1 = wR M 1 j 58 (some v)) (hexec : p.tables.exec = Jvm.exec) (hb : c.code = cc) (hts : ∀ w ∈ fg_g, w.before args s = true) (hown : s.vm.findClass "FilterGuardModel" = some m.cls) (hK : va_K D classes (me_T ca) s) (hP : va_P D classes (me_W ad ca M) H) (hD : va_D A (me_W ad ca M)) (hwf : me_wf N M) (hS : va_S A H0 H locs) (hj : j < N 1) (hv : v < N 13) (hin2 : meth.name = "<init>") (hlink : (Cond.fieldLink "FilterGuardModel" index "FilterGuardModel" "written" "[I").before args s = true) (hdg : decode cc pc = .ok (.putfield index, 3)) (kk : ∀ (H1 : Heap) (locs1 : List Loc), va_P D classes (me_W ad ca M1) H1 → va_D A (me_W ad ca M1) → me_wf N M1 → va_S A H0 H1 locs1 → W p l e R s m args below meth c H1 locs1 cells slots Q (F0 m (pc + 3) ls rest)) : W p l e R s m args below meth c H locs cells slots Q (F0 m pc ls (.ref (ad 13 v) :: .ref (ad 1 j) :: rest)) := by
  subst he
  exact me_putF (M1 := wR M 1 j 58 (some v)) (k := 1) (f := 58) (C := "FilterGuardModel") (T := F_M) (Nf := 75) hexec hb hts i_M t_M t_M_ok n_M hown hK hP hD hwf hS hj (by decide) rfl (by decide) (by decide) hlink (fun _ h9 => h9) rfl hin2 rfl rfl rfl rfl (fun a b h => me_wRE h) (me_fRw (v := some v) (by decide) (by decide)) hdg (fun H1 locs1 a1 a2 a3 => kk H1 locs1 a1 a2 (me_wfR hwf (fun t z => by cases z; exact hv)) a3)
theorem d_M_init_324 : decode prog_14_method_1_code 324 = .ok (.aload_n 0, 1) := by decide +kernel
theorem d_M_init_325 : decode prog_14_method_1_code 325 = .ok (.sipush 201, 3) := by decide +kernel
theorem d_M_init_328 : decode prog_14_method_1_code 328 = .ok (.newarray .int, 2) := by decide +kernel
theorem d_M_init_330 : decode prog_14_method_1_code 330 = .ok (.putfield 125, 3) := by decide +kernel
theorem u_1801 : Cond.fieldLink "FilterGuardModel" 125 "FilterGuardModel" "keptAt" "[I" ∈ fg_g := fg_in (List.mem_of_getElem? (i := 1801) (by decide +kernel)) rfl
theorem P_M_60 {p : Program} {l : Launch} {e : Env} {R : Room} {s : Jvm.State} {m : MethodId} {args : Array Value} {below : List Frame} {meth : Method} {c : Code} {H : Heap} {locs : List Loc} {cells slots : Nat} {Q : Jvm.State → Prop} {cc : ByteArray} {pc : Nat} {ls : Array Slot} {rest : List Value} {D : va_G} {A : Nat → Prop} {H0 : Heap} {ad : Nat → Nat → Nat} {ca : Nat → ClassId} {M M1 : me_M} {N : Nat → Nat} {index j : Nat} {v : Nat} (he : M1 = wR M 1 j 60 (some v)) (hexec : p.tables.exec = Jvm.exec) (hb : c.code = cc) (hts : ∀ w ∈ fg_g, w.before args s = true) (hown : s.vm.findClass "FilterGuardModel" = some m.cls) (hK : va_K D classes (me_T ca) s) (hP : va_P D classes (me_W ad ca M) H) (hD : va_D A (me_W ad ca M)) (hwf : me_wf N M) (hS : va_S A H0 H locs) (hj : j < N 1) (hv : v < N 13) (hin2 : meth.name = "<init>") (hlink : (Cond.fieldLink "FilterGuardModel" index "FilterGuardModel" "keptAt" "[I").before args s = true) (hdg : decode cc pc = .ok (.putfield index, 3)) (kk : ∀ (H1 : Heap) (locs1 : List Loc), va_P D classes (me_W ad ca M1) H1 → va_D A (me_W ad ca M1) → me_wf N M1 → va_S A H0 H1 locs1 → W p l e R s m args below meth c H1 locs1 cells slots Q (F0 m (pc + 3) ls rest)) : W p l e R s m args below meth c H locs cells slots Q (F0 m pc ls (.ref (ad 13 v) :: .ref (ad 1 j) :: rest)) := by
  subst he
  exact me_putF (M1 := wR M 1 j 60 (some v)) (k := 1) (f := 60) (C := "FilterGuardModel") (T := F_M) (Nf := 75) hexec hb hts i_M t_M t_M_ok n_M hown hK hP hD hwf hS hj (by decide) rfl (by decide) (by decide) hlink (fun _ h9 => h9) rfl hin2 rfl rfl rfl rfl (fun a b h => me_wRE h) (me_fRw (v := some v) (by decide) (by decide)) hdg (fun H1 locs1 a1 a2 a3 => kk H1 locs1 a1 a2 (me_wfR hwf (fun t z => by cases z; exact hv)) a3)
theorem d_M_init_333 : decode prog_14_method_1_code 333 = .ok (.aload_n 0, 1) := by decide +kernel
theorem d_M_init_334 : decode prog_14_method_1_code 334 = .ok (.sipush 201, 3) := by decide +kernel
theorem d_M_init_337 : decode prog_14_method_1_code 337 = .ok (.newarray .int, 2) := by decide +kernel
theorem d_M_init_339 : decode prog_14_method_1_code 339 = .ok (.putfield 128, 3) := by decide +kernel
theorem u_1802 : Cond.fieldLink "FilterGuardModel" 128 "FilterGuardModel" "keptBehind" "[I" ∈ fg_g := fg_in (List.mem_of_getElem? (i := 1802) (by decide +kernel)) rfl
theorem P_M_61 {p : Program} {l : Launch} {e : Env} {R : Room} {s : Jvm.State} {m : MethodId} {args : Array Value} {below : List Frame} {meth : Method} {c : Code} {H : Heap} {locs : List Loc} {cells slots : Nat} {Q : Jvm.State → Prop} {cc : ByteArray} {pc : Nat} {ls : Array Slot} {rest : List Value} {D : va_G} {A : Nat → Prop} {H0 : Heap} {ad : Nat → Nat → Nat} {ca : Nat → ClassId} {M M1 : me_M} {N : Nat → Nat} {index j : Nat} {v : Nat} (he : M1 = wR M 1 j 61 (some v)) (hexec : p.tables.exec = Jvm.exec) (hb : c.code = cc) (hts : ∀ w ∈ fg_g, w.before args s = true) (hown : s.vm.findClass "FilterGuardModel" = some m.cls) (hK : va_K D classes (me_T ca) s) (hP : va_P D classes (me_W ad ca M) H) (hD : va_D A (me_W ad ca M)) (hwf : me_wf N M) (hS : va_S A H0 H locs) (hj : j < N 1) (hv : v < N 13) (hin2 : meth.name = "<init>") (hlink : (Cond.fieldLink "FilterGuardModel" index "FilterGuardModel" "keptBehind" "[I").before args s = true) (hdg : decode cc pc = .ok (.putfield index, 3)) (kk : ∀ (H1 : Heap) (locs1 : List Loc), va_P D classes (me_W ad ca M1) H1 → va_D A (me_W ad ca M1) → me_wf N M1 → va_S A H0 H1 locs1 → W p l e R s m args below meth c H1 locs1 cells slots Q (F0 m (pc + 3) ls rest)) : W p l e R s m args below meth c H locs cells slots Q (F0 m pc ls (.ref (ad 13 v) :: .ref (ad 1 j) :: rest)) := by
  subst he
  exact me_putF (M1 := wR M 1 j 61 (some v)) (k := 1) (f := 61) (C := "FilterGuardModel") (T := F_M) (Nf := 75) hexec hb hts i_M t_M t_M_ok n_M hown hK hP hD hwf hS hj (by decide) rfl (by decide) (by decide) hlink (fun _ h9 => h9) rfl hin2 rfl rfl rfl rfl (fun a b h => me_wRE h) (me_fRw (v := some v) (by decide) (by decide)) hdg (fun H1 locs1 a1 a2 a3 => kk H1 locs1 a1 a2 (me_wfR hwf (fun t z => by cases z; exact hv)) a3)
theorem d_M_init_342 : decode prog_14_method_1_code 342 = .ok (.aload_n 0, 1) := by decide +kernel
theorem d_M_init_343 : decode prog_14_method_1_code 343 = .ok (.sipush 200, 3) := by decide +kernel
theorem d_M_init_346 : decode prog_14_method_1_code 346 = .ok (.newarray .int, 2) := by decide +kernel
theorem d_M_init_348 : decode prog_14_method_1_code 348 = .ok (.putfield 131, 3) := by decide +kernel
theorem u_1804 : Cond.fieldLink "FilterGuardModel" 131 "FilterGuardModel" "waitsAt" "[I" ∈ fg_g := fg_in (List.mem_of_getElem? (i := 1804) (by decide +kernel)) rfl
theorem P_M_63 {p : Program} {l : Launch} {e : Env} {R : Room} {s : Jvm.State} {m : MethodId} {args : Array Value} {below : List Frame} {meth : Method} {c : Code} {H : Heap} {locs : List Loc} {cells slots : Nat} {Q : Jvm.State → Prop} {cc : ByteArray} {pc : Nat} {ls : Array Slot} {rest : List Value} {D : va_G} {A : Nat → Prop} {H0 : Heap} {ad : Nat → Nat → Nat} {ca : Nat → ClassId} {M M1 : me_M} {N : Nat → Nat} {index j : Nat} {v : Nat} (he : M1 = wR M 1 j 63 (some v)) (hexec : p.tables.exec = Jvm.exec) (hb : c.code = cc) (hts : ∀ w ∈ fg_g, w.before args s = true) (hown : s.vm.findClass "FilterGuardModel" = some m.cls) (hK : va_K D classes (me_T ca) s) (hP : va_P D classes (me_W ad ca M) H) (hD : va_D A (me_W ad ca M)) (hwf : me_wf N M) (hS : va_S A H0 H locs) (hj : j < N 1) (hv : v < N 13) (hin2 : meth.name = "<init>") (hlink : (Cond.fieldLink "FilterGuardModel" index "FilterGuardModel" "waitsAt" "[I").before args s = true) (hdg : decode cc pc = .ok (.putfield index, 3)) (kk : ∀ (H1 : Heap) (locs1 : List Loc), va_P D classes (me_W ad ca M1) H1 → va_D A (me_W ad ca M1) → me_wf N M1 → va_S A H0 H1 locs1 → W p l e R s m args below meth c H1 locs1 cells slots Q (F0 m (pc + 3) ls rest)) : W p l e R s m args below meth c H locs cells slots Q (F0 m pc ls (.ref (ad 13 v) :: .ref (ad 1 j) :: rest)) := by
  subst he
  exact me_putF (M1 := wR M 1 j 63 (some v)) (k := 1) (f := 63) (C := "FilterGuardModel") (T := F_M) (Nf := 75) hexec hb hts i_M t_M t_M_ok n_M hown hK hP hD hwf hS hj (by decide) rfl (by decide) (by decide) hlink (fun _ h9 => h9) rfl hin2 rfl rfl rfl rfl (fun a b h => me_wRE h) (me_fRw (v := some v) (by decide) (by decide)) hdg (fun H1 locs1 a1 a2 a3 => kk H1 locs1 a1 a2 (me_wfR hwf (fun t z => by cases z; exact hv)) a3)
theorem d_M_init_351 : decode prog_14_method_1_code 351 = .ok (.aload_n 0, 1) := by decide +kernel
theorem d_M_init_352 : decode prog_14_method_1_code 352 = .ok (.sipush 200, 3) := by decide +kernel
theorem d_M_init_355 : decode prog_14_method_1_code 355 = .ok (.newarray .int, 2) := by decide +kernel
theorem d_M_init_357 : decode prog_14_method_1_code 357 = .ok (.putfield 134, 3) := by decide +kernel
theorem u_1805 : Cond.fieldLink "FilterGuardModel" 134 "FilterGuardModel" "waitsBehind" "[I" ∈ fg_g := fg_in (List.mem_of_getElem? (i := 1805) (by decide +kernel)) rfl
theorem P_M_64 {p : Program} {l : Launch} {e : Env} {R : Room} {s : Jvm.State} {m : MethodId} {args : Array Value} {below : List Frame} {meth : Method} {c : Code} {H : Heap} {locs : List Loc} {cells slots : Nat} {Q : Jvm.State → Prop} {cc : ByteArray} {pc : Nat} {ls : Array Slot} {rest : List Value} {D : va_G} {A : Nat → Prop} {H0 : Heap} {ad : Nat → Nat → Nat} {ca : Nat → ClassId} {M M1 : me_M} {N : Nat → Nat} {index j : Nat} {v : Nat} (he : M1 = wR M 1 j 64 (some v)) (hexec : p.tables.exec = Jvm.exec) (hb : c.code = cc) (hts : ∀ w ∈ fg_g, w.before args s = true) (hown : s.vm.findClass "FilterGuardModel" = some m.cls) (hK : va_K D classes (me_T ca) s) (hP : va_P D classes (me_W ad ca M) H) (hD : va_D A (me_W ad ca M)) (hwf : me_wf N M) (hS : va_S A H0 H locs) (hj : j < N 1) (hv : v < N 13) (hin2 : meth.name = "<init>") (hlink : (Cond.fieldLink "FilterGuardModel" index "FilterGuardModel" "waitsBehind" "[I").before args s = true) (hdg : decode cc pc = .ok (.putfield index, 3)) (kk : ∀ (H1 : Heap) (locs1 : List Loc), va_P D classes (me_W ad ca M1) H1 → va_D A (me_W ad ca M1) → me_wf N M1 → va_S A H0 H1 locs1 → W p l e R s m args below meth c H1 locs1 cells slots Q (F0 m (pc + 3) ls rest)) : W p l e R s m args below meth c H locs cells slots Q (F0 m pc ls (.ref (ad 13 v) :: .ref (ad 1 j) :: rest)) := by
  subst he
  exact me_putF (M1 := wR M 1 j 64 (some v)) (k := 1) (f := 64) (C := "FilterGuardModel") (T := F_M) (Nf := 75) hexec hb hts i_M t_M t_M_ok n_M hown hK hP hD hwf hS hj (by decide) rfl (by decide) (by decide) hlink (fun _ h9 => h9) rfl hin2 rfl rfl rfl rfl (fun a b h => me_wRE h) (me_fRw (v := some v) (by decide) (by decide)) hdg (fun H1 locs1 a1 a2 a3 => kk H1 locs1 a1 a2 (me_wfR hwf (fun t z => by cases z; exact hv)) a3)
theorem d_M_init_360 : decode prog_14_method_1_code 360 = .ok (.aload_n 0, 1) := by decide +kernel
theorem d_M_init_361 : decode prog_14_method_1_code 361 = .ok (.bipush 75, 2) := by decide +kernel
theorem d_M_init_363 : decode prog_14_method_1_code 363 = .ok (.newarray .int, 2) := by decide +kernel
theorem d_M_init_365 : decode prog_14_method_1_code 365 = .ok (.putfield 137, 3) := by decide +kernel
theorem u_1807 : Cond.fieldLink "FilterGuardModel" 137 "FilterGuardModel" "pairs" "[I" ∈ fg_g := fg_in (List.mem_of_getElem? (i := 1807) (by decide +kernel)) rfl
theorem P_M_66 {p : Program} {l : Launch} {e : Env} {R : Room} {s : Jvm.State} {m : MethodId} {args : Array Value} {below : List Frame} {meth : Method} {c : Code} {H : Heap} {locs : List Loc} {cells slots : Nat} {Q : Jvm.State → Prop} {cc : ByteArray} {pc : Nat} {ls : Array Slot} {rest : List Value} {D : va_G} {A : Nat → Prop} {H0 : Heap} {ad : Nat → Nat → Nat} {ca : Nat → ClassId} {M M1 : me_M} {N : Nat → Nat} {index j : Nat} {v : Nat} (he : M1 = wR M 1 j 66 (some v)) (hexec : p.tables.exec = Jvm.exec) (hb : c.code = cc) (hts : ∀ w ∈ fg_g, w.before args s = true) (hown : s.vm.findClass "FilterGuardModel" = some m.cls) (hK : va_K D classes (me_T ca) s) (hP : va_P D classes (me_W ad ca M) H) (hD : va_D A (me_W ad ca M)) (hwf : me_wf N M) (hS : va_S A H0 H locs) (hj : j < N 1) (hv : v < N 13) (hin2 : meth.name = "<init>") (hlink : (Cond.fieldLink "FilterGuardModel" index "FilterGuardModel" "pairs" "[I").before args s = true) (hdg : decode cc pc = .ok (.putfield index, 3)) (kk : ∀ (H1 : Heap) (locs1 : List Loc), va_P D classes (me_W ad ca M1) H1 → va_D A (me_W ad ca M1) → me_wf N M1 → va_S A H0 H1 locs1 → W p l e R s m args below meth c H1 locs1 cells slots Q (F0 m (pc + 3) ls rest)) : W p l e R s m args below meth c H locs cells slots Q (F0 m pc ls (.ref (ad 13 v) :: .ref (ad 1 j) :: rest)) := by
  subst he
  exact me_putF (M1 := wR M 1 j 66 (some v)) (k := 1) (f := 66) (C := "FilterGuardModel") (T := F_M) (Nf := 75) hexec hb hts i_M t_M t_M_ok n_M hown hK hP hD hwf hS hj (by decide) rfl (by decide) (by decide) hlink (fun _ h9 => h9) rfl hin2 rfl rfl rfl rfl (fun a b h => me_wRE h) (me_fRw (v := some v) (by decide) (by decide)) hdg (fun H1 locs1 a1 a2 a3 => kk H1 locs1 a1 a2 (me_wfR hwf (fun t z => by cases z; exact hv)) a3)
theorem d_M_init_368 : decode prog_14_method_1_code 368 = .ok (.aload_n 0, 1) := by decide +kernel
theorem d_M_init_369 : decode prog_14_method_1_code 369 = .ok (.bipush 75, 2) := by decide +kernel
theorem d_M_init_371 : decode prog_14_method_1_code 371 = .ok (.newarray .int, 2) := by decide +kernel
theorem d_M_init_373 : decode prog_14_method_1_code 373 = .ok (.putfield 140, 3) := by decide +kernel
theorem u_1808 : Cond.fieldLink "FilterGuardModel" 140 "FilterGuardModel" "pairOf" "[I" ∈ fg_g := fg_in (List.mem_of_getElem? (i := 1808) (by decide +kernel)) rfl
theorem P_M_67 {p : Program} {l : Launch} {e : Env} {R : Room} {s : Jvm.State} {m : MethodId} {args : Array Value} {below : List Frame} {meth : Method} {c : Code} {H : Heap} {locs : List Loc} {cells slots : Nat} {Q : Jvm.State → Prop} {cc : ByteArray} {pc : Nat} {ls : Array Slot} {rest : List Value} {D : va_G} {A : Nat → Prop} {H0 : Heap} {ad : Nat → Nat → Nat} {ca : Nat → ClassId} {M M1 : me_M} {N : Nat → Nat} {index j : Nat} {v : Nat} (he : M1 = wR M 1 j 67 (some v)) (hexec : p.tables.exec = Jvm.exec) (hb : c.code = cc) (hts : ∀ w ∈ fg_g, w.before args s = true) (hown : s.vm.findClass "FilterGuardModel" = some m.cls) (hK : va_K D classes (me_T ca) s) (hP : va_P D classes (me_W ad ca M) H) (hD : va_D A (me_W ad ca M)) (hwf : me_wf N M) (hS : va_S A H0 H locs) (hj : j < N 1) (hv : v < N 13) (hin2 : meth.name = "<init>") (hlink : (Cond.fieldLink "FilterGuardModel" index "FilterGuardModel" "pairOf" "[I").before args s = true) (hdg : decode cc pc = .ok (.putfield index, 3)) (kk : ∀ (H1 : Heap) (locs1 : List Loc), va_P D classes (me_W ad ca M1) H1 → va_D A (me_W ad ca M1) → me_wf N M1 → va_S A H0 H1 locs1 → W p l e R s m args below meth c H1 locs1 cells slots Q (F0 m (pc + 3) ls rest)) : W p l e R s m args below meth c H locs cells slots Q (F0 m pc ls (.ref (ad 13 v) :: .ref (ad 1 j) :: rest)) := by
  subst he
  exact me_putF (M1 := wR M 1 j 67 (some v)) (k := 1) (f := 67) (C := "FilterGuardModel") (T := F_M) (Nf := 75) hexec hb hts i_M t_M t_M_ok n_M hown hK hP hD hwf hS hj (by decide) rfl (by decide) (by decide) hlink (fun _ h9 => h9) rfl hin2 rfl rfl rfl rfl (fun a b h => me_wRE h) (me_fRw (v := some v) (by decide) (by decide)) hdg (fun H1 locs1 a1 a2 a3 => kk H1 locs1 a1 a2 (me_wfR hwf (fun t z => by cases z; exact hv)) a3)
theorem d_M_init_376 : decode prog_14_method_1_code 376 = .ok (.aload_n 0, 1) := by decide +kernel
theorem d_M_init_377 : decode prog_14_method_1_code 377 = .ok (.sipush 2001, 3) := by decide +kernel
theorem d_M_init_380 : decode prog_14_method_1_code 380 = .ok (.newarray .boolean, 2) := by decide +kernel
theorem d_M_init_382 : decode prog_14_method_1_code 382 = .ok (.putfield 143, 3) := by decide +kernel
theorem u_1812 : Cond.fieldLink "FilterGuardModel" 143 "FilterGuardModel" "stays" "[Z" ∈ fg_g := fg_in (List.mem_of_getElem? (i := 1812) (by decide +kernel)) rfl
theorem P_M_71 {p : Program} {l : Launch} {e : Env} {R : Room} {s : Jvm.State} {m : MethodId} {args : Array Value} {below : List Frame} {meth : Method} {c : Code} {H : Heap} {locs : List Loc} {cells slots : Nat} {Q : Jvm.State → Prop} {cc : ByteArray} {pc : Nat} {ls : Array Slot} {rest : List Value} {D : va_G} {A : Nat → Prop} {H0 : Heap} {ad : Nat → Nat → Nat} {ca : Nat → ClassId} {M M1 : me_M} {N : Nat → Nat} {index j : Nat} {v : Nat} (he : M1 = wR M 1 j 71 (some v)) (hexec : p.tables.exec = Jvm.exec) (hb : c.code = cc) (hts : ∀ w ∈ fg_g, w.before args s = true) (hown : s.vm.findClass "FilterGuardModel" = some m.cls) (hK : va_K D classes (me_T ca) s) (hP : va_P D classes (me_W ad ca M) H) (hD : va_D A (me_W ad ca M)) (hwf : me_wf N M) (hS : va_S A H0 H locs) (hj : j < N 1) (hv : v < N 15) (hin2 : meth.name = "<init>") (hlink : (Cond.fieldLink "FilterGuardModel" index "FilterGuardModel" "stays" "[Z").before args s = true) (hdg : decode cc pc = .ok (.putfield index, 3)) (kk : ∀ (H1 : Heap) (locs1 : List Loc), va_P D classes (me_W ad ca M1) H1 → va_D A (me_W ad ca M1) → me_wf N M1 → va_S A H0 H1 locs1 → W p l e R s m args below meth c H1 locs1 cells slots Q (F0 m (pc + 3) ls rest)) : W p l e R s m args below meth c H locs cells slots Q (F0 m pc ls (.ref (ad 15 v) :: .ref (ad 1 j) :: rest)) := by
  subst he
  exact me_putF (M1 := wR M 1 j 71 (some v)) (k := 1) (f := 71) (C := "FilterGuardModel") (T := F_M) (Nf := 75) hexec hb hts i_M t_M t_M_ok n_M hown hK hP hD hwf hS hj (by decide) rfl (by decide) (by decide) hlink (fun _ h9 => h9) rfl hin2 rfl rfl rfl rfl (fun a b h => me_wRE h) (me_fRw (v := some v) (by decide) (by decide)) hdg (fun H1 locs1 a1 a2 a3 => kk H1 locs1 a1 a2 (me_wfR hwf (fun t z => by cases z; exact hv)) a3)
theorem d_M_init_385 : decode prog_14_method_1_code 385 = .ok (.aload_n 0, 1) := by decide +kernel
theorem d_M_init_386 : decode prog_14_method_1_code 386 = .ok (.sipush 2000, 3) := by decide +kernel
theorem d_M_init_389 : decode prog_14_method_1_code 389 = .ok (.newarray .long, 2) := by decide +kernel
theorem d_M_init_391 : decode prog_14_method_1_code 391 = .ok (.putfield 146, 3) := by decide +kernel
theorem u_1813 : Cond.fieldLink "FilterGuardModel" 146 "FilterGuardModel" "becomes" "[J" ∈ fg_g := fg_in (List.mem_of_getElem? (i := 1813) (by decide +kernel)) rfl
theorem P_M_72 {p : Program} {l : Launch} {e : Env} {R : Room} {s : Jvm.State} {m : MethodId} {args : Array Value} {below : List Frame} {meth : Method} {c : Code} {H : Heap} {locs : List Loc} {cells slots : Nat} {Q : Jvm.State → Prop} {cc : ByteArray} {pc : Nat} {ls : Array Slot} {rest : List Value} {D : va_G} {A : Nat → Prop} {H0 : Heap} {ad : Nat → Nat → Nat} {ca : Nat → ClassId} {M M1 : me_M} {N : Nat → Nat} {index j : Nat} {v : Nat} (he : M1 = wR M 1 j 72 (some v)) (hexec : p.tables.exec = Jvm.exec) (hb : c.code = cc) (hts : ∀ w ∈ fg_g, w.before args s = true) (hown : s.vm.findClass "FilterGuardModel" = some m.cls) (hK : va_K D classes (me_T ca) s) (hP : va_P D classes (me_W ad ca M) H) (hD : va_D A (me_W ad ca M)) (hwf : me_wf N M) (hS : va_S A H0 H locs) (hj : j < N 1) (hv : v < N 16) (hin2 : meth.name = "<init>") (hlink : (Cond.fieldLink "FilterGuardModel" index "FilterGuardModel" "becomes" "[J").before args s = true) (hdg : decode cc pc = .ok (.putfield index, 3)) (kk : ∀ (H1 : Heap) (locs1 : List Loc), va_P D classes (me_W ad ca M1) H1 → va_D A (me_W ad ca M1) → me_wf N M1 → va_S A H0 H1 locs1 → W p l e R s m args below meth c H1 locs1 cells slots Q (F0 m (pc + 3) ls rest)) : W p l e R s m args below meth c H locs cells slots Q (F0 m pc ls (.ref (ad 16 v) :: .ref (ad 1 j) :: rest)) := by
  subst he
  exact me_putF (M1 := wR M 1 j 72 (some v)) (k := 1) (f := 72) (C := "FilterGuardModel") (T := F_M) (Nf := 75) hexec hb hts i_M t_M t_M_ok n_M hown hK hP hD hwf hS hj (by decide) rfl (by decide) (by decide) hlink (fun _ h9 => h9) rfl hin2 rfl rfl rfl rfl (fun a b h => me_wRE h) (me_fRw (v := some v) (by decide) (by decide)) hdg (fun H1 locs1 a1 a2 a3 => kk H1 locs1 a1 a2 (me_wfR hwf (fun t z => by cases z; exact hv)) a3)
theorem d_M_init_394 : decode prog_14_method_1_code 394 = .ok (.aload_n 0, 1) := by decide +kernel
theorem d_M_init_395 : decode prog_14_method_1_code 395 = .ok (.sipush 2001, 3) := by decide +kernel
theorem d_M_init_398 : decode prog_14_method_1_code 398 = .ok (.newarray .int, 2) := by decide +kernel
theorem d_M_init_400 : decode prog_14_method_1_code 400 = .ok (.putfield 149, 3) := by decide +kernel
theorem u_1814 : Cond.fieldLink "FilterGuardModel" 149 "FilterGuardModel" "newPlace" "[I" ∈ fg_g := fg_in (List.mem_of_getElem? (i := 1814) (by decide +kernel)) rfl
theorem P_M_73 {p : Program} {l : Launch} {e : Env} {R : Room} {s : Jvm.State} {m : MethodId} {args : Array Value} {below : List Frame} {meth : Method} {c : Code} {H : Heap} {locs : List Loc} {cells slots : Nat} {Q : Jvm.State → Prop} {cc : ByteArray} {pc : Nat} {ls : Array Slot} {rest : List Value} {D : va_G} {A : Nat → Prop} {H0 : Heap} {ad : Nat → Nat → Nat} {ca : Nat → ClassId} {M M1 : me_M} {N : Nat → Nat} {index j : Nat} {v : Nat} (he : M1 = wR M 1 j 73 (some v)) (hexec : p.tables.exec = Jvm.exec) (hb : c.code = cc) (hts : ∀ w ∈ fg_g, w.before args s = true) (hown : s.vm.findClass "FilterGuardModel" = some m.cls) (hK : va_K D classes (me_T ca) s) (hP : va_P D classes (me_W ad ca M) H) (hD : va_D A (me_W ad ca M)) (hwf : me_wf N M) (hS : va_S A H0 H locs) (hj : j < N 1) (hv : v < N 13) (hin2 : meth.name = "<init>") (hlink : (Cond.fieldLink "FilterGuardModel" index "FilterGuardModel" "newPlace" "[I").before args s = true) (hdg : decode cc pc = .ok (.putfield index, 3)) (kk : ∀ (H1 : Heap) (locs1 : List Loc), va_P D classes (me_W ad ca M1) H1 → va_D A (me_W ad ca M1) → me_wf N M1 → va_S A H0 H1 locs1 → W p l e R s m args below meth c H1 locs1 cells slots Q (F0 m (pc + 3) ls rest)) : W p l e R s m args below meth c H locs cells slots Q (F0 m pc ls (.ref (ad 13 v) :: .ref (ad 1 j) :: rest)) := by
  subst he
  exact me_putF (M1 := wR M 1 j 73 (some v)) (k := 1) (f := 73) (C := "FilterGuardModel") (T := F_M) (Nf := 75) hexec hb hts i_M t_M t_M_ok n_M hown hK hP hD hwf hS hj (by decide) rfl (by decide) (by decide) hlink (fun _ h9 => h9) rfl hin2 rfl rfl rfl rfl (fun a b h => me_wRE h) (me_fRw (v := some v) (by decide) (by decide)) hdg (fun H1 locs1 a1 a2 a3 => kk H1 locs1 a1 a2 (me_wfR hwf (fun t z => by cases z; exact hv)) a3)
theorem d_M_init_403 : decode prog_14_method_1_code 403 = .ok (.return_, 1) := by decide +kernel
abbrev y_M_init : MethodName := ⟨"FilterGuardModel", "<init>", "()V"⟩
def rm_M_init (N0 : Nat → Nat) : Room := { frames := 1, cells := me_CL - me_cN N0, slots := me_SL - me_sN N0, locals := 30 }
abbrev q_M_init (D : va_G) (ad0 : Nat → Nat → Nat) (ca : Nat → ClassId) (N0 : Nat → Nat) (MZ : me_M) (A : Nat → Prop) : Array Value → Jvm.State → Outcome → Jvm.State → Prop := va_Qv (fun (u : Nat → Nat → Nat) => al_P ad0 N0 MZ u ∧ True) (fg_B D A (fun u => me_W u ca MZ) (fun _ => [])) A
set_option maxHeartbeats 4000000 in
set_option maxRecDepth 100000 in
theorem c_M_init (l : Launch) (D : va_G) (ad0 : Nat → Nat → Nat) (ca : Nat → ClassId) (N0 : Nat → Nat) (M0 MZ : me_M) (j0 : Nat) (h : f_M_init M0 j0 = (some MZ)) (hwf : me_wf N0 M0) (hcl : me_cN N0 ≤ me_CL ∧ me_sN N0 ≤ me_SL) (hj0 : j0 < N0 1) (sz : Nat) : Met l y_M_init (fg_w y_M_init prog_14_method_1_code 1 none) (rm_M_init N0) (va_Pc [.ref (ad0 1 j0)] (fz_P D (me_T ca) (me_W ad0 ca M0) sz)) (q_M_init D ad0 ca N0 MZ (va_A (me_W ad0 ca M0) sz)) (me_cN (mN MZ) - me_cN N0) (me_sN (mN MZ) - me_sN N0) (va_A (me_W ad0 ca M0) sz) := by
  refine fz_enter (fun A => q_M_init D ad0 ca N0 MZ A) (by decide +kernel) (Nat.le_of_ble_eq_true rfl) ?_
  intro p e s m below meth c ls A hx hb hml hown hts hr hlocks hin hP hK hD hS hA hX hl hz
  refine W.widen (k := me_cN N0 - me_cN N0) (n := me_sN N0 - me_sN N0) (Nat.zero_le _) (Nat.zero_le _) ?_
  unfold f_M_init at h
  have hok : me_ok N0 N0 := me_ok.rf hcl
  obtain ⟨ad, N, hext0, hok, hwf, hP, hD, hN9, had9, hj0⟩ : ∃ (ad : Nat → Nat → Nat) (N : Nat → Nat), (∀ a b, b < N0 a → ad a b = ad0 a b) ∧ me_ok N0 N ∧ me_wf N M0 ∧ va_P D classes (me_W ad ca M0) s.heap ∧ va_D A (me_W ad ca M0) ∧ N = N0 ∧ ad = ad0 ∧ j0 < N 1 := ⟨ad0, N0, fun _ _ _ => rfl, hok, hwf, hP, hD, rfl, rfl, hj0⟩
  have hl : lv_has ls 1 [(0, .ref (ad 1 j0))] := by rw [had9]; exact hl
  have hcs : W p l e (rm_M_init N0) s m [.ref (ad0 1 j0)].toArray below meth c s.heap [] (me_cN N - me_cN N0) (me_sN N - me_sN N0) (MQ below (q_M_init D ad0 ca N0 MZ A) [.ref (ad0 1 j0)].toArray s (me_cN (mN MZ) - me_cN N0) (me_sN (mN MZ) - me_sN N0) A) (F0 m 0 ls []) := by
    clear had9
    refine lv_aload_n hx hb d_M_init_0 rfl (lv_at hl 0 rfl) ?_
    refine W.objInit hx hb hown (hts _ u_1739) (hts _ u_210) (hts _ u_211) rfl (by rw [hml]; exact hl.1) rfl d_M_init_1 (Nat.le_of_ble_eq_true rfl) (Nat.le_of_ble_eq_true rfl) ?_
    refine W.eq (g2 := F0 m 4 ls []) rfl ?_
    refine lv_aload_n hx hb d_M_init_4 rfl (lv_at hl 0 rfl) ?_
    refine lv_ldc hx hb hown (hts _ u_1740) d_M_init_5 ?_
    obtain ⟨g1, h⟩ := gd_ob h
    obtain ⟨M2, eM2, h⟩ := st_ob h
    refine al_newa (k := 14) (atype := .byte) (a0 := ((65536 : Int32).toNatClampNeg, .inl (fun _ => 0))) eM2 g1 hx hb (hts _ u_309) rfl hK hP hD hwf hok hS hA (by decide) (by decide) rfl (fun _ _ h9 => h9) (by decide) (fun _ => rfl) (fun ad1 => by rw [eM2]; exact al_ar14) rfl rfl d_M_init_7 (fun ad N H hext hNN hn3 hwf hok1 hP hD hS => ?_)
    have hext0 := al_ext hext hext0 hok
    have hok := hok1
    have hl : lv_has ls 1 [(0, .ref (ad 1 j0))] := by rw [hext 1 j0 hj0]; exact hl
    refine W.eq (g2 := F0 m 9 ls [.ref (ad 14 (mN M0 14)), .ref (ad 1 j0)]) (by rw [hext 1 j0 hj0]) ?_
    have hj0 : j0 < N 1 := Nat.lt_of_lt_of_le hj0 (hNN 1)
    obtain ⟨M4, eM4, h⟩ := st_ob h
    refine P_M_1 eM4 hx hb hts hown hK hP hD hwf hS hj0 hn3 hin (hts _ u_1742) d_M_init_9 (fun H locs hP hD hwf hS => ?_)
    refine lv_aload_n hx hb d_M_init_12 rfl (lv_at hl 0 rfl) ?_
    refine lv_iconst (v := 4) hx hb d_M_init_13 (by decide) ?_
    obtain ⟨g5, h⟩ := gd_ob h
    obtain ⟨M6, eM6, h⟩ := st_ob h
    refine al_newa (k := 13) (atype := .int) (a0 := ((4 : Int32).toNatClampNeg, .inl (fun _ => 0))) eM6 g5 hx hb (hts _ u_340) rfl hK hP hD hwf hok hS hA (by decide) (by decide) rfl (fun _ _ h9 => h9) (by decide) (fun _ => rfl) (fun ad1 => by rw [eM6]; exact al_ar13) rfl rfl d_M_init_14 (fun ad N H hext hNN hn7 hwf hok1 hP hD hS => ?_)
    have hext0 := al_ext hext hext0 hok
    have hok := hok1
    have hl : lv_has ls 1 [(0, .ref (ad 1 j0))] := by rw [hext 1 j0 hj0]; exact hl
    refine W.eq (g2 := F0 m 16 ls [.ref (ad 13 (mN M4 13)), .ref (ad 1 j0)]) (by rw [hext 1 j0 hj0]) ?_
    have hj0 : j0 < N 1 := Nat.lt_of_lt_of_le hj0 (hNN 1)
    obtain ⟨M8, eM8, h⟩ := st_ob h
    refine P_M_5 eM8 hx hb hts hown hK hP hD hwf hS hj0 hn7 hin (hts _ u_1746) d_M_init_16 (fun H locs hP hD hwf hS => ?_)
    refine lv_aload_n hx hb d_M_init_19 rfl (lv_at hl 0 rfl) ?_
    refine lv_iconst (v := 4) hx hb d_M_init_20 (by decide) ?_
    obtain ⟨g9, h⟩ := gd_ob h
    obtain ⟨M10, eM10, h⟩ := st_ob h
    refine al_newa (k := 13) (atype := .int) (a0 := ((4 : Int32).toNatClampNeg, .inl (fun _ => 0))) eM10 g9 hx hb (hts _ u_340) rfl hK hP hD hwf hok hS hA (by decide) (by decide) rfl (fun _ _ h9 => h9) (by decide) (fun _ => rfl) (fun ad1 => by rw [eM10]; exact al_ar13) rfl rfl d_M_init_21 (fun ad N H hext hNN hn11 hwf hok1 hP hD hS => ?_)
    have hext0 := al_ext hext hext0 hok
    have hok := hok1
    have hl : lv_has ls 1 [(0, .ref (ad 1 j0))] := by rw [hext 1 j0 hj0]; exact hl
    refine W.eq (g2 := F0 m 23 ls [.ref (ad 13 (mN M8 13)), .ref (ad 1 j0)]) (by rw [hext 1 j0 hj0]) ?_
    have hj0 : j0 < N 1 := Nat.lt_of_lt_of_le hj0 (hNN 1)
    obtain ⟨M12, eM12, h⟩ := st_ob h
    refine P_M_6 eM12 hx hb hts hown hK hP hD hwf hS hj0 hn11 hin (hts _ u_1747) d_M_init_23 (fun H locs hP hD hwf hS => ?_)
    refine lv_aload_n hx hb d_M_init_26 rfl (lv_at hl 0 rfl) ?_
    refine lv_iconst (v := 4) hx hb d_M_init_27 (by decide) ?_
    obtain ⟨g13, h⟩ := gd_ob h
    obtain ⟨M14, eM14, h⟩ := st_ob h
    refine al_newa (k := 13) (atype := .int) (a0 := ((4 : Int32).toNatClampNeg, .inl (fun _ => 0))) eM14 g13 hx hb (hts _ u_340) rfl hK hP hD hwf hok hS hA (by decide) (by decide) rfl (fun _ _ h9 => h9) (by decide) (fun _ => rfl) (fun ad1 => by rw [eM14]; exact al_ar13) rfl rfl d_M_init_28 (fun ad N H hext hNN hn15 hwf hok1 hP hD hS => ?_)
    have hext0 := al_ext hext hext0 hok
    have hok := hok1
    have hl : lv_has ls 1 [(0, .ref (ad 1 j0))] := by rw [hext 1 j0 hj0]; exact hl
    refine W.eq (g2 := F0 m 30 ls [.ref (ad 13 (mN M12 13)), .ref (ad 1 j0)]) (by rw [hext 1 j0 hj0]) ?_
    have hj0 : j0 < N 1 := Nat.lt_of_lt_of_le hj0 (hNN 1)
    obtain ⟨M16, eM16, h⟩ := st_ob h
    refine P_M_7 eM16 hx hb hts hown hK hP hD hwf hS hj0 hn15 hin (hts _ u_1748) d_M_init_30 (fun H locs hP hD hwf hS => ?_)
    refine lv_aload_n hx hb d_M_init_33 rfl (lv_at hl 0 rfl) ?_
    refine lv_iconst (v := 4) hx hb d_M_init_34 (by decide) ?_
    obtain ⟨g17, h⟩ := gd_ob h
    obtain ⟨M18, eM18, h⟩ := st_ob h
    refine al_newa (k := 13) (atype := .int) (a0 := ((4 : Int32).toNatClampNeg, .inl (fun _ => 0))) eM18 g17 hx hb (hts _ u_340) rfl hK hP hD hwf hok hS hA (by decide) (by decide) rfl (fun _ _ h9 => h9) (by decide) (fun _ => rfl) (fun ad1 => by rw [eM18]; exact al_ar13) rfl rfl d_M_init_35 (fun ad N H hext hNN hn19 hwf hok1 hP hD hS => ?_)
    have hext0 := al_ext hext hext0 hok
    have hok := hok1
    have hl : lv_has ls 1 [(0, .ref (ad 1 j0))] := by rw [hext 1 j0 hj0]; exact hl
    refine W.eq (g2 := F0 m 37 ls [.ref (ad 13 (mN M16 13)), .ref (ad 1 j0)]) (by rw [hext 1 j0 hj0]) ?_
    have hj0 : j0 < N 1 := Nat.lt_of_lt_of_le hj0 (hNN 1)
    obtain ⟨M20, eM20, h⟩ := st_ob h
    refine P_M_8 eM20 hx hb hts hown hK hP hD hwf hS hj0 hn19 hin (hts _ u_1749) d_M_init_37 (fun H locs hP hD hwf hS => ?_)
    refine lv_aload_n hx hb d_M_init_40 rfl (lv_at hl 0 rfl) ?_
    refine lv_sipush (v := 256) hx hb d_M_init_41 (by decide) ?_
    obtain ⟨g21, h⟩ := gd_ob h
    obtain ⟨M22, eM22, h⟩ := st_ob h
    refine al_newa (k := 15) (atype := .boolean) (a0 := ((256 : Int32).toNatClampNeg, .inl (fun _ => 0))) eM22 g21 hx hb (hts _ u_311) rfl hK hP hD hwf hok hS hA (by decide) (by decide) rfl (fun _ _ h9 => h9) (by decide) (fun _ => rfl) (fun ad1 => by rw [eM22]; exact al_ar15) rfl rfl d_M_init_44 (fun ad N H hext hNN hn23 hwf hok1 hP hD hS => ?_)
    have hext0 := al_ext hext hext0 hok
    have hok := hok1
    have hl : lv_has ls 1 [(0, .ref (ad 1 j0))] := by rw [hext 1 j0 hj0]; exact hl
    refine W.eq (g2 := F0 m 46 ls [.ref (ad 15 (mN M20 15)), .ref (ad 1 j0)]) (by rw [hext 1 j0 hj0]) ?_
    have hj0 : j0 < N 1 := Nat.lt_of_lt_of_le hj0 (hNN 1)
    obtain ⟨M24, eM24, h⟩ := st_ob h
    refine P_M_9 eM24 hx hb hts hown hK hP hD hwf hS hj0 hn23 hin (hts _ u_1750) d_M_init_46 (fun H locs hP hD hwf hS => ?_)
    refine lv_aload_n hx hb d_M_init_49 rfl (lv_at hl 0 rfl) ?_
    refine lv_sipush (v := 4096) hx hb d_M_init_50 (by decide) ?_
    obtain ⟨g25, h⟩ := gd_ob h
    obtain ⟨M26, eM26, h⟩ := st_ob h
    refine al_newa (k := 14) (atype := .byte) (a0 := ((4096 : Int32).toNatClampNeg, .inl (fun _ => 0))) eM26 g25 hx hb (hts _ u_309) rfl hK hP hD hwf hok hS hA (by decide) (by decide) rfl (fun _ _ h9 => h9) (by decide) (fun _ => rfl) (fun ad1 => by rw [eM26]; exact al_ar14) rfl rfl d_M_init_53 (fun ad N H hext hNN hn27 hwf hok1 hP hD hS => ?_)
    have hext0 := al_ext hext hext0 hok
    have hok := hok1
    have hl : lv_has ls 1 [(0, .ref (ad 1 j0))] := by rw [hext 1 j0 hj0]; exact hl
    refine W.eq (g2 := F0 m 55 ls [.ref (ad 14 (mN M24 14)), .ref (ad 1 j0)]) (by rw [hext 1 j0 hj0]) ?_
    have hj0 : j0 < N 1 := Nat.lt_of_lt_of_le hj0 (hNN 1)
    obtain ⟨M28, eM28, h⟩ := st_ob h
    refine P_M_10 eM28 hx hb hts hown hK hP hD hwf hS hj0 hn27 hin (hts _ u_1751) d_M_init_55 (fun H locs hP hD hwf hS => ?_)
    refine lv_aload_n hx hb d_M_init_58 rfl (lv_at hl 0 rfl) ?_
    refine lv_sipush (v := 16384) hx hb d_M_init_59 (by decide) ?_
    obtain ⟨g29, h⟩ := gd_ob h
    obtain ⟨M30, eM30, h⟩ := st_ob h
    refine al_newa (k := 14) (atype := .byte) (a0 := ((16384 : Int32).toNatClampNeg, .inl (fun _ => 0))) eM30 g29 hx hb (hts _ u_309) rfl hK hP hD hwf hok hS hA (by decide) (by decide) rfl (fun _ _ h9 => h9) (by decide) (fun _ => rfl) (fun ad1 => by rw [eM30]; exact al_ar14) rfl rfl d_M_init_62 (fun ad N H hext hNN hn31 hwf hok1 hP hD hS => ?_)
    have hext0 := al_ext hext hext0 hok
    have hok := hok1
    have hl : lv_has ls 1 [(0, .ref (ad 1 j0))] := by rw [hext 1 j0 hj0]; exact hl
    refine W.eq (g2 := F0 m 64 ls [.ref (ad 14 (mN M28 14)), .ref (ad 1 j0)]) (by rw [hext 1 j0 hj0]) ?_
    have hj0 : j0 < N 1 := Nat.lt_of_lt_of_le hj0 (hNN 1)
    obtain ⟨M32, eM32, h⟩ := st_ob h
    refine P_M_11 eM32 hx hb hts hown hK hP hD hwf hS hj0 hn31 hin (hts _ u_1752) d_M_init_64 (fun H locs hP hD hwf hS => ?_)
    refine lv_aload_n hx hb d_M_init_67 rfl (lv_at hl 0 rfl) ?_
    refine lv_sipush (v := 2000) hx hb d_M_init_68 (by decide) ?_
    obtain ⟨g33, h⟩ := gd_ob h
    obtain ⟨M34, eM34, h⟩ := st_ob h
    refine al_newa (k := 16) (atype := .long) (a0 := ((2000 : Int32).toNatClampNeg, .inr (.inl (fun _ => 0)))) eM34 g33 hx hb (hts _ u_310) rfl hK hP hD hwf hok hS hA (by decide) (by decide) rfl (fun _ _ h9 => h9) (by decide) (fun _ => rfl) (fun ad1 => by rw [eM34]; exact al_ar16) rfl rfl d_M_init_71 (fun ad N H hext hNN hn35 hwf hok1 hP hD hS => ?_)
    have hext0 := al_ext hext hext0 hok
    have hok := hok1
    have hl : lv_has ls 1 [(0, .ref (ad 1 j0))] := by rw [hext 1 j0 hj0]; exact hl
    refine W.eq (g2 := F0 m 73 ls [.ref (ad 16 (mN M32 16)), .ref (ad 1 j0)]) (by rw [hext 1 j0 hj0]) ?_
    have hj0 : j0 < N 1 := Nat.lt_of_lt_of_le hj0 (hNN 1)
    obtain ⟨M36, eM36, h⟩ := st_ob h
    refine P_M_13 eM36 hx hb hts hown hK hP hD hwf hS hj0 hn35 hin (hts _ u_1754) d_M_init_73 (fun H locs hP hD hwf hS => ?_)
    refine lv_aload_n hx hb d_M_init_76 rfl (lv_at hl 0 rfl) ?_
    refine lv_sipush (v := 2000) hx hb d_M_init_77 (by decide) ?_
    obtain ⟨g37, h⟩ := gd_ob h
    obtain ⟨M38, eM38, h⟩ := st_ob h
    refine al_newa (k := 16) (atype := .long) (a0 := ((2000 : Int32).toNatClampNeg, .inr (.inl (fun _ => 0)))) eM38 g37 hx hb (hts _ u_310) rfl hK hP hD hwf hok hS hA (by decide) (by decide) rfl (fun _ _ h9 => h9) (by decide) (fun _ => rfl) (fun ad1 => by rw [eM38]; exact al_ar16) rfl rfl d_M_init_80 (fun ad N H hext hNN hn39 hwf hok1 hP hD hS => ?_)
    have hext0 := al_ext hext hext0 hok
    have hok := hok1
    have hl : lv_has ls 1 [(0, .ref (ad 1 j0))] := by rw [hext 1 j0 hj0]; exact hl
    refine W.eq (g2 := F0 m 82 ls [.ref (ad 16 (mN M36 16)), .ref (ad 1 j0)]) (by rw [hext 1 j0 hj0]) ?_
    have hj0 : j0 < N 1 := Nat.lt_of_lt_of_le hj0 (hNN 1)
    obtain ⟨M40, eM40, h⟩ := st_ob h
    refine P_M_16 eM40 hx hb hts hown hK hP hD hwf hS hj0 hn39 hin (hts _ u_1757) d_M_init_82 (fun H locs hP hD hwf hS => ?_)
    refine lv_aload_n hx hb d_M_init_85 rfl (lv_at hl 0 rfl) ?_
    refine lv_sipush (v := 2000) hx hb d_M_init_86 (by decide) ?_
    obtain ⟨g41, h⟩ := gd_ob h
    obtain ⟨M42, eM42, h⟩ := st_ob h
    refine al_newa (k := 16) (atype := .long) (a0 := ((2000 : Int32).toNatClampNeg, .inr (.inl (fun _ => 0)))) eM42 g41 hx hb (hts _ u_310) rfl hK hP hD hwf hok hS hA (by decide) (by decide) rfl (fun _ _ h9 => h9) (by decide) (fun _ => rfl) (fun ad1 => by rw [eM42]; exact al_ar16) rfl rfl d_M_init_89 (fun ad N H hext hNN hn43 hwf hok1 hP hD hS => ?_)
    have hext0 := al_ext hext hext0 hok
    have hok := hok1
    have hl : lv_has ls 1 [(0, .ref (ad 1 j0))] := by rw [hext 1 j0 hj0]; exact hl
    refine W.eq (g2 := F0 m 91 ls [.ref (ad 16 (mN M40 16)), .ref (ad 1 j0)]) (by rw [hext 1 j0 hj0]) ?_
    have hj0 : j0 < N 1 := Nat.lt_of_lt_of_le hj0 (hNN 1)
    obtain ⟨M44, eM44, h⟩ := st_ob h
    refine P_M_17 eM44 hx hb hts hown hK hP hD hwf hS hj0 hn43 hin (hts _ u_1758) d_M_init_91 (fun H locs hP hD hwf hS => ?_)
    refine lv_aload_n hx hb d_M_init_94 rfl (lv_at hl 0 rfl) ?_
    refine lv_sipush (v := 2000) hx hb d_M_init_95 (by decide) ?_
    obtain ⟨g45, h⟩ := gd_ob h
    obtain ⟨M46, eM46, h⟩ := st_ob h
    refine al_newa (k := 13) (atype := .int) (a0 := ((2000 : Int32).toNatClampNeg, .inl (fun _ => 0))) eM46 g45 hx hb (hts _ u_340) rfl hK hP hD hwf hok hS hA (by decide) (by decide) rfl (fun _ _ h9 => h9) (by decide) (fun _ => rfl) (fun ad1 => by rw [eM46]; exact al_ar13) rfl rfl d_M_init_98 (fun ad N H hext hNN hn47 hwf hok1 hP hD hS => ?_)
    have hext0 := al_ext hext hext0 hok
    have hok := hok1
    have hl : lv_has ls 1 [(0, .ref (ad 1 j0))] := by rw [hext 1 j0 hj0]; exact hl
    refine W.eq (g2 := F0 m 100 ls [.ref (ad 13 (mN M44 13)), .ref (ad 1 j0)]) (by rw [hext 1 j0 hj0]) ?_
    have hj0 : j0 < N 1 := Nat.lt_of_lt_of_le hj0 (hNN 1)
    obtain ⟨M48, eM48, h⟩ := st_ob h
    refine P_M_27 eM48 hx hb hts hown hK hP hD hwf hS hj0 hn47 hin (hts _ u_1768) d_M_init_100 (fun H locs hP hD hwf hS => ?_)
    refine lv_aload_n hx hb d_M_init_103 rfl (lv_at hl 0 rfl) ?_
    refine lv_sipush (v := 2000) hx hb d_M_init_104 (by decide) ?_
    obtain ⟨g49, h⟩ := gd_ob h
    obtain ⟨M50, eM50, h⟩ := st_ob h
    refine al_newa (k := 15) (atype := .boolean) (a0 := ((2000 : Int32).toNatClampNeg, .inl (fun _ => 0))) eM50 g49 hx hb (hts _ u_311) rfl hK hP hD hwf hok hS hA (by decide) (by decide) rfl (fun _ _ h9 => h9) (by decide) (fun _ => rfl) (fun ad1 => by rw [eM50]; exact al_ar15) rfl rfl d_M_init_107 (fun ad N H hext hNN hn51 hwf hok1 hP hD hS => ?_)
    have hext0 := al_ext hext hext0 hok
    have hok := hok1
    have hl : lv_has ls 1 [(0, .ref (ad 1 j0))] := by rw [hext 1 j0 hj0]; exact hl
    refine W.eq (g2 := F0 m 109 ls [.ref (ad 15 (mN M48 15)), .ref (ad 1 j0)]) (by rw [hext 1 j0 hj0]) ?_
    have hj0 : j0 < N 1 := Nat.lt_of_lt_of_le hj0 (hNN 1)
    obtain ⟨M52, eM52, h⟩ := st_ob h
    refine P_M_28 eM52 hx hb hts hown hK hP hD hwf hS hj0 hn51 hin (hts _ u_1769) d_M_init_109 (fun H locs hP hD hwf hS => ?_)
    refine lv_aload_n hx hb d_M_init_112 rfl (lv_at hl 0 rfl) ?_
    refine lv_sipush (v := 2000) hx hb d_M_init_113 (by decide) ?_
    obtain ⟨g53, h⟩ := gd_ob h
    obtain ⟨M54, eM54, h⟩ := st_ob h
    refine al_newa (k := 15) (atype := .boolean) (a0 := ((2000 : Int32).toNatClampNeg, .inl (fun _ => 0))) eM54 g53 hx hb (hts _ u_311) rfl hK hP hD hwf hok hS hA (by decide) (by decide) rfl (fun _ _ h9 => h9) (by decide) (fun _ => rfl) (fun ad1 => by rw [eM54]; exact al_ar15) rfl rfl d_M_init_116 (fun ad N H hext hNN hn55 hwf hok1 hP hD hS => ?_)
    have hext0 := al_ext hext hext0 hok
    have hok := hok1
    have hl : lv_has ls 1 [(0, .ref (ad 1 j0))] := by rw [hext 1 j0 hj0]; exact hl
    refine W.eq (g2 := F0 m 118 ls [.ref (ad 15 (mN M52 15)), .ref (ad 1 j0)]) (by rw [hext 1 j0 hj0]) ?_
    have hj0 : j0 < N 1 := Nat.lt_of_lt_of_le hj0 (hNN 1)
    obtain ⟨M56, eM56, h⟩ := st_ob h
    refine P_M_29 eM56 hx hb hts hown hK hP hD hwf hS hj0 hn55 hin (hts _ u_1770) d_M_init_118 (fun H locs hP hD hwf hS => ?_)
    refine lv_aload_n hx hb d_M_init_121 rfl (lv_at hl 0 rfl) ?_
    refine lv_sipush (v := 2000) hx hb d_M_init_122 (by decide) ?_
    obtain ⟨g57, h⟩ := gd_ob h
    obtain ⟨M58, eM58, h⟩ := st_ob h
    refine al_newa (k := 13) (atype := .int) (a0 := ((2000 : Int32).toNatClampNeg, .inl (fun _ => 0))) eM58 g57 hx hb (hts _ u_340) rfl hK hP hD hwf hok hS hA (by decide) (by decide) rfl (fun _ _ h9 => h9) (by decide) (fun _ => rfl) (fun ad1 => by rw [eM58]; exact al_ar13) rfl rfl d_M_init_125 (fun ad N H hext hNN hn59 hwf hok1 hP hD hS => ?_)
    have hext0 := al_ext hext hext0 hok
    have hok := hok1
    have hl : lv_has ls 1 [(0, .ref (ad 1 j0))] := by rw [hext 1 j0 hj0]; exact hl
    refine W.eq (g2 := F0 m 127 ls [.ref (ad 13 (mN M56 13)), .ref (ad 1 j0)]) (by rw [hext 1 j0 hj0]) ?_
    have hj0 : j0 < N 1 := Nat.lt_of_lt_of_le hj0 (hNN 1)
    obtain ⟨M60, eM60, h⟩ := st_ob h
    refine P_M_30 eM60 hx hb hts hown hK hP hD hwf hS hj0 hn59 hin (hts _ u_1771) d_M_init_127 (fun H locs hP hD hwf hS => ?_)
    refine lv_aload_n hx hb d_M_init_130 rfl (lv_at hl 0 rfl) ?_
    refine lv_sipush (v := 2000) hx hb d_M_init_131 (by decide) ?_
    obtain ⟨g61, h⟩ := gd_ob h
    obtain ⟨M62, eM62, h⟩ := st_ob h
    refine al_newa (k := 16) (atype := .long) (a0 := ((2000 : Int32).toNatClampNeg, .inr (.inl (fun _ => 0)))) eM62 g61 hx hb (hts _ u_310) rfl hK hP hD hwf hok hS hA (by decide) (by decide) rfl (fun _ _ h9 => h9) (by decide) (fun _ => rfl) (fun ad1 => by rw [eM62]; exact al_ar16) rfl rfl d_M_init_134 (fun ad N H hext hNN hn63 hwf hok1 hP hD hS => ?_)
    have hext0 := al_ext hext hext0 hok
    have hok := hok1
    have hl : lv_has ls 1 [(0, .ref (ad 1 j0))] := by rw [hext 1 j0 hj0]; exact hl
    refine W.eq (g2 := F0 m 136 ls [.ref (ad 16 (mN M60 16)), .ref (ad 1 j0)]) (by rw [hext 1 j0 hj0]) ?_
    have hj0 : j0 < N 1 := Nat.lt_of_lt_of_le hj0 (hNN 1)
    obtain ⟨M64, eM64, h⟩ := st_ob h
    refine P_M_31 eM64 hx hb hts hown hK hP hD hwf hS hj0 hn63 hin (hts _ u_1772) d_M_init_136 (fun H locs hP hD hwf hS => ?_)
    refine lv_aload_n hx hb d_M_init_139 rfl (lv_at hl 0 rfl) ?_
    refine lv_sipush (v := 2000) hx hb d_M_init_140 (by decide) ?_
    obtain ⟨g65, h⟩ := gd_ob h
    obtain ⟨M66, eM66, h⟩ := st_ob h
    refine al_newa (k := 15) (atype := .boolean) (a0 := ((2000 : Int32).toNatClampNeg, .inl (fun _ => 0))) eM66 g65 hx hb (hts _ u_311) rfl hK hP hD hwf hok hS hA (by decide) (by decide) rfl (fun _ _ h9 => h9) (by decide) (fun _ => rfl) (fun ad1 => by rw [eM66]; exact al_ar15) rfl rfl d_M_init_143 (fun ad N H hext hNN hn67 hwf hok1 hP hD hS => ?_)
    have hext0 := al_ext hext hext0 hok
    have hok := hok1
    have hl : lv_has ls 1 [(0, .ref (ad 1 j0))] := by rw [hext 1 j0 hj0]; exact hl
    refine W.eq (g2 := F0 m 145 ls [.ref (ad 15 (mN M64 15)), .ref (ad 1 j0)]) (by rw [hext 1 j0 hj0]) ?_
    have hj0 : j0 < N 1 := Nat.lt_of_lt_of_le hj0 (hNN 1)
    obtain ⟨M68, eM68, h⟩ := st_ob h
    refine P_M_32 eM68 hx hb hts hown hK hP hD hwf hS hj0 hn67 hin (hts _ u_1773) d_M_init_145 (fun H locs hP hD hwf hS => ?_)
    refine lv_aload_n hx hb d_M_init_148 rfl (lv_at hl 0 rfl) ?_
    refine lv_sipush (v := 2000) hx hb d_M_init_149 (by decide) ?_
    obtain ⟨g69, h⟩ := gd_ob h
    obtain ⟨M70, eM70, h⟩ := st_ob h
    refine al_newa (k := 15) (atype := .boolean) (a0 := ((2000 : Int32).toNatClampNeg, .inl (fun _ => 0))) eM70 g69 hx hb (hts _ u_311) rfl hK hP hD hwf hok hS hA (by decide) (by decide) rfl (fun _ _ h9 => h9) (by decide) (fun _ => rfl) (fun ad1 => by rw [eM70]; exact al_ar15) rfl rfl d_M_init_152 (fun ad N H hext hNN hn71 hwf hok1 hP hD hS => ?_)
    have hext0 := al_ext hext hext0 hok
    have hok := hok1
    have hl : lv_has ls 1 [(0, .ref (ad 1 j0))] := by rw [hext 1 j0 hj0]; exact hl
    refine W.eq (g2 := F0 m 154 ls [.ref (ad 15 (mN M68 15)), .ref (ad 1 j0)]) (by rw [hext 1 j0 hj0]) ?_
    have hj0 : j0 < N 1 := Nat.lt_of_lt_of_le hj0 (hNN 1)
    obtain ⟨M72, eM72, h⟩ := st_ob h
    refine P_M_33 eM72 hx hb hts hown hK hP hD hwf hS hj0 hn71 hin (hts _ u_1774) d_M_init_154 (fun H locs hP hD hwf hS => ?_)
    refine lv_aload_n hx hb d_M_init_157 rfl (lv_at hl 0 rfl) ?_
    refine lv_sipush (v := 2000) hx hb d_M_init_158 (by decide) ?_
    obtain ⟨g73, h⟩ := gd_ob h
    obtain ⟨M74, eM74, h⟩ := st_ob h
    refine al_newa (k := 14) (atype := .byte) (a0 := ((2000 : Int32).toNatClampNeg, .inl (fun _ => 0))) eM74 g73 hx hb (hts _ u_309) rfl hK hP hD hwf hok hS hA (by decide) (by decide) rfl (fun _ _ h9 => h9) (by decide) (fun _ => rfl) (fun ad1 => by rw [eM74]; exact al_ar14) rfl rfl d_M_init_161 (fun ad N H hext hNN hn75 hwf hok1 hP hD hS => ?_)
    have hext0 := al_ext hext hext0 hok
    have hok := hok1
    have hl : lv_has ls 1 [(0, .ref (ad 1 j0))] := by rw [hext 1 j0 hj0]; exact hl
    refine W.eq (g2 := F0 m 163 ls [.ref (ad 14 (mN M72 14)), .ref (ad 1 j0)]) (by rw [hext 1 j0 hj0]) ?_
    have hj0 : j0 < N 1 := Nat.lt_of_lt_of_le hj0 (hNN 1)
    obtain ⟨M76, eM76, h⟩ := st_ob h
    refine P_M_35 eM76 hx hb hts hown hK hP hD hwf hS hj0 hn75 hin (hts _ u_1776) d_M_init_163 (fun H locs hP hD hwf hS => ?_)
    refine lv_aload_n hx hb d_M_init_166 rfl (lv_at hl 0 rfl) ?_
    refine lv_bipush (v := 64) hx hb d_M_init_167 (by decide) ?_
    obtain ⟨g77, h⟩ := gd_ob h
    obtain ⟨M78, eM78, h⟩ := st_ob h
    refine al_newa (k := 14) (atype := .byte) (a0 := ((64 : Int32).toNatClampNeg, .inl (fun _ => 0))) eM78 g77 hx hb (hts _ u_309) rfl hK hP hD hwf hok hS hA (by decide) (by decide) rfl (fun _ _ h9 => h9) (by decide) (fun _ => rfl) (fun ad1 => by rw [eM78]; exact al_ar14) rfl rfl d_M_init_169 (fun ad N H hext hNN hn79 hwf hok1 hP hD hS => ?_)
    have hext0 := al_ext hext hext0 hok
    have hok := hok1
    have hl : lv_has ls 1 [(0, .ref (ad 1 j0))] := by rw [hext 1 j0 hj0]; exact hl
    refine W.eq (g2 := F0 m 171 ls [.ref (ad 14 (mN M76 14)), .ref (ad 1 j0)]) (by rw [hext 1 j0 hj0]) ?_
    have hj0 : j0 < N 1 := Nat.lt_of_lt_of_le hj0 (hNN 1)
    obtain ⟨M80, eM80, h⟩ := st_ob h
    refine P_M_36 eM80 hx hb hts hown hK hP hD hwf hS hj0 hn79 hin (hts _ u_1777) d_M_init_171 (fun H locs hP hD hwf hS => ?_)
    refine lv_aload_n hx hb d_M_init_174 rfl (lv_at hl 0 rfl) ?_
    refine lv_sipush (v := 1000) hx hb d_M_init_175 (by decide) ?_
    obtain ⟨g81, h⟩ := gd_ob h
    obtain ⟨M82, eM82, h⟩ := st_ob h
    refine al_newa (k := 16) (atype := .long) (a0 := ((1000 : Int32).toNatClampNeg, .inr (.inl (fun _ => 0)))) eM82 g81 hx hb (hts _ u_310) rfl hK hP hD hwf hok hS hA (by decide) (by decide) rfl (fun _ _ h9 => h9) (by decide) (fun _ => rfl) (fun ad1 => by rw [eM82]; exact al_ar16) rfl rfl d_M_init_178 (fun ad N H hext hNN hn83 hwf hok1 hP hD hS => ?_)
    have hext0 := al_ext hext hext0 hok
    have hok := hok1
    have hl : lv_has ls 1 [(0, .ref (ad 1 j0))] := by rw [hext 1 j0 hj0]; exact hl
    refine W.eq (g2 := F0 m 180 ls [.ref (ad 16 (mN M80 16)), .ref (ad 1 j0)]) (by rw [hext 1 j0 hj0]) ?_
    have hj0 : j0 < N 1 := Nat.lt_of_lt_of_le hj0 (hNN 1)
    obtain ⟨M84, eM84, h⟩ := st_ob h
    refine P_M_39 eM84 hx hb hts hown hK hP hD hwf hS hj0 hn83 hin (hts _ u_1780) d_M_init_180 (fun H locs hP hD hwf hS => ?_)
    refine lv_aload_n hx hb d_M_init_183 rfl (lv_at hl 0 rfl) ?_
    refine lv_bipush (v := 11) hx hb d_M_init_184 (by decide) ?_
    obtain ⟨g85, h⟩ := gd_ob h
    obtain ⟨M86, eM86, h⟩ := st_ob h
    refine al_newa (k := 16) (atype := .long) (a0 := ((11 : Int32).toNatClampNeg, .inr (.inl (fun _ => 0)))) eM86 g85 hx hb (hts _ u_310) rfl hK hP hD hwf hok hS hA (by decide) (by decide) rfl (fun _ _ h9 => h9) (by decide) (fun _ => rfl) (fun ad1 => by rw [eM86]; exact al_ar16) rfl rfl d_M_init_186 (fun ad N H hext hNN hn87 hwf hok1 hP hD hS => ?_)
    have hext0 := al_ext hext hext0 hok
    have hok := hok1
    have hl : lv_has ls 1 [(0, .ref (ad 1 j0))] := by rw [hext 1 j0 hj0]; exact hl
    refine W.eq (g2 := F0 m 188 ls [.ref (ad 16 (mN M84 16)), .ref (ad 1 j0)]) (by rw [hext 1 j0 hj0]) ?_
    have hj0 : j0 < N 1 := Nat.lt_of_lt_of_le hj0 (hNN 1)
    obtain ⟨M88, eM88, h⟩ := st_ob h
    refine P_M_43 eM88 hx hb hts hown hK hP hD hwf hS hj0 hn87 hin (hts _ u_1784) d_M_init_188 (fun H locs hP hD hwf hS => ?_)
    refine lv_aload_n hx hb d_M_init_191 rfl (lv_at hl 0 rfl) ?_
    refine lv_sipush (v := 512) hx hb d_M_init_192 (by decide) ?_
    obtain ⟨g89, h⟩ := gd_ob h
    obtain ⟨M90, eM90, h⟩ := st_ob h
    refine al_newa (k := 14) (atype := .byte) (a0 := ((512 : Int32).toNatClampNeg, .inl (fun _ => 0))) eM90 g89 hx hb (hts _ u_309) rfl hK hP hD hwf hok hS hA (by decide) (by decide) rfl (fun _ _ h9 => h9) (by decide) (fun _ => rfl) (fun ad1 => by rw [eM90]; exact al_ar14) rfl rfl d_M_init_195 (fun ad N H hext hNN hn91 hwf hok1 hP hD hS => ?_)
    have hext0 := al_ext hext hext0 hok
    have hok := hok1
    have hl : lv_has ls 1 [(0, .ref (ad 1 j0))] := by rw [hext 1 j0 hj0]; exact hl
    refine W.eq (g2 := F0 m 197 ls [.ref (ad 14 (mN M88 14)), .ref (ad 1 j0)]) (by rw [hext 1 j0 hj0]) ?_
    have hj0 : j0 < N 1 := Nat.lt_of_lt_of_le hj0 (hNN 1)
    obtain ⟨M92, eM92, h⟩ := st_ob h
    refine P_M_44 eM92 hx hb hts hown hK hP hD hwf hS hj0 hn91 hin (hts _ u_1785) d_M_init_197 (fun H locs hP hD hwf hS => ?_)
    refine lv_aload_n hx hb d_M_init_200 rfl (lv_at hl 0 rfl) ?_
    refine lv_bipush (v := 64) hx hb d_M_init_201 (by decide) ?_
    obtain ⟨g93, h⟩ := gd_ob h
    obtain ⟨M94, eM94, h⟩ := st_ob h
    refine al_newa (k := 14) (atype := .byte) (a0 := ((64 : Int32).toNatClampNeg, .inl (fun _ => 0))) eM94 g93 hx hb (hts _ u_309) rfl hK hP hD hwf hok hS hA (by decide) (by decide) rfl (fun _ _ h9 => h9) (by decide) (fun _ => rfl) (fun ad1 => by rw [eM94]; exact al_ar14) rfl rfl d_M_init_203 (fun ad N H hext hNN hn95 hwf hok1 hP hD hS => ?_)
    have hext0 := al_ext hext hext0 hok
    have hok := hok1
    have hl : lv_has ls 1 [(0, .ref (ad 1 j0))] := by rw [hext 1 j0 hj0]; exact hl
    refine W.eq (g2 := F0 m 205 ls [.ref (ad 14 (mN M92 14)), .ref (ad 1 j0)]) (by rw [hext 1 j0 hj0]) ?_
    have hj0 : j0 < N 1 := Nat.lt_of_lt_of_le hj0 (hNN 1)
    obtain ⟨M96, eM96, h⟩ := st_ob h
    refine P_M_45 eM96 hx hb hts hown hK hP hD hwf hS hj0 hn95 hin (hts _ u_1786) d_M_init_205 (fun H locs hP hD hwf hS => ?_)
    refine lv_aload_n hx hb d_M_init_208 rfl (lv_at hl 0 rfl) ?_
    refine lv_bipush (v := 64) hx hb d_M_init_209 (by decide) ?_
    obtain ⟨g97, h⟩ := gd_ob h
    obtain ⟨M98, eM98, h⟩ := st_ob h
    refine al_newa (k := 14) (atype := .byte) (a0 := ((64 : Int32).toNatClampNeg, .inl (fun _ => 0))) eM98 g97 hx hb (hts _ u_309) rfl hK hP hD hwf hok hS hA (by decide) (by decide) rfl (fun _ _ h9 => h9) (by decide) (fun _ => rfl) (fun ad1 => by rw [eM98]; exact al_ar14) rfl rfl d_M_init_211 (fun ad N H hext hNN hn99 hwf hok1 hP hD hS => ?_)
    have hext0 := al_ext hext hext0 hok
    have hok := hok1
    have hl : lv_has ls 1 [(0, .ref (ad 1 j0))] := by rw [hext 1 j0 hj0]; exact hl
    refine W.eq (g2 := F0 m 213 ls [.ref (ad 14 (mN M96 14)), .ref (ad 1 j0)]) (by rw [hext 1 j0 hj0]) ?_
    have hj0 : j0 < N 1 := Nat.lt_of_lt_of_le hj0 (hNN 1)
    obtain ⟨M100, eM100, h⟩ := st_ob h
    refine P_M_46 eM100 hx hb hts hown hK hP hD hwf hS hj0 hn99 hin (hts _ u_1787) d_M_init_213 (fun H locs hP hD hwf hS => ?_)
    refine lv_aload_n hx hb d_M_init_216 rfl (lv_at hl 0 rfl) ?_
    refine lv_sipush (v := 30081) hx hb d_M_init_217 (by decide) ?_
    obtain ⟨g101, h⟩ := gd_ob h
    obtain ⟨M102, eM102, h⟩ := st_ob h
    refine al_newa (k := 14) (atype := .byte) (a0 := ((30081 : Int32).toNatClampNeg, .inl (fun _ => 0))) eM102 g101 hx hb (hts _ u_309) rfl hK hP hD hwf hok hS hA (by decide) (by decide) rfl (fun _ _ h9 => h9) (by decide) (fun _ => rfl) (fun ad1 => by rw [eM102]; exact al_ar14) rfl rfl d_M_init_220 (fun ad N H hext hNN hn103 hwf hok1 hP hD hS => ?_)
    have hext0 := al_ext hext hext0 hok
    have hok := hok1
    have hl : lv_has ls 1 [(0, .ref (ad 1 j0))] := by rw [hext 1 j0 hj0]; exact hl
    refine W.eq (g2 := F0 m 222 ls [.ref (ad 14 (mN M100 14)), .ref (ad 1 j0)]) (by rw [hext 1 j0 hj0]) ?_
    have hj0 : j0 < N 1 := Nat.lt_of_lt_of_le hj0 (hNN 1)
    obtain ⟨M104, eM104, h⟩ := st_ob h
    refine P_M_47 eM104 hx hb hts hown hK hP hD hwf hS hj0 hn103 hin (hts _ u_1788) d_M_init_222 (fun H locs hP hD hwf hS => ?_)
    refine lv_aload_n hx hb d_M_init_225 rfl (lv_at hl 0 rfl) ?_
    refine lv_sipush (v := 30081) hx hb d_M_init_226 (by decide) ?_
    obtain ⟨g105, h⟩ := gd_ob h
    obtain ⟨M106, eM106, h⟩ := st_ob h
    refine al_newa (k := 13) (atype := .int) (a0 := ((30081 : Int32).toNatClampNeg, .inl (fun _ => 0))) eM106 g105 hx hb (hts _ u_340) rfl hK hP hD hwf hok hS hA (by decide) (by decide) rfl (fun _ _ h9 => h9) (by decide) (fun _ => rfl) (fun ad1 => by rw [eM106]; exact al_ar13) rfl rfl d_M_init_229 (fun ad N H hext hNN hn107 hwf hok1 hP hD hS => ?_)
    have hext0 := al_ext hext hext0 hok
    have hok := hok1
    have hl : lv_has ls 1 [(0, .ref (ad 1 j0))] := by rw [hext 1 j0 hj0]; exact hl
    refine W.eq (g2 := F0 m 231 ls [.ref (ad 13 (mN M104 13)), .ref (ad 1 j0)]) (by rw [hext 1 j0 hj0]) ?_
    have hj0 : j0 < N 1 := Nat.lt_of_lt_of_le hj0 (hNN 1)
    obtain ⟨M108, eM108, h⟩ := st_ob h
    refine P_M_48 eM108 hx hb hts hown hK hP hD hwf hS hj0 hn107 hin (hts _ u_1789) d_M_init_231 (fun H locs hP hD hwf hS => ?_)
    refine lv_aload_n hx hb d_M_init_234 rfl (lv_at hl 0 rfl) ?_
    refine lv_sipush (v := 30081) hx hb d_M_init_235 (by decide) ?_
    obtain ⟨g109, h⟩ := gd_ob h
    obtain ⟨M110, eM110, h⟩ := st_ob h
    refine al_newa (k := 13) (atype := .int) (a0 := ((30081 : Int32).toNatClampNeg, .inl (fun _ => 0))) eM110 g109 hx hb (hts _ u_340) rfl hK hP hD hwf hok hS hA (by decide) (by decide) rfl (fun _ _ h9 => h9) (by decide) (fun _ => rfl) (fun ad1 => by rw [eM110]; exact al_ar13) rfl rfl d_M_init_238 (fun ad N H hext hNN hn111 hwf hok1 hP hD hS => ?_)
    have hext0 := al_ext hext hext0 hok
    have hok := hok1
    have hl : lv_has ls 1 [(0, .ref (ad 1 j0))] := by rw [hext 1 j0 hj0]; exact hl
    refine W.eq (g2 := F0 m 240 ls [.ref (ad 13 (mN M108 13)), .ref (ad 1 j0)]) (by rw [hext 1 j0 hj0]) ?_
    have hj0 : j0 < N 1 := Nat.lt_of_lt_of_le hj0 (hNN 1)
    obtain ⟨M112, eM112, h⟩ := st_ob h
    refine P_M_49 eM112 hx hb hts hown hK hP hD hwf hS hj0 hn111 hin (hts _ u_1790) d_M_init_240 (fun H locs hP hD hwf hS => ?_)
    refine lv_aload_n hx hb d_M_init_243 rfl (lv_at hl 0 rfl) ?_
    refine lv_sipush (v := 30081) hx hb d_M_init_244 (by decide) ?_
    obtain ⟨g113, h⟩ := gd_ob h
    obtain ⟨M114, eM114, h⟩ := st_ob h
    refine al_newa (k := 13) (atype := .int) (a0 := ((30081 : Int32).toNatClampNeg, .inl (fun _ => 0))) eM114 g113 hx hb (hts _ u_340) rfl hK hP hD hwf hok hS hA (by decide) (by decide) rfl (fun _ _ h9 => h9) (by decide) (fun _ => rfl) (fun ad1 => by rw [eM114]; exact al_ar13) rfl rfl d_M_init_247 (fun ad N H hext hNN hn115 hwf hok1 hP hD hS => ?_)
    have hext0 := al_ext hext hext0 hok
    have hok := hok1
    have hl : lv_has ls 1 [(0, .ref (ad 1 j0))] := by rw [hext 1 j0 hj0]; exact hl
    refine W.eq (g2 := F0 m 249 ls [.ref (ad 13 (mN M112 13)), .ref (ad 1 j0)]) (by rw [hext 1 j0 hj0]) ?_
    have hj0 : j0 < N 1 := Nat.lt_of_lt_of_le hj0 (hNN 1)
    obtain ⟨M116, eM116, h⟩ := st_ob h
    refine P_M_50 eM116 hx hb hts hown hK hP hD hwf hS hj0 hn115 hin (hts _ u_1791) d_M_init_249 (fun H locs hP hD hwf hS => ?_)
    refine lv_aload_n hx hb d_M_init_252 rfl (lv_at hl 0 rfl) ?_
    refine lv_sipush (v := 30081) hx hb d_M_init_253 (by decide) ?_
    obtain ⟨g117, h⟩ := gd_ob h
    obtain ⟨M118, eM118, h⟩ := st_ob h
    refine al_newa (k := 13) (atype := .int) (a0 := ((30081 : Int32).toNatClampNeg, .inl (fun _ => 0))) eM118 g117 hx hb (hts _ u_340) rfl hK hP hD hwf hok hS hA (by decide) (by decide) rfl (fun _ _ h9 => h9) (by decide) (fun _ => rfl) (fun ad1 => by rw [eM118]; exact al_ar13) rfl rfl d_M_init_256 (fun ad N H hext hNN hn119 hwf hok1 hP hD hS => ?_)
    have hext0 := al_ext hext hext0 hok
    have hok := hok1
    have hl : lv_has ls 1 [(0, .ref (ad 1 j0))] := by rw [hext 1 j0 hj0]; exact hl
    refine W.eq (g2 := F0 m 258 ls [.ref (ad 13 (mN M116 13)), .ref (ad 1 j0)]) (by rw [hext 1 j0 hj0]) ?_
    have hj0 : j0 < N 1 := Nat.lt_of_lt_of_le hj0 (hNN 1)
    obtain ⟨M120, eM120, h⟩ := st_ob h
    refine P_M_51 eM120 hx hb hts hown hK hP hD hwf hS hj0 hn119 hin (hts _ u_1792) d_M_init_258 (fun H locs hP hD hwf hS => ?_)
    refine lv_aload_n hx hb d_M_init_261 rfl (lv_at hl 0 rfl) ?_
    refine lv_sipush (v := 30081) hx hb d_M_init_262 (by decide) ?_
    obtain ⟨g121, h⟩ := gd_ob h
    obtain ⟨M122, eM122, h⟩ := st_ob h
    refine al_newa (k := 16) (atype := .long) (a0 := ((30081 : Int32).toNatClampNeg, .inr (.inl (fun _ => 0)))) eM122 g121 hx hb (hts _ u_310) rfl hK hP hD hwf hok hS hA (by decide) (by decide) rfl (fun _ _ h9 => h9) (by decide) (fun _ => rfl) (fun ad1 => by rw [eM122]; exact al_ar16) rfl rfl d_M_init_265 (fun ad N H hext hNN hn123 hwf hok1 hP hD hS => ?_)
    have hext0 := al_ext hext hext0 hok
    have hok := hok1
    have hl : lv_has ls 1 [(0, .ref (ad 1 j0))] := by rw [hext 1 j0 hj0]; exact hl
    refine W.eq (g2 := F0 m 267 ls [.ref (ad 16 (mN M120 16)), .ref (ad 1 j0)]) (by rw [hext 1 j0 hj0]) ?_
    have hj0 : j0 < N 1 := Nat.lt_of_lt_of_le hj0 (hNN 1)
    obtain ⟨M124, eM124, h⟩ := st_ob h
    refine P_M_52 eM124 hx hb hts hown hK hP hD hwf hS hj0 hn123 hin (hts _ u_1793) d_M_init_267 (fun H locs hP hD hwf hS => ?_)
    refine lv_aload_n hx hb d_M_init_270 rfl (lv_at hl 0 rfl) ?_
    refine lv_sipush (v := 30081) hx hb d_M_init_271 (by decide) ?_
    obtain ⟨g125, h⟩ := gd_ob h
    obtain ⟨M126, eM126, h⟩ := st_ob h
    refine al_newa (k := 16) (atype := .long) (a0 := ((30081 : Int32).toNatClampNeg, .inr (.inl (fun _ => 0)))) eM126 g125 hx hb (hts _ u_310) rfl hK hP hD hwf hok hS hA (by decide) (by decide) rfl (fun _ _ h9 => h9) (by decide) (fun _ => rfl) (fun ad1 => by rw [eM126]; exact al_ar16) rfl rfl d_M_init_274 (fun ad N H hext hNN hn127 hwf hok1 hP hD hS => ?_)
    have hext0 := al_ext hext hext0 hok
    have hok := hok1
    have hl : lv_has ls 1 [(0, .ref (ad 1 j0))] := by rw [hext 1 j0 hj0]; exact hl
    refine W.eq (g2 := F0 m 276 ls [.ref (ad 16 (mN M124 16)), .ref (ad 1 j0)]) (by rw [hext 1 j0 hj0]) ?_
    have hj0 : j0 < N 1 := Nat.lt_of_lt_of_le hj0 (hNN 1)
    obtain ⟨M128, eM128, h⟩ := st_ob h
    refine P_M_53 eM128 hx hb hts hown hK hP hD hwf hS hj0 hn127 hin (hts _ u_1794) d_M_init_276 (fun H locs hP hD hwf hS => ?_)
    refine lv_aload_n hx hb d_M_init_279 rfl (lv_at hl 0 rfl) ?_
    refine lv_sipush (v := 30081) hx hb d_M_init_280 (by decide) ?_
    obtain ⟨g129, h⟩ := gd_ob h
    obtain ⟨M130, eM130, h⟩ := st_ob h
    refine al_newa (k := 16) (atype := .long) (a0 := ((30081 : Int32).toNatClampNeg, .inr (.inl (fun _ => 0)))) eM130 g129 hx hb (hts _ u_310) rfl hK hP hD hwf hok hS hA (by decide) (by decide) rfl (fun _ _ h9 => h9) (by decide) (fun _ => rfl) (fun ad1 => by rw [eM130]; exact al_ar16) rfl rfl d_M_init_283 (fun ad N H hext hNN hn131 hwf hok1 hP hD hS => ?_)
    have hext0 := al_ext hext hext0 hok
    have hok := hok1
    have hl : lv_has ls 1 [(0, .ref (ad 1 j0))] := by rw [hext 1 j0 hj0]; exact hl
    refine W.eq (g2 := F0 m 285 ls [.ref (ad 16 (mN M128 16)), .ref (ad 1 j0)]) (by rw [hext 1 j0 hj0]) ?_
    have hj0 : j0 < N 1 := Nat.lt_of_lt_of_le hj0 (hNN 1)
    obtain ⟨M132, eM132, h⟩ := st_ob h
    refine P_M_54 eM132 hx hb hts hown hK hP hD hwf hS hj0 hn131 hin (hts _ u_1795) d_M_init_285 (fun H locs hP hD hwf hS => ?_)
    refine lv_aload_n hx hb d_M_init_288 rfl (lv_at hl 0 rfl) ?_
    refine lv_sipush (v := 30081) hx hb d_M_init_289 (by decide) ?_
    obtain ⟨g133, h⟩ := gd_ob h
    obtain ⟨M134, eM134, h⟩ := st_ob h
    refine al_newa (k := 16) (atype := .long) (a0 := ((30081 : Int32).toNatClampNeg, .inr (.inl (fun _ => 0)))) eM134 g133 hx hb (hts _ u_310) rfl hK hP hD hwf hok hS hA (by decide) (by decide) rfl (fun _ _ h9 => h9) (by decide) (fun _ => rfl) (fun ad1 => by rw [eM134]; exact al_ar16) rfl rfl d_M_init_292 (fun ad N H hext hNN hn135 hwf hok1 hP hD hS => ?_)
    have hext0 := al_ext hext hext0 hok
    have hok := hok1
    have hl : lv_has ls 1 [(0, .ref (ad 1 j0))] := by rw [hext 1 j0 hj0]; exact hl
    refine W.eq (g2 := F0 m 294 ls [.ref (ad 16 (mN M132 16)), .ref (ad 1 j0)]) (by rw [hext 1 j0 hj0]) ?_
    have hj0 : j0 < N 1 := Nat.lt_of_lt_of_le hj0 (hNN 1)
    obtain ⟨M136, eM136, h⟩ := st_ob h
    refine P_M_55 eM136 hx hb hts hown hK hP hD hwf hS hj0 hn135 hin (hts _ u_1796) d_M_init_294 (fun H locs hP hD hwf hS => ?_)
    refine lv_aload_n hx hb d_M_init_297 rfl (lv_at hl 0 rfl) ?_
    refine lv_sipush (v := 30081) hx hb d_M_init_298 (by decide) ?_
    obtain ⟨g137, h⟩ := gd_ob h
    obtain ⟨M138, eM138, h⟩ := st_ob h
    refine al_newa (k := 16) (atype := .long) (a0 := ((30081 : Int32).toNatClampNeg, .inr (.inl (fun _ => 0)))) eM138 g137 hx hb (hts _ u_310) rfl hK hP hD hwf hok hS hA (by decide) (by decide) rfl (fun _ _ h9 => h9) (by decide) (fun _ => rfl) (fun ad1 => by rw [eM138]; exact al_ar16) rfl rfl d_M_init_301 (fun ad N H hext hNN hn139 hwf hok1 hP hD hS => ?_)
    have hext0 := al_ext hext hext0 hok
    have hok := hok1
    have hl : lv_has ls 1 [(0, .ref (ad 1 j0))] := by rw [hext 1 j0 hj0]; exact hl
    refine W.eq (g2 := F0 m 303 ls [.ref (ad 16 (mN M136 16)), .ref (ad 1 j0)]) (by rw [hext 1 j0 hj0]) ?_
    have hj0 : j0 < N 1 := Nat.lt_of_lt_of_le hj0 (hNN 1)
    obtain ⟨M140, eM140, h⟩ := st_ob h
    refine P_M_56 eM140 hx hb hts hown hK hP hD hwf hS hj0 hn139 hin (hts _ u_1797) d_M_init_303 (fun H locs hP hD hwf hS => ?_)
    refine lv_aload_n hx hb d_M_init_306 rfl (lv_at hl 0 rfl) ?_
    refine lv_sipush (v := 30081) hx hb d_M_init_307 (by decide) ?_
    obtain ⟨g141, h⟩ := gd_ob h
    obtain ⟨M142, eM142, h⟩ := st_ob h
    refine al_newa (k := 16) (atype := .long) (a0 := ((30081 : Int32).toNatClampNeg, .inr (.inl (fun _ => 0)))) eM142 g141 hx hb (hts _ u_310) rfl hK hP hD hwf hok hS hA (by decide) (by decide) rfl (fun _ _ h9 => h9) (by decide) (fun _ => rfl) (fun ad1 => by rw [eM142]; exact al_ar16) rfl rfl d_M_init_310 (fun ad N H hext hNN hn143 hwf hok1 hP hD hS => ?_)
    have hext0 := al_ext hext hext0 hok
    have hok := hok1
    have hl : lv_has ls 1 [(0, .ref (ad 1 j0))] := by rw [hext 1 j0 hj0]; exact hl
    refine W.eq (g2 := F0 m 312 ls [.ref (ad 16 (mN M140 16)), .ref (ad 1 j0)]) (by rw [hext 1 j0 hj0]) ?_
    have hj0 : j0 < N 1 := Nat.lt_of_lt_of_le hj0 (hNN 1)
    obtain ⟨M144, eM144, h⟩ := st_ob h
    refine P_M_57 eM144 hx hb hts hown hK hP hD hwf hS hj0 hn143 hin (hts _ u_1798) d_M_init_312 (fun H locs hP hD hwf hS => ?_)
    refine lv_aload_n hx hb d_M_init_315 rfl (lv_at hl 0 rfl) ?_
    refine lv_sipush (v := 25664) hx hb d_M_init_316 (by decide) ?_
    obtain ⟨g145, h⟩ := gd_ob h
    obtain ⟨M146, eM146, h⟩ := st_ob h
    refine al_newa (k := 13) (atype := .int) (a0 := ((25664 : Int32).toNatClampNeg, .inl (fun _ => 0))) eM146 g145 hx hb (hts _ u_340) rfl hK hP hD hwf hok hS hA (by decide) (by decide) rfl (fun _ _ h9 => h9) (by decide) (fun _ => rfl) (fun ad1 => by rw [eM146]; exact al_ar13) rfl rfl d_M_init_319 (fun ad N H hext hNN hn147 hwf hok1 hP hD hS => ?_)
    have hext0 := al_ext hext hext0 hok
    have hok := hok1
    have hl : lv_has ls 1 [(0, .ref (ad 1 j0))] := by rw [hext 1 j0 hj0]; exact hl
    refine W.eq (g2 := F0 m 321 ls [.ref (ad 13 (mN M144 13)), .ref (ad 1 j0)]) (by rw [hext 1 j0 hj0]) ?_
    have hj0 : j0 < N 1 := Nat.lt_of_lt_of_le hj0 (hNN 1)
    obtain ⟨M148, eM148, h⟩ := st_ob h
    refine P_M_58 eM148 hx hb hts hown hK hP hD hwf hS hj0 hn147 hin (hts _ u_1799) d_M_init_321 (fun H locs hP hD hwf hS => ?_)
    refine lv_aload_n hx hb d_M_init_324 rfl (lv_at hl 0 rfl) ?_
    refine lv_sipush (v := 201) hx hb d_M_init_325 (by decide) ?_
    obtain ⟨g149, h⟩ := gd_ob h
    obtain ⟨M150, eM150, h⟩ := st_ob h
    refine al_newa (k := 13) (atype := .int) (a0 := ((201 : Int32).toNatClampNeg, .inl (fun _ => 0))) eM150 g149 hx hb (hts _ u_340) rfl hK hP hD hwf hok hS hA (by decide) (by decide) rfl (fun _ _ h9 => h9) (by decide) (fun _ => rfl) (fun ad1 => by rw [eM150]; exact al_ar13) rfl rfl d_M_init_328 (fun ad N H hext hNN hn151 hwf hok1 hP hD hS => ?_)
    have hext0 := al_ext hext hext0 hok
    have hok := hok1
    have hl : lv_has ls 1 [(0, .ref (ad 1 j0))] := by rw [hext 1 j0 hj0]; exact hl
    refine W.eq (g2 := F0 m 330 ls [.ref (ad 13 (mN M148 13)), .ref (ad 1 j0)]) (by rw [hext 1 j0 hj0]) ?_
    have hj0 : j0 < N 1 := Nat.lt_of_lt_of_le hj0 (hNN 1)
    obtain ⟨M152, eM152, h⟩ := st_ob h
    refine P_M_60 eM152 hx hb hts hown hK hP hD hwf hS hj0 hn151 hin (hts _ u_1801) d_M_init_330 (fun H locs hP hD hwf hS => ?_)
    refine lv_aload_n hx hb d_M_init_333 rfl (lv_at hl 0 rfl) ?_
    refine lv_sipush (v := 201) hx hb d_M_init_334 (by decide) ?_
    obtain ⟨g153, h⟩ := gd_ob h
    obtain ⟨M154, eM154, h⟩ := st_ob h
    refine al_newa (k := 13) (atype := .int) (a0 := ((201 : Int32).toNatClampNeg, .inl (fun _ => 0))) eM154 g153 hx hb (hts _ u_340) rfl hK hP hD hwf hok hS hA (by decide) (by decide) rfl (fun _ _ h9 => h9) (by decide) (fun _ => rfl) (fun ad1 => by rw [eM154]; exact al_ar13) rfl rfl d_M_init_337 (fun ad N H hext hNN hn155 hwf hok1 hP hD hS => ?_)
    have hext0 := al_ext hext hext0 hok
    have hok := hok1
    have hl : lv_has ls 1 [(0, .ref (ad 1 j0))] := by rw [hext 1 j0 hj0]; exact hl
    refine W.eq (g2 := F0 m 339 ls [.ref (ad 13 (mN M152 13)), .ref (ad 1 j0)]) (by rw [hext 1 j0 hj0]) ?_
    have hj0 : j0 < N 1 := Nat.lt_of_lt_of_le hj0 (hNN 1)
    obtain ⟨M156, eM156, h⟩ := st_ob h
    refine P_M_61 eM156 hx hb hts hown hK hP hD hwf hS hj0 hn155 hin (hts _ u_1802) d_M_init_339 (fun H locs hP hD hwf hS => ?_)
    refine lv_aload_n hx hb d_M_init_342 rfl (lv_at hl 0 rfl) ?_
    refine lv_sipush (v := 200) hx hb d_M_init_343 (by decide) ?_
    obtain ⟨g157, h⟩ := gd_ob h
    obtain ⟨M158, eM158, h⟩ := st_ob h
    refine al_newa (k := 13) (atype := .int) (a0 := ((200 : Int32).toNatClampNeg, .inl (fun _ => 0))) eM158 g157 hx hb (hts _ u_340) rfl hK hP hD hwf hok hS hA (by decide) (by decide) rfl (fun _ _ h9 => h9) (by decide) (fun _ => rfl) (fun ad1 => by rw [eM158]; exact al_ar13) rfl rfl d_M_init_346 (fun ad N H hext hNN hn159 hwf hok1 hP hD hS => ?_)
    have hext0 := al_ext hext hext0 hok
    have hok := hok1
    have hl : lv_has ls 1 [(0, .ref (ad 1 j0))] := by rw [hext 1 j0 hj0]; exact hl
    refine W.eq (g2 := F0 m 348 ls [.ref (ad 13 (mN M156 13)), .ref (ad 1 j0)]) (by rw [hext 1 j0 hj0]) ?_
    have hj0 : j0 < N 1 := Nat.lt_of_lt_of_le hj0 (hNN 1)
    obtain ⟨M160, eM160, h⟩ := st_ob h
    refine P_M_63 eM160 hx hb hts hown hK hP hD hwf hS hj0 hn159 hin (hts _ u_1804) d_M_init_348 (fun H locs hP hD hwf hS => ?_)
    refine lv_aload_n hx hb d_M_init_351 rfl (lv_at hl 0 rfl) ?_
    refine lv_sipush (v := 200) hx hb d_M_init_352 (by decide) ?_
    obtain ⟨g161, h⟩ := gd_ob h
    obtain ⟨M162, eM162, h⟩ := st_ob h
    refine al_newa (k := 13) (atype := .int) (a0 := ((200 : Int32).toNatClampNeg, .inl (fun _ => 0))) eM162 g161 hx hb (hts _ u_340) rfl hK hP hD hwf hok hS hA (by decide) (by decide) rfl (fun _ _ h9 => h9) (by decide) (fun _ => rfl) (fun ad1 => by rw [eM162]; exact al_ar13) rfl rfl d_M_init_355 (fun ad N H hext hNN hn163 hwf hok1 hP hD hS => ?_)
    have hext0 := al_ext hext hext0 hok
    have hok := hok1
    have hl : lv_has ls 1 [(0, .ref (ad 1 j0))] := by rw [hext 1 j0 hj0]; exact hl
    refine W.eq (g2 := F0 m 357 ls [.ref (ad 13 (mN M160 13)), .ref (ad 1 j0)]) (by rw [hext 1 j0 hj0]) ?_
    have hj0 : j0 < N 1 := Nat.lt_of_lt_of_le hj0 (hNN 1)
    obtain ⟨M164, eM164, h⟩ := st_ob h
    refine P_M_64 eM164 hx hb hts hown hK hP hD hwf hS hj0 hn163 hin (hts _ u_1805) d_M_init_357 (fun H locs hP hD hwf hS => ?_)
    refine lv_aload_n hx hb d_M_init_360 rfl (lv_at hl 0 rfl) ?_
    refine lv_bipush (v := 75) hx hb d_M_init_361 (by decide) ?_
    obtain ⟨g165, h⟩ := gd_ob h
    obtain ⟨M166, eM166, h⟩ := st_ob h
    refine al_newa (k := 13) (atype := .int) (a0 := ((75 : Int32).toNatClampNeg, .inl (fun _ => 0))) eM166 g165 hx hb (hts _ u_340) rfl hK hP hD hwf hok hS hA (by decide) (by decide) rfl (fun _ _ h9 => h9) (by decide) (fun _ => rfl) (fun ad1 => by rw [eM166]; exact al_ar13) rfl rfl d_M_init_363 (fun ad N H hext hNN hn167 hwf hok1 hP hD hS => ?_)
    have hext0 := al_ext hext hext0 hok
    have hok := hok1
    have hl : lv_has ls 1 [(0, .ref (ad 1 j0))] := by rw [hext 1 j0 hj0]; exact hl
    refine W.eq (g2 := F0 m 365 ls [.ref (ad 13 (mN M164 13)), .ref (ad 1 j0)]) (by rw [hext 1 j0 hj0]) ?_
    have hj0 : j0 < N 1 := Nat.lt_of_lt_of_le hj0 (hNN 1)
    obtain ⟨M168, eM168, h⟩ := st_ob h
    refine P_M_66 eM168 hx hb hts hown hK hP hD hwf hS hj0 hn167 hin (hts _ u_1807) d_M_init_365 (fun H locs hP hD hwf hS => ?_)
    refine lv_aload_n hx hb d_M_init_368 rfl (lv_at hl 0 rfl) ?_
    refine lv_bipush (v := 75) hx hb d_M_init_369 (by decide) ?_
    obtain ⟨g169, h⟩ := gd_ob h
    obtain ⟨M170, eM170, h⟩ := st_ob h
    refine al_newa (k := 13) (atype := .int) (a0 := ((75 : Int32).toNatClampNeg, .inl (fun _ => 0))) eM170 g169 hx hb (hts _ u_340) rfl hK hP hD hwf hok hS hA (by decide) (by decide) rfl (fun _ _ h9 => h9) (by decide) (fun _ => rfl) (fun ad1 => by rw [eM170]; exact al_ar13) rfl rfl d_M_init_371 (fun ad N H hext hNN hn171 hwf hok1 hP hD hS => ?_)
    have hext0 := al_ext hext hext0 hok
    have hok := hok1
    have hl : lv_has ls 1 [(0, .ref (ad 1 j0))] := by rw [hext 1 j0 hj0]; exact hl
    refine W.eq (g2 := F0 m 373 ls [.ref (ad 13 (mN M168 13)), .ref (ad 1 j0)]) (by rw [hext 1 j0 hj0]) ?_
    have hj0 : j0 < N 1 := Nat.lt_of_lt_of_le hj0 (hNN 1)
    obtain ⟨M172, eM172, h⟩ := st_ob h
    refine P_M_67 eM172 hx hb hts hown hK hP hD hwf hS hj0 hn171 hin (hts _ u_1808) d_M_init_373 (fun H locs hP hD hwf hS => ?_)
    refine lv_aload_n hx hb d_M_init_376 rfl (lv_at hl 0 rfl) ?_
    refine lv_sipush (v := 2001) hx hb d_M_init_377 (by decide) ?_
    obtain ⟨g173, h⟩ := gd_ob h
    obtain ⟨M174, eM174, h⟩ := st_ob h
    refine al_newa (k := 15) (atype := .boolean) (a0 := ((2001 : Int32).toNatClampNeg, .inl (fun _ => 0))) eM174 g173 hx hb (hts _ u_311) rfl hK hP hD hwf hok hS hA (by decide) (by decide) rfl (fun _ _ h9 => h9) (by decide) (fun _ => rfl) (fun ad1 => by rw [eM174]; exact al_ar15) rfl rfl d_M_init_380 (fun ad N H hext hNN hn175 hwf hok1 hP hD hS => ?_)
    have hext0 := al_ext hext hext0 hok
    have hok := hok1
    have hl : lv_has ls 1 [(0, .ref (ad 1 j0))] := by rw [hext 1 j0 hj0]; exact hl
    refine W.eq (g2 := F0 m 382 ls [.ref (ad 15 (mN M172 15)), .ref (ad 1 j0)]) (by rw [hext 1 j0 hj0]) ?_
    have hj0 : j0 < N 1 := Nat.lt_of_lt_of_le hj0 (hNN 1)
    obtain ⟨M176, eM176, h⟩ := st_ob h
    refine P_M_71 eM176 hx hb hts hown hK hP hD hwf hS hj0 hn175 hin (hts _ u_1812) d_M_init_382 (fun H locs hP hD hwf hS => ?_)
    refine lv_aload_n hx hb d_M_init_385 rfl (lv_at hl 0 rfl) ?_
    refine lv_sipush (v := 2000) hx hb d_M_init_386 (by decide) ?_
    obtain ⟨g177, h⟩ := gd_ob h
    obtain ⟨M178, eM178, h⟩ := st_ob h
    refine al_newa (k := 16) (atype := .long) (a0 := ((2000 : Int32).toNatClampNeg, .inr (.inl (fun _ => 0)))) eM178 g177 hx hb (hts _ u_310) rfl hK hP hD hwf hok hS hA (by decide) (by decide) rfl (fun _ _ h9 => h9) (by decide) (fun _ => rfl) (fun ad1 => by rw [eM178]; exact al_ar16) rfl rfl d_M_init_389 (fun ad N H hext hNN hn179 hwf hok1 hP hD hS => ?_)
    have hext0 := al_ext hext hext0 hok
    have hok := hok1
    have hl : lv_has ls 1 [(0, .ref (ad 1 j0))] := by rw [hext 1 j0 hj0]; exact hl
    refine W.eq (g2 := F0 m 391 ls [.ref (ad 16 (mN M176 16)), .ref (ad 1 j0)]) (by rw [hext 1 j0 hj0]) ?_
    have hj0 : j0 < N 1 := Nat.lt_of_lt_of_le hj0 (hNN 1)
    obtain ⟨M180, eM180, h⟩ := st_ob h
    refine P_M_72 eM180 hx hb hts hown hK hP hD hwf hS hj0 hn179 hin (hts _ u_1813) d_M_init_391 (fun H locs hP hD hwf hS => ?_)
    refine lv_aload_n hx hb d_M_init_394 rfl (lv_at hl 0 rfl) ?_
    refine lv_sipush (v := 2001) hx hb d_M_init_395 (by decide) ?_
    obtain ⟨g181, h⟩ := gd_ob h
    obtain ⟨M182, eM182, h⟩ := st_ob h
    refine al_newa (k := 13) (atype := .int) (a0 := ((2001 : Int32).toNatClampNeg, .inl (fun _ => 0))) eM182 g181 hx hb (hts _ u_340) rfl hK hP hD hwf hok hS hA (by decide) (by decide) rfl (fun _ _ h9 => h9) (by decide) (fun _ => rfl) (fun ad1 => by rw [eM182]; exact al_ar13) rfl rfl d_M_init_398 (fun ad N H hext hNN hn183 hwf hok1 hP hD hS => ?_)
    have hext0 := al_ext hext hext0 hok
    have hok := hok1
    have hl : lv_has ls 1 [(0, .ref (ad 1 j0))] := by rw [hext 1 j0 hj0]; exact hl
    refine W.eq (g2 := F0 m 400 ls [.ref (ad 13 (mN M180 13)), .ref (ad 1 j0)]) (by rw [hext 1 j0 hj0]) ?_
    have hj0 : j0 < N 1 := Nat.lt_of_lt_of_le hj0 (hNN 1)
    obtain ⟨M184, eM184, h⟩ := st_ob h
    refine P_M_73 eM184 hx hb hts hown hK hP hD hwf hS hj0 hn183 hin (hts _ u_1814) d_M_init_400 (fun H locs hP hD hwf hS => ?_)
    exact al_retv h hx hb hr hlocks hwf hok hext0 hP hK hD hS d_M_init_403
  rw [hN9] at hcs
  exact hcs
