theorem d_Explorer_clear_0 : decode prog_5_method_2_code 0 = .ok (.aload_n 0, 1) := by decide +kernel
theorem d_Explorer_clear_1 : decode prog_5_method_2_code 1 = .ok (.iconst 0, 1) := by decide +kernel
theorem d_Explorer_clear_2 : decode prog_5_method_2_code 2 = .ok (.putfield 49, 3) := by decide +kernel
theorem u_555 : Cond.fieldLink "FilterGuard$Explorer" 49 "FilterGuard$Explorer" "waitingCount" "I" ∈ fg_g := fg_in (List.mem_of_getElem? (i := 555) (by decide +kernel)) rfl
theorem p_Explorer_9 {p : Program} {l : Launch} {e : Env} {R : Room} {s : Jvm.State} {m : MethodId} {args : Array Value} {below : List Frame} {meth : Method} {c : Code} {H : Heap} {locs : List Loc} {cells slots : Nat} {Q : Jvm.State → Prop} {cc : ByteArray} {pc : Nat} {ls : Array Slot} {rest : List Value} {D : va_G} {A : Nat → Prop} {H0 : Heap} {ad : Nat → Nat → Nat} {ca : Nat → ClassId} {M M1 : me_M} {N : Nat → Nat} {own : String} {index j : Nat} {v : Int32} (he : M1 = wI M 4 j 9 v) (hexec : p.tables.exec = Jvm.exec) (hb : c.code = cc) (hts : ∀ w ∈ fg_g, w.before args s = true) (hown : s.vm.findClass own = some m.cls) (hK : va_K D classes (me_T ca) s) (hP : va_P D classes (me_W ad ca M) H) (hD : va_D A (me_W ad ca M)) (hwf : me_wf N M) (hS : va_S A H0 H locs) (hj : j < N 4) (hlink : (Cond.fieldLink own index "FilterGuard$Explorer" "waitingCount" "I").before args s = true) (hdg : decode cc pc = .ok (.putfield index, 3)) (kk : ∀ (H1 : Heap) (locs1 : List Loc), va_P D classes (me_W ad ca M1) H1 → va_D A (me_W ad ca M1) → me_wf N M1 → va_S A H0 H1 locs1 → W p l e R s m args below meth c H1 locs1 cells slots Q (F0 m (pc + 3) ls rest)) : W p l e R s m args below meth c H locs cells slots Q (F0 m pc ls (.int v :: .ref (ad 4 j) :: rest)) := by
  subst he
  exact me_put (M1 := wI M 4 j 9 v) (k := 4) (f := 9) (C := "FilterGuard$Explorer") (T := F_Explorer) (Nf := 15) hexec hb hts i_Explorer t_Explorer t_Explorer_ok n_Explorer hown hK hP hD hwf hS hj (by decide) rfl (by decide) (by decide) hlink (fun _ h9 => h9) rfl rfl rfl rfl (fun a b h => me_wIE h) (me_fIw (by decide) (by decide)) hdg (fun H1 locs1 a1 a2 a3 => kk H1 locs1 a1 a2 (me_wfI hwf (fun z => absurd z (by decide)) (fun z => absurd z (by decide))) a3)
theorem d_Explorer_clear_5 : decode prog_5_method_2_code 5 = .ok (.aload_n 0, 1) := by decide +kernel
theorem d_Explorer_clear_6 : decode prog_5_method_2_code 6 = .ok (.iconst 0, 1) := by decide +kernel
theorem d_Explorer_clear_7 : decode prog_5_method_2_code 7 = .ok (.putfield 53, 3) := by decide +kernel
theorem u_557 : Cond.fieldLink "FilterGuard$Explorer" 53 "FilterGuard$Explorer" "keptCount" "I" ∈ fg_g := fg_in (List.mem_of_getElem? (i := 557) (by decide +kernel)) rfl
theorem p_Explorer_11 {p : Program} {l : Launch} {e : Env} {R : Room} {s : Jvm.State} {m : MethodId} {args : Array Value} {below : List Frame} {meth : Method} {c : Code} {H : Heap} {locs : List Loc} {cells slots : Nat} {Q : Jvm.State → Prop} {cc : ByteArray} {pc : Nat} {ls : Array Slot} {rest : List Value} {D : va_G} {A : Nat → Prop} {H0 : Heap} {ad : Nat → Nat → Nat} {ca : Nat → ClassId} {M M1 : me_M} {N : Nat → Nat} {own : String} {index j : Nat} {v : Int32} (he : M1 = wI M 4 j 11 v) (hexec : p.tables.exec = Jvm.exec) (hb : c.code = cc) (hts : ∀ w ∈ fg_g, w.before args s = true) (hown : s.vm.findClass own = some m.cls) (hK : va_K D classes (me_T ca) s) (hP : va_P D classes (me_W ad ca M) H) (hD : va_D A (me_W ad ca M)) (hwf : me_wf N M) (hS : va_S A H0 H locs) (hj : j < N 4) (hlink : (Cond.fieldLink own index "FilterGuard$Explorer" "keptCount" "I").before args s = true) (hdg : decode cc pc = .ok (.putfield index, 3)) (kk : ∀ (H1 : Heap) (locs1 : List Loc), va_P D classes (me_W ad ca M1) H1 → va_D A (me_W ad ca M1) → me_wf N M1 → va_S A H0 H1 locs1 → W p l e R s m args below meth c H1 locs1 cells slots Q (F0 m (pc + 3) ls rest)) : W p l e R s m args below meth c H locs cells slots Q (F0 m pc ls (.int v :: .ref (ad 4 j) :: rest)) := by
  subst he
  exact me_put (M1 := wI M 4 j 11 v) (k := 4) (f := 11) (C := "FilterGuard$Explorer") (T := F_Explorer) (Nf := 15) hexec hb hts i_Explorer t_Explorer t_Explorer_ok n_Explorer hown hK hP hD hwf hS hj (by decide) rfl (by decide) (by decide) hlink (fun _ h9 => h9) rfl rfl rfl rfl (fun a b h => me_wIE h) (me_fIw (by decide) (by decide)) hdg (fun H1 locs1 a1 a2 a3 => kk H1 locs1 a1 a2 (me_wfI hwf (fun z => absurd z (by decide)) (fun z => absurd z (by decide))) a3)
theorem d_Explorer_clear_10 : decode prog_5_method_2_code 10 = .ok (.aload_n 0, 1) := by decide +kernel
theorem d_Explorer_clear_11 : decode prog_5_method_2_code 11 = .ok (.iconst 0, 1) := by decide +kernel
theorem d_Explorer_clear_12 : decode prog_5_method_2_code 12 = .ok (.putfield 56, 3) := by decide +kernel
theorem u_559 : Cond.fieldLink "FilterGuard$Explorer" 56 "FilterGuard$Explorer" "visits" "I" ∈ fg_g := fg_in (List.mem_of_getElem? (i := 559) (by decide +kernel)) rfl
theorem p_Explorer_12 {p : Program} {l : Launch} {e : Env} {R : Room} {s : Jvm.State} {m : MethodId} {args : Array Value} {below : List Frame} {meth : Method} {c : Code} {H : Heap} {locs : List Loc} {cells slots : Nat} {Q : Jvm.State → Prop} {cc : ByteArray} {pc : Nat} {ls : Array Slot} {rest : List Value} {D : va_G} {A : Nat → Prop} {H0 : Heap} {ad : Nat → Nat → Nat} {ca : Nat → ClassId} {M M1 : me_M} {N : Nat → Nat} {own : String} {index j : Nat} {v : Int32} (he : M1 = wI M 4 j 12 v) (hexec : p.tables.exec = Jvm.exec) (hb : c.code = cc) (hts : ∀ w ∈ fg_g, w.before args s = true) (hown : s.vm.findClass own = some m.cls) (hK : va_K D classes (me_T ca) s) (hP : va_P D classes (me_W ad ca M) H) (hD : va_D A (me_W ad ca M)) (hwf : me_wf N M) (hS : va_S A H0 H locs) (hj : j < N 4) (hlink : (Cond.fieldLink own index "FilterGuard$Explorer" "visits" "I").before args s = true) (hdg : decode cc pc = .ok (.putfield index, 3)) (kk : ∀ (H1 : Heap) (locs1 : List Loc), va_P D classes (me_W ad ca M1) H1 → va_D A (me_W ad ca M1) → me_wf N M1 → va_S A H0 H1 locs1 → W p l e R s m args below meth c H1 locs1 cells slots Q (F0 m (pc + 3) ls rest)) : W p l e R s m args below meth c H locs cells slots Q (F0 m pc ls (.int v :: .ref (ad 4 j) :: rest)) := by
  subst he
  exact me_put (M1 := wI M 4 j 12 v) (k := 4) (f := 12) (C := "FilterGuard$Explorer") (T := F_Explorer) (Nf := 15) hexec hb hts i_Explorer t_Explorer t_Explorer_ok n_Explorer hown hK hP hD hwf hS hj (by decide) rfl (by decide) (by decide) hlink (fun _ h9 => h9) rfl rfl rfl rfl (fun a b h => me_wIE h) (me_fIw (by decide) (by decide)) hdg (fun H1 locs1 a1 a2 a3 => kk H1 locs1 a1 a2 (me_wfI hwf (fun z => absurd z (by decide)) (fun z => absurd z (by decide))) a3)
theorem d_Explorer_clear_15 : decode prog_5_method_2_code 15 = .ok (.aload_n 0, 1) := by decide +kernel
theorem d_Explorer_clear_16 : decode prog_5_method_2_code 16 = .ok (.iconst 0, 1) := by decide +kernel
theorem d_Explorer_clear_17 : decode prog_5_method_2_code 17 = .ok (.putfield 59, 3) := by decide +kernel
theorem u_561 : Cond.fieldLink "FilterGuard$Explorer" 59 "FilterGuard$Explorer" "mostWaiting" "I" ∈ fg_g := fg_in (List.mem_of_getElem? (i := 561) (by decide +kernel)) rfl
theorem p_Explorer_13 {p : Program} {l : Launch} {e : Env} {R : Room} {s : Jvm.State} {m : MethodId} {args : Array Value} {below : List Frame} {meth : Method} {c : Code} {H : Heap} {locs : List Loc} {cells slots : Nat} {Q : Jvm.State → Prop} {cc : ByteArray} {pc : Nat} {ls : Array Slot} {rest : List Value} {D : va_G} {A : Nat → Prop} {H0 : Heap} {ad : Nat → Nat → Nat} {ca : Nat → ClassId} {M M1 : me_M} {N : Nat → Nat} {own : String} {index j : Nat} {v : Int32} (he : M1 = wI M 4 j 13 v) (hexec : p.tables.exec = Jvm.exec) (hb : c.code = cc) (hts : ∀ w ∈ fg_g, w.before args s = true) (hown : s.vm.findClass own = some m.cls) (hK : va_K D classes (me_T ca) s) (hP : va_P D classes (me_W ad ca M) H) (hD : va_D A (me_W ad ca M)) (hwf : me_wf N M) (hS : va_S A H0 H locs) (hj : j < N 4) (hlink : (Cond.fieldLink own index "FilterGuard$Explorer" "mostWaiting" "I").before args s = true) (hdg : decode cc pc = .ok (.putfield index, 3)) (kk : ∀ (H1 : Heap) (locs1 : List Loc), va_P D classes (me_W ad ca M1) H1 → va_D A (me_W ad ca M1) → me_wf N M1 → va_S A H0 H1 locs1 → W p l e R s m args below meth c H1 locs1 cells slots Q (F0 m (pc + 3) ls rest)) : W p l e R s m args below meth c H locs cells slots Q (F0 m pc ls (.int v :: .ref (ad 4 j) :: rest)) := by
  subst he
  exact me_put (M1 := wI M 4 j 13 v) (k := 4) (f := 13) (C := "FilterGuard$Explorer") (T := F_Explorer) (Nf := 15) hexec hb hts i_Explorer t_Explorer t_Explorer_ok n_Explorer hown hK hP hD hwf hS hj (by decide) rfl (by decide) (by decide) hlink (fun _ h9 => h9) rfl rfl rfl rfl (fun a b h => me_wIE h) (me_fIw (by decide) (by decide)) hdg (fun H1 locs1 a1 a2 a3 => kk H1 locs1 a1 a2 (me_wfI hwf (fun z => absurd z (by decide)) (fun z => absurd z (by decide))) a3)
theorem d_Explorer_clear_20 : decode prog_5_method_2_code 20 = .ok (.aload_n 0, 1) := by decide +kernel
theorem d_Explorer_clear_21 : decode prog_5_method_2_code 21 = .ok (.iconst 0, 1) := by decide +kernel
theorem d_Explorer_clear_22 : decode prog_5_method_2_code 22 = .ok (.putfield 62, 3) := by decide +kernel
theorem u_563 : Cond.fieldLink "FilterGuard$Explorer" 62 "FilterGuard$Explorer" "paths" "I" ∈ fg_g := fg_in (List.mem_of_getElem? (i := 563) (by decide +kernel)) rfl
theorem p_Explorer_14 {p : Program} {l : Launch} {e : Env} {R : Room} {s : Jvm.State} {m : MethodId} {args : Array Value} {below : List Frame} {meth : Method} {c : Code} {H : Heap} {locs : List Loc} {cells slots : Nat} {Q : Jvm.State → Prop} {cc : ByteArray} {pc : Nat} {ls : Array Slot} {rest : List Value} {D : va_G} {A : Nat → Prop} {H0 : Heap} {ad : Nat → Nat → Nat} {ca : Nat → ClassId} {M M1 : me_M} {N : Nat → Nat} {own : String} {index j : Nat} {v : Int32} (he : M1 = wI M 4 j 14 v) (hexec : p.tables.exec = Jvm.exec) (hb : c.code = cc) (hts : ∀ w ∈ fg_g, w.before args s = true) (hown : s.vm.findClass own = some m.cls) (hK : va_K D classes (me_T ca) s) (hP : va_P D classes (me_W ad ca M) H) (hD : va_D A (me_W ad ca M)) (hwf : me_wf N M) (hS : va_S A H0 H locs) (hj : j < N 4) (hlink : (Cond.fieldLink own index "FilterGuard$Explorer" "paths" "I").before args s = true) (hdg : decode cc pc = .ok (.putfield index, 3)) (kk : ∀ (H1 : Heap) (locs1 : List Loc), va_P D classes (me_W ad ca M1) H1 → va_D A (me_W ad ca M1) → me_wf N M1 → va_S A H0 H1 locs1 → W p l e R s m args below meth c H1 locs1 cells slots Q (F0 m (pc + 3) ls rest)) : W p l e R s m args below meth c H locs cells slots Q (F0 m pc ls (.int v :: .ref (ad 4 j) :: rest)) := by
  subst he
  exact me_put (M1 := wI M 4 j 14 v) (k := 4) (f := 14) (C := "FilterGuard$Explorer") (T := F_Explorer) (Nf := 15) hexec hb hts i_Explorer t_Explorer t_Explorer_ok n_Explorer hown hK hP hD hwf hS hj (by decide) rfl (by decide) (by decide) hlink (fun _ h9 => h9) rfl rfl rfl rfl (fun a b h => me_wIE h) (me_fIw (by decide) (by decide)) hdg (fun H1 locs1 a1 a2 a3 => kk H1 locs1 a1 a2 (me_wfI hwf (fun z => absurd z (by decide)) (fun z => absurd z (by decide))) a3)
theorem d_Explorer_clear_25 : decode prog_5_method_2_code 25 = .ok (.return_, 1) := by decide +kernel
abbrev y_Explorer_clear : MethodName := ⟨"FilterGuard$Explorer", "clear", "()V"⟩
def rm_Explorer_clear : Room := { frames := 1, cells := 0, slots := 0, locals := 20 }
abbrev q_Explorer_clear (D : va_G) (ad : Nat → Nat → Nat) (ca : Nat → ClassId) (N : Nat → Nat) (M0 MZ : me_M) (A : Nat → Prop) : Array Value → Jvm.State → Outcome → Jvm.State → Prop := va_Qv (fun (_ : Unit) => me_wf N MZ ∧ me_kp M0 MZ) (fg_B D A (fun _ => me_W ad ca MZ) (fun _ => [])) A
set_option maxHeartbeats 4000000 in
set_option maxRecDepth 100000 in
theorem c_Explorer_clear (l : Launch) (D : va_G) (ad : Nat → Nat → Nat) (ca : Nat → ClassId) (N : Nat → Nat) (M0 MZ : me_M) (j0 : Nat) (h : f_Explorer_clear M0 j0 = (some MZ)) (hwf : me_wf N M0) (hj0 : j0 < N 4) (sz : Nat) : Met l y_Explorer_clear (fg_w y_Explorer_clear prog_5_method_2_code 1 none) rm_Explorer_clear (va_Pc [.ref (ad 4 j0)] (fz_P D (me_T ca) (me_W ad ca M0) sz)) (q_Explorer_clear D ad ca N M0 MZ (va_A (me_W ad ca M0) sz)) rm_Explorer_clear.cells rm_Explorer_clear.slots (va_A (me_W ad ca M0) sz) := by
  refine fz_enter (fun A => q_Explorer_clear D ad ca N M0 MZ A) (by decide +kernel) (Nat.le_of_ble_eq_true rfl) ?_
  intro p e s m below meth c ls A hx hb hml hown hts hr hlocks hin hP hK hD hS hA hX hl hz
  have hl : lv_has ls 1 [(0, .ref (ad 4 j0))] := hl
  unfold f_Explorer_clear at h
  have hkp : me_kp M0 M0 := me_kp.rf
  have hkb := hkp
  refine lv_aload_n hx hb d_Explorer_clear_0 rfl (lv_at hl 0 rfl) ?_
  refine lv_iconst (v := 0) hx hb d_Explorer_clear_1 (by decide) ?_
  obtain ⟨M1, eM1, h⟩ := st_ob h
  refine p_Explorer_9 eM1 hx hb hts hown hK hP hD hwf hS hj0 (hts _ u_555) d_Explorer_clear_2 (fun H locs hP hD hwf hS => ?_)
  have hkp := kp_I eM1 hkp
  refine lv_aload_n hx hb d_Explorer_clear_5 rfl (lv_at hl 0 rfl) ?_
  refine lv_iconst (v := 0) hx hb d_Explorer_clear_6 (by decide) ?_
  obtain ⟨M2, eM2, h⟩ := st_ob h
  refine p_Explorer_11 eM2 hx hb hts hown hK hP hD hwf hS hj0 (hts _ u_557) d_Explorer_clear_7 (fun H locs hP hD hwf hS => ?_)
  have hkp := kp_I eM2 hkp
  refine lv_aload_n hx hb d_Explorer_clear_10 rfl (lv_at hl 0 rfl) ?_
  refine lv_iconst (v := 0) hx hb d_Explorer_clear_11 (by decide) ?_
  obtain ⟨M3, eM3, h⟩ := st_ob h
  refine p_Explorer_12 eM3 hx hb hts hown hK hP hD hwf hS hj0 (hts _ u_559) d_Explorer_clear_12 (fun H locs hP hD hwf hS => ?_)
  have hkp := kp_I eM3 hkp
  refine lv_aload_n hx hb d_Explorer_clear_15 rfl (lv_at hl 0 rfl) ?_
  refine lv_iconst (v := 0) hx hb d_Explorer_clear_16 (by decide) ?_
  obtain ⟨M4, eM4, h⟩ := st_ob h
  refine p_Explorer_13 eM4 hx hb hts hown hK hP hD hwf hS hj0 (hts _ u_561) d_Explorer_clear_17 (fun H locs hP hD hwf hS => ?_)
  have hkp := kp_I eM4 hkp
  refine lv_aload_n hx hb d_Explorer_clear_20 rfl (lv_at hl 0 rfl) ?_
  refine lv_iconst (v := 0) hx hb d_Explorer_clear_21 (by decide) ?_
  obtain ⟨M5, eM5, h⟩ := st_ob h
  refine p_Explorer_14 eM5 hx hb hts hown hK hP hD hwf hS hj0 (hts _ u_563) d_Explorer_clear_22 (fun H locs hP hD hwf hS => ?_)
  have hkp := kp_I eM5 hkp
  exact me_retv (me_kp M0) h hx hb hr hlocks hwf hkp hP hK hD hS d_Explorer_clear_25
theorem d_Code_familyOfMemory_18 : decode prog_4_method_4_code 18 = .ok (.istore_n 1, 1) := by decide +kernel
theorem d_Code_familyOfMemory_19 : decode prog_4_method_4_code 19 = .ok (.aload_n 0, 1) := by decide +kernel
theorem d_Code_familyOfMemory_20 : decode prog_4_method_4_code 20 = .ok (.getfield 29, 3) := by decide +kernel
theorem u_231 : Cond.fieldLink "FilterGuard$Code" 29 "FilterGuard$Code" "op" "I" ∈ fg_g := fg_in (List.mem_of_getElem? (i := 231) (by decide +kernel)) rfl
theorem g_Code_5 {p : Program} {l : Launch} {e : Env} {R : Room} {s : Jvm.State} {m : MethodId} {args : Array Value} {below : List Frame} {meth : Method} {c : Code} {H : Heap} {locs : List Loc} {cells slots : Nat} {Q : Jvm.State → Prop} {cc : ByteArray} {pc : Nat} {ls : Array Slot} {rest : List Value} {D : va_G} {ad : Nat → Nat → Nat} {ca : Nat → ClassId} {M : me_M} {N : Nat → Nat} {own : String} {index j : Nat} (hexec : p.tables.exec = Jvm.exec) (hb : c.code = cc) (hts : ∀ w ∈ fg_g, w.before args s = true) (hown : s.vm.findClass own = some m.cls) (hK : va_K D classes (me_T ca) s) (hP : va_P D classes (me_W ad ca M) H) (hwf : me_wf N M) (hj : j < N 2) (hlink : (Cond.fieldLink own index "FilterGuard$Code" "op" "I").before args s = true) (hdg : decode cc pc = .ok (.getfield index, 3)) (kk : W p l e R s m args below meth c H locs cells slots Q (F0 m (pc + 3) ls (.int (mI M 2 j 5) :: rest))) : W p l e R s m args below meth c H locs cells slots Q (F0 m pc ls (.ref (ad 2 j) :: rest)) := me_get (k := 2) (f := 5) (C := "FilterGuard$Code") (T := F_Code) (Nf := 16) hexec hb hts i_Code hown hK hP hwf hj (by decide) rfl (by decide) (by decide) hlink (fun _ h9 => h9) hdg kk
theorem d_Code_familyOfMemory_23 : decode prog_4_method_4_code 23 = .ok (.bipush 7, 2) := by decide +kernel
theorem d_Code_familyOfMemory_25 : decode prog_4_method_4_code 25 = .ok (.iand, 1) := by decide +kernel
theorem d_Code_familyOfMemory_26 : decode prog_4_method_4_code 26 = .ok (.tableswitch 99 0 3 #[30, 45, 55, 65], 30) := by decide +kernel
theorem d_Code_familyOfMemory_56 : decode prog_4_method_4_code 56 = .ok (.aload_n 0, 1) := by decide +kernel
theorem d_Code_familyOfMemory_57 : decode prog_4_method_4_code 57 = .ok (.getfield 29, 3) := by decide +kernel
theorem d_Code_familyOfMemory_60 : decode prog_4_method_4_code 60 = .ok (.bipush 24, 2) := by decide +kernel
theorem d_Code_familyOfMemory_62 : decode prog_4_method_4_code 62 = .ok (.if_icmp .ne 7, 3) := by decide +kernel
theorem d_Code_familyOfMemory_69 : decode prog_4_method_4_code 69 = .ok (.iconst 0, 1) := by decide +kernel
theorem d_Code_familyOfMemory_70 : decode prog_4_method_4_code 70 = .ok (.ireturn, 1) := by decide +kernel
theorem d_Code_familyOfMemory_65 : decode prog_4_method_4_code 65 = .ok (.iconst 1, 1) := by decide +kernel
theorem d_Code_familyOfMemory_66 : decode prog_4_method_4_code 66 = .ok (.goto 4, 3) := by decide +kernel
theorem d_Code_familyOfMemory_71 : decode prog_4_method_4_code 71 = .ok (.iload_n 1, 1) := by decide +kernel
theorem d_Code_familyOfMemory_72 : decode prog_4_method_4_code 72 = .ok (.ifCond .eq 7, 3) := by decide +kernel
theorem d_Code_familyOfMemory_79 : decode prog_4_method_4_code 79 = .ok (.iconst 0, 1) := by decide +kernel
theorem d_Code_familyOfMemory_80 : decode prog_4_method_4_code 80 = .ok (.ireturn, 1) := by decide +kernel
theorem d_Code_familyOfMemory_75 : decode prog_4_method_4_code 75 = .ok (.iconst 2, 1) := by decide +kernel
theorem d_Code_familyOfMemory_76 : decode prog_4_method_4_code 76 = .ok (.goto 4, 3) := by decide +kernel
theorem d_Code_familyOfMemory_81 : decode prog_4_method_4_code 81 = .ok (.iload_n 1, 1) := by decide +kernel
theorem d_Code_familyOfMemory_82 : decode prog_4_method_4_code 82 = .ok (.ifCond .eq 7, 3) := by decide +kernel
theorem d_Code_familyOfMemory_89 : decode prog_4_method_4_code 89 = .ok (.iconst 0, 1) := by decide +kernel
theorem d_Code_familyOfMemory_90 : decode prog_4_method_4_code 90 = .ok (.ireturn, 1) := by decide +kernel
theorem d_Code_familyOfMemory_85 : decode prog_4_method_4_code 85 = .ok (.iconst 4, 1) := by decide +kernel
theorem d_Code_familyOfMemory_86 : decode prog_4_method_4_code 86 = .ok (.goto 4, 3) := by decide +kernel
theorem d_Code_familyOfMemory_91 : decode prog_4_method_4_code 91 = .ok (.iload_n 1, 1) := by decide +kernel
theorem d_Code_familyOfMemory_92 : decode prog_4_method_4_code 92 = .ok (.ifCond .eq 7, 3) := by decide +kernel
theorem d_Code_familyOfMemory_99 : decode prog_4_method_4_code 99 = .ok (.aload_n 0, 1) := by decide +kernel
theorem d_Code_familyOfMemory_100 : decode prog_4_method_4_code 100 = .ok (.getfield 29, 3) := by decide +kernel
theorem d_Code_familyOfMemory_103 : decode prog_4_method_4_code 103 = .ok (.sipush 219, 3) := by decide +kernel
theorem d_Code_familyOfMemory_106 : decode prog_4_method_4_code 106 = .ok (.if_icmp .eq 13, 3) := by decide +kernel
theorem d_Code_familyOfMemory_119 : decode prog_4_method_4_code 119 = .ok (.iconst 5, 1) := by decide +kernel
theorem d_Code_familyOfMemory_120 : decode prog_4_method_4_code 120 = .ok (.goto 4, 3) := by decide +kernel
theorem d_Code_familyOfMemory_124 : decode prog_4_method_4_code 124 = .ok (.ireturn, 1) := by decide +kernel
theorem d_Code_familyOfMemory_109 : decode prog_4_method_4_code 109 = .ok (.aload_n 0, 1) := by decide +kernel
theorem d_Code_familyOfMemory_110 : decode prog_4_method_4_code 110 = .ok (.getfield 29, 3) := by decide +kernel
theorem d_Code_familyOfMemory_113 : decode prog_4_method_4_code 113 = .ok (.sipush 195, 3) := by decide +kernel
theorem d_Code_familyOfMemory_116 : decode prog_4_method_4_code 116 = .ok (.if_icmp .ne 7, 3) := by decide +kernel
theorem d_Code_familyOfMemory_123 : decode prog_4_method_4_code 123 = .ok (.iconst 0, 1) := by decide +kernel
theorem d_Code_familyOfMemory_95 : decode prog_4_method_4_code 95 = .ok (.iconst 3, 1) := by decide +kernel
theorem d_Code_familyOfMemory_96 : decode prog_4_method_4_code 96 = .ok (.goto 28, 3) := by decide +kernel
theorem d_Code_familyOfMemory_125 : decode prog_4_method_4_code 125 = .ok (.iconst 0, 1) := by decide +kernel
theorem d_Code_familyOfMemory_126 : decode prog_4_method_4_code 126 = .ok (.ireturn, 1) := by decide +kernel
theorem d_Code_familyOfMemory_0 : decode prog_4_method_4_code 0 = .ok (.aload_n 0, 1) := by decide +kernel
theorem d_Code_familyOfMemory_1 : decode prog_4_method_4_code 1 = .ok (.getfield 29, 3) := by decide +kernel
theorem d_Code_familyOfMemory_4 : decode prog_4_method_4_code 4 = .ok (.sipush 224, 3) := by decide +kernel
theorem d_Code_familyOfMemory_7 : decode prog_4_method_4_code 7 = .ok (.iand, 1) := by decide +kernel
theorem d_Code_familyOfMemory_8 : decode prog_4_method_4_code 8 = .ok (.bipush 96, 2) := by decide +kernel
theorem d_Code_familyOfMemory_10 : decode prog_4_method_4_code 10 = .ok (.if_icmp .ne 7, 3) := by decide +kernel
theorem d_Code_familyOfMemory_17 : decode prog_4_method_4_code 17 = .ok (.iconst 0, 1) := by decide +kernel
theorem d_Code_familyOfMemory_13 : decode prog_4_method_4_code 13 = .ok (.iconst 1, 1) := by decide +kernel
theorem d_Code_familyOfMemory_14 : decode prog_4_method_4_code 14 = .ok (.goto 4, 3) := by decide +kernel
abbrev y_Code_familyOfMemory : MethodName := ⟨"FilterGuard$Code", "familyOfMemory", "()I"⟩
def rm_Code_familyOfMemory : Room := { frames := 1, cells := 0, slots := 0, locals := 20 }
abbrev q_Code_familyOfMemory (D : va_G) (ad : Nat → Nat → Nat) (ca : Nat → ClassId) (N : Nat → Nat) (M0 MZ : me_M) (RZ : Int32) (A : Nat → Prop) : Array Value → Jvm.State → Outcome → Jvm.State → Prop := va_Qi (fun r (_ : Unit) => r = RZ ∧ me_wf N MZ ∧ me_kp M0 MZ) (fg_B D A (fun _ => me_W ad ca MZ) (fun _ => [])) A
set_option maxHeartbeats 4000000 in
set_option maxRecDepth 100000 in
theorem c_Code_familyOfMemory (l : Launch) (D : va_G) (ad : Nat → Nat → Nat) (ca : Nat → ClassId) (N : Nat → Nat) (M0 MZ : me_M) (RZ : Int32) (j0 : Nat) (h : f_Code_familyOfMemory M0 j0 = (some (MZ, RZ))) (hwf : me_wf N M0) (hj0 : j0 < N 2) (sz : Nat) : Met l y_Code_familyOfMemory (fg_w y_Code_familyOfMemory prog_4_method_4_code 2 (some .int)) rm_Code_familyOfMemory (va_Pc [.ref (ad 2 j0)] (fz_P D (me_T ca) (me_W ad ca M0) sz)) (q_Code_familyOfMemory D ad ca N M0 MZ RZ (va_A (me_W ad ca M0) sz)) rm_Code_familyOfMemory.cells rm_Code_familyOfMemory.slots (va_A (me_W ad ca M0) sz) := by
  refine fz_enter (fun A => q_Code_familyOfMemory D ad ca N M0 MZ RZ A) (by decide +kernel) (Nat.le_of_ble_eq_true rfl) ?_
  intro p e s m below meth c ls A hx hb hml hown hts hr hlocks hin hP hK hD hS hA hX hl hz
  have hl : lv_has ls 2 [(0, .ref (ad 2 j0))] := hl
  unfold f_Code_familyOfMemory at h
  have hkp : me_kp M0 M0 := me_kp.rf
  have hkb := hkp
  have b_18 : ∀ (M : me_M) (s0 : Int32) (H : Heap) (locs : List Loc) (ls : Array Slot), f_Code_familyOfMemory_b18 j0 M s0 = (some (MZ, RZ)) → (s0 = 1 ∨ s0 = 0) → me_wf N M → me_kp M0 M → va_P D classes (me_W ad ca M) H → va_D A (me_W ad ca M) → va_S A s.heap H locs → lv_has ls 2 [(0, .ref (ad 2 j0))] → W p l e rm_Code_familyOfMemory s m [.ref (ad 2 j0)].toArray below meth c H locs 0 0 (MQ below (q_Code_familyOfMemory D ad ca N M0 MZ RZ A) [.ref (ad 2 j0)].toArray s rm_Code_familyOfMemory.cells rm_Code_familyOfMemory.slots A) (F0 m 18 ls [.int s0]) := by
    intro M s0 H locs ls h zs0 hwf hkp hP hD hS hl
    unfold f_Code_familyOfMemory_b18 at h
    have hkb := hkp
    refine lv_istore_n (lv' := [(1, .int s0), (0, .ref (ad 2 j0))]) hx hb d_Code_familyOfMemory_18 rfl hl (by decide) rfl (fun ls hl => ?_)
    refine lv_aload_n hx hb d_Code_familyOfMemory_19 rfl (lv_at hl 1 rfl) ?_
    refine g_Code_5 hx hb hts hown hK hP hwf hj0 (hts _ u_231) d_Code_familyOfMemory_20 ?_
    refine lv_bipush (v := 7) hx hb d_Code_familyOfMemory_23 (by decide) ?_
    refine lv_iand hx hb d_Code_familyOfMemory_25 ?_
    refine lv_topi (fun w1 ew1 => ?_)
    by_cases n2 : w1 = 0
    · have h := if_t (ew1.symm.trans n2) h
      subst n2
      refine lv_tableIn (off := 30) (tgt := 56) hx hb d_Code_familyOfMemory_26 (by decide) (by decide) (by decide) (by decide) ?_
      refine lv_aload_n hx hb d_Code_familyOfMemory_56 rfl (lv_at hl 1 rfl) ?_
      refine g_Code_5 hx hb hts hown hK hP hwf hj0 (hts _ u_231) d_Code_familyOfMemory_57 ?_
      refine lv_bipush (v := 24) hx hb d_Code_familyOfMemory_60 (by decide) ?_
      refine lv_icmp_ne (tgt := 69) hx hb d_Code_familyOfMemory_62 (by decide) (fun c3 => ?_) (fun c3 => ?_)
      · have h := if_f c3 h
        refine lv_iconst (v := 0) hx hb d_Code_familyOfMemory_69 (by decide) ?_
        exact me_reti (me_kp M0) h hx hb hr hlocks hwf hkp hP hK hD hS d_Code_familyOfMemory_70
      have h := if_t c3 h
      refine lv_iconst (v := 1) hx hb d_Code_familyOfMemory_65 (by decide) ?_
      refine lv_goto (tgt := 70) hx hb d_Code_familyOfMemory_66 (by decide) ?_
      exact me_reti (me_kp M0) h hx hb hr hlocks hwf hkp hP hK hD hS d_Code_familyOfMemory_70
    have h := if_f (fun z => n2 (ew1.trans z)) h
    by_cases n4 : w1 = 1
    · have h := if_t (ew1.symm.trans n4) h
      subst n4
      refine lv_tableIn (off := 45) (tgt := 71) hx hb d_Code_familyOfMemory_26 (by decide) (by decide) (by decide) (by decide) ?_
      refine lv_iload_n hx hb d_Code_familyOfMemory_71 rfl (lv_at hl 0 rfl) ?_
      refine lv_if_eq (tgt := 79) hx hb d_Code_familyOfMemory_72 (by decide) (fun c5 => ?_) (fun c5 => ?_)
      · have h := if_t c5 h
        refine lv_iconst (v := 0) hx hb d_Code_familyOfMemory_79 (by decide) ?_
        exact me_reti (me_kp M0) h hx hb hr hlocks hwf hkp hP hK hD hS d_Code_familyOfMemory_80
      have h := if_f c5 h
      refine lv_iconst (v := 2) hx hb d_Code_familyOfMemory_75 (by decide) ?_
      refine lv_goto (tgt := 80) hx hb d_Code_familyOfMemory_76 (by decide) ?_
      exact me_reti (me_kp M0) h hx hb hr hlocks hwf hkp hP hK hD hS d_Code_familyOfMemory_80
    have h := if_f (fun z => n4 (ew1.trans z)) h
    by_cases n6 : w1 = 2
    · have h := if_t (ew1.symm.trans n6) h
      subst n6
      refine lv_tableIn (off := 55) (tgt := 81) hx hb d_Code_familyOfMemory_26 (by decide) (by decide) (by decide) (by decide) ?_
      refine lv_iload_n hx hb d_Code_familyOfMemory_81 rfl (lv_at hl 0 rfl) ?_
      refine lv_if_eq (tgt := 89) hx hb d_Code_familyOfMemory_82 (by decide) (fun c7 => ?_) (fun c7 => ?_)
      · have h := if_t c7 h
        refine lv_iconst (v := 0) hx hb d_Code_familyOfMemory_89 (by decide) ?_
        exact me_reti (me_kp M0) h hx hb hr hlocks hwf hkp hP hK hD hS d_Code_familyOfMemory_90
      have h := if_f c7 h
      refine lv_iconst (v := 4) hx hb d_Code_familyOfMemory_85 (by decide) ?_
      refine lv_goto (tgt := 90) hx hb d_Code_familyOfMemory_86 (by decide) ?_
      exact me_reti (me_kp M0) h hx hb hr hlocks hwf hkp hP hK hD hS d_Code_familyOfMemory_90
    have h := if_f (fun z => n6 (ew1.trans z)) h
    by_cases n8 : w1 = 3
    · have h := if_t (ew1.symm.trans n8) h
      subst n8
      refine lv_tableIn (off := 65) (tgt := 91) hx hb d_Code_familyOfMemory_26 (by decide) (by decide) (by decide) (by decide) ?_
      refine lv_iload_n hx hb d_Code_familyOfMemory_91 rfl (lv_at hl 0 rfl) ?_
      refine lv_if_eq (tgt := 99) hx hb d_Code_familyOfMemory_92 (by decide) (fun c9 => ?_) (fun c9 => ?_)
      · have h := if_t c9 h
        refine lv_aload_n hx hb d_Code_familyOfMemory_99 rfl (lv_at hl 1 rfl) ?_
        refine g_Code_5 hx hb hts hown hK hP hwf hj0 (hts _ u_231) d_Code_familyOfMemory_100 ?_
        refine lv_sipush (v := 219) hx hb d_Code_familyOfMemory_103 (by decide) ?_
        refine lv_icmp_eq (tgt := 119) hx hb d_Code_familyOfMemory_106 (by decide) (fun c10 => ?_) (fun c10 => ?_)
        · have h := if_t c10 h
          refine lv_iconst (v := 5) hx hb d_Code_familyOfMemory_119 (by decide) ?_
          refine lv_goto (tgt := 124) hx hb d_Code_familyOfMemory_120 (by decide) ?_
          exact me_reti (me_kp M0) h hx hb hr hlocks hwf hkp hP hK hD hS d_Code_familyOfMemory_124
        have h := if_f c10 h
        refine lv_aload_n hx hb d_Code_familyOfMemory_109 rfl (lv_at hl 1 rfl) ?_
        refine g_Code_5 hx hb hts hown hK hP hwf hj0 (hts _ u_231) d_Code_familyOfMemory_110 ?_
        refine lv_sipush (v := 195) hx hb d_Code_familyOfMemory_113 (by decide) ?_
        refine lv_icmp_ne (tgt := 123) hx hb d_Code_familyOfMemory_116 (by decide) (fun c11 => ?_) (fun c11 => ?_)
        · have h := if_f c11 h
          refine lv_iconst (v := 0) hx hb d_Code_familyOfMemory_123 (by decide) ?_
          exact me_reti (me_kp M0) h hx hb hr hlocks hwf hkp hP hK hD hS d_Code_familyOfMemory_124
        have h := if_t c11 h
        refine lv_iconst (v := 5) hx hb d_Code_familyOfMemory_119 (by decide) ?_
        refine lv_goto (tgt := 124) hx hb d_Code_familyOfMemory_120 (by decide) ?_
        exact me_reti (me_kp M0) h hx hb hr hlocks hwf hkp hP hK hD hS d_Code_familyOfMemory_124
      have h := if_f c9 h
      refine lv_iconst (v := 3) hx hb d_Code_familyOfMemory_95 (by decide) ?_
      refine lv_goto (tgt := 124) hx hb d_Code_familyOfMemory_96 (by decide) ?_
      exact me_reti (me_kp M0) h hx hb hr hlocks hwf hkp hP hK hD hS d_Code_familyOfMemory_124
    have h := if_f (fun z => n8 (ew1.trans z)) h
    have in2 := lv_neT n2 (show (0 : Int32).toInt = 0 from rfl)
    have in4 := lv_neT n4 (show (1 : Int32).toInt = 1 from rfl)
    have in6 := lv_neT n6 (show (2 : Int32).toInt = 2 from rfl)
    have in8 := lv_neT n8 (show (3 : Int32).toInt = 3 from rfl)
    refine lv_tableOut (tgt := 125) hx hb d_Code_familyOfMemory_26 (by omega) (by decide) ?_
    refine lv_iconst (v := 0) hx hb d_Code_familyOfMemory_125 (by decide) ?_
    exact me_reti (me_kp M0) h hx hb hr hlocks hwf hkp hP hK hD hS d_Code_familyOfMemory_126
  refine lv_aload_n hx hb d_Code_familyOfMemory_0 rfl (lv_at hl 0 rfl) ?_
  refine g_Code_5 hx hb hts hown hK hP hwf hj0 (hts _ u_231) d_Code_familyOfMemory_1 ?_
  refine lv_sipush (v := 224) hx hb d_Code_familyOfMemory_4 (by decide) ?_
  refine lv_iand hx hb d_Code_familyOfMemory_7 ?_
  refine lv_bipush (v := 96) hx hb d_Code_familyOfMemory_8 (by decide) ?_
  refine lv_icmp_ne (tgt := 17) hx hb d_Code_familyOfMemory_10 (by decide) (fun c12 => ?_) (fun c12 => ?_)
  · have h := if_f c12 h
    refine lv_iconst (v := 0) hx hb d_Code_familyOfMemory_17 (by decide) ?_
    exact b_18 M0 (0 : Int32) _ _ _ h (by decide) hwf hkp hP hD hS (lv_sub hl [0] rfl)
  have h := if_t c12 h
  refine lv_iconst (v := 1) hx hb d_Code_familyOfMemory_13 (by decide) ?_
  refine lv_goto (tgt := 18) hx hb d_Code_familyOfMemory_14 (by decide) ?_
  exact b_18 M0 (1 : Int32) _ _ _ h (by decide) hwf hkp hP hD hS (lv_sub hl [0] rfl)
theorem d_Code_lookAtArithmetic_104 : decode prog_4_method_5_code 104 = .ok (.aload_n 0, 1) := by decide +kernel
theorem d_Code_lookAtArithmetic_105 : decode prog_4_method_5_code 105 = .ok (.bipush 6, 2) := by decide +kernel
theorem d_Code_lookAtArithmetic_107 : decode prog_4_method_5_code 107 = .ok (.putfield 55, 3) := by decide +kernel
theorem u_252 : Cond.fieldLink "FilterGuard$Code" 55 "FilterGuard$Code" "family" "I" ∈ fg_g := fg_in (List.mem_of_getElem? (i := 252) (by decide +kernel)) rfl
theorem p_Code_10 {p : Program} {l : Launch} {e : Env} {R : Room} {s : Jvm.State} {m : MethodId} {args : Array Value} {below : List Frame} {meth : Method} {c : Code} {H : Heap} {locs : List Loc} {cells slots : Nat} {Q : Jvm.State → Prop} {cc : ByteArray} {pc : Nat} {ls : Array Slot} {rest : List Value} {D : va_G} {A : Nat → Prop} {H0 : Heap} {ad : Nat → Nat → Nat} {ca : Nat → ClassId} {M M1 : me_M} {N : Nat → Nat} {own : String} {index j : Nat} {v : Int32} (he : M1 = wI M 2 j 10 v) (hexec : p.tables.exec = Jvm.exec) (hb : c.code = cc) (hts : ∀ w ∈ fg_g, w.before args s = true) (hown : s.vm.findClass own = some m.cls) (hK : va_K D classes (me_T ca) s) (hP : va_P D classes (me_W ad ca M) H) (hD : va_D A (me_W ad ca M)) (hwf : me_wf N M) (hS : va_S A H0 H locs) (hj : j < N 2) (hlink : (Cond.fieldLink own index "FilterGuard$Code" "family" "I").before args s = true) (hdg : decode cc pc = .ok (.putfield index, 3)) (kk : ∀ (H1 : Heap) (locs1 : List Loc), va_P D classes (me_W ad ca M1) H1 → va_D A (me_W ad ca M1) → me_wf N M1 → va_S A H0 H1 locs1 → W p l e R s m args below meth c H1 locs1 cells slots Q (F0 m (pc + 3) ls rest)) : W p l e R s m args below meth c H locs cells slots Q (F0 m pc ls (.int v :: .ref (ad 2 j) :: rest)) := by
  subst he
  exact me_put (M1 := wI M 2 j 10 v) (k := 2) (f := 10) (C := "FilterGuard$Code") (T := F_Code) (Nf := 16) hexec hb hts i_Code t_Code t_Code_ok n_Code hown hK hP hD hwf hS hj (by decide) rfl (by decide) (by decide) hlink (fun _ h9 => h9) rfl rfl rfl rfl (fun a b h => me_wIE h) (me_fIw (by decide) (by decide)) hdg (fun H1 locs1 a1 a2 a3 => kk H1 locs1 a1 a2 (me_wfI hwf (fun z => absurd z (by decide)) (fun z => absurd z (by decide))) a3)
theorem d_Code_lookAtArithmetic_110 : decode prog_4_method_5_code 110 = .ok (.aload_n 0, 1) := by decide +kernel
theorem d_Code_lookAtArithmetic_111 : decode prog_4_method_5_code 111 = .ok (.aload_n 0, 1) := by decide +kernel
theorem d_Code_lookAtArithmetic_112 : decode prog_4_method_5_code 112 = .ok (.getfield 58, 3) := by decide +kernel
theorem u_261 : Cond.fieldLink "FilterGuard$Code" 58 "FilterGuard$Code" "operation" "I" ∈ fg_g := fg_in (List.mem_of_getElem? (i := 261) (by decide +kernel)) rfl
theorem g_Code_12 {p : Program} {l : Launch} {e : Env} {R : Room} {s : Jvm.State} {m : MethodId} {args : Array Value} {below : List Frame} {meth : Method} {c : Code} {H : Heap} {locs : List Loc} {cells slots : Nat} {Q : Jvm.State → Prop} {cc : ByteArray} {pc : Nat} {ls : Array Slot} {rest : List Value} {D : va_G} {ad : Nat → Nat → Nat} {ca : Nat → ClassId} {M : me_M} {N : Nat → Nat} {own : String} {index j : Nat} (hexec : p.tables.exec = Jvm.exec) (hb : c.code = cc) (hts : ∀ w ∈ fg_g, w.before args s = true) (hown : s.vm.findClass own = some m.cls) (hK : va_K D classes (me_T ca) s) (hP : va_P D classes (me_W ad ca M) H) (hwf : me_wf N M) (hj : j < N 2) (hlink : (Cond.fieldLink own index "FilterGuard$Code" "operation" "I").before args s = true) (hdg : decode cc pc = .ok (.getfield index, 3)) (kk : W p l e R s m args below meth c H locs cells slots Q (F0 m (pc + 3) ls (.int (mI M 2 j 12) :: rest))) : W p l e R s m args below meth c H locs cells slots Q (F0 m pc ls (.ref (ad 2 j) :: rest)) := me_get (k := 2) (f := 12) (C := "FilterGuard$Code") (T := F_Code) (Nf := 16) hexec hb hts i_Code hown hK hP hwf hj (by decide) rfl (by decide) (by decide) hlink (fun _ h9 => h9) hdg kk
theorem d_Code_lookAtArithmetic_115 : decode prog_4_method_5_code 115 = .ok (.bipush 12, 2) := by decide +kernel
theorem d_Code_lookAtArithmetic_117 : decode prog_4_method_5_code 117 = .ok (.if_icmp .eq 7, 3) := by decide +kernel
theorem d_Code_lookAtArithmetic_124 : decode prog_4_method_5_code 124 = .ok (.iconst 0, 1) := by decide +kernel
theorem d_Code_lookAtArithmetic_125 : decode prog_4_method_5_code 125 = .ok (.putfield 65, 3) := by decide +kernel
theorem u_270 : Cond.fieldLink "FilterGuard$Code" 65 "FilterGuard$Code" "readsTo" "Z" ∈ fg_g := fg_in (List.mem_of_getElem? (i := 270) (by decide +kernel)) rfl
theorem p_Code_14 {p : Program} {l : Launch} {e : Env} {R : Room} {s : Jvm.State} {m : MethodId} {args : Array Value} {below : List Frame} {meth : Method} {c : Code} {H : Heap} {locs : List Loc} {cells slots : Nat} {Q : Jvm.State → Prop} {cc : ByteArray} {pc : Nat} {ls : Array Slot} {rest : List Value} {D : va_G} {A : Nat → Prop} {H0 : Heap} {ad : Nat → Nat → Nat} {ca : Nat → ClassId} {M M1 : me_M} {N : Nat → Nat} {own : String} {index j : Nat} {v : Int32} (he : M1 = wI M 2 j 14 v) (hexec : p.tables.exec = Jvm.exec) (hb : c.code = cc) (hts : ∀ w ∈ fg_g, w.before args s = true) (hown : s.vm.findClass own = some m.cls) (hK : va_K D classes (me_T ca) s) (hP : va_P D classes (me_W ad ca M) H) (hD : va_D A (me_W ad ca M)) (hwf : me_wf N M) (hS : va_S A H0 H locs) (hj : j < N 2) (hv : v = 1 ∨ v = 0) (hlink : (Cond.fieldLink own index "FilterGuard$Code" "readsTo" "Z").before args s = true) (hdg : decode cc pc = .ok (.putfield index, 3)) (kk : ∀ (H1 : Heap) (locs1 : List Loc), va_P D classes (me_W ad ca M1) H1 → va_D A (me_W ad ca M1) → me_wf N M1 → va_S A H0 H1 locs1 → W p l e R s m args below meth c H1 locs1 cells slots Q (F0 m (pc + 3) ls rest)) : W p l e R s m args below meth c H locs cells slots Q (F0 m pc ls (.int v :: .ref (ad 2 j) :: rest)) := by
  subst he
  exact me_put (M1 := wI M 2 j 14 v) (k := 2) (f := 14) (C := "FilterGuard$Code") (T := F_Code) (Nf := 16) hexec hb hts i_Code t_Code t_Code_ok n_Code hown hK hP hD hwf hS hj (by decide) rfl (by decide) (by decide) hlink (fun _ h9 => h9) rfl (me_nz hv) (me_fz hv) rfl (fun a b h => me_wIE h) (me_fIw (by decide) (by decide)) hdg (fun H1 locs1 a1 a2 a3 => kk H1 locs1 a1 a2 (me_wfI hwf (fun z => absurd z (by decide)) (fun _ => hv)) a3)
theorem d_Code_lookAtArithmetic_128 : decode prog_4_method_5_code 128 = .ok (.return_, 1) := by decide +kernel
theorem d_Code_lookAtArithmetic_120 : decode prog_4_method_5_code 120 = .ok (.iconst 1, 1) := by decide +kernel
theorem d_Code_lookAtArithmetic_121 : decode prog_4_method_5_code 121 = .ok (.goto 4, 3) := by decide +kernel
theorem d_Code_lookAtArithmetic_84 : decode prog_4_method_5_code 84 = .ok (.aload_n 0, 1) := by decide +kernel
theorem d_Code_lookAtArithmetic_85 : decode prog_4_method_5_code 85 = .ok (.getfield 58, 3) := by decide +kernel
theorem d_Code_lookAtArithmetic_88 : decode prog_4_method_5_code 88 = .ok (.ifCond .lt 40, 3) := by decide +kernel
theorem d_Code_lookAtArithmetic_91 : decode prog_4_method_5_code 91 = .ok (.aload_n 0, 1) := by decide +kernel
theorem d_Code_lookAtArithmetic_92 : decode prog_4_method_5_code 92 = .ok (.getfield 58, 3) := by decide +kernel
theorem d_Code_lookAtArithmetic_95 : decode prog_4_method_5_code 95 = .ok (.bipush 11, 2) := by decide +kernel
theorem d_Code_lookAtArithmetic_97 : decode prog_4_method_5_code 97 = .ok (.if_icmp .ne 7, 3) := by decide +kernel
theorem d_Code_lookAtArithmetic_100 : decode prog_4_method_5_code 100 = .ok (.iload_n 2, 1) := by decide +kernel
theorem d_Code_lookAtArithmetic_101 : decode prog_4_method_5_code 101 = .ok (.ifCond .ne 27, 3) := by decide +kernel
theorem d_Code_lookAtArithmetic_54 : decode prog_4_method_5_code 54 = .ok (.putfield 58, 3) := by decide +kernel
theorem p_Code_12 {p : Program} {l : Launch} {e : Env} {R : Room} {s : Jvm.State} {m : MethodId} {args : Array Value} {below : List Frame} {meth : Method} {c : Code} {H : Heap} {locs : List Loc} {cells slots : Nat} {Q : Jvm.State → Prop} {cc : ByteArray} {pc : Nat} {ls : Array Slot} {rest : List Value} {D : va_G} {A : Nat → Prop} {H0 : Heap} {ad : Nat → Nat → Nat} {ca : Nat → ClassId} {M M1 : me_M} {N : Nat → Nat} {own : String} {index j : Nat} {v : Int32} (he : M1 = wI M 2 j 12 v) (hexec : p.tables.exec = Jvm.exec) (hb : c.code = cc) (hts : ∀ w ∈ fg_g, w.before args s = true) (hown : s.vm.findClass own = some m.cls) (hK : va_K D classes (me_T ca) s) (hP : va_P D classes (me_W ad ca M) H) (hD : va_D A (me_W ad ca M)) (hwf : me_wf N M) (hS : va_S A H0 H locs) (hj : j < N 2) (hlink : (Cond.fieldLink own index "FilterGuard$Code" "operation" "I").before args s = true) (hdg : decode cc pc = .ok (.putfield index, 3)) (kk : ∀ (H1 : Heap) (locs1 : List Loc), va_P D classes (me_W ad ca M1) H1 → va_D A (me_W ad ca M1) → me_wf N M1 → va_S A H0 H1 locs1 → W p l e R s m args below meth c H1 locs1 cells slots Q (F0 m (pc + 3) ls rest)) : W p l e R s m args below meth c H locs cells slots Q (F0 m pc ls (.int v :: .ref (ad 2 j) :: rest)) := by
  subst he
  exact me_put (M1 := wI M 2 j 12 v) (k := 2) (f := 12) (C := "FilterGuard$Code") (T := F_Code) (Nf := 16) hexec hb hts i_Code t_Code t_Code_ok n_Code hown hK hP hD hwf hS hj (by decide) rfl (by decide) (by decide) hlink (fun _ h9 => h9) rfl rfl rfl rfl (fun a b h => me_wIE h) (me_fIw (by decide) (by decide)) hdg (fun H1 locs1 a1 a2 a3 => kk H1 locs1 a1 a2 (me_wfI hwf (fun z => absurd z (by decide)) (fun z => absurd z (by decide))) a3)
theorem d_Code_lookAtArithmetic_57 : decode prog_4_method_5_code 57 = .ok (.goto 27, 3) := by decide +kernel
theorem d_Code_lookAtArithmetic_36 : decode prog_4_method_5_code 36 = .ok (.aload_n 0, 1) := by decide +kernel
theorem d_Code_lookAtArithmetic_37 : decode prog_4_method_5_code 37 = .ok (.aload_n 0, 1) := by decide +kernel
theorem d_Code_lookAtArithmetic_38 : decode prog_4_method_5_code 38 = .ok (.getfield 29, 3) := by decide +kernel
theorem d_Code_lookAtArithmetic_41 : decode prog_4_method_5_code 41 = .ok (.sipush 212, 3) := by decide +kernel
theorem d_Code_lookAtArithmetic_44 : decode prog_4_method_5_code 44 = .ok (.if_icmp .ne 8, 3) := by decide +kernel
theorem d_Code_lookAtArithmetic_52 : decode prog_4_method_5_code 52 = .ok (.bipush 13, 2) := by decide +kernel
theorem d_Code_lookAtArithmetic_47 : decode prog_4_method_5_code 47 = .ok (.bipush 14, 2) := by decide +kernel
theorem d_Code_lookAtArithmetic_49 : decode prog_4_method_5_code 49 = .ok (.goto 5, 3) := by decide +kernel
theorem d_Code_lookAtArithmetic_15 : decode prog_4_method_5_code 15 = .ok (.istore_n 2, 1) := by decide +kernel
theorem d_Code_lookAtArithmetic_16 : decode prog_4_method_5_code 16 = .ok (.aload_n 0, 1) := by decide +kernel
theorem d_Code_lookAtArithmetic_17 : decode prog_4_method_5_code 17 = .ok (.getfield 29, 3) := by decide +kernel
theorem d_Code_lookAtArithmetic_20 : decode prog_4_method_5_code 20 = .ok (.sipush 212, 3) := by decide +kernel
theorem d_Code_lookAtArithmetic_23 : decode prog_4_method_5_code 23 = .ok (.if_icmp .eq 13, 3) := by decide +kernel
theorem d_Code_lookAtArithmetic_26 : decode prog_4_method_5_code 26 = .ok (.aload_n 0, 1) := by decide +kernel
theorem d_Code_lookAtArithmetic_27 : decode prog_4_method_5_code 27 = .ok (.getfield 29, 3) := by decide +kernel
theorem d_Code_lookAtArithmetic_30 : decode prog_4_method_5_code 30 = .ok (.sipush 220, 3) := by decide +kernel
theorem d_Code_lookAtArithmetic_33 : decode prog_4_method_5_code 33 = .ok (.if_icmp .ne 27, 3) := by decide +kernel
theorem d_Code_lookAtArithmetic_60 : decode prog_4_method_5_code 60 = .ok (.aload_n 0, 1) := by decide +kernel
theorem d_Code_lookAtArithmetic_61 : decode prog_4_method_5_code 61 = .ok (.getstatic 78, 3) := by decide +kernel
theorem o_971 : Cond.fieldLinkNest "FilterGuard$Code" 78 "FilterGuard" "OPERATIONS" "[I" "FilterGuard" ∈ lw_tbl := List.mem_of_getElem? (i := 971) (by decide +kernel)
theorem d_Code_lookAtArithmetic_64 : decode prog_4_method_5_code 64 = .ok (.aload_n 0, 1) := by decide +kernel
theorem d_Code_lookAtArithmetic_65 : decode prog_4_method_5_code 65 = .ok (.getfield 29, 3) := by decide +kernel
theorem d_Code_lookAtArithmetic_68 : decode prog_4_method_5_code 68 = .ok (.iconst 4, 1) := by decide +kernel
theorem d_Code_lookAtArithmetic_69 : decode prog_4_method_5_code 69 = .ok (.ishr, 1) := by decide +kernel
theorem d_Code_lookAtArithmetic_70 : decode prog_4_method_5_code 70 = .ok (.iaload, 1) := by decide +kernel
theorem d_Code_lookAtArithmetic_71 : decode prog_4_method_5_code 71 = .ok (.putfield 58, 3) := by decide +kernel
theorem d_Code_lookAtArithmetic_74 : decode prog_4_method_5_code 74 = .ok (.aload_n 0, 1) := by decide +kernel
theorem d_Code_lookAtArithmetic_75 : decode prog_4_method_5_code 75 = .ok (.iload_n 1, 1) := by decide +kernel
theorem d_Code_lookAtArithmetic_76 : decode prog_4_method_5_code 76 = .ok (.putfield 61, 3) := by decide +kernel
theorem u_265 : Cond.fieldLink "FilterGuard$Code" 61 "FilterGuard$Code" "isNarrow" "Z" ∈ fg_g := fg_in (List.mem_of_getElem? (i := 265) (by decide +kernel)) rfl
theorem p_Code_13 {p : Program} {l : Launch} {e : Env} {R : Room} {s : Jvm.State} {m : MethodId} {args : Array Value} {below : List Frame} {meth : Method} {c : Code} {H : Heap} {locs : List Loc} {cells slots : Nat} {Q : Jvm.State → Prop} {cc : ByteArray} {pc : Nat} {ls : Array Slot} {rest : List Value} {D : va_G} {A : Nat → Prop} {H0 : Heap} {ad : Nat → Nat → Nat} {ca : Nat → ClassId} {M M1 : me_M} {N : Nat → Nat} {own : String} {index j : Nat} {v : Int32} (he : M1 = wI M 2 j 13 v) (hexec : p.tables.exec = Jvm.exec) (hb : c.code = cc) (hts : ∀ w ∈ fg_g, w.before args s = true) (hown : s.vm.findClass own = some m.cls) (hK : va_K D classes (me_T ca) s) (hP : va_P D classes (me_W ad ca M) H) (hD : va_D A (me_W ad ca M)) (hwf : me_wf N M) (hS : va_S A H0 H locs) (hj : j < N 2) (hv : v = 1 ∨ v = 0) (hlink : (Cond.fieldLink own index "FilterGuard$Code" "isNarrow" "Z").before args s = true) (hdg : decode cc pc = .ok (.putfield index, 3)) (kk : ∀ (H1 : Heap) (locs1 : List Loc), va_P D classes (me_W ad ca M1) H1 → va_D A (me_W ad ca M1) → me_wf N M1 → va_S A H0 H1 locs1 → W p l e R s m args below meth c H1 locs1 cells slots Q (F0 m (pc + 3) ls rest)) : W p l e R s m args below meth c H locs cells slots Q (F0 m pc ls (.int v :: .ref (ad 2 j) :: rest)) := by
  subst he
  exact me_put (M1 := wI M 2 j 13 v) (k := 2) (f := 13) (C := "FilterGuard$Code") (T := F_Code) (Nf := 16) hexec hb hts i_Code t_Code t_Code_ok n_Code hown hK hP hD hwf hS hj (by decide) rfl (by decide) (by decide) hlink (fun _ h9 => h9) rfl (me_nz hv) (me_fz hv) rfl (fun a b h => me_wIE h) (me_fIw (by decide) (by decide)) hdg (fun H1 locs1 a1 a2 a3 => kk H1 locs1 a1 a2 (me_wfI hwf (fun z => absurd z (by decide)) (fun _ => hv)) a3)
theorem d_Code_lookAtArithmetic_79 : decode prog_4_method_5_code 79 = .ok (.aload_n 0, 1) := by decide +kernel
theorem d_Code_lookAtArithmetic_80 : decode prog_4_method_5_code 80 = .ok (.iload_n 2, 1) := by decide +kernel
theorem d_Code_lookAtArithmetic_81 : decode prog_4_method_5_code 81 = .ok (.putfield 68, 3) := by decide +kernel
theorem u_273 : Cond.fieldLink "FilterGuard$Code" 68 "FilterGuard$Code" "readsFrom" "Z" ∈ fg_g := fg_in (List.mem_of_getElem? (i := 273) (by decide +kernel)) rfl
theorem p_Code_15 {p : Program} {l : Launch} {e : Env} {R : Room} {s : Jvm.State} {m : MethodId} {args : Array Value} {below : List Frame} {meth : Method} {c : Code} {H : Heap} {locs : List Loc} {cells slots : Nat} {Q : Jvm.State → Prop} {cc : ByteArray} {pc : Nat} {ls : Array Slot} {rest : List Value} {D : va_G} {A : Nat → Prop} {H0 : Heap} {ad : Nat → Nat → Nat} {ca : Nat → ClassId} {M M1 : me_M} {N : Nat → Nat} {own : String} {index j : Nat} {v : Int32} (he : M1 = wI M 2 j 15 v) (hexec : p.tables.exec = Jvm.exec) (hb : c.code = cc) (hts : ∀ w ∈ fg_g, w.before args s = true) (hown : s.vm.findClass own = some m.cls) (hK : va_K D classes (me_T ca) s) (hP : va_P D classes (me_W ad ca M) H) (hD : va_D A (me_W ad ca M)) (hwf : me_wf N M) (hS : va_S A H0 H locs) (hj : j < N 2) (hv : v = 1 ∨ v = 0) (hlink : (Cond.fieldLink own index "FilterGuard$Code" "readsFrom" "Z").before args s = true) (hdg : decode cc pc = .ok (.putfield index, 3)) (kk : ∀ (H1 : Heap) (locs1 : List Loc), va_P D classes (me_W ad ca M1) H1 → va_D A (me_W ad ca M1) → me_wf N M1 → va_S A H0 H1 locs1 → W p l e R s m args below meth c H1 locs1 cells slots Q (F0 m (pc + 3) ls rest)) : W p l e R s m args below meth c H locs cells slots Q (F0 m pc ls (.int v :: .ref (ad 2 j) :: rest)) := by
  subst he
  exact me_put (M1 := wI M 2 j 15 v) (k := 2) (f := 15) (C := "FilterGuard$Code") (T := F_Code) (Nf := 16) hexec hb hts i_Code t_Code t_Code_ok n_Code hown hK hP hD hwf hS hj (by decide) rfl (by decide) (by decide) hlink (fun _ h9 => h9) rfl (me_nz hv) (me_fz hv) rfl (fun a b h => me_wIE h) (me_fIw (by decide) (by decide)) hdg (fun H1 locs1 a1 a2 a3 => kk H1 locs1 a1 a2 (me_wfI hwf (fun z => absurd z (by decide)) (fun _ => hv)) a3)
theorem d_Code_lookAtArithmetic_0 : decode prog_4_method_5_code 0 = .ok (.aload_n 0, 1) := by decide +kernel
theorem d_Code_lookAtArithmetic_1 : decode prog_4_method_5_code 1 = .ok (.getfield 29, 3) := by decide +kernel
theorem d_Code_lookAtArithmetic_4 : decode prog_4_method_5_code 4 = .ok (.bipush 8, 2) := by decide +kernel
theorem d_Code_lookAtArithmetic_6 : decode prog_4_method_5_code 6 = .ok (.iand, 1) := by decide +kernel
theorem d_Code_lookAtArithmetic_7 : decode prog_4_method_5_code 7 = .ok (.ifCond .eq 7, 3) := by decide +kernel
theorem d_Code_lookAtArithmetic_14 : decode prog_4_method_5_code 14 = .ok (.iconst 0, 1) := by decide +kernel
theorem d_Code_lookAtArithmetic_10 : decode prog_4_method_5_code 10 = .ok (.iconst 1, 1) := by decide +kernel
theorem d_Code_lookAtArithmetic_11 : decode prog_4_method_5_code 11 = .ok (.goto 4, 3) := by decide +kernel
abbrev y_Code_lookAtArithmetic : MethodName := ⟨"FilterGuard$Code", "lookAtArithmetic", "(Z)V"⟩
def rm_Code_lookAtArithmetic : Room := { frames := 1, cells := 0, slots := 0, locals := 20 }
abbrev q_Code_lookAtArithmetic (D : va_G) (ad : Nat → Nat → Nat) (ca : Nat → ClassId) (N : Nat → Nat) (M0 MZ : me_M) (A : Nat → Prop) : Array Value → Jvm.State → Outcome → Jvm.State → Prop := va_Qv (fun (_ : Unit) => me_wf N MZ ∧ me_kp M0 MZ) (fg_B D A (fun _ => me_W ad ca MZ) (fun _ => [])) A
set_option maxHeartbeats 4000000 in
set_option maxRecDepth 100000 in
theorem c_Code_lookAtArithmetic (l : Launch) (D : va_G) (ad : Nat → Nat → Nat) (ca : Nat → ClassId) (N : Nat → Nat) (M0 MZ : me_M) (j0 : Nat) (x1 : Int32) (h : f_Code_lookAtArithmetic M0 j0 x1 = (some MZ)) (hwf : me_wf N M0) (hj0 : j0 < N 2) (zx1 : x1 = 1 ∨ x1 = 0) (sz : Nat) : Met l y_Code_lookAtArithmetic (fg_w y_Code_lookAtArithmetic prog_4_method_5_code 3 none) rm_Code_lookAtArithmetic (va_Pc [.ref (ad 2 j0), .int x1] (fz_P D (me_T ca) (me_W ad ca M0) sz)) (q_Code_lookAtArithmetic D ad ca N M0 MZ (va_A (me_W ad ca M0) sz)) rm_Code_lookAtArithmetic.cells rm_Code_lookAtArithmetic.slots (va_A (me_W ad ca M0) sz) := by
  refine fz_enter (fun A => q_Code_lookAtArithmetic D ad ca N M0 MZ A) (by decide +kernel) (Nat.le_of_ble_eq_true rfl) ?_
  intro p e s m below meth c ls A hx hb hml hown hts hr hlocks hin hP hK hD hS hA hX hl hz
  have hl : lv_has ls 3 [(0, .ref (ad 2 j0)), (1, .int x1)] := hl
  unfold f_Code_lookAtArithmetic at h
  have hkp : me_kp M0 M0 := me_kp.rf
  have hkb := hkp
  have b_104 : ∀ (M : me_M) (H : Heap) (locs : List Loc) (ls : Array Slot), f_Code_lookAtArithmetic_b104 j0 M = (some MZ) → me_wf N M → me_kp M0 M → va_P D classes (me_W ad ca M) H → va_D A (me_W ad ca M) → va_S A s.heap H locs → lv_has ls 3 [(0, .ref (ad 2 j0))] → W p l e rm_Code_lookAtArithmetic s m [.ref (ad 2 j0), .int x1].toArray below meth c H locs 0 0 (MQ below (q_Code_lookAtArithmetic D ad ca N M0 MZ A) [.ref (ad 2 j0), .int x1].toArray s rm_Code_lookAtArithmetic.cells rm_Code_lookAtArithmetic.slots A) (F0 m 104 ls []) := by
    intro M H locs ls h hwf hkp hP hD hS hl
    unfold f_Code_lookAtArithmetic_b104 at h
    have hkb := hkp
    refine lv_aload_n hx hb d_Code_lookAtArithmetic_104 rfl (lv_at hl 0 rfl) ?_
    refine lv_bipush (v := 6) hx hb d_Code_lookAtArithmetic_105 (by decide) ?_
    obtain ⟨M1, eM1, h⟩ := st_ob h
    refine p_Code_10 eM1 hx hb hts hown hK hP hD hwf hS hj0 (hts _ u_252) d_Code_lookAtArithmetic_107 (fun H locs hP hD hwf hS => ?_)
    have hkp := kp_I eM1 hkp
    refine lv_aload_n hx hb d_Code_lookAtArithmetic_110 rfl (lv_at hl 0 rfl) ?_
    refine lv_aload_n hx hb d_Code_lookAtArithmetic_111 rfl (lv_at hl 0 rfl) ?_
    refine g_Code_12 hx hb hts hown hK hP hwf hj0 (hts _ u_261) d_Code_lookAtArithmetic_112 ?_
    refine lv_bipush (v := 12) hx hb d_Code_lookAtArithmetic_115 (by decide) ?_
    refine lv_icmp_eq (tgt := 124) hx hb d_Code_lookAtArithmetic_117 (by decide) (fun c2 => ?_) (fun c2 => ?_)
    · have h := if_t c2 h
      refine lv_iconst (v := 0) hx hb d_Code_lookAtArithmetic_124 (by decide) ?_
      obtain ⟨M3, eM3, h⟩ := st_ob h
      refine p_Code_14 eM3 hx hb hts hown hK hP hD hwf hS hj0 (by decide) (hts _ u_270) d_Code_lookAtArithmetic_125 (fun H locs hP hD hwf hS => ?_)
      have hkp := kp_I eM3 hkp
      exact me_retv (me_kp M0) h hx hb hr hlocks hwf hkp hP hK hD hS d_Code_lookAtArithmetic_128
    have h := if_f c2 h
    refine lv_iconst (v := 1) hx hb d_Code_lookAtArithmetic_120 (by decide) ?_
    refine lv_goto (tgt := 125) hx hb d_Code_lookAtArithmetic_121 (by decide) ?_
    obtain ⟨M4, eM4, h⟩ := st_ob h
    refine p_Code_14 eM4 hx hb hts hown hK hP hD hwf hS hj0 (by decide) (hts _ u_270) d_Code_lookAtArithmetic_125 (fun H locs hP hD hwf hS => ?_)
    have hkp := kp_I eM4 hkp
    exact me_retv (me_kp M0) h hx hb hr hlocks hwf hkp hP hK hD hS d_Code_lookAtArithmetic_128
  have b_84 : ∀ (M : me_M) (y2 : Int32) (H : Heap) (locs : List Loc) (ls : Array Slot), f_Code_lookAtArithmetic_b84 j0 M y2 = (some MZ) → (y2 = 1 ∨ y2 = 0) → me_wf N M → me_kp M0 M → va_P D classes (me_W ad ca M) H → va_D A (me_W ad ca M) → va_S A s.heap H locs → lv_has ls 3 [(0, .ref (ad 2 j0)), (2, .int y2)] → W p l e rm_Code_lookAtArithmetic s m [.ref (ad 2 j0), .int x1].toArray below meth c H locs 0 0 (MQ below (q_Code_lookAtArithmetic D ad ca N M0 MZ A) [.ref (ad 2 j0), .int x1].toArray s rm_Code_lookAtArithmetic.cells rm_Code_lookAtArithmetic.slots A) (F0 m 84 ls []) := by
    intro M y2 H locs ls h zy2 hwf hkp hP hD hS hl
    unfold f_Code_lookAtArithmetic_b84 at h
    have hkb := hkp
    refine lv_aload_n hx hb d_Code_lookAtArithmetic_84 rfl (lv_at hl 0 rfl) ?_
    refine g_Code_12 hx hb hts hown hK hP hwf hj0 (hts _ u_261) d_Code_lookAtArithmetic_85 ?_
    refine lv_if_lt (tgt := 128) hx hb d_Code_lookAtArithmetic_88 (by decide) (fun c5 => ?_) (fun c5 => ?_)
    · have h := if_t c5 h
      exact me_retv (me_kp M0) h hx hb hr hlocks hwf hkp hP hK hD hS d_Code_lookAtArithmetic_128
    have h := if_f c5 h
    refine lv_aload_n hx hb d_Code_lookAtArithmetic_91 rfl (lv_at hl 0 rfl) ?_
    refine g_Code_12 hx hb hts hown hK hP hwf hj0 (hts _ u_261) d_Code_lookAtArithmetic_92 ?_
    refine lv_bipush (v := 11) hx hb d_Code_lookAtArithmetic_95 (by decide) ?_
    refine lv_icmp_ne (tgt := 104) hx hb d_Code_lookAtArithmetic_97 (by decide) (fun c6 => ?_) (fun c6 => ?_)
    · have h := if_f c6 h
      exact b_104 M _ _ _ h hwf hkp hP hD hS (lv_sub hl [0] rfl)
    have h := if_t c6 h
    refine lv_iload_n hx hb d_Code_lookAtArithmetic_100 rfl (lv_at hl 1 rfl) ?_
    refine lv_if_ne (tgt := 128) hx hb d_Code_lookAtArithmetic_101 (by decide) (fun c7 => ?_) (fun c7 => ?_)
    · have h := if_f c7 h
      exact me_retv (me_kp M0) h hx hb hr hlocks hwf hkp hP hK hD hS d_Code_lookAtArithmetic_128
    have h := if_t c7 h
    exact b_104 M _ _ _ h hwf hkp hP hD hS (lv_sub hl [0] rfl)
  have b_54 : ∀ (M : me_M) (y2 : Int32) (s0 : Int32) (s1 : Nat) (H : Heap) (locs : List Loc) (ls : Array Slot), f_Code_lookAtArithmetic_b54 j0 M y2 s0 s1 = (some MZ) → (y2 = 1 ∨ y2 = 0) → (s1 < N 2) → me_wf N M → me_kp M0 M → va_P D classes (me_W ad ca M) H → va_D A (me_W ad ca M) → va_S A s.heap H locs → lv_has ls 3 [(0, .ref (ad 2 j0)), (2, .int y2)] → W p l e rm_Code_lookAtArithmetic s m [.ref (ad 2 j0), .int x1].toArray below meth c H locs 0 0 (MQ below (q_Code_lookAtArithmetic D ad ca N M0 MZ A) [.ref (ad 2 j0), .int x1].toArray s rm_Code_lookAtArithmetic.cells rm_Code_lookAtArithmetic.slots A) (F0 m 54 ls [.int s0, .ref (ad 2 s1)]) := by
    intro M y2 s0 s1 H locs ls h zy2 hs1 hwf hkp hP hD hS hl
    unfold f_Code_lookAtArithmetic_b54 at h
    have hkb := hkp
    obtain ⟨M8, eM8, h⟩ := st_ob h
    refine p_Code_12 eM8 hx hb hts hown hK hP hD hwf hS hs1 (hts _ u_261) d_Code_lookAtArithmetic_54 (fun H locs hP hD hwf hS => ?_)
    have hkp := kp_I eM8 hkp
    refine lv_goto (tgt := 84) hx hb d_Code_lookAtArithmetic_57 (by decide) ?_
    exact b_84 M8 y2 _ _ _ h zy2 hwf hkp hP hD hS (lv_sub hl [0, 1] rfl)
  have b_36 : ∀ (M : me_M) (y2 : Int32) (H : Heap) (locs : List Loc) (ls : Array Slot), f_Code_lookAtArithmetic_b36 j0 M y2 = (some MZ) → (y2 = 1 ∨ y2 = 0) → me_wf N M → me_kp M0 M → va_P D classes (me_W ad ca M) H → va_D A (me_W ad ca M) → va_S A s.heap H locs → lv_has ls 3 [(0, .ref (ad 2 j0)), (2, .int y2)] → W p l e rm_Code_lookAtArithmetic s m [.ref (ad 2 j0), .int x1].toArray below meth c H locs 0 0 (MQ below (q_Code_lookAtArithmetic D ad ca N M0 MZ A) [.ref (ad 2 j0), .int x1].toArray s rm_Code_lookAtArithmetic.cells rm_Code_lookAtArithmetic.slots A) (F0 m 36 ls []) := by
    intro M y2 H locs ls h zy2 hwf hkp hP hD hS hl
    unfold f_Code_lookAtArithmetic_b36 at h
    have hkb := hkp
    refine lv_aload_n hx hb d_Code_lookAtArithmetic_36 rfl (lv_at hl 0 rfl) ?_
    refine lv_aload_n hx hb d_Code_lookAtArithmetic_37 rfl (lv_at hl 0 rfl) ?_
    refine g_Code_5 hx hb hts hown hK hP hwf hj0 (hts _ u_231) d_Code_lookAtArithmetic_38 ?_
    refine lv_sipush (v := 212) hx hb d_Code_lookAtArithmetic_41 (by decide) ?_
    refine lv_icmp_ne (tgt := 52) hx hb d_Code_lookAtArithmetic_44 (by decide) (fun c9 => ?_) (fun c9 => ?_)
    · have h := if_f c9 h
      refine lv_bipush (v := 13) hx hb d_Code_lookAtArithmetic_52 (by decide) ?_
      exact b_54 M y2 (13 : Int32) j0 _ _ _ h zy2 hj0 hwf hkp hP hD hS (lv_sub hl [0, 1] rfl)
    have h := if_t c9 h
    refine lv_bipush (v := 14) hx hb d_Code_lookAtArithmetic_47 (by decide) ?_
    refine lv_goto (tgt := 54) hx hb d_Code_lookAtArithmetic_49 (by decide) ?_
    exact b_54 M y2 (14 : Int32) j0 _ _ _ h zy2 hj0 hwf hkp hP hD hS (lv_sub hl [0, 1] rfl)
  have b_15 : ∀ (M : me_M) (s0 : Int32) (H : Heap) (locs : List Loc) (ls : Array Slot), f_Code_lookAtArithmetic_b15 j0 x1 M s0 = (some MZ) → (s0 = 1 ∨ s0 = 0) → me_wf N M → me_kp M0 M → va_P D classes (me_W ad ca M) H → va_D A (me_W ad ca M) → va_S A s.heap H locs → lv_has ls 3 [(0, .ref (ad 2 j0)), (1, .int x1)] → W p l e rm_Code_lookAtArithmetic s m [.ref (ad 2 j0), .int x1].toArray below meth c H locs 0 0 (MQ below (q_Code_lookAtArithmetic D ad ca N M0 MZ A) [.ref (ad 2 j0), .int x1].toArray s rm_Code_lookAtArithmetic.cells rm_Code_lookAtArithmetic.slots A) (F0 m 15 ls [.int s0]) := by
    intro M s0 H locs ls h zs0 hwf hkp hP hD hS hl
    unfold f_Code_lookAtArithmetic_b15 at h
    have hkb := hkp
    refine lv_istore_n (lv' := [(2, .int s0), (0, .ref (ad 2 j0)), (1, .int x1)]) hx hb d_Code_lookAtArithmetic_15 rfl hl (by decide) rfl (fun ls hl => ?_)
    refine lv_aload_n hx hb d_Code_lookAtArithmetic_16 rfl (lv_at hl 1 rfl) ?_
    refine g_Code_5 hx hb hts hown hK hP hwf hj0 (hts _ u_231) d_Code_lookAtArithmetic_17 ?_
    refine lv_sipush (v := 212) hx hb d_Code_lookAtArithmetic_20 (by decide) ?_
    refine lv_icmp_eq (tgt := 36) hx hb d_Code_lookAtArithmetic_23 (by decide) (fun c10 => ?_) (fun c10 => ?_)
    · have h := if_t c10 h
      exact b_36 M s0 _ _ _ h zs0 hwf hkp hP hD hS (lv_sub hl [1, 0] rfl)
    have h := if_f c10 h
    refine lv_aload_n hx hb d_Code_lookAtArithmetic_26 rfl (lv_at hl 1 rfl) ?_
    refine g_Code_5 hx hb hts hown hK hP hwf hj0 (hts _ u_231) d_Code_lookAtArithmetic_27 ?_
    refine lv_sipush (v := 220) hx hb d_Code_lookAtArithmetic_30 (by decide) ?_
    refine lv_icmp_ne (tgt := 60) hx hb d_Code_lookAtArithmetic_33 (by decide) (fun c11 => ?_) (fun c11 => ?_)
    · have h := if_f c11 h
      refine lv_aload_n hx hb d_Code_lookAtArithmetic_60 rfl (lv_at hl 1 rfl) ?_
      obtain ⟨t12, ht12, hs12, hna12, hnl12⟩ := hz.2.1
      refine va_getsN hx hb ht12 hS hown (va_Nw.use rfl (hX _ o_971 rfl)) (fun _ h9 => h9) d_Code_lookAtArithmetic_61 ?_
      refine lv_aload_n hx hb d_Code_lookAtArithmetic_64 rfl (lv_at hl 1 rfl) ?_
      refine g_Code_5 hx hb hts hown hK hP hwf hj0 (hts _ u_231) d_Code_lookAtArithmetic_65 ?_
      refine lv_iconst (v := 4) hx hb d_Code_lookAtArithmetic_68 (by decide) ?_
      refine lv_ishr hx hb d_Code_lookAtArithmetic_69 ?_
      refine fg_topi (y := jishr (mI M 2 j0 5) 4) rfl ?_
      obtain ⟨g13, h⟩ := gd_ob h
      refine va_sld hx hb hs12 hnl12 hna12 hS g13 d_Code_lookAtArithmetic_70 ?_
      obtain ⟨M14, eM14, h⟩ := st_ob h
      refine p_Code_12 eM14 hx hb hts hown hK hP hD hwf hS hj0 (hts _ u_261) d_Code_lookAtArithmetic_71 (fun H locs hP hD hwf hS => ?_)
      have hkp := kp_I eM14 hkp
      refine lv_aload_n hx hb d_Code_lookAtArithmetic_74 rfl (lv_at hl 1 rfl) ?_
      refine lv_iload_n hx hb d_Code_lookAtArithmetic_75 rfl (lv_at hl 2 rfl) ?_
      obtain ⟨M15, eM15, h⟩ := st_ob h
      refine p_Code_13 eM15 hx hb hts hown hK hP hD hwf hS hj0 zx1 (hts _ u_265) d_Code_lookAtArithmetic_76 (fun H locs hP hD hwf hS => ?_)
      have hkp := kp_I eM15 hkp
      refine lv_aload_n hx hb d_Code_lookAtArithmetic_79 rfl (lv_at hl 1 rfl) ?_
      refine lv_iload_n hx hb d_Code_lookAtArithmetic_80 rfl (lv_at hl 0 rfl) ?_
      obtain ⟨M16, eM16, h⟩ := st_ob h
      refine p_Code_15 eM16 hx hb hts hown hK hP hD hwf hS hj0 zs0 (hts _ u_273) d_Code_lookAtArithmetic_81 (fun H locs hP hD hwf hS => ?_)
      have hkp := kp_I eM16 hkp
      exact b_84 M16 s0 _ _ _ h zs0 hwf hkp hP hD hS (lv_sub hl [1, 0] rfl)
    have h := if_t c11 h
    exact b_36 M s0 _ _ _ h zs0 hwf hkp hP hD hS (lv_sub hl [1, 0] rfl)
  refine lv_aload_n hx hb d_Code_lookAtArithmetic_0 rfl (lv_at hl 0 rfl) ?_
  refine g_Code_5 hx hb hts hown hK hP hwf hj0 (hts _ u_231) d_Code_lookAtArithmetic_1 ?_
  refine lv_bipush (v := 8) hx hb d_Code_lookAtArithmetic_4 (by decide) ?_
  refine lv_iand hx hb d_Code_lookAtArithmetic_6 ?_
  refine lv_if_eq (tgt := 14) hx hb d_Code_lookAtArithmetic_7 (by decide) (fun c17 => ?_) (fun c17 => ?_)
  · have h := if_t c17 h
    refine lv_iconst (v := 0) hx hb d_Code_lookAtArithmetic_14 (by decide) ?_
    exact b_15 M0 (0 : Int32) _ _ _ h (by decide) hwf hkp hP hD hS (lv_sub hl [0, 1] rfl)
  have h := if_f c17 h
  refine lv_iconst (v := 1) hx hb d_Code_lookAtArithmetic_10 (by decide) ?_
  refine lv_goto (tgt := 15) hx hb d_Code_lookAtArithmetic_11 (by decide) ?_
  exact b_15 M0 (1 : Int32) _ _ _ h (by decide) hwf hkp hP hD hS (lv_sub hl [0, 1] rfl)
theorem d_Code_lookAtJump_0 : decode prog_4_method_6_code 0 = .ok (.aload_n 0, 1) := by decide +kernel
theorem d_Code_lookAtJump_1 : decode prog_4_method_6_code 1 = .ok (.getstatic 81, 3) := by decide +kernel
theorem o_977 : Cond.fieldLinkNest "FilterGuard$Code" 81 "FilterGuard" "RELATIONS" "[I" "FilterGuard" ∈ lw_tbl := List.mem_of_getElem? (i := 977) (by decide +kernel)
theorem d_Code_lookAtJump_4 : decode prog_4_method_6_code 4 = .ok (.aload_n 0, 1) := by decide +kernel
theorem d_Code_lookAtJump_5 : decode prog_4_method_6_code 5 = .ok (.getfield 29, 3) := by decide +kernel
theorem d_Code_lookAtJump_8 : decode prog_4_method_6_code 8 = .ok (.iconst 4, 1) := by decide +kernel
theorem d_Code_lookAtJump_9 : decode prog_4_method_6_code 9 = .ok (.ishr, 1) := by decide +kernel
theorem d_Code_lookAtJump_10 : decode prog_4_method_6_code 10 = .ok (.iaload, 1) := by decide +kernel
theorem d_Code_lookAtJump_11 : decode prog_4_method_6_code 11 = .ok (.putfield 58, 3) := by decide +kernel
theorem d_Code_lookAtJump_14 : decode prog_4_method_6_code 14 = .ok (.aload_n 0, 1) := by decide +kernel
theorem d_Code_lookAtJump_15 : decode prog_4_method_6_code 15 = .ok (.getfield 58, 3) := by decide +kernel
theorem d_Code_lookAtJump_18 : decode prog_4_method_6_code 18 = .ok (.ifCond .lt 41, 3) := by decide +kernel
theorem d_Code_lookAtJump_59 : decode prog_4_method_6_code 59 = .ok (.aload_n 0, 1) := by decide +kernel
theorem d_Code_lookAtJump_60 : decode prog_4_method_6_code 60 = .ok (.getfield 29, 3) := by decide +kernel
theorem d_Code_lookAtJump_63 : decode prog_4_method_6_code 63 = .ok (.iconst 5, 1) := by decide +kernel
theorem d_Code_lookAtJump_64 : decode prog_4_method_6_code 64 = .ok (.if_icmp .ne 12, 3) := by decide +kernel
theorem d_Code_lookAtJump_76 : decode prog_4_method_6_code 76 = .ok (.aload_n 0, 1) := by decide +kernel
theorem d_Code_lookAtJump_77 : decode prog_4_method_6_code 77 = .ok (.getfield 29, 3) := by decide +kernel
theorem d_Code_lookAtJump_80 : decode prog_4_method_6_code 80 = .ok (.sipush 133, 3) := by decide +kernel
theorem d_Code_lookAtJump_83 : decode prog_4_method_6_code 83 = .ok (.if_icmp .ne 12, 3) := by decide +kernel
theorem d_Code_lookAtJump_95 : decode prog_4_method_6_code 95 = .ok (.aload_n 0, 1) := by decide +kernel
theorem d_Code_lookAtJump_96 : decode prog_4_method_6_code 96 = .ok (.getfield 29, 3) := by decide +kernel
theorem d_Code_lookAtJump_99 : decode prog_4_method_6_code 99 = .ok (.sipush 149, 3) := by decide +kernel
theorem d_Code_lookAtJump_102 : decode prog_4_method_6_code 102 = .ok (.if_icmp .ne 9, 3) := by decide +kernel
theorem d_Code_lookAtJump_111 : decode prog_4_method_6_code 111 = .ok (.return_, 1) := by decide +kernel
theorem d_Code_lookAtJump_105 : decode prog_4_method_6_code 105 = .ok (.aload_n 0, 1) := by decide +kernel
theorem d_Code_lookAtJump_106 : decode prog_4_method_6_code 106 = .ok (.bipush 10, 2) := by decide +kernel
theorem d_Code_lookAtJump_108 : decode prog_4_method_6_code 108 = .ok (.putfield 55, 3) := by decide +kernel
theorem d_Code_lookAtJump_86 : decode prog_4_method_6_code 86 = .ok (.aload_n 0, 1) := by decide +kernel
theorem d_Code_lookAtJump_87 : decode prog_4_method_6_code 87 = .ok (.bipush 9, 2) := by decide +kernel
theorem d_Code_lookAtJump_89 : decode prog_4_method_6_code 89 = .ok (.putfield 55, 3) := by decide +kernel
theorem d_Code_lookAtJump_92 : decode prog_4_method_6_code 92 = .ok (.goto 19, 3) := by decide +kernel
theorem d_Code_lookAtJump_67 : decode prog_4_method_6_code 67 = .ok (.aload_n 0, 1) := by decide +kernel
theorem d_Code_lookAtJump_68 : decode prog_4_method_6_code 68 = .ok (.bipush 7, 2) := by decide +kernel
theorem d_Code_lookAtJump_70 : decode prog_4_method_6_code 70 = .ok (.putfield 55, 3) := by decide +kernel
theorem d_Code_lookAtJump_73 : decode prog_4_method_6_code 73 = .ok (.goto 38, 3) := by decide +kernel
theorem d_Code_lookAtJump_21 : decode prog_4_method_6_code 21 = .ok (.aload_n 0, 1) := by decide +kernel
theorem d_Code_lookAtJump_22 : decode prog_4_method_6_code 22 = .ok (.bipush 8, 2) := by decide +kernel
theorem d_Code_lookAtJump_24 : decode prog_4_method_6_code 24 = .ok (.putfield 55, 3) := by decide +kernel
theorem d_Code_lookAtJump_27 : decode prog_4_method_6_code 27 = .ok (.aload_n 0, 1) := by decide +kernel
theorem d_Code_lookAtJump_28 : decode prog_4_method_6_code 28 = .ok (.iload_n 1, 1) := by decide +kernel
theorem d_Code_lookAtJump_29 : decode prog_4_method_6_code 29 = .ok (.putfield 61, 3) := by decide +kernel
theorem d_Code_lookAtJump_32 : decode prog_4_method_6_code 32 = .ok (.aload_n 0, 1) := by decide +kernel
theorem d_Code_lookAtJump_33 : decode prog_4_method_6_code 33 = .ok (.iconst 1, 1) := by decide +kernel
theorem d_Code_lookAtJump_34 : decode prog_4_method_6_code 34 = .ok (.putfield 65, 3) := by decide +kernel
theorem d_Code_lookAtJump_37 : decode prog_4_method_6_code 37 = .ok (.aload_n 0, 1) := by decide +kernel
theorem d_Code_lookAtJump_38 : decode prog_4_method_6_code 38 = .ok (.aload_n 0, 1) := by decide +kernel
theorem d_Code_lookAtJump_39 : decode prog_4_method_6_code 39 = .ok (.getfield 29, 3) := by decide +kernel
theorem d_Code_lookAtJump_42 : decode prog_4_method_6_code 42 = .ok (.bipush 8, 2) := by decide +kernel
theorem d_Code_lookAtJump_44 : decode prog_4_method_6_code 44 = .ok (.iand, 1) := by decide +kernel
theorem d_Code_lookAtJump_45 : decode prog_4_method_6_code 45 = .ok (.ifCond .eq 7, 3) := by decide +kernel
theorem d_Code_lookAtJump_52 : decode prog_4_method_6_code 52 = .ok (.iconst 0, 1) := by decide +kernel
theorem d_Code_lookAtJump_53 : decode prog_4_method_6_code 53 = .ok (.putfield 68, 3) := by decide +kernel
theorem d_Code_lookAtJump_56 : decode prog_4_method_6_code 56 = .ok (.goto 55, 3) := by decide +kernel
theorem d_Code_lookAtJump_48 : decode prog_4_method_6_code 48 = .ok (.iconst 1, 1) := by decide +kernel
theorem d_Code_lookAtJump_49 : decode prog_4_method_6_code 49 = .ok (.goto 4, 3) := by decide +kernel
abbrev y_Code_lookAtJump : MethodName := ⟨"FilterGuard$Code", "lookAtJump", "(Z)V"⟩
def rm_Code_lookAtJump : Room := { frames := 1, cells := 0, slots := 0, locals := 20 }
abbrev q_Code_lookAtJump (D : va_G) (ad : Nat → Nat → Nat) (ca : Nat → ClassId) (N : Nat → Nat) (M0 MZ : me_M) (A : Nat → Prop) : Array Value → Jvm.State → Outcome → Jvm.State → Prop := va_Qv (fun (_ : Unit) => me_wf N MZ ∧ me_kp M0 MZ) (fg_B D A (fun _ => me_W ad ca MZ) (fun _ => [])) A
set_option maxHeartbeats 4000000 in
set_option maxRecDepth 100000 in
theorem c_Code_lookAtJump (l : Launch) (D : va_G) (ad : Nat → Nat → Nat) (ca : Nat → ClassId) (N : Nat → Nat) (M0 MZ : me_M) (j0 : Nat) (x1 : Int32) (h : f_Code_lookAtJump M0 j0 x1 = (some MZ)) (hwf : me_wf N M0) (hj0 : j0 < N 2) (zx1 : x1 = 1 ∨ x1 = 0) (sz : Nat) : Met l y_Code_lookAtJump (fg_w y_Code_lookAtJump prog_4_method_6_code 2 none) rm_Code_lookAtJump (va_Pc [.ref (ad 2 j0), .int x1] (fz_P D (me_T ca) (me_W ad ca M0) sz)) (q_Code_lookAtJump D ad ca N M0 MZ (va_A (me_W ad ca M0) sz)) rm_Code_lookAtJump.cells rm_Code_lookAtJump.slots (va_A (me_W ad ca M0) sz) := by
  refine fz_enter (fun A => q_Code_lookAtJump D ad ca N M0 MZ A) (by decide +kernel) (Nat.le_of_ble_eq_true rfl) ?_
  intro p e s m below meth c ls A hx hb hml hown hts hr hlocks hin hP hK hD hS hA hX hl hz
  have hl : lv_has ls 2 [(0, .ref (ad 2 j0)), (1, .int x1)] := hl
  unfold f_Code_lookAtJump at h
  have hkp : me_kp M0 M0 := me_kp.rf
  have hkb := hkp
  refine lv_aload_n hx hb d_Code_lookAtJump_0 rfl (lv_at hl 0 rfl) ?_
  obtain ⟨t1, ht1, hs1, hna1, hnl1⟩ := hz.2.2.1
  refine va_getsN hx hb ht1 hS hown (va_Nw.use rfl (hX _ o_977 rfl)) (fun _ h9 => h9) d_Code_lookAtJump_1 ?_
  refine lv_aload_n hx hb d_Code_lookAtJump_4 rfl (lv_at hl 0 rfl) ?_
  refine g_Code_5 hx hb hts hown hK hP hwf hj0 (hts _ u_231) d_Code_lookAtJump_5 ?_
  refine lv_iconst (v := 4) hx hb d_Code_lookAtJump_8 (by decide) ?_
  refine lv_ishr hx hb d_Code_lookAtJump_9 ?_
  refine fg_topi (y := jishr (mI M0 2 j0 5) 4) rfl ?_
  obtain ⟨g2, h⟩ := gd_ob h
  refine va_sld hx hb hs1 hnl1 hna1 hS g2 d_Code_lookAtJump_10 ?_
  obtain ⟨M3, eM3, h⟩ := st_ob h
  refine p_Code_12 eM3 hx hb hts hown hK hP hD hwf hS hj0 (hts _ u_261) d_Code_lookAtJump_11 (fun H locs hP hD hwf hS => ?_)
  have hkp := kp_I eM3 hkp
  refine lv_aload_n hx hb d_Code_lookAtJump_14 rfl (lv_at hl 0 rfl) ?_
  refine g_Code_12 hx hb hts hown hK hP hwf hj0 (hts _ u_261) d_Code_lookAtJump_15 ?_
  refine lv_if_lt (tgt := 59) hx hb d_Code_lookAtJump_18 (by decide) (fun c4 => ?_) (fun c4 => ?_)
  · have h := if_t c4 h
    refine lv_aload_n hx hb d_Code_lookAtJump_59 rfl (lv_at hl 0 rfl) ?_
    refine g_Code_5 hx hb hts hown hK hP hwf hj0 (hts _ u_231) d_Code_lookAtJump_60 ?_
    refine lv_iconst (v := 5) hx hb d_Code_lookAtJump_63 (by decide) ?_
    refine lv_icmp_ne (tgt := 76) hx hb d_Code_lookAtJump_64 (by decide) (fun c5 => ?_) (fun c5 => ?_)
    · have h := if_f c5 h
      refine lv_aload_n hx hb d_Code_lookAtJump_76 rfl (lv_at hl 0 rfl) ?_
      refine g_Code_5 hx hb hts hown hK hP hwf hj0 (hts _ u_231) d_Code_lookAtJump_77 ?_
      refine lv_sipush (v := 133) hx hb d_Code_lookAtJump_80 (by decide) ?_
      refine lv_icmp_ne (tgt := 95) hx hb d_Code_lookAtJump_83 (by decide) (fun c6 => ?_) (fun c6 => ?_)
      · have h := if_f c6 h
        refine lv_aload_n hx hb d_Code_lookAtJump_95 rfl (lv_at hl 0 rfl) ?_
        refine g_Code_5 hx hb hts hown hK hP hwf hj0 (hts _ u_231) d_Code_lookAtJump_96 ?_
        refine lv_sipush (v := 149) hx hb d_Code_lookAtJump_99 (by decide) ?_
        refine lv_icmp_ne (tgt := 111) hx hb d_Code_lookAtJump_102 (by decide) (fun c7 => ?_) (fun c7 => ?_)
        · have h := if_f c7 h
          exact me_retv (me_kp M0) h hx hb hr hlocks hwf hkp hP hK hD hS d_Code_lookAtJump_111
        have h := if_t c7 h
        refine lv_aload_n hx hb d_Code_lookAtJump_105 rfl (lv_at hl 0 rfl) ?_
        refine lv_bipush (v := 10) hx hb d_Code_lookAtJump_106 (by decide) ?_
        obtain ⟨M8, eM8, h⟩ := st_ob h
        refine p_Code_10 eM8 hx hb hts hown hK hP hD hwf hS hj0 (hts _ u_252) d_Code_lookAtJump_108 (fun H locs hP hD hwf hS => ?_)
        have hkp := kp_I eM8 hkp
        exact me_retv (me_kp M0) h hx hb hr hlocks hwf hkp hP hK hD hS d_Code_lookAtJump_111
      have h := if_t c6 h
      refine lv_aload_n hx hb d_Code_lookAtJump_86 rfl (lv_at hl 0 rfl) ?_
      refine lv_bipush (v := 9) hx hb d_Code_lookAtJump_87 (by decide) ?_
      obtain ⟨M9, eM9, h⟩ := st_ob h
      refine p_Code_10 eM9 hx hb hts hown hK hP hD hwf hS hj0 (hts _ u_252) d_Code_lookAtJump_89 (fun H locs hP hD hwf hS => ?_)
      have hkp := kp_I eM9 hkp
      refine lv_goto (tgt := 111) hx hb d_Code_lookAtJump_92 (by decide) ?_
      exact me_retv (me_kp M0) h hx hb hr hlocks hwf hkp hP hK hD hS d_Code_lookAtJump_111
    have h := if_t c5 h
    refine lv_aload_n hx hb d_Code_lookAtJump_67 rfl (lv_at hl 0 rfl) ?_
    refine lv_bipush (v := 7) hx hb d_Code_lookAtJump_68 (by decide) ?_
    obtain ⟨M10, eM10, h⟩ := st_ob h
    refine p_Code_10 eM10 hx hb hts hown hK hP hD hwf hS hj0 (hts _ u_252) d_Code_lookAtJump_70 (fun H locs hP hD hwf hS => ?_)
    have hkp := kp_I eM10 hkp
    refine lv_goto (tgt := 111) hx hb d_Code_lookAtJump_73 (by decide) ?_
    exact me_retv (me_kp M0) h hx hb hr hlocks hwf hkp hP hK hD hS d_Code_lookAtJump_111
  have h := if_f c4 h
  refine lv_aload_n hx hb d_Code_lookAtJump_21 rfl (lv_at hl 0 rfl) ?_
  refine lv_bipush (v := 8) hx hb d_Code_lookAtJump_22 (by decide) ?_
  obtain ⟨M11, eM11, h⟩ := st_ob h
  refine p_Code_10 eM11 hx hb hts hown hK hP hD hwf hS hj0 (hts _ u_252) d_Code_lookAtJump_24 (fun H locs hP hD hwf hS => ?_)
  have hkp := kp_I eM11 hkp
  refine lv_aload_n hx hb d_Code_lookAtJump_27 rfl (lv_at hl 0 rfl) ?_
  refine lv_iload_n hx hb d_Code_lookAtJump_28 rfl (lv_at hl 1 rfl) ?_
  obtain ⟨M12, eM12, h⟩ := st_ob h
  refine p_Code_13 eM12 hx hb hts hown hK hP hD hwf hS hj0 zx1 (hts _ u_265) d_Code_lookAtJump_29 (fun H locs hP hD hwf hS => ?_)
  have hkp := kp_I eM12 hkp
  refine lv_aload_n hx hb d_Code_lookAtJump_32 rfl (lv_at hl 0 rfl) ?_
  refine lv_iconst (v := 1) hx hb d_Code_lookAtJump_33 (by decide) ?_
  obtain ⟨M13, eM13, h⟩ := st_ob h
  refine p_Code_14 eM13 hx hb hts hown hK hP hD hwf hS hj0 (by decide) (hts _ u_270) d_Code_lookAtJump_34 (fun H locs hP hD hwf hS => ?_)
  have hkp := kp_I eM13 hkp
  refine lv_aload_n hx hb d_Code_lookAtJump_37 rfl (lv_at hl 0 rfl) ?_
  refine lv_aload_n hx hb d_Code_lookAtJump_38 rfl (lv_at hl 0 rfl) ?_
  refine g_Code_5 hx hb hts hown hK hP hwf hj0 (hts _ u_231) d_Code_lookAtJump_39 ?_
  refine lv_bipush (v := 8) hx hb d_Code_lookAtJump_42 (by decide) ?_
  refine lv_iand hx hb d_Code_lookAtJump_44 ?_
  refine lv_if_eq (tgt := 52) hx hb d_Code_lookAtJump_45 (by decide) (fun c14 => ?_) (fun c14 => ?_)
  · have h := if_t c14 h
    refine lv_iconst (v := 0) hx hb d_Code_lookAtJump_52 (by decide) ?_
    obtain ⟨M15, eM15, h⟩ := st_ob h
    refine p_Code_15 eM15 hx hb hts hown hK hP hD hwf hS hj0 (by decide) (hts _ u_273) d_Code_lookAtJump_53 (fun H locs hP hD hwf hS => ?_)
    have hkp := kp_I eM15 hkp
    refine lv_goto (tgt := 111) hx hb d_Code_lookAtJump_56 (by decide) ?_
    exact me_retv (me_kp M0) h hx hb hr hlocks hwf hkp hP hK hD hS d_Code_lookAtJump_111
  have h := if_f c14 h
  refine lv_iconst (v := 1) hx hb d_Code_lookAtJump_48 (by decide) ?_
  refine lv_goto (tgt := 53) hx hb d_Code_lookAtJump_49 (by decide) ?_
  obtain ⟨M16, eM16, h⟩ := st_ob h
  refine p_Code_15 eM16 hx hb hts hown hK hP hD hwf hS hj0 (by decide) (hts _ u_273) d_Code_lookAtJump_53 (fun H locs hP hD hwf hS => ?_)
  have hkp := kp_I eM16 hkp
  refine lv_goto (tgt := 111) hx hb d_Code_lookAtJump_56 (by decide) ?_
  exact me_retv (me_kp M0) h hx hb hr hlocks hwf hkp hP hK hD hS d_Code_lookAtJump_111
