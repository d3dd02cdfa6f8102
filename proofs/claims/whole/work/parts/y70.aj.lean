theorem d_Cell_become_0 : decode prog_2_method_7_code 0 = .ok (.aload_n 0, 1) := by decide +kernel
theorem d_Cell_become_1 : decode prog_2_method_7_code 1 = .ok (.iload_n 1, 1) := by decide +kernel
theorem d_Cell_become_2 : decode prog_2_method_7_code 2 = .ok (.putfield 18, 3) := by decide +kernel
theorem d_Cell_become_5 : decode prog_2_method_7_code 5 = .ok (.aload_n 0, 1) := by decide +kernel
theorem d_Cell_become_6 : decode prog_2_method_7_code 6 = .ok (.iload_n 2, 1) := by decide +kernel
theorem d_Cell_become_7 : decode prog_2_method_7_code 7 = .ok (.putfield 25, 3) := by decide +kernel
theorem u_424 : Cond.fieldLink "FilterGuard$Cell" 25 "FilterGuard$Cell" "place" "I" ∈ fg_g := fg_in (List.mem_of_getElem? (i := 424) (by decide +kernel)) rfl
theorem p_Cell_1 {p : Program} {l : Launch} {e : Env} {R : Room} {s : Jvm.State} {m : MethodId} {args : Array Value} {below : List Frame} {meth : Method} {c : Code} {H : Heap} {locs : List Loc} {cells slots : Nat} {Q : Jvm.State → Prop} {cc : ByteArray} {pc : Nat} {ls : Array Slot} {rest : List Value} {D : va_G} {A : Nat → Prop} {H0 : Heap} {ad : Nat → Nat → Nat} {ca : Nat → ClassId} {M M1 : me_M} {N : Nat → Nat} {own : String} {index j : Nat} {v : Int32} (he : M1 = wI M 10 j 1 v) (hexec : p.tables.exec = Jvm.exec) (hb : c.code = cc) (hts : ∀ w ∈ fg_g, w.before args s = true) (hown : s.vm.findClass own = some m.cls) (hK : va_K D classes (me_T ca) s) (hP : va_P D classes (me_W ad ca M) H) (hD : va_D A (me_W ad ca M)) (hwf : me_wf N M) (hS : va_S A H0 H locs) (hj : j < N 10) (hlink : (Cond.fieldLink own index "FilterGuard$Cell" "place" "I").before args s = true) (hdg : decode cc pc = .ok (.putfield index, 3)) (kk : ∀ (H1 : Heap) (locs1 : List Loc), va_P D classes (me_W ad ca M1) H1 → va_D A (me_W ad ca M1) → me_wf N M1 → va_S A H0 H1 locs1 → W p l e R s m args below meth c H1 locs1 cells slots Q (F0 m (pc + 3) ls rest)) : W p l e R s m args below meth c H locs cells slots Q (F0 m pc ls (.int v :: .ref (ad 10 j) :: rest)) := by
  subst he
  exact me_put (M1 := wI M 10 j 1 v) (k := 10) (f := 1) (C := "FilterGuard$Cell") (T := F_Cell) (Nf := 7) hexec hb hts i_Cell t_Cell t_Cell_ok n_Cell hown hK hP hD hwf hS hj (by decide) rfl (by decide) (by decide) hlink (fun _ h9 => h9) rfl rfl rfl rfl (fun a b h => me_wIE h) (me_fIw (by decide) (by decide)) hdg (fun H1 locs1 a1 a2 a3 => kk H1 locs1 a1 a2 (me_wfI hwf (fun z => absurd z (by decide)) (fun z => absurd z (by decide))) a3)
theorem d_Cell_become_10 : decode prog_2_method_7_code 10 = .ok (.aload_n 0, 1) := by decide +kernel
theorem d_Cell_become_11 : decode prog_2_method_7_code 11 = .ok (.iconst 0, 1) := by decide +kernel
theorem d_Cell_become_12 : decode prog_2_method_7_code 12 = .ok (.putfield 28, 3) := by decide +kernel
theorem u_426 : Cond.fieldLink "FilterGuard$Cell" 28 "FilterGuard$Cell" "mapNumber" "I" ∈ fg_g := fg_in (List.mem_of_getElem? (i := 426) (by decide +kernel)) rfl
theorem p_Cell_2 {p : Program} {l : Launch} {e : Env} {R : Room} {s : Jvm.State} {m : MethodId} {args : Array Value} {below : List Frame} {meth : Method} {c : Code} {H : Heap} {locs : List Loc} {cells slots : Nat} {Q : Jvm.State → Prop} {cc : ByteArray} {pc : Nat} {ls : Array Slot} {rest : List Value} {D : va_G} {A : Nat → Prop} {H0 : Heap} {ad : Nat → Nat → Nat} {ca : Nat → ClassId} {M M1 : me_M} {N : Nat → Nat} {own : String} {index j : Nat} {v : Int32} (he : M1 = wI M 10 j 2 v) (hexec : p.tables.exec = Jvm.exec) (hb : c.code = cc) (hts : ∀ w ∈ fg_g, w.before args s = true) (hown : s.vm.findClass own = some m.cls) (hK : va_K D classes (me_T ca) s) (hP : va_P D classes (me_W ad ca M) H) (hD : va_D A (me_W ad ca M)) (hwf : me_wf N M) (hS : va_S A H0 H locs) (hj : j < N 10) (hlink : (Cond.fieldLink own index "FilterGuard$Cell" "mapNumber" "I").before args s = true) (hdg : decode cc pc = .ok (.putfield index, 3)) (kk : ∀ (H1 : Heap) (locs1 : List Loc), va_P D classes (me_W ad ca M1) H1 → va_D A (me_W ad ca M1) → me_wf N M1 → va_S A H0 H1 locs1 → W p l e R s m args below meth c H1 locs1 cells slots Q (F0 m (pc + 3) ls rest)) : W p l e R s m args below meth c H locs cells slots Q (F0 m pc ls (.int v :: .ref (ad 10 j) :: rest)) := by
  subst he
  exact me_put (M1 := wI M 10 j 2 v) (k := 10) (f := 2) (C := "FilterGuard$Cell") (T := F_Cell) (Nf := 7) hexec hb hts i_Cell t_Cell t_Cell_ok n_Cell hown hK hP hD hwf hS hj (by decide) rfl (by decide) (by decide) hlink (fun _ h9 => h9) rfl rfl rfl rfl (fun a b h => me_wIE h) (me_fIw (by decide) (by decide)) hdg (fun H1 locs1 a1 a2 a3 => kk H1 locs1 a1 a2 (me_wfI hwf (fun z => absurd z (by decide)) (fun z => absurd z (by decide))) a3)
theorem d_Cell_become_15 : decode prog_2_method_7_code 15 = .ok (.aload_n 0, 1) := by decide +kernel
theorem d_Cell_become_16 : decode prog_2_method_7_code 16 = .ok (.iconst 0, 1) := by decide +kernel
theorem d_Cell_become_17 : decode prog_2_method_7_code 17 = .ok (.putfield 31, 3) := by decide +kernel
theorem u_428 : Cond.fieldLink "FilterGuard$Cell" 31 "FilterGuard$Cell" "identity" "I" ∈ fg_g := fg_in (List.mem_of_getElem? (i := 428) (by decide +kernel)) rfl
theorem p_Cell_3 {p : Program} {l : Launch} {e : Env} {R : Room} {s : Jvm.State} {m : MethodId} {args : Array Value} {below : List Frame} {meth : Method} {c : Code} {H : Heap} {locs : List Loc} {cells slots : Nat} {Q : Jvm.State → Prop} {cc : ByteArray} {pc : Nat} {ls : Array Slot} {rest : List Value} {D : va_G} {A : Nat → Prop} {H0 : Heap} {ad : Nat → Nat → Nat} {ca : Nat → ClassId} {M M1 : me_M} {N : Nat → Nat} {own : String} {index j : Nat} {v : Int32} (he : M1 = wI M 10 j 3 v) (hexec : p.tables.exec = Jvm.exec) (hb : c.code = cc) (hts : ∀ w ∈ fg_g, w.before args s = true) (hown : s.vm.findClass own = some m.cls) (hK : va_K D classes (me_T ca) s) (hP : va_P D classes (me_W ad ca M) H) (hD : va_D A (me_W ad ca M)) (hwf : me_wf N M) (hS : va_S A H0 H locs) (hj : j < N 10) (hlink : (Cond.fieldLink own index "FilterGuard$Cell" "identity" "I").before args s = true) (hdg : decode cc pc = .ok (.putfield index, 3)) (kk : ∀ (H1 : Heap) (locs1 : List Loc), va_P D classes (me_W ad ca M1) H1 → va_D A (me_W ad ca M1) → me_wf N M1 → va_S A H0 H1 locs1 → W p l e R s m args below meth c H1 locs1 cells slots Q (F0 m (pc + 3) ls rest)) : W p l e R s m args below meth c H locs cells slots Q (F0 m pc ls (.int v :: .ref (ad 10 j) :: rest)) := by
  subst he
  exact me_put (M1 := wI M 10 j 3 v) (k := 10) (f := 3) (C := "FilterGuard$Cell") (T := F_Cell) (Nf := 7) hexec hb hts i_Cell t_Cell t_Cell_ok n_Cell hown hK hP hD hwf hS hj (by decide) rfl (by decide) (by decide) hlink (fun _ h9 => h9) rfl rfl rfl rfl (fun a b h => me_wIE h) (me_fIw (by decide) (by decide)) hdg (fun H1 locs1 a1 a2 a3 => kk H1 locs1 a1 a2 (me_wfI hwf (fun z => absurd z (by decide)) (fun z => absurd z (by decide))) a3)
theorem d_Cell_become_20 : decode prog_2_method_7_code 20 = .ok (.aload_n 0, 1) := by decide +kernel
theorem d_Cell_become_21 : decode prog_2_method_7_code 21 = .ok (.iconst 0, 1) := by decide +kernel
theorem d_Cell_become_22 : decode prog_2_method_7_code 22 = .ok (.putfield 34, 3) := by decide +kernel
theorem u_431 : Cond.fieldLink "FilterGuard$Cell" 34 "FilterGuard$Cell" "room" "I" ∈ fg_g := fg_in (List.mem_of_getElem? (i := 431) (by decide +kernel)) rfl
theorem p_Cell_4 {p : Program} {l : Launch} {e : Env} {R : Room} {s : Jvm.State} {m : MethodId} {args : Array Value} {below : List Frame} {meth : Method} {c : Code} {H : Heap} {locs : List Loc} {cells slots : Nat} {Q : Jvm.State → Prop} {cc : ByteArray} {pc : Nat} {ls : Array Slot} {rest : List Value} {D : va_G} {A : Nat → Prop} {H0 : Heap} {ad : Nat → Nat → Nat} {ca : Nat → ClassId} {M M1 : me_M} {N : Nat → Nat} {own : String} {index j : Nat} {v : Int32} (he : M1 = wI M 10 j 4 v) (hexec : p.tables.exec = Jvm.exec) (hb : c.code = cc) (hts : ∀ w ∈ fg_g, w.before args s = true) (hown : s.vm.findClass own = some m.cls) (hK : va_K D classes (me_T ca) s) (hP : va_P D classes (me_W ad ca M) H) (hD : va_D A (me_W ad ca M)) (hwf : me_wf N M) (hS : va_S A H0 H locs) (hj : j < N 10) (hlink : (Cond.fieldLink own index "FilterGuard$Cell" "room" "I").before args s = true) (hdg : decode cc pc = .ok (.putfield index, 3)) (kk : ∀ (H1 : Heap) (locs1 : List Loc), va_P D classes (me_W ad ca M1) H1 → va_D A (me_W ad ca M1) → me_wf N M1 → va_S A H0 H1 locs1 → W p l e R s m args below meth c H1 locs1 cells slots Q (F0 m (pc + 3) ls rest)) : W p l e R s m args below meth c H locs cells slots Q (F0 m pc ls (.int v :: .ref (ad 10 j) :: rest)) := by
  subst he
  exact me_put (M1 := wI M 10 j 4 v) (k := 10) (f := 4) (C := "FilterGuard$Cell") (T := F_Cell) (Nf := 7) hexec hb hts i_Cell t_Cell t_Cell_ok n_Cell hown hK hP hD hwf hS hj (by decide) rfl (by decide) (by decide) hlink (fun _ h9 => h9) rfl rfl rfl rfl (fun a b h => me_wIE h) (me_fIw (by decide) (by decide)) hdg (fun H1 locs1 a1 a2 a3 => kk H1 locs1 a1 a2 (me_wfI hwf (fun z => absurd z (by decide)) (fun z => absurd z (by decide))) a3)
theorem d_Cell_become_25 : decode prog_2_method_7_code 25 = .ok (.aload_n 0, 1) := by decide +kernel
theorem d_Cell_become_26 : decode prog_2_method_7_code 26 = .ok (.getfield 12, 3) := by decide +kernel
theorem g_Cell_6 {p : Program} {l : Launch} {e : Env} {R : Room} {s : Jvm.State} {m : MethodId} {args : Array Value} {below : List Frame} {meth : Method} {c : Code} {H : Heap} {locs : List Loc} {cells slots : Nat} {Q : Jvm.State → Prop} {cc : ByteArray} {pc : Nat} {ls : Array Slot} {rest : List Value} {D : va_G} {ad : Nat → Nat → Nat} {ca : Nat → ClassId} {M : me_M} {N : Nat → Nat} {own : String} {index j : Nat} (hexec : p.tables.exec = Jvm.exec) (hb : c.code = cc) (hts : ∀ w ∈ fg_g, w.before args s = true) (hown : s.vm.findClass own = some m.cls) (hK : va_K D classes (me_T ca) s) (hP : va_P D classes (me_W ad ca M) H) (hwf : me_wf N M) (hj : j < N 10) (hlink : (Cond.fieldLink own index "FilterGuard$Cell" "number" "LFilterGuard$Num;").before args s = true) (hdg : decode cc pc = .ok (.getfield index, 3)) (kk : W p l e R s m args below meth c H locs cells slots Q (F0 m (pc + 3) ls (va_rf ((mR M 10 j 6).map (ad 11)) :: rest))) : W p l e R s m args below meth c H locs cells slots Q (F0 m pc ls (.ref (ad 10 j) :: rest)) := me_get (k := 10) (f := 6) (C := "FilterGuard$Cell") (T := F_Cell) (Nf := 7) hexec hb hts i_Cell hown hK hP hwf hj (by decide) rfl (by decide) (by decide) hlink (fun _ h9 => h9) hdg kk
theorem d_Cell_become_29 : decode prog_2_method_7_code 29 = .ok (.lconst 0, 1) := by decide +kernel
theorem d_Cell_become_30 : decode prog_2_method_7_code 30 = .ok (.invokevirtual 41, 3) := by decide +kernel
theorem u_1036 : Cond.methodLink "FilterGuard$Cell" 41 ⟨"FilterGuard$Num", "exact", "(J)V"⟩ ∈ fg_g := fg_in (List.mem_of_getElem? (i := 1036) (by decide +kernel)) rfl
theorem u_1039 : Cond.code ⟨"FilterGuard$Num", "exact", "(J)V"⟩ prog_8_method_2_code 3 none ∈ fg_g := fg_in (List.mem_of_getElem? (i := 1039) (by decide +kernel)) rfl
theorem u_1037 : Cond.instanceMethod ⟨"FilterGuard$Num", "exact", "(J)V"⟩ ∈ fg_g := fg_in (List.mem_of_getElem? (i := 1037) (by decide +kernel)) rfl
theorem u_1038 : Cond.selects "FilterGuard$Num" ⟨"FilterGuard$Num", "exact", "(J)V"⟩ ⟨"FilterGuard$Num", "exact", "(J)V"⟩ ∈ fg_g := fg_in (List.mem_of_getElem? (i := 1038) (by decide +kernel)) rfl
theorem d_Cell_become_33 : decode prog_2_method_7_code 33 = .ok (.return_, 1) := by decide +kernel
abbrev y_Cell_become : MethodName := ⟨"FilterGuard$Cell", "become", "(II)V"⟩
def rm_Cell_become : Room := { frames := 2, cells := 0, slots := 0, locals := 42 }
abbrev q_Cell_become (D : va_G) (ad : Nat → Nat → Nat) (ca : Nat → ClassId) (N : Nat → Nat) (M0 MZ : me_M) (A : Nat → Prop) : Array Value → Jvm.State → Outcome → Jvm.State → Prop := va_Qv (fun (_ : Unit) => me_wf N MZ ∧ me_kp M0 MZ) (fg_B D A (fun _ => me_W ad ca MZ) (fun _ => [])) A
set_option maxHeartbeats 4000000 in
set_option maxRecDepth 100000 in
theorem c_Cell_become (l : Launch) (D : va_G) (ad : Nat → Nat → Nat) (ca : Nat → ClassId) (N : Nat → Nat) (M0 MZ : me_M) (j0 : Nat) (x1 : Int32) (x2 : Int32) (h : f_Cell_become M0 j0 x1 x2 = (some MZ)) (hwf : me_wf N M0) (hj0 : j0 < N 10) (sz : Nat) : Met l y_Cell_become (fg_w y_Cell_become prog_2_method_7_code 3 none) rm_Cell_become (va_Pc [.ref (ad 10 j0), .int x1, .int x2] (fz_P D (me_T ca) (me_W ad ca M0) sz)) (q_Cell_become D ad ca N M0 MZ (va_A (me_W ad ca M0) sz)) rm_Cell_become.cells rm_Cell_become.slots (va_A (me_W ad ca M0) sz) := by
  refine fz_enter (fun A => q_Cell_become D ad ca N M0 MZ A) (by decide +kernel) (Nat.le_of_ble_eq_true rfl) ?_
  intro p e s m below meth c ls A hx hb hml hown hts hr hlocks hin hP hK hD hS hA hX hl hz
  have hl : lv_has ls 3 [(0, .ref (ad 10 j0)), (1, .int x1), (2, .int x2)] := hl
  unfold f_Cell_become at h
  have hkp : me_kp M0 M0 := me_kp.rf
  have hkb := hkp
  refine lv_aload_n hx hb d_Cell_become_0 rfl (lv_at hl 0 rfl) ?_
  refine lv_iload_n hx hb d_Cell_become_1 rfl (lv_at hl 1 rfl) ?_
  obtain ⟨M1, eM1, h⟩ := st_ob h
  refine p_Cell_0 eM1 hx hb hts hown hK hP hD hwf hS hj0 (hts _ u_420) d_Cell_become_2 (fun H locs hP hD hwf hS => ?_)
  have hkp := kp_I eM1 hkp
  refine lv_aload_n hx hb d_Cell_become_5 rfl (lv_at hl 0 rfl) ?_
  refine lv_iload_n hx hb d_Cell_become_6 rfl (lv_at hl 2 rfl) ?_
  obtain ⟨M2, eM2, h⟩ := st_ob h
  refine p_Cell_1 eM2 hx hb hts hown hK hP hD hwf hS hj0 (hts _ u_424) d_Cell_become_7 (fun H locs hP hD hwf hS => ?_)
  have hkp := kp_I eM2 hkp
  refine lv_aload_n hx hb d_Cell_become_10 rfl (lv_at hl 0 rfl) ?_
  refine lv_iconst (v := 0) hx hb d_Cell_become_11 (by decide) ?_
  obtain ⟨M3, eM3, h⟩ := st_ob h
  refine p_Cell_2 eM3 hx hb hts hown hK hP hD hwf hS hj0 (hts _ u_426) d_Cell_become_12 (fun H locs hP hD hwf hS => ?_)
  have hkp := kp_I eM3 hkp
  refine lv_aload_n hx hb d_Cell_become_15 rfl (lv_at hl 0 rfl) ?_
  refine lv_iconst (v := 0) hx hb d_Cell_become_16 (by decide) ?_
  obtain ⟨M4, eM4, h⟩ := st_ob h
  refine p_Cell_3 eM4 hx hb hts hown hK hP hD hwf hS hj0 (hts _ u_428) d_Cell_become_17 (fun H locs hP hD hwf hS => ?_)
  have hkp := kp_I eM4 hkp
  refine lv_aload_n hx hb d_Cell_become_20 rfl (lv_at hl 0 rfl) ?_
  refine lv_iconst (v := 0) hx hb d_Cell_become_21 (by decide) ?_
  obtain ⟨M5, eM5, h⟩ := st_ob h
  refine p_Cell_4 eM5 hx hb hts hown hK hP hD hwf hS hj0 (hts _ u_431) d_Cell_become_22 (fun H locs hP hD hwf hS => ?_)
  have hkp := kp_I eM5 hkp
  refine lv_aload_n hx hb d_Cell_become_25 rfl (lv_at hl 0 rfl) ?_
  refine g_Cell_6 hx hb hts hown hK hP hwf hj0 (hts _ u_435) d_Cell_become_26 ?_
  obtain ⟨j6, e7, h⟩ := bd_ob h
  have hj6 : j6 < N 11 := (hwf.2.1 10 j0 6 _ (kp_r hkb hkp e7) (by decide) hj0)
  refine me_opt (j := j6) (kp_r hkb hkp e7) ?_
  refine lv_lconst (v := 0) hx hb d_Cell_become_29 (by decide) ?_
  obtain ⟨M8, eM8, h⟩ := bd_ob h
  refine me_thenv0 (M1 := M8) (me_runV (C := "FilterGuard$Num") (As := [.long 0]) (rest := []) ⟨hx, hb, hml, hown, hts⟩ (c_Num_exact l D ad ca N M5 M8 j6 (0 : Int64) eM8 hwf hj6 _) rfl (by show fg_nm y_Num_exact 1; decide +kernel) u_1036 u_1037 u_1038 u_187 u_1039 ⟨Nat.le_of_ble_eq_true rfl, Nat.le_of_ble_eq_true rfl⟩ hX hz hK hP hD hwf hS hA hj6 (by decide) rfl rfl rfl hl.1 (Nat.le_of_ble_eq_true rfl) d_Cell_become_30 ⟨Nat.le_of_ble_eq_true rfl, Nat.le_of_ble_eq_true rfl⟩) hP hD hK hS hA rfl rfl (fun H locs hw hP hD hS => ?_)
  obtain ⟨hwf, hk9⟩ := hw
  have hkp := hkp.tr hk9
  exact me_retv (me_kp M0) h hx hb hr hlocks hwf hkp hP hK hD hS d_Cell_become_33
theorem d_State_atFirst_0 : decode prog_10_method_2_code 0 = .ok (.aload_n 0, 1) := by decide +kernel
theorem d_State_atFirst_1 : decode prog_10_method_2_code 1 = .ok (.iconst 0, 1) := by decide +kernel
theorem d_State_atFirst_2 : decode prog_10_method_2_code 2 = .ok (.invokevirtual 22, 3) := by decide +kernel
theorem u_1024 : Cond.methodLink "FilterGuard$State" 22 ⟨"FilterGuard$State", "clearFrom", "(I)V"⟩ ∈ fg_g := fg_in (List.mem_of_getElem? (i := 1024) (by decide +kernel)) rfl
theorem u_1027 : Cond.code ⟨"FilterGuard$State", "clearFrom", "(I)V"⟩ prog_10_method_4_code 3 none ∈ fg_g := fg_in (List.mem_of_getElem? (i := 1027) (by decide +kernel)) rfl
theorem u_1026 : Cond.instanceMethod ⟨"FilterGuard$State", "clearFrom", "(I)V"⟩ ∈ fg_g := fg_in (List.mem_of_getElem? (i := 1026) (by decide +kernel)) rfl
theorem u_12 : Cond.selects "FilterGuard$State" ⟨"FilterGuard$State", "clearFrom", "(I)V"⟩ ⟨"FilterGuard$State", "clearFrom", "(I)V"⟩ ∈ fg_g := fg_in (List.mem_of_getElem? (i := 12) (by decide +kernel)) rfl
theorem d_State_atFirst_5 : decode prog_10_method_2_code 5 = .ok (.aload_n 0, 1) := by decide +kernel
theorem d_State_atFirst_6 : decode prog_10_method_2_code 6 = .ok (.getfield 11, 3) := by decide +kernel
theorem d_State_atFirst_9 : decode prog_10_method_2_code 9 = .ok (.iconst 1, 1) := by decide +kernel
theorem d_State_atFirst_10 : decode prog_10_method_2_code 10 = .ok (.aaload, 1) := by decide +kernel
theorem d_State_atFirst_11 : decode prog_10_method_2_code 11 = .ok (.iconst 2, 1) := by decide +kernel
theorem d_State_atFirst_12 : decode prog_10_method_2_code 12 = .ok (.iconst 0, 1) := by decide +kernel
theorem d_State_atFirst_13 : decode prog_10_method_2_code 13 = .ok (.invokevirtual 26, 3) := by decide +kernel
theorem u_1032 : Cond.methodLink "FilterGuard$State" 26 ⟨"FilterGuard$Cell", "become", "(II)V"⟩ ∈ fg_g := fg_in (List.mem_of_getElem? (i := 1032) (by decide +kernel)) rfl
theorem u_1035 : Cond.code ⟨"FilterGuard$Cell", "become", "(II)V"⟩ prog_2_method_7_code 3 none ∈ fg_g := fg_in (List.mem_of_getElem? (i := 1035) (by decide +kernel)) rfl
theorem u_1033 : Cond.instanceMethod ⟨"FilterGuard$Cell", "become", "(II)V"⟩ ∈ fg_g := fg_in (List.mem_of_getElem? (i := 1033) (by decide +kernel)) rfl
theorem u_1034 : Cond.selects "FilterGuard$Cell" ⟨"FilterGuard$Cell", "become", "(II)V"⟩ ⟨"FilterGuard$Cell", "become", "(II)V"⟩ ∈ fg_g := fg_in (List.mem_of_getElem? (i := 1034) (by decide +kernel)) rfl
theorem d_State_atFirst_16 : decode prog_10_method_2_code 16 = .ok (.aload_n 0, 1) := by decide +kernel
theorem d_State_atFirst_17 : decode prog_10_method_2_code 17 = .ok (.getfield 11, 3) := by decide +kernel
theorem d_State_atFirst_20 : decode prog_10_method_2_code 20 = .ok (.bipush 10, 2) := by decide +kernel
theorem d_State_atFirst_22 : decode prog_10_method_2_code 22 = .ok (.aaload, 1) := by decide +kernel
theorem d_State_atFirst_23 : decode prog_10_method_2_code 23 = .ok (.iconst 3, 1) := by decide +kernel
theorem d_State_atFirst_24 : decode prog_10_method_2_code 24 = .ok (.iconst 0, 1) := by decide +kernel
theorem d_State_atFirst_25 : decode prog_10_method_2_code 25 = .ok (.invokevirtual 26, 3) := by decide +kernel
theorem d_State_atFirst_28 : decode prog_10_method_2_code 28 = .ok (.aload_n 0, 1) := by decide +kernel
theorem d_State_atFirst_29 : decode prog_10_method_2_code 29 = .ok (.bipush 11, 2) := by decide +kernel
theorem d_State_atFirst_31 : decode prog_10_method_2_code 31 = .ok (.putfield 17, 3) := by decide +kernel
theorem d_State_atFirst_34 : decode prog_10_method_2_code 34 = .ok (.aload_n 0, 1) := by decide +kernel
theorem d_State_atFirst_35 : decode prog_10_method_2_code 35 = .ok (.iconst 0, 1) := by decide +kernel
theorem d_State_atFirst_36 : decode prog_10_method_2_code 36 = .ok (.putfield 30, 3) := by decide +kernel
theorem u_530 : Cond.fieldLink "FilterGuard$State" 30 "FilterGuard$State" "at" "I" ∈ fg_g := fg_in (List.mem_of_getElem? (i := 530) (by decide +kernel)) rfl
theorem p_State_2 {p : Program} {l : Launch} {e : Env} {R : Room} {s : Jvm.State} {m : MethodId} {args : Array Value} {below : List Frame} {meth : Method} {c : Code} {H : Heap} {locs : List Loc} {cells slots : Nat} {Q : Jvm.State → Prop} {cc : ByteArray} {pc : Nat} {ls : Array Slot} {rest : List Value} {D : va_G} {A : Nat → Prop} {H0 : Heap} {ad : Nat → Nat → Nat} {ca : Nat → ClassId} {M M1 : me_M} {N : Nat → Nat} {own : String} {index j : Nat} {v : Int32} (he : M1 = wI M 9 j 2 v) (hexec : p.tables.exec = Jvm.exec) (hb : c.code = cc) (hts : ∀ w ∈ fg_g, w.before args s = true) (hown : s.vm.findClass own = some m.cls) (hK : va_K D classes (me_T ca) s) (hP : va_P D classes (me_W ad ca M) H) (hD : va_D A (me_W ad ca M)) (hwf : me_wf N M) (hS : va_S A H0 H locs) (hj : j < N 9) (hlink : (Cond.fieldLink own index "FilterGuard$State" "at" "I").before args s = true) (hdg : decode cc pc = .ok (.putfield index, 3)) (kk : ∀ (H1 : Heap) (locs1 : List Loc), va_P D classes (me_W ad ca M1) H1 → va_D A (me_W ad ca M1) → me_wf N M1 → va_S A H0 H1 locs1 → W p l e R s m args below meth c H1 locs1 cells slots Q (F0 m (pc + 3) ls rest)) : W p l e R s m args below meth c H locs cells slots Q (F0 m pc ls (.int v :: .ref (ad 9 j) :: rest)) := by
  subst he
  exact me_put (M1 := wI M 9 j 2 v) (k := 9) (f := 2) (C := "FilterGuard$State") (T := F_State) (Nf := 5) hexec hb hts i_State t_State t_State_ok n_State hown hK hP hD hwf hS hj (by decide) rfl (by decide) (by decide) hlink (fun _ h9 => h9) rfl rfl rfl rfl (fun a b h => me_wIE h) (me_fIw (by decide) (by decide)) hdg (fun H1 locs1 a1 a2 a3 => kk H1 locs1 a1 a2 (me_wfI hwf (fun z => absurd z (by decide)) (fun z => absurd z (by decide))) a3)
theorem d_State_atFirst_39 : decode prog_10_method_2_code 39 = .ok (.return_, 1) := by decide +kernel
abbrev y_State_atFirst : MethodName := ⟨"FilterGuard$State", "atFirst", "()V"⟩
def rm_State_atFirst : Room := { frames := 3, cells := 0, slots := 0, locals := 64 }
abbrev q_State_atFirst (D : va_G) (ad : Nat → Nat → Nat) (ca : Nat → ClassId) (N : Nat → Nat) (M0 MZ : me_M) (A : Nat → Prop) : Array Value → Jvm.State → Outcome → Jvm.State → Prop := va_Qv (fun (_ : Unit) => me_wf N MZ ∧ me_kp M0 MZ) (fg_B D A (fun _ => me_W ad ca MZ) (fun _ => [])) A
set_option maxHeartbeats 4000000 in
set_option maxRecDepth 100000 in
theorem c_State_atFirst (l : Launch) (D : va_G) (ad : Nat → Nat → Nat) (ca : Nat → ClassId) (N : Nat → Nat) (M0 MZ : me_M) (j0 : Nat) (h : f_State_atFirst M0 j0 = (some MZ)) (hwf : me_wf N M0) (hj0 : j0 < N 9) (sz : Nat) : Met l y_State_atFirst (fg_w y_State_atFirst prog_10_method_2_code 1 none) rm_State_atFirst (va_Pc [.ref (ad 9 j0)] (fz_P D (me_T ca) (me_W ad ca M0) sz)) (q_State_atFirst D ad ca N M0 MZ (va_A (me_W ad ca M0) sz)) rm_State_atFirst.cells rm_State_atFirst.slots (va_A (me_W ad ca M0) sz) := by
  refine fz_enter (fun A => q_State_atFirst D ad ca N M0 MZ A) (by decide +kernel) (Nat.le_of_ble_eq_true rfl) ?_
  intro p e s m below meth c ls A hx hb hml hown hts hr hlocks hin hP hK hD hS hA hX hl hz
  have hl : lv_has ls 1 [(0, .ref (ad 9 j0))] := hl
  unfold f_State_atFirst at h
  have hkp : me_kp M0 M0 := me_kp.rf
  have hkb := hkp
  refine lv_aload_n hx hb d_State_atFirst_0 rfl (lv_at hl 0 rfl) ?_
  refine lv_iconst (v := 0) hx hb d_State_atFirst_1 (by decide) ?_
  obtain ⟨M1, eM1, h⟩ := bd_ob h
  refine me_thenv0 (M1 := M1) (me_runV (C := "FilterGuard$State") (As := [.int 0]) (rest := []) ⟨hx, hb, hml, hown, hts⟩ (c_State_clearFrom l D ad ca N M0 M1 j0 (0 : Int32) eM1 hwf hj0 _) rfl (by show fg_nm y_State_clearFrom 1; decide +kernel) u_1024 u_1026 u_12 u_189 u_1027 ⟨Nat.le_of_ble_eq_true rfl, Nat.le_of_ble_eq_true rfl⟩ hX hz hK hP hD hwf hS hA hj0 (by decide) rfl rfl rfl hl.1 (Nat.le_of_ble_eq_true rfl) d_State_atFirst_2 ⟨Nat.le_of_ble_eq_true rfl, Nat.le_of_ble_eq_true rfl⟩) hP hD hK hS hA rfl rfl (fun H locs hw hP hD hS => ?_)
  obtain ⟨hwf, hk9⟩ := hw
  have hkp := hkp.tr hk9
  refine lv_aload_n hx hb d_State_atFirst_5 rfl (lv_at hl 0 rfl) ?_
  refine g_State_0 hx hb hts hown hK hP hwf hj0 (hts _ u_523) d_State_atFirst_6 ?_
  obtain ⟨j2, e3, h⟩ := bd_ob h
  have hj2 : j2 < N 18 := (hwf.2.1 9 j0 0 _ (kp_r hkb hkp e3) (by decide) hj0)
  refine me_opt (j := j2) (kp_r hkb hkp e3) ?_
  refine lv_iconst (v := 1) hx hb d_State_atFirst_9 (by decide) ?_
  obtain ⟨g4, h⟩ := gd_ob h
  refine me_aald (k := 18) (t := 10) hx hb hK hP hwf hj2 (by decide) (by decide) rfl (fun _ => rfl) (me_in (i := (1 : Int32)) (k := 1) (by decide) (by decide) (kp_c hkb.z hkp.z g4)) d_State_atFirst_10 ?_
  rw [show (1 : Int32).toNatClampNeg = 1 by decide]
  obtain ⟨j5, e6, h⟩ := bd_ob h
  have hj5 : j5 < N 10 := (hwf.2.1 18 j2 1 _ (kp_r hkb hkp e6) (by decide) hj2)
  refine me_opt (j := j5) (kp_r hkb hkp e6) ?_
  refine lv_iconst (v := 2) hx hb d_State_atFirst_11 (by decide) ?_
  refine lv_iconst (v := 0) hx hb d_State_atFirst_12 (by decide) ?_
  obtain ⟨M7, eM7, h⟩ := bd_ob h
  refine me_thenv0 (M1 := M7) (me_runV (C := "FilterGuard$Cell") (As := [.int 2, .int 0]) (rest := []) ⟨hx, hb, hml, hown, hts⟩ (c_Cell_become l D ad ca N M1 M7 j5 (2 : Int32) (0 : Int32) eM7 hwf hj5 _) rfl (by show fg_nm y_Cell_become 2; decide +kernel) u_1032 u_1033 u_1034 u_188 u_1035 ⟨Nat.le_of_ble_eq_true rfl, Nat.le_of_ble_eq_true rfl⟩ hX hz hK hP hD hwf hS hA hj5 (by decide) rfl rfl rfl hl.1 (Nat.le_of_ble_eq_true rfl) d_State_atFirst_13 ⟨Nat.le_of_ble_eq_true rfl, Nat.le_of_ble_eq_true rfl⟩) hP hD hK hS hA rfl rfl (fun H locs hw hP hD hS => ?_)
  obtain ⟨hwf, hk9⟩ := hw
  have hkp := hkp.tr hk9
  refine lv_aload_n hx hb d_State_atFirst_16 rfl (lv_at hl 0 rfl) ?_
  refine g_State_0 hx hb hts hown hK hP hwf hj0 (hts _ u_523) d_State_atFirst_17 ?_
  refine me_opt (j := j2) (kp_r hkb hkp e3) ?_
  refine lv_bipush (v := 10) hx hb d_State_atFirst_20 (by decide) ?_
  obtain ⟨g8, h⟩ := gd_ob h
  refine me_aald (k := 18) (t := 10) hx hb hK hP hwf hj2 (by decide) (by decide) rfl (fun _ => rfl) (me_in (i := (10 : Int32)) (k := 10) (by decide) (by decide) (kp_c hkb.z hkp.z g8)) d_State_atFirst_22 ?_
  rw [show (10 : Int32).toNatClampNeg = 10 by decide]
  obtain ⟨j9, e10, h⟩ := bd_ob h
  have hj9 : j9 < N 10 := (hwf.2.1 18 j2 10 _ (kp_r hkb hkp e10) (by decide) hj2)
  refine me_opt (j := j9) (kp_r hkb hkp e10) ?_
  refine lv_iconst (v := 3) hx hb d_State_atFirst_23 (by decide) ?_
  refine lv_iconst (v := 0) hx hb d_State_atFirst_24 (by decide) ?_
  obtain ⟨M11, eM11, h⟩ := bd_ob h
  refine me_thenv0 (M1 := M11) (me_runV (C := "FilterGuard$Cell") (As := [.int 3, .int 0]) (rest := []) ⟨hx, hb, hml, hown, hts⟩ (c_Cell_become l D ad ca N M7 M11 j9 (3 : Int32) (0 : Int32) eM11 hwf hj9 _) rfl (by show fg_nm y_Cell_become 2; decide +kernel) u_1032 u_1033 u_1034 u_188 u_1035 ⟨Nat.le_of_ble_eq_true rfl, Nat.le_of_ble_eq_true rfl⟩ hX hz hK hP hD hwf hS hA hj9 (by decide) rfl rfl rfl hl.1 (Nat.le_of_ble_eq_true rfl) d_State_atFirst_25 ⟨Nat.le_of_ble_eq_true rfl, Nat.le_of_ble_eq_true rfl⟩) hP hD hK hS hA rfl rfl (fun H locs hw hP hD hS => ?_)
  obtain ⟨hwf, hk9⟩ := hw
  have hkp := hkp.tr hk9
  refine lv_aload_n hx hb d_State_atFirst_28 rfl (lv_at hl 0 rfl) ?_
  refine lv_bipush (v := 11) hx hb d_State_atFirst_29 (by decide) ?_
  obtain ⟨M12, eM12, h⟩ := st_ob h
  refine p_State_1 eM12 hx hb hts hown hK hP hD hwf hS hj0 (hts _ u_527) d_State_atFirst_31 (fun H locs hP hD hwf hS => ?_)
  have hkp := kp_I eM12 hkp
  refine lv_aload_n hx hb d_State_atFirst_34 rfl (lv_at hl 0 rfl) ?_
  refine lv_iconst (v := 0) hx hb d_State_atFirst_35 (by decide) ?_
  obtain ⟨M13, eM13, h⟩ := st_ob h
  refine p_State_2 eM13 hx hb hts hown hK hP hD hwf hS hj0 (hts _ u_530) d_State_atFirst_36 (fun H locs hP hD hwf hS => ?_)
  have hkp := kp_I eM13 hkp
  exact me_retv (me_kp M0) h hx hb hr hlocks hwf hkp hP hK hD hS d_State_atFirst_39
theorem d_Code_isMarkAt_0 : decode prog_4_method_12_code 0 = .ok (.iload_n 1, 1) := by decide +kernel
theorem d_Code_isMarkAt_1 : decode prog_4_method_12_code 1 = .ok (.ifCond .lt 24, 3) := by decide +kernel
theorem d_Code_isMarkAt_25 : decode prog_4_method_12_code 25 = .ok (.iconst 0, 1) := by decide +kernel
theorem d_Code_isMarkAt_26 : decode prog_4_method_12_code 26 = .ok (.ireturn, 1) := by decide +kernel
theorem d_Code_isMarkAt_4 : decode prog_4_method_12_code 4 = .ok (.iload_n 1, 1) := by decide +kernel
theorem d_Code_isMarkAt_5 : decode prog_4_method_12_code 5 = .ok (.aload_n 0, 1) := by decide +kernel
theorem d_Code_isMarkAt_6 : decode prog_4_method_12_code 6 = .ok (.getfield 22, 3) := by decide +kernel
theorem d_Code_isMarkAt_9 : decode prog_4_method_12_code 9 = .ok (.if_icmp .ge 16, 3) := by decide +kernel
theorem d_Code_isMarkAt_12 : decode prog_4_method_12_code 12 = .ok (.aload_n 0, 1) := by decide +kernel
theorem d_Code_isMarkAt_13 : decode prog_4_method_12_code 13 = .ok (.getfield 19, 3) := by decide +kernel
theorem d_Code_isMarkAt_16 : decode prog_4_method_12_code 16 = .ok (.iload_n 1, 1) := by decide +kernel
theorem d_Code_isMarkAt_17 : decode prog_4_method_12_code 17 = .ok (.baload, 1) := by decide +kernel
theorem d_Code_isMarkAt_18 : decode prog_4_method_12_code 18 = .ok (.ifCond .eq 7, 3) := by decide +kernel
theorem d_Code_isMarkAt_21 : decode prog_4_method_12_code 21 = .ok (.iconst 1, 1) := by decide +kernel
theorem d_Code_isMarkAt_22 : decode prog_4_method_12_code 22 = .ok (.goto 4, 3) := by decide +kernel
abbrev y_Code_isMarkAt : MethodName := ⟨"FilterGuard$Code", "isMarkAt", "(I)Z"⟩
def rm_Code_isMarkAt : Room := { frames := 1, cells := 0, slots := 0, locals := 20 }
abbrev q_Code_isMarkAt (D : va_G) (ad : Nat → Nat → Nat) (ca : Nat → ClassId) (N : Nat → Nat) (M0 MZ : me_M) (RZ : Int32) (A : Nat → Prop) : Array Value → Jvm.State → Outcome → Jvm.State → Prop := va_Qi (fun r (_ : Unit) => r = RZ ∧ me_wf N MZ ∧ me_kp M0 MZ ∧ (RZ = 1 ∨ RZ = 0)) (fg_B D A (fun _ => me_W ad ca MZ) (fun _ => [])) A
set_option maxHeartbeats 4000000 in
set_option maxRecDepth 100000 in
theorem c_Code_isMarkAt (l : Launch) (D : va_G) (ad : Nat → Nat → Nat) (ca : Nat → ClassId) (N : Nat → Nat) (M0 MZ : me_M) (RZ : Int32) (j0 : Nat) (x1 : Int32) (h : f_Code_isMarkAt M0 j0 x1 = (some (MZ, RZ))) (hwf : me_wf N M0) (hj0 : j0 < N 2) (sz : Nat) : Met l y_Code_isMarkAt (fg_w y_Code_isMarkAt prog_4_method_12_code 2 (some .boolean)) rm_Code_isMarkAt (va_Pc [.ref (ad 2 j0), .int x1] (fz_P D (me_T ca) (me_W ad ca M0) sz)) (q_Code_isMarkAt D ad ca N M0 MZ RZ (va_A (me_W ad ca M0) sz)) rm_Code_isMarkAt.cells rm_Code_isMarkAt.slots (va_A (me_W ad ca M0) sz) := by
  refine fz_enter (fun A => q_Code_isMarkAt D ad ca N M0 MZ RZ A) (by decide +kernel) (Nat.le_of_ble_eq_true rfl) ?_
  intro p e s m below meth c ls A hx hb hml hown hts hr hlocks hin hP hK hD hS hA hX hl hz
  have hl : lv_has ls 2 [(0, .ref (ad 2 j0)), (1, .int x1)] := hl
  unfold f_Code_isMarkAt at h
  have hkp : me_kp M0 M0 := me_kp.rf
  have hkb := hkp
  refine lv_iload_n hx hb d_Code_isMarkAt_0 rfl (lv_at hl 1 rfl) ?_
  refine lv_if_lt (tgt := 25) hx hb d_Code_isMarkAt_1 (by decide) (fun c1 => ?_) (fun c1 => ?_)
  · have h := if_t c1 h
    refine lv_iconst (v := 0) hx hb d_Code_isMarkAt_25 (by decide) ?_
    exact me_retz (me_kp M0) h (by decide) hx hb hr hlocks hwf hkp hP hK hD hS d_Code_isMarkAt_26
  have h := if_f c1 h
  refine lv_iload_n hx hb d_Code_isMarkAt_4 rfl (lv_at hl 1 rfl) ?_
  refine lv_aload_n hx hb d_Code_isMarkAt_5 rfl (lv_at hl 0 rfl) ?_
  refine g_Code_3 hx hb hts hown hK hP hwf hj0 (hts _ u_226) d_Code_isMarkAt_6 ?_
  refine lv_icmp_ge (tgt := 25) hx hb d_Code_isMarkAt_9 (by decide) (fun c2 => ?_) (fun c2 => ?_)
  · have h := if_t c2 h
    refine lv_iconst (v := 0) hx hb d_Code_isMarkAt_25 (by decide) ?_
    exact me_retz (me_kp M0) h (by decide) hx hb hr hlocks hwf hkp hP hK hD hS d_Code_isMarkAt_26
  have h := if_f c2 h
  refine lv_aload_n hx hb d_Code_isMarkAt_12 rfl (lv_at hl 0 rfl) ?_
  refine g_Code_2 hx hb hts hown hK hP hwf hj0 (hts _ u_225) d_Code_isMarkAt_13 ?_
  obtain ⟨j3, e4, h⟩ := bd_ob h
  have hj3 : j3 < N 15 := (hwf.2.1 2 j0 2 _ e4 (by decide) hj0)
  refine me_opt (j := j3) e4 ?_
  refine lv_iload_n hx hb d_Code_isMarkAt_16 rfl (lv_at hl 1 rfl) ?_
  obtain ⟨g5, h⟩ := gd_ob h
  refine me_zald hx hb hK hP hwf hj3 g5 d_Code_isMarkAt_17 ?_
  have z6 := hwf.2.2.2 15 j3 x1.toNatClampNeg rfl
  refine lv_if_eq (tgt := 25) hx hb d_Code_isMarkAt_18 (by decide) (fun c7 => ?_) (fun c7 => ?_)
  · have h := if_t c7 h
    refine lv_iconst (v := 0) hx hb d_Code_isMarkAt_25 (by decide) ?_
    exact me_retz (me_kp M0) h (by decide) hx hb hr hlocks hwf hkp hP hK hD hS d_Code_isMarkAt_26
  have h := if_f c7 h
  refine lv_iconst (v := 1) hx hb d_Code_isMarkAt_21 (by decide) ?_
  refine lv_goto (tgt := 26) hx hb d_Code_isMarkAt_22 (by decide) ?_
  exact me_retz (me_kp M0) h (by decide) hx hb hr hlocks hwf hkp hP hK hD hS d_Code_isMarkAt_26
theorem d_Num_isBelow_0 : decode prog_8_method_9_code 0 = .ok (.lload_n 0, 1) := by decide +kernel
theorem d_Num_isBelow_1 : decode prog_8_method_9_code 1 = .ok (.ldc2_w 32, 3) := by decide +kernel
theorem u_1065 : Cond.constantLong "FilterGuard$Num" 32 (-9223372036854775808) ∈ fg_g := fg_in (List.mem_of_getElem? (i := 1065) (by decide +kernel)) rfl
theorem d_Num_isBelow_4 : decode prog_8_method_9_code 4 = .ok (.lxor, 1) := by decide +kernel
theorem d_Num_isBelow_5 : decode prog_8_method_9_code 5 = .ok (.lload_n 2, 1) := by decide +kernel
theorem d_Num_isBelow_6 : decode prog_8_method_9_code 6 = .ok (.ldc2_w 32, 3) := by decide +kernel
theorem d_Num_isBelow_9 : decode prog_8_method_9_code 9 = .ok (.lxor, 1) := by decide +kernel
theorem d_Num_isBelow_10 : decode prog_8_method_9_code 10 = .ok (.lcmp, 1) := by decide +kernel
theorem d_Num_isBelow_11 : decode prog_8_method_9_code 11 = .ok (.ifCond .ge 7, 3) := by decide +kernel
theorem d_Num_isBelow_18 : decode prog_8_method_9_code 18 = .ok (.iconst 0, 1) := by decide +kernel
theorem d_Num_isBelow_19 : decode prog_8_method_9_code 19 = .ok (.ireturn, 1) := by decide +kernel
theorem d_Num_isBelow_14 : decode prog_8_method_9_code 14 = .ok (.iconst 1, 1) := by decide +kernel
theorem d_Num_isBelow_15 : decode prog_8_method_9_code 15 = .ok (.goto 4, 3) := by decide +kernel
abbrev y_Num_isBelow : MethodName := ⟨"FilterGuard$Num", "isBelow", "(JJ)Z"⟩
def rm_Num_isBelow : Room := { frames := 1, cells := 0, slots := 0, locals := 20 }
abbrev q_Num_isBelow (D : va_G) (RZ : Int32) (A : Nat → Prop) : Array Value → Jvm.State → Outcome → Jvm.State → Prop := va_Qi (fun r (_ : Unit) => r = RZ ∧ (RZ = 1 ∨ RZ = 0)) (fg_B D A (fun _ => []) (fun _ => [])) A
set_option maxHeartbeats 4000000 in
set_option maxRecDepth 100000 in
theorem c_Num_isBelow (l : Launch) (D : va_G) (RZ : Int32) (x0 : Int64) (x2 : Int64) (h : f_Num_isBelow x0 x2 = (some RZ)) (sz : Nat) : Met l y_Num_isBelow (fg_w y_Num_isBelow prog_8_method_9_code 4 (some .boolean)) rm_Num_isBelow (va_Pc [.long x0, .long x2] (fg_P D [] [] sz)) (q_Num_isBelow D RZ (va_A [] sz)) rm_Num_isBelow.cells rm_Num_isBelow.slots (va_A [] sz) := by
  refine fg_enter (fun A => q_Num_isBelow D RZ A) (by decide +kernel) (Nat.le_of_ble_eq_true rfl) ?_
  intro p e s m below meth c ls A hx hb hml hown hts hr hlocks hin hP hK hD hS hA hX hl
  have hl : lv_has ls 4 [(0, .long x0), (2, .long x2)] := hl
  unfold f_Num_isBelow at h
  refine lv_lload_n hx hb d_Num_isBelow_0 rfl (lv_at hl 0 rfl) ?_
  refine lv_ldc2 hx hb hown (hts _ u_1065) d_Num_isBelow_1 ?_
  refine lv_lxor hx hb d_Num_isBelow_4 ?_
  refine lv_lload_n hx hb d_Num_isBelow_5 rfl (lv_at hl 1 rfl) ?_
  refine lv_ldc2 hx hb hown (hts _ u_1065) d_Num_isBelow_6 ?_
  refine lv_lxor hx hb d_Num_isBelow_9 ?_
  refine W.lcmp hx hb d_Num_isBelow_10 ?_
  refine lv_if_ge (tgt := 18) hx hb d_Num_isBelow_11 (by decide) (fun c1 => ?_) (fun c1 => ?_)
  · have h := if_f (Int64.not_lt.mpr ((lg_cmp_ge _ _).mp c1)) h
    refine lv_iconst (v := 0) hx hb d_Num_isBelow_18 (by decide) ?_
    exact me_pretz h (by decide) hx hb hr hlocks hK hS d_Num_isBelow_19
  have h := if_t (Int64.not_le.mp (fun z => c1 ((lg_cmp_ge _ _).mpr z))) h
  refine lv_iconst (v := 1) hx hb d_Num_isBelow_14 (by decide) ?_
  refine lv_goto (tgt := 19) hx hb d_Num_isBelow_15 (by decide) ?_
  exact me_pretz h (by decide) hx hb hr hlocks hK hS d_Num_isBelow_19
theorem d_Num_covers_0 : decode prog_8_method_11_code 0 = .ok (.aload_n 0, 1) := by decide +kernel
theorem d_Num_covers_1 : decode prog_8_method_11_code 1 = .ok (.getfield 15, 3) := by decide +kernel
theorem g_Num_1 {p : Program} {l : Launch} {e : Env} {R : Room} {s : Jvm.State} {m : MethodId} {args : Array Value} {below : List Frame} {meth : Method} {c : Code} {H : Heap} {locs : List Loc} {cells slots : Nat} {Q : Jvm.State → Prop} {cc : ByteArray} {pc : Nat} {ls : Array Slot} {rest : List Value} {D : va_G} {ad : Nat → Nat → Nat} {ca : Nat → ClassId} {M : me_M} {N : Nat → Nat} {own : String} {index j : Nat} (hexec : p.tables.exec = Jvm.exec) (hb : c.code = cc) (hts : ∀ w ∈ fg_g, w.before args s = true) (hown : s.vm.findClass own = some m.cls) (hK : va_K D classes (me_T ca) s) (hP : va_P D classes (me_W ad ca M) H) (hwf : me_wf N M) (hj : j < N 11) (hlink : (Cond.fieldLink own index "FilterGuard$Num" "mask" "J").before args s = true) (hdg : decode cc pc = .ok (.getfield index, 3)) (kk : W p l e R s m args below meth c H locs cells slots Q (F0 m (pc + 3) ls (.long (mL M 11 j 1) :: rest))) : W p l e R s m args below meth c H locs cells slots Q (F0 m pc ls (.ref (ad 11 j) :: rest)) := me_get (k := 11) (f := 1) (C := "FilterGuard$Num") (T := F_Num) (Nf := 6) hexec hb hts i_Num hown hK hP hwf hj (by decide) rfl (by decide) (by decide) hlink (fun _ h9 => h9) hdg kk
theorem d_Num_covers_4 : decode prog_8_method_11_code 4 = .ok (.ldc2_w 30, 3) := by decide +kernel
theorem u_1061 : Cond.constantLong "FilterGuard$Num" 30 (-1) ∈ fg_g := fg_in (List.mem_of_getElem? (i := 1061) (by decide +kernel)) rfl
theorem d_Num_covers_7 : decode prog_8_method_11_code 7 = .ok (.lxor, 1) := by decide +kernel
theorem d_Num_covers_8 : decode prog_8_method_11_code 8 = .ok (.aload_n 1, 1) := by decide +kernel
theorem d_Num_covers_9 : decode prog_8_method_11_code 9 = .ok (.getfield 15, 3) := by decide +kernel
theorem d_Num_covers_12 : decode prog_8_method_11_code 12 = .ok (.land, 1) := by decide +kernel
theorem d_Num_covers_13 : decode prog_8_method_11_code 13 = .ok (.lconst 0, 1) := by decide +kernel
theorem d_Num_covers_14 : decode prog_8_method_11_code 14 = .ok (.lcmp, 1) := by decide +kernel
theorem d_Num_covers_15 : decode prog_8_method_11_code 15 = .ok (.ifCond .ne 82, 3) := by decide +kernel
theorem d_Num_covers_97 : decode prog_8_method_11_code 97 = .ok (.iconst 0, 1) := by decide +kernel
theorem d_Num_covers_98 : decode prog_8_method_11_code 98 = .ok (.ireturn, 1) := by decide +kernel
theorem d_Num_covers_18 : decode prog_8_method_11_code 18 = .ok (.aload_n 0, 1) := by decide +kernel
theorem d_Num_covers_19 : decode prog_8_method_11_code 19 = .ok (.getfield 9, 3) := by decide +kernel
theorem g_Num_0 {p : Program} {l : Launch} {e : Env} {R : Room} {s : Jvm.State} {m : MethodId} {args : Array Value} {below : List Frame} {meth : Method} {c : Code} {H : Heap} {locs : List Loc} {cells slots : Nat} {Q : Jvm.State → Prop} {cc : ByteArray} {pc : Nat} {ls : Array Slot} {rest : List Value} {D : va_G} {ad : Nat → Nat → Nat} {ca : Nat → ClassId} {M : me_M} {N : Nat → Nat} {own : String} {index j : Nat} (hexec : p.tables.exec = Jvm.exec) (hb : c.code = cc) (hts : ∀ w ∈ fg_g, w.before args s = true) (hown : s.vm.findClass own = some m.cls) (hK : va_K D classes (me_T ca) s) (hP : va_P D classes (me_W ad ca M) H) (hwf : me_wf N M) (hj : j < N 11) (hlink : (Cond.fieldLink own index "FilterGuard$Num" "value" "J").before args s = true) (hdg : decode cc pc = .ok (.getfield index, 3)) (kk : W p l e R s m args below meth c H locs cells slots Q (F0 m (pc + 3) ls (.long (mL M 11 j 0) :: rest))) : W p l e R s m args below meth c H locs cells slots Q (F0 m pc ls (.ref (ad 11 j) :: rest)) := me_get (k := 11) (f := 0) (C := "FilterGuard$Num") (T := F_Num) (Nf := 6) hexec hb hts i_Num hown hK hP hwf hj (by decide) rfl (by decide) (by decide) hlink (fun _ h9 => h9) hdg kk
theorem d_Num_covers_22 : decode prog_8_method_11_code 22 = .ok (.aload_n 1, 1) := by decide +kernel
theorem d_Num_covers_23 : decode prog_8_method_11_code 23 = .ok (.getfield 9, 3) := by decide +kernel
theorem d_Num_covers_26 : decode prog_8_method_11_code 26 = .ok (.lxor, 1) := by decide +kernel
theorem d_Num_covers_27 : decode prog_8_method_11_code 27 = .ok (.aload_n 0, 1) := by decide +kernel
theorem d_Num_covers_28 : decode prog_8_method_11_code 28 = .ok (.getfield 15, 3) := by decide +kernel
theorem d_Num_covers_31 : decode prog_8_method_11_code 31 = .ok (.ldc2_w 30, 3) := by decide +kernel
theorem d_Num_covers_34 : decode prog_8_method_11_code 34 = .ok (.lxor, 1) := by decide +kernel
theorem d_Num_covers_35 : decode prog_8_method_11_code 35 = .ok (.land, 1) := by decide +kernel
theorem d_Num_covers_36 : decode prog_8_method_11_code 36 = .ok (.lconst 0, 1) := by decide +kernel
theorem d_Num_covers_37 : decode prog_8_method_11_code 37 = .ok (.lcmp, 1) := by decide +kernel
theorem d_Num_covers_38 : decode prog_8_method_11_code 38 = .ok (.ifCond .ne 59, 3) := by decide +kernel
theorem d_Num_covers_41 : decode prog_8_method_11_code 41 = .ok (.aload_n 1, 1) := by decide +kernel
theorem d_Num_covers_42 : decode prog_8_method_11_code 42 = .ok (.getfield 18, 3) := by decide +kernel
theorem g_Num_2 {p : Program} {l : Launch} {e : Env} {R : Room} {s : Jvm.State} {m : MethodId} {args : Array Value} {below : List Frame} {meth : Method} {c : Code} {H : Heap} {locs : List Loc} {cells slots : Nat} {Q : Jvm.State → Prop} {cc : ByteArray} {pc : Nat} {ls : Array Slot} {rest : List Value} {D : va_G} {ad : Nat → Nat → Nat} {ca : Nat → ClassId} {M : me_M} {N : Nat → Nat} {own : String} {index j : Nat} (hexec : p.tables.exec = Jvm.exec) (hb : c.code = cc) (hts : ∀ w ∈ fg_g, w.before args s = true) (hown : s.vm.findClass own = some m.cls) (hK : va_K D classes (me_T ca) s) (hP : va_P D classes (me_W ad ca M) H) (hwf : me_wf N M) (hj : j < N 11) (hlink : (Cond.fieldLink own index "FilterGuard$Num" "least" "J").before args s = true) (hdg : decode cc pc = .ok (.getfield index, 3)) (kk : W p l e R s m args below meth c H locs cells slots Q (F0 m (pc + 3) ls (.long (mL M 11 j 2) :: rest))) : W p l e R s m args below meth c H locs cells slots Q (F0 m pc ls (.ref (ad 11 j) :: rest)) := me_get (k := 11) (f := 2) (C := "FilterGuard$Num") (T := F_Num) (Nf := 6) hexec hb hts i_Num hown hK hP hwf hj (by decide) rfl (by decide) (by decide) hlink (fun _ h9 => h9) hdg kk
theorem d_Num_covers_45 : decode prog_8_method_11_code 45 = .ok (.aload_n 0, 1) := by decide +kernel
theorem d_Num_covers_46 : decode prog_8_method_11_code 46 = .ok (.getfield 18, 3) := by decide +kernel
theorem d_Num_covers_49 : decode prog_8_method_11_code 49 = .ok (.invokestatic 36, 3) := by decide +kernel
theorem u_1062 : Cond.methodLink "FilterGuard$Num" 36 ⟨"FilterGuard$Num", "isBelow", "(JJ)Z"⟩ ∈ fg_g := fg_in (List.mem_of_getElem? (i := 1062) (by decide +kernel)) rfl
theorem u_1064 : Cond.code ⟨"FilterGuard$Num", "isBelow", "(JJ)Z"⟩ prog_8_method_9_code 4 (some .boolean) ∈ fg_g := fg_in (List.mem_of_getElem? (i := 1064) (by decide +kernel)) rfl
theorem u_1063 : Cond.static ⟨"FilterGuard$Num", "isBelow", "(JJ)Z"⟩ ∈ fg_g := fg_in (List.mem_of_getElem? (i := 1063) (by decide +kernel)) rfl
theorem d_Num_covers_52 : decode prog_8_method_11_code 52 = .ok (.ifCond .ne 45, 3) := by decide +kernel
theorem d_Num_covers_55 : decode prog_8_method_11_code 55 = .ok (.aload_n 0, 1) := by decide +kernel
theorem d_Num_covers_56 : decode prog_8_method_11_code 56 = .ok (.getfield 21, 3) := by decide +kernel
theorem g_Num_3 {p : Program} {l : Launch} {e : Env} {R : Room} {s : Jvm.State} {m : MethodId} {args : Array Value} {below : List Frame} {meth : Method} {c : Code} {H : Heap} {locs : List Loc} {cells slots : Nat} {Q : Jvm.State → Prop} {cc : ByteArray} {pc : Nat} {ls : Array Slot} {rest : List Value} {D : va_G} {ad : Nat → Nat → Nat} {ca : Nat → ClassId} {M : me_M} {N : Nat → Nat} {own : String} {index j : Nat} (hexec : p.tables.exec = Jvm.exec) (hb : c.code = cc) (hts : ∀ w ∈ fg_g, w.before args s = true) (hown : s.vm.findClass own = some m.cls) (hK : va_K D classes (me_T ca) s) (hP : va_P D classes (me_W ad ca M) H) (hwf : me_wf N M) (hj : j < N 11) (hlink : (Cond.fieldLink own index "FilterGuard$Num" "greatest" "J").before args s = true) (hdg : decode cc pc = .ok (.getfield index, 3)) (kk : W p l e R s m args below meth c H locs cells slots Q (F0 m (pc + 3) ls (.long (mL M 11 j 3) :: rest))) : W p l e R s m args below meth c H locs cells slots Q (F0 m pc ls (.ref (ad 11 j) :: rest)) := me_get (k := 11) (f := 3) (C := "FilterGuard$Num") (T := F_Num) (Nf := 6) hexec hb hts i_Num hown hK hP hwf hj (by decide) rfl (by decide) (by decide) hlink (fun _ h9 => h9) hdg kk
theorem d_Num_covers_59 : decode prog_8_method_11_code 59 = .ok (.aload_n 1, 1) := by decide +kernel
theorem d_Num_covers_60 : decode prog_8_method_11_code 60 = .ok (.getfield 21, 3) := by decide +kernel
theorem d_Num_covers_63 : decode prog_8_method_11_code 63 = .ok (.invokestatic 36, 3) := by decide +kernel
theorem d_Num_covers_66 : decode prog_8_method_11_code 66 = .ok (.ifCond .ne 31, 3) := by decide +kernel
theorem d_Num_covers_69 : decode prog_8_method_11_code 69 = .ok (.aload_n 0, 1) := by decide +kernel
theorem d_Num_covers_70 : decode prog_8_method_11_code 70 = .ok (.getfield 24, 3) := by decide +kernel
theorem g_Num_4 {p : Program} {l : Launch} {e : Env} {R : Room} {s : Jvm.State} {m : MethodId} {args : Array Value} {below : List Frame} {meth : Method} {c : Code} {H : Heap} {locs : List Loc} {cells slots : Nat} {Q : Jvm.State → Prop} {cc : ByteArray} {pc : Nat} {ls : Array Slot} {rest : List Value} {D : va_G} {ad : Nat → Nat → Nat} {ca : Nat → ClassId} {M : me_M} {N : Nat → Nat} {own : String} {index j : Nat} (hexec : p.tables.exec = Jvm.exec) (hb : c.code = cc) (hts : ∀ w ∈ fg_g, w.before args s = true) (hown : s.vm.findClass own = some m.cls) (hK : va_K D classes (me_T ca) s) (hP : va_P D classes (me_W ad ca M) H) (hwf : me_wf N M) (hj : j < N 11) (hlink : (Cond.fieldLink own index "FilterGuard$Num" "signedLeast" "J").before args s = true) (hdg : decode cc pc = .ok (.getfield index, 3)) (kk : W p l e R s m args below meth c H locs cells slots Q (F0 m (pc + 3) ls (.long (mL M 11 j 4) :: rest))) : W p l e R s m args below meth c H locs cells slots Q (F0 m pc ls (.ref (ad 11 j) :: rest)) := me_get (k := 11) (f := 4) (C := "FilterGuard$Num") (T := F_Num) (Nf := 6) hexec hb hts i_Num hown hK hP hwf hj (by decide) rfl (by decide) (by decide) hlink (fun _ h9 => h9) hdg kk
theorem d_Num_covers_73 : decode prog_8_method_11_code 73 = .ok (.aload_n 1, 1) := by decide +kernel
theorem d_Num_covers_74 : decode prog_8_method_11_code 74 = .ok (.getfield 24, 3) := by decide +kernel
theorem d_Num_covers_77 : decode prog_8_method_11_code 77 = .ok (.lcmp, 1) := by decide +kernel
theorem d_Num_covers_78 : decode prog_8_method_11_code 78 = .ok (.ifCond .gt 19, 3) := by decide +kernel
theorem d_Num_covers_81 : decode prog_8_method_11_code 81 = .ok (.aload_n 0, 1) := by decide +kernel
theorem d_Num_covers_82 : decode prog_8_method_11_code 82 = .ok (.getfield 27, 3) := by decide +kernel
theorem g_Num_5 {p : Program} {l : Launch} {e : Env} {R : Room} {s : Jvm.State} {m : MethodId} {args : Array Value} {below : List Frame} {meth : Method} {c : Code} {H : Heap} {locs : List Loc} {cells slots : Nat} {Q : Jvm.State → Prop} {cc : ByteArray} {pc : Nat} {ls : Array Slot} {rest : List Value} {D : va_G} {ad : Nat → Nat → Nat} {ca : Nat → ClassId} {M : me_M} {N : Nat → Nat} {own : String} {index j : Nat} (hexec : p.tables.exec = Jvm.exec) (hb : c.code = cc) (hts : ∀ w ∈ fg_g, w.before args s = true) (hown : s.vm.findClass own = some m.cls) (hK : va_K D classes (me_T ca) s) (hP : va_P D classes (me_W ad ca M) H) (hwf : me_wf N M) (hj : j < N 11) (hlink : (Cond.fieldLink own index "FilterGuard$Num" "signedGreatest" "J").before args s = true) (hdg : decode cc pc = .ok (.getfield index, 3)) (kk : W p l e R s m args below meth c H locs cells slots Q (F0 m (pc + 3) ls (.long (mL M 11 j 5) :: rest))) : W p l e R s m args below meth c H locs cells slots Q (F0 m pc ls (.ref (ad 11 j) :: rest)) := me_get (k := 11) (f := 5) (C := "FilterGuard$Num") (T := F_Num) (Nf := 6) hexec hb hts i_Num hown hK hP hwf hj (by decide) rfl (by decide) (by decide) hlink (fun _ h9 => h9) hdg kk
theorem d_Num_covers_85 : decode prog_8_method_11_code 85 = .ok (.aload_n 1, 1) := by decide +kernel
theorem d_Num_covers_86 : decode prog_8_method_11_code 86 = .ok (.getfield 27, 3) := by decide +kernel
theorem d_Num_covers_89 : decode prog_8_method_11_code 89 = .ok (.lcmp, 1) := by decide +kernel
theorem d_Num_covers_90 : decode prog_8_method_11_code 90 = .ok (.ifCond .lt 7, 3) := by decide +kernel
theorem d_Num_covers_93 : decode prog_8_method_11_code 93 = .ok (.iconst 1, 1) := by decide +kernel
theorem d_Num_covers_94 : decode prog_8_method_11_code 94 = .ok (.goto 4, 3) := by decide +kernel
abbrev y_Num_covers : MethodName := ⟨"FilterGuard$Num", "covers", "(LFilterGuard$Num;)Z"⟩
def rm_Num_covers : Room := { frames := 2, cells := 0, slots := 0, locals := 43 }
abbrev q_Num_covers (D : va_G) (ad : Nat → Nat → Nat) (ca : Nat → ClassId) (N : Nat → Nat) (M0 MZ : me_M) (RZ : Int32) (A : Nat → Prop) : Array Value → Jvm.State → Outcome → Jvm.State → Prop := va_Qi (fun r (_ : Unit) => r = RZ ∧ me_wf N MZ ∧ me_kp M0 MZ ∧ (RZ = 1 ∨ RZ = 0)) (fg_B D A (fun _ => me_W ad ca MZ) (fun _ => [])) A
set_option maxHeartbeats 4000000 in
set_option maxRecDepth 100000 in
theorem c_Num_covers (l : Launch) (D : va_G) (ad : Nat → Nat → Nat) (ca : Nat → ClassId) (N : Nat → Nat) (M0 MZ : me_M) (RZ : Int32) (j0 : Nat) (j1 : Nat) (h : f_Num_covers M0 j0 j1 = (some (MZ, RZ))) (hwf : me_wf N M0) (hj0 : j0 < N 11) (hj1 : j1 < N 11) (sz : Nat) : Met l y_Num_covers (fg_w y_Num_covers prog_8_method_11_code 2 (some .boolean)) rm_Num_covers (va_Pc [.ref (ad 11 j0), .ref (ad 11 j1)] (fz_P D (me_T ca) (me_W ad ca M0) sz)) (q_Num_covers D ad ca N M0 MZ RZ (va_A (me_W ad ca M0) sz)) rm_Num_covers.cells rm_Num_covers.slots (va_A (me_W ad ca M0) sz) := by
  refine fz_enter (fun A => q_Num_covers D ad ca N M0 MZ RZ A) (by decide +kernel) (Nat.le_of_ble_eq_true rfl) ?_
  intro p e s m below meth c ls A hx hb hml hown hts hr hlocks hin hP hK hD hS hA hX hl hz
  have hl : lv_has ls 2 [(0, .ref (ad 11 j0)), (1, .ref (ad 11 j1))] := hl
  unfold f_Num_covers at h
  have hkp : me_kp M0 M0 := me_kp.rf
  have hkb := hkp
  refine lv_aload_n hx hb d_Num_covers_0 rfl (lv_at hl 0 rfl) ?_
  refine g_Num_1 hx hb hts hown hK hP hwf hj0 (hts _ u_371) d_Num_covers_1 ?_
  refine lv_ldc2 hx hb hown (hts _ u_1061) d_Num_covers_4 ?_
  refine lv_lxor hx hb d_Num_covers_7 ?_
  refine lv_aload_n hx hb d_Num_covers_8 rfl (lv_at hl 1 rfl) ?_
  refine g_Num_1 hx hb hts hown hK hP hwf hj1 (hts _ u_371) d_Num_covers_9 ?_
  refine lv_land hx hb d_Num_covers_12 ?_
  refine lv_lconst (v := 0) hx hb d_Num_covers_13 (by decide) ?_
  refine W.lcmp hx hb d_Num_covers_14 ?_
  refine lv_if_ne (tgt := 97) hx hb d_Num_covers_15 (by decide) (fun c1 => ?_) (fun c1 => ?_)
  · have h := if_f (fun z => c1 ((lg_cmp_eq _ _).mpr z)) h
    refine lv_iconst (v := 0) hx hb d_Num_covers_97 (by decide) ?_
    exact me_retz (me_kp M0) h (by decide) hx hb hr hlocks hwf hkp hP hK hD hS d_Num_covers_98
  have h := if_t ((lg_cmp_eq _ _).mp c1) h
  refine lv_aload_n hx hb d_Num_covers_18 rfl (lv_at hl 0 rfl) ?_
  refine g_Num_0 hx hb hts hown hK hP hwf hj0 (hts _ u_367) d_Num_covers_19 ?_
  refine lv_aload_n hx hb d_Num_covers_22 rfl (lv_at hl 1 rfl) ?_
  refine g_Num_0 hx hb hts hown hK hP hwf hj1 (hts _ u_367) d_Num_covers_23 ?_
  refine lv_lxor hx hb d_Num_covers_26 ?_
  refine lv_aload_n hx hb d_Num_covers_27 rfl (lv_at hl 0 rfl) ?_
  refine g_Num_1 hx hb hts hown hK hP hwf hj0 (hts _ u_371) d_Num_covers_28 ?_
  refine lv_ldc2 hx hb hown (hts _ u_1061) d_Num_covers_31 ?_
  refine lv_lxor hx hb d_Num_covers_34 ?_
  refine lv_land hx hb d_Num_covers_35 ?_
  refine lv_lconst (v := 0) hx hb d_Num_covers_36 (by decide) ?_
  refine W.lcmp hx hb d_Num_covers_37 ?_
  refine lv_if_ne (tgt := 97) hx hb d_Num_covers_38 (by decide) (fun c2 => ?_) (fun c2 => ?_)
  · have h := if_f (fun z => c2 ((lg_cmp_eq _ _).mpr z)) h
    refine lv_iconst (v := 0) hx hb d_Num_covers_97 (by decide) ?_
    exact me_retz (me_kp M0) h (by decide) hx hb hr hlocks hwf hkp hP hK hD hS d_Num_covers_98
  have h := if_t ((lg_cmp_eq _ _).mp c2) h
  refine lv_aload_n hx hb d_Num_covers_41 rfl (lv_at hl 1 rfl) ?_
  refine g_Num_2 hx hb hts hown hK hP hwf hj1 (hts _ u_373) d_Num_covers_42 ?_
  refine lv_aload_n hx hb d_Num_covers_45 rfl (lv_at hl 0 rfl) ?_
  refine g_Num_2 hx hb hts hown hK hP hwf hj0 (hts _ u_373) d_Num_covers_46 ?_
  obtain ⟨r3, er3, h⟩ := bd_ob h
  refine me_pani' (r0 := r3) (fg_runS (wc := []) (tc := []) (A2 := A) (As := [.long (mL M0 11 j1 2), .long (mL M0 11 j0 2)]) (rest := []) ⟨hx, hb, hml, hown, hts⟩ (c_Num_isBelow l D r3 (mL M0 11 j1 2) (mL M0 11 j0 2) er3 _) (by show fg_nm y_Num_isBelow 2; decide +kernel) u_1062 u_1063 u_187 u_1064 ⟨Nat.le_of_ble_eq_true rfl, Nat.le_of_ble_eq_true rfl⟩ hX me_P0 (hK.sub (tys' := []) [] rfl) me_D0 rfl hl.1 (Nat.le_of_ble_eq_true rfl) d_Num_covers_49 ⟨Nat.le_of_ble_eq_true rfl, Nat.le_of_ble_eq_true rfl⟩) hP hD hK hS hA rfl rfl (fun H locs hw hP hD hS => ?_)
  have zr3 := hw
  refine lv_if_ne (tgt := 97) hx hb d_Num_covers_52 (by decide) (fun c4 => ?_) (fun c4 => ?_)
  · have h := if_f c4 h
    refine lv_iconst (v := 0) hx hb d_Num_covers_97 (by decide) ?_
    exact me_retz (me_kp M0) h (by decide) hx hb hr hlocks hwf hkp hP hK hD hS d_Num_covers_98
  have h := if_t c4 h
  refine lv_aload_n hx hb d_Num_covers_55 rfl (lv_at hl 0 rfl) ?_
  refine g_Num_3 hx hb hts hown hK hP hwf hj0 (hts _ u_376) d_Num_covers_56 ?_
  refine lv_aload_n hx hb d_Num_covers_59 rfl (lv_at hl 1 rfl) ?_
  refine g_Num_3 hx hb hts hown hK hP hwf hj1 (hts _ u_376) d_Num_covers_60 ?_
  obtain ⟨r5, er5, h⟩ := bd_ob h
  refine me_pani' (r0 := r5) (fg_runS (wc := []) (tc := []) (A2 := A) (As := [.long (mL M0 11 j0 3), .long (mL M0 11 j1 3)]) (rest := []) ⟨hx, hb, hml, hown, hts⟩ (c_Num_isBelow l D r5 (mL M0 11 j0 3) (mL M0 11 j1 3) er5 _) (by show fg_nm y_Num_isBelow 2; decide +kernel) u_1062 u_1063 u_187 u_1064 ⟨Nat.le_of_ble_eq_true rfl, Nat.le_of_ble_eq_true rfl⟩ hX me_P0 (hK.sub (tys' := []) [] rfl) me_D0 rfl hl.1 (Nat.le_of_ble_eq_true rfl) d_Num_covers_63 ⟨Nat.le_of_ble_eq_true rfl, Nat.le_of_ble_eq_true rfl⟩) hP hD hK hS hA rfl rfl (fun H locs hw hP hD hS => ?_)
  have zr5 := hw
  refine lv_if_ne (tgt := 97) hx hb d_Num_covers_66 (by decide) (fun c6 => ?_) (fun c6 => ?_)
  · have h := if_f c6 h
    refine lv_iconst (v := 0) hx hb d_Num_covers_97 (by decide) ?_
    exact me_retz (me_kp M0) h (by decide) hx hb hr hlocks hwf hkp hP hK hD hS d_Num_covers_98
  have h := if_t c6 h
  refine lv_aload_n hx hb d_Num_covers_69 rfl (lv_at hl 0 rfl) ?_
  refine g_Num_4 hx hb hts hown hK hP hwf hj0 (hts _ u_379) d_Num_covers_70 ?_
  refine lv_aload_n hx hb d_Num_covers_73 rfl (lv_at hl 1 rfl) ?_
  refine g_Num_4 hx hb hts hown hK hP hwf hj1 (hts _ u_379) d_Num_covers_74 ?_
  refine W.lcmp hx hb d_Num_covers_77 ?_
  refine lv_if_gt (tgt := 97) hx hb d_Num_covers_78 (by decide) (fun c7 => ?_) (fun c7 => ?_)
  · have h := if_t ((lg_cmp_gt _ _).mp c7) h
    refine lv_iconst (v := 0) hx hb d_Num_covers_97 (by decide) ?_
    exact me_retz (me_kp M0) h (by decide) hx hb hr hlocks hwf hkp hP hK hD hS d_Num_covers_98
  have h := if_f (fun z => c7 ((lg_cmp_gt _ _).mpr z)) h
  refine lv_aload_n hx hb d_Num_covers_81 rfl (lv_at hl 0 rfl) ?_
  refine g_Num_5 hx hb hts hown hK hP hwf hj0 (hts _ u_381) d_Num_covers_82 ?_
  refine lv_aload_n hx hb d_Num_covers_85 rfl (lv_at hl 1 rfl) ?_
  refine g_Num_5 hx hb hts hown hK hP hwf hj1 (hts _ u_381) d_Num_covers_86 ?_
  refine W.lcmp hx hb d_Num_covers_89 ?_
  refine lv_if_lt (tgt := 97) hx hb d_Num_covers_90 (by decide) (fun c8 => ?_) (fun c8 => ?_)
  · have h := if_t ((lg_cmp_lt _ _).mp c8) h
    refine lv_iconst (v := 0) hx hb d_Num_covers_97 (by decide) ?_
    exact me_retz (me_kp M0) h (by decide) hx hb hr hlocks hwf hkp hP hK hD hS d_Num_covers_98
  have h := if_f (fun z => c8 ((lg_cmp_lt _ _).mpr z)) h
  refine lv_iconst (v := 1) hx hb d_Num_covers_93 (by decide) ?_
  refine lv_goto (tgt := 98) hx hb d_Num_covers_94 (by decide) ?_
  exact me_retz (me_kp M0) h (by decide) hx hb hr hlocks hwf hkp hP hK hD hS d_Num_covers_98
theorem d_Cell_isAround_33 : decode prog_2_method_14_code 33 = .ok (.istore_n 2, 1) := by decide +kernel
theorem d_Cell_isAround_34 : decode prog_2_method_14_code 34 = .ok (.aload_n 0, 1) := by decide +kernel
theorem d_Cell_isAround_35 : decode prog_2_method_14_code 35 = .ok (.getfield 22, 3) := by decide +kernel
theorem g_Cell_5 {p : Program} {l : Launch} {e : Env} {R : Room} {s : Jvm.State} {m : MethodId} {args : Array Value} {below : List Frame} {meth : Method} {c : Code} {H : Heap} {locs : List Loc} {cells slots : Nat} {Q : Jvm.State → Prop} {cc : ByteArray} {pc : Nat} {ls : Array Slot} {rest : List Value} {D : va_G} {ad : Nat → Nat → Nat} {ca : Nat → ClassId} {M : me_M} {N : Nat → Nat} {own : String} {index j : Nat} (hexec : p.tables.exec = Jvm.exec) (hb : c.code = cc) (hts : ∀ w ∈ fg_g, w.before args s = true) (hown : s.vm.findClass own = some m.cls) (hK : va_K D classes (me_T ca) s) (hP : va_P D classes (me_W ad ca M) H) (hwf : me_wf N M) (hj : j < N 10) (hlink : (Cond.fieldLink own index "FilterGuard$Cell" "written" "I").before args s = true) (hdg : decode cc pc = .ok (.getfield index, 3)) (kk : W p l e R s m args below meth c H locs cells slots Q (F0 m (pc + 3) ls (.int (mI M 10 j 5) :: rest))) : W p l e R s m args below meth c H locs cells slots Q (F0 m pc ls (.ref (ad 10 j) :: rest)) := me_get (k := 10) (f := 5) (C := "FilterGuard$Cell") (T := F_Cell) (Nf := 7) hexec hb hts i_Cell hown hK hP hwf hj (by decide) rfl (by decide) (by decide) hlink (fun _ h9 => h9) hdg kk
theorem d_Cell_isAround_38 : decode prog_2_method_14_code 38 = .ok (.ifCond .eq 15, 3) := by decide +kernel
theorem d_Cell_isAround_53 : decode prog_2_method_14_code 53 = .ok (.iconst 1, 1) := by decide +kernel
theorem d_Cell_isAround_54 : decode prog_2_method_14_code 54 = .ok (.goto 4, 3) := by decide +kernel
theorem d_Cell_isAround_58 : decode prog_2_method_14_code 58 = .ok (.ireturn, 1) := by decide +kernel
theorem d_Cell_isAround_41 : decode prog_2_method_14_code 41 = .ok (.iload_n 2, 1) := by decide +kernel
theorem d_Cell_isAround_42 : decode prog_2_method_14_code 42 = .ok (.ifCond .ne 11, 3) := by decide +kernel
theorem d_Cell_isAround_45 : decode prog_2_method_14_code 45 = .ok (.aload_n 1, 1) := by decide +kernel
theorem d_Cell_isAround_46 : decode prog_2_method_14_code 46 = .ok (.getfield 18, 3) := by decide +kernel
theorem g_Cell_0 {p : Program} {l : Launch} {e : Env} {R : Room} {s : Jvm.State} {m : MethodId} {args : Array Value} {below : List Frame} {meth : Method} {c : Code} {H : Heap} {locs : List Loc} {cells slots : Nat} {Q : Jvm.State → Prop} {cc : ByteArray} {pc : Nat} {ls : Array Slot} {rest : List Value} {D : va_G} {ad : Nat → Nat → Nat} {ca : Nat → ClassId} {M : me_M} {N : Nat → Nat} {own : String} {index j : Nat} (hexec : p.tables.exec = Jvm.exec) (hb : c.code = cc) (hts : ∀ w ∈ fg_g, w.before args s = true) (hown : s.vm.findClass own = some m.cls) (hK : va_K D classes (me_T ca) s) (hP : va_P D classes (me_W ad ca M) H) (hwf : me_wf N M) (hj : j < N 10) (hlink : (Cond.fieldLink own index "FilterGuard$Cell" "kind" "I").before args s = true) (hdg : decode cc pc = .ok (.getfield index, 3)) (kk : W p l e R s m args below meth c H locs cells slots Q (F0 m (pc + 3) ls (.int (mI M 10 j 0) :: rest))) : W p l e R s m args below meth c H locs cells slots Q (F0 m pc ls (.ref (ad 10 j) :: rest)) := me_get (k := 10) (f := 0) (C := "FilterGuard$Cell") (T := F_Cell) (Nf := 7) hexec hb hts i_Cell hown hK hP hwf hj (by decide) rfl (by decide) (by decide) hlink (fun _ h9 => h9) hdg kk
theorem d_Cell_isAround_49 : decode prog_2_method_14_code 49 = .ok (.iconst 1, 1) := by decide +kernel
theorem d_Cell_isAround_50 : decode prog_2_method_14_code 50 = .ok (.if_icmp .ne 7, 3) := by decide +kernel
theorem d_Cell_isAround_57 : decode prog_2_method_14_code 57 = .ok (.iconst 0, 1) := by decide +kernel
theorem d_Cell_isAround_32 : decode prog_2_method_14_code 32 = .ok (.iconst 0, 1) := by decide +kernel
theorem d_Cell_isAround_0 : decode prog_2_method_14_code 0 = .ok (.aload_n 0, 1) := by decide +kernel
theorem d_Cell_isAround_1 : decode prog_2_method_14_code 1 = .ok (.getfield 18, 3) := by decide +kernel
theorem d_Cell_isAround_4 : decode prog_2_method_14_code 4 = .ok (.ifCond .ne 55, 3) := by decide +kernel
theorem d_Cell_isAround_59 : decode prog_2_method_14_code 59 = .ok (.aload_n 0, 1) := by decide +kernel
theorem d_Cell_isAround_60 : decode prog_2_method_14_code 60 = .ok (.getfield 18, 3) := by decide +kernel
theorem d_Cell_isAround_63 : decode prog_2_method_14_code 63 = .ok (.aload_n 1, 1) := by decide +kernel
theorem d_Cell_isAround_64 : decode prog_2_method_14_code 64 = .ok (.getfield 18, 3) := by decide +kernel
theorem d_Cell_isAround_67 : decode prog_2_method_14_code 67 = .ok (.if_icmp .eq 5, 3) := by decide +kernel
theorem d_Cell_isAround_72 : decode prog_2_method_14_code 72 = .ok (.aload_n 0, 1) := by decide +kernel
theorem d_Cell_isAround_73 : decode prog_2_method_14_code 73 = .ok (.getfield 18, 3) := by decide +kernel
theorem d_Cell_isAround_76 : decode prog_2_method_14_code 76 = .ok (.tableswitch 178 1 8 #[48, 60, 60, 77, 178, 161, 119, 161], 48) := by decide +kernel
theorem d_Cell_isAround_124 : decode prog_2_method_14_code 124 = .ok (.aload_n 0, 1) := by decide +kernel
theorem d_Cell_isAround_125 : decode prog_2_method_14_code 125 = .ok (.getfield 12, 3) := by decide +kernel
theorem d_Cell_isAround_128 : decode prog_2_method_14_code 128 = .ok (.aload_n 1, 1) := by decide +kernel
theorem d_Cell_isAround_129 : decode prog_2_method_14_code 129 = .ok (.getfield 12, 3) := by decide +kernel
theorem d_Cell_isAround_132 : decode prog_2_method_14_code 132 = .ok (.invokevirtual 60, 3) := by decide +kernel
theorem u_1057 : Cond.methodLink "FilterGuard$Cell" 60 ⟨"FilterGuard$Num", "covers", "(LFilterGuard$Num;)Z"⟩ ∈ fg_g := fg_in (List.mem_of_getElem? (i := 1057) (by decide +kernel)) rfl
theorem u_1060 : Cond.code ⟨"FilterGuard$Num", "covers", "(LFilterGuard$Num;)Z"⟩ prog_8_method_11_code 2 (some .boolean) ∈ fg_g := fg_in (List.mem_of_getElem? (i := 1060) (by decide +kernel)) rfl
theorem u_1058 : Cond.instanceMethod ⟨"FilterGuard$Num", "covers", "(LFilterGuard$Num;)Z"⟩ ∈ fg_g := fg_in (List.mem_of_getElem? (i := 1058) (by decide +kernel)) rfl
theorem u_1059 : Cond.selects "FilterGuard$Num" ⟨"FilterGuard$Num", "covers", "(LFilterGuard$Num;)Z"⟩ ⟨"FilterGuard$Num", "covers", "(LFilterGuard$Num;)Z"⟩ ∈ fg_g := fg_in (List.mem_of_getElem? (i := 1059) (by decide +kernel)) rfl
theorem d_Cell_isAround_135 : decode prog_2_method_14_code 135 = .ok (.ireturn, 1) := by decide +kernel
theorem d_Cell_isAround_136 : decode prog_2_method_14_code 136 = .ok (.aload_n 0, 1) := by decide +kernel
theorem d_Cell_isAround_137 : decode prog_2_method_14_code 137 = .ok (.getfield 25, 3) := by decide +kernel
theorem g_Cell_1 {p : Program} {l : Launch} {e : Env} {R : Room} {s : Jvm.State} {m : MethodId} {args : Array Value} {below : List Frame} {meth : Method} {c : Code} {H : Heap} {locs : List Loc} {cells slots : Nat} {Q : Jvm.State → Prop} {cc : ByteArray} {pc : Nat} {ls : Array Slot} {rest : List Value} {D : va_G} {ad : Nat → Nat → Nat} {ca : Nat → ClassId} {M : me_M} {N : Nat → Nat} {own : String} {index j : Nat} (hexec : p.tables.exec = Jvm.exec) (hb : c.code = cc) (hts : ∀ w ∈ fg_g, w.before args s = true) (hown : s.vm.findClass own = some m.cls) (hK : va_K D classes (me_T ca) s) (hP : va_P D classes (me_W ad ca M) H) (hwf : me_wf N M) (hj : j < N 10) (hlink : (Cond.fieldLink own index "FilterGuard$Cell" "place" "I").before args s = true) (hdg : decode cc pc = .ok (.getfield index, 3)) (kk : W p l e R s m args below meth c H locs cells slots Q (F0 m (pc + 3) ls (.int (mI M 10 j 1) :: rest))) : W p l e R s m args below meth c H locs cells slots Q (F0 m pc ls (.ref (ad 10 j) :: rest)) := me_get (k := 10) (f := 1) (C := "FilterGuard$Cell") (T := F_Cell) (Nf := 7) hexec hb hts i_Cell hown hK hP hwf hj (by decide) rfl (by decide) (by decide) hlink (fun _ h9 => h9) hdg kk
theorem d_Cell_isAround_140 : decode prog_2_method_14_code 140 = .ok (.aload_n 1, 1) := by decide +kernel
theorem d_Cell_isAround_141 : decode prog_2_method_14_code 141 = .ok (.getfield 25, 3) := by decide +kernel
theorem d_Cell_isAround_144 : decode prog_2_method_14_code 144 = .ok (.if_icmp .ne 7, 3) := by decide +kernel
theorem d_Cell_isAround_151 : decode prog_2_method_14_code 151 = .ok (.iconst 0, 1) := by decide +kernel
theorem d_Cell_isAround_152 : decode prog_2_method_14_code 152 = .ok (.ireturn, 1) := by decide +kernel
theorem d_Cell_isAround_147 : decode prog_2_method_14_code 147 = .ok (.iconst 1, 1) := by decide +kernel
theorem d_Cell_isAround_148 : decode prog_2_method_14_code 148 = .ok (.goto 4, 3) := by decide +kernel
theorem d_Cell_isAround_153 : decode prog_2_method_14_code 153 = .ok (.aload_n 0, 1) := by decide +kernel
theorem d_Cell_isAround_154 : decode prog_2_method_14_code 154 = .ok (.getfield 25, 3) := by decide +kernel
theorem d_Cell_isAround_157 : decode prog_2_method_14_code 157 = .ok (.aload_n 1, 1) := by decide +kernel
theorem d_Cell_isAround_158 : decode prog_2_method_14_code 158 = .ok (.getfield 25, 3) := by decide +kernel
theorem d_Cell_isAround_161 : decode prog_2_method_14_code 161 = .ok (.if_icmp .ne 32, 3) := by decide +kernel
theorem d_Cell_isAround_193 : decode prog_2_method_14_code 193 = .ok (.iconst 0, 1) := by decide +kernel
theorem d_Cell_isAround_194 : decode prog_2_method_14_code 194 = .ok (.ireturn, 1) := by decide +kernel
theorem d_Cell_isAround_164 : decode prog_2_method_14_code 164 = .ok (.aload_n 0, 1) := by decide +kernel
theorem d_Cell_isAround_165 : decode prog_2_method_14_code 165 = .ok (.getfield 34, 3) := by decide +kernel
theorem g_Cell_4 {p : Program} {l : Launch} {e : Env} {R : Room} {s : Jvm.State} {m : MethodId} {args : Array Value} {below : List Frame} {meth : Method} {c : Code} {H : Heap} {locs : List Loc} {cells slots : Nat} {Q : Jvm.State → Prop} {cc : ByteArray} {pc : Nat} {ls : Array Slot} {rest : List Value} {D : va_G} {ad : Nat → Nat → Nat} {ca : Nat → ClassId} {M : me_M} {N : Nat → Nat} {own : String} {index j : Nat} (hexec : p.tables.exec = Jvm.exec) (hb : c.code = cc) (hts : ∀ w ∈ fg_g, w.before args s = true) (hown : s.vm.findClass own = some m.cls) (hK : va_K D classes (me_T ca) s) (hP : va_P D classes (me_W ad ca M) H) (hwf : me_wf N M) (hj : j < N 10) (hlink : (Cond.fieldLink own index "FilterGuard$Cell" "room" "I").before args s = true) (hdg : decode cc pc = .ok (.getfield index, 3)) (kk : W p l e R s m args below meth c H locs cells slots Q (F0 m (pc + 3) ls (.int (mI M 10 j 4) :: rest))) : W p l e R s m args below meth c H locs cells slots Q (F0 m pc ls (.ref (ad 10 j) :: rest)) := me_get (k := 10) (f := 4) (C := "FilterGuard$Cell") (T := F_Cell) (Nf := 7) hexec hb hts i_Cell hown hK hP hwf hj (by decide) rfl (by decide) (by decide) hlink (fun _ h9 => h9) hdg kk
theorem d_Cell_isAround_168 : decode prog_2_method_14_code 168 = .ok (.aload_n 1, 1) := by decide +kernel
theorem d_Cell_isAround_169 : decode prog_2_method_14_code 169 = .ok (.getfield 34, 3) := by decide +kernel
theorem d_Cell_isAround_172 : decode prog_2_method_14_code 172 = .ok (.if_icmp .gt 21, 3) := by decide +kernel
theorem d_Cell_isAround_175 : decode prog_2_method_14_code 175 = .ok (.aload_n 0, 1) := by decide +kernel
theorem d_Cell_isAround_176 : decode prog_2_method_14_code 176 = .ok (.getfield 12, 3) := by decide +kernel
theorem d_Cell_isAround_179 : decode prog_2_method_14_code 179 = .ok (.aload_n 1, 1) := by decide +kernel
theorem d_Cell_isAround_180 : decode prog_2_method_14_code 180 = .ok (.getfield 12, 3) := by decide +kernel
theorem d_Cell_isAround_183 : decode prog_2_method_14_code 183 = .ok (.invokevirtual 60, 3) := by decide +kernel
theorem d_Cell_isAround_186 : decode prog_2_method_14_code 186 = .ok (.ifCond .eq 7, 3) := by decide +kernel
theorem d_Cell_isAround_189 : decode prog_2_method_14_code 189 = .ok (.iconst 1, 1) := by decide +kernel
theorem d_Cell_isAround_190 : decode prog_2_method_14_code 190 = .ok (.goto 4, 3) := by decide +kernel
theorem d_Cell_isAround_254 : decode prog_2_method_14_code 254 = .ok (.iconst 1, 1) := by decide +kernel
theorem d_Cell_isAround_255 : decode prog_2_method_14_code 255 = .ok (.ireturn, 1) := by decide +kernel
theorem d_Cell_isAround_237 : decode prog_2_method_14_code 237 = .ok (.aload_n 0, 1) := by decide +kernel
theorem d_Cell_isAround_238 : decode prog_2_method_14_code 238 = .ok (.getfield 28, 3) := by decide +kernel
theorem g_Cell_2 {p : Program} {l : Launch} {e : Env} {R : Room} {s : Jvm.State} {m : MethodId} {args : Array Value} {below : List Frame} {meth : Method} {c : Code} {H : Heap} {locs : List Loc} {cells slots : Nat} {Q : Jvm.State → Prop} {cc : ByteArray} {pc : Nat} {ls : Array Slot} {rest : List Value} {D : va_G} {ad : Nat → Nat → Nat} {ca : Nat → ClassId} {M : me_M} {N : Nat → Nat} {own : String} {index j : Nat} (hexec : p.tables.exec = Jvm.exec) (hb : c.code = cc) (hts : ∀ w ∈ fg_g, w.before args s = true) (hown : s.vm.findClass own = some m.cls) (hK : va_K D classes (me_T ca) s) (hP : va_P D classes (me_W ad ca M) H) (hwf : me_wf N M) (hj : j < N 10) (hlink : (Cond.fieldLink own index "FilterGuard$Cell" "mapNumber" "I").before args s = true) (hdg : decode cc pc = .ok (.getfield index, 3)) (kk : W p l e R s m args below meth c H locs cells slots Q (F0 m (pc + 3) ls (.int (mI M 10 j 2) :: rest))) : W p l e R s m args below meth c H locs cells slots Q (F0 m pc ls (.ref (ad 10 j) :: rest)) := me_get (k := 10) (f := 2) (C := "FilterGuard$Cell") (T := F_Cell) (Nf := 7) hexec hb hts i_Cell hown hK hP hwf hj (by decide) rfl (by decide) (by decide) hlink (fun _ h9 => h9) hdg kk
theorem d_Cell_isAround_241 : decode prog_2_method_14_code 241 = .ok (.aload_n 1, 1) := by decide +kernel
theorem d_Cell_isAround_242 : decode prog_2_method_14_code 242 = .ok (.getfield 28, 3) := by decide +kernel
theorem d_Cell_isAround_245 : decode prog_2_method_14_code 245 = .ok (.if_icmp .ne 7, 3) := by decide +kernel
theorem d_Cell_isAround_252 : decode prog_2_method_14_code 252 = .ok (.iconst 0, 1) := by decide +kernel
theorem d_Cell_isAround_253 : decode prog_2_method_14_code 253 = .ok (.ireturn, 1) := by decide +kernel
theorem d_Cell_isAround_248 : decode prog_2_method_14_code 248 = .ok (.iconst 1, 1) := by decide +kernel
theorem d_Cell_isAround_249 : decode prog_2_method_14_code 249 = .ok (.goto 4, 3) := by decide +kernel
theorem d_Cell_isAround_195 : decode prog_2_method_14_code 195 = .ok (.aload_n 0, 1) := by decide +kernel
theorem d_Cell_isAround_196 : decode prog_2_method_14_code 196 = .ok (.getfield 25, 3) := by decide +kernel
theorem d_Cell_isAround_199 : decode prog_2_method_14_code 199 = .ok (.aload_n 1, 1) := by decide +kernel
theorem d_Cell_isAround_200 : decode prog_2_method_14_code 200 = .ok (.getfield 25, 3) := by decide +kernel
theorem d_Cell_isAround_203 : decode prog_2_method_14_code 203 = .ok (.if_icmp .ne 32, 3) := by decide +kernel
theorem d_Cell_isAround_235 : decode prog_2_method_14_code 235 = .ok (.iconst 0, 1) := by decide +kernel
theorem d_Cell_isAround_236 : decode prog_2_method_14_code 236 = .ok (.ireturn, 1) := by decide +kernel
theorem d_Cell_isAround_206 : decode prog_2_method_14_code 206 = .ok (.aload_n 0, 1) := by decide +kernel
theorem d_Cell_isAround_207 : decode prog_2_method_14_code 207 = .ok (.getfield 28, 3) := by decide +kernel
theorem d_Cell_isAround_210 : decode prog_2_method_14_code 210 = .ok (.aload_n 1, 1) := by decide +kernel
theorem d_Cell_isAround_211 : decode prog_2_method_14_code 211 = .ok (.getfield 28, 3) := by decide +kernel
theorem d_Cell_isAround_214 : decode prog_2_method_14_code 214 = .ok (.if_icmp .ne 21, 3) := by decide +kernel
theorem d_Cell_isAround_217 : decode prog_2_method_14_code 217 = .ok (.aload_n 0, 1) := by decide +kernel
theorem d_Cell_isAround_218 : decode prog_2_method_14_code 218 = .ok (.getfield 12, 3) := by decide +kernel
theorem d_Cell_isAround_221 : decode prog_2_method_14_code 221 = .ok (.aload_n 1, 1) := by decide +kernel
theorem d_Cell_isAround_222 : decode prog_2_method_14_code 222 = .ok (.getfield 12, 3) := by decide +kernel
theorem d_Cell_isAround_225 : decode prog_2_method_14_code 225 = .ok (.invokevirtual 60, 3) := by decide +kernel
theorem d_Cell_isAround_228 : decode prog_2_method_14_code 228 = .ok (.ifCond .eq 7, 3) := by decide +kernel
theorem d_Cell_isAround_231 : decode prog_2_method_14_code 231 = .ok (.iconst 1, 1) := by decide +kernel
theorem d_Cell_isAround_232 : decode prog_2_method_14_code 232 = .ok (.goto 4, 3) := by decide +kernel
theorem d_Cell_isAround_70 : decode prog_2_method_14_code 70 = .ok (.iconst 0, 1) := by decide +kernel
theorem d_Cell_isAround_71 : decode prog_2_method_14_code 71 = .ok (.ireturn, 1) := by decide +kernel
theorem d_Cell_isAround_7 : decode prog_2_method_14_code 7 = .ok (.aload_n 1, 1) := by decide +kernel
theorem d_Cell_isAround_8 : decode prog_2_method_14_code 8 = .ok (.getfield 18, 3) := by decide +kernel
theorem d_Cell_isAround_11 : decode prog_2_method_14_code 11 = .ok (.ifCond .ne 21, 3) := by decide +kernel
theorem d_Cell_isAround_14 : decode prog_2_method_14_code 14 = .ok (.aload_n 0, 1) := by decide +kernel
theorem d_Cell_isAround_15 : decode prog_2_method_14_code 15 = .ok (.getfield 22, 3) := by decide +kernel
theorem d_Cell_isAround_18 : decode prog_2_method_14_code 18 = .ok (.aload_n 1, 1) := by decide +kernel
theorem d_Cell_isAround_19 : decode prog_2_method_14_code 19 = .ok (.getfield 22, 3) := by decide +kernel
theorem d_Cell_isAround_22 : decode prog_2_method_14_code 22 = .ok (.iconst (-1), 1) := by decide +kernel
theorem d_Cell_isAround_23 : decode prog_2_method_14_code 23 = .ok (.ixor, 1) := by decide +kernel
theorem d_Cell_isAround_24 : decode prog_2_method_14_code 24 = .ok (.iand, 1) := by decide +kernel
theorem d_Cell_isAround_25 : decode prog_2_method_14_code 25 = .ok (.ifCond .ne 7, 3) := by decide +kernel
theorem d_Cell_isAround_28 : decode prog_2_method_14_code 28 = .ok (.iconst 1, 1) := by decide +kernel
theorem d_Cell_isAround_29 : decode prog_2_method_14_code 29 = .ok (.goto 4, 3) := by decide +kernel
abbrev y_Cell_isAround : MethodName := ⟨"FilterGuard$Cell", "isAround", "(LFilterGuard$Cell;)Z"⟩
def rm_Cell_isAround : Room := { frames := 3, cells := 0, slots := 0, locals := 64 }
abbrev q_Cell_isAround (D : va_G) (ad : Nat → Nat → Nat) (ca : Nat → ClassId) (N : Nat → Nat) (M0 MZ : me_M) (RZ : Int32) (A : Nat → Prop) : Array Value → Jvm.State → Outcome → Jvm.State → Prop := va_Qi (fun r (_ : Unit) => r = RZ ∧ me_wf N MZ ∧ me_kp M0 MZ ∧ (RZ = 1 ∨ RZ = 0)) (fg_B D A (fun _ => me_W ad ca MZ) (fun _ => [])) A
set_option maxHeartbeats 4000000 in
set_option maxRecDepth 100000 in
theorem c_Cell_isAround (l : Launch) (D : va_G) (ad : Nat → Nat → Nat) (ca : Nat → ClassId) (N : Nat → Nat) (M0 MZ : me_M) (RZ : Int32) (j0 : Nat) (j1 : Nat) (h : f_Cell_isAround M0 j0 j1 = (some (MZ, RZ))) (hwf : me_wf N M0) (hj0 : j0 < N 10) (hj1 : j1 < N 10) (sz : Nat) : Met l y_Cell_isAround (fg_w y_Cell_isAround prog_2_method_14_code 3 (some .boolean)) rm_Cell_isAround (va_Pc [.ref (ad 10 j0), .ref (ad 10 j1)] (fz_P D (me_T ca) (me_W ad ca M0) sz)) (q_Cell_isAround D ad ca N M0 MZ RZ (va_A (me_W ad ca M0) sz)) rm_Cell_isAround.cells rm_Cell_isAround.slots (va_A (me_W ad ca M0) sz) := by
  refine fz_enter (fun A => q_Cell_isAround D ad ca N M0 MZ RZ A) (by decide +kernel) (Nat.le_of_ble_eq_true rfl) ?_
  intro p e s m below meth c ls A hx hb hml hown hts hr hlocks hin hP hK hD hS hA hX hl hz
  have hl : lv_has ls 3 [(0, .ref (ad 10 j0)), (1, .ref (ad 10 j1))] := hl
  unfold f_Cell_isAround at h
  have hkp : me_kp M0 M0 := me_kp.rf
  have hkb := hkp
  have b_33 : ∀ (M : me_M) (s0 : Int32) (H : Heap) (locs : List Loc) (ls : Array Slot), f_Cell_isAround_b33 j0 j1 M s0 = (some (MZ, RZ)) → (s0 = 1 ∨ s0 = 0) → me_wf N M → me_kp M0 M → va_P D classes (me_W ad ca M) H → va_D A (me_W ad ca M) → va_S A s.heap H locs → lv_has ls 3 [(0, .ref (ad 10 j0)), (1, .ref (ad 10 j1))] → W p l e rm_Cell_isAround s m [.ref (ad 10 j0), .ref (ad 10 j1)].toArray below meth c H locs 0 0 (MQ below (q_Cell_isAround D ad ca N M0 MZ RZ A) [.ref (ad 10 j0), .ref (ad 10 j1)].toArray s rm_Cell_isAround.cells rm_Cell_isAround.slots A) (F0 m 33 ls [.int s0]) := by
    intro M s0 H locs ls h zs0 hwf hkp hP hD hS hl
    unfold f_Cell_isAround_b33 at h
    have hkb := hkp
    refine lv_istore_n (lv' := [(2, .int s0), (0, .ref (ad 10 j0)), (1, .ref (ad 10 j1))]) hx hb d_Cell_isAround_33 rfl hl (by decide) rfl (fun ls hl => ?_)
    refine lv_aload_n hx hb d_Cell_isAround_34 rfl (lv_at hl 1 rfl) ?_
    refine g_Cell_5 hx hb hts hown hK hP hwf hj0 (hts _ u_433) d_Cell_isAround_35 ?_
    refine lv_if_eq (tgt := 53) hx hb d_Cell_isAround_38 (by decide) (fun c1 => ?_) (fun c1 => ?_)
    · have h := if_t c1 h
      refine lv_iconst (v := 1) hx hb d_Cell_isAround_53 (by decide) ?_
      refine lv_goto (tgt := 58) hx hb d_Cell_isAround_54 (by decide) ?_
      exact me_retz (me_kp M0) h (by decide) hx hb hr hlocks hwf hkp hP hK hD hS d_Cell_isAround_58
    have h := if_f c1 h
    refine lv_iload_n hx hb d_Cell_isAround_41 rfl (lv_at hl 0 rfl) ?_
    refine lv_if_ne (tgt := 53) hx hb d_Cell_isAround_42 (by decide) (fun c2 => ?_) (fun c2 => ?_)
    · have h := if_f c2 h
      refine lv_iconst (v := 1) hx hb d_Cell_isAround_53 (by decide) ?_
      refine lv_goto (tgt := 58) hx hb d_Cell_isAround_54 (by decide) ?_
      exact me_retz (me_kp M0) h (by decide) hx hb hr hlocks hwf hkp hP hK hD hS d_Cell_isAround_58
    have h := if_t c2 h
    refine lv_aload_n hx hb d_Cell_isAround_45 rfl (lv_at hl 2 rfl) ?_
    refine g_Cell_0 hx hb hts hown hK hP hwf hj1 (hts _ u_420) d_Cell_isAround_46 ?_
    refine lv_iconst (v := 1) hx hb d_Cell_isAround_49 (by decide) ?_
    refine lv_icmp_ne (tgt := 57) hx hb d_Cell_isAround_50 (by decide) (fun c3 => ?_) (fun c3 => ?_)
    · have h := if_f c3 h
      refine lv_iconst (v := 0) hx hb d_Cell_isAround_57 (by decide) ?_
      exact me_retz (me_kp M0) h (by decide) hx hb hr hlocks hwf hkp hP hK hD hS d_Cell_isAround_58
    have h := if_t c3 h
    refine lv_iconst (v := 1) hx hb d_Cell_isAround_53 (by decide) ?_
    refine lv_goto (tgt := 58) hx hb d_Cell_isAround_54 (by decide) ?_
    exact me_retz (me_kp M0) h (by decide) hx hb hr hlocks hwf hkp hP hK hD hS d_Cell_isAround_58
  have b_32 : ∀ (M : me_M) (H : Heap) (locs : List Loc) (ls : Array Slot), f_Cell_isAround_b32 j0 j1 M = (some (MZ, RZ)) → me_wf N M → me_kp M0 M → va_P D classes (me_W ad ca M) H → va_D A (me_W ad ca M) → va_S A s.heap H locs → lv_has ls 3 [(0, .ref (ad 10 j0)), (1, .ref (ad 10 j1))] → W p l e rm_Cell_isAround s m [.ref (ad 10 j0), .ref (ad 10 j1)].toArray below meth c H locs 0 0 (MQ below (q_Cell_isAround D ad ca N M0 MZ RZ A) [.ref (ad 10 j0), .ref (ad 10 j1)].toArray s rm_Cell_isAround.cells rm_Cell_isAround.slots A) (F0 m 32 ls []) := by
    intro M H locs ls h hwf hkp hP hD hS hl
    unfold f_Cell_isAround_b32 at h
    have hkb := hkp
    refine lv_iconst (v := 0) hx hb d_Cell_isAround_32 (by decide) ?_
    exact b_33 M (0 : Int32) _ _ _ h (by decide) hwf hkp hP hD hS (lv_sub hl [0, 1] rfl)
  refine lv_aload_n hx hb d_Cell_isAround_0 rfl (lv_at hl 0 rfl) ?_
  refine g_Cell_0 hx hb hts hown hK hP hwf hj0 (hts _ u_420) d_Cell_isAround_1 ?_
  refine lv_if_ne (tgt := 59) hx hb d_Cell_isAround_4 (by decide) (fun c4 => ?_) (fun c4 => ?_)
  · have h := if_f c4 h
    refine lv_aload_n hx hb d_Cell_isAround_59 rfl (lv_at hl 0 rfl) ?_
    refine g_Cell_0 hx hb hts hown hK hP hwf hj0 (hts _ u_420) d_Cell_isAround_60 ?_
    refine lv_aload_n hx hb d_Cell_isAround_63 rfl (lv_at hl 1 rfl) ?_
    refine g_Cell_0 hx hb hts hown hK hP hwf hj1 (hts _ u_420) d_Cell_isAround_64 ?_
    refine lv_icmp_eq (tgt := 72) hx hb d_Cell_isAround_67 (by decide) (fun c5 => ?_) (fun c5 => ?_)
    · have h := if_t c5 h
      refine lv_aload_n hx hb d_Cell_isAround_72 rfl (lv_at hl 0 rfl) ?_
      refine g_Cell_0 hx hb hts hown hK hP hwf hj0 (hts _ u_420) d_Cell_isAround_73 ?_
      refine lv_topi (fun w6 ew6 => ?_)
      by_cases n7 : w6 = 1
      · have h := if_t (ew6.symm.trans n7) h
        subst n7
        refine lv_tableIn (off := 48) (tgt := 124) hx hb d_Cell_isAround_76 (by decide) (by decide) (by decide) (by decide) ?_
        refine lv_aload_n hx hb d_Cell_isAround_124 rfl (lv_at hl 0 rfl) ?_
        refine g_Cell_6 hx hb hts hown hK hP hwf hj0 (hts _ u_435) d_Cell_isAround_125 ?_
        obtain ⟨j8, e9, h⟩ := bd_ob h
        have hj8 : j8 < N 11 := (hwf.2.1 10 j0 6 _ e9 (by decide) hj0)
        refine me_opt (j := j8) e9 ?_
        refine lv_aload_n hx hb d_Cell_isAround_128 rfl (lv_at hl 1 rfl) ?_
        refine g_Cell_6 hx hb hts hown hK hP hwf hj1 (hts _ u_435) d_Cell_isAround_129 ?_
        obtain ⟨j10, e11, h⟩ := bd_ob h
        have hj10 : j10 < N 11 := (hwf.2.1 10 j1 6 _ e11 (by decide) hj1)
        refine me_opt (j := j10) e11 ?_
        obtain ⟨M12, r13, eM12, h⟩ := b2_ob h
        refine me_theni0 (M1 := M12) (me_runV (C := "FilterGuard$Num") (As := [.ref (ad 11 j10)]) (rest := []) ⟨hx, hb, hml, hown, hts⟩ (c_Num_covers l D ad ca N M0 M12 r13 j8 j10 eM12 hwf hj8 hj10 _) rfl (by show fg_nm y_Num_covers 1; decide +kernel) u_1057 u_1058 u_1059 u_187 u_1060 ⟨Nat.le_of_ble_eq_true rfl, Nat.le_of_ble_eq_true rfl⟩ hX hz hK hP hD hwf hS hA hj8 (by decide) rfl rfl rfl hl.1 (Nat.le_of_ble_eq_true rfl) d_Cell_isAround_132 ⟨Nat.le_of_ble_eq_true rfl, Nat.le_of_ble_eq_true rfl⟩) hP hD hK hS hA rfl rfl (fun H locs hw hP hD hS => ?_)
        obtain ⟨hwf, hk9, zr13⟩ := hw
        have hkp := hkp.tr hk9
        exact me_retz (me_kp M0) h zr13 hx hb hr hlocks hwf hkp hP hK hD hS d_Cell_isAround_135
      have h := if_f (fun z => n7 (ew6.trans z)) h
      by_cases n14 : w6 = 2
      · have h := if_t (ew6.symm.trans n14) h
        subst n14
        refine lv_tableIn (off := 60) (tgt := 136) hx hb d_Cell_isAround_76 (by decide) (by decide) (by decide) (by decide) ?_
        refine lv_aload_n hx hb d_Cell_isAround_136 rfl (lv_at hl 0 rfl) ?_
        refine g_Cell_1 hx hb hts hown hK hP hwf hj0 (hts _ u_424) d_Cell_isAround_137 ?_
        refine lv_aload_n hx hb d_Cell_isAround_140 rfl (lv_at hl 1 rfl) ?_
        refine g_Cell_1 hx hb hts hown hK hP hwf hj1 (hts _ u_424) d_Cell_isAround_141 ?_
        refine lv_icmp_ne (tgt := 151) hx hb d_Cell_isAround_144 (by decide) (fun c15 => ?_) (fun c15 => ?_)
        · have h := if_f c15 h
          refine lv_iconst (v := 0) hx hb d_Cell_isAround_151 (by decide) ?_
          exact me_retz (me_kp M0) h (by decide) hx hb hr hlocks hwf hkp hP hK hD hS d_Cell_isAround_152
        have h := if_t c15 h
        refine lv_iconst (v := 1) hx hb d_Cell_isAround_147 (by decide) ?_
        refine lv_goto (tgt := 152) hx hb d_Cell_isAround_148 (by decide) ?_
        exact me_retz (me_kp M0) h (by decide) hx hb hr hlocks hwf hkp hP hK hD hS d_Cell_isAround_152
      have h := if_f (fun z => n14 (ew6.trans z)) h
      by_cases n16 : w6 = 3
      · have h := if_t (ew6.symm.trans n16) h
        subst n16
        refine lv_tableIn (off := 60) (tgt := 136) hx hb d_Cell_isAround_76 (by decide) (by decide) (by decide) (by decide) ?_
        refine lv_aload_n hx hb d_Cell_isAround_136 rfl (lv_at hl 0 rfl) ?_
        refine g_Cell_1 hx hb hts hown hK hP hwf hj0 (hts _ u_424) d_Cell_isAround_137 ?_
        refine lv_aload_n hx hb d_Cell_isAround_140 rfl (lv_at hl 1 rfl) ?_
        refine g_Cell_1 hx hb hts hown hK hP hwf hj1 (hts _ u_424) d_Cell_isAround_141 ?_
        refine lv_icmp_ne (tgt := 151) hx hb d_Cell_isAround_144 (by decide) (fun c17 => ?_) (fun c17 => ?_)
        · have h := if_f c17 h
          refine lv_iconst (v := 0) hx hb d_Cell_isAround_151 (by decide) ?_
          exact me_retz (me_kp M0) h (by decide) hx hb hr hlocks hwf hkp hP hK hD hS d_Cell_isAround_152
        have h := if_t c17 h
        refine lv_iconst (v := 1) hx hb d_Cell_isAround_147 (by decide) ?_
        refine lv_goto (tgt := 152) hx hb d_Cell_isAround_148 (by decide) ?_
        exact me_retz (me_kp M0) h (by decide) hx hb hr hlocks hwf hkp hP hK hD hS d_Cell_isAround_152
      have h := if_f (fun z => n16 (ew6.trans z)) h
      by_cases n18 : w6 = 4
      · have h := if_t (ew6.symm.trans n18) h
        subst n18
        refine lv_tableIn (off := 77) (tgt := 153) hx hb d_Cell_isAround_76 (by decide) (by decide) (by decide) (by decide) ?_
        refine lv_aload_n hx hb d_Cell_isAround_153 rfl (lv_at hl 0 rfl) ?_
        refine g_Cell_1 hx hb hts hown hK hP hwf hj0 (hts _ u_424) d_Cell_isAround_154 ?_
        refine lv_aload_n hx hb d_Cell_isAround_157 rfl (lv_at hl 1 rfl) ?_
        refine g_Cell_1 hx hb hts hown hK hP hwf hj1 (hts _ u_424) d_Cell_isAround_158 ?_
        refine lv_icmp_ne (tgt := 193) hx hb d_Cell_isAround_161 (by decide) (fun c19 => ?_) (fun c19 => ?_)
        · have h := if_f c19 h
          refine lv_iconst (v := 0) hx hb d_Cell_isAround_193 (by decide) ?_
          exact me_retz (me_kp M0) h (by decide) hx hb hr hlocks hwf hkp hP hK hD hS d_Cell_isAround_194
        have h := if_t c19 h
        refine lv_aload_n hx hb d_Cell_isAround_164 rfl (lv_at hl 0 rfl) ?_
        refine g_Cell_4 hx hb hts hown hK hP hwf hj0 (hts _ u_431) d_Cell_isAround_165 ?_
        refine lv_aload_n hx hb d_Cell_isAround_168 rfl (lv_at hl 1 rfl) ?_
        refine g_Cell_4 hx hb hts hown hK hP hwf hj1 (hts _ u_431) d_Cell_isAround_169 ?_
        refine lv_icmp_gt (tgt := 193) hx hb d_Cell_isAround_172 (by decide) (fun c20 => ?_) (fun c20 => ?_)
        · have h := if_t c20 h
          refine lv_iconst (v := 0) hx hb d_Cell_isAround_193 (by decide) ?_
          exact me_retz (me_kp M0) h (by decide) hx hb hr hlocks hwf hkp hP hK hD hS d_Cell_isAround_194
        have h := if_f c20 h
        refine lv_aload_n hx hb d_Cell_isAround_175 rfl (lv_at hl 0 rfl) ?_
        refine g_Cell_6 hx hb hts hown hK hP hwf hj0 (hts _ u_435) d_Cell_isAround_176 ?_
        obtain ⟨j21, e22, h⟩ := bd_ob h
        have hj21 : j21 < N 11 := (hwf.2.1 10 j0 6 _ e22 (by decide) hj0)
        refine me_opt (j := j21) e22 ?_
        refine lv_aload_n hx hb d_Cell_isAround_179 rfl (lv_at hl 1 rfl) ?_
        refine g_Cell_6 hx hb hts hown hK hP hwf hj1 (hts _ u_435) d_Cell_isAround_180 ?_
        obtain ⟨j23, e24, h⟩ := bd_ob h
        have hj23 : j23 < N 11 := (hwf.2.1 10 j1 6 _ e24 (by decide) hj1)
        refine me_opt (j := j23) e24 ?_
        obtain ⟨M25, r26, eM25, h⟩ := b2_ob h
        refine me_theni0 (M1 := M25) (me_runV (C := "FilterGuard$Num") (As := [.ref (ad 11 j23)]) (rest := []) ⟨hx, hb, hml, hown, hts⟩ (c_Num_covers l D ad ca N M0 M25 r26 j21 j23 eM25 hwf hj21 hj23 _) rfl (by show fg_nm y_Num_covers 1; decide +kernel) u_1057 u_1058 u_1059 u_187 u_1060 ⟨Nat.le_of_ble_eq_true rfl, Nat.le_of_ble_eq_true rfl⟩ hX hz hK hP hD hwf hS hA hj21 (by decide) rfl rfl rfl hl.1 (Nat.le_of_ble_eq_true rfl) d_Cell_isAround_183 ⟨Nat.le_of_ble_eq_true rfl, Nat.le_of_ble_eq_true rfl⟩) hP hD hK hS hA rfl rfl (fun H locs hw hP hD hS => ?_)
        obtain ⟨hwf, hk9, zr26⟩ := hw
        have hkp := hkp.tr hk9
        refine lv_if_eq (tgt := 193) hx hb d_Cell_isAround_186 (by decide) (fun c27 => ?_) (fun c27 => ?_)
        · have h := if_t c27 h
          refine lv_iconst (v := 0) hx hb d_Cell_isAround_193 (by decide) ?_
          exact me_retz (me_kp M0) h (by decide) hx hb hr hlocks hwf hkp hP hK hD hS d_Cell_isAround_194
        have h := if_f c27 h
        refine lv_iconst (v := 1) hx hb d_Cell_isAround_189 (by decide) ?_
        refine lv_goto (tgt := 194) hx hb d_Cell_isAround_190 (by decide) ?_
        exact me_retz (me_kp M0) h (by decide) hx hb hr hlocks hwf hkp hP hK hD hS d_Cell_isAround_194
      have h := if_f (fun z => n18 (ew6.trans z)) h
      by_cases n28 : w6 = 5
      · have h := if_t (ew6.symm.trans n28) h
        subst n28
        refine lv_tableIn (off := 178) (tgt := 254) hx hb d_Cell_isAround_76 (by decide) (by decide) (by decide) (by decide) ?_
        refine lv_iconst (v := 1) hx hb d_Cell_isAround_254 (by decide) ?_
        exact me_retz (me_kp M0) h (by decide) hx hb hr hlocks hwf hkp hP hK hD hS d_Cell_isAround_255
      have h := if_f (fun z => n28 (ew6.trans z)) h
      by_cases n29 : w6 = 6
      · have h := if_t (ew6.symm.trans n29) h
        subst n29
        refine lv_tableIn (off := 161) (tgt := 237) hx hb d_Cell_isAround_76 (by decide) (by decide) (by decide) (by decide) ?_
        refine lv_aload_n hx hb d_Cell_isAround_237 rfl (lv_at hl 0 rfl) ?_
        refine g_Cell_2 hx hb hts hown hK hP hwf hj0 (hts _ u_426) d_Cell_isAround_238 ?_
        refine lv_aload_n hx hb d_Cell_isAround_241 rfl (lv_at hl 1 rfl) ?_
        refine g_Cell_2 hx hb hts hown hK hP hwf hj1 (hts _ u_426) d_Cell_isAround_242 ?_
        refine lv_icmp_ne (tgt := 252) hx hb d_Cell_isAround_245 (by decide) (fun c30 => ?_) (fun c30 => ?_)
        · have h := if_f c30 h
          refine lv_iconst (v := 0) hx hb d_Cell_isAround_252 (by decide) ?_
          exact me_retz (me_kp M0) h (by decide) hx hb hr hlocks hwf hkp hP hK hD hS d_Cell_isAround_253
        have h := if_t c30 h
        refine lv_iconst (v := 1) hx hb d_Cell_isAround_248 (by decide) ?_
        refine lv_goto (tgt := 253) hx hb d_Cell_isAround_249 (by decide) ?_
        exact me_retz (me_kp M0) h (by decide) hx hb hr hlocks hwf hkp hP hK hD hS d_Cell_isAround_253
      have h := if_f (fun z => n29 (ew6.trans z)) h
      by_cases n31 : w6 = 7
      · have h := if_t (ew6.symm.trans n31) h
        subst n31
        refine lv_tableIn (off := 119) (tgt := 195) hx hb d_Cell_isAround_76 (by decide) (by decide) (by decide) (by decide) ?_
        refine lv_aload_n hx hb d_Cell_isAround_195 rfl (lv_at hl 0 rfl) ?_
        refine g_Cell_1 hx hb hts hown hK hP hwf hj0 (hts _ u_424) d_Cell_isAround_196 ?_
        refine lv_aload_n hx hb d_Cell_isAround_199 rfl (lv_at hl 1 rfl) ?_
        refine g_Cell_1 hx hb hts hown hK hP hwf hj1 (hts _ u_424) d_Cell_isAround_200 ?_
        refine lv_icmp_ne (tgt := 235) hx hb d_Cell_isAround_203 (by decide) (fun c32 => ?_) (fun c32 => ?_)
        · have h := if_f c32 h
          refine lv_iconst (v := 0) hx hb d_Cell_isAround_235 (by decide) ?_
          exact me_retz (me_kp M0) h (by decide) hx hb hr hlocks hwf hkp hP hK hD hS d_Cell_isAround_236
        have h := if_t c32 h
        refine lv_aload_n hx hb d_Cell_isAround_206 rfl (lv_at hl 0 rfl) ?_
        refine g_Cell_2 hx hb hts hown hK hP hwf hj0 (hts _ u_426) d_Cell_isAround_207 ?_
        refine lv_aload_n hx hb d_Cell_isAround_210 rfl (lv_at hl 1 rfl) ?_
        refine g_Cell_2 hx hb hts hown hK hP hwf hj1 (hts _ u_426) d_Cell_isAround_211 ?_
        refine lv_icmp_ne (tgt := 235) hx hb d_Cell_isAround_214 (by decide) (fun c33 => ?_) (fun c33 => ?_)
        · have h := if_f c33 h
          refine lv_iconst (v := 0) hx hb d_Cell_isAround_235 (by decide) ?_
          exact me_retz (me_kp M0) h (by decide) hx hb hr hlocks hwf hkp hP hK hD hS d_Cell_isAround_236
        have h := if_t c33 h
        refine lv_aload_n hx hb d_Cell_isAround_217 rfl (lv_at hl 0 rfl) ?_
        refine g_Cell_6 hx hb hts hown hK hP hwf hj0 (hts _ u_435) d_Cell_isAround_218 ?_
        obtain ⟨j34, e35, h⟩ := bd_ob h
        have hj34 : j34 < N 11 := (hwf.2.1 10 j0 6 _ e35 (by decide) hj0)
        refine me_opt (j := j34) e35 ?_
        refine lv_aload_n hx hb d_Cell_isAround_221 rfl (lv_at hl 1 rfl) ?_
        refine g_Cell_6 hx hb hts hown hK hP hwf hj1 (hts _ u_435) d_Cell_isAround_222 ?_
        obtain ⟨j36, e37, h⟩ := bd_ob h
        have hj36 : j36 < N 11 := (hwf.2.1 10 j1 6 _ e37 (by decide) hj1)
        refine me_opt (j := j36) e37 ?_
        obtain ⟨M38, r39, eM38, h⟩ := b2_ob h
        refine me_theni0 (M1 := M38) (me_runV (C := "FilterGuard$Num") (As := [.ref (ad 11 j36)]) (rest := []) ⟨hx, hb, hml, hown, hts⟩ (c_Num_covers l D ad ca N M0 M38 r39 j34 j36 eM38 hwf hj34 hj36 _) rfl (by show fg_nm y_Num_covers 1; decide +kernel) u_1057 u_1058 u_1059 u_187 u_1060 ⟨Nat.le_of_ble_eq_true rfl, Nat.le_of_ble_eq_true rfl⟩ hX hz hK hP hD hwf hS hA hj34 (by decide) rfl rfl rfl hl.1 (Nat.le_of_ble_eq_true rfl) d_Cell_isAround_225 ⟨Nat.le_of_ble_eq_true rfl, Nat.le_of_ble_eq_true rfl⟩) hP hD hK hS hA rfl rfl (fun H locs hw hP hD hS => ?_)
        obtain ⟨hwf, hk9, zr39⟩ := hw
        have hkp := hkp.tr hk9
        refine lv_if_eq (tgt := 235) hx hb d_Cell_isAround_228 (by decide) (fun c40 => ?_) (fun c40 => ?_)
        · have h := if_t c40 h
          refine lv_iconst (v := 0) hx hb d_Cell_isAround_235 (by decide) ?_
          exact me_retz (me_kp M0) h (by decide) hx hb hr hlocks hwf hkp hP hK hD hS d_Cell_isAround_236
        have h := if_f c40 h
        refine lv_iconst (v := 1) hx hb d_Cell_isAround_231 (by decide) ?_
        refine lv_goto (tgt := 236) hx hb d_Cell_isAround_232 (by decide) ?_
        exact me_retz (me_kp M0) h (by decide) hx hb hr hlocks hwf hkp hP hK hD hS d_Cell_isAround_236
      have h := if_f (fun z => n31 (ew6.trans z)) h
      by_cases n41 : w6 = 8
      · have h := if_t (ew6.symm.trans n41) h
        subst n41
        refine lv_tableIn (off := 161) (tgt := 237) hx hb d_Cell_isAround_76 (by decide) (by decide) (by decide) (by decide) ?_
        refine lv_aload_n hx hb d_Cell_isAround_237 rfl (lv_at hl 0 rfl) ?_
        refine g_Cell_2 hx hb hts hown hK hP hwf hj0 (hts _ u_426) d_Cell_isAround_238 ?_
        refine lv_aload_n hx hb d_Cell_isAround_241 rfl (lv_at hl 1 rfl) ?_
        refine g_Cell_2 hx hb hts hown hK hP hwf hj1 (hts _ u_426) d_Cell_isAround_242 ?_
        refine lv_icmp_ne (tgt := 252) hx hb d_Cell_isAround_245 (by decide) (fun c42 => ?_) (fun c42 => ?_)
        · have h := if_f c42 h
          refine lv_iconst (v := 0) hx hb d_Cell_isAround_252 (by decide) ?_
          exact me_retz (me_kp M0) h (by decide) hx hb hr hlocks hwf hkp hP hK hD hS d_Cell_isAround_253
        have h := if_t c42 h
        refine lv_iconst (v := 1) hx hb d_Cell_isAround_248 (by decide) ?_
        refine lv_goto (tgt := 253) hx hb d_Cell_isAround_249 (by decide) ?_
        exact me_retz (me_kp M0) h (by decide) hx hb hr hlocks hwf hkp hP hK hD hS d_Cell_isAround_253
      have h := if_f (fun z => n41 (ew6.trans z)) h
      have in7 := lv_neT n7 (show (1 : Int32).toInt = 1 from rfl)
      have in14 := lv_neT n14 (show (2 : Int32).toInt = 2 from rfl)
      have in16 := lv_neT n16 (show (3 : Int32).toInt = 3 from rfl)
      have in18 := lv_neT n18 (show (4 : Int32).toInt = 4 from rfl)
      have in28 := lv_neT n28 (show (5 : Int32).toInt = 5 from rfl)
      have in29 := lv_neT n29 (show (6 : Int32).toInt = 6 from rfl)
      have in31 := lv_neT n31 (show (7 : Int32).toInt = 7 from rfl)
      have in41 := lv_neT n41 (show (8 : Int32).toInt = 8 from rfl)
      refine lv_tableOut (tgt := 254) hx hb d_Cell_isAround_76 (by omega) (by decide) ?_
      refine lv_iconst (v := 1) hx hb d_Cell_isAround_254 (by decide) ?_
      exact me_retz (me_kp M0) h (by decide) hx hb hr hlocks hwf hkp hP hK hD hS d_Cell_isAround_255
    have h := if_f c5 h
    refine lv_iconst (v := 0) hx hb d_Cell_isAround_70 (by decide) ?_
    exact me_retz (me_kp M0) h (by decide) hx hb hr hlocks hwf hkp hP hK hD hS d_Cell_isAround_71
  have h := if_t c4 h
  refine lv_aload_n hx hb d_Cell_isAround_7 rfl (lv_at hl 1 rfl) ?_
  refine g_Cell_0 hx hb hts hown hK hP hwf hj1 (hts _ u_420) d_Cell_isAround_8 ?_
  refine lv_if_ne (tgt := 32) hx hb d_Cell_isAround_11 (by decide) (fun c43 => ?_) (fun c43 => ?_)
  · have h := if_f c43 h
    exact b_32 M0 _ _ _ h hwf hkp hP hD hS (lv_sub hl [0, 1] rfl)
  have h := if_t c43 h
  refine lv_aload_n hx hb d_Cell_isAround_14 rfl (lv_at hl 0 rfl) ?_
  refine g_Cell_5 hx hb hts hown hK hP hwf hj0 (hts _ u_433) d_Cell_isAround_15 ?_
  refine lv_aload_n hx hb d_Cell_isAround_18 rfl (lv_at hl 1 rfl) ?_
  refine g_Cell_5 hx hb hts hown hK hP hwf hj1 (hts _ u_433) d_Cell_isAround_19 ?_
  refine lv_iconst (v := (-1)) hx hb d_Cell_isAround_22 (by decide) ?_
  refine lv_ixor hx hb d_Cell_isAround_23 ?_
  refine lv_iand hx hb d_Cell_isAround_24 ?_
  refine lv_if_ne (tgt := 32) hx hb d_Cell_isAround_25 (by decide) (fun c44 => ?_) (fun c44 => ?_)
  · have h := if_f c44 h
    exact b_32 M0 _ _ _ h hwf hkp hP hD hS (lv_sub hl [0, 1] rfl)
  have h := if_t c44 h
  refine lv_iconst (v := 1) hx hb d_Cell_isAround_28 (by decide) ?_
  refine lv_goto (tgt := 33) hx hb d_Cell_isAround_29 (by decide) ?_
  exact b_33 M0 (1 : Int32) _ _ _ h (by decide) hwf hkp hP hD hS (lv_sub hl [0, 1] rfl)
