theorem d_Checks_init_0 : decode prog_3_method_1_code 0 = .ok (.aload_n 0, 1) := by decide +kernel
theorem d_Checks_init_1 : decode prog_3_method_1_code 1 = .ok (.invokespecial 3, 3) := by decide +kernel
theorem u_607 : Cond.methodLink "FilterGuard$Checks" 3 ⟨"java/lang/Object", "<init>", "()V"⟩ ∈ fg_g := fg_in (List.mem_of_getElem? (i := 607) (by decide +kernel)) rfl
theorem d_Checks_init_4 : decode prog_3_method_1_code 4 = .ok (.aload_n 0, 1) := by decide +kernel
theorem d_Checks_init_5 : decode prog_3_method_1_code 5 = .ok (.new 9, 3) := by decide +kernel
theorem u_608 : Cond.classLink "FilterGuard$Checks" 9 "FilterGuard$State" ∈ fg_g := fg_in (List.mem_of_getElem? (i := 608) (by decide +kernel)) rfl
theorem d_Checks_init_8 : decode prog_3_method_1_code 8 = .ok (.dup, 1) := by decide +kernel
theorem d_Checks_init_9 : decode prog_3_method_1_code 9 = .ok (.invokespecial 11, 3) := by decide +kernel
theorem u_609 : Cond.methodLink "FilterGuard$Checks" 11 ⟨"FilterGuard$State", "<init>", "()V"⟩ ∈ fg_g := fg_in (List.mem_of_getElem? (i := 609) (by decide +kernel)) rfl
theorem d_Checks_init_12 : decode prog_3_method_1_code 12 = .ok (.putfield 12, 3) := by decide +kernel
theorem u_612 : Cond.fieldLink "FilterGuard$Checks" 12 "FilterGuard$Checks" "state" "LFilterGuard$State;" ∈ fg_g := fg_in (List.mem_of_getElem? (i := 612) (by decide +kernel)) rfl
theorem P_Checks_2 {p : Program} {l : Launch} {e : Env} {R : Room} {s : Jvm.State} {m : MethodId} {args : Array Value} {below : List Frame} {meth : Method} {c : Code} {H : Heap} {locs : List Loc} {cells slots : Nat} {Q : Jvm.State → Prop} {cc : ByteArray} {pc : Nat} {ls : Array Slot} {rest : List Value} {D : va_G} {A : Nat → Prop} {H0 : Heap} {ad : Nat → Nat → Nat} {ca : Nat → ClassId} {M M1 : me_M} {N : Nat → Nat} {index j : Nat} {v : Nat} (he : M1 = wR M 6 j 2 (some v)) (hexec : p.tables.exec = Jvm.exec) (hb : c.code = cc) (hts : ∀ w ∈ fg_g, w.before args s = true) (hown : s.vm.findClass "FilterGuard$Checks" = some m.cls) (hK : va_K D classes (me_T ca) s) (hP : va_P D classes (me_W ad ca M) H) (hD : va_D A (me_W ad ca M)) (hwf : me_wf N M) (hS : va_S A H0 H locs) (hj : j < N 6) (hv : v < N 9) (hin2 : meth.name = "<init>") (hlink : (Cond.fieldLink "FilterGuard$Checks" index "FilterGuard$Checks" "state" "LFilterGuard$State;").before args s = true) (hdg : decode cc pc = .ok (.putfield index, 3)) (kk : ∀ (H1 : Heap) (locs1 : List Loc), va_P D classes (me_W ad ca M1) H1 → va_D A (me_W ad ca M1) → me_wf N M1 → va_S A H0 H1 locs1 → W p l e R s m args below meth c H1 locs1 cells slots Q (F0 m (pc + 3) ls rest)) : W p l e R s m args below meth c H locs cells slots Q (F0 m pc ls (.ref (ad 9 v) :: .ref (ad 6 j) :: rest)) := by
  subst he
  exact me_putF (M1 := wR M 6 j 2 (some v)) (k := 6) (f := 2) (C := "FilterGuard$Checks") (T := F_Checks) (Nf := 4) hexec hb hts i_Checks t_Checks t_Checks_ok n_Checks hown hK hP hD hwf hS hj (by decide) rfl (by decide) (by decide) hlink (fun _ h9 => h9) rfl hin2 rfl rfl rfl rfl (fun a b h => me_wRE h) (me_fRw (v := some v) (by decide) (by decide)) hdg (fun H1 locs1 a1 a2 a3 => kk H1 locs1 a1 a2 (me_wfR hwf (fun t z => by cases z; exact hv)) a3)
theorem d_Checks_init_15 : decode prog_3_method_1_code 15 = .ok (.aload_n 0, 1) := by decide +kernel
theorem d_Checks_init_16 : decode prog_3_method_1_code 16 = .ok (.aload_n 0, 1) := by decide +kernel
theorem d_Checks_init_17 : decode prog_3_method_1_code 17 = .ok (.getfield 12, 3) := by decide +kernel
theorem g_Checks_2 {p : Program} {l : Launch} {e : Env} {R : Room} {s : Jvm.State} {m : MethodId} {args : Array Value} {below : List Frame} {meth : Method} {c : Code} {H : Heap} {locs : List Loc} {cells slots : Nat} {Q : Jvm.State → Prop} {cc : ByteArray} {pc : Nat} {ls : Array Slot} {rest : List Value} {D : va_G} {ad : Nat → Nat → Nat} {ca : Nat → ClassId} {M : me_M} {N : Nat → Nat} {own : String} {index j : Nat} (hexec : p.tables.exec = Jvm.exec) (hb : c.code = cc) (hts : ∀ w ∈ fg_g, w.before args s = true) (hown : s.vm.findClass own = some m.cls) (hK : va_K D classes (me_T ca) s) (hP : va_P D classes (me_W ad ca M) H) (hwf : me_wf N M) (hj : j < N 6) (hlink : (Cond.fieldLink own index "FilterGuard$Checks" "state" "LFilterGuard$State;").before args s = true) (hdg : decode cc pc = .ok (.getfield index, 3)) (kk : W p l e R s m args below meth c H locs cells slots Q (F0 m (pc + 3) ls (va_rf ((mR M 6 j 2).map (ad 9)) :: rest))) : W p l e R s m args below meth c H locs cells slots Q (F0 m pc ls (.ref (ad 6 j) :: rest)) := me_get (k := 6) (f := 2) (C := "FilterGuard$Checks") (T := F_Checks) (Nf := 4) hexec hb hts i_Checks hown hK hP hwf hj (by decide) rfl (by decide) (by decide) hlink (fun _ h9 => h9) hdg kk
theorem d_Checks_init_20 : decode prog_3_method_1_code 20 = .ok (.getfield 18, 3) := by decide +kernel
theorem u_524 : Cond.fieldLink "FilterGuard$Checks" 18 "FilterGuard$State" "cells" "[LFilterGuard$Cell;" ∈ fg_g := fg_in (List.mem_of_getElem? (i := 524) (by decide +kernel)) rfl
theorem d_Checks_init_23 : decode prog_3_method_1_code 23 = .ok (.putfield 22, 3) := by decide +kernel
theorem u_613 : Cond.fieldLink "FilterGuard$Checks" 22 "FilterGuard$Checks" "cells" "[LFilterGuard$Cell;" ∈ fg_g := fg_in (List.mem_of_getElem? (i := 613) (by decide +kernel)) rfl
theorem P_Checks_3 {p : Program} {l : Launch} {e : Env} {R : Room} {s : Jvm.State} {m : MethodId} {args : Array Value} {below : List Frame} {meth : Method} {c : Code} {H : Heap} {locs : List Loc} {cells slots : Nat} {Q : Jvm.State → Prop} {cc : ByteArray} {pc : Nat} {ls : Array Slot} {rest : List Value} {D : va_G} {A : Nat → Prop} {H0 : Heap} {ad : Nat → Nat → Nat} {ca : Nat → ClassId} {M M1 : me_M} {N : Nat → Nat} {index j : Nat} {v : Nat} (he : M1 = wR M 6 j 3 (some v)) (hexec : p.tables.exec = Jvm.exec) (hb : c.code = cc) (hts : ∀ w ∈ fg_g, w.before args s = true) (hown : s.vm.findClass "FilterGuard$Checks" = some m.cls) (hK : va_K D classes (me_T ca) s) (hP : va_P D classes (me_W ad ca M) H) (hD : va_D A (me_W ad ca M)) (hwf : me_wf N M) (hS : va_S A H0 H locs) (hj : j < N 6) (hv : v < N 18) (hin2 : meth.name = "<init>") (hlink : (Cond.fieldLink "FilterGuard$Checks" index "FilterGuard$Checks" "cells" "[LFilterGuard$Cell;").before args s = true) (hdg : decode cc pc = .ok (.putfield index, 3)) (kk : ∀ (H1 : Heap) (locs1 : List Loc), va_P D classes (me_W ad ca M1) H1 → va_D A (me_W ad ca M1) → me_wf N M1 → va_S A H0 H1 locs1 → W p l e R s m args below meth c H1 locs1 cells slots Q (F0 m (pc + 3) ls rest)) : W p l e R s m args below meth c H locs cells slots Q (F0 m pc ls (.ref (ad 18 v) :: .ref (ad 6 j) :: rest)) := by
  subst he
  exact me_putF (M1 := wR M 6 j 3 (some v)) (k := 6) (f := 3) (C := "FilterGuard$Checks") (T := F_Checks) (Nf := 4) hexec hb hts i_Checks t_Checks t_Checks_ok n_Checks hown hK hP hD hwf hS hj (by decide) rfl (by decide) (by decide) hlink (fun _ h9 => h9) rfl hin2 rfl rfl rfl rfl (fun a b h => me_wRE h) (me_fRw (v := some v) (by decide) (by decide)) hdg (fun H1 locs1 a1 a2 a3 => kk H1 locs1 a1 a2 (me_wfR hwf (fun t z => by cases z; exact hv)) a3)
theorem d_Checks_init_26 : decode prog_3_method_1_code 26 = .ok (.aload_n 0, 1) := by decide +kernel
theorem d_Checks_init_27 : decode prog_3_method_1_code 27 = .ok (.aload_n 1, 1) := by decide +kernel
theorem d_Checks_init_28 : decode prog_3_method_1_code 28 = .ok (.putfield 23, 3) := by decide +kernel
theorem u_610 : Cond.fieldLink "FilterGuard$Checks" 23 "FilterGuard$Checks" "code" "LFilterGuard$Code;" ∈ fg_g := fg_in (List.mem_of_getElem? (i := 610) (by decide +kernel)) rfl
theorem P_Checks_0 {p : Program} {l : Launch} {e : Env} {R : Room} {s : Jvm.State} {m : MethodId} {args : Array Value} {below : List Frame} {meth : Method} {c : Code} {H : Heap} {locs : List Loc} {cells slots : Nat} {Q : Jvm.State → Prop} {cc : ByteArray} {pc : Nat} {ls : Array Slot} {rest : List Value} {D : va_G} {A : Nat → Prop} {H0 : Heap} {ad : Nat → Nat → Nat} {ca : Nat → ClassId} {M M1 : me_M} {N : Nat → Nat} {index j : Nat} {v : Nat} (he : M1 = wR M 6 j 0 (some v)) (hexec : p.tables.exec = Jvm.exec) (hb : c.code = cc) (hts : ∀ w ∈ fg_g, w.before args s = true) (hown : s.vm.findClass "FilterGuard$Checks" = some m.cls) (hK : va_K D classes (me_T ca) s) (hP : va_P D classes (me_W ad ca M) H) (hD : va_D A (me_W ad ca M)) (hwf : me_wf N M) (hS : va_S A H0 H locs) (hj : j < N 6) (hv : v < N 2) (hin2 : meth.name = "<init>") (hlink : (Cond.fieldLink "FilterGuard$Checks" index "FilterGuard$Checks" "code" "LFilterGuard$Code;").before args s = true) (hdg : decode cc pc = .ok (.putfield index, 3)) (kk : ∀ (H1 : Heap) (locs1 : List Loc), va_P D classes (me_W ad ca M1) H1 → va_D A (me_W ad ca M1) → me_wf N M1 → va_S A H0 H1 locs1 → W p l e R s m args below meth c H1 locs1 cells slots Q (F0 m (pc + 3) ls rest)) : W p l e R s m args below meth c H locs cells slots Q (F0 m pc ls (.ref (ad 2 v) :: .ref (ad 6 j) :: rest)) := by
  subst he
  exact me_putF (M1 := wR M 6 j 0 (some v)) (k := 6) (f := 0) (C := "FilterGuard$Checks") (T := F_Checks) (Nf := 4) hexec hb hts i_Checks t_Checks t_Checks_ok n_Checks hown hK hP hD hwf hS hj (by decide) rfl (by decide) (by decide) hlink (fun _ h9 => h9) rfl hin2 rfl rfl rfl rfl (fun a b h => me_wRE h) (me_fRw (v := some v) (by decide) (by decide)) hdg (fun H1 locs1 a1 a2 a3 => kk H1 locs1 a1 a2 (me_wfR hwf (fun t z => by cases z; exact hv)) a3)
theorem d_Checks_init_31 : decode prog_3_method_1_code 31 = .ok (.aload_n 0, 1) := by decide +kernel
theorem d_Checks_init_32 : decode prog_3_method_1_code 32 = .ok (.aload_n 2, 1) := by decide +kernel
theorem d_Checks_init_33 : decode prog_3_method_1_code 33 = .ok (.putfield 27, 3) := by decide +kernel
theorem u_611 : Cond.fieldLink "FilterGuard$Checks" 27 "FilterGuard$Checks" "stores" "[LFilterGuard$Store;" ∈ fg_g := fg_in (List.mem_of_getElem? (i := 611) (by decide +kernel)) rfl
theorem P_Checks_1 {p : Program} {l : Launch} {e : Env} {R : Room} {s : Jvm.State} {m : MethodId} {args : Array Value} {below : List Frame} {meth : Method} {c : Code} {H : Heap} {locs : List Loc} {cells slots : Nat} {Q : Jvm.State → Prop} {cc : ByteArray} {pc : Nat} {ls : Array Slot} {rest : List Value} {D : va_G} {A : Nat → Prop} {H0 : Heap} {ad : Nat → Nat → Nat} {ca : Nat → ClassId} {M M1 : me_M} {N : Nat → Nat} {index j : Nat} {v : Nat} (he : M1 = wR M 6 j 1 (some v)) (hexec : p.tables.exec = Jvm.exec) (hb : c.code = cc) (hts : ∀ w ∈ fg_g, w.before args s = true) (hown : s.vm.findClass "FilterGuard$Checks" = some m.cls) (hK : va_K D classes (me_T ca) s) (hP : va_P D classes (me_W ad ca M) H) (hD : va_D A (me_W ad ca M)) (hwf : me_wf N M) (hS : va_S A H0 H locs) (hj : j < N 6) (hv : v < N 19) (hin2 : meth.name = "<init>") (hlink : (Cond.fieldLink "FilterGuard$Checks" index "FilterGuard$Checks" "stores" "[LFilterGuard$Store;").before args s = true) (hdg : decode cc pc = .ok (.putfield index, 3)) (kk : ∀ (H1 : Heap) (locs1 : List Loc), va_P D classes (me_W ad ca M1) H1 → va_D A (me_W ad ca M1) → me_wf N M1 → va_S A H0 H1 locs1 → W p l e R s m args below meth c H1 locs1 cells slots Q (F0 m (pc + 3) ls rest)) : W p l e R s m args below meth c H locs cells slots Q (F0 m pc ls (.ref (ad 19 v) :: .ref (ad 6 j) :: rest)) := by
  subst he
  exact me_putF (M1 := wR M 6 j 1 (some v)) (k := 6) (f := 1) (C := "FilterGuard$Checks") (T := F_Checks) (Nf := 4) hexec hb hts i_Checks t_Checks t_Checks_ok n_Checks hown hK hP hD hwf hS hj (by decide) rfl (by decide) (by decide) hlink (fun _ h9 => h9) rfl hin2 rfl rfl rfl rfl (fun a b h => me_wRE h) (me_fRw (v := some v) (by decide) (by decide)) hdg (fun H1 locs1 a1 a2 a3 => kk H1 locs1 a1 a2 (me_wfR hwf (fun t z => by cases z; exact hv)) a3)
theorem d_Checks_init_36 : decode prog_3_method_1_code 36 = .ok (.return_, 1) := by decide +kernel
abbrev y_Checks_init : MethodName := ⟨"FilterGuard$Checks", "<init>", "(LFilterGuard$Code;[LFilterGuard$Store;)V"⟩
def rm_Checks_init (N0 : Nat → Nat) : Room := { frames := 4, cells := me_CL - me_cN N0, slots := me_SL - me_sN N0, locals := 91 }
abbrev q_Checks_init (D : va_G) (ad0 : Nat → Nat → Nat) (ca : Nat → ClassId) (N0 : Nat → Nat) (MZ : me_M) (A : Nat → Prop) : Array Value → Jvm.State → Outcome → Jvm.State → Prop := va_Qv (fun (u : Nat → Nat → Nat) => al_P ad0 N0 MZ u ∧ True) (fg_B D A (fun u => me_W u ca MZ) (fun _ => [])) A
set_option maxHeartbeats 4000000 in
set_option maxRecDepth 100000 in
theorem c_Checks_init (l : Launch) (D : va_G) (ad0 : Nat → Nat → Nat) (ca : Nat → ClassId) (N0 : Nat → Nat) (M0 MZ : me_M) (j0 : Nat) (j1 : Nat) (j2 : Nat) (h : f_Checks_init M0 j0 j1 j2 = (some MZ)) (hwf : me_wf N0 M0) (hcl : me_cN N0 ≤ me_CL ∧ me_sN N0 ≤ me_SL) (hj0 : j0 < N0 6) (hj1 : j1 < N0 2) (hj2 : j2 < N0 19) (sz : Nat) : Met l y_Checks_init (fg_w y_Checks_init prog_3_method_1_code 3 none) (rm_Checks_init N0) (va_Pc [.ref (ad0 6 j0), .ref (ad0 2 j1), .ref (ad0 19 j2)] (fz_P D (me_T ca) (me_W ad0 ca M0) sz)) (q_Checks_init D ad0 ca N0 MZ (va_A (me_W ad0 ca M0) sz)) (me_cN (mN MZ) - me_cN N0) (me_sN (mN MZ) - me_sN N0) (va_A (me_W ad0 ca M0) sz) := by
  refine fz_enter (fun A => q_Checks_init D ad0 ca N0 MZ A) (by decide +kernel) (Nat.le_of_ble_eq_true rfl) ?_
  intro p e s m below meth c ls A hx hb hml hown hts hr hlocks hin hP hK hD hS hA hX hl hz
  refine W.widen (k := me_cN N0 - me_cN N0) (n := me_sN N0 - me_sN N0) (Nat.zero_le _) (Nat.zero_le _) ?_
  unfold f_Checks_init at h
  have hok : me_ok N0 N0 := me_ok.rf hcl
  obtain ⟨ad, N, hext0, hok, hwf, hP, hD, hN9, had9, hj0, hj1, hj2⟩ : ∃ (ad : Nat → Nat → Nat) (N : Nat → Nat), (∀ a b, b < N0 a → ad a b = ad0 a b) ∧ me_ok N0 N ∧ me_wf N M0 ∧ va_P D classes (me_W ad ca M0) s.heap ∧ va_D A (me_W ad ca M0) ∧ N = N0 ∧ ad = ad0 ∧ j0 < N 6 ∧ j1 < N 2 ∧ j2 < N 19 := ⟨ad0, N0, fun _ _ _ => rfl, hok, hwf, hP, hD, rfl, rfl, hj0, hj1, hj2⟩
  have hl : lv_has ls 3 [(0, .ref (ad 6 j0)), (1, .ref (ad 2 j1)), (2, .ref (ad 19 j2))] := by rw [had9]; exact hl
  have hcs : W p l e (rm_Checks_init N0) s m [.ref (ad0 6 j0), .ref (ad0 2 j1), .ref (ad0 19 j2)].toArray below meth c s.heap [] (me_cN N - me_cN N0) (me_sN N - me_sN N0) (MQ below (q_Checks_init D ad0 ca N0 MZ A) [.ref (ad0 6 j0), .ref (ad0 2 j1), .ref (ad0 19 j2)].toArray s (me_cN (mN MZ) - me_cN N0) (me_sN (mN MZ) - me_sN N0) A) (F0 m 0 ls []) := by
    clear had9
    refine lv_aload_n hx hb d_Checks_init_0 rfl (lv_at hl 0 rfl) ?_
    refine W.objInit hx hb hown (hts _ u_607) (hts _ u_210) (hts _ u_211) rfl (by rw [hml]; exact hl.1) rfl d_Checks_init_1 (Nat.le_of_ble_eq_true rfl) (Nat.le_of_ble_eq_true rfl) ?_
    refine W.eq (g2 := F0 m 4 ls []) rfl ?_
    refine lv_aload_n hx hb d_Checks_init_4 rfl (lv_at hl 0 rfl) ?_
    obtain ⟨g1, h⟩ := gd_ob h
    obtain ⟨M2, eM2, h⟩ := st_ob h
    refine al_new (k := 9) (fs := [.null, .int 0, .int 0, .int 0, .int 0]) (C := "FilterGuard$State") (T := F_State) (Nf := 5) eM2 g1 hx hb hts i_State t_State t_State_ok hown (hts _ u_608) (hts _ u_515) (hts _ u_189) hK hP hD hwf hok hS hA (by decide) rfl (by decide) z_State rfl rfl rfl d_Checks_init_5 (fun ad N H hext hNN hn3 hwf hok1 hP hD hS => ?_)
    have hext0 := al_ext hext hext0 hok
    have hok := hok1
    have hl : lv_has ls 3 [(0, .ref (ad 6 j0)), (1, .ref (ad 2 j1)), (2, .ref (ad 19 j2))] := by rw [hext 6 j0 hj0, hext 2 j1 hj1, hext 19 j2 hj2]; exact hl
    refine W.eq (g2 := F0 m 8 ls [.ref (ad 9 (mN M0 9)), .ref (ad 6 j0)]) (by rw [hext 6 j0 hj0]) ?_
    have hj0 : j0 < N 6 := Nat.lt_of_lt_of_le hj0 (hNN 6)
    have hj1 : j1 < N 2 := Nat.lt_of_lt_of_le hj1 (hNN 2)
    have hj2 : j2 < N 19 := Nat.lt_of_lt_of_le hj2 (hNN 19)
    refine lv_dup hx hb d_Checks_init_8 rfl ?_
    obtain ⟨M4, eM4, h⟩ := bd_ob h
    refine al_thenv (M1 := M4) (al_runI (As := []) (rest := [.ref (ad 9 (mN M0 9)), .ref (ad 6 j0)]) ⟨hx, hb, hml, hown, hts⟩ (c_State_init l D ad ca N M2 M4 (mN M0 9) eM4 hwf ⟨hok.2.2.1, hok.2.2.2.1⟩ hn3 _) rfl (by show fg_nm y_State_init 0; decide +kernel) u_609 u_517 u_189 u_518 ⟨Nat.le_of_ble_eq_true rfl, Nat.le_of_ble_eq_true rfl⟩ hX hz hK hP hD hS hA rfl hl.1 (Nat.le_of_ble_eq_true rfl) d_Checks_init_9 (al_g hok)) hP hD hok hK hS hA (fun ad N H locs hext hNN hwf hok1 heN hq9 hP hD hS => ?_)
    have hext0 := al_ext hext hext0 hok
    have hok := hok1
    have hl : lv_has ls 3 [(0, .ref (ad 6 j0)), (1, .ref (ad 2 j1)), (2, .ref (ad 19 j2))] := by rw [hext 6 j0 hj0, hext 2 j1 hj1, hext 19 j2 hj2]; exact hl
    refine W.eq (g2 := F0 m 12 ls [.ref (ad 9 (mN M0 9)), .ref (ad 6 j0)]) (by rw [hext 9 (mN M0 9) hn3, hext 6 j0 hj0]) ?_
    have hj0 : j0 < N 6 := Nat.lt_of_lt_of_le hj0 (hNN 6)
    have hj1 : j1 < N 2 := Nat.lt_of_lt_of_le hj1 (hNN 2)
    have hj2 : j2 < N 19 := Nat.lt_of_lt_of_le hj2 (hNN 19)
    have hn3 : (mN M0 9) < N 9 := Nat.lt_of_lt_of_le hn3 (hNN 9)
    obtain ⟨M5, eM5, h⟩ := st_ob h
    refine P_Checks_2 eM5 hx hb hts hown hK hP hD hwf hS hj0 hn3 hin (hts _ u_612) d_Checks_init_12 (fun H locs hP hD hwf hS => ?_)
    refine lv_aload_n hx hb d_Checks_init_15 rfl (lv_at hl 0 rfl) ?_
    refine lv_aload_n hx hb d_Checks_init_16 rfl (lv_at hl 0 rfl) ?_
    refine g_Checks_2 hx hb hts hown hK hP hwf hj0 (hts _ u_612) d_Checks_init_17 ?_
    obtain ⟨j6, e7, h⟩ := bd_ob h
    have hj6 : j6 < N 9 := (hwf.2.1 6 j0 2 _ e7 (by decide) hj0)
    refine me_opt (j := j6) e7 ?_
    refine g_State_0 hx hb hts hown hK hP hwf hj6 (hts _ u_524) d_Checks_init_20 ?_
    obtain ⟨j8, e9, h⟩ := bd_ob h
    have hj8 : j8 < N 18 := (hwf.2.1 9 j6 0 _ e9 (by decide) hj6)
    refine me_opt (j := j8) e9 ?_
    obtain ⟨M10, eM10, h⟩ := st_ob h
    refine P_Checks_3 eM10 hx hb hts hown hK hP hD hwf hS hj0 hj8 hin (hts _ u_613) d_Checks_init_23 (fun H locs hP hD hwf hS => ?_)
    refine lv_aload_n hx hb d_Checks_init_26 rfl (lv_at hl 0 rfl) ?_
    refine lv_aload_n hx hb d_Checks_init_27 rfl (lv_at hl 1 rfl) ?_
    obtain ⟨M11, eM11, h⟩ := st_ob h
    refine P_Checks_0 eM11 hx hb hts hown hK hP hD hwf hS hj0 hj1 hin (hts _ u_610) d_Checks_init_28 (fun H locs hP hD hwf hS => ?_)
    refine lv_aload_n hx hb d_Checks_init_31 rfl (lv_at hl 0 rfl) ?_
    refine lv_aload_n hx hb d_Checks_init_32 rfl (lv_at hl 2 rfl) ?_
    obtain ⟨M12, eM12, h⟩ := st_ob h
    refine P_Checks_1 eM12 hx hb hts hown hK hP hD hwf hS hj0 hj2 hin (hts _ u_611) d_Checks_init_33 (fun H locs hP hD hwf hS => ?_)
    exact al_retv h hx hb hr hlocks hwf hok hext0 hP hK hD hS d_Checks_init_36
  rw [hN9] at hcs
  exact hcs
theorem d_Machine_init_0 : decode prog_7_method_1_code 0 = .ok (.aload_n 0, 1) := by decide +kernel
theorem d_Machine_init_1 : decode prog_7_method_1_code 1 = .ok (.invokespecial 3, 3) := by decide +kernel
theorem u_601 : Cond.methodLink "FilterGuard$Machine" 3 ⟨"java/lang/Object", "<init>", "()V"⟩ ∈ fg_g := fg_in (List.mem_of_getElem? (i := 601) (by decide +kernel)) rfl
theorem d_Machine_init_4 : decode prog_7_method_1_code 4 = .ok (.aload_n 0, 1) := by decide +kernel
theorem d_Machine_init_5 : decode prog_7_method_1_code 5 = .ok (.bipush 64, 2) := by decide +kernel
theorem d_Machine_init_7 : decode prog_7_method_1_code 7 = .ok (.newarray .byte, 2) := by decide +kernel
theorem u_309 : Cond.arrayClass .byte ∈ fg_g := fg_in (List.mem_of_getElem? (i := 309) (by decide +kernel)) rfl
theorem d_Machine_init_9 : decode prog_7_method_1_code 9 = .ok (.putfield 9, 3) := by decide +kernel
theorem u_627 : Cond.fieldLink "FilterGuard$Machine" 9 "FilterGuard$Machine" "context" "[B" ∈ fg_g := fg_in (List.mem_of_getElem? (i := 627) (by decide +kernel)) rfl
theorem P_Machine_4 {p : Program} {l : Launch} {e : Env} {R : Room} {s : Jvm.State} {m : MethodId} {args : Array Value} {below : List Frame} {meth : Method} {c : Code} {H : Heap} {locs : List Loc} {cells slots : Nat} {Q : Jvm.State → Prop} {cc : ByteArray} {pc : Nat} {ls : Array Slot} {rest : List Value} {D : va_G} {A : Nat → Prop} {H0 : Heap} {ad : Nat → Nat → Nat} {ca : Nat → ClassId} {M M1 : me_M} {N : Nat → Nat} {index j : Nat} {v : Nat} (he : M1 = wR M 5 j 4 (some v)) (hexec : p.tables.exec = Jvm.exec) (hb : c.code = cc) (hts : ∀ w ∈ fg_g, w.before args s = true) (hown : s.vm.findClass "FilterGuard$Machine" = some m.cls) (hK : va_K D classes (me_T ca) s) (hP : va_P D classes (me_W ad ca M) H) (hD : va_D A (me_W ad ca M)) (hwf : me_wf N M) (hS : va_S A H0 H locs) (hj : j < N 5) (hv : v < N 14) (hin2 : meth.name = "<init>") (hlink : (Cond.fieldLink "FilterGuard$Machine" index "FilterGuard$Machine" "context" "[B").before args s = true) (hdg : decode cc pc = .ok (.putfield index, 3)) (kk : ∀ (H1 : Heap) (locs1 : List Loc), va_P D classes (me_W ad ca M1) H1 → va_D A (me_W ad ca M1) → me_wf N M1 → va_S A H0 H1 locs1 → W p l e R s m args below meth c H1 locs1 cells slots Q (F0 m (pc + 3) ls rest)) : W p l e R s m args below meth c H locs cells slots Q (F0 m pc ls (.ref (ad 14 v) :: .ref (ad 5 j) :: rest)) := by
  subst he
  exact me_putF (M1 := wR M 5 j 4 (some v)) (k := 5) (f := 4) (C := "FilterGuard$Machine") (T := F_Machine) (Nf := 20) hexec hb hts i_Machine t_Machine t_Machine_ok n_Machine hown hK hP hD hwf hS hj (by decide) rfl (by decide) (by decide) hlink (fun _ h9 => h9) rfl hin2 rfl rfl rfl rfl (fun a b h => me_wRE h) (me_fRw (v := some v) (by decide) (by decide)) hdg (fun H1 locs1 a1 a2 a3 => kk H1 locs1 a1 a2 (me_wfR hwf (fun t z => by cases z; exact hv)) a3)
theorem d_Machine_init_12 : decode prog_7_method_1_code 12 = .ok (.aload_n 0, 1) := by decide +kernel
theorem d_Machine_init_13 : decode prog_7_method_1_code 13 = .ok (.sipush 512, 3) := by decide +kernel
theorem d_Machine_init_16 : decode prog_7_method_1_code 16 = .ok (.newarray .byte, 2) := by decide +kernel
theorem d_Machine_init_18 : decode prog_7_method_1_code 18 = .ok (.putfield 15, 3) := by decide +kernel
theorem u_628 : Cond.fieldLink "FilterGuard$Machine" 15 "FilterGuard$Machine" "stack" "[B" ∈ fg_g := fg_in (List.mem_of_getElem? (i := 628) (by decide +kernel)) rfl
theorem P_Machine_5 {p : Program} {l : Launch} {e : Env} {R : Room} {s : Jvm.State} {m : MethodId} {args : Array Value} {below : List Frame} {meth : Method} {c : Code} {H : Heap} {locs : List Loc} {cells slots : Nat} {Q : Jvm.State → Prop} {cc : ByteArray} {pc : Nat} {ls : Array Slot} {rest : List Value} {D : va_G} {A : Nat → Prop} {H0 : Heap} {ad : Nat → Nat → Nat} {ca : Nat → ClassId} {M M1 : me_M} {N : Nat → Nat} {index j : Nat} {v : Nat} (he : M1 = wR M 5 j 5 (some v)) (hexec : p.tables.exec = Jvm.exec) (hb : c.code = cc) (hts : ∀ w ∈ fg_g, w.before args s = true) (hown : s.vm.findClass "FilterGuard$Machine" = some m.cls) (hK : va_K D classes (me_T ca) s) (hP : va_P D classes (me_W ad ca M) H) (hD : va_D A (me_W ad ca M)) (hwf : me_wf N M) (hS : va_S A H0 H locs) (hj : j < N 5) (hv : v < N 14) (hin2 : meth.name = "<init>") (hlink : (Cond.fieldLink "FilterGuard$Machine" index "FilterGuard$Machine" "stack" "[B").before args s = true) (hdg : decode cc pc = .ok (.putfield index, 3)) (kk : ∀ (H1 : Heap) (locs1 : List Loc), va_P D classes (me_W ad ca M1) H1 → va_D A (me_W ad ca M1) → me_wf N M1 → va_S A H0 H1 locs1 → W p l e R s m args below meth c H1 locs1 cells slots Q (F0 m (pc + 3) ls rest)) : W p l e R s m args below meth c H locs cells slots Q (F0 m pc ls (.ref (ad 14 v) :: .ref (ad 5 j) :: rest)) := by
  subst he
  exact me_putF (M1 := wR M 5 j 5 (some v)) (k := 5) (f := 5) (C := "FilterGuard$Machine") (T := F_Machine) (Nf := 20) hexec hb hts i_Machine t_Machine t_Machine_ok n_Machine hown hK hP hD hwf hS hj (by decide) rfl (by decide) (by decide) hlink (fun _ h9 => h9) rfl hin2 rfl rfl rfl rfl (fun a b h => me_wRE h) (me_fRw (v := some v) (by decide) (by decide)) hdg (fun H1 locs1 a1 a2 a3 => kk H1 locs1 a1 a2 (me_wfR hwf (fun t z => by cases z; exact hv)) a3)
theorem d_Machine_init_21 : decode prog_7_method_1_code 21 = .ok (.aload_n 0, 1) := by decide +kernel
theorem d_Machine_init_22 : decode prog_7_method_1_code 22 = .ok (.bipush 16, 2) := by decide +kernel
theorem d_Machine_init_24 : decode prog_7_method_1_code 24 = .ok (.newarray .long, 2) := by decide +kernel
theorem d_Machine_init_26 : decode prog_7_method_1_code 26 = .ok (.putfield 18, 3) := by decide +kernel
theorem u_629 : Cond.fieldLink "FilterGuard$Machine" 18 "FilterGuard$Machine" "registers" "[J" ∈ fg_g := fg_in (List.mem_of_getElem? (i := 629) (by decide +kernel)) rfl
theorem P_Machine_6 {p : Program} {l : Launch} {e : Env} {R : Room} {s : Jvm.State} {m : MethodId} {args : Array Value} {below : List Frame} {meth : Method} {c : Code} {H : Heap} {locs : List Loc} {cells slots : Nat} {Q : Jvm.State → Prop} {cc : ByteArray} {pc : Nat} {ls : Array Slot} {rest : List Value} {D : va_G} {A : Nat → Prop} {H0 : Heap} {ad : Nat → Nat → Nat} {ca : Nat → ClassId} {M M1 : me_M} {N : Nat → Nat} {index j : Nat} {v : Nat} (he : M1 = wR M 5 j 6 (some v)) (hexec : p.tables.exec = Jvm.exec) (hb : c.code = cc) (hts : ∀ w ∈ fg_g, w.before args s = true) (hown : s.vm.findClass "FilterGuard$Machine" = some m.cls) (hK : va_K D classes (me_T ca) s) (hP : va_P D classes (me_W ad ca M) H) (hD : va_D A (me_W ad ca M)) (hwf : me_wf N M) (hS : va_S A H0 H locs) (hj : j < N 5) (hv : v < N 16) (hin2 : meth.name = "<init>") (hlink : (Cond.fieldLink "FilterGuard$Machine" index "FilterGuard$Machine" "registers" "[J").before args s = true) (hdg : decode cc pc = .ok (.putfield index, 3)) (kk : ∀ (H1 : Heap) (locs1 : List Loc), va_P D classes (me_W ad ca M1) H1 → va_D A (me_W ad ca M1) → me_wf N M1 → va_S A H0 H1 locs1 → W p l e R s m args below meth c H1 locs1 cells slots Q (F0 m (pc + 3) ls rest)) : W p l e R s m args below meth c H locs cells slots Q (F0 m pc ls (.ref (ad 16 v) :: .ref (ad 5 j) :: rest)) := by
  subst he
  exact me_putF (M1 := wR M 5 j 6 (some v)) (k := 5) (f := 6) (C := "FilterGuard$Machine") (T := F_Machine) (Nf := 20) hexec hb hts i_Machine t_Machine t_Machine_ok n_Machine hown hK hP hD hwf hS hj (by decide) rfl (by decide) (by decide) hlink (fun _ h9 => h9) rfl hin2 rfl rfl rfl rfl (fun a b h => me_wRE h) (me_fRw (v := some v) (by decide) (by decide)) hdg (fun H1 locs1 a1 a2 a3 => kk H1 locs1 a1 a2 (me_wfR hwf (fun t z => by cases z; exact hv)) a3)
theorem d_Machine_init_29 : decode prog_7_method_1_code 29 = .ok (.aload_n 0, 1) := by decide +kernel
theorem d_Machine_init_30 : decode prog_7_method_1_code 30 = .ok (.sipush 2000, 3) := by decide +kernel
theorem d_Machine_init_33 : decode prog_7_method_1_code 33 = .ok (.newarray .byte, 2) := by decide +kernel
theorem d_Machine_init_35 : decode prog_7_method_1_code 35 = .ok (.putfield 22, 3) := by decide +kernel
theorem u_630 : Cond.fieldLink "FilterGuard$Machine" 22 "FilterGuard$Machine" "packet" "[B" ∈ fg_g := fg_in (List.mem_of_getElem? (i := 630) (by decide +kernel)) rfl
theorem P_Machine_7 {p : Program} {l : Launch} {e : Env} {R : Room} {s : Jvm.State} {m : MethodId} {args : Array Value} {below : List Frame} {meth : Method} {c : Code} {H : Heap} {locs : List Loc} {cells slots : Nat} {Q : Jvm.State → Prop} {cc : ByteArray} {pc : Nat} {ls : Array Slot} {rest : List Value} {D : va_G} {A : Nat → Prop} {H0 : Heap} {ad : Nat → Nat → Nat} {ca : Nat → ClassId} {M M1 : me_M} {N : Nat → Nat} {index j : Nat} {v : Nat} (he : M1 = wR M 5 j 7 (some v)) (hexec : p.tables.exec = Jvm.exec) (hb : c.code = cc) (hts : ∀ w ∈ fg_g, w.before args s = true) (hown : s.vm.findClass "FilterGuard$Machine" = some m.cls) (hK : va_K D classes (me_T ca) s) (hP : va_P D classes (me_W ad ca M) H) (hD : va_D A (me_W ad ca M)) (hwf : me_wf N M) (hS : va_S A H0 H locs) (hj : j < N 5) (hv : v < N 14) (hin2 : meth.name = "<init>") (hlink : (Cond.fieldLink "FilterGuard$Machine" index "FilterGuard$Machine" "packet" "[B").before args s = true) (hdg : decode cc pc = .ok (.putfield index, 3)) (kk : ∀ (H1 : Heap) (locs1 : List Loc), va_P D classes (me_W ad ca M1) H1 → va_D A (me_W ad ca M1) → me_wf N M1 → va_S A H0 H1 locs1 → W p l e R s m args below meth c H1 locs1 cells slots Q (F0 m (pc + 3) ls rest)) : W p l e R s m args below meth c H locs cells slots Q (F0 m pc ls (.ref (ad 14 v) :: .ref (ad 5 j) :: rest)) := by
  subst he
  exact me_putF (M1 := wR M 5 j 7 (some v)) (k := 5) (f := 7) (C := "FilterGuard$Machine") (T := F_Machine) (Nf := 20) hexec hb hts i_Machine t_Machine t_Machine_ok n_Machine hown hK hP hD hwf hS hj (by decide) rfl (by decide) (by decide) hlink (fun _ h9 => h9) rfl hin2 rfl rfl rfl rfl (fun a b h => me_wRE h) (me_fRw (v := some v) (by decide) (by decide)) hdg (fun H1 locs1 a1 a2 a3 => kk H1 locs1 a1 a2 (me_wfR hwf (fun t z => by cases z; exact hv)) a3)
theorem d_Machine_init_38 : decode prog_7_method_1_code 38 = .ok (.aload_n 0, 1) := by decide +kernel
theorem d_Machine_init_39 : decode prog_7_method_1_code 39 = .ok (.sipush 1000, 3) := by decide +kernel
theorem d_Machine_init_42 : decode prog_7_method_1_code 42 = .ok (.newarray .long, 2) := by decide +kernel
theorem d_Machine_init_44 : decode prog_7_method_1_code 44 = .ok (.putfield 25, 3) := by decide +kernel
theorem u_634 : Cond.fieldLink "FilterGuard$Machine" 25 "FilterGuard$Machine" "tellings" "[J" ∈ fg_g := fg_in (List.mem_of_getElem? (i := 634) (by decide +kernel)) rfl
theorem P_Machine_9 {p : Program} {l : Launch} {e : Env} {R : Room} {s : Jvm.State} {m : MethodId} {args : Array Value} {below : List Frame} {meth : Method} {c : Code} {H : Heap} {locs : List Loc} {cells slots : Nat} {Q : Jvm.State → Prop} {cc : ByteArray} {pc : Nat} {ls : Array Slot} {rest : List Value} {D : va_G} {A : Nat → Prop} {H0 : Heap} {ad : Nat → Nat → Nat} {ca : Nat → ClassId} {M M1 : me_M} {N : Nat → Nat} {index j : Nat} {v : Nat} (he : M1 = wR M 5 j 9 (some v)) (hexec : p.tables.exec = Jvm.exec) (hb : c.code = cc) (hts : ∀ w ∈ fg_g, w.before args s = true) (hown : s.vm.findClass "FilterGuard$Machine" = some m.cls) (hK : va_K D classes (me_T ca) s) (hP : va_P D classes (me_W ad ca M) H) (hD : va_D A (me_W ad ca M)) (hwf : me_wf N M) (hS : va_S A H0 H locs) (hj : j < N 5) (hv : v < N 16) (hin2 : meth.name = "<init>") (hlink : (Cond.fieldLink "FilterGuard$Machine" index "FilterGuard$Machine" "tellings" "[J").before args s = true) (hdg : decode cc pc = .ok (.putfield index, 3)) (kk : ∀ (H1 : Heap) (locs1 : List Loc), va_P D classes (me_W ad ca M1) H1 → va_D A (me_W ad ca M1) → me_wf N M1 → va_S A H0 H1 locs1 → W p l e R s m args below meth c H1 locs1 cells slots Q (F0 m (pc + 3) ls rest)) : W p l e R s m args below meth c H locs cells slots Q (F0 m pc ls (.ref (ad 16 v) :: .ref (ad 5 j) :: rest)) := by
  subst he
  exact me_putF (M1 := wR M 5 j 9 (some v)) (k := 5) (f := 9) (C := "FilterGuard$Machine") (T := F_Machine) (Nf := 20) hexec hb hts i_Machine t_Machine t_Machine_ok n_Machine hown hK hP hD hwf hS hj (by decide) rfl (by decide) (by decide) hlink (fun _ h9 => h9) rfl hin2 rfl rfl rfl rfl (fun a b h => me_wRE h) (me_fRw (v := some v) (by decide) (by decide)) hdg (fun H1 locs1 a1 a2 a3 => kk H1 locs1 a1 a2 (me_wfR hwf (fun t z => by cases z; exact hv)) a3)
theorem d_Machine_init_47 : decode prog_7_method_1_code 47 = .ok (.aload_n 0, 1) := by decide +kernel
theorem d_Machine_init_48 : decode prog_7_method_1_code 48 = .ok (.aload_n 1, 1) := by decide +kernel
theorem d_Machine_init_49 : decode prog_7_method_1_code 49 = .ok (.putfield 28, 3) := by decide +kernel
theorem u_623 : Cond.fieldLink "FilterGuard$Machine" 28 "FilterGuard$Machine" "code" "LFilterGuard$Code;" ∈ fg_g := fg_in (List.mem_of_getElem? (i := 623) (by decide +kernel)) rfl
theorem P_Machine_0 {p : Program} {l : Launch} {e : Env} {R : Room} {s : Jvm.State} {m : MethodId} {args : Array Value} {below : List Frame} {meth : Method} {c : Code} {H : Heap} {locs : List Loc} {cells slots : Nat} {Q : Jvm.State → Prop} {cc : ByteArray} {pc : Nat} {ls : Array Slot} {rest : List Value} {D : va_G} {A : Nat → Prop} {H0 : Heap} {ad : Nat → Nat → Nat} {ca : Nat → ClassId} {M M1 : me_M} {N : Nat → Nat} {index j : Nat} {v : Nat} (he : M1 = wR M 5 j 0 (some v)) (hexec : p.tables.exec = Jvm.exec) (hb : c.code = cc) (hts : ∀ w ∈ fg_g, w.before args s = true) (hown : s.vm.findClass "FilterGuard$Machine" = some m.cls) (hK : va_K D classes (me_T ca) s) (hP : va_P D classes (me_W ad ca M) H) (hD : va_D A (me_W ad ca M)) (hwf : me_wf N M) (hS : va_S A H0 H locs) (hj : j < N 5) (hv : v < N 2) (hin2 : meth.name = "<init>") (hlink : (Cond.fieldLink "FilterGuard$Machine" index "FilterGuard$Machine" "code" "LFilterGuard$Code;").before args s = true) (hdg : decode cc pc = .ok (.putfield index, 3)) (kk : ∀ (H1 : Heap) (locs1 : List Loc), va_P D classes (me_W ad ca M1) H1 → va_D A (me_W ad ca M1) → me_wf N M1 → va_S A H0 H1 locs1 → W p l e R s m args below meth c H1 locs1 cells slots Q (F0 m (pc + 3) ls rest)) : W p l e R s m args below meth c H locs cells slots Q (F0 m pc ls (.ref (ad 2 v) :: .ref (ad 5 j) :: rest)) := by
  subst he
  exact me_putF (M1 := wR M 5 j 0 (some v)) (k := 5) (f := 0) (C := "FilterGuard$Machine") (T := F_Machine) (Nf := 20) hexec hb hts i_Machine t_Machine t_Machine_ok n_Machine hown hK hP hD hwf hS hj (by decide) rfl (by decide) (by decide) hlink (fun _ h9 => h9) rfl hin2 rfl rfl rfl rfl (fun a b h => me_wRE h) (me_fRw (v := some v) (by decide) (by decide)) hdg (fun H1 locs1 a1 a2 a3 => kk H1 locs1 a1 a2 (me_wfR hwf (fun t z => by cases z; exact hv)) a3)
theorem d_Machine_init_52 : decode prog_7_method_1_code 52 = .ok (.aload_n 0, 1) := by decide +kernel
theorem d_Machine_init_53 : decode prog_7_method_1_code 53 = .ok (.aload_n 2, 1) := by decide +kernel
theorem d_Machine_init_54 : decode prog_7_method_1_code 54 = .ok (.putfield 32, 3) := by decide +kernel
theorem u_624 : Cond.fieldLink "FilterGuard$Machine" 32 "FilterGuard$Machine" "shorter" "LFilterGuard$Code;" ∈ fg_g := fg_in (List.mem_of_getElem? (i := 624) (by decide +kernel)) rfl
theorem P_Machine_1 {p : Program} {l : Launch} {e : Env} {R : Room} {s : Jvm.State} {m : MethodId} {args : Array Value} {below : List Frame} {meth : Method} {c : Code} {H : Heap} {locs : List Loc} {cells slots : Nat} {Q : Jvm.State → Prop} {cc : ByteArray} {pc : Nat} {ls : Array Slot} {rest : List Value} {D : va_G} {A : Nat → Prop} {H0 : Heap} {ad : Nat → Nat → Nat} {ca : Nat → ClassId} {M M1 : me_M} {N : Nat → Nat} {index j : Nat} {v : Nat} (he : M1 = wR M 5 j 1 (some v)) (hexec : p.tables.exec = Jvm.exec) (hb : c.code = cc) (hts : ∀ w ∈ fg_g, w.before args s = true) (hown : s.vm.findClass "FilterGuard$Machine" = some m.cls) (hK : va_K D classes (me_T ca) s) (hP : va_P D classes (me_W ad ca M) H) (hD : va_D A (me_W ad ca M)) (hwf : me_wf N M) (hS : va_S A H0 H locs) (hj : j < N 5) (hv : v < N 2) (hin2 : meth.name = "<init>") (hlink : (Cond.fieldLink "FilterGuard$Machine" index "FilterGuard$Machine" "shorter" "LFilterGuard$Code;").before args s = true) (hdg : decode cc pc = .ok (.putfield index, 3)) (kk : ∀ (H1 : Heap) (locs1 : List Loc), va_P D classes (me_W ad ca M1) H1 → va_D A (me_W ad ca M1) → me_wf N M1 → va_S A H0 H1 locs1 → W p l e R s m args below meth c H1 locs1 cells slots Q (F0 m (pc + 3) ls rest)) : W p l e R s m args below meth c H locs cells slots Q (F0 m pc ls (.ref (ad 2 v) :: .ref (ad 5 j) :: rest)) := by
  subst he
  exact me_putF (M1 := wR M 5 j 1 (some v)) (k := 5) (f := 1) (C := "FilterGuard$Machine") (T := F_Machine) (Nf := 20) hexec hb hts i_Machine t_Machine t_Machine_ok n_Machine hown hK hP hD hwf hS hj (by decide) rfl (by decide) (by decide) hlink (fun _ h9 => h9) rfl hin2 rfl rfl rfl rfl (fun a b h => me_wRE h) (me_fRw (v := some v) (by decide) (by decide)) hdg (fun H1 locs1 a1 a2 a3 => kk H1 locs1 a1 a2 (me_wfR hwf (fun t z => by cases z; exact hv)) a3)
theorem d_Machine_init_57 : decode prog_7_method_1_code 57 = .ok (.aload_n 0, 1) := by decide +kernel
theorem d_Machine_init_58 : decode prog_7_method_1_code 58 = .ok (.aload_n 3, 1) := by decide +kernel
theorem d_Machine_init_59 : decode prog_7_method_1_code 59 = .ok (.putfield 35, 3) := by decide +kernel
theorem u_625 : Cond.fieldLink "FilterGuard$Machine" 35 "FilterGuard$Machine" "stores" "[LFilterGuard$Store;" ∈ fg_g := fg_in (List.mem_of_getElem? (i := 625) (by decide +kernel)) rfl
theorem P_Machine_2 {p : Program} {l : Launch} {e : Env} {R : Room} {s : Jvm.State} {m : MethodId} {args : Array Value} {below : List Frame} {meth : Method} {c : Code} {H : Heap} {locs : List Loc} {cells slots : Nat} {Q : Jvm.State → Prop} {cc : ByteArray} {pc : Nat} {ls : Array Slot} {rest : List Value} {D : va_G} {A : Nat → Prop} {H0 : Heap} {ad : Nat → Nat → Nat} {ca : Nat → ClassId} {M M1 : me_M} {N : Nat → Nat} {index j : Nat} {v : Nat} (he : M1 = wR M 5 j 2 (some v)) (hexec : p.tables.exec = Jvm.exec) (hb : c.code = cc) (hts : ∀ w ∈ fg_g, w.before args s = true) (hown : s.vm.findClass "FilterGuard$Machine" = some m.cls) (hK : va_K D classes (me_T ca) s) (hP : va_P D classes (me_W ad ca M) H) (hD : va_D A (me_W ad ca M)) (hwf : me_wf N M) (hS : va_S A H0 H locs) (hj : j < N 5) (hv : v < N 19) (hin2 : meth.name = "<init>") (hlink : (Cond.fieldLink "FilterGuard$Machine" index "FilterGuard$Machine" "stores" "[LFilterGuard$Store;").before args s = true) (hdg : decode cc pc = .ok (.putfield index, 3)) (kk : ∀ (H1 : Heap) (locs1 : List Loc), va_P D classes (me_W ad ca M1) H1 → va_D A (me_W ad ca M1) → me_wf N M1 → va_S A H0 H1 locs1 → W p l e R s m args below meth c H1 locs1 cells slots Q (F0 m (pc + 3) ls rest)) : W p l e R s m args below meth c H locs cells slots Q (F0 m pc ls (.ref (ad 19 v) :: .ref (ad 5 j) :: rest)) := by
  subst he
  exact me_putF (M1 := wR M 5 j 2 (some v)) (k := 5) (f := 2) (C := "FilterGuard$Machine") (T := F_Machine) (Nf := 20) hexec hb hts i_Machine t_Machine t_Machine_ok n_Machine hown hK hP hD hwf hS hj (by decide) rfl (by decide) (by decide) hlink (fun _ h9 => h9) rfl hin2 rfl rfl rfl rfl (fun a b h => me_wRE h) (me_fRw (v := some v) (by decide) (by decide)) hdg (fun H1 locs1 a1 a2 a3 => kk H1 locs1 a1 a2 (me_wfR hwf (fun t z => by cases z; exact hv)) a3)
theorem d_Machine_init_62 : decode prog_7_method_1_code 62 = .ok (.aload_n 0, 1) := by decide +kernel
theorem d_Machine_init_63 : decode prog_7_method_1_code 63 = .ok (.new 39, 3) := by decide +kernel
theorem u_602 : Cond.classLink "FilterGuard$Machine" 39 "FilterGuard$Checks" ∈ fg_g := fg_in (List.mem_of_getElem? (i := 602) (by decide +kernel)) rfl
theorem u_603 : Cond.instantiable "FilterGuard$Checks" 4 ∈ fg_g := fg_in (List.mem_of_getElem? (i := 603) (by decide +kernel)) rfl
theorem u_191 : Cond.initialized "FilterGuard$Checks" ∈ fg_g := fg_in (List.mem_of_getElem? (i := 191) (by decide +kernel)) rfl
theorem d_Machine_init_66 : decode prog_7_method_1_code 66 = .ok (.dup, 1) := by decide +kernel
theorem d_Machine_init_67 : decode prog_7_method_1_code 67 = .ok (.aload_n 1, 1) := by decide +kernel
theorem d_Machine_init_68 : decode prog_7_method_1_code 68 = .ok (.aload_n 3, 1) := by decide +kernel
theorem d_Machine_init_69 : decode prog_7_method_1_code 69 = .ok (.invokespecial 41, 3) := by decide +kernel
theorem u_604 : Cond.methodLink "FilterGuard$Machine" 41 ⟨"FilterGuard$Checks", "<init>", "(LFilterGuard$Code;[LFilterGuard$Store;)V"⟩ ∈ fg_g := fg_in (List.mem_of_getElem? (i := 604) (by decide +kernel)) rfl
theorem u_606 : Cond.code ⟨"FilterGuard$Checks", "<init>", "(LFilterGuard$Code;[LFilterGuard$Store;)V"⟩ prog_3_method_1_code 3 none ∈ fg_g := fg_in (List.mem_of_getElem? (i := 606) (by decide +kernel)) rfl
theorem u_605 : Cond.instanceMethod ⟨"FilterGuard$Checks", "<init>", "(LFilterGuard$Code;[LFilterGuard$Store;)V"⟩ ∈ fg_g := fg_in (List.mem_of_getElem? (i := 605) (by decide +kernel)) rfl
theorem d_Machine_init_72 : decode prog_7_method_1_code 72 = .ok (.putfield 44, 3) := by decide +kernel
theorem u_626 : Cond.fieldLink "FilterGuard$Machine" 44 "FilterGuard$Machine" "checks" "LFilterGuard$Checks;" ∈ fg_g := fg_in (List.mem_of_getElem? (i := 626) (by decide +kernel)) rfl
theorem P_Machine_3 {p : Program} {l : Launch} {e : Env} {R : Room} {s : Jvm.State} {m : MethodId} {args : Array Value} {below : List Frame} {meth : Method} {c : Code} {H : Heap} {locs : List Loc} {cells slots : Nat} {Q : Jvm.State → Prop} {cc : ByteArray} {pc : Nat} {ls : Array Slot} {rest : List Value} {D : va_G} {A : Nat → Prop} {H0 : Heap} {ad : Nat → Nat → Nat} {ca : Nat → ClassId} {M M1 : me_M} {N : Nat → Nat} {index j : Nat} {v : Nat} (he : M1 = wR M 5 j 3 (some v)) (hexec : p.tables.exec = Jvm.exec) (hb : c.code = cc) (hts : ∀ w ∈ fg_g, w.before args s = true) (hown : s.vm.findClass "FilterGuard$Machine" = some m.cls) (hK : va_K D classes (me_T ca) s) (hP : va_P D classes (me_W ad ca M) H) (hD : va_D A (me_W ad ca M)) (hwf : me_wf N M) (hS : va_S A H0 H locs) (hj : j < N 5) (hv : v < N 6) (hin2 : meth.name = "<init>") (hlink : (Cond.fieldLink "FilterGuard$Machine" index "FilterGuard$Machine" "checks" "LFilterGuard$Checks;").before args s = true) (hdg : decode cc pc = .ok (.putfield index, 3)) (kk : ∀ (H1 : Heap) (locs1 : List Loc), va_P D classes (me_W ad ca M1) H1 → va_D A (me_W ad ca M1) → me_wf N M1 → va_S A H0 H1 locs1 → W p l e R s m args below meth c H1 locs1 cells slots Q (F0 m (pc + 3) ls rest)) : W p l e R s m args below meth c H locs cells slots Q (F0 m pc ls (.ref (ad 6 v) :: .ref (ad 5 j) :: rest)) := by
  subst he
  exact me_putF (M1 := wR M 5 j 3 (some v)) (k := 5) (f := 3) (C := "FilterGuard$Machine") (T := F_Machine) (Nf := 20) hexec hb hts i_Machine t_Machine t_Machine_ok n_Machine hown hK hP hD hwf hS hj (by decide) rfl (by decide) (by decide) hlink (fun _ h9 => h9) rfl hin2 rfl rfl rfl rfl (fun a b h => me_wRE h) (me_fRw (v := some v) (by decide) (by decide)) hdg (fun H1 locs1 a1 a2 a3 => kk H1 locs1 a1 a2 (me_wfR hwf (fun t z => by cases z; exact hv)) a3)
theorem d_Machine_init_75 : decode prog_7_method_1_code 75 = .ok (.aload_n 0, 1) := by decide +kernel
theorem d_Machine_init_76 : decode prog_7_method_1_code 76 = .ok (.aload_n 1, 1) := by decide +kernel
theorem d_Machine_init_77 : decode prog_7_method_1_code 77 = .ok (.putfield 48, 3) := by decide +kernel
theorem u_648 : Cond.fieldLink "FilterGuard$Machine" 48 "FilterGuard$Machine" "program" "LFilterGuard$Code;" ∈ fg_g := fg_in (List.mem_of_getElem? (i := 648) (by decide +kernel)) rfl
theorem p_Machine_16 {p : Program} {l : Launch} {e : Env} {R : Room} {s : Jvm.State} {m : MethodId} {args : Array Value} {below : List Frame} {meth : Method} {c : Code} {H : Heap} {locs : List Loc} {cells slots : Nat} {Q : Jvm.State → Prop} {cc : ByteArray} {pc : Nat} {ls : Array Slot} {rest : List Value} {D : va_G} {A : Nat → Prop} {H0 : Heap} {ad : Nat → Nat → Nat} {ca : Nat → ClassId} {M M1 : me_M} {N : Nat → Nat} {own : String} {index j : Nat} {v : Nat} (he : M1 = wR M 5 j 16 (some v)) (hexec : p.tables.exec = Jvm.exec) (hb : c.code = cc) (hts : ∀ w ∈ fg_g, w.before args s = true) (hown : s.vm.findClass own = some m.cls) (hK : va_K D classes (me_T ca) s) (hP : va_P D classes (me_W ad ca M) H) (hD : va_D A (me_W ad ca M)) (hwf : me_wf N M) (hS : va_S A H0 H locs) (hj : j < N 5) (hv : v < N 2) (hlink : (Cond.fieldLink own index "FilterGuard$Machine" "program" "LFilterGuard$Code;").before args s = true) (hdg : decode cc pc = .ok (.putfield index, 3)) (kk : ∀ (H1 : Heap) (locs1 : List Loc), va_P D classes (me_W ad ca M1) H1 → va_D A (me_W ad ca M1) → me_wf N M1 → va_S A H0 H1 locs1 → W p l e R s m args below meth c H1 locs1 cells slots Q (F0 m (pc + 3) ls rest)) : W p l e R s m args below meth c H locs cells slots Q (F0 m pc ls (.ref (ad 2 v) :: .ref (ad 5 j) :: rest)) := by
  subst he
  exact me_put (M1 := wR M 5 j 16 (some v)) (k := 5) (f := 16) (C := "FilterGuard$Machine") (T := F_Machine) (Nf := 20) hexec hb hts i_Machine t_Machine t_Machine_ok n_Machine hown hK hP hD hwf hS hj (by decide) rfl (by decide) (by decide) hlink (fun _ h9 => h9) rfl rfl rfl rfl (fun a b h => me_wRE h) (me_fRw (v := some v) (by decide) (by decide)) hdg (fun H1 locs1 a1 a2 a3 => kk H1 locs1 a1 a2 (me_wfR hwf (fun t z => by cases z; exact hv)) a3)
theorem d_Machine_init_80 : decode prog_7_method_1_code 80 = .ok (.aload_n 0, 1) := by decide +kernel
theorem d_Machine_init_81 : decode prog_7_method_1_code 81 = .ok (.aload_n 0, 1) := by decide +kernel
theorem d_Machine_init_82 : decode prog_7_method_1_code 82 = .ok (.getfield 15, 3) := by decide +kernel
theorem g_Machine_5 {p : Program} {l : Launch} {e : Env} {R : Room} {s : Jvm.State} {m : MethodId} {args : Array Value} {below : List Frame} {meth : Method} {c : Code} {H : Heap} {locs : List Loc} {cells slots : Nat} {Q : Jvm.State → Prop} {cc : ByteArray} {pc : Nat} {ls : Array Slot} {rest : List Value} {D : va_G} {ad : Nat → Nat → Nat} {ca : Nat → ClassId} {M : me_M} {N : Nat → Nat} {own : String} {index j : Nat} (hexec : p.tables.exec = Jvm.exec) (hb : c.code = cc) (hts : ∀ w ∈ fg_g, w.before args s = true) (hown : s.vm.findClass own = some m.cls) (hK : va_K D classes (me_T ca) s) (hP : va_P D classes (me_W ad ca M) H) (hwf : me_wf N M) (hj : j < N 5) (hlink : (Cond.fieldLink own index "FilterGuard$Machine" "stack" "[B").before args s = true) (hdg : decode cc pc = .ok (.getfield index, 3)) (kk : W p l e R s m args below meth c H locs cells slots Q (F0 m (pc + 3) ls (va_rf ((mR M 5 j 5).map (ad 14)) :: rest))) : W p l e R s m args below meth c H locs cells slots Q (F0 m pc ls (.ref (ad 5 j) :: rest)) := me_get (k := 5) (f := 5) (C := "FilterGuard$Machine") (T := F_Machine) (Nf := 20) hexec hb hts i_Machine hown hK hP hwf hj (by decide) rfl (by decide) (by decide) hlink (fun _ h9 => h9) hdg kk
theorem d_Machine_init_85 : decode prog_7_method_1_code 85 = .ok (.putfield 51, 3) := by decide +kernel
theorem u_650 : Cond.fieldLink "FilterGuard$Machine" 51 "FilterGuard$Machine" "area" "[B" ∈ fg_g := fg_in (List.mem_of_getElem? (i := 650) (by decide +kernel)) rfl
theorem p_Machine_18 {p : Program} {l : Launch} {e : Env} {R : Room} {s : Jvm.State} {m : MethodId} {args : Array Value} {below : List Frame} {meth : Method} {c : Code} {H : Heap} {locs : List Loc} {cells slots : Nat} {Q : Jvm.State → Prop} {cc : ByteArray} {pc : Nat} {ls : Array Slot} {rest : List Value} {D : va_G} {A : Nat → Prop} {H0 : Heap} {ad : Nat → Nat → Nat} {ca : Nat → ClassId} {M M1 : me_M} {N : Nat → Nat} {own : String} {index j : Nat} {v : Nat} (he : M1 = wR M 5 j 18 (some v)) (hexec : p.tables.exec = Jvm.exec) (hb : c.code = cc) (hts : ∀ w ∈ fg_g, w.before args s = true) (hown : s.vm.findClass own = some m.cls) (hK : va_K D classes (me_T ca) s) (hP : va_P D classes (me_W ad ca M) H) (hD : va_D A (me_W ad ca M)) (hwf : me_wf N M) (hS : va_S A H0 H locs) (hj : j < N 5) (hv : v < N 14) (hlink : (Cond.fieldLink own index "FilterGuard$Machine" "area" "[B").before args s = true) (hdg : decode cc pc = .ok (.putfield index, 3)) (kk : ∀ (H1 : Heap) (locs1 : List Loc), va_P D classes (me_W ad ca M1) H1 → va_D A (me_W ad ca M1) → me_wf N M1 → va_S A H0 H1 locs1 → W p l e R s m args below meth c H1 locs1 cells slots Q (F0 m (pc + 3) ls rest)) : W p l e R s m args below meth c H locs cells slots Q (F0 m pc ls (.ref (ad 14 v) :: .ref (ad 5 j) :: rest)) := by
  subst he
  exact me_put (M1 := wR M 5 j 18 (some v)) (k := 5) (f := 18) (C := "FilterGuard$Machine") (T := F_Machine) (Nf := 20) hexec hb hts i_Machine t_Machine t_Machine_ok n_Machine hown hK hP hD hwf hS hj (by decide) rfl (by decide) (by decide) hlink (fun _ h9 => h9) rfl rfl rfl rfl (fun a b h => me_wRE h) (me_fRw (v := some v) (by decide) (by decide)) hdg (fun H1 locs1 a1 a2 a3 => kk H1 locs1 a1 a2 (me_wfR hwf (fun t z => by cases z; exact hv)) a3)
theorem d_Machine_init_88 : decode prog_7_method_1_code 88 = .ok (.return_, 1) := by decide +kernel
abbrev y_Machine_init : MethodName := ⟨"FilterGuard$Machine", "<init>", "(LFilterGuard$Code;LFilterGuard$Code;[LFilterGuard$Store;)V"⟩
def rm_Machine_init (N0 : Nat → Nat) : Room := { frames := 5, cells := me_CL - me_cN N0, slots := me_SL - me_sN N0, locals := 113 }
abbrev q_Machine_init (D : va_G) (ad0 : Nat → Nat → Nat) (ca : Nat → ClassId) (N0 : Nat → Nat) (MZ : me_M) (A : Nat → Prop) : Array Value → Jvm.State → Outcome → Jvm.State → Prop := va_Qv (fun (u : Nat → Nat → Nat) => al_P ad0 N0 MZ u ∧ True) (fg_B D A (fun u => me_W u ca MZ) (fun _ => [])) A
set_option maxHeartbeats 4000000 in
set_option maxRecDepth 100000 in
theorem c_Machine_init (l : Launch) (D : va_G) (ad0 : Nat → Nat → Nat) (ca : Nat → ClassId) (N0 : Nat → Nat) (M0 MZ : me_M) (j0 : Nat) (j1 : Nat) (j2 : Nat) (j3 : Nat) (h : f_Machine_init M0 j0 j1 j2 j3 = (some MZ)) (hwf : me_wf N0 M0) (hcl : me_cN N0 ≤ me_CL ∧ me_sN N0 ≤ me_SL) (hj0 : j0 < N0 5) (hj1 : j1 < N0 2) (hj2 : j2 < N0 2) (hj3 : j3 < N0 19) (sz : Nat) : Met l y_Machine_init (fg_w y_Machine_init prog_7_method_1_code 4 none) (rm_Machine_init N0) (va_Pc [.ref (ad0 5 j0), .ref (ad0 2 j1), .ref (ad0 2 j2), .ref (ad0 19 j3)] (fz_P D (me_T ca) (me_W ad0 ca M0) sz)) (q_Machine_init D ad0 ca N0 MZ (va_A (me_W ad0 ca M0) sz)) (me_cN (mN MZ) - me_cN N0) (me_sN (mN MZ) - me_sN N0) (va_A (me_W ad0 ca M0) sz) := by
  refine fz_enter (fun A => q_Machine_init D ad0 ca N0 MZ A) (by decide +kernel) (Nat.le_of_ble_eq_true rfl) ?_
  intro p e s m below meth c ls A hx hb hml hown hts hr hlocks hin hP hK hD hS hA hX hl hz
  refine W.widen (k := me_cN N0 - me_cN N0) (n := me_sN N0 - me_sN N0) (Nat.zero_le _) (Nat.zero_le _) ?_
  unfold f_Machine_init at h
  have hok : me_ok N0 N0 := me_ok.rf hcl
  obtain ⟨ad, N, hext0, hok, hwf, hP, hD, hN9, had9, hj0, hj1, hj2, hj3⟩ : ∃ (ad : Nat → Nat → Nat) (N : Nat → Nat), (∀ a b, b < N0 a → ad a b = ad0 a b) ∧ me_ok N0 N ∧ me_wf N M0 ∧ va_P D classes (me_W ad ca M0) s.heap ∧ va_D A (me_W ad ca M0) ∧ N = N0 ∧ ad = ad0 ∧ j0 < N 5 ∧ j1 < N 2 ∧ j2 < N 2 ∧ j3 < N 19 := ⟨ad0, N0, fun _ _ _ => rfl, hok, hwf, hP, hD, rfl, rfl, hj0, hj1, hj2, hj3⟩
  have hl : lv_has ls 4 [(0, .ref (ad 5 j0)), (1, .ref (ad 2 j1)), (2, .ref (ad 2 j2)), (3, .ref (ad 19 j3))] := by rw [had9]; exact hl
  have hcs : W p l e (rm_Machine_init N0) s m [.ref (ad0 5 j0), .ref (ad0 2 j1), .ref (ad0 2 j2), .ref (ad0 19 j3)].toArray below meth c s.heap [] (me_cN N - me_cN N0) (me_sN N - me_sN N0) (MQ below (q_Machine_init D ad0 ca N0 MZ A) [.ref (ad0 5 j0), .ref (ad0 2 j1), .ref (ad0 2 j2), .ref (ad0 19 j3)].toArray s (me_cN (mN MZ) - me_cN N0) (me_sN (mN MZ) - me_sN N0) A) (F0 m 0 ls []) := by
    clear had9
    refine lv_aload_n hx hb d_Machine_init_0 rfl (lv_at hl 0 rfl) ?_
    refine W.objInit hx hb hown (hts _ u_601) (hts _ u_210) (hts _ u_211) rfl (by rw [hml]; exact hl.1) rfl d_Machine_init_1 (Nat.le_of_ble_eq_true rfl) (Nat.le_of_ble_eq_true rfl) ?_
    refine W.eq (g2 := F0 m 4 ls []) rfl ?_
    refine lv_aload_n hx hb d_Machine_init_4 rfl (lv_at hl 0 rfl) ?_
    refine lv_bipush (v := 64) hx hb d_Machine_init_5 (by decide) ?_
    obtain ⟨g1, h⟩ := gd_ob h
    obtain ⟨M2, eM2, h⟩ := st_ob h
    refine al_newa (k := 14) (atype := .byte) (a0 := ((64 : Int32).toNatClampNeg, .inl (fun _ => 0))) eM2 g1 hx hb (hts _ u_309) rfl hK hP hD hwf hok hS hA (by decide) (by decide) rfl (fun _ _ h9 => h9) (by decide) (fun _ => rfl) (fun ad1 => by rw [eM2]; exact al_ar14) rfl rfl d_Machine_init_7 (fun ad N H hext hNN hn3 hwf hok1 hP hD hS => ?_)
    have hext0 := al_ext hext hext0 hok
    have hok := hok1
    have hl : lv_has ls 4 [(0, .ref (ad 5 j0)), (1, .ref (ad 2 j1)), (2, .ref (ad 2 j2)), (3, .ref (ad 19 j3))] := by rw [hext 5 j0 hj0, hext 2 j1 hj1, hext 2 j2 hj2, hext 19 j3 hj3]; exact hl
    refine W.eq (g2 := F0 m 9 ls [.ref (ad 14 (mN M0 14)), .ref (ad 5 j0)]) (by rw [hext 5 j0 hj0]) ?_
    have hj0 : j0 < N 5 := Nat.lt_of_lt_of_le hj0 (hNN 5)
    have hj1 : j1 < N 2 := Nat.lt_of_lt_of_le hj1 (hNN 2)
    have hj2 : j2 < N 2 := Nat.lt_of_lt_of_le hj2 (hNN 2)
    have hj3 : j3 < N 19 := Nat.lt_of_lt_of_le hj3 (hNN 19)
    obtain ⟨M4, eM4, h⟩ := st_ob h
    refine P_Machine_4 eM4 hx hb hts hown hK hP hD hwf hS hj0 hn3 hin (hts _ u_627) d_Machine_init_9 (fun H locs hP hD hwf hS => ?_)
    refine lv_aload_n hx hb d_Machine_init_12 rfl (lv_at hl 0 rfl) ?_
    refine lv_sipush (v := 512) hx hb d_Machine_init_13 (by decide) ?_
    obtain ⟨g5, h⟩ := gd_ob h
    obtain ⟨M6, eM6, h⟩ := st_ob h
    refine al_newa (k := 14) (atype := .byte) (a0 := ((512 : Int32).toNatClampNeg, .inl (fun _ => 0))) eM6 g5 hx hb (hts _ u_309) rfl hK hP hD hwf hok hS hA (by decide) (by decide) rfl (fun _ _ h9 => h9) (by decide) (fun _ => rfl) (fun ad1 => by rw [eM6]; exact al_ar14) rfl rfl d_Machine_init_16 (fun ad N H hext hNN hn7 hwf hok1 hP hD hS => ?_)
    have hext0 := al_ext hext hext0 hok
    have hok := hok1
    have hl : lv_has ls 4 [(0, .ref (ad 5 j0)), (1, .ref (ad 2 j1)), (2, .ref (ad 2 j2)), (3, .ref (ad 19 j3))] := by rw [hext 5 j0 hj0, hext 2 j1 hj1, hext 2 j2 hj2, hext 19 j3 hj3]; exact hl
    refine W.eq (g2 := F0 m 18 ls [.ref (ad 14 (mN M4 14)), .ref (ad 5 j0)]) (by rw [hext 5 j0 hj0]) ?_
    have hj0 : j0 < N 5 := Nat.lt_of_lt_of_le hj0 (hNN 5)
    have hj1 : j1 < N 2 := Nat.lt_of_lt_of_le hj1 (hNN 2)
    have hj2 : j2 < N 2 := Nat.lt_of_lt_of_le hj2 (hNN 2)
    have hj3 : j3 < N 19 := Nat.lt_of_lt_of_le hj3 (hNN 19)
    obtain ⟨M8, eM8, h⟩ := st_ob h
    refine P_Machine_5 eM8 hx hb hts hown hK hP hD hwf hS hj0 hn7 hin (hts _ u_628) d_Machine_init_18 (fun H locs hP hD hwf hS => ?_)
    refine lv_aload_n hx hb d_Machine_init_21 rfl (lv_at hl 0 rfl) ?_
    refine lv_bipush (v := 16) hx hb d_Machine_init_22 (by decide) ?_
    obtain ⟨g9, h⟩ := gd_ob h
    obtain ⟨M10, eM10, h⟩ := st_ob h
    refine al_newa (k := 16) (atype := .long) (a0 := ((16 : Int32).toNatClampNeg, .inr (.inl (fun _ => 0)))) eM10 g9 hx hb (hts _ u_310) rfl hK hP hD hwf hok hS hA (by decide) (by decide) rfl (fun _ _ h9 => h9) (by decide) (fun _ => rfl) (fun ad1 => by rw [eM10]; exact al_ar16) rfl rfl d_Machine_init_24 (fun ad N H hext hNN hn11 hwf hok1 hP hD hS => ?_)
    have hext0 := al_ext hext hext0 hok
    have hok := hok1
    have hl : lv_has ls 4 [(0, .ref (ad 5 j0)), (1, .ref (ad 2 j1)), (2, .ref (ad 2 j2)), (3, .ref (ad 19 j3))] := by rw [hext 5 j0 hj0, hext 2 j1 hj1, hext 2 j2 hj2, hext 19 j3 hj3]; exact hl
    refine W.eq (g2 := F0 m 26 ls [.ref (ad 16 (mN M8 16)), .ref (ad 5 j0)]) (by rw [hext 5 j0 hj0]) ?_
    have hj0 : j0 < N 5 := Nat.lt_of_lt_of_le hj0 (hNN 5)
    have hj1 : j1 < N 2 := Nat.lt_of_lt_of_le hj1 (hNN 2)
    have hj2 : j2 < N 2 := Nat.lt_of_lt_of_le hj2 (hNN 2)
    have hj3 : j3 < N 19 := Nat.lt_of_lt_of_le hj3 (hNN 19)
    obtain ⟨M12, eM12, h⟩ := st_ob h
    refine P_Machine_6 eM12 hx hb hts hown hK hP hD hwf hS hj0 hn11 hin (hts _ u_629) d_Machine_init_26 (fun H locs hP hD hwf hS => ?_)
    refine lv_aload_n hx hb d_Machine_init_29 rfl (lv_at hl 0 rfl) ?_
    refine lv_sipush (v := 2000) hx hb d_Machine_init_30 (by decide) ?_
    obtain ⟨g13, h⟩ := gd_ob h
    obtain ⟨M14, eM14, h⟩ := st_ob h
    refine al_newa (k := 14) (atype := .byte) (a0 := ((2000 : Int32).toNatClampNeg, .inl (fun _ => 0))) eM14 g13 hx hb (hts _ u_309) rfl hK hP hD hwf hok hS hA (by decide) (by decide) rfl (fun _ _ h9 => h9) (by decide) (fun _ => rfl) (fun ad1 => by rw [eM14]; exact al_ar14) rfl rfl d_Machine_init_33 (fun ad N H hext hNN hn15 hwf hok1 hP hD hS => ?_)
    have hext0 := al_ext hext hext0 hok
    have hok := hok1
    have hl : lv_has ls 4 [(0, .ref (ad 5 j0)), (1, .ref (ad 2 j1)), (2, .ref (ad 2 j2)), (3, .ref (ad 19 j3))] := by rw [hext 5 j0 hj0, hext 2 j1 hj1, hext 2 j2 hj2, hext 19 j3 hj3]; exact hl
    refine W.eq (g2 := F0 m 35 ls [.ref (ad 14 (mN M12 14)), .ref (ad 5 j0)]) (by rw [hext 5 j0 hj0]) ?_
    have hj0 : j0 < N 5 := Nat.lt_of_lt_of_le hj0 (hNN 5)
    have hj1 : j1 < N 2 := Nat.lt_of_lt_of_le hj1 (hNN 2)
    have hj2 : j2 < N 2 := Nat.lt_of_lt_of_le hj2 (hNN 2)
    have hj3 : j3 < N 19 := Nat.lt_of_lt_of_le hj3 (hNN 19)
    obtain ⟨M16, eM16, h⟩ := st_ob h
    refine P_Machine_7 eM16 hx hb hts hown hK hP hD hwf hS hj0 hn15 hin (hts _ u_630) d_Machine_init_35 (fun H locs hP hD hwf hS => ?_)
    refine lv_aload_n hx hb d_Machine_init_38 rfl (lv_at hl 0 rfl) ?_
    refine lv_sipush (v := 1000) hx hb d_Machine_init_39 (by decide) ?_
    obtain ⟨g17, h⟩ := gd_ob h
    obtain ⟨M18, eM18, h⟩ := st_ob h
    refine al_newa (k := 16) (atype := .long) (a0 := ((1000 : Int32).toNatClampNeg, .inr (.inl (fun _ => 0)))) eM18 g17 hx hb (hts _ u_310) rfl hK hP hD hwf hok hS hA (by decide) (by decide) rfl (fun _ _ h9 => h9) (by decide) (fun _ => rfl) (fun ad1 => by rw [eM18]; exact al_ar16) rfl rfl d_Machine_init_42 (fun ad N H hext hNN hn19 hwf hok1 hP hD hS => ?_)
    have hext0 := al_ext hext hext0 hok
    have hok := hok1
    have hl : lv_has ls 4 [(0, .ref (ad 5 j0)), (1, .ref (ad 2 j1)), (2, .ref (ad 2 j2)), (3, .ref (ad 19 j3))] := by rw [hext 5 j0 hj0, hext 2 j1 hj1, hext 2 j2 hj2, hext 19 j3 hj3]; exact hl
    refine W.eq (g2 := F0 m 44 ls [.ref (ad 16 (mN M16 16)), .ref (ad 5 j0)]) (by rw [hext 5 j0 hj0]) ?_
    have hj0 : j0 < N 5 := Nat.lt_of_lt_of_le hj0 (hNN 5)
    have hj1 : j1 < N 2 := Nat.lt_of_lt_of_le hj1 (hNN 2)
    have hj2 : j2 < N 2 := Nat.lt_of_lt_of_le hj2 (hNN 2)
    have hj3 : j3 < N 19 := Nat.lt_of_lt_of_le hj3 (hNN 19)
    obtain ⟨M20, eM20, h⟩ := st_ob h
    refine P_Machine_9 eM20 hx hb hts hown hK hP hD hwf hS hj0 hn19 hin (hts _ u_634) d_Machine_init_44 (fun H locs hP hD hwf hS => ?_)
    refine lv_aload_n hx hb d_Machine_init_47 rfl (lv_at hl 0 rfl) ?_
    refine lv_aload_n hx hb d_Machine_init_48 rfl (lv_at hl 1 rfl) ?_
    obtain ⟨M21, eM21, h⟩ := st_ob h
    refine P_Machine_0 eM21 hx hb hts hown hK hP hD hwf hS hj0 hj1 hin (hts _ u_623) d_Machine_init_49 (fun H locs hP hD hwf hS => ?_)
    refine lv_aload_n hx hb d_Machine_init_52 rfl (lv_at hl 0 rfl) ?_
    refine lv_aload_n hx hb d_Machine_init_53 rfl (lv_at hl 2 rfl) ?_
    obtain ⟨M22, eM22, h⟩ := st_ob h
    refine P_Machine_1 eM22 hx hb hts hown hK hP hD hwf hS hj0 hj2 hin (hts _ u_624) d_Machine_init_54 (fun H locs hP hD hwf hS => ?_)
    refine lv_aload_n hx hb d_Machine_init_57 rfl (lv_at hl 0 rfl) ?_
    refine lv_aload_n hx hb d_Machine_init_58 rfl (lv_at hl 3 rfl) ?_
    obtain ⟨M23, eM23, h⟩ := st_ob h
    refine P_Machine_2 eM23 hx hb hts hown hK hP hD hwf hS hj0 hj3 hin (hts _ u_625) d_Machine_init_59 (fun H locs hP hD hwf hS => ?_)
    refine lv_aload_n hx hb d_Machine_init_62 rfl (lv_at hl 0 rfl) ?_
    obtain ⟨g24, h⟩ := gd_ob h
    obtain ⟨M25, eM25, h⟩ := st_ob h
    refine al_new (k := 6) (fs := [.null, .null, .null, .null]) (C := "FilterGuard$Checks") (T := F_Checks) (Nf := 4) eM25 g24 hx hb hts i_Checks t_Checks t_Checks_ok hown (hts _ u_602) (hts _ u_603) (hts _ u_191) hK hP hD hwf hok hS hA (by decide) rfl (by decide) z_Checks rfl rfl rfl d_Machine_init_63 (fun ad N H hext hNN hn26 hwf hok1 hP hD hS => ?_)
    have hext0 := al_ext hext hext0 hok
    have hok := hok1
    have hl : lv_has ls 4 [(0, .ref (ad 5 j0)), (1, .ref (ad 2 j1)), (2, .ref (ad 2 j2)), (3, .ref (ad 19 j3))] := by rw [hext 5 j0 hj0, hext 2 j1 hj1, hext 2 j2 hj2, hext 19 j3 hj3]; exact hl
    refine W.eq (g2 := F0 m 66 ls [.ref (ad 6 (mN M23 6)), .ref (ad 5 j0)]) (by rw [hext 5 j0 hj0]) ?_
    have hj0 : j0 < N 5 := Nat.lt_of_lt_of_le hj0 (hNN 5)
    have hj1 : j1 < N 2 := Nat.lt_of_lt_of_le hj1 (hNN 2)
    have hj2 : j2 < N 2 := Nat.lt_of_lt_of_le hj2 (hNN 2)
    have hj3 : j3 < N 19 := Nat.lt_of_lt_of_le hj3 (hNN 19)
    refine lv_dup hx hb d_Machine_init_66 rfl ?_
    refine lv_aload_n hx hb d_Machine_init_67 rfl (lv_at hl 1 rfl) ?_
    refine lv_aload_n hx hb d_Machine_init_68 rfl (lv_at hl 3 rfl) ?_
    obtain ⟨M27, eM27, h⟩ := bd_ob h
    refine al_thenv (M1 := M27) (al_runI (As := [.ref (ad 2 j1), .ref (ad 19 j3)]) (rest := [.ref (ad 6 (mN M23 6)), .ref (ad 5 j0)]) ⟨hx, hb, hml, hown, hts⟩ (c_Checks_init l D ad ca N M25 M27 (mN M23 6) j1 j3 eM27 hwf ⟨hok.2.2.1, hok.2.2.2.1⟩ hn26 hj1 hj3 _) rfl (by show fg_nm y_Checks_init 2; decide +kernel) u_604 u_605 u_191 u_606 ⟨Nat.le_of_ble_eq_true rfl, Nat.le_of_ble_eq_true rfl⟩ hX hz hK hP hD hS hA rfl hl.1 (Nat.le_of_ble_eq_true rfl) d_Machine_init_69 (al_g hok)) hP hD hok hK hS hA (fun ad N H locs hext hNN hwf hok1 heN hq9 hP hD hS => ?_)
    have hext0 := al_ext hext hext0 hok
    have hok := hok1
    have hl : lv_has ls 4 [(0, .ref (ad 5 j0)), (1, .ref (ad 2 j1)), (2, .ref (ad 2 j2)), (3, .ref (ad 19 j3))] := by rw [hext 5 j0 hj0, hext 2 j1 hj1, hext 2 j2 hj2, hext 19 j3 hj3]; exact hl
    refine W.eq (g2 := F0 m 72 ls [.ref (ad 6 (mN M23 6)), .ref (ad 5 j0)]) (by rw [hext 6 (mN M23 6) hn26, hext 5 j0 hj0]) ?_
    have hj0 : j0 < N 5 := Nat.lt_of_lt_of_le hj0 (hNN 5)
    have hj1 : j1 < N 2 := Nat.lt_of_lt_of_le hj1 (hNN 2)
    have hj2 : j2 < N 2 := Nat.lt_of_lt_of_le hj2 (hNN 2)
    have hj3 : j3 < N 19 := Nat.lt_of_lt_of_le hj3 (hNN 19)
    have hn26 : (mN M23 6) < N 6 := Nat.lt_of_lt_of_le hn26 (hNN 6)
    obtain ⟨M28, eM28, h⟩ := st_ob h
    refine P_Machine_3 eM28 hx hb hts hown hK hP hD hwf hS hj0 hn26 hin (hts _ u_626) d_Machine_init_72 (fun H locs hP hD hwf hS => ?_)
    refine lv_aload_n hx hb d_Machine_init_75 rfl (lv_at hl 0 rfl) ?_
    refine lv_aload_n hx hb d_Machine_init_76 rfl (lv_at hl 1 rfl) ?_
    obtain ⟨M29, eM29, h⟩ := st_ob h
    refine p_Machine_16 eM29 hx hb hts hown hK hP hD hwf hS hj0 hj1 (hts _ u_648) d_Machine_init_77 (fun H locs hP hD hwf hS => ?_)
    refine lv_aload_n hx hb d_Machine_init_80 rfl (lv_at hl 0 rfl) ?_
    refine lv_aload_n hx hb d_Machine_init_81 rfl (lv_at hl 0 rfl) ?_
    refine g_Machine_5 hx hb hts hown hK hP hwf hj0 (hts _ u_628) d_Machine_init_82 ?_
    obtain ⟨j30, e31, h⟩ := bd_ob h
    have hj30 : j30 < N 14 := (hwf.2.1 5 j0 5 _ e31 (by decide) hj0)
    refine me_opt (j := j30) e31 ?_
    obtain ⟨M32, eM32, h⟩ := st_ob h
    refine p_Machine_18 eM32 hx hb hts hown hK hP hD hwf hS hj0 hj30 (hts _ u_650) d_Machine_init_85 (fun H locs hP hD hwf hS => ?_)
    exact al_retv h hx hb hr hlocks hwf hok hext0 hP hK hD hS d_Machine_init_88
  rw [hN9] at hcs
  exact hcs
theorem d_G_init_0 : decode prog_1_method_1_code 0 = .ok (.aload_n 0, 1) := by decide +kernel
theorem d_G_init_1 : decode prog_1_method_1_code 1 = .ok (.invokespecial 1, 3) := by decide +kernel
theorem u_209 : Cond.methodLink "FilterGuard" 1 ⟨"java/lang/Object", "<init>", "()V"⟩ ∈ fg_g := fg_in (List.mem_of_getElem? (i := 209) (by decide +kernel)) rfl
theorem d_G_init_4 : decode prog_1_method_1_code 4 = .ok (.aload_n 0, 1) := by decide +kernel
theorem d_G_init_5 : decode prog_1_method_1_code 5 = .ok (.sipush 1280, 3) := by decide +kernel
theorem d_G_init_8 : decode prog_1_method_1_code 8 = .ok (.newarray .byte, 2) := by decide +kernel
theorem d_G_init_10 : decode prog_1_method_1_code 10 = .ok (.putfield 9, 3) := by decide +kernel
theorem u_693 : Cond.fieldLink "FilterGuard" 9 "FilterGuard" "tape" "[B" ∈ fg_g := fg_in (List.mem_of_getElem? (i := 693) (by decide +kernel)) rfl
theorem p_G_0 {p : Program} {l : Launch} {e : Env} {R : Room} {s : Jvm.State} {m : MethodId} {args : Array Value} {below : List Frame} {meth : Method} {c : Code} {H : Heap} {locs : List Loc} {cells slots : Nat} {Q : Jvm.State → Prop} {cc : ByteArray} {pc : Nat} {ls : Array Slot} {rest : List Value} {D : va_G} {A : Nat → Prop} {H0 : Heap} {ad : Nat → Nat → Nat} {ca : Nat → ClassId} {M M1 : me_M} {N : Nat → Nat} {own : String} {index j : Nat} {v : Nat} (he : M1 = wR M 0 j 0 (some v)) (hexec : p.tables.exec = Jvm.exec) (hb : c.code = cc) (hts : ∀ w ∈ fg_g, w.before args s = true) (hown : s.vm.findClass own = some m.cls) (hK : va_K D classes (me_T ca) s) (hP : va_P D classes (me_W ad ca M) H) (hD : va_D A (me_W ad ca M)) (hwf : me_wf N M) (hS : va_S A H0 H locs) (hj : j < N 0) (hv : v < N 14) (hlink : (Cond.fieldLink own index "FilterGuard" "tape" "[B").before args s = true) (hdg : decode cc pc = .ok (.putfield index, 3)) (kk : ∀ (H1 : Heap) (locs1 : List Loc), va_P D classes (me_W ad ca M1) H1 → va_D A (me_W ad ca M1) → me_wf N M1 → va_S A H0 H1 locs1 → W p l e R s m args below meth c H1 locs1 cells slots Q (F0 m (pc + 3) ls rest)) : W p l e R s m args below meth c H locs cells slots Q (F0 m pc ls (.ref (ad 14 v) :: .ref (ad 0 j) :: rest)) := by
  subst he
  exact me_put (M1 := wR M 0 j 0 (some v)) (k := 0) (f := 0) (C := "FilterGuard") (T := F_G) (Nf := 14) hexec hb hts i_G t_G t_G_ok n_G hown hK hP hD hwf hS hj (by decide) rfl (by decide) (by decide) hlink (fun _ h9 => h9) rfl rfl rfl rfl (fun a b h => me_wRE h) (me_fRw (v := some v) (by decide) (by decide)) hdg (fun H1 locs1 a1 a2 a3 => kk H1 locs1 a1 a2 (me_wfR hwf (fun t z => by cases z; exact hv)) a3)
theorem d_G_init_13 : decode prog_1_method_1_code 13 = .ok (.aload_n 0, 1) := by decide +kernel
theorem d_G_init_14 : decode prog_1_method_1_code 14 = .ok (.iconst 4, 1) := by decide +kernel
theorem d_G_init_15 : decode prog_1_method_1_code 15 = .ok (.anewarray 13, 3) := by decide +kernel
theorem u_212 : Cond.classLink "FilterGuard" 13 "FilterGuard$Store" ∈ fg_g := fg_in (List.mem_of_getElem? (i := 212) (by decide +kernel)) rfl
theorem o_213 : Cond.arrayOver (.object "FilterGuard$Store") ∈ lw_tbl := List.mem_of_getElem? (i := 213) (by decide +kernel)
theorem d_G_init_18 : decode prog_1_method_1_code 18 = .ok (.putfield 15, 3) := by decide +kernel
theorem u_695 : Cond.fieldLink "FilterGuard" 15 "FilterGuard" "stores" "[LFilterGuard$Store;" ∈ fg_g := fg_in (List.mem_of_getElem? (i := 695) (by decide +kernel)) rfl
theorem P_G_2 {p : Program} {l : Launch} {e : Env} {R : Room} {s : Jvm.State} {m : MethodId} {args : Array Value} {below : List Frame} {meth : Method} {c : Code} {H : Heap} {locs : List Loc} {cells slots : Nat} {Q : Jvm.State → Prop} {cc : ByteArray} {pc : Nat} {ls : Array Slot} {rest : List Value} {D : va_G} {A : Nat → Prop} {H0 : Heap} {ad : Nat → Nat → Nat} {ca : Nat → ClassId} {M M1 : me_M} {N : Nat → Nat} {index j : Nat} {v : Nat} (he : M1 = wR M 0 j 2 (some v)) (hexec : p.tables.exec = Jvm.exec) (hb : c.code = cc) (hts : ∀ w ∈ fg_g, w.before args s = true) (hown : s.vm.findClass "FilterGuard" = some m.cls) (hK : va_K D classes (me_T ca) s) (hP : va_P D classes (me_W ad ca M) H) (hD : va_D A (me_W ad ca M)) (hwf : me_wf N M) (hS : va_S A H0 H locs) (hj : j < N 0) (hv : v < N 19) (hin2 : meth.name = "<init>") (hlink : (Cond.fieldLink "FilterGuard" index "FilterGuard" "stores" "[LFilterGuard$Store;").before args s = true) (hdg : decode cc pc = .ok (.putfield index, 3)) (kk : ∀ (H1 : Heap) (locs1 : List Loc), va_P D classes (me_W ad ca M1) H1 → va_D A (me_W ad ca M1) → me_wf N M1 → va_S A H0 H1 locs1 → W p l e R s m args below meth c H1 locs1 cells slots Q (F0 m (pc + 3) ls rest)) : W p l e R s m args below meth c H locs cells slots Q (F0 m pc ls (.ref (ad 19 v) :: .ref (ad 0 j) :: rest)) := by
  subst he
  exact me_putF (M1 := wR M 0 j 2 (some v)) (k := 0) (f := 2) (C := "FilterGuard") (T := F_G) (Nf := 14) hexec hb hts i_G t_G t_G_ok n_G hown hK hP hD hwf hS hj (by decide) rfl (by decide) (by decide) hlink (fun _ h9 => h9) rfl hin2 rfl rfl rfl rfl (fun a b h => me_wRE h) (me_fRw (v := some v) (by decide) (by decide)) hdg (fun H1 locs1 a1 a2 a3 => kk H1 locs1 a1 a2 (me_wfR hwf (fun t z => by cases z; exact hv)) a3)
theorem d_G_init_21 : decode prog_1_method_1_code 21 = .ok (.aload_n 0, 1) := by decide +kernel
theorem d_G_init_22 : decode prog_1_method_1_code 22 = .ok (.new 19, 3) := by decide +kernel
theorem u_214 : Cond.classLink "FilterGuard" 19 "FilterGuard$Code" ∈ fg_g := fg_in (List.mem_of_getElem? (i := 214) (by decide +kernel)) rfl
theorem u_215 : Cond.instantiable "FilterGuard$Code" 16 ∈ fg_g := fg_in (List.mem_of_getElem? (i := 215) (by decide +kernel)) rfl
theorem u_182 : Cond.initialized "FilterGuard$Code" ∈ fg_g := fg_in (List.mem_of_getElem? (i := 182) (by decide +kernel)) rfl
theorem d_G_init_25 : decode prog_1_method_1_code 25 = .ok (.dup, 1) := by decide +kernel
theorem d_G_init_26 : decode prog_1_method_1_code 26 = .ok (.invokespecial 21, 3) := by decide +kernel
theorem o_216 : Cond.methodLinkNest "FilterGuard" 21 ⟨"FilterGuard$Code", "<init>", "()V"⟩ "FilterGuard" ∈ lw_tbl := List.mem_of_getElem? (i := 216) (by decide +kernel)
theorem u_218 : Cond.code ⟨"FilterGuard$Code", "<init>", "()V"⟩ prog_4_method_1_code 1 none ∈ fg_g := fg_in (List.mem_of_getElem? (i := 218) (by decide +kernel)) rfl
theorem u_217 : Cond.instanceMethod ⟨"FilterGuard$Code", "<init>", "()V"⟩ ∈ fg_g := fg_in (List.mem_of_getElem? (i := 217) (by decide +kernel)) rfl
theorem d_G_init_29 : decode prog_1_method_1_code 29 = .ok (.putfield 22, 3) := by decide +kernel
theorem u_697 : Cond.fieldLink "FilterGuard" 22 "FilterGuard" "code" "LFilterGuard$Code;" ∈ fg_g := fg_in (List.mem_of_getElem? (i := 697) (by decide +kernel)) rfl
theorem P_G_4 {p : Program} {l : Launch} {e : Env} {R : Room} {s : Jvm.State} {m : MethodId} {args : Array Value} {below : List Frame} {meth : Method} {c : Code} {H : Heap} {locs : List Loc} {cells slots : Nat} {Q : Jvm.State → Prop} {cc : ByteArray} {pc : Nat} {ls : Array Slot} {rest : List Value} {D : va_G} {A : Nat → Prop} {H0 : Heap} {ad : Nat → Nat → Nat} {ca : Nat → ClassId} {M M1 : me_M} {N : Nat → Nat} {index j : Nat} {v : Nat} (he : M1 = wR M 0 j 4 (some v)) (hexec : p.tables.exec = Jvm.exec) (hb : c.code = cc) (hts : ∀ w ∈ fg_g, w.before args s = true) (hown : s.vm.findClass "FilterGuard" = some m.cls) (hK : va_K D classes (me_T ca) s) (hP : va_P D classes (me_W ad ca M) H) (hD : va_D A (me_W ad ca M)) (hwf : me_wf N M) (hS : va_S A H0 H locs) (hj : j < N 0) (hv : v < N 2) (hin2 : meth.name = "<init>") (hlink : (Cond.fieldLink "FilterGuard" index "FilterGuard" "code" "LFilterGuard$Code;").before args s = true) (hdg : decode cc pc = .ok (.putfield index, 3)) (kk : ∀ (H1 : Heap) (locs1 : List Loc), va_P D classes (me_W ad ca M1) H1 → va_D A (me_W ad ca M1) → me_wf N M1 → va_S A H0 H1 locs1 → W p l e R s m args below meth c H1 locs1 cells slots Q (F0 m (pc + 3) ls rest)) : W p l e R s m args below meth c H locs cells slots Q (F0 m pc ls (.ref (ad 2 v) :: .ref (ad 0 j) :: rest)) := by
  subst he
  exact me_putF (M1 := wR M 0 j 4 (some v)) (k := 0) (f := 4) (C := "FilterGuard") (T := F_G) (Nf := 14) hexec hb hts i_G t_G t_G_ok n_G hown hK hP hD hwf hS hj (by decide) rfl (by decide) (by decide) hlink (fun _ h9 => h9) rfl hin2 rfl rfl rfl rfl (fun a b h => me_wRE h) (me_fRw (v := some v) (by decide) (by decide)) hdg (fun H1 locs1 a1 a2 a3 => kk H1 locs1 a1 a2 (me_wfR hwf (fun t z => by cases z; exact hv)) a3)
theorem d_G_init_32 : decode prog_1_method_1_code 32 = .ok (.aload_n 0, 1) := by decide +kernel
theorem d_G_init_33 : decode prog_1_method_1_code 33 = .ok (.new 19, 3) := by decide +kernel
theorem d_G_init_36 : decode prog_1_method_1_code 36 = .ok (.dup, 1) := by decide +kernel
theorem d_G_init_37 : decode prog_1_method_1_code 37 = .ok (.invokespecial 21, 3) := by decide +kernel
theorem d_G_init_40 : decode prog_1_method_1_code 40 = .ok (.putfield 26, 3) := by decide +kernel
theorem u_698 : Cond.fieldLink "FilterGuard" 26 "FilterGuard" "shorter" "LFilterGuard$Code;" ∈ fg_g := fg_in (List.mem_of_getElem? (i := 698) (by decide +kernel)) rfl
theorem P_G_5 {p : Program} {l : Launch} {e : Env} {R : Room} {s : Jvm.State} {m : MethodId} {args : Array Value} {below : List Frame} {meth : Method} {c : Code} {H : Heap} {locs : List Loc} {cells slots : Nat} {Q : Jvm.State → Prop} {cc : ByteArray} {pc : Nat} {ls : Array Slot} {rest : List Value} {D : va_G} {A : Nat → Prop} {H0 : Heap} {ad : Nat → Nat → Nat} {ca : Nat → ClassId} {M M1 : me_M} {N : Nat → Nat} {index j : Nat} {v : Nat} (he : M1 = wR M 0 j 5 (some v)) (hexec : p.tables.exec = Jvm.exec) (hb : c.code = cc) (hts : ∀ w ∈ fg_g, w.before args s = true) (hown : s.vm.findClass "FilterGuard" = some m.cls) (hK : va_K D classes (me_T ca) s) (hP : va_P D classes (me_W ad ca M) H) (hD : va_D A (me_W ad ca M)) (hwf : me_wf N M) (hS : va_S A H0 H locs) (hj : j < N 0) (hv : v < N 2) (hin2 : meth.name = "<init>") (hlink : (Cond.fieldLink "FilterGuard" index "FilterGuard" "shorter" "LFilterGuard$Code;").before args s = true) (hdg : decode cc pc = .ok (.putfield index, 3)) (kk : ∀ (H1 : Heap) (locs1 : List Loc), va_P D classes (me_W ad ca M1) H1 → va_D A (me_W ad ca M1) → me_wf N M1 → va_S A H0 H1 locs1 → W p l e R s m args below meth c H1 locs1 cells slots Q (F0 m (pc + 3) ls rest)) : W p l e R s m args below meth c H locs cells slots Q (F0 m pc ls (.ref (ad 2 v) :: .ref (ad 0 j) :: rest)) := by
  subst he
  exact me_putF (M1 := wR M 0 j 5 (some v)) (k := 0) (f := 5) (C := "FilterGuard") (T := F_G) (Nf := 14) hexec hb hts i_G t_G t_G_ok n_G hown hK hP hD hwf hS hj (by decide) rfl (by decide) (by decide) hlink (fun _ h9 => h9) rfl hin2 rfl rfl rfl rfl (fun a b h => me_wRE h) (me_fRw (v := some v) (by decide) (by decide)) hdg (fun H1 locs1 a1 a2 a3 => kk H1 locs1 a1 a2 (me_wfR hwf (fun t z => by cases z; exact hv)) a3)
theorem d_G_init_43 : decode prog_1_method_1_code 43 = .ok (.aload_n 0, 1) := by decide +kernel
theorem d_G_init_44 : decode prog_1_method_1_code 44 = .ok (.new 29, 3) := by decide +kernel
theorem u_312 : Cond.classLink "FilterGuard" 29 "FilterGuard$Facts" ∈ fg_g := fg_in (List.mem_of_getElem? (i := 312) (by decide +kernel)) rfl
theorem u_313 : Cond.instantiable "FilterGuard$Facts" 7 ∈ fg_g := fg_in (List.mem_of_getElem? (i := 313) (by decide +kernel)) rfl
theorem u_183 : Cond.initialized "FilterGuard$Facts" ∈ fg_g := fg_in (List.mem_of_getElem? (i := 183) (by decide +kernel)) rfl
theorem d_G_init_47 : decode prog_1_method_1_code 47 = .ok (.dup, 1) := by decide +kernel
theorem d_G_init_48 : decode prog_1_method_1_code 48 = .ok (.invokespecial 31, 3) := by decide +kernel
theorem o_314 : Cond.methodLinkNest "FilterGuard" 31 ⟨"FilterGuard$Facts", "<init>", "()V"⟩ "FilterGuard" ∈ lw_tbl := List.mem_of_getElem? (i := 314) (by decide +kernel)
theorem u_316 : Cond.code ⟨"FilterGuard$Facts", "<init>", "()V"⟩ prog_6_method_1_code 1 none ∈ fg_g := fg_in (List.mem_of_getElem? (i := 316) (by decide +kernel)) rfl
theorem u_315 : Cond.instanceMethod ⟨"FilterGuard$Facts", "<init>", "()V"⟩ ∈ fg_g := fg_in (List.mem_of_getElem? (i := 315) (by decide +kernel)) rfl
theorem d_G_init_51 : decode prog_1_method_1_code 51 = .ok (.putfield 32, 3) := by decide +kernel
theorem u_699 : Cond.fieldLink "FilterGuard" 32 "FilterGuard" "facts" "LFilterGuard$Facts;" ∈ fg_g := fg_in (List.mem_of_getElem? (i := 699) (by decide +kernel)) rfl
theorem P_G_6 {p : Program} {l : Launch} {e : Env} {R : Room} {s : Jvm.State} {m : MethodId} {args : Array Value} {below : List Frame} {meth : Method} {c : Code} {H : Heap} {locs : List Loc} {cells slots : Nat} {Q : Jvm.State → Prop} {cc : ByteArray} {pc : Nat} {ls : Array Slot} {rest : List Value} {D : va_G} {A : Nat → Prop} {H0 : Heap} {ad : Nat → Nat → Nat} {ca : Nat → ClassId} {M M1 : me_M} {N : Nat → Nat} {index j : Nat} {v : Nat} (he : M1 = wR M 0 j 6 (some v)) (hexec : p.tables.exec = Jvm.exec) (hb : c.code = cc) (hts : ∀ w ∈ fg_g, w.before args s = true) (hown : s.vm.findClass "FilterGuard" = some m.cls) (hK : va_K D classes (me_T ca) s) (hP : va_P D classes (me_W ad ca M) H) (hD : va_D A (me_W ad ca M)) (hwf : me_wf N M) (hS : va_S A H0 H locs) (hj : j < N 0) (hv : v < N 3) (hin2 : meth.name = "<init>") (hlink : (Cond.fieldLink "FilterGuard" index "FilterGuard" "facts" "LFilterGuard$Facts;").before args s = true) (hdg : decode cc pc = .ok (.putfield index, 3)) (kk : ∀ (H1 : Heap) (locs1 : List Loc), va_P D classes (me_W ad ca M1) H1 → va_D A (me_W ad ca M1) → me_wf N M1 → va_S A H0 H1 locs1 → W p l e R s m args below meth c H1 locs1 cells slots Q (F0 m (pc + 3) ls rest)) : W p l e R s m args below meth c H locs cells slots Q (F0 m pc ls (.ref (ad 3 v) :: .ref (ad 0 j) :: rest)) := by
  subst he
  exact me_putF (M1 := wR M 0 j 6 (some v)) (k := 0) (f := 6) (C := "FilterGuard") (T := F_G) (Nf := 14) hexec hb hts i_G t_G t_G_ok n_G hown hK hP hD hwf hS hj (by decide) rfl (by decide) (by decide) hlink (fun _ h9 => h9) rfl hin2 rfl rfl rfl rfl (fun a b h => me_wRE h) (me_fRw (v := some v) (by decide) (by decide)) hdg (fun H1 locs1 a1 a2 a3 => kk H1 locs1 a1 a2 (me_wfR hwf (fun t z => by cases z; exact hv)) a3)
theorem d_G_init_54 : decode prog_1_method_1_code 54 = .ok (.aload_n 0, 1) := by decide +kernel
theorem d_G_init_55 : decode prog_1_method_1_code 55 = .ok (.new 36, 3) := by decide +kernel
theorem u_341 : Cond.classLink "FilterGuard" 36 "FilterGuard$Explorer" ∈ fg_g := fg_in (List.mem_of_getElem? (i := 341) (by decide +kernel)) rfl
theorem u_342 : Cond.instantiable "FilterGuard$Explorer" 15 ∈ fg_g := fg_in (List.mem_of_getElem? (i := 342) (by decide +kernel)) rfl
theorem u_184 : Cond.initialized "FilterGuard$Explorer" ∈ fg_g := fg_in (List.mem_of_getElem? (i := 184) (by decide +kernel)) rfl
theorem d_G_init_58 : decode prog_1_method_1_code 58 = .ok (.dup, 1) := by decide +kernel
theorem d_G_init_59 : decode prog_1_method_1_code 59 = .ok (.aload_n 0, 1) := by decide +kernel
theorem d_G_init_60 : decode prog_1_method_1_code 60 = .ok (.getfield 22, 3) := by decide +kernel
theorem g_G_4 {p : Program} {l : Launch} {e : Env} {R : Room} {s : Jvm.State} {m : MethodId} {args : Array Value} {below : List Frame} {meth : Method} {c : Code} {H : Heap} {locs : List Loc} {cells slots : Nat} {Q : Jvm.State → Prop} {cc : ByteArray} {pc : Nat} {ls : Array Slot} {rest : List Value} {D : va_G} {ad : Nat → Nat → Nat} {ca : Nat → ClassId} {M : me_M} {N : Nat → Nat} {own : String} {index j : Nat} (hexec : p.tables.exec = Jvm.exec) (hb : c.code = cc) (hts : ∀ w ∈ fg_g, w.before args s = true) (hown : s.vm.findClass own = some m.cls) (hK : va_K D classes (me_T ca) s) (hP : va_P D classes (me_W ad ca M) H) (hwf : me_wf N M) (hj : j < N 0) (hlink : (Cond.fieldLink own index "FilterGuard" "code" "LFilterGuard$Code;").before args s = true) (hdg : decode cc pc = .ok (.getfield index, 3)) (kk : W p l e R s m args below meth c H locs cells slots Q (F0 m (pc + 3) ls (va_rf ((mR M 0 j 4).map (ad 2)) :: rest))) : W p l e R s m args below meth c H locs cells slots Q (F0 m pc ls (.ref (ad 0 j) :: rest)) := me_get (k := 0) (f := 4) (C := "FilterGuard") (T := F_G) (Nf := 14) hexec hb hts i_G hown hK hP hwf hj (by decide) rfl (by decide) (by decide) hlink (fun _ h9 => h9) hdg kk
theorem d_G_init_63 : decode prog_1_method_1_code 63 = .ok (.aload_n 0, 1) := by decide +kernel
theorem d_G_init_64 : decode prog_1_method_1_code 64 = .ok (.getfield 15, 3) := by decide +kernel
theorem g_G_2 {p : Program} {l : Launch} {e : Env} {R : Room} {s : Jvm.State} {m : MethodId} {args : Array Value} {below : List Frame} {meth : Method} {c : Code} {H : Heap} {locs : List Loc} {cells slots : Nat} {Q : Jvm.State → Prop} {cc : ByteArray} {pc : Nat} {ls : Array Slot} {rest : List Value} {D : va_G} {ad : Nat → Nat → Nat} {ca : Nat → ClassId} {M : me_M} {N : Nat → Nat} {own : String} {index j : Nat} (hexec : p.tables.exec = Jvm.exec) (hb : c.code = cc) (hts : ∀ w ∈ fg_g, w.before args s = true) (hown : s.vm.findClass own = some m.cls) (hK : va_K D classes (me_T ca) s) (hP : va_P D classes (me_W ad ca M) H) (hwf : me_wf N M) (hj : j < N 0) (hlink : (Cond.fieldLink own index "FilterGuard" "stores" "[LFilterGuard$Store;").before args s = true) (hdg : decode cc pc = .ok (.getfield index, 3)) (kk : W p l e R s m args below meth c H locs cells slots Q (F0 m (pc + 3) ls (va_rf ((mR M 0 j 2).map (ad 19)) :: rest))) : W p l e R s m args below meth c H locs cells slots Q (F0 m pc ls (.ref (ad 0 j) :: rest)) := me_get (k := 0) (f := 2) (C := "FilterGuard") (T := F_G) (Nf := 14) hexec hb hts i_G hown hK hP hwf hj (by decide) rfl (by decide) (by decide) hlink (fun _ h9 => h9) hdg kk
theorem d_G_init_67 : decode prog_1_method_1_code 67 = .ok (.aload_n 0, 1) := by decide +kernel
theorem d_G_init_68 : decode prog_1_method_1_code 68 = .ok (.getfield 32, 3) := by decide +kernel
theorem g_G_6 {p : Program} {l : Launch} {e : Env} {R : Room} {s : Jvm.State} {m : MethodId} {args : Array Value} {below : List Frame} {meth : Method} {c : Code} {H : Heap} {locs : List Loc} {cells slots : Nat} {Q : Jvm.State → Prop} {cc : ByteArray} {pc : Nat} {ls : Array Slot} {rest : List Value} {D : va_G} {ad : Nat → Nat → Nat} {ca : Nat → ClassId} {M : me_M} {N : Nat → Nat} {own : String} {index j : Nat} (hexec : p.tables.exec = Jvm.exec) (hb : c.code = cc) (hts : ∀ w ∈ fg_g, w.before args s = true) (hown : s.vm.findClass own = some m.cls) (hK : va_K D classes (me_T ca) s) (hP : va_P D classes (me_W ad ca M) H) (hwf : me_wf N M) (hj : j < N 0) (hlink : (Cond.fieldLink own index "FilterGuard" "facts" "LFilterGuard$Facts;").before args s = true) (hdg : decode cc pc = .ok (.getfield index, 3)) (kk : W p l e R s m args below meth c H locs cells slots Q (F0 m (pc + 3) ls (va_rf ((mR M 0 j 6).map (ad 3)) :: rest))) : W p l e R s m args below meth c H locs cells slots Q (F0 m pc ls (.ref (ad 0 j) :: rest)) := me_get (k := 0) (f := 6) (C := "FilterGuard") (T := F_G) (Nf := 14) hexec hb hts i_G hown hK hP hwf hj (by decide) rfl (by decide) (by decide) hlink (fun _ h9 => h9) hdg kk
theorem d_G_init_71 : decode prog_1_method_1_code 71 = .ok (.invokespecial 38, 3) := by decide +kernel
theorem u_343 : Cond.methodLink "FilterGuard" 38 ⟨"FilterGuard$Explorer", "<init>", "(LFilterGuard$Code;[LFilterGuard$Store;LFilterGuard$Facts;)V"⟩ ∈ fg_g := fg_in (List.mem_of_getElem? (i := 343) (by decide +kernel)) rfl
theorem u_345 : Cond.code ⟨"FilterGuard$Explorer", "<init>", "(LFilterGuard$Code;[LFilterGuard$Store;LFilterGuard$Facts;)V"⟩ prog_5_method_1_code 4 none ∈ fg_g := fg_in (List.mem_of_getElem? (i := 345) (by decide +kernel)) rfl
theorem u_344 : Cond.instanceMethod ⟨"FilterGuard$Explorer", "<init>", "(LFilterGuard$Code;[LFilterGuard$Store;LFilterGuard$Facts;)V"⟩ ∈ fg_g := fg_in (List.mem_of_getElem? (i := 344) (by decide +kernel)) rfl
theorem d_G_init_74 : decode prog_1_method_1_code 74 = .ok (.putfield 41, 3) := by decide +kernel
theorem u_700 : Cond.fieldLink "FilterGuard" 41 "FilterGuard" "explorer" "LFilterGuard$Explorer;" ∈ fg_g := fg_in (List.mem_of_getElem? (i := 700) (by decide +kernel)) rfl
theorem P_G_7 {p : Program} {l : Launch} {e : Env} {R : Room} {s : Jvm.State} {m : MethodId} {args : Array Value} {below : List Frame} {meth : Method} {c : Code} {H : Heap} {locs : List Loc} {cells slots : Nat} {Q : Jvm.State → Prop} {cc : ByteArray} {pc : Nat} {ls : Array Slot} {rest : List Value} {D : va_G} {A : Nat → Prop} {H0 : Heap} {ad : Nat → Nat → Nat} {ca : Nat → ClassId} {M M1 : me_M} {N : Nat → Nat} {index j : Nat} {v : Nat} (he : M1 = wR M 0 j 7 (some v)) (hexec : p.tables.exec = Jvm.exec) (hb : c.code = cc) (hts : ∀ w ∈ fg_g, w.before args s = true) (hown : s.vm.findClass "FilterGuard" = some m.cls) (hK : va_K D classes (me_T ca) s) (hP : va_P D classes (me_W ad ca M) H) (hD : va_D A (me_W ad ca M)) (hwf : me_wf N M) (hS : va_S A H0 H locs) (hj : j < N 0) (hv : v < N 4) (hin2 : meth.name = "<init>") (hlink : (Cond.fieldLink "FilterGuard" index "FilterGuard" "explorer" "LFilterGuard$Explorer;").before args s = true) (hdg : decode cc pc = .ok (.putfield index, 3)) (kk : ∀ (H1 : Heap) (locs1 : List Loc), va_P D classes (me_W ad ca M1) H1 → va_D A (me_W ad ca M1) → me_wf N M1 → va_S A H0 H1 locs1 → W p l e R s m args below meth c H1 locs1 cells slots Q (F0 m (pc + 3) ls rest)) : W p l e R s m args below meth c H locs cells slots Q (F0 m pc ls (.ref (ad 4 v) :: .ref (ad 0 j) :: rest)) := by
  subst he
  exact me_putF (M1 := wR M 0 j 7 (some v)) (k := 0) (f := 7) (C := "FilterGuard") (T := F_G) (Nf := 14) hexec hb hts i_G t_G t_G_ok n_G hown hK hP hD hwf hS hj (by decide) rfl (by decide) (by decide) hlink (fun _ h9 => h9) rfl hin2 rfl rfl rfl rfl (fun a b h => me_wRE h) (me_fRw (v := some v) (by decide) (by decide)) hdg (fun H1 locs1 a1 a2 a3 => kk H1 locs1 a1 a2 (me_wfR hwf (fun t z => by cases z; exact hv)) a3)
theorem d_G_init_77 : decode prog_1_method_1_code 77 = .ok (.aload_n 0, 1) := by decide +kernel
theorem d_G_init_78 : decode prog_1_method_1_code 78 = .ok (.new 45, 3) := by decide +kernel
theorem u_596 : Cond.classLink "FilterGuard" 45 "FilterGuard$Machine" ∈ fg_g := fg_in (List.mem_of_getElem? (i := 596) (by decide +kernel)) rfl
theorem u_597 : Cond.instantiable "FilterGuard$Machine" 20 ∈ fg_g := fg_in (List.mem_of_getElem? (i := 597) (by decide +kernel)) rfl
theorem u_190 : Cond.initialized "FilterGuard$Machine" ∈ fg_g := fg_in (List.mem_of_getElem? (i := 190) (by decide +kernel)) rfl
theorem d_G_init_81 : decode prog_1_method_1_code 81 = .ok (.dup, 1) := by decide +kernel
theorem d_G_init_82 : decode prog_1_method_1_code 82 = .ok (.aload_n 0, 1) := by decide +kernel
theorem d_G_init_83 : decode prog_1_method_1_code 83 = .ok (.getfield 22, 3) := by decide +kernel
theorem d_G_init_86 : decode prog_1_method_1_code 86 = .ok (.aload_n 0, 1) := by decide +kernel
theorem d_G_init_87 : decode prog_1_method_1_code 87 = .ok (.getfield 26, 3) := by decide +kernel
theorem g_G_5 {p : Program} {l : Launch} {e : Env} {R : Room} {s : Jvm.State} {m : MethodId} {args : Array Value} {below : List Frame} {meth : Method} {c : Code} {H : Heap} {locs : List Loc} {cells slots : Nat} {Q : Jvm.State → Prop} {cc : ByteArray} {pc : Nat} {ls : Array Slot} {rest : List Value} {D : va_G} {ad : Nat → Nat → Nat} {ca : Nat → ClassId} {M : me_M} {N : Nat → Nat} {own : String} {index j : Nat} (hexec : p.tables.exec = Jvm.exec) (hb : c.code = cc) (hts : ∀ w ∈ fg_g, w.before args s = true) (hown : s.vm.findClass own = some m.cls) (hK : va_K D classes (me_T ca) s) (hP : va_P D classes (me_W ad ca M) H) (hwf : me_wf N M) (hj : j < N 0) (hlink : (Cond.fieldLink own index "FilterGuard" "shorter" "LFilterGuard$Code;").before args s = true) (hdg : decode cc pc = .ok (.getfield index, 3)) (kk : W p l e R s m args below meth c H locs cells slots Q (F0 m (pc + 3) ls (va_rf ((mR M 0 j 5).map (ad 2)) :: rest))) : W p l e R s m args below meth c H locs cells slots Q (F0 m pc ls (.ref (ad 0 j) :: rest)) := me_get (k := 0) (f := 5) (C := "FilterGuard") (T := F_G) (Nf := 14) hexec hb hts i_G hown hK hP hwf hj (by decide) rfl (by decide) (by decide) hlink (fun _ h9 => h9) hdg kk
theorem d_G_init_90 : decode prog_1_method_1_code 90 = .ok (.aload_n 0, 1) := by decide +kernel
theorem d_G_init_91 : decode prog_1_method_1_code 91 = .ok (.getfield 15, 3) := by decide +kernel
theorem d_G_init_94 : decode prog_1_method_1_code 94 = .ok (.invokespecial 47, 3) := by decide +kernel
theorem u_598 : Cond.methodLink "FilterGuard" 47 ⟨"FilterGuard$Machine", "<init>", "(LFilterGuard$Code;LFilterGuard$Code;[LFilterGuard$Store;)V"⟩ ∈ fg_g := fg_in (List.mem_of_getElem? (i := 598) (by decide +kernel)) rfl
theorem u_600 : Cond.code ⟨"FilterGuard$Machine", "<init>", "(LFilterGuard$Code;LFilterGuard$Code;[LFilterGuard$Store;)V"⟩ prog_7_method_1_code 4 none ∈ fg_g := fg_in (List.mem_of_getElem? (i := 600) (by decide +kernel)) rfl
theorem u_599 : Cond.instanceMethod ⟨"FilterGuard$Machine", "<init>", "(LFilterGuard$Code;LFilterGuard$Code;[LFilterGuard$Store;)V"⟩ ∈ fg_g := fg_in (List.mem_of_getElem? (i := 599) (by decide +kernel)) rfl
theorem d_G_init_97 : decode prog_1_method_1_code 97 = .ok (.putfield 50, 3) := by decide +kernel
theorem u_701 : Cond.fieldLink "FilterGuard" 50 "FilterGuard" "machine" "LFilterGuard$Machine;" ∈ fg_g := fg_in (List.mem_of_getElem? (i := 701) (by decide +kernel)) rfl
theorem P_G_8 {p : Program} {l : Launch} {e : Env} {R : Room} {s : Jvm.State} {m : MethodId} {args : Array Value} {below : List Frame} {meth : Method} {c : Code} {H : Heap} {locs : List Loc} {cells slots : Nat} {Q : Jvm.State → Prop} {cc : ByteArray} {pc : Nat} {ls : Array Slot} {rest : List Value} {D : va_G} {A : Nat → Prop} {H0 : Heap} {ad : Nat → Nat → Nat} {ca : Nat → ClassId} {M M1 : me_M} {N : Nat → Nat} {index j : Nat} {v : Nat} (he : M1 = wR M 0 j 8 (some v)) (hexec : p.tables.exec = Jvm.exec) (hb : c.code = cc) (hts : ∀ w ∈ fg_g, w.before args s = true) (hown : s.vm.findClass "FilterGuard" = some m.cls) (hK : va_K D classes (me_T ca) s) (hP : va_P D classes (me_W ad ca M) H) (hD : va_D A (me_W ad ca M)) (hwf : me_wf N M) (hS : va_S A H0 H locs) (hj : j < N 0) (hv : v < N 5) (hin2 : meth.name = "<init>") (hlink : (Cond.fieldLink "FilterGuard" index "FilterGuard" "machine" "LFilterGuard$Machine;").before args s = true) (hdg : decode cc pc = .ok (.putfield index, 3)) (kk : ∀ (H1 : Heap) (locs1 : List Loc), va_P D classes (me_W ad ca M1) H1 → va_D A (me_W ad ca M1) → me_wf N M1 → va_S A H0 H1 locs1 → W p l e R s m args below meth c H1 locs1 cells slots Q (F0 m (pc + 3) ls rest)) : W p l e R s m args below meth c H locs cells slots Q (F0 m pc ls (.ref (ad 5 v) :: .ref (ad 0 j) :: rest)) := by
  subst he
  exact me_putF (M1 := wR M 0 j 8 (some v)) (k := 0) (f := 8) (C := "FilterGuard") (T := F_G) (Nf := 14) hexec hb hts i_G t_G t_G_ok n_G hown hK hP hD hwf hS hj (by decide) rfl (by decide) (by decide) hlink (fun _ h9 => h9) rfl hin2 rfl rfl rfl rfl (fun a b h => me_wRE h) (me_fRw (v := some v) (by decide) (by decide)) hdg (fun H1 locs1 a1 a2 a3 => kk H1 locs1 a1 a2 (me_wfR hwf (fun t z => by cases z; exact hv)) a3)
theorem d_G_init_100 : decode prog_1_method_1_code 100 = .ok (.aload_n 0, 1) := by decide +kernel
theorem d_G_init_101 : decode prog_1_method_1_code 101 = .ok (.iconst (-1), 1) := by decide +kernel
theorem d_G_init_102 : decode prog_1_method_1_code 102 = .ok (.putfield 54, 3) := by decide +kernel
theorem u_703 : Cond.fieldLink "FilterGuard" 54 "FilterGuard" "faultSlot" "I" ∈ fg_g := fg_in (List.mem_of_getElem? (i := 703) (by decide +kernel)) rfl
theorem p_G_10 {p : Program} {l : Launch} {e : Env} {R : Room} {s : Jvm.State} {m : MethodId} {args : Array Value} {below : List Frame} {meth : Method} {c : Code} {H : Heap} {locs : List Loc} {cells slots : Nat} {Q : Jvm.State → Prop} {cc : ByteArray} {pc : Nat} {ls : Array Slot} {rest : List Value} {D : va_G} {A : Nat → Prop} {H0 : Heap} {ad : Nat → Nat → Nat} {ca : Nat → ClassId} {M M1 : me_M} {N : Nat → Nat} {own : String} {index j : Nat} {v : Int32} (he : M1 = wI M 0 j 10 v) (hexec : p.tables.exec = Jvm.exec) (hb : c.code = cc) (hts : ∀ w ∈ fg_g, w.before args s = true) (hown : s.vm.findClass own = some m.cls) (hK : va_K D classes (me_T ca) s) (hP : va_P D classes (me_W ad ca M) H) (hD : va_D A (me_W ad ca M)) (hwf : me_wf N M) (hS : va_S A H0 H locs) (hj : j < N 0) (hlink : (Cond.fieldLink own index "FilterGuard" "faultSlot" "I").before args s = true) (hdg : decode cc pc = .ok (.putfield index, 3)) (kk : ∀ (H1 : Heap) (locs1 : List Loc), va_P D classes (me_W ad ca M1) H1 → va_D A (me_W ad ca M1) → me_wf N M1 → va_S A H0 H1 locs1 → W p l e R s m args below meth c H1 locs1 cells slots Q (F0 m (pc + 3) ls rest)) : W p l e R s m args below meth c H locs cells slots Q (F0 m pc ls (.int v :: .ref (ad 0 j) :: rest)) := by
  subst he
  exact me_put (M1 := wI M 0 j 10 v) (k := 0) (f := 10) (C := "FilterGuard") (T := F_G) (Nf := 14) hexec hb hts i_G t_G t_G_ok n_G hown hK hP hD hwf hS hj (by decide) rfl (by decide) (by decide) hlink (fun _ h9 => h9) rfl rfl rfl rfl (fun a b h => me_wIE h) (me_fIw (by decide) (by decide)) hdg (fun H1 locs1 a1 a2 a3 => kk H1 locs1 a1 a2 (me_wfI hwf (fun z => absurd z (by decide)) (fun z => absurd z (by decide))) a3)
theorem d_G_init_105 : decode prog_1_method_1_code 105 = .ok (.return_, 1) := by decide +kernel
abbrev y_G_init : MethodName := ⟨"FilterGuard", "<init>", "()V"⟩
def rm_G_init (N0 : Nat → Nat) : Room := { frames := 6, cells := me_CL - me_cN N0, slots := me_SL - me_sN N0, locals := 136 }
abbrev q_G_init (D : va_G) (ad0 : Nat → Nat → Nat) (ca : Nat → ClassId) (N0 : Nat → Nat) (MZ : me_M) (A : Nat → Prop) : Array Value → Jvm.State → Outcome → Jvm.State → Prop := va_Qv (fun (u : Nat → Nat → Nat) => al_P ad0 N0 MZ u ∧ True) (fg_B D A (fun u => me_W u ca MZ) (fun _ => [])) A
set_option maxHeartbeats 4000000 in
set_option maxRecDepth 100000 in
theorem c_G_init (l : Launch) (D : va_G) (ad0 : Nat → Nat → Nat) (ca : Nat → ClassId) (N0 : Nat → Nat) (M0 MZ : me_M) (j0 : Nat) (h : f_G_init M0 j0 = (some MZ)) (hwf : me_wf N0 M0) (hcl : me_cN N0 ≤ me_CL ∧ me_sN N0 ≤ me_SL) (hj0 : j0 < N0 0) (sz : Nat) : Met l y_G_init (fg_w y_G_init prog_1_method_1_code 1 none) (rm_G_init N0) (va_Pc [.ref (ad0 0 j0)] (fz_P D (me_T ca) (me_W ad0 ca M0) sz)) (q_G_init D ad0 ca N0 MZ (va_A (me_W ad0 ca M0) sz)) (me_cN (mN MZ) - me_cN N0) (me_sN (mN MZ) - me_sN N0) (va_A (me_W ad0 ca M0) sz) := by
  refine fz_enter (fun A => q_G_init D ad0 ca N0 MZ A) (by decide +kernel) (Nat.le_of_ble_eq_true rfl) ?_
  intro p e s m below meth c ls A hx hb hml hown hts hr hlocks hin hP hK hD hS hA hX hl hz
  refine W.widen (k := me_cN N0 - me_cN N0) (n := me_sN N0 - me_sN N0) (Nat.zero_le _) (Nat.zero_le _) ?_
  unfold f_G_init at h
  have hok : me_ok N0 N0 := me_ok.rf hcl
  obtain ⟨ad, N, hext0, hok, hwf, hP, hD, hN9, had9, hj0⟩ : ∃ (ad : Nat → Nat → Nat) (N : Nat → Nat), (∀ a b, b < N0 a → ad a b = ad0 a b) ∧ me_ok N0 N ∧ me_wf N M0 ∧ va_P D classes (me_W ad ca M0) s.heap ∧ va_D A (me_W ad ca M0) ∧ N = N0 ∧ ad = ad0 ∧ j0 < N 0 := ⟨ad0, N0, fun _ _ _ => rfl, hok, hwf, hP, hD, rfl, rfl, hj0⟩
  have hl : lv_has ls 1 [(0, .ref (ad 0 j0))] := by rw [had9]; exact hl
  have hcs : W p l e (rm_G_init N0) s m [.ref (ad0 0 j0)].toArray below meth c s.heap [] (me_cN N - me_cN N0) (me_sN N - me_sN N0) (MQ below (q_G_init D ad0 ca N0 MZ A) [.ref (ad0 0 j0)].toArray s (me_cN (mN MZ) - me_cN N0) (me_sN (mN MZ) - me_sN N0) A) (F0 m 0 ls []) := by
    clear had9
    refine lv_aload_n hx hb d_G_init_0 rfl (lv_at hl 0 rfl) ?_
    refine W.objInit hx hb hown (hts _ u_209) (hts _ u_210) (hts _ u_211) rfl (by rw [hml]; exact hl.1) rfl d_G_init_1 (Nat.le_of_ble_eq_true rfl) (Nat.le_of_ble_eq_true rfl) ?_
    refine W.eq (g2 := F0 m 4 ls []) rfl ?_
    refine lv_aload_n hx hb d_G_init_4 rfl (lv_at hl 0 rfl) ?_
    refine lv_sipush (v := 1280) hx hb d_G_init_5 (by decide) ?_
    obtain ⟨g1, h⟩ := gd_ob h
    obtain ⟨M2, eM2, h⟩ := st_ob h
    refine al_newa (k := 14) (atype := .byte) (a0 := ((1280 : Int32).toNatClampNeg, .inl (fun _ => 0))) eM2 g1 hx hb (hts _ u_309) rfl hK hP hD hwf hok hS hA (by decide) (by decide) rfl (fun _ _ h9 => h9) (by decide) (fun _ => rfl) (fun ad1 => by rw [eM2]; exact al_ar14) rfl rfl d_G_init_8 (fun ad N H hext hNN hn3 hwf hok1 hP hD hS => ?_)
    have hext0 := al_ext hext hext0 hok
    have hok := hok1
    have hl : lv_has ls 1 [(0, .ref (ad 0 j0))] := by rw [hext 0 j0 hj0]; exact hl
    refine W.eq (g2 := F0 m 10 ls [.ref (ad 14 (mN M0 14)), .ref (ad 0 j0)]) (by rw [hext 0 j0 hj0]) ?_
    have hj0 : j0 < N 0 := Nat.lt_of_lt_of_le hj0 (hNN 0)
    obtain ⟨M4, eM4, h⟩ := st_ob h
    refine p_G_0 eM4 hx hb hts hown hK hP hD hwf hS hj0 hn3 (hts _ u_693) d_G_init_10 (fun H locs hP hD hwf hS => ?_)
    refine lv_aload_n hx hb d_G_init_13 rfl (lv_at hl 0 rfl) ?_
    refine lv_iconst (v := 4) hx hb d_G_init_14 (by decide) ?_
    obtain ⟨g5, h⟩ := gd_ob h
    obtain ⟨M6, eM6, h⟩ := st_ob h
    refine al_newq (k := 19) (C := "FilterGuard$Store") eM6 g5 hx hb hown (hts _ u_212) (hX _ o_213 rfl) hK hP hD hwf hok hS hA (by decide) (by decide) rfl (by decide) rfl rfl d_G_init_15 (fun ad N H hext hNN hn7 hwf hok1 hP hD hS => ?_)
    have hext0 := al_ext hext hext0 hok
    have hok := hok1
    have hl : lv_has ls 1 [(0, .ref (ad 0 j0))] := by rw [hext 0 j0 hj0]; exact hl
    refine W.eq (g2 := F0 m 18 ls [.ref (ad 19 (mN M4 19)), .ref (ad 0 j0)]) (by rw [hext 0 j0 hj0]) ?_
    have hj0 : j0 < N 0 := Nat.lt_of_lt_of_le hj0 (hNN 0)
    obtain ⟨M8, eM8, h⟩ := st_ob h
    refine P_G_2 eM8 hx hb hts hown hK hP hD hwf hS hj0 hn7 hin (hts _ u_695) d_G_init_18 (fun H locs hP hD hwf hS => ?_)
    refine lv_aload_n hx hb d_G_init_21 rfl (lv_at hl 0 rfl) ?_
    obtain ⟨g9, h⟩ := gd_ob h
    obtain ⟨M10, eM10, h⟩ := st_ob h
    refine al_new (k := 2) (fs := [.null, .null, .null, .int 0, .int 0, .int 0, .int 0, .int 0, .int 0, .int 0, .int 0, .int 0, .int 0, .int 0, .int 0, .int 0]) (C := "FilterGuard$Code") (T := F_Code) (Nf := 16) eM10 g9 hx hb hts i_Code t_Code t_Code_ok hown (hts _ u_214) (hts _ u_215) (hts _ u_182) hK hP hD hwf hok hS hA (by decide) rfl (by decide) z_Code rfl rfl rfl d_G_init_22 (fun ad N H hext hNN hn11 hwf hok1 hP hD hS => ?_)
    have hext0 := al_ext hext hext0 hok
    have hok := hok1
    have hl : lv_has ls 1 [(0, .ref (ad 0 j0))] := by rw [hext 0 j0 hj0]; exact hl
    refine W.eq (g2 := F0 m 25 ls [.ref (ad 2 (mN M8 2)), .ref (ad 0 j0)]) (by rw [hext 0 j0 hj0]) ?_
    have hj0 : j0 < N 0 := Nat.lt_of_lt_of_le hj0 (hNN 0)
    refine lv_dup hx hb d_G_init_25 rfl ?_
    obtain ⟨M12, eM12, h⟩ := bd_ob h
    refine al_thenv (M1 := M12) (al_runIN (As := []) (rest := [.ref (ad 2 (mN M8 2)), .ref (ad 0 j0)]) ⟨hx, hb, hml, hown, hts⟩ (c_Code_init l D ad ca N M10 M12 (mN M8 2) eM12 hwf ⟨hok.2.2.1, hok.2.2.2.1⟩ hn11 _) rfl (by show fg_nm y_Code_init 0; decide +kernel) o_216 u_217 u_182 u_218 ⟨Nat.le_of_ble_eq_true rfl, Nat.le_of_ble_eq_true rfl⟩ hX hz hK hP hD hS hA rfl hl.1 (Nat.le_of_ble_eq_true rfl) d_G_init_26 (al_g hok)) hP hD hok hK hS hA (fun ad N H locs hext hNN hwf hok1 heN hq9 hP hD hS => ?_)
    have hext0 := al_ext hext hext0 hok
    have hok := hok1
    have hl : lv_has ls 1 [(0, .ref (ad 0 j0))] := by rw [hext 0 j0 hj0]; exact hl
    refine W.eq (g2 := F0 m 29 ls [.ref (ad 2 (mN M8 2)), .ref (ad 0 j0)]) (by rw [hext 2 (mN M8 2) hn11, hext 0 j0 hj0]) ?_
    have hj0 : j0 < N 0 := Nat.lt_of_lt_of_le hj0 (hNN 0)
    have hn11 : (mN M8 2) < N 2 := Nat.lt_of_lt_of_le hn11 (hNN 2)
    obtain ⟨M13, eM13, h⟩ := st_ob h
    refine P_G_4 eM13 hx hb hts hown hK hP hD hwf hS hj0 hn11 hin (hts _ u_697) d_G_init_29 (fun H locs hP hD hwf hS => ?_)
    refine lv_aload_n hx hb d_G_init_32 rfl (lv_at hl 0 rfl) ?_
    obtain ⟨g14, h⟩ := gd_ob h
    obtain ⟨M15, eM15, h⟩ := st_ob h
    refine al_new (k := 2) (fs := [.null, .null, .null, .int 0, .int 0, .int 0, .int 0, .int 0, .int 0, .int 0, .int 0, .int 0, .int 0, .int 0, .int 0, .int 0]) (C := "FilterGuard$Code") (T := F_Code) (Nf := 16) eM15 g14 hx hb hts i_Code t_Code t_Code_ok hown (hts _ u_214) (hts _ u_215) (hts _ u_182) hK hP hD hwf hok hS hA (by decide) rfl (by decide) z_Code rfl rfl rfl d_G_init_33 (fun ad N H hext hNN hn16 hwf hok1 hP hD hS => ?_)
    have hext0 := al_ext hext hext0 hok
    have hok := hok1
    have hl : lv_has ls 1 [(0, .ref (ad 0 j0))] := by rw [hext 0 j0 hj0]; exact hl
    refine W.eq (g2 := F0 m 36 ls [.ref (ad 2 (mN M13 2)), .ref (ad 0 j0)]) (by rw [hext 0 j0 hj0]) ?_
    have hj0 : j0 < N 0 := Nat.lt_of_lt_of_le hj0 (hNN 0)
    refine lv_dup hx hb d_G_init_36 rfl ?_
    obtain ⟨M17, eM17, h⟩ := bd_ob h
    refine al_thenv (M1 := M17) (al_runIN (As := []) (rest := [.ref (ad 2 (mN M13 2)), .ref (ad 0 j0)]) ⟨hx, hb, hml, hown, hts⟩ (c_Code_init l D ad ca N M15 M17 (mN M13 2) eM17 hwf ⟨hok.2.2.1, hok.2.2.2.1⟩ hn16 _) rfl (by show fg_nm y_Code_init 0; decide +kernel) o_216 u_217 u_182 u_218 ⟨Nat.le_of_ble_eq_true rfl, Nat.le_of_ble_eq_true rfl⟩ hX hz hK hP hD hS hA rfl hl.1 (Nat.le_of_ble_eq_true rfl) d_G_init_37 (al_g hok)) hP hD hok hK hS hA (fun ad N H locs hext hNN hwf hok1 heN hq9 hP hD hS => ?_)
    have hext0 := al_ext hext hext0 hok
    have hok := hok1
    have hl : lv_has ls 1 [(0, .ref (ad 0 j0))] := by rw [hext 0 j0 hj0]; exact hl
    refine W.eq (g2 := F0 m 40 ls [.ref (ad 2 (mN M13 2)), .ref (ad 0 j0)]) (by rw [hext 2 (mN M13 2) hn16, hext 0 j0 hj0]) ?_
    have hj0 : j0 < N 0 := Nat.lt_of_lt_of_le hj0 (hNN 0)
    have hn16 : (mN M13 2) < N 2 := Nat.lt_of_lt_of_le hn16 (hNN 2)
    obtain ⟨M18, eM18, h⟩ := st_ob h
    refine P_G_5 eM18 hx hb hts hown hK hP hD hwf hS hj0 hn16 hin (hts _ u_698) d_G_init_40 (fun H locs hP hD hwf hS => ?_)
    refine lv_aload_n hx hb d_G_init_43 rfl (lv_at hl 0 rfl) ?_
    obtain ⟨g19, h⟩ := gd_ob h
    obtain ⟨M20, eM20, h⟩ := st_ob h
    refine al_new (k := 3) (fs := [.null, .null, .null, .null, .null, .null, .null]) (C := "FilterGuard$Facts") (T := F_Facts) (Nf := 7) eM20 g19 hx hb hts i_Facts t_Facts t_Facts_ok hown (hts _ u_312) (hts _ u_313) (hts _ u_183) hK hP hD hwf hok hS hA (by decide) rfl (by decide) z_Facts rfl rfl rfl d_G_init_44 (fun ad N H hext hNN hn21 hwf hok1 hP hD hS => ?_)
    have hext0 := al_ext hext hext0 hok
    have hok := hok1
    have hl : lv_has ls 1 [(0, .ref (ad 0 j0))] := by rw [hext 0 j0 hj0]; exact hl
    refine W.eq (g2 := F0 m 47 ls [.ref (ad 3 (mN M18 3)), .ref (ad 0 j0)]) (by rw [hext 0 j0 hj0]) ?_
    have hj0 : j0 < N 0 := Nat.lt_of_lt_of_le hj0 (hNN 0)
    refine lv_dup hx hb d_G_init_47 rfl ?_
    obtain ⟨M22, eM22, h⟩ := bd_ob h
    refine al_thenv (M1 := M22) (al_runIN (As := []) (rest := [.ref (ad 3 (mN M18 3)), .ref (ad 0 j0)]) ⟨hx, hb, hml, hown, hts⟩ (c_Facts_init l D ad ca N M20 M22 (mN M18 3) eM22 hwf ⟨hok.2.2.1, hok.2.2.2.1⟩ hn21 _) rfl (by show fg_nm y_Facts_init 0; decide +kernel) o_314 u_315 u_183 u_316 ⟨Nat.le_of_ble_eq_true rfl, Nat.le_of_ble_eq_true rfl⟩ hX hz hK hP hD hS hA rfl hl.1 (Nat.le_of_ble_eq_true rfl) d_G_init_48 (al_g hok)) hP hD hok hK hS hA (fun ad N H locs hext hNN hwf hok1 heN hq9 hP hD hS => ?_)
    have hext0 := al_ext hext hext0 hok
    have hok := hok1
    have hl : lv_has ls 1 [(0, .ref (ad 0 j0))] := by rw [hext 0 j0 hj0]; exact hl
    refine W.eq (g2 := F0 m 51 ls [.ref (ad 3 (mN M18 3)), .ref (ad 0 j0)]) (by rw [hext 3 (mN M18 3) hn21, hext 0 j0 hj0]) ?_
    have hj0 : j0 < N 0 := Nat.lt_of_lt_of_le hj0 (hNN 0)
    have hn21 : (mN M18 3) < N 3 := Nat.lt_of_lt_of_le hn21 (hNN 3)
    obtain ⟨M23, eM23, h⟩ := st_ob h
    refine P_G_6 eM23 hx hb hts hown hK hP hD hwf hS hj0 hn21 hin (hts _ u_699) d_G_init_51 (fun H locs hP hD hwf hS => ?_)
    refine lv_aload_n hx hb d_G_init_54 rfl (lv_at hl 0 rfl) ?_
    obtain ⟨g24, h⟩ := gd_ob h
    obtain ⟨M25, eM25, h⟩ := st_ob h
    refine al_new (k := 4) (fs := [.null, .null, .null, .null, .null, .null, .null, .int 0, .null, .int 0, .int 0, .int 0, .int 0, .int 0, .int 0]) (C := "FilterGuard$Explorer") (T := F_Explorer) (Nf := 15) eM25 g24 hx hb hts i_Explorer t_Explorer t_Explorer_ok hown (hts _ u_341) (hts _ u_342) (hts _ u_184) hK hP hD hwf hok hS hA (by decide) rfl (by decide) z_Explorer rfl rfl rfl d_G_init_55 (fun ad N H hext hNN hn26 hwf hok1 hP hD hS => ?_)
    have hext0 := al_ext hext hext0 hok
    have hok := hok1
    have hl : lv_has ls 1 [(0, .ref (ad 0 j0))] := by rw [hext 0 j0 hj0]; exact hl
    refine W.eq (g2 := F0 m 58 ls [.ref (ad 4 (mN M23 4)), .ref (ad 0 j0)]) (by rw [hext 0 j0 hj0]) ?_
    have hj0 : j0 < N 0 := Nat.lt_of_lt_of_le hj0 (hNN 0)
    refine lv_dup hx hb d_G_init_58 rfl ?_
    refine lv_aload_n hx hb d_G_init_59 rfl (lv_at hl 0 rfl) ?_
    refine g_G_4 hx hb hts hown hK hP hwf hj0 (hts _ u_697) d_G_init_60 ?_
    obtain ⟨j27, e28, h⟩ := bd_ob h
    have hj27 : j27 < N 2 := (hwf.2.1 0 j0 4 _ e28 (by decide) hj0)
    refine me_opt (j := j27) e28 ?_
    refine lv_aload_n hx hb d_G_init_63 rfl (lv_at hl 0 rfl) ?_
    refine g_G_2 hx hb hts hown hK hP hwf hj0 (hts _ u_695) d_G_init_64 ?_
    obtain ⟨j29, e30, h⟩ := bd_ob h
    have hj29 : j29 < N 19 := (hwf.2.1 0 j0 2 _ e30 (by decide) hj0)
    refine me_opt (j := j29) e30 ?_
    refine lv_aload_n hx hb d_G_init_67 rfl (lv_at hl 0 rfl) ?_
    refine g_G_6 hx hb hts hown hK hP hwf hj0 (hts _ u_699) d_G_init_68 ?_
    obtain ⟨j31, e32, h⟩ := bd_ob h
    have hj31 : j31 < N 3 := (hwf.2.1 0 j0 6 _ e32 (by decide) hj0)
    refine me_opt (j := j31) e32 ?_
    obtain ⟨M33, eM33, h⟩ := bd_ob h
    refine al_thenv (M1 := M33) (al_runI (As := [.ref (ad 2 j27), .ref (ad 19 j29), .ref (ad 3 j31)]) (rest := [.ref (ad 4 (mN M23 4)), .ref (ad 0 j0)]) ⟨hx, hb, hml, hown, hts⟩ (c_Explorer_init l D ad ca N M25 M33 (mN M23 4) j27 j29 j31 eM33 hwf ⟨hok.2.2.1, hok.2.2.2.1⟩ hn26 hj27 hj29 hj31 _) rfl (by show fg_nm y_Explorer_init 3; decide +kernel) u_343 u_344 u_184 u_345 ⟨Nat.le_of_ble_eq_true rfl, Nat.le_of_ble_eq_true rfl⟩ hX hz hK hP hD hS hA rfl hl.1 (Nat.le_of_ble_eq_true rfl) d_G_init_71 (al_g hok)) hP hD hok hK hS hA (fun ad N H locs hext hNN hwf hok1 heN hq9 hP hD hS => ?_)
    have hext0 := al_ext hext hext0 hok
    have hok := hok1
    have hl : lv_has ls 1 [(0, .ref (ad 0 j0))] := by rw [hext 0 j0 hj0]; exact hl
    refine W.eq (g2 := F0 m 74 ls [.ref (ad 4 (mN M23 4)), .ref (ad 0 j0)]) (by rw [hext 4 (mN M23 4) hn26, hext 0 j0 hj0]) ?_
    have hj0 : j0 < N 0 := Nat.lt_of_lt_of_le hj0 (hNN 0)
    have hn26 : (mN M23 4) < N 4 := Nat.lt_of_lt_of_le hn26 (hNN 4)
    obtain ⟨M34, eM34, h⟩ := st_ob h
    refine P_G_7 eM34 hx hb hts hown hK hP hD hwf hS hj0 hn26 hin (hts _ u_700) d_G_init_74 (fun H locs hP hD hwf hS => ?_)
    refine lv_aload_n hx hb d_G_init_77 rfl (lv_at hl 0 rfl) ?_
    obtain ⟨g35, h⟩ := gd_ob h
    obtain ⟨M36, eM36, h⟩ := st_ob h
    refine al_new (k := 5) (fs := [.null, .null, .null, .null, .null, .null, .null, .null, .int 0, .null, .int 0, .long 0, .int 0, .int 0, .int 0, .int 0, .null, .int 0, .null, .int 0]) (C := "FilterGuard$Machine") (T := F_Machine) (Nf := 20) eM36 g35 hx hb hts i_Machine t_Machine t_Machine_ok hown (hts _ u_596) (hts _ u_597) (hts _ u_190) hK hP hD hwf hok hS hA (by decide) rfl (by decide) z_Machine rfl rfl rfl d_G_init_78 (fun ad N H hext hNN hn37 hwf hok1 hP hD hS => ?_)
    have hext0 := al_ext hext hext0 hok
    have hok := hok1
    have hl : lv_has ls 1 [(0, .ref (ad 0 j0))] := by rw [hext 0 j0 hj0]; exact hl
    refine W.eq (g2 := F0 m 81 ls [.ref (ad 5 (mN M34 5)), .ref (ad 0 j0)]) (by rw [hext 0 j0 hj0]) ?_
    have hj0 : j0 < N 0 := Nat.lt_of_lt_of_le hj0 (hNN 0)
    refine lv_dup hx hb d_G_init_81 rfl ?_
    refine lv_aload_n hx hb d_G_init_82 rfl (lv_at hl 0 rfl) ?_
    refine g_G_4 hx hb hts hown hK hP hwf hj0 (hts _ u_697) d_G_init_83 ?_
    obtain ⟨j38, e39, h⟩ := bd_ob h
    have hj38 : j38 < N 2 := (hwf.2.1 0 j0 4 _ e39 (by decide) hj0)
    refine me_opt (j := j38) e39 ?_
    refine lv_aload_n hx hb d_G_init_86 rfl (lv_at hl 0 rfl) ?_
    refine g_G_5 hx hb hts hown hK hP hwf hj0 (hts _ u_698) d_G_init_87 ?_
    obtain ⟨j40, e41, h⟩ := bd_ob h
    have hj40 : j40 < N 2 := (hwf.2.1 0 j0 5 _ e41 (by decide) hj0)
    refine me_opt (j := j40) e41 ?_
    refine lv_aload_n hx hb d_G_init_90 rfl (lv_at hl 0 rfl) ?_
    refine g_G_2 hx hb hts hown hK hP hwf hj0 (hts _ u_695) d_G_init_91 ?_
    obtain ⟨j42, e43, h⟩ := bd_ob h
    have hj42 : j42 < N 19 := (hwf.2.1 0 j0 2 _ e43 (by decide) hj0)
    refine me_opt (j := j42) e43 ?_
    obtain ⟨M44, eM44, h⟩ := bd_ob h
    refine al_thenv (M1 := M44) (al_runI (As := [.ref (ad 2 j38), .ref (ad 2 j40), .ref (ad 19 j42)]) (rest := [.ref (ad 5 (mN M34 5)), .ref (ad 0 j0)]) ⟨hx, hb, hml, hown, hts⟩ (c_Machine_init l D ad ca N M36 M44 (mN M34 5) j38 j40 j42 eM44 hwf ⟨hok.2.2.1, hok.2.2.2.1⟩ hn37 hj38 hj40 hj42 _) rfl (by show fg_nm y_Machine_init 3; decide +kernel) u_598 u_599 u_190 u_600 ⟨Nat.le_of_ble_eq_true rfl, Nat.le_of_ble_eq_true rfl⟩ hX hz hK hP hD hS hA rfl hl.1 (Nat.le_of_ble_eq_true rfl) d_G_init_94 (al_g hok)) hP hD hok hK hS hA (fun ad N H locs hext hNN hwf hok1 heN hq9 hP hD hS => ?_)
    have hext0 := al_ext hext hext0 hok
    have hok := hok1
    have hl : lv_has ls 1 [(0, .ref (ad 0 j0))] := by rw [hext 0 j0 hj0]; exact hl
    refine W.eq (g2 := F0 m 97 ls [.ref (ad 5 (mN M34 5)), .ref (ad 0 j0)]) (by rw [hext 5 (mN M34 5) hn37, hext 0 j0 hj0]) ?_
    have hj0 : j0 < N 0 := Nat.lt_of_lt_of_le hj0 (hNN 0)
    have hn37 : (mN M34 5) < N 5 := Nat.lt_of_lt_of_le hn37 (hNN 5)
    obtain ⟨M45, eM45, h⟩ := st_ob h
    refine P_G_8 eM45 hx hb hts hown hK hP hD hwf hS hj0 hn37 hin (hts _ u_701) d_G_init_97 (fun H locs hP hD hwf hS => ?_)
    refine lv_aload_n hx hb d_G_init_100 rfl (lv_at hl 0 rfl) ?_
    refine lv_iconst (v := (-1)) hx hb d_G_init_101 (by decide) ?_
    obtain ⟨M46, eM46, h⟩ := st_ob h
    refine p_G_10 eM46 hx hb hts hown hK hP hD hwf hS hj0 (hts _ u_703) d_G_init_102 (fun H locs hP hD hwf hS => ?_)
    exact al_retv h hx hb hr hlocks hwf hok hext0 hP hK hD hS d_G_init_105
  rw [hN9] at hcs
  exact hcs
