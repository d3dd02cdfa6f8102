theorem d_Code_init_0 : decode prog_4_method_1_code 0 = .ok (.aload_n 0, 1) := by decide +kernel
theorem d_Code_init_1 : decode prog_4_method_1_code 1 = .ok (.invokespecial 3, 3) := by decide +kernel
theorem u_219 : Cond.methodLink "FilterGuard$Code" 3 ⟨"java/lang/Object", "<init>", "()V"⟩ ∈ fg_g := fg_in (List.mem_of_getElem? (i := 219) (by decide +kernel)) rfl
theorem u_210 : Cond.instanceMethod ⟨"java/lang/Object", "<init>", "()V"⟩ ∈ fg_g := fg_in (List.mem_of_getElem? (i := 210) (by decide +kernel)) rfl
theorem u_211 : Cond.code ⟨"java/lang/Object", "<init>", "()V"⟩ ⟨#[0xb1]⟩ 1 none ∈ fg_g := fg_in (List.mem_of_getElem? (i := 211) (by decide +kernel)) rfl
theorem d_Code_init_4 : decode prog_4_method_1_code 4 = .ok (.aload_n 0, 1) := by decide +kernel
theorem d_Code_init_5 : decode prog_4_method_1_code 5 = .ok (.sipush 2000, 3) := by decide +kernel
theorem d_Code_init_8 : decode prog_4_method_1_code 8 = .ok (.newarray .long, 2) := by decide +kernel
theorem u_310 : Cond.arrayClass .long ∈ fg_g := fg_in (List.mem_of_getElem? (i := 310) (by decide +kernel)) rfl
theorem d_Code_init_10 : decode prog_4_method_1_code 10 = .ok (.putfield 9, 3) := by decide +kernel
theorem u_220 : Cond.fieldLink "FilterGuard$Code" 9 "FilterGuard$Code" "slots" "[J" ∈ fg_g := fg_in (List.mem_of_getElem? (i := 220) (by decide +kernel)) rfl
theorem P_Code_0 {p : Program} {l : Launch} {e : Env} {R : Room} {s : Jvm.State} {m : MethodId} {args : Array Value} {below : List Frame} {meth : Method} {c : Code} {H : Heap} {locs : List Loc} {cells slots : Nat} {Q : Jvm.State → Prop} {cc : ByteArray} {pc : Nat} {ls : Array Slot} {rest : List Value} {D : va_G} {A : Nat → Prop} {H0 : Heap} {ad : Nat → Nat → Nat} {ca : Nat → ClassId} {M M1 : me_M} {N : Nat → Nat} {index j : Nat} {v : Nat} (he : M1 = wR M 2 j 0 (some v)) (hexec : p.tables.exec = Jvm.exec) (hb : c.code = cc) (hts : ∀ w ∈ fg_g, w.before args s = true) (hown : s.vm.findClass "FilterGuard$Code" = some m.cls) (hK : va_K D classes (me_T ca) s) (hP : va_P D classes (me_W ad ca M) H) (hD : va_D A (me_W ad ca M)) (hwf : me_wf N M) (hS : va_S A H0 H locs) (hj : j < N 2) (hv : v < N 16) (hin2 : meth.name = "<init>") (hlink : (Cond.fieldLink "FilterGuard$Code" index "FilterGuard$Code" "slots" "[J").before args s = true) (hdg : decode cc pc = .ok (.putfield index, 3)) (kk : ∀ (H1 : Heap) (locs1 : List Loc), va_P D classes (me_W ad ca M1) H1 → va_D A (me_W ad ca M1) → me_wf N M1 → va_S A H0 H1 locs1 → W p l e R s m args below meth c H1 locs1 cells slots Q (F0 m (pc + 3) ls rest)) : W p l e R s m args below meth c H locs cells slots Q (F0 m pc ls (.ref (ad 16 v) :: .ref (ad 2 j) :: rest)) := by
  subst he
  exact me_putF (M1 := wR M 2 j 0 (some v)) (k := 2) (f := 0) (C := "FilterGuard$Code") (T := F_Code) (Nf := 16) hexec hb hts i_Code t_Code t_Code_ok n_Code hown hK hP hD hwf hS hj (by decide) rfl (by decide) (by decide) hlink (fun _ h9 => h9) rfl hin2 rfl rfl rfl rfl (fun a b h => me_wRE h) (me_fRw (v := some v) (by decide) (by decide)) hdg (fun H1 locs1 a1 a2 a3 => kk H1 locs1 a1 a2 (me_wfR hwf (fun t z => by cases z; exact hv)) a3)
theorem d_Code_init_13 : decode prog_4_method_1_code 13 = .ok (.aload_n 0, 1) := by decide +kernel
theorem d_Code_init_14 : decode prog_4_method_1_code 14 = .ok (.sipush 2000, 3) := by decide +kernel
theorem d_Code_init_17 : decode prog_4_method_1_code 17 = .ok (.newarray .boolean, 2) := by decide +kernel
theorem u_311 : Cond.arrayClass .boolean ∈ fg_g := fg_in (List.mem_of_getElem? (i := 311) (by decide +kernel)) rfl
theorem d_Code_init_19 : decode prog_4_method_1_code 19 = .ok (.putfield 15, 3) := by decide +kernel
theorem u_223 : Cond.fieldLink "FilterGuard$Code" 15 "FilterGuard$Code" "isSecond" "[Z" ∈ fg_g := fg_in (List.mem_of_getElem? (i := 223) (by decide +kernel)) rfl
theorem P_Code_1 {p : Program} {l : Launch} {e : Env} {R : Room} {s : Jvm.State} {m : MethodId} {args : Array Value} {below : List Frame} {meth : Method} {c : Code} {H : Heap} {locs : List Loc} {cells slots : Nat} {Q : Jvm.State → Prop} {cc : ByteArray} {pc : Nat} {ls : Array Slot} {rest : List Value} {D : va_G} {A : Nat → Prop} {H0 : Heap} {ad : Nat → Nat → Nat} {ca : Nat → ClassId} {M M1 : me_M} {N : Nat → Nat} {index j : Nat} {v : Nat} (he : M1 = wR M 2 j 1 (some v)) (hexec : p.tables.exec = Jvm.exec) (hb : c.code = cc) (hts : ∀ w ∈ fg_g, w.before args s = true) (hown : s.vm.findClass "FilterGuard$Code" = some m.cls) (hK : va_K D classes (me_T ca) s) (hP : va_P D classes (me_W ad ca M) H) (hD : va_D A (me_W ad ca M)) (hwf : me_wf N M) (hS : va_S A H0 H locs) (hj : j < N 2) (hv : v < N 15) (hin2 : meth.name = "<init>") (hlink : (Cond.fieldLink "FilterGuard$Code" index "FilterGuard$Code" "isSecond" "[Z").before args s = true) (hdg : decode cc pc = .ok (.putfield index, 3)) (kk : ∀ (H1 : Heap) (locs1 : List Loc), va_P D classes (me_W ad ca M1) H1 → va_D A (me_W ad ca M1) → me_wf N M1 → va_S A H0 H1 locs1 → W p l e R s m args below meth c H1 locs1 cells slots Q (F0 m (pc + 3) ls rest)) : W p l e R s m args below meth c H locs cells slots Q (F0 m pc ls (.ref (ad 15 v) :: .ref (ad 2 j) :: rest)) := by
  subst he
  exact me_putF (M1 := wR M 2 j 1 (some v)) (k := 2) (f := 1) (C := "FilterGuard$Code") (T := F_Code) (Nf := 16) hexec hb hts i_Code t_Code t_Code_ok n_Code hown hK hP hD hwf hS hj (by decide) rfl (by decide) (by decide) hlink (fun _ h9 => h9) rfl hin2 rfl rfl rfl rfl (fun a b h => me_wRE h) (me_fRw (v := some v) (by decide) (by decide)) hdg (fun H1 locs1 a1 a2 a3 => kk H1 locs1 a1 a2 (me_wfR hwf (fun t z => by cases z; exact hv)) a3)
theorem d_Code_init_22 : decode prog_4_method_1_code 22 = .ok (.aload_n 0, 1) := by decide +kernel
theorem d_Code_init_23 : decode prog_4_method_1_code 23 = .ok (.sipush 2000, 3) := by decide +kernel
theorem d_Code_init_26 : decode prog_4_method_1_code 26 = .ok (.newarray .boolean, 2) := by decide +kernel
theorem d_Code_init_28 : decode prog_4_method_1_code 28 = .ok (.putfield 19, 3) := by decide +kernel
theorem u_225 : Cond.fieldLink "FilterGuard$Code" 19 "FilterGuard$Code" "isMark" "[Z" ∈ fg_g := fg_in (List.mem_of_getElem? (i := 225) (by decide +kernel)) rfl
theorem P_Code_2 {p : Program} {l : Launch} {e : Env} {R : Room} {s : Jvm.State} {m : MethodId} {args : Array Value} {below : List Frame} {meth : Method} {c : Code} {H : Heap} {locs : List Loc} {cells slots : Nat} {Q : Jvm.State → Prop} {cc : ByteArray} {pc : Nat} {ls : Array Slot} {rest : List Value} {D : va_G} {A : Nat → Prop} {H0 : Heap} {ad : Nat → Nat → Nat} {ca : Nat → ClassId} {M M1 : me_M} {N : Nat → Nat} {index j : Nat} {v : Nat} (he : M1 = wR M 2 j 2 (some v)) (hexec : p.tables.exec = Jvm.exec) (hb : c.code = cc) (hts : ∀ w ∈ fg_g, w.before args s = true) (hown : s.vm.findClass "FilterGuard$Code" = some m.cls) (hK : va_K D classes (me_T ca) s) (hP : va_P D classes (me_W ad ca M) H) (hD : va_D A (me_W ad ca M)) (hwf : me_wf N M) (hS : va_S A H0 H locs) (hj : j < N 2) (hv : v < N 15) (hin2 : meth.name = "<init>") (hlink : (Cond.fieldLink "FilterGuard$Code" index "FilterGuard$Code" "isMark" "[Z").before args s = true) (hdg : decode cc pc = .ok (.putfield index, 3)) (kk : ∀ (H1 : Heap) (locs1 : List Loc), va_P D classes (me_W ad ca M1) H1 → va_D A (me_W ad ca M1) → me_wf N M1 → va_S A H0 H1 locs1 → W p l e R s m args below meth c H1 locs1 cells slots Q (F0 m (pc + 3) ls rest)) : W p l e R s m args below meth c H locs cells slots Q (F0 m pc ls (.ref (ad 15 v) :: .ref (ad 2 j) :: rest)) := by
  subst he
  exact me_putF (M1 := wR M 2 j 2 (some v)) (k := 2) (f := 2) (C := "FilterGuard$Code") (T := F_Code) (Nf := 16) hexec hb hts i_Code t_Code t_Code_ok n_Code hown hK hP hD hwf hS hj (by decide) rfl (by decide) (by decide) hlink (fun _ h9 => h9) rfl hin2 rfl rfl rfl rfl (fun a b h => me_wRE h) (me_fRw (v := some v) (by decide) (by decide)) hdg (fun H1 locs1 a1 a2 a3 => kk H1 locs1 a1 a2 (me_wfR hwf (fun t z => by cases z; exact hv)) a3)
theorem d_Code_init_31 : decode prog_4_method_1_code 31 = .ok (.return_, 1) := by decide +kernel
abbrev y_Code_init : MethodName := ⟨"FilterGuard$Code", "<init>", "()V"⟩
def rm_Code_init (N0 : Nat → Nat) : Room := { frames := 1, cells := me_CL - me_cN N0, slots := me_SL - me_sN N0, locals := 30 }
abbrev q_Code_init (D : va_G) (ad0 : Nat → Nat → Nat) (ca : Nat → ClassId) (N0 : Nat → Nat) (MZ : me_M) (A : Nat → Prop) : Array Value → Jvm.State → Outcome → Jvm.State → Prop := va_Qv (fun (u : Nat → Nat → Nat) => al_P ad0 N0 MZ u ∧ True) (fg_B D A (fun u => me_W u ca MZ) (fun _ => [])) A
set_option maxHeartbeats 4000000 in
set_option maxRecDepth 100000 in
theorem c_Code_init (l : Launch) (D : va_G) (ad0 : Nat → Nat → Nat) (ca : Nat → ClassId) (N0 : Nat → Nat) (M0 MZ : me_M) (j0 : Nat) (h : f_Code_init M0 j0 = (some MZ)) (hwf : me_wf N0 M0) (hcl : me_cN N0 ≤ me_CL ∧ me_sN N0 ≤ me_SL) (hj0 : j0 < N0 2) (sz : Nat) : Met l y_Code_init (fg_w y_Code_init prog_4_method_1_code 1 none) (rm_Code_init N0) (va_Pc [.ref (ad0 2 j0)] (fz_P D (me_T ca) (me_W ad0 ca M0) sz)) (q_Code_init D ad0 ca N0 MZ (va_A (me_W ad0 ca M0) sz)) (me_cN (mN MZ) - me_cN N0) (me_sN (mN MZ) - me_sN N0) (va_A (me_W ad0 ca M0) sz) := by
  refine fz_enter (fun A => q_Code_init D ad0 ca N0 MZ A) (by decide +kernel) (Nat.le_of_ble_eq_true rfl) ?_
  intro p e s m below meth c ls A hx hb hml hown hts hr hlocks hin hP hK hD hS hA hX hl hz
  refine W.widen (k := me_cN N0 - me_cN N0) (n := me_sN N0 - me_sN N0) (Nat.zero_le _) (Nat.zero_le _) ?_
  unfold f_Code_init at h
  have hok : me_ok N0 N0 := me_ok.rf hcl
  obtain ⟨ad, N, hext0, hok, hwf, hP, hD, hN9, had9, hj0⟩ : ∃ (ad : Nat → Nat → Nat) (N : Nat → Nat), (∀ a b, b < N0 a → ad a b = ad0 a b) ∧ me_ok N0 N ∧ me_wf N M0 ∧ va_P D classes (me_W ad ca M0) s.heap ∧ va_D A (me_W ad ca M0) ∧ N = N0 ∧ ad = ad0 ∧ j0 < N 2 := ⟨ad0, N0, fun _ _ _ => rfl, hok, hwf, hP, hD, rfl, rfl, hj0⟩
  have hl : lv_has ls 1 [(0, .ref (ad 2 j0))] := by rw [had9]; exact hl
  have hcs : W p l e (rm_Code_init N0) s m [.ref (ad0 2 j0)].toArray below meth c s.heap [] (me_cN N - me_cN N0) (me_sN N - me_sN N0) (MQ below (q_Code_init D ad0 ca N0 MZ A) [.ref (ad0 2 j0)].toArray s (me_cN (mN MZ) - me_cN N0) (me_sN (mN MZ) - me_sN N0) A) (F0 m 0 ls []) := by
    clear had9
    refine lv_aload_n hx hb d_Code_init_0 rfl (lv_at hl 0 rfl) ?_
    refine W.objInit hx hb hown (hts _ u_219) (hts _ u_210) (hts _ u_211) rfl (by rw [hml]; exact hl.1) rfl d_Code_init_1 (Nat.le_of_ble_eq_true rfl) (Nat.le_of_ble_eq_true rfl) ?_
    refine W.eq (g2 := F0 m 4 ls []) rfl ?_
    refine lv_aload_n hx hb d_Code_init_4 rfl (lv_at hl 0 rfl) ?_
    refine lv_sipush (v := 2000) hx hb d_Code_init_5 (by decide) ?_
    obtain ⟨g1, h⟩ := gd_ob h
    obtain ⟨M2, eM2, h⟩ := st_ob h
    refine al_newa (k := 16) (atype := .long) (a0 := ((2000 : Int32).toNatClampNeg, .inr (.inl (fun _ => 0)))) eM2 g1 hx hb (hts _ u_310) rfl hK hP hD hwf hok hS hA (by decide) (by decide) rfl (fun _ _ h9 => h9) (by decide) (fun _ => rfl) (fun ad1 => by rw [eM2]; exact al_ar16) rfl rfl d_Code_init_8 (fun ad N H hext hNN hn3 hwf hok1 hP hD hS => ?_)
    have hext0 := al_ext hext hext0 hok
    have hok := hok1
    have hl : lv_has ls 1 [(0, .ref (ad 2 j0))] := by rw [hext 2 j0 hj0]; exact hl
    refine W.eq (g2 := F0 m 10 ls [.ref (ad 16 (mN M0 16)), .ref (ad 2 j0)]) (by rw [hext 2 j0 hj0]) ?_
    have hj0 : j0 < N 2 := Nat.lt_of_lt_of_le hj0 (hNN 2)
    obtain ⟨M4, eM4, h⟩ := st_ob h
    refine P_Code_0 eM4 hx hb hts hown hK hP hD hwf hS hj0 hn3 hin (hts _ u_220) d_Code_init_10 (fun H locs hP hD hwf hS => ?_)
    refine lv_aload_n hx hb d_Code_init_13 rfl (lv_at hl 0 rfl) ?_
    refine lv_sipush (v := 2000) hx hb d_Code_init_14 (by decide) ?_
    obtain ⟨g5, h⟩ := gd_ob h
    obtain ⟨M6, eM6, h⟩ := st_ob h
    refine al_newa (k := 15) (atype := .boolean) (a0 := ((2000 : Int32).toNatClampNeg, .inl (fun _ => 0))) eM6 g5 hx hb (hts _ u_311) rfl hK hP hD hwf hok hS hA (by decide) (by decide) rfl (fun _ _ h9 => h9) (by decide) (fun _ => rfl) (fun ad1 => by rw [eM6]; exact al_ar15) rfl rfl d_Code_init_17 (fun ad N H hext hNN hn7 hwf hok1 hP hD hS => ?_)
    have hext0 := al_ext hext hext0 hok
    have hok := hok1
    have hl : lv_has ls 1 [(0, .ref (ad 2 j0))] := by rw [hext 2 j0 hj0]; exact hl
    refine W.eq (g2 := F0 m 19 ls [.ref (ad 15 (mN M4 15)), .ref (ad 2 j0)]) (by rw [hext 2 j0 hj0]) ?_
    have hj0 : j0 < N 2 := Nat.lt_of_lt_of_le hj0 (hNN 2)
    obtain ⟨M8, eM8, h⟩ := st_ob h
    refine P_Code_1 eM8 hx hb hts hown hK hP hD hwf hS hj0 hn7 hin (hts _ u_223) d_Code_init_19 (fun H locs hP hD hwf hS => ?_)
    refine lv_aload_n hx hb d_Code_init_22 rfl (lv_at hl 0 rfl) ?_
    refine lv_sipush (v := 2000) hx hb d_Code_init_23 (by decide) ?_
    obtain ⟨g9, h⟩ := gd_ob h
    obtain ⟨M10, eM10, h⟩ := st_ob h
    refine al_newa (k := 15) (atype := .boolean) (a0 := ((2000 : Int32).toNatClampNeg, .inl (fun _ => 0))) eM10 g9 hx hb (hts _ u_311) rfl hK hP hD hwf hok hS hA (by decide) (by decide) rfl (fun _ _ h9 => h9) (by decide) (fun _ => rfl) (fun ad1 => by rw [eM10]; exact al_ar15) rfl rfl d_Code_init_26 (fun ad N H hext hNN hn11 hwf hok1 hP hD hS => ?_)
    have hext0 := al_ext hext hext0 hok
    have hok := hok1
    have hl : lv_has ls 1 [(0, .ref (ad 2 j0))] := by rw [hext 2 j0 hj0]; exact hl
    refine W.eq (g2 := F0 m 28 ls [.ref (ad 15 (mN M8 15)), .ref (ad 2 j0)]) (by rw [hext 2 j0 hj0]) ?_
    have hj0 : j0 < N 2 := Nat.lt_of_lt_of_le hj0 (hNN 2)
    obtain ⟨M12, eM12, h⟩ := st_ob h
    refine P_Code_2 eM12 hx hb hts hown hK hP hD hwf hS hj0 hn11 hin (hts _ u_225) d_Code_init_28 (fun H locs hP hD hwf hS => ?_)
    exact al_retv h hx hb hr hlocks hwf hok hext0 hP hK hD hS d_Code_init_31
  rw [hN9] at hcs
  exact hcs
theorem d_Facts_init_0 : decode prog_6_method_1_code 0 = .ok (.aload_n 0, 1) := by decide +kernel
theorem d_Facts_init_1 : decode prog_6_method_1_code 1 = .ok (.invokespecial 3, 3) := by decide +kernel
theorem u_317 : Cond.methodLink "FilterGuard$Facts" 3 ⟨"java/lang/Object", "<init>", "()V"⟩ ∈ fg_g := fg_in (List.mem_of_getElem? (i := 317) (by decide +kernel)) rfl
theorem d_Facts_init_4 : decode prog_6_method_1_code 4 = .ok (.aload_n 0, 1) := by decide +kernel
theorem d_Facts_init_5 : decode prog_6_method_1_code 5 = .ok (.sipush 2000, 3) := by decide +kernel
theorem d_Facts_init_8 : decode prog_6_method_1_code 8 = .ok (.newarray .int, 2) := by decide +kernel
theorem u_340 : Cond.arrayClass .int ∈ fg_g := fg_in (List.mem_of_getElem? (i := 340) (by decide +kernel)) rfl
theorem d_Facts_init_10 : decode prog_6_method_1_code 10 = .ok (.putfield 9, 3) := by decide +kernel
theorem u_318 : Cond.fieldLink "FilterGuard$Facts" 9 "FilterGuard$Facts" "visits" "[I" ∈ fg_g := fg_in (List.mem_of_getElem? (i := 318) (by decide +kernel)) rfl
theorem P_Facts_0 {p : Program} {l : Launch} {e : Env} {R : Room} {s : Jvm.State} {m : MethodId} {args : Array Value} {below : List Frame} {meth : Method} {c : Code} {H : Heap} {locs : List Loc} {cells slots : Nat} {Q : Jvm.State → Prop} {cc : ByteArray} {pc : Nat} {ls : Array Slot} {rest : List Value} {D : va_G} {A : Nat → Prop} {H0 : Heap} {ad : Nat → Nat → Nat} {ca : Nat → ClassId} {M M1 : me_M} {N : Nat → Nat} {index j : Nat} {v : Nat} (he : M1 = wR M 3 j 0 (some v)) (hexec : p.tables.exec = Jvm.exec) (hb : c.code = cc) (hts : ∀ w ∈ fg_g, w.before args s = true) (hown : s.vm.findClass "FilterGuard$Facts" = some m.cls) (hK : va_K D classes (me_T ca) s) (hP : va_P D classes (me_W ad ca M) H) (hD : va_D A (me_W ad ca M)) (hwf : me_wf N M) (hS : va_S A H0 H locs) (hj : j < N 3) (hv : v < N 13) (hin2 : meth.name = "<init>") (hlink : (Cond.fieldLink "FilterGuard$Facts" index "FilterGuard$Facts" "visits" "[I").before args s = true) (hdg : decode cc pc = .ok (.putfield index, 3)) (kk : ∀ (H1 : Heap) (locs1 : List Loc), va_P D classes (me_W ad ca M1) H1 → va_D A (me_W ad ca M1) → me_wf N M1 → va_S A H0 H1 locs1 → W p l e R s m args below meth c H1 locs1 cells slots Q (F0 m (pc + 3) ls rest)) : W p l e R s m args below meth c H locs cells slots Q (F0 m pc ls (.ref (ad 13 v) :: .ref (ad 3 j) :: rest)) := by
  subst he
  exact me_putF (M1 := wR M 3 j 0 (some v)) (k := 3) (f := 0) (C := "FilterGuard$Facts") (T := F_Facts) (Nf := 7) hexec hb hts i_Facts t_Facts t_Facts_ok n_Facts hown hK hP hD hwf hS hj (by decide) rfl (by decide) (by decide) hlink (fun _ h9 => h9) rfl hin2 rfl rfl rfl rfl (fun a b h => me_wRE h) (me_fRw (v := some v) (by decide) (by decide)) hdg (fun H1 locs1 a1 a2 a3 => kk H1 locs1 a1 a2 (me_wfR hwf (fun t z => by cases z; exact hv)) a3)
theorem d_Facts_init_13 : decode prog_6_method_1_code 13 = .ok (.aload_n 0, 1) := by decide +kernel
theorem d_Facts_init_14 : decode prog_6_method_1_code 14 = .ok (.sipush 2000, 3) := by decide +kernel
theorem d_Facts_init_17 : decode prog_6_method_1_code 17 = .ok (.newarray .boolean, 2) := by decide +kernel
theorem d_Facts_init_19 : decode prog_6_method_1_code 19 = .ok (.putfield 15, 3) := by decide +kernel
theorem u_319 : Cond.fieldLink "FilterGuard$Facts" 15 "FilterGuard$Facts" "went" "[Z" ∈ fg_g := fg_in (List.mem_of_getElem? (i := 319) (by decide +kernel)) rfl
theorem P_Facts_1 {p : Program} {l : Launch} {e : Env} {R : Room} {s : Jvm.State} {m : MethodId} {args : Array Value} {below : List Frame} {meth : Method} {c : Code} {H : Heap} {locs : List Loc} {cells slots : Nat} {Q : Jvm.State → Prop} {cc : ByteArray} {pc : Nat} {ls : Array Slot} {rest : List Value} {D : va_G} {A : Nat → Prop} {H0 : Heap} {ad : Nat → Nat → Nat} {ca : Nat → ClassId} {M M1 : me_M} {N : Nat → Nat} {index j : Nat} {v : Nat} (he : M1 = wR M 3 j 1 (some v)) (hexec : p.tables.exec = Jvm.exec) (hb : c.code = cc) (hts : ∀ w ∈ fg_g, w.before args s = true) (hown : s.vm.findClass "FilterGuard$Facts" = some m.cls) (hK : va_K D classes (me_T ca) s) (hP : va_P D classes (me_W ad ca M) H) (hD : va_D A (me_W ad ca M)) (hwf : me_wf N M) (hS : va_S A H0 H locs) (hj : j < N 3) (hv : v < N 15) (hin2 : meth.name = "<init>") (hlink : (Cond.fieldLink "FilterGuard$Facts" index "FilterGuard$Facts" "went" "[Z").before args s = true) (hdg : decode cc pc = .ok (.putfield index, 3)) (kk : ∀ (H1 : Heap) (locs1 : List Loc), va_P D classes (me_W ad ca M1) H1 → va_D A (me_W ad ca M1) → me_wf N M1 → va_S A H0 H1 locs1 → W p l e R s m args below meth c H1 locs1 cells slots Q (F0 m (pc + 3) ls rest)) : W p l e R s m args below meth c H locs cells slots Q (F0 m pc ls (.ref (ad 15 v) :: .ref (ad 3 j) :: rest)) := by
  subst he
  exact me_putF (M1 := wR M 3 j 1 (some v)) (k := 3) (f := 1) (C := "FilterGuard$Facts") (T := F_Facts) (Nf := 7) hexec hb hts i_Facts t_Facts t_Facts_ok n_Facts hown hK hP hD hwf hS hj (by decide) rfl (by decide) (by decide) hlink (fun _ h9 => h9) rfl hin2 rfl rfl rfl rfl (fun a b h => me_wRE h) (me_fRw (v := some v) (by decide) (by decide)) hdg (fun H1 locs1 a1 a2 a3 => kk H1 locs1 a1 a2 (me_wfR hwf (fun t z => by cases z; exact hv)) a3)
theorem d_Facts_init_22 : decode prog_6_method_1_code 22 = .ok (.aload_n 0, 1) := by decide +kernel
theorem d_Facts_init_23 : decode prog_6_method_1_code 23 = .ok (.sipush 2000, 3) := by decide +kernel
theorem d_Facts_init_26 : decode prog_6_method_1_code 26 = .ok (.newarray .boolean, 2) := by decide +kernel
theorem d_Facts_init_28 : decode prog_6_method_1_code 28 = .ok (.putfield 19, 3) := by decide +kernel
theorem u_320 : Cond.fieldLink "FilterGuard$Facts" 19 "FilterGuard$Facts" "fell" "[Z" ∈ fg_g := fg_in (List.mem_of_getElem? (i := 320) (by decide +kernel)) rfl
theorem P_Facts_2 {p : Program} {l : Launch} {e : Env} {R : Room} {s : Jvm.State} {m : MethodId} {args : Array Value} {below : List Frame} {meth : Method} {c : Code} {H : Heap} {locs : List Loc} {cells slots : Nat} {Q : Jvm.State → Prop} {cc : ByteArray} {pc : Nat} {ls : Array Slot} {rest : List Value} {D : va_G} {A : Nat → Prop} {H0 : Heap} {ad : Nat → Nat → Nat} {ca : Nat → ClassId} {M M1 : me_M} {N : Nat → Nat} {index j : Nat} {v : Nat} (he : M1 = wR M 3 j 2 (some v)) (hexec : p.tables.exec = Jvm.exec) (hb : c.code = cc) (hts : ∀ w ∈ fg_g, w.before args s = true) (hown : s.vm.findClass "FilterGuard$Facts" = some m.cls) (hK : va_K D classes (me_T ca) s) (hP : va_P D classes (me_W ad ca M) H) (hD : va_D A (me_W ad ca M)) (hwf : me_wf N M) (hS : va_S A H0 H locs) (hj : j < N 3) (hv : v < N 15) (hin2 : meth.name = "<init>") (hlink : (Cond.fieldLink "FilterGuard$Facts" index "FilterGuard$Facts" "fell" "[Z").before args s = true) (hdg : decode cc pc = .ok (.putfield index, 3)) (kk : ∀ (H1 : Heap) (locs1 : List Loc), va_P D classes (me_W ad ca M1) H1 → va_D A (me_W ad ca M1) → me_wf N M1 → va_S A H0 H1 locs1 → W p l e R s m args below meth c H1 locs1 cells slots Q (F0 m (pc + 3) ls rest)) : W p l e R s m args below meth c H locs cells slots Q (F0 m pc ls (.ref (ad 15 v) :: .ref (ad 3 j) :: rest)) := by
  subst he
  exact me_putF (M1 := wR M 3 j 2 (some v)) (k := 3) (f := 2) (C := "FilterGuard$Facts") (T := F_Facts) (Nf := 7) hexec hb hts i_Facts t_Facts t_Facts_ok n_Facts hown hK hP hD hwf hS hj (by decide) rfl (by decide) (by decide) hlink (fun _ h9 => h9) rfl hin2 rfl rfl rfl rfl (fun a b h => me_wRE h) (me_fRw (v := some v) (by decide) (by decide)) hdg (fun H1 locs1 a1 a2 a3 => kk H1 locs1 a1 a2 (me_wfR hwf (fun t z => by cases z; exact hv)) a3)
theorem d_Facts_init_31 : decode prog_6_method_1_code 31 = .ok (.aload_n 0, 1) := by decide +kernel
theorem d_Facts_init_32 : decode prog_6_method_1_code 32 = .ok (.sipush 2000, 3) := by decide +kernel
theorem d_Facts_init_35 : decode prog_6_method_1_code 35 = .ok (.newarray .int, 2) := by decide +kernel
theorem d_Facts_init_37 : decode prog_6_method_1_code 37 = .ok (.putfield 22, 3) := by decide +kernel
theorem u_321 : Cond.fieldLink "FilterGuard$Facts" 22 "FilterGuard$Facts" "exactness" "[I" ∈ fg_g := fg_in (List.mem_of_getElem? (i := 321) (by decide +kernel)) rfl
theorem P_Facts_3 {p : Program} {l : Launch} {e : Env} {R : Room} {s : Jvm.State} {m : MethodId} {args : Array Value} {below : List Frame} {meth : Method} {c : Code} {H : Heap} {locs : List Loc} {cells slots : Nat} {Q : Jvm.State → Prop} {cc : ByteArray} {pc : Nat} {ls : Array Slot} {rest : List Value} {D : va_G} {A : Nat → Prop} {H0 : Heap} {ad : Nat → Nat → Nat} {ca : Nat → ClassId} {M M1 : me_M} {N : Nat → Nat} {index j : Nat} {v : Nat} (he : M1 = wR M 3 j 3 (some v)) (hexec : p.tables.exec = Jvm.exec) (hb : c.code = cc) (hts : ∀ w ∈ fg_g, w.before args s = true) (hown : s.vm.findClass "FilterGuard$Facts" = some m.cls) (hK : va_K D classes (me_T ca) s) (hP : va_P D classes (me_W ad ca M) H) (hD : va_D A (me_W ad ca M)) (hwf : me_wf N M) (hS : va_S A H0 H locs) (hj : j < N 3) (hv : v < N 13) (hin2 : meth.name = "<init>") (hlink : (Cond.fieldLink "FilterGuard$Facts" index "FilterGuard$Facts" "exactness" "[I").before args s = true) (hdg : decode cc pc = .ok (.putfield index, 3)) (kk : ∀ (H1 : Heap) (locs1 : List Loc), va_P D classes (me_W ad ca M1) H1 → va_D A (me_W ad ca M1) → me_wf N M1 → va_S A H0 H1 locs1 → W p l e R s m args below meth c H1 locs1 cells slots Q (F0 m (pc + 3) ls rest)) : W p l e R s m args below meth c H locs cells slots Q (F0 m pc ls (.ref (ad 13 v) :: .ref (ad 3 j) :: rest)) := by
  subst he
  exact me_putF (M1 := wR M 3 j 3 (some v)) (k := 3) (f := 3) (C := "FilterGuard$Facts") (T := F_Facts) (Nf := 7) hexec hb hts i_Facts t_Facts t_Facts_ok n_Facts hown hK hP hD hwf hS hj (by decide) rfl (by decide) (by decide) hlink (fun _ h9 => h9) rfl hin2 rfl rfl rfl rfl (fun a b h => me_wRE h) (me_fRw (v := some v) (by decide) (by decide)) hdg (fun H1 locs1 a1 a2 a3 => kk H1 locs1 a1 a2 (me_wfR hwf (fun t z => by cases z; exact hv)) a3)
theorem d_Facts_init_40 : decode prog_6_method_1_code 40 = .ok (.aload_n 0, 1) := by decide +kernel
theorem d_Facts_init_41 : decode prog_6_method_1_code 41 = .ok (.sipush 2000, 3) := by decide +kernel
theorem d_Facts_init_44 : decode prog_6_method_1_code 44 = .ok (.newarray .long, 2) := by decide +kernel
theorem d_Facts_init_46 : decode prog_6_method_1_code 46 = .ok (.putfield 25, 3) := by decide +kernel
theorem u_322 : Cond.fieldLink "FilterGuard$Facts" 25 "FilterGuard$Facts" "exactNumber" "[J" ∈ fg_g := fg_in (List.mem_of_getElem? (i := 322) (by decide +kernel)) rfl
theorem P_Facts_4 {p : Program} {l : Launch} {e : Env} {R : Room} {s : Jvm.State} {m : MethodId} {args : Array Value} {below : List Frame} {meth : Method} {c : Code} {H : Heap} {locs : List Loc} {cells slots : Nat} {Q : Jvm.State → Prop} {cc : ByteArray} {pc : Nat} {ls : Array Slot} {rest : List Value} {D : va_G} {A : Nat → Prop} {H0 : Heap} {ad : Nat → Nat → Nat} {ca : Nat → ClassId} {M M1 : me_M} {N : Nat → Nat} {index j : Nat} {v : Nat} (he : M1 = wR M 3 j 4 (some v)) (hexec : p.tables.exec = Jvm.exec) (hb : c.code = cc) (hts : ∀ w ∈ fg_g, w.before args s = true) (hown : s.vm.findClass "FilterGuard$Facts" = some m.cls) (hK : va_K D classes (me_T ca) s) (hP : va_P D classes (me_W ad ca M) H) (hD : va_D A (me_W ad ca M)) (hwf : me_wf N M) (hS : va_S A H0 H locs) (hj : j < N 3) (hv : v < N 16) (hin2 : meth.name = "<init>") (hlink : (Cond.fieldLink "FilterGuard$Facts" index "FilterGuard$Facts" "exactNumber" "[J").before args s = true) (hdg : decode cc pc = .ok (.putfield index, 3)) (kk : ∀ (H1 : Heap) (locs1 : List Loc), va_P D classes (me_W ad ca M1) H1 → va_D A (me_W ad ca M1) → me_wf N M1 → va_S A H0 H1 locs1 → W p l e R s m args below meth c H1 locs1 cells slots Q (F0 m (pc + 3) ls rest)) : W p l e R s m args below meth c H locs cells slots Q (F0 m pc ls (.ref (ad 16 v) :: .ref (ad 3 j) :: rest)) := by
  subst he
  exact me_putF (M1 := wR M 3 j 4 (some v)) (k := 3) (f := 4) (C := "FilterGuard$Facts") (T := F_Facts) (Nf := 7) hexec hb hts i_Facts t_Facts t_Facts_ok n_Facts hown hK hP hD hwf hS hj (by decide) rfl (by decide) (by decide) hlink (fun _ h9 => h9) rfl hin2 rfl rfl rfl rfl (fun a b h => me_wRE h) (me_fRw (v := some v) (by decide) (by decide)) hdg (fun H1 locs1 a1 a2 a3 => kk H1 locs1 a1 a2 (me_wfR hwf (fun t z => by cases z; exact hv)) a3)
theorem d_Facts_init_49 : decode prog_6_method_1_code 49 = .ok (.aload_n 0, 1) := by decide +kernel
theorem d_Facts_init_50 : decode prog_6_method_1_code 50 = .ok (.sipush 2000, 3) := by decide +kernel
theorem d_Facts_init_53 : decode prog_6_method_1_code 53 = .ok (.newarray .boolean, 2) := by decide +kernel
theorem d_Facts_init_55 : decode prog_6_method_1_code 55 = .ok (.putfield 29, 3) := by decide +kernel
theorem u_323 : Cond.fieldLink "FilterGuard$Facts" 29 "FilterGuard$Facts" "stays" "[Z" ∈ fg_g := fg_in (List.mem_of_getElem? (i := 323) (by decide +kernel)) rfl
theorem P_Facts_5 {p : Program} {l : Launch} {e : Env} {R : Room} {s : Jvm.State} {m : MethodId} {args : Array Value} {below : List Frame} {meth : Method} {c : Code} {H : Heap} {locs : List Loc} {cells slots : Nat} {Q : Jvm.State → Prop} {cc : ByteArray} {pc : Nat} {ls : Array Slot} {rest : List Value} {D : va_G} {A : Nat → Prop} {H0 : Heap} {ad : Nat → Nat → Nat} {ca : Nat → ClassId} {M M1 : me_M} {N : Nat → Nat} {index j : Nat} {v : Nat} (he : M1 = wR M 3 j 5 (some v)) (hexec : p.tables.exec = Jvm.exec) (hb : c.code = cc) (hts : ∀ w ∈ fg_g, w.before args s = true) (hown : s.vm.findClass "FilterGuard$Facts" = some m.cls) (hK : va_K D classes (me_T ca) s) (hP : va_P D classes (me_W ad ca M) H) (hD : va_D A (me_W ad ca M)) (hwf : me_wf N M) (hS : va_S A H0 H locs) (hj : j < N 3) (hv : v < N 15) (hin2 : meth.name = "<init>") (hlink : (Cond.fieldLink "FilterGuard$Facts" index "FilterGuard$Facts" "stays" "[Z").before args s = true) (hdg : decode cc pc = .ok (.putfield index, 3)) (kk : ∀ (H1 : Heap) (locs1 : List Loc), va_P D classes (me_W ad ca M1) H1 → va_D A (me_W ad ca M1) → me_wf N M1 → va_S A H0 H1 locs1 → W p l e R s m args below meth c H1 locs1 cells slots Q (F0 m (pc + 3) ls rest)) : W p l e R s m args below meth c H locs cells slots Q (F0 m pc ls (.ref (ad 15 v) :: .ref (ad 3 j) :: rest)) := by
  subst he
  exact me_putF (M1 := wR M 3 j 5 (some v)) (k := 3) (f := 5) (C := "FilterGuard$Facts") (T := F_Facts) (Nf := 7) hexec hb hts i_Facts t_Facts t_Facts_ok n_Facts hown hK hP hD hwf hS hj (by decide) rfl (by decide) (by decide) hlink (fun _ h9 => h9) rfl hin2 rfl rfl rfl rfl (fun a b h => me_wRE h) (me_fRw (v := some v) (by decide) (by decide)) hdg (fun H1 locs1 a1 a2 a3 => kk H1 locs1 a1 a2 (me_wfR hwf (fun t z => by cases z; exact hv)) a3)
theorem d_Facts_init_58 : decode prog_6_method_1_code 58 = .ok (.aload_n 0, 1) := by decide +kernel
theorem d_Facts_init_59 : decode prog_6_method_1_code 59 = .ok (.sipush 2001, 3) := by decide +kernel
theorem d_Facts_init_62 : decode prog_6_method_1_code 62 = .ok (.newarray .int, 2) := by decide +kernel
theorem d_Facts_init_64 : decode prog_6_method_1_code 64 = .ok (.putfield 32, 3) := by decide +kernel
theorem u_324 : Cond.fieldLink "FilterGuard$Facts" 32 "FilterGuard$Facts" "newPlace" "[I" ∈ fg_g := fg_in (List.mem_of_getElem? (i := 324) (by decide +kernel)) rfl
theorem P_Facts_6 {p : Program} {l : Launch} {e : Env} {R : Room} {s : Jvm.State} {m : MethodId} {args : Array Value} {below : List Frame} {meth : Method} {c : Code} {H : Heap} {locs : List Loc} {cells slots : Nat} {Q : Jvm.State → Prop} {cc : ByteArray} {pc : Nat} {ls : Array Slot} {rest : List Value} {D : va_G} {A : Nat → Prop} {H0 : Heap} {ad : Nat → Nat → Nat} {ca : Nat → ClassId} {M M1 : me_M} {N : Nat → Nat} {index j : Nat} {v : Nat} (he : M1 = wR M 3 j 6 (some v)) (hexec : p.tables.exec = Jvm.exec) (hb : c.code = cc) (hts : ∀ w ∈ fg_g, w.before args s = true) (hown : s.vm.findClass "FilterGuard$Facts" = some m.cls) (hK : va_K D classes (me_T ca) s) (hP : va_P D classes (me_W ad ca M) H) (hD : va_D A (me_W ad ca M)) (hwf : me_wf N M) (hS : va_S A H0 H locs) (hj : j < N 3) (hv : v < N 13) (hin2 : meth.name = "<init>") (hlink : (Cond.fieldLink "FilterGuard$Facts" index "FilterGuard$Facts" "newPlace" "[I").before args s = true) (hdg : decode cc pc = .ok (.putfield index, 3)) (kk : ∀ (H1 : Heap) (locs1 : List Loc), va_P D classes (me_W ad ca M1) H1 → va_D A (me_W ad ca M1) → me_wf N M1 → va_S A H0 H1 locs1 → W p l e R s m args below meth c H1 locs1 cells slots Q (F0 m (pc + 3) ls rest)) : W p l e R s m args below meth c H locs cells slots Q (F0 m pc ls (.ref (ad 13 v) :: .ref (ad 3 j) :: rest)) := by
  subst he
  exact me_putF (M1 := wR M 3 j 6 (some v)) (k := 3) (f := 6) (C := "FilterGuard$Facts") (T := F_Facts) (Nf := 7) hexec hb hts i_Facts t_Facts t_Facts_ok n_Facts hown hK hP hD hwf hS hj (by decide) rfl (by decide) (by decide) hlink (fun _ h9 => h9) rfl hin2 rfl rfl rfl rfl (fun a b h => me_wRE h) (me_fRw (v := some v) (by decide) (by decide)) hdg (fun H1 locs1 a1 a2 a3 => kk H1 locs1 a1 a2 (me_wfR hwf (fun t z => by cases z; exact hv)) a3)
theorem d_Facts_init_67 : decode prog_6_method_1_code 67 = .ok (.return_, 1) := by decide +kernel
abbrev y_Facts_init : MethodName := ⟨"FilterGuard$Facts", "<init>", "()V"⟩
def rm_Facts_init (N0 : Nat → Nat) : Room := { frames := 1, cells := me_CL - me_cN N0, slots := me_SL - me_sN N0, locals := 30 }
abbrev q_Facts_init (D : va_G) (ad0 : Nat → Nat → Nat) (ca : Nat → ClassId) (N0 : Nat → Nat) (MZ : me_M) (A : Nat → Prop) : Array Value → Jvm.State → Outcome → Jvm.State → Prop := va_Qv (fun (u : Nat → Nat → Nat) => al_P ad0 N0 MZ u ∧ True) (fg_B D A (fun u => me_W u ca MZ) (fun _ => [])) A
set_option maxHeartbeats 4000000 in
set_option maxRecDepth 100000 in
theorem c_Facts_init (l : Launch) (D : va_G) (ad0 : Nat → Nat → Nat) (ca : Nat → ClassId) (N0 : Nat → Nat) (M0 MZ : me_M) (j0 : Nat) (h : f_Facts_init M0 j0 = (some MZ)) (hwf : me_wf N0 M0) (hcl : me_cN N0 ≤ me_CL ∧ me_sN N0 ≤ me_SL) (hj0 : j0 < N0 3) (sz : Nat) : Met l y_Facts_init (fg_w y_Facts_init prog_6_method_1_code 1 none) (rm_Facts_init N0) (va_Pc [.ref (ad0 3 j0)] (fz_P D (me_T ca) (me_W ad0 ca M0) sz)) (q_Facts_init D ad0 ca N0 MZ (va_A (me_W ad0 ca M0) sz)) (me_cN (mN MZ) - me_cN N0) (me_sN (mN MZ) - me_sN N0) (va_A (me_W ad0 ca M0) sz) := by
  refine fz_enter (fun A => q_Facts_init D ad0 ca N0 MZ A) (by decide +kernel) (Nat.le_of_ble_eq_true rfl) ?_
  intro p e s m below meth c ls A hx hb hml hown hts hr hlocks hin hP hK hD hS hA hX hl hz
  refine W.widen (k := me_cN N0 - me_cN N0) (n := me_sN N0 - me_sN N0) (Nat.zero_le _) (Nat.zero_le _) ?_
  unfold f_Facts_init at h
  have hok : me_ok N0 N0 := me_ok.rf hcl
  obtain ⟨ad, N, hext0, hok, hwf, hP, hD, hN9, had9, hj0⟩ : ∃ (ad : Nat → Nat → Nat) (N : Nat → Nat), (∀ a b, b < N0 a → ad a b = ad0 a b) ∧ me_ok N0 N ∧ me_wf N M0 ∧ va_P D classes (me_W ad ca M0) s.heap ∧ va_D A (me_W ad ca M0) ∧ N = N0 ∧ ad = ad0 ∧ j0 < N 3 := ⟨ad0, N0, fun _ _ _ => rfl, hok, hwf, hP, hD, rfl, rfl, hj0⟩
  have hl : lv_has ls 1 [(0, .ref (ad 3 j0))] := by rw [had9]; exact hl
  have hcs : W p l e (rm_Facts_init N0) s m [.ref (ad0 3 j0)].toArray below meth c s.heap [] (me_cN N - me_cN N0) (me_sN N - me_sN N0) (MQ below (q_Facts_init D ad0 ca N0 MZ A) [.ref (ad0 3 j0)].toArray s (me_cN (mN MZ) - me_cN N0) (me_sN (mN MZ) - me_sN N0) A) (F0 m 0 ls []) := by
    clear had9
    refine lv_aload_n hx hb d_Facts_init_0 rfl (lv_at hl 0 rfl) ?_
    refine W.objInit hx hb hown (hts _ u_317) (hts _ u_210) (hts _ u_211) rfl (by rw [hml]; exact hl.1) rfl d_Facts_init_1 (Nat.le_of_ble_eq_true rfl) (Nat.le_of_ble_eq_true rfl) ?_
    refine W.eq (g2 := F0 m 4 ls []) rfl ?_
    refine lv_aload_n hx hb d_Facts_init_4 rfl (lv_at hl 0 rfl) ?_
    refine lv_sipush (v := 2000) hx hb d_Facts_init_5 (by decide) ?_
    obtain ⟨g1, h⟩ := gd_ob h
    obtain ⟨M2, eM2, h⟩ := st_ob h
    refine al_newa (k := 13) (atype := .int) (a0 := ((2000 : Int32).toNatClampNeg, .inl (fun _ => 0))) eM2 g1 hx hb (hts _ u_340) rfl hK hP hD hwf hok hS hA (by decide) (by decide) rfl (fun _ _ h9 => h9) (by decide) (fun _ => rfl) (fun ad1 => by rw [eM2]; exact al_ar13) rfl rfl d_Facts_init_8 (fun ad N H hext hNN hn3 hwf hok1 hP hD hS => ?_)
    have hext0 := al_ext hext hext0 hok
    have hok := hok1
    have hl : lv_has ls 1 [(0, .ref (ad 3 j0))] := by rw [hext 3 j0 hj0]; exact hl
    refine W.eq (g2 := F0 m 10 ls [.ref (ad 13 (mN M0 13)), .ref (ad 3 j0)]) (by rw [hext 3 j0 hj0]) ?_
    have hj0 : j0 < N 3 := Nat.lt_of_lt_of_le hj0 (hNN 3)
    obtain ⟨M4, eM4, h⟩ := st_ob h
    refine P_Facts_0 eM4 hx hb hts hown hK hP hD hwf hS hj0 hn3 hin (hts _ u_318) d_Facts_init_10 (fun H locs hP hD hwf hS => ?_)
    refine lv_aload_n hx hb d_Facts_init_13 rfl (lv_at hl 0 rfl) ?_
    refine lv_sipush (v := 2000) hx hb d_Facts_init_14 (by decide) ?_
    obtain ⟨g5, h⟩ := gd_ob h
    obtain ⟨M6, eM6, h⟩ := st_ob h
    refine al_newa (k := 15) (atype := .boolean) (a0 := ((2000 : Int32).toNatClampNeg, .inl (fun _ => 0))) eM6 g5 hx hb (hts _ u_311) rfl hK hP hD hwf hok hS hA (by decide) (by decide) rfl (fun _ _ h9 => h9) (by decide) (fun _ => rfl) (fun ad1 => by rw [eM6]; exact al_ar15) rfl rfl d_Facts_init_17 (fun ad N H hext hNN hn7 hwf hok1 hP hD hS => ?_)
    have hext0 := al_ext hext hext0 hok
    have hok := hok1
    have hl : lv_has ls 1 [(0, .ref (ad 3 j0))] := by rw [hext 3 j0 hj0]; exact hl
    refine W.eq (g2 := F0 m 19 ls [.ref (ad 15 (mN M4 15)), .ref (ad 3 j0)]) (by rw [hext 3 j0 hj0]) ?_
    have hj0 : j0 < N 3 := Nat.lt_of_lt_of_le hj0 (hNN 3)
    obtain ⟨M8, eM8, h⟩ := st_ob h
    refine P_Facts_1 eM8 hx hb hts hown hK hP hD hwf hS hj0 hn7 hin (hts _ u_319) d_Facts_init_19 (fun H locs hP hD hwf hS => ?_)
    refine lv_aload_n hx hb d_Facts_init_22 rfl (lv_at hl 0 rfl) ?_
    refine lv_sipush (v := 2000) hx hb d_Facts_init_23 (by decide) ?_
    obtain ⟨g9, h⟩ := gd_ob h
    obtain ⟨M10, eM10, h⟩ := st_ob h
    refine al_newa (k := 15) (atype := .boolean) (a0 := ((2000 : Int32).toNatClampNeg, .inl (fun _ => 0))) eM10 g9 hx hb (hts _ u_311) rfl hK hP hD hwf hok hS hA (by decide) (by decide) rfl (fun _ _ h9 => h9) (by decide) (fun _ => rfl) (fun ad1 => by rw [eM10]; exact al_ar15) rfl rfl d_Facts_init_26 (fun ad N H hext hNN hn11 hwf hok1 hP hD hS => ?_)
    have hext0 := al_ext hext hext0 hok
    have hok := hok1
    have hl : lv_has ls 1 [(0, .ref (ad 3 j0))] := by rw [hext 3 j0 hj0]; exact hl
    refine W.eq (g2 := F0 m 28 ls [.ref (ad 15 (mN M8 15)), .ref (ad 3 j0)]) (by rw [hext 3 j0 hj0]) ?_
    have hj0 : j0 < N 3 := Nat.lt_of_lt_of_le hj0 (hNN 3)
    obtain ⟨M12, eM12, h⟩ := st_ob h
    refine P_Facts_2 eM12 hx hb hts hown hK hP hD hwf hS hj0 hn11 hin (hts _ u_320) d_Facts_init_28 (fun H locs hP hD hwf hS => ?_)
    refine lv_aload_n hx hb d_Facts_init_31 rfl (lv_at hl 0 rfl) ?_
    refine lv_sipush (v := 2000) hx hb d_Facts_init_32 (by decide) ?_
    obtain ⟨g13, h⟩ := gd_ob h
    obtain ⟨M14, eM14, h⟩ := st_ob h
    refine al_newa (k := 13) (atype := .int) (a0 := ((2000 : Int32).toNatClampNeg, .inl (fun _ => 0))) eM14 g13 hx hb (hts _ u_340) rfl hK hP hD hwf hok hS hA (by decide) (by decide) rfl (fun _ _ h9 => h9) (by decide) (fun _ => rfl) (fun ad1 => by rw [eM14]; exact al_ar13) rfl rfl d_Facts_init_35 (fun ad N H hext hNN hn15 hwf hok1 hP hD hS => ?_)
    have hext0 := al_ext hext hext0 hok
    have hok := hok1
    have hl : lv_has ls 1 [(0, .ref (ad 3 j0))] := by rw [hext 3 j0 hj0]; exact hl
    refine W.eq (g2 := F0 m 37 ls [.ref (ad 13 (mN M12 13)), .ref (ad 3 j0)]) (by rw [hext 3 j0 hj0]) ?_
    have hj0 : j0 < N 3 := Nat.lt_of_lt_of_le hj0 (hNN 3)
    obtain ⟨M16, eM16, h⟩ := st_ob h
    refine P_Facts_3 eM16 hx hb hts hown hK hP hD hwf hS hj0 hn15 hin (hts _ u_321) d_Facts_init_37 (fun H locs hP hD hwf hS => ?_)
    refine lv_aload_n hx hb d_Facts_init_40 rfl (lv_at hl 0 rfl) ?_
    refine lv_sipush (v := 2000) hx hb d_Facts_init_41 (by decide) ?_
    obtain ⟨g17, h⟩ := gd_ob h
    obtain ⟨M18, eM18, h⟩ := st_ob h
    refine al_newa (k := 16) (atype := .long) (a0 := ((2000 : Int32).toNatClampNeg, .inr (.inl (fun _ => 0)))) eM18 g17 hx hb (hts _ u_310) rfl hK hP hD hwf hok hS hA (by decide) (by decide) rfl (fun _ _ h9 => h9) (by decide) (fun _ => rfl) (fun ad1 => by rw [eM18]; exact al_ar16) rfl rfl d_Facts_init_44 (fun ad N H hext hNN hn19 hwf hok1 hP hD hS => ?_)
    have hext0 := al_ext hext hext0 hok
    have hok := hok1
    have hl : lv_has ls 1 [(0, .ref (ad 3 j0))] := by rw [hext 3 j0 hj0]; exact hl
    refine W.eq (g2 := F0 m 46 ls [.ref (ad 16 (mN M16 16)), .ref (ad 3 j0)]) (by rw [hext 3 j0 hj0]) ?_
    have hj0 : j0 < N 3 := Nat.lt_of_lt_of_le hj0 (hNN 3)
    obtain ⟨M20, eM20, h⟩ := st_ob h
    refine P_Facts_4 eM20 hx hb hts hown hK hP hD hwf hS hj0 hn19 hin (hts _ u_322) d_Facts_init_46 (fun H locs hP hD hwf hS => ?_)
    refine lv_aload_n hx hb d_Facts_init_49 rfl (lv_at hl 0 rfl) ?_
    refine lv_sipush (v := 2000) hx hb d_Facts_init_50 (by decide) ?_
    obtain ⟨g21, h⟩ := gd_ob h
    obtain ⟨M22, eM22, h⟩ := st_ob h
    refine al_newa (k := 15) (atype := .boolean) (a0 := ((2000 : Int32).toNatClampNeg, .inl (fun _ => 0))) eM22 g21 hx hb (hts _ u_311) rfl hK hP hD hwf hok hS hA (by decide) (by decide) rfl (fun _ _ h9 => h9) (by decide) (fun _ => rfl) (fun ad1 => by rw [eM22]; exact al_ar15) rfl rfl d_Facts_init_53 (fun ad N H hext hNN hn23 hwf hok1 hP hD hS => ?_)
    have hext0 := al_ext hext hext0 hok
    have hok := hok1
    have hl : lv_has ls 1 [(0, .ref (ad 3 j0))] := by rw [hext 3 j0 hj0]; exact hl
    refine W.eq (g2 := F0 m 55 ls [.ref (ad 15 (mN M20 15)), .ref (ad 3 j0)]) (by rw [hext 3 j0 hj0]) ?_
    have hj0 : j0 < N 3 := Nat.lt_of_lt_of_le hj0 (hNN 3)
    obtain ⟨M24, eM24, h⟩ := st_ob h
    refine P_Facts_5 eM24 hx hb hts hown hK hP hD hwf hS hj0 hn23 hin (hts _ u_323) d_Facts_init_55 (fun H locs hP hD hwf hS => ?_)
    refine lv_aload_n hx hb d_Facts_init_58 rfl (lv_at hl 0 rfl) ?_
    refine lv_sipush (v := 2001) hx hb d_Facts_init_59 (by decide) ?_
    obtain ⟨g25, h⟩ := gd_ob h
    obtain ⟨M26, eM26, h⟩ := st_ob h
    refine al_newa (k := 13) (atype := .int) (a0 := ((2001 : Int32).toNatClampNeg, .inl (fun _ => 0))) eM26 g25 hx hb (hts _ u_340) rfl hK hP hD hwf hok hS hA (by decide) (by decide) rfl (fun _ _ h9 => h9) (by decide) (fun _ => rfl) (fun ad1 => by rw [eM26]; exact al_ar13) rfl rfl d_Facts_init_62 (fun ad N H hext hNN hn27 hwf hok1 hP hD hS => ?_)
    have hext0 := al_ext hext hext0 hok
    have hok := hok1
    have hl : lv_has ls 1 [(0, .ref (ad 3 j0))] := by rw [hext 3 j0 hj0]; exact hl
    refine W.eq (g2 := F0 m 64 ls [.ref (ad 13 (mN M24 13)), .ref (ad 3 j0)]) (by rw [hext 3 j0 hj0]) ?_
    have hj0 : j0 < N 3 := Nat.lt_of_lt_of_le hj0 (hNN 3)
    obtain ⟨M28, eM28, h⟩ := st_ob h
    refine P_Facts_6 eM28 hx hb hts hown hK hP hD hwf hS hj0 hn27 hin (hts _ u_324) d_Facts_init_64 (fun H locs hP hD hwf hS => ?_)
    exact al_retv h hx hb hr hlocks hwf hok hext0 hP hK hD hS d_Facts_init_67
  rw [hN9] at hcs
  exact hcs
theorem d_Num_init_0 : decode prog_8_method_1_code 0 = .ok (.aload_n 0, 1) := by decide +kernel
theorem d_Num_init_1 : decode prog_8_method_1_code 1 = .ok (.invokespecial 3, 3) := by decide +kernel
theorem u_366 : Cond.methodLink "FilterGuard$Num" 3 ⟨"java/lang/Object", "<init>", "()V"⟩ ∈ fg_g := fg_in (List.mem_of_getElem? (i := 366) (by decide +kernel)) rfl
theorem d_Num_init_4 : decode prog_8_method_1_code 4 = .ok (.return_, 1) := by decide +kernel
abbrev y_Num_init : MethodName := ⟨"FilterGuard$Num", "<init>", "()V"⟩
def rm_Num_init : Room := { frames := 1, cells := 0, slots := 0, locals := 30 }
abbrev q_Num_init (D : va_G) (ad : Nat → Nat → Nat) (ca : Nat → ClassId) (N : Nat → Nat) (M0 MZ : me_M) (A : Nat → Prop) : Array Value → Jvm.State → Outcome → Jvm.State → Prop := va_Qv (fun (_ : Unit) => me_wf N MZ ∧ me_kp M0 MZ) (fg_B D A (fun _ => me_W ad ca MZ) (fun _ => [])) A
set_option maxHeartbeats 4000000 in
set_option maxRecDepth 100000 in
theorem c_Num_init (l : Launch) (D : va_G) (ad : Nat → Nat → Nat) (ca : Nat → ClassId) (N : Nat → Nat) (M0 MZ : me_M) (j0 : Nat) (h : f_Num_init M0 j0 = (some MZ)) (hwf : me_wf N M0) (hj0 : j0 < N 11) (sz : Nat) : Met l y_Num_init (fg_w y_Num_init prog_8_method_1_code 1 none) rm_Num_init (va_Pc [.ref (ad 11 j0)] (fz_P D (me_T ca) (me_W ad ca M0) sz)) (q_Num_init D ad ca N M0 MZ (va_A (me_W ad ca M0) sz)) rm_Num_init.cells rm_Num_init.slots (va_A (me_W ad ca M0) sz) := by
  refine fz_enter (fun A => q_Num_init D ad ca N M0 MZ A) (by decide +kernel) (Nat.le_of_ble_eq_true rfl) ?_
  intro p e s m below meth c ls A hx hb hml hown hts hr hlocks hin hP hK hD hS hA hX hl hz
  have hl : lv_has ls 1 [(0, .ref (ad 11 j0))] := hl
  unfold f_Num_init at h
  have hkp : me_kp M0 M0 := me_kp.rf
  have hkb := hkp
  refine lv_aload_n hx hb d_Num_init_0 rfl (lv_at hl 0 rfl) ?_
  refine W.objInit hx hb hown (hts _ u_366) (hts _ u_210) (hts _ u_211) rfl (by rw [hml]; exact hl.1) rfl d_Num_init_1 (Nat.le_of_ble_eq_true rfl) (Nat.le_of_ble_eq_true rfl) ?_
  refine W.eq (g2 := F0 m 4 ls []) rfl ?_
  exact me_retv (me_kp M0) h hx hb hr hlocks hwf hkp hP hK hD hS d_Num_init_4
theorem d_Reckoner_init_0 : decode prog_9_method_1_code 0 = .ok (.aload_n 0, 1) := by decide +kernel
theorem d_Reckoner_init_1 : decode prog_9_method_1_code 1 = .ok (.invokespecial 3, 3) := by decide +kernel
theorem u_360 : Cond.methodLink "FilterGuard$Reckoner" 3 ⟨"java/lang/Object", "<init>", "()V"⟩ ∈ fg_g := fg_in (List.mem_of_getElem? (i := 360) (by decide +kernel)) rfl
theorem d_Reckoner_init_4 : decode prog_9_method_1_code 4 = .ok (.aload_n 0, 1) := by decide +kernel
theorem d_Reckoner_init_5 : decode prog_9_method_1_code 5 = .ok (.new 9, 3) := by decide +kernel
theorem u_361 : Cond.classLink "FilterGuard$Reckoner" 9 "FilterGuard$Num" ∈ fg_g := fg_in (List.mem_of_getElem? (i := 361) (by decide +kernel)) rfl
theorem u_362 : Cond.instantiable "FilterGuard$Num" 6 ∈ fg_g := fg_in (List.mem_of_getElem? (i := 362) (by decide +kernel)) rfl
theorem u_187 : Cond.initialized "FilterGuard$Num" ∈ fg_g := fg_in (List.mem_of_getElem? (i := 187) (by decide +kernel)) rfl
theorem d_Reckoner_init_8 : decode prog_9_method_1_code 8 = .ok (.dup, 1) := by decide +kernel
theorem d_Reckoner_init_9 : decode prog_9_method_1_code 9 = .ok (.invokespecial 11, 3) := by decide +kernel
theorem o_363 : Cond.methodLinkNest "FilterGuard$Reckoner" 11 ⟨"FilterGuard$Num", "<init>", "()V"⟩ "FilterGuard" ∈ lw_tbl := List.mem_of_getElem? (i := 363) (by decide +kernel)
theorem u_365 : Cond.code ⟨"FilterGuard$Num", "<init>", "()V"⟩ prog_8_method_1_code 1 none ∈ fg_g := fg_in (List.mem_of_getElem? (i := 365) (by decide +kernel)) rfl
theorem u_364 : Cond.instanceMethod ⟨"FilterGuard$Num", "<init>", "()V"⟩ ∈ fg_g := fg_in (List.mem_of_getElem? (i := 364) (by decide +kernel)) rfl
theorem d_Reckoner_init_12 : decode prog_9_method_1_code 12 = .ok (.putfield 12, 3) := by decide +kernel
theorem u_396 : Cond.fieldLink "FilterGuard$Reckoner" 12 "FilterGuard$Reckoner" "first" "LFilterGuard$Num;" ∈ fg_g := fg_in (List.mem_of_getElem? (i := 396) (by decide +kernel)) rfl
theorem P_Reckoner_0 {p : Program} {l : Launch} {e : Env} {R : Room} {s : Jvm.State} {m : MethodId} {args : Array Value} {below : List Frame} {meth : Method} {c : Code} {H : Heap} {locs : List Loc} {cells slots : Nat} {Q : Jvm.State → Prop} {cc : ByteArray} {pc : Nat} {ls : Array Slot} {rest : List Value} {D : va_G} {A : Nat → Prop} {H0 : Heap} {ad : Nat → Nat → Nat} {ca : Nat → ClassId} {M M1 : me_M} {N : Nat → Nat} {index j : Nat} {v : Nat} (he : M1 = wR M 8 j 0 (some v)) (hexec : p.tables.exec = Jvm.exec) (hb : c.code = cc) (hts : ∀ w ∈ fg_g, w.before args s = true) (hown : s.vm.findClass "FilterGuard$Reckoner" = some m.cls) (hK : va_K D classes (me_T ca) s) (hP : va_P D classes (me_W ad ca M) H) (hD : va_D A (me_W ad ca M)) (hwf : me_wf N M) (hS : va_S A H0 H locs) (hj : j < N 8) (hv : v < N 11) (hin2 : meth.name = "<init>") (hlink : (Cond.fieldLink "FilterGuard$Reckoner" index "FilterGuard$Reckoner" "first" "LFilterGuard$Num;").before args s = true) (hdg : decode cc pc = .ok (.putfield index, 3)) (kk : ∀ (H1 : Heap) (locs1 : List Loc), va_P D classes (me_W ad ca M1) H1 → va_D A (me_W ad ca M1) → me_wf N M1 → va_S A H0 H1 locs1 → W p l e R s m args below meth c H1 locs1 cells slots Q (F0 m (pc + 3) ls rest)) : W p l e R s m args below meth c H locs cells slots Q (F0 m pc ls (.ref (ad 11 v) :: .ref (ad 8 j) :: rest)) := by
  subst he
  exact me_putF (M1 := wR M 8 j 0 (some v)) (k := 8) (f := 0) (C := "FilterGuard$Reckoner") (T := F_Reckoner) (Nf := 5) hexec hb hts i_Reckoner t_Reckoner t_Reckoner_ok n_Reckoner hown hK hP hD hwf hS hj (by decide) rfl (by decide) (by decide) hlink (fun _ h9 => h9) rfl hin2 rfl rfl rfl rfl (fun a b h => me_wRE h) (me_fRw (v := some v) (by decide) (by decide)) hdg (fun H1 locs1 a1 a2 a3 => kk H1 locs1 a1 a2 (me_wfR hwf (fun t z => by cases z; exact hv)) a3)
theorem d_Reckoner_init_15 : decode prog_9_method_1_code 15 = .ok (.aload_n 0, 1) := by decide +kernel
theorem d_Reckoner_init_16 : decode prog_9_method_1_code 16 = .ok (.new 9, 3) := by decide +kernel
theorem d_Reckoner_init_19 : decode prog_9_method_1_code 19 = .ok (.dup, 1) := by decide +kernel
theorem d_Reckoner_init_20 : decode prog_9_method_1_code 20 = .ok (.invokespecial 11, 3) := by decide +kernel
theorem d_Reckoner_init_23 : decode prog_9_method_1_code 23 = .ok (.putfield 18, 3) := by decide +kernel
theorem u_397 : Cond.fieldLink "FilterGuard$Reckoner" 18 "FilterGuard$Reckoner" "second" "LFilterGuard$Num;" ∈ fg_g := fg_in (List.mem_of_getElem? (i := 397) (by decide +kernel)) rfl
theorem P_Reckoner_1 {p : Program} {l : Launch} {e : Env} {R : Room} {s : Jvm.State} {m : MethodId} {args : Array Value} {below : List Frame} {meth : Method} {c : Code} {H : Heap} {locs : List Loc} {cells slots : Nat} {Q : Jvm.State → Prop} {cc : ByteArray} {pc : Nat} {ls : Array Slot} {rest : List Value} {D : va_G} {A : Nat → Prop} {H0 : Heap} {ad : Nat → Nat → Nat} {ca : Nat → ClassId} {M M1 : me_M} {N : Nat → Nat} {index j : Nat} {v : Nat} (he : M1 = wR M 8 j 1 (some v)) (hexec : p.tables.exec = Jvm.exec) (hb : c.code = cc) (hts : ∀ w ∈ fg_g, w.before args s = true) (hown : s.vm.findClass "FilterGuard$Reckoner" = some m.cls) (hK : va_K D classes (me_T ca) s) (hP : va_P D classes (me_W ad ca M) H) (hD : va_D A (me_W ad ca M)) (hwf : me_wf N M) (hS : va_S A H0 H locs) (hj : j < N 8) (hv : v < N 11) (hin2 : meth.name = "<init>") (hlink : (Cond.fieldLink "FilterGuard$Reckoner" index "FilterGuard$Reckoner" "second" "LFilterGuard$Num;").before args s = true) (hdg : decode cc pc = .ok (.putfield index, 3)) (kk : ∀ (H1 : Heap) (locs1 : List Loc), va_P D classes (me_W ad ca M1) H1 → va_D A (me_W ad ca M1) → me_wf N M1 → va_S A H0 H1 locs1 → W p l e R s m args below meth c H1 locs1 cells slots Q (F0 m (pc + 3) ls rest)) : W p l e R s m args below meth c H locs cells slots Q (F0 m pc ls (.ref (ad 11 v) :: .ref (ad 8 j) :: rest)) := by
  subst he
  exact me_putF (M1 := wR M 8 j 1 (some v)) (k := 8) (f := 1) (C := "FilterGuard$Reckoner") (T := F_Reckoner) (Nf := 5) hexec hb hts i_Reckoner t_Reckoner t_Reckoner_ok n_Reckoner hown hK hP hD hwf hS hj (by decide) rfl (by decide) (by decide) hlink (fun _ h9 => h9) rfl hin2 rfl rfl rfl rfl (fun a b h => me_wRE h) (me_fRw (v := some v) (by decide) (by decide)) hdg (fun H1 locs1 a1 a2 a3 => kk H1 locs1 a1 a2 (me_wfR hwf (fun t z => by cases z; exact hv)) a3)
theorem d_Reckoner_init_26 : decode prog_9_method_1_code 26 = .ok (.aload_n 0, 1) := by decide +kernel
theorem d_Reckoner_init_27 : decode prog_9_method_1_code 27 = .ok (.new 9, 3) := by decide +kernel
theorem d_Reckoner_init_30 : decode prog_9_method_1_code 30 = .ok (.dup, 1) := by decide +kernel
theorem d_Reckoner_init_31 : decode prog_9_method_1_code 31 = .ok (.invokespecial 11, 3) := by decide +kernel
theorem d_Reckoner_init_34 : decode prog_9_method_1_code 34 = .ok (.putfield 21, 3) := by decide +kernel
theorem u_398 : Cond.fieldLink "FilterGuard$Reckoner" 21 "FilterGuard$Reckoner" "result" "LFilterGuard$Num;" ∈ fg_g := fg_in (List.mem_of_getElem? (i := 398) (by decide +kernel)) rfl
theorem P_Reckoner_2 {p : Program} {l : Launch} {e : Env} {R : Room} {s : Jvm.State} {m : MethodId} {args : Array Value} {below : List Frame} {meth : Method} {c : Code} {H : Heap} {locs : List Loc} {cells slots : Nat} {Q : Jvm.State → Prop} {cc : ByteArray} {pc : Nat} {ls : Array Slot} {rest : List Value} {D : va_G} {A : Nat → Prop} {H0 : Heap} {ad : Nat → Nat → Nat} {ca : Nat → ClassId} {M M1 : me_M} {N : Nat → Nat} {index j : Nat} {v : Nat} (he : M1 = wR M 8 j 2 (some v)) (hexec : p.tables.exec = Jvm.exec) (hb : c.code = cc) (hts : ∀ w ∈ fg_g, w.before args s = true) (hown : s.vm.findClass "FilterGuard$Reckoner" = some m.cls) (hK : va_K D classes (me_T ca) s) (hP : va_P D classes (me_W ad ca M) H) (hD : va_D A (me_W ad ca M)) (hwf : me_wf N M) (hS : va_S A H0 H locs) (hj : j < N 8) (hv : v < N 11) (hin2 : meth.name = "<init>") (hlink : (Cond.fieldLink "FilterGuard$Reckoner" index "FilterGuard$Reckoner" "result" "LFilterGuard$Num;").before args s = true) (hdg : decode cc pc = .ok (.putfield index, 3)) (kk : ∀ (H1 : Heap) (locs1 : List Loc), va_P D classes (me_W ad ca M1) H1 → va_D A (me_W ad ca M1) → me_wf N M1 → va_S A H0 H1 locs1 → W p l e R s m args below meth c H1 locs1 cells slots Q (F0 m (pc + 3) ls rest)) : W p l e R s m args below meth c H locs cells slots Q (F0 m pc ls (.ref (ad 11 v) :: .ref (ad 8 j) :: rest)) := by
  subst he
  exact me_putF (M1 := wR M 8 j 2 (some v)) (k := 8) (f := 2) (C := "FilterGuard$Reckoner") (T := F_Reckoner) (Nf := 5) hexec hb hts i_Reckoner t_Reckoner t_Reckoner_ok n_Reckoner hown hK hP hD hwf hS hj (by decide) rfl (by decide) (by decide) hlink (fun _ h9 => h9) rfl hin2 rfl rfl rfl rfl (fun a b h => me_wRE h) (me_fRw (v := some v) (by decide) (by decide)) hdg (fun H1 locs1 a1 a2 a3 => kk H1 locs1 a1 a2 (me_wfR hwf (fun t z => by cases z; exact hv)) a3)
theorem d_Reckoner_init_37 : decode prog_9_method_1_code 37 = .ok (.aload_n 0, 1) := by decide +kernel
theorem d_Reckoner_init_38 : decode prog_9_method_1_code 38 = .ok (.new 9, 3) := by decide +kernel
theorem d_Reckoner_init_41 : decode prog_9_method_1_code 41 = .ok (.dup, 1) := by decide +kernel
theorem d_Reckoner_init_42 : decode prog_9_method_1_code 42 = .ok (.invokespecial 11, 3) := by decide +kernel
theorem d_Reckoner_init_45 : decode prog_9_method_1_code 45 = .ok (.putfield 24, 3) := by decide +kernel
theorem u_399 : Cond.fieldLink "FilterGuard$Reckoner" 24 "FilterGuard$Reckoner" "zero" "LFilterGuard$Num;" ∈ fg_g := fg_in (List.mem_of_getElem? (i := 399) (by decide +kernel)) rfl
theorem P_Reckoner_3 {p : Program} {l : Launch} {e : Env} {R : Room} {s : Jvm.State} {m : MethodId} {args : Array Value} {below : List Frame} {meth : Method} {c : Code} {H : Heap} {locs : List Loc} {cells slots : Nat} {Q : Jvm.State → Prop} {cc : ByteArray} {pc : Nat} {ls : Array Slot} {rest : List Value} {D : va_G} {A : Nat → Prop} {H0 : Heap} {ad : Nat → Nat → Nat} {ca : Nat → ClassId} {M M1 : me_M} {N : Nat → Nat} {index j : Nat} {v : Nat} (he : M1 = wR M 8 j 3 (some v)) (hexec : p.tables.exec = Jvm.exec) (hb : c.code = cc) (hts : ∀ w ∈ fg_g, w.before args s = true) (hown : s.vm.findClass "FilterGuard$Reckoner" = some m.cls) (hK : va_K D classes (me_T ca) s) (hP : va_P D classes (me_W ad ca M) H) (hD : va_D A (me_W ad ca M)) (hwf : me_wf N M) (hS : va_S A H0 H locs) (hj : j < N 8) (hv : v < N 11) (hin2 : meth.name = "<init>") (hlink : (Cond.fieldLink "FilterGuard$Reckoner" index "FilterGuard$Reckoner" "zero" "LFilterGuard$Num;").before args s = true) (hdg : decode cc pc = .ok (.putfield index, 3)) (kk : ∀ (H1 : Heap) (locs1 : List Loc), va_P D classes (me_W ad ca M1) H1 → va_D A (me_W ad ca M1) → me_wf N M1 → va_S A H0 H1 locs1 → W p l e R s m args below meth c H1 locs1 cells slots Q (F0 m (pc + 3) ls rest)) : W p l e R s m args below meth c H locs cells slots Q (F0 m pc ls (.ref (ad 11 v) :: .ref (ad 8 j) :: rest)) := by
  subst he
  exact me_putF (M1 := wR M 8 j 3 (some v)) (k := 8) (f := 3) (C := "FilterGuard$Reckoner") (T := F_Reckoner) (Nf := 5) hexec hb hts i_Reckoner t_Reckoner t_Reckoner_ok n_Reckoner hown hK hP hD hwf hS hj (by decide) rfl (by decide) (by decide) hlink (fun _ h9 => h9) rfl hin2 rfl rfl rfl rfl (fun a b h => me_wRE h) (me_fRw (v := some v) (by decide) (by decide)) hdg (fun H1 locs1 a1 a2 a3 => kk H1 locs1 a1 a2 (me_wfR hwf (fun t z => by cases z; exact hv)) a3)
theorem d_Reckoner_init_48 : decode prog_9_method_1_code 48 = .ok (.aload_n 0, 1) := by decide +kernel
theorem d_Reckoner_init_49 : decode prog_9_method_1_code 49 = .ok (.new 9, 3) := by decide +kernel
theorem d_Reckoner_init_52 : decode prog_9_method_1_code 52 = .ok (.dup, 1) := by decide +kernel
theorem d_Reckoner_init_53 : decode prog_9_method_1_code 53 = .ok (.invokespecial 11, 3) := by decide +kernel
theorem d_Reckoner_init_56 : decode prog_9_method_1_code 56 = .ok (.putfield 27, 3) := by decide +kernel
theorem u_400 : Cond.fieldLink "FilterGuard$Reckoner" 27 "FilterGuard$Reckoner" "limit" "LFilterGuard$Num;" ∈ fg_g := fg_in (List.mem_of_getElem? (i := 400) (by decide +kernel)) rfl
theorem P_Reckoner_4 {p : Program} {l : Launch} {e : Env} {R : Room} {s : Jvm.State} {m : MethodId} {args : Array Value} {below : List Frame} {meth : Method} {c : Code} {H : Heap} {locs : List Loc} {cells slots : Nat} {Q : Jvm.State → Prop} {cc : ByteArray} {pc : Nat} {ls : Array Slot} {rest : List Value} {D : va_G} {A : Nat → Prop} {H0 : Heap} {ad : Nat → Nat → Nat} {ca : Nat → ClassId} {M M1 : me_M} {N : Nat → Nat} {index j : Nat} {v : Nat} (he : M1 = wR M 8 j 4 (some v)) (hexec : p.tables.exec = Jvm.exec) (hb : c.code = cc) (hts : ∀ w ∈ fg_g, w.before args s = true) (hown : s.vm.findClass "FilterGuard$Reckoner" = some m.cls) (hK : va_K D classes (me_T ca) s) (hP : va_P D classes (me_W ad ca M) H) (hD : va_D A (me_W ad ca M)) (hwf : me_wf N M) (hS : va_S A H0 H locs) (hj : j < N 8) (hv : v < N 11) (hin2 : meth.name = "<init>") (hlink : (Cond.fieldLink "FilterGuard$Reckoner" index "FilterGuard$Reckoner" "limit" "LFilterGuard$Num;").before args s = true) (hdg : decode cc pc = .ok (.putfield index, 3)) (kk : ∀ (H1 : Heap) (locs1 : List Loc), va_P D classes (me_W ad ca M1) H1 → va_D A (me_W ad ca M1) → me_wf N M1 → va_S A H0 H1 locs1 → W p l e R s m args below meth c H1 locs1 cells slots Q (F0 m (pc + 3) ls rest)) : W p l e R s m args below meth c H locs cells slots Q (F0 m pc ls (.ref (ad 11 v) :: .ref (ad 8 j) :: rest)) := by
  subst he
  exact me_putF (M1 := wR M 8 j 4 (some v)) (k := 8) (f := 4) (C := "FilterGuard$Reckoner") (T := F_Reckoner) (Nf := 5) hexec hb hts i_Reckoner t_Reckoner t_Reckoner_ok n_Reckoner hown hK hP hD hwf hS hj (by decide) rfl (by decide) (by decide) hlink (fun _ h9 => h9) rfl hin2 rfl rfl rfl rfl (fun a b h => me_wRE h) (me_fRw (v := some v) (by decide) (by decide)) hdg (fun H1 locs1 a1 a2 a3 => kk H1 locs1 a1 a2 (me_wfR hwf (fun t z => by cases z; exact hv)) a3)
theorem d_Reckoner_init_59 : decode prog_9_method_1_code 59 = .ok (.return_, 1) := by decide +kernel
abbrev y_Reckoner_init : MethodName := ⟨"FilterGuard$Reckoner", "<init>", "()V"⟩
def rm_Reckoner_init (N0 : Nat → Nat) : Room := { frames := 2, cells := me_CL - me_cN N0, slots := me_SL - me_sN N0, locals := 50 }
abbrev q_Reckoner_init (D : va_G) (ad0 : Nat → Nat → Nat) (ca : Nat → ClassId) (N0 : Nat → Nat) (MZ : me_M) (A : Nat → Prop) : Array Value → Jvm.State → Outcome → Jvm.State → Prop := va_Qv (fun (u : Nat → Nat → Nat) => al_P ad0 N0 MZ u ∧ True) (fg_B D A (fun u => me_W u ca MZ) (fun _ => [])) A
set_option maxHeartbeats 4000000 in
set_option maxRecDepth 100000 in
theorem c_Reckoner_init (l : Launch) (D : va_G) (ad0 : Nat → Nat → Nat) (ca : Nat → ClassId) (N0 : Nat → Nat) (M0 MZ : me_M) (j0 : Nat) (h : f_Reckoner_init M0 j0 = (some MZ)) (hwf : me_wf N0 M0) (hcl : me_cN N0 ≤ me_CL ∧ me_sN N0 ≤ me_SL) (hj0 : j0 < N0 8) (sz : Nat) : Met l y_Reckoner_init (fg_w y_Reckoner_init prog_9_method_1_code 1 none) (rm_Reckoner_init N0) (va_Pc [.ref (ad0 8 j0)] (fz_P D (me_T ca) (me_W ad0 ca M0) sz)) (q_Reckoner_init D ad0 ca N0 MZ (va_A (me_W ad0 ca M0) sz)) (me_cN (mN MZ) - me_cN N0) (me_sN (mN MZ) - me_sN N0) (va_A (me_W ad0 ca M0) sz) := by
  refine fz_enter (fun A => q_Reckoner_init D ad0 ca N0 MZ A) (by decide +kernel) (Nat.le_of_ble_eq_true rfl) ?_
  intro p e s m below meth c ls A hx hb hml hown hts hr hlocks hin hP hK hD hS hA hX hl hz
  refine W.widen (k := me_cN N0 - me_cN N0) (n := me_sN N0 - me_sN N0) (Nat.zero_le _) (Nat.zero_le _) ?_
  unfold f_Reckoner_init at h
  have hok : me_ok N0 N0 := me_ok.rf hcl
  obtain ⟨ad, N, hext0, hok, hwf, hP, hD, hN9, had9, hj0⟩ : ∃ (ad : Nat → Nat → Nat) (N : Nat → Nat), (∀ a b, b < N0 a → ad a b = ad0 a b) ∧ me_ok N0 N ∧ me_wf N M0 ∧ va_P D classes (me_W ad ca M0) s.heap ∧ va_D A (me_W ad ca M0) ∧ N = N0 ∧ ad = ad0 ∧ j0 < N 8 := ⟨ad0, N0, fun _ _ _ => rfl, hok, hwf, hP, hD, rfl, rfl, hj0⟩
  have hl : lv_has ls 1 [(0, .ref (ad 8 j0))] := by rw [had9]; exact hl
  have hcs : W p l e (rm_Reckoner_init N0) s m [.ref (ad0 8 j0)].toArray below meth c s.heap [] (me_cN N - me_cN N0) (me_sN N - me_sN N0) (MQ below (q_Reckoner_init D ad0 ca N0 MZ A) [.ref (ad0 8 j0)].toArray s (me_cN (mN MZ) - me_cN N0) (me_sN (mN MZ) - me_sN N0) A) (F0 m 0 ls []) := by
    clear had9
    refine lv_aload_n hx hb d_Reckoner_init_0 rfl (lv_at hl 0 rfl) ?_
    refine W.objInit hx hb hown (hts _ u_360) (hts _ u_210) (hts _ u_211) rfl (by rw [hml]; exact hl.1) rfl d_Reckoner_init_1 (Nat.le_of_ble_eq_true rfl) (Nat.le_of_ble_eq_true rfl) ?_
    refine W.eq (g2 := F0 m 4 ls []) rfl ?_
    refine lv_aload_n hx hb d_Reckoner_init_4 rfl (lv_at hl 0 rfl) ?_
    obtain ⟨g1, h⟩ := gd_ob h
    obtain ⟨M2, eM2, h⟩ := st_ob h
    refine al_new (k := 11) (fs := [.long 0, .long 0, .long 0, .long 0, .long 0, .long 0]) (C := "FilterGuard$Num") (T := F_Num) (Nf := 6) eM2 g1 hx hb hts i_Num t_Num t_Num_ok hown (hts _ u_361) (hts _ u_362) (hts _ u_187) hK hP hD hwf hok hS hA (by decide) rfl (by decide) z_Num rfl rfl rfl d_Reckoner_init_5 (fun ad N H hext hNN hn3 hwf hok1 hP hD hS => ?_)
    have hext0 := al_ext hext hext0 hok
    have hok := hok1
    have hl : lv_has ls 1 [(0, .ref (ad 8 j0))] := by rw [hext 8 j0 hj0]; exact hl
    refine W.eq (g2 := F0 m 8 ls [.ref (ad 11 (mN M0 11)), .ref (ad 8 j0)]) (by rw [hext 8 j0 hj0]) ?_
    have hj0 : j0 < N 8 := Nat.lt_of_lt_of_le hj0 (hNN 8)
    refine lv_dup hx hb d_Reckoner_init_8 rfl ?_
    obtain ⟨M4, eM4, h⟩ := bd_ob h
    refine me_thenv0 (M1 := M4) (al_runIN (As := []) (rest := [.ref (ad 11 (mN M0 11)), .ref (ad 8 j0)]) ⟨hx, hb, hml, hown, hts⟩ (c_Num_init l D ad ca N M2 M4 (mN M0 11) eM4 hwf hn3 _) rfl (by show fg_nm y_Num_init 0; decide +kernel) o_363 u_364 u_187 u_365 ⟨Nat.le_of_ble_eq_true rfl, Nat.le_of_ble_eq_true rfl⟩ hX hz hK hP hD hS hA rfl hl.1 (Nat.le_of_ble_eq_true rfl) d_Reckoner_init_9 (al_f hok)) hP hD hK hS hA rfl rfl (fun H locs hw hP hD hS => ?_)
    obtain ⟨hwf, hk9⟩ := hw
    obtain ⟨M5, eM5, h⟩ := st_ob h
    refine P_Reckoner_0 eM5 hx hb hts hown hK hP hD hwf hS hj0 hn3 hin (hts _ u_396) d_Reckoner_init_12 (fun H locs hP hD hwf hS => ?_)
    refine lv_aload_n hx hb d_Reckoner_init_15 rfl (lv_at hl 0 rfl) ?_
    obtain ⟨g6, h⟩ := gd_ob h
    obtain ⟨M7, eM7, h⟩ := st_ob h
    refine al_new (k := 11) (fs := [.long 0, .long 0, .long 0, .long 0, .long 0, .long 0]) (C := "FilterGuard$Num") (T := F_Num) (Nf := 6) eM7 g6 hx hb hts i_Num t_Num t_Num_ok hown (hts _ u_361) (hts _ u_362) (hts _ u_187) hK hP hD hwf hok hS hA (by decide) rfl (by decide) z_Num rfl rfl rfl d_Reckoner_init_16 (fun ad N H hext hNN hn8 hwf hok1 hP hD hS => ?_)
    have hext0 := al_ext hext hext0 hok
    have hok := hok1
    have hl : lv_has ls 1 [(0, .ref (ad 8 j0))] := by rw [hext 8 j0 hj0]; exact hl
    refine W.eq (g2 := F0 m 19 ls [.ref (ad 11 (mN M5 11)), .ref (ad 8 j0)]) (by rw [hext 8 j0 hj0]) ?_
    have hj0 : j0 < N 8 := Nat.lt_of_lt_of_le hj0 (hNN 8)
    refine lv_dup hx hb d_Reckoner_init_19 rfl ?_
    obtain ⟨M9, eM9, h⟩ := bd_ob h
    refine me_thenv0 (M1 := M9) (al_runIN (As := []) (rest := [.ref (ad 11 (mN M5 11)), .ref (ad 8 j0)]) ⟨hx, hb, hml, hown, hts⟩ (c_Num_init l D ad ca N M7 M9 (mN M5 11) eM9 hwf hn8 _) rfl (by show fg_nm y_Num_init 0; decide +kernel) o_363 u_364 u_187 u_365 ⟨Nat.le_of_ble_eq_true rfl, Nat.le_of_ble_eq_true rfl⟩ hX hz hK hP hD hS hA rfl hl.1 (Nat.le_of_ble_eq_true rfl) d_Reckoner_init_20 (al_f hok)) hP hD hK hS hA rfl rfl (fun H locs hw hP hD hS => ?_)
    obtain ⟨hwf, hk9⟩ := hw
    obtain ⟨M10, eM10, h⟩ := st_ob h
    refine P_Reckoner_1 eM10 hx hb hts hown hK hP hD hwf hS hj0 hn8 hin (hts _ u_397) d_Reckoner_init_23 (fun H locs hP hD hwf hS => ?_)
    refine lv_aload_n hx hb d_Reckoner_init_26 rfl (lv_at hl 0 rfl) ?_
    obtain ⟨g11, h⟩ := gd_ob h
    obtain ⟨M12, eM12, h⟩ := st_ob h
    refine al_new (k := 11) (fs := [.long 0, .long 0, .long 0, .long 0, .long 0, .long 0]) (C := "FilterGuard$Num") (T := F_Num) (Nf := 6) eM12 g11 hx hb hts i_Num t_Num t_Num_ok hown (hts _ u_361) (hts _ u_362) (hts _ u_187) hK hP hD hwf hok hS hA (by decide) rfl (by decide) z_Num rfl rfl rfl d_Reckoner_init_27 (fun ad N H hext hNN hn13 hwf hok1 hP hD hS => ?_)
    have hext0 := al_ext hext hext0 hok
    have hok := hok1
    have hl : lv_has ls 1 [(0, .ref (ad 8 j0))] := by rw [hext 8 j0 hj0]; exact hl
    refine W.eq (g2 := F0 m 30 ls [.ref (ad 11 (mN M10 11)), .ref (ad 8 j0)]) (by rw [hext 8 j0 hj0]) ?_
    have hj0 : j0 < N 8 := Nat.lt_of_lt_of_le hj0 (hNN 8)
    refine lv_dup hx hb d_Reckoner_init_30 rfl ?_
    obtain ⟨M14, eM14, h⟩ := bd_ob h
    refine me_thenv0 (M1 := M14) (al_runIN (As := []) (rest := [.ref (ad 11 (mN M10 11)), .ref (ad 8 j0)]) ⟨hx, hb, hml, hown, hts⟩ (c_Num_init l D ad ca N M12 M14 (mN M10 11) eM14 hwf hn13 _) rfl (by show fg_nm y_Num_init 0; decide +kernel) o_363 u_364 u_187 u_365 ⟨Nat.le_of_ble_eq_true rfl, Nat.le_of_ble_eq_true rfl⟩ hX hz hK hP hD hS hA rfl hl.1 (Nat.le_of_ble_eq_true rfl) d_Reckoner_init_31 (al_f hok)) hP hD hK hS hA rfl rfl (fun H locs hw hP hD hS => ?_)
    obtain ⟨hwf, hk9⟩ := hw
    obtain ⟨M15, eM15, h⟩ := st_ob h
    refine P_Reckoner_2 eM15 hx hb hts hown hK hP hD hwf hS hj0 hn13 hin (hts _ u_398) d_Reckoner_init_34 (fun H locs hP hD hwf hS => ?_)
    refine lv_aload_n hx hb d_Reckoner_init_37 rfl (lv_at hl 0 rfl) ?_
    obtain ⟨g16, h⟩ := gd_ob h
    obtain ⟨M17, eM17, h⟩ := st_ob h
    refine al_new (k := 11) (fs := [.long 0, .long 0, .long 0, .long 0, .long 0, .long 0]) (C := "FilterGuard$Num") (T := F_Num) (Nf := 6) eM17 g16 hx hb hts i_Num t_Num t_Num_ok hown (hts _ u_361) (hts _ u_362) (hts _ u_187) hK hP hD hwf hok hS hA (by decide) rfl (by decide) z_Num rfl rfl rfl d_Reckoner_init_38 (fun ad N H hext hNN hn18 hwf hok1 hP hD hS => ?_)
    have hext0 := al_ext hext hext0 hok
    have hok := hok1
    have hl : lv_has ls 1 [(0, .ref (ad 8 j0))] := by rw [hext 8 j0 hj0]; exact hl
    refine W.eq (g2 := F0 m 41 ls [.ref (ad 11 (mN M15 11)), .ref (ad 8 j0)]) (by rw [hext 8 j0 hj0]) ?_
    have hj0 : j0 < N 8 := Nat.lt_of_lt_of_le hj0 (hNN 8)
    refine lv_dup hx hb d_Reckoner_init_41 rfl ?_
    obtain ⟨M19, eM19, h⟩ := bd_ob h
    refine me_thenv0 (M1 := M19) (al_runIN (As := []) (rest := [.ref (ad 11 (mN M15 11)), .ref (ad 8 j0)]) ⟨hx, hb, hml, hown, hts⟩ (c_Num_init l D ad ca N M17 M19 (mN M15 11) eM19 hwf hn18 _) rfl (by show fg_nm y_Num_init 0; decide +kernel) o_363 u_364 u_187 u_365 ⟨Nat.le_of_ble_eq_true rfl, Nat.le_of_ble_eq_true rfl⟩ hX hz hK hP hD hS hA rfl hl.1 (Nat.le_of_ble_eq_true rfl) d_Reckoner_init_42 (al_f hok)) hP hD hK hS hA rfl rfl (fun H locs hw hP hD hS => ?_)
    obtain ⟨hwf, hk9⟩ := hw
    obtain ⟨M20, eM20, h⟩ := st_ob h
    refine P_Reckoner_3 eM20 hx hb hts hown hK hP hD hwf hS hj0 hn18 hin (hts _ u_399) d_Reckoner_init_45 (fun H locs hP hD hwf hS => ?_)
    refine lv_aload_n hx hb d_Reckoner_init_48 rfl (lv_at hl 0 rfl) ?_
    obtain ⟨g21, h⟩ := gd_ob h
    obtain ⟨M22, eM22, h⟩ := st_ob h
    refine al_new (k := 11) (fs := [.long 0, .long 0, .long 0, .long 0, .long 0, .long 0]) (C := "FilterGuard$Num") (T := F_Num) (Nf := 6) eM22 g21 hx hb hts i_Num t_Num t_Num_ok hown (hts _ u_361) (hts _ u_362) (hts _ u_187) hK hP hD hwf hok hS hA (by decide) rfl (by decide) z_Num rfl rfl rfl d_Reckoner_init_49 (fun ad N H hext hNN hn23 hwf hok1 hP hD hS => ?_)
    have hext0 := al_ext hext hext0 hok
    have hok := hok1
    have hl : lv_has ls 1 [(0, .ref (ad 8 j0))] := by rw [hext 8 j0 hj0]; exact hl
    refine W.eq (g2 := F0 m 52 ls [.ref (ad 11 (mN M20 11)), .ref (ad 8 j0)]) (by rw [hext 8 j0 hj0]) ?_
    have hj0 : j0 < N 8 := Nat.lt_of_lt_of_le hj0 (hNN 8)
    refine lv_dup hx hb d_Reckoner_init_52 rfl ?_
    obtain ⟨M24, eM24, h⟩ := bd_ob h
    refine me_thenv0 (M1 := M24) (al_runIN (As := []) (rest := [.ref (ad 11 (mN M20 11)), .ref (ad 8 j0)]) ⟨hx, hb, hml, hown, hts⟩ (c_Num_init l D ad ca N M22 M24 (mN M20 11) eM24 hwf hn23 _) rfl (by show fg_nm y_Num_init 0; decide +kernel) o_363 u_364 u_187 u_365 ⟨Nat.le_of_ble_eq_true rfl, Nat.le_of_ble_eq_true rfl⟩ hX hz hK hP hD hS hA rfl hl.1 (Nat.le_of_ble_eq_true rfl) d_Reckoner_init_53 (al_f hok)) hP hD hK hS hA rfl rfl (fun H locs hw hP hD hS => ?_)
    obtain ⟨hwf, hk9⟩ := hw
    obtain ⟨M25, eM25, h⟩ := st_ob h
    refine P_Reckoner_4 eM25 hx hb hts hown hK hP hD hwf hS hj0 hn23 hin (hts _ u_400) d_Reckoner_init_56 (fun H locs hP hD hwf hS => ?_)
    exact al_retv h hx hb hr hlocks hwf hok hext0 hP hK hD hS d_Reckoner_init_59
  rw [hN9] at hcs
  exact hcs
theorem d_Cell_init_0 : decode prog_2_method_1_code 0 = .ok (.aload_n 0, 1) := by decide +kernel
theorem d_Cell_init_1 : decode prog_2_method_1_code 1 = .ok (.invokespecial 3, 3) := by decide +kernel
theorem u_417 : Cond.methodLink "FilterGuard$Cell" 3 ⟨"java/lang/Object", "<init>", "()V"⟩ ∈ fg_g := fg_in (List.mem_of_getElem? (i := 417) (by decide +kernel)) rfl
theorem d_Cell_init_4 : decode prog_2_method_1_code 4 = .ok (.aload_n 0, 1) := by decide +kernel
theorem d_Cell_init_5 : decode prog_2_method_1_code 5 = .ok (.new 9, 3) := by decide +kernel
theorem u_418 : Cond.classLink "FilterGuard$Cell" 9 "FilterGuard$Num" ∈ fg_g := fg_in (List.mem_of_getElem? (i := 418) (by decide +kernel)) rfl
theorem d_Cell_init_8 : decode prog_2_method_1_code 8 = .ok (.dup, 1) := by decide +kernel
theorem d_Cell_init_9 : decode prog_2_method_1_code 9 = .ok (.invokespecial 11, 3) := by decide +kernel
theorem o_419 : Cond.methodLinkNest "FilterGuard$Cell" 11 ⟨"FilterGuard$Num", "<init>", "()V"⟩ "FilterGuard" ∈ lw_tbl := List.mem_of_getElem? (i := 419) (by decide +kernel)
theorem d_Cell_init_12 : decode prog_2_method_1_code 12 = .ok (.putfield 12, 3) := by decide +kernel
theorem u_435 : Cond.fieldLink "FilterGuard$Cell" 12 "FilterGuard$Cell" "number" "LFilterGuard$Num;" ∈ fg_g := fg_in (List.mem_of_getElem? (i := 435) (by decide +kernel)) rfl
theorem P_Cell_6 {p : Program} {l : Launch} {e : Env} {R : Room} {s : Jvm.State} {m : MethodId} {args : Array Value} {below : List Frame} {meth : Method} {c : Code} {H : Heap} {locs : List Loc} {cells slots : Nat} {Q : Jvm.State → Prop} {cc : ByteArray} {pc : Nat} {ls : Array Slot} {rest : List Value} {D : va_G} {A : Nat → Prop} {H0 : Heap} {ad : Nat → Nat → Nat} {ca : Nat → ClassId} {M M1 : me_M} {N : Nat → Nat} {index j : Nat} {v : Nat} (he : M1 = wR M 10 j 6 (some v)) (hexec : p.tables.exec = Jvm.exec) (hb : c.code = cc) (hts : ∀ w ∈ fg_g, w.before args s = true) (hown : s.vm.findClass "FilterGuard$Cell" = some m.cls) (hK : va_K D classes (me_T ca) s) (hP : va_P D classes (me_W ad ca M) H) (hD : va_D A (me_W ad ca M)) (hwf : me_wf N M) (hS : va_S A H0 H locs) (hj : j < N 10) (hv : v < N 11) (hin2 : meth.name = "<init>") (hlink : (Cond.fieldLink "FilterGuard$Cell" index "FilterGuard$Cell" "number" "LFilterGuard$Num;").before args s = true) (hdg : decode cc pc = .ok (.putfield index, 3)) (kk : ∀ (H1 : Heap) (locs1 : List Loc), va_P D classes (me_W ad ca M1) H1 → va_D A (me_W ad ca M1) → me_wf N M1 → va_S A H0 H1 locs1 → W p l e R s m args below meth c H1 locs1 cells slots Q (F0 m (pc + 3) ls rest)) : W p l e R s m args below meth c H locs cells slots Q (F0 m pc ls (.ref (ad 11 v) :: .ref (ad 10 j) :: rest)) := by
  subst he
  exact me_putF (M1 := wR M 10 j 6 (some v)) (k := 10) (f := 6) (C := "FilterGuard$Cell") (T := F_Cell) (Nf := 7) hexec hb hts i_Cell t_Cell t_Cell_ok n_Cell hown hK hP hD hwf hS hj (by decide) rfl (by decide) (by decide) hlink (fun _ h9 => h9) rfl hin2 rfl rfl rfl rfl (fun a b h => me_wRE h) (me_fRw (v := some v) (by decide) (by decide)) hdg (fun H1 locs1 a1 a2 a3 => kk H1 locs1 a1 a2 (me_wfR hwf (fun t z => by cases z; exact hv)) a3)
theorem d_Cell_init_15 : decode prog_2_method_1_code 15 = .ok (.return_, 1) := by decide +kernel
abbrev y_Cell_init : MethodName := ⟨"FilterGuard$Cell", "<init>", "()V"⟩
def rm_Cell_init (N0 : Nat → Nat) : Room := { frames := 2, cells := me_CL - me_cN N0, slots := me_SL - me_sN N0, locals := 50 }
abbrev q_Cell_init (D : va_G) (ad0 : Nat → Nat → Nat) (ca : Nat → ClassId) (N0 : Nat → Nat) (MZ : me_M) (A : Nat → Prop) : Array Value → Jvm.State → Outcome → Jvm.State → Prop := va_Qv (fun (u : Nat → Nat → Nat) => al_P ad0 N0 MZ u ∧ True) (fg_B D A (fun u => me_W u ca MZ) (fun _ => [])) A
set_option maxHeartbeats 4000000 in
set_option maxRecDepth 100000 in
theorem c_Cell_init (l : Launch) (D : va_G) (ad0 : Nat → Nat → Nat) (ca : Nat → ClassId) (N0 : Nat → Nat) (M0 MZ : me_M) (j0 : Nat) (h : f_Cell_init M0 j0 = (some MZ)) (hwf : me_wf N0 M0) (hcl : me_cN N0 ≤ me_CL ∧ me_sN N0 ≤ me_SL) (hj0 : j0 < N0 10) (sz : Nat) : Met l y_Cell_init (fg_w y_Cell_init prog_2_method_1_code 1 none) (rm_Cell_init N0) (va_Pc [.ref (ad0 10 j0)] (fz_P D (me_T ca) (me_W ad0 ca M0) sz)) (q_Cell_init D ad0 ca N0 MZ (va_A (me_W ad0 ca M0) sz)) (me_cN (mN MZ) - me_cN N0) (me_sN (mN MZ) - me_sN N0) (va_A (me_W ad0 ca M0) sz) := by
  refine fz_enter (fun A => q_Cell_init D ad0 ca N0 MZ A) (by decide +kernel) (Nat.le_of_ble_eq_true rfl) ?_
  intro p e s m below meth c ls A hx hb hml hown hts hr hlocks hin hP hK hD hS hA hX hl hz
  refine W.widen (k := me_cN N0 - me_cN N0) (n := me_sN N0 - me_sN N0) (Nat.zero_le _) (Nat.zero_le _) ?_
  unfold f_Cell_init at h
  have hok : me_ok N0 N0 := me_ok.rf hcl
  obtain ⟨ad, N, hext0, hok, hwf, hP, hD, hN9, had9, hj0⟩ : ∃ (ad : Nat → Nat → Nat) (N : Nat → Nat), (∀ a b, b < N0 a → ad a b = ad0 a b) ∧ me_ok N0 N ∧ me_wf N M0 ∧ va_P D classes (me_W ad ca M0) s.heap ∧ va_D A (me_W ad ca M0) ∧ N = N0 ∧ ad = ad0 ∧ j0 < N 10 := ⟨ad0, N0, fun _ _ _ => rfl, hok, hwf, hP, hD, rfl, rfl, hj0⟩
  have hl : lv_has ls 1 [(0, .ref (ad 10 j0))] := by rw [had9]; exact hl
  have hcs : W p l e (rm_Cell_init N0) s m [.ref (ad0 10 j0)].toArray below meth c s.heap [] (me_cN N - me_cN N0) (me_sN N - me_sN N0) (MQ below (q_Cell_init D ad0 ca N0 MZ A) [.ref (ad0 10 j0)].toArray s (me_cN (mN MZ) - me_cN N0) (me_sN (mN MZ) - me_sN N0) A) (F0 m 0 ls []) := by
    clear had9
    refine lv_aload_n hx hb d_Cell_init_0 rfl (lv_at hl 0 rfl) ?_
    refine W.objInit hx hb hown (hts _ u_417) (hts _ u_210) (hts _ u_211) rfl (by rw [hml]; exact hl.1) rfl d_Cell_init_1 (Nat.le_of_ble_eq_true rfl) (Nat.le_of_ble_eq_true rfl) ?_
    refine W.eq (g2 := F0 m 4 ls []) rfl ?_
    refine lv_aload_n hx hb d_Cell_init_4 rfl (lv_at hl 0 rfl) ?_
    obtain ⟨g1, h⟩ := gd_ob h
    obtain ⟨M2, eM2, h⟩ := st_ob h
    refine al_new (k := 11) (fs := [.long 0, .long 0, .long 0, .long 0, .long 0, .long 0]) (C := "FilterGuard$Num") (T := F_Num) (Nf := 6) eM2 g1 hx hb hts i_Num t_Num t_Num_ok hown (hts _ u_418) (hts _ u_362) (hts _ u_187) hK hP hD hwf hok hS hA (by decide) rfl (by decide) z_Num rfl rfl rfl d_Cell_init_5 (fun ad N H hext hNN hn3 hwf hok1 hP hD hS => ?_)
    have hext0 := al_ext hext hext0 hok
    have hok := hok1
    have hl : lv_has ls 1 [(0, .ref (ad 10 j0))] := by rw [hext 10 j0 hj0]; exact hl
    refine W.eq (g2 := F0 m 8 ls [.ref (ad 11 (mN M0 11)), .ref (ad 10 j0)]) (by rw [hext 10 j0 hj0]) ?_
    have hj0 : j0 < N 10 := Nat.lt_of_lt_of_le hj0 (hNN 10)
    refine lv_dup hx hb d_Cell_init_8 rfl ?_
    obtain ⟨M4, eM4, h⟩ := bd_ob h
    refine me_thenv0 (M1 := M4) (al_runIN (As := []) (rest := [.ref (ad 11 (mN M0 11)), .ref (ad 10 j0)]) ⟨hx, hb, hml, hown, hts⟩ (c_Num_init l D ad ca N M2 M4 (mN M0 11) eM4 hwf hn3 _) rfl (by show fg_nm y_Num_init 0; decide +kernel) o_419 u_364 u_187 u_365 ⟨Nat.le_of_ble_eq_true rfl, Nat.le_of_ble_eq_true rfl⟩ hX hz hK hP hD hS hA rfl hl.1 (Nat.le_of_ble_eq_true rfl) d_Cell_init_9 (al_f hok)) hP hD hK hS hA rfl rfl (fun H locs hw hP hD hS => ?_)
    obtain ⟨hwf, hk9⟩ := hw
    obtain ⟨M5, eM5, h⟩ := st_ob h
    refine P_Cell_6 eM5 hx hb hts hown hK hP hD hwf hS hj0 hn3 hin (hts _ u_435) d_Cell_init_12 (fun H locs hP hD hwf hS => ?_)
    exact al_retv h hx hb hr hlocks hwf hok hext0 hP hK hD hS d_Cell_init_15
  rw [hN9] at hcs
  exact hcs
