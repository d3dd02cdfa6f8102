theorem d_Checks_begin_0 : decode prog_3_method_2_code 0 = .ok (.aload_n 0, 1) := by decide +kernel
theorem d_Checks_begin_1 : decode prog_3_method_2_code 1 = .ok (.getfield 12, 3) := by decide +kernel
theorem d_Checks_begin_4 : decode prog_3_method_2_code 4 = .ok (.invokevirtual 31, 3) := by decide +kernel
theorem u_1594 : Cond.methodLink "FilterGuard$Checks" 31 ⟨"FilterGuard$State", "atFirst", "()V"⟩ ∈ fg_g := fg_in (List.mem_of_getElem? (i := 1594) (by decide +kernel)) rfl
theorem d_Checks_begin_7 : decode prog_3_method_2_code 7 = .ok (.return_, 1) := by decide +kernel
abbrev y_Checks_begin : MethodName := ⟨"FilterGuard$Checks", "begin", "()V"⟩
def rm_Checks_begin : Room := { frames := 4, cells := 0, slots := 0, locals := 84 }
abbrev q_Checks_begin (D : va_G) (ad : Nat → Nat → Nat) (ca : Nat → ClassId) (N : Nat → Nat) (M0 MZ : me_M) (A : Nat → Prop) : Array Value → Jvm.State → Outcome → Jvm.State → Prop := va_Qv (fun (_ : Unit) => me_wf N MZ ∧ me_kp M0 MZ) (fg_B D A (fun _ => me_W ad ca MZ) (fun _ => [])) A
set_option maxHeartbeats 4000000 in
set_option maxRecDepth 100000 in
theorem c_Checks_begin (l : Launch) (D : va_G) (ad : Nat → Nat → Nat) (ca : Nat → ClassId) (N : Nat → Nat) (M0 MZ : me_M) (j0 : Nat) (h : f_Checks_begin M0 j0 = (some MZ)) (hwf : me_wf N M0) (hj0 : j0 < N 6) (sz : Nat) : Met l y_Checks_begin (fg_w y_Checks_begin prog_3_method_2_code 1 none) rm_Checks_begin (va_Pc [.ref (ad 6 j0)] (fz_P D (me_T ca) (me_W ad ca M0) sz)) (q_Checks_begin D ad ca N M0 MZ (va_A (me_W ad ca M0) sz)) rm_Checks_begin.cells rm_Checks_begin.slots (va_A (me_W ad ca M0) sz) := by
  refine fz_enter (fun A => q_Checks_begin D ad ca N M0 MZ A) (by decide +kernel) (Nat.le_of_ble_eq_true rfl) ?_
  intro p e s m below meth c ls A hx hb hml hown hts hr hlocks hin hP hK hD hS hA hX hl hz
  have hl : lv_has ls 1 [(0, .ref (ad 6 j0))] := hl
  unfold f_Checks_begin at h
  have hkp : me_kp M0 M0 := me_kp.rf
  have hkb := hkp
  refine lv_aload_n hx hb d_Checks_begin_0 rfl (lv_at hl 0 rfl) ?_
  refine g_Checks_2 hx hb hts hown hK hP hwf hj0 (hts _ u_612) d_Checks_begin_1 ?_
  obtain ⟨j1, e2, h⟩ := bd_ob h
  have hj1 : j1 < N 9 := (hwf.2.1 6 j0 2 _ e2 (by decide) hj0)
  refine me_opt (j := j1) e2 ?_
  obtain ⟨M3, eM3, h⟩ := bd_ob h
  refine me_thenv0 (M1 := M3) (me_runV (C := "FilterGuard$State") (As := []) (rest := []) ⟨hx, hb, hml, hown, hts⟩ (c_State_atFirst l D ad ca N M0 M3 j1 eM3 hwf hj1 _) rfl (by show fg_nm y_State_atFirst 0; decide +kernel) u_1594 u_1021 u_1022 u_189 u_1023 ⟨Nat.le_of_ble_eq_true rfl, Nat.le_of_ble_eq_true rfl⟩ hX hz hK hP hD hwf hS hA hj1 (by decide) rfl rfl rfl hl.1 (Nat.le_of_ble_eq_true rfl) d_Checks_begin_4 ⟨Nat.le_of_ble_eq_true rfl, Nat.le_of_ble_eq_true rfl⟩) hP hD hK hS hA rfl rfl (fun H locs hw hP hD hS => ?_)
  obtain ⟨hwf, hk9⟩ := hw
  have hkp := hkp.tr hk9
  exact me_retv (me_kp M0) h hx hb hr hlocks hwf hkp hP hK hD hS d_Checks_begin_7
theorem d_Machine_begin_22 : decode prog_7_method_5_code 22 = .ok (.putfield 48, 3) := by decide +kernel
theorem d_Machine_begin_25 : decode prog_7_method_5_code 25 = .ok (.aload_n 0, 1) := by decide +kernel
theorem d_Machine_begin_26 : decode prog_7_method_5_code 26 = .ok (.dup, 1) := by decide +kernel
theorem d_Machine_begin_27 : decode prog_7_method_5_code 27 = .ok (.getfield 108, 3) := by decide +kernel
theorem u_640 : Cond.fieldLink "FilterGuard$Machine" 108 "FilterGuard$Machine" "runs" "I" ∈ fg_g := fg_in (List.mem_of_getElem? (i := 640) (by decide +kernel)) rfl
theorem g_Machine_12 {p : Program} {l : Launch} {e : Env} {R : Room} {s : Jvm.State} {m : MethodId} {args : Array Value} {below : List Frame} {meth : Method} {c : Code} {H : Heap} {locs : List Loc} {cells slots : Nat} {Q : Jvm.State → Prop} {cc : ByteArray} {pc : Nat} {ls : Array Slot} {rest : List Value} {D : va_G} {ad : Nat → Nat → Nat} {ca : Nat → ClassId} {M : me_M} {N : Nat → Nat} {own : String} {index j : Nat} (hexec : p.tables.exec = Jvm.exec) (hb : c.code = cc) (hts : ∀ w ∈ fg_g, w.before args s = true) (hown : s.vm.findClass own = some m.cls) (hK : va_K D classes (me_T ca) s) (hP : va_P D classes (me_W ad ca M) H) (hwf : me_wf N M) (hj : j < N 5) (hlink : (Cond.fieldLink own index "FilterGuard$Machine" "runs" "I").before args s = true) (hdg : decode cc pc = .ok (.getfield index, 3)) (kk : W p l e R s m args below meth c H locs cells slots Q (F0 m (pc + 3) ls (.int (mI M 5 j 12) :: rest))) : W p l e R s m args below meth c H locs cells slots Q (F0 m pc ls (.ref (ad 5 j) :: rest)) := me_get (k := 5) (f := 12) (C := "FilterGuard$Machine") (T := F_Machine) (Nf := 20) hexec hb hts i_Machine hown hK hP hwf hj (by decide) rfl (by decide) (by decide) hlink (fun _ h9 => h9) hdg kk
theorem d_Machine_begin_30 : decode prog_7_method_5_code 30 = .ok (.iconst 1, 1) := by decide +kernel
theorem d_Machine_begin_31 : decode prog_7_method_5_code 31 = .ok (.iadd, 1) := by decide +kernel
theorem d_Machine_begin_32 : decode prog_7_method_5_code 32 = .ok (.putfield 108, 3) := by decide +kernel
theorem p_Machine_12 {p : Program} {l : Launch} {e : Env} {R : Room} {s : Jvm.State} {m : MethodId} {args : Array Value} {below : List Frame} {meth : Method} {c : Code} {H : Heap} {locs : List Loc} {cells slots : Nat} {Q : Jvm.State → Prop} {cc : ByteArray} {pc : Nat} {ls : Array Slot} {rest : List Value} {D : va_G} {A : Nat → Prop} {H0 : Heap} {ad : Nat → Nat → Nat} {ca : Nat → ClassId} {M M1 : me_M} {N : Nat → Nat} {own : String} {index j : Nat} {v : Int32} (he : M1 = wI M 5 j 12 v) (hexec : p.tables.exec = Jvm.exec) (hb : c.code = cc) (hts : ∀ w ∈ fg_g, w.before args s = true) (hown : s.vm.findClass own = some m.cls) (hK : va_K D classes (me_T ca) s) (hP : va_P D classes (me_W ad ca M) H) (hD : va_D A (me_W ad ca M)) (hwf : me_wf N M) (hS : va_S A H0 H locs) (hj : j < N 5) (hlink : (Cond.fieldLink own index "FilterGuard$Machine" "runs" "I").before args s = true) (hdg : decode cc pc = .ok (.putfield index, 3)) (kk : ∀ (H1 : Heap) (locs1 : List Loc), va_P D classes (me_W ad ca M1) H1 → va_D A (me_W ad ca M1) → me_wf N M1 → va_S A H0 H1 locs1 → W p l e R s m args below meth c H1 locs1 cells slots Q (F0 m (pc + 3) ls rest)) : W p l e R s m args below meth c H locs cells slots Q (F0 m pc ls (.int v :: .ref (ad 5 j) :: rest)) := by
  subst he
  exact me_put (M1 := wI M 5 j 12 v) (k := 5) (f := 12) (C := "FilterGuard$Machine") (T := F_Machine) (Nf := 20) hexec hb hts i_Machine t_Machine t_Machine_ok n_Machine hown hK hP hD hwf hS hj (by decide) rfl (by decide) (by decide) hlink (fun _ h9 => h9) rfl rfl rfl rfl (fun a b h => me_wIE h) (me_fIw (by decide) (by decide)) hdg (fun H1 locs1 a1 a2 a3 => kk H1 locs1 a1 a2 (me_wfI hwf (fun z => absurd z (by decide)) (fun z => absurd z (by decide))) a3)
theorem d_Machine_begin_35 : decode prog_7_method_5_code 35 = .ok (.aload_n 0, 1) := by decide +kernel
theorem d_Machine_begin_36 : decode prog_7_method_5_code 36 = .ok (.iconst 0, 1) := by decide +kernel
theorem d_Machine_begin_37 : decode prog_7_method_5_code 37 = .ok (.putfield 91, 3) := by decide +kernel
theorem u_644 : Cond.fieldLink "FilterGuard$Machine" 91 "FilterGuard$Machine" "done" "I" ∈ fg_g := fg_in (List.mem_of_getElem? (i := 644) (by decide +kernel)) rfl
theorem p_Machine_14 {p : Program} {l : Launch} {e : Env} {R : Room} {s : Jvm.State} {m : MethodId} {args : Array Value} {below : List Frame} {meth : Method} {c : Code} {H : Heap} {locs : List Loc} {cells slots : Nat} {Q : Jvm.State → Prop} {cc : ByteArray} {pc : Nat} {ls : Array Slot} {rest : List Value} {D : va_G} {A : Nat → Prop} {H0 : Heap} {ad : Nat → Nat → Nat} {ca : Nat → ClassId} {M M1 : me_M} {N : Nat → Nat} {own : String} {index j : Nat} {v : Int32} (he : M1 = wI M 5 j 14 v) (hexec : p.tables.exec = Jvm.exec) (hb : c.code = cc) (hts : ∀ w ∈ fg_g, w.before args s = true) (hown : s.vm.findClass own = some m.cls) (hK : va_K D classes (me_T ca) s) (hP : va_P D classes (me_W ad ca M) H) (hD : va_D A (me_W ad ca M)) (hwf : me_wf N M) (hS : va_S A H0 H locs) (hj : j < N 5) (hlink : (Cond.fieldLink own index "FilterGuard$Machine" "done" "I").before args s = true) (hdg : decode cc pc = .ok (.putfield index, 3)) (kk : ∀ (H1 : Heap) (locs1 : List Loc), va_P D classes (me_W ad ca M1) H1 → va_D A (me_W ad ca M1) → me_wf N M1 → va_S A H0 H1 locs1 → W p l e R s m args below meth c H1 locs1 cells slots Q (F0 m (pc + 3) ls rest)) : W p l e R s m args below meth c H locs cells slots Q (F0 m pc ls (.int v :: .ref (ad 5 j) :: rest)) := by
  subst he
  exact me_put (M1 := wI M 5 j 14 v) (k := 5) (f := 14) (C := "FilterGuard$Machine") (T := F_Machine) (Nf := 20) hexec hb hts i_Machine t_Machine t_Machine_ok n_Machine hown hK hP hD hwf hS hj (by decide) rfl (by decide) (by decide) hlink (fun _ h9 => h9) rfl rfl rfl rfl (fun a b h => me_wIE h) (me_fIw (by decide) (by decide)) hdg (fun H1 locs1 a1 a2 a3 => kk H1 locs1 a1 a2 (me_wfI hwf (fun z => absurd z (by decide)) (fun z => absurd z (by decide))) a3)
theorem d_Machine_begin_40 : decode prog_7_method_5_code 40 = .ok (.aload_n 0, 1) := by decide +kernel
theorem d_Machine_begin_41 : decode prog_7_method_5_code 41 = .ok (.iconst 0, 1) := by decide +kernel
theorem d_Machine_begin_42 : decode prog_7_method_5_code 42 = .ok (.putfield 76, 3) := by decide +kernel
theorem u_649 : Cond.fieldLink "FilterGuard$Machine" 76 "FilterGuard$Machine" "at" "I" ∈ fg_g := fg_in (List.mem_of_getElem? (i := 649) (by decide +kernel)) rfl
theorem p_Machine_17 {p : Program} {l : Launch} {e : Env} {R : Room} {s : Jvm.State} {m : MethodId} {args : Array Value} {below : List Frame} {meth : Method} {c : Code} {H : Heap} {locs : List Loc} {cells slots : Nat} {Q : Jvm.State → Prop} {cc : ByteArray} {pc : Nat} {ls : Array Slot} {rest : List Value} {D : va_G} {A : Nat → Prop} {H0 : Heap} {ad : Nat → Nat → Nat} {ca : Nat → ClassId} {M M1 : me_M} {N : Nat → Nat} {own : String} {index j : Nat} {v : Int32} (he : M1 = wI M 5 j 17 v) (hexec : p.tables.exec = Jvm.exec) (hb : c.code = cc) (hts : ∀ w ∈ fg_g, w.before args s = true) (hown : s.vm.findClass own = some m.cls) (hK : va_K D classes (me_T ca) s) (hP : va_P D classes (me_W ad ca M) H) (hD : va_D A (me_W ad ca M)) (hwf : me_wf N M) (hS : va_S A H0 H locs) (hj : j < N 5) (hlink : (Cond.fieldLink own index "FilterGuard$Machine" "at" "I").before args s = true) (hdg : decode cc pc = .ok (.putfield index, 3)) (kk : ∀ (H1 : Heap) (locs1 : List Loc), va_P D classes (me_W ad ca M1) H1 → va_D A (me_W ad ca M1) → me_wf N M1 → va_S A H0 H1 locs1 → W p l e R s m args below meth c H1 locs1 cells slots Q (F0 m (pc + 3) ls rest)) : W p l e R s m args below meth c H locs cells slots Q (F0 m pc ls (.int v :: .ref (ad 5 j) :: rest)) := by
  subst he
  exact me_put (M1 := wI M 5 j 17 v) (k := 5) (f := 17) (C := "FilterGuard$Machine") (T := F_Machine) (Nf := 20) hexec hb hts i_Machine t_Machine t_Machine_ok n_Machine hown hK hP hD hwf hS hj (by decide) rfl (by decide) (by decide) hlink (fun _ h9 => h9) rfl rfl rfl rfl (fun a b h => me_wIE h) (me_fIw (by decide) (by decide)) hdg (fun H1 locs1 a1 a2 a3 => kk H1 locs1 a1 a2 (me_wfI hwf (fun z => absurd z (by decide)) (fun z => absurd z (by decide))) a3)
theorem d_Machine_begin_45 : decode prog_7_method_5_code 45 = .ok (.aload_n 0, 1) := by decide +kernel
theorem d_Machine_begin_46 : decode prog_7_method_5_code 46 = .ok (.aload_n 0, 1) := by decide +kernel
theorem d_Machine_begin_47 : decode prog_7_method_5_code 47 = .ok (.getfield 60, 3) := by decide +kernel
theorem d_Machine_begin_50 : decode prog_7_method_5_code 50 = .ok (.putfield 111, 3) := by decide +kernel
theorem u_646 : Cond.fieldLink "FilterGuard$Machine" 111 "FilterGuard$Machine" "ranPacket" "I" ∈ fg_g := fg_in (List.mem_of_getElem? (i := 646) (by decide +kernel)) rfl
theorem p_Machine_15 {p : Program} {l : Launch} {e : Env} {R : Room} {s : Jvm.State} {m : MethodId} {args : Array Value} {below : List Frame} {meth : Method} {c : Code} {H : Heap} {locs : List Loc} {cells slots : Nat} {Q : Jvm.State → Prop} {cc : ByteArray} {pc : Nat} {ls : Array Slot} {rest : List Value} {D : va_G} {A : Nat → Prop} {H0 : Heap} {ad : Nat → Nat → Nat} {ca : Nat → ClassId} {M M1 : me_M} {N : Nat → Nat} {own : String} {index j : Nat} {v : Int32} (he : M1 = wI M 5 j 15 v) (hexec : p.tables.exec = Jvm.exec) (hb : c.code = cc) (hts : ∀ w ∈ fg_g, w.before args s = true) (hown : s.vm.findClass own = some m.cls) (hK : va_K D classes (me_T ca) s) (hP : va_P D classes (me_W ad ca M) H) (hD : va_D A (me_W ad ca M)) (hwf : me_wf N M) (hS : va_S A H0 H locs) (hj : j < N 5) (hlink : (Cond.fieldLink own index "FilterGuard$Machine" "ranPacket" "I").before args s = true) (hdg : decode cc pc = .ok (.putfield index, 3)) (kk : ∀ (H1 : Heap) (locs1 : List Loc), va_P D classes (me_W ad ca M1) H1 → va_D A (me_W ad ca M1) → me_wf N M1 → va_S A H0 H1 locs1 → W p l e R s m args below meth c H1 locs1 cells slots Q (F0 m (pc + 3) ls rest)) : W p l e R s m args below meth c H locs cells slots Q (F0 m pc ls (.int v :: .ref (ad 5 j) :: rest)) := by
  subst he
  exact me_put (M1 := wI M 5 j 15 v) (k := 5) (f := 15) (C := "FilterGuard$Machine") (T := F_Machine) (Nf := 20) hexec hb hts i_Machine t_Machine t_Machine_ok n_Machine hown hK hP hD hwf hS hj (by decide) rfl (by decide) (by decide) hlink (fun _ h9 => h9) rfl rfl rfl rfl (fun a b h => me_wIE h) (me_fIw (by decide) (by decide)) hdg (fun H1 locs1 a1 a2 a3 => kk H1 locs1 a1 a2 (me_wfI hwf (fun z => absurd z (by decide)) (fun z => absurd z (by decide))) a3)
theorem d_Machine_begin_53 : decode prog_7_method_5_code 53 = .ok (.aload_n 0, 1) := by decide +kernel
theorem d_Machine_begin_54 : decode prog_7_method_5_code 54 = .ok (.getfield 18, 3) := by decide +kernel
theorem g_Machine_6 {p : Program} {l : Launch} {e : Env} {R : Room} {s : Jvm.State} {m : MethodId} {args : Array Value} {below : List Frame} {meth : Method} {c : Code} {H : Heap} {locs : List Loc} {cells slots : Nat} {Q : Jvm.State → Prop} {cc : ByteArray} {pc : Nat} {ls : Array Slot} {rest : List Value} {D : va_G} {ad : Nat → Nat → Nat} {ca : Nat → ClassId} {M : me_M} {N : Nat → Nat} {own : String} {index j : Nat} (hexec : p.tables.exec = Jvm.exec) (hb : c.code = cc) (hts : ∀ w ∈ fg_g, w.before args s = true) (hown : s.vm.findClass own = some m.cls) (hK : va_K D classes (me_T ca) s) (hP : va_P D classes (me_W ad ca M) H) (hwf : me_wf N M) (hj : j < N 5) (hlink : (Cond.fieldLink own index "FilterGuard$Machine" "registers" "[J").before args s = true) (hdg : decode cc pc = .ok (.getfield index, 3)) (kk : W p l e R s m args below meth c H locs cells slots Q (F0 m (pc + 3) ls (va_rf ((mR M 5 j 6).map (ad 16)) :: rest))) : W p l e R s m args below meth c H locs cells slots Q (F0 m pc ls (.ref (ad 5 j) :: rest)) := me_get (k := 5) (f := 6) (C := "FilterGuard$Machine") (T := F_Machine) (Nf := 20) hexec hb hts i_Machine hown hK hP hwf hj (by decide) rfl (by decide) (by decide) hlink (fun _ h9 => h9) hdg kk
theorem d_Machine_begin_57 : decode prog_7_method_5_code 57 = .ok (.lconst 0, 1) := by decide +kernel
theorem d_Machine_begin_58 : decode prog_7_method_5_code 58 = .ok (.invokestatic 114, 3) := by decide +kernel
theorem u_1580 : Cond.methodLink "FilterGuard$Machine" 114 ⟨"java/util/Arrays", "fill", "([JJ)V"⟩ ∈ fg_g := fg_in (List.mem_of_getElem? (i := 1580) (by decide +kernel)) rfl
theorem u_1582 : Cond.code ⟨"java/util/Arrays", "fill", "([JJ)V"⟩ prog_26_method_101_code 5 none ∈ fg_g := fg_in (List.mem_of_getElem? (i := 1582) (by decide +kernel)) rfl
theorem u_1581 : Cond.static ⟨"java/util/Arrays", "fill", "([JJ)V"⟩ ∈ fg_g := fg_in (List.mem_of_getElem? (i := 1581) (by decide +kernel)) rfl
theorem d_Machine_begin_61 : decode prog_7_method_5_code 61 = .ok (.aload_n 0, 1) := by decide +kernel
theorem d_Machine_begin_62 : decode prog_7_method_5_code 62 = .ok (.getfield 15, 3) := by decide +kernel
theorem d_Machine_begin_65 : decode prog_7_method_5_code 65 = .ok (.iconst 0, 1) := by decide +kernel
theorem d_Machine_begin_66 : decode prog_7_method_5_code 66 = .ok (.invokestatic 120, 3) := by decide +kernel
theorem u_1583 : Cond.methodLink "FilterGuard$Machine" 120 ⟨"java/util/Arrays", "fill", "([BB)V"⟩ ∈ fg_g := fg_in (List.mem_of_getElem? (i := 1583) (by decide +kernel)) rfl
theorem u_1585 : Cond.code ⟨"java/util/Arrays", "fill", "([BB)V"⟩ prog_26_method_109_code 4 none ∈ fg_g := fg_in (List.mem_of_getElem? (i := 1585) (by decide +kernel)) rfl
theorem u_1584 : Cond.static ⟨"java/util/Arrays", "fill", "([BB)V"⟩ ∈ fg_g := fg_in (List.mem_of_getElem? (i := 1584) (by decide +kernel)) rfl
theorem d_Machine_begin_69 : decode prog_7_method_5_code 69 = .ok (.aload_n 0, 1) := by decide +kernel
theorem d_Machine_begin_70 : decode prog_7_method_5_code 70 = .ok (.iconst 0, 1) := by decide +kernel
theorem d_Machine_begin_71 : decode prog_7_method_5_code 71 = .ok (.iconst 3, 1) := by decide +kernel
theorem d_Machine_begin_72 : decode prog_7_method_5_code 72 = .ok (.invokestatic 123, 3) := by decide +kernel
theorem o_1586 : Cond.methodLinkNest "FilterGuard$Machine" 123 ⟨"FilterGuard", "baseOf", "(I)J"⟩ "FilterGuard" ∈ lw_tbl := List.mem_of_getElem? (i := 1586) (by decide +kernel)
theorem u_1588 : Cond.code ⟨"FilterGuard", "baseOf", "(I)J"⟩ prog_1_method_19_code 1 (some .long) ∈ fg_g := fg_in (List.mem_of_getElem? (i := 1588) (by decide +kernel)) rfl
theorem u_1587 : Cond.static ⟨"FilterGuard", "baseOf", "(I)J"⟩ ∈ fg_g := fg_in (List.mem_of_getElem? (i := 1587) (by decide +kernel)) rfl
theorem d_Machine_begin_75 : decode prog_7_method_5_code 75 = .ok (.invokevirtual 127, 3) := by decide +kernel
theorem u_1589 : Cond.methodLink "FilterGuard$Machine" 127 ⟨"FilterGuard$Machine", "writeContext", "(IJ)V"⟩ ∈ fg_g := fg_in (List.mem_of_getElem? (i := 1589) (by decide +kernel)) rfl
theorem d_Machine_begin_78 : decode prog_7_method_5_code 78 = .ok (.aload_n 0, 1) := by decide +kernel
theorem d_Machine_begin_79 : decode prog_7_method_5_code 79 = .ok (.bipush 8, 2) := by decide +kernel
theorem d_Machine_begin_81 : decode prog_7_method_5_code 81 = .ok (.iconst 3, 1) := by decide +kernel
theorem d_Machine_begin_82 : decode prog_7_method_5_code 82 = .ok (.invokestatic 123, 3) := by decide +kernel
theorem d_Machine_begin_85 : decode prog_7_method_5_code 85 = .ok (.aload_n 0, 1) := by decide +kernel
theorem d_Machine_begin_86 : decode prog_7_method_5_code 86 = .ok (.getfield 60, 3) := by decide +kernel
theorem d_Machine_begin_89 : decode prog_7_method_5_code 89 = .ok (.i2l, 1) := by decide +kernel
theorem d_Machine_begin_90 : decode prog_7_method_5_code 90 = .ok (.ladd, 1) := by decide +kernel
theorem d_Machine_begin_91 : decode prog_7_method_5_code 91 = .ok (.invokevirtual 127, 3) := by decide +kernel
theorem d_Machine_begin_94 : decode prog_7_method_5_code 94 = .ok (.aload_n 0, 1) := by decide +kernel
theorem d_Machine_begin_95 : decode prog_7_method_5_code 95 = .ok (.getfield 18, 3) := by decide +kernel
theorem d_Machine_begin_98 : decode prog_7_method_5_code 98 = .ok (.iconst 1, 1) := by decide +kernel
theorem d_Machine_begin_99 : decode prog_7_method_5_code 99 = .ok (.iconst 1, 1) := by decide +kernel
theorem d_Machine_begin_100 : decode prog_7_method_5_code 100 = .ok (.invokestatic 123, 3) := by decide +kernel
theorem d_Machine_begin_103 : decode prog_7_method_5_code 103 = .ok (.lastore, 1) := by decide +kernel
theorem d_Machine_begin_104 : decode prog_7_method_5_code 104 = .ok (.aload_n 0, 1) := by decide +kernel
theorem d_Machine_begin_105 : decode prog_7_method_5_code 105 = .ok (.getfield 18, 3) := by decide +kernel
theorem d_Machine_begin_108 : decode prog_7_method_5_code 108 = .ok (.bipush 10, 2) := by decide +kernel
theorem d_Machine_begin_110 : decode prog_7_method_5_code 110 = .ok (.iconst 2, 1) := by decide +kernel
theorem d_Machine_begin_111 : decode prog_7_method_5_code 111 = .ok (.invokestatic 123, 3) := by decide +kernel
theorem d_Machine_begin_114 : decode prog_7_method_5_code 114 = .ok (.lastore, 1) := by decide +kernel
theorem d_Machine_begin_115 : decode prog_7_method_5_code 115 = .ok (.aload_n 0, 1) := by decide +kernel
theorem d_Machine_begin_116 : decode prog_7_method_5_code 116 = .ok (.getfield 44, 3) := by decide +kernel
theorem g_Machine_3 {p : Program} {l : Launch} {e : Env} {R : Room} {s : Jvm.State} {m : MethodId} {args : Array Value} {below : List Frame} {meth : Method} {c : Code} {H : Heap} {locs : List Loc} {cells slots : Nat} {Q : Jvm.State → Prop} {cc : ByteArray} {pc : Nat} {ls : Array Slot} {rest : List Value} {D : va_G} {ad : Nat → Nat → Nat} {ca : Nat → ClassId} {M : me_M} {N : Nat → Nat} {own : String} {index j : Nat} (hexec : p.tables.exec = Jvm.exec) (hb : c.code = cc) (hts : ∀ w ∈ fg_g, w.before args s = true) (hown : s.vm.findClass own = some m.cls) (hK : va_K D classes (me_T ca) s) (hP : va_P D classes (me_W ad ca M) H) (hwf : me_wf N M) (hj : j < N 5) (hlink : (Cond.fieldLink own index "FilterGuard$Machine" "checks" "LFilterGuard$Checks;").before args s = true) (hdg : decode cc pc = .ok (.getfield index, 3)) (kk : W p l e R s m args below meth c H locs cells slots Q (F0 m (pc + 3) ls (va_rf ((mR M 5 j 3).map (ad 6)) :: rest))) : W p l e R s m args below meth c H locs cells slots Q (F0 m pc ls (.ref (ad 5 j) :: rest)) := me_get (k := 5) (f := 3) (C := "FilterGuard$Machine") (T := F_Machine) (Nf := 20) hexec hb hts i_Machine hown hK hP hwf hj (by decide) rfl (by decide) (by decide) hlink (fun _ h9 => h9) hdg kk
theorem d_Machine_begin_119 : decode prog_7_method_5_code 119 = .ok (.invokevirtual 130, 3) := by decide +kernel
theorem u_1590 : Cond.methodLink "FilterGuard$Machine" 130 ⟨"FilterGuard$Checks", "begin", "()V"⟩ ∈ fg_g := fg_in (List.mem_of_getElem? (i := 1590) (by decide +kernel)) rfl
theorem u_1593 : Cond.code ⟨"FilterGuard$Checks", "begin", "()V"⟩ prog_3_method_2_code 1 none ∈ fg_g := fg_in (List.mem_of_getElem? (i := 1593) (by decide +kernel)) rfl
theorem u_1591 : Cond.instanceMethod ⟨"FilterGuard$Checks", "begin", "()V"⟩ ∈ fg_g := fg_in (List.mem_of_getElem? (i := 1591) (by decide +kernel)) rfl
theorem u_1592 : Cond.selects "FilterGuard$Checks" ⟨"FilterGuard$Checks", "begin", "()V"⟩ ⟨"FilterGuard$Checks", "begin", "()V"⟩ ∈ fg_g := fg_in (List.mem_of_getElem? (i := 1592) (by decide +kernel)) rfl
theorem d_Machine_begin_122 : decode prog_7_method_5_code 122 = .ok (.return_, 1) := by decide +kernel
theorem d_Machine_begin_0 : decode prog_7_method_5_code 0 = .ok (.aload_n 0, 1) := by decide +kernel
theorem d_Machine_begin_1 : decode prog_7_method_5_code 1 = .ok (.iload_n 1, 1) := by decide +kernel
theorem d_Machine_begin_2 : decode prog_7_method_5_code 2 = .ok (.putfield 84, 3) := by decide +kernel
theorem u_642 : Cond.fieldLink "FilterGuard$Machine" 84 "FilterGuard$Machine" "mode" "I" ∈ fg_g := fg_in (List.mem_of_getElem? (i := 642) (by decide +kernel)) rfl
theorem p_Machine_13 {p : Program} {l : Launch} {e : Env} {R : Room} {s : Jvm.State} {m : MethodId} {args : Array Value} {below : List Frame} {meth : Method} {c : Code} {H : Heap} {locs : List Loc} {cells slots : Nat} {Q : Jvm.State → Prop} {cc : ByteArray} {pc : Nat} {ls : Array Slot} {rest : List Value} {D : va_G} {A : Nat → Prop} {H0 : Heap} {ad : Nat → Nat → Nat} {ca : Nat → ClassId} {M M1 : me_M} {N : Nat → Nat} {own : String} {index j : Nat} {v : Int32} (he : M1 = wI M 5 j 13 v) (hexec : p.tables.exec = Jvm.exec) (hb : c.code = cc) (hts : ∀ w ∈ fg_g, w.before args s = true) (hown : s.vm.findClass own = some m.cls) (hK : va_K D classes (me_T ca) s) (hP : va_P D classes (me_W ad ca M) H) (hD : va_D A (me_W ad ca M)) (hwf : me_wf N M) (hS : va_S A H0 H locs) (hj : j < N 5) (hlink : (Cond.fieldLink own index "FilterGuard$Machine" "mode" "I").before args s = true) (hdg : decode cc pc = .ok (.putfield index, 3)) (kk : ∀ (H1 : Heap) (locs1 : List Loc), va_P D classes (me_W ad ca M1) H1 → va_D A (me_W ad ca M1) → me_wf N M1 → va_S A H0 H1 locs1 → W p l e R s m args below meth c H1 locs1 cells slots Q (F0 m (pc + 3) ls rest)) : W p l e R s m args below meth c H locs cells slots Q (F0 m pc ls (.int v :: .ref (ad 5 j) :: rest)) := by
  subst he
  exact me_put (M1 := wI M 5 j 13 v) (k := 5) (f := 13) (C := "FilterGuard$Machine") (T := F_Machine) (Nf := 20) hexec hb hts i_Machine t_Machine t_Machine_ok n_Machine hown hK hP hD hwf hS hj (by decide) rfl (by decide) (by decide) hlink (fun _ h9 => h9) rfl rfl rfl rfl (fun a b h => me_wIE h) (me_fIw (by decide) (by decide)) hdg (fun H1 locs1 a1 a2 a3 => kk H1 locs1 a1 a2 (me_wfI hwf (fun z => absurd z (by decide)) (fun z => absurd z (by decide))) a3)
theorem d_Machine_begin_5 : decode prog_7_method_5_code 5 = .ok (.aload_n 0, 1) := by decide +kernel
theorem d_Machine_begin_6 : decode prog_7_method_5_code 6 = .ok (.iload_n 1, 1) := by decide +kernel
theorem d_Machine_begin_7 : decode prog_7_method_5_code 7 = .ok (.iconst 2, 1) := by decide +kernel
theorem d_Machine_begin_8 : decode prog_7_method_5_code 8 = .ok (.if_icmp .ne 10, 3) := by decide +kernel
theorem d_Machine_begin_18 : decode prog_7_method_5_code 18 = .ok (.aload_n 0, 1) := by decide +kernel
theorem d_Machine_begin_19 : decode prog_7_method_5_code 19 = .ok (.getfield 28, 3) := by decide +kernel
theorem g_Machine_0 {p : Program} {l : Launch} {e : Env} {R : Room} {s : Jvm.State} {m : MethodId} {args : Array Value} {below : List Frame} {meth : Method} {c : Code} {H : Heap} {locs : List Loc} {cells slots : Nat} {Q : Jvm.State → Prop} {cc : ByteArray} {pc : Nat} {ls : Array Slot} {rest : List Value} {D : va_G} {ad : Nat → Nat → Nat} {ca : Nat → ClassId} {M : me_M} {N : Nat → Nat} {own : String} {index j : Nat} (hexec : p.tables.exec = Jvm.exec) (hb : c.code = cc) (hts : ∀ w ∈ fg_g, w.before args s = true) (hown : s.vm.findClass own = some m.cls) (hK : va_K D classes (me_T ca) s) (hP : va_P D classes (me_W ad ca M) H) (hwf : me_wf N M) (hj : j < N 5) (hlink : (Cond.fieldLink own index "FilterGuard$Machine" "code" "LFilterGuard$Code;").before args s = true) (hdg : decode cc pc = .ok (.getfield index, 3)) (kk : W p l e R s m args below meth c H locs cells slots Q (F0 m (pc + 3) ls (va_rf ((mR M 5 j 0).map (ad 2)) :: rest))) : W p l e R s m args below meth c H locs cells slots Q (F0 m pc ls (.ref (ad 5 j) :: rest)) := me_get (k := 5) (f := 0) (C := "FilterGuard$Machine") (T := F_Machine) (Nf := 20) hexec hb hts i_Machine hown hK hP hwf hj (by decide) rfl (by decide) (by decide) hlink (fun _ h9 => h9) hdg kk
theorem d_Machine_begin_11 : decode prog_7_method_5_code 11 = .ok (.aload_n 0, 1) := by decide +kernel
theorem d_Machine_begin_12 : decode prog_7_method_5_code 12 = .ok (.getfield 32, 3) := by decide +kernel
theorem g_Machine_1 {p : Program} {l : Launch} {e : Env} {R : Room} {s : Jvm.State} {m : MethodId} {args : Array Value} {below : List Frame} {meth : Method} {c : Code} {H : Heap} {locs : List Loc} {cells slots : Nat} {Q : Jvm.State → Prop} {cc : ByteArray} {pc : Nat} {ls : Array Slot} {rest : List Value} {D : va_G} {ad : Nat → Nat → Nat} {ca : Nat → ClassId} {M : me_M} {N : Nat → Nat} {own : String} {index j : Nat} (hexec : p.tables.exec = Jvm.exec) (hb : c.code = cc) (hts : ∀ w ∈ fg_g, w.before args s = true) (hown : s.vm.findClass own = some m.cls) (hK : va_K D classes (me_T ca) s) (hP : va_P D classes (me_W ad ca M) H) (hwf : me_wf N M) (hj : j < N 5) (hlink : (Cond.fieldLink own index "FilterGuard$Machine" "shorter" "LFilterGuard$Code;").before args s = true) (hdg : decode cc pc = .ok (.getfield index, 3)) (kk : W p l e R s m args below meth c H locs cells slots Q (F0 m (pc + 3) ls (va_rf ((mR M 5 j 1).map (ad 2)) :: rest))) : W p l e R s m args below meth c H locs cells slots Q (F0 m pc ls (.ref (ad 5 j) :: rest)) := me_get (k := 5) (f := 1) (C := "FilterGuard$Machine") (T := F_Machine) (Nf := 20) hexec hb hts i_Machine hown hK hP hwf hj (by decide) rfl (by decide) (by decide) hlink (fun _ h9 => h9) hdg kk
theorem d_Machine_begin_15 : decode prog_7_method_5_code 15 = .ok (.goto 7, 3) := by decide +kernel
abbrev y_Machine_begin : MethodName := ⟨"FilterGuard$Machine", "begin", "(I)V"⟩
def rm_Machine_begin : Room := { frames := 5, cells := 0, slots := 0, locals := 104 }
abbrev q_Machine_begin (D : va_G) (ad : Nat → Nat → Nat) (ca : Nat → ClassId) (N : Nat → Nat) (M0 MZ : me_M) (A : Nat → Prop) : Array Value → Jvm.State → Outcome → Jvm.State → Prop := va_Qv (fun (_ : Unit) => me_wf N MZ ∧ me_kz M0 MZ) (fg_B D A (fun _ => me_W ad ca MZ) (fun _ => [])) A
set_option maxHeartbeats 4000000 in
set_option maxRecDepth 100000 in
theorem c_Machine_begin (l : Launch) (D : va_G) (ad : Nat → Nat → Nat) (ca : Nat → ClassId) (N : Nat → Nat) (M0 MZ : me_M) (j0 : Nat) (x1 : Int32) (h : f_Machine_begin M0 j0 x1 = (some MZ)) (hwf : me_wf N M0) (hj0 : j0 < N 5) (sz : Nat) : Met l y_Machine_begin (fg_w y_Machine_begin prog_7_method_5_code 2 none) rm_Machine_begin (va_Pc [.ref (ad 5 j0), .int x1] (fz_P D (me_T ca) (me_W ad ca M0) sz)) (q_Machine_begin D ad ca N M0 MZ (va_A (me_W ad ca M0) sz)) rm_Machine_begin.cells rm_Machine_begin.slots (va_A (me_W ad ca M0) sz) := by
  refine fz_enter (fun A => q_Machine_begin D ad ca N M0 MZ A) (by decide +kernel) (Nat.le_of_ble_eq_true rfl) ?_
  intro p e s m below meth c ls A hx hb hml hown hts hr hlocks hin hP hK hD hS hA hX hl hz
  have hl : lv_has ls 2 [(0, .ref (ad 5 j0)), (1, .int x1)] := hl
  unfold f_Machine_begin at h
  have hkp : me_kz M0 M0 := me_kz.rf
  have hkb := hkp
  have b_22 : ∀ (M : me_M) (s0 : Nat) (s1 : Nat) (H : Heap) (locs : List Loc) (ls : Array Slot), f_Machine_begin_b22 j0 M s0 s1 = (some MZ) → (s0 < N 2) → (s1 < N 5) → me_wf N M → me_kz M0 M → va_P D classes (me_W ad ca M) H → va_D A (me_W ad ca M) → va_S A s.heap H locs → lv_has ls 2 [(0, .ref (ad 5 j0))] → W p l e rm_Machine_begin s m [.ref (ad 5 j0), .int x1].toArray below meth c H locs 0 0 (MQ below (q_Machine_begin D ad ca N M0 MZ A) [.ref (ad 5 j0), .int x1].toArray s rm_Machine_begin.cells rm_Machine_begin.slots A) (F0 m 22 ls [.ref (ad 2 s0), .ref (ad 5 s1)]) := by
    intro M s0 s1 H locs ls h hs0 hs1 hwf hkp hP hD hS hl
    unfold f_Machine_begin_b22 at h
    have hkb := hkp
    obtain ⟨M1, eM1, h⟩ := st_ob h
    refine p_Machine_16 eM1 hx hb hts hown hK hP hD hwf hS hs1 hs0 (hts _ u_648) d_Machine_begin_22 (fun H locs hP hD hwf hS => ?_)
    have hkp := kz_R eM1 hkp
    refine lv_aload_n hx hb d_Machine_begin_25 rfl (lv_at hl 0 rfl) ?_
    refine lv_dup hx hb d_Machine_begin_26 rfl ?_
    refine g_Machine_12 hx hb hts hown hK hP hwf hj0 (hts _ u_640) d_Machine_begin_27 ?_
    refine lv_iconst (v := 1) hx hb d_Machine_begin_30 (by decide) ?_
    refine lv_iadd hx hb d_Machine_begin_31 ?_
    obtain ⟨M2, eM2, h⟩ := st_ob h
    refine p_Machine_12 eM2 hx hb hts hown hK hP hD hwf hS hj0 (hts _ u_640) d_Machine_begin_32 (fun H locs hP hD hwf hS => ?_)
    have hkp := kz_I eM2 hkp
    refine lv_aload_n hx hb d_Machine_begin_35 rfl (lv_at hl 0 rfl) ?_
    refine lv_iconst (v := 0) hx hb d_Machine_begin_36 (by decide) ?_
    obtain ⟨M3, eM3, h⟩ := st_ob h
    refine p_Machine_14 eM3 hx hb hts hown hK hP hD hwf hS hj0 (hts _ u_644) d_Machine_begin_37 (fun H locs hP hD hwf hS => ?_)
    have hkp := kz_I eM3 hkp
    refine lv_aload_n hx hb d_Machine_begin_40 rfl (lv_at hl 0 rfl) ?_
    refine lv_iconst (v := 0) hx hb d_Machine_begin_41 (by decide) ?_
    obtain ⟨M4, eM4, h⟩ := st_ob h
    refine p_Machine_17 eM4 hx hb hts hown hK hP hD hwf hS hj0 (hts _ u_649) d_Machine_begin_42 (fun H locs hP hD hwf hS => ?_)
    have hkp := kz_I eM4 hkp
    refine lv_aload_n hx hb d_Machine_begin_45 rfl (lv_at hl 0 rfl) ?_
    refine lv_aload_n hx hb d_Machine_begin_46 rfl (lv_at hl 0 rfl) ?_
    refine g_Machine_8 hx hb hts hown hK hP hwf hj0 (hts _ u_632) d_Machine_begin_47 ?_
    obtain ⟨M5, eM5, h⟩ := st_ob h
    refine p_Machine_15 eM5 hx hb hts hown hK hP hD hwf hS hj0 (hts _ u_646) d_Machine_begin_50 (fun H locs hP hD hwf hS => ?_)
    have hkp := kz_I eM5 hkp
    refine lv_aload_n hx hb d_Machine_begin_53 rfl (lv_at hl 0 rfl) ?_
    refine g_Machine_6 hx hb hts hown hK hP hwf hj0 (hts _ u_629) d_Machine_begin_54 ?_
    obtain ⟨j6, e7, h⟩ := bd_ob h
    have hj6 : j6 < N 16 := (hwf.2.1 5 j0 6 _ e7 (by decide) hj0)
    refine me_opt (j := j6) e7 ?_
    refine lv_lconst (v := 0) hx hb d_Machine_begin_57 (by decide) ?_
    obtain ⟨M8, eM8, h⟩ := bd_ob h
    refine me_thenv0 (M1 := M8) (me_runS (As := [.ref (ad 16 j6), .long 0]) (rest := []) ⟨hx, hb, hml, hown, hts⟩ (c_Arrays_fill1 l D ad ca N M5 M8 j6 (0 : Int64) eM8 hwf hj6 _) (by show fg_nm y_Arrays_fill1 2; decide +kernel) u_1580 u_1581 u_194 u_1582 ⟨Nat.le_of_ble_eq_true rfl, Nat.le_of_ble_eq_true rfl⟩ hX hz hK hP hD hS hA rfl hl.1 (Nat.le_of_ble_eq_true rfl) d_Machine_begin_58 ⟨Nat.le_of_ble_eq_true rfl, Nat.le_of_ble_eq_true rfl⟩) hP hD hK hS hA rfl rfl (fun H locs hw hP hD hS => ?_)
    obtain ⟨hwf, hk9⟩ := hw
    have hkp := hkp.tr hk9.z
    refine lv_aload_n hx hb d_Machine_begin_61 rfl (lv_at hl 0 rfl) ?_
    refine g_Machine_5 hx hb hts hown hK hP hwf hj0 (hts _ u_628) d_Machine_begin_62 ?_
    obtain ⟨j9, e10, h⟩ := bd_ob h
    have hj9 : j9 < N 14 := (hwf.2.1 5 j0 5 _ e10 (by decide) hj0)
    refine me_opt (j := j9) e10 ?_
    refine lv_iconst (v := 0) hx hb d_Machine_begin_65 (by decide) ?_
    obtain ⟨M11, eM11, h⟩ := bd_ob h
    refine me_thenv0 (M1 := M11) (me_runS (As := [.ref (ad 14 j9), .int 0]) (rest := []) ⟨hx, hb, hml, hown, hts⟩ (c_Arrays_fill0 l D ad ca N M8 M11 j9 (0 : Int32) eM11 hwf hj9 _) (by show fg_nm y_Arrays_fill0 2; decide +kernel) u_1583 u_1584 u_194 u_1585 ⟨Nat.le_of_ble_eq_true rfl, Nat.le_of_ble_eq_true rfl⟩ hX hz hK hP hD hS hA rfl hl.1 (Nat.le_of_ble_eq_true rfl) d_Machine_begin_66 ⟨Nat.le_of_ble_eq_true rfl, Nat.le_of_ble_eq_true rfl⟩) hP hD hK hS hA rfl rfl (fun H locs hw hP hD hS => ?_)
    obtain ⟨hwf, hk9⟩ := hw
    have hkp := hkp.tr hk9.z
    refine lv_aload_n hx hb d_Machine_begin_69 rfl (lv_at hl 0 rfl) ?_
    refine lv_iconst (v := 0) hx hb d_Machine_begin_70 (by decide) ?_
    refine lv_iconst (v := 3) hx hb d_Machine_begin_71 (by decide) ?_
    obtain ⟨r12, er12, h⟩ := bd_ob h
    refine me_panl' (r0 := r12) (fg_runSN (wc := []) (tc := []) (A2 := A) (As := [.int 3]) (rest := [.int 0, .ref (ad 5 j0)]) ⟨hx, hb, hml, hown, hts⟩ (c_G_baseOf l D r12 (3 : Int32) er12 _) (by show fg_nm y_G_baseOf 1; decide +kernel) o_1586 u_1587 u_181 u_1588 ⟨Nat.le_of_ble_eq_true rfl, Nat.le_of_ble_eq_true rfl⟩ hX me_P0 (hK.sub (tys' := []) [] rfl) me_D0 rfl hl.1 (Nat.le_of_ble_eq_true rfl) d_Machine_begin_72 ⟨Nat.le_of_ble_eq_true rfl, Nat.le_of_ble_eq_true rfl⟩) hP hD hK hS hA rfl rfl (fun H locs hw hP hD hS => ?_)
    obtain ⟨M13, eM13, h⟩ := bd_ob h
    refine me_thenv0 (M1 := M13) (me_runV (C := "FilterGuard$Machine") (As := [.int 0, .long r12]) (rest := []) ⟨hx, hb, hml, hown, hts⟩ (c_Machine_writeContext l D ad ca N M11 M13 j0 (0 : Int32) r12 eM13 hwf hj0 _) rfl (by show fg_nm y_Machine_writeContext 2; decide +kernel) u_1589 u_780 u_781 u_190 u_782 ⟨Nat.le_of_ble_eq_true rfl, Nat.le_of_ble_eq_true rfl⟩ hX hz hK hP hD hwf hS hA hj0 (by decide) rfl rfl rfl hl.1 (Nat.le_of_ble_eq_true rfl) d_Machine_begin_75 ⟨Nat.le_of_ble_eq_true rfl, Nat.le_of_ble_eq_true rfl⟩) hP hD hK hS hA rfl rfl (fun H locs hw hP hD hS => ?_)
    obtain ⟨hwf, hk9⟩ := hw
    have hkp := hkp.tr hk9
    refine lv_aload_n hx hb d_Machine_begin_78 rfl (lv_at hl 0 rfl) ?_
    refine lv_bipush (v := 8) hx hb d_Machine_begin_79 (by decide) ?_
    refine lv_iconst (v := 3) hx hb d_Machine_begin_81 (by decide) ?_
    obtain ⟨r14, er14, h⟩ := bd_ob h
    refine me_panl' (r0 := r14) (fg_runSN (wc := []) (tc := []) (A2 := A) (As := [.int 3]) (rest := [.int 8, .ref (ad 5 j0)]) ⟨hx, hb, hml, hown, hts⟩ (c_G_baseOf l D r14 (3 : Int32) er14 _) (by show fg_nm y_G_baseOf 1; decide +kernel) o_1586 u_1587 u_181 u_1588 ⟨Nat.le_of_ble_eq_true rfl, Nat.le_of_ble_eq_true rfl⟩ hX me_P0 (hK.sub (tys' := []) [] rfl) me_D0 rfl hl.1 (Nat.le_of_ble_eq_true rfl) d_Machine_begin_82 ⟨Nat.le_of_ble_eq_true rfl, Nat.le_of_ble_eq_true rfl⟩) hP hD hK hS hA rfl rfl (fun H locs hw hP hD hS => ?_)
    refine lv_aload_n hx hb d_Machine_begin_85 rfl (lv_at hl 0 rfl) ?_
    refine g_Machine_8 hx hb hts hown hK hP hwf hj0 (hts _ u_632) d_Machine_begin_86 ?_
    refine lv_i2l (v := (mI M13 5 j0 8).toInt64) hx hb d_Machine_begin_89 rfl ?_
    refine lv_ladd hx hb d_Machine_begin_90 ?_
    obtain ⟨M15, eM15, h⟩ := bd_ob h
    refine me_thenv0 (M1 := M15) (me_runV (C := "FilterGuard$Machine") (As := [.int 8, .long (r14 + ((mI M13 5 j0 8).toInt64))]) (rest := []) ⟨hx, hb, hml, hown, hts⟩ (c_Machine_writeContext l D ad ca N M13 M15 j0 (8 : Int32) (r14 + ((mI M13 5 j0 8).toInt64)) eM15 hwf hj0 _) rfl (by show fg_nm y_Machine_writeContext 2; decide +kernel) u_1589 u_780 u_781 u_190 u_782 ⟨Nat.le_of_ble_eq_true rfl, Nat.le_of_ble_eq_true rfl⟩ hX hz hK hP hD hwf hS hA hj0 (by decide) rfl rfl rfl hl.1 (Nat.le_of_ble_eq_true rfl) d_Machine_begin_91 ⟨Nat.le_of_ble_eq_true rfl, Nat.le_of_ble_eq_true rfl⟩) hP hD hK hS hA rfl rfl (fun H locs hw hP hD hS => ?_)
    obtain ⟨hwf, hk9⟩ := hw
    have hkp := hkp.tr hk9
    refine lv_aload_n hx hb d_Machine_begin_94 rfl (lv_at hl 0 rfl) ?_
    refine g_Machine_6 hx hb hts hown hK hP hwf hj0 (hts _ u_629) d_Machine_begin_95 ?_
    obtain ⟨j16, e17, h⟩ := bd_ob h
    have hj16 : j16 < N 16 := (hwf.2.1 5 j0 6 _ e17 (by decide) hj0)
    refine me_opt (j := j16) e17 ?_
    refine lv_iconst (v := 1) hx hb d_Machine_begin_98 (by decide) ?_
    refine lv_iconst (v := 1) hx hb d_Machine_begin_99 (by decide) ?_
    obtain ⟨r18, er18, h⟩ := bd_ob h
    refine me_panl' (r0 := r18) (fg_runSN (wc := []) (tc := []) (A2 := A) (As := [.int 1]) (rest := [.int 1, .ref (ad 16 j16)]) ⟨hx, hb, hml, hown, hts⟩ (c_G_baseOf l D r18 (1 : Int32) er18 _) (by show fg_nm y_G_baseOf 1; decide +kernel) o_1586 u_1587 u_181 u_1588 ⟨Nat.le_of_ble_eq_true rfl, Nat.le_of_ble_eq_true rfl⟩ hX me_P0 (hK.sub (tys' := []) [] rfl) me_D0 rfl hl.1 (Nat.le_of_ble_eq_true rfl) d_Machine_begin_100 ⟨Nat.le_of_ble_eq_true rfl, Nat.le_of_ble_eq_true rfl⟩) hP hD hK hS hA rfl rfl (fun H locs hw hP hD hS => ?_)
    obtain ⟨g19, h⟩ := gd_ob h
    obtain ⟨M20, eM20, h⟩ := st_ob h
    refine me_last (eM20.trans (by rw [show (1 : Int32).toNatClampNeg = 1 by decide])) hx hb hK hP hD hwf hS hj16 (me_in (i := (1 : Int32)) (k := 1) (by decide) (by decide) (kp_c hkb hkp g19)) d_Machine_begin_103 (fun H locs hP hD hwf hS => ?_)
    have hkp := kz_L eM20 hkp
    refine lv_aload_n hx hb d_Machine_begin_104 rfl (lv_at hl 0 rfl) ?_
    refine g_Machine_6 hx hb hts hown hK hP hwf hj0 (hts _ u_629) d_Machine_begin_105 ?_
    obtain ⟨j21, e22, h⟩ := bd_ob h
    have hj21 : j21 < N 16 := (hwf.2.1 5 j0 6 _ e22 (by decide) hj0)
    refine me_opt (j := j21) e22 ?_
    refine lv_bipush (v := 10) hx hb d_Machine_begin_108 (by decide) ?_
    refine lv_iconst (v := 2) hx hb d_Machine_begin_110 (by decide) ?_
    obtain ⟨r23, er23, h⟩ := bd_ob h
    refine me_panl' (r0 := r23) (fg_runSN (wc := []) (tc := []) (A2 := A) (As := [.int 2]) (rest := [.int 10, .ref (ad 16 j21)]) ⟨hx, hb, hml, hown, hts⟩ (c_G_baseOf l D r23 (2 : Int32) er23 _) (by show fg_nm y_G_baseOf 1; decide +kernel) o_1586 u_1587 u_181 u_1588 ⟨Nat.le_of_ble_eq_true rfl, Nat.le_of_ble_eq_true rfl⟩ hX me_P0 (hK.sub (tys' := []) [] rfl) me_D0 rfl hl.1 (Nat.le_of_ble_eq_true rfl) d_Machine_begin_111 ⟨Nat.le_of_ble_eq_true rfl, Nat.le_of_ble_eq_true rfl⟩) hP hD hK hS hA rfl rfl (fun H locs hw hP hD hS => ?_)
    obtain ⟨g24, h⟩ := gd_ob h
    obtain ⟨M25, eM25, h⟩ := st_ob h
    refine me_last (eM25.trans (by rw [show (10 : Int32).toNatClampNeg = 10 by decide])) hx hb hK hP hD hwf hS hj21 (me_in (i := (10 : Int32)) (k := 10) (by decide) (by decide) (kp_c hkb hkp g24)) d_Machine_begin_114 (fun H locs hP hD hwf hS => ?_)
    have hkp := kz_L eM25 hkp
    refine lv_aload_n hx hb d_Machine_begin_115 rfl (lv_at hl 0 rfl) ?_
    refine g_Machine_3 hx hb hts hown hK hP hwf hj0 (hts _ u_626) d_Machine_begin_116 ?_
    obtain ⟨j26, e27, h⟩ := bd_ob h
    have hj26 : j26 < N 6 := (hwf.2.1 5 j0 3 _ e27 (by decide) hj0)
    refine me_opt (j := j26) e27 ?_
    obtain ⟨M28, eM28, h⟩ := bd_ob h
    refine me_thenv0 (M1 := M28) (me_runV (C := "FilterGuard$Checks") (As := []) (rest := []) ⟨hx, hb, hml, hown, hts⟩ (c_Checks_begin l D ad ca N M25 M28 j26 eM28 hwf hj26 _) rfl (by show fg_nm y_Checks_begin 0; decide +kernel) u_1590 u_1591 u_1592 u_191 u_1593 ⟨Nat.le_of_ble_eq_true rfl, Nat.le_of_ble_eq_true rfl⟩ hX hz hK hP hD hwf hS hA hj26 (by decide) rfl rfl rfl hl.1 (Nat.le_of_ble_eq_true rfl) d_Machine_begin_119 ⟨Nat.le_of_ble_eq_true rfl, Nat.le_of_ble_eq_true rfl⟩) hP hD hK hS hA rfl rfl (fun H locs hw hP hD hS => ?_)
    obtain ⟨hwf, hk9⟩ := hw
    have hkp := hkp.tr hk9.z
    exact me_retv (me_kz M0) h hx hb hr hlocks hwf hkp hP hK hD hS d_Machine_begin_122
  refine lv_aload_n hx hb d_Machine_begin_0 rfl (lv_at hl 0 rfl) ?_
  refine lv_iload_n hx hb d_Machine_begin_1 rfl (lv_at hl 1 rfl) ?_
  obtain ⟨M29, eM29, h⟩ := st_ob h
  refine p_Machine_13 eM29 hx hb hts hown hK hP hD hwf hS hj0 (hts _ u_642) d_Machine_begin_2 (fun H locs hP hD hwf hS => ?_)
  have hkp := kz_I eM29 hkp
  refine lv_aload_n hx hb d_Machine_begin_5 rfl (lv_at hl 0 rfl) ?_
  refine lv_iload_n hx hb d_Machine_begin_6 rfl (lv_at hl 1 rfl) ?_
  refine lv_iconst (v := 2) hx hb d_Machine_begin_7 (by decide) ?_
  refine lv_icmp_ne (tgt := 18) hx hb d_Machine_begin_8 (by decide) (fun c30 => ?_) (fun c30 => ?_)
  · have h := if_f c30 h
    refine lv_aload_n hx hb d_Machine_begin_18 rfl (lv_at hl 0 rfl) ?_
    refine g_Machine_0 hx hb hts hown hK hP hwf hj0 (hts _ u_623) d_Machine_begin_19 ?_
    obtain ⟨j31, e32, h⟩ := bd_ob h
    have hj31 : j31 < N 2 := (hwf.2.1 5 j0 0 _ e32 (by decide) hj0)
    refine me_opt (j := j31) e32 ?_
    exact b_22 M29 j31 j0 _ _ _ h hj31 hj0 hwf hkp hP hD hS (lv_sub hl [0] rfl)
  have h := if_t c30 h
  refine lv_aload_n hx hb d_Machine_begin_11 rfl (lv_at hl 0 rfl) ?_
  refine g_Machine_1 hx hb hts hown hK hP hwf hj0 (hts _ u_624) d_Machine_begin_12 ?_
  obtain ⟨j33, e34, h⟩ := bd_ob h
  have hj33 : j33 < N 2 := (hwf.2.1 5 j0 1 _ e34 (by decide) hj0)
  refine me_opt (j := j33) e34 ?_
  refine lv_goto (tgt := 22) hx hb d_Machine_begin_15 (by decide) ?_
  exact b_22 M29 j33 j0 _ _ _ h hj33 hj0 hwf hkp hP hD hS (lv_sub hl [0] rfl)
theorem d_Checks_operandKind_0 : decode prog_3_method_5_code 0 = .ok (.aload_n 0, 1) := by decide +kernel
theorem d_Checks_operandKind_1 : decode prog_3_method_5_code 1 = .ok (.getfield 23, 3) := by decide +kernel
theorem g_Checks_0 {p : Program} {l : Launch} {e : Env} {R : Room} {s : Jvm.State} {m : MethodId} {args : Array Value} {below : List Frame} {meth : Method} {c : Code} {H : Heap} {locs : List Loc} {cells slots : Nat} {Q : Jvm.State → Prop} {cc : ByteArray} {pc : Nat} {ls : Array Slot} {rest : List Value} {D : va_G} {ad : Nat → Nat → Nat} {ca : Nat → ClassId} {M : me_M} {N : Nat → Nat} {own : String} {index j : Nat} (hexec : p.tables.exec = Jvm.exec) (hb : c.code = cc) (hts : ∀ w ∈ fg_g, w.before args s = true) (hown : s.vm.findClass own = some m.cls) (hK : va_K D classes (me_T ca) s) (hP : va_P D classes (me_W ad ca M) H) (hwf : me_wf N M) (hj : j < N 6) (hlink : (Cond.fieldLink own index "FilterGuard$Checks" "code" "LFilterGuard$Code;").before args s = true) (hdg : decode cc pc = .ok (.getfield index, 3)) (kk : W p l e R s m args below meth c H locs cells slots Q (F0 m (pc + 3) ls (va_rf ((mR M 6 j 0).map (ad 2)) :: rest))) : W p l e R s m args below meth c H locs cells slots Q (F0 m pc ls (.ref (ad 6 j) :: rest)) := me_get (k := 6) (f := 0) (C := "FilterGuard$Checks") (T := F_Checks) (Nf := 4) hexec hb hts i_Checks hown hK hP hwf hj (by decide) rfl (by decide) (by decide) hlink (fun _ h9 => h9) hdg kk
theorem d_Checks_operandKind_4 : decode prog_3_method_5_code 4 = .ok (.getfield 49, 3) := by decide +kernel
theorem u_274 : Cond.fieldLink "FilterGuard$Checks" 49 "FilterGuard$Code" "readsFrom" "Z" ∈ fg_g := fg_in (List.mem_of_getElem? (i := 274) (by decide +kernel)) rfl
theorem d_Checks_operandKind_7 : decode prog_3_method_5_code 7 = .ok (.ifCond .eq 21, 3) := by decide +kernel
theorem d_Checks_operandKind_28 : decode prog_3_method_5_code 28 = .ok (.iconst 1, 1) := by decide +kernel
theorem d_Checks_operandKind_29 : decode prog_3_method_5_code 29 = .ok (.ireturn, 1) := by decide +kernel
theorem d_Checks_operandKind_10 : decode prog_3_method_5_code 10 = .ok (.aload_n 0, 1) := by decide +kernel
theorem d_Checks_operandKind_11 : decode prog_3_method_5_code 11 = .ok (.getfield 22, 3) := by decide +kernel
theorem g_Checks_3 {p : Program} {l : Launch} {e : Env} {R : Room} {s : Jvm.State} {m : MethodId} {args : Array Value} {below : List Frame} {meth : Method} {c : Code} {H : Heap} {locs : List Loc} {cells slots : Nat} {Q : Jvm.State → Prop} {cc : ByteArray} {pc : Nat} {ls : Array Slot} {rest : List Value} {D : va_G} {ad : Nat → Nat → Nat} {ca : Nat → ClassId} {M : me_M} {N : Nat → Nat} {own : String} {index j : Nat} (hexec : p.tables.exec = Jvm.exec) (hb : c.code = cc) (hts : ∀ w ∈ fg_g, w.before args s = true) (hown : s.vm.findClass own = some m.cls) (hK : va_K D classes (me_T ca) s) (hP : va_P D classes (me_W ad ca M) H) (hwf : me_wf N M) (hj : j < N 6) (hlink : (Cond.fieldLink own index "FilterGuard$Checks" "cells" "[LFilterGuard$Cell;").before args s = true) (hdg : decode cc pc = .ok (.getfield index, 3)) (kk : W p l e R s m args below meth c H locs cells slots Q (F0 m (pc + 3) ls (va_rf ((mR M 6 j 3).map (ad 18)) :: rest))) : W p l e R s m args below meth c H locs cells slots Q (F0 m pc ls (.ref (ad 6 j) :: rest)) := me_get (k := 6) (f := 3) (C := "FilterGuard$Checks") (T := F_Checks) (Nf := 4) hexec hb hts i_Checks hown hK hP hwf hj (by decide) rfl (by decide) (by decide) hlink (fun _ h9 => h9) hdg kk
theorem d_Checks_operandKind_14 : decode prog_3_method_5_code 14 = .ok (.aload_n 0, 1) := by decide +kernel
theorem d_Checks_operandKind_15 : decode prog_3_method_5_code 15 = .ok (.getfield 23, 3) := by decide +kernel
theorem d_Checks_operandKind_18 : decode prog_3_method_5_code 18 = .ok (.getfield 52, 3) := by decide +kernel
theorem u_240 : Cond.fieldLink "FilterGuard$Checks" 52 "FilterGuard$Code" "from" "I" ∈ fg_g := fg_in (List.mem_of_getElem? (i := 240) (by decide +kernel)) rfl
theorem d_Checks_operandKind_21 : decode prog_3_method_5_code 21 = .ok (.aaload, 1) := by decide +kernel
theorem d_Checks_operandKind_22 : decode prog_3_method_5_code 22 = .ok (.getfield 34, 3) := by decide +kernel
theorem u_421 : Cond.fieldLink "FilterGuard$Checks" 34 "FilterGuard$Cell" "kind" "I" ∈ fg_g := fg_in (List.mem_of_getElem? (i := 421) (by decide +kernel)) rfl
theorem d_Checks_operandKind_25 : decode prog_3_method_5_code 25 = .ok (.goto 4, 3) := by decide +kernel
abbrev y_Checks_operandKind : MethodName := ⟨"FilterGuard$Checks", "operandKind", "()I"⟩
def rm_Checks_operandKind : Room := { frames := 1, cells := 0, slots := 0, locals := 20 }
abbrev q_Checks_operandKind (D : va_G) (ad : Nat → Nat → Nat) (ca : Nat → ClassId) (N : Nat → Nat) (M0 MZ : me_M) (RZ : Int32) (A : Nat → Prop) : Array Value → Jvm.State → Outcome → Jvm.State → Prop := va_Qi (fun r (_ : Unit) => r = RZ ∧ me_wf N MZ ∧ me_kp M0 MZ) (fg_B D A (fun _ => me_W ad ca MZ) (fun _ => [])) A
set_option maxHeartbeats 4000000 in
set_option maxRecDepth 100000 in
theorem c_Checks_operandKind (l : Launch) (D : va_G) (ad : Nat → Nat → Nat) (ca : Nat → ClassId) (N : Nat → Nat) (M0 MZ : me_M) (RZ : Int32) (j0 : Nat) (h : f_Checks_operandKind M0 j0 = (some (MZ, RZ))) (hwf : me_wf N M0) (hj0 : j0 < N 6) (sz : Nat) : Met l y_Checks_operandKind (fg_w y_Checks_operandKind prog_3_method_5_code 1 (some .int)) rm_Checks_operandKind (va_Pc [.ref (ad 6 j0)] (fz_P D (me_T ca) (me_W ad ca M0) sz)) (q_Checks_operandKind D ad ca N M0 MZ RZ (va_A (me_W ad ca M0) sz)) rm_Checks_operandKind.cells rm_Checks_operandKind.slots (va_A (me_W ad ca M0) sz) := by
  refine fz_enter (fun A => q_Checks_operandKind D ad ca N M0 MZ RZ A) (by decide +kernel) (Nat.le_of_ble_eq_true rfl) ?_
  intro p e s m below meth c ls A hx hb hml hown hts hr hlocks hin hP hK hD hS hA hX hl hz
  have hl : lv_has ls 1 [(0, .ref (ad 6 j0))] := hl
  unfold f_Checks_operandKind at h
  have hkp : me_kp M0 M0 := me_kp.rf
  have hkb := hkp
  refine lv_aload_n hx hb d_Checks_operandKind_0 rfl (lv_at hl 0 rfl) ?_
  refine g_Checks_0 hx hb hts hown hK hP hwf hj0 (hts _ u_610) d_Checks_operandKind_1 ?_
  obtain ⟨j1, e2, h⟩ := bd_ob h
  have hj1 : j1 < N 2 := (hwf.2.1 6 j0 0 _ e2 (by decide) hj0)
  refine me_opt (j := j1) e2 ?_
  refine g_Code_15 hx hb hts hown hK hP hwf hj1 (hts _ u_274) d_Checks_operandKind_4 ?_
  have z3 := (hwf.2.2.2 2 j1 15 rfl)
  refine lv_if_eq (tgt := 28) hx hb d_Checks_operandKind_7 (by decide) (fun c4 => ?_) (fun c4 => ?_)
  · have h := if_t c4 h
    refine lv_iconst (v := 1) hx hb d_Checks_operandKind_28 (by decide) ?_
    exact me_reti (me_kp M0) h hx hb hr hlocks hwf hkp hP hK hD hS d_Checks_operandKind_29
  have h := if_f c4 h
  refine lv_aload_n hx hb d_Checks_operandKind_10 rfl (lv_at hl 0 rfl) ?_
  refine g_Checks_3 hx hb hts hown hK hP hwf hj0 (hts _ u_613) d_Checks_operandKind_11 ?_
  obtain ⟨j5, e6, h⟩ := bd_ob h
  have hj5 : j5 < N 18 := (hwf.2.1 6 j0 3 _ e6 (by decide) hj0)
  refine me_opt (j := j5) e6 ?_
  refine lv_aload_n hx hb d_Checks_operandKind_14 rfl (lv_at hl 0 rfl) ?_
  refine g_Checks_0 hx hb hts hown hK hP hwf hj0 (hts _ u_610) d_Checks_operandKind_15 ?_
  refine me_opt (j := j1) e2 ?_
  refine g_Code_7 hx hb hts hown hK hP hwf hj1 (hts _ u_240) d_Checks_operandKind_18 ?_
  obtain ⟨g7, h⟩ := gd_ob h
  refine me_aald (k := 18) (t := 10) hx hb hK hP hwf hj5 (by decide) (by decide) rfl (fun _ => rfl) g7 d_Checks_operandKind_21 ?_
  obtain ⟨j8, e9, h⟩ := bd_ob h
  have hj8 : j8 < N 10 := (hwf.2.1 18 j5 ((mI M0 2 j1 7).toNatClampNeg) _ e9 (by decide) hj5)
  refine me_opt (j := j8) e9 ?_
  refine g_Cell_0 hx hb hts hown hK hP hwf hj8 (hts _ u_421) d_Checks_operandKind_22 ?_
  refine lv_goto (tgt := 29) hx hb d_Checks_operandKind_25 (by decide) ?_
  exact me_reti (me_kp M0) h hx hb hr hlocks hwf hkp hP hK hD hS d_Checks_operandKind_29
theorem d_Checks_allowsArithmetic_179 : decode prog_3_method_6_code 179 = .ok (.istore 5, 2) := by decide +kernel
theorem d_Checks_allowsArithmetic_181 : decode prog_3_method_6_code 181 = .ok (.aload_n 1, 1) := by decide +kernel
theorem d_Checks_allowsArithmetic_182 : decode prog_3_method_6_code 182 = .ok (.iload 4, 2) := by decide +kernel
theorem d_Checks_allowsArithmetic_184 : decode prog_3_method_6_code 184 = .ok (.ifCond .eq 7, 3) := by decide +kernel
theorem d_Checks_allowsArithmetic_191 : decode prog_3_method_6_code 191 = .ok (.iconst 1, 1) := by decide +kernel
theorem d_Checks_allowsArithmetic_192 : decode prog_3_method_6_code 192 = .ok (.putfield 34, 3) := by decide +kernel
theorem d_Checks_allowsArithmetic_195 : decode prog_3_method_6_code 195 = .ok (.iload 4, 2) := by decide +kernel
theorem d_Checks_allowsArithmetic_197 : decode prog_3_method_6_code 197 = .ok (.ifCond .ne 8, 3) := by decide +kernel
theorem d_Checks_allowsArithmetic_205 : decode prog_3_method_6_code 205 = .ok (.iconst 1, 1) := by decide +kernel
theorem d_Checks_allowsArithmetic_206 : decode prog_3_method_6_code 206 = .ok (.goto 4, 3) := by decide +kernel
theorem d_Checks_allowsArithmetic_210 : decode prog_3_method_6_code 210 = .ok (.ireturn, 1) := by decide +kernel
theorem d_Checks_allowsArithmetic_200 : decode prog_3_method_6_code 200 = .ok (.iload 5, 2) := by decide +kernel
theorem d_Checks_allowsArithmetic_202 : decode prog_3_method_6_code 202 = .ok (.ifCond .eq 7, 3) := by decide +kernel
theorem d_Checks_allowsArithmetic_209 : decode prog_3_method_6_code 209 = .ok (.iconst 0, 1) := by decide +kernel
theorem d_Checks_allowsArithmetic_187 : decode prog_3_method_6_code 187 = .ok (.iload_n 2, 1) := by decide +kernel
theorem d_Checks_allowsArithmetic_188 : decode prog_3_method_6_code 188 = .ok (.goto 4, 3) := by decide +kernel
theorem d_Checks_allowsArithmetic_178 : decode prog_3_method_6_code 178 = .ok (.iconst 0, 1) := by decide +kernel
theorem d_Checks_allowsArithmetic_147 : decode prog_3_method_6_code 147 = .ok (.istore 4, 2) := by decide +kernel
theorem d_Checks_allowsArithmetic_149 : decode prog_3_method_6_code 149 = .ok (.aload_n 0, 1) := by decide +kernel
theorem d_Checks_allowsArithmetic_150 : decode prog_3_method_6_code 150 = .ok (.getfield 23, 3) := by decide +kernel
theorem d_Checks_allowsArithmetic_153 : decode prog_3_method_6_code 153 = .ok (.getfield 76, 3) := by decide +kernel
theorem u_263 : Cond.fieldLink "FilterGuard$Checks" 76 "FilterGuard$Code" "operation" "I" ∈ fg_g := fg_in (List.mem_of_getElem? (i := 263) (by decide +kernel)) rfl
theorem d_Checks_allowsArithmetic_156 : decode prog_3_method_6_code 156 = .ok (.iconst 1, 1) := by decide +kernel
theorem d_Checks_allowsArithmetic_157 : decode prog_3_method_6_code 157 = .ok (.if_icmp .ne 21, 3) := by decide +kernel
theorem d_Checks_allowsArithmetic_160 : decode prog_3_method_6_code 160 = .ok (.aload_n 1, 1) := by decide +kernel
theorem d_Checks_allowsArithmetic_161 : decode prog_3_method_6_code 161 = .ok (.invokevirtual 85, 3) := by decide +kernel
theorem u_1610 : Cond.methodLink "FilterGuard$Checks" 85 ⟨"FilterGuard$Cell", "isOfPacket", "()Z"⟩ ∈ fg_g := fg_in (List.mem_of_getElem? (i := 1610) (by decide +kernel)) rfl
theorem d_Checks_allowsArithmetic_164 : decode prog_3_method_6_code 164 = .ok (.ifCond .eq 14, 3) := by decide +kernel
theorem d_Checks_allowsArithmetic_167 : decode prog_3_method_6_code 167 = .ok (.aload_n 3, 1) := by decide +kernel
theorem d_Checks_allowsArithmetic_168 : decode prog_3_method_6_code 168 = .ok (.invokevirtual 85, 3) := by decide +kernel
theorem d_Checks_allowsArithmetic_171 : decode prog_3_method_6_code 171 = .ok (.ifCond .eq 7, 3) := by decide +kernel
theorem d_Checks_allowsArithmetic_174 : decode prog_3_method_6_code 174 = .ok (.iconst 1, 1) := by decide +kernel
theorem d_Checks_allowsArithmetic_175 : decode prog_3_method_6_code 175 = .ok (.goto 4, 3) := by decide +kernel
theorem d_Checks_allowsArithmetic_146 : decode prog_3_method_6_code 146 = .ok (.iconst 0, 1) := by decide +kernel
theorem d_Checks_allowsArithmetic_71 : decode prog_3_method_6_code 71 = .ok (.aload_n 0, 1) := by decide +kernel
theorem d_Checks_allowsArithmetic_72 : decode prog_3_method_6_code 72 = .ok (.getfield 23, 3) := by decide +kernel
theorem d_Checks_allowsArithmetic_75 : decode prog_3_method_6_code 75 = .ok (.getfield 79, 3) := by decide +kernel
theorem u_267 : Cond.fieldLink "FilterGuard$Checks" 79 "FilterGuard$Code" "isNarrow" "Z" ∈ fg_g := fg_in (List.mem_of_getElem? (i := 267) (by decide +kernel)) rfl
theorem d_Checks_allowsArithmetic_78 : decode prog_3_method_6_code 78 = .ok (.ifCond .ne 14, 3) := by decide +kernel
theorem d_Checks_allowsArithmetic_92 : decode prog_3_method_6_code 92 = .ok (.iconst 0, 1) := by decide +kernel
theorem d_Checks_allowsArithmetic_93 : decode prog_3_method_6_code 93 = .ok (.ireturn, 1) := by decide +kernel
theorem d_Checks_allowsArithmetic_81 : decode prog_3_method_6_code 81 = .ok (.aload_n 0, 1) := by decide +kernel
theorem d_Checks_allowsArithmetic_82 : decode prog_3_method_6_code 82 = .ok (.getfield 23, 3) := by decide +kernel
theorem d_Checks_allowsArithmetic_85 : decode prog_3_method_6_code 85 = .ok (.getfield 76, 3) := by decide +kernel
theorem d_Checks_allowsArithmetic_88 : decode prog_3_method_6_code 88 = .ok (.iconst 1, 1) := by decide +kernel
theorem d_Checks_allowsArithmetic_89 : decode prog_3_method_6_code 89 = .ok (.if_icmp .le 5, 3) := by decide +kernel
theorem d_Checks_allowsArithmetic_94 : decode prog_3_method_6_code 94 = .ok (.iload_n 2, 1) := by decide +kernel
theorem d_Checks_allowsArithmetic_95 : decode prog_3_method_6_code 95 = .ok (.iconst 1, 1) := by decide +kernel
theorem d_Checks_allowsArithmetic_96 : decode prog_3_method_6_code 96 = .ok (.if_icmp .ne 8, 3) := by decide +kernel
theorem d_Checks_allowsArithmetic_104 : decode prog_3_method_6_code 104 = .ok (.aload_n 0, 1) := by decide +kernel
theorem d_Checks_allowsArithmetic_105 : decode prog_3_method_6_code 105 = .ok (.getfield 22, 3) := by decide +kernel
theorem d_Checks_allowsArithmetic_108 : decode prog_3_method_6_code 108 = .ok (.aload_n 0, 1) := by decide +kernel
theorem d_Checks_allowsArithmetic_109 : decode prog_3_method_6_code 109 = .ok (.getfield 23, 3) := by decide +kernel
theorem d_Checks_allowsArithmetic_112 : decode prog_3_method_6_code 112 = .ok (.getfield 52, 3) := by decide +kernel
theorem d_Checks_allowsArithmetic_115 : decode prog_3_method_6_code 115 = .ok (.aaload, 1) := by decide +kernel
theorem d_Checks_allowsArithmetic_116 : decode prog_3_method_6_code 116 = .ok (.astore_n 3, 1) := by decide +kernel
theorem d_Checks_allowsArithmetic_117 : decode prog_3_method_6_code 117 = .ok (.aload_n 0, 1) := by decide +kernel
theorem d_Checks_allowsArithmetic_118 : decode prog_3_method_6_code 118 = .ok (.getfield 23, 3) := by decide +kernel
theorem d_Checks_allowsArithmetic_121 : decode prog_3_method_6_code 121 = .ok (.getfield 76, 3) := by decide +kernel
theorem d_Checks_allowsArithmetic_124 : decode prog_3_method_6_code 124 = .ok (.ifCond .ne 22, 3) := by decide +kernel
theorem d_Checks_allowsArithmetic_127 : decode prog_3_method_6_code 127 = .ok (.aload_n 1, 1) := by decide +kernel
theorem d_Checks_allowsArithmetic_128 : decode prog_3_method_6_code 128 = .ok (.getfield 34, 3) := by decide +kernel
theorem d_Checks_allowsArithmetic_131 : decode prog_3_method_6_code 131 = .ok (.iconst 1, 1) := by decide +kernel
theorem d_Checks_allowsArithmetic_132 : decode prog_3_method_6_code 132 = .ok (.if_icmp .ne 14, 3) := by decide +kernel
theorem d_Checks_allowsArithmetic_135 : decode prog_3_method_6_code 135 = .ok (.aload_n 3, 1) := by decide +kernel
theorem d_Checks_allowsArithmetic_136 : decode prog_3_method_6_code 136 = .ok (.invokevirtual 82, 3) := by decide +kernel
theorem u_1609 : Cond.methodLink "FilterGuard$Checks" 82 ⟨"FilterGuard$Cell", "isPointer", "()Z"⟩ ∈ fg_g := fg_in (List.mem_of_getElem? (i := 1609) (by decide +kernel)) rfl
theorem d_Checks_allowsArithmetic_139 : decode prog_3_method_6_code 139 = .ok (.ifCond .eq 7, 3) := by decide +kernel
theorem d_Checks_allowsArithmetic_142 : decode prog_3_method_6_code 142 = .ok (.iconst 1, 1) := by decide +kernel
theorem d_Checks_allowsArithmetic_143 : decode prog_3_method_6_code 143 = .ok (.goto 4, 3) := by decide +kernel
theorem d_Checks_allowsArithmetic_99 : decode prog_3_method_6_code 99 = .ok (.aload_n 1, 1) := by decide +kernel
theorem d_Checks_allowsArithmetic_100 : decode prog_3_method_6_code 100 = .ok (.invokevirtual 82, 3) := by decide +kernel
theorem d_Checks_allowsArithmetic_103 : decode prog_3_method_6_code 103 = .ok (.ireturn, 1) := by decide +kernel
theorem d_Checks_allowsArithmetic_0 : decode prog_3_method_6_code 0 = .ok (.aload_n 0, 1) := by decide +kernel
theorem d_Checks_allowsArithmetic_1 : decode prog_3_method_6_code 1 = .ok (.getfield 22, 3) := by decide +kernel
theorem d_Checks_allowsArithmetic_4 : decode prog_3_method_6_code 4 = .ok (.aload_n 0, 1) := by decide +kernel
theorem d_Checks_allowsArithmetic_5 : decode prog_3_method_6_code 5 = .ok (.getfield 23, 3) := by decide +kernel
theorem d_Checks_allowsArithmetic_8 : decode prog_3_method_6_code 8 = .ok (.getfield 46, 3) := by decide +kernel
theorem u_234 : Cond.fieldLink "FilterGuard$Checks" 46 "FilterGuard$Code" "to" "I" ∈ fg_g := fg_in (List.mem_of_getElem? (i := 234) (by decide +kernel)) rfl
theorem d_Checks_allowsArithmetic_11 : decode prog_3_method_6_code 11 = .ok (.aaload, 1) := by decide +kernel
theorem d_Checks_allowsArithmetic_12 : decode prog_3_method_6_code 12 = .ok (.astore_n 1, 1) := by decide +kernel
theorem d_Checks_allowsArithmetic_13 : decode prog_3_method_6_code 13 = .ok (.aload_n 0, 1) := by decide +kernel
theorem d_Checks_allowsArithmetic_14 : decode prog_3_method_6_code 14 = .ok (.invokevirtual 72, 3) := by decide +kernel
theorem u_1605 : Cond.methodLink "FilterGuard$Checks" 72 ⟨"FilterGuard$Checks", "operandKind", "()I"⟩ ∈ fg_g := fg_in (List.mem_of_getElem? (i := 1605) (by decide +kernel)) rfl
theorem u_1608 : Cond.code ⟨"FilterGuard$Checks", "operandKind", "()I"⟩ prog_3_method_5_code 1 (some .int) ∈ fg_g := fg_in (List.mem_of_getElem? (i := 1608) (by decide +kernel)) rfl
theorem u_1607 : Cond.instanceMethod ⟨"FilterGuard$Checks", "operandKind", "()I"⟩ ∈ fg_g := fg_in (List.mem_of_getElem? (i := 1607) (by decide +kernel)) rfl
theorem u_65 : Cond.selects "FilterGuard$Checks" ⟨"FilterGuard$Checks", "operandKind", "()I"⟩ ⟨"FilterGuard$Checks", "operandKind", "()I"⟩ ∈ fg_g := fg_in (List.mem_of_getElem? (i := 65) (by decide +kernel)) rfl
theorem d_Checks_allowsArithmetic_17 : decode prog_3_method_6_code 17 = .ok (.istore_n 2, 1) := by decide +kernel
theorem d_Checks_allowsArithmetic_18 : decode prog_3_method_6_code 18 = .ok (.aload_n 0, 1) := by decide +kernel
theorem d_Checks_allowsArithmetic_19 : decode prog_3_method_6_code 19 = .ok (.getfield 23, 3) := by decide +kernel
theorem d_Checks_allowsArithmetic_22 : decode prog_3_method_6_code 22 = .ok (.getfield 76, 3) := by decide +kernel
theorem d_Checks_allowsArithmetic_25 : decode prog_3_method_6_code 25 = .ok (.bipush 12, 2) := by decide +kernel
theorem d_Checks_allowsArithmetic_27 : decode prog_3_method_6_code 27 = .ok (.if_icmp .ne 29, 3) := by decide +kernel
theorem d_Checks_allowsArithmetic_56 : decode prog_3_method_6_code 56 = .ok (.aload_n 1, 1) := by decide +kernel
theorem d_Checks_allowsArithmetic_57 : decode prog_3_method_6_code 57 = .ok (.getfield 34, 3) := by decide +kernel
theorem d_Checks_allowsArithmetic_60 : decode prog_3_method_6_code 60 = .ok (.iconst 1, 1) := by decide +kernel
theorem d_Checks_allowsArithmetic_61 : decode prog_3_method_6_code 61 = .ok (.if_icmp .ne 10, 3) := by decide +kernel
theorem d_Checks_allowsArithmetic_64 : decode prog_3_method_6_code 64 = .ok (.iload_n 2, 1) := by decide +kernel
theorem d_Checks_allowsArithmetic_65 : decode prog_3_method_6_code 65 = .ok (.iconst 1, 1) := by decide +kernel
theorem d_Checks_allowsArithmetic_66 : decode prog_3_method_6_code 66 = .ok (.if_icmp .ne 5, 3) := by decide +kernel
theorem d_Checks_allowsArithmetic_69 : decode prog_3_method_6_code 69 = .ok (.iconst 1, 1) := by decide +kernel
theorem d_Checks_allowsArithmetic_70 : decode prog_3_method_6_code 70 = .ok (.ireturn, 1) := by decide +kernel
theorem d_Checks_allowsArithmetic_30 : decode prog_3_method_6_code 30 = .ok (.aload_n 1, 1) := by decide +kernel
theorem d_Checks_allowsArithmetic_31 : decode prog_3_method_6_code 31 = .ok (.iload_n 2, 1) := by decide +kernel
theorem d_Checks_allowsArithmetic_32 : decode prog_3_method_6_code 32 = .ok (.putfield 34, 3) := by decide +kernel
theorem d_Checks_allowsArithmetic_35 : decode prog_3_method_6_code 35 = .ok (.iload_n 2, 1) := by decide +kernel
theorem d_Checks_allowsArithmetic_36 : decode prog_3_method_6_code 36 = .ok (.iconst 1, 1) := by decide +kernel
theorem d_Checks_allowsArithmetic_37 : decode prog_3_method_6_code 37 = .ok (.if_icmp .eq 13, 3) := by decide +kernel
theorem d_Checks_allowsArithmetic_50 : decode prog_3_method_6_code 50 = .ok (.iconst 1, 1) := by decide +kernel
theorem d_Checks_allowsArithmetic_51 : decode prog_3_method_6_code 51 = .ok (.goto 4, 3) := by decide +kernel
theorem d_Checks_allowsArithmetic_55 : decode prog_3_method_6_code 55 = .ok (.ireturn, 1) := by decide +kernel
theorem d_Checks_allowsArithmetic_40 : decode prog_3_method_6_code 40 = .ok (.aload_n 0, 1) := by decide +kernel
theorem d_Checks_allowsArithmetic_41 : decode prog_3_method_6_code 41 = .ok (.getfield 23, 3) := by decide +kernel
theorem d_Checks_allowsArithmetic_44 : decode prog_3_method_6_code 44 = .ok (.getfield 79, 3) := by decide +kernel
theorem d_Checks_allowsArithmetic_47 : decode prog_3_method_6_code 47 = .ok (.ifCond .ne 7, 3) := by decide +kernel
theorem d_Checks_allowsArithmetic_54 : decode prog_3_method_6_code 54 = .ok (.iconst 0, 1) := by decide +kernel
abbrev y_Checks_allowsArithmetic : MethodName := ⟨"FilterGuard$Checks", "allowsArithmetic", "()Z"⟩
def rm_Checks_allowsArithmetic : Room := { frames := 2, cells := 0, slots := 0, locals := 40 }
abbrev q_Checks_allowsArithmetic (D : va_G) (ad : Nat → Nat → Nat) (ca : Nat → ClassId) (N : Nat → Nat) (M0 MZ : me_M) (RZ : Int32) (A : Nat → Prop) : Array Value → Jvm.State → Outcome → Jvm.State → Prop := va_Qi (fun r (_ : Unit) => r = RZ ∧ me_wf N MZ ∧ me_kp M0 MZ ∧ (RZ = 1 ∨ RZ = 0)) (fg_B D A (fun _ => me_W ad ca MZ) (fun _ => [])) A
set_option maxHeartbeats 4000000 in
set_option maxRecDepth 100000 in
theorem c_Checks_allowsArithmetic (l : Launch) (D : va_G) (ad : Nat → Nat → Nat) (ca : Nat → ClassId) (N : Nat → Nat) (M0 MZ : me_M) (RZ : Int32) (j0 : Nat) (h : f_Checks_allowsArithmetic M0 j0 = (some (MZ, RZ))) (hwf : me_wf N M0) (hj0 : j0 < N 6) (sz : Nat) : Met l y_Checks_allowsArithmetic (fg_w y_Checks_allowsArithmetic prog_3_method_6_code 6 (some .boolean)) rm_Checks_allowsArithmetic (va_Pc [.ref (ad 6 j0)] (fz_P D (me_T ca) (me_W ad ca M0) sz)) (q_Checks_allowsArithmetic D ad ca N M0 MZ RZ (va_A (me_W ad ca M0) sz)) rm_Checks_allowsArithmetic.cells rm_Checks_allowsArithmetic.slots (va_A (me_W ad ca M0) sz) := by
  refine fz_enter (fun A => q_Checks_allowsArithmetic D ad ca N M0 MZ RZ A) (by decide +kernel) (Nat.le_of_ble_eq_true rfl) ?_
  intro p e s m below meth c ls A hx hb hml hown hts hr hlocks hin hP hK hD hS hA hX hl hz
  have hl : lv_has ls 6 [(0, .ref (ad 6 j0))] := hl
  unfold f_Checks_allowsArithmetic at h
  have hkp : me_kp M0 M0 := me_kp.rf
  have hkb := hkp
  have b_179 : ∀ (M : me_M) (y1 : Nat) (y2 : Int32) (y4 : Int32) (s0 : Int32) (H : Heap) (locs : List Loc) (ls : Array Slot), f_Checks_allowsArithmetic_b179 M y1 y2 y4 s0 = (some (MZ, RZ)) → (y1 < N 10) → (y4 = 1 ∨ y4 = 0) → (s0 = 1 ∨ s0 = 0) → me_wf N M → me_kp M0 M → va_P D classes (me_W ad ca M) H → va_D A (me_W ad ca M) → va_S A s.heap H locs → lv_has ls 6 [(1, .ref (ad 10 y1)), (2, .int y2), (4, .int y4)] → W p l e rm_Checks_allowsArithmetic s m [.ref (ad 6 j0)].toArray below meth c H locs 0 0 (MQ below (q_Checks_allowsArithmetic D ad ca N M0 MZ RZ A) [.ref (ad 6 j0)].toArray s rm_Checks_allowsArithmetic.cells rm_Checks_allowsArithmetic.slots A) (F0 m 179 ls [.int s0]) := by
    intro M y1 y2 y4 s0 H locs ls h hy1 zy4 zs0 hwf hkp hP hD hS hl
    unfold f_Checks_allowsArithmetic_b179 at h
    have hkb := hkp
    refine lv_istore (lv' := [(5, .int s0), (1, .ref (ad 10 y1)), (2, .int y2), (4, .int y4)]) hx hb d_Checks_allowsArithmetic_179 hl (by decide) rfl (fun ls hl => ?_)
    refine lv_aload_n hx hb d_Checks_allowsArithmetic_181 rfl (lv_at hl 1 rfl) ?_
    refine lv_iload hx hb d_Checks_allowsArithmetic_182 (lv_at hl 3 rfl) ?_
    refine lv_if_eq (tgt := 191) hx hb d_Checks_allowsArithmetic_184 (by decide) (fun c1 => ?_) (fun c1 => ?_)
    · have h := if_t c1 h
      refine lv_iconst (v := 1) hx hb d_Checks_allowsArithmetic_191 (by decide) ?_
      obtain ⟨M2, eM2, h⟩ := st_ob h
      refine p_Cell_0 eM2 hx hb hts hown hK hP hD hwf hS hy1 (hts _ u_421) d_Checks_allowsArithmetic_192 (fun H locs hP hD hwf hS => ?_)
      have hkp := kp_I eM2 hkp
      refine lv_iload hx hb d_Checks_allowsArithmetic_195 (lv_at hl 3 rfl) ?_
      refine lv_if_ne (tgt := 205) hx hb d_Checks_allowsArithmetic_197 (by decide) (fun c3 => ?_) (fun c3 => ?_)
      · have h := if_f c3 h
        refine lv_iconst (v := 1) hx hb d_Checks_allowsArithmetic_205 (by decide) ?_
        refine lv_goto (tgt := 210) hx hb d_Checks_allowsArithmetic_206 (by decide) ?_
        exact me_retz (me_kp M0) h (by decide) hx hb hr hlocks hwf hkp hP hK hD hS d_Checks_allowsArithmetic_210
      have h := if_t c3 h
      refine lv_iload hx hb d_Checks_allowsArithmetic_200 (lv_at hl 0 rfl) ?_
      refine lv_if_eq (tgt := 209) hx hb d_Checks_allowsArithmetic_202 (by decide) (fun c4 => ?_) (fun c4 => ?_)
      · have h := if_t c4 h
        refine lv_iconst (v := 0) hx hb d_Checks_allowsArithmetic_209 (by decide) ?_
        exact me_retz (me_kp M0) h (by decide) hx hb hr hlocks hwf hkp hP hK hD hS d_Checks_allowsArithmetic_210
      have h := if_f c4 h
      refine lv_iconst (v := 1) hx hb d_Checks_allowsArithmetic_205 (by decide) ?_
      refine lv_goto (tgt := 210) hx hb d_Checks_allowsArithmetic_206 (by decide) ?_
      exact me_retz (me_kp M0) h (by decide) hx hb hr hlocks hwf hkp hP hK hD hS d_Checks_allowsArithmetic_210
    have h := if_f c1 h
    refine lv_iload_n hx hb d_Checks_allowsArithmetic_187 rfl (lv_at hl 2 rfl) ?_
    refine lv_goto (tgt := 192) hx hb d_Checks_allowsArithmetic_188 (by decide) ?_
    obtain ⟨M5, eM5, h⟩ := st_ob h
    refine p_Cell_0 eM5 hx hb hts hown hK hP hD hwf hS hy1 (hts _ u_421) d_Checks_allowsArithmetic_192 (fun H locs hP hD hwf hS => ?_)
    have hkp := kp_I eM5 hkp
    refine lv_iload hx hb d_Checks_allowsArithmetic_195 (lv_at hl 3 rfl) ?_
    refine lv_if_ne (tgt := 205) hx hb d_Checks_allowsArithmetic_197 (by decide) (fun c6 => ?_) (fun c6 => ?_)
    · have h := if_f c6 h
      refine lv_iconst (v := 1) hx hb d_Checks_allowsArithmetic_205 (by decide) ?_
      refine lv_goto (tgt := 210) hx hb d_Checks_allowsArithmetic_206 (by decide) ?_
      exact me_retz (me_kp M0) h (by decide) hx hb hr hlocks hwf hkp hP hK hD hS d_Checks_allowsArithmetic_210
    have h := if_t c6 h
    refine lv_iload hx hb d_Checks_allowsArithmetic_200 (lv_at hl 0 rfl) ?_
    refine lv_if_eq (tgt := 209) hx hb d_Checks_allowsArithmetic_202 (by decide) (fun c7 => ?_) (fun c7 => ?_)
    · have h := if_t c7 h
      refine lv_iconst (v := 0) hx hb d_Checks_allowsArithmetic_209 (by decide) ?_
      exact me_retz (me_kp M0) h (by decide) hx hb hr hlocks hwf hkp hP hK hD hS d_Checks_allowsArithmetic_210
    have h := if_f c7 h
    refine lv_iconst (v := 1) hx hb d_Checks_allowsArithmetic_205 (by decide) ?_
    refine lv_goto (tgt := 210) hx hb d_Checks_allowsArithmetic_206 (by decide) ?_
    exact me_retz (me_kp M0) h (by decide) hx hb hr hlocks hwf hkp hP hK hD hS d_Checks_allowsArithmetic_210
  have b_178 : ∀ (M : me_M) (y1 : Nat) (y2 : Int32) (y4 : Int32) (H : Heap) (locs : List Loc) (ls : Array Slot), f_Checks_allowsArithmetic_b178 M y1 y2 y4 = (some (MZ, RZ)) → (y1 < N 10) → (y4 = 1 ∨ y4 = 0) → me_wf N M → me_kp M0 M → va_P D classes (me_W ad ca M) H → va_D A (me_W ad ca M) → va_S A s.heap H locs → lv_has ls 6 [(1, .ref (ad 10 y1)), (2, .int y2), (4, .int y4)] → W p l e rm_Checks_allowsArithmetic s m [.ref (ad 6 j0)].toArray below meth c H locs 0 0 (MQ below (q_Checks_allowsArithmetic D ad ca N M0 MZ RZ A) [.ref (ad 6 j0)].toArray s rm_Checks_allowsArithmetic.cells rm_Checks_allowsArithmetic.slots A) (F0 m 178 ls []) := by
    intro M y1 y2 y4 H locs ls h hy1 zy4 hwf hkp hP hD hS hl
    unfold f_Checks_allowsArithmetic_b178 at h
    have hkb := hkp
    refine lv_iconst (v := 0) hx hb d_Checks_allowsArithmetic_178 (by decide) ?_
    exact b_179 M y1 y2 y4 (0 : Int32) _ _ _ h hy1 zy4 (by decide) hwf hkp hP hD hS (lv_sub hl [0, 1, 2] rfl)
  have b_147 : ∀ (M : me_M) (y1 : Nat) (y2 : Int32) (y3 : Nat) (s0 : Int32) (H : Heap) (locs : List Loc) (ls : Array Slot), f_Checks_allowsArithmetic_b147 j0 M y1 y2 y3 s0 = (some (MZ, RZ)) → (y1 < N 10) → (y3 < N 10) → (s0 = 1 ∨ s0 = 0) → me_wf N M → me_kp M0 M → va_P D classes (me_W ad ca M) H → va_D A (me_W ad ca M) → va_S A s.heap H locs → lv_has ls 6 [(0, .ref (ad 6 j0)), (1, .ref (ad 10 y1)), (2, .int y2), (3, .ref (ad 10 y3))] → W p l e rm_Checks_allowsArithmetic s m [.ref (ad 6 j0)].toArray below meth c H locs 0 0 (MQ below (q_Checks_allowsArithmetic D ad ca N M0 MZ RZ A) [.ref (ad 6 j0)].toArray s rm_Checks_allowsArithmetic.cells rm_Checks_allowsArithmetic.slots A) (F0 m 147 ls [.int s0]) := by
    intro M y1 y2 y3 s0 H locs ls h hy1 hy3 zs0 hwf hkp hP hD hS hl
    unfold f_Checks_allowsArithmetic_b147 at h
    have hkb := hkp
    refine lv_istore (lv' := [(4, .int s0), (0, .ref (ad 6 j0)), (1, .ref (ad 10 y1)), (2, .int y2), (3, .ref (ad 10 y3))]) hx hb d_Checks_allowsArithmetic_147 hl (by decide) rfl (fun ls hl => ?_)
    refine lv_aload_n hx hb d_Checks_allowsArithmetic_149 rfl (lv_at hl 1 rfl) ?_
    refine g_Checks_0 hx hb hts hown hK hP hwf hj0 (hts _ u_610) d_Checks_allowsArithmetic_150 ?_
    obtain ⟨j8, e9, h⟩ := bd_ob h
    have hj8 : j8 < N 2 := (hwf.2.1 6 j0 0 _ e9 (by decide) hj0)
    refine me_opt (j := j8) e9 ?_
    refine g_Code_12 hx hb hts hown hK hP hwf hj8 (hts _ u_263) d_Checks_allowsArithmetic_153 ?_
    refine lv_iconst (v := 1) hx hb d_Checks_allowsArithmetic_156 (by decide) ?_
    refine lv_icmp_ne (tgt := 178) hx hb d_Checks_allowsArithmetic_157 (by decide) (fun c10 => ?_) (fun c10 => ?_)
    · have h := if_f c10 h
      exact b_178 M y1 y2 s0 _ _ _ h hy1 zs0 hwf hkp hP hD hS (lv_sub hl [2, 3, 0] rfl)
    have h := if_t c10 h
    refine lv_aload_n hx hb d_Checks_allowsArithmetic_160 rfl (lv_at hl 2 rfl) ?_
    obtain ⟨M11, r12, eM11, h⟩ := b2_ob h
    refine me_theni0 (M1 := M11) (me_runV (C := "FilterGuard$Cell") (As := []) (rest := []) ⟨hx, hb, hml, hown, hts⟩ (c_Cell_isOfPacket l D ad ca N M M11 r12 y1 eM11 hwf hy1 _) rfl (by show fg_nm y_Cell_isOfPacket 0; decide +kernel) u_1610 u_1263 u_1264 u_188 u_1265 ⟨Nat.le_of_ble_eq_true rfl, Nat.le_of_ble_eq_true rfl⟩ hX hz hK hP hD hwf hS hA hy1 (by decide) rfl rfl rfl hl.1 (Nat.le_of_ble_eq_true rfl) d_Checks_allowsArithmetic_161 ⟨Nat.le_of_ble_eq_true rfl, Nat.le_of_ble_eq_true rfl⟩) hP hD hK hS hA rfl rfl (fun H locs hw hP hD hS => ?_)
    obtain ⟨hwf, hk9, zr12⟩ := hw
    have hkp := hkp.tr hk9
    refine lv_if_eq (tgt := 178) hx hb d_Checks_allowsArithmetic_164 (by decide) (fun c13 => ?_) (fun c13 => ?_)
    · have h := if_t c13 h
      exact b_178 M11 y1 y2 s0 _ _ _ h hy1 zs0 hwf hkp hP hD hS (lv_sub hl [2, 3, 0] rfl)
    have h := if_f c13 h
    refine lv_aload_n hx hb d_Checks_allowsArithmetic_167 rfl (lv_at hl 4 rfl) ?_
    obtain ⟨M14, r15, eM14, h⟩ := b2_ob h
    refine me_theni0 (M1 := M14) (me_runV (C := "FilterGuard$Cell") (As := []) (rest := []) ⟨hx, hb, hml, hown, hts⟩ (c_Cell_isOfPacket l D ad ca N M11 M14 r15 y3 eM14 hwf hy3 _) rfl (by show fg_nm y_Cell_isOfPacket 0; decide +kernel) u_1610 u_1263 u_1264 u_188 u_1265 ⟨Nat.le_of_ble_eq_true rfl, Nat.le_of_ble_eq_true rfl⟩ hX hz hK hP hD hwf hS hA hy3 (by decide) rfl rfl rfl hl.1 (Nat.le_of_ble_eq_true rfl) d_Checks_allowsArithmetic_168 ⟨Nat.le_of_ble_eq_true rfl, Nat.le_of_ble_eq_true rfl⟩) hP hD hK hS hA rfl rfl (fun H locs hw hP hD hS => ?_)
    obtain ⟨hwf, hk9, zr15⟩ := hw
    have hkp := hkp.tr hk9
    refine lv_if_eq (tgt := 178) hx hb d_Checks_allowsArithmetic_171 (by decide) (fun c16 => ?_) (fun c16 => ?_)
    · have h := if_t c16 h
      exact b_178 M14 y1 y2 s0 _ _ _ h hy1 zs0 hwf hkp hP hD hS (lv_sub hl [2, 3, 0] rfl)
    have h := if_f c16 h
    refine lv_iconst (v := 1) hx hb d_Checks_allowsArithmetic_174 (by decide) ?_
    refine lv_goto (tgt := 179) hx hb d_Checks_allowsArithmetic_175 (by decide) ?_
    exact b_179 M14 y1 y2 s0 (1 : Int32) _ _ _ h hy1 zs0 (by decide) hwf hkp hP hD hS (lv_sub hl [2, 3, 0] rfl)
  have b_146 : ∀ (M : me_M) (y1 : Nat) (y2 : Int32) (y3 : Nat) (H : Heap) (locs : List Loc) (ls : Array Slot), f_Checks_allowsArithmetic_b146 j0 M y1 y2 y3 = (some (MZ, RZ)) → (y1 < N 10) → (y3 < N 10) → me_wf N M → me_kp M0 M → va_P D classes (me_W ad ca M) H → va_D A (me_W ad ca M) → va_S A s.heap H locs → lv_has ls 6 [(0, .ref (ad 6 j0)), (1, .ref (ad 10 y1)), (2, .int y2), (3, .ref (ad 10 y3))] → W p l e rm_Checks_allowsArithmetic s m [.ref (ad 6 j0)].toArray below meth c H locs 0 0 (MQ below (q_Checks_allowsArithmetic D ad ca N M0 MZ RZ A) [.ref (ad 6 j0)].toArray s rm_Checks_allowsArithmetic.cells rm_Checks_allowsArithmetic.slots A) (F0 m 146 ls []) := by
    intro M y1 y2 y3 H locs ls h hy1 hy3 hwf hkp hP hD hS hl
    unfold f_Checks_allowsArithmetic_b146 at h
    have hkb := hkp
    refine lv_iconst (v := 0) hx hb d_Checks_allowsArithmetic_146 (by decide) ?_
    exact b_147 M y1 y2 y3 (0 : Int32) _ _ _ h hy1 hy3 (by decide) hwf hkp hP hD hS (lv_sub hl [0, 1, 2, 3] rfl)
  have b_71 : ∀ (M : me_M) (y1 : Nat) (y2 : Int32) (H : Heap) (locs : List Loc) (ls : Array Slot), f_Checks_allowsArithmetic_b71 j0 M y1 y2 = (some (MZ, RZ)) → (y1 < N 10) → me_wf N M → me_kp M0 M → va_P D classes (me_W ad ca M) H → va_D A (me_W ad ca M) → va_S A s.heap H locs → lv_has ls 6 [(0, .ref (ad 6 j0)), (1, .ref (ad 10 y1)), (2, .int y2)] → W p l e rm_Checks_allowsArithmetic s m [.ref (ad 6 j0)].toArray below meth c H locs 0 0 (MQ below (q_Checks_allowsArithmetic D ad ca N M0 MZ RZ A) [.ref (ad 6 j0)].toArray s rm_Checks_allowsArithmetic.cells rm_Checks_allowsArithmetic.slots A) (F0 m 71 ls []) := by
    intro M y1 y2 H locs ls h hy1 hwf hkp hP hD hS hl
    unfold f_Checks_allowsArithmetic_b71 at h
    have hkb := hkp
    refine lv_aload_n hx hb d_Checks_allowsArithmetic_71 rfl (lv_at hl 0 rfl) ?_
    refine g_Checks_0 hx hb hts hown hK hP hwf hj0 (hts _ u_610) d_Checks_allowsArithmetic_72 ?_
    obtain ⟨j17, e18, h⟩ := bd_ob h
    have hj17 : j17 < N 2 := (hwf.2.1 6 j0 0 _ e18 (by decide) hj0)
    refine me_opt (j := j17) e18 ?_
    refine g_Code_13 hx hb hts hown hK hP hwf hj17 (hts _ u_267) d_Checks_allowsArithmetic_75 ?_
    have z19 := (hwf.2.2.2 2 j17 13 rfl)
    refine lv_if_ne (tgt := 92) hx hb d_Checks_allowsArithmetic_78 (by decide) (fun c20 => ?_) (fun c20 => ?_)
    · have h := if_f c20 h
      refine lv_iconst (v := 0) hx hb d_Checks_allowsArithmetic_92 (by decide) ?_
      exact me_retz (me_kp M0) h (by decide) hx hb hr hlocks hwf hkp hP hK hD hS d_Checks_allowsArithmetic_93
    have h := if_t c20 h
    refine lv_aload_n hx hb d_Checks_allowsArithmetic_81 rfl (lv_at hl 0 rfl) ?_
    refine g_Checks_0 hx hb hts hown hK hP hwf hj0 (hts _ u_610) d_Checks_allowsArithmetic_82 ?_
    refine me_opt (j := j17) e18 ?_
    refine g_Code_12 hx hb hts hown hK hP hwf hj17 (hts _ u_263) d_Checks_allowsArithmetic_85 ?_
    refine lv_iconst (v := 1) hx hb d_Checks_allowsArithmetic_88 (by decide) ?_
    refine lv_icmp_le (tgt := 94) hx hb d_Checks_allowsArithmetic_89 (by decide) (fun c21 => ?_) (fun c21 => ?_)
    · have h := if_t c21 h
      refine lv_iload_n hx hb d_Checks_allowsArithmetic_94 rfl (lv_at hl 2 rfl) ?_
      refine lv_iconst (v := 1) hx hb d_Checks_allowsArithmetic_95 (by decide) ?_
      refine lv_icmp_ne (tgt := 104) hx hb d_Checks_allowsArithmetic_96 (by decide) (fun c22 => ?_) (fun c22 => ?_)
      · have h := if_f c22 h
        refine lv_aload_n hx hb d_Checks_allowsArithmetic_104 rfl (lv_at hl 0 rfl) ?_
        refine g_Checks_3 hx hb hts hown hK hP hwf hj0 (hts _ u_613) d_Checks_allowsArithmetic_105 ?_
        obtain ⟨j23, e24, h⟩ := bd_ob h
        have hj23 : j23 < N 18 := (hwf.2.1 6 j0 3 _ e24 (by decide) hj0)
        refine me_opt (j := j23) e24 ?_
        refine lv_aload_n hx hb d_Checks_allowsArithmetic_108 rfl (lv_at hl 0 rfl) ?_
        refine g_Checks_0 hx hb hts hown hK hP hwf hj0 (hts _ u_610) d_Checks_allowsArithmetic_109 ?_
        refine me_opt (j := j17) e18 ?_
        refine g_Code_7 hx hb hts hown hK hP hwf hj17 (hts _ u_240) d_Checks_allowsArithmetic_112 ?_
        obtain ⟨g25, h⟩ := gd_ob h
        refine me_aald (k := 18) (t := 10) hx hb hK hP hwf hj23 (by decide) (by decide) rfl (fun _ => rfl) g25 d_Checks_allowsArithmetic_115 ?_
        obtain ⟨j26, e27, h⟩ := bd_ob h
        have hj26 : j26 < N 10 := (hwf.2.1 18 j23 ((mI M 2 j17 7).toNatClampNeg) _ e27 (by decide) hj23)
        refine me_opt (j := j26) e27 ?_
        refine lv_astore_n (lv' := [(3, .ref (ad 10 j26)), (0, .ref (ad 6 j0)), (1, .ref (ad 10 y1)), (2, .int y2)]) hx hb d_Checks_allowsArithmetic_116 rfl hl (by decide) rfl (fun ls hl => ?_)
        refine lv_aload_n hx hb d_Checks_allowsArithmetic_117 rfl (lv_at hl 1 rfl) ?_
        refine g_Checks_0 hx hb hts hown hK hP hwf hj0 (hts _ u_610) d_Checks_allowsArithmetic_118 ?_
        refine me_opt (j := j17) e18 ?_
        refine g_Code_12 hx hb hts hown hK hP hwf hj17 (hts _ u_263) d_Checks_allowsArithmetic_121 ?_
        refine lv_if_ne (tgt := 146) hx hb d_Checks_allowsArithmetic_124 (by decide) (fun c28 => ?_) (fun c28 => ?_)
        · have h := if_f c28 h
          exact b_146 M y1 y2 j26 _ _ _ h hy1 hj26 hwf hkp hP hD hS (lv_sub hl [1, 2, 3, 0] rfl)
        have h := if_t c28 h
        refine lv_aload_n hx hb d_Checks_allowsArithmetic_127 rfl (lv_at hl 2 rfl) ?_
        refine g_Cell_0 hx hb hts hown hK hP hwf hy1 (hts _ u_421) d_Checks_allowsArithmetic_128 ?_
        refine lv_iconst (v := 1) hx hb d_Checks_allowsArithmetic_131 (by decide) ?_
        refine lv_icmp_ne (tgt := 146) hx hb d_Checks_allowsArithmetic_132 (by decide) (fun c29 => ?_) (fun c29 => ?_)
        · have h := if_f c29 h
          exact b_146 M y1 y2 j26 _ _ _ h hy1 hj26 hwf hkp hP hD hS (lv_sub hl [1, 2, 3, 0] rfl)
        have h := if_t c29 h
        refine lv_aload_n hx hb d_Checks_allowsArithmetic_135 rfl (lv_at hl 0 rfl) ?_
        obtain ⟨M30, r31, eM30, h⟩ := b2_ob h
        refine me_theni0 (M1 := M30) (me_runV (C := "FilterGuard$Cell") (As := []) (rest := []) ⟨hx, hb, hml, hown, hts⟩ (c_Cell_isPointer l D ad ca N M M30 r31 j26 eM30 hwf hj26 _) rfl (by show fg_nm y_Cell_isPointer 0; decide +kernel) u_1609 u_1243 u_1244 u_188 u_1245 ⟨Nat.le_of_ble_eq_true rfl, Nat.le_of_ble_eq_true rfl⟩ hX hz hK hP hD hwf hS hA hj26 (by decide) rfl rfl rfl hl.1 (Nat.le_of_ble_eq_true rfl) d_Checks_allowsArithmetic_136 ⟨Nat.le_of_ble_eq_true rfl, Nat.le_of_ble_eq_true rfl⟩) hP hD hK hS hA rfl rfl (fun H locs hw hP hD hS => ?_)
        obtain ⟨hwf, hk9, zr31⟩ := hw
        have hkp := hkp.tr hk9
        refine lv_if_eq (tgt := 146) hx hb d_Checks_allowsArithmetic_139 (by decide) (fun c32 => ?_) (fun c32 => ?_)
        · have h := if_t c32 h
          exact b_146 M30 y1 y2 j26 _ _ _ h hy1 hj26 hwf hkp hP hD hS (lv_sub hl [1, 2, 3, 0] rfl)
        have h := if_f c32 h
        refine lv_iconst (v := 1) hx hb d_Checks_allowsArithmetic_142 (by decide) ?_
        refine lv_goto (tgt := 147) hx hb d_Checks_allowsArithmetic_143 (by decide) ?_
        exact b_147 M30 y1 y2 j26 (1 : Int32) _ _ _ h hy1 hj26 (by decide) hwf hkp hP hD hS (lv_sub hl [1, 2, 3, 0] rfl)
      have h := if_t c22 h
      refine lv_aload_n hx hb d_Checks_allowsArithmetic_99 rfl (lv_at hl 1 rfl) ?_
      obtain ⟨M33, r34, eM33, h⟩ := b2_ob h
      refine me_theni0 (M1 := M33) (me_runV (C := "FilterGuard$Cell") (As := []) (rest := []) ⟨hx, hb, hml, hown, hts⟩ (c_Cell_isPointer l D ad ca N M M33 r34 y1 eM33 hwf hy1 _) rfl (by show fg_nm y_Cell_isPointer 0; decide +kernel) u_1609 u_1243 u_1244 u_188 u_1245 ⟨Nat.le_of_ble_eq_true rfl, Nat.le_of_ble_eq_true rfl⟩ hX hz hK hP hD hwf hS hA hy1 (by decide) rfl rfl rfl hl.1 (Nat.le_of_ble_eq_true rfl) d_Checks_allowsArithmetic_100 ⟨Nat.le_of_ble_eq_true rfl, Nat.le_of_ble_eq_true rfl⟩) hP hD hK hS hA rfl rfl (fun H locs hw hP hD hS => ?_)
      obtain ⟨hwf, hk9, zr34⟩ := hw
      have hkp := hkp.tr hk9
      exact me_retz (me_kp M0) h zr34 hx hb hr hlocks hwf hkp hP hK hD hS d_Checks_allowsArithmetic_103
    have h := if_f c21 h
    refine lv_iconst (v := 0) hx hb d_Checks_allowsArithmetic_92 (by decide) ?_
    exact me_retz (me_kp M0) h (by decide) hx hb hr hlocks hwf hkp hP hK hD hS d_Checks_allowsArithmetic_93
  refine lv_aload_n hx hb d_Checks_allowsArithmetic_0 rfl (lv_at hl 0 rfl) ?_
  refine g_Checks_3 hx hb hts hown hK hP hwf hj0 (hts _ u_613) d_Checks_allowsArithmetic_1 ?_
  obtain ⟨j35, e36, h⟩ := bd_ob h
  have hj35 : j35 < N 18 := (hwf.2.1 6 j0 3 _ e36 (by decide) hj0)
  refine me_opt (j := j35) e36 ?_
  refine lv_aload_n hx hb d_Checks_allowsArithmetic_4 rfl (lv_at hl 0 rfl) ?_
  refine g_Checks_0 hx hb hts hown hK hP hwf hj0 (hts _ u_610) d_Checks_allowsArithmetic_5 ?_
  obtain ⟨j37, e38, h⟩ := bd_ob h
  have hj37 : j37 < N 2 := (hwf.2.1 6 j0 0 _ e38 (by decide) hj0)
  refine me_opt (j := j37) e38 ?_
  refine g_Code_6 hx hb hts hown hK hP hwf hj37 (hts _ u_234) d_Checks_allowsArithmetic_8 ?_
  obtain ⟨g39, h⟩ := gd_ob h
  refine me_aald (k := 18) (t := 10) hx hb hK hP hwf hj35 (by decide) (by decide) rfl (fun _ => rfl) g39 d_Checks_allowsArithmetic_11 ?_
  obtain ⟨j40, e41, h⟩ := bd_ob h
  have hj40 : j40 < N 10 := (hwf.2.1 18 j35 ((mI M0 2 j37 6).toNatClampNeg) _ e41 (by decide) hj35)
  refine me_opt (j := j40) e41 ?_
  refine lv_astore_n (lv' := [(1, .ref (ad 10 j40)), (0, .ref (ad 6 j0))]) hx hb d_Checks_allowsArithmetic_12 rfl hl (by decide) rfl (fun ls hl => ?_)
  refine lv_aload_n hx hb d_Checks_allowsArithmetic_13 rfl (lv_at hl 1 rfl) ?_
  obtain ⟨M42, r43, eM42, h⟩ := b2_ob h
  refine me_theni0 (M1 := M42) (me_runV (C := "FilterGuard$Checks") (As := []) (rest := []) ⟨hx, hb, hml, hown, hts⟩ (c_Checks_operandKind l D ad ca N M0 M42 r43 j0 eM42 hwf hj0 _) rfl (by show fg_nm y_Checks_operandKind 0; decide +kernel) u_1605 u_1607 u_65 u_191 u_1608 ⟨Nat.le_of_ble_eq_true rfl, Nat.le_of_ble_eq_true rfl⟩ hX hz hK hP hD hwf hS hA hj0 (by decide) rfl rfl rfl hl.1 (Nat.le_of_ble_eq_true rfl) d_Checks_allowsArithmetic_14 ⟨Nat.le_of_ble_eq_true rfl, Nat.le_of_ble_eq_true rfl⟩) hP hD hK hS hA rfl rfl (fun H locs hw hP hD hS => ?_)
  obtain ⟨hwf, hk9⟩ := hw
  have hkp := hkp.tr hk9
  refine lv_istore_n (lv' := [(2, .int r43), (1, .ref (ad 10 j40)), (0, .ref (ad 6 j0))]) hx hb d_Checks_allowsArithmetic_17 rfl hl (by decide) rfl (fun ls hl => ?_)
  refine lv_aload_n hx hb d_Checks_allowsArithmetic_18 rfl (lv_at hl 2 rfl) ?_
  refine g_Checks_0 hx hb hts hown hK hP hwf hj0 (hts _ u_610) d_Checks_allowsArithmetic_19 ?_
  refine me_opt (j := j37) (kp_r hkb hkp e38) ?_
  refine g_Code_12 hx hb hts hown hK hP hwf hj37 (hts _ u_263) d_Checks_allowsArithmetic_22 ?_
  refine lv_bipush (v := 12) hx hb d_Checks_allowsArithmetic_25 (by decide) ?_
  refine lv_icmp_ne (tgt := 56) hx hb d_Checks_allowsArithmetic_27 (by decide) (fun c44 => ?_) (fun c44 => ?_)
  · have h := if_f c44 h
    refine lv_aload_n hx hb d_Checks_allowsArithmetic_56 rfl (lv_at hl 1 rfl) ?_
    refine g_Cell_0 hx hb hts hown hK hP hwf hj40 (hts _ u_421) d_Checks_allowsArithmetic_57 ?_
    refine lv_iconst (v := 1) hx hb d_Checks_allowsArithmetic_60 (by decide) ?_
    refine lv_icmp_ne (tgt := 71) hx hb d_Checks_allowsArithmetic_61 (by decide) (fun c45 => ?_) (fun c45 => ?_)
    · have h := if_f c45 h
      exact b_71 M42 j40 r43 _ _ _ h hj40 hwf hkp hP hD hS (lv_sub hl [2, 1, 0] rfl)
    have h := if_t c45 h
    refine lv_iload_n hx hb d_Checks_allowsArithmetic_64 rfl (lv_at hl 0 rfl) ?_
    refine lv_iconst (v := 1) hx hb d_Checks_allowsArithmetic_65 (by decide) ?_
    refine lv_icmp_ne (tgt := 71) hx hb d_Checks_allowsArithmetic_66 (by decide) (fun c46 => ?_) (fun c46 => ?_)
    · have h := if_f c46 h
      exact b_71 M42 j40 r43 _ _ _ h hj40 hwf hkp hP hD hS (lv_sub hl [2, 1, 0] rfl)
    have h := if_t c46 h
    refine lv_iconst (v := 1) hx hb d_Checks_allowsArithmetic_69 (by decide) ?_
    exact me_retz (me_kp M0) h (by decide) hx hb hr hlocks hwf hkp hP hK hD hS d_Checks_allowsArithmetic_70
  have h := if_t c44 h
  refine lv_aload_n hx hb d_Checks_allowsArithmetic_30 rfl (lv_at hl 1 rfl) ?_
  refine lv_iload_n hx hb d_Checks_allowsArithmetic_31 rfl (lv_at hl 0 rfl) ?_
  obtain ⟨M47, eM47, h⟩ := st_ob h
  refine p_Cell_0 eM47 hx hb hts hown hK hP hD hwf hS hj40 (hts _ u_421) d_Checks_allowsArithmetic_32 (fun H locs hP hD hwf hS => ?_)
  have hkp := kp_I eM47 hkp
  refine lv_iload_n hx hb d_Checks_allowsArithmetic_35 rfl (lv_at hl 0 rfl) ?_
  refine lv_iconst (v := 1) hx hb d_Checks_allowsArithmetic_36 (by decide) ?_
  refine lv_icmp_eq (tgt := 50) hx hb d_Checks_allowsArithmetic_37 (by decide) (fun c48 => ?_) (fun c48 => ?_)
  · have h := if_t c48 h
    refine lv_iconst (v := 1) hx hb d_Checks_allowsArithmetic_50 (by decide) ?_
    refine lv_goto (tgt := 55) hx hb d_Checks_allowsArithmetic_51 (by decide) ?_
    exact me_retz (me_kp M0) h (by decide) hx hb hr hlocks hwf hkp hP hK hD hS d_Checks_allowsArithmetic_55
  have h := if_f c48 h
  refine lv_aload_n hx hb d_Checks_allowsArithmetic_40 rfl (lv_at hl 2 rfl) ?_
  refine g_Checks_0 hx hb hts hown hK hP hwf hj0 (hts _ u_610) d_Checks_allowsArithmetic_41 ?_
  refine me_opt (j := j37) (kp_r hkb hkp e38) ?_
  refine g_Code_13 hx hb hts hown hK hP hwf hj37 (hts _ u_267) d_Checks_allowsArithmetic_44 ?_
  have z49 := (hwf.2.2.2 2 j37 13 rfl)
  refine lv_if_ne (tgt := 54) hx hb d_Checks_allowsArithmetic_47 (by decide) (fun c50 => ?_) (fun c50 => ?_)
  · have h := if_f c50 h
    refine lv_iconst (v := 0) hx hb d_Checks_allowsArithmetic_54 (by decide) ?_
    exact me_retz (me_kp M0) h (by decide) hx hb hr hlocks hwf hkp hP hK hD hS d_Checks_allowsArithmetic_55
  have h := if_t c50 h
  refine lv_iconst (v := 1) hx hb d_Checks_allowsArithmetic_50 (by decide) ?_
  refine lv_goto (tgt := 55) hx hb d_Checks_allowsArithmetic_51 (by decide) ?_
  exact me_retz (me_kp M0) h (by decide) hx hb hr hlocks hwf hkp hP hK hD hS d_Checks_allowsArithmetic_55
