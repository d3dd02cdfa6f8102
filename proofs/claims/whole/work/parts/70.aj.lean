theorem d_Steps_begin_0 : decode prog_11_method_2_code 0 = .ok (.aload_n 0, 1) := by decide +kernel
theorem d_Steps_begin_1 : decode prog_11_method_2_code 1 = .ok (.iconst 0, 1) := by decide +kernel
theorem d_Steps_begin_2 : decode prog_11_method_2_code 2 = .ok (.putfield 52, 3) := by decide +kernel
theorem u_462 : Cond.fieldLink "FilterGuard$Steps" 52 "FilterGuard$Steps" "identities" "I" ∈ fg_g := fg_in (List.mem_of_getElem? (i := 462) (by decide +kernel)) rfl
theorem p_Steps_7 {p : Program} {l : Launch} {e : Env} {R : Room} {s : Jvm.State} {m : MethodId} {args : Array Value} {below : List Frame} {meth : Method} {c : Code} {H : Heap} {locs : List Loc} {cells slots : Nat} {Q : Jvm.State → Prop} {cc : ByteArray} {pc : Nat} {ls : Array Slot} {rest : List Value} {D : va_G} {A : Nat → Prop} {H0 : Heap} {ad : Nat → Nat → Nat} {ca : Nat → ClassId} {M M1 : me_M} {N : Nat → Nat} {own : String} {index j : Nat} {v : Int32} (he : M1 = wI M 7 j 7 v) (hexec : p.tables.exec = Jvm.exec) (hb : c.code = cc) (hts : ∀ w ∈ fg_g, w.before args s = true) (hown : s.vm.findClass own = some m.cls) (hK : va_K D classes (me_T ca) s) (hP : va_P D classes (me_W ad ca M) H) (hD : va_D A (me_W ad ca M)) (hwf : me_wf N M) (hS : va_S A H0 H locs) (hj : j < N 7) (hlink : (Cond.fieldLink own index "FilterGuard$Steps" "identities" "I").before args s = true) (hdg : decode cc pc = .ok (.putfield index, 3)) (kk : ∀ (H1 : Heap) (locs1 : List Loc), va_P D classes (me_W ad ca M1) H1 → va_D A (me_W ad ca M1) → me_wf N M1 → va_S A H0 H1 locs1 → W p l e R s m args below meth c H1 locs1 cells slots Q (F0 m (pc + 3) ls rest)) : W p l e R s m args below meth c H locs cells slots Q (F0 m pc ls (.int v :: .ref (ad 7 j) :: rest)) := by
  subst he
  exact me_put (M1 := wI M 7 j 7 v) (k := 7) (f := 7) (C := "FilterGuard$Steps") (T := F_Steps) (Nf := 19) hexec hb hts i_Steps t_Steps t_Steps_ok n_Steps hown hK hP hD hwf hS hj (by decide) rfl (by decide) (by decide) hlink (fun _ h9 => h9) rfl rfl rfl rfl (fun a b h => me_wIE h) (me_fIw (by decide) (by decide)) hdg (fun H1 locs1 a1 a2 a3 => kk H1 locs1 a1 a2 (me_wfI hwf (fun z => absurd z (by decide)) (fun z => absurd z (by decide))) a3)
theorem d_Steps_begin_5 : decode prog_11_method_2_code 5 = .ok (.return_, 1) := by decide +kernel
abbrev y_Steps_begin : MethodName := ⟨"FilterGuard$Steps", "begin", "()V"⟩
def f_Steps_begin (M0 : me_M) (j0 : Nat) : Option me_M := st (wI M0 7 j0 7 0) (fun (M1 : me_M) => some M1)
def rm_Steps_begin : Room := { frames := 1, cells := 0, slots := 0, locals := 20 }
abbrev q_Steps_begin (D : va_G) (ad : Nat → Nat → Nat) (ca : Nat → ClassId) (N : Nat → Nat) (M0 MZ : me_M) (A : Nat → Prop) : Array Value → Jvm.State → Outcome → Jvm.State → Prop := va_Qv (fun (_ : Unit) => me_wf N MZ ∧ me_kp M0 MZ) (fg_B D A (fun _ => me_W ad ca MZ) (fun _ => [])) A
set_option maxHeartbeats 4000000 in
set_option maxRecDepth 100000 in
theorem c_Steps_begin (l : Launch) (D : va_G) (ad : Nat → Nat → Nat) (ca : Nat → ClassId) (N : Nat → Nat) (M0 MZ : me_M) (j0 : Nat) (h : f_Steps_begin M0 j0 = (some MZ)) (hwf : me_wf N M0) (hj0 : j0 < N 7) (sz : Nat) : Met l y_Steps_begin (fg_w y_Steps_begin prog_11_method_2_code 1 none) rm_Steps_begin (va_Pc [.ref (ad 7 j0)] (fz_P D (me_T ca) (me_W ad ca M0) sz)) (q_Steps_begin D ad ca N M0 MZ (va_A (me_W ad ca M0) sz)) rm_Steps_begin.cells rm_Steps_begin.slots (va_A (me_W ad ca M0) sz) := by
  refine fz_enter (fun A => q_Steps_begin D ad ca N M0 MZ A) (by decide +kernel) (Nat.le_of_ble_eq_true rfl) ?_
  intro p e s m below meth c ls A hx hb hml hown hts hr hlocks hin hP hK hD hS hA hX hl hz
  have hl : lv_has ls 1 [(0, .ref (ad 7 j0))] := hl
  unfold f_Steps_begin at h
  have hkp : me_kp M0 M0 := me_kp.rf
  have hkb := hkp
  refine lv_aload_n hx hb d_Steps_begin_0 rfl (lv_at hl 0 rfl) ?_
  refine lv_iconst (v := 0) hx hb d_Steps_begin_1 (by decide) ?_
  obtain ⟨M1, eM1, h⟩ := st_ob h
  refine p_Steps_7 eM1 hx hb hts hown hK hP hD hwf hS hj0 (hts _ u_462) d_Steps_begin_2 (fun H locs hP hD hwf hS => ?_)
  have hkp := kp_I eM1 hkp
  exact me_retv (me_kp M0) h hx hb hr hlocks hwf hkp hP hK hD hS d_Steps_begin_5
theorem d_Cell_clear_0 : decode prog_2_method_2_code 0 = .ok (.aload_n 0, 1) := by decide +kernel
theorem d_Cell_clear_1 : decode prog_2_method_2_code 1 = .ok (.iconst 0, 1) := by decide +kernel
theorem d_Cell_clear_2 : decode prog_2_method_2_code 2 = .ok (.putfield 18, 3) := by decide +kernel
theorem u_420 : Cond.fieldLink "FilterGuard$Cell" 18 "FilterGuard$Cell" "kind" "I" ∈ fg_g := fg_in (List.mem_of_getElem? (i := 420) (by decide +kernel)) rfl
theorem p_Cell_0 {p : Program} {l : Launch} {e : Env} {R : Room} {s : Jvm.State} {m : MethodId} {args : Array Value} {below : List Frame} {meth : Method} {c : Code} {H : Heap} {locs : List Loc} {cells slots : Nat} {Q : Jvm.State → Prop} {cc : ByteArray} {pc : Nat} {ls : Array Slot} {rest : List Value} {D : va_G} {A : Nat → Prop} {H0 : Heap} {ad : Nat → Nat → Nat} {ca : Nat → ClassId} {M M1 : me_M} {N : Nat → Nat} {own : String} {index j : Nat} {v : Int32} (he : M1 = wI M 10 j 0 v) (hexec : p.tables.exec = Jvm.exec) (hb : c.code = cc) (hts : ∀ w ∈ fg_g, w.before args s = true) (hown : s.vm.findClass own = some m.cls) (hK : va_K D classes (me_T ca) s) (hP : va_P D classes (me_W ad ca M) H) (hD : va_D A (me_W ad ca M)) (hwf : me_wf N M) (hS : va_S A H0 H locs) (hj : j < N 10) (hlink : (Cond.fieldLink own index "FilterGuard$Cell" "kind" "I").before args s = true) (hdg : decode cc pc = .ok (.putfield index, 3)) (kk : ∀ (H1 : Heap) (locs1 : List Loc), va_P D classes (me_W ad ca M1) H1 → va_D A (me_W ad ca M1) → me_wf N M1 → va_S A H0 H1 locs1 → W p l e R s m args below meth c H1 locs1 cells slots Q (F0 m (pc + 3) ls rest)) : W p l e R s m args below meth c H locs cells slots Q (F0 m pc ls (.int v :: .ref (ad 10 j) :: rest)) := by
  subst he
  exact me_put (M1 := wI M 10 j 0 v) (k := 10) (f := 0) (C := "FilterGuard$Cell") (T := F_Cell) (Nf := 7) hexec hb hts i_Cell t_Cell t_Cell_ok n_Cell hown hK hP hD hwf hS hj (by decide) rfl (by decide) (by decide) hlink (fun _ h9 => h9) rfl rfl rfl rfl (fun a b h => me_wIE h) (me_fIw (by decide) (by decide)) hdg (fun H1 locs1 a1 a2 a3 => kk H1 locs1 a1 a2 (me_wfI hwf (fun z => absurd z (by decide)) (fun z => absurd z (by decide))) a3)
theorem d_Cell_clear_5 : decode prog_2_method_2_code 5 = .ok (.aload_n 0, 1) := by decide +kernel
theorem d_Cell_clear_6 : decode prog_2_method_2_code 6 = .ok (.iconst 0, 1) := by decide +kernel
theorem d_Cell_clear_7 : decode prog_2_method_2_code 7 = .ok (.putfield 22, 3) := by decide +kernel
theorem u_433 : Cond.fieldLink "FilterGuard$Cell" 22 "FilterGuard$Cell" "written" "I" ∈ fg_g := fg_in (List.mem_of_getElem? (i := 433) (by decide +kernel)) rfl
theorem p_Cell_5 {p : Program} {l : Launch} {e : Env} {R : Room} {s : Jvm.State} {m : MethodId} {args : Array Value} {below : List Frame} {meth : Method} {c : Code} {H : Heap} {locs : List Loc} {cells slots : Nat} {Q : Jvm.State → Prop} {cc : ByteArray} {pc : Nat} {ls : Array Slot} {rest : List Value} {D : va_G} {A : Nat → Prop} {H0 : Heap} {ad : Nat → Nat → Nat} {ca : Nat → ClassId} {M M1 : me_M} {N : Nat → Nat} {own : String} {index j : Nat} {v : Int32} (he : M1 = wI M 10 j 5 v) (hexec : p.tables.exec = Jvm.exec) (hb : c.code = cc) (hts : ∀ w ∈ fg_g, w.before args s = true) (hown : s.vm.findClass own = some m.cls) (hK : va_K D classes (me_T ca) s) (hP : va_P D classes (me_W ad ca M) H) (hD : va_D A (me_W ad ca M)) (hwf : me_wf N M) (hS : va_S A H0 H locs) (hj : j < N 10) (hlink : (Cond.fieldLink own index "FilterGuard$Cell" "written" "I").before args s = true) (hdg : decode cc pc = .ok (.putfield index, 3)) (kk : ∀ (H1 : Heap) (locs1 : List Loc), va_P D classes (me_W ad ca M1) H1 → va_D A (me_W ad ca M1) → me_wf N M1 → va_S A H0 H1 locs1 → W p l e R s m args below meth c H1 locs1 cells slots Q (F0 m (pc + 3) ls rest)) : W p l e R s m args below meth c H locs cells slots Q (F0 m pc ls (.int v :: .ref (ad 10 j) :: rest)) := by
  subst he
  exact me_put (M1 := wI M 10 j 5 v) (k := 10) (f := 5) (C := "FilterGuard$Cell") (T := F_Cell) (Nf := 7) hexec hb hts i_Cell t_Cell t_Cell_ok n_Cell hown hK hP hD hwf hS hj (by decide) rfl (by decide) (by decide) hlink (fun _ h9 => h9) rfl rfl rfl rfl (fun a b h => me_wIE h) (me_fIw (by decide) (by decide)) hdg (fun H1 locs1 a1 a2 a3 => kk H1 locs1 a1 a2 (me_wfI hwf (fun z => absurd z (by decide)) (fun z => absurd z (by decide))) a3)
theorem d_Cell_clear_10 : decode prog_2_method_2_code 10 = .ok (.return_, 1) := by decide +kernel
abbrev y_Cell_clear : MethodName := ⟨"FilterGuard$Cell", "clear", "()V"⟩
def f_Cell_clear (M0 : me_M) (j0 : Nat) : Option me_M := st (wI M0 10 j0 0 0) (fun (M1 : me_M) => st (wI M1 10 j0 5 0) (fun (M2 : me_M) => some M2))
def rm_Cell_clear : Room := { frames := 1, cells := 0, slots := 0, locals := 20 }
abbrev q_Cell_clear (D : va_G) (ad : Nat → Nat → Nat) (ca : Nat → ClassId) (N : Nat → Nat) (M0 MZ : me_M) (A : Nat → Prop) : Array Value → Jvm.State → Outcome → Jvm.State → Prop := va_Qv (fun (_ : Unit) => me_wf N MZ ∧ me_kp M0 MZ) (fg_B D A (fun _ => me_W ad ca MZ) (fun _ => [])) A
set_option maxHeartbeats 4000000 in
set_option maxRecDepth 100000 in
theorem c_Cell_clear (l : Launch) (D : va_G) (ad : Nat → Nat → Nat) (ca : Nat → ClassId) (N : Nat → Nat) (M0 MZ : me_M) (j0 : Nat) (h : f_Cell_clear M0 j0 = (some MZ)) (hwf : me_wf N M0) (hj0 : j0 < N 10) (sz : Nat) : Met l y_Cell_clear (fg_w y_Cell_clear prog_2_method_2_code 1 none) rm_Cell_clear (va_Pc [.ref (ad 10 j0)] (fz_P D (me_T ca) (me_W ad ca M0) sz)) (q_Cell_clear D ad ca N M0 MZ (va_A (me_W ad ca M0) sz)) rm_Cell_clear.cells rm_Cell_clear.slots (va_A (me_W ad ca M0) sz) := by
  refine fz_enter (fun A => q_Cell_clear D ad ca N M0 MZ A) (by decide +kernel) (Nat.le_of_ble_eq_true rfl) ?_
  intro p e s m below meth c ls A hx hb hml hown hts hr hlocks hin hP hK hD hS hA hX hl hz
  have hl : lv_has ls 1 [(0, .ref (ad 10 j0))] := hl
  unfold f_Cell_clear at h
  have hkp : me_kp M0 M0 := me_kp.rf
  have hkb := hkp
  refine lv_aload_n hx hb d_Cell_clear_0 rfl (lv_at hl 0 rfl) ?_
  refine lv_iconst (v := 0) hx hb d_Cell_clear_1 (by decide) ?_
  obtain ⟨M1, eM1, h⟩ := st_ob h
  refine p_Cell_0 eM1 hx hb hts hown hK hP hD hwf hS hj0 (hts _ u_420) d_Cell_clear_2 (fun H locs hP hD hwf hS => ?_)
  have hkp := kp_I eM1 hkp
  refine lv_aload_n hx hb d_Cell_clear_5 rfl (lv_at hl 0 rfl) ?_
  refine lv_iconst (v := 0) hx hb d_Cell_clear_6 (by decide) ?_
  obtain ⟨M2, eM2, h⟩ := st_ob h
  refine p_Cell_5 eM2 hx hb hts hown hK hP hD hwf hS hj0 (hts _ u_433) d_Cell_clear_7 (fun H locs hP hD hwf hS => ?_)
  have hkp := kp_I eM2 hkp
  exact me_retv (me_kp M0) h hx hb hr hlocks hwf hkp hP hK hD hS d_Cell_clear_10
theorem d_State_clearFrom_2 : decode prog_10_method_4_code 2 = .ok (.iload_n 2, 1) := by decide +kernel
theorem d_State_clearFrom_3 : decode prog_10_method_4_code 3 = .ok (.aload_n 0, 1) := by decide +kernel
theorem d_State_clearFrom_4 : decode prog_10_method_4_code 4 = .ok (.getfield 17, 3) := by decide +kernel
theorem g_State_1 {p : Program} {l : Launch} {e : Env} {R : Room} {s : Jvm.State} {m : MethodId} {args : Array Value} {below : List Frame} {meth : Method} {c : Code} {H : Heap} {locs : List Loc} {cells slots : Nat} {Q : Jvm.State → Prop} {cc : ByteArray} {pc : Nat} {ls : Array Slot} {rest : List Value} {D : va_G} {ad : Nat → Nat → Nat} {ca : Nat → ClassId} {M : me_M} {N : Nat → Nat} {own : String} {index j : Nat} (hexec : p.tables.exec = Jvm.exec) (hb : c.code = cc) (hts : ∀ w ∈ fg_g, w.before args s = true) (hown : s.vm.findClass own = some m.cls) (hK : va_K D classes (me_T ca) s) (hP : va_P D classes (me_W ad ca M) H) (hwf : me_wf N M) (hj : j < N 9) (hlink : (Cond.fieldLink own index "FilterGuard$State" "used" "I").before args s = true) (hdg : decode cc pc = .ok (.getfield index, 3)) (kk : W p l e R s m args below meth c H locs cells slots Q (F0 m (pc + 3) ls (.int (mI M 9 j 1) :: rest))) : W p l e R s m args below meth c H locs cells slots Q (F0 m pc ls (.ref (ad 9 j) :: rest)) := me_get (k := 9) (f := 1) (C := "FilterGuard$State") (T := F_State) (Nf := 5) hexec hb hts i_State hown hK hP hwf hj (by decide) rfl (by decide) (by decide) hlink (fun _ h9 => h9) hdg kk
theorem d_State_clearFrom_7 : decode prog_10_method_4_code 7 = .ok (.if_icmp .ge 18, 3) := by decide +kernel
theorem d_State_clearFrom_25 : decode prog_10_method_4_code 25 = .ok (.return_, 1) := by decide +kernel
theorem d_State_clearFrom_10 : decode prog_10_method_4_code 10 = .ok (.aload_n 0, 1) := by decide +kernel
theorem d_State_clearFrom_11 : decode prog_10_method_4_code 11 = .ok (.getfield 11, 3) := by decide +kernel
theorem d_State_clearFrom_14 : decode prog_10_method_4_code 14 = .ok (.iload_n 2, 1) := by decide +kernel
theorem d_State_clearFrom_15 : decode prog_10_method_4_code 15 = .ok (.aaload, 1) := by decide +kernel
theorem d_State_clearFrom_16 : decode prog_10_method_4_code 16 = .ok (.invokevirtual 37, 3) := by decide +kernel
theorem u_1028 : Cond.methodLink "FilterGuard$State" 37 ⟨"FilterGuard$Cell", "clear", "()V"⟩ ∈ fg_g := fg_in (List.mem_of_getElem? (i := 1028) (by decide +kernel)) rfl
theorem u_1031 : Cond.code ⟨"FilterGuard$Cell", "clear", "()V"⟩ prog_2_method_2_code 1 none ∈ fg_g := fg_in (List.mem_of_getElem? (i := 1031) (by decide +kernel)) rfl
theorem u_1029 : Cond.instanceMethod ⟨"FilterGuard$Cell", "clear", "()V"⟩ ∈ fg_g := fg_in (List.mem_of_getElem? (i := 1029) (by decide +kernel)) rfl
theorem u_1030 : Cond.selects "FilterGuard$Cell" ⟨"FilterGuard$Cell", "clear", "()V"⟩ ⟨"FilterGuard$Cell", "clear", "()V"⟩ ∈ fg_g := fg_in (List.mem_of_getElem? (i := 1030) (by decide +kernel)) rfl
theorem d_State_clearFrom_19 : decode prog_10_method_4_code 19 = .ok (.iinc 2 1, 3) := by decide +kernel
theorem d_State_clearFrom_22 : decode prog_10_method_4_code 22 = .ok (.goto (-20), 3) := by decide +kernel
theorem d_State_clearFrom_0 : decode prog_10_method_4_code 0 = .ok (.iload_n 1, 1) := by decide +kernel
theorem d_State_clearFrom_1 : decode prog_10_method_4_code 1 = .ok (.istore_n 2, 1) := by decide +kernel
abbrev y_State_clearFrom : MethodName := ⟨"FilterGuard$State", "clearFrom", "(I)V"⟩
def f_State_clearFrom_l2 (j0 : Nat) : Nat → me_M → Int32 → Option me_M
  | 0, _, _ => none
  | fu + 1, M, y2 => (if (mI M 9 j0 1) ≤ y2 then some M else bd (mR M 9 j0 0) (fun (j2 : Nat) => gd (¬ (y2 < 0 ∨ mZ M 18 j2 ≤ y2.toNatClampNeg)) (bd (mR M 18 j2 y2.toNatClampNeg) (fun (j5 : Nat) => bd (f_Cell_clear M j5) (fun (M7 : me_M) => f_State_clearFrom_l2 j0 fu M7 (y2 + 1))))))
def f_State_clearFrom (M0 : me_M) (j0 : Nat) (x1 : Int32) : Option me_M := f_State_clearFrom_l2 j0 fuel M0 x1
def rm_State_clearFrom : Room := { frames := 2, cells := 0, slots := 0, locals := 40 }
abbrev q_State_clearFrom (D : va_G) (ad : Nat → Nat → Nat) (ca : Nat → ClassId) (N : Nat → Nat) (M0 MZ : me_M) (A : Nat → Prop) : Array Value → Jvm.State → Outcome → Jvm.State → Prop := va_Qv (fun (_ : Unit) => me_wf N MZ ∧ me_kp M0 MZ) (fg_B D A (fun _ => me_W ad ca MZ) (fun _ => [])) A
set_option maxHeartbeats 4000000 in
set_option maxRecDepth 100000 in
theorem c_State_clearFrom (l : Launch) (D : va_G) (ad : Nat → Nat → Nat) (ca : Nat → ClassId) (N : Nat → Nat) (M0 MZ : me_M) (j0 : Nat) (x1 : Int32) (h : f_State_clearFrom M0 j0 x1 = (some MZ)) (hwf : me_wf N M0) (hj0 : j0 < N 9) (sz : Nat) : Met l y_State_clearFrom (fg_w y_State_clearFrom prog_10_method_4_code 3 none) rm_State_clearFrom (va_Pc [.ref (ad 9 j0), .int x1] (fz_P D (me_T ca) (me_W ad ca M0) sz)) (q_State_clearFrom D ad ca N M0 MZ (va_A (me_W ad ca M0) sz)) rm_State_clearFrom.cells rm_State_clearFrom.slots (va_A (me_W ad ca M0) sz) := by
  refine fz_enter (fun A => q_State_clearFrom D ad ca N M0 MZ A) (by decide +kernel) (Nat.le_of_ble_eq_true rfl) ?_
  intro p e s m below meth c ls A hx hb hml hown hts hr hlocks hin hP hK hD hS hA hX hl hz
  have hl : lv_has ls 3 [(0, .ref (ad 9 j0)), (1, .int x1)] := hl
  unfold f_State_clearFrom at h
  have hkp : me_kp M0 M0 := me_kp.rf
  have hkb := hkp
  have b_2 : ∀ (fu : Nat), ∀ (M : me_M) (y2 : Int32) (H : Heap) (locs : List Loc) (ls : Array Slot), f_State_clearFrom_l2 j0 fu M y2 = (some MZ) → me_wf N M → me_kp M0 M → va_P D classes (me_W ad ca M) H → va_D A (me_W ad ca M) → va_S A s.heap H locs → lv_has ls 3 [(0, .ref (ad 9 j0)), (2, .int y2)] → W p l e rm_State_clearFrom s m [.ref (ad 9 j0), .int x1].toArray below meth c H locs 0 0 (MQ below (q_State_clearFrom D ad ca N M0 MZ A) [.ref (ad 9 j0), .int x1].toArray s rm_State_clearFrom.cells rm_State_clearFrom.slots A) (F0 m 2 ls []) := by
    intro fu
    induction fu with
    | zero =>
      intro M y2 H locs ls h hwf hkp hP hD hS hl
      cases h
    | succ fu ih =>
      intro M y2 H locs ls h hwf hkp hP hD hS hl
      unfold f_State_clearFrom_l2 at h
      have hkb := hkp
      refine lv_iload_n hx hb d_State_clearFrom_2 rfl (lv_at hl 1 rfl) ?_
      refine lv_aload_n hx hb d_State_clearFrom_3 rfl (lv_at hl 0 rfl) ?_
      refine g_State_1 hx hb hts hown hK hP hwf hj0 (hts _ u_527) d_State_clearFrom_4 ?_
      refine lv_icmp_ge (tgt := 25) hx hb d_State_clearFrom_7 (by decide) (fun c1 => ?_) (fun c1 => ?_)
      · have h := if_t c1 h
        exact me_retv (me_kp M0) h hx hb hr hlocks hwf hkp hP hK hD hS d_State_clearFrom_25
      have h := if_f c1 h
      refine lv_aload_n hx hb d_State_clearFrom_10 rfl (lv_at hl 0 rfl) ?_
      refine g_State_0 hx hb hts hown hK hP hwf hj0 (hts _ u_523) d_State_clearFrom_11 ?_
      obtain ⟨j2, e3, h⟩ := bd_ob h
      have hj2 : j2 < N 18 := (hwf.2.1 9 j0 0 _ e3 (by decide) hj0)
      refine me_opt (j := j2) e3 ?_
      refine lv_iload_n hx hb d_State_clearFrom_14 rfl (lv_at hl 1 rfl) ?_
      obtain ⟨g4, h⟩ := gd_ob h
      refine me_aald (k := 18) (t := 10) hx hb hK hP hwf hj2 (by decide) (by decide) rfl (fun _ => rfl) g4 d_State_clearFrom_15 ?_
      obtain ⟨j5, e6, h⟩ := bd_ob h
      have hj5 : j5 < N 10 := (hwf.2.1 18 j2 y2.toNatClampNeg _ e6 (by decide) hj2)
      refine me_opt (j := j5) e6 ?_
      obtain ⟨M7, eM7, h⟩ := bd_ob h
      refine me_thenv0 (M1 := M7) (me_runV (C := "FilterGuard$Cell") (As := []) (rest := []) ⟨hx, hb, hml, hown, hts⟩ (c_Cell_clear l D ad ca N M M7 j5 eM7 hwf hj5 _) rfl (by show fg_nm y_Cell_clear 0; decide +kernel) u_1028 u_1029 u_1030 u_188 u_1031 ⟨Nat.le_of_ble_eq_true rfl, Nat.le_of_ble_eq_true rfl⟩ hX hz hK hP hD hwf hS hA hj5 (by decide) rfl rfl rfl hl.1 (Nat.le_of_ble_eq_true rfl) d_State_clearFrom_16 ⟨Nat.le_of_ble_eq_true rfl, Nat.le_of_ble_eq_true rfl⟩) hP hD hK hS hA rfl rfl (fun H locs hw hP hD hS => ?_)
      obtain ⟨hwf, hk9⟩ := hw
      have hkp := hkp.tr hk9
      refine lv_iinc (v := y2 + 1) (lv' := [(2, .int (y2 + 1)), (0, .ref (ad 9 j0))]) hx hb d_State_clearFrom_19 hl (k := 1) rfl (by rfl) (by decide) rfl (fun ls hl => ?_)
      refine lv_goto (tgt := 2) hx hb d_State_clearFrom_22 (by decide) ?_
      exact ih M7 (y2 + 1) _ _ _ h hwf hkp hP hD hS (lv_sub hl [1, 0] rfl)
  refine lv_iload_n hx hb d_State_clearFrom_0 rfl (lv_at hl 1 rfl) ?_
  refine lv_istore_n (lv' := [(2, .int x1), (0, .ref (ad 9 j0)), (1, .int x1)]) hx hb d_State_clearFrom_1 rfl hl (by decide) rfl (fun ls hl => ?_)
  exact b_2 _ M0 x1 _ _ _ h hwf hkp hP hD hS (lv_sub hl [1, 0] rfl)
theorem d_Num_exact_0 : decode prog_8_method_2_code 0 = .ok (.aload_n 0, 1) := by decide +kernel
theorem d_Num_exact_1 : decode prog_8_method_2_code 1 = .ok (.lload_n 1, 1) := by decide +kernel
theorem d_Num_exact_2 : decode prog_8_method_2_code 2 = .ok (.putfield 9, 3) := by decide +kernel
theorem u_367 : Cond.fieldLink "FilterGuard$Num" 9 "FilterGuard$Num" "value" "J" ∈ fg_g := fg_in (List.mem_of_getElem? (i := 367) (by decide +kernel)) rfl
theorem p_Num_0 {p : Program} {l : Launch} {e : Env} {R : Room} {s : Jvm.State} {m : MethodId} {args : Array Value} {below : List Frame} {meth : Method} {c : Code} {H : Heap} {locs : List Loc} {cells slots : Nat} {Q : Jvm.State → Prop} {cc : ByteArray} {pc : Nat} {ls : Array Slot} {rest : List Value} {D : va_G} {A : Nat → Prop} {H0 : Heap} {ad : Nat → Nat → Nat} {ca : Nat → ClassId} {M M1 : me_M} {N : Nat → Nat} {own : String} {index j : Nat} {v : Int64} (he : M1 = wL M 11 j 0 v) (hexec : p.tables.exec = Jvm.exec) (hb : c.code = cc) (hts : ∀ w ∈ fg_g, w.before args s = true) (hown : s.vm.findClass own = some m.cls) (hK : va_K D classes (me_T ca) s) (hP : va_P D classes (me_W ad ca M) H) (hD : va_D A (me_W ad ca M)) (hwf : me_wf N M) (hS : va_S A H0 H locs) (hj : j < N 11) (hlink : (Cond.fieldLink own index "FilterGuard$Num" "value" "J").before args s = true) (hdg : decode cc pc = .ok (.putfield index, 3)) (kk : ∀ (H1 : Heap) (locs1 : List Loc), va_P D classes (me_W ad ca M1) H1 → va_D A (me_W ad ca M1) → me_wf N M1 → va_S A H0 H1 locs1 → W p l e R s m args below meth c H1 locs1 cells slots Q (F0 m (pc + 3) ls rest)) : W p l e R s m args below meth c H locs cells slots Q (F0 m pc ls (.long v :: .ref (ad 11 j) :: rest)) := by
  subst he
  exact me_put (M1 := wL M 11 j 0 v) (k := 11) (f := 0) (C := "FilterGuard$Num") (T := F_Num) (Nf := 6) hexec hb hts i_Num t_Num t_Num_ok n_Num hown hK hP hD hwf hS hj (by decide) rfl (by decide) (by decide) hlink (fun _ h9 => h9) rfl rfl rfl rfl (fun a b h => me_wLE h) (me_fLw (by decide) (by decide)) hdg (fun H1 locs1 a1 a2 a3 => kk H1 locs1 a1 a2 (me_wfL hwf) a3)
theorem d_Num_exact_5 : decode prog_8_method_2_code 5 = .ok (.aload_n 0, 1) := by decide +kernel
theorem d_Num_exact_6 : decode prog_8_method_2_code 6 = .ok (.lconst 0, 1) := by decide +kernel
theorem d_Num_exact_7 : decode prog_8_method_2_code 7 = .ok (.putfield 15, 3) := by decide +kernel
theorem u_371 : Cond.fieldLink "FilterGuard$Num" 15 "FilterGuard$Num" "mask" "J" ∈ fg_g := fg_in (List.mem_of_getElem? (i := 371) (by decide +kernel)) rfl
theorem p_Num_1 {p : Program} {l : Launch} {e : Env} {R : Room} {s : Jvm.State} {m : MethodId} {args : Array Value} {below : List Frame} {meth : Method} {c : Code} {H : Heap} {locs : List Loc} {cells slots : Nat} {Q : Jvm.State → Prop} {cc : ByteArray} {pc : Nat} {ls : Array Slot} {rest : List Value} {D : va_G} {A : Nat → Prop} {H0 : Heap} {ad : Nat → Nat → Nat} {ca : Nat → ClassId} {M M1 : me_M} {N : Nat → Nat} {own : String} {index j : Nat} {v : Int64} (he : M1 = wL M 11 j 1 v) (hexec : p.tables.exec = Jvm.exec) (hb : c.code = cc) (hts : ∀ w ∈ fg_g, w.before args s = true) (hown : s.vm.findClass own = some m.cls) (hK : va_K D classes (me_T ca) s) (hP : va_P D classes (me_W ad ca M) H) (hD : va_D A (me_W ad ca M)) (hwf : me_wf N M) (hS : va_S A H0 H locs) (hj : j < N 11) (hlink : (Cond.fieldLink own index "FilterGuard$Num" "mask" "J").before args s = true) (hdg : decode cc pc = .ok (.putfield index, 3)) (kk : ∀ (H1 : Heap) (locs1 : List Loc), va_P D classes (me_W ad ca M1) H1 → va_D A (me_W ad ca M1) → me_wf N M1 → va_S A H0 H1 locs1 → W p l e R s m args below meth c H1 locs1 cells slots Q (F0 m (pc + 3) ls rest)) : W p l e R s m args below meth c H locs cells slots Q (F0 m pc ls (.long v :: .ref (ad 11 j) :: rest)) := by
  subst he
  exact me_put (M1 := wL M 11 j 1 v) (k := 11) (f := 1) (C := "FilterGuard$Num") (T := F_Num) (Nf := 6) hexec hb hts i_Num t_Num t_Num_ok n_Num hown hK hP hD hwf hS hj (by decide) rfl (by decide) (by decide) hlink (fun _ h9 => h9) rfl rfl rfl rfl (fun a b h => me_wLE h) (me_fLw (by decide) (by decide)) hdg (fun H1 locs1 a1 a2 a3 => kk H1 locs1 a1 a2 (me_wfL hwf) a3)
theorem d_Num_exact_10 : decode prog_8_method_2_code 10 = .ok (.aload_n 0, 1) := by decide +kernel
theorem d_Num_exact_11 : decode prog_8_method_2_code 11 = .ok (.lload_n 1, 1) := by decide +kernel
theorem d_Num_exact_12 : decode prog_8_method_2_code 12 = .ok (.putfield 18, 3) := by decide +kernel
theorem u_373 : Cond.fieldLink "FilterGuard$Num" 18 "FilterGuard$Num" "least" "J" ∈ fg_g := fg_in (List.mem_of_getElem? (i := 373) (by decide +kernel)) rfl
theorem p_Num_2 {p : Program} {l : Launch} {e : Env} {R : Room} {s : Jvm.State} {m : MethodId} {args : Array Value} {below : List Frame} {meth : Method} {c : Code} {H : Heap} {locs : List Loc} {cells slots : Nat} {Q : Jvm.State → Prop} {cc : ByteArray} {pc : Nat} {ls : Array Slot} {rest : List Value} {D : va_G} {A : Nat → Prop} {H0 : Heap} {ad : Nat → Nat → Nat} {ca : Nat → ClassId} {M M1 : me_M} {N : Nat → Nat} {own : String} {index j : Nat} {v : Int64} (he : M1 = wL M 11 j 2 v) (hexec : p.tables.exec = Jvm.exec) (hb : c.code = cc) (hts : ∀ w ∈ fg_g, w.before args s = true) (hown : s.vm.findClass own = some m.cls) (hK : va_K D classes (me_T ca) s) (hP : va_P D classes (me_W ad ca M) H) (hD : va_D A (me_W ad ca M)) (hwf : me_wf N M) (hS : va_S A H0 H locs) (hj : j < N 11) (hlink : (Cond.fieldLink own index "FilterGuard$Num" "least" "J").before args s = true) (hdg : decode cc pc = .ok (.putfield index, 3)) (kk : ∀ (H1 : Heap) (locs1 : List Loc), va_P D classes (me_W ad ca M1) H1 → va_D A (me_W ad ca M1) → me_wf N M1 → va_S A H0 H1 locs1 → W p l e R s m args below meth c H1 locs1 cells slots Q (F0 m (pc + 3) ls rest)) : W p l e R s m args below meth c H locs cells slots Q (F0 m pc ls (.long v :: .ref (ad 11 j) :: rest)) := by
  subst he
  exact me_put (M1 := wL M 11 j 2 v) (k := 11) (f := 2) (C := "FilterGuard$Num") (T := F_Num) (Nf := 6) hexec hb hts i_Num t_Num t_Num_ok n_Num hown hK hP hD hwf hS hj (by decide) rfl (by decide) (by decide) hlink (fun _ h9 => h9) rfl rfl rfl rfl (fun a b h => me_wLE h) (me_fLw (by decide) (by decide)) hdg (fun H1 locs1 a1 a2 a3 => kk H1 locs1 a1 a2 (me_wfL hwf) a3)
theorem d_Num_exact_15 : decode prog_8_method_2_code 15 = .ok (.aload_n 0, 1) := by decide +kernel
theorem d_Num_exact_16 : decode prog_8_method_2_code 16 = .ok (.lload_n 1, 1) := by decide +kernel
theorem d_Num_exact_17 : decode prog_8_method_2_code 17 = .ok (.putfield 21, 3) := by decide +kernel
theorem u_376 : Cond.fieldLink "FilterGuard$Num" 21 "FilterGuard$Num" "greatest" "J" ∈ fg_g := fg_in (List.mem_of_getElem? (i := 376) (by decide +kernel)) rfl
theorem p_Num_3 {p : Program} {l : Launch} {e : Env} {R : Room} {s : Jvm.State} {m : MethodId} {args : Array Value} {below : List Frame} {meth : Method} {c : Code} {H : Heap} {locs : List Loc} {cells slots : Nat} {Q : Jvm.State → Prop} {cc : ByteArray} {pc : Nat} {ls : Array Slot} {rest : List Value} {D : va_G} {A : Nat → Prop} {H0 : Heap} {ad : Nat → Nat → Nat} {ca : Nat → ClassId} {M M1 : me_M} {N : Nat → Nat} {own : String} {index j : Nat} {v : Int64} (he : M1 = wL M 11 j 3 v) (hexec : p.tables.exec = Jvm.exec) (hb : c.code = cc) (hts : ∀ w ∈ fg_g, w.before args s = true) (hown : s.vm.findClass own = some m.cls) (hK : va_K D classes (me_T ca) s) (hP : va_P D classes (me_W ad ca M) H) (hD : va_D A (me_W ad ca M)) (hwf : me_wf N M) (hS : va_S A H0 H locs) (hj : j < N 11) (hlink : (Cond.fieldLink own index "FilterGuard$Num" "greatest" "J").before args s = true) (hdg : decode cc pc = .ok (.putfield index, 3)) (kk : ∀ (H1 : Heap) (locs1 : List Loc), va_P D classes (me_W ad ca M1) H1 → va_D A (me_W ad ca M1) → me_wf N M1 → va_S A H0 H1 locs1 → W p l e R s m args below meth c H1 locs1 cells slots Q (F0 m (pc + 3) ls rest)) : W p l e R s m args below meth c H locs cells slots Q (F0 m pc ls (.long v :: .ref (ad 11 j) :: rest)) := by
  subst he
  exact me_put (M1 := wL M 11 j 3 v) (k := 11) (f := 3) (C := "FilterGuard$Num") (T := F_Num) (Nf := 6) hexec hb hts i_Num t_Num t_Num_ok n_Num hown hK hP hD hwf hS hj (by decide) rfl (by decide) (by decide) hlink (fun _ h9 => h9) rfl rfl rfl rfl (fun a b h => me_wLE h) (me_fLw (by decide) (by decide)) hdg (fun H1 locs1 a1 a2 a3 => kk H1 locs1 a1 a2 (me_wfL hwf) a3)
theorem d_Num_exact_20 : decode prog_8_method_2_code 20 = .ok (.aload_n 0, 1) := by decide +kernel
theorem d_Num_exact_21 : decode prog_8_method_2_code 21 = .ok (.lload_n 1, 1) := by decide +kernel
theorem d_Num_exact_22 : decode prog_8_method_2_code 22 = .ok (.putfield 24, 3) := by decide +kernel
theorem u_379 : Cond.fieldLink "FilterGuard$Num" 24 "FilterGuard$Num" "signedLeast" "J" ∈ fg_g := fg_in (List.mem_of_getElem? (i := 379) (by decide +kernel)) rfl
theorem p_Num_4 {p : Program} {l : Launch} {e : Env} {R : Room} {s : Jvm.State} {m : MethodId} {args : Array Value} {below : List Frame} {meth : Method} {c : Code} {H : Heap} {locs : List Loc} {cells slots : Nat} {Q : Jvm.State → Prop} {cc : ByteArray} {pc : Nat} {ls : Array Slot} {rest : List Value} {D : va_G} {A : Nat → Prop} {H0 : Heap} {ad : Nat → Nat → Nat} {ca : Nat → ClassId} {M M1 : me_M} {N : Nat → Nat} {own : String} {index j : Nat} {v : Int64} (he : M1 = wL M 11 j 4 v) (hexec : p.tables.exec = Jvm.exec) (hb : c.code = cc) (hts : ∀ w ∈ fg_g, w.before args s = true) (hown : s.vm.findClass own = some m.cls) (hK : va_K D classes (me_T ca) s) (hP : va_P D classes (me_W ad ca M) H) (hD : va_D A (me_W ad ca M)) (hwf : me_wf N M) (hS : va_S A H0 H locs) (hj : j < N 11) (hlink : (Cond.fieldLink own index "FilterGuard$Num" "signedLeast" "J").before args s = true) (hdg : decode cc pc = .ok (.putfield index, 3)) (kk : ∀ (H1 : Heap) (locs1 : List Loc), va_P D classes (me_W ad ca M1) H1 → va_D A (me_W ad ca M1) → me_wf N M1 → va_S A H0 H1 locs1 → W p l e R s m args below meth c H1 locs1 cells slots Q (F0 m (pc + 3) ls rest)) : W p l e R s m args below meth c H locs cells slots Q (F0 m pc ls (.long v :: .ref (ad 11 j) :: rest)) := by
  subst he
  exact me_put (M1 := wL M 11 j 4 v) (k := 11) (f := 4) (C := "FilterGuard$Num") (T := F_Num) (Nf := 6) hexec hb hts i_Num t_Num t_Num_ok n_Num hown hK hP hD hwf hS hj (by decide) rfl (by decide) (by decide) hlink (fun _ h9 => h9) rfl rfl rfl rfl (fun a b h => me_wLE h) (me_fLw (by decide) (by decide)) hdg (fun H1 locs1 a1 a2 a3 => kk H1 locs1 a1 a2 (me_wfL hwf) a3)
theorem d_Num_exact_25 : decode prog_8_method_2_code 25 = .ok (.aload_n 0, 1) := by decide +kernel
theorem d_Num_exact_26 : decode prog_8_method_2_code 26 = .ok (.lload_n 1, 1) := by decide +kernel
theorem d_Num_exact_27 : decode prog_8_method_2_code 27 = .ok (.putfield 27, 3) := by decide +kernel
theorem u_381 : Cond.fieldLink "FilterGuard$Num" 27 "FilterGuard$Num" "signedGreatest" "J" ∈ fg_g := fg_in (List.mem_of_getElem? (i := 381) (by decide +kernel)) rfl
theorem p_Num_5 {p : Program} {l : Launch} {e : Env} {R : Room} {s : Jvm.State} {m : MethodId} {args : Array Value} {below : List Frame} {meth : Method} {c : Code} {H : Heap} {locs : List Loc} {cells slots : Nat} {Q : Jvm.State → Prop} {cc : ByteArray} {pc : Nat} {ls : Array Slot} {rest : List Value} {D : va_G} {A : Nat → Prop} {H0 : Heap} {ad : Nat → Nat → Nat} {ca : Nat → ClassId} {M M1 : me_M} {N : Nat → Nat} {own : String} {index j : Nat} {v : Int64} (he : M1 = wL M 11 j 5 v) (hexec : p.tables.exec = Jvm.exec) (hb : c.code = cc) (hts : ∀ w ∈ fg_g, w.before args s = true) (hown : s.vm.findClass own = some m.cls) (hK : va_K D classes (me_T ca) s) (hP : va_P D classes (me_W ad ca M) H) (hD : va_D A (me_W ad ca M)) (hwf : me_wf N M) (hS : va_S A H0 H locs) (hj : j < N 11) (hlink : (Cond.fieldLink own index "FilterGuard$Num" "signedGreatest" "J").before args s = true) (hdg : decode cc pc = .ok (.putfield index, 3)) (kk : ∀ (H1 : Heap) (locs1 : List Loc), va_P D classes (me_W ad ca M1) H1 → va_D A (me_W ad ca M1) → me_wf N M1 → va_S A H0 H1 locs1 → W p l e R s m args below meth c H1 locs1 cells slots Q (F0 m (pc + 3) ls rest)) : W p l e R s m args below meth c H locs cells slots Q (F0 m pc ls (.long v :: .ref (ad 11 j) :: rest)) := by
  subst he
  exact me_put (M1 := wL M 11 j 5 v) (k := 11) (f := 5) (C := "FilterGuard$Num") (T := F_Num) (Nf := 6) hexec hb hts i_Num t_Num t_Num_ok n_Num hown hK hP hD hwf hS hj (by decide) rfl (by decide) (by decide) hlink (fun _ h9 => h9) rfl rfl rfl rfl (fun a b h => me_wLE h) (me_fLw (by decide) (by decide)) hdg (fun H1 locs1 a1 a2 a3 => kk H1 locs1 a1 a2 (me_wfL hwf) a3)
theorem d_Num_exact_30 : decode prog_8_method_2_code 30 = .ok (.return_, 1) := by decide +kernel
abbrev y_Num_exact : MethodName := ⟨"FilterGuard$Num", "exact", "(J)V"⟩
def f_Num_exact (M0 : me_M) (j0 : Nat) (x1 : Int64) : Option me_M := st (wL M0 11 j0 0 x1) (fun (M1 : me_M) => st (wL M1 11 j0 1 0) (fun (M2 : me_M) => st (wL M2 11 j0 2 x1) (fun (M3 : me_M) => st (wL M3 11 j0 3 x1) (fun (M4 : me_M) => st (wL M4 11 j0 4 x1) (fun (M5 : me_M) => st (wL M5 11 j0 5 x1) (fun (M6 : me_M) => some M6))))))
def rm_Num_exact : Room := { frames := 1, cells := 0, slots := 0, locals := 20 }
abbrev q_Num_exact (D : va_G) (ad : Nat → Nat → Nat) (ca : Nat → ClassId) (N : Nat → Nat) (M0 MZ : me_M) (A : Nat → Prop) : Array Value → Jvm.State → Outcome → Jvm.State → Prop := va_Qv (fun (_ : Unit) => me_wf N MZ ∧ me_kp M0 MZ) (fg_B D A (fun _ => me_W ad ca MZ) (fun _ => [])) A
set_option maxHeartbeats 4000000 in
set_option maxRecDepth 100000 in
theorem c_Num_exact (l : Launch) (D : va_G) (ad : Nat → Nat → Nat) (ca : Nat → ClassId) (N : Nat → Nat) (M0 MZ : me_M) (j0 : Nat) (x1 : Int64) (h : f_Num_exact M0 j0 x1 = (some MZ)) (hwf : me_wf N M0) (hj0 : j0 < N 11) (sz : Nat) : Met l y_Num_exact (fg_w y_Num_exact prog_8_method_2_code 3 none) rm_Num_exact (va_Pc [.ref (ad 11 j0), .long x1] (fz_P D (me_T ca) (me_W ad ca M0) sz)) (q_Num_exact D ad ca N M0 MZ (va_A (me_W ad ca M0) sz)) rm_Num_exact.cells rm_Num_exact.slots (va_A (me_W ad ca M0) sz) := by
  refine fz_enter (fun A => q_Num_exact D ad ca N M0 MZ A) (by decide +kernel) (Nat.le_of_ble_eq_true rfl) ?_
  intro p e s m below meth c ls A hx hb hml hown hts hr hlocks hin hP hK hD hS hA hX hl hz
  have hl : lv_has ls 3 [(0, .ref (ad 11 j0)), (1, .long x1)] := hl
  unfold f_Num_exact at h
  have hkp : me_kp M0 M0 := me_kp.rf
  have hkb := hkp
  refine lv_aload_n hx hb d_Num_exact_0 rfl (lv_at hl 0 rfl) ?_
  refine lv_lload_n hx hb d_Num_exact_1 rfl (lv_at hl 1 rfl) ?_
  obtain ⟨M1, eM1, h⟩ := st_ob h
  refine p_Num_0 eM1 hx hb hts hown hK hP hD hwf hS hj0 (hts _ u_367) d_Num_exact_2 (fun H locs hP hD hwf hS => ?_)
  have hkp := kp_L eM1 hkp
  refine lv_aload_n hx hb d_Num_exact_5 rfl (lv_at hl 0 rfl) ?_
  refine lv_lconst (v := 0) hx hb d_Num_exact_6 (by decide) ?_
  obtain ⟨M2, eM2, h⟩ := st_ob h
  refine p_Num_1 eM2 hx hb hts hown hK hP hD hwf hS hj0 (hts _ u_371) d_Num_exact_7 (fun H locs hP hD hwf hS => ?_)
  have hkp := kp_L eM2 hkp
  refine lv_aload_n hx hb d_Num_exact_10 rfl (lv_at hl 0 rfl) ?_
  refine lv_lload_n hx hb d_Num_exact_11 rfl (lv_at hl 1 rfl) ?_
  obtain ⟨M3, eM3, h⟩ := st_ob h
  refine p_Num_2 eM3 hx hb hts hown hK hP hD hwf hS hj0 (hts _ u_373) d_Num_exact_12 (fun H locs hP hD hwf hS => ?_)
  have hkp := kp_L eM3 hkp
  refine lv_aload_n hx hb d_Num_exact_15 rfl (lv_at hl 0 rfl) ?_
  refine lv_lload_n hx hb d_Num_exact_16 rfl (lv_at hl 1 rfl) ?_
  obtain ⟨M4, eM4, h⟩ := st_ob h
  refine p_Num_3 eM4 hx hb hts hown hK hP hD hwf hS hj0 (hts _ u_376) d_Num_exact_17 (fun H locs hP hD hwf hS => ?_)
  have hkp := kp_L eM4 hkp
  refine lv_aload_n hx hb d_Num_exact_20 rfl (lv_at hl 0 rfl) ?_
  refine lv_lload_n hx hb d_Num_exact_21 rfl (lv_at hl 1 rfl) ?_
  obtain ⟨M5, eM5, h⟩ := st_ob h
  refine p_Num_4 eM5 hx hb hts hown hK hP hD hwf hS hj0 (hts _ u_379) d_Num_exact_22 (fun H locs hP hD hwf hS => ?_)
  have hkp := kp_L eM5 hkp
  refine lv_aload_n hx hb d_Num_exact_25 rfl (lv_at hl 0 rfl) ?_
  refine lv_lload_n hx hb d_Num_exact_26 rfl (lv_at hl 1 rfl) ?_
  obtain ⟨M6, eM6, h⟩ := st_ob h
  refine p_Num_5 eM6 hx hb hts hown hK hP hD hwf hS hj0 (hts _ u_381) d_Num_exact_27 (fun H locs hP hD hwf hS => ?_)
  have hkp := kp_L eM6 hkp
  exact me_retv (me_kp M0) h hx hb hr hlocks hwf hkp hP hK hD hS d_Num_exact_30
theorem d_Cell_become_0 : decode prog_2_method_7_code 0 = .ok (.aload_n 0, 1) := by decide +kernel
theorem d_Cell_become_1 : decode prog_2_method_7_code 1 = .ok (.iload_n 1, 1) := by decide +kernel
theorem d_Cell_become_2 : decode prog_2_method_7_code 2 = .ok (.putfield 18, 3) := by decide +kernel
theorem d_Cell_become_5 : decode prog_2_method_7_code 5 = .ok (.aload_n 0, 1) := by decide +kernel
theorem d_Cell_become_6 : decode prog_2_method_7_code 6 = .ok (.iload_n 2, 1) := by decide +kernel
theorem d_Cell_become_7 : decode prog_2_method_7_code 7 = .ok (.putfield 25, 3) := by decide +kernel
theorem u_424 : Cond.fieldLink "FilterGuard$Cell" 25 "FilterGuard$Cell" "place" "I" ∈ fg_g := fg_in (List.mem_of_getElem? (i := 424) (by decide +kernel)) rfl
theorem p_Cell_1 {p : Program} {l : Launch} {e : Env} {R : Room} {s : Jvm.State} {m : MethodId} {args : Array Value} {below : List Frame} {meth : Method} {c : Code} {H : Heap} {locs : List Loc} {cells slots : Nat} {Q : Jvm.State → Prop} {cc : ByteArray} {pc : Nat} {ls : Array Slot} {rest : List Value} {D : va_G} {A : Nat → Prop} {H0 : Heap} {ad : Nat → Nat → Nat} {ca : Nat → ClassId} {M M1 : me_M} {N : Nat → Nat} {own : String} {index j : Nat} {v : Int32} (he : M1 = wI M 10 j 1 v) (hexec : p.tables.exec = Jvm.exec) (hb : c.code = cc) (hts : ∀ w ∈ fg_g, w.before args s = true) (hown : s.vm.findClass own = some m.cls) (hK : va_K D classes (me_T ca) s) (hP : va_P D classes (me_W ad ca M) H) (hD : va_D A (me_W ad ca M)) (hwf : me_wf N M) (hS : va_S A H0 H locs) (hj : j < N 10) (hlink : (Cond.fieldLink own index "FilterGuard$Cell" "place" "I").before args s = true) (hdg : decode cc pc = .ok (.putfield index, 3)) (kk : ∀ (H1 : Heap) (locs1 : List Loc), va_P D classes (me_W ad ca M1) H1 → va_D A (me_W ad ca M1) → me_wf N M1 → va_S A H0 H1 locs1 → W p l e R s m args below meth c H1 locs1 cells slots Q (F0 m (pc + 3) ls rest)) : W p l e R s m args below meth c H locs cells slots Q (F0 m pc ls (.int v :: .ref (ad 10 j) :: rest)) := by
  subst he
  exact me_put (M1 := wI M 10 j 1 v) (k := 10) (f := 1) (C := "FilterGuard$Cell") (T := F_Cell) (Nf := 7) hexec hb hts i_Cell t_Cell t_Cell_ok n_Cell hown hK hP hD hwf hS hj (by decide) rfl (by decide) (by decide) hlink (fun _ h9 => h9) rfl rfl rfl rfl (fun a b h => me_wIE h) (me_fIw (by decide) (by decide)) hdg (fun H1 locs1 a1 a2 a3 => kk H1 locs1 a1 a2 (me_wfI hwf (fun z => absurd z (by decide)) (fun z => absurd z (by decide))) a3)
theorem d_Cell_become_10 : decode prog_2_method_7_code 10 = .ok (.aload_n 0, 1) := by decide +kernel
theorem d_Cell_become_11 : decode prog_2_method_7_code 11 = .ok (.iconst 0, 1) := by decide +kernel
theorem d_Cell_become_12 : decode prog_2_method_7_code 12 = .ok (.putfield 28, 3) := by decide +kernel
theorem u_426 : Cond.fieldLink "FilterGuard$Cell" 28 "FilterGuard$Cell" "mapNumber" "I" ∈ fg_g := fg_in (List.mem_of_getElem? (i := 426) (by decide +kernel)) rfl
theorem p_Cell_2 {p : Program} {l : Launch} {e : Env} {R : Room} {s : Jvm.State} {m : MethodId} {args : Array Value} {below : List Frame} {meth : Method} {c : Code} {H : Heap} {locs : List Loc} {cells slots : Nat} {Q : Jvm.State → Prop} {cc : ByteArray} {pc : Nat} {ls : Array Slot} {rest : List Value} {D : va_G} {A : Nat → Prop} {H0 : Heap} {ad : Nat → Nat → Nat} {ca : Nat → ClassId} {M M1 : me_M} {N : Nat → Nat} {own : String} {index j : Nat} {v : Int32} (he : M1 = wI M 10 j 2 v) (hexec : p.tables.exec = Jvm.exec) (hb : c.code = cc) (hts : ∀ w ∈ fg_g, w.before args s = true) (hown : s.vm.findClass own = some m.cls) (hK : va_K D classes (me_T ca) s) (hP : va_P D classes (me_W ad ca M) H) (hD : va_D A (me_W ad ca M)) (hwf : me_wf N M) (hS : va_S A H0 H locs) (hj : j < N 10) (hlink : (Cond.fieldLink own index "FilterGuard$Cell" "mapNumber" "I").before args s = true) (hdg : decode cc pc = .ok (.putfield index, 3)) (kk : ∀ (H1 : Heap) (locs1 : List Loc), va_P D classes (me_W ad ca M1) H1 → va_D A (me_W ad ca M1) → me_wf N M1 → va_S A H0 H1 locs1 → W p l e R s m args below meth c H1 locs1 cells slots Q (F0 m (pc + 3) ls rest)) : W p l e R s m args below meth c H locs cells slots Q (F0 m pc ls (.int v :: .ref (ad 10 j) :: rest)) := by
  subst he
  exact me_put (M1 := wI M 10 j 2 v) (k := 10) (f := 2) (C := "FilterGuard$Cell") (T := F_Cell) (Nf := 7) hexec hb hts i_Cell t_Cell t_Cell_ok n_Cell hown hK hP hD hwf hS hj (by decide) rfl (by decide) (by decide) hlink (fun _ h9 => h9) rfl rfl rfl rfl (fun a b h => me_wIE h) (me_fIw (by decide) (by decide)) hdg (fun H1 locs1 a1 a2 a3 => kk H1 locs1 a1 a2 (me_wfI hwf (fun z => absurd z (by decide)) (fun z => absurd z (by decide))) a3)
theorem d_Cell_become_15 : decode prog_2_method_7_code 15 = .ok (.aload_n 0, 1) := by decide +kernel
theorem d_Cell_become_16 : decode prog_2_method_7_code 16 = .ok (.iconst 0, 1) := by decide +kernel
theorem d_Cell_become_17 : decode prog_2_method_7_code 17 = .ok (.putfield 31, 3) := by decide +kernel
theorem u_428 : Cond.fieldLink "FilterGuard$Cell" 31 "FilterGuard$Cell" "identity" "I" ∈ fg_g := fg_in (List.mem_of_getElem? (i := 428) (by decide +kernel)) rfl
theorem p_Cell_3 {p : Program} {l : Launch} {e : Env} {R : Room} {s : Jvm.State} {m : MethodId} {args : Array Value} {below : List Frame} {meth : Method} {c : Code} {H : Heap} {locs : List Loc} {cells slots : Nat} {Q : Jvm.State → Prop} {cc : ByteArray} {pc : Nat} {ls : Array Slot} {rest : List Value} {D : va_G} {A : Nat → Prop} {H0 : Heap} {ad : Nat → Nat → Nat} {ca : Nat → ClassId} {M M1 : me_M} {N : Nat → Nat} {own : String} {index j : Nat} {v : Int32} (he : M1 = wI M 10 j 3 v) (hexec : p.tables.exec = Jvm.exec) (hb : c.code = cc) (hts : ∀ w ∈ fg_g, w.before args s = true) (hown : s.vm.findClass own = some m.cls) (hK : va_K D classes (me_T ca) s) (hP : va_P D classes (me_W ad ca M) H) (hD : va_D A (me_W ad ca M)) (hwf : me_wf N M) (hS : va_S A H0 H locs) (hj : j < N 10) (hlink : (Cond.fieldLink own index "FilterGuard$Cell" "identity" "I").before args s = true) (hdg : decode cc pc = .ok (.putfield index, 3)) (kk : ∀ (H1 : Heap) (locs1 : List Loc), va_P D classes (me_W ad ca M1) H1 → va_D A (me_W ad ca M1) → me_wf N M1 → va_S A H0 H1 locs1 → W p l e R s m args below meth c H1 locs1 cells slots Q (F0 m (pc + 3) ls rest)) : W p l e R s m args below meth c H locs cells slots Q (F0 m pc ls (.int v :: .ref (ad 10 j) :: rest)) := by
  subst he
  exact me_put (M1 := wI M 10 j 3 v) (k := 10) (f := 3) (C := "FilterGuard$Cell") (T := F_Cell) (Nf := 7) hexec hb hts i_Cell t_Cell t_Cell_ok n_Cell hown hK hP hD hwf hS hj (by decide) rfl (by decide) (by decide) hlink (fun _ h9 => h9) rfl rfl rfl rfl (fun a b h => me_wIE h) (me_fIw (by decide) (by decide)) hdg (fun H1 locs1 a1 a2 a3 => kk H1 locs1 a1 a2 (me_wfI hwf (fun z => absurd z (by decide)) (fun z => absurd z (by decide))) a3)
theorem d_Cell_become_20 : decode prog_2_method_7_code 20 = .ok (.aload_n 0, 1) := by decide +kernel
theorem d_Cell_become_21 : decode prog_2_method_7_code 21 = .ok (.iconst 0, 1) := by decide +kernel
theorem d_Cell_become_22 : decode prog_2_method_7_code 22 = .ok (.putfield 34, 3) := by decide +kernel
theorem u_431 : Cond.fieldLink "FilterGuard$Cell" 34 "FilterGuard$Cell" "room" "I" ∈ fg_g := fg_in (List.mem_of_getElem? (i := 431) (by decide +kernel)) rfl
theorem p_Cell_4 {p : Program} {l : Launch} {e : Env} {R : Room} {s : Jvm.State} {m : MethodId} {args : Array Value} {below : List Frame} {meth : Method} {c : Code} {H : Heap} {locs : List Loc} {cells slots : Nat} {Q : Jvm.State → Prop} {cc : ByteArray} {pc : Nat} {ls : Array Slot} {rest : List Value} {D : va_G} {A : Nat → Prop} {H0 : Heap} {ad : Nat → Nat → Nat} {ca : Nat → ClassId} {M M1 : me_M} {N : Nat → Nat} {own : String} {index j : Nat} {v : Int32} (he : M1 = wI M 10 j 4 v) (hexec : p.tables.exec = Jvm.exec) (hb : c.code = cc) (hts : ∀ w ∈ fg_g, w.before args s = true) (hown : s.vm.findClass own = some m.cls) (hK : va_K D classes (me_T ca) s) (hP : va_P D classes (me_W ad ca M) H) (hD : va_D A (me_W ad ca M)) (hwf : me_wf N M) (hS : va_S A H0 H locs) (hj : j < N 10) (hlink : (Cond.fieldLink own index "FilterGuard$Cell" "room" "I").before args s = true) (hdg : decode cc pc = .ok (.putfield index, 3)) (kk : ∀ (H1 : Heap) (locs1 : List Loc), va_P D classes (me_W ad ca M1) H1 → va_D A (me_W ad ca M1) → me_wf N M1 → va_S A H0 H1 locs1 → W p l e R s m args below meth c H1 locs1 cells slots Q (F0 m (pc + 3) ls rest)) : W p l e R s m args below meth c H locs cells slots Q (F0 m pc ls (.int v :: .ref (ad 10 j) :: rest)) := by
  subst he
  exact me_put (M1 := wI M 10 j 4 v) (k := 10) (f := 4) (C := "FilterGuard$Cell") (T := F_Cell) (Nf := 7) hexec hb hts i_Cell t_Cell t_Cell_ok n_Cell hown hK hP hD hwf hS hj (by decide) rfl (by decide) (by decide) hlink (fun _ h9 => h9) rfl rfl rfl rfl (fun a b h => me_wIE h) (me_fIw (by decide) (by decide)) hdg (fun H1 locs1 a1 a2 a3 => kk H1 locs1 a1 a2 (me_wfI hwf (fun z => absurd z (by decide)) (fun z => absurd z (by decide))) a3)
theorem d_Cell_become_25 : decode prog_2_method_7_code 25 = .ok (.aload_n 0, 1) := by decide +kernel
theorem d_Cell_become_26 : decode prog_2_method_7_code 26 = .ok (.getfield 12, 3) := by decide +kernel
theorem g_Cell_6 {p : Program} {l : Launch} {e : Env} {R : Room} {s : Jvm.State} {m : MethodId} {args : Array Value} {below : List Frame} {meth : Method} {c : Code} {H : Heap} {locs : List Loc} {cells slots : Nat} {Q : Jvm.State → Prop} {cc : ByteArray} {pc : Nat} {ls : Array Slot} {rest : List Value} {D : va_G} {ad : Nat → Nat → Nat} {ca : Nat → ClassId} {M : me_M} {N : Nat → Nat} {own : String} {index j : Nat} (hexec : p.tables.exec = Jvm.exec) (hb : c.code = cc) (hts : ∀ w ∈ fg_g, w.before args s = true) (hown : s.vm.findClass own = some m.cls) (hK : va_K D classes (me_T ca) s) (hP : va_P D classes (me_W ad ca M) H) (hwf : me_wf N M) (hj : j < N 10) (hlink : (Cond.fieldLink own index "FilterGuard$Cell" "number" "LFilterGuard$Num;").before args s = true) (hdg : decode cc pc = .ok (.getfield index, 3)) (kk : W p l e R s m args below meth c H locs cells slots Q (F0 m (pc + 3) ls (va_rf ((mR M 10 j 6).map (ad 11)) :: rest))) : W p l e R s m args below meth c H locs cells slots Q (F0 m pc ls (.ref (ad 10 j) :: rest)) := me_get (k := 10) (f := 6) (C := "FilterGuard$Cell") (T := F_Cell) (Nf := 7) hexec hb hts i_Cell hown hK hP hwf hj (by decide) rfl (by decide) (by decide) hlink (fun _ h9 => h9) hdg kk
theorem d_Cell_become_29 : decode prog_2_method_7_code 29 = .ok (.lconst 0, 1) := by decide +kernel
theorem d_Cell_become_30 : decode prog_2_method_7_code 30 = .ok (.invokevirtual 41, 3) := by decide +kernel
theorem u_1036 : Cond.methodLink "FilterGuard$Cell" 41 ⟨"FilterGuard$Num", "exact", "(J)V"⟩ ∈ fg_g := fg_in (List.mem_of_getElem? (i := 1036) (by decide +kernel)) rfl
theorem u_1039 : Cond.code ⟨"FilterGuard$Num", "exact", "(J)V"⟩ prog_8_method_2_code 3 none ∈ fg_g := fg_in (List.mem_of_getElem? (i := 1039) (by decide +kernel)) rfl
theorem u_1037 : Cond.instanceMethod ⟨"FilterGuard$Num", "exact", "(J)V"⟩ ∈ fg_g := fg_in (List.mem_of_getElem? (i := 1037) (by decide +kernel)) rfl
theorem u_1038 : Cond.selects "FilterGuard$Num" ⟨"FilterGuard$Num", "exact", "(J)V"⟩ ⟨"FilterGuard$Num", "exact", "(J)V"⟩ ∈ fg_g := fg_in (List.mem_of_getElem? (i := 1038) (by decide +kernel)) rfl
theorem d_Cell_become_33 : decode prog_2_method_7_code 33 = .ok (.return_, 1) := by decide +kernel
abbrev y_Cell_become : MethodName := ⟨"FilterGuard$Cell", "become", "(II)V"⟩
def f_Cell_become (M0 : me_M) (j0 : Nat) (x1 : Int32) (x2 : Int32) : Option me_M := st (wI M0 10 j0 0 x1) (fun (M1 : me_M) => st (wI M1 10 j0 1 x2) (fun (M2 : me_M) => st (wI M2 10 j0 2 0) (fun (M3 : me_M) => st (wI M3 10 j0 3 0) (fun (M4 : me_M) => st (wI M4 10 j0 4 0) (fun (M5 : me_M) => bd (mR M0 10 j0 6) (fun (j6 : Nat) => bd (f_Num_exact M5 j6 (0 : Int64)) (fun (M8 : me_M) => some M8)))))))
def rm_Cell_become : Room := { frames := 2, cells := 0, slots := 0, locals := 42 }
abbrev q_Cell_become (D : va_G) (ad : Nat → Nat → Nat) (ca : Nat → ClassId) (N : Nat → Nat) (M0 MZ : me_M) (A : Nat → Prop) : Array Value → Jvm.State → Outcome → Jvm.State → Prop := va_Qv (fun (_ : Unit) => me_wf N MZ ∧ me_kp M0 MZ) (fg_B D A (fun _ => me_W ad ca MZ) (fun _ => [])) A
set_option maxHeartbeats 4000000 in
set_option maxRecDepth 100000 in
theorem c_Cell_become (l : Launch) (D : va_G) (ad : Nat → Nat → Nat) (ca : Nat → ClassId) (N : Nat → Nat) (M0 MZ : me_M) (j0 : Nat) (x1 : Int32) (x2 : Int32) (h : f_Cell_become M0 j0 x1 x2 = (some MZ)) (hwf : me_wf N M0) (hj0 : j0 < N 10) (sz : Nat) : Met l y_Cell_become (fg_w y_Cell_become prog_2_method_7_code 3 none) rm_Cell_become (va_Pc [.ref (ad 10 j0), .int x1, .int x2] (fz_P D (me_T ca) (me_W ad ca M0) sz)) (q_Cell_become D ad ca N M0 MZ (va_A (me_W ad ca M0) sz)) rm_Cell_become.cells rm_Cell_become.slots (va_A (me_W ad ca M0) sz) := by
  refine fz_enter (fun A => q_Cell_become D ad ca N M0 MZ A) (by decide +kernel) (Nat.le_of_ble_eq_true rfl) ?_
  intro p e s m below meth c ls A hx hb hml hown hts hr hlocks hin hP hK hD hS hA hX hl hz
  have hl : lv_has ls 3 [(0, .ref (ad 10 j0)), (1, .int x1), (2, .int x2)] := hl
  unfold f_Cell_become at h
  have hkp : me_kp M0 M0 := me_kp.rf
  have hkb := hkp
  refine lv_aload_n hx hb d_Cell_become_0 rfl (lv_at hl 0 rfl) ?_
  refine lv_iload_n hx hb d_Cell_become_1 rfl (lv_at hl 1 rfl) ?_
  obtain ⟨M1, eM1, h⟩ := st_ob h
  refine p_Cell_0 eM1 hx hb hts hown hK hP hD hwf hS hj0 (hts _ u_420) d_Cell_become_2 (fun H locs hP hD hwf hS => ?_)
  have hkp := kp_I eM1 hkp
  refine lv_aload_n hx hb d_Cell_become_5 rfl (lv_at hl 0 rfl) ?_
  refine lv_iload_n hx hb d_Cell_become_6 rfl (lv_at hl 2 rfl) ?_
  obtain ⟨M2, eM2, h⟩ := st_ob h
  refine p_Cell_1 eM2 hx hb hts hown hK hP hD hwf hS hj0 (hts _ u_424) d_Cell_become_7 (fun H locs hP hD hwf hS => ?_)
  have hkp := kp_I eM2 hkp
  refine lv_aload_n hx hb d_Cell_become_10 rfl (lv_at hl 0 rfl) ?_
  refine lv_iconst (v := 0) hx hb d_Cell_become_11 (by decide) ?_
  obtain ⟨M3, eM3, h⟩ := st_ob h
  refine p_Cell_2 eM3 hx hb hts hown hK hP hD hwf hS hj0 (hts _ u_426) d_Cell_become_12 (fun H locs hP hD hwf hS => ?_)
  have hkp := kp_I eM3 hkp
  refine lv_aload_n hx hb d_Cell_become_15 rfl (lv_at hl 0 rfl) ?_
  refine lv_iconst (v := 0) hx hb d_Cell_become_16 (by decide) ?_
  obtain ⟨M4, eM4, h⟩ := st_ob h
  refine p_Cell_3 eM4 hx hb hts hown hK hP hD hwf hS hj0 (hts _ u_428) d_Cell_become_17 (fun H locs hP hD hwf hS => ?_)
  have hkp := kp_I eM4 hkp
  refine lv_aload_n hx hb d_Cell_become_20 rfl (lv_at hl 0 rfl) ?_
  refine lv_iconst (v := 0) hx hb d_Cell_become_21 (by decide) ?_
  obtain ⟨M5, eM5, h⟩ := st_ob h
  refine p_Cell_4 eM5 hx hb hts hown hK hP hD hwf hS hj0 (hts _ u_431) d_Cell_become_22 (fun H locs hP hD hwf hS => ?_)
  have hkp := kp_I eM5 hkp
  refine lv_aload_n hx hb d_Cell_become_25 rfl (lv_at hl 0 rfl) ?_
  refine g_Cell_6 hx hb hts hown hK hP hwf hj0 (hts _ u_435) d_Cell_become_26 ?_
  obtain ⟨j6, e7, h⟩ := bd_ob h
  have hj6 : j6 < N 11 := (hwf.2.1 10 j0 6 _ (kp_r hkb hkp e7) (by decide) hj0)
  refine me_opt (j := j6) (kp_r hkb hkp e7) ?_
  refine lv_lconst (v := 0) hx hb d_Cell_become_29 (by decide) ?_
  obtain ⟨M8, eM8, h⟩ := bd_ob h
  refine me_thenv0 (M1 := M8) (me_runV (C := "FilterGuard$Num") (As := [.long 0]) (rest := []) ⟨hx, hb, hml, hown, hts⟩ (c_Num_exact l D ad ca N M5 M8 j6 (0 : Int64) eM8 hwf hj6 _) rfl (by show fg_nm y_Num_exact 1; decide +kernel) u_1036 u_1037 u_1038 u_187 u_1039 ⟨Nat.le_of_ble_eq_true rfl, Nat.le_of_ble_eq_true rfl⟩ hX hz hK hP hD hwf hS hA hj6 (by decide) rfl rfl rfl hl.1 (Nat.le_of_ble_eq_true rfl) d_Cell_become_30 ⟨Nat.le_of_ble_eq_true rfl, Nat.le_of_ble_eq_true rfl⟩) hP hD hK hS hA rfl rfl (fun H locs hw hP hD hS => ?_)
  obtain ⟨hwf, hk9⟩ := hw
  have hkp := hkp.tr hk9
  exact me_retv (me_kp M0) h hx hb hr hlocks hwf hkp hP hK hD hS d_Cell_become_33
theorem d_State_atFirst_0 : decode prog_10_method_2_code 0 = .ok (.aload_n 0, 1) := by decide +kernel
theorem d_State_atFirst_1 : decode prog_10_method_2_code 1 = .ok (.iconst 0, 1) := by decide +kernel
theorem d_State_atFirst_2 : decode prog_10_method_2_code 2 = .ok (.invokevirtual 22, 3) := by decide +kernel
theorem u_1024 : Cond.methodLink "FilterGuard$State" 22 ⟨"FilterGuard$State", "clearFrom", "(I)V"⟩ ∈ fg_g := fg_in (List.mem_of_getElem? (i := 1024) (by decide +kernel)) rfl
theorem u_1027 : Cond.code ⟨"FilterGuard$State", "clearFrom", "(I)V"⟩ prog_10_method_4_code 3 none ∈ fg_g := fg_in (List.mem_of_getElem? (i := 1027) (by decide +kernel)) rfl
theorem u_1026 : Cond.instanceMethod ⟨"FilterGuard$State", "clearFrom", "(I)V"⟩ ∈ fg_g := fg_in (List.mem_of_getElem? (i := 1026) (by decide +kernel)) rfl
theorem u_12 : Cond.selects "FilterGuard$State" ⟨"FilterGuard$State", "clearFrom", "(I)V"⟩ ⟨"FilterGuard$State", "clearFrom", "(I)V"⟩ ∈ fg_g := fg_in (List.mem_of_getElem? (i := 12) (by decide +kernel)) rfl
theorem d_State_atFirst_5 : decode prog_10_method_2_code 5 = .ok (.aload_n 0, 1) := by decide +kernel
theorem d_State_atFirst_6 : decode prog_10_method_2_code 6 = .ok (.getfield 11, 3) := by decide +kernel
theorem d_State_atFirst_9 : decode prog_10_method_2_code 9 = .ok (.iconst 1, 1) := by decide +kernel
theorem d_State_atFirst_10 : decode prog_10_method_2_code 10 = .ok (.aaload, 1) := by decide +kernel
theorem d_State_atFirst_11 : decode prog_10_method_2_code 11 = .ok (.iconst 2, 1) := by decide +kernel
theorem d_State_atFirst_12 : decode prog_10_method_2_code 12 = .ok (.iconst 0, 1) := by decide +kernel
theorem d_State_atFirst_13 : decode prog_10_method_2_code 13 = .ok (.invokevirtual 26, 3) := by decide +kernel
theorem u_1032 : Cond.methodLink "FilterGuard$State" 26 ⟨"FilterGuard$Cell", "become", "(II)V"⟩ ∈ fg_g := fg_in (List.mem_of_getElem? (i := 1032) (by decide +kernel)) rfl
theorem u_1035 : Cond.code ⟨"FilterGuard$Cell", "become", "(II)V"⟩ prog_2_method_7_code 3 none ∈ fg_g := fg_in (List.mem_of_getElem? (i := 1035) (by decide +kernel)) rfl
theorem u_1033 : Cond.instanceMethod ⟨"FilterGuard$Cell", "become", "(II)V"⟩ ∈ fg_g := fg_in (List.mem_of_getElem? (i := 1033) (by decide +kernel)) rfl
theorem u_1034 : Cond.selects "FilterGuard$Cell" ⟨"FilterGuard$Cell", "become", "(II)V"⟩ ⟨"FilterGuard$Cell", "become", "(II)V"⟩ ∈ fg_g := fg_in (List.mem_of_getElem? (i := 1034) (by decide +kernel)) rfl
theorem d_State_atFirst_16 : decode prog_10_method_2_code 16 = .ok (.aload_n 0, 1) := by decide +kernel
theorem d_State_atFirst_17 : decode prog_10_method_2_code 17 = .ok (.getfield 11, 3) := by decide +kernel
theorem d_State_atFirst_20 : decode prog_10_method_2_code 20 = .ok (.bipush 10, 2) := by decide +kernel
theorem d_State_atFirst_22 : decode prog_10_method_2_code 22 = .ok (.aaload, 1) := by decide +kernel
theorem d_State_atFirst_23 : decode prog_10_method_2_code 23 = .ok (.iconst 3, 1) := by decide +kernel
theorem d_State_atFirst_24 : decode prog_10_method_2_code 24 = .ok (.iconst 0, 1) := by decide +kernel
theorem d_State_atFirst_25 : decode prog_10_method_2_code 25 = .ok (.invokevirtual 26, 3) := by decide +kernel
theorem d_State_atFirst_28 : decode prog_10_method_2_code 28 = .ok (.aload_n 0, 1) := by decide +kernel
theorem d_State_atFirst_29 : decode prog_10_method_2_code 29 = .ok (.bipush 11, 2) := by decide +kernel
theorem d_State_atFirst_31 : decode prog_10_method_2_code 31 = .ok (.putfield 17, 3) := by decide +kernel
theorem d_State_atFirst_34 : decode prog_10_method_2_code 34 = .ok (.aload_n 0, 1) := by decide +kernel
theorem d_State_atFirst_35 : decode prog_10_method_2_code 35 = .ok (.iconst 0, 1) := by decide +kernel
theorem d_State_atFirst_36 : decode prog_10_method_2_code 36 = .ok (.putfield 30, 3) := by decide +kernel
theorem u_530 : Cond.fieldLink "FilterGuard$State" 30 "FilterGuard$State" "at" "I" ∈ fg_g := fg_in (List.mem_of_getElem? (i := 530) (by decide +kernel)) rfl
theorem p_State_2 {p : Program} {l : Launch} {e : Env} {R : Room} {s : Jvm.State} {m : MethodId} {args : Array Value} {below : List Frame} {meth : Method} {c : Code} {H : Heap} {locs : List Loc} {cells slots : Nat} {Q : Jvm.State → Prop} {cc : ByteArray} {pc : Nat} {ls : Array Slot} {rest : List Value} {D : va_G} {A : Nat → Prop} {H0 : Heap} {ad : Nat → Nat → Nat} {ca : Nat → ClassId} {M M1 : me_M} {N : Nat → Nat} {own : String} {index j : Nat} {v : Int32} (he : M1 = wI M 9 j 2 v) (hexec : p.tables.exec = Jvm.exec) (hb : c.code = cc) (hts : ∀ w ∈ fg_g, w.before args s = true) (hown : s.vm.findClass own = some m.cls) (hK : va_K D classes (me_T ca) s) (hP : va_P D classes (me_W ad ca M) H) (hD : va_D A (me_W ad ca M)) (hwf : me_wf N M) (hS : va_S A H0 H locs) (hj : j < N 9) (hlink : (Cond.fieldLink own index "FilterGuard$State" "at" "I").before args s = true) (hdg : decode cc pc = .ok (.putfield index, 3)) (kk : ∀ (H1 : Heap) (locs1 : List Loc), va_P D classes (me_W ad ca M1) H1 → va_D A (me_W ad ca M1) → me_wf N M1 → va_S A H0 H1 locs1 → W p l e R s m args below meth c H1 locs1 cells slots Q (F0 m (pc + 3) ls rest)) : W p l e R s m args below meth c H locs cells slots Q (F0 m pc ls (.int v :: .ref (ad 9 j) :: rest)) := by
  subst he
  exact me_put (M1 := wI M 9 j 2 v) (k := 9) (f := 2) (C := "FilterGuard$State") (T := F_State) (Nf := 5) hexec hb hts i_State t_State t_State_ok n_State hown hK hP hD hwf hS hj (by decide) rfl (by decide) (by decide) hlink (fun _ h9 => h9) rfl rfl rfl rfl (fun a b h => me_wIE h) (me_fIw (by decide) (by decide)) hdg (fun H1 locs1 a1 a2 a3 => kk H1 locs1 a1 a2 (me_wfI hwf (fun z => absurd z (by decide)) (fun z => absurd z (by decide))) a3)
theorem d_State_atFirst_39 : decode prog_10_method_2_code 39 = .ok (.return_, 1) := by decide +kernel
abbrev y_State_atFirst : MethodName := ⟨"FilterGuard$State", "atFirst", "()V"⟩
def f_State_atFirst (M0 : me_M) (j0 : Nat) : Option me_M := bd (f_State_clearFrom M0 j0 (0 : Int32)) (fun (M1 : me_M) => bd (mR M0 9 j0 0) (fun (j2 : Nat) => gd (1 < mZ M0 18 j2) (bd (mR M0 18 j2 1) (fun (j5 : Nat) => bd (f_Cell_become M1 j5 (2 : Int32) (0 : Int32)) (fun (M7 : me_M) => gd (10 < mZ M0 18 j2) (bd (mR M0 18 j2 10) (fun (j9 : Nat) => bd (f_Cell_become M7 j9 (3 : Int32) (0 : Int32)) (fun (M11 : me_M) => st (wI M11 9 j0 1 11) (fun (M12 : me_M) => st (wI M12 9 j0 2 0) (fun (M13 : me_M) => some M13))))))))))
def rm_State_atFirst : Room := { frames := 3, cells := 0, slots := 0, locals := 64 }
abbrev q_State_atFirst (D : va_G) (ad : Nat → Nat → Nat) (ca : Nat → ClassId) (N : Nat → Nat) (M0 MZ : me_M) (A : Nat → Prop) : Array Value → Jvm.State → Outcome → Jvm.State → Prop := va_Qv (fun (_ : Unit) => me_wf N MZ ∧ me_kp M0 MZ) (fg_B D A (fun _ => me_W ad ca MZ) (fun _ => [])) A
set_option maxHeartbeats 4000000 in
set_option maxRecDepth 100000 in
theorem c_State_atFirst (l : Launch) (D : va_G) (ad : Nat → Nat → Nat) (ca : Nat → ClassId) (N : Nat → Nat) (M0 MZ : me_M) (j0 : Nat) (h : f_State_atFirst M0 j0 = (some MZ)) (hwf : me_wf N M0) (hj0 : j0 < N 9) (sz : Nat) : Met l y_State_atFirst (fg_w y_State_atFirst prog_10_method_2_code 1 none) rm_State_atFirst (va_Pc [.ref (ad 9 j0)] (fz_P D (me_T ca) (me_W ad ca M0) sz)) (q_State_atFirst D ad ca N M0 MZ (va_A (me_W ad ca M0) sz)) rm_State_atFirst.cells rm_State_atFirst.slots (va_A (me_W ad ca M0) sz) := by
  refine fz_enter (fun A => q_State_atFirst D ad ca N M0 MZ A) (by decide +kernel) (Nat.le_of_ble_eq_true rfl) ?_
  intro p e s m below meth c ls A hx hb hml hown hts hr hlocks hin hP hK hD hS hA hX hl hz
  have hl : lv_has ls 1 [(0, .ref (ad 9 j0))] := hl
  unfold f_State_atFirst at h
  have hkp : me_kp M0 M0 := me_kp.rf
  have hkb := hkp
  refine lv_aload_n hx hb d_State_atFirst_0 rfl (lv_at hl 0 rfl) ?_
  refine lv_iconst (v := 0) hx hb d_State_atFirst_1 (by decide) ?_
  obtain ⟨M1, eM1, h⟩ := bd_ob h
  refine me_thenv0 (M1 := M1) (me_runV (C := "FilterGuard$State") (As := [.int 0]) (rest := []) ⟨hx, hb, hml, hown, hts⟩ (c_State_clearFrom l D ad ca N M0 M1 j0 (0 : Int32) eM1 hwf hj0 _) rfl (by show fg_nm y_State_clearFrom 1; decide +kernel) u_1024 u_1026 u_12 u_189 u_1027 ⟨Nat.le_of_ble_eq_true rfl, Nat.le_of_ble_eq_true rfl⟩ hX hz hK hP hD hwf hS hA hj0 (by decide) rfl rfl rfl hl.1 (Nat.le_of_ble_eq_true rfl) d_State_atFirst_2 ⟨Nat.le_of_ble_eq_true rfl, Nat.le_of_ble_eq_true rfl⟩) hP hD hK hS hA rfl rfl (fun H locs hw hP hD hS => ?_)
  obtain ⟨hwf, hk9⟩ := hw
  have hkp := hkp.tr hk9
  refine lv_aload_n hx hb d_State_atFirst_5 rfl (lv_at hl 0 rfl) ?_
  refine g_State_0 hx hb hts hown hK hP hwf hj0 (hts _ u_523) d_State_atFirst_6 ?_
  obtain ⟨j2, e3, h⟩ := bd_ob h
  have hj2 : j2 < N 18 := (hwf.2.1 9 j0 0 _ (kp_r hkb hkp e3) (by decide) hj0)
  refine me_opt (j := j2) (kp_r hkb hkp e3) ?_
  refine lv_iconst (v := 1) hx hb d_State_atFirst_9 (by decide) ?_
  obtain ⟨g4, h⟩ := gd_ob h
  refine me_aald (k := 18) (t := 10) hx hb hK hP hwf hj2 (by decide) (by decide) rfl (fun _ => rfl) (me_in (i := (1 : Int32)) (k := 1) (by decide) (by decide) (kp_c hkb.z hkp.z g4)) d_State_atFirst_10 ?_
  rw [show (1 : Int32).toNatClampNeg = 1 by decide]
  obtain ⟨j5, e6, h⟩ := bd_ob h
  have hj5 : j5 < N 10 := (hwf.2.1 18 j2 1 _ (kp_r hkb hkp e6) (by decide) hj2)
  refine me_opt (j := j5) (kp_r hkb hkp e6) ?_
  refine lv_iconst (v := 2) hx hb d_State_atFirst_11 (by decide) ?_
  refine lv_iconst (v := 0) hx hb d_State_atFirst_12 (by decide) ?_
  obtain ⟨M7, eM7, h⟩ := bd_ob h
  refine me_thenv0 (M1 := M7) (me_runV (C := "FilterGuard$Cell") (As := [.int 2, .int 0]) (rest := []) ⟨hx, hb, hml, hown, hts⟩ (c_Cell_become l D ad ca N M1 M7 j5 (2 : Int32) (0 : Int32) eM7 hwf hj5 _) rfl (by show fg_nm y_Cell_become 2; decide +kernel) u_1032 u_1033 u_1034 u_188 u_1035 ⟨Nat.le_of_ble_eq_true rfl, Nat.le_of_ble_eq_true rfl⟩ hX hz hK hP hD hwf hS hA hj5 (by decide) rfl rfl rfl hl.1 (Nat.le_of_ble_eq_true rfl) d_State_atFirst_13 ⟨Nat.le_of_ble_eq_true rfl, Nat.le_of_ble_eq_true rfl⟩) hP hD hK hS hA rfl rfl (fun H locs hw hP hD hS => ?_)
  obtain ⟨hwf, hk9⟩ := hw
  have hkp := hkp.tr hk9
  refine lv_aload_n hx hb d_State_atFirst_16 rfl (lv_at hl 0 rfl) ?_
  refine g_State_0 hx hb hts hown hK hP hwf hj0 (hts _ u_523) d_State_atFirst_17 ?_
  refine me_opt (j := j2) (kp_r hkb hkp e3) ?_
  refine lv_bipush (v := 10) hx hb d_State_atFirst_20 (by decide) ?_
  obtain ⟨g8, h⟩ := gd_ob h
  refine me_aald (k := 18) (t := 10) hx hb hK hP hwf hj2 (by decide) (by decide) rfl (fun _ => rfl) (me_in (i := (10 : Int32)) (k := 10) (by decide) (by decide) (kp_c hkb.z hkp.z g8)) d_State_atFirst_22 ?_
  rw [show (10 : Int32).toNatClampNeg = 10 by decide]
  obtain ⟨j9, e10, h⟩ := bd_ob h
  have hj9 : j9 < N 10 := (hwf.2.1 18 j2 10 _ (kp_r hkb hkp e10) (by decide) hj2)
  refine me_opt (j := j9) (kp_r hkb hkp e10) ?_
  refine lv_iconst (v := 3) hx hb d_State_atFirst_23 (by decide) ?_
  refine lv_iconst (v := 0) hx hb d_State_atFirst_24 (by decide) ?_
  obtain ⟨M11, eM11, h⟩ := bd_ob h
  refine me_thenv0 (M1 := M11) (me_runV (C := "FilterGuard$Cell") (As := [.int 3, .int 0]) (rest := []) ⟨hx, hb, hml, hown, hts⟩ (c_Cell_become l D ad ca N M7 M11 j9 (3 : Int32) (0 : Int32) eM11 hwf hj9 _) rfl (by show fg_nm y_Cell_become 2; decide +kernel) u_1032 u_1033 u_1034 u_188 u_1035 ⟨Nat.le_of_ble_eq_true rfl, Nat.le_of_ble_eq_true rfl⟩ hX hz hK hP hD hwf hS hA hj9 (by decide) rfl rfl rfl hl.1 (Nat.le_of_ble_eq_true rfl) d_State_atFirst_25 ⟨Nat.le_of_ble_eq_true rfl, Nat.le_of_ble_eq_true rfl⟩) hP hD hK hS hA rfl rfl (fun H locs hw hP hD hS => ?_)
  obtain ⟨hwf, hk9⟩ := hw
  have hkp := hkp.tr hk9
  refine lv_aload_n hx hb d_State_atFirst_28 rfl (lv_at hl 0 rfl) ?_
  refine lv_bipush (v := 11) hx hb d_State_atFirst_29 (by decide) ?_
  obtain ⟨M12, eM12, h⟩ := st_ob h
  refine p_State_1 eM12 hx hb hts hown hK hP hD hwf hS hj0 (hts _ u_527) d_State_atFirst_31 (fun H locs hP hD hwf hS => ?_)
  have hkp := kp_I eM12 hkp
  refine lv_aload_n hx hb d_State_atFirst_34 rfl (lv_at hl 0 rfl) ?_
  refine lv_iconst (v := 0) hx hb d_State_atFirst_35 (by decide) ?_
  obtain ⟨M13, eM13, h⟩ := st_ob h
  refine p_State_2 eM13 hx hb hts hown hK hP hD hwf hS hj0 (hts _ u_530) d_State_atFirst_36 (fun H locs hP hD hwf hS => ?_)
  have hkp := kp_I eM13 hkp
  exact me_retv (me_kp M0) h hx hb hr hlocks hwf hkp hP hK hD hS d_State_atFirst_39
theorem d_Code_isMarkAt_0 : decode prog_4_method_12_code 0 = .ok (.iload_n 1, 1) := by decide +kernel
theorem d_Code_isMarkAt_1 : decode prog_4_method_12_code 1 = .ok (.ifCond .lt 24, 3) := by decide +kernel
theorem d_Code_isMarkAt_25 : decode prog_4_method_12_code 25 = .ok (.iconst 0, 1) := by decide +kernel
theorem d_Code_isMarkAt_26 : decode prog_4_method_12_code 26 = .ok (.ireturn, 1) := by decide +kernel
theorem d_Code_isMarkAt_4 : decode prog_4_method_12_code 4 = .ok (.iload_n 1, 1) := by decide +kernel
theorem d_Code_isMarkAt_5 : decode prog_4_method_12_code 5 = .ok (.aload_n 0, 1) := by decide +kernel
theorem d_Code_isMarkAt_6 : decode prog_4_method_12_code 6 = .ok (.getfield 22, 3) := by decide +kernel
theorem d_Code_isMarkAt_9 : decode prog_4_method_12_code 9 = .ok (.if_icmp .ge 16, 3) := by decide +kernel
theorem d_Code_isMarkAt_12 : decode prog_4_method_12_code 12 = .ok (.aload_n 0, 1) := by decide +kernel
theorem d_Code_isMarkAt_13 : decode prog_4_method_12_code 13 = .ok (.getfield 19, 3) := by decide +kernel
theorem d_Code_isMarkAt_16 : decode prog_4_method_12_code 16 = .ok (.iload_n 1, 1) := by decide +kernel
theorem d_Code_isMarkAt_17 : decode prog_4_method_12_code 17 = .ok (.baload, 1) := by decide +kernel
theorem d_Code_isMarkAt_18 : decode prog_4_method_12_code 18 = .ok (.ifCond .eq 7, 3) := by decide +kernel
theorem d_Code_isMarkAt_21 : decode prog_4_method_12_code 21 = .ok (.iconst 1, 1) := by decide +kernel
theorem d_Code_isMarkAt_22 : decode prog_4_method_12_code 22 = .ok (.goto 4, 3) := by decide +kernel
abbrev y_Code_isMarkAt : MethodName := ⟨"FilterGuard$Code", "isMarkAt", "(I)Z"⟩
def f_Code_isMarkAt (M0 : me_M) (j0 : Nat) (x1 : Int32) : Option (me_M × Int32) := (if x1 < 0 then some (M0, (0 : Int32)) else (if (mI M0 2 j0 3) ≤ x1 then some (M0, (0 : Int32)) else bd (mR M0 2 j0 2) (fun (j3 : Nat) => gd (¬ (x1 < 0 ∨ mZ M0 15 j3 ≤ x1.toNatClampNeg)) ((if (mI M0 15 j3 x1.toNatClampNeg) = 0 then some (M0, (0 : Int32)) else some (M0, (1 : Int32)))))))
def rm_Code_isMarkAt : Room := { frames := 1, cells := 0, slots := 0, locals := 20 }
abbrev q_Code_isMarkAt (D : va_G) (ad : Nat → Nat → Nat) (ca : Nat → ClassId) (N : Nat → Nat) (M0 MZ : me_M) (RZ : Int32) (A : Nat → Prop) : Array Value → Jvm.State → Outcome → Jvm.State → Prop := va_Qi (fun r (_ : Unit) => r = RZ ∧ me_wf N MZ ∧ me_kp M0 MZ ∧ (RZ = 1 ∨ RZ = 0)) (fg_B D A (fun _ => me_W ad ca MZ) (fun _ => [])) A
set_option maxHeartbeats 4000000 in
set_option maxRecDepth 100000 in
theorem c_Code_isMarkAt (l : Launch) (D : va_G) (ad : Nat → Nat → Nat) (ca : Nat → ClassId) (N : Nat → Nat) (M0 MZ : me_M) (RZ : Int32) (j0 : Nat) (x1 : Int32) (h : f_Code_isMarkAt M0 j0 x1 = (some (MZ, RZ))) (hwf : me_wf N M0) (hj0 : j0 < N 2) (sz : Nat) : Met l y_Code_isMarkAt (fg_w y_Code_isMarkAt prog_4_method_12_code 2 (some .boolean)) rm_Code_isMarkAt (va_Pc [.ref (ad 2 j0), .int x1] (fz_P D (me_T ca) (me_W ad ca M0) sz)) (q_Code_isMarkAt D ad ca N M0 MZ RZ (va_A (me_W ad ca M0) sz)) rm_Code_isMarkAt.cells rm_Code_isMarkAt.slots (va_A (me_W ad ca M0) sz) := by
  refine fz_enter (fun A => q_Code_isMarkAt D ad ca N M0 MZ RZ A) (by decide +kernel) (Nat.le_of_ble_eq_true rfl) ?_
  intro p e s m below meth c ls A hx hb hml hown hts hr hlocks hin hP hK hD hS hA hX hl hz
  have hl : lv_has ls 2 [(0, .ref (ad 2 j0)), (1, .int x1)] := hl
  unfold f_Code_isMarkAt at h
  have hkp : me_kp M0 M0 := me_kp.rf
  have hkb := hkp
  refine lv_iload_n hx hb d_Code_isMarkAt_0 rfl (lv_at hl 1 rfl) ?_
  refine lv_if_lt (tgt := 25) hx hb d_Code_isMarkAt_1 (by decide) (fun c1 => ?_) (fun c1 => ?_)
  · have h := if_t c1 h
    refine lv_iconst (v := 0) hx hb d_Code_isMarkAt_25 (by decide) ?_
    exact me_retz (me_kp M0) h (by decide) hx hb hr hlocks hwf hkp hP hK hD hS d_Code_isMarkAt_26
  have h := if_f c1 h
  refine lv_iload_n hx hb d_Code_isMarkAt_4 rfl (lv_at hl 1 rfl) ?_
  refine lv_aload_n hx hb d_Code_isMarkAt_5 rfl (lv_at hl 0 rfl) ?_
  refine g_Code_3 hx hb hts hown hK hP hwf hj0 (hts _ u_226) d_Code_isMarkAt_6 ?_
  refine lv_icmp_ge (tgt := 25) hx hb d_Code_isMarkAt_9 (by decide) (fun c2 => ?_) (fun c2 => ?_)
  · have h := if_t c2 h
    refine lv_iconst (v := 0) hx hb d_Code_isMarkAt_25 (by decide) ?_
    exact me_retz (me_kp M0) h (by decide) hx hb hr hlocks hwf hkp hP hK hD hS d_Code_isMarkAt_26
  have h := if_f c2 h
  refine lv_aload_n hx hb d_Code_isMarkAt_12 rfl (lv_at hl 0 rfl) ?_
  refine g_Code_2 hx hb hts hown hK hP hwf hj0 (hts _ u_225) d_Code_isMarkAt_13 ?_
  obtain ⟨j3, e4, h⟩ := bd_ob h
  have hj3 : j3 < N 15 := (hwf.2.1 2 j0 2 _ e4 (by decide) hj0)
  refine me_opt (j := j3) e4 ?_
  refine lv_iload_n hx hb d_Code_isMarkAt_16 rfl (lv_at hl 1 rfl) ?_
  obtain ⟨g5, h⟩ := gd_ob h
  refine me_zald hx hb hK hP hwf hj3 g5 d_Code_isMarkAt_17 ?_
  have z6 := hwf.2.2.2 15 j3 x1.toNatClampNeg rfl
  refine lv_if_eq (tgt := 25) hx hb d_Code_isMarkAt_18 (by decide) (fun c7 => ?_) (fun c7 => ?_)
  · have h := if_t c7 h
    refine lv_iconst (v := 0) hx hb d_Code_isMarkAt_25 (by decide) ?_
    exact me_retz (me_kp M0) h (by decide) hx hb hr hlocks hwf hkp hP hK hD hS d_Code_isMarkAt_26
  have h := if_f c7 h
  refine lv_iconst (v := 1) hx hb d_Code_isMarkAt_21 (by decide) ?_
  refine lv_goto (tgt := 26) hx hb d_Code_isMarkAt_22 (by decide) ?_
  exact me_retz (me_kp M0) h (by decide) hx hb hr hlocks hwf hkp hP hK hD hS d_Code_isMarkAt_26
theorem d_Num_isBelow_0 : decode prog_8_method_9_code 0 = .ok (.lload_n 0, 1) := by decide +kernel
theorem d_Num_isBelow_1 : decode prog_8_method_9_code 1 = .ok (.ldc2_w 32, 3) := by decide +kernel
theorem u_1065 : Cond.constantLong "FilterGuard$Num" 32 (-9223372036854775808) ∈ fg_g := fg_in (List.mem_of_getElem? (i := 1065) (by decide +kernel)) rfl
theorem d_Num_isBelow_4 : decode prog_8_method_9_code 4 = .ok (.lxor, 1) := by decide +kernel
theorem d_Num_isBelow_5 : decode prog_8_method_9_code 5 = .ok (.lload_n 2, 1) := by decide +kernel
theorem d_Num_isBelow_6 : decode prog_8_method_9_code 6 = .ok (.ldc2_w 32, 3) := by decide +kernel
theorem d_Num_isBelow_9 : decode prog_8_method_9_code 9 = .ok (.lxor, 1) := by decide +kernel
theorem d_Num_isBelow_10 : decode prog_8_method_9_code 10 = .ok (.lcmp, 1) := by decide +kernel
theorem d_Num_isBelow_11 : decode prog_8_method_9_code 11 = .ok (.ifCond .ge 7, 3) := by decide +kernel
theorem d_Num_isBelow_18 : decode prog_8_method_9_code 18 = .ok (.iconst 0, 1) := by decide +kernel
theorem d_Num_isBelow_19 : decode prog_8_method_9_code 19 = .ok (.ireturn, 1) := by decide +kernel
theorem d_Num_isBelow_14 : decode prog_8_method_9_code 14 = .ok (.iconst 1, 1) := by decide +kernel
theorem d_Num_isBelow_15 : decode prog_8_method_9_code 15 = .ok (.goto 4, 3) := by decide +kernel
abbrev y_Num_isBelow : MethodName := ⟨"FilterGuard$Num", "isBelow", "(JJ)Z"⟩
def f_Num_isBelow (x0 : Int64) (x2 : Int64) : Option Int32 := (if (x0 ^^^ (-9223372036854775808)) < (x2 ^^^ (-9223372036854775808)) then some (1 : Int32) else some (0 : Int32))
def rm_Num_isBelow : Room := { frames := 1, cells := 0, slots := 0, locals := 20 }
abbrev q_Num_isBelow (D : va_G) (RZ : Int32) (A : Nat → Prop) : Array Value → Jvm.State → Outcome → Jvm.State → Prop := va_Qi (fun r (_ : Unit) => r = RZ ∧ (RZ = 1 ∨ RZ = 0)) (fg_B D A (fun _ => []) (fun _ => [])) A
set_option maxHeartbeats 4000000 in
set_option maxRecDepth 100000 in
theorem c_Num_isBelow (l : Launch) (D : va_G) (RZ : Int32) (x0 : Int64) (x2 : Int64) (h : f_Num_isBelow x0 x2 = (some RZ)) (sz : Nat) : Met l y_Num_isBelow (fg_w y_Num_isBelow prog_8_method_9_code 4 (some .boolean)) rm_Num_isBelow (va_Pc [.long x0, .long x2] (fg_P D [] [] sz)) (q_Num_isBelow D RZ (va_A [] sz)) rm_Num_isBelow.cells rm_Num_isBelow.slots (va_A [] sz) := by
  refine fg_enter (fun A => q_Num_isBelow D RZ A) (by decide +kernel) (Nat.le_of_ble_eq_true rfl) ?_
  intro p e s m below meth c ls A hx hb hml hown hts hr hlocks hin hP hK hD hS hA hX hl
  have hl : lv_has ls 4 [(0, .long x0), (2, .long x2)] := hl
  unfold f_Num_isBelow at h
  refine lv_lload_n hx hb d_Num_isBelow_0 rfl (lv_at hl 0 rfl) ?_
  refine lv_ldc2 hx hb hown (hts _ u_1065) d_Num_isBelow_1 ?_
  refine lv_lxor hx hb d_Num_isBelow_4 ?_
  refine lv_lload_n hx hb d_Num_isBelow_5 rfl (lv_at hl 1 rfl) ?_
  refine lv_ldc2 hx hb hown (hts _ u_1065) d_Num_isBelow_6 ?_
  refine lv_lxor hx hb d_Num_isBelow_9 ?_
  refine W.lcmp hx hb d_Num_isBelow_10 ?_
  refine lv_if_ge (tgt := 18) hx hb d_Num_isBelow_11 (by decide) (fun c1 => ?_) (fun c1 => ?_)
  · have h := if_f (Int64.not_lt.mpr ((lg_cmp_ge _ _).mp c1)) h
    refine lv_iconst (v := 0) hx hb d_Num_isBelow_18 (by decide) ?_
    exact me_pretz h (by decide) hx hb hr hlocks hK hS d_Num_isBelow_19
  have h := if_t (Int64.not_le.mp (fun z => c1 ((lg_cmp_ge _ _).mpr z))) h
  refine lv_iconst (v := 1) hx hb d_Num_isBelow_14 (by decide) ?_
  refine lv_goto (tgt := 19) hx hb d_Num_isBelow_15 (by decide) ?_
  exact me_pretz h (by decide) hx hb hr hlocks hK hS d_Num_isBelow_19
