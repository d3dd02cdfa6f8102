theorem d_Code_fieldNumber_0 : decode prog_4_method_8_code 0 = .ok (.aload_n 0, 1) := by decide +kernel
theorem d_Code_fieldNumber_1 : decode prog_4_method_8_code 1 = .ok (.getfield 58, 3) := by decide +kernel
theorem d_Code_fieldNumber_4 : decode prog_4_method_8_code 4 = .ok (.bipush 14, 2) := by decide +kernel
theorem d_Code_fieldNumber_6 : decode prog_4_method_8_code 6 = .ok (.if_icmp .eq 12, 3) := by decide +kernel
theorem d_Code_fieldNumber_18 : decode prog_4_method_8_code 18 = .ok (.aload_n 0, 1) := by decide +kernel
theorem d_Code_fieldNumber_19 : decode prog_4_method_8_code 19 = .ok (.getfield 41, 3) := by decide +kernel
theorem d_Code_fieldNumber_22 : decode prog_4_method_8_code 22 = .ok (.bipush 8, 2) := by decide +kernel
theorem d_Code_fieldNumber_24 : decode prog_4_method_8_code 24 = .ok (.idiv, 1) := by decide +kernel
theorem d_Code_fieldNumber_25 : decode prog_4_method_8_code 25 = .ok (.i2l, 1) := by decide +kernel
theorem d_Code_fieldNumber_26 : decode prog_4_method_8_code 26 = .ok (.goto 8, 3) := by decide +kernel
theorem d_Code_fieldNumber_34 : decode prog_4_method_8_code 34 = .ok (.lreturn, 1) := by decide +kernel
theorem d_Code_fieldNumber_9 : decode prog_4_method_8_code 9 = .ok (.aload_n 0, 1) := by decide +kernel
theorem d_Code_fieldNumber_10 : decode prog_4_method_8_code 10 = .ok (.getfield 58, 3) := by decide +kernel
theorem d_Code_fieldNumber_13 : decode prog_4_method_8_code 13 = .ok (.bipush 13, 2) := by decide +kernel
theorem d_Code_fieldNumber_15 : decode prog_4_method_8_code 15 = .ok (.if_icmp .ne 14, 3) := by decide +kernel
theorem d_Code_fieldNumber_29 : decode prog_4_method_8_code 29 = .ok (.aload_n 0, 1) := by decide +kernel
theorem d_Code_fieldNumber_30 : decode prog_4_method_8_code 30 = .ok (.getfield 41, 3) := by decide +kernel
theorem d_Code_fieldNumber_33 : decode prog_4_method_8_code 33 = .ok (.i2l, 1) := by decide +kernel
abbrev y_Code_fieldNumber : MethodName := ⟨"FilterGuard$Code", "fieldNumber", "()J"⟩
def rm_Code_fieldNumber : Room := { frames := 1, cells := 0, slots := 0, locals := 20 }
abbrev q_Code_fieldNumber (D : va_G) (ad : Nat → Nat → Nat) (ca : Nat → ClassId) (N : Nat → Nat) (M0 MZ : me_M) (RZ : Int64) (A : Nat → Prop) : Array Value → Jvm.State → Outcome → Jvm.State → Prop := va_Ql (fun r (_ : Unit) => r = RZ ∧ me_wf N MZ ∧ me_kp M0 MZ) (fg_B D A (fun _ => me_W ad ca MZ) (fun _ => [])) A
set_option maxHeartbeats 4000000 in
set_option maxRecDepth 100000 in
theorem c_Code_fieldNumber (l : Launch) (D : va_G) (ad : Nat → Nat → Nat) (ca : Nat → ClassId) (N : Nat → Nat) (M0 MZ : me_M) (RZ : Int64) (j0 : Nat) (h : f_Code_fieldNumber M0 j0 = (some (MZ, RZ))) (hwf : me_wf N M0) (hj0 : j0 < N 2) (sz : Nat) : Met l y_Code_fieldNumber (fg_w y_Code_fieldNumber prog_4_method_8_code 1 (some .long)) rm_Code_fieldNumber (va_Pc [.ref (ad 2 j0)] (fz_P D (me_T ca) (me_W ad ca M0) sz)) (q_Code_fieldNumber D ad ca N M0 MZ RZ (va_A (me_W ad ca M0) sz)) rm_Code_fieldNumber.cells rm_Code_fieldNumber.slots (va_A (me_W ad ca M0) sz) := by
  refine fz_enter (fun A => q_Code_fieldNumber D ad ca N M0 MZ RZ A) (by decide +kernel) (Nat.le_of_ble_eq_true rfl) ?_
  intro p e s m below meth c ls A hx hb hml hown hts hr hlocks hin hP hK hD hS hA hX hl hz
  have hl : lv_has ls 1 [(0, .ref (ad 2 j0))] := hl
  unfold f_Code_fieldNumber at h
  have hkp : me_kp M0 M0 := me_kp.rf
  have hkb := hkp
  refine lv_aload_n hx hb d_Code_fieldNumber_0 rfl (lv_at hl 0 rfl) ?_
  refine g_Code_12 hx hb hts hown hK hP hwf hj0 (hts _ u_261) d_Code_fieldNumber_1 ?_
  refine lv_bipush (v := 14) hx hb d_Code_fieldNumber_4 (by decide) ?_
  refine lv_icmp_eq (tgt := 18) hx hb d_Code_fieldNumber_6 (by decide) (fun c1 => ?_) (fun c1 => ?_)
  · have h := if_t c1 h
    refine lv_aload_n hx hb d_Code_fieldNumber_18 rfl (lv_at hl 0 rfl) ?_
    refine g_Code_9 hx hb hts hown hK hP hwf hj0 (hts _ u_247) d_Code_fieldNumber_19 ?_
    refine lv_bipush (v := 8) hx hb d_Code_fieldNumber_22 (by decide) ?_
    refine lv_idiv hx hb d_Code_fieldNumber_24 (by decide) ?_
    refine lv_i2l (v := ((mI M0 2 j0 9) / 8).toInt64) hx hb d_Code_fieldNumber_25 rfl ?_
    refine lv_goto (tgt := 34) hx hb d_Code_fieldNumber_26 (by decide) ?_
    exact me_retl (me_kp M0) h hx hb hr hlocks hwf hkp hP hK hD hS d_Code_fieldNumber_34
  have h := if_f c1 h
  refine lv_aload_n hx hb d_Code_fieldNumber_9 rfl (lv_at hl 0 rfl) ?_
  refine g_Code_12 hx hb hts hown hK hP hwf hj0 (hts _ u_261) d_Code_fieldNumber_10 ?_
  refine lv_bipush (v := 13) hx hb d_Code_fieldNumber_13 (by decide) ?_
  refine lv_icmp_ne (tgt := 29) hx hb d_Code_fieldNumber_15 (by decide) (fun c2 => ?_) (fun c2 => ?_)
  · have h := if_f c2 h
    refine lv_aload_n hx hb d_Code_fieldNumber_29 rfl (lv_at hl 0 rfl) ?_
    refine g_Code_9 hx hb hts hown hK hP hwf hj0 (hts _ u_247) d_Code_fieldNumber_30 ?_
    refine lv_i2l (v := (mI M0 2 j0 9).toInt64) hx hb d_Code_fieldNumber_33 rfl ?_
    exact me_retl (me_kp M0) h hx hb hr hlocks hwf hkp hP hK hD hS d_Code_fieldNumber_34
  have h := if_t c2 h
  refine lv_aload_n hx hb d_Code_fieldNumber_18 rfl (lv_at hl 0 rfl) ?_
  refine g_Code_9 hx hb hts hown hK hP hwf hj0 (hts _ u_247) d_Code_fieldNumber_19 ?_
  refine lv_bipush (v := 8) hx hb d_Code_fieldNumber_22 (by decide) ?_
  refine lv_idiv hx hb d_Code_fieldNumber_24 (by decide) ?_
  refine lv_i2l (v := ((mI M0 2 j0 9) / 8).toInt64) hx hb d_Code_fieldNumber_25 rfl ?_
  refine lv_goto (tgt := 34) hx hb d_Code_fieldNumber_26 (by decide) ?_
  exact me_retl (me_kp M0) h hx hb hr hlocks hwf hkp hP hK hD hS d_Code_fieldNumber_34
theorem d_Steps_operand_0 : decode prog_11_method_5_code 0 = .ok (.aload_n 0, 1) := by decide +kernel
theorem d_Steps_operand_1 : decode prog_11_method_5_code 1 = .ok (.getfield 44, 3) := by decide +kernel
theorem d_Steps_operand_4 : decode prog_11_method_5_code 4 = .ok (.getfield 79, 3) := by decide +kernel
theorem u_272 : Cond.fieldLink "FilterGuard$Steps" 79 "FilterGuard$Code" "readsFrom" "Z" ∈ fg_g := fg_in (List.mem_of_getElem? (i := 272) (by decide +kernel)) rfl
theorem d_Steps_operand_7 : decode prog_11_method_5_code 7 = .ok (.ifCond .eq 16, 3) := by decide +kernel
theorem d_Steps_operand_23 : decode prog_11_method_5_code 23 = .ok (.aload_n 0, 1) := by decide +kernel
theorem d_Steps_operand_24 : decode prog_11_method_5_code 24 = .ok (.getfield 21, 3) := by decide +kernel
theorem g_Steps_3 {p : Program} {l : Launch} {e : Env} {R : Room} {s : Jvm.State} {m : MethodId} {args : Array Value} {below : List Frame} {meth : Method} {c : Code} {H : Heap} {locs : List Loc} {cells slots : Nat} {Q : Jvm.State → Prop} {cc : ByteArray} {pc : Nat} {ls : Array Slot} {rest : List Value} {D : va_G} {ad : Nat → Nat → Nat} {ca : Nat → ClassId} {M : me_M} {N : Nat → Nat} {own : String} {index j : Nat} (hexec : p.tables.exec = Jvm.exec) (hb : c.code = cc) (hts : ∀ w ∈ fg_g, w.before args s = true) (hown : s.vm.findClass own = some m.cls) (hK : va_K D classes (me_T ca) s) (hP : va_P D classes (me_W ad ca M) H) (hwf : me_wf N M) (hj : j < N 7) (hlink : (Cond.fieldLink own index "FilterGuard$Steps" "fieldCell" "LFilterGuard$Cell;").before args s = true) (hdg : decode cc pc = .ok (.getfield index, 3)) (kk : W p l e R s m args below meth c H locs cells slots Q (F0 m (pc + 3) ls (va_rf ((mR M 7 j 3).map (ad 10)) :: rest))) : W p l e R s m args below meth c H locs cells slots Q (F0 m pc ls (.ref (ad 7 j) :: rest)) := me_get (k := 7) (f := 3) (C := "FilterGuard$Steps") (T := F_Steps) (Nf := 19) hexec hb hts i_Steps hown hK hP hwf hj (by decide) rfl (by decide) (by decide) hlink (fun _ h9 => h9) hdg kk
theorem d_Steps_operand_27 : decode prog_11_method_5_code 27 = .ok (.aload_n 0, 1) := by decide +kernel
theorem d_Steps_operand_28 : decode prog_11_method_5_code 28 = .ok (.getfield 44, 3) := by decide +kernel
theorem d_Steps_operand_31 : decode prog_11_method_5_code 31 = .ok (.invokevirtual 125, 3) := by decide +kernel
theorem u_1117 : Cond.methodLink "FilterGuard$Steps" 125 ⟨"FilterGuard$Code", "fieldNumber", "()J"⟩ ∈ fg_g := fg_in (List.mem_of_getElem? (i := 1117) (by decide +kernel)) rfl
theorem u_1120 : Cond.code ⟨"FilterGuard$Code", "fieldNumber", "()J"⟩ prog_4_method_8_code 1 (some .long) ∈ fg_g := fg_in (List.mem_of_getElem? (i := 1120) (by decide +kernel)) rfl
theorem u_1118 : Cond.instanceMethod ⟨"FilterGuard$Code", "fieldNumber", "()J"⟩ ∈ fg_g := fg_in (List.mem_of_getElem? (i := 1118) (by decide +kernel)) rfl
theorem u_1119 : Cond.selects "FilterGuard$Code" ⟨"FilterGuard$Code", "fieldNumber", "()J"⟩ ⟨"FilterGuard$Code", "fieldNumber", "()J"⟩ ∈ fg_g := fg_in (List.mem_of_getElem? (i := 1119) (by decide +kernel)) rfl
theorem d_Steps_operand_34 : decode prog_11_method_5_code 34 = .ok (.invokevirtual 111, 3) := by decide +kernel
theorem d_Steps_operand_37 : decode prog_11_method_5_code 37 = .ok (.aload_n 0, 1) := by decide +kernel
theorem d_Steps_operand_38 : decode prog_11_method_5_code 38 = .ok (.getfield 21, 3) := by decide +kernel
theorem d_Steps_operand_41 : decode prog_11_method_5_code 41 = .ok (.areturn, 1) := by decide +kernel
theorem d_Steps_operand_10 : decode prog_11_method_5_code 10 = .ok (.aload_n 0, 1) := by decide +kernel
theorem d_Steps_operand_11 : decode prog_11_method_5_code 11 = .ok (.getfield 66, 3) := by decide +kernel
theorem d_Steps_operand_14 : decode prog_11_method_5_code 14 = .ok (.aload_n 0, 1) := by decide +kernel
theorem d_Steps_operand_15 : decode prog_11_method_5_code 15 = .ok (.getfield 44, 3) := by decide +kernel
theorem d_Steps_operand_18 : decode prog_11_method_5_code 18 = .ok (.getfield 82, 3) := by decide +kernel
theorem d_Steps_operand_21 : decode prog_11_method_5_code 21 = .ok (.aaload, 1) := by decide +kernel
theorem d_Steps_operand_22 : decode prog_11_method_5_code 22 = .ok (.areturn, 1) := by decide +kernel
abbrev y_Steps_operand : MethodName := ⟨"FilterGuard$Steps", "operand", "()LFilterGuard$Cell;"⟩
def rm_Steps_operand : Room := { frames := 3, cells := 0, slots := 0, locals := 64 }
abbrev q_Steps_operand (D : va_G) (ad : Nat → Nat → Nat) (ca : Nat → ClassId) (N : Nat → Nat) (M0 MZ : me_M) (RZ : Nat) (A : Nat → Prop) : Array Value → Jvm.State → Outcome → Jvm.State → Prop := va_Qq (fun r (_ : Unit) => r = some (ad 10 RZ) ∧ me_wf N MZ ∧ me_kp M0 MZ ∧ RZ < N 10) (fg_B D A (fun _ => me_W ad ca MZ) (fun _ => [])) A
set_option maxHeartbeats 4000000 in
set_option maxRecDepth 100000 in
theorem c_Steps_operand (l : Launch) (D : va_G) (ad : Nat → Nat → Nat) (ca : Nat → ClassId) (N : Nat → Nat) (M0 MZ : me_M) (RZ : Nat) (j0 : Nat) (h : f_Steps_operand M0 j0 = (some (MZ, RZ))) (hwf : me_wf N M0) (hj0 : j0 < N 7) (sz : Nat) : Met l y_Steps_operand (fg_w y_Steps_operand prog_11_method_5_code 1 (some (.object "FilterGuard$Cell"))) rm_Steps_operand (va_Pc [.ref (ad 7 j0)] (fz_P D (me_T ca) (me_W ad ca M0) sz)) (q_Steps_operand D ad ca N M0 MZ RZ (va_A (me_W ad ca M0) sz)) rm_Steps_operand.cells rm_Steps_operand.slots (va_A (me_W ad ca M0) sz) := by
  refine fz_enter (fun A => q_Steps_operand D ad ca N M0 MZ RZ A) (by decide +kernel) (Nat.le_of_ble_eq_true rfl) ?_
  intro p e s m below meth c ls A hx hb hml hown hts hr hlocks hin hP hK hD hS hA hX hl hz
  have hl : lv_has ls 1 [(0, .ref (ad 7 j0))] := hl
  unfold f_Steps_operand at h
  have hkp : me_kp M0 M0 := me_kp.rf
  have hkb := hkp
  refine lv_aload_n hx hb d_Steps_operand_0 rfl (lv_at hl 0 rfl) ?_
  refine g_Steps_0 hx hb hts hown hK hP hwf hj0 (hts _ u_455) d_Steps_operand_1 ?_
  obtain ⟨j1, e2, h⟩ := bd_ob h
  have hj1 : j1 < N 2 := (hwf.2.1 7 j0 0 _ e2 (by decide) hj0)
  refine me_opt (j := j1) e2 ?_
  refine g_Code_15 hx hb hts hown hK hP hwf hj1 (hts _ u_272) d_Steps_operand_4 ?_
  have z3 := (hwf.2.2.2 2 j1 15 rfl)
  refine lv_if_eq (tgt := 23) hx hb d_Steps_operand_7 (by decide) (fun c4 => ?_) (fun c4 => ?_)
  · have h := if_t c4 h
    refine lv_aload_n hx hb d_Steps_operand_23 rfl (lv_at hl 0 rfl) ?_
    refine g_Steps_3 hx hb hts hown hK hP hwf hj0 (hts _ u_458) d_Steps_operand_24 ?_
    obtain ⟨j5, e6, h⟩ := bd_ob h
    have hj5 : j5 < N 10 := (hwf.2.1 7 j0 3 _ e6 (by decide) hj0)
    refine me_opt (j := j5) e6 ?_
    refine lv_aload_n hx hb d_Steps_operand_27 rfl (lv_at hl 0 rfl) ?_
    refine g_Steps_0 hx hb hts hown hK hP hwf hj0 (hts _ u_455) d_Steps_operand_28 ?_
    refine me_opt (j := j1) e2 ?_
    obtain ⟨M7, r8, eM7, h⟩ := b2_ob h
    refine me_thenl0 (M1 := M7) (me_runV (C := "FilterGuard$Code") (As := []) (rest := [.ref (ad 10 j5)]) ⟨hx, hb, hml, hown, hts⟩ (c_Code_fieldNumber l D ad ca N M0 M7 r8 j1 eM7 hwf hj1 _) rfl (by show fg_nm y_Code_fieldNumber 0; decide +kernel) u_1117 u_1118 u_1119 u_182 u_1120 ⟨Nat.le_of_ble_eq_true rfl, Nat.le_of_ble_eq_true rfl⟩ hX hz hK hP hD hwf hS hA hj1 (by decide) rfl rfl rfl hl.1 (Nat.le_of_ble_eq_true rfl) d_Steps_operand_31 ⟨Nat.le_of_ble_eq_true rfl, Nat.le_of_ble_eq_true rfl⟩) hP hD hK hS hA rfl rfl (fun H locs hw hP hD hS => ?_)
    obtain ⟨hwf, hk9⟩ := hw
    have hkp := hkp.tr hk9
    obtain ⟨M9, eM9, h⟩ := bd_ob h
    refine me_thenv0 (M1 := M9) (me_runV (C := "FilterGuard$Cell") (As := [.long r8]) (rest := []) ⟨hx, hb, hml, hown, hts⟩ (c_Cell_becomeExact l D ad ca N M7 M9 j5 r8 eM9 hwf hj5 _) rfl (by show fg_nm y_Cell_becomeExact 1; decide +kernel) u_1104 u_1105 u_1106 u_188 u_1107 ⟨Nat.le_of_ble_eq_true rfl, Nat.le_of_ble_eq_true rfl⟩ hX hz hK hP hD hwf hS hA hj5 (by decide) rfl rfl rfl hl.1 (Nat.le_of_ble_eq_true rfl) d_Steps_operand_34 ⟨Nat.le_of_ble_eq_true rfl, Nat.le_of_ble_eq_true rfl⟩) hP hD hK hS hA rfl rfl (fun H locs hw hP hD hS => ?_)
    obtain ⟨hwf, hk9⟩ := hw
    have hkp := hkp.tr hk9
    refine lv_aload_n hx hb d_Steps_operand_37 rfl (lv_at hl 0 rfl) ?_
    refine g_Steps_3 hx hb hts hown hK hP hwf hj0 (hts _ u_458) d_Steps_operand_38 ?_
    refine me_opt (j := j5) (kp_r hkb hkp e6) ?_
    exact me_retr (me_kp M0) h hj5 hx hb hr hlocks hwf hkp hP hK hD hS d_Steps_operand_41
  have h := if_f c4 h
  refine lv_aload_n hx hb d_Steps_operand_10 rfl (lv_at hl 0 rfl) ?_
  refine g_Steps_5 hx hb hts hown hK hP hwf hj0 (hts _ u_460) d_Steps_operand_11 ?_
  obtain ⟨j10, e11, h⟩ := bd_ob h
  have hj10 : j10 < N 18 := (hwf.2.1 7 j0 5 _ e11 (by decide) hj0)
  refine me_opt (j := j10) e11 ?_
  refine lv_aload_n hx hb d_Steps_operand_14 rfl (lv_at hl 0 rfl) ?_
  refine g_Steps_0 hx hb hts hown hK hP hwf hj0 (hts _ u_455) d_Steps_operand_15 ?_
  refine me_opt (j := j1) e2 ?_
  refine g_Code_7 hx hb hts hown hK hP hwf hj1 (hts _ u_239) d_Steps_operand_18 ?_
  obtain ⟨g12, h⟩ := gd_ob h
  refine me_aald (k := 18) (t := 10) hx hb hK hP hwf hj10 (by decide) (by decide) rfl (fun _ => rfl) g12 d_Steps_operand_21 ?_
  obtain ⟨j13, e14, h⟩ := bd_ob h
  have hj13 : j13 < N 10 := (hwf.2.1 18 j10 ((mI M0 2 j1 7).toNatClampNeg) _ e14 (by decide) hj10)
  refine me_opt (j := j13) e14 ?_
  exact me_retr (me_kp M0) h hj13 hx hb hr hlocks hwf hkp hP hK hD hS d_Steps_operand_22
theorem d_Num_any_0 : decode prog_8_method_3_code 0 = .ok (.aload_n 0, 1) := by decide +kernel
theorem d_Num_any_1 : decode prog_8_method_3_code 1 = .ok (.lconst 0, 1) := by decide +kernel
theorem d_Num_any_2 : decode prog_8_method_3_code 2 = .ok (.putfield 9, 3) := by decide +kernel
theorem d_Num_any_5 : decode prog_8_method_3_code 5 = .ok (.aload_n 0, 1) := by decide +kernel
theorem d_Num_any_6 : decode prog_8_method_3_code 6 = .ok (.ldc2_w 30, 3) := by decide +kernel
theorem d_Num_any_9 : decode prog_8_method_3_code 9 = .ok (.putfield 15, 3) := by decide +kernel
theorem d_Num_any_12 : decode prog_8_method_3_code 12 = .ok (.aload_n 0, 1) := by decide +kernel
theorem d_Num_any_13 : decode prog_8_method_3_code 13 = .ok (.lconst 0, 1) := by decide +kernel
theorem d_Num_any_14 : decode prog_8_method_3_code 14 = .ok (.putfield 18, 3) := by decide +kernel
theorem d_Num_any_17 : decode prog_8_method_3_code 17 = .ok (.aload_n 0, 1) := by decide +kernel
theorem d_Num_any_18 : decode prog_8_method_3_code 18 = .ok (.ldc2_w 30, 3) := by decide +kernel
theorem d_Num_any_21 : decode prog_8_method_3_code 21 = .ok (.putfield 21, 3) := by decide +kernel
theorem d_Num_any_24 : decode prog_8_method_3_code 24 = .ok (.aload_n 0, 1) := by decide +kernel
theorem d_Num_any_25 : decode prog_8_method_3_code 25 = .ok (.ldc2_w 32, 3) := by decide +kernel
theorem d_Num_any_28 : decode prog_8_method_3_code 28 = .ok (.putfield 24, 3) := by decide +kernel
theorem d_Num_any_31 : decode prog_8_method_3_code 31 = .ok (.aload_n 0, 1) := by decide +kernel
theorem d_Num_any_32 : decode prog_8_method_3_code 32 = .ok (.ldc2_w 34, 3) := by decide +kernel
theorem u_1134 : Cond.constantLong "FilterGuard$Num" 34 9223372036854775807 ∈ fg_g := fg_in (List.mem_of_getElem? (i := 1134) (by decide +kernel)) rfl
theorem d_Num_any_35 : decode prog_8_method_3_code 35 = .ok (.putfield 27, 3) := by decide +kernel
theorem d_Num_any_38 : decode prog_8_method_3_code 38 = .ok (.return_, 1) := by decide +kernel
abbrev y_Num_any : MethodName := ⟨"FilterGuard$Num", "any", "()V"⟩
def rm_Num_any : Room := { frames := 1, cells := 0, slots := 0, locals := 20 }
abbrev q_Num_any (D : va_G) (ad : Nat → Nat → Nat) (ca : Nat → ClassId) (N : Nat → Nat) (M0 MZ : me_M) (A : Nat → Prop) : Array Value → Jvm.State → Outcome → Jvm.State → Prop := va_Qv (fun (_ : Unit) => me_wf N MZ ∧ me_kp M0 MZ) (fg_B D A (fun _ => me_W ad ca MZ) (fun _ => [])) A
set_option maxHeartbeats 4000000 in
set_option maxRecDepth 100000 in
theorem c_Num_any (l : Launch) (D : va_G) (ad : Nat → Nat → Nat) (ca : Nat → ClassId) (N : Nat → Nat) (M0 MZ : me_M) (j0 : Nat) (h : f_Num_any M0 j0 = (some MZ)) (hwf : me_wf N M0) (hj0 : j0 < N 11) (sz : Nat) : Met l y_Num_any (fg_w y_Num_any prog_8_method_3_code 1 none) rm_Num_any (va_Pc [.ref (ad 11 j0)] (fz_P D (me_T ca) (me_W ad ca M0) sz)) (q_Num_any D ad ca N M0 MZ (va_A (me_W ad ca M0) sz)) rm_Num_any.cells rm_Num_any.slots (va_A (me_W ad ca M0) sz) := by
  refine fz_enter (fun A => q_Num_any D ad ca N M0 MZ A) (by decide +kernel) (Nat.le_of_ble_eq_true rfl) ?_
  intro p e s m below meth c ls A hx hb hml hown hts hr hlocks hin hP hK hD hS hA hX hl hz
  have hl : lv_has ls 1 [(0, .ref (ad 11 j0))] := hl
  unfold f_Num_any at h
  have hkp : me_kp M0 M0 := me_kp.rf
  have hkb := hkp
  refine lv_aload_n hx hb d_Num_any_0 rfl (lv_at hl 0 rfl) ?_
  refine lv_lconst (v := 0) hx hb d_Num_any_1 (by decide) ?_
  obtain ⟨M1, eM1, h⟩ := st_ob h
  refine p_Num_0 eM1 hx hb hts hown hK hP hD hwf hS hj0 (hts _ u_367) d_Num_any_2 (fun H locs hP hD hwf hS => ?_)
  have hkp := kp_L eM1 hkp
  refine lv_aload_n hx hb d_Num_any_5 rfl (lv_at hl 0 rfl) ?_
  refine lv_ldc2 hx hb hown (hts _ u_1061) d_Num_any_6 ?_
  obtain ⟨M2, eM2, h⟩ := st_ob h
  refine p_Num_1 eM2 hx hb hts hown hK hP hD hwf hS hj0 (hts _ u_371) d_Num_any_9 (fun H locs hP hD hwf hS => ?_)
  have hkp := kp_L eM2 hkp
  refine lv_aload_n hx hb d_Num_any_12 rfl (lv_at hl 0 rfl) ?_
  refine lv_lconst (v := 0) hx hb d_Num_any_13 (by decide) ?_
  obtain ⟨M3, eM3, h⟩ := st_ob h
  refine p_Num_2 eM3 hx hb hts hown hK hP hD hwf hS hj0 (hts _ u_373) d_Num_any_14 (fun H locs hP hD hwf hS => ?_)
  have hkp := kp_L eM3 hkp
  refine lv_aload_n hx hb d_Num_any_17 rfl (lv_at hl 0 rfl) ?_
  refine lv_ldc2 hx hb hown (hts _ u_1061) d_Num_any_18 ?_
  obtain ⟨M4, eM4, h⟩ := st_ob h
  refine p_Num_3 eM4 hx hb hts hown hK hP hD hwf hS hj0 (hts _ u_376) d_Num_any_21 (fun H locs hP hD hwf hS => ?_)
  have hkp := kp_L eM4 hkp
  refine lv_aload_n hx hb d_Num_any_24 rfl (lv_at hl 0 rfl) ?_
  refine lv_ldc2 hx hb hown (hts _ u_1065) d_Num_any_25 ?_
  obtain ⟨M5, eM5, h⟩ := st_ob h
  refine p_Num_4 eM5 hx hb hts hown hK hP hD hwf hS hj0 (hts _ u_379) d_Num_any_28 (fun H locs hP hD hwf hS => ?_)
  have hkp := kp_L eM5 hkp
  refine lv_aload_n hx hb d_Num_any_31 rfl (lv_at hl 0 rfl) ?_
  refine lv_ldc2 hx hb hown (hts _ u_1134) d_Num_any_32 ?_
  obtain ⟨M6, eM6, h⟩ := st_ob h
  refine p_Num_5 eM6 hx hb hts hown hK hP hD hwf hS hj0 (hts _ u_381) d_Num_any_35 (fun H locs hP hD hwf hS => ?_)
  have hkp := kp_L eM6 hkp
  exact me_retv (me_kp M0) h hx hb hr hlocks hwf hkp hP hK hD hS d_Num_any_38
theorem d_Num_bits_0 : decode prog_8_method_5_code 0 = .ok (.aload_n 0, 1) := by decide +kernel
theorem d_Num_bits_1 : decode prog_8_method_5_code 1 = .ok (.lload_n 1, 1) := by decide +kernel
theorem d_Num_bits_2 : decode prog_8_method_5_code 2 = .ok (.putfield 9, 3) := by decide +kernel
theorem d_Num_bits_5 : decode prog_8_method_5_code 5 = .ok (.aload_n 0, 1) := by decide +kernel
theorem d_Num_bits_6 : decode prog_8_method_5_code 6 = .ok (.lload_n 3, 1) := by decide +kernel
theorem d_Num_bits_7 : decode prog_8_method_5_code 7 = .ok (.putfield 15, 3) := by decide +kernel
theorem d_Num_bits_10 : decode prog_8_method_5_code 10 = .ok (.return_, 1) := by decide +kernel
abbrev y_Num_bits : MethodName := ⟨"FilterGuard$Num", "bits", "(JJ)V"⟩
def rm_Num_bits : Room := { frames := 1, cells := 0, slots := 0, locals := 20 }
abbrev q_Num_bits (D : va_G) (ad : Nat → Nat → Nat) (ca : Nat → ClassId) (N : Nat → Nat) (M0 MZ : me_M) (A : Nat → Prop) : Array Value → Jvm.State → Outcome → Jvm.State → Prop := va_Qv (fun (_ : Unit) => me_wf N MZ ∧ me_kp M0 MZ) (fg_B D A (fun _ => me_W ad ca MZ) (fun _ => [])) A
set_option maxHeartbeats 4000000 in
set_option maxRecDepth 100000 in
theorem c_Num_bits (l : Launch) (D : va_G) (ad : Nat → Nat → Nat) (ca : Nat → ClassId) (N : Nat → Nat) (M0 MZ : me_M) (j0 : Nat) (x1 : Int64) (x3 : Int64) (h : f_Num_bits M0 j0 x1 x3 = (some MZ)) (hwf : me_wf N M0) (hj0 : j0 < N 11) (sz : Nat) : Met l y_Num_bits (fg_w y_Num_bits prog_8_method_5_code 5 none) rm_Num_bits (va_Pc [.ref (ad 11 j0), .long x1, .long x3] (fz_P D (me_T ca) (me_W ad ca M0) sz)) (q_Num_bits D ad ca N M0 MZ (va_A (me_W ad ca M0) sz)) rm_Num_bits.cells rm_Num_bits.slots (va_A (me_W ad ca M0) sz) := by
  refine fz_enter (fun A => q_Num_bits D ad ca N M0 MZ A) (by decide +kernel) (Nat.le_of_ble_eq_true rfl) ?_
  intro p e s m below meth c ls A hx hb hml hown hts hr hlocks hin hP hK hD hS hA hX hl hz
  have hl : lv_has ls 5 [(0, .ref (ad 11 j0)), (1, .long x1), (3, .long x3)] := hl
  unfold f_Num_bits at h
  have hkp : me_kp M0 M0 := me_kp.rf
  have hkb := hkp
  refine lv_aload_n hx hb d_Num_bits_0 rfl (lv_at hl 0 rfl) ?_
  refine lv_lload_n hx hb d_Num_bits_1 rfl (lv_at hl 1 rfl) ?_
  obtain ⟨M1, eM1, h⟩ := st_ob h
  refine p_Num_0 eM1 hx hb hts hown hK hP hD hwf hS hj0 (hts _ u_367) d_Num_bits_2 (fun H locs hP hD hwf hS => ?_)
  have hkp := kp_L eM1 hkp
  refine lv_aload_n hx hb d_Num_bits_5 rfl (lv_at hl 0 rfl) ?_
  refine lv_lload_n hx hb d_Num_bits_6 rfl (lv_at hl 2 rfl) ?_
  obtain ⟨M2, eM2, h⟩ := st_ob h
  refine p_Num_1 eM2 hx hb hts hown hK hP hD hwf hS hj0 (hts _ u_371) d_Num_bits_7 (fun H locs hP hD hwf hS => ?_)
  have hkp := kp_L eM2 hkp
  exact me_retv (me_kp M0) h hx hb hr hlocks hwf hkp hP hK hD hS d_Num_bits_10
theorem d_Num_range_0 : decode prog_8_method_4_code 0 = .ok (.aload_n 0, 1) := by decide +kernel
theorem d_Num_range_1 : decode prog_8_method_4_code 1 = .ok (.lload_n 1, 1) := by decide +kernel
theorem d_Num_range_2 : decode prog_8_method_4_code 2 = .ok (.putfield 18, 3) := by decide +kernel
theorem d_Num_range_5 : decode prog_8_method_4_code 5 = .ok (.aload_n 0, 1) := by decide +kernel
theorem d_Num_range_6 : decode prog_8_method_4_code 6 = .ok (.lload_n 3, 1) := by decide +kernel
theorem d_Num_range_7 : decode prog_8_method_4_code 7 = .ok (.putfield 21, 3) := by decide +kernel
theorem d_Num_range_10 : decode prog_8_method_4_code 10 = .ok (.return_, 1) := by decide +kernel
abbrev y_Num_range : MethodName := ⟨"FilterGuard$Num", "range", "(JJ)V"⟩
def rm_Num_range : Room := { frames := 1, cells := 0, slots := 0, locals := 20 }
abbrev q_Num_range (D : va_G) (ad : Nat → Nat → Nat) (ca : Nat → ClassId) (N : Nat → Nat) (M0 MZ : me_M) (A : Nat → Prop) : Array Value → Jvm.State → Outcome → Jvm.State → Prop := va_Qv (fun (_ : Unit) => me_wf N MZ ∧ me_kp M0 MZ) (fg_B D A (fun _ => me_W ad ca MZ) (fun _ => [])) A
set_option maxHeartbeats 4000000 in
set_option maxRecDepth 100000 in
theorem c_Num_range (l : Launch) (D : va_G) (ad : Nat → Nat → Nat) (ca : Nat → ClassId) (N : Nat → Nat) (M0 MZ : me_M) (j0 : Nat) (x1 : Int64) (x3 : Int64) (h : f_Num_range M0 j0 x1 x3 = (some MZ)) (hwf : me_wf N M0) (hj0 : j0 < N 11) (sz : Nat) : Met l y_Num_range (fg_w y_Num_range prog_8_method_4_code 5 none) rm_Num_range (va_Pc [.ref (ad 11 j0), .long x1, .long x3] (fz_P D (me_T ca) (me_W ad ca M0) sz)) (q_Num_range D ad ca N M0 MZ (va_A (me_W ad ca M0) sz)) rm_Num_range.cells rm_Num_range.slots (va_A (me_W ad ca M0) sz) := by
  refine fz_enter (fun A => q_Num_range D ad ca N M0 MZ A) (by decide +kernel) (Nat.le_of_ble_eq_true rfl) ?_
  intro p e s m below meth c ls A hx hb hml hown hts hr hlocks hin hP hK hD hS hA hX hl hz
  have hl : lv_has ls 5 [(0, .ref (ad 11 j0)), (1, .long x1), (3, .long x3)] := hl
  unfold f_Num_range at h
  have hkp : me_kp M0 M0 := me_kp.rf
  have hkb := hkp
  refine lv_aload_n hx hb d_Num_range_0 rfl (lv_at hl 0 rfl) ?_
  refine lv_lload_n hx hb d_Num_range_1 rfl (lv_at hl 1 rfl) ?_
  obtain ⟨M1, eM1, h⟩ := st_ob h
  refine p_Num_2 eM1 hx hb hts hown hK hP hD hwf hS hj0 (hts _ u_373) d_Num_range_2 (fun H locs hP hD hwf hS => ?_)
  have hkp := kp_L eM1 hkp
  refine lv_aload_n hx hb d_Num_range_5 rfl (lv_at hl 0 rfl) ?_
  refine lv_lload_n hx hb d_Num_range_6 rfl (lv_at hl 2 rfl) ?_
  obtain ⟨M2, eM2, h⟩ := st_ob h
  refine p_Num_3 eM2 hx hb hts hown hK hP hD hwf hS hj0 (hts _ u_376) d_Num_range_7 (fun H locs hP hD hwf hS => ?_)
  have hkp := kp_L eM2 hkp
  exact me_retv (me_kp M0) h hx hb hr hlocks hwf hkp hP hK hD hS d_Num_range_10
theorem d_Reckoner_add_170 : decode prog_9_method_7_code 170 = .ok (.istore 12, 2) := by decide +kernel
theorem d_Reckoner_add_172 : decode prog_9_method_7_code 172 = .ok (.iload 11, 2) := by decide +kernel
theorem d_Reckoner_add_174 : decode prog_9_method_7_code 174 = .ok (.ifCond .ne 26, 3) := by decide +kernel
theorem d_Reckoner_add_200 : decode prog_9_method_7_code 200 = .ok (.return_, 1) := by decide +kernel
theorem d_Reckoner_add_177 : decode prog_9_method_7_code 177 = .ok (.iload 12, 2) := by decide +kernel
theorem d_Reckoner_add_179 : decode prog_9_method_7_code 179 = .ok (.ifCond .ne 21, 3) := by decide +kernel
theorem d_Reckoner_add_182 : decode prog_9_method_7_code 182 = .ok (.aload_n 0, 1) := by decide +kernel
theorem d_Reckoner_add_183 : decode prog_9_method_7_code 183 = .ok (.getfield 21, 3) := by decide +kernel
theorem g_Reckoner_2 {p : Program} {l : Launch} {e : Env} {R : Room} {s : Jvm.State} {m : MethodId} {args : Array Value} {below : List Frame} {meth : Method} {c : Code} {H : Heap} {locs : List Loc} {cells slots : Nat} {Q : Jvm.State → Prop} {cc : ByteArray} {pc : Nat} {ls : Array Slot} {rest : List Value} {D : va_G} {ad : Nat → Nat → Nat} {ca : Nat → ClassId} {M : me_M} {N : Nat → Nat} {own : String} {index j : Nat} (hexec : p.tables.exec = Jvm.exec) (hb : c.code = cc) (hts : ∀ w ∈ fg_g, w.before args s = true) (hown : s.vm.findClass own = some m.cls) (hK : va_K D classes (me_T ca) s) (hP : va_P D classes (me_W ad ca M) H) (hwf : me_wf N M) (hj : j < N 8) (hlink : (Cond.fieldLink own index "FilterGuard$Reckoner" "result" "LFilterGuard$Num;").before args s = true) (hdg : decode cc pc = .ok (.getfield index, 3)) (kk : W p l e R s m args below meth c H locs cells slots Q (F0 m (pc + 3) ls (va_rf ((mR M 8 j 2).map (ad 11)) :: rest))) : W p l e R s m args below meth c H locs cells slots Q (F0 m pc ls (.ref (ad 8 j) :: rest)) := me_get (k := 8) (f := 2) (C := "FilterGuard$Reckoner") (T := F_Reckoner) (Nf := 5) hexec hb hts i_Reckoner hown hK hP hwf hj (by decide) rfl (by decide) (by decide) hlink (fun _ h9 => h9) hdg kk
theorem d_Reckoner_add_186 : decode prog_9_method_7_code 186 = .ok (.lload 7, 2) := by decide +kernel
theorem d_Reckoner_add_188 : decode prog_9_method_7_code 188 = .ok (.putfield 128, 3) := by decide +kernel
theorem u_380 : Cond.fieldLink "FilterGuard$Reckoner" 128 "FilterGuard$Num" "signedLeast" "J" ∈ fg_g := fg_in (List.mem_of_getElem? (i := 380) (by decide +kernel)) rfl
theorem d_Reckoner_add_191 : decode prog_9_method_7_code 191 = .ok (.aload_n 0, 1) := by decide +kernel
theorem d_Reckoner_add_192 : decode prog_9_method_7_code 192 = .ok (.getfield 21, 3) := by decide +kernel
theorem d_Reckoner_add_195 : decode prog_9_method_7_code 195 = .ok (.lload 9, 2) := by decide +kernel
theorem d_Reckoner_add_197 : decode prog_9_method_7_code 197 = .ok (.putfield 131, 3) := by decide +kernel
theorem u_382 : Cond.fieldLink "FilterGuard$Reckoner" 131 "FilterGuard$Num" "signedGreatest" "J" ∈ fg_g := fg_in (List.mem_of_getElem? (i := 382) (by decide +kernel)) rfl
theorem d_Reckoner_add_143 : decode prog_9_method_7_code 143 = .ok (.istore 11, 2) := by decide +kernel
theorem d_Reckoner_add_145 : decode prog_9_method_7_code 145 = .ok (.aload_n 1, 1) := by decide +kernel
theorem d_Reckoner_add_146 : decode prog_9_method_7_code 146 = .ok (.getfield 131, 3) := by decide +kernel
theorem d_Reckoner_add_149 : decode prog_9_method_7_code 149 = .ok (.lload 9, 2) := by decide +kernel
theorem d_Reckoner_add_151 : decode prog_9_method_7_code 151 = .ok (.lxor, 1) := by decide +kernel
theorem d_Reckoner_add_152 : decode prog_9_method_7_code 152 = .ok (.aload_n 2, 1) := by decide +kernel
theorem d_Reckoner_add_153 : decode prog_9_method_7_code 153 = .ok (.getfield 131, 3) := by decide +kernel
theorem d_Reckoner_add_156 : decode prog_9_method_7_code 156 = .ok (.lload 9, 2) := by decide +kernel
theorem d_Reckoner_add_158 : decode prog_9_method_7_code 158 = .ok (.lxor, 1) := by decide +kernel
theorem d_Reckoner_add_159 : decode prog_9_method_7_code 159 = .ok (.land, 1) := by decide +kernel
theorem d_Reckoner_add_160 : decode prog_9_method_7_code 160 = .ok (.lconst 0, 1) := by decide +kernel
theorem d_Reckoner_add_161 : decode prog_9_method_7_code 161 = .ok (.lcmp, 1) := by decide +kernel
theorem d_Reckoner_add_162 : decode prog_9_method_7_code 162 = .ok (.ifCond .ge 7, 3) := by decide +kernel
theorem d_Reckoner_add_169 : decode prog_9_method_7_code 169 = .ok (.iconst 0, 1) := by decide +kernel
theorem d_Reckoner_add_165 : decode prog_9_method_7_code 165 = .ok (.iconst 1, 1) := by decide +kernel
theorem d_Reckoner_add_166 : decode prog_9_method_7_code 166 = .ok (.goto 4, 3) := by decide +kernel
theorem d_Reckoner_add_96 : decode prog_9_method_7_code 96 = .ok (.aload_n 1, 1) := by decide +kernel
theorem d_Reckoner_add_97 : decode prog_9_method_7_code 97 = .ok (.getfield 128, 3) := by decide +kernel
theorem d_Reckoner_add_100 : decode prog_9_method_7_code 100 = .ok (.aload_n 2, 1) := by decide +kernel
theorem d_Reckoner_add_101 : decode prog_9_method_7_code 101 = .ok (.getfield 128, 3) := by decide +kernel
theorem d_Reckoner_add_104 : decode prog_9_method_7_code 104 = .ok (.ladd, 1) := by decide +kernel
theorem d_Reckoner_add_105 : decode prog_9_method_7_code 105 = .ok (.lstore 7, 2) := by decide +kernel
theorem d_Reckoner_add_107 : decode prog_9_method_7_code 107 = .ok (.aload_n 1, 1) := by decide +kernel
theorem d_Reckoner_add_108 : decode prog_9_method_7_code 108 = .ok (.getfield 131, 3) := by decide +kernel
theorem d_Reckoner_add_111 : decode prog_9_method_7_code 111 = .ok (.aload_n 2, 1) := by decide +kernel
theorem d_Reckoner_add_112 : decode prog_9_method_7_code 112 = .ok (.getfield 131, 3) := by decide +kernel
theorem d_Reckoner_add_115 : decode prog_9_method_7_code 115 = .ok (.ladd, 1) := by decide +kernel
theorem d_Reckoner_add_116 : decode prog_9_method_7_code 116 = .ok (.lstore 9, 2) := by decide +kernel
theorem d_Reckoner_add_118 : decode prog_9_method_7_code 118 = .ok (.aload_n 1, 1) := by decide +kernel
theorem d_Reckoner_add_119 : decode prog_9_method_7_code 119 = .ok (.getfield 128, 3) := by decide +kernel
theorem d_Reckoner_add_122 : decode prog_9_method_7_code 122 = .ok (.lload 7, 2) := by decide +kernel
theorem d_Reckoner_add_124 : decode prog_9_method_7_code 124 = .ok (.lxor, 1) := by decide +kernel
theorem d_Reckoner_add_125 : decode prog_9_method_7_code 125 = .ok (.aload_n 2, 1) := by decide +kernel
theorem d_Reckoner_add_126 : decode prog_9_method_7_code 126 = .ok (.getfield 128, 3) := by decide +kernel
theorem d_Reckoner_add_129 : decode prog_9_method_7_code 129 = .ok (.lload 7, 2) := by decide +kernel
theorem d_Reckoner_add_131 : decode prog_9_method_7_code 131 = .ok (.lxor, 1) := by decide +kernel
theorem d_Reckoner_add_132 : decode prog_9_method_7_code 132 = .ok (.land, 1) := by decide +kernel
theorem d_Reckoner_add_133 : decode prog_9_method_7_code 133 = .ok (.lconst 0, 1) := by decide +kernel
theorem d_Reckoner_add_134 : decode prog_9_method_7_code 134 = .ok (.lcmp, 1) := by decide +kernel
theorem d_Reckoner_add_135 : decode prog_9_method_7_code 135 = .ok (.ifCond .ge 7, 3) := by decide +kernel
theorem d_Reckoner_add_142 : decode prog_9_method_7_code 142 = .ok (.iconst 0, 1) := by decide +kernel
theorem d_Reckoner_add_138 : decode prog_9_method_7_code 138 = .ok (.iconst 1, 1) := by decide +kernel
theorem d_Reckoner_add_139 : decode prog_9_method_7_code 139 = .ok (.goto 4, 3) := by decide +kernel
theorem d_Reckoner_add_0 : decode prog_9_method_7_code 0 = .ok (.aload_n 1, 1) := by decide +kernel
theorem d_Reckoner_add_1 : decode prog_9_method_7_code 1 = .ok (.getfield 49, 3) := by decide +kernel
theorem u_368 : Cond.fieldLink "FilterGuard$Reckoner" 49 "FilterGuard$Num" "value" "J" ∈ fg_g := fg_in (List.mem_of_getElem? (i := 368) (by decide +kernel)) rfl
theorem d_Reckoner_add_4 : decode prog_9_method_7_code 4 = .ok (.aload_n 2, 1) := by decide +kernel
theorem d_Reckoner_add_5 : decode prog_9_method_7_code 5 = .ok (.getfield 49, 3) := by decide +kernel
theorem d_Reckoner_add_8 : decode prog_9_method_7_code 8 = .ok (.ladd, 1) := by decide +kernel
theorem d_Reckoner_add_9 : decode prog_9_method_7_code 9 = .ok (.lstore_n 3, 1) := by decide +kernel
theorem d_Reckoner_add_10 : decode prog_9_method_7_code 10 = .ok (.aload_n 1, 1) := by decide +kernel
theorem d_Reckoner_add_11 : decode prog_9_method_7_code 11 = .ok (.getfield 87, 3) := by decide +kernel
theorem u_372 : Cond.fieldLink "FilterGuard$Reckoner" 87 "FilterGuard$Num" "mask" "J" ∈ fg_g := fg_in (List.mem_of_getElem? (i := 372) (by decide +kernel)) rfl
theorem d_Reckoner_add_14 : decode prog_9_method_7_code 14 = .ok (.aload_n 2, 1) := by decide +kernel
theorem d_Reckoner_add_15 : decode prog_9_method_7_code 15 = .ok (.getfield 87, 3) := by decide +kernel
theorem d_Reckoner_add_18 : decode prog_9_method_7_code 18 = .ok (.ladd, 1) := by decide +kernel
theorem d_Reckoner_add_19 : decode prog_9_method_7_code 19 = .ok (.lload_n 3, 1) := by decide +kernel
theorem d_Reckoner_add_20 : decode prog_9_method_7_code 20 = .ok (.ladd, 1) := by decide +kernel
theorem d_Reckoner_add_21 : decode prog_9_method_7_code 21 = .ok (.lload_n 3, 1) := by decide +kernel
theorem d_Reckoner_add_22 : decode prog_9_method_7_code 22 = .ok (.lxor, 1) := by decide +kernel
theorem d_Reckoner_add_23 : decode prog_9_method_7_code 23 = .ok (.aload_n 1, 1) := by decide +kernel
theorem d_Reckoner_add_24 : decode prog_9_method_7_code 24 = .ok (.getfield 87, 3) := by decide +kernel
theorem d_Reckoner_add_27 : decode prog_9_method_7_code 27 = .ok (.lor, 1) := by decide +kernel
theorem d_Reckoner_add_28 : decode prog_9_method_7_code 28 = .ok (.aload_n 2, 1) := by decide +kernel
theorem d_Reckoner_add_29 : decode prog_9_method_7_code 29 = .ok (.getfield 87, 3) := by decide +kernel
theorem d_Reckoner_add_32 : decode prog_9_method_7_code 32 = .ok (.lor, 1) := by decide +kernel
theorem d_Reckoner_add_33 : decode prog_9_method_7_code 33 = .ok (.lstore 5, 2) := by decide +kernel
theorem d_Reckoner_add_35 : decode prog_9_method_7_code 35 = .ok (.aload_n 0, 1) := by decide +kernel
theorem d_Reckoner_add_36 : decode prog_9_method_7_code 36 = .ok (.getfield 21, 3) := by decide +kernel
theorem d_Reckoner_add_39 : decode prog_9_method_7_code 39 = .ok (.lload_n 3, 1) := by decide +kernel
theorem d_Reckoner_add_40 : decode prog_9_method_7_code 40 = .ok (.lload 5, 2) := by decide +kernel
theorem d_Reckoner_add_42 : decode prog_9_method_7_code 42 = .ok (.ldc2_w 90, 3) := by decide +kernel
theorem u_1139 : Cond.constantLong "FilterGuard$Reckoner" 90 (-1) ∈ fg_g := fg_in (List.mem_of_getElem? (i := 1139) (by decide +kernel)) rfl
theorem d_Reckoner_add_45 : decode prog_9_method_7_code 45 = .ok (.lxor, 1) := by decide +kernel
theorem d_Reckoner_add_46 : decode prog_9_method_7_code 46 = .ok (.land, 1) := by decide +kernel
theorem d_Reckoner_add_47 : decode prog_9_method_7_code 47 = .ok (.lload 5, 2) := by decide +kernel
theorem d_Reckoner_add_49 : decode prog_9_method_7_code 49 = .ok (.invokevirtual 92, 3) := by decide +kernel
theorem u_1140 : Cond.methodLink "FilterGuard$Reckoner" 92 ⟨"FilterGuard$Num", "bits", "(JJ)V"⟩ ∈ fg_g := fg_in (List.mem_of_getElem? (i := 1140) (by decide +kernel)) rfl
theorem u_1143 : Cond.code ⟨"FilterGuard$Num", "bits", "(JJ)V"⟩ prog_8_method_5_code 5 none ∈ fg_g := fg_in (List.mem_of_getElem? (i := 1143) (by decide +kernel)) rfl
theorem u_1141 : Cond.instanceMethod ⟨"FilterGuard$Num", "bits", "(JJ)V"⟩ ∈ fg_g := fg_in (List.mem_of_getElem? (i := 1141) (by decide +kernel)) rfl
theorem u_1142 : Cond.selects "FilterGuard$Num" ⟨"FilterGuard$Num", "bits", "(JJ)V"⟩ ⟨"FilterGuard$Num", "bits", "(JJ)V"⟩ ∈ fg_g := fg_in (List.mem_of_getElem? (i := 1142) (by decide +kernel)) rfl
theorem d_Reckoner_add_52 : decode prog_9_method_7_code 52 = .ok (.aload_n 1, 1) := by decide +kernel
theorem d_Reckoner_add_53 : decode prog_9_method_7_code 53 = .ok (.getfield 122, 3) := by decide +kernel
theorem u_377 : Cond.fieldLink "FilterGuard$Reckoner" 122 "FilterGuard$Num" "greatest" "J" ∈ fg_g := fg_in (List.mem_of_getElem? (i := 377) (by decide +kernel)) rfl
theorem d_Reckoner_add_56 : decode prog_9_method_7_code 56 = .ok (.aload_n 2, 1) := by decide +kernel
theorem d_Reckoner_add_57 : decode prog_9_method_7_code 57 = .ok (.getfield 122, 3) := by decide +kernel
theorem d_Reckoner_add_60 : decode prog_9_method_7_code 60 = .ok (.ladd, 1) := by decide +kernel
theorem d_Reckoner_add_61 : decode prog_9_method_7_code 61 = .ok (.aload_n 1, 1) := by decide +kernel
theorem d_Reckoner_add_62 : decode prog_9_method_7_code 62 = .ok (.getfield 122, 3) := by decide +kernel
theorem d_Reckoner_add_65 : decode prog_9_method_7_code 65 = .ok (.invokestatic 134, 3) := by decide +kernel
theorem u_1144 : Cond.methodLink "FilterGuard$Reckoner" 134 ⟨"FilterGuard$Num", "isBelow", "(JJ)Z"⟩ ∈ fg_g := fg_in (List.mem_of_getElem? (i := 1144) (by decide +kernel)) rfl
theorem d_Reckoner_add_68 : decode prog_9_method_7_code 68 = .ok (.ifCond .ne 28, 3) := by decide +kernel
theorem d_Reckoner_add_71 : decode prog_9_method_7_code 71 = .ok (.aload_n 0, 1) := by decide +kernel
theorem d_Reckoner_add_72 : decode prog_9_method_7_code 72 = .ok (.getfield 21, 3) := by decide +kernel
theorem d_Reckoner_add_75 : decode prog_9_method_7_code 75 = .ok (.aload_n 1, 1) := by decide +kernel
theorem d_Reckoner_add_76 : decode prog_9_method_7_code 76 = .ok (.getfield 96, 3) := by decide +kernel
theorem u_374 : Cond.fieldLink "FilterGuard$Reckoner" 96 "FilterGuard$Num" "least" "J" ∈ fg_g := fg_in (List.mem_of_getElem? (i := 374) (by decide +kernel)) rfl
theorem d_Reckoner_add_79 : decode prog_9_method_7_code 79 = .ok (.aload_n 2, 1) := by decide +kernel
theorem d_Reckoner_add_80 : decode prog_9_method_7_code 80 = .ok (.getfield 96, 3) := by decide +kernel
theorem d_Reckoner_add_83 : decode prog_9_method_7_code 83 = .ok (.ladd, 1) := by decide +kernel
theorem d_Reckoner_add_84 : decode prog_9_method_7_code 84 = .ok (.aload_n 1, 1) := by decide +kernel
theorem d_Reckoner_add_85 : decode prog_9_method_7_code 85 = .ok (.getfield 122, 3) := by decide +kernel
theorem d_Reckoner_add_88 : decode prog_9_method_7_code 88 = .ok (.aload_n 2, 1) := by decide +kernel
theorem d_Reckoner_add_89 : decode prog_9_method_7_code 89 = .ok (.getfield 122, 3) := by decide +kernel
theorem d_Reckoner_add_92 : decode prog_9_method_7_code 92 = .ok (.ladd, 1) := by decide +kernel
theorem d_Reckoner_add_93 : decode prog_9_method_7_code 93 = .ok (.invokevirtual 125, 3) := by decide +kernel
theorem u_1145 : Cond.methodLink "FilterGuard$Reckoner" 125 ⟨"FilterGuard$Num", "range", "(JJ)V"⟩ ∈ fg_g := fg_in (List.mem_of_getElem? (i := 1145) (by decide +kernel)) rfl
theorem u_1148 : Cond.code ⟨"FilterGuard$Num", "range", "(JJ)V"⟩ prog_8_method_4_code 5 none ∈ fg_g := fg_in (List.mem_of_getElem? (i := 1148) (by decide +kernel)) rfl
theorem u_1146 : Cond.instanceMethod ⟨"FilterGuard$Num", "range", "(JJ)V"⟩ ∈ fg_g := fg_in (List.mem_of_getElem? (i := 1146) (by decide +kernel)) rfl
theorem u_1147 : Cond.selects "FilterGuard$Num" ⟨"FilterGuard$Num", "range", "(JJ)V"⟩ ⟨"FilterGuard$Num", "range", "(JJ)V"⟩ ∈ fg_g := fg_in (List.mem_of_getElem? (i := 1147) (by decide +kernel)) rfl
abbrev y_Reckoner_add : MethodName := ⟨"FilterGuard$Reckoner", "add", "(LFilterGuard$Num;LFilterGuard$Num;)V"⟩
def rm_Reckoner_add : Room := { frames := 2, cells := 0, slots := 0, locals := 44 }
abbrev q_Reckoner_add (D : va_G) (ad : Nat → Nat → Nat) (ca : Nat → ClassId) (N : Nat → Nat) (M0 MZ : me_M) (A : Nat → Prop) : Array Value → Jvm.State → Outcome → Jvm.State → Prop := va_Qv (fun (_ : Unit) => me_wf N MZ ∧ me_kp M0 MZ) (fg_B D A (fun _ => me_W ad ca MZ) (fun _ => [])) A
set_option maxHeartbeats 4000000 in
set_option maxRecDepth 100000 in
theorem c_Reckoner_add (l : Launch) (D : va_G) (ad : Nat → Nat → Nat) (ca : Nat → ClassId) (N : Nat → Nat) (M0 MZ : me_M) (j0 : Nat) (j1 : Nat) (j2 : Nat) (h : f_Reckoner_add M0 j0 j1 j2 = (some MZ)) (hwf : me_wf N M0) (hj0 : j0 < N 8) (hj1 : j1 < N 11) (hj2 : j2 < N 11) (sz : Nat) : Met l y_Reckoner_add (fg_w y_Reckoner_add prog_9_method_7_code 13 none) rm_Reckoner_add (va_Pc [.ref (ad 8 j0), .ref (ad 11 j1), .ref (ad 11 j2)] (fz_P D (me_T ca) (me_W ad ca M0) sz)) (q_Reckoner_add D ad ca N M0 MZ (va_A (me_W ad ca M0) sz)) rm_Reckoner_add.cells rm_Reckoner_add.slots (va_A (me_W ad ca M0) sz) := by
  refine fz_enter (fun A => q_Reckoner_add D ad ca N M0 MZ A) (by decide +kernel) (Nat.le_of_ble_eq_true rfl) ?_
  intro p e s m below meth c ls A hx hb hml hown hts hr hlocks hin hP hK hD hS hA hX hl hz
  have hl : lv_has ls 13 [(0, .ref (ad 8 j0)), (1, .ref (ad 11 j1)), (2, .ref (ad 11 j2))] := hl
  unfold f_Reckoner_add at h
  have hkp : me_kp M0 M0 := me_kp.rf
  have hkb := hkp
  have b_170 : ∀ (M : me_M) (y7 : Int64) (y9 : Int64) (y11 : Int32) (s0 : Int32) (H : Heap) (locs : List Loc) (ls : Array Slot), f_Reckoner_add_b170 j0 M y7 y9 y11 s0 = (some MZ) → (y11 = 1 ∨ y11 = 0) → (s0 = 1 ∨ s0 = 0) → me_wf N M → me_kp M0 M → va_P D classes (me_W ad ca M) H → va_D A (me_W ad ca M) → va_S A s.heap H locs → lv_has ls 13 [(0, .ref (ad 8 j0)), (7, .long y7), (9, .long y9), (11, .int y11)] → W p l e rm_Reckoner_add s m [.ref (ad 8 j0), .ref (ad 11 j1), .ref (ad 11 j2)].toArray below meth c H locs 0 0 (MQ below (q_Reckoner_add D ad ca N M0 MZ A) [.ref (ad 8 j0), .ref (ad 11 j1), .ref (ad 11 j2)].toArray s rm_Reckoner_add.cells rm_Reckoner_add.slots A) (F0 m 170 ls [.int s0]) := by
    intro M y7 y9 y11 s0 H locs ls h zy11 zs0 hwf hkp hP hD hS hl
    unfold f_Reckoner_add_b170 at h
    have hkb := hkp
    refine lv_istore (lv' := [(12, .int s0), (0, .ref (ad 8 j0)), (7, .long y7), (9, .long y9), (11, .int y11)]) hx hb d_Reckoner_add_170 hl (by decide) rfl (fun ls hl => ?_)
    refine lv_iload hx hb d_Reckoner_add_172 (lv_at hl 4 rfl) ?_
    refine lv_if_ne (tgt := 200) hx hb d_Reckoner_add_174 (by decide) (fun c1 => ?_) (fun c1 => ?_)
    · have h := if_f c1 h
      exact me_retv (me_kp M0) h hx hb hr hlocks hwf hkp hP hK hD hS d_Reckoner_add_200
    have h := if_t c1 h
    refine lv_iload hx hb d_Reckoner_add_177 (lv_at hl 0 rfl) ?_
    refine lv_if_ne (tgt := 200) hx hb d_Reckoner_add_179 (by decide) (fun c2 => ?_) (fun c2 => ?_)
    · have h := if_f c2 h
      exact me_retv (me_kp M0) h hx hb hr hlocks hwf hkp hP hK hD hS d_Reckoner_add_200
    have h := if_t c2 h
    refine lv_aload_n hx hb d_Reckoner_add_182 rfl (lv_at hl 1 rfl) ?_
    refine g_Reckoner_2 hx hb hts hown hK hP hwf hj0 (hts _ u_398) d_Reckoner_add_183 ?_
    obtain ⟨j3, e4, h⟩ := bd_ob h
    have hj3 : j3 < N 11 := (hwf.2.1 8 j0 2 _ e4 (by decide) hj0)
    refine me_opt (j := j3) e4 ?_
    refine lv_lload hx hb d_Reckoner_add_186 (lv_at hl 2 rfl) ?_
    obtain ⟨M5, eM5, h⟩ := st_ob h
    refine p_Num_4 eM5 hx hb hts hown hK hP hD hwf hS hj3 (hts _ u_380) d_Reckoner_add_188 (fun H locs hP hD hwf hS => ?_)
    have hkp := kp_L eM5 hkp
    refine lv_aload_n hx hb d_Reckoner_add_191 rfl (lv_at hl 1 rfl) ?_
    refine g_Reckoner_2 hx hb hts hown hK hP hwf hj0 (hts _ u_398) d_Reckoner_add_192 ?_
    refine me_opt (j := j3) (kp_r hkb hkp e4) ?_
    refine lv_lload hx hb d_Reckoner_add_195 (lv_at hl 3 rfl) ?_
    obtain ⟨M6, eM6, h⟩ := st_ob h
    refine p_Num_5 eM6 hx hb hts hown hK hP hD hwf hS hj3 (hts _ u_382) d_Reckoner_add_197 (fun H locs hP hD hwf hS => ?_)
    have hkp := kp_L eM6 hkp
    exact me_retv (me_kp M0) h hx hb hr hlocks hwf hkp hP hK hD hS d_Reckoner_add_200
  have b_143 : ∀ (M : me_M) (y7 : Int64) (y9 : Int64) (s0 : Int32) (H : Heap) (locs : List Loc) (ls : Array Slot), f_Reckoner_add_b143 j0 j1 j2 M y7 y9 s0 = (some MZ) → (s0 = 1 ∨ s0 = 0) → me_wf N M → me_kp M0 M → va_P D classes (me_W ad ca M) H → va_D A (me_W ad ca M) → va_S A s.heap H locs → lv_has ls 13 [(0, .ref (ad 8 j0)), (1, .ref (ad 11 j1)), (2, .ref (ad 11 j2)), (7, .long y7), (9, .long y9)] → W p l e rm_Reckoner_add s m [.ref (ad 8 j0), .ref (ad 11 j1), .ref (ad 11 j2)].toArray below meth c H locs 0 0 (MQ below (q_Reckoner_add D ad ca N M0 MZ A) [.ref (ad 8 j0), .ref (ad 11 j1), .ref (ad 11 j2)].toArray s rm_Reckoner_add.cells rm_Reckoner_add.slots A) (F0 m 143 ls [.int s0]) := by
    intro M y7 y9 s0 H locs ls h zs0 hwf hkp hP hD hS hl
    unfold f_Reckoner_add_b143 at h
    have hkb := hkp
    refine lv_istore (lv' := [(11, .int s0), (0, .ref (ad 8 j0)), (1, .ref (ad 11 j1)), (2, .ref (ad 11 j2)), (7, .long y7), (9, .long y9)]) hx hb d_Reckoner_add_143 hl (by decide) rfl (fun ls hl => ?_)
    refine lv_aload_n hx hb d_Reckoner_add_145 rfl (lv_at hl 2 rfl) ?_
    refine g_Num_5 hx hb hts hown hK hP hwf hj1 (hts _ u_382) d_Reckoner_add_146 ?_
    refine lv_lload hx hb d_Reckoner_add_149 (lv_at hl 5 rfl) ?_
    refine lv_lxor hx hb d_Reckoner_add_151 ?_
    refine lv_aload_n hx hb d_Reckoner_add_152 rfl (lv_at hl 3 rfl) ?_
    refine g_Num_5 hx hb hts hown hK hP hwf hj2 (hts _ u_382) d_Reckoner_add_153 ?_
    refine lv_lload hx hb d_Reckoner_add_156 (lv_at hl 5 rfl) ?_
    refine lv_lxor hx hb d_Reckoner_add_158 ?_
    refine lv_land hx hb d_Reckoner_add_159 ?_
    refine lv_lconst (v := 0) hx hb d_Reckoner_add_160 (by decide) ?_
    refine W.lcmp hx hb d_Reckoner_add_161 ?_
    refine lv_if_ge (tgt := 169) hx hb d_Reckoner_add_162 (by decide) (fun c7 => ?_) (fun c7 => ?_)
    · have h := if_f (Int64.not_lt.mpr ((lg_cmp_ge _ _).mp c7)) h
      refine lv_iconst (v := 0) hx hb d_Reckoner_add_169 (by decide) ?_
      exact b_170 M y7 y9 s0 (0 : Int32) _ _ _ h zs0 (by decide) hwf hkp hP hD hS (lv_sub hl [1, 4, 5, 0] rfl)
    have h := if_t (Int64.not_le.mp (fun z => c7 ((lg_cmp_ge _ _).mpr z))) h
    refine lv_iconst (v := 1) hx hb d_Reckoner_add_165 (by decide) ?_
    refine lv_goto (tgt := 170) hx hb d_Reckoner_add_166 (by decide) ?_
    exact b_170 M y7 y9 s0 (1 : Int32) _ _ _ h zs0 (by decide) hwf hkp hP hD hS (lv_sub hl [1, 4, 5, 0] rfl)
  have b_96 : ∀ (M : me_M) (H : Heap) (locs : List Loc) (ls : Array Slot), f_Reckoner_add_b96 j0 j1 j2 M = (some MZ) → me_wf N M → me_kp M0 M → va_P D classes (me_W ad ca M) H → va_D A (me_W ad ca M) → va_S A s.heap H locs → lv_has ls 13 [(0, .ref (ad 8 j0)), (1, .ref (ad 11 j1)), (2, .ref (ad 11 j2))] → W p l e rm_Reckoner_add s m [.ref (ad 8 j0), .ref (ad 11 j1), .ref (ad 11 j2)].toArray below meth c H locs 0 0 (MQ below (q_Reckoner_add D ad ca N M0 MZ A) [.ref (ad 8 j0), .ref (ad 11 j1), .ref (ad 11 j2)].toArray s rm_Reckoner_add.cells rm_Reckoner_add.slots A) (F0 m 96 ls []) := by
    intro M H locs ls h hwf hkp hP hD hS hl
    unfold f_Reckoner_add_b96 at h
    have hkb := hkp
    refine lv_aload_n hx hb d_Reckoner_add_96 rfl (lv_at hl 1 rfl) ?_
    refine g_Num_4 hx hb hts hown hK hP hwf hj1 (hts _ u_380) d_Reckoner_add_97 ?_
    refine lv_aload_n hx hb d_Reckoner_add_100 rfl (lv_at hl 2 rfl) ?_
    refine g_Num_4 hx hb hts hown hK hP hwf hj2 (hts _ u_380) d_Reckoner_add_101 ?_
    refine lv_ladd hx hb d_Reckoner_add_104 ?_
    obtain ⟨v8, ev8, h⟩ := st_ob h
    refine fg_topl (y := v8) ev8.symm ?_
    refine lv_lstore (lv' := [(7, .long v8), (0, .ref (ad 8 j0)), (1, .ref (ad 11 j1)), (2, .ref (ad 11 j2))]) hx hb d_Reckoner_add_105 hl (by decide) rfl (fun ls hl => ?_)
    refine lv_aload_n hx hb d_Reckoner_add_107 rfl (lv_at hl 2 rfl) ?_
    refine g_Num_5 hx hb hts hown hK hP hwf hj1 (hts _ u_382) d_Reckoner_add_108 ?_
    refine lv_aload_n hx hb d_Reckoner_add_111 rfl (lv_at hl 3 rfl) ?_
    refine g_Num_5 hx hb hts hown hK hP hwf hj2 (hts _ u_382) d_Reckoner_add_112 ?_
    refine lv_ladd hx hb d_Reckoner_add_115 ?_
    obtain ⟨v9, ev9, h⟩ := st_ob h
    refine fg_topl (y := v9) ev9.symm ?_
    refine lv_lstore (lv' := [(9, .long v9), (7, .long v8), (0, .ref (ad 8 j0)), (1, .ref (ad 11 j1)), (2, .ref (ad 11 j2))]) hx hb d_Reckoner_add_116 hl (by decide) rfl (fun ls hl => ?_)
    refine lv_aload_n hx hb d_Reckoner_add_118 rfl (lv_at hl 3 rfl) ?_
    refine g_Num_4 hx hb hts hown hK hP hwf hj1 (hts _ u_380) d_Reckoner_add_119 ?_
    refine lv_lload hx hb d_Reckoner_add_122 (lv_at hl 1 rfl) ?_
    refine lv_lxor hx hb d_Reckoner_add_124 ?_
    refine lv_aload_n hx hb d_Reckoner_add_125 rfl (lv_at hl 4 rfl) ?_
    refine g_Num_4 hx hb hts hown hK hP hwf hj2 (hts _ u_380) d_Reckoner_add_126 ?_
    refine lv_lload hx hb d_Reckoner_add_129 (lv_at hl 1 rfl) ?_
    refine lv_lxor hx hb d_Reckoner_add_131 ?_
    refine lv_land hx hb d_Reckoner_add_132 ?_
    refine lv_lconst (v := 0) hx hb d_Reckoner_add_133 (by decide) ?_
    refine W.lcmp hx hb d_Reckoner_add_134 ?_
    refine lv_if_ge (tgt := 142) hx hb d_Reckoner_add_135 (by decide) (fun c10 => ?_) (fun c10 => ?_)
    · have h := if_f (Int64.not_lt.mpr ((lg_cmp_ge _ _).mp c10)) h
      refine lv_iconst (v := 0) hx hb d_Reckoner_add_142 (by decide) ?_
      exact b_143 M v8 v9 (0 : Int32) _ _ _ h (by decide) hwf hkp hP hD hS (lv_sub hl [2, 3, 4, 1, 0] rfl)
    have h := if_t (Int64.not_le.mp (fun z => c10 ((lg_cmp_ge _ _).mpr z))) h
    refine lv_iconst (v := 1) hx hb d_Reckoner_add_138 (by decide) ?_
    refine lv_goto (tgt := 143) hx hb d_Reckoner_add_139 (by decide) ?_
    exact b_143 M v8 v9 (1 : Int32) _ _ _ h (by decide) hwf hkp hP hD hS (lv_sub hl [2, 3, 4, 1, 0] rfl)
  refine lv_aload_n hx hb d_Reckoner_add_0 rfl (lv_at hl 1 rfl) ?_
  refine g_Num_0 hx hb hts hown hK hP hwf hj1 (hts _ u_368) d_Reckoner_add_1 ?_
  refine lv_aload_n hx hb d_Reckoner_add_4 rfl (lv_at hl 2 rfl) ?_
  refine g_Num_0 hx hb hts hown hK hP hwf hj2 (hts _ u_368) d_Reckoner_add_5 ?_
  refine lv_ladd hx hb d_Reckoner_add_8 ?_
  obtain ⟨v11, ev11, h⟩ := st_ob h
  refine fg_topl (y := v11) ev11.symm ?_
  refine lv_lstore_n (lv' := [(3, .long v11), (0, .ref (ad 8 j0)), (1, .ref (ad 11 j1)), (2, .ref (ad 11 j2))]) hx hb d_Reckoner_add_9 rfl hl (by decide) rfl (fun ls hl => ?_)
  refine lv_aload_n hx hb d_Reckoner_add_10 rfl (lv_at hl 2 rfl) ?_
  refine g_Num_1 hx hb hts hown hK hP hwf hj1 (hts _ u_372) d_Reckoner_add_11 ?_
  refine lv_aload_n hx hb d_Reckoner_add_14 rfl (lv_at hl 3 rfl) ?_
  refine g_Num_1 hx hb hts hown hK hP hwf hj2 (hts _ u_372) d_Reckoner_add_15 ?_
  refine lv_ladd hx hb d_Reckoner_add_18 ?_
  refine lv_lload_n hx hb d_Reckoner_add_19 rfl (lv_at hl 0 rfl) ?_
  refine lv_ladd hx hb d_Reckoner_add_20 ?_
  refine lv_lload_n hx hb d_Reckoner_add_21 rfl (lv_at hl 0 rfl) ?_
  refine lv_lxor hx hb d_Reckoner_add_22 ?_
  refine lv_aload_n hx hb d_Reckoner_add_23 rfl (lv_at hl 2 rfl) ?_
  refine g_Num_1 hx hb hts hown hK hP hwf hj1 (hts _ u_372) d_Reckoner_add_24 ?_
  refine lv_lor hx hb d_Reckoner_add_27 ?_
  obtain ⟨v12, ev12, h⟩ := st_ob h
  refine fg_topl (y := v12) ev12.symm ?_
  refine lv_aload_n hx hb d_Reckoner_add_28 rfl (lv_at hl 3 rfl) ?_
  refine g_Num_1 hx hb hts hown hK hP hwf hj2 (hts _ u_372) d_Reckoner_add_29 ?_
  refine lv_lor hx hb d_Reckoner_add_32 ?_
  obtain ⟨v13, ev13, h⟩ := st_ob h
  refine fg_topl (y := v13) ev13.symm ?_
  refine lv_lstore (lv' := [(5, .long v13), (3, .long v11), (0, .ref (ad 8 j0)), (1, .ref (ad 11 j1)), (2, .ref (ad 11 j2))]) hx hb d_Reckoner_add_33 hl (by decide) rfl (fun ls hl => ?_)
  refine lv_aload_n hx hb d_Reckoner_add_35 rfl (lv_at hl 2 rfl) ?_
  refine g_Reckoner_2 hx hb hts hown hK hP hwf hj0 (hts _ u_398) d_Reckoner_add_36 ?_
  obtain ⟨j14, e15, h⟩ := bd_ob h
  have hj14 : j14 < N 11 := (hwf.2.1 8 j0 2 _ e15 (by decide) hj0)
  refine me_opt (j := j14) e15 ?_
  refine lv_lload_n hx hb d_Reckoner_add_39 rfl (lv_at hl 1 rfl) ?_
  refine lv_lload hx hb d_Reckoner_add_40 (lv_at hl 0 rfl) ?_
  refine lv_ldc2 hx hb hown (hts _ u_1139) d_Reckoner_add_42 ?_
  refine lv_lxor hx hb d_Reckoner_add_45 ?_
  refine lv_land hx hb d_Reckoner_add_46 ?_
  refine lv_lload hx hb d_Reckoner_add_47 (lv_at hl 0 rfl) ?_
  obtain ⟨M16, eM16, h⟩ := bd_ob h
  refine me_thenv0 (M1 := M16) (me_runV (C := "FilterGuard$Num") (As := [.long (v11 &&& (v13 ^^^ (-1))), .long v13]) (rest := []) ⟨hx, hb, hml, hown, hts⟩ (c_Num_bits l D ad ca N M0 M16 j14 (v11 &&& (v13 ^^^ (-1))) v13 eM16 hwf hj14 _) rfl (by show fg_nm y_Num_bits 2; decide +kernel) u_1140 u_1141 u_1142 u_187 u_1143 ⟨Nat.le_of_ble_eq_true rfl, Nat.le_of_ble_eq_true rfl⟩ hX hz hK hP hD hwf hS hA hj14 (by decide) rfl rfl rfl hl.1 (Nat.le_of_ble_eq_true rfl) d_Reckoner_add_49 ⟨Nat.le_of_ble_eq_true rfl, Nat.le_of_ble_eq_true rfl⟩) hP hD hK hS hA rfl rfl (fun H locs hw hP hD hS => ?_)
  obtain ⟨hwf, hk9⟩ := hw
  have hkp := hkp.tr hk9
  refine lv_aload_n hx hb d_Reckoner_add_52 rfl (lv_at hl 3 rfl) ?_
  refine g_Num_3 hx hb hts hown hK hP hwf hj1 (hts _ u_377) d_Reckoner_add_53 ?_
  refine lv_aload_n hx hb d_Reckoner_add_56 rfl (lv_at hl 4 rfl) ?_
  refine g_Num_3 hx hb hts hown hK hP hwf hj2 (hts _ u_377) d_Reckoner_add_57 ?_
  refine lv_ladd hx hb d_Reckoner_add_60 ?_
  refine lv_aload_n hx hb d_Reckoner_add_61 rfl (lv_at hl 3 rfl) ?_
  refine g_Num_3 hx hb hts hown hK hP hwf hj1 (hts _ u_377) d_Reckoner_add_62 ?_
  obtain ⟨r17, er17, h⟩ := bd_ob h
  refine me_pani' (r0 := r17) (fg_runS (wc := []) (tc := []) (A2 := A) (As := [.long ((mL M16 11 j1 3) + (mL M16 11 j2 3)), .long (mL M16 11 j1 3)]) (rest := []) ⟨hx, hb, hml, hown, hts⟩ (c_Num_isBelow l D r17 ((mL M16 11 j1 3) + (mL M16 11 j2 3)) (mL M16 11 j1 3) er17 _) (by show fg_nm y_Num_isBelow 2; decide +kernel) u_1144 u_1063 u_187 u_1064 ⟨Nat.le_of_ble_eq_true rfl, Nat.le_of_ble_eq_true rfl⟩ hX me_P0 (hK.sub (tys' := []) [] rfl) me_D0 rfl hl.1 (Nat.le_of_ble_eq_true rfl) d_Reckoner_add_65 ⟨Nat.le_of_ble_eq_true rfl, Nat.le_of_ble_eq_true rfl⟩) hP hD hK hS hA rfl rfl (fun H locs hw hP hD hS => ?_)
  have zr17 := hw
  refine lv_if_ne (tgt := 96) hx hb d_Reckoner_add_68 (by decide) (fun c18 => ?_) (fun c18 => ?_)
  · have h := if_f c18 h
    exact b_96 M16 _ _ _ h hwf hkp hP hD hS (lv_sub hl [2, 3, 4] rfl)
  have h := if_t c18 h
  refine lv_aload_n hx hb d_Reckoner_add_71 rfl (lv_at hl 2 rfl) ?_
  refine g_Reckoner_2 hx hb hts hown hK hP hwf hj0 (hts _ u_398) d_Reckoner_add_72 ?_
  refine me_opt (j := j14) (kp_r hkb hkp e15) ?_
  refine lv_aload_n hx hb d_Reckoner_add_75 rfl (lv_at hl 3 rfl) ?_
  refine g_Num_2 hx hb hts hown hK hP hwf hj1 (hts _ u_374) d_Reckoner_add_76 ?_
  refine lv_aload_n hx hb d_Reckoner_add_79 rfl (lv_at hl 4 rfl) ?_
  refine g_Num_2 hx hb hts hown hK hP hwf hj2 (hts _ u_374) d_Reckoner_add_80 ?_
  refine lv_ladd hx hb d_Reckoner_add_83 ?_
  refine lv_aload_n hx hb d_Reckoner_add_84 rfl (lv_at hl 3 rfl) ?_
  refine g_Num_3 hx hb hts hown hK hP hwf hj1 (hts _ u_377) d_Reckoner_add_85 ?_
  refine lv_aload_n hx hb d_Reckoner_add_88 rfl (lv_at hl 4 rfl) ?_
  refine g_Num_3 hx hb hts hown hK hP hwf hj2 (hts _ u_377) d_Reckoner_add_89 ?_
  refine lv_ladd hx hb d_Reckoner_add_92 ?_
  obtain ⟨M19, eM19, h⟩ := bd_ob h
  refine me_thenv0 (M1 := M19) (me_runV (C := "FilterGuard$Num") (As := [.long ((mL M16 11 j1 2) + (mL M16 11 j2 2)), .long ((mL M16 11 j1 3) + (mL M16 11 j2 3))]) (rest := []) ⟨hx, hb, hml, hown, hts⟩ (c_Num_range l D ad ca N M16 M19 j14 ((mL M16 11 j1 2) + (mL M16 11 j2 2)) ((mL M16 11 j1 3) + (mL M16 11 j2 3)) eM19 hwf hj14 _) rfl (by show fg_nm y_Num_range 2; decide +kernel) u_1145 u_1146 u_1147 u_187 u_1148 ⟨Nat.le_of_ble_eq_true rfl, Nat.le_of_ble_eq_true rfl⟩ hX hz hK hP hD hwf hS hA hj14 (by decide) rfl rfl rfl hl.1 (Nat.le_of_ble_eq_true rfl) d_Reckoner_add_93 ⟨Nat.le_of_ble_eq_true rfl, Nat.le_of_ble_eq_true rfl⟩) hP hD hK hS hA rfl rfl (fun H locs hw hP hD hS => ?_)
  obtain ⟨hwf, hk9⟩ := hw
  have hkp := hkp.tr hk9
  exact b_96 M19 _ _ _ h hwf hkp hP hD hS (lv_sub hl [2, 3, 4] rfl)
theorem d_Reckoner_subtract_169 : decode prog_9_method_8_code 169 = .ok (.istore 12, 2) := by decide +kernel
theorem d_Reckoner_subtract_171 : decode prog_9_method_8_code 171 = .ok (.iload 11, 2) := by decide +kernel
theorem d_Reckoner_subtract_173 : decode prog_9_method_8_code 173 = .ok (.ifCond .ne 26, 3) := by decide +kernel
theorem d_Reckoner_subtract_199 : decode prog_9_method_8_code 199 = .ok (.return_, 1) := by decide +kernel
theorem d_Reckoner_subtract_176 : decode prog_9_method_8_code 176 = .ok (.iload 12, 2) := by decide +kernel
theorem d_Reckoner_subtract_178 : decode prog_9_method_8_code 178 = .ok (.ifCond .ne 21, 3) := by decide +kernel
theorem d_Reckoner_subtract_181 : decode prog_9_method_8_code 181 = .ok (.aload_n 0, 1) := by decide +kernel
theorem d_Reckoner_subtract_182 : decode prog_9_method_8_code 182 = .ok (.getfield 21, 3) := by decide +kernel
theorem d_Reckoner_subtract_185 : decode prog_9_method_8_code 185 = .ok (.lload 7, 2) := by decide +kernel
theorem d_Reckoner_subtract_187 : decode prog_9_method_8_code 187 = .ok (.putfield 128, 3) := by decide +kernel
theorem d_Reckoner_subtract_190 : decode prog_9_method_8_code 190 = .ok (.aload_n 0, 1) := by decide +kernel
theorem d_Reckoner_subtract_191 : decode prog_9_method_8_code 191 = .ok (.getfield 21, 3) := by decide +kernel
theorem d_Reckoner_subtract_194 : decode prog_9_method_8_code 194 = .ok (.lload 9, 2) := by decide +kernel
theorem d_Reckoner_subtract_196 : decode prog_9_method_8_code 196 = .ok (.putfield 131, 3) := by decide +kernel
theorem d_Reckoner_subtract_140 : decode prog_9_method_8_code 140 = .ok (.istore 11, 2) := by decide +kernel
theorem d_Reckoner_subtract_142 : decode prog_9_method_8_code 142 = .ok (.aload_n 1, 1) := by decide +kernel
theorem d_Reckoner_subtract_143 : decode prog_9_method_8_code 143 = .ok (.getfield 131, 3) := by decide +kernel
theorem d_Reckoner_subtract_146 : decode prog_9_method_8_code 146 = .ok (.aload_n 2, 1) := by decide +kernel
theorem d_Reckoner_subtract_147 : decode prog_9_method_8_code 147 = .ok (.getfield 128, 3) := by decide +kernel
theorem d_Reckoner_subtract_150 : decode prog_9_method_8_code 150 = .ok (.lxor, 1) := by decide +kernel
theorem d_Reckoner_subtract_151 : decode prog_9_method_8_code 151 = .ok (.aload_n 1, 1) := by decide +kernel
theorem d_Reckoner_subtract_152 : decode prog_9_method_8_code 152 = .ok (.getfield 131, 3) := by decide +kernel
theorem d_Reckoner_subtract_155 : decode prog_9_method_8_code 155 = .ok (.lload 9, 2) := by decide +kernel
theorem d_Reckoner_subtract_157 : decode prog_9_method_8_code 157 = .ok (.lxor, 1) := by decide +kernel
theorem d_Reckoner_subtract_158 : decode prog_9_method_8_code 158 = .ok (.land, 1) := by decide +kernel
theorem d_Reckoner_subtract_159 : decode prog_9_method_8_code 159 = .ok (.lconst 0, 1) := by decide +kernel
theorem d_Reckoner_subtract_160 : decode prog_9_method_8_code 160 = .ok (.lcmp, 1) := by decide +kernel
theorem d_Reckoner_subtract_161 : decode prog_9_method_8_code 161 = .ok (.ifCond .ge 7, 3) := by decide +kernel
theorem d_Reckoner_subtract_168 : decode prog_9_method_8_code 168 = .ok (.iconst 0, 1) := by decide +kernel
theorem d_Reckoner_subtract_164 : decode prog_9_method_8_code 164 = .ok (.iconst 1, 1) := by decide +kernel
theorem d_Reckoner_subtract_165 : decode prog_9_method_8_code 165 = .ok (.goto 4, 3) := by decide +kernel
theorem d_Reckoner_subtract_91 : decode prog_9_method_8_code 91 = .ok (.aload_n 1, 1) := by decide +kernel
theorem d_Reckoner_subtract_92 : decode prog_9_method_8_code 92 = .ok (.getfield 128, 3) := by decide +kernel
theorem d_Reckoner_subtract_95 : decode prog_9_method_8_code 95 = .ok (.aload_n 2, 1) := by decide +kernel
theorem d_Reckoner_subtract_96 : decode prog_9_method_8_code 96 = .ok (.getfield 131, 3) := by decide +kernel
theorem d_Reckoner_subtract_99 : decode prog_9_method_8_code 99 = .ok (.lsub, 1) := by decide +kernel
theorem d_Reckoner_subtract_100 : decode prog_9_method_8_code 100 = .ok (.lstore 7, 2) := by decide +kernel
theorem d_Reckoner_subtract_102 : decode prog_9_method_8_code 102 = .ok (.aload_n 1, 1) := by decide +kernel
theorem d_Reckoner_subtract_103 : decode prog_9_method_8_code 103 = .ok (.getfield 131, 3) := by decide +kernel
theorem d_Reckoner_subtract_106 : decode prog_9_method_8_code 106 = .ok (.aload_n 2, 1) := by decide +kernel
theorem d_Reckoner_subtract_107 : decode prog_9_method_8_code 107 = .ok (.getfield 128, 3) := by decide +kernel
theorem d_Reckoner_subtract_110 : decode prog_9_method_8_code 110 = .ok (.lsub, 1) := by decide +kernel
theorem d_Reckoner_subtract_111 : decode prog_9_method_8_code 111 = .ok (.lstore 9, 2) := by decide +kernel
theorem d_Reckoner_subtract_113 : decode prog_9_method_8_code 113 = .ok (.aload_n 1, 1) := by decide +kernel
theorem d_Reckoner_subtract_114 : decode prog_9_method_8_code 114 = .ok (.getfield 128, 3) := by decide +kernel
theorem d_Reckoner_subtract_117 : decode prog_9_method_8_code 117 = .ok (.aload_n 2, 1) := by decide +kernel
theorem d_Reckoner_subtract_118 : decode prog_9_method_8_code 118 = .ok (.getfield 131, 3) := by decide +kernel
theorem d_Reckoner_subtract_121 : decode prog_9_method_8_code 121 = .ok (.lxor, 1) := by decide +kernel
theorem d_Reckoner_subtract_122 : decode prog_9_method_8_code 122 = .ok (.aload_n 1, 1) := by decide +kernel
theorem d_Reckoner_subtract_123 : decode prog_9_method_8_code 123 = .ok (.getfield 128, 3) := by decide +kernel
theorem d_Reckoner_subtract_126 : decode prog_9_method_8_code 126 = .ok (.lload 7, 2) := by decide +kernel
theorem d_Reckoner_subtract_128 : decode prog_9_method_8_code 128 = .ok (.lxor, 1) := by decide +kernel
theorem d_Reckoner_subtract_129 : decode prog_9_method_8_code 129 = .ok (.land, 1) := by decide +kernel
theorem d_Reckoner_subtract_130 : decode prog_9_method_8_code 130 = .ok (.lconst 0, 1) := by decide +kernel
theorem d_Reckoner_subtract_131 : decode prog_9_method_8_code 131 = .ok (.lcmp, 1) := by decide +kernel
theorem d_Reckoner_subtract_132 : decode prog_9_method_8_code 132 = .ok (.ifCond .ge 7, 3) := by decide +kernel
theorem d_Reckoner_subtract_139 : decode prog_9_method_8_code 139 = .ok (.iconst 0, 1) := by decide +kernel
theorem d_Reckoner_subtract_135 : decode prog_9_method_8_code 135 = .ok (.iconst 1, 1) := by decide +kernel
theorem d_Reckoner_subtract_136 : decode prog_9_method_8_code 136 = .ok (.goto 4, 3) := by decide +kernel
theorem d_Reckoner_subtract_0 : decode prog_9_method_8_code 0 = .ok (.aload_n 1, 1) := by decide +kernel
theorem d_Reckoner_subtract_1 : decode prog_9_method_8_code 1 = .ok (.getfield 49, 3) := by decide +kernel
theorem d_Reckoner_subtract_4 : decode prog_9_method_8_code 4 = .ok (.aload_n 2, 1) := by decide +kernel
theorem d_Reckoner_subtract_5 : decode prog_9_method_8_code 5 = .ok (.getfield 49, 3) := by decide +kernel
theorem d_Reckoner_subtract_8 : decode prog_9_method_8_code 8 = .ok (.lsub, 1) := by decide +kernel
theorem d_Reckoner_subtract_9 : decode prog_9_method_8_code 9 = .ok (.lstore_n 3, 1) := by decide +kernel
theorem d_Reckoner_subtract_10 : decode prog_9_method_8_code 10 = .ok (.lload_n 3, 1) := by decide +kernel
theorem d_Reckoner_subtract_11 : decode prog_9_method_8_code 11 = .ok (.aload_n 1, 1) := by decide +kernel
theorem d_Reckoner_subtract_12 : decode prog_9_method_8_code 12 = .ok (.getfield 87, 3) := by decide +kernel
theorem d_Reckoner_subtract_15 : decode prog_9_method_8_code 15 = .ok (.ladd, 1) := by decide +kernel
theorem d_Reckoner_subtract_16 : decode prog_9_method_8_code 16 = .ok (.lload_n 3, 1) := by decide +kernel
theorem d_Reckoner_subtract_17 : decode prog_9_method_8_code 17 = .ok (.aload_n 2, 1) := by decide +kernel
theorem d_Reckoner_subtract_18 : decode prog_9_method_8_code 18 = .ok (.getfield 87, 3) := by decide +kernel
theorem d_Reckoner_subtract_21 : decode prog_9_method_8_code 21 = .ok (.lsub, 1) := by decide +kernel
theorem d_Reckoner_subtract_22 : decode prog_9_method_8_code 22 = .ok (.lxor, 1) := by decide +kernel
theorem d_Reckoner_subtract_23 : decode prog_9_method_8_code 23 = .ok (.aload_n 1, 1) := by decide +kernel
theorem d_Reckoner_subtract_24 : decode prog_9_method_8_code 24 = .ok (.getfield 87, 3) := by decide +kernel
theorem d_Reckoner_subtract_27 : decode prog_9_method_8_code 27 = .ok (.lor, 1) := by decide +kernel
theorem d_Reckoner_subtract_28 : decode prog_9_method_8_code 28 = .ok (.aload_n 2, 1) := by decide +kernel
theorem d_Reckoner_subtract_29 : decode prog_9_method_8_code 29 = .ok (.getfield 87, 3) := by decide +kernel
theorem d_Reckoner_subtract_32 : decode prog_9_method_8_code 32 = .ok (.lor, 1) := by decide +kernel
theorem d_Reckoner_subtract_33 : decode prog_9_method_8_code 33 = .ok (.lstore 5, 2) := by decide +kernel
theorem d_Reckoner_subtract_35 : decode prog_9_method_8_code 35 = .ok (.aload_n 0, 1) := by decide +kernel
theorem d_Reckoner_subtract_36 : decode prog_9_method_8_code 36 = .ok (.getfield 21, 3) := by decide +kernel
theorem d_Reckoner_subtract_39 : decode prog_9_method_8_code 39 = .ok (.lload_n 3, 1) := by decide +kernel
theorem d_Reckoner_subtract_40 : decode prog_9_method_8_code 40 = .ok (.lload 5, 2) := by decide +kernel
theorem d_Reckoner_subtract_42 : decode prog_9_method_8_code 42 = .ok (.ldc2_w 90, 3) := by decide +kernel
theorem d_Reckoner_subtract_45 : decode prog_9_method_8_code 45 = .ok (.lxor, 1) := by decide +kernel
theorem d_Reckoner_subtract_46 : decode prog_9_method_8_code 46 = .ok (.land, 1) := by decide +kernel
theorem d_Reckoner_subtract_47 : decode prog_9_method_8_code 47 = .ok (.lload 5, 2) := by decide +kernel
theorem d_Reckoner_subtract_49 : decode prog_9_method_8_code 49 = .ok (.invokevirtual 92, 3) := by decide +kernel
theorem d_Reckoner_subtract_52 : decode prog_9_method_8_code 52 = .ok (.aload_n 1, 1) := by decide +kernel
theorem d_Reckoner_subtract_53 : decode prog_9_method_8_code 53 = .ok (.getfield 96, 3) := by decide +kernel
theorem d_Reckoner_subtract_56 : decode prog_9_method_8_code 56 = .ok (.aload_n 2, 1) := by decide +kernel
theorem d_Reckoner_subtract_57 : decode prog_9_method_8_code 57 = .ok (.getfield 122, 3) := by decide +kernel
theorem d_Reckoner_subtract_60 : decode prog_9_method_8_code 60 = .ok (.invokestatic 134, 3) := by decide +kernel
theorem d_Reckoner_subtract_63 : decode prog_9_method_8_code 63 = .ok (.ifCond .ne 28, 3) := by decide +kernel
theorem d_Reckoner_subtract_66 : decode prog_9_method_8_code 66 = .ok (.aload_n 0, 1) := by decide +kernel
theorem d_Reckoner_subtract_67 : decode prog_9_method_8_code 67 = .ok (.getfield 21, 3) := by decide +kernel
theorem d_Reckoner_subtract_70 : decode prog_9_method_8_code 70 = .ok (.aload_n 1, 1) := by decide +kernel
theorem d_Reckoner_subtract_71 : decode prog_9_method_8_code 71 = .ok (.getfield 96, 3) := by decide +kernel
theorem d_Reckoner_subtract_74 : decode prog_9_method_8_code 74 = .ok (.aload_n 2, 1) := by decide +kernel
theorem d_Reckoner_subtract_75 : decode prog_9_method_8_code 75 = .ok (.getfield 122, 3) := by decide +kernel
theorem d_Reckoner_subtract_78 : decode prog_9_method_8_code 78 = .ok (.lsub, 1) := by decide +kernel
theorem d_Reckoner_subtract_79 : decode prog_9_method_8_code 79 = .ok (.aload_n 1, 1) := by decide +kernel
theorem d_Reckoner_subtract_80 : decode prog_9_method_8_code 80 = .ok (.getfield 122, 3) := by decide +kernel
theorem d_Reckoner_subtract_83 : decode prog_9_method_8_code 83 = .ok (.aload_n 2, 1) := by decide +kernel
theorem d_Reckoner_subtract_84 : decode prog_9_method_8_code 84 = .ok (.getfield 96, 3) := by decide +kernel
theorem d_Reckoner_subtract_87 : decode prog_9_method_8_code 87 = .ok (.lsub, 1) := by decide +kernel
theorem d_Reckoner_subtract_88 : decode prog_9_method_8_code 88 = .ok (.invokevirtual 125, 3) := by decide +kernel
abbrev y_Reckoner_subtract : MethodName := ⟨"FilterGuard$Reckoner", "subtract", "(LFilterGuard$Num;LFilterGuard$Num;)V"⟩
def rm_Reckoner_subtract : Room := { frames := 2, cells := 0, slots := 0, locals := 44 }
abbrev q_Reckoner_subtract (D : va_G) (ad : Nat → Nat → Nat) (ca : Nat → ClassId) (N : Nat → Nat) (M0 MZ : me_M) (A : Nat → Prop) : Array Value → Jvm.State → Outcome → Jvm.State → Prop := va_Qv (fun (_ : Unit) => me_wf N MZ ∧ me_kp M0 MZ) (fg_B D A (fun _ => me_W ad ca MZ) (fun _ => [])) A
set_option maxHeartbeats 4000000 in
set_option maxRecDepth 100000 in
theorem c_Reckoner_subtract (l : Launch) (D : va_G) (ad : Nat → Nat → Nat) (ca : Nat → ClassId) (N : Nat → Nat) (M0 MZ : me_M) (j0 : Nat) (j1 : Nat) (j2 : Nat) (h : f_Reckoner_subtract M0 j0 j1 j2 = (some MZ)) (hwf : me_wf N M0) (hj0 : j0 < N 8) (hj1 : j1 < N 11) (hj2 : j2 < N 11) (sz : Nat) : Met l y_Reckoner_subtract (fg_w y_Reckoner_subtract prog_9_method_8_code 13 none) rm_Reckoner_subtract (va_Pc [.ref (ad 8 j0), .ref (ad 11 j1), .ref (ad 11 j2)] (fz_P D (me_T ca) (me_W ad ca M0) sz)) (q_Reckoner_subtract D ad ca N M0 MZ (va_A (me_W ad ca M0) sz)) rm_Reckoner_subtract.cells rm_Reckoner_subtract.slots (va_A (me_W ad ca M0) sz) := by
  refine fz_enter (fun A => q_Reckoner_subtract D ad ca N M0 MZ A) (by decide +kernel) (Nat.le_of_ble_eq_true rfl) ?_
  intro p e s m below meth c ls A hx hb hml hown hts hr hlocks hin hP hK hD hS hA hX hl hz
  have hl : lv_has ls 13 [(0, .ref (ad 8 j0)), (1, .ref (ad 11 j1)), (2, .ref (ad 11 j2))] := hl
  unfold f_Reckoner_subtract at h
  have hkp : me_kp M0 M0 := me_kp.rf
  have hkb := hkp
  have b_169 : ∀ (M : me_M) (y7 : Int64) (y9 : Int64) (y11 : Int32) (s0 : Int32) (H : Heap) (locs : List Loc) (ls : Array Slot), f_Reckoner_subtract_b169 j0 M y7 y9 y11 s0 = (some MZ) → (y11 = 1 ∨ y11 = 0) → (s0 = 1 ∨ s0 = 0) → me_wf N M → me_kp M0 M → va_P D classes (me_W ad ca M) H → va_D A (me_W ad ca M) → va_S A s.heap H locs → lv_has ls 13 [(0, .ref (ad 8 j0)), (7, .long y7), (9, .long y9), (11, .int y11)] → W p l e rm_Reckoner_subtract s m [.ref (ad 8 j0), .ref (ad 11 j1), .ref (ad 11 j2)].toArray below meth c H locs 0 0 (MQ below (q_Reckoner_subtract D ad ca N M0 MZ A) [.ref (ad 8 j0), .ref (ad 11 j1), .ref (ad 11 j2)].toArray s rm_Reckoner_subtract.cells rm_Reckoner_subtract.slots A) (F0 m 169 ls [.int s0]) := by
    intro M y7 y9 y11 s0 H locs ls h zy11 zs0 hwf hkp hP hD hS hl
    unfold f_Reckoner_subtract_b169 at h
    have hkb := hkp
    refine lv_istore (lv' := [(12, .int s0), (0, .ref (ad 8 j0)), (7, .long y7), (9, .long y9), (11, .int y11)]) hx hb d_Reckoner_subtract_169 hl (by decide) rfl (fun ls hl => ?_)
    refine lv_iload hx hb d_Reckoner_subtract_171 (lv_at hl 4 rfl) ?_
    refine lv_if_ne (tgt := 199) hx hb d_Reckoner_subtract_173 (by decide) (fun c1 => ?_) (fun c1 => ?_)
    · have h := if_f c1 h
      exact me_retv (me_kp M0) h hx hb hr hlocks hwf hkp hP hK hD hS d_Reckoner_subtract_199
    have h := if_t c1 h
    refine lv_iload hx hb d_Reckoner_subtract_176 (lv_at hl 0 rfl) ?_
    refine lv_if_ne (tgt := 199) hx hb d_Reckoner_subtract_178 (by decide) (fun c2 => ?_) (fun c2 => ?_)
    · have h := if_f c2 h
      exact me_retv (me_kp M0) h hx hb hr hlocks hwf hkp hP hK hD hS d_Reckoner_subtract_199
    have h := if_t c2 h
    refine lv_aload_n hx hb d_Reckoner_subtract_181 rfl (lv_at hl 1 rfl) ?_
    refine g_Reckoner_2 hx hb hts hown hK hP hwf hj0 (hts _ u_398) d_Reckoner_subtract_182 ?_
    obtain ⟨j3, e4, h⟩ := bd_ob h
    have hj3 : j3 < N 11 := (hwf.2.1 8 j0 2 _ e4 (by decide) hj0)
    refine me_opt (j := j3) e4 ?_
    refine lv_lload hx hb d_Reckoner_subtract_185 (lv_at hl 2 rfl) ?_
    obtain ⟨M5, eM5, h⟩ := st_ob h
    refine p_Num_4 eM5 hx hb hts hown hK hP hD hwf hS hj3 (hts _ u_380) d_Reckoner_subtract_187 (fun H locs hP hD hwf hS => ?_)
    have hkp := kp_L eM5 hkp
    refine lv_aload_n hx hb d_Reckoner_subtract_190 rfl (lv_at hl 1 rfl) ?_
    refine g_Reckoner_2 hx hb hts hown hK hP hwf hj0 (hts _ u_398) d_Reckoner_subtract_191 ?_
    refine me_opt (j := j3) (kp_r hkb hkp e4) ?_
    refine lv_lload hx hb d_Reckoner_subtract_194 (lv_at hl 3 rfl) ?_
    obtain ⟨M6, eM6, h⟩ := st_ob h
    refine p_Num_5 eM6 hx hb hts hown hK hP hD hwf hS hj3 (hts _ u_382) d_Reckoner_subtract_196 (fun H locs hP hD hwf hS => ?_)
    have hkp := kp_L eM6 hkp
    exact me_retv (me_kp M0) h hx hb hr hlocks hwf hkp hP hK hD hS d_Reckoner_subtract_199
  have b_140 : ∀ (M : me_M) (y7 : Int64) (y9 : Int64) (s0 : Int32) (H : Heap) (locs : List Loc) (ls : Array Slot), f_Reckoner_subtract_b140 j0 j1 j2 M y7 y9 s0 = (some MZ) → (s0 = 1 ∨ s0 = 0) → me_wf N M → me_kp M0 M → va_P D classes (me_W ad ca M) H → va_D A (me_W ad ca M) → va_S A s.heap H locs → lv_has ls 13 [(0, .ref (ad 8 j0)), (1, .ref (ad 11 j1)), (2, .ref (ad 11 j2)), (7, .long y7), (9, .long y9)] → W p l e rm_Reckoner_subtract s m [.ref (ad 8 j0), .ref (ad 11 j1), .ref (ad 11 j2)].toArray below meth c H locs 0 0 (MQ below (q_Reckoner_subtract D ad ca N M0 MZ A) [.ref (ad 8 j0), .ref (ad 11 j1), .ref (ad 11 j2)].toArray s rm_Reckoner_subtract.cells rm_Reckoner_subtract.slots A) (F0 m 140 ls [.int s0]) := by
    intro M y7 y9 s0 H locs ls h zs0 hwf hkp hP hD hS hl
    unfold f_Reckoner_subtract_b140 at h
    have hkb := hkp
    refine lv_istore (lv' := [(11, .int s0), (0, .ref (ad 8 j0)), (1, .ref (ad 11 j1)), (2, .ref (ad 11 j2)), (7, .long y7), (9, .long y9)]) hx hb d_Reckoner_subtract_140 hl (by decide) rfl (fun ls hl => ?_)
    refine lv_aload_n hx hb d_Reckoner_subtract_142 rfl (lv_at hl 2 rfl) ?_
    refine g_Num_5 hx hb hts hown hK hP hwf hj1 (hts _ u_382) d_Reckoner_subtract_143 ?_
    refine lv_aload_n hx hb d_Reckoner_subtract_146 rfl (lv_at hl 3 rfl) ?_
    refine g_Num_4 hx hb hts hown hK hP hwf hj2 (hts _ u_380) d_Reckoner_subtract_147 ?_
    refine lv_lxor hx hb d_Reckoner_subtract_150 ?_
    refine lv_aload_n hx hb d_Reckoner_subtract_151 rfl (lv_at hl 2 rfl) ?_
    refine g_Num_5 hx hb hts hown hK hP hwf hj1 (hts _ u_382) d_Reckoner_subtract_152 ?_
    refine lv_lload hx hb d_Reckoner_subtract_155 (lv_at hl 5 rfl) ?_
    refine lv_lxor hx hb d_Reckoner_subtract_157 ?_
    refine lv_land hx hb d_Reckoner_subtract_158 ?_
    refine lv_lconst (v := 0) hx hb d_Reckoner_subtract_159 (by decide) ?_
    refine W.lcmp hx hb d_Reckoner_subtract_160 ?_
    refine lv_if_ge (tgt := 168) hx hb d_Reckoner_subtract_161 (by decide) (fun c7 => ?_) (fun c7 => ?_)
    · have h := if_f (Int64.not_lt.mpr ((lg_cmp_ge _ _).mp c7)) h
      refine lv_iconst (v := 0) hx hb d_Reckoner_subtract_168 (by decide) ?_
      exact b_169 M y7 y9 s0 (0 : Int32) _ _ _ h zs0 (by decide) hwf hkp hP hD hS (lv_sub hl [1, 4, 5, 0] rfl)
    have h := if_t (Int64.not_le.mp (fun z => c7 ((lg_cmp_ge _ _).mpr z))) h
    refine lv_iconst (v := 1) hx hb d_Reckoner_subtract_164 (by decide) ?_
    refine lv_goto (tgt := 169) hx hb d_Reckoner_subtract_165 (by decide) ?_
    exact b_169 M y7 y9 s0 (1 : Int32) _ _ _ h zs0 (by decide) hwf hkp hP hD hS (lv_sub hl [1, 4, 5, 0] rfl)
  have b_91 : ∀ (M : me_M) (H : Heap) (locs : List Loc) (ls : Array Slot), f_Reckoner_subtract_b91 j0 j1 j2 M = (some MZ) → me_wf N M → me_kp M0 M → va_P D classes (me_W ad ca M) H → va_D A (me_W ad ca M) → va_S A s.heap H locs → lv_has ls 13 [(0, .ref (ad 8 j0)), (1, .ref (ad 11 j1)), (2, .ref (ad 11 j2))] → W p l e rm_Reckoner_subtract s m [.ref (ad 8 j0), .ref (ad 11 j1), .ref (ad 11 j2)].toArray below meth c H locs 0 0 (MQ below (q_Reckoner_subtract D ad ca N M0 MZ A) [.ref (ad 8 j0), .ref (ad 11 j1), .ref (ad 11 j2)].toArray s rm_Reckoner_subtract.cells rm_Reckoner_subtract.slots A) (F0 m 91 ls []) := by
    intro M H locs ls h hwf hkp hP hD hS hl
    unfold f_Reckoner_subtract_b91 at h
    have hkb := hkp
    refine lv_aload_n hx hb d_Reckoner_subtract_91 rfl (lv_at hl 1 rfl) ?_
    refine g_Num_4 hx hb hts hown hK hP hwf hj1 (hts _ u_380) d_Reckoner_subtract_92 ?_
    refine lv_aload_n hx hb d_Reckoner_subtract_95 rfl (lv_at hl 2 rfl) ?_
    refine g_Num_5 hx hb hts hown hK hP hwf hj2 (hts _ u_382) d_Reckoner_subtract_96 ?_
    refine lv_lsub hx hb d_Reckoner_subtract_99 ?_
    obtain ⟨v8, ev8, h⟩ := st_ob h
    refine fg_topl (y := v8) ev8.symm ?_
    refine lv_lstore (lv' := [(7, .long v8), (0, .ref (ad 8 j0)), (1, .ref (ad 11 j1)), (2, .ref (ad 11 j2))]) hx hb d_Reckoner_subtract_100 hl (by decide) rfl (fun ls hl => ?_)
    refine lv_aload_n hx hb d_Reckoner_subtract_102 rfl (lv_at hl 2 rfl) ?_
    refine g_Num_5 hx hb hts hown hK hP hwf hj1 (hts _ u_382) d_Reckoner_subtract_103 ?_
    refine lv_aload_n hx hb d_Reckoner_subtract_106 rfl (lv_at hl 3 rfl) ?_
    refine g_Num_4 hx hb hts hown hK hP hwf hj2 (hts _ u_380) d_Reckoner_subtract_107 ?_
    refine lv_lsub hx hb d_Reckoner_subtract_110 ?_
    obtain ⟨v9, ev9, h⟩ := st_ob h
    refine fg_topl (y := v9) ev9.symm ?_
    refine lv_lstore (lv' := [(9, .long v9), (7, .long v8), (0, .ref (ad 8 j0)), (1, .ref (ad 11 j1)), (2, .ref (ad 11 j2))]) hx hb d_Reckoner_subtract_111 hl (by decide) rfl (fun ls hl => ?_)
    refine lv_aload_n hx hb d_Reckoner_subtract_113 rfl (lv_at hl 3 rfl) ?_
    refine g_Num_4 hx hb hts hown hK hP hwf hj1 (hts _ u_380) d_Reckoner_subtract_114 ?_
    refine lv_aload_n hx hb d_Reckoner_subtract_117 rfl (lv_at hl 4 rfl) ?_
    refine g_Num_5 hx hb hts hown hK hP hwf hj2 (hts _ u_382) d_Reckoner_subtract_118 ?_
    refine lv_lxor hx hb d_Reckoner_subtract_121 ?_
    refine lv_aload_n hx hb d_Reckoner_subtract_122 rfl (lv_at hl 3 rfl) ?_
    refine g_Num_4 hx hb hts hown hK hP hwf hj1 (hts _ u_380) d_Reckoner_subtract_123 ?_
    refine lv_lload hx hb d_Reckoner_subtract_126 (lv_at hl 1 rfl) ?_
    refine lv_lxor hx hb d_Reckoner_subtract_128 ?_
    refine lv_land hx hb d_Reckoner_subtract_129 ?_
    refine lv_lconst (v := 0) hx hb d_Reckoner_subtract_130 (by decide) ?_
    refine W.lcmp hx hb d_Reckoner_subtract_131 ?_
    refine lv_if_ge (tgt := 139) hx hb d_Reckoner_subtract_132 (by decide) (fun c10 => ?_) (fun c10 => ?_)
    · have h := if_f (Int64.not_lt.mpr ((lg_cmp_ge _ _).mp c10)) h
      refine lv_iconst (v := 0) hx hb d_Reckoner_subtract_139 (by decide) ?_
      exact b_140 M v8 v9 (0 : Int32) _ _ _ h (by decide) hwf hkp hP hD hS (lv_sub hl [2, 3, 4, 1, 0] rfl)
    have h := if_t (Int64.not_le.mp (fun z => c10 ((lg_cmp_ge _ _).mpr z))) h
    refine lv_iconst (v := 1) hx hb d_Reckoner_subtract_135 (by decide) ?_
    refine lv_goto (tgt := 140) hx hb d_Reckoner_subtract_136 (by decide) ?_
    exact b_140 M v8 v9 (1 : Int32) _ _ _ h (by decide) hwf hkp hP hD hS (lv_sub hl [2, 3, 4, 1, 0] rfl)
  refine lv_aload_n hx hb d_Reckoner_subtract_0 rfl (lv_at hl 1 rfl) ?_
  refine g_Num_0 hx hb hts hown hK hP hwf hj1 (hts _ u_368) d_Reckoner_subtract_1 ?_
  refine lv_aload_n hx hb d_Reckoner_subtract_4 rfl (lv_at hl 2 rfl) ?_
  refine g_Num_0 hx hb hts hown hK hP hwf hj2 (hts _ u_368) d_Reckoner_subtract_5 ?_
  refine lv_lsub hx hb d_Reckoner_subtract_8 ?_
  obtain ⟨v11, ev11, h⟩ := st_ob h
  refine fg_topl (y := v11) ev11.symm ?_
  refine lv_lstore_n (lv' := [(3, .long v11), (0, .ref (ad 8 j0)), (1, .ref (ad 11 j1)), (2, .ref (ad 11 j2))]) hx hb d_Reckoner_subtract_9 rfl hl (by decide) rfl (fun ls hl => ?_)
  refine lv_lload_n hx hb d_Reckoner_subtract_10 rfl (lv_at hl 0 rfl) ?_
  refine lv_aload_n hx hb d_Reckoner_subtract_11 rfl (lv_at hl 2 rfl) ?_
  refine g_Num_1 hx hb hts hown hK hP hwf hj1 (hts _ u_372) d_Reckoner_subtract_12 ?_
  refine lv_ladd hx hb d_Reckoner_subtract_15 ?_
  refine lv_lload_n hx hb d_Reckoner_subtract_16 rfl (lv_at hl 0 rfl) ?_
  refine lv_aload_n hx hb d_Reckoner_subtract_17 rfl (lv_at hl 3 rfl) ?_
  refine g_Num_1 hx hb hts hown hK hP hwf hj2 (hts _ u_372) d_Reckoner_subtract_18 ?_
  refine lv_lsub hx hb d_Reckoner_subtract_21 ?_
  refine lv_lxor hx hb d_Reckoner_subtract_22 ?_
  refine lv_aload_n hx hb d_Reckoner_subtract_23 rfl (lv_at hl 2 rfl) ?_
  refine g_Num_1 hx hb hts hown hK hP hwf hj1 (hts _ u_372) d_Reckoner_subtract_24 ?_
  refine lv_lor hx hb d_Reckoner_subtract_27 ?_
  obtain ⟨v12, ev12, h⟩ := st_ob h
  refine fg_topl (y := v12) ev12.symm ?_
  refine lv_aload_n hx hb d_Reckoner_subtract_28 rfl (lv_at hl 3 rfl) ?_
  refine g_Num_1 hx hb hts hown hK hP hwf hj2 (hts _ u_372) d_Reckoner_subtract_29 ?_
  refine lv_lor hx hb d_Reckoner_subtract_32 ?_
  obtain ⟨v13, ev13, h⟩ := st_ob h
  refine fg_topl (y := v13) ev13.symm ?_
  refine lv_lstore (lv' := [(5, .long v13), (3, .long v11), (0, .ref (ad 8 j0)), (1, .ref (ad 11 j1)), (2, .ref (ad 11 j2))]) hx hb d_Reckoner_subtract_33 hl (by decide) rfl (fun ls hl => ?_)
  refine lv_aload_n hx hb d_Reckoner_subtract_35 rfl (lv_at hl 2 rfl) ?_
  refine g_Reckoner_2 hx hb hts hown hK hP hwf hj0 (hts _ u_398) d_Reckoner_subtract_36 ?_
  obtain ⟨j14, e15, h⟩ := bd_ob h
  have hj14 : j14 < N 11 := (hwf.2.1 8 j0 2 _ e15 (by decide) hj0)
  refine me_opt (j := j14) e15 ?_
  refine lv_lload_n hx hb d_Reckoner_subtract_39 rfl (lv_at hl 1 rfl) ?_
  refine lv_lload hx hb d_Reckoner_subtract_40 (lv_at hl 0 rfl) ?_
  refine lv_ldc2 hx hb hown (hts _ u_1139) d_Reckoner_subtract_42 ?_
  refine lv_lxor hx hb d_Reckoner_subtract_45 ?_
  refine lv_land hx hb d_Reckoner_subtract_46 ?_
  refine lv_lload hx hb d_Reckoner_subtract_47 (lv_at hl 0 rfl) ?_
  obtain ⟨M16, eM16, h⟩ := bd_ob h
  refine me_thenv0 (M1 := M16) (me_runV (C := "FilterGuard$Num") (As := [.long (v11 &&& (v13 ^^^ (-1))), .long v13]) (rest := []) ⟨hx, hb, hml, hown, hts⟩ (c_Num_bits l D ad ca N M0 M16 j14 (v11 &&& (v13 ^^^ (-1))) v13 eM16 hwf hj14 _) rfl (by show fg_nm y_Num_bits 2; decide +kernel) u_1140 u_1141 u_1142 u_187 u_1143 ⟨Nat.le_of_ble_eq_true rfl, Nat.le_of_ble_eq_true rfl⟩ hX hz hK hP hD hwf hS hA hj14 (by decide) rfl rfl rfl hl.1 (Nat.le_of_ble_eq_true rfl) d_Reckoner_subtract_49 ⟨Nat.le_of_ble_eq_true rfl, Nat.le_of_ble_eq_true rfl⟩) hP hD hK hS hA rfl rfl (fun H locs hw hP hD hS => ?_)
  obtain ⟨hwf, hk9⟩ := hw
  have hkp := hkp.tr hk9
  refine lv_aload_n hx hb d_Reckoner_subtract_52 rfl (lv_at hl 3 rfl) ?_
  refine g_Num_2 hx hb hts hown hK hP hwf hj1 (hts _ u_374) d_Reckoner_subtract_53 ?_
  refine lv_aload_n hx hb d_Reckoner_subtract_56 rfl (lv_at hl 4 rfl) ?_
  refine g_Num_3 hx hb hts hown hK hP hwf hj2 (hts _ u_377) d_Reckoner_subtract_57 ?_
  obtain ⟨r17, er17, h⟩ := bd_ob h
  refine me_pani' (r0 := r17) (fg_runS (wc := []) (tc := []) (A2 := A) (As := [.long (mL M16 11 j1 2), .long (mL M16 11 j2 3)]) (rest := []) ⟨hx, hb, hml, hown, hts⟩ (c_Num_isBelow l D r17 (mL M16 11 j1 2) (mL M16 11 j2 3) er17 _) (by show fg_nm y_Num_isBelow 2; decide +kernel) u_1144 u_1063 u_187 u_1064 ⟨Nat.le_of_ble_eq_true rfl, Nat.le_of_ble_eq_true rfl⟩ hX me_P0 (hK.sub (tys' := []) [] rfl) me_D0 rfl hl.1 (Nat.le_of_ble_eq_true rfl) d_Reckoner_subtract_60 ⟨Nat.le_of_ble_eq_true rfl, Nat.le_of_ble_eq_true rfl⟩) hP hD hK hS hA rfl rfl (fun H locs hw hP hD hS => ?_)
  have zr17 := hw
  refine lv_if_ne (tgt := 91) hx hb d_Reckoner_subtract_63 (by decide) (fun c18 => ?_) (fun c18 => ?_)
  · have h := if_f c18 h
    exact b_91 M16 _ _ _ h hwf hkp hP hD hS (lv_sub hl [2, 3, 4] rfl)
  have h := if_t c18 h
  refine lv_aload_n hx hb d_Reckoner_subtract_66 rfl (lv_at hl 2 rfl) ?_
  refine g_Reckoner_2 hx hb hts hown hK hP hwf hj0 (hts _ u_398) d_Reckoner_subtract_67 ?_
  refine me_opt (j := j14) (kp_r hkb hkp e15) ?_
  refine lv_aload_n hx hb d_Reckoner_subtract_70 rfl (lv_at hl 3 rfl) ?_
  refine g_Num_2 hx hb hts hown hK hP hwf hj1 (hts _ u_374) d_Reckoner_subtract_71 ?_
  refine lv_aload_n hx hb d_Reckoner_subtract_74 rfl (lv_at hl 4 rfl) ?_
  refine g_Num_3 hx hb hts hown hK hP hwf hj2 (hts _ u_377) d_Reckoner_subtract_75 ?_
  refine lv_lsub hx hb d_Reckoner_subtract_78 ?_
  refine lv_aload_n hx hb d_Reckoner_subtract_79 rfl (lv_at hl 3 rfl) ?_
  refine g_Num_3 hx hb hts hown hK hP hwf hj1 (hts _ u_377) d_Reckoner_subtract_80 ?_
  refine lv_aload_n hx hb d_Reckoner_subtract_83 rfl (lv_at hl 4 rfl) ?_
  refine g_Num_2 hx hb hts hown hK hP hwf hj2 (hts _ u_374) d_Reckoner_subtract_84 ?_
  refine lv_lsub hx hb d_Reckoner_subtract_87 ?_
  obtain ⟨M19, eM19, h⟩ := bd_ob h
  refine me_thenv0 (M1 := M19) (me_runV (C := "FilterGuard$Num") (As := [.long ((mL M16 11 j1 2) - (mL M16 11 j2 3)), .long ((mL M16 11 j1 3) - (mL M16 11 j2 2))]) (rest := []) ⟨hx, hb, hml, hown, hts⟩ (c_Num_range l D ad ca N M16 M19 j14 ((mL M16 11 j1 2) - (mL M16 11 j2 3)) ((mL M16 11 j1 3) - (mL M16 11 j2 2)) eM19 hwf hj14 _) rfl (by show fg_nm y_Num_range 2; decide +kernel) u_1145 u_1146 u_1147 u_187 u_1148 ⟨Nat.le_of_ble_eq_true rfl, Nat.le_of_ble_eq_true rfl⟩ hX hz hK hP hD hwf hS hA hj14 (by decide) rfl rfl rfl hl.1 (Nat.le_of_ble_eq_true rfl) d_Reckoner_subtract_88 ⟨Nat.le_of_ble_eq_true rfl, Nat.le_of_ble_eq_true rfl⟩) hP hD hK hS hA rfl rfl (fun H locs hw hP hD hS => ?_)
  obtain ⟨hwf, hk9⟩ := hw
  have hkp := hkp.tr hk9
  exact b_91 M19 _ _ _ h hwf hkp hP hD hS (lv_sub hl [2, 3, 4] rfl)
