theorem d_Cell_becomeRead_0 : decode prog_2_method_6_code 0 = .ok (.aload_n 0, 1) := by decide +kernel
theorem d_Cell_becomeRead_1 : decode prog_2_method_6_code 1 = .ok (.iconst 1, 1) := by decide +kernel
theorem d_Cell_becomeRead_2 : decode prog_2_method_6_code 2 = .ok (.putfield 18, 3) := by decide +kernel
theorem d_Cell_becomeRead_5 : decode prog_2_method_6_code 5 = .ok (.aload_n 0, 1) := by decide +kernel
theorem d_Cell_becomeRead_6 : decode prog_2_method_6_code 6 = .ok (.getfield 12, 3) := by decide +kernel
theorem d_Cell_becomeRead_9 : decode prog_2_method_6_code 9 = .ok (.invokevirtual 45, 3) := by decide +kernel
theorem d_Cell_becomeRead_12 : decode prog_2_method_6_code 12 = .ok (.iload_n 1, 1) := by decide +kernel
theorem d_Cell_becomeRead_13 : decode prog_2_method_6_code 13 = .ok (.bipush 8, 2) := by decide +kernel
theorem d_Cell_becomeRead_15 : decode prog_2_method_6_code 15 = .ok (.if_icmp .ge 27, 3) := by decide +kernel
theorem d_Cell_becomeRead_42 : decode prog_2_method_6_code 42 = .ok (.return_, 1) := by decide +kernel
theorem d_Cell_becomeRead_18 : decode prog_2_method_6_code 18 = .ok (.aload_n 0, 1) := by decide +kernel
theorem d_Cell_becomeRead_19 : decode prog_2_method_6_code 19 = .ok (.getfield 12, 3) := by decide +kernel
theorem d_Cell_becomeRead_22 : decode prog_2_method_6_code 22 = .ok (.lconst 0, 1) := by decide +kernel
theorem d_Cell_becomeRead_23 : decode prog_2_method_6_code 23 = .ok (.lconst 1, 1) := by decide +kernel
theorem d_Cell_becomeRead_24 : decode prog_2_method_6_code 24 = .ok (.bipush 8, 2) := by decide +kernel
theorem d_Cell_becomeRead_26 : decode prog_2_method_6_code 26 = .ok (.iload_n 1, 1) := by decide +kernel
theorem d_Cell_becomeRead_27 : decode prog_2_method_6_code 27 = .ok (.imul, 1) := by decide +kernel
theorem d_Cell_becomeRead_28 : decode prog_2_method_6_code 28 = .ok (.lshl, 1) := by decide +kernel
theorem d_Cell_becomeRead_29 : decode prog_2_method_6_code 29 = .ok (.lconst 1, 1) := by decide +kernel
theorem d_Cell_becomeRead_30 : decode prog_2_method_6_code 30 = .ok (.lsub, 1) := by decide +kernel
theorem d_Cell_becomeRead_31 : decode prog_2_method_6_code 31 = .ok (.invokevirtual 48, 3) := by decide +kernel
theorem u_1380 : Cond.methodLink "FilterGuard$Cell" 48 ⟨"FilterGuard$Num", "range", "(JJ)V"⟩ ∈ fg_g := fg_in (List.mem_of_getElem? (i := 1380) (by decide +kernel)) rfl
theorem d_Cell_becomeRead_34 : decode prog_2_method_6_code 34 = .ok (.aload_n 0, 1) := by decide +kernel
theorem d_Cell_becomeRead_35 : decode prog_2_method_6_code 35 = .ok (.getfield 12, 3) := by decide +kernel
theorem d_Cell_becomeRead_38 : decode prog_2_method_6_code 38 = .ok (.invokevirtual 52, 3) := by decide +kernel
theorem u_1381 : Cond.methodLink "FilterGuard$Cell" 52 ⟨"FilterGuard$Num", "settle", "()Z"⟩ ∈ fg_g := fg_in (List.mem_of_getElem? (i := 1381) (by decide +kernel)) rfl
theorem d_Cell_becomeRead_41 : decode prog_2_method_6_code 41 = .ok (.pop, 1) := by decide +kernel
abbrev y_Cell_becomeRead : MethodName := ⟨"FilterGuard$Cell", "becomeRead", "(I)V"⟩
def rm_Cell_becomeRead : Room := { frames := 3, cells := 0, slots := 0, locals := 83 }
abbrev q_Cell_becomeRead (D : va_G) (ad : Nat → Nat → Nat) (ca : Nat → ClassId) (N : Nat → Nat) (M0 MZ : me_M) (A : Nat → Prop) : Array Value → Jvm.State → Outcome → Jvm.State → Prop := va_Qv (fun (_ : Unit) => me_wf N MZ ∧ me_kp M0 MZ) (fg_B D A (fun _ => me_W ad ca MZ) (fun _ => [])) A
set_option maxHeartbeats 4000000 in
set_option maxRecDepth 100000 in
theorem c_Cell_becomeRead (l : Launch) (D : va_G) (ad : Nat → Nat → Nat) (ca : Nat → ClassId) (N : Nat → Nat) (M0 MZ : me_M) (j0 : Nat) (x1 : Int32) (h : f_Cell_becomeRead M0 j0 x1 = (some MZ)) (hwf : me_wf N M0) (hj0 : j0 < N 10) (sz : Nat) : Met l y_Cell_becomeRead (fg_w y_Cell_becomeRead prog_2_method_6_code 2 none) rm_Cell_becomeRead (va_Pc [.ref (ad 10 j0), .int x1] (fz_P D (me_T ca) (me_W ad ca M0) sz)) (q_Cell_becomeRead D ad ca N M0 MZ (va_A (me_W ad ca M0) sz)) rm_Cell_becomeRead.cells rm_Cell_becomeRead.slots (va_A (me_W ad ca M0) sz) := by
  refine fz_enter (fun A => q_Cell_becomeRead D ad ca N M0 MZ A) (by decide +kernel) (Nat.le_of_ble_eq_true rfl) ?_
  intro p e s m below meth c ls A hx hb hml hown hts hr hlocks hin hP hK hD hS hA hX hl hz
  have hl : lv_has ls 2 [(0, .ref (ad 10 j0)), (1, .int x1)] := hl
  unfold f_Cell_becomeRead at h
  have hkp : me_kp M0 M0 := me_kp.rf
  have hkb := hkp
  refine lv_aload_n hx hb d_Cell_becomeRead_0 rfl (lv_at hl 0 rfl) ?_
  refine lv_iconst (v := 1) hx hb d_Cell_becomeRead_1 (by decide) ?_
  obtain ⟨M1, eM1, h⟩ := st_ob h
  refine p_Cell_0 eM1 hx hb hts hown hK hP hD hwf hS hj0 (hts _ u_420) d_Cell_becomeRead_2 (fun H locs hP hD hwf hS => ?_)
  have hkp := kp_I eM1 hkp
  refine lv_aload_n hx hb d_Cell_becomeRead_5 rfl (lv_at hl 0 rfl) ?_
  refine g_Cell_6 hx hb hts hown hK hP hwf hj0 (hts _ u_435) d_Cell_becomeRead_6 ?_
  obtain ⟨j2, e3, h⟩ := bd_ob h
  have hj2 : j2 < N 11 := (hwf.2.1 10 j0 6 _ (kp_r hkb hkp e3) (by decide) hj0)
  refine me_opt (j := j2) (kp_r hkb hkp e3) ?_
  obtain ⟨M4, eM4, h⟩ := bd_ob h
  refine me_thenv0 (M1 := M4) (me_runV (C := "FilterGuard$Num") (As := []) (rest := []) ⟨hx, hb, hml, hown, hts⟩ (c_Num_any l D ad ca N M1 M4 j2 eM4 hwf hj2 _) rfl (by show fg_nm y_Num_any 0; decide +kernel) u_1270 u_1131 u_1132 u_187 u_1133 ⟨Nat.le_of_ble_eq_true rfl, Nat.le_of_ble_eq_true rfl⟩ hX hz hK hP hD hwf hS hA hj2 (by decide) rfl rfl rfl hl.1 (Nat.le_of_ble_eq_true rfl) d_Cell_becomeRead_9 ⟨Nat.le_of_ble_eq_true rfl, Nat.le_of_ble_eq_true rfl⟩) hP hD hK hS hA rfl rfl (fun H locs hw hP hD hS => ?_)
  obtain ⟨hwf, hk9⟩ := hw
  have hkp := hkp.tr hk9
  refine lv_iload_n hx hb d_Cell_becomeRead_12 rfl (lv_at hl 1 rfl) ?_
  refine lv_bipush (v := 8) hx hb d_Cell_becomeRead_13 (by decide) ?_
  refine lv_icmp_ge (tgt := 42) hx hb d_Cell_becomeRead_15 (by decide) (fun c5 => ?_) (fun c5 => ?_)
  · have h := if_t c5 h
    exact me_retv (me_kp M0) h hx hb hr hlocks hwf hkp hP hK hD hS d_Cell_becomeRead_42
  have h := if_f c5 h
  refine lv_aload_n hx hb d_Cell_becomeRead_18 rfl (lv_at hl 0 rfl) ?_
  refine g_Cell_6 hx hb hts hown hK hP hwf hj0 (hts _ u_435) d_Cell_becomeRead_19 ?_
  refine me_opt (j := j2) (kp_r hkb hkp e3) ?_
  refine lv_lconst (v := 0) hx hb d_Cell_becomeRead_22 (by decide) ?_
  refine lv_lconst (v := 1) hx hb d_Cell_becomeRead_23 (by decide) ?_
  refine lv_bipush (v := 8) hx hb d_Cell_becomeRead_24 (by decide) ?_
  refine lv_iload_n hx hb d_Cell_becomeRead_26 rfl (lv_at hl 1 rfl) ?_
  refine lv_imul hx hb d_Cell_becomeRead_27 ?_
  refine lv_lshl (v := jlshl (1 : Int64) (8 * x1)) hx hb d_Cell_becomeRead_28 rfl ?_
  refine lv_lconst (v := 1) hx hb d_Cell_becomeRead_29 (by decide) ?_
  refine lv_lsub hx hb d_Cell_becomeRead_30 ?_
  obtain ⟨M6, eM6, h⟩ := bd_ob h
  refine me_thenv0 (M1 := M6) (me_runV (C := "FilterGuard$Num") (As := [.long 0, .long ((jlshl (1 : Int64) (8 * x1)) - 1)]) (rest := []) ⟨hx, hb, hml, hown, hts⟩ (c_Num_range l D ad ca N M4 M6 j2 (0 : Int64) ((jlshl (1 : Int64) (8 * x1)) - 1) eM6 hwf hj2 _) rfl (by show fg_nm y_Num_range 2; decide +kernel) u_1380 u_1146 u_1147 u_187 u_1148 ⟨Nat.le_of_ble_eq_true rfl, Nat.le_of_ble_eq_true rfl⟩ hX hz hK hP hD hwf hS hA hj2 (by decide) rfl rfl rfl hl.1 (Nat.le_of_ble_eq_true rfl) d_Cell_becomeRead_31 ⟨Nat.le_of_ble_eq_true rfl, Nat.le_of_ble_eq_true rfl⟩) hP hD hK hS hA rfl rfl (fun H locs hw hP hD hS => ?_)
  obtain ⟨hwf, hk9⟩ := hw
  have hkp := hkp.tr hk9
  refine lv_aload_n hx hb d_Cell_becomeRead_34 rfl (lv_at hl 0 rfl) ?_
  refine g_Cell_6 hx hb hts hown hK hP hwf hj0 (hts _ u_435) d_Cell_becomeRead_35 ?_
  refine me_opt (j := j2) (kp_r hkb hkp e3) ?_
  obtain ⟨M7, r8, eM7, h⟩ := b2_ob h
  refine me_theni0 (M1 := M7) (me_runV (C := "FilterGuard$Num") (As := []) (rest := []) ⟨hx, hb, hml, hown, hts⟩ (c_Num_settle l D ad ca N M6 M7 r8 j2 eM7 hwf hj2 _) rfl (by show fg_nm y_Num_settle 0; decide +kernel) u_1381 u_1222 u_1223 u_187 u_1224 ⟨Nat.le_of_ble_eq_true rfl, Nat.le_of_ble_eq_true rfl⟩ hX hz hK hP hD hwf hS hA hj2 (by decide) rfl rfl rfl hl.1 (Nat.le_of_ble_eq_true rfl) d_Cell_becomeRead_38 ⟨Nat.le_of_ble_eq_true rfl, Nat.le_of_ble_eq_true rfl⟩) hP hD hK hS hA rfl rfl (fun H locs hw hP hD hS => ?_)
  obtain ⟨hwf, hk9, zr8⟩ := hw
  have hkp := hkp.tr hk9
  refine lv_pop hx hb d_Cell_becomeRead_41 rfl ?_
  exact me_retv (me_kp M0) h hx hb hr hlocks hwf hkp hP hK hD hS d_Cell_becomeRead_42
theorem d_Steps_help_23 : decode prog_11_method_20_code 23 = .ok (.iload_n 3, 1) := by decide +kernel
theorem d_Steps_help_24 : decode prog_11_method_20_code 24 = .ok (.iconst 5, 1) := by decide +kernel
theorem d_Steps_help_25 : decode prog_11_method_20_code 25 = .ok (.if_icmp .gt 18, 3) := by decide +kernel
theorem d_Steps_help_43 : decode prog_11_method_20_code 43 = .ok (.aload_n 0, 1) := by decide +kernel
theorem d_Steps_help_44 : decode prog_11_method_20_code 44 = .ok (.getfield 66, 3) := by decide +kernel
theorem d_Steps_help_47 : decode prog_11_method_20_code 47 = .ok (.iconst 0, 1) := by decide +kernel
theorem d_Steps_help_48 : decode prog_11_method_20_code 48 = .ok (.aaload, 1) := by decide +kernel
theorem d_Steps_help_49 : decode prog_11_method_20_code 49 = .ok (.astore_n 3, 1) := by decide +kernel
theorem d_Steps_help_50 : decode prog_11_method_20_code 50 = .ok (.aload_n 0, 1) := by decide +kernel
theorem d_Steps_help_51 : decode prog_11_method_20_code 51 = .ok (.getfield 44, 3) := by decide +kernel
theorem d_Steps_help_54 : decode prog_11_method_20_code 54 = .ok (.getfield 119, 3) := by decide +kernel
theorem d_Steps_help_57 : decode prog_11_method_20_code 57 = .ok (.lookupswitch (74) #[(1, 35), (4, 58), (6, 66)], 35) := by decide +kernel
theorem d_Steps_help_92 : decode prog_11_method_20_code 92 = .ok (.aload_n 3, 1) := by decide +kernel
theorem d_Steps_help_93 : decode prog_11_method_20_code 93 = .ok (.bipush 8, 2) := by decide +kernel
theorem d_Steps_help_95 : decode prog_11_method_20_code 95 = .ok (.iconst 0, 1) := by decide +kernel
theorem d_Steps_help_96 : decode prog_11_method_20_code 96 = .ok (.invokevirtual 115, 3) := by decide +kernel
theorem d_Steps_help_99 : decode prog_11_method_20_code 99 = .ok (.aload_n 3, 1) := by decide +kernel
theorem d_Steps_help_100 : decode prog_11_method_20_code 100 = .ok (.iload_n 2, 1) := by decide +kernel
theorem d_Steps_help_101 : decode prog_11_method_20_code 101 = .ok (.putfield 122, 3) := by decide +kernel
theorem d_Steps_help_104 : decode prog_11_method_20_code 104 = .ok (.aload_n 3, 1) := by decide +kernel
theorem d_Steps_help_105 : decode prog_11_method_20_code 105 = .ok (.aload_n 0, 1) := by decide +kernel
theorem d_Steps_help_106 : decode prog_11_method_20_code 106 = .ok (.invokevirtual 191, 3) := by decide +kernel
theorem d_Steps_help_109 : decode prog_11_method_20_code 109 = .ok (.putfield 194, 3) := by decide +kernel
theorem d_Steps_help_112 : decode prog_11_method_20_code 112 = .ok (.goto 23, 3) := by decide +kernel
theorem d_Steps_help_135 : decode prog_11_method_20_code 135 = .ok (.iconst 0, 1) := by decide +kernel
theorem d_Steps_help_136 : decode prog_11_method_20_code 136 = .ok (.ireturn, 1) := by decide +kernel
theorem d_Steps_help_115 : decode prog_11_method_20_code 115 = .ok (.aload_n 3, 1) := by decide +kernel
theorem d_Steps_help_116 : decode prog_11_method_20_code 116 = .ok (.lconst 0, 1) := by decide +kernel
theorem d_Steps_help_117 : decode prog_11_method_20_code 117 = .ok (.invokevirtual 111, 3) := by decide +kernel
theorem d_Steps_help_120 : decode prog_11_method_20_code 120 = .ok (.goto 15, 3) := by decide +kernel
theorem d_Steps_help_123 : decode prog_11_method_20_code 123 = .ok (.aload_n 3, 1) := by decide +kernel
theorem d_Steps_help_124 : decode prog_11_method_20_code 124 = .ok (.iconst 4, 1) := by decide +kernel
theorem d_Steps_help_125 : decode prog_11_method_20_code 125 = .ok (.invokevirtual 301, 3) := by decide +kernel
theorem u_1376 : Cond.methodLink "FilterGuard$Steps" 301 ⟨"FilterGuard$Cell", "becomeRead", "(I)V"⟩ ∈ fg_g := fg_in (List.mem_of_getElem? (i := 1376) (by decide +kernel)) rfl
theorem u_1379 : Cond.code ⟨"FilterGuard$Cell", "becomeRead", "(I)V"⟩ prog_2_method_6_code 2 none ∈ fg_g := fg_in (List.mem_of_getElem? (i := 1379) (by decide +kernel)) rfl
theorem u_1377 : Cond.instanceMethod ⟨"FilterGuard$Cell", "becomeRead", "(I)V"⟩ ∈ fg_g := fg_in (List.mem_of_getElem? (i := 1377) (by decide +kernel)) rfl
theorem u_1378 : Cond.selects "FilterGuard$Cell" ⟨"FilterGuard$Cell", "becomeRead", "(I)V"⟩ ⟨"FilterGuard$Cell", "becomeRead", "(I)V"⟩ ∈ fg_g := fg_in (List.mem_of_getElem? (i := 1378) (by decide +kernel)) rfl
theorem d_Steps_help_128 : decode prog_11_method_20_code 128 = .ok (.goto 7, 3) := by decide +kernel
theorem d_Steps_help_131 : decode prog_11_method_20_code 131 = .ok (.aload_n 3, 1) := by decide +kernel
theorem d_Steps_help_132 : decode prog_11_method_20_code 132 = .ok (.invokevirtual 164, 3) := by decide +kernel
theorem d_Steps_help_28 : decode prog_11_method_20_code 28 = .ok (.aload_n 0, 1) := by decide +kernel
theorem d_Steps_help_29 : decode prog_11_method_20_code 29 = .ok (.getfield 66, 3) := by decide +kernel
theorem d_Steps_help_32 : decode prog_11_method_20_code 32 = .ok (.iload_n 3, 1) := by decide +kernel
theorem d_Steps_help_33 : decode prog_11_method_20_code 33 = .ok (.aaload, 1) := by decide +kernel
theorem d_Steps_help_34 : decode prog_11_method_20_code 34 = .ok (.invokevirtual 311, 3) := by decide +kernel
theorem u_1375 : Cond.methodLink "FilterGuard$Steps" 311 ⟨"FilterGuard$Cell", "clear", "()V"⟩ ∈ fg_g := fg_in (List.mem_of_getElem? (i := 1375) (by decide +kernel)) rfl
theorem d_Steps_help_37 : decode prog_11_method_20_code 37 = .ok (.iinc 3 1, 3) := by decide +kernel
theorem d_Steps_help_40 : decode prog_11_method_20_code 40 = .ok (.goto (-17), 3) := by decide +kernel
theorem d_Steps_help_0 : decode prog_11_method_20_code 0 = .ok (.aload_n 0, 1) := by decide +kernel
theorem d_Steps_help_1 : decode prog_11_method_20_code 1 = .ok (.invokevirtual 308, 3) := by decide +kernel
theorem u_1342 : Cond.methodLink "FilterGuard$Steps" 308 ⟨"FilterGuard$Steps", "faultOfArguments", "()I"⟩ ∈ fg_g := fg_in (List.mem_of_getElem? (i := 1342) (by decide +kernel)) rfl
theorem u_1345 : Cond.code ⟨"FilterGuard$Steps", "faultOfArguments", "()I"⟩ prog_11_method_21_code 5 (some .int) ∈ fg_g := fg_in (List.mem_of_getElem? (i := 1345) (by decide +kernel)) rfl
theorem u_1344 : Cond.instanceMethod ⟨"FilterGuard$Steps", "faultOfArguments", "()I"⟩ ∈ fg_g := fg_in (List.mem_of_getElem? (i := 1344) (by decide +kernel)) rfl
theorem u_43 : Cond.selects "FilterGuard$Steps" ⟨"FilterGuard$Steps", "faultOfArguments", "()I"⟩ ⟨"FilterGuard$Steps", "faultOfArguments", "()I"⟩ ∈ fg_g := fg_in (List.mem_of_getElem? (i := 43) (by decide +kernel)) rfl
theorem d_Steps_help_4 : decode prog_11_method_20_code 4 = .ok (.istore_n 1, 1) := by decide +kernel
theorem d_Steps_help_5 : decode prog_11_method_20_code 5 = .ok (.iload_n 1, 1) := by decide +kernel
theorem d_Steps_help_6 : decode prog_11_method_20_code 6 = .ok (.ifCond .eq 5, 3) := by decide +kernel
theorem d_Steps_help_11 : decode prog_11_method_20_code 11 = .ok (.aload_n 0, 1) := by decide +kernel
theorem d_Steps_help_12 : decode prog_11_method_20_code 12 = .ok (.getfield 66, 3) := by decide +kernel
theorem d_Steps_help_15 : decode prog_11_method_20_code 15 = .ok (.iconst 1, 1) := by decide +kernel
theorem d_Steps_help_16 : decode prog_11_method_20_code 16 = .ok (.aaload, 1) := by decide +kernel
theorem d_Steps_help_17 : decode prog_11_method_20_code 17 = .ok (.getfield 122, 3) := by decide +kernel
theorem d_Steps_help_20 : decode prog_11_method_20_code 20 = .ok (.istore_n 2, 1) := by decide +kernel
theorem d_Steps_help_21 : decode prog_11_method_20_code 21 = .ok (.iconst 1, 1) := by decide +kernel
theorem d_Steps_help_22 : decode prog_11_method_20_code 22 = .ok (.istore_n 3, 1) := by decide +kernel
theorem d_Steps_help_9 : decode prog_11_method_20_code 9 = .ok (.iload_n 1, 1) := by decide +kernel
theorem d_Steps_help_10 : decode prog_11_method_20_code 10 = .ok (.ireturn, 1) := by decide +kernel
abbrev y_Steps_help : MethodName := ⟨"FilterGuard$Steps", "help", "()I"⟩
def rm_Steps_help : Room := { frames := 6, cells := 0, slots := 0, locals := 152 }
abbrev q_Steps_help (D : va_G) (ad : Nat → Nat → Nat) (ca : Nat → ClassId) (N : Nat → Nat) (M0 MZ : me_M) (RZ : Int32) (A : Nat → Prop) : Array Value → Jvm.State → Outcome → Jvm.State → Prop := va_Qi (fun r (_ : Unit) => r = RZ ∧ me_wf N MZ ∧ me_kp M0 MZ) (fg_B D A (fun _ => me_W ad ca MZ) (fun _ => [])) A
set_option maxHeartbeats 4000000 in
set_option maxRecDepth 100000 in
theorem c_Steps_help (l : Launch) (D : va_G) (ad : Nat → Nat → Nat) (ca : Nat → ClassId) (N : Nat → Nat) (M0 MZ : me_M) (RZ : Int32) (j0 : Nat) (h : f_Steps_help M0 j0 = (some (MZ, RZ))) (hwf : me_wf N M0) (hj0 : j0 < N 7) (sz : Nat) : Met l y_Steps_help (fg_w y_Steps_help prog_11_method_20_code 4 (some .int)) rm_Steps_help (va_Pc [.ref (ad 7 j0)] (fz_P D (me_T ca) (me_W ad ca M0) sz)) (q_Steps_help D ad ca N M0 MZ RZ (va_A (me_W ad ca M0) sz)) rm_Steps_help.cells rm_Steps_help.slots (va_A (me_W ad ca M0) sz) := by
  refine fz_enter (fun A => q_Steps_help D ad ca N M0 MZ RZ A) (by decide +kernel) (Nat.le_of_ble_eq_true rfl) ?_
  intro p e s m below meth c ls A hx hb hml hown hts hr hlocks hin hP hK hD hS hA hX hl hz
  have hl : lv_has ls 4 [(0, .ref (ad 7 j0))] := hl
  unfold f_Steps_help at h
  have hkp : me_kp M0 M0 := me_kp.rf
  have hkb := hkp
  have b_23 : ∀ (fu : Nat), ∀ (M : me_M) (y2 : Int32) (y3 : Int32) (H : Heap) (locs : List Loc) (ls : Array Slot), f_Steps_help_l23 j0 fu M y2 y3 = (some (MZ, RZ)) → me_wf N M → me_kp M0 M → va_P D classes (me_W ad ca M) H → va_D A (me_W ad ca M) → va_S A s.heap H locs → lv_has ls 4 [(0, .ref (ad 7 j0)), (2, .int y2), (3, .int y3)] → W p l e rm_Steps_help s m [.ref (ad 7 j0)].toArray below meth c H locs 0 0 (MQ below (q_Steps_help D ad ca N M0 MZ RZ A) [.ref (ad 7 j0)].toArray s rm_Steps_help.cells rm_Steps_help.slots A) (F0 m 23 ls []) := by
    intro fu
    induction fu with
    | zero =>
      intro M y2 y3 H locs ls h hwf hkp hP hD hS hl
      cases h
    | succ fu ih =>
      intro M y2 y3 H locs ls h hwf hkp hP hD hS hl
      unfold f_Steps_help_l23 at h
      have hkb := hkp
      refine lv_iload_n hx hb d_Steps_help_23 rfl (lv_at hl 2 rfl) ?_
      refine lv_iconst (v := 5) hx hb d_Steps_help_24 (by decide) ?_
      refine lv_icmp_gt (tgt := 43) hx hb d_Steps_help_25 (by decide) (fun c1 => ?_) (fun c1 => ?_)
      · have h := if_t c1 h
        refine lv_aload_n hx hb d_Steps_help_43 rfl (lv_at hl 0 rfl) ?_
        refine g_Steps_5 hx hb hts hown hK hP hwf hj0 (hts _ u_460) d_Steps_help_44 ?_
        obtain ⟨j2, e3, h⟩ := bd_ob h
        have hj2 : j2 < N 18 := (hwf.2.1 7 j0 5 _ e3 (by decide) hj0)
        refine me_opt (j := j2) e3 ?_
        refine lv_iconst (v := 0) hx hb d_Steps_help_47 (by decide) ?_
        obtain ⟨g4, h⟩ := gd_ob h
        refine me_aald (k := 18) (t := 10) hx hb hK hP hwf hj2 (by decide) (by decide) rfl (fun _ => rfl) (me_in (i := (0 : Int32)) (k := 0) (by decide) (by decide) g4) d_Steps_help_48 ?_
        rw [show (0 : Int32).toNatClampNeg = 0 by decide]
        obtain ⟨j5, e6, h⟩ := bd_ob h
        have hj5 : j5 < N 10 := (hwf.2.1 18 j2 0 _ e6 (by decide) hj2)
        refine me_opt (j := j5) e6 ?_
        refine lv_astore_n (lv' := [(3, .ref (ad 10 j5)), (0, .ref (ad 7 j0)), (2, .int y2)]) hx hb d_Steps_help_49 rfl hl (by decide) rfl (fun ls hl => ?_)
        refine lv_aload_n hx hb d_Steps_help_50 rfl (lv_at hl 1 rfl) ?_
        refine g_Steps_0 hx hb hts hown hK hP hwf hj0 (hts _ u_455) d_Steps_help_51 ?_
        obtain ⟨j7, e8, h⟩ := bd_ob h
        have hj7 : j7 < N 2 := (hwf.2.1 7 j0 0 _ e8 (by decide) hj0)
        refine me_opt (j := j7) e8 ?_
        refine g_Code_9 hx hb hts hown hK hP hwf hj7 (hts _ u_248) d_Steps_help_54 ?_
        refine lv_topi (fun w9 ew9 => ?_)
        by_cases n10 : w9 = 1
        · have h := if_t (ew9.symm.trans n10) h
          subst n10
          refine lv_lookup (off := 35) (tgt := 92) hx hb d_Steps_help_57 (by decide) (by decide) (by decide) ?_
          refine lv_aload_n hx hb d_Steps_help_92 rfl (lv_at hl 0 rfl) ?_
          refine lv_bipush (v := 8) hx hb d_Steps_help_93 (by decide) ?_
          refine lv_iconst (v := 0) hx hb d_Steps_help_95 (by decide) ?_
          obtain ⟨M11, eM11, h⟩ := bd_ob h
          refine me_thenv0 (M1 := M11) (me_runV (C := "FilterGuard$Cell") (As := [.int 8, .int 0]) (rest := []) ⟨hx, hb, hml, hown, hts⟩ (c_Cell_become l D ad ca N M M11 j5 (8 : Int32) (0 : Int32) eM11 hwf hj5 _) rfl (by show fg_nm y_Cell_become 2; decide +kernel) u_1108 u_1033 u_1034 u_188 u_1035 ⟨Nat.le_of_ble_eq_true rfl, Nat.le_of_ble_eq_true rfl⟩ hX hz hK hP hD hwf hS hA hj5 (by decide) rfl rfl rfl hl.1 (Nat.le_of_ble_eq_true rfl) d_Steps_help_96 ⟨Nat.le_of_ble_eq_true rfl, Nat.le_of_ble_eq_true rfl⟩) hP hD hK hS hA rfl rfl (fun H locs hw hP hD hS => ?_)
          obtain ⟨hwf, hk9⟩ := hw
          have hkp := hkp.tr hk9
          refine lv_aload_n hx hb d_Steps_help_99 rfl (lv_at hl 0 rfl) ?_
          refine lv_iload_n hx hb d_Steps_help_100 rfl (lv_at hl 2 rfl) ?_
          obtain ⟨M12, eM12, h⟩ := st_ob h
          refine p_Cell_2 eM12 hx hb hts hown hK hP hD hwf hS hj5 (hts _ u_427) d_Steps_help_101 (fun H locs hP hD hwf hS => ?_)
          have hkp := kp_I eM12 hkp
          refine lv_aload_n hx hb d_Steps_help_104 rfl (lv_at hl 0 rfl) ?_
          refine lv_aload_n hx hb d_Steps_help_105 rfl (lv_at hl 1 rfl) ?_
          obtain ⟨M13, r14, eM13, h⟩ := b2_ob h
          refine me_theni0 (M1 := M13) (me_runV (C := "FilterGuard$Steps") (As := []) (rest := [.ref (ad 10 j5)]) ⟨hx, hb, hml, hown, hts⟩ (c_Steps_newIdentity l D ad ca N M12 M13 r14 j0 eM13 hwf hj0 _) rfl (by show fg_nm y_Steps_newIdentity 0; decide +kernel) u_1257 u_1259 u_28 u_185 u_1260 ⟨Nat.le_of_ble_eq_true rfl, Nat.le_of_ble_eq_true rfl⟩ hX hz hK hP hD hwf hS hA hj0 (by decide) rfl rfl rfl hl.1 (Nat.le_of_ble_eq_true rfl) d_Steps_help_106 ⟨Nat.le_of_ble_eq_true rfl, Nat.le_of_ble_eq_true rfl⟩) hP hD hK hS hA rfl rfl (fun H locs hw hP hD hS => ?_)
          obtain ⟨hwf, hk9⟩ := hw
          have hkp := hkp.tr hk9
          obtain ⟨M15, eM15, h⟩ := st_ob h
          refine p_Cell_3 eM15 hx hb hts hown hK hP hD hwf hS hj5 (hts _ u_430) d_Steps_help_109 (fun H locs hP hD hwf hS => ?_)
          have hkp := kp_I eM15 hkp
          refine lv_goto (tgt := 135) hx hb d_Steps_help_112 (by decide) ?_
          refine lv_iconst (v := 0) hx hb d_Steps_help_135 (by decide) ?_
          exact me_reti (me_kp M0) h hx hb hr hlocks hwf hkp hP hK hD hS d_Steps_help_136
        have h := if_f (fun z => n10 (ew9.trans z)) h
        by_cases n16 : w9 = 4
        · have h := if_t (ew9.symm.trans n16) h
          subst n16
          refine lv_lookup (off := 58) (tgt := 115) hx hb d_Steps_help_57 (by decide) (by decide) (by decide) ?_
          refine lv_aload_n hx hb d_Steps_help_115 rfl (lv_at hl 0 rfl) ?_
          refine lv_lconst (v := 0) hx hb d_Steps_help_116 (by decide) ?_
          obtain ⟨M17, eM17, h⟩ := bd_ob h
          refine me_thenv0 (M1 := M17) (me_runV (C := "FilterGuard$Cell") (As := [.long 0]) (rest := []) ⟨hx, hb, hml, hown, hts⟩ (c_Cell_becomeExact l D ad ca N M M17 j5 (0 : Int64) eM17 hwf hj5 _) rfl (by show fg_nm y_Cell_becomeExact 1; decide +kernel) u_1104 u_1105 u_1106 u_188 u_1107 ⟨Nat.le_of_ble_eq_true rfl, Nat.le_of_ble_eq_true rfl⟩ hX hz hK hP hD hwf hS hA hj5 (by decide) rfl rfl rfl hl.1 (Nat.le_of_ble_eq_true rfl) d_Steps_help_117 ⟨Nat.le_of_ble_eq_true rfl, Nat.le_of_ble_eq_true rfl⟩) hP hD hK hS hA rfl rfl (fun H locs hw hP hD hS => ?_)
          obtain ⟨hwf, hk9⟩ := hw
          have hkp := hkp.tr hk9
          refine lv_goto (tgt := 135) hx hb d_Steps_help_120 (by decide) ?_
          refine lv_iconst (v := 0) hx hb d_Steps_help_135 (by decide) ?_
          exact me_reti (me_kp M0) h hx hb hr hlocks hwf hkp hP hK hD hS d_Steps_help_136
        have h := if_f (fun z => n16 (ew9.trans z)) h
        by_cases n18 : w9 = 6
        · have h := if_t (ew9.symm.trans n18) h
          subst n18
          refine lv_lookup (off := 66) (tgt := 123) hx hb d_Steps_help_57 (by decide) (by decide) (by decide) ?_
          refine lv_aload_n hx hb d_Steps_help_123 rfl (lv_at hl 0 rfl) ?_
          refine lv_iconst (v := 4) hx hb d_Steps_help_124 (by decide) ?_
          obtain ⟨M19, eM19, h⟩ := bd_ob h
          refine me_thenv0 (M1 := M19) (me_runV (C := "FilterGuard$Cell") (As := [.int 4]) (rest := []) ⟨hx, hb, hml, hown, hts⟩ (c_Cell_becomeRead l D ad ca N M M19 j5 (4 : Int32) eM19 hwf hj5 _) rfl (by show fg_nm y_Cell_becomeRead 1; decide +kernel) u_1376 u_1377 u_1378 u_188 u_1379 ⟨Nat.le_of_ble_eq_true rfl, Nat.le_of_ble_eq_true rfl⟩ hX hz hK hP hD hwf hS hA hj5 (by decide) rfl rfl rfl hl.1 (Nat.le_of_ble_eq_true rfl) d_Steps_help_125 ⟨Nat.le_of_ble_eq_true rfl, Nat.le_of_ble_eq_true rfl⟩) hP hD hK hS hA rfl rfl (fun H locs hw hP hD hS => ?_)
          obtain ⟨hwf, hk9⟩ := hw
          have hkp := hkp.tr hk9
          refine lv_goto (tgt := 135) hx hb d_Steps_help_128 (by decide) ?_
          refine lv_iconst (v := 0) hx hb d_Steps_help_135 (by decide) ?_
          exact me_reti (me_kp M0) h hx hb hr hlocks hwf hkp hP hK hD hS d_Steps_help_136
        have h := if_f (fun z => n18 (ew9.trans z)) h
        refine lv_lookup (off := 74) (tgt := 131) hx hb d_Steps_help_57 (by decide) ((lv_osw (a := 1) (o := 35) n10 (by decide)).trans ((lv_osw (a := 4) (o := 58) n16 (by decide)).trans ((lv_osw (a := 6) (o := 66) n18 (by decide)).trans rfl))) (by decide) ?_
        refine lv_aload_n hx hb d_Steps_help_131 rfl (lv_at hl 0 rfl) ?_
        obtain ⟨M20, eM20, h⟩ := bd_ob h
        refine me_thenv0 (M1 := M20) (me_runV (C := "FilterGuard$Cell") (As := []) (rest := []) ⟨hx, hb, hml, hown, hts⟩ (c_Cell_becomeAny l D ad ca N M M20 j5 eM20 hwf hj5 _) rfl (by show fg_nm y_Cell_becomeAny 0; decide +kernel) u_1266 u_1267 u_1268 u_188 u_1269 ⟨Nat.le_of_ble_eq_true rfl, Nat.le_of_ble_eq_true rfl⟩ hX hz hK hP hD hwf hS hA hj5 (by decide) rfl rfl rfl hl.1 (Nat.le_of_ble_eq_true rfl) d_Steps_help_132 ⟨Nat.le_of_ble_eq_true rfl, Nat.le_of_ble_eq_true rfl⟩) hP hD hK hS hA rfl rfl (fun H locs hw hP hD hS => ?_)
        obtain ⟨hwf, hk9⟩ := hw
        have hkp := hkp.tr hk9
        refine lv_iconst (v := 0) hx hb d_Steps_help_135 (by decide) ?_
        exact me_reti (me_kp M0) h hx hb hr hlocks hwf hkp hP hK hD hS d_Steps_help_136
      have h := if_f c1 h
      refine lv_aload_n hx hb d_Steps_help_28 rfl (lv_at hl 0 rfl) ?_
      refine g_Steps_5 hx hb hts hown hK hP hwf hj0 (hts _ u_460) d_Steps_help_29 ?_
      obtain ⟨j21, e22, h⟩ := bd_ob h
      have hj21 : j21 < N 18 := (hwf.2.1 7 j0 5 _ e22 (by decide) hj0)
      refine me_opt (j := j21) e22 ?_
      refine lv_iload_n hx hb d_Steps_help_32 rfl (lv_at hl 2 rfl) ?_
      obtain ⟨g23, h⟩ := gd_ob h
      refine me_aald (k := 18) (t := 10) hx hb hK hP hwf hj21 (by decide) (by decide) rfl (fun _ => rfl) g23 d_Steps_help_33 ?_
      obtain ⟨j24, e25, h⟩ := bd_ob h
      have hj24 : j24 < N 10 := (hwf.2.1 18 j21 y3.toNatClampNeg _ e25 (by decide) hj21)
      refine me_opt (j := j24) e25 ?_
      obtain ⟨M26, eM26, h⟩ := bd_ob h
      refine me_thenv0 (M1 := M26) (me_runV (C := "FilterGuard$Cell") (As := []) (rest := []) ⟨hx, hb, hml, hown, hts⟩ (c_Cell_clear l D ad ca N M M26 j24 eM26 hwf hj24 _) rfl (by show fg_nm y_Cell_clear 0; decide +kernel) u_1375 u_1029 u_1030 u_188 u_1031 ⟨Nat.le_of_ble_eq_true rfl, Nat.le_of_ble_eq_true rfl⟩ hX hz hK hP hD hwf hS hA hj24 (by decide) rfl rfl rfl hl.1 (Nat.le_of_ble_eq_true rfl) d_Steps_help_34 ⟨Nat.le_of_ble_eq_true rfl, Nat.le_of_ble_eq_true rfl⟩) hP hD hK hS hA rfl rfl (fun H locs hw hP hD hS => ?_)
      obtain ⟨hwf, hk9⟩ := hw
      have hkp := hkp.tr hk9
      refine lv_iinc (v := y3 + 1) (lv' := [(3, .int (y3 + 1)), (0, .ref (ad 7 j0)), (2, .int y2)]) hx hb d_Steps_help_37 hl (k := 2) rfl (by rfl) (by decide) rfl (fun ls hl => ?_)
      refine lv_goto (tgt := 23) hx hb d_Steps_help_40 (by decide) ?_
      exact ih M26 y2 (y3 + 1) _ _ _ h hwf hkp hP hD hS (lv_sub hl [1, 2, 0] rfl)
  refine lv_aload_n hx hb d_Steps_help_0 rfl (lv_at hl 0 rfl) ?_
  obtain ⟨M27, r28, eM27, h⟩ := b2_ob h
  refine me_theni0 (M1 := M27) (me_runV (C := "FilterGuard$Steps") (As := []) (rest := []) ⟨hx, hb, hml, hown, hts⟩ (c_Steps_faultOfArguments l D ad ca N M0 M27 r28 j0 eM27 hwf hj0 _) rfl (by show fg_nm y_Steps_faultOfArguments 0; decide +kernel) u_1342 u_1344 u_43 u_185 u_1345 ⟨Nat.le_of_ble_eq_true rfl, Nat.le_of_ble_eq_true rfl⟩ hX hz hK hP hD hwf hS hA hj0 (by decide) rfl rfl rfl hl.1 (Nat.le_of_ble_eq_true rfl) d_Steps_help_1 ⟨Nat.le_of_ble_eq_true rfl, Nat.le_of_ble_eq_true rfl⟩) hP hD hK hS hA rfl rfl (fun H locs hw hP hD hS => ?_)
  obtain ⟨hwf, hk9⟩ := hw
  have hkp := hkp.tr hk9
  refine lv_istore_n (lv' := [(1, .int r28), (0, .ref (ad 7 j0))]) hx hb d_Steps_help_4 rfl hl (by decide) rfl (fun ls hl => ?_)
  refine lv_iload_n hx hb d_Steps_help_5 rfl (lv_at hl 0 rfl) ?_
  refine lv_if_eq (tgt := 11) hx hb d_Steps_help_6 (by decide) (fun c29 => ?_) (fun c29 => ?_)
  · have h := if_t c29 h
    refine lv_aload_n hx hb d_Steps_help_11 rfl (lv_at hl 1 rfl) ?_
    refine g_Steps_5 hx hb hts hown hK hP hwf hj0 (hts _ u_460) d_Steps_help_12 ?_
    obtain ⟨j30, e31, h⟩ := bd_ob h
    have hj30 : j30 < N 18 := (hwf.2.1 7 j0 5 _ (kp_r hkb hkp e31) (by decide) hj0)
    refine me_opt (j := j30) (kp_r hkb hkp e31) ?_
    refine lv_iconst (v := 1) hx hb d_Steps_help_15 (by decide) ?_
    obtain ⟨g32, h⟩ := gd_ob h
    refine me_aald (k := 18) (t := 10) hx hb hK hP hwf hj30 (by decide) (by decide) rfl (fun _ => rfl) (me_in (i := (1 : Int32)) (k := 1) (by decide) (by decide) (kp_c hkb.z hkp.z g32)) d_Steps_help_16 ?_
    rw [show (1 : Int32).toNatClampNeg = 1 by decide]
    obtain ⟨j33, e34, h⟩ := bd_ob h
    have hj33 : j33 < N 10 := (hwf.2.1 18 j30 1 _ (kp_r hkb hkp e34) (by decide) hj30)
    refine me_opt (j := j33) (kp_r hkb hkp e34) ?_
    refine g_Cell_2 hx hb hts hown hK hP hwf hj33 (hts _ u_427) d_Steps_help_17 ?_
    obtain ⟨v35, ev35, h⟩ := st_ob h
    refine fg_topi (y := v35) ev35.symm ?_
    refine lv_istore_n (lv' := [(2, .int v35), (1, .int r28), (0, .ref (ad 7 j0))]) hx hb d_Steps_help_20 rfl hl (by decide) rfl (fun ls hl => ?_)
    refine lv_iconst (v := 1) hx hb d_Steps_help_21 (by decide) ?_
    refine lv_istore_n (lv' := [(3, .int 1), (2, .int v35), (1, .int r28), (0, .ref (ad 7 j0))]) hx hb d_Steps_help_22 rfl hl (by decide) rfl (fun ls hl => ?_)
    exact b_23 _ M27 v35 (1 : Int32) _ _ _ h hwf hkp hP hD hS (lv_sub hl [3, 1, 0] rfl)
  have h := if_f c29 h
  refine lv_iload_n hx hb d_Steps_help_9 rfl (lv_at hl 0 rfl) ?_
  exact me_reti (me_kp M0) h hx hb hr hlocks hwf hkp hP hK hD hS d_Steps_help_10
theorem d_Steps_isPlace_19 : decode prog_11_method_14_code 19 = .ok (.istore 4, 2) := by decide +kernel
theorem d_Steps_isPlace_21 : decode prog_11_method_14_code 21 = .ok (.aload_n 1, 1) := by decide +kernel
theorem d_Steps_isPlace_22 : decode prog_11_method_14_code 22 = .ok (.getfield 76, 3) := by decide +kernel
theorem d_Steps_isPlace_25 : decode prog_11_method_14_code 25 = .ok (.tableswitch 125 2 4 #[27, 73, 97], 27) := by decide +kernel
theorem d_Steps_isPlace_52 : decode prog_11_method_14_code 52 = .ok (.aload_n 0, 1) := by decide +kernel
theorem d_Steps_isPlace_53 : decode prog_11_method_14_code 53 = .ok (.getfield 44, 3) := by decide +kernel
theorem d_Steps_isPlace_56 : decode prog_11_method_14_code 56 = .ok (.getfield 85, 3) := by decide +kernel
theorem u_251 : Cond.fieldLink "FilterGuard$Steps" 85 "FilterGuard$Code" "family" "I" ∈ fg_g := fg_in (List.mem_of_getElem? (i := 251) (by decide +kernel)) rfl
theorem d_Steps_isPlace_59 : decode prog_11_method_14_code 59 = .ok (.iconst 2, 1) := by decide +kernel
theorem d_Steps_isPlace_60 : decode prog_11_method_14_code 60 = .ok (.if_icmp .ne 36, 3) := by decide +kernel
theorem d_Steps_isPlace_96 : decode prog_11_method_14_code 96 = .ok (.iconst 0, 1) := by decide +kernel
theorem d_Steps_isPlace_97 : decode prog_11_method_14_code 97 = .ok (.ireturn, 1) := by decide +kernel
theorem d_Steps_isPlace_63 : decode prog_11_method_14_code 63 = .ok (.iload_n 2, 1) := by decide +kernel
theorem d_Steps_isPlace_64 : decode prog_11_method_14_code 64 = .ok (.ifCond .lt 32, 3) := by decide +kernel
theorem d_Steps_isPlace_67 : decode prog_11_method_14_code 67 = .ok (.iload_n 2, 1) := by decide +kernel
theorem d_Steps_isPlace_68 : decode prog_11_method_14_code 68 = .ok (.iload_n 3, 1) := by decide +kernel
theorem d_Steps_isPlace_69 : decode prog_11_method_14_code 69 = .ok (.iadd, 1) := by decide +kernel
theorem d_Steps_isPlace_70 : decode prog_11_method_14_code 70 = .ok (.bipush 64, 2) := by decide +kernel
theorem d_Steps_isPlace_72 : decode prog_11_method_14_code 72 = .ok (.if_icmp .gt 24, 3) := by decide +kernel
theorem d_Steps_isPlace_75 : decode prog_11_method_14_code 75 = .ok (.iload 4, 2) := by decide +kernel
theorem d_Steps_isPlace_77 : decode prog_11_method_14_code 77 = .ok (.ifCond .eq 19, 3) := by decide +kernel
theorem d_Steps_isPlace_80 : decode prog_11_method_14_code 80 = .ok (.iload_n 2, 1) := by decide +kernel
theorem d_Steps_isPlace_81 : decode prog_11_method_14_code 81 = .ok (.bipush 16, 2) := by decide +kernel
theorem d_Steps_isPlace_83 : decode prog_11_method_14_code 83 = .ok (.if_icmp .ge 9, 3) := by decide +kernel
theorem d_Steps_isPlace_92 : decode prog_11_method_14_code 92 = .ok (.iconst 1, 1) := by decide +kernel
theorem d_Steps_isPlace_93 : decode prog_11_method_14_code 93 = .ok (.goto 4, 3) := by decide +kernel
theorem d_Steps_isPlace_86 : decode prog_11_method_14_code 86 = .ok (.iload_n 3, 1) := by decide +kernel
theorem d_Steps_isPlace_87 : decode prog_11_method_14_code 87 = .ok (.bipush 8, 2) := by decide +kernel
theorem d_Steps_isPlace_89 : decode prog_11_method_14_code 89 = .ok (.if_icmp .ne 7, 3) := by decide +kernel
theorem d_Steps_isPlace_98 : decode prog_11_method_14_code 98 = .ok (.iload_n 2, 1) := by decide +kernel
theorem d_Steps_isPlace_99 : decode prog_11_method_14_code 99 = .ok (.sipush (-512), 3) := by decide +kernel
theorem d_Steps_isPlace_102 : decode prog_11_method_14_code 102 = .ok (.if_icmp .lt 18, 3) := by decide +kernel
theorem d_Steps_isPlace_120 : decode prog_11_method_14_code 120 = .ok (.iconst 0, 1) := by decide +kernel
theorem d_Steps_isPlace_121 : decode prog_11_method_14_code 121 = .ok (.ireturn, 1) := by decide +kernel
theorem d_Steps_isPlace_105 : decode prog_11_method_14_code 105 = .ok (.iload_n 2, 1) := by decide +kernel
theorem d_Steps_isPlace_106 : decode prog_11_method_14_code 106 = .ok (.iload_n 3, 1) := by decide +kernel
theorem d_Steps_isPlace_107 : decode prog_11_method_14_code 107 = .ok (.iadd, 1) := by decide +kernel
theorem d_Steps_isPlace_108 : decode prog_11_method_14_code 108 = .ok (.ifCond .gt 12, 3) := by decide +kernel
theorem d_Steps_isPlace_111 : decode prog_11_method_14_code 111 = .ok (.iload 4, 2) := by decide +kernel
theorem d_Steps_isPlace_113 : decode prog_11_method_14_code 113 = .ok (.ifCond .eq 7, 3) := by decide +kernel
theorem d_Steps_isPlace_116 : decode prog_11_method_14_code 116 = .ok (.iconst 1, 1) := by decide +kernel
theorem d_Steps_isPlace_117 : decode prog_11_method_14_code 117 = .ok (.goto 4, 3) := by decide +kernel
theorem d_Steps_isPlace_122 : decode prog_11_method_14_code 122 = .ok (.aload_n 0, 1) := by decide +kernel
theorem d_Steps_isPlace_123 : decode prog_11_method_14_code 123 = .ok (.getfield 44, 3) := by decide +kernel
theorem d_Steps_isPlace_126 : decode prog_11_method_14_code 126 = .ok (.getfield 85, 3) := by decide +kernel
theorem d_Steps_isPlace_129 : decode prog_11_method_14_code 129 = .ok (.iconst 5, 1) := by decide +kernel
theorem d_Steps_isPlace_130 : decode prog_11_method_14_code 130 = .ok (.if_icmp .eq 18, 3) := by decide +kernel
theorem d_Steps_isPlace_148 : decode prog_11_method_14_code 148 = .ok (.iconst 0, 1) := by decide +kernel
theorem d_Steps_isPlace_149 : decode prog_11_method_14_code 149 = .ok (.ireturn, 1) := by decide +kernel
theorem d_Steps_isPlace_133 : decode prog_11_method_14_code 133 = .ok (.aload_n 0, 1) := by decide +kernel
theorem d_Steps_isPlace_134 : decode prog_11_method_14_code 134 = .ok (.aload_n 1, 1) := by decide +kernel
theorem d_Steps_isPlace_135 : decode prog_11_method_14_code 135 = .ok (.iload_n 2, 1) := by decide +kernel
theorem d_Steps_isPlace_136 : decode prog_11_method_14_code 136 = .ok (.iload_n 3, 1) := by decide +kernel
theorem d_Steps_isPlace_137 : decode prog_11_method_14_code 137 = .ok (.i2l, 1) := by decide +kernel
theorem d_Steps_isPlace_138 : decode prog_11_method_14_code 138 = .ok (.invokevirtual 272, 3) := by decide +kernel
theorem d_Steps_isPlace_141 : decode prog_11_method_14_code 141 = .ok (.ifCond .eq 7, 3) := by decide +kernel
theorem d_Steps_isPlace_144 : decode prog_11_method_14_code 144 = .ok (.iconst 1, 1) := by decide +kernel
theorem d_Steps_isPlace_145 : decode prog_11_method_14_code 145 = .ok (.goto 4, 3) := by decide +kernel
theorem d_Steps_isPlace_150 : decode prog_11_method_14_code 150 = .ok (.aload_n 0, 1) := by decide +kernel
theorem d_Steps_isPlace_151 : decode prog_11_method_14_code 151 = .ok (.aload_n 1, 1) := by decide +kernel
theorem d_Steps_isPlace_152 : decode prog_11_method_14_code 152 = .ok (.iload_n 2, 1) := by decide +kernel
theorem d_Steps_isPlace_153 : decode prog_11_method_14_code 153 = .ok (.iload_n 3, 1) := by decide +kernel
theorem d_Steps_isPlace_154 : decode prog_11_method_14_code 154 = .ok (.i2l, 1) := by decide +kernel
theorem d_Steps_isPlace_155 : decode prog_11_method_14_code 155 = .ok (.invokevirtual 276, 3) := by decide +kernel
theorem d_Steps_isPlace_158 : decode prog_11_method_14_code 158 = .ok (.ireturn, 1) := by decide +kernel
theorem d_Steps_isPlace_0 : decode prog_11_method_14_code 0 = .ok (.aload_n 0, 1) := by decide +kernel
theorem d_Steps_isPlace_1 : decode prog_11_method_14_code 1 = .ok (.getfield 44, 3) := by decide +kernel
theorem d_Steps_isPlace_4 : decode prog_11_method_14_code 4 = .ok (.getfield 262, 3) := by decide +kernel
theorem u_260 : Cond.fieldLink "FilterGuard$Steps" 262 "FilterGuard$Code" "bytes" "I" ∈ fg_g := fg_in (List.mem_of_getElem? (i := 260) (by decide +kernel)) rfl
theorem g_Code_11 {p : Program} {l : Launch} {e : Env} {R : Room} {s : Jvm.State} {m : MethodId} {args : Array Value} {below : List Frame} {meth : Method} {c : Code} {H : Heap} {locs : List Loc} {cells slots : Nat} {Q : Jvm.State → Prop} {cc : ByteArray} {pc : Nat} {ls : Array Slot} {rest : List Value} {D : va_G} {ad : Nat → Nat → Nat} {ca : Nat → ClassId} {M : me_M} {N : Nat → Nat} {own : String} {index j : Nat} (hexec : p.tables.exec = Jvm.exec) (hb : c.code = cc) (hts : ∀ w ∈ fg_g, w.before args s = true) (hown : s.vm.findClass own = some m.cls) (hK : va_K D classes (me_T ca) s) (hP : va_P D classes (me_W ad ca M) H) (hwf : me_wf N M) (hj : j < N 2) (hlink : (Cond.fieldLink own index "FilterGuard$Code" "bytes" "I").before args s = true) (hdg : decode cc pc = .ok (.getfield index, 3)) (kk : W p l e R s m args below meth c H locs cells slots Q (F0 m (pc + 3) ls (.int (mI M 2 j 11) :: rest))) : W p l e R s m args below meth c H locs cells slots Q (F0 m pc ls (.ref (ad 2 j) :: rest)) := me_get (k := 2) (f := 11) (C := "FilterGuard$Code") (T := F_Code) (Nf := 16) hexec hb hts i_Code hown hK hP hwf hj (by decide) rfl (by decide) (by decide) hlink (fun _ h9 => h9) hdg kk
theorem d_Steps_isPlace_7 : decode prog_11_method_14_code 7 = .ok (.istore_n 3, 1) := by decide +kernel
theorem d_Steps_isPlace_8 : decode prog_11_method_14_code 8 = .ok (.iload_n 2, 1) := by decide +kernel
theorem d_Steps_isPlace_9 : decode prog_11_method_14_code 9 = .ok (.iload_n 3, 1) := by decide +kernel
theorem d_Steps_isPlace_10 : decode prog_11_method_14_code 10 = .ok (.irem, 1) := by decide +kernel
theorem d_Steps_isPlace_11 : decode prog_11_method_14_code 11 = .ok (.ifCond .ne 7, 3) := by decide +kernel
theorem d_Steps_isPlace_18 : decode prog_11_method_14_code 18 = .ok (.iconst 0, 1) := by decide +kernel
theorem d_Steps_isPlace_14 : decode prog_11_method_14_code 14 = .ok (.iconst 1, 1) := by decide +kernel
theorem d_Steps_isPlace_15 : decode prog_11_method_14_code 15 = .ok (.goto 4, 3) := by decide +kernel
abbrev y_Steps_isPlace : MethodName := ⟨"FilterGuard$Steps", "isPlace", "(LFilterGuard$Cell;I)Z"⟩
def rm_Steps_isPlace : Room := { frames := 2, cells := 0, slots := 0, locals := 45 }
abbrev q_Steps_isPlace (D : va_G) (ad : Nat → Nat → Nat) (ca : Nat → ClassId) (N : Nat → Nat) (M0 MZ : me_M) (RZ : Int32) (A : Nat → Prop) : Array Value → Jvm.State → Outcome → Jvm.State → Prop := va_Qi (fun r (_ : Unit) => r = RZ ∧ me_wf N MZ ∧ me_kp M0 MZ ∧ (RZ = 1 ∨ RZ = 0)) (fg_B D A (fun _ => me_W ad ca MZ) (fun _ => [])) A
set_option maxHeartbeats 4000000 in
set_option maxRecDepth 100000 in
theorem c_Steps_isPlace (l : Launch) (D : va_G) (ad : Nat → Nat → Nat) (ca : Nat → ClassId) (N : Nat → Nat) (M0 MZ : me_M) (RZ : Int32) (j0 : Nat) (j1 : Nat) (x2 : Int32) (h : f_Steps_isPlace M0 j0 j1 x2 = (some (MZ, RZ))) (hwf : me_wf N M0) (hj0 : j0 < N 7) (hj1 : j1 < N 10) (sz : Nat) : Met l y_Steps_isPlace (fg_w y_Steps_isPlace prog_11_method_14_code 5 (some .boolean)) rm_Steps_isPlace (va_Pc [.ref (ad 7 j0), .ref (ad 10 j1), .int x2] (fz_P D (me_T ca) (me_W ad ca M0) sz)) (q_Steps_isPlace D ad ca N M0 MZ RZ (va_A (me_W ad ca M0) sz)) rm_Steps_isPlace.cells rm_Steps_isPlace.slots (va_A (me_W ad ca M0) sz) := by
  refine fz_enter (fun A => q_Steps_isPlace D ad ca N M0 MZ RZ A) (by decide +kernel) (Nat.le_of_ble_eq_true rfl) ?_
  intro p e s m below meth c ls A hx hb hml hown hts hr hlocks hin hP hK hD hS hA hX hl hz
  have hl : lv_has ls 5 [(0, .ref (ad 7 j0)), (1, .ref (ad 10 j1)), (2, .int x2)] := hl
  unfold f_Steps_isPlace at h
  have hkp : me_kp M0 M0 := me_kp.rf
  have hkb := hkp
  have b_19 : ∀ (M : me_M) (y3 : Int32) (s0 : Int32) (H : Heap) (locs : List Loc) (ls : Array Slot), f_Steps_isPlace_b19 j0 j1 x2 M y3 s0 = (some (MZ, RZ)) → (s0 = 1 ∨ s0 = 0) → me_wf N M → me_kp M0 M → va_P D classes (me_W ad ca M) H → va_D A (me_W ad ca M) → va_S A s.heap H locs → lv_has ls 5 [(0, .ref (ad 7 j0)), (1, .ref (ad 10 j1)), (2, .int x2), (3, .int y3)] → W p l e rm_Steps_isPlace s m [.ref (ad 7 j0), .ref (ad 10 j1), .int x2].toArray below meth c H locs 0 0 (MQ below (q_Steps_isPlace D ad ca N M0 MZ RZ A) [.ref (ad 7 j0), .ref (ad 10 j1), .int x2].toArray s rm_Steps_isPlace.cells rm_Steps_isPlace.slots A) (F0 m 19 ls [.int s0]) := by
    intro M y3 s0 H locs ls h zs0 hwf hkp hP hD hS hl
    unfold f_Steps_isPlace_b19 at h
    have hkb := hkp
    refine lv_istore (lv' := [(4, .int s0), (0, .ref (ad 7 j0)), (1, .ref (ad 10 j1)), (2, .int x2), (3, .int y3)]) hx hb d_Steps_isPlace_19 hl (by decide) rfl (fun ls hl => ?_)
    refine lv_aload_n hx hb d_Steps_isPlace_21 rfl (lv_at hl 2 rfl) ?_
    refine g_Cell_0 hx hb hts hown hK hP hwf hj1 (hts _ u_422) d_Steps_isPlace_22 ?_
    refine lv_topi (fun w1 ew1 => ?_)
    by_cases n2 : w1 = 2
    · have h := if_t (ew1.symm.trans n2) h
      subst n2
      refine lv_tableIn (off := 27) (tgt := 52) hx hb d_Steps_isPlace_25 (by decide) (by decide) (by decide) (by decide) ?_
      refine lv_aload_n hx hb d_Steps_isPlace_52 rfl (lv_at hl 1 rfl) ?_
      refine g_Steps_0 hx hb hts hown hK hP hwf hj0 (hts _ u_455) d_Steps_isPlace_53 ?_
      obtain ⟨j3, e4, h⟩ := bd_ob h
      have hj3 : j3 < N 2 := (hwf.2.1 7 j0 0 _ e4 (by decide) hj0)
      refine me_opt (j := j3) e4 ?_
      refine g_Code_10 hx hb hts hown hK hP hwf hj3 (hts _ u_251) d_Steps_isPlace_56 ?_
      refine lv_iconst (v := 2) hx hb d_Steps_isPlace_59 (by decide) ?_
      refine lv_icmp_ne (tgt := 96) hx hb d_Steps_isPlace_60 (by decide) (fun c5 => ?_) (fun c5 => ?_)
      · have h := if_f c5 h
        refine lv_iconst (v := 0) hx hb d_Steps_isPlace_96 (by decide) ?_
        exact me_retz (me_kp M0) h (by decide) hx hb hr hlocks hwf hkp hP hK hD hS d_Steps_isPlace_97
      have h := if_t c5 h
      refine lv_iload_n hx hb d_Steps_isPlace_63 rfl (lv_at hl 3 rfl) ?_
      refine lv_if_lt (tgt := 96) hx hb d_Steps_isPlace_64 (by decide) (fun c6 => ?_) (fun c6 => ?_)
      · have h := if_t c6 h
        refine lv_iconst (v := 0) hx hb d_Steps_isPlace_96 (by decide) ?_
        exact me_retz (me_kp M0) h (by decide) hx hb hr hlocks hwf hkp hP hK hD hS d_Steps_isPlace_97
      have h := if_f c6 h
      refine lv_iload_n hx hb d_Steps_isPlace_67 rfl (lv_at hl 3 rfl) ?_
      refine lv_iload_n hx hb d_Steps_isPlace_68 rfl (lv_at hl 4 rfl) ?_
      refine lv_iadd hx hb d_Steps_isPlace_69 ?_
      refine lv_bipush (v := 64) hx hb d_Steps_isPlace_70 (by decide) ?_
      refine lv_icmp_gt (tgt := 96) hx hb d_Steps_isPlace_72 (by decide) (fun c7 => ?_) (fun c7 => ?_)
      · have h := if_t c7 h
        refine lv_iconst (v := 0) hx hb d_Steps_isPlace_96 (by decide) ?_
        exact me_retz (me_kp M0) h (by decide) hx hb hr hlocks hwf hkp hP hK hD hS d_Steps_isPlace_97
      have h := if_f c7 h
      refine lv_iload hx hb d_Steps_isPlace_75 (lv_at hl 0 rfl) ?_
      refine lv_if_eq (tgt := 96) hx hb d_Steps_isPlace_77 (by decide) (fun c8 => ?_) (fun c8 => ?_)
      · have h := if_t c8 h
        refine lv_iconst (v := 0) hx hb d_Steps_isPlace_96 (by decide) ?_
        exact me_retz (me_kp M0) h (by decide) hx hb hr hlocks hwf hkp hP hK hD hS d_Steps_isPlace_97
      have h := if_f c8 h
      refine lv_iload_n hx hb d_Steps_isPlace_80 rfl (lv_at hl 3 rfl) ?_
      refine lv_bipush (v := 16) hx hb d_Steps_isPlace_81 (by decide) ?_
      refine lv_icmp_ge (tgt := 92) hx hb d_Steps_isPlace_83 (by decide) (fun c9 => ?_) (fun c9 => ?_)
      · have h := if_t c9 h
        refine lv_iconst (v := 1) hx hb d_Steps_isPlace_92 (by decide) ?_
        refine lv_goto (tgt := 97) hx hb d_Steps_isPlace_93 (by decide) ?_
        exact me_retz (me_kp M0) h (by decide) hx hb hr hlocks hwf hkp hP hK hD hS d_Steps_isPlace_97
      have h := if_f c9 h
      refine lv_iload_n hx hb d_Steps_isPlace_86 rfl (lv_at hl 4 rfl) ?_
      refine lv_bipush (v := 8) hx hb d_Steps_isPlace_87 (by decide) ?_
      refine lv_icmp_ne (tgt := 96) hx hb d_Steps_isPlace_89 (by decide) (fun c10 => ?_) (fun c10 => ?_)
      · have h := if_f c10 h
        refine lv_iconst (v := 0) hx hb d_Steps_isPlace_96 (by decide) ?_
        exact me_retz (me_kp M0) h (by decide) hx hb hr hlocks hwf hkp hP hK hD hS d_Steps_isPlace_97
      have h := if_t c10 h
      refine lv_iconst (v := 1) hx hb d_Steps_isPlace_92 (by decide) ?_
      refine lv_goto (tgt := 97) hx hb d_Steps_isPlace_93 (by decide) ?_
      exact me_retz (me_kp M0) h (by decide) hx hb hr hlocks hwf hkp hP hK hD hS d_Steps_isPlace_97
    have h := if_f (fun z => n2 (ew1.trans z)) h
    by_cases n11 : w1 = 3
    · have h := if_t (ew1.symm.trans n11) h
      subst n11
      refine lv_tableIn (off := 73) (tgt := 98) hx hb d_Steps_isPlace_25 (by decide) (by decide) (by decide) (by decide) ?_
      refine lv_iload_n hx hb d_Steps_isPlace_98 rfl (lv_at hl 3 rfl) ?_
      refine lv_sipush (v := (-512)) hx hb d_Steps_isPlace_99 (by decide) ?_
      refine lv_icmp_lt (tgt := 120) hx hb d_Steps_isPlace_102 (by decide) (fun c12 => ?_) (fun c12 => ?_)
      · have h := if_t c12 h
        refine lv_iconst (v := 0) hx hb d_Steps_isPlace_120 (by decide) ?_
        exact me_retz (me_kp M0) h (by decide) hx hb hr hlocks hwf hkp hP hK hD hS d_Steps_isPlace_121
      have h := if_f c12 h
      refine lv_iload_n hx hb d_Steps_isPlace_105 rfl (lv_at hl 3 rfl) ?_
      refine lv_iload_n hx hb d_Steps_isPlace_106 rfl (lv_at hl 4 rfl) ?_
      refine lv_iadd hx hb d_Steps_isPlace_107 ?_
      refine lv_if_gt (tgt := 120) hx hb d_Steps_isPlace_108 (by decide) (fun c13 => ?_) (fun c13 => ?_)
      · have h := if_t c13 h
        refine lv_iconst (v := 0) hx hb d_Steps_isPlace_120 (by decide) ?_
        exact me_retz (me_kp M0) h (by decide) hx hb hr hlocks hwf hkp hP hK hD hS d_Steps_isPlace_121
      have h := if_f c13 h
      refine lv_iload hx hb d_Steps_isPlace_111 (lv_at hl 0 rfl) ?_
      refine lv_if_eq (tgt := 120) hx hb d_Steps_isPlace_113 (by decide) (fun c14 => ?_) (fun c14 => ?_)
      · have h := if_t c14 h
        refine lv_iconst (v := 0) hx hb d_Steps_isPlace_120 (by decide) ?_
        exact me_retz (me_kp M0) h (by decide) hx hb hr hlocks hwf hkp hP hK hD hS d_Steps_isPlace_121
      have h := if_f c14 h
      refine lv_iconst (v := 1) hx hb d_Steps_isPlace_116 (by decide) ?_
      refine lv_goto (tgt := 121) hx hb d_Steps_isPlace_117 (by decide) ?_
      exact me_retz (me_kp M0) h (by decide) hx hb hr hlocks hwf hkp hP hK hD hS d_Steps_isPlace_121
    have h := if_f (fun z => n11 (ew1.trans z)) h
    by_cases n15 : w1 = 4
    · have h := if_t (ew1.symm.trans n15) h
      subst n15
      refine lv_tableIn (off := 97) (tgt := 122) hx hb d_Steps_isPlace_25 (by decide) (by decide) (by decide) (by decide) ?_
      refine lv_aload_n hx hb d_Steps_isPlace_122 rfl (lv_at hl 1 rfl) ?_
      refine g_Steps_0 hx hb hts hown hK hP hwf hj0 (hts _ u_455) d_Steps_isPlace_123 ?_
      obtain ⟨j16, e17, h⟩ := bd_ob h
      have hj16 : j16 < N 2 := (hwf.2.1 7 j0 0 _ e17 (by decide) hj0)
      refine me_opt (j := j16) e17 ?_
      refine g_Code_10 hx hb hts hown hK hP hwf hj16 (hts _ u_251) d_Steps_isPlace_126 ?_
      refine lv_iconst (v := 5) hx hb d_Steps_isPlace_129 (by decide) ?_
      refine lv_icmp_eq (tgt := 148) hx hb d_Steps_isPlace_130 (by decide) (fun c18 => ?_) (fun c18 => ?_)
      · have h := if_t c18 h
        refine lv_iconst (v := 0) hx hb d_Steps_isPlace_148 (by decide) ?_
        exact me_retz (me_kp M0) h (by decide) hx hb hr hlocks hwf hkp hP hK hD hS d_Steps_isPlace_149
      have h := if_f c18 h
      refine lv_aload_n hx hb d_Steps_isPlace_133 rfl (lv_at hl 1 rfl) ?_
      refine lv_aload_n hx hb d_Steps_isPlace_134 rfl (lv_at hl 2 rfl) ?_
      refine lv_iload_n hx hb d_Steps_isPlace_135 rfl (lv_at hl 3 rfl) ?_
      refine lv_iload_n hx hb d_Steps_isPlace_136 rfl (lv_at hl 4 rfl) ?_
      refine lv_i2l (v := y3.toInt64) hx hb d_Steps_isPlace_137 rfl ?_
      obtain ⟨M19, r20, eM19, h⟩ := b2_ob h
      refine me_theni0 (M1 := M19) (me_runV (C := "FilterGuard$Steps") (As := [.ref (ad 10 j1), .int x2, .long y3.toInt64]) (rest := []) ⟨hx, hb, hml, hown, hts⟩ (c_Steps_isInPacket l D ad ca N M M19 r20 j0 j1 x2 y3.toInt64 eM19 hwf hj0 hj1 _) rfl (by show fg_nm y_Steps_isInPacket 3; decide +kernel) u_1367 u_1369 u_46 u_185 u_1370 ⟨Nat.le_of_ble_eq_true rfl, Nat.le_of_ble_eq_true rfl⟩ hX hz hK hP hD hwf hS hA hj0 (by decide) rfl rfl rfl hl.1 (Nat.le_of_ble_eq_true rfl) d_Steps_isPlace_138 ⟨Nat.le_of_ble_eq_true rfl, Nat.le_of_ble_eq_true rfl⟩) hP hD hK hS hA rfl rfl (fun H locs hw hP hD hS => ?_)
      obtain ⟨hwf, hk9, zr20⟩ := hw
      have hkp := hkp.tr hk9
      refine lv_if_eq (tgt := 148) hx hb d_Steps_isPlace_141 (by decide) (fun c21 => ?_) (fun c21 => ?_)
      · have h := if_t c21 h
        refine lv_iconst (v := 0) hx hb d_Steps_isPlace_148 (by decide) ?_
        exact me_retz (me_kp M0) h (by decide) hx hb hr hlocks hwf hkp hP hK hD hS d_Steps_isPlace_149
      have h := if_f c21 h
      refine lv_iconst (v := 1) hx hb d_Steps_isPlace_144 (by decide) ?_
      refine lv_goto (tgt := 149) hx hb d_Steps_isPlace_145 (by decide) ?_
      exact me_retz (me_kp M0) h (by decide) hx hb hr hlocks hwf hkp hP hK hD hS d_Steps_isPlace_149
    have h := if_f (fun z => n15 (ew1.trans z)) h
    have in2 := lv_neT n2 (show (2 : Int32).toInt = 2 from rfl)
    have in11 := lv_neT n11 (show (3 : Int32).toInt = 3 from rfl)
    have in15 := lv_neT n15 (show (4 : Int32).toInt = 4 from rfl)
    refine lv_tableOut (tgt := 150) hx hb d_Steps_isPlace_25 (by omega) (by decide) ?_
    refine lv_aload_n hx hb d_Steps_isPlace_150 rfl (lv_at hl 1 rfl) ?_
    refine lv_aload_n hx hb d_Steps_isPlace_151 rfl (lv_at hl 2 rfl) ?_
    refine lv_iload_n hx hb d_Steps_isPlace_152 rfl (lv_at hl 3 rfl) ?_
    refine lv_iload_n hx hb d_Steps_isPlace_153 rfl (lv_at hl 4 rfl) ?_
    refine lv_i2l (v := y3.toInt64) hx hb d_Steps_isPlace_154 rfl ?_
    obtain ⟨M22, r23, eM22, h⟩ := b2_ob h
    refine me_theni0 (M1 := M22) (me_runV (C := "FilterGuard$Steps") (As := [.ref (ad 10 j1), .int x2, .long y3.toInt64]) (rest := []) ⟨hx, hb, hml, hown, hts⟩ (c_Steps_isInValue l D ad ca N M M22 r23 j0 j1 x2 y3.toInt64 eM22 hwf hj0 hj1 _) rfl (by show fg_nm y_Steps_isInValue 3; decide +kernel) u_1371 u_1373 u_47 u_185 u_1374 ⟨Nat.le_of_ble_eq_true rfl, Nat.le_of_ble_eq_true rfl⟩ hX hz hK hP hD hwf hS hA hj0 (by decide) rfl rfl rfl hl.1 (Nat.le_of_ble_eq_true rfl) d_Steps_isPlace_155 ⟨Nat.le_of_ble_eq_true rfl, Nat.le_of_ble_eq_true rfl⟩) hP hD hK hS hA rfl rfl (fun H locs hw hP hD hS => ?_)
    obtain ⟨hwf, hk9, zr23⟩ := hw
    have hkp := hkp.tr hk9
    exact me_retz (me_kp M0) h zr23 hx hb hr hlocks hwf hkp hP hK hD hS d_Steps_isPlace_158
  refine lv_aload_n hx hb d_Steps_isPlace_0 rfl (lv_at hl 0 rfl) ?_
  refine g_Steps_0 hx hb hts hown hK hP hwf hj0 (hts _ u_455) d_Steps_isPlace_1 ?_
  obtain ⟨j24, e25, h⟩ := bd_ob h
  have hj24 : j24 < N 2 := (hwf.2.1 7 j0 0 _ e25 (by decide) hj0)
  refine me_opt (j := j24) e25 ?_
  refine g_Code_11 hx hb hts hown hK hP hwf hj24 (hts _ u_260) d_Steps_isPlace_4 ?_
  obtain ⟨v26, ev26, h⟩ := st_ob h
  refine fg_topi (y := v26) ev26.symm ?_
  refine lv_istore_n (lv' := [(3, .int v26), (0, .ref (ad 7 j0)), (1, .ref (ad 10 j1)), (2, .int x2)]) hx hb d_Steps_isPlace_7 rfl hl (by decide) rfl (fun ls hl => ?_)
  refine lv_iload_n hx hb d_Steps_isPlace_8 rfl (lv_at hl 3 rfl) ?_
  refine lv_iload_n hx hb d_Steps_isPlace_9 rfl (lv_at hl 0 rfl) ?_
  obtain ⟨g27, h⟩ := gd_ob h
  refine lv_irem hx hb d_Steps_isPlace_10 g27 ?_
  refine fg_topi (y := jirem x2 v26) rfl ?_
  refine lv_if_ne (tgt := 18) hx hb d_Steps_isPlace_11 (by decide) (fun c28 => ?_) (fun c28 => ?_)
  · have h := if_f c28 h
    refine lv_iconst (v := 0) hx hb d_Steps_isPlace_18 (by decide) ?_
    exact b_19 M0 v26 (0 : Int32) _ _ _ h (by decide) hwf hkp hP hD hS (lv_sub hl [1, 2, 3, 0] rfl)
  have h := if_t c28 h
  refine lv_iconst (v := 1) hx hb d_Steps_isPlace_14 (by decide) ?_
  refine lv_goto (tgt := 19) hx hb d_Steps_isPlace_15 (by decide) ?_
  exact b_19 M0 v26 (1 : Int32) _ _ _ h (by decide) hwf hkp hP hD hS (lv_sub hl [1, 2, 3, 0] rfl)
theorem d_Code_bytesAt_0 : decode prog_4_method_7_code 0 = .ok (.iconst 1, 1) := by decide +kernel
theorem d_Code_bytesAt_1 : decode prog_4_method_7_code 1 = .ok (.aload_n 0, 1) := by decide +kernel
theorem d_Code_bytesAt_2 : decode prog_4_method_7_code 2 = .ok (.getfield 48, 3) := by decide +kernel
theorem d_Code_bytesAt_5 : decode prog_4_method_7_code 5 = .ok (.ishl, 1) := by decide +kernel
theorem d_Code_bytesAt_6 : decode prog_4_method_7_code 6 = .ok (.iconst 1, 1) := by decide +kernel
theorem d_Code_bytesAt_7 : decode prog_4_method_7_code 7 = .ok (.isub, 1) := by decide +kernel
theorem d_Code_bytesAt_8 : decode prog_4_method_7_code 8 = .ok (.iload_n 1, 1) := by decide +kernel
theorem d_Code_bytesAt_9 : decode prog_4_method_7_code 9 = .ok (.bipush 7, 2) := by decide +kernel
theorem d_Code_bytesAt_11 : decode prog_4_method_7_code 11 = .ok (.iand, 1) := by decide +kernel
theorem d_Code_bytesAt_12 : decode prog_4_method_7_code 12 = .ok (.ishl, 1) := by decide +kernel
theorem d_Code_bytesAt_13 : decode prog_4_method_7_code 13 = .ok (.ireturn, 1) := by decide +kernel
abbrev y_Code_bytesAt : MethodName := ⟨"FilterGuard$Code", "bytesAt", "(I)I"⟩
def rm_Code_bytesAt : Room := { frames := 1, cells := 0, slots := 0, locals := 20 }
abbrev q_Code_bytesAt (D : va_G) (ad : Nat → Nat → Nat) (ca : Nat → ClassId) (N : Nat → Nat) (M0 MZ : me_M) (RZ : Int32) (A : Nat → Prop) : Array Value → Jvm.State → Outcome → Jvm.State → Prop := va_Qi (fun r (_ : Unit) => r = RZ ∧ me_wf N MZ ∧ me_kp M0 MZ) (fg_B D A (fun _ => me_W ad ca MZ) (fun _ => [])) A
set_option maxHeartbeats 4000000 in
set_option maxRecDepth 100000 in
theorem c_Code_bytesAt (l : Launch) (D : va_G) (ad : Nat → Nat → Nat) (ca : Nat → ClassId) (N : Nat → Nat) (M0 MZ : me_M) (RZ : Int32) (j0 : Nat) (x1 : Int32) (h : f_Code_bytesAt M0 j0 x1 = (some (MZ, RZ))) (hwf : me_wf N M0) (hj0 : j0 < N 2) (sz : Nat) : Met l y_Code_bytesAt (fg_w y_Code_bytesAt prog_4_method_7_code 2 (some .int)) rm_Code_bytesAt (va_Pc [.ref (ad 2 j0), .int x1] (fz_P D (me_T ca) (me_W ad ca M0) sz)) (q_Code_bytesAt D ad ca N M0 MZ RZ (va_A (me_W ad ca M0) sz)) rm_Code_bytesAt.cells rm_Code_bytesAt.slots (va_A (me_W ad ca M0) sz) := by
  refine fz_enter (fun A => q_Code_bytesAt D ad ca N M0 MZ RZ A) (by decide +kernel) (Nat.le_of_ble_eq_true rfl) ?_
  intro p e s m below meth c ls A hx hb hml hown hts hr hlocks hin hP hK hD hS hA hX hl hz
  have hl : lv_has ls 2 [(0, .ref (ad 2 j0)), (1, .int x1)] := hl
  unfold f_Code_bytesAt at h
  have hkp : me_kp M0 M0 := me_kp.rf
  have hkb := hkp
  refine lv_iconst (v := 1) hx hb d_Code_bytesAt_0 (by decide) ?_
  refine lv_aload_n hx hb d_Code_bytesAt_1 rfl (lv_at hl 0 rfl) ?_
  refine g_Code_11 hx hb hts hown hK hP hwf hj0 (hts _ u_257) d_Code_bytesAt_2 ?_
  refine lv_ishl hx hb d_Code_bytesAt_5 ?_
  refine fg_topi (y := jishl 1 (mI M0 2 j0 11)) rfl ?_
  refine lv_iconst (v := 1) hx hb d_Code_bytesAt_6 (by decide) ?_
  refine lv_isub hx hb d_Code_bytesAt_7 ?_
  refine lv_iload_n hx hb d_Code_bytesAt_8 rfl (lv_at hl 1 rfl) ?_
  refine lv_bipush (v := 7) hx hb d_Code_bytesAt_9 (by decide) ?_
  refine lv_iand hx hb d_Code_bytesAt_11 ?_
  refine lv_ishl hx hb d_Code_bytesAt_12 ?_
  refine fg_topi (y := jishl ((jishl 1 (mI M0 2 j0 11)) - 1) (x1 &&& 7)) rfl ?_
  exact me_reti (me_kp M0) h hx hb hr hlocks hwf hkp hP hK hD hS d_Code_bytesAt_13
theorem d_Steps_load_75 : decode prog_11_method_17_code 75 = .ok (.iload_n 1, 1) := by decide +kernel
theorem d_Steps_load_76 : decode prog_11_method_17_code 76 = .ok (.iconst 2, 1) := by decide +kernel
theorem d_Steps_load_77 : decode prog_11_method_17_code 77 = .ok (.if_icmp .ne 26, 3) := by decide +kernel
theorem d_Steps_load_103 : decode prog_11_method_17_code 103 = .ok (.aload_n 3, 1) := by decide +kernel
theorem d_Steps_load_104 : decode prog_11_method_17_code 104 = .ok (.aload_n 0, 1) := by decide +kernel
theorem d_Steps_load_105 : decode prog_11_method_17_code 105 = .ok (.getfield 44, 3) := by decide +kernel
theorem d_Steps_load_108 : decode prog_11_method_17_code 108 = .ok (.getfield 262, 3) := by decide +kernel
theorem d_Steps_load_111 : decode prog_11_method_17_code 111 = .ok (.invokevirtual 301, 3) := by decide +kernel
theorem d_Steps_load_114 : decode prog_11_method_17_code 114 = .ok (.iconst 0, 1) := by decide +kernel
theorem d_Steps_load_115 : decode prog_11_method_17_code 115 = .ok (.ireturn, 1) := by decide +kernel
theorem d_Steps_load_80 : decode prog_11_method_17_code 80 = .ok (.iload_n 2, 1) := by decide +kernel
theorem d_Steps_load_81 : decode prog_11_method_17_code 81 = .ok (.bipush 16, 2) := by decide +kernel
theorem d_Steps_load_83 : decode prog_11_method_17_code 83 = .ok (.if_icmp .ge 20, 3) := by decide +kernel
theorem d_Steps_load_86 : decode prog_11_method_17_code 86 = .ok (.aload_n 3, 1) := by decide +kernel
theorem d_Steps_load_87 : decode prog_11_method_17_code 87 = .ok (.iload_n 2, 1) := by decide +kernel
theorem d_Steps_load_88 : decode prog_11_method_17_code 88 = .ok (.ifCond .ne 7, 3) := by decide +kernel
theorem d_Steps_load_95 : decode prog_11_method_17_code 95 = .ok (.iconst 5, 1) := by decide +kernel
theorem d_Steps_load_96 : decode prog_11_method_17_code 96 = .ok (.iconst 0, 1) := by decide +kernel
theorem d_Steps_load_97 : decode prog_11_method_17_code 97 = .ok (.invokevirtual 115, 3) := by decide +kernel
theorem d_Steps_load_100 : decode prog_11_method_17_code 100 = .ok (.goto 14, 3) := by decide +kernel
theorem d_Steps_load_91 : decode prog_11_method_17_code 91 = .ok (.iconst 4, 1) := by decide +kernel
theorem d_Steps_load_92 : decode prog_11_method_17_code 92 = .ok (.goto 4, 3) := by decide +kernel
theorem d_Steps_load_56 : decode prog_11_method_17_code 56 = .ok (.aload 4, 2) := by decide +kernel
theorem d_Steps_load_58 : decode prog_11_method_17_code 58 = .ok (.aload_n 0, 1) := by decide +kernel
theorem d_Steps_load_59 : decode prog_11_method_17_code 59 = .ok (.getfield 44, 3) := by decide +kernel
theorem d_Steps_load_62 : decode prog_11_method_17_code 62 = .ok (.iload_n 2, 1) := by decide +kernel
theorem d_Steps_load_63 : decode prog_11_method_17_code 63 = .ok (.invokevirtual 294, 3) := by decide +kernel
theorem u_1394 : Cond.methodLink "FilterGuard$Steps" 294 ⟨"FilterGuard$Code", "bytesAt", "(I)I"⟩ ∈ fg_g := fg_in (List.mem_of_getElem? (i := 1394) (by decide +kernel)) rfl
theorem u_1397 : Cond.code ⟨"FilterGuard$Code", "bytesAt", "(I)I"⟩ prog_4_method_7_code 2 (some .int) ∈ fg_g := fg_in (List.mem_of_getElem? (i := 1397) (by decide +kernel)) rfl
theorem u_1395 : Cond.instanceMethod ⟨"FilterGuard$Code", "bytesAt", "(I)I"⟩ ∈ fg_g := fg_in (List.mem_of_getElem? (i := 1395) (by decide +kernel)) rfl
theorem u_1396 : Cond.selects "FilterGuard$Code" ⟨"FilterGuard$Code", "bytesAt", "(I)I"⟩ ⟨"FilterGuard$Code", "bytesAt", "(I)I"⟩ ∈ fg_g := fg_in (List.mem_of_getElem? (i := 1396) (by decide +kernel)) rfl
theorem d_Steps_load_66 : decode prog_11_method_17_code 66 = .ok (.invokevirtual 297, 3) := by decide +kernel
theorem d_Steps_load_69 : decode prog_11_method_17_code 69 = .ok (.ifCond .ne 6, 3) := by decide +kernel
theorem d_Steps_load_72 : decode prog_11_method_17_code 72 = .ok (.bipush 15, 2) := by decide +kernel
theorem d_Steps_load_74 : decode prog_11_method_17_code 74 = .ok (.ireturn, 1) := by decide +kernel
theorem d_Steps_load_0 : decode prog_11_method_17_code 0 = .ok (.aload_n 0, 1) := by decide +kernel
theorem d_Steps_load_1 : decode prog_11_method_17_code 1 = .ok (.getfield 66, 3) := by decide +kernel
theorem d_Steps_load_4 : decode prog_11_method_17_code 4 = .ok (.aload_n 0, 1) := by decide +kernel
theorem d_Steps_load_5 : decode prog_11_method_17_code 5 = .ok (.getfield 44, 3) := by decide +kernel
theorem d_Steps_load_8 : decode prog_11_method_17_code 8 = .ok (.getfield 73, 3) := by decide +kernel
theorem d_Steps_load_11 : decode prog_11_method_17_code 11 = .ok (.aaload, 1) := by decide +kernel
theorem d_Steps_load_12 : decode prog_11_method_17_code 12 = .ok (.astore_n 3, 1) := by decide +kernel
theorem d_Steps_load_13 : decode prog_11_method_17_code 13 = .ok (.iload_n 1, 1) := by decide +kernel
theorem d_Steps_load_14 : decode prog_11_method_17_code 14 = .ok (.iconst 3, 1) := by decide +kernel
theorem d_Steps_load_15 : decode prog_11_method_17_code 15 = .ok (.if_icmp .ne 60, 3) := by decide +kernel
theorem d_Steps_load_18 : decode prog_11_method_17_code 18 = .ok (.aload_n 0, 1) := by decide +kernel
theorem d_Steps_load_19 : decode prog_11_method_17_code 19 = .ok (.getfield 56, 3) := by decide +kernel
theorem d_Steps_load_22 : decode prog_11_method_17_code 22 = .ok (.iload_n 2, 1) := by decide +kernel
theorem d_Steps_load_23 : decode prog_11_method_17_code 23 = .ok (.invokevirtual 290, 3) := by decide +kernel
theorem d_Steps_load_26 : decode prog_11_method_17_code 26 = .ok (.astore 4, 2) := by decide +kernel
theorem d_Steps_load_28 : decode prog_11_method_17_code 28 = .ok (.aload 4, 2) := by decide +kernel
theorem d_Steps_load_30 : decode prog_11_method_17_code 30 = .ok (.getfield 76, 3) := by decide +kernel
theorem d_Steps_load_33 : decode prog_11_method_17_code 33 = .ok (.ifCond .eq 23, 3) := by decide +kernel
theorem d_Steps_load_36 : decode prog_11_method_17_code 36 = .ok (.aload_n 0, 1) := by decide +kernel
theorem d_Steps_load_37 : decode prog_11_method_17_code 37 = .ok (.getfield 44, 3) := by decide +kernel
theorem d_Steps_load_40 : decode prog_11_method_17_code 40 = .ok (.getfield 262, 3) := by decide +kernel
theorem d_Steps_load_43 : decode prog_11_method_17_code 43 = .ok (.bipush 8, 2) := by decide +kernel
theorem d_Steps_load_45 : decode prog_11_method_17_code 45 = .ok (.if_icmp .ne 11, 3) := by decide +kernel
theorem d_Steps_load_48 : decode prog_11_method_17_code 48 = .ok (.aload_n 3, 1) := by decide +kernel
theorem d_Steps_load_49 : decode prog_11_method_17_code 49 = .ok (.aload 4, 2) := by decide +kernel
theorem d_Steps_load_51 : decode prog_11_method_17_code 51 = .ok (.invokevirtual 139, 3) := by decide +kernel
theorem d_Steps_load_54 : decode prog_11_method_17_code 54 = .ok (.iconst 0, 1) := by decide +kernel
theorem d_Steps_load_55 : decode prog_11_method_17_code 55 = .ok (.ireturn, 1) := by decide +kernel
abbrev y_Steps_load : MethodName := ⟨"FilterGuard$Steps", "load", "(II)I"⟩
def rm_Steps_load : Room := { frames := 4, cells := 0, slots := 0, locals := 104 }
abbrev q_Steps_load (D : va_G) (ad : Nat → Nat → Nat) (ca : Nat → ClassId) (N : Nat → Nat) (M0 MZ : me_M) (RZ : Int32) (A : Nat → Prop) : Array Value → Jvm.State → Outcome → Jvm.State → Prop := va_Qi (fun r (_ : Unit) => r = RZ ∧ me_wf N MZ ∧ me_kp M0 MZ) (fg_B D A (fun _ => me_W ad ca MZ) (fun _ => [])) A
set_option maxHeartbeats 4000000 in
set_option maxRecDepth 100000 in
theorem c_Steps_load (l : Launch) (D : va_G) (ad : Nat → Nat → Nat) (ca : Nat → ClassId) (N : Nat → Nat) (M0 MZ : me_M) (RZ : Int32) (j0 : Nat) (x1 : Int32) (x2 : Int32) (h : f_Steps_load M0 j0 x1 x2 = (some (MZ, RZ))) (hwf : me_wf N M0) (hj0 : j0 < N 7) (sz : Nat) : Met l y_Steps_load (fg_w y_Steps_load prog_11_method_17_code 5 (some .int)) rm_Steps_load (va_Pc [.ref (ad 7 j0), .int x1, .int x2] (fz_P D (me_T ca) (me_W ad ca M0) sz)) (q_Steps_load D ad ca N M0 MZ RZ (va_A (me_W ad ca M0) sz)) rm_Steps_load.cells rm_Steps_load.slots (va_A (me_W ad ca M0) sz) := by
  refine fz_enter (fun A => q_Steps_load D ad ca N M0 MZ RZ A) (by decide +kernel) (Nat.le_of_ble_eq_true rfl) ?_
  intro p e s m below meth c ls A hx hb hml hown hts hr hlocks hin hP hK hD hS hA hX hl hz
  have hl : lv_has ls 5 [(0, .ref (ad 7 j0)), (1, .int x1), (2, .int x2)] := hl
  unfold f_Steps_load at h
  have hkp : me_kp M0 M0 := me_kp.rf
  have hkb := hkp
  have b_75 : ∀ (M : me_M) (y3 : Nat) (H : Heap) (locs : List Loc) (ls : Array Slot), f_Steps_load_b75 j0 x1 x2 M y3 = (some (MZ, RZ)) → (y3 < N 10) → me_wf N M → me_kp M0 M → va_P D classes (me_W ad ca M) H → va_D A (me_W ad ca M) → va_S A s.heap H locs → lv_has ls 5 [(0, .ref (ad 7 j0)), (1, .int x1), (2, .int x2), (3, .ref (ad 10 y3))] → W p l e rm_Steps_load s m [.ref (ad 7 j0), .int x1, .int x2].toArray below meth c H locs 0 0 (MQ below (q_Steps_load D ad ca N M0 MZ RZ A) [.ref (ad 7 j0), .int x1, .int x2].toArray s rm_Steps_load.cells rm_Steps_load.slots A) (F0 m 75 ls []) := by
    intro M y3 H locs ls h hy3 hwf hkp hP hD hS hl
    unfold f_Steps_load_b75 at h
    have hkb := hkp
    refine lv_iload_n hx hb d_Steps_load_75 rfl (lv_at hl 1 rfl) ?_
    refine lv_iconst (v := 2) hx hb d_Steps_load_76 (by decide) ?_
    refine lv_icmp_ne (tgt := 103) hx hb d_Steps_load_77 (by decide) (fun c1 => ?_) (fun c1 => ?_)
    · have h := if_f c1 h
      refine lv_aload_n hx hb d_Steps_load_103 rfl (lv_at hl 3 rfl) ?_
      refine lv_aload_n hx hb d_Steps_load_104 rfl (lv_at hl 0 rfl) ?_
      refine g_Steps_0 hx hb hts hown hK hP hwf hj0 (hts _ u_455) d_Steps_load_105 ?_
      obtain ⟨j2, e3, h⟩ := bd_ob h
      have hj2 : j2 < N 2 := (hwf.2.1 7 j0 0 _ e3 (by decide) hj0)
      refine me_opt (j := j2) e3 ?_
      refine g_Code_11 hx hb hts hown hK hP hwf hj2 (hts _ u_260) d_Steps_load_108 ?_
      obtain ⟨M4, eM4, h⟩ := bd_ob h
      refine me_thenv0 (M1 := M4) (me_runV (C := "FilterGuard$Cell") (As := [.int (mI M 2 j2 11)]) (rest := []) ⟨hx, hb, hml, hown, hts⟩ (c_Cell_becomeRead l D ad ca N M M4 y3 (mI M 2 j2 11) eM4 hwf hy3 _) rfl (by show fg_nm y_Cell_becomeRead 1; decide +kernel) u_1376 u_1377 u_1378 u_188 u_1379 ⟨Nat.le_of_ble_eq_true rfl, Nat.le_of_ble_eq_true rfl⟩ hX hz hK hP hD hwf hS hA hy3 (by decide) rfl rfl rfl hl.1 (Nat.le_of_ble_eq_true rfl) d_Steps_load_111 ⟨Nat.le_of_ble_eq_true rfl, Nat.le_of_ble_eq_true rfl⟩) hP hD hK hS hA rfl rfl (fun H locs hw hP hD hS => ?_)
      obtain ⟨hwf, hk9⟩ := hw
      have hkp := hkp.tr hk9
      refine lv_iconst (v := 0) hx hb d_Steps_load_114 (by decide) ?_
      exact me_reti (me_kp M0) h hx hb hr hlocks hwf hkp hP hK hD hS d_Steps_load_115
    have h := if_t c1 h
    refine lv_iload_n hx hb d_Steps_load_80 rfl (lv_at hl 2 rfl) ?_
    refine lv_bipush (v := 16) hx hb d_Steps_load_81 (by decide) ?_
    refine lv_icmp_ge (tgt := 103) hx hb d_Steps_load_83 (by decide) (fun c5 => ?_) (fun c5 => ?_)
    · have h := if_t c5 h
      refine lv_aload_n hx hb d_Steps_load_103 rfl (lv_at hl 3 rfl) ?_
      refine lv_aload_n hx hb d_Steps_load_104 rfl (lv_at hl 0 rfl) ?_
      refine g_Steps_0 hx hb hts hown hK hP hwf hj0 (hts _ u_455) d_Steps_load_105 ?_
      obtain ⟨j6, e7, h⟩ := bd_ob h
      have hj6 : j6 < N 2 := (hwf.2.1 7 j0 0 _ e7 (by decide) hj0)
      refine me_opt (j := j6) e7 ?_
      refine g_Code_11 hx hb hts hown hK hP hwf hj6 (hts _ u_260) d_Steps_load_108 ?_
      obtain ⟨M8, eM8, h⟩ := bd_ob h
      refine me_thenv0 (M1 := M8) (me_runV (C := "FilterGuard$Cell") (As := [.int (mI M 2 j6 11)]) (rest := []) ⟨hx, hb, hml, hown, hts⟩ (c_Cell_becomeRead l D ad ca N M M8 y3 (mI M 2 j6 11) eM8 hwf hy3 _) rfl (by show fg_nm y_Cell_becomeRead 1; decide +kernel) u_1376 u_1377 u_1378 u_188 u_1379 ⟨Nat.le_of_ble_eq_true rfl, Nat.le_of_ble_eq_true rfl⟩ hX hz hK hP hD hwf hS hA hy3 (by decide) rfl rfl rfl hl.1 (Nat.le_of_ble_eq_true rfl) d_Steps_load_111 ⟨Nat.le_of_ble_eq_true rfl, Nat.le_of_ble_eq_true rfl⟩) hP hD hK hS hA rfl rfl (fun H locs hw hP hD hS => ?_)
      obtain ⟨hwf, hk9⟩ := hw
      have hkp := hkp.tr hk9
      refine lv_iconst (v := 0) hx hb d_Steps_load_114 (by decide) ?_
      exact me_reti (me_kp M0) h hx hb hr hlocks hwf hkp hP hK hD hS d_Steps_load_115
    have h := if_f c5 h
    refine lv_aload_n hx hb d_Steps_load_86 rfl (lv_at hl 3 rfl) ?_
    refine lv_iload_n hx hb d_Steps_load_87 rfl (lv_at hl 2 rfl) ?_
    refine lv_if_ne (tgt := 95) hx hb d_Steps_load_88 (by decide) (fun c9 => ?_) (fun c9 => ?_)
    · have h := if_f c9 h
      refine lv_iconst (v := 5) hx hb d_Steps_load_95 (by decide) ?_
      refine lv_iconst (v := 0) hx hb d_Steps_load_96 (by decide) ?_
      obtain ⟨M10, eM10, h⟩ := bd_ob h
      refine me_thenv0 (M1 := M10) (me_runV (C := "FilterGuard$Cell") (As := [.int 5, .int 0]) (rest := []) ⟨hx, hb, hml, hown, hts⟩ (c_Cell_become l D ad ca N M M10 y3 (5 : Int32) (0 : Int32) eM10 hwf hy3 _) rfl (by show fg_nm y_Cell_become 2; decide +kernel) u_1108 u_1033 u_1034 u_188 u_1035 ⟨Nat.le_of_ble_eq_true rfl, Nat.le_of_ble_eq_true rfl⟩ hX hz hK hP hD hwf hS hA hy3 (by decide) rfl rfl rfl hl.1 (Nat.le_of_ble_eq_true rfl) d_Steps_load_97 ⟨Nat.le_of_ble_eq_true rfl, Nat.le_of_ble_eq_true rfl⟩) hP hD hK hS hA rfl rfl (fun H locs hw hP hD hS => ?_)
      obtain ⟨hwf, hk9⟩ := hw
      have hkp := hkp.tr hk9
      refine lv_goto (tgt := 114) hx hb d_Steps_load_100 (by decide) ?_
      refine lv_iconst (v := 0) hx hb d_Steps_load_114 (by decide) ?_
      exact me_reti (me_kp M0) h hx hb hr hlocks hwf hkp hP hK hD hS d_Steps_load_115
    have h := if_t c9 h
    refine lv_iconst (v := 4) hx hb d_Steps_load_91 (by decide) ?_
    refine lv_goto (tgt := 96) hx hb d_Steps_load_92 (by decide) ?_
    refine lv_iconst (v := 0) hx hb d_Steps_load_96 (by decide) ?_
    obtain ⟨M11, eM11, h⟩ := bd_ob h
    refine me_thenv0 (M1 := M11) (me_runV (C := "FilterGuard$Cell") (As := [.int 4, .int 0]) (rest := []) ⟨hx, hb, hml, hown, hts⟩ (c_Cell_become l D ad ca N M M11 y3 (4 : Int32) (0 : Int32) eM11 hwf hy3 _) rfl (by show fg_nm y_Cell_become 2; decide +kernel) u_1108 u_1033 u_1034 u_188 u_1035 ⟨Nat.le_of_ble_eq_true rfl, Nat.le_of_ble_eq_true rfl⟩ hX hz hK hP hD hwf hS hA hy3 (by decide) rfl rfl rfl hl.1 (Nat.le_of_ble_eq_true rfl) d_Steps_load_97 ⟨Nat.le_of_ble_eq_true rfl, Nat.le_of_ble_eq_true rfl⟩) hP hD hK hS hA rfl rfl (fun H locs hw hP hD hS => ?_)
    obtain ⟨hwf, hk9⟩ := hw
    have hkp := hkp.tr hk9
    refine lv_goto (tgt := 114) hx hb d_Steps_load_100 (by decide) ?_
    refine lv_iconst (v := 0) hx hb d_Steps_load_114 (by decide) ?_
    exact me_reti (me_kp M0) h hx hb hr hlocks hwf hkp hP hK hD hS d_Steps_load_115
  have b_56 : ∀ (M : me_M) (y3 : Nat) (y4 : Nat) (H : Heap) (locs : List Loc) (ls : Array Slot), f_Steps_load_b56 j0 x1 x2 M y3 y4 = (some (MZ, RZ)) → (y3 < N 10) → (y4 < N 10) → me_wf N M → me_kp M0 M → va_P D classes (me_W ad ca M) H → va_D A (me_W ad ca M) → va_S A s.heap H locs → lv_has ls 5 [(0, .ref (ad 7 j0)), (1, .int x1), (2, .int x2), (3, .ref (ad 10 y3)), (4, .ref (ad 10 y4))] → W p l e rm_Steps_load s m [.ref (ad 7 j0), .int x1, .int x2].toArray below meth c H locs 0 0 (MQ below (q_Steps_load D ad ca N M0 MZ RZ A) [.ref (ad 7 j0), .int x1, .int x2].toArray s rm_Steps_load.cells rm_Steps_load.slots A) (F0 m 56 ls []) := by
    intro M y3 y4 H locs ls h hy3 hy4 hwf hkp hP hD hS hl
    unfold f_Steps_load_b56 at h
    have hkb := hkp
    refine lv_aload hx hb d_Steps_load_56 (lv_at hl 4 rfl) ?_
    refine lv_aload_n hx hb d_Steps_load_58 rfl (lv_at hl 0 rfl) ?_
    refine g_Steps_0 hx hb hts hown hK hP hwf hj0 (hts _ u_455) d_Steps_load_59 ?_
    obtain ⟨j12, e13, h⟩ := bd_ob h
    have hj12 : j12 < N 2 := (hwf.2.1 7 j0 0 _ e13 (by decide) hj0)
    refine me_opt (j := j12) e13 ?_
    refine lv_iload_n hx hb d_Steps_load_62 rfl (lv_at hl 2 rfl) ?_
    obtain ⟨M14, r15, eM14, h⟩ := b2_ob h
    refine me_theni0 (M1 := M14) (me_runV (C := "FilterGuard$Code") (As := [.int x2]) (rest := [.ref (ad 10 y4)]) ⟨hx, hb, hml, hown, hts⟩ (c_Code_bytesAt l D ad ca N M M14 r15 j12 x2 eM14 hwf hj12 _) rfl (by show fg_nm y_Code_bytesAt 1; decide +kernel) u_1394 u_1395 u_1396 u_182 u_1397 ⟨Nat.le_of_ble_eq_true rfl, Nat.le_of_ble_eq_true rfl⟩ hX hz hK hP hD hwf hS hA hj12 (by decide) rfl rfl rfl hl.1 (Nat.le_of_ble_eq_true rfl) d_Steps_load_63 ⟨Nat.le_of_ble_eq_true rfl, Nat.le_of_ble_eq_true rfl⟩) hP hD hK hS hA rfl rfl (fun H locs hw hP hD hS => ?_)
    obtain ⟨hwf, hk9⟩ := hw
    have hkp := hkp.tr hk9
    obtain ⟨M16, r17, eM16, h⟩ := b2_ob h
    refine me_theni0 (M1 := M16) (me_runV (C := "FilterGuard$Cell") (As := [.int r15]) (rest := []) ⟨hx, hb, hml, hown, hts⟩ (c_Cell_isReadable l D ad ca N M14 M16 r17 y4 r15 eM16 hwf hy4 _) rfl (by show fg_nm y_Cell_isReadable 1; decide +kernel) u_1363 u_1364 u_1365 u_188 u_1366 ⟨Nat.le_of_ble_eq_true rfl, Nat.le_of_ble_eq_true rfl⟩ hX hz hK hP hD hwf hS hA hy4 (by decide) rfl rfl rfl hl.1 (Nat.le_of_ble_eq_true rfl) d_Steps_load_66 ⟨Nat.le_of_ble_eq_true rfl, Nat.le_of_ble_eq_true rfl⟩) hP hD hK hS hA rfl rfl (fun H locs hw hP hD hS => ?_)
    obtain ⟨hwf, hk9, zr17⟩ := hw
    have hkp := hkp.tr hk9
    refine lv_if_ne (tgt := 75) hx hb d_Steps_load_69 (by decide) (fun c18 => ?_) (fun c18 => ?_)
    · have h := if_f c18 h
      exact b_75 M16 y3 _ _ _ h hy3 hwf hkp hP hD hS (lv_sub hl [0, 1, 2, 3] rfl)
    have h := if_t c18 h
    refine lv_bipush (v := 15) hx hb d_Steps_load_72 (by decide) ?_
    exact me_reti (me_kp M0) h hx hb hr hlocks hwf hkp hP hK hD hS d_Steps_load_74
  refine lv_aload_n hx hb d_Steps_load_0 rfl (lv_at hl 0 rfl) ?_
  refine g_Steps_5 hx hb hts hown hK hP hwf hj0 (hts _ u_460) d_Steps_load_1 ?_
  obtain ⟨j19, e20, h⟩ := bd_ob h
  have hj19 : j19 < N 18 := (hwf.2.1 7 j0 5 _ e20 (by decide) hj0)
  refine me_opt (j := j19) e20 ?_
  refine lv_aload_n hx hb d_Steps_load_4 rfl (lv_at hl 0 rfl) ?_
  refine g_Steps_0 hx hb hts hown hK hP hwf hj0 (hts _ u_455) d_Steps_load_5 ?_
  obtain ⟨j21, e22, h⟩ := bd_ob h
  have hj21 : j21 < N 2 := (hwf.2.1 7 j0 0 _ e22 (by decide) hj0)
  refine me_opt (j := j21) e22 ?_
  refine g_Code_6 hx hb hts hown hK hP hwf hj21 (hts _ u_232) d_Steps_load_8 ?_
  obtain ⟨g23, h⟩ := gd_ob h
  refine me_aald (k := 18) (t := 10) hx hb hK hP hwf hj19 (by decide) (by decide) rfl (fun _ => rfl) g23 d_Steps_load_11 ?_
  obtain ⟨j24, e25, h⟩ := bd_ob h
  have hj24 : j24 < N 10 := (hwf.2.1 18 j19 ((mI M0 2 j21 6).toNatClampNeg) _ e25 (by decide) hj19)
  refine me_opt (j := j24) e25 ?_
  refine lv_astore_n (lv' := [(3, .ref (ad 10 j24)), (0, .ref (ad 7 j0)), (1, .int x1), (2, .int x2)]) hx hb d_Steps_load_12 rfl hl (by decide) rfl (fun ls hl => ?_)
  refine lv_iload_n hx hb d_Steps_load_13 rfl (lv_at hl 2 rfl) ?_
  refine lv_iconst (v := 3) hx hb d_Steps_load_14 (by decide) ?_
  refine lv_icmp_ne (tgt := 75) hx hb d_Steps_load_15 (by decide) (fun c26 => ?_) (fun c26 => ?_)
  · have h := if_f c26 h
    exact b_75 M0 j24 _ _ _ h hj24 hwf hkp hP hD hS (lv_sub hl [1, 2, 3, 0] rfl)
  have h := if_t c26 h
  refine lv_aload_n hx hb d_Steps_load_18 rfl (lv_at hl 1 rfl) ?_
  refine g_Steps_6 hx hb hts hown hK hP hwf hj0 (hts _ u_461) d_Steps_load_19 ?_
  obtain ⟨j27, e28, h⟩ := bd_ob h
  have hj27 : j27 < N 9 := (hwf.2.1 7 j0 6 _ e28 (by decide) hj0)
  refine me_opt (j := j27) e28 ?_
  refine lv_iload_n hx hb d_Steps_load_22 rfl (lv_at hl 3 rfl) ?_
  obtain ⟨M29, r30, eM29, h⟩ := b2_ob h
  refine me_thenr0 (M1 := M29) (me_runV (C := "FilterGuard$State") (As := [.int x2]) (rest := []) ⟨hx, hb, hml, hown, hts⟩ (c_State_slotAt l D ad ca N M0 M29 r30 j27 x2 eM29 hwf hj27 _) rfl (by show fg_nm y_State_slotAt 1; decide +kernel) u_1355 u_1356 u_1357 u_189 u_1358 ⟨Nat.le_of_ble_eq_true rfl, Nat.le_of_ble_eq_true rfl⟩ hX hz hK hP hD hwf hS hA hj27 (by decide) rfl rfl rfl hl.1 (Nat.le_of_ble_eq_true rfl) d_Steps_load_23 ⟨Nat.le_of_ble_eq_true rfl, Nat.le_of_ble_eq_true rfl⟩) hP hD hK hS hA rfl rfl (fun H locs hw hP hD hS => ?_)
  obtain ⟨hwf, hk9, hr30⟩ := hw
  have hkp := hkp.tr hk9
  refine lv_astore (lv' := [(4, .ref (ad 10 r30)), (3, .ref (ad 10 j24)), (0, .ref (ad 7 j0)), (1, .int x1), (2, .int x2)]) hx hb d_Steps_load_26 hl (by decide) rfl (fun ls hl => ?_)
  refine lv_aload hx hb d_Steps_load_28 (lv_at hl 0 rfl) ?_
  refine g_Cell_0 hx hb hts hown hK hP hwf hr30 (hts _ u_422) d_Steps_load_30 ?_
  refine lv_if_eq (tgt := 56) hx hb d_Steps_load_33 (by decide) (fun c31 => ?_) (fun c31 => ?_)
  · have h := if_t c31 h
    exact b_56 M29 j24 r30 _ _ _ h hj24 hr30 hwf hkp hP hD hS (lv_sub hl [2, 3, 4, 1, 0] rfl)
  have h := if_f c31 h
  refine lv_aload_n hx hb d_Steps_load_36 rfl (lv_at hl 2 rfl) ?_
  refine g_Steps_0 hx hb hts hown hK hP hwf hj0 (hts _ u_455) d_Steps_load_37 ?_
  refine me_opt (j := j21) (kp_r hkb hkp e22) ?_
  refine g_Code_11 hx hb hts hown hK hP hwf hj21 (hts _ u_260) d_Steps_load_40 ?_
  refine lv_bipush (v := 8) hx hb d_Steps_load_43 (by decide) ?_
  refine lv_icmp_ne (tgt := 56) hx hb d_Steps_load_45 (by decide) (fun c32 => ?_) (fun c32 => ?_)
  · have h := if_f c32 h
    exact b_56 M29 j24 r30 _ _ _ h hj24 hr30 hwf hkp hP hD hS (lv_sub hl [2, 3, 4, 1, 0] rfl)
  have h := if_t c32 h
  refine lv_aload_n hx hb d_Steps_load_48 rfl (lv_at hl 1 rfl) ?_
  refine lv_aload hx hb d_Steps_load_49 (lv_at hl 0 rfl) ?_
  obtain ⟨M33, eM33, h⟩ := bd_ob h
  refine me_thenv0 (M1 := M33) (me_runV (C := "FilterGuard$Cell") (As := [.ref (ad 10 r30)]) (rest := []) ⟨hx, hb, hml, hown, hts⟩ (c_Cell_copy l D ad ca N M29 M33 j24 r30 eM33 hwf hj24 hr30 _) rfl (by show fg_nm y_Cell_copy 1; decide +kernel) u_1121 u_1079 u_1080 u_188 u_1081 ⟨Nat.le_of_ble_eq_true rfl, Nat.le_of_ble_eq_true rfl⟩ hX hz hK hP hD hwf hS hA hj24 (by decide) rfl rfl rfl hl.1 (Nat.le_of_ble_eq_true rfl) d_Steps_load_51 ⟨Nat.le_of_ble_eq_true rfl, Nat.le_of_ble_eq_true rfl⟩) hP hD hK hS hA rfl rfl (fun H locs hw hP hD hS => ?_)
  obtain ⟨hwf, hk9⟩ := hw
  have hkp := hkp.tr hk9
  refine lv_iconst (v := 0) hx hb d_Steps_load_54 (by decide) ?_
  exact me_reti (me_kp M0) h hx hb hr hlocks hwf hkp hP hK hD hS d_Steps_load_55
