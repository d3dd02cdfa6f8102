theorem d_Reckoner_rest_0 : decode prog_9_method_11_code 0 = .ok (.aload_n 2, 1) := by decide +kernel
theorem d_Reckoner_rest_1 : decode prog_9_method_11_code 1 = .ok (.invokevirtual 45, 3) := by decide +kernel
theorem d_Reckoner_rest_4 : decode prog_9_method_11_code 4 = .ok (.ifCond .ne 18, 3) := by decide +kernel
theorem d_Reckoner_rest_22 : decode prog_9_method_11_code 22 = .ok (.aload_n 2, 1) := by decide +kernel
theorem d_Reckoner_rest_23 : decode prog_9_method_11_code 23 = .ok (.getfield 49, 3) := by decide +kernel
theorem d_Reckoner_rest_26 : decode prog_9_method_11_code 26 = .ok (.lconst 0, 1) := by decide +kernel
theorem d_Reckoner_rest_27 : decode prog_9_method_11_code 27 = .ok (.lcmp, 1) := by decide +kernel
theorem d_Reckoner_rest_28 : decode prog_9_method_11_code 28 = .ok (.ifCond .eq 17, 3) := by decide +kernel
theorem d_Reckoner_rest_45 : decode prog_9_method_11_code 45 = .ok (.aload_n 0, 1) := by decide +kernel
theorem d_Reckoner_rest_46 : decode prog_9_method_11_code 46 = .ok (.getfield 21, 3) := by decide +kernel
theorem d_Reckoner_rest_49 : decode prog_9_method_11_code 49 = .ok (.aload_n 1, 1) := by decide +kernel
theorem d_Reckoner_rest_50 : decode prog_9_method_11_code 50 = .ok (.invokevirtual 38, 3) := by decide +kernel
theorem u_1189 : Cond.methodLink "FilterGuard$Reckoner" 38 ⟨"FilterGuard$Num", "copy", "(LFilterGuard$Num;)V"⟩ ∈ fg_g := fg_in (List.mem_of_getElem? (i := 1189) (by decide +kernel)) rfl
theorem d_Reckoner_rest_53 : decode prog_9_method_11_code 53 = .ok (.goto 17, 3) := by decide +kernel
theorem d_Reckoner_rest_70 : decode prog_9_method_11_code 70 = .ok (.return_, 1) := by decide +kernel
theorem d_Reckoner_rest_31 : decode prog_9_method_11_code 31 = .ok (.aload_n 1, 1) := by decide +kernel
theorem d_Reckoner_rest_32 : decode prog_9_method_11_code 32 = .ok (.getfield 122, 3) := by decide +kernel
theorem d_Reckoner_rest_35 : decode prog_9_method_11_code 35 = .ok (.aload_n 2, 1) := by decide +kernel
theorem d_Reckoner_rest_36 : decode prog_9_method_11_code 36 = .ok (.getfield 49, 3) := by decide +kernel
theorem d_Reckoner_rest_39 : decode prog_9_method_11_code 39 = .ok (.invokestatic 134, 3) := by decide +kernel
theorem d_Reckoner_rest_42 : decode prog_9_method_11_code 42 = .ok (.ifCond .eq 14, 3) := by decide +kernel
theorem d_Reckoner_rest_56 : decode prog_9_method_11_code 56 = .ok (.aload_n 0, 1) := by decide +kernel
theorem d_Reckoner_rest_57 : decode prog_9_method_11_code 57 = .ok (.getfield 21, 3) := by decide +kernel
theorem d_Reckoner_rest_60 : decode prog_9_method_11_code 60 = .ok (.lconst 0, 1) := by decide +kernel
theorem d_Reckoner_rest_61 : decode prog_9_method_11_code 61 = .ok (.aload_n 2, 1) := by decide +kernel
theorem d_Reckoner_rest_62 : decode prog_9_method_11_code 62 = .ok (.getfield 49, 3) := by decide +kernel
theorem d_Reckoner_rest_65 : decode prog_9_method_11_code 65 = .ok (.lconst 1, 1) := by decide +kernel
theorem d_Reckoner_rest_66 : decode prog_9_method_11_code 66 = .ok (.lsub, 1) := by decide +kernel
theorem d_Reckoner_rest_67 : decode prog_9_method_11_code 67 = .ok (.invokevirtual 125, 3) := by decide +kernel
theorem d_Reckoner_rest_7 : decode prog_9_method_11_code 7 = .ok (.aload_n 0, 1) := by decide +kernel
theorem d_Reckoner_rest_8 : decode prog_9_method_11_code 8 = .ok (.getfield 21, 3) := by decide +kernel
theorem d_Reckoner_rest_11 : decode prog_9_method_11_code 11 = .ok (.lconst 0, 1) := by decide +kernel
theorem d_Reckoner_rest_12 : decode prog_9_method_11_code 12 = .ok (.aload_n 1, 1) := by decide +kernel
theorem d_Reckoner_rest_13 : decode prog_9_method_11_code 13 = .ok (.getfield 122, 3) := by decide +kernel
theorem d_Reckoner_rest_16 : decode prog_9_method_11_code 16 = .ok (.invokevirtual 125, 3) := by decide +kernel
theorem d_Reckoner_rest_19 : decode prog_9_method_11_code 19 = .ok (.goto 51, 3) := by decide +kernel
abbrev y_Reckoner_rest : MethodName := ⟨"FilterGuard$Reckoner", "rest", "(LFilterGuard$Num;LFilterGuard$Num;)V"⟩
def rm_Reckoner_rest : Room := { frames := 2, cells := 0, slots := 0, locals := 44 }
abbrev q_Reckoner_rest (D : va_G) (ad : Nat → Nat → Nat) (ca : Nat → ClassId) (N : Nat → Nat) (M0 MZ : me_M) (A : Nat → Prop) : Array Value → Jvm.State → Outcome → Jvm.State → Prop := va_Qv (fun (_ : Unit) => me_wf N MZ ∧ me_kp M0 MZ) (fg_B D A (fun _ => me_W ad ca MZ) (fun _ => [])) A
set_option maxHeartbeats 4000000 in
set_option maxRecDepth 100000 in
theorem c_Reckoner_rest (l : Launch) (D : va_G) (ad : Nat → Nat → Nat) (ca : Nat → ClassId) (N : Nat → Nat) (M0 MZ : me_M) (j0 : Nat) (j1 : Nat) (j2 : Nat) (h : f_Reckoner_rest M0 j0 j1 j2 = (some MZ)) (hwf : me_wf N M0) (hj0 : j0 < N 8) (hj1 : j1 < N 11) (hj2 : j2 < N 11) (sz : Nat) : Met l y_Reckoner_rest (fg_w y_Reckoner_rest prog_9_method_11_code 3 none) rm_Reckoner_rest (va_Pc [.ref (ad 8 j0), .ref (ad 11 j1), .ref (ad 11 j2)] (fz_P D (me_T ca) (me_W ad ca M0) sz)) (q_Reckoner_rest D ad ca N M0 MZ (va_A (me_W ad ca M0) sz)) rm_Reckoner_rest.cells rm_Reckoner_rest.slots (va_A (me_W ad ca M0) sz) := by
  refine fz_enter (fun A => q_Reckoner_rest D ad ca N M0 MZ A) (by decide +kernel) (Nat.le_of_ble_eq_true rfl) ?_
  intro p e s m below meth c ls A hx hb hml hown hts hr hlocks hin hP hK hD hS hA hX hl hz
  have hl : lv_has ls 3 [(0, .ref (ad 8 j0)), (1, .ref (ad 11 j1)), (2, .ref (ad 11 j2))] := hl
  unfold f_Reckoner_rest at h
  have hkp : me_kp M0 M0 := me_kp.rf
  have hkb := hkp
  refine lv_aload_n hx hb d_Reckoner_rest_0 rfl (lv_at hl 2 rfl) ?_
  obtain ⟨M1, r2, eM1, h⟩ := b2_ob h
  refine me_theni0 (M1 := M1) (me_runV (C := "FilterGuard$Num") (As := []) (rest := []) ⟨hx, hb, hml, hown, hts⟩ (c_Num_isExact0 l D ad ca N M0 M1 r2 j2 eM1 hwf hj2 _) rfl (by show fg_nm y_Num_isExact0 0; decide +kernel) u_1157 u_1158 u_1159 u_187 u_1160 ⟨Nat.le_of_ble_eq_true rfl, Nat.le_of_ble_eq_true rfl⟩ hX hz hK hP hD hwf hS hA hj2 (by decide) rfl rfl rfl hl.1 (Nat.le_of_ble_eq_true rfl) d_Reckoner_rest_1 ⟨Nat.le_of_ble_eq_true rfl, Nat.le_of_ble_eq_true rfl⟩) hP hD hK hS hA rfl rfl (fun H locs hw hP hD hS => ?_)
  obtain ⟨hwf, hk9, zr2⟩ := hw
  have hkp := hkp.tr hk9
  refine lv_if_ne (tgt := 22) hx hb d_Reckoner_rest_4 (by decide) (fun c3 => ?_) (fun c3 => ?_)
  · have h := if_f c3 h
    refine lv_aload_n hx hb d_Reckoner_rest_22 rfl (lv_at hl 2 rfl) ?_
    refine g_Num_0 hx hb hts hown hK hP hwf hj2 (hts _ u_368) d_Reckoner_rest_23 ?_
    refine lv_lconst (v := 0) hx hb d_Reckoner_rest_26 (by decide) ?_
    refine W.lcmp hx hb d_Reckoner_rest_27 ?_
    refine lv_if_eq (tgt := 45) hx hb d_Reckoner_rest_28 (by decide) (fun c4 => ?_) (fun c4 => ?_)
    · have h := if_t ((lg_cmp_eq _ _).mp c4) h
      refine lv_aload_n hx hb d_Reckoner_rest_45 rfl (lv_at hl 0 rfl) ?_
      refine g_Reckoner_2 hx hb hts hown hK hP hwf hj0 (hts _ u_398) d_Reckoner_rest_46 ?_
      obtain ⟨j5, e6, h⟩ := bd_ob h
      have hj5 : j5 < N 11 := (hwf.2.1 8 j0 2 _ (kp_r hkb hkp e6) (by decide) hj0)
      refine me_opt (j := j5) (kp_r hkb hkp e6) ?_
      refine lv_aload_n hx hb d_Reckoner_rest_49 rfl (lv_at hl 1 rfl) ?_
      obtain ⟨M7, eM7, h⟩ := bd_ob h
      refine me_thenv0 (M1 := M7) (me_runV (C := "FilterGuard$Num") (As := [.ref (ad 11 j1)]) (rest := []) ⟨hx, hb, hml, hown, hts⟩ (c_Num_copy l D ad ca N M1 M7 j5 j1 eM7 hwf hj5 hj1 _) rfl (by show fg_nm y_Num_copy 1; decide +kernel) u_1189 u_1083 u_1084 u_187 u_1085 ⟨Nat.le_of_ble_eq_true rfl, Nat.le_of_ble_eq_true rfl⟩ hX hz hK hP hD hwf hS hA hj5 (by decide) rfl rfl rfl hl.1 (Nat.le_of_ble_eq_true rfl) d_Reckoner_rest_50 ⟨Nat.le_of_ble_eq_true rfl, Nat.le_of_ble_eq_true rfl⟩) hP hD hK hS hA rfl rfl (fun H locs hw hP hD hS => ?_)
      obtain ⟨hwf, hk9⟩ := hw
      have hkp := hkp.tr hk9
      refine lv_goto (tgt := 70) hx hb d_Reckoner_rest_53 (by decide) ?_
      exact me_retv (me_kp M0) h hx hb hr hlocks hwf hkp hP hK hD hS d_Reckoner_rest_70
    have h := if_f (fun z => c4 ((lg_cmp_eq _ _).mpr z)) h
    refine lv_aload_n hx hb d_Reckoner_rest_31 rfl (lv_at hl 1 rfl) ?_
    refine g_Num_3 hx hb hts hown hK hP hwf hj1 (hts _ u_377) d_Reckoner_rest_32 ?_
    refine lv_aload_n hx hb d_Reckoner_rest_35 rfl (lv_at hl 2 rfl) ?_
    refine g_Num_0 hx hb hts hown hK hP hwf hj2 (hts _ u_368) d_Reckoner_rest_36 ?_
    obtain ⟨r8, er8, h⟩ := bd_ob h
    refine me_pani' (r0 := r8) (fg_runS (wc := []) (tc := []) (A2 := A) (As := [.long (mL M1 11 j1 3), .long (mL M1 11 j2 0)]) (rest := []) ⟨hx, hb, hml, hown, hts⟩ (c_Num_isBelow l D r8 (mL M1 11 j1 3) (mL M1 11 j2 0) er8 _) (by show fg_nm y_Num_isBelow 2; decide +kernel) u_1144 u_1063 u_187 u_1064 ⟨Nat.le_of_ble_eq_true rfl, Nat.le_of_ble_eq_true rfl⟩ hX me_P0 (hK.sub (tys' := []) [] rfl) me_D0 rfl hl.1 (Nat.le_of_ble_eq_true rfl) d_Reckoner_rest_39 ⟨Nat.le_of_ble_eq_true rfl, Nat.le_of_ble_eq_true rfl⟩) hP hD hK hS hA rfl rfl (fun H locs hw hP hD hS => ?_)
    have zr8 := hw
    refine lv_if_eq (tgt := 56) hx hb d_Reckoner_rest_42 (by decide) (fun c9 => ?_) (fun c9 => ?_)
    · have h := if_t c9 h
      refine lv_aload_n hx hb d_Reckoner_rest_56 rfl (lv_at hl 0 rfl) ?_
      refine g_Reckoner_2 hx hb hts hown hK hP hwf hj0 (hts _ u_398) d_Reckoner_rest_57 ?_
      obtain ⟨j10, e11, h⟩ := bd_ob h
      have hj10 : j10 < N 11 := (hwf.2.1 8 j0 2 _ (kp_r hkb hkp e11) (by decide) hj0)
      refine me_opt (j := j10) (kp_r hkb hkp e11) ?_
      refine lv_lconst (v := 0) hx hb d_Reckoner_rest_60 (by decide) ?_
      refine lv_aload_n hx hb d_Reckoner_rest_61 rfl (lv_at hl 2 rfl) ?_
      refine g_Num_0 hx hb hts hown hK hP hwf hj2 (hts _ u_368) d_Reckoner_rest_62 ?_
      refine lv_lconst (v := 1) hx hb d_Reckoner_rest_65 (by decide) ?_
      refine lv_lsub hx hb d_Reckoner_rest_66 ?_
      obtain ⟨M12, eM12, h⟩ := bd_ob h
      refine me_thenv0 (M1 := M12) (me_runV (C := "FilterGuard$Num") (As := [.long 0, .long ((mL M1 11 j2 0) - 1)]) (rest := []) ⟨hx, hb, hml, hown, hts⟩ (c_Num_range l D ad ca N M1 M12 j10 (0 : Int64) ((mL M1 11 j2 0) - 1) eM12 hwf hj10 _) rfl (by show fg_nm y_Num_range 2; decide +kernel) u_1145 u_1146 u_1147 u_187 u_1148 ⟨Nat.le_of_ble_eq_true rfl, Nat.le_of_ble_eq_true rfl⟩ hX hz hK hP hD hwf hS hA hj10 (by decide) rfl rfl rfl hl.1 (Nat.le_of_ble_eq_true rfl) d_Reckoner_rest_67 ⟨Nat.le_of_ble_eq_true rfl, Nat.le_of_ble_eq_true rfl⟩) hP hD hK hS hA rfl rfl (fun H locs hw hP hD hS => ?_)
      obtain ⟨hwf, hk9⟩ := hw
      have hkp := hkp.tr hk9
      exact me_retv (me_kp M0) h hx hb hr hlocks hwf hkp hP hK hD hS d_Reckoner_rest_70
    have h := if_f c9 h
    refine lv_aload_n hx hb d_Reckoner_rest_45 rfl (lv_at hl 0 rfl) ?_
    refine g_Reckoner_2 hx hb hts hown hK hP hwf hj0 (hts _ u_398) d_Reckoner_rest_46 ?_
    obtain ⟨j13, e14, h⟩ := bd_ob h
    have hj13 : j13 < N 11 := (hwf.2.1 8 j0 2 _ (kp_r hkb hkp e14) (by decide) hj0)
    refine me_opt (j := j13) (kp_r hkb hkp e14) ?_
    refine lv_aload_n hx hb d_Reckoner_rest_49 rfl (lv_at hl 1 rfl) ?_
    obtain ⟨M15, eM15, h⟩ := bd_ob h
    refine me_thenv0 (M1 := M15) (me_runV (C := "FilterGuard$Num") (As := [.ref (ad 11 j1)]) (rest := []) ⟨hx, hb, hml, hown, hts⟩ (c_Num_copy l D ad ca N M1 M15 j13 j1 eM15 hwf hj13 hj1 _) rfl (by show fg_nm y_Num_copy 1; decide +kernel) u_1189 u_1083 u_1084 u_187 u_1085 ⟨Nat.le_of_ble_eq_true rfl, Nat.le_of_ble_eq_true rfl⟩ hX hz hK hP hD hwf hS hA hj13 (by decide) rfl rfl rfl hl.1 (Nat.le_of_ble_eq_true rfl) d_Reckoner_rest_50 ⟨Nat.le_of_ble_eq_true rfl, Nat.le_of_ble_eq_true rfl⟩) hP hD hK hS hA rfl rfl (fun H locs hw hP hD hS => ?_)
    obtain ⟨hwf, hk9⟩ := hw
    have hkp := hkp.tr hk9
    refine lv_goto (tgt := 70) hx hb d_Reckoner_rest_53 (by decide) ?_
    exact me_retv (me_kp M0) h hx hb hr hlocks hwf hkp hP hK hD hS d_Reckoner_rest_70
  have h := if_t c3 h
  refine lv_aload_n hx hb d_Reckoner_rest_7 rfl (lv_at hl 0 rfl) ?_
  refine g_Reckoner_2 hx hb hts hown hK hP hwf hj0 (hts _ u_398) d_Reckoner_rest_8 ?_
  obtain ⟨j16, e17, h⟩ := bd_ob h
  have hj16 : j16 < N 11 := (hwf.2.1 8 j0 2 _ (kp_r hkb hkp e17) (by decide) hj0)
  refine me_opt (j := j16) (kp_r hkb hkp e17) ?_
  refine lv_lconst (v := 0) hx hb d_Reckoner_rest_11 (by decide) ?_
  refine lv_aload_n hx hb d_Reckoner_rest_12 rfl (lv_at hl 1 rfl) ?_
  refine g_Num_3 hx hb hts hown hK hP hwf hj1 (hts _ u_377) d_Reckoner_rest_13 ?_
  obtain ⟨M18, eM18, h⟩ := bd_ob h
  refine me_thenv0 (M1 := M18) (me_runV (C := "FilterGuard$Num") (As := [.long 0, .long (mL M1 11 j1 3)]) (rest := []) ⟨hx, hb, hml, hown, hts⟩ (c_Num_range l D ad ca N M1 M18 j16 (0 : Int64) (mL M1 11 j1 3) eM18 hwf hj16 _) rfl (by show fg_nm y_Num_range 2; decide +kernel) u_1145 u_1146 u_1147 u_187 u_1148 ⟨Nat.le_of_ble_eq_true rfl, Nat.le_of_ble_eq_true rfl⟩ hX hz hK hP hD hwf hS hA hj16 (by decide) rfl rfl rfl hl.1 (Nat.le_of_ble_eq_true rfl) d_Reckoner_rest_16 ⟨Nat.le_of_ble_eq_true rfl, Nat.le_of_ble_eq_true rfl⟩) hP hD hK hS hA rfl rfl (fun H locs hw hP hD hS => ?_)
  obtain ⟨hwf, hk9⟩ := hw
  have hkp := hkp.tr hk9
  refine lv_goto (tgt := 70) hx hb d_Reckoner_rest_19 (by decide) ?_
  exact me_retv (me_kp M0) h hx hb hr hlocks hwf hkp hP hK hD hS d_Reckoner_rest_70
theorem d_Num_lowerGreatest_0 : decode prog_8_method_16_code 0 = .ok (.aload_n 0, 1) := by decide +kernel
theorem d_Num_lowerGreatest_1 : decode prog_8_method_16_code 1 = .ok (.getfield 21, 3) := by decide +kernel
theorem d_Num_lowerGreatest_4 : decode prog_8_method_16_code 4 = .ok (.ldc2_w 32, 3) := by decide +kernel
theorem d_Num_lowerGreatest_7 : decode prog_8_method_16_code 7 = .ok (.lxor, 1) := by decide +kernel
theorem d_Num_lowerGreatest_8 : decode prog_8_method_16_code 8 = .ok (.lload_n 1, 1) := by decide +kernel
theorem d_Num_lowerGreatest_9 : decode prog_8_method_16_code 9 = .ok (.ldc2_w 32, 3) := by decide +kernel
theorem d_Num_lowerGreatest_12 : decode prog_8_method_16_code 12 = .ok (.lxor, 1) := by decide +kernel
theorem d_Num_lowerGreatest_13 : decode prog_8_method_16_code 13 = .ok (.lcmp, 1) := by decide +kernel
theorem d_Num_lowerGreatest_14 : decode prog_8_method_16_code 14 = .ok (.ifCond .le 8, 3) := by decide +kernel
theorem d_Num_lowerGreatest_22 : decode prog_8_method_16_code 22 = .ok (.return_, 1) := by decide +kernel
theorem d_Num_lowerGreatest_17 : decode prog_8_method_16_code 17 = .ok (.aload_n 0, 1) := by decide +kernel
theorem d_Num_lowerGreatest_18 : decode prog_8_method_16_code 18 = .ok (.lload_n 1, 1) := by decide +kernel
theorem d_Num_lowerGreatest_19 : decode prog_8_method_16_code 19 = .ok (.putfield 21, 3) := by decide +kernel
abbrev y_Num_lowerGreatest : MethodName := ⟨"FilterGuard$Num", "lowerGreatest", "(J)V"⟩
def rm_Num_lowerGreatest : Room := { frames := 1, cells := 0, slots := 0, locals := 20 }
abbrev q_Num_lowerGreatest (D : va_G) (ad : Nat → Nat → Nat) (ca : Nat → ClassId) (N : Nat → Nat) (M0 MZ : me_M) (A : Nat → Prop) : Array Value → Jvm.State → Outcome → Jvm.State → Prop := va_Qv (fun (_ : Unit) => me_wf N MZ ∧ me_kp M0 MZ) (fg_B D A (fun _ => me_W ad ca MZ) (fun _ => [])) A
set_option maxHeartbeats 4000000 in
set_option maxRecDepth 100000 in
theorem c_Num_lowerGreatest (l : Launch) (D : va_G) (ad : Nat → Nat → Nat) (ca : Nat → ClassId) (N : Nat → Nat) (M0 MZ : me_M) (j0 : Nat) (x1 : Int64) (h : f_Num_lowerGreatest M0 j0 x1 = (some MZ)) (hwf : me_wf N M0) (hj0 : j0 < N 11) (sz : Nat) : Met l y_Num_lowerGreatest (fg_w y_Num_lowerGreatest prog_8_method_16_code 3 none) rm_Num_lowerGreatest (va_Pc [.ref (ad 11 j0), .long x1] (fz_P D (me_T ca) (me_W ad ca M0) sz)) (q_Num_lowerGreatest D ad ca N M0 MZ (va_A (me_W ad ca M0) sz)) rm_Num_lowerGreatest.cells rm_Num_lowerGreatest.slots (va_A (me_W ad ca M0) sz) := by
  refine fz_enter (fun A => q_Num_lowerGreatest D ad ca N M0 MZ A) (by decide +kernel) (Nat.le_of_ble_eq_true rfl) ?_
  intro p e s m below meth c ls A hx hb hml hown hts hr hlocks hin hP hK hD hS hA hX hl hz
  have hl : lv_has ls 3 [(0, .ref (ad 11 j0)), (1, .long x1)] := hl
  unfold f_Num_lowerGreatest at h
  have hkp : me_kp M0 M0 := me_kp.rf
  have hkb := hkp
  refine lv_aload_n hx hb d_Num_lowerGreatest_0 rfl (lv_at hl 0 rfl) ?_
  refine g_Num_3 hx hb hts hown hK hP hwf hj0 (hts _ u_376) d_Num_lowerGreatest_1 ?_
  refine lv_ldc2 hx hb hown (hts _ u_1065) d_Num_lowerGreatest_4 ?_
  refine lv_lxor hx hb d_Num_lowerGreatest_7 ?_
  refine lv_lload_n hx hb d_Num_lowerGreatest_8 rfl (lv_at hl 1 rfl) ?_
  refine lv_ldc2 hx hb hown (hts _ u_1065) d_Num_lowerGreatest_9 ?_
  refine lv_lxor hx hb d_Num_lowerGreatest_12 ?_
  refine W.lcmp hx hb d_Num_lowerGreatest_13 ?_
  refine lv_if_le (tgt := 22) hx hb d_Num_lowerGreatest_14 (by decide) (fun c1 => ?_) (fun c1 => ?_)
  · have h := if_f (Int64.not_lt.mpr ((lg_cmp_le _ _).mp c1)) h
    exact me_retv (me_kp M0) h hx hb hr hlocks hwf hkp hP hK hD hS d_Num_lowerGreatest_22
  have h := if_t (Int64.not_le.mp (fun z => c1 ((lg_cmp_le _ _).mpr z))) h
  refine lv_aload_n hx hb d_Num_lowerGreatest_17 rfl (lv_at hl 0 rfl) ?_
  refine lv_lload_n hx hb d_Num_lowerGreatest_18 rfl (lv_at hl 1 rfl) ?_
  obtain ⟨M2, eM2, h⟩ := st_ob h
  refine p_Num_3 eM2 hx hb hts hown hK hP hD hwf hS hj0 (hts _ u_376) d_Num_lowerGreatest_19 (fun H locs hP hD hwf hS => ?_)
  have hkp := kp_L eM2 hkp
  exact me_retv (me_kp M0) h hx hb hr hlocks hwf hkp hP hK hD hS d_Num_lowerGreatest_22
theorem d_Reckoner_and_0 : decode prog_9_method_12_code 0 = .ok (.aload_n 1, 1) := by decide +kernel
theorem d_Reckoner_and_1 : decode prog_9_method_12_code 1 = .ok (.getfield 49, 3) := by decide +kernel
theorem d_Reckoner_and_4 : decode prog_9_method_12_code 4 = .ok (.aload_n 2, 1) := by decide +kernel
theorem d_Reckoner_and_5 : decode prog_9_method_12_code 5 = .ok (.getfield 49, 3) := by decide +kernel
theorem d_Reckoner_and_8 : decode prog_9_method_12_code 8 = .ok (.land, 1) := by decide +kernel
theorem d_Reckoner_and_9 : decode prog_9_method_12_code 9 = .ok (.lstore_n 3, 1) := by decide +kernel
theorem d_Reckoner_and_10 : decode prog_9_method_12_code 10 = .ok (.aload_n 0, 1) := by decide +kernel
theorem d_Reckoner_and_11 : decode prog_9_method_12_code 11 = .ok (.getfield 21, 3) := by decide +kernel
theorem d_Reckoner_and_14 : decode prog_9_method_12_code 14 = .ok (.lload_n 3, 1) := by decide +kernel
theorem d_Reckoner_and_15 : decode prog_9_method_12_code 15 = .ok (.aload_n 1, 1) := by decide +kernel
theorem d_Reckoner_and_16 : decode prog_9_method_12_code 16 = .ok (.getfield 49, 3) := by decide +kernel
theorem d_Reckoner_and_19 : decode prog_9_method_12_code 19 = .ok (.aload_n 1, 1) := by decide +kernel
theorem d_Reckoner_and_20 : decode prog_9_method_12_code 20 = .ok (.getfield 87, 3) := by decide +kernel
theorem d_Reckoner_and_23 : decode prog_9_method_12_code 23 = .ok (.lor, 1) := by decide +kernel
theorem d_Reckoner_and_24 : decode prog_9_method_12_code 24 = .ok (.aload_n 2, 1) := by decide +kernel
theorem d_Reckoner_and_25 : decode prog_9_method_12_code 25 = .ok (.getfield 49, 3) := by decide +kernel
theorem d_Reckoner_and_28 : decode prog_9_method_12_code 28 = .ok (.aload_n 2, 1) := by decide +kernel
theorem d_Reckoner_and_29 : decode prog_9_method_12_code 29 = .ok (.getfield 87, 3) := by decide +kernel
theorem d_Reckoner_and_32 : decode prog_9_method_12_code 32 = .ok (.lor, 1) := by decide +kernel
theorem d_Reckoner_and_33 : decode prog_9_method_12_code 33 = .ok (.land, 1) := by decide +kernel
theorem d_Reckoner_and_34 : decode prog_9_method_12_code 34 = .ok (.lload_n 3, 1) := by decide +kernel
theorem d_Reckoner_and_35 : decode prog_9_method_12_code 35 = .ok (.ldc2_w 90, 3) := by decide +kernel
theorem d_Reckoner_and_38 : decode prog_9_method_12_code 38 = .ok (.lxor, 1) := by decide +kernel
theorem d_Reckoner_and_39 : decode prog_9_method_12_code 39 = .ok (.land, 1) := by decide +kernel
theorem d_Reckoner_and_40 : decode prog_9_method_12_code 40 = .ok (.invokevirtual 92, 3) := by decide +kernel
theorem d_Reckoner_and_43 : decode prog_9_method_12_code 43 = .ok (.aload_n 0, 1) := by decide +kernel
theorem d_Reckoner_and_44 : decode prog_9_method_12_code 44 = .ok (.getfield 21, 3) := by decide +kernel
theorem d_Reckoner_and_47 : decode prog_9_method_12_code 47 = .ok (.aload_n 1, 1) := by decide +kernel
theorem d_Reckoner_and_48 : decode prog_9_method_12_code 48 = .ok (.getfield 122, 3) := by decide +kernel
theorem d_Reckoner_and_51 : decode prog_9_method_12_code 51 = .ok (.invokevirtual 146, 3) := by decide +kernel
theorem u_1194 : Cond.methodLink "FilterGuard$Reckoner" 146 ⟨"FilterGuard$Num", "lowerGreatest", "(J)V"⟩ ∈ fg_g := fg_in (List.mem_of_getElem? (i := 1194) (by decide +kernel)) rfl
theorem u_1197 : Cond.code ⟨"FilterGuard$Num", "lowerGreatest", "(J)V"⟩ prog_8_method_16_code 3 none ∈ fg_g := fg_in (List.mem_of_getElem? (i := 1197) (by decide +kernel)) rfl
theorem u_1195 : Cond.instanceMethod ⟨"FilterGuard$Num", "lowerGreatest", "(J)V"⟩ ∈ fg_g := fg_in (List.mem_of_getElem? (i := 1195) (by decide +kernel)) rfl
theorem u_1196 : Cond.selects "FilterGuard$Num" ⟨"FilterGuard$Num", "lowerGreatest", "(J)V"⟩ ⟨"FilterGuard$Num", "lowerGreatest", "(J)V"⟩ ∈ fg_g := fg_in (List.mem_of_getElem? (i := 1196) (by decide +kernel)) rfl
theorem d_Reckoner_and_54 : decode prog_9_method_12_code 54 = .ok (.aload_n 0, 1) := by decide +kernel
theorem d_Reckoner_and_55 : decode prog_9_method_12_code 55 = .ok (.getfield 21, 3) := by decide +kernel
theorem d_Reckoner_and_58 : decode prog_9_method_12_code 58 = .ok (.aload_n 2, 1) := by decide +kernel
theorem d_Reckoner_and_59 : decode prog_9_method_12_code 59 = .ok (.getfield 122, 3) := by decide +kernel
theorem d_Reckoner_and_62 : decode prog_9_method_12_code 62 = .ok (.invokevirtual 146, 3) := by decide +kernel
theorem d_Reckoner_and_65 : decode prog_9_method_12_code 65 = .ok (.return_, 1) := by decide +kernel
abbrev y_Reckoner_and : MethodName := ⟨"FilterGuard$Reckoner", "and", "(LFilterGuard$Num;LFilterGuard$Num;)V"⟩
def rm_Reckoner_and : Room := { frames := 2, cells := 0, slots := 0, locals := 44 }
abbrev q_Reckoner_and (D : va_G) (ad : Nat → Nat → Nat) (ca : Nat → ClassId) (N : Nat → Nat) (M0 MZ : me_M) (A : Nat → Prop) : Array Value → Jvm.State → Outcome → Jvm.State → Prop := va_Qv (fun (_ : Unit) => me_wf N MZ ∧ me_kp M0 MZ) (fg_B D A (fun _ => me_W ad ca MZ) (fun _ => [])) A
set_option maxHeartbeats 4000000 in
set_option maxRecDepth 100000 in
theorem c_Reckoner_and (l : Launch) (D : va_G) (ad : Nat → Nat → Nat) (ca : Nat → ClassId) (N : Nat → Nat) (M0 MZ : me_M) (j0 : Nat) (j1 : Nat) (j2 : Nat) (h : f_Reckoner_and M0 j0 j1 j2 = (some MZ)) (hwf : me_wf N M0) (hj0 : j0 < N 8) (hj1 : j1 < N 11) (hj2 : j2 < N 11) (sz : Nat) : Met l y_Reckoner_and (fg_w y_Reckoner_and prog_9_method_12_code 5 none) rm_Reckoner_and (va_Pc [.ref (ad 8 j0), .ref (ad 11 j1), .ref (ad 11 j2)] (fz_P D (me_T ca) (me_W ad ca M0) sz)) (q_Reckoner_and D ad ca N M0 MZ (va_A (me_W ad ca M0) sz)) rm_Reckoner_and.cells rm_Reckoner_and.slots (va_A (me_W ad ca M0) sz) := by
  refine fz_enter (fun A => q_Reckoner_and D ad ca N M0 MZ A) (by decide +kernel) (Nat.le_of_ble_eq_true rfl) ?_
  intro p e s m below meth c ls A hx hb hml hown hts hr hlocks hin hP hK hD hS hA hX hl hz
  have hl : lv_has ls 5 [(0, .ref (ad 8 j0)), (1, .ref (ad 11 j1)), (2, .ref (ad 11 j2))] := hl
  unfold f_Reckoner_and at h
  have hkp : me_kp M0 M0 := me_kp.rf
  have hkb := hkp
  refine lv_aload_n hx hb d_Reckoner_and_0 rfl (lv_at hl 1 rfl) ?_
  refine g_Num_0 hx hb hts hown hK hP hwf hj1 (hts _ u_368) d_Reckoner_and_1 ?_
  refine lv_aload_n hx hb d_Reckoner_and_4 rfl (lv_at hl 2 rfl) ?_
  refine g_Num_0 hx hb hts hown hK hP hwf hj2 (hts _ u_368) d_Reckoner_and_5 ?_
  refine lv_land hx hb d_Reckoner_and_8 ?_
  obtain ⟨v1, ev1, h⟩ := st_ob h
  refine fg_topl (y := v1) ev1.symm ?_
  refine lv_lstore_n (lv' := [(3, .long v1), (0, .ref (ad 8 j0)), (1, .ref (ad 11 j1)), (2, .ref (ad 11 j2))]) hx hb d_Reckoner_and_9 rfl hl (by decide) rfl (fun ls hl => ?_)
  refine lv_aload_n hx hb d_Reckoner_and_10 rfl (lv_at hl 1 rfl) ?_
  refine g_Reckoner_2 hx hb hts hown hK hP hwf hj0 (hts _ u_398) d_Reckoner_and_11 ?_
  obtain ⟨j3, e4, h⟩ := bd_ob h
  have hj3 : j3 < N 11 := (hwf.2.1 8 j0 2 _ e4 (by decide) hj0)
  refine me_opt (j := j3) e4 ?_
  refine lv_lload_n hx hb d_Reckoner_and_14 rfl (lv_at hl 0 rfl) ?_
  refine lv_aload_n hx hb d_Reckoner_and_15 rfl (lv_at hl 2 rfl) ?_
  refine g_Num_0 hx hb hts hown hK hP hwf hj1 (hts _ u_368) d_Reckoner_and_16 ?_
  refine lv_aload_n hx hb d_Reckoner_and_19 rfl (lv_at hl 2 rfl) ?_
  refine g_Num_1 hx hb hts hown hK hP hwf hj1 (hts _ u_372) d_Reckoner_and_20 ?_
  refine lv_lor hx hb d_Reckoner_and_23 ?_
  refine lv_aload_n hx hb d_Reckoner_and_24 rfl (lv_at hl 3 rfl) ?_
  refine g_Num_0 hx hb hts hown hK hP hwf hj2 (hts _ u_368) d_Reckoner_and_25 ?_
  refine lv_aload_n hx hb d_Reckoner_and_28 rfl (lv_at hl 3 rfl) ?_
  refine g_Num_1 hx hb hts hown hK hP hwf hj2 (hts _ u_372) d_Reckoner_and_29 ?_
  refine lv_lor hx hb d_Reckoner_and_32 ?_
  refine lv_land hx hb d_Reckoner_and_33 ?_
  obtain ⟨v5, ev5, h⟩ := st_ob h
  refine fg_topl (y := v5) ev5.symm ?_
  refine lv_lload_n hx hb d_Reckoner_and_34 rfl (lv_at hl 0 rfl) ?_
  refine lv_ldc2 hx hb hown (hts _ u_1139) d_Reckoner_and_35 ?_
  refine lv_lxor hx hb d_Reckoner_and_38 ?_
  refine lv_land hx hb d_Reckoner_and_39 ?_
  obtain ⟨M6, eM6, h⟩ := bd_ob h
  refine me_thenv0 (M1 := M6) (me_runV (C := "FilterGuard$Num") (As := [.long v1, .long (v5 &&& (v1 ^^^ (-1)))]) (rest := []) ⟨hx, hb, hml, hown, hts⟩ (c_Num_bits l D ad ca N M0 M6 j3 v1 (v5 &&& (v1 ^^^ (-1))) eM6 hwf hj3 _) rfl (by show fg_nm y_Num_bits 2; decide +kernel) u_1140 u_1141 u_1142 u_187 u_1143 ⟨Nat.le_of_ble_eq_true rfl, Nat.le_of_ble_eq_true rfl⟩ hX hz hK hP hD hwf hS hA hj3 (by decide) rfl rfl rfl hl.1 (Nat.le_of_ble_eq_true rfl) d_Reckoner_and_40 ⟨Nat.le_of_ble_eq_true rfl, Nat.le_of_ble_eq_true rfl⟩) hP hD hK hS hA rfl rfl (fun H locs hw hP hD hS => ?_)
  obtain ⟨hwf, hk9⟩ := hw
  have hkp := hkp.tr hk9
  refine lv_aload_n hx hb d_Reckoner_and_43 rfl (lv_at hl 1 rfl) ?_
  refine g_Reckoner_2 hx hb hts hown hK hP hwf hj0 (hts _ u_398) d_Reckoner_and_44 ?_
  refine me_opt (j := j3) (kp_r hkb hkp e4) ?_
  refine lv_aload_n hx hb d_Reckoner_and_47 rfl (lv_at hl 2 rfl) ?_
  refine g_Num_3 hx hb hts hown hK hP hwf hj1 (hts _ u_377) d_Reckoner_and_48 ?_
  obtain ⟨M7, eM7, h⟩ := bd_ob h
  refine me_thenv0 (M1 := M7) (me_runV (C := "FilterGuard$Num") (As := [.long (mL M6 11 j1 3)]) (rest := []) ⟨hx, hb, hml, hown, hts⟩ (c_Num_lowerGreatest l D ad ca N M6 M7 j3 (mL M6 11 j1 3) eM7 hwf hj3 _) rfl (by show fg_nm y_Num_lowerGreatest 1; decide +kernel) u_1194 u_1195 u_1196 u_187 u_1197 ⟨Nat.le_of_ble_eq_true rfl, Nat.le_of_ble_eq_true rfl⟩ hX hz hK hP hD hwf hS hA hj3 (by decide) rfl rfl rfl hl.1 (Nat.le_of_ble_eq_true rfl) d_Reckoner_and_51 ⟨Nat.le_of_ble_eq_true rfl, Nat.le_of_ble_eq_true rfl⟩) hP hD hK hS hA rfl rfl (fun H locs hw hP hD hS => ?_)
  obtain ⟨hwf, hk9⟩ := hw
  have hkp := hkp.tr hk9
  refine lv_aload_n hx hb d_Reckoner_and_54 rfl (lv_at hl 1 rfl) ?_
  refine g_Reckoner_2 hx hb hts hown hK hP hwf hj0 (hts _ u_398) d_Reckoner_and_55 ?_
  refine me_opt (j := j3) (kp_r hkb hkp e4) ?_
  refine lv_aload_n hx hb d_Reckoner_and_58 rfl (lv_at hl 3 rfl) ?_
  refine g_Num_3 hx hb hts hown hK hP hwf hj2 (hts _ u_377) d_Reckoner_and_59 ?_
  obtain ⟨M8, eM8, h⟩ := bd_ob h
  refine me_thenv0 (M1 := M8) (me_runV (C := "FilterGuard$Num") (As := [.long (mL M7 11 j2 3)]) (rest := []) ⟨hx, hb, hml, hown, hts⟩ (c_Num_lowerGreatest l D ad ca N M7 M8 j3 (mL M7 11 j2 3) eM8 hwf hj3 _) rfl (by show fg_nm y_Num_lowerGreatest 1; decide +kernel) u_1194 u_1195 u_1196 u_187 u_1197 ⟨Nat.le_of_ble_eq_true rfl, Nat.le_of_ble_eq_true rfl⟩ hX hz hK hP hD hwf hS hA hj3 (by decide) rfl rfl rfl hl.1 (Nat.le_of_ble_eq_true rfl) d_Reckoner_and_62 ⟨Nat.le_of_ble_eq_true rfl, Nat.le_of_ble_eq_true rfl⟩) hP hD hK hS hA rfl rfl (fun H locs hw hP hD hS => ?_)
  obtain ⟨hwf, hk9⟩ := hw
  have hkp := hkp.tr hk9
  exact me_retv (me_kp M0) h hx hb hr hlocks hwf hkp hP hK hD hS d_Reckoner_and_65
theorem d_Num_raiseLeast_0 : decode prog_8_method_15_code 0 = .ok (.aload_n 0, 1) := by decide +kernel
theorem d_Num_raiseLeast_1 : decode prog_8_method_15_code 1 = .ok (.getfield 18, 3) := by decide +kernel
theorem d_Num_raiseLeast_4 : decode prog_8_method_15_code 4 = .ok (.ldc2_w 32, 3) := by decide +kernel
theorem d_Num_raiseLeast_7 : decode prog_8_method_15_code 7 = .ok (.lxor, 1) := by decide +kernel
theorem d_Num_raiseLeast_8 : decode prog_8_method_15_code 8 = .ok (.lload_n 1, 1) := by decide +kernel
theorem d_Num_raiseLeast_9 : decode prog_8_method_15_code 9 = .ok (.ldc2_w 32, 3) := by decide +kernel
theorem d_Num_raiseLeast_12 : decode prog_8_method_15_code 12 = .ok (.lxor, 1) := by decide +kernel
theorem d_Num_raiseLeast_13 : decode prog_8_method_15_code 13 = .ok (.lcmp, 1) := by decide +kernel
theorem d_Num_raiseLeast_14 : decode prog_8_method_15_code 14 = .ok (.ifCond .ge 8, 3) := by decide +kernel
theorem d_Num_raiseLeast_22 : decode prog_8_method_15_code 22 = .ok (.return_, 1) := by decide +kernel
theorem d_Num_raiseLeast_17 : decode prog_8_method_15_code 17 = .ok (.aload_n 0, 1) := by decide +kernel
theorem d_Num_raiseLeast_18 : decode prog_8_method_15_code 18 = .ok (.lload_n 1, 1) := by decide +kernel
theorem d_Num_raiseLeast_19 : decode prog_8_method_15_code 19 = .ok (.putfield 18, 3) := by decide +kernel
abbrev y_Num_raiseLeast : MethodName := ⟨"FilterGuard$Num", "raiseLeast", "(J)V"⟩
def rm_Num_raiseLeast : Room := { frames := 1, cells := 0, slots := 0, locals := 20 }
abbrev q_Num_raiseLeast (D : va_G) (ad : Nat → Nat → Nat) (ca : Nat → ClassId) (N : Nat → Nat) (M0 MZ : me_M) (A : Nat → Prop) : Array Value → Jvm.State → Outcome → Jvm.State → Prop := va_Qv (fun (_ : Unit) => me_wf N MZ ∧ me_kp M0 MZ) (fg_B D A (fun _ => me_W ad ca MZ) (fun _ => [])) A
set_option maxHeartbeats 4000000 in
set_option maxRecDepth 100000 in
theorem c_Num_raiseLeast (l : Launch) (D : va_G) (ad : Nat → Nat → Nat) (ca : Nat → ClassId) (N : Nat → Nat) (M0 MZ : me_M) (j0 : Nat) (x1 : Int64) (h : f_Num_raiseLeast M0 j0 x1 = (some MZ)) (hwf : me_wf N M0) (hj0 : j0 < N 11) (sz : Nat) : Met l y_Num_raiseLeast (fg_w y_Num_raiseLeast prog_8_method_15_code 3 none) rm_Num_raiseLeast (va_Pc [.ref (ad 11 j0), .long x1] (fz_P D (me_T ca) (me_W ad ca M0) sz)) (q_Num_raiseLeast D ad ca N M0 MZ (va_A (me_W ad ca M0) sz)) rm_Num_raiseLeast.cells rm_Num_raiseLeast.slots (va_A (me_W ad ca M0) sz) := by
  refine fz_enter (fun A => q_Num_raiseLeast D ad ca N M0 MZ A) (by decide +kernel) (Nat.le_of_ble_eq_true rfl) ?_
  intro p e s m below meth c ls A hx hb hml hown hts hr hlocks hin hP hK hD hS hA hX hl hz
  have hl : lv_has ls 3 [(0, .ref (ad 11 j0)), (1, .long x1)] := hl
  unfold f_Num_raiseLeast at h
  have hkp : me_kp M0 M0 := me_kp.rf
  have hkb := hkp
  refine lv_aload_n hx hb d_Num_raiseLeast_0 rfl (lv_at hl 0 rfl) ?_
  refine g_Num_2 hx hb hts hown hK hP hwf hj0 (hts _ u_373) d_Num_raiseLeast_1 ?_
  refine lv_ldc2 hx hb hown (hts _ u_1065) d_Num_raiseLeast_4 ?_
  refine lv_lxor hx hb d_Num_raiseLeast_7 ?_
  refine lv_lload_n hx hb d_Num_raiseLeast_8 rfl (lv_at hl 1 rfl) ?_
  refine lv_ldc2 hx hb hown (hts _ u_1065) d_Num_raiseLeast_9 ?_
  refine lv_lxor hx hb d_Num_raiseLeast_12 ?_
  refine W.lcmp hx hb d_Num_raiseLeast_13 ?_
  refine lv_if_ge (tgt := 22) hx hb d_Num_raiseLeast_14 (by decide) (fun c1 => ?_) (fun c1 => ?_)
  · have h := if_f (Int64.not_lt.mpr ((lg_cmp_ge _ _).mp c1)) h
    exact me_retv (me_kp M0) h hx hb hr hlocks hwf hkp hP hK hD hS d_Num_raiseLeast_22
  have h := if_t (Int64.not_le.mp (fun z => c1 ((lg_cmp_ge _ _).mpr z))) h
  refine lv_aload_n hx hb d_Num_raiseLeast_17 rfl (lv_at hl 0 rfl) ?_
  refine lv_lload_n hx hb d_Num_raiseLeast_18 rfl (lv_at hl 1 rfl) ?_
  obtain ⟨M2, eM2, h⟩ := st_ob h
  refine p_Num_2 eM2 hx hb hts hown hK hP hD hwf hS hj0 (hts _ u_373) d_Num_raiseLeast_19 (fun H locs hP hD hwf hS => ?_)
  have hkp := kp_L eM2 hkp
  exact me_retv (me_kp M0) h hx hb hr hlocks hwf hkp hP hK hD hS d_Num_raiseLeast_22
theorem d_Num_isExact1_0 : decode prog_8_method_8_code 0 = .ok (.aload_n 0, 1) := by decide +kernel
theorem d_Num_isExact1_1 : decode prog_8_method_8_code 1 = .ok (.getfield 15, 3) := by decide +kernel
theorem d_Num_isExact1_4 : decode prog_8_method_8_code 4 = .ok (.lconst 0, 1) := by decide +kernel
theorem d_Num_isExact1_5 : decode prog_8_method_8_code 5 = .ok (.lcmp, 1) := by decide +kernel
theorem d_Num_isExact1_6 : decode prog_8_method_8_code 6 = .ok (.ifCond .ne 16, 3) := by decide +kernel
theorem d_Num_isExact1_22 : decode prog_8_method_8_code 22 = .ok (.iconst 0, 1) := by decide +kernel
theorem d_Num_isExact1_23 : decode prog_8_method_8_code 23 = .ok (.ireturn, 1) := by decide +kernel
theorem d_Num_isExact1_9 : decode prog_8_method_8_code 9 = .ok (.aload_n 0, 1) := by decide +kernel
theorem d_Num_isExact1_10 : decode prog_8_method_8_code 10 = .ok (.getfield 9, 3) := by decide +kernel
theorem d_Num_isExact1_13 : decode prog_8_method_8_code 13 = .ok (.lload_n 1, 1) := by decide +kernel
theorem d_Num_isExact1_14 : decode prog_8_method_8_code 14 = .ok (.lcmp, 1) := by decide +kernel
theorem d_Num_isExact1_15 : decode prog_8_method_8_code 15 = .ok (.ifCond .ne 7, 3) := by decide +kernel
theorem d_Num_isExact1_18 : decode prog_8_method_8_code 18 = .ok (.iconst 1, 1) := by decide +kernel
theorem d_Num_isExact1_19 : decode prog_8_method_8_code 19 = .ok (.goto 4, 3) := by decide +kernel
abbrev y_Num_isExact1 : MethodName := ⟨"FilterGuard$Num", "isExact", "(J)Z"⟩
def rm_Num_isExact1 : Room := { frames := 1, cells := 0, slots := 0, locals := 20 }
abbrev q_Num_isExact1 (D : va_G) (ad : Nat → Nat → Nat) (ca : Nat → ClassId) (N : Nat → Nat) (M0 MZ : me_M) (RZ : Int32) (A : Nat → Prop) : Array Value → Jvm.State → Outcome → Jvm.State → Prop := va_Qi (fun r (_ : Unit) => r = RZ ∧ me_wf N MZ ∧ me_kp M0 MZ ∧ (RZ = 1 ∨ RZ = 0)) (fg_B D A (fun _ => me_W ad ca MZ) (fun _ => [])) A
set_option maxHeartbeats 4000000 in
set_option maxRecDepth 100000 in
theorem c_Num_isExact1 (l : Launch) (D : va_G) (ad : Nat → Nat → Nat) (ca : Nat → ClassId) (N : Nat → Nat) (M0 MZ : me_M) (RZ : Int32) (j0 : Nat) (x1 : Int64) (h : f_Num_isExact1 M0 j0 x1 = (some (MZ, RZ))) (hwf : me_wf N M0) (hj0 : j0 < N 11) (sz : Nat) : Met l y_Num_isExact1 (fg_w y_Num_isExact1 prog_8_method_8_code 3 (some .boolean)) rm_Num_isExact1 (va_Pc [.ref (ad 11 j0), .long x1] (fz_P D (me_T ca) (me_W ad ca M0) sz)) (q_Num_isExact1 D ad ca N M0 MZ RZ (va_A (me_W ad ca M0) sz)) rm_Num_isExact1.cells rm_Num_isExact1.slots (va_A (me_W ad ca M0) sz) := by
  refine fz_enter (fun A => q_Num_isExact1 D ad ca N M0 MZ RZ A) (by decide +kernel) (Nat.le_of_ble_eq_true rfl) ?_
  intro p e s m below meth c ls A hx hb hml hown hts hr hlocks hin hP hK hD hS hA hX hl hz
  have hl : lv_has ls 3 [(0, .ref (ad 11 j0)), (1, .long x1)] := hl
  unfold f_Num_isExact1 at h
  have hkp : me_kp M0 M0 := me_kp.rf
  have hkb := hkp
  refine lv_aload_n hx hb d_Num_isExact1_0 rfl (lv_at hl 0 rfl) ?_
  refine g_Num_1 hx hb hts hown hK hP hwf hj0 (hts _ u_371) d_Num_isExact1_1 ?_
  refine lv_lconst (v := 0) hx hb d_Num_isExact1_4 (by decide) ?_
  refine W.lcmp hx hb d_Num_isExact1_5 ?_
  refine lv_if_ne (tgt := 22) hx hb d_Num_isExact1_6 (by decide) (fun c1 => ?_) (fun c1 => ?_)
  · have h := if_f (fun z => c1 ((lg_cmp_eq _ _).mpr z)) h
    refine lv_iconst (v := 0) hx hb d_Num_isExact1_22 (by decide) ?_
    exact me_retz (me_kp M0) h (by decide) hx hb hr hlocks hwf hkp hP hK hD hS d_Num_isExact1_23
  have h := if_t ((lg_cmp_eq _ _).mp c1) h
  refine lv_aload_n hx hb d_Num_isExact1_9 rfl (lv_at hl 0 rfl) ?_
  refine g_Num_0 hx hb hts hown hK hP hwf hj0 (hts _ u_367) d_Num_isExact1_10 ?_
  refine lv_lload_n hx hb d_Num_isExact1_13 rfl (lv_at hl 1 rfl) ?_
  refine W.lcmp hx hb d_Num_isExact1_14 ?_
  refine lv_if_ne (tgt := 22) hx hb d_Num_isExact1_15 (by decide) (fun c2 => ?_) (fun c2 => ?_)
  · have h := if_f (fun z => c2 ((lg_cmp_eq _ _).mpr z)) h
    refine lv_iconst (v := 0) hx hb d_Num_isExact1_22 (by decide) ?_
    exact me_retz (me_kp M0) h (by decide) hx hb hr hlocks hwf hkp hP hK hD hS d_Num_isExact1_23
  have h := if_t ((lg_cmp_eq _ _).mp c2) h
  refine lv_iconst (v := 1) hx hb d_Num_isExact1_18 (by decide) ?_
  refine lv_goto (tgt := 23) hx hb d_Num_isExact1_19 (by decide) ?_
  exact me_retz (me_kp M0) h (by decide) hx hb hr hlocks hwf hkp hP hK hD hS d_Num_isExact1_23
theorem d_Reckoner_swapped_5 : decode prog_9_method_3_code 5 = .ok (.iload 5, 2) := by decide +kernel
theorem d_Reckoner_swapped_7 : decode prog_9_method_3_code 7 = .ok (.iload_n 2, 1) := by decide +kernel
theorem d_Reckoner_swapped_8 : decode prog_9_method_3_code 8 = .ok (.if_icmp .ge 26, 3) := by decide +kernel
theorem d_Reckoner_swapped_34 : decode prog_9_method_3_code 34 = .ok (.lload_n 3, 1) := by decide +kernel
theorem d_Reckoner_swapped_35 : decode prog_9_method_3_code 35 = .ok (.lreturn, 1) := by decide +kernel
theorem d_Reckoner_swapped_11 : decode prog_9_method_3_code 11 = .ok (.lload_n 3, 1) := by decide +kernel
theorem d_Reckoner_swapped_12 : decode prog_9_method_3_code 12 = .ok (.bipush 8, 2) := by decide +kernel
theorem d_Reckoner_swapped_14 : decode prog_9_method_3_code 14 = .ok (.lshl, 1) := by decide +kernel
theorem d_Reckoner_swapped_15 : decode prog_9_method_3_code 15 = .ok (.lload_n 0, 1) := by decide +kernel
theorem d_Reckoner_swapped_16 : decode prog_9_method_3_code 16 = .ok (.bipush 8, 2) := by decide +kernel
theorem d_Reckoner_swapped_18 : decode prog_9_method_3_code 18 = .ok (.iload 5, 2) := by decide +kernel
theorem d_Reckoner_swapped_20 : decode prog_9_method_3_code 20 = .ok (.imul, 1) := by decide +kernel
theorem d_Reckoner_swapped_21 : decode prog_9_method_3_code 21 = .ok (.lushr, 1) := by decide +kernel
theorem d_Reckoner_swapped_22 : decode prog_9_method_3_code 22 = .ok (.ldc2_w 32, 3) := by decide +kernel
theorem u_1215 : Cond.constantLong "FilterGuard$Reckoner" 32 255 ∈ fg_g := fg_in (List.mem_of_getElem? (i := 1215) (by decide +kernel)) rfl
theorem d_Reckoner_swapped_25 : decode prog_9_method_3_code 25 = .ok (.land, 1) := by decide +kernel
theorem d_Reckoner_swapped_26 : decode prog_9_method_3_code 26 = .ok (.lor, 1) := by decide +kernel
theorem d_Reckoner_swapped_27 : decode prog_9_method_3_code 27 = .ok (.lstore_n 3, 1) := by decide +kernel
theorem d_Reckoner_swapped_28 : decode prog_9_method_3_code 28 = .ok (.iinc 5 1, 3) := by decide +kernel
theorem d_Reckoner_swapped_31 : decode prog_9_method_3_code 31 = .ok (.goto (-26), 3) := by decide +kernel
theorem d_Reckoner_swapped_0 : decode prog_9_method_3_code 0 = .ok (.lconst 0, 1) := by decide +kernel
theorem d_Reckoner_swapped_1 : decode prog_9_method_3_code 1 = .ok (.lstore_n 3, 1) := by decide +kernel
theorem d_Reckoner_swapped_2 : decode prog_9_method_3_code 2 = .ok (.iconst 0, 1) := by decide +kernel
theorem d_Reckoner_swapped_3 : decode prog_9_method_3_code 3 = .ok (.istore 5, 2) := by decide +kernel
abbrev y_Reckoner_swapped : MethodName := ⟨"FilterGuard$Reckoner", "swapped", "(JI)J"⟩
def rm_Reckoner_swapped : Room := { frames := 1, cells := 0, slots := 0, locals := 20 }
abbrev q_Reckoner_swapped (D : va_G) (RZ : Int64) (A : Nat → Prop) : Array Value → Jvm.State → Outcome → Jvm.State → Prop := va_Ql (fun r (_ : Unit) => r = RZ ∧ True) (fg_B D A (fun _ => []) (fun _ => [])) A
set_option maxHeartbeats 4000000 in
set_option maxRecDepth 100000 in
theorem c_Reckoner_swapped (l : Launch) (D : va_G) (RZ : Int64) (x0 : Int64) (x2 : Int32) (h : f_Reckoner_swapped x0 x2 = (some RZ)) (sz : Nat) : Met l y_Reckoner_swapped (fg_w y_Reckoner_swapped prog_9_method_3_code 6 (some .long)) rm_Reckoner_swapped (va_Pc [.long x0, .int x2] (fg_P D [] [] sz)) (q_Reckoner_swapped D RZ (va_A [] sz)) rm_Reckoner_swapped.cells rm_Reckoner_swapped.slots (va_A [] sz) := by
  refine fg_enter (fun A => q_Reckoner_swapped D RZ A) (by decide +kernel) (Nat.le_of_ble_eq_true rfl) ?_
  intro p e s m below meth c ls A hx hb hml hown hts hr hlocks hin hP hK hD hS hA hX hl
  have hl : lv_has ls 6 [(0, .long x0), (2, .int x2)] := hl
  unfold f_Reckoner_swapped at h
  have b_5 : ∀ (fu : Nat), ∀ (y3 : Int64) (y5 : Int32) (H : Heap) (locs : List Loc) (ls : Array Slot), f_Reckoner_swapped_l5 x0 x2 fu y3 y5 = (some RZ) → va_S A s.heap H locs → lv_has ls 6 [(0, .long x0), (2, .int x2), (3, .long y3), (5, .int y5)] → W p l e rm_Reckoner_swapped s m [.long x0, .int x2].toArray below meth c H locs 0 0 (MQ below (q_Reckoner_swapped D RZ A) [.long x0, .int x2].toArray s rm_Reckoner_swapped.cells rm_Reckoner_swapped.slots A) (F0 m 5 ls []) := by
    intro fu
    induction fu with
    | zero =>
      intro y3 y5 H locs ls h hS hl
      cases h
    | succ fu ih =>
      intro y3 y5 H locs ls h hS hl
      unfold f_Reckoner_swapped_l5 at h
      refine lv_iload hx hb d_Reckoner_swapped_5 (lv_at hl 3 rfl) ?_
      refine lv_iload_n hx hb d_Reckoner_swapped_7 rfl (lv_at hl 1 rfl) ?_
      refine lv_icmp_ge (tgt := 34) hx hb d_Reckoner_swapped_8 (by decide) (fun c1 => ?_) (fun c1 => ?_)
      · have h := if_t c1 h
        refine lv_lload_n hx hb d_Reckoner_swapped_34 rfl (lv_at hl 2 rfl) ?_
        exact me_pretl h hx hb hr hlocks hK hS d_Reckoner_swapped_35
      have h := if_f c1 h
      refine lv_lload_n hx hb d_Reckoner_swapped_11 rfl (lv_at hl 2 rfl) ?_
      refine lv_bipush (v := 8) hx hb d_Reckoner_swapped_12 (by decide) ?_
      refine lv_lshl (v := jlshl y3 (8 : Int32)) hx hb d_Reckoner_swapped_14 rfl ?_
      refine lv_lload_n hx hb d_Reckoner_swapped_15 rfl (lv_at hl 0 rfl) ?_
      refine lv_bipush (v := 8) hx hb d_Reckoner_swapped_16 (by decide) ?_
      refine lv_iload hx hb d_Reckoner_swapped_18 (lv_at hl 3 rfl) ?_
      refine lv_imul hx hb d_Reckoner_swapped_20 ?_
      refine lv_lushr (v := jlushr x0 (8 * y5)) hx hb d_Reckoner_swapped_21 rfl ?_
      refine lv_ldc2 hx hb hown (hts _ u_1215) d_Reckoner_swapped_22 ?_
      refine lv_land hx hb d_Reckoner_swapped_25 ?_
      refine lv_lor hx hb d_Reckoner_swapped_26 ?_
      obtain ⟨v2, ev2, h⟩ := st_ob h
      refine fg_topl (y := v2) ev2.symm ?_
      refine lv_lstore_n (lv' := [(3, .long v2), (0, .long x0), (2, .int x2), (5, .int y5)]) hx hb d_Reckoner_swapped_27 rfl hl (by decide) rfl (fun ls hl => ?_)
      refine lv_iinc (v := y5 + 1) (lv' := [(5, .int (y5 + 1)), (3, .long v2), (0, .long x0), (2, .int x2)]) hx hb d_Reckoner_swapped_28 hl (k := 3) rfl (by rfl) (by decide) rfl (fun ls hl => ?_)
      refine lv_goto (tgt := 5) hx hb d_Reckoner_swapped_31 (by decide) ?_
      exact ih v2 (y5 + 1) _ _ _ h hS (lv_sub hl [2, 3, 1, 0] rfl)
  refine lv_lconst (v := 0) hx hb d_Reckoner_swapped_0 (by decide) ?_
  refine lv_lstore_n (lv' := [(3, .long 0), (0, .long x0), (2, .int x2)]) hx hb d_Reckoner_swapped_1 rfl hl (by decide) rfl (fun ls hl => ?_)
  refine lv_iconst (v := 0) hx hb d_Reckoner_swapped_2 (by decide) ?_
  refine lv_istore (lv' := [(5, .int 0), (3, .long 0), (0, .long x0), (2, .int x2)]) hx hb d_Reckoner_swapped_3 hl (by decide) rfl (fun ls hl => ?_)
  exact b_5 _ (0 : Int64) (0 : Int32) _ _ _ h hS (lv_sub hl [2, 3, 1, 0] rfl)
theorem d_Reckoner_swap_30 : decode prog_9_method_14_code 30 = .ok (.istore_n 3, 1) := by decide +kernel
theorem d_Reckoner_swap_31 : decode prog_9_method_14_code 31 = .ok (.aload_n 1, 1) := by decide +kernel
theorem d_Reckoner_swap_32 : decode prog_9_method_14_code 32 = .ok (.invokevirtual 45, 3) := by decide +kernel
theorem d_Reckoner_swap_35 : decode prog_9_method_14_code 35 = .ok (.ifCond .eq 21, 3) := by decide +kernel
theorem d_Reckoner_swap_56 : decode prog_9_method_14_code 56 = .ok (.iload_n 3, 1) := by decide +kernel
theorem d_Reckoner_swap_57 : decode prog_9_method_14_code 57 = .ok (.bipush 8, 2) := by decide +kernel
theorem d_Reckoner_swap_59 : decode prog_9_method_14_code 59 = .ok (.if_icmp .ge 19, 3) := by decide +kernel
theorem d_Reckoner_swap_78 : decode prog_9_method_14_code 78 = .ok (.return_, 1) := by decide +kernel
theorem d_Reckoner_swap_62 : decode prog_9_method_14_code 62 = .ok (.aload_n 0, 1) := by decide +kernel
theorem d_Reckoner_swap_63 : decode prog_9_method_14_code 63 = .ok (.getfield 21, 3) := by decide +kernel
theorem d_Reckoner_swap_66 : decode prog_9_method_14_code 66 = .ok (.lconst 0, 1) := by decide +kernel
theorem d_Reckoner_swap_67 : decode prog_9_method_14_code 67 = .ok (.lconst 1, 1) := by decide +kernel
theorem d_Reckoner_swap_68 : decode prog_9_method_14_code 68 = .ok (.bipush 8, 2) := by decide +kernel
theorem d_Reckoner_swap_70 : decode prog_9_method_14_code 70 = .ok (.iload_n 3, 1) := by decide +kernel
theorem d_Reckoner_swap_71 : decode prog_9_method_14_code 71 = .ok (.imul, 1) := by decide +kernel
theorem d_Reckoner_swap_72 : decode prog_9_method_14_code 72 = .ok (.lshl, 1) := by decide +kernel
theorem d_Reckoner_swap_73 : decode prog_9_method_14_code 73 = .ok (.lconst 1, 1) := by decide +kernel
theorem d_Reckoner_swap_74 : decode prog_9_method_14_code 74 = .ok (.lsub, 1) := by decide +kernel
theorem d_Reckoner_swap_75 : decode prog_9_method_14_code 75 = .ok (.invokevirtual 125, 3) := by decide +kernel
theorem d_Reckoner_swap_38 : decode prog_9_method_14_code 38 = .ok (.aload_n 0, 1) := by decide +kernel
theorem d_Reckoner_swap_39 : decode prog_9_method_14_code 39 = .ok (.getfield 21, 3) := by decide +kernel
theorem d_Reckoner_swap_42 : decode prog_9_method_14_code 42 = .ok (.aload_n 1, 1) := by decide +kernel
theorem d_Reckoner_swap_43 : decode prog_9_method_14_code 43 = .ok (.getfield 49, 3) := by decide +kernel
theorem d_Reckoner_swap_46 : decode prog_9_method_14_code 46 = .ok (.iload_n 3, 1) := by decide +kernel
theorem d_Reckoner_swap_47 : decode prog_9_method_14_code 47 = .ok (.invokestatic 149, 3) := by decide +kernel
theorem u_1212 : Cond.methodLink "FilterGuard$Reckoner" 149 ⟨"FilterGuard$Reckoner", "swapped", "(JI)J"⟩ ∈ fg_g := fg_in (List.mem_of_getElem? (i := 1212) (by decide +kernel)) rfl
theorem u_1214 : Cond.code ⟨"FilterGuard$Reckoner", "swapped", "(JI)J"⟩ prog_9_method_3_code 6 (some .long) ∈ fg_g := fg_in (List.mem_of_getElem? (i := 1214) (by decide +kernel)) rfl
theorem u_1213 : Cond.static ⟨"FilterGuard$Reckoner", "swapped", "(JI)J"⟩ ∈ fg_g := fg_in (List.mem_of_getElem? (i := 1213) (by decide +kernel)) rfl
theorem d_Reckoner_swap_50 : decode prog_9_method_14_code 50 = .ok (.invokevirtual 55, 3) := by decide +kernel
theorem d_Reckoner_swap_53 : decode prog_9_method_14_code 53 = .ok (.goto 25, 3) := by decide +kernel
theorem d_Reckoner_swap_0 : decode prog_9_method_14_code 0 = .ok (.aload_n 2, 1) := by decide +kernel
theorem d_Reckoner_swap_1 : decode prog_9_method_14_code 1 = .ok (.ldc2_w 105, 3) := by decide +kernel
theorem u_1206 : Cond.constantLong "FilterGuard$Reckoner" 105 2 ∈ fg_g := fg_in (List.mem_of_getElem? (i := 1206) (by decide +kernel)) rfl
theorem d_Reckoner_swap_4 : decode prog_9_method_14_code 4 = .ok (.invokevirtual 107, 3) := by decide +kernel
theorem u_1207 : Cond.methodLink "FilterGuard$Reckoner" 107 ⟨"FilterGuard$Num", "isExact", "(J)Z"⟩ ∈ fg_g := fg_in (List.mem_of_getElem? (i := 1207) (by decide +kernel)) rfl
theorem u_1210 : Cond.code ⟨"FilterGuard$Num", "isExact", "(J)Z"⟩ prog_8_method_8_code 3 (some .boolean) ∈ fg_g := fg_in (List.mem_of_getElem? (i := 1210) (by decide +kernel)) rfl
theorem u_1208 : Cond.instanceMethod ⟨"FilterGuard$Num", "isExact", "(J)Z"⟩ ∈ fg_g := fg_in (List.mem_of_getElem? (i := 1208) (by decide +kernel)) rfl
theorem u_1209 : Cond.selects "FilterGuard$Num" ⟨"FilterGuard$Num", "isExact", "(J)Z"⟩ ⟨"FilterGuard$Num", "isExact", "(J)Z"⟩ ∈ fg_g := fg_in (List.mem_of_getElem? (i := 1209) (by decide +kernel)) rfl
theorem d_Reckoner_swap_7 : decode prog_9_method_14_code 7 = .ok (.ifCond .eq 7, 3) := by decide +kernel
theorem d_Reckoner_swap_14 : decode prog_9_method_14_code 14 = .ok (.aload_n 2, 1) := by decide +kernel
theorem d_Reckoner_swap_15 : decode prog_9_method_14_code 15 = .ok (.ldc2_w 111, 3) := by decide +kernel
theorem u_1211 : Cond.constantLong "FilterGuard$Reckoner" 111 4 ∈ fg_g := fg_in (List.mem_of_getElem? (i := 1211) (by decide +kernel)) rfl
theorem d_Reckoner_swap_18 : decode prog_9_method_14_code 18 = .ok (.invokevirtual 107, 3) := by decide +kernel
theorem d_Reckoner_swap_21 : decode prog_9_method_14_code 21 = .ok (.ifCond .eq 7, 3) := by decide +kernel
theorem d_Reckoner_swap_28 : decode prog_9_method_14_code 28 = .ok (.bipush 8, 2) := by decide +kernel
theorem d_Reckoner_swap_24 : decode prog_9_method_14_code 24 = .ok (.iconst 4, 1) := by decide +kernel
theorem d_Reckoner_swap_25 : decode prog_9_method_14_code 25 = .ok (.goto 5, 3) := by decide +kernel
theorem d_Reckoner_swap_10 : decode prog_9_method_14_code 10 = .ok (.iconst 2, 1) := by decide +kernel
theorem d_Reckoner_swap_11 : decode prog_9_method_14_code 11 = .ok (.goto 19, 3) := by decide +kernel
abbrev y_Reckoner_swap : MethodName := ⟨"FilterGuard$Reckoner", "swap", "(LFilterGuard$Num;LFilterGuard$Num;)V"⟩
def rm_Reckoner_swap : Room := { frames := 2, cells := 0, slots := 0, locals := 45 }
abbrev q_Reckoner_swap (D : va_G) (ad : Nat → Nat → Nat) (ca : Nat → ClassId) (N : Nat → Nat) (M0 MZ : me_M) (A : Nat → Prop) : Array Value → Jvm.State → Outcome → Jvm.State → Prop := va_Qv (fun (_ : Unit) => me_wf N MZ ∧ me_kp M0 MZ) (fg_B D A (fun _ => me_W ad ca MZ) (fun _ => [])) A
set_option maxHeartbeats 4000000 in
set_option maxRecDepth 100000 in
theorem c_Reckoner_swap (l : Launch) (D : va_G) (ad : Nat → Nat → Nat) (ca : Nat → ClassId) (N : Nat → Nat) (M0 MZ : me_M) (j0 : Nat) (j1 : Nat) (j2 : Nat) (h : f_Reckoner_swap M0 j0 j1 j2 = (some MZ)) (hwf : me_wf N M0) (hj0 : j0 < N 8) (hj1 : j1 < N 11) (hj2 : j2 < N 11) (sz : Nat) : Met l y_Reckoner_swap (fg_w y_Reckoner_swap prog_9_method_14_code 4 none) rm_Reckoner_swap (va_Pc [.ref (ad 8 j0), .ref (ad 11 j1), .ref (ad 11 j2)] (fz_P D (me_T ca) (me_W ad ca M0) sz)) (q_Reckoner_swap D ad ca N M0 MZ (va_A (me_W ad ca M0) sz)) rm_Reckoner_swap.cells rm_Reckoner_swap.slots (va_A (me_W ad ca M0) sz) := by
  refine fz_enter (fun A => q_Reckoner_swap D ad ca N M0 MZ A) (by decide +kernel) (Nat.le_of_ble_eq_true rfl) ?_
  intro p e s m below meth c ls A hx hb hml hown hts hr hlocks hin hP hK hD hS hA hX hl hz
  have hl : lv_has ls 4 [(0, .ref (ad 8 j0)), (1, .ref (ad 11 j1)), (2, .ref (ad 11 j2))] := hl
  unfold f_Reckoner_swap at h
  have hkp : me_kp M0 M0 := me_kp.rf
  have hkb := hkp
  have b_30 : ∀ (M : me_M) (s0 : Int32) (H : Heap) (locs : List Loc) (ls : Array Slot), f_Reckoner_swap_b30 j0 j1 M s0 = (some MZ) → me_wf N M → me_kp M0 M → va_P D classes (me_W ad ca M) H → va_D A (me_W ad ca M) → va_S A s.heap H locs → lv_has ls 4 [(0, .ref (ad 8 j0)), (1, .ref (ad 11 j1))] → W p l e rm_Reckoner_swap s m [.ref (ad 8 j0), .ref (ad 11 j1), .ref (ad 11 j2)].toArray below meth c H locs 0 0 (MQ below (q_Reckoner_swap D ad ca N M0 MZ A) [.ref (ad 8 j0), .ref (ad 11 j1), .ref (ad 11 j2)].toArray s rm_Reckoner_swap.cells rm_Reckoner_swap.slots A) (F0 m 30 ls [.int s0]) := by
    intro M s0 H locs ls h hwf hkp hP hD hS hl
    unfold f_Reckoner_swap_b30 at h
    have hkb := hkp
    refine lv_istore_n (lv' := [(3, .int s0), (0, .ref (ad 8 j0)), (1, .ref (ad 11 j1))]) hx hb d_Reckoner_swap_30 rfl hl (by decide) rfl (fun ls hl => ?_)
    refine lv_aload_n hx hb d_Reckoner_swap_31 rfl (lv_at hl 2 rfl) ?_
    obtain ⟨M1, r2, eM1, h⟩ := b2_ob h
    refine me_theni0 (M1 := M1) (me_runV (C := "FilterGuard$Num") (As := []) (rest := []) ⟨hx, hb, hml, hown, hts⟩ (c_Num_isExact0 l D ad ca N M M1 r2 j1 eM1 hwf hj1 _) rfl (by show fg_nm y_Num_isExact0 0; decide +kernel) u_1157 u_1158 u_1159 u_187 u_1160 ⟨Nat.le_of_ble_eq_true rfl, Nat.le_of_ble_eq_true rfl⟩ hX hz hK hP hD hwf hS hA hj1 (by decide) rfl rfl rfl hl.1 (Nat.le_of_ble_eq_true rfl) d_Reckoner_swap_32 ⟨Nat.le_of_ble_eq_true rfl, Nat.le_of_ble_eq_true rfl⟩) hP hD hK hS hA rfl rfl (fun H locs hw hP hD hS => ?_)
    obtain ⟨hwf, hk9, zr2⟩ := hw
    have hkp := hkp.tr hk9
    refine lv_if_eq (tgt := 56) hx hb d_Reckoner_swap_35 (by decide) (fun c3 => ?_) (fun c3 => ?_)
    · have h := if_t c3 h
      refine lv_iload_n hx hb d_Reckoner_swap_56 rfl (lv_at hl 0 rfl) ?_
      refine lv_bipush (v := 8) hx hb d_Reckoner_swap_57 (by decide) ?_
      refine lv_icmp_ge (tgt := 78) hx hb d_Reckoner_swap_59 (by decide) (fun c4 => ?_) (fun c4 => ?_)
      · have h := if_t c4 h
        exact me_retv (me_kp M0) h hx hb hr hlocks hwf hkp hP hK hD hS d_Reckoner_swap_78
      have h := if_f c4 h
      refine lv_aload_n hx hb d_Reckoner_swap_62 rfl (lv_at hl 1 rfl) ?_
      refine g_Reckoner_2 hx hb hts hown hK hP hwf hj0 (hts _ u_398) d_Reckoner_swap_63 ?_
      obtain ⟨j5, e6, h⟩ := bd_ob h
      have hj5 : j5 < N 11 := (hwf.2.1 8 j0 2 _ (kp_r hkb hkp e6) (by decide) hj0)
      refine me_opt (j := j5) (kp_r hkb hkp e6) ?_
      refine lv_lconst (v := 0) hx hb d_Reckoner_swap_66 (by decide) ?_
      refine lv_lconst (v := 1) hx hb d_Reckoner_swap_67 (by decide) ?_
      refine lv_bipush (v := 8) hx hb d_Reckoner_swap_68 (by decide) ?_
      refine lv_iload_n hx hb d_Reckoner_swap_70 rfl (lv_at hl 0 rfl) ?_
      refine lv_imul hx hb d_Reckoner_swap_71 ?_
      refine lv_lshl (v := jlshl (1 : Int64) (8 * s0)) hx hb d_Reckoner_swap_72 rfl ?_
      refine lv_lconst (v := 1) hx hb d_Reckoner_swap_73 (by decide) ?_
      refine lv_lsub hx hb d_Reckoner_swap_74 ?_
      obtain ⟨M7, eM7, h⟩ := bd_ob h
      refine me_thenv0 (M1 := M7) (me_runV (C := "FilterGuard$Num") (As := [.long 0, .long ((jlshl (1 : Int64) (8 * s0)) - 1)]) (rest := []) ⟨hx, hb, hml, hown, hts⟩ (c_Num_range l D ad ca N M1 M7 j5 (0 : Int64) ((jlshl (1 : Int64) (8 * s0)) - 1) eM7 hwf hj5 _) rfl (by show fg_nm y_Num_range 2; decide +kernel) u_1145 u_1146 u_1147 u_187 u_1148 ⟨Nat.le_of_ble_eq_true rfl, Nat.le_of_ble_eq_true rfl⟩ hX hz hK hP hD hwf hS hA hj5 (by decide) rfl rfl rfl hl.1 (Nat.le_of_ble_eq_true rfl) d_Reckoner_swap_75 ⟨Nat.le_of_ble_eq_true rfl, Nat.le_of_ble_eq_true rfl⟩) hP hD hK hS hA rfl rfl (fun H locs hw hP hD hS => ?_)
      obtain ⟨hwf, hk9⟩ := hw
      have hkp := hkp.tr hk9
      exact me_retv (me_kp M0) h hx hb hr hlocks hwf hkp hP hK hD hS d_Reckoner_swap_78
    have h := if_f c3 h
    refine lv_aload_n hx hb d_Reckoner_swap_38 rfl (lv_at hl 1 rfl) ?_
    refine g_Reckoner_2 hx hb hts hown hK hP hwf hj0 (hts _ u_398) d_Reckoner_swap_39 ?_
    obtain ⟨j8, e9, h⟩ := bd_ob h
    have hj8 : j8 < N 11 := (hwf.2.1 8 j0 2 _ (kp_r hkb hkp e9) (by decide) hj0)
    refine me_opt (j := j8) (kp_r hkb hkp e9) ?_
    refine lv_aload_n hx hb d_Reckoner_swap_42 rfl (lv_at hl 2 rfl) ?_
    refine g_Num_0 hx hb hts hown hK hP hwf hj1 (hts _ u_368) d_Reckoner_swap_43 ?_
    refine lv_iload_n hx hb d_Reckoner_swap_46 rfl (lv_at hl 0 rfl) ?_
    obtain ⟨r10, er10, h⟩ := bd_ob h
    refine me_panl' (r0 := r10) (fg_runS (wc := []) (tc := []) (A2 := A) (As := [.long (mL M1 11 j1 0), .int s0]) (rest := [.ref (ad 11 j8)]) ⟨hx, hb, hml, hown, hts⟩ (c_Reckoner_swapped l D r10 (mL M1 11 j1 0) s0 er10 _) (by show fg_nm y_Reckoner_swapped 2; decide +kernel) u_1212 u_1213 u_186 u_1214 ⟨Nat.le_of_ble_eq_true rfl, Nat.le_of_ble_eq_true rfl⟩ hX me_P0 (hK.sub (tys' := []) [] rfl) me_D0 rfl hl.1 (Nat.le_of_ble_eq_true rfl) d_Reckoner_swap_47 ⟨Nat.le_of_ble_eq_true rfl, Nat.le_of_ble_eq_true rfl⟩) hP hD hK hS hA rfl rfl (fun H locs hw hP hD hS => ?_)
    obtain ⟨M11, eM11, h⟩ := bd_ob h
    refine me_thenv0 (M1 := M11) (me_runV (C := "FilterGuard$Num") (As := [.long r10]) (rest := []) ⟨hx, hb, hml, hown, hts⟩ (c_Num_exact l D ad ca N M1 M11 j8 r10 eM11 hwf hj8 _) rfl (by show fg_nm y_Num_exact 1; decide +kernel) u_1161 u_1037 u_1038 u_187 u_1039 ⟨Nat.le_of_ble_eq_true rfl, Nat.le_of_ble_eq_true rfl⟩ hX hz hK hP hD hwf hS hA hj8 (by decide) rfl rfl rfl hl.1 (Nat.le_of_ble_eq_true rfl) d_Reckoner_swap_50 ⟨Nat.le_of_ble_eq_true rfl, Nat.le_of_ble_eq_true rfl⟩) hP hD hK hS hA rfl rfl (fun H locs hw hP hD hS => ?_)
    obtain ⟨hwf, hk9⟩ := hw
    have hkp := hkp.tr hk9
    refine lv_goto (tgt := 78) hx hb d_Reckoner_swap_53 (by decide) ?_
    exact me_retv (me_kp M0) h hx hb hr hlocks hwf hkp hP hK hD hS d_Reckoner_swap_78
  refine lv_aload_n hx hb d_Reckoner_swap_0 rfl (lv_at hl 2 rfl) ?_
  refine lv_ldc2 hx hb hown (hts _ u_1206) d_Reckoner_swap_1 ?_
  obtain ⟨M12, r13, eM12, h⟩ := b2_ob h
  refine me_theni0 (M1 := M12) (me_runV (C := "FilterGuard$Num") (As := [.long 2]) (rest := []) ⟨hx, hb, hml, hown, hts⟩ (c_Num_isExact1 l D ad ca N M0 M12 r13 j2 (2 : Int64) eM12 hwf hj2 _) rfl (by show fg_nm y_Num_isExact1 1; decide +kernel) u_1207 u_1208 u_1209 u_187 u_1210 ⟨Nat.le_of_ble_eq_true rfl, Nat.le_of_ble_eq_true rfl⟩ hX hz hK hP hD hwf hS hA hj2 (by decide) rfl rfl rfl hl.1 (Nat.le_of_ble_eq_true rfl) d_Reckoner_swap_4 ⟨Nat.le_of_ble_eq_true rfl, Nat.le_of_ble_eq_true rfl⟩) hP hD hK hS hA rfl rfl (fun H locs hw hP hD hS => ?_)
  obtain ⟨hwf, hk9, zr13⟩ := hw
  have hkp := hkp.tr hk9
  refine lv_if_eq (tgt := 14) hx hb d_Reckoner_swap_7 (by decide) (fun c14 => ?_) (fun c14 => ?_)
  · have h := if_t c14 h
    refine lv_aload_n hx hb d_Reckoner_swap_14 rfl (lv_at hl 2 rfl) ?_
    refine lv_ldc2 hx hb hown (hts _ u_1211) d_Reckoner_swap_15 ?_
    obtain ⟨M15, r16, eM15, h⟩ := b2_ob h
    refine me_theni0 (M1 := M15) (me_runV (C := "FilterGuard$Num") (As := [.long 4]) (rest := []) ⟨hx, hb, hml, hown, hts⟩ (c_Num_isExact1 l D ad ca N M12 M15 r16 j2 (4 : Int64) eM15 hwf hj2 _) rfl (by show fg_nm y_Num_isExact1 1; decide +kernel) u_1207 u_1208 u_1209 u_187 u_1210 ⟨Nat.le_of_ble_eq_true rfl, Nat.le_of_ble_eq_true rfl⟩ hX hz hK hP hD hwf hS hA hj2 (by decide) rfl rfl rfl hl.1 (Nat.le_of_ble_eq_true rfl) d_Reckoner_swap_18 ⟨Nat.le_of_ble_eq_true rfl, Nat.le_of_ble_eq_true rfl⟩) hP hD hK hS hA rfl rfl (fun H locs hw hP hD hS => ?_)
    obtain ⟨hwf, hk9, zr16⟩ := hw
    have hkp := hkp.tr hk9
    refine lv_if_eq (tgt := 28) hx hb d_Reckoner_swap_21 (by decide) (fun c17 => ?_) (fun c17 => ?_)
    · have h := if_t c17 h
      refine lv_bipush (v := 8) hx hb d_Reckoner_swap_28 (by decide) ?_
      exact b_30 M15 (8 : Int32) _ _ _ h hwf hkp hP hD hS (lv_sub hl [0, 1] rfl)
    have h := if_f c17 h
    refine lv_iconst (v := 4) hx hb d_Reckoner_swap_24 (by decide) ?_
    refine lv_goto (tgt := 30) hx hb d_Reckoner_swap_25 (by decide) ?_
    exact b_30 M15 (4 : Int32) _ _ _ h hwf hkp hP hD hS (lv_sub hl [0, 1] rfl)
  have h := if_f c14 h
  refine lv_iconst (v := 2) hx hb d_Reckoner_swap_10 (by decide) ?_
  refine lv_goto (tgt := 30) hx hb d_Reckoner_swap_11 (by decide) ?_
  exact b_30 M12 (2 : Int32) _ _ _ h hwf hkp hP hD hS (lv_sub hl [0, 1] rfl)
theorem d_Reckoner_shift_0 : decode prog_9_method_13_code 0 = .ok (.aload_n 3, 1) := by decide +kernel
theorem d_Reckoner_shift_1 : decode prog_9_method_13_code 1 = .ok (.invokevirtual 45, 3) := by decide +kernel
theorem d_Reckoner_shift_4 : decode prog_9_method_13_code 4 = .ok (.ifCond .ne 4, 3) := by decide +kernel
theorem d_Reckoner_shift_8 : decode prog_9_method_13_code 8 = .ok (.aload_n 3, 1) := by decide +kernel
theorem d_Reckoner_shift_9 : decode prog_9_method_13_code 9 = .ok (.getfield 49, 3) := by decide +kernel
theorem d_Reckoner_shift_12 : decode prog_9_method_13_code 12 = .ok (.l2i, 1) := by decide +kernel
theorem d_Reckoner_shift_13 : decode prog_9_method_13_code 13 = .ok (.bipush 63, 2) := by decide +kernel
theorem d_Reckoner_shift_15 : decode prog_9_method_13_code 15 = .ok (.iand, 1) := by decide +kernel
theorem d_Reckoner_shift_16 : decode prog_9_method_13_code 16 = .ok (.istore 4, 2) := by decide +kernel
theorem d_Reckoner_shift_18 : decode prog_9_method_13_code 18 = .ok (.iload_n 1, 1) := by decide +kernel
theorem d_Reckoner_shift_19 : decode prog_9_method_13_code 19 = .ok (.bipush 8, 2) := by decide +kernel
theorem d_Reckoner_shift_21 : decode prog_9_method_13_code 21 = .ok (.if_icmp .ne 66, 3) := by decide +kernel
theorem d_Reckoner_shift_87 : decode prog_9_method_13_code 87 = .ok (.iload_n 1, 1) := by decide +kernel
theorem d_Reckoner_shift_88 : decode prog_9_method_13_code 88 = .ok (.bipush 9, 2) := by decide +kernel
theorem d_Reckoner_shift_90 : decode prog_9_method_13_code 90 = .ok (.if_icmp .ne 48, 3) := by decide +kernel
theorem d_Reckoner_shift_138 : decode prog_9_method_13_code 138 = .ok (.aload_n 0, 1) := by decide +kernel
theorem d_Reckoner_shift_139 : decode prog_9_method_13_code 139 = .ok (.getfield 21, 3) := by decide +kernel
theorem d_Reckoner_shift_142 : decode prog_9_method_13_code 142 = .ok (.aload_n 2, 1) := by decide +kernel
theorem d_Reckoner_shift_143 : decode prog_9_method_13_code 143 = .ok (.getfield 49, 3) := by decide +kernel
theorem d_Reckoner_shift_146 : decode prog_9_method_13_code 146 = .ok (.iload 4, 2) := by decide +kernel
theorem d_Reckoner_shift_148 : decode prog_9_method_13_code 148 = .ok (.lshr, 1) := by decide +kernel
theorem d_Reckoner_shift_149 : decode prog_9_method_13_code 149 = .ok (.aload_n 2, 1) := by decide +kernel
theorem d_Reckoner_shift_150 : decode prog_9_method_13_code 150 = .ok (.getfield 87, 3) := by decide +kernel
theorem d_Reckoner_shift_153 : decode prog_9_method_13_code 153 = .ok (.iload 4, 2) := by decide +kernel
theorem d_Reckoner_shift_155 : decode prog_9_method_13_code 155 = .ok (.lshr, 1) := by decide +kernel
theorem d_Reckoner_shift_156 : decode prog_9_method_13_code 156 = .ok (.invokevirtual 92, 3) := by decide +kernel
theorem d_Reckoner_shift_159 : decode prog_9_method_13_code 159 = .ok (.aload_n 0, 1) := by decide +kernel
theorem d_Reckoner_shift_160 : decode prog_9_method_13_code 160 = .ok (.getfield 21, 3) := by decide +kernel
theorem d_Reckoner_shift_163 : decode prog_9_method_13_code 163 = .ok (.aload_n 2, 1) := by decide +kernel
theorem d_Reckoner_shift_164 : decode prog_9_method_13_code 164 = .ok (.getfield 128, 3) := by decide +kernel
theorem d_Reckoner_shift_167 : decode prog_9_method_13_code 167 = .ok (.iload 4, 2) := by decide +kernel
theorem d_Reckoner_shift_169 : decode prog_9_method_13_code 169 = .ok (.lshr, 1) := by decide +kernel
theorem d_Reckoner_shift_170 : decode prog_9_method_13_code 170 = .ok (.putfield 128, 3) := by decide +kernel
theorem d_Reckoner_shift_173 : decode prog_9_method_13_code 173 = .ok (.aload_n 0, 1) := by decide +kernel
theorem d_Reckoner_shift_174 : decode prog_9_method_13_code 174 = .ok (.getfield 21, 3) := by decide +kernel
theorem d_Reckoner_shift_177 : decode prog_9_method_13_code 177 = .ok (.aload_n 2, 1) := by decide +kernel
theorem d_Reckoner_shift_178 : decode prog_9_method_13_code 178 = .ok (.getfield 131, 3) := by decide +kernel
theorem d_Reckoner_shift_181 : decode prog_9_method_13_code 181 = .ok (.iload 4, 2) := by decide +kernel
theorem d_Reckoner_shift_183 : decode prog_9_method_13_code 183 = .ok (.lshr, 1) := by decide +kernel
theorem d_Reckoner_shift_184 : decode prog_9_method_13_code 184 = .ok (.putfield 131, 3) := by decide +kernel
theorem d_Reckoner_shift_187 : decode prog_9_method_13_code 187 = .ok (.return_, 1) := by decide +kernel
theorem d_Reckoner_shift_93 : decode prog_9_method_13_code 93 = .ok (.aload_n 0, 1) := by decide +kernel
theorem d_Reckoner_shift_94 : decode prog_9_method_13_code 94 = .ok (.getfield 21, 3) := by decide +kernel
theorem d_Reckoner_shift_97 : decode prog_9_method_13_code 97 = .ok (.aload_n 2, 1) := by decide +kernel
theorem d_Reckoner_shift_98 : decode prog_9_method_13_code 98 = .ok (.getfield 49, 3) := by decide +kernel
theorem d_Reckoner_shift_101 : decode prog_9_method_13_code 101 = .ok (.iload 4, 2) := by decide +kernel
theorem d_Reckoner_shift_103 : decode prog_9_method_13_code 103 = .ok (.lushr, 1) := by decide +kernel
theorem d_Reckoner_shift_104 : decode prog_9_method_13_code 104 = .ok (.aload_n 2, 1) := by decide +kernel
theorem d_Reckoner_shift_105 : decode prog_9_method_13_code 105 = .ok (.getfield 87, 3) := by decide +kernel
theorem d_Reckoner_shift_108 : decode prog_9_method_13_code 108 = .ok (.iload 4, 2) := by decide +kernel
theorem d_Reckoner_shift_110 : decode prog_9_method_13_code 110 = .ok (.lushr, 1) := by decide +kernel
theorem d_Reckoner_shift_111 : decode prog_9_method_13_code 111 = .ok (.invokevirtual 92, 3) := by decide +kernel
theorem d_Reckoner_shift_114 : decode prog_9_method_13_code 114 = .ok (.aload_n 0, 1) := by decide +kernel
theorem d_Reckoner_shift_115 : decode prog_9_method_13_code 115 = .ok (.getfield 21, 3) := by decide +kernel
theorem d_Reckoner_shift_118 : decode prog_9_method_13_code 118 = .ok (.aload_n 2, 1) := by decide +kernel
theorem d_Reckoner_shift_119 : decode prog_9_method_13_code 119 = .ok (.getfield 96, 3) := by decide +kernel
theorem d_Reckoner_shift_122 : decode prog_9_method_13_code 122 = .ok (.iload 4, 2) := by decide +kernel
theorem d_Reckoner_shift_124 : decode prog_9_method_13_code 124 = .ok (.lushr, 1) := by decide +kernel
theorem d_Reckoner_shift_125 : decode prog_9_method_13_code 125 = .ok (.aload_n 2, 1) := by decide +kernel
theorem d_Reckoner_shift_126 : decode prog_9_method_13_code 126 = .ok (.getfield 122, 3) := by decide +kernel
theorem d_Reckoner_shift_129 : decode prog_9_method_13_code 129 = .ok (.iload 4, 2) := by decide +kernel
theorem d_Reckoner_shift_131 : decode prog_9_method_13_code 131 = .ok (.lushr, 1) := by decide +kernel
theorem d_Reckoner_shift_132 : decode prog_9_method_13_code 132 = .ok (.invokevirtual 125, 3) := by decide +kernel
theorem d_Reckoner_shift_135 : decode prog_9_method_13_code 135 = .ok (.goto 52, 3) := by decide +kernel
theorem d_Reckoner_shift_24 : decode prog_9_method_13_code 24 = .ok (.aload_n 0, 1) := by decide +kernel
theorem d_Reckoner_shift_25 : decode prog_9_method_13_code 25 = .ok (.getfield 21, 3) := by decide +kernel
theorem d_Reckoner_shift_28 : decode prog_9_method_13_code 28 = .ok (.aload_n 2, 1) := by decide +kernel
theorem d_Reckoner_shift_29 : decode prog_9_method_13_code 29 = .ok (.getfield 49, 3) := by decide +kernel
theorem d_Reckoner_shift_32 : decode prog_9_method_13_code 32 = .ok (.iload 4, 2) := by decide +kernel
theorem d_Reckoner_shift_34 : decode prog_9_method_13_code 34 = .ok (.lshl, 1) := by decide +kernel
theorem d_Reckoner_shift_35 : decode prog_9_method_13_code 35 = .ok (.aload_n 2, 1) := by decide +kernel
theorem d_Reckoner_shift_36 : decode prog_9_method_13_code 36 = .ok (.getfield 87, 3) := by decide +kernel
theorem d_Reckoner_shift_39 : decode prog_9_method_13_code 39 = .ok (.iload 4, 2) := by decide +kernel
theorem d_Reckoner_shift_41 : decode prog_9_method_13_code 41 = .ok (.lshl, 1) := by decide +kernel
theorem d_Reckoner_shift_42 : decode prog_9_method_13_code 42 = .ok (.invokevirtual 92, 3) := by decide +kernel
theorem d_Reckoner_shift_45 : decode prog_9_method_13_code 45 = .ok (.aload_n 2, 1) := by decide +kernel
theorem d_Reckoner_shift_46 : decode prog_9_method_13_code 46 = .ok (.getfield 122, 3) := by decide +kernel
theorem d_Reckoner_shift_49 : decode prog_9_method_13_code 49 = .ok (.iload 4, 2) := by decide +kernel
theorem d_Reckoner_shift_51 : decode prog_9_method_13_code 51 = .ok (.lshl, 1) := by decide +kernel
theorem d_Reckoner_shift_52 : decode prog_9_method_13_code 52 = .ok (.iload 4, 2) := by decide +kernel
theorem d_Reckoner_shift_54 : decode prog_9_method_13_code 54 = .ok (.lushr, 1) := by decide +kernel
theorem d_Reckoner_shift_55 : decode prog_9_method_13_code 55 = .ok (.aload_n 2, 1) := by decide +kernel
theorem d_Reckoner_shift_56 : decode prog_9_method_13_code 56 = .ok (.getfield 122, 3) := by decide +kernel
theorem d_Reckoner_shift_59 : decode prog_9_method_13_code 59 = .ok (.lcmp, 1) := by decide +kernel
theorem d_Reckoner_shift_60 : decode prog_9_method_13_code 60 = .ok (.ifCond .ne 127, 3) := by decide +kernel
theorem d_Reckoner_shift_63 : decode prog_9_method_13_code 63 = .ok (.aload_n 0, 1) := by decide +kernel
theorem d_Reckoner_shift_64 : decode prog_9_method_13_code 64 = .ok (.getfield 21, 3) := by decide +kernel
theorem d_Reckoner_shift_67 : decode prog_9_method_13_code 67 = .ok (.aload_n 2, 1) := by decide +kernel
theorem d_Reckoner_shift_68 : decode prog_9_method_13_code 68 = .ok (.getfield 96, 3) := by decide +kernel
theorem d_Reckoner_shift_71 : decode prog_9_method_13_code 71 = .ok (.iload 4, 2) := by decide +kernel
theorem d_Reckoner_shift_73 : decode prog_9_method_13_code 73 = .ok (.lshl, 1) := by decide +kernel
theorem d_Reckoner_shift_74 : decode prog_9_method_13_code 74 = .ok (.aload_n 2, 1) := by decide +kernel
theorem d_Reckoner_shift_75 : decode prog_9_method_13_code 75 = .ok (.getfield 122, 3) := by decide +kernel
theorem d_Reckoner_shift_78 : decode prog_9_method_13_code 78 = .ok (.iload 4, 2) := by decide +kernel
theorem d_Reckoner_shift_80 : decode prog_9_method_13_code 80 = .ok (.lshl, 1) := by decide +kernel
theorem d_Reckoner_shift_81 : decode prog_9_method_13_code 81 = .ok (.invokevirtual 125, 3) := by decide +kernel
theorem d_Reckoner_shift_84 : decode prog_9_method_13_code 84 = .ok (.goto 103, 3) := by decide +kernel
theorem d_Reckoner_shift_7 : decode prog_9_method_13_code 7 = .ok (.return_, 1) := by decide +kernel
abbrev y_Reckoner_shift : MethodName := ⟨"FilterGuard$Reckoner", "shift", "(ILFilterGuard$Num;LFilterGuard$Num;)V"⟩
def rm_Reckoner_shift : Room := { frames := 2, cells := 0, slots := 0, locals := 44 }
abbrev q_Reckoner_shift (D : va_G) (ad : Nat → Nat → Nat) (ca : Nat → ClassId) (N : Nat → Nat) (M0 MZ : me_M) (A : Nat → Prop) : Array Value → Jvm.State → Outcome → Jvm.State → Prop := va_Qv (fun (_ : Unit) => me_wf N MZ ∧ me_kp M0 MZ) (fg_B D A (fun _ => me_W ad ca MZ) (fun _ => [])) A
set_option maxHeartbeats 4000000 in
set_option maxRecDepth 100000 in
theorem c_Reckoner_shift (l : Launch) (D : va_G) (ad : Nat → Nat → Nat) (ca : Nat → ClassId) (N : Nat → Nat) (M0 MZ : me_M) (j0 : Nat) (x1 : Int32) (j2 : Nat) (j3 : Nat) (h : f_Reckoner_shift M0 j0 x1 j2 j3 = (some MZ)) (hwf : me_wf N M0) (hj0 : j0 < N 8) (hj2 : j2 < N 11) (hj3 : j3 < N 11) (sz : Nat) : Met l y_Reckoner_shift (fg_w y_Reckoner_shift prog_9_method_13_code 5 none) rm_Reckoner_shift (va_Pc [.ref (ad 8 j0), .int x1, .ref (ad 11 j2), .ref (ad 11 j3)] (fz_P D (me_T ca) (me_W ad ca M0) sz)) (q_Reckoner_shift D ad ca N M0 MZ (va_A (me_W ad ca M0) sz)) rm_Reckoner_shift.cells rm_Reckoner_shift.slots (va_A (me_W ad ca M0) sz) := by
  refine fz_enter (fun A => q_Reckoner_shift D ad ca N M0 MZ A) (by decide +kernel) (Nat.le_of_ble_eq_true rfl) ?_
  intro p e s m below meth c ls A hx hb hml hown hts hr hlocks hin hP hK hD hS hA hX hl hz
  have hl : lv_has ls 5 [(0, .ref (ad 8 j0)), (1, .int x1), (2, .ref (ad 11 j2)), (3, .ref (ad 11 j3))] := hl
  unfold f_Reckoner_shift at h
  have hkp : me_kp M0 M0 := me_kp.rf
  have hkb := hkp
  refine lv_aload_n hx hb d_Reckoner_shift_0 rfl (lv_at hl 3 rfl) ?_
  obtain ⟨M1, r2, eM1, h⟩ := b2_ob h
  refine me_theni0 (M1 := M1) (me_runV (C := "FilterGuard$Num") (As := []) (rest := []) ⟨hx, hb, hml, hown, hts⟩ (c_Num_isExact0 l D ad ca N M0 M1 r2 j3 eM1 hwf hj3 _) rfl (by show fg_nm y_Num_isExact0 0; decide +kernel) u_1157 u_1158 u_1159 u_187 u_1160 ⟨Nat.le_of_ble_eq_true rfl, Nat.le_of_ble_eq_true rfl⟩ hX hz hK hP hD hwf hS hA hj3 (by decide) rfl rfl rfl hl.1 (Nat.le_of_ble_eq_true rfl) d_Reckoner_shift_1 ⟨Nat.le_of_ble_eq_true rfl, Nat.le_of_ble_eq_true rfl⟩) hP hD hK hS hA rfl rfl (fun H locs hw hP hD hS => ?_)
  obtain ⟨hwf, hk9, zr2⟩ := hw
  have hkp := hkp.tr hk9
  refine lv_if_ne (tgt := 8) hx hb d_Reckoner_shift_4 (by decide) (fun c3 => ?_) (fun c3 => ?_)
  · have h := if_f c3 h
    refine lv_aload_n hx hb d_Reckoner_shift_8 rfl (lv_at hl 3 rfl) ?_
    refine g_Num_0 hx hb hts hown hK hP hwf hj3 (hts _ u_368) d_Reckoner_shift_9 ?_
    refine lv_l2i (v := (mL M1 11 j3 0).toInt32) hx hb d_Reckoner_shift_12 rfl ?_
    refine lv_bipush (v := 63) hx hb d_Reckoner_shift_13 (by decide) ?_
    refine lv_iand hx hb d_Reckoner_shift_15 ?_
    obtain ⟨v4, ev4, h⟩ := st_ob h
    refine fg_topi (y := v4) ev4.symm ?_
    refine lv_istore (lv' := [(4, .int v4), (0, .ref (ad 8 j0)), (1, .int x1), (2, .ref (ad 11 j2)), (3, .ref (ad 11 j3))]) hx hb d_Reckoner_shift_16 hl (by decide) rfl (fun ls hl => ?_)
    refine lv_iload_n hx hb d_Reckoner_shift_18 rfl (lv_at hl 2 rfl) ?_
    refine lv_bipush (v := 8) hx hb d_Reckoner_shift_19 (by decide) ?_
    refine lv_icmp_ne (tgt := 87) hx hb d_Reckoner_shift_21 (by decide) (fun c5 => ?_) (fun c5 => ?_)
    · have h := if_f c5 h
      refine lv_iload_n hx hb d_Reckoner_shift_87 rfl (lv_at hl 2 rfl) ?_
      refine lv_bipush (v := 9) hx hb d_Reckoner_shift_88 (by decide) ?_
      refine lv_icmp_ne (tgt := 138) hx hb d_Reckoner_shift_90 (by decide) (fun c6 => ?_) (fun c6 => ?_)
      · have h := if_f c6 h
        refine lv_aload_n hx hb d_Reckoner_shift_138 rfl (lv_at hl 1 rfl) ?_
        refine g_Reckoner_2 hx hb hts hown hK hP hwf hj0 (hts _ u_398) d_Reckoner_shift_139 ?_
        obtain ⟨j7, e8, h⟩ := bd_ob h
        have hj7 : j7 < N 11 := (hwf.2.1 8 j0 2 _ (kp_r hkb hkp e8) (by decide) hj0)
        refine me_opt (j := j7) (kp_r hkb hkp e8) ?_
        refine lv_aload_n hx hb d_Reckoner_shift_142 rfl (lv_at hl 3 rfl) ?_
        refine g_Num_0 hx hb hts hown hK hP hwf hj2 (hts _ u_368) d_Reckoner_shift_143 ?_
        refine lv_iload hx hb d_Reckoner_shift_146 (lv_at hl 0 rfl) ?_
        refine lv_lshr (v := jlshr (mL M1 11 j2 0) v4) hx hb d_Reckoner_shift_148 rfl ?_
        refine lv_aload_n hx hb d_Reckoner_shift_149 rfl (lv_at hl 3 rfl) ?_
        refine g_Num_1 hx hb hts hown hK hP hwf hj2 (hts _ u_372) d_Reckoner_shift_150 ?_
        refine lv_iload hx hb d_Reckoner_shift_153 (lv_at hl 0 rfl) ?_
        refine lv_lshr (v := jlshr (mL M1 11 j2 1) v4) hx hb d_Reckoner_shift_155 rfl ?_
        obtain ⟨M9, eM9, h⟩ := bd_ob h
        refine me_thenv0 (M1 := M9) (me_runV (C := "FilterGuard$Num") (As := [.long (jlshr (mL M1 11 j2 0) v4), .long (jlshr (mL M1 11 j2 1) v4)]) (rest := []) ⟨hx, hb, hml, hown, hts⟩ (c_Num_bits l D ad ca N M1 M9 j7 (jlshr (mL M1 11 j2 0) v4) (jlshr (mL M1 11 j2 1) v4) eM9 hwf hj7 _) rfl (by show fg_nm y_Num_bits 2; decide +kernel) u_1140 u_1141 u_1142 u_187 u_1143 ⟨Nat.le_of_ble_eq_true rfl, Nat.le_of_ble_eq_true rfl⟩ hX hz hK hP hD hwf hS hA hj7 (by decide) rfl rfl rfl hl.1 (Nat.le_of_ble_eq_true rfl) d_Reckoner_shift_156 ⟨Nat.le_of_ble_eq_true rfl, Nat.le_of_ble_eq_true rfl⟩) hP hD hK hS hA rfl rfl (fun H locs hw hP hD hS => ?_)
        obtain ⟨hwf, hk9⟩ := hw
        have hkp := hkp.tr hk9
        refine lv_aload_n hx hb d_Reckoner_shift_159 rfl (lv_at hl 1 rfl) ?_
        refine g_Reckoner_2 hx hb hts hown hK hP hwf hj0 (hts _ u_398) d_Reckoner_shift_160 ?_
        refine me_opt (j := j7) (kp_r hkb hkp e8) ?_
        refine lv_aload_n hx hb d_Reckoner_shift_163 rfl (lv_at hl 3 rfl) ?_
        refine g_Num_4 hx hb hts hown hK hP hwf hj2 (hts _ u_380) d_Reckoner_shift_164 ?_
        refine lv_iload hx hb d_Reckoner_shift_167 (lv_at hl 0 rfl) ?_
        refine lv_lshr (v := jlshr (mL M9 11 j2 4) v4) hx hb d_Reckoner_shift_169 rfl ?_
        obtain ⟨M10, eM10, h⟩ := st_ob h
        refine p_Num_4 eM10 hx hb hts hown hK hP hD hwf hS hj7 (hts _ u_380) d_Reckoner_shift_170 (fun H locs hP hD hwf hS => ?_)
        have hkp := kp_L eM10 hkp
        refine lv_aload_n hx hb d_Reckoner_shift_173 rfl (lv_at hl 1 rfl) ?_
        refine g_Reckoner_2 hx hb hts hown hK hP hwf hj0 (hts _ u_398) d_Reckoner_shift_174 ?_
        refine me_opt (j := j7) (kp_r hkb hkp e8) ?_
        refine lv_aload_n hx hb d_Reckoner_shift_177 rfl (lv_at hl 3 rfl) ?_
        refine g_Num_5 hx hb hts hown hK hP hwf hj2 (hts _ u_382) d_Reckoner_shift_178 ?_
        refine lv_iload hx hb d_Reckoner_shift_181 (lv_at hl 0 rfl) ?_
        refine lv_lshr (v := jlshr (mL M10 11 j2 5) v4) hx hb d_Reckoner_shift_183 rfl ?_
        obtain ⟨M11, eM11, h⟩ := st_ob h
        refine p_Num_5 eM11 hx hb hts hown hK hP hD hwf hS hj7 (hts _ u_382) d_Reckoner_shift_184 (fun H locs hP hD hwf hS => ?_)
        have hkp := kp_L eM11 hkp
        exact me_retv (me_kp M0) h hx hb hr hlocks hwf hkp hP hK hD hS d_Reckoner_shift_187
      have h := if_t c6 h
      refine lv_aload_n hx hb d_Reckoner_shift_93 rfl (lv_at hl 1 rfl) ?_
      refine g_Reckoner_2 hx hb hts hown hK hP hwf hj0 (hts _ u_398) d_Reckoner_shift_94 ?_
      obtain ⟨j12, e13, h⟩ := bd_ob h
      have hj12 : j12 < N 11 := (hwf.2.1 8 j0 2 _ (kp_r hkb hkp e13) (by decide) hj0)
      refine me_opt (j := j12) (kp_r hkb hkp e13) ?_
      refine lv_aload_n hx hb d_Reckoner_shift_97 rfl (lv_at hl 3 rfl) ?_
      refine g_Num_0 hx hb hts hown hK hP hwf hj2 (hts _ u_368) d_Reckoner_shift_98 ?_
      refine lv_iload hx hb d_Reckoner_shift_101 (lv_at hl 0 rfl) ?_
      refine lv_lushr (v := jlushr (mL M1 11 j2 0) v4) hx hb d_Reckoner_shift_103 rfl ?_
      refine lv_aload_n hx hb d_Reckoner_shift_104 rfl (lv_at hl 3 rfl) ?_
      refine g_Num_1 hx hb hts hown hK hP hwf hj2 (hts _ u_372) d_Reckoner_shift_105 ?_
      refine lv_iload hx hb d_Reckoner_shift_108 (lv_at hl 0 rfl) ?_
      refine lv_lushr (v := jlushr (mL M1 11 j2 1) v4) hx hb d_Reckoner_shift_110 rfl ?_
      obtain ⟨M14, eM14, h⟩ := bd_ob h
      refine me_thenv0 (M1 := M14) (me_runV (C := "FilterGuard$Num") (As := [.long (jlushr (mL M1 11 j2 0) v4), .long (jlushr (mL M1 11 j2 1) v4)]) (rest := []) ⟨hx, hb, hml, hown, hts⟩ (c_Num_bits l D ad ca N M1 M14 j12 (jlushr (mL M1 11 j2 0) v4) (jlushr (mL M1 11 j2 1) v4) eM14 hwf hj12 _) rfl (by show fg_nm y_Num_bits 2; decide +kernel) u_1140 u_1141 u_1142 u_187 u_1143 ⟨Nat.le_of_ble_eq_true rfl, Nat.le_of_ble_eq_true rfl⟩ hX hz hK hP hD hwf hS hA hj12 (by decide) rfl rfl rfl hl.1 (Nat.le_of_ble_eq_true rfl) d_Reckoner_shift_111 ⟨Nat.le_of_ble_eq_true rfl, Nat.le_of_ble_eq_true rfl⟩) hP hD hK hS hA rfl rfl (fun H locs hw hP hD hS => ?_)
      obtain ⟨hwf, hk9⟩ := hw
      have hkp := hkp.tr hk9
      refine lv_aload_n hx hb d_Reckoner_shift_114 rfl (lv_at hl 1 rfl) ?_
      refine g_Reckoner_2 hx hb hts hown hK hP hwf hj0 (hts _ u_398) d_Reckoner_shift_115 ?_
      refine me_opt (j := j12) (kp_r hkb hkp e13) ?_
      refine lv_aload_n hx hb d_Reckoner_shift_118 rfl (lv_at hl 3 rfl) ?_
      refine g_Num_2 hx hb hts hown hK hP hwf hj2 (hts _ u_374) d_Reckoner_shift_119 ?_
      refine lv_iload hx hb d_Reckoner_shift_122 (lv_at hl 0 rfl) ?_
      refine lv_lushr (v := jlushr (mL M14 11 j2 2) v4) hx hb d_Reckoner_shift_124 rfl ?_
      refine lv_aload_n hx hb d_Reckoner_shift_125 rfl (lv_at hl 3 rfl) ?_
      refine g_Num_3 hx hb hts hown hK hP hwf hj2 (hts _ u_377) d_Reckoner_shift_126 ?_
      refine lv_iload hx hb d_Reckoner_shift_129 (lv_at hl 0 rfl) ?_
      refine lv_lushr (v := jlushr (mL M14 11 j2 3) v4) hx hb d_Reckoner_shift_131 rfl ?_
      obtain ⟨M15, eM15, h⟩ := bd_ob h
      refine me_thenv0 (M1 := M15) (me_runV (C := "FilterGuard$Num") (As := [.long (jlushr (mL M14 11 j2 2) v4), .long (jlushr (mL M14 11 j2 3) v4)]) (rest := []) ⟨hx, hb, hml, hown, hts⟩ (c_Num_range l D ad ca N M14 M15 j12 (jlushr (mL M14 11 j2 2) v4) (jlushr (mL M14 11 j2 3) v4) eM15 hwf hj12 _) rfl (by show fg_nm y_Num_range 2; decide +kernel) u_1145 u_1146 u_1147 u_187 u_1148 ⟨Nat.le_of_ble_eq_true rfl, Nat.le_of_ble_eq_true rfl⟩ hX hz hK hP hD hwf hS hA hj12 (by decide) rfl rfl rfl hl.1 (Nat.le_of_ble_eq_true rfl) d_Reckoner_shift_132 ⟨Nat.le_of_ble_eq_true rfl, Nat.le_of_ble_eq_true rfl⟩) hP hD hK hS hA rfl rfl (fun H locs hw hP hD hS => ?_)
      obtain ⟨hwf, hk9⟩ := hw
      have hkp := hkp.tr hk9
      refine lv_goto (tgt := 187) hx hb d_Reckoner_shift_135 (by decide) ?_
      exact me_retv (me_kp M0) h hx hb hr hlocks hwf hkp hP hK hD hS d_Reckoner_shift_187
    have h := if_t c5 h
    refine lv_aload_n hx hb d_Reckoner_shift_24 rfl (lv_at hl 1 rfl) ?_
    refine g_Reckoner_2 hx hb hts hown hK hP hwf hj0 (hts _ u_398) d_Reckoner_shift_25 ?_
    obtain ⟨j16, e17, h⟩ := bd_ob h
    have hj16 : j16 < N 11 := (hwf.2.1 8 j0 2 _ (kp_r hkb hkp e17) (by decide) hj0)
    refine me_opt (j := j16) (kp_r hkb hkp e17) ?_
    refine lv_aload_n hx hb d_Reckoner_shift_28 rfl (lv_at hl 3 rfl) ?_
    refine g_Num_0 hx hb hts hown hK hP hwf hj2 (hts _ u_368) d_Reckoner_shift_29 ?_
    refine lv_iload hx hb d_Reckoner_shift_32 (lv_at hl 0 rfl) ?_
    refine lv_lshl (v := jlshl (mL M1 11 j2 0) v4) hx hb d_Reckoner_shift_34 rfl ?_
    refine lv_aload_n hx hb d_Reckoner_shift_35 rfl (lv_at hl 3 rfl) ?_
    refine g_Num_1 hx hb hts hown hK hP hwf hj2 (hts _ u_372) d_Reckoner_shift_36 ?_
    refine lv_iload hx hb d_Reckoner_shift_39 (lv_at hl 0 rfl) ?_
    refine lv_lshl (v := jlshl (mL M1 11 j2 1) v4) hx hb d_Reckoner_shift_41 rfl ?_
    obtain ⟨M18, eM18, h⟩ := bd_ob h
    refine me_thenv0 (M1 := M18) (me_runV (C := "FilterGuard$Num") (As := [.long (jlshl (mL M1 11 j2 0) v4), .long (jlshl (mL M1 11 j2 1) v4)]) (rest := []) ⟨hx, hb, hml, hown, hts⟩ (c_Num_bits l D ad ca N M1 M18 j16 (jlshl (mL M1 11 j2 0) v4) (jlshl (mL M1 11 j2 1) v4) eM18 hwf hj16 _) rfl (by show fg_nm y_Num_bits 2; decide +kernel) u_1140 u_1141 u_1142 u_187 u_1143 ⟨Nat.le_of_ble_eq_true rfl, Nat.le_of_ble_eq_true rfl⟩ hX hz hK hP hD hwf hS hA hj16 (by decide) rfl rfl rfl hl.1 (Nat.le_of_ble_eq_true rfl) d_Reckoner_shift_42 ⟨Nat.le_of_ble_eq_true rfl, Nat.le_of_ble_eq_true rfl⟩) hP hD hK hS hA rfl rfl (fun H locs hw hP hD hS => ?_)
    obtain ⟨hwf, hk9⟩ := hw
    have hkp := hkp.tr hk9
    refine lv_aload_n hx hb d_Reckoner_shift_45 rfl (lv_at hl 3 rfl) ?_
    refine g_Num_3 hx hb hts hown hK hP hwf hj2 (hts _ u_377) d_Reckoner_shift_46 ?_
    refine lv_iload hx hb d_Reckoner_shift_49 (lv_at hl 0 rfl) ?_
    refine lv_lshl (v := jlshl (mL M18 11 j2 3) v4) hx hb d_Reckoner_shift_51 rfl ?_
    refine lv_iload hx hb d_Reckoner_shift_52 (lv_at hl 0 rfl) ?_
    refine lv_lushr (v := jlushr (jlshl (mL M18 11 j2 3) v4) v4) hx hb d_Reckoner_shift_54 rfl ?_
    refine lv_aload_n hx hb d_Reckoner_shift_55 rfl (lv_at hl 3 rfl) ?_
    refine g_Num_3 hx hb hts hown hK hP hwf hj2 (hts _ u_377) d_Reckoner_shift_56 ?_
    refine W.lcmp hx hb d_Reckoner_shift_59 ?_
    refine lv_if_ne (tgt := 187) hx hb d_Reckoner_shift_60 (by decide) (fun c19 => ?_) (fun c19 => ?_)
    · have h := if_f (fun z => c19 ((lg_cmp_eq _ _).mpr z)) h
      exact me_retv (me_kp M0) h hx hb hr hlocks hwf hkp hP hK hD hS d_Reckoner_shift_187
    have h := if_t ((lg_cmp_eq _ _).mp c19) h
    refine lv_aload_n hx hb d_Reckoner_shift_63 rfl (lv_at hl 1 rfl) ?_
    refine g_Reckoner_2 hx hb hts hown hK hP hwf hj0 (hts _ u_398) d_Reckoner_shift_64 ?_
    refine me_opt (j := j16) (kp_r hkb hkp e17) ?_
    refine lv_aload_n hx hb d_Reckoner_shift_67 rfl (lv_at hl 3 rfl) ?_
    refine g_Num_2 hx hb hts hown hK hP hwf hj2 (hts _ u_374) d_Reckoner_shift_68 ?_
    refine lv_iload hx hb d_Reckoner_shift_71 (lv_at hl 0 rfl) ?_
    refine lv_lshl (v := jlshl (mL M18 11 j2 2) v4) hx hb d_Reckoner_shift_73 rfl ?_
    refine lv_aload_n hx hb d_Reckoner_shift_74 rfl (lv_at hl 3 rfl) ?_
    refine g_Num_3 hx hb hts hown hK hP hwf hj2 (hts _ u_377) d_Reckoner_shift_75 ?_
    refine lv_iload hx hb d_Reckoner_shift_78 (lv_at hl 0 rfl) ?_
    refine lv_lshl (v := jlshl (mL M18 11 j2 3) v4) hx hb d_Reckoner_shift_80 rfl ?_
    obtain ⟨M20, eM20, h⟩ := bd_ob h
    refine me_thenv0 (M1 := M20) (me_runV (C := "FilterGuard$Num") (As := [.long (jlshl (mL M18 11 j2 2) v4), .long (jlshl (mL M18 11 j2 3) v4)]) (rest := []) ⟨hx, hb, hml, hown, hts⟩ (c_Num_range l D ad ca N M18 M20 j16 (jlshl (mL M18 11 j2 2) v4) (jlshl (mL M18 11 j2 3) v4) eM20 hwf hj16 _) rfl (by show fg_nm y_Num_range 2; decide +kernel) u_1145 u_1146 u_1147 u_187 u_1148 ⟨Nat.le_of_ble_eq_true rfl, Nat.le_of_ble_eq_true rfl⟩ hX hz hK hP hD hwf hS hA hj16 (by decide) rfl rfl rfl hl.1 (Nat.le_of_ble_eq_true rfl) d_Reckoner_shift_81 ⟨Nat.le_of_ble_eq_true rfl, Nat.le_of_ble_eq_true rfl⟩) hP hD hK hS hA rfl rfl (fun H locs hw hP hD hS => ?_)
    obtain ⟨hwf, hk9⟩ := hw
    have hkp := hkp.tr hk9
    refine lv_goto (tgt := 187) hx hb d_Reckoner_shift_84 (by decide) ?_
    exact me_retv (me_kp M0) h hx hb hr hlocks hwf hkp hP hK hD hS d_Reckoner_shift_187
  have h := if_t c3 h
  exact me_retv (me_kp M0) h hx hb hr hlocks hwf hkp hP hK hD hS d_Reckoner_shift_7
