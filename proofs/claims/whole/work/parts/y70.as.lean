theorem d_Reckoner_above_0 : decode prog_9_method_17_code 0 = .ok (.aload_n 2, 1) := by decide +kernel
theorem d_Reckoner_above_1 : decode prog_9_method_17_code 1 = .ok (.getfield 96, 3) := by decide +kernel
theorem d_Reckoner_above_4 : decode prog_9_method_17_code 4 = .ok (.ldc2_w 90, 3) := by decide +kernel
theorem d_Reckoner_above_7 : decode prog_9_method_17_code 7 = .ok (.lcmp, 1) := by decide +kernel
theorem d_Reckoner_above_8 : decode prog_9_method_17_code 8 = .ok (.ifCond .eq 12, 3) := by decide +kernel
theorem d_Reckoner_above_20 : decode prog_9_method_17_code 20 = .ok (.iconst 0, 1) := by decide +kernel
theorem d_Reckoner_above_21 : decode prog_9_method_17_code 21 = .ok (.ireturn, 1) := by decide +kernel
theorem d_Reckoner_above_11 : decode prog_9_method_17_code 11 = .ok (.aload_n 1, 1) := by decide +kernel
theorem d_Reckoner_above_12 : decode prog_9_method_17_code 12 = .ok (.getfield 122, 3) := by decide +kernel
theorem d_Reckoner_above_15 : decode prog_9_method_17_code 15 = .ok (.lconst 0, 1) := by decide +kernel
theorem d_Reckoner_above_16 : decode prog_9_method_17_code 16 = .ok (.lcmp, 1) := by decide +kernel
theorem d_Reckoner_above_17 : decode prog_9_method_17_code 17 = .ok (.ifCond .ne 5, 3) := by decide +kernel
theorem d_Reckoner_above_22 : decode prog_9_method_17_code 22 = .ok (.aload_n 1, 1) := by decide +kernel
theorem d_Reckoner_above_23 : decode prog_9_method_17_code 23 = .ok (.aload_n 2, 1) := by decide +kernel
theorem d_Reckoner_above_24 : decode prog_9_method_17_code 24 = .ok (.getfield 96, 3) := by decide +kernel
theorem d_Reckoner_above_27 : decode prog_9_method_17_code 27 = .ok (.lconst 1, 1) := by decide +kernel
theorem d_Reckoner_above_28 : decode prog_9_method_17_code 28 = .ok (.ladd, 1) := by decide +kernel
theorem d_Reckoner_above_29 : decode prog_9_method_17_code 29 = .ok (.invokevirtual 99, 3) := by decide +kernel
theorem d_Reckoner_above_32 : decode prog_9_method_17_code 32 = .ok (.aload_n 2, 1) := by decide +kernel
theorem d_Reckoner_above_33 : decode prog_9_method_17_code 33 = .ok (.aload_n 1, 1) := by decide +kernel
theorem d_Reckoner_above_34 : decode prog_9_method_17_code 34 = .ok (.getfield 122, 3) := by decide +kernel
theorem d_Reckoner_above_37 : decode prog_9_method_17_code 37 = .ok (.lconst 1, 1) := by decide +kernel
theorem d_Reckoner_above_38 : decode prog_9_method_17_code 38 = .ok (.lsub, 1) := by decide +kernel
theorem d_Reckoner_above_39 : decode prog_9_method_17_code 39 = .ok (.invokevirtual 146, 3) := by decide +kernel
theorem d_Reckoner_above_42 : decode prog_9_method_17_code 42 = .ok (.iconst 1, 1) := by decide +kernel
theorem d_Reckoner_above_43 : decode prog_9_method_17_code 43 = .ok (.ireturn, 1) := by decide +kernel
abbrev y_Reckoner_above : MethodName := ⟨"FilterGuard$Reckoner", "above", "(LFilterGuard$Num;LFilterGuard$Num;)Z"⟩
def rm_Reckoner_above : Room := { frames := 2, cells := 0, slots := 0, locals := 42 }
abbrev q_Reckoner_above (D : va_G) (ad : Nat → Nat → Nat) (ca : Nat → ClassId) (N : Nat → Nat) (M0 MZ : me_M) (RZ : Int32) (A : Nat → Prop) : Array Value → Jvm.State → Outcome → Jvm.State → Prop := va_Qi (fun r (_ : Unit) => r = RZ ∧ me_wf N MZ ∧ me_kp M0 MZ ∧ (RZ = 1 ∨ RZ = 0)) (fg_B D A (fun _ => me_W ad ca MZ) (fun _ => [])) A
set_option maxHeartbeats 4000000 in
set_option maxRecDepth 100000 in
theorem c_Reckoner_above (l : Launch) (D : va_G) (ad : Nat → Nat → Nat) (ca : Nat → ClassId) (N : Nat → Nat) (M0 MZ : me_M) (RZ : Int32) (j0 : Nat) (j1 : Nat) (j2 : Nat) (h : f_Reckoner_above M0 j0 j1 j2 = (some (MZ, RZ))) (hwf : me_wf N M0) (hj0 : j0 < N 8) (hj1 : j1 < N 11) (hj2 : j2 < N 11) (sz : Nat) : Met l y_Reckoner_above (fg_w y_Reckoner_above prog_9_method_17_code 3 (some .boolean)) rm_Reckoner_above (va_Pc [.ref (ad 8 j0), .ref (ad 11 j1), .ref (ad 11 j2)] (fz_P D (me_T ca) (me_W ad ca M0) sz)) (q_Reckoner_above D ad ca N M0 MZ RZ (va_A (me_W ad ca M0) sz)) rm_Reckoner_above.cells rm_Reckoner_above.slots (va_A (me_W ad ca M0) sz) := by
  refine fz_enter (fun A => q_Reckoner_above D ad ca N M0 MZ RZ A) (by decide +kernel) (Nat.le_of_ble_eq_true rfl) ?_
  intro p e s m below meth c ls A hx hb hml hown hts hr hlocks hin hP hK hD hS hA hX hl hz
  have hl : lv_has ls 3 [(0, .ref (ad 8 j0)), (1, .ref (ad 11 j1)), (2, .ref (ad 11 j2))] := hl
  unfold f_Reckoner_above at h
  have hkp : me_kp M0 M0 := me_kp.rf
  have hkb := hkp
  refine lv_aload_n hx hb d_Reckoner_above_0 rfl (lv_at hl 2 rfl) ?_
  refine g_Num_2 hx hb hts hown hK hP hwf hj2 (hts _ u_374) d_Reckoner_above_1 ?_
  refine lv_ldc2 hx hb hown (hts _ u_1139) d_Reckoner_above_4 ?_
  refine W.lcmp hx hb d_Reckoner_above_7 ?_
  refine lv_if_eq (tgt := 20) hx hb d_Reckoner_above_8 (by decide) (fun c1 => ?_) (fun c1 => ?_)
  · have h := if_t ((lg_cmp_eq _ _).mp c1) h
    refine lv_iconst (v := 0) hx hb d_Reckoner_above_20 (by decide) ?_
    exact me_retz (me_kp M0) h (by decide) hx hb hr hlocks hwf hkp hP hK hD hS d_Reckoner_above_21
  have h := if_f (fun z => c1 ((lg_cmp_eq _ _).mpr z)) h
  refine lv_aload_n hx hb d_Reckoner_above_11 rfl (lv_at hl 1 rfl) ?_
  refine g_Num_3 hx hb hts hown hK hP hwf hj1 (hts _ u_377) d_Reckoner_above_12 ?_
  refine lv_lconst (v := 0) hx hb d_Reckoner_above_15 (by decide) ?_
  refine W.lcmp hx hb d_Reckoner_above_16 ?_
  refine lv_if_ne (tgt := 22) hx hb d_Reckoner_above_17 (by decide) (fun c2 => ?_) (fun c2 => ?_)
  · have h := if_f (fun z => c2 ((lg_cmp_eq _ _).mpr z)) h
    refine lv_aload_n hx hb d_Reckoner_above_22 rfl (lv_at hl 1 rfl) ?_
    refine lv_aload_n hx hb d_Reckoner_above_23 rfl (lv_at hl 2 rfl) ?_
    refine g_Num_2 hx hb hts hown hK hP hwf hj2 (hts _ u_374) d_Reckoner_above_24 ?_
    refine lv_lconst (v := 1) hx hb d_Reckoner_above_27 (by decide) ?_
    refine lv_ladd hx hb d_Reckoner_above_28 ?_
    obtain ⟨M3, eM3, h⟩ := bd_ob h
    refine me_thenv0 (M1 := M3) (me_runV (C := "FilterGuard$Num") (As := [.long ((mL M0 11 j2 2) + 1)]) (rest := []) ⟨hx, hb, hml, hown, hts⟩ (c_Num_raiseLeast l D ad ca N M0 M3 j1 ((mL M0 11 j2 2) + 1) eM3 hwf hj1 _) rfl (by show fg_nm y_Num_raiseLeast 1; decide +kernel) u_1198 u_1199 u_1200 u_187 u_1201 ⟨Nat.le_of_ble_eq_true rfl, Nat.le_of_ble_eq_true rfl⟩ hX hz hK hP hD hwf hS hA hj1 (by decide) rfl rfl rfl hl.1 (Nat.le_of_ble_eq_true rfl) d_Reckoner_above_29 ⟨Nat.le_of_ble_eq_true rfl, Nat.le_of_ble_eq_true rfl⟩) hP hD hK hS hA rfl rfl (fun H locs hw hP hD hS => ?_)
    obtain ⟨hwf, hk9⟩ := hw
    have hkp := hkp.tr hk9
    refine lv_aload_n hx hb d_Reckoner_above_32 rfl (lv_at hl 2 rfl) ?_
    refine lv_aload_n hx hb d_Reckoner_above_33 rfl (lv_at hl 1 rfl) ?_
    refine g_Num_3 hx hb hts hown hK hP hwf hj1 (hts _ u_377) d_Reckoner_above_34 ?_
    refine lv_lconst (v := 1) hx hb d_Reckoner_above_37 (by decide) ?_
    refine lv_lsub hx hb d_Reckoner_above_38 ?_
    obtain ⟨M4, eM4, h⟩ := bd_ob h
    refine me_thenv0 (M1 := M4) (me_runV (C := "FilterGuard$Num") (As := [.long ((mL M3 11 j1 3) - 1)]) (rest := []) ⟨hx, hb, hml, hown, hts⟩ (c_Num_lowerGreatest l D ad ca N M3 M4 j2 ((mL M3 11 j1 3) - 1) eM4 hwf hj2 _) rfl (by show fg_nm y_Num_lowerGreatest 1; decide +kernel) u_1194 u_1195 u_1196 u_187 u_1197 ⟨Nat.le_of_ble_eq_true rfl, Nat.le_of_ble_eq_true rfl⟩ hX hz hK hP hD hwf hS hA hj2 (by decide) rfl rfl rfl hl.1 (Nat.le_of_ble_eq_true rfl) d_Reckoner_above_39 ⟨Nat.le_of_ble_eq_true rfl, Nat.le_of_ble_eq_true rfl⟩) hP hD hK hS hA rfl rfl (fun H locs hw hP hD hS => ?_)
    obtain ⟨hwf, hk9⟩ := hw
    have hkp := hkp.tr hk9
    refine lv_iconst (v := 1) hx hb d_Reckoner_above_42 (by decide) ?_
    exact me_retz (me_kp M0) h (by decide) hx hb hr hlocks hwf hkp hP hK hD hS d_Reckoner_above_43
  have h := if_t ((lg_cmp_eq _ _).mp c2) h
  refine lv_iconst (v := 0) hx hb d_Reckoner_above_20 (by decide) ?_
  exact me_retz (me_kp M0) h (by decide) hx hb hr hlocks hwf hkp hP hK hD hS d_Reckoner_above_21
theorem d_Reckoner_notBelow_0 : decode prog_9_method_18_code 0 = .ok (.aload_n 1, 1) := by decide +kernel
theorem d_Reckoner_notBelow_1 : decode prog_9_method_18_code 1 = .ok (.aload_n 2, 1) := by decide +kernel
theorem d_Reckoner_notBelow_2 : decode prog_9_method_18_code 2 = .ok (.getfield 96, 3) := by decide +kernel
theorem d_Reckoner_notBelow_5 : decode prog_9_method_18_code 5 = .ok (.invokevirtual 99, 3) := by decide +kernel
theorem d_Reckoner_notBelow_8 : decode prog_9_method_18_code 8 = .ok (.aload_n 2, 1) := by decide +kernel
theorem d_Reckoner_notBelow_9 : decode prog_9_method_18_code 9 = .ok (.aload_n 1, 1) := by decide +kernel
theorem d_Reckoner_notBelow_10 : decode prog_9_method_18_code 10 = .ok (.getfield 122, 3) := by decide +kernel
theorem d_Reckoner_notBelow_13 : decode prog_9_method_18_code 13 = .ok (.invokevirtual 146, 3) := by decide +kernel
theorem d_Reckoner_notBelow_16 : decode prog_9_method_18_code 16 = .ok (.iconst 1, 1) := by decide +kernel
theorem d_Reckoner_notBelow_17 : decode prog_9_method_18_code 17 = .ok (.ireturn, 1) := by decide +kernel
abbrev y_Reckoner_notBelow : MethodName := ⟨"FilterGuard$Reckoner", "notBelow", "(LFilterGuard$Num;LFilterGuard$Num;)Z"⟩
def rm_Reckoner_notBelow : Room := { frames := 2, cells := 0, slots := 0, locals := 42 }
abbrev q_Reckoner_notBelow (D : va_G) (ad : Nat → Nat → Nat) (ca : Nat → ClassId) (N : Nat → Nat) (M0 MZ : me_M) (RZ : Int32) (A : Nat → Prop) : Array Value → Jvm.State → Outcome → Jvm.State → Prop := va_Qi (fun r (_ : Unit) => r = RZ ∧ me_wf N MZ ∧ me_kp M0 MZ ∧ (RZ = 1 ∨ RZ = 0)) (fg_B D A (fun _ => me_W ad ca MZ) (fun _ => [])) A
set_option maxHeartbeats 4000000 in
set_option maxRecDepth 100000 in
theorem c_Reckoner_notBelow (l : Launch) (D : va_G) (ad : Nat → Nat → Nat) (ca : Nat → ClassId) (N : Nat → Nat) (M0 MZ : me_M) (RZ : Int32) (j0 : Nat) (j1 : Nat) (j2 : Nat) (h : f_Reckoner_notBelow M0 j0 j1 j2 = (some (MZ, RZ))) (hwf : me_wf N M0) (hj0 : j0 < N 8) (hj1 : j1 < N 11) (hj2 : j2 < N 11) (sz : Nat) : Met l y_Reckoner_notBelow (fg_w y_Reckoner_notBelow prog_9_method_18_code 3 (some .boolean)) rm_Reckoner_notBelow (va_Pc [.ref (ad 8 j0), .ref (ad 11 j1), .ref (ad 11 j2)] (fz_P D (me_T ca) (me_W ad ca M0) sz)) (q_Reckoner_notBelow D ad ca N M0 MZ RZ (va_A (me_W ad ca M0) sz)) rm_Reckoner_notBelow.cells rm_Reckoner_notBelow.slots (va_A (me_W ad ca M0) sz) := by
  refine fz_enter (fun A => q_Reckoner_notBelow D ad ca N M0 MZ RZ A) (by decide +kernel) (Nat.le_of_ble_eq_true rfl) ?_
  intro p e s m below meth c ls A hx hb hml hown hts hr hlocks hin hP hK hD hS hA hX hl hz
  have hl : lv_has ls 3 [(0, .ref (ad 8 j0)), (1, .ref (ad 11 j1)), (2, .ref (ad 11 j2))] := hl
  unfold f_Reckoner_notBelow at h
  have hkp : me_kp M0 M0 := me_kp.rf
  have hkb := hkp
  refine lv_aload_n hx hb d_Reckoner_notBelow_0 rfl (lv_at hl 1 rfl) ?_
  refine lv_aload_n hx hb d_Reckoner_notBelow_1 rfl (lv_at hl 2 rfl) ?_
  refine g_Num_2 hx hb hts hown hK hP hwf hj2 (hts _ u_374) d_Reckoner_notBelow_2 ?_
  obtain ⟨M1, eM1, h⟩ := bd_ob h
  refine me_thenv0 (M1 := M1) (me_runV (C := "FilterGuard$Num") (As := [.long (mL M0 11 j2 2)]) (rest := []) ⟨hx, hb, hml, hown, hts⟩ (c_Num_raiseLeast l D ad ca N M0 M1 j1 (mL M0 11 j2 2) eM1 hwf hj1 _) rfl (by show fg_nm y_Num_raiseLeast 1; decide +kernel) u_1198 u_1199 u_1200 u_187 u_1201 ⟨Nat.le_of_ble_eq_true rfl, Nat.le_of_ble_eq_true rfl⟩ hX hz hK hP hD hwf hS hA hj1 (by decide) rfl rfl rfl hl.1 (Nat.le_of_ble_eq_true rfl) d_Reckoner_notBelow_5 ⟨Nat.le_of_ble_eq_true rfl, Nat.le_of_ble_eq_true rfl⟩) hP hD hK hS hA rfl rfl (fun H locs hw hP hD hS => ?_)
  obtain ⟨hwf, hk9⟩ := hw
  have hkp := hkp.tr hk9
  refine lv_aload_n hx hb d_Reckoner_notBelow_8 rfl (lv_at hl 2 rfl) ?_
  refine lv_aload_n hx hb d_Reckoner_notBelow_9 rfl (lv_at hl 1 rfl) ?_
  refine g_Num_3 hx hb hts hown hK hP hwf hj1 (hts _ u_377) d_Reckoner_notBelow_10 ?_
  obtain ⟨M2, eM2, h⟩ := bd_ob h
  refine me_thenv0 (M1 := M2) (me_runV (C := "FilterGuard$Num") (As := [.long (mL M1 11 j1 3)]) (rest := []) ⟨hx, hb, hml, hown, hts⟩ (c_Num_lowerGreatest l D ad ca N M1 M2 j2 (mL M1 11 j1 3) eM2 hwf hj2 _) rfl (by show fg_nm y_Num_lowerGreatest 1; decide +kernel) u_1194 u_1195 u_1196 u_187 u_1197 ⟨Nat.le_of_ble_eq_true rfl, Nat.le_of_ble_eq_true rfl⟩ hX hz hK hP hD hwf hS hA hj2 (by decide) rfl rfl rfl hl.1 (Nat.le_of_ble_eq_true rfl) d_Reckoner_notBelow_13 ⟨Nat.le_of_ble_eq_true rfl, Nat.le_of_ble_eq_true rfl⟩) hP hD hK hS hA rfl rfl (fun H locs hw hP hD hS => ?_)
  obtain ⟨hwf, hk9⟩ := hw
  have hkp := hkp.tr hk9
  refine lv_iconst (v := 1) hx hb d_Reckoner_notBelow_16 (by decide) ?_
  exact me_retz (me_kp M0) h (by decide) hx hb hr hlocks hwf hkp hP hK hD hS d_Reckoner_notBelow_17
theorem d_Reckoner_meet_100 : decode prog_9_method_24_code 100 = .ok (.iload_n 3, 1) := by decide +kernel
theorem d_Reckoner_meet_101 : decode prog_9_method_24_code 101 = .ok (.ifCond .eq 25, 3) := by decide +kernel
theorem d_Reckoner_meet_126 : decode prog_9_method_24_code 126 = .ok (.iconst 1, 1) := by decide +kernel
theorem d_Reckoner_meet_127 : decode prog_9_method_24_code 127 = .ok (.ireturn, 1) := by decide +kernel
theorem d_Reckoner_meet_104 : decode prog_9_method_24_code 104 = .ok (.aload_n 2, 1) := by decide +kernel
theorem d_Reckoner_meet_105 : decode prog_9_method_24_code 105 = .ok (.aload_n 2, 1) := by decide +kernel
theorem d_Reckoner_meet_106 : decode prog_9_method_24_code 106 = .ok (.getfield 49, 3) := by decide +kernel
theorem d_Reckoner_meet_109 : decode prog_9_method_24_code 109 = .ok (.lload 4, 2) := by decide +kernel
theorem d_Reckoner_meet_111 : decode prog_9_method_24_code 111 = .ok (.lor, 1) := by decide +kernel
theorem d_Reckoner_meet_112 : decode prog_9_method_24_code 112 = .ok (.aload_n 2, 1) := by decide +kernel
theorem d_Reckoner_meet_113 : decode prog_9_method_24_code 113 = .ok (.getfield 87, 3) := by decide +kernel
theorem d_Reckoner_meet_116 : decode prog_9_method_24_code 116 = .ok (.lload 4, 2) := by decide +kernel
theorem d_Reckoner_meet_118 : decode prog_9_method_24_code 118 = .ok (.ldc2_w 90, 3) := by decide +kernel
theorem d_Reckoner_meet_121 : decode prog_9_method_24_code 121 = .ok (.lxor, 1) := by decide +kernel
theorem d_Reckoner_meet_122 : decode prog_9_method_24_code 122 = .ok (.land, 1) := by decide +kernel
theorem d_Reckoner_meet_123 : decode prog_9_method_24_code 123 = .ok (.invokevirtual 92, 3) := by decide +kernel
theorem d_Reckoner_meet_23 : decode prog_9_method_24_code 23 = .ok (.istore_n 3, 1) := by decide +kernel
theorem d_Reckoner_meet_24 : decode prog_9_method_24_code 24 = .ok (.aload_n 1, 1) := by decide +kernel
theorem d_Reckoner_meet_25 : decode prog_9_method_24_code 25 = .ok (.getfield 49, 3) := by decide +kernel
theorem d_Reckoner_meet_28 : decode prog_9_method_24_code 28 = .ok (.lstore 4, 2) := by decide +kernel
theorem d_Reckoner_meet_30 : decode prog_9_method_24_code 30 = .ok (.aload_n 1, 1) := by decide +kernel
theorem d_Reckoner_meet_31 : decode prog_9_method_24_code 31 = .ok (.getfield 49, 3) := by decide +kernel
theorem d_Reckoner_meet_34 : decode prog_9_method_24_code 34 = .ok (.aload_n 1, 1) := by decide +kernel
theorem d_Reckoner_meet_35 : decode prog_9_method_24_code 35 = .ok (.getfield 87, 3) := by decide +kernel
theorem d_Reckoner_meet_38 : decode prog_9_method_24_code 38 = .ok (.lor, 1) := by decide +kernel
theorem d_Reckoner_meet_39 : decode prog_9_method_24_code 39 = .ok (.aload_n 2, 1) := by decide +kernel
theorem d_Reckoner_meet_40 : decode prog_9_method_24_code 40 = .ok (.getfield 49, 3) := by decide +kernel
theorem d_Reckoner_meet_43 : decode prog_9_method_24_code 43 = .ok (.aload_n 2, 1) := by decide +kernel
theorem d_Reckoner_meet_44 : decode prog_9_method_24_code 44 = .ok (.getfield 87, 3) := by decide +kernel
theorem d_Reckoner_meet_47 : decode prog_9_method_24_code 47 = .ok (.lor, 1) := by decide +kernel
theorem d_Reckoner_meet_48 : decode prog_9_method_24_code 48 = .ok (.land, 1) := by decide +kernel
theorem d_Reckoner_meet_49 : decode prog_9_method_24_code 49 = .ok (.lconst 0, 1) := by decide +kernel
theorem d_Reckoner_meet_50 : decode prog_9_method_24_code 50 = .ok (.lcmp, 1) := by decide +kernel
theorem d_Reckoner_meet_51 : decode prog_9_method_24_code 51 = .ok (.ifCond .ne 5, 3) := by decide +kernel
theorem d_Reckoner_meet_56 : decode prog_9_method_24_code 56 = .ok (.aload_n 2, 1) := by decide +kernel
theorem d_Reckoner_meet_57 : decode prog_9_method_24_code 57 = .ok (.invokevirtual 45, 3) := by decide +kernel
theorem d_Reckoner_meet_60 : decode prog_9_method_24_code 60 = .ok (.ifCond .eq 40, 3) := by decide +kernel
theorem d_Reckoner_meet_63 : decode prog_9_method_24_code 63 = .ok (.aload_n 2, 1) := by decide +kernel
theorem d_Reckoner_meet_64 : decode prog_9_method_24_code 64 = .ok (.getfield 49, 3) := by decide +kernel
theorem d_Reckoner_meet_67 : decode prog_9_method_24_code 67 = .ok (.invokestatic 196, 3) := by decide +kernel
theorem u_1301 : Cond.methodLink "FilterGuard$Reckoner" 196 ⟨"java/lang/Long", "bitCount", "(J)I"⟩ ∈ fg_g := fg_in (List.mem_of_getElem? (i := 1301) (by decide +kernel)) rfl
theorem d_Reckoner_meet_70 : decode prog_9_method_24_code 70 = .ok (.iconst 1, 1) := by decide +kernel
theorem d_Reckoner_meet_71 : decode prog_9_method_24_code 71 = .ok (.if_icmp .ne 29, 3) := by decide +kernel
theorem d_Reckoner_meet_74 : decode prog_9_method_24_code 74 = .ok (.aload_n 1, 1) := by decide +kernel
theorem d_Reckoner_meet_75 : decode prog_9_method_24_code 75 = .ok (.aload_n 1, 1) := by decide +kernel
theorem d_Reckoner_meet_76 : decode prog_9_method_24_code 76 = .ok (.getfield 49, 3) := by decide +kernel
theorem d_Reckoner_meet_79 : decode prog_9_method_24_code 79 = .ok (.aload_n 2, 1) := by decide +kernel
theorem d_Reckoner_meet_80 : decode prog_9_method_24_code 80 = .ok (.getfield 49, 3) := by decide +kernel
theorem d_Reckoner_meet_83 : decode prog_9_method_24_code 83 = .ok (.lor, 1) := by decide +kernel
theorem d_Reckoner_meet_84 : decode prog_9_method_24_code 84 = .ok (.aload_n 1, 1) := by decide +kernel
theorem d_Reckoner_meet_85 : decode prog_9_method_24_code 85 = .ok (.getfield 87, 3) := by decide +kernel
theorem d_Reckoner_meet_88 : decode prog_9_method_24_code 88 = .ok (.aload_n 2, 1) := by decide +kernel
theorem d_Reckoner_meet_89 : decode prog_9_method_24_code 89 = .ok (.getfield 49, 3) := by decide +kernel
theorem d_Reckoner_meet_92 : decode prog_9_method_24_code 92 = .ok (.ldc2_w 90, 3) := by decide +kernel
theorem d_Reckoner_meet_95 : decode prog_9_method_24_code 95 = .ok (.lxor, 1) := by decide +kernel
theorem d_Reckoner_meet_96 : decode prog_9_method_24_code 96 = .ok (.land, 1) := by decide +kernel
theorem d_Reckoner_meet_97 : decode prog_9_method_24_code 97 = .ok (.invokevirtual 92, 3) := by decide +kernel
theorem d_Reckoner_meet_54 : decode prog_9_method_24_code 54 = .ok (.iconst 0, 1) := by decide +kernel
theorem d_Reckoner_meet_55 : decode prog_9_method_24_code 55 = .ok (.ireturn, 1) := by decide +kernel
theorem d_Reckoner_meet_22 : decode prog_9_method_24_code 22 = .ok (.iconst 0, 1) := by decide +kernel
theorem d_Reckoner_meet_0 : decode prog_9_method_24_code 0 = .ok (.aload_n 1, 1) := by decide +kernel
theorem d_Reckoner_meet_1 : decode prog_9_method_24_code 1 = .ok (.invokevirtual 45, 3) := by decide +kernel
theorem d_Reckoner_meet_4 : decode prog_9_method_24_code 4 = .ok (.ifCond .eq 18, 3) := by decide +kernel
theorem d_Reckoner_meet_7 : decode prog_9_method_24_code 7 = .ok (.aload_n 1, 1) := by decide +kernel
theorem d_Reckoner_meet_8 : decode prog_9_method_24_code 8 = .ok (.getfield 49, 3) := by decide +kernel
theorem d_Reckoner_meet_11 : decode prog_9_method_24_code 11 = .ok (.invokestatic 196, 3) := by decide +kernel
theorem d_Reckoner_meet_14 : decode prog_9_method_24_code 14 = .ok (.iconst 1, 1) := by decide +kernel
theorem d_Reckoner_meet_15 : decode prog_9_method_24_code 15 = .ok (.if_icmp .ne 7, 3) := by decide +kernel
theorem d_Reckoner_meet_18 : decode prog_9_method_24_code 18 = .ok (.iconst 1, 1) := by decide +kernel
theorem d_Reckoner_meet_19 : decode prog_9_method_24_code 19 = .ok (.goto 4, 3) := by decide +kernel
abbrev y_Reckoner_meet : MethodName := ⟨"FilterGuard$Reckoner", "meet", "(LFilterGuard$Num;LFilterGuard$Num;)Z"⟩
def rm_Reckoner_meet : Room := { frames := 2, cells := 0, slots := 0, locals := 44 }
abbrev q_Reckoner_meet (D : va_G) (ad : Nat → Nat → Nat) (ca : Nat → ClassId) (N : Nat → Nat) (M0 MZ : me_M) (RZ : Int32) (A : Nat → Prop) : Array Value → Jvm.State → Outcome → Jvm.State → Prop := va_Qi (fun r (_ : Unit) => r = RZ ∧ me_wf N MZ ∧ me_kp M0 MZ ∧ (RZ = 1 ∨ RZ = 0)) (fg_B D A (fun _ => me_W ad ca MZ) (fun _ => [])) A
set_option maxHeartbeats 4000000 in
set_option maxRecDepth 100000 in
theorem c_Reckoner_meet (l : Launch) (D : va_G) (ad : Nat → Nat → Nat) (ca : Nat → ClassId) (N : Nat → Nat) (M0 MZ : me_M) (RZ : Int32) (j0 : Nat) (j1 : Nat) (j2 : Nat) (h : f_Reckoner_meet M0 j0 j1 j2 = (some (MZ, RZ))) (hwf : me_wf N M0) (hj0 : j0 < N 8) (hj1 : j1 < N 11) (hj2 : j2 < N 11) (sz : Nat) : Met l y_Reckoner_meet (fg_w y_Reckoner_meet prog_9_method_24_code 6 (some .boolean)) rm_Reckoner_meet (va_Pc [.ref (ad 8 j0), .ref (ad 11 j1), .ref (ad 11 j2)] (fz_P D (me_T ca) (me_W ad ca M0) sz)) (q_Reckoner_meet D ad ca N M0 MZ RZ (va_A (me_W ad ca M0) sz)) rm_Reckoner_meet.cells rm_Reckoner_meet.slots (va_A (me_W ad ca M0) sz) := by
  refine fz_enter (fun A => q_Reckoner_meet D ad ca N M0 MZ RZ A) (by decide +kernel) (Nat.le_of_ble_eq_true rfl) ?_
  intro p e s m below meth c ls A hx hb hml hown hts hr hlocks hin hP hK hD hS hA hX hl hz
  have hl : lv_has ls 6 [(0, .ref (ad 8 j0)), (1, .ref (ad 11 j1)), (2, .ref (ad 11 j2))] := hl
  unfold f_Reckoner_meet at h
  have hkp : me_kp M0 M0 := me_kp.rf
  have hkb := hkp
  have b_100 : ∀ (M : me_M) (y3 : Int32) (y4 : Int64) (H : Heap) (locs : List Loc) (ls : Array Slot), f_Reckoner_meet_b100 j2 M y3 y4 = (some (MZ, RZ)) → (y3 = 1 ∨ y3 = 0) → me_wf N M → me_kp M0 M → va_P D classes (me_W ad ca M) H → va_D A (me_W ad ca M) → va_S A s.heap H locs → lv_has ls 6 [(2, .ref (ad 11 j2)), (3, .int y3), (4, .long y4)] → W p l e rm_Reckoner_meet s m [.ref (ad 8 j0), .ref (ad 11 j1), .ref (ad 11 j2)].toArray below meth c H locs 0 0 (MQ below (q_Reckoner_meet D ad ca N M0 MZ RZ A) [.ref (ad 8 j0), .ref (ad 11 j1), .ref (ad 11 j2)].toArray s rm_Reckoner_meet.cells rm_Reckoner_meet.slots A) (F0 m 100 ls []) := by
    intro M y3 y4 H locs ls h zy3 hwf hkp hP hD hS hl
    unfold f_Reckoner_meet_b100 at h
    have hkb := hkp
    refine lv_iload_n hx hb d_Reckoner_meet_100 rfl (lv_at hl 1 rfl) ?_
    refine lv_if_eq (tgt := 126) hx hb d_Reckoner_meet_101 (by decide) (fun c1 => ?_) (fun c1 => ?_)
    · have h := if_t c1 h
      refine lv_iconst (v := 1) hx hb d_Reckoner_meet_126 (by decide) ?_
      exact me_retz (me_kp M0) h (by decide) hx hb hr hlocks hwf hkp hP hK hD hS d_Reckoner_meet_127
    have h := if_f c1 h
    refine lv_aload_n hx hb d_Reckoner_meet_104 rfl (lv_at hl 0 rfl) ?_
    refine lv_aload_n hx hb d_Reckoner_meet_105 rfl (lv_at hl 0 rfl) ?_
    refine g_Num_0 hx hb hts hown hK hP hwf hj2 (hts _ u_368) d_Reckoner_meet_106 ?_
    refine lv_lload hx hb d_Reckoner_meet_109 (lv_at hl 2 rfl) ?_
    refine lv_lor hx hb d_Reckoner_meet_111 ?_
    refine lv_aload_n hx hb d_Reckoner_meet_112 rfl (lv_at hl 0 rfl) ?_
    refine g_Num_1 hx hb hts hown hK hP hwf hj2 (hts _ u_372) d_Reckoner_meet_113 ?_
    refine lv_lload hx hb d_Reckoner_meet_116 (lv_at hl 2 rfl) ?_
    refine lv_ldc2 hx hb hown (hts _ u_1139) d_Reckoner_meet_118 ?_
    refine lv_lxor hx hb d_Reckoner_meet_121 ?_
    refine lv_land hx hb d_Reckoner_meet_122 ?_
    obtain ⟨M2, eM2, h⟩ := bd_ob h
    refine me_thenv0 (M1 := M2) (me_runV (C := "FilterGuard$Num") (As := [.long ((mL M 11 j2 0) ||| y4), .long ((mL M 11 j2 1) &&& (y4 ^^^ (-1)))]) (rest := []) ⟨hx, hb, hml, hown, hts⟩ (c_Num_bits l D ad ca N M M2 j2 ((mL M 11 j2 0) ||| y4) ((mL M 11 j2 1) &&& (y4 ^^^ (-1))) eM2 hwf hj2 _) rfl (by show fg_nm y_Num_bits 2; decide +kernel) u_1140 u_1141 u_1142 u_187 u_1143 ⟨Nat.le_of_ble_eq_true rfl, Nat.le_of_ble_eq_true rfl⟩ hX hz hK hP hD hwf hS hA hj2 (by decide) rfl rfl rfl hl.1 (Nat.le_of_ble_eq_true rfl) d_Reckoner_meet_123 ⟨Nat.le_of_ble_eq_true rfl, Nat.le_of_ble_eq_true rfl⟩) hP hD hK hS hA rfl rfl (fun H locs hw hP hD hS => ?_)
    obtain ⟨hwf, hk9⟩ := hw
    have hkp := hkp.tr hk9
    refine lv_iconst (v := 1) hx hb d_Reckoner_meet_126 (by decide) ?_
    exact me_retz (me_kp M0) h (by decide) hx hb hr hlocks hwf hkp hP hK hD hS d_Reckoner_meet_127
  have b_23 : ∀ (M : me_M) (s0 : Int32) (H : Heap) (locs : List Loc) (ls : Array Slot), f_Reckoner_meet_b23 j1 j2 M s0 = (some (MZ, RZ)) → (s0 = 1 ∨ s0 = 0) → me_wf N M → me_kp M0 M → va_P D classes (me_W ad ca M) H → va_D A (me_W ad ca M) → va_S A s.heap H locs → lv_has ls 6 [(1, .ref (ad 11 j1)), (2, .ref (ad 11 j2))] → W p l e rm_Reckoner_meet s m [.ref (ad 8 j0), .ref (ad 11 j1), .ref (ad 11 j2)].toArray below meth c H locs 0 0 (MQ below (q_Reckoner_meet D ad ca N M0 MZ RZ A) [.ref (ad 8 j0), .ref (ad 11 j1), .ref (ad 11 j2)].toArray s rm_Reckoner_meet.cells rm_Reckoner_meet.slots A) (F0 m 23 ls [.int s0]) := by
    intro M s0 H locs ls h zs0 hwf hkp hP hD hS hl
    unfold f_Reckoner_meet_b23 at h
    have hkb := hkp
    refine lv_istore_n (lv' := [(3, .int s0), (1, .ref (ad 11 j1)), (2, .ref (ad 11 j2))]) hx hb d_Reckoner_meet_23 rfl hl (by decide) rfl (fun ls hl => ?_)
    refine lv_aload_n hx hb d_Reckoner_meet_24 rfl (lv_at hl 1 rfl) ?_
    refine g_Num_0 hx hb hts hown hK hP hwf hj1 (hts _ u_368) d_Reckoner_meet_25 ?_
    obtain ⟨v3, ev3, h⟩ := st_ob h
    refine fg_topl (y := v3) ev3.symm ?_
    refine lv_lstore (lv' := [(4, .long v3), (3, .int s0), (1, .ref (ad 11 j1)), (2, .ref (ad 11 j2))]) hx hb d_Reckoner_meet_28 hl (by decide) rfl (fun ls hl => ?_)
    refine lv_aload_n hx hb d_Reckoner_meet_30 rfl (lv_at hl 2 rfl) ?_
    refine g_Num_0 hx hb hts hown hK hP hwf hj1 (hts _ u_368) d_Reckoner_meet_31 ?_
    refine lv_aload_n hx hb d_Reckoner_meet_34 rfl (lv_at hl 2 rfl) ?_
    refine g_Num_1 hx hb hts hown hK hP hwf hj1 (hts _ u_372) d_Reckoner_meet_35 ?_
    refine lv_lor hx hb d_Reckoner_meet_38 ?_
    refine lv_aload_n hx hb d_Reckoner_meet_39 rfl (lv_at hl 3 rfl) ?_
    refine g_Num_0 hx hb hts hown hK hP hwf hj2 (hts _ u_368) d_Reckoner_meet_40 ?_
    refine lv_aload_n hx hb d_Reckoner_meet_43 rfl (lv_at hl 3 rfl) ?_
    refine g_Num_1 hx hb hts hown hK hP hwf hj2 (hts _ u_372) d_Reckoner_meet_44 ?_
    refine lv_lor hx hb d_Reckoner_meet_47 ?_
    refine lv_land hx hb d_Reckoner_meet_48 ?_
    obtain ⟨v4, ev4, h⟩ := st_ob h
    refine fg_topl (y := v4) ev4.symm ?_
    refine lv_lconst (v := 0) hx hb d_Reckoner_meet_49 (by decide) ?_
    refine W.lcmp hx hb d_Reckoner_meet_50 ?_
    refine lv_if_ne (tgt := 56) hx hb d_Reckoner_meet_51 (by decide) (fun c5 => ?_) (fun c5 => ?_)
    · have h := if_f (fun z => c5 ((lg_cmp_eq _ _).mpr z)) h
      refine lv_aload_n hx hb d_Reckoner_meet_56 rfl (lv_at hl 3 rfl) ?_
      obtain ⟨M6, r7, eM6, h⟩ := b2_ob h
      refine me_theni0 (M1 := M6) (me_runV (C := "FilterGuard$Num") (As := []) (rest := []) ⟨hx, hb, hml, hown, hts⟩ (c_Num_isExact0 l D ad ca N M M6 r7 j2 eM6 hwf hj2 _) rfl (by show fg_nm y_Num_isExact0 0; decide +kernel) u_1157 u_1158 u_1159 u_187 u_1160 ⟨Nat.le_of_ble_eq_true rfl, Nat.le_of_ble_eq_true rfl⟩ hX hz hK hP hD hwf hS hA hj2 (by decide) rfl rfl rfl hl.1 (Nat.le_of_ble_eq_true rfl) d_Reckoner_meet_57 ⟨Nat.le_of_ble_eq_true rfl, Nat.le_of_ble_eq_true rfl⟩) hP hD hK hS hA rfl rfl (fun H locs hw hP hD hS => ?_)
      obtain ⟨hwf, hk9, zr7⟩ := hw
      have hkp := hkp.tr hk9
      refine lv_if_eq (tgt := 100) hx hb d_Reckoner_meet_60 (by decide) (fun c8 => ?_) (fun c8 => ?_)
      · have h := if_t c8 h
        exact b_100 M6 s0 v3 _ _ _ h zs0 hwf hkp hP hD hS (lv_sub hl [3, 1, 0] rfl)
      have h := if_f c8 h
      refine lv_aload_n hx hb d_Reckoner_meet_63 rfl (lv_at hl 3 rfl) ?_
      refine g_Num_0 hx hb hts hown hK hP hwf hj2 (hts _ u_368) d_Reckoner_meet_64 ?_
      obtain ⟨r9, er9, h⟩ := bd_ob h
      refine me_pani' (r0 := r9) (fg_runS (wc := []) (tc := []) (A2 := A) (As := [.long (mL M6 11 j2 0)]) (rest := []) ⟨hx, hb, hml, hown, hts⟩ (c_Long_bitCount l D r9 (mL M6 11 j2 0) er9 _) (by show fg_nm y_Long_bitCount 1; decide +kernel) u_1301 u_1167 u_202 u_1168 ⟨Nat.le_of_ble_eq_true rfl, Nat.le_of_ble_eq_true rfl⟩ hX me_P0 (hK.sub (tys' := []) [] rfl) me_D0 rfl hl.1 (Nat.le_of_ble_eq_true rfl) d_Reckoner_meet_67 ⟨Nat.le_of_ble_eq_true rfl, Nat.le_of_ble_eq_true rfl⟩) hP hD hK hS hA rfl rfl (fun H locs hw hP hD hS => ?_)
      refine lv_iconst (v := 1) hx hb d_Reckoner_meet_70 (by decide) ?_
      refine lv_icmp_ne (tgt := 100) hx hb d_Reckoner_meet_71 (by decide) (fun c10 => ?_) (fun c10 => ?_)
      · have h := if_f c10 h
        exact b_100 M6 s0 v3 _ _ _ h zs0 hwf hkp hP hD hS (lv_sub hl [3, 1, 0] rfl)
      have h := if_t c10 h
      refine lv_aload_n hx hb d_Reckoner_meet_74 rfl (lv_at hl 2 rfl) ?_
      refine lv_aload_n hx hb d_Reckoner_meet_75 rfl (lv_at hl 2 rfl) ?_
      refine g_Num_0 hx hb hts hown hK hP hwf hj1 (hts _ u_368) d_Reckoner_meet_76 ?_
      refine lv_aload_n hx hb d_Reckoner_meet_79 rfl (lv_at hl 3 rfl) ?_
      refine g_Num_0 hx hb hts hown hK hP hwf hj2 (hts _ u_368) d_Reckoner_meet_80 ?_
      refine lv_lor hx hb d_Reckoner_meet_83 ?_
      refine lv_aload_n hx hb d_Reckoner_meet_84 rfl (lv_at hl 2 rfl) ?_
      refine g_Num_1 hx hb hts hown hK hP hwf hj1 (hts _ u_372) d_Reckoner_meet_85 ?_
      refine lv_aload_n hx hb d_Reckoner_meet_88 rfl (lv_at hl 3 rfl) ?_
      refine g_Num_0 hx hb hts hown hK hP hwf hj2 (hts _ u_368) d_Reckoner_meet_89 ?_
      refine lv_ldc2 hx hb hown (hts _ u_1139) d_Reckoner_meet_92 ?_
      refine lv_lxor hx hb d_Reckoner_meet_95 ?_
      refine lv_land hx hb d_Reckoner_meet_96 ?_
      obtain ⟨M11, eM11, h⟩ := bd_ob h
      refine me_thenv0 (M1 := M11) (me_runV (C := "FilterGuard$Num") (As := [.long ((mL M6 11 j1 0) ||| (mL M6 11 j2 0)), .long ((mL M6 11 j1 1) &&& ((mL M6 11 j2 0) ^^^ (-1)))]) (rest := []) ⟨hx, hb, hml, hown, hts⟩ (c_Num_bits l D ad ca N M6 M11 j1 ((mL M6 11 j1 0) ||| (mL M6 11 j2 0)) ((mL M6 11 j1 1) &&& ((mL M6 11 j2 0) ^^^ (-1))) eM11 hwf hj1 _) rfl (by show fg_nm y_Num_bits 2; decide +kernel) u_1140 u_1141 u_1142 u_187 u_1143 ⟨Nat.le_of_ble_eq_true rfl, Nat.le_of_ble_eq_true rfl⟩ hX hz hK hP hD hwf hS hA hj1 (by decide) rfl rfl rfl hl.1 (Nat.le_of_ble_eq_true rfl) d_Reckoner_meet_97 ⟨Nat.le_of_ble_eq_true rfl, Nat.le_of_ble_eq_true rfl⟩) hP hD hK hS hA rfl rfl (fun H locs hw hP hD hS => ?_)
      obtain ⟨hwf, hk9⟩ := hw
      have hkp := hkp.tr hk9
      exact b_100 M11 s0 v3 _ _ _ h zs0 hwf hkp hP hD hS (lv_sub hl [3, 1, 0] rfl)
    have h := if_t ((lg_cmp_eq _ _).mp c5) h
    refine lv_iconst (v := 0) hx hb d_Reckoner_meet_54 (by decide) ?_
    exact me_retz (me_kp M0) h (by decide) hx hb hr hlocks hwf hkp hP hK hD hS d_Reckoner_meet_55
  have b_22 : ∀ (M : me_M) (H : Heap) (locs : List Loc) (ls : Array Slot), f_Reckoner_meet_b22 j1 j2 M = (some (MZ, RZ)) → me_wf N M → me_kp M0 M → va_P D classes (me_W ad ca M) H → va_D A (me_W ad ca M) → va_S A s.heap H locs → lv_has ls 6 [(1, .ref (ad 11 j1)), (2, .ref (ad 11 j2))] → W p l e rm_Reckoner_meet s m [.ref (ad 8 j0), .ref (ad 11 j1), .ref (ad 11 j2)].toArray below meth c H locs 0 0 (MQ below (q_Reckoner_meet D ad ca N M0 MZ RZ A) [.ref (ad 8 j0), .ref (ad 11 j1), .ref (ad 11 j2)].toArray s rm_Reckoner_meet.cells rm_Reckoner_meet.slots A) (F0 m 22 ls []) := by
    intro M H locs ls h hwf hkp hP hD hS hl
    unfold f_Reckoner_meet_b22 at h
    have hkb := hkp
    refine lv_iconst (v := 0) hx hb d_Reckoner_meet_22 (by decide) ?_
    exact b_23 M (0 : Int32) _ _ _ h (by decide) hwf hkp hP hD hS (lv_sub hl [0, 1] rfl)
  refine lv_aload_n hx hb d_Reckoner_meet_0 rfl (lv_at hl 1 rfl) ?_
  obtain ⟨M12, r13, eM12, h⟩ := b2_ob h
  refine me_theni0 (M1 := M12) (me_runV (C := "FilterGuard$Num") (As := []) (rest := []) ⟨hx, hb, hml, hown, hts⟩ (c_Num_isExact0 l D ad ca N M0 M12 r13 j1 eM12 hwf hj1 _) rfl (by show fg_nm y_Num_isExact0 0; decide +kernel) u_1157 u_1158 u_1159 u_187 u_1160 ⟨Nat.le_of_ble_eq_true rfl, Nat.le_of_ble_eq_true rfl⟩ hX hz hK hP hD hwf hS hA hj1 (by decide) rfl rfl rfl hl.1 (Nat.le_of_ble_eq_true rfl) d_Reckoner_meet_1 ⟨Nat.le_of_ble_eq_true rfl, Nat.le_of_ble_eq_true rfl⟩) hP hD hK hS hA rfl rfl (fun H locs hw hP hD hS => ?_)
  obtain ⟨hwf, hk9, zr13⟩ := hw
  have hkp := hkp.tr hk9
  refine lv_if_eq (tgt := 22) hx hb d_Reckoner_meet_4 (by decide) (fun c14 => ?_) (fun c14 => ?_)
  · have h := if_t c14 h
    exact b_22 M12 _ _ _ h hwf hkp hP hD hS (lv_sub hl [1, 2] rfl)
  have h := if_f c14 h
  refine lv_aload_n hx hb d_Reckoner_meet_7 rfl (lv_at hl 1 rfl) ?_
  refine g_Num_0 hx hb hts hown hK hP hwf hj1 (hts _ u_368) d_Reckoner_meet_8 ?_
  obtain ⟨r15, er15, h⟩ := bd_ob h
  refine me_pani' (r0 := r15) (fg_runS (wc := []) (tc := []) (A2 := A) (As := [.long (mL M12 11 j1 0)]) (rest := []) ⟨hx, hb, hml, hown, hts⟩ (c_Long_bitCount l D r15 (mL M12 11 j1 0) er15 _) (by show fg_nm y_Long_bitCount 1; decide +kernel) u_1301 u_1167 u_202 u_1168 ⟨Nat.le_of_ble_eq_true rfl, Nat.le_of_ble_eq_true rfl⟩ hX me_P0 (hK.sub (tys' := []) [] rfl) me_D0 rfl hl.1 (Nat.le_of_ble_eq_true rfl) d_Reckoner_meet_11 ⟨Nat.le_of_ble_eq_true rfl, Nat.le_of_ble_eq_true rfl⟩) hP hD hK hS hA rfl rfl (fun H locs hw hP hD hS => ?_)
  refine lv_iconst (v := 1) hx hb d_Reckoner_meet_14 (by decide) ?_
  refine lv_icmp_ne (tgt := 22) hx hb d_Reckoner_meet_15 (by decide) (fun c16 => ?_) (fun c16 => ?_)
  · have h := if_f c16 h
    exact b_22 M12 _ _ _ h hwf hkp hP hD hS (lv_sub hl [1, 2] rfl)
  have h := if_t c16 h
  refine lv_iconst (v := 1) hx hb d_Reckoner_meet_18 (by decide) ?_
  refine lv_goto (tgt := 23) hx hb d_Reckoner_meet_19 (by decide) ?_
  exact b_23 M12 (1 : Int32) _ _ _ h (by decide) hwf hkp hP hD hS (lv_sub hl [1, 2] rfl)
theorem d_Reckoner_exclude_85 : decode prog_9_method_23_code 85 = .ok (.ladd, 1) := by decide +kernel
theorem d_Reckoner_exclude_86 : decode prog_9_method_23_code 86 = .ok (.putfield 128, 3) := by decide +kernel
theorem d_Reckoner_exclude_89 : decode prog_9_method_23_code 89 = .ok (.aload_n 1, 1) := by decide +kernel
theorem d_Reckoner_exclude_90 : decode prog_9_method_23_code 90 = .ok (.dup, 1) := by decide +kernel
theorem d_Reckoner_exclude_91 : decode prog_9_method_23_code 91 = .ok (.getfield 131, 3) := by decide +kernel
theorem d_Reckoner_exclude_94 : decode prog_9_method_23_code 94 = .ok (.aload_n 1, 1) := by decide +kernel
theorem d_Reckoner_exclude_95 : decode prog_9_method_23_code 95 = .ok (.getfield 131, 3) := by decide +kernel
theorem d_Reckoner_exclude_98 : decode prog_9_method_23_code 98 = .ok (.lload_n 2, 1) := by decide +kernel
theorem d_Reckoner_exclude_99 : decode prog_9_method_23_code 99 = .ok (.lcmp, 1) := by decide +kernel
theorem d_Reckoner_exclude_100 : decode prog_9_method_23_code 100 = .ok (.ifCond .ne 7, 3) := by decide +kernel
theorem d_Reckoner_exclude_107 : decode prog_9_method_23_code 107 = .ok (.lconst 0, 1) := by decide +kernel
theorem d_Reckoner_exclude_108 : decode prog_9_method_23_code 108 = .ok (.lsub, 1) := by decide +kernel
theorem d_Reckoner_exclude_109 : decode prog_9_method_23_code 109 = .ok (.putfield 131, 3) := by decide +kernel
theorem d_Reckoner_exclude_112 : decode prog_9_method_23_code 112 = .ok (.iconst 1, 1) := by decide +kernel
theorem d_Reckoner_exclude_113 : decode prog_9_method_23_code 113 = .ok (.ireturn, 1) := by decide +kernel
theorem d_Reckoner_exclude_103 : decode prog_9_method_23_code 103 = .ok (.lconst 1, 1) := by decide +kernel
theorem d_Reckoner_exclude_104 : decode prog_9_method_23_code 104 = .ok (.goto 4, 3) := by decide +kernel
theorem d_Reckoner_exclude_62 : decode prog_9_method_23_code 62 = .ok (.lsub, 1) := by decide +kernel
theorem d_Reckoner_exclude_63 : decode prog_9_method_23_code 63 = .ok (.putfield 122, 3) := by decide +kernel
theorem d_Reckoner_exclude_66 : decode prog_9_method_23_code 66 = .ok (.aload_n 1, 1) := by decide +kernel
theorem d_Reckoner_exclude_67 : decode prog_9_method_23_code 67 = .ok (.dup, 1) := by decide +kernel
theorem d_Reckoner_exclude_68 : decode prog_9_method_23_code 68 = .ok (.getfield 128, 3) := by decide +kernel
theorem d_Reckoner_exclude_71 : decode prog_9_method_23_code 71 = .ok (.aload_n 1, 1) := by decide +kernel
theorem d_Reckoner_exclude_72 : decode prog_9_method_23_code 72 = .ok (.getfield 128, 3) := by decide +kernel
theorem d_Reckoner_exclude_75 : decode prog_9_method_23_code 75 = .ok (.lload_n 2, 1) := by decide +kernel
theorem d_Reckoner_exclude_76 : decode prog_9_method_23_code 76 = .ok (.lcmp, 1) := by decide +kernel
theorem d_Reckoner_exclude_77 : decode prog_9_method_23_code 77 = .ok (.ifCond .ne 7, 3) := by decide +kernel
theorem d_Reckoner_exclude_84 : decode prog_9_method_23_code 84 = .ok (.lconst 0, 1) := by decide +kernel
theorem d_Reckoner_exclude_80 : decode prog_9_method_23_code 80 = .ok (.lconst 1, 1) := by decide +kernel
theorem d_Reckoner_exclude_81 : decode prog_9_method_23_code 81 = .ok (.goto 4, 3) := by decide +kernel
theorem d_Reckoner_exclude_39 : decode prog_9_method_23_code 39 = .ok (.ladd, 1) := by decide +kernel
theorem d_Reckoner_exclude_40 : decode prog_9_method_23_code 40 = .ok (.putfield 96, 3) := by decide +kernel
theorem d_Reckoner_exclude_43 : decode prog_9_method_23_code 43 = .ok (.aload_n 1, 1) := by decide +kernel
theorem d_Reckoner_exclude_44 : decode prog_9_method_23_code 44 = .ok (.dup, 1) := by decide +kernel
theorem d_Reckoner_exclude_45 : decode prog_9_method_23_code 45 = .ok (.getfield 122, 3) := by decide +kernel
theorem d_Reckoner_exclude_48 : decode prog_9_method_23_code 48 = .ok (.aload_n 1, 1) := by decide +kernel
theorem d_Reckoner_exclude_49 : decode prog_9_method_23_code 49 = .ok (.getfield 122, 3) := by decide +kernel
theorem d_Reckoner_exclude_52 : decode prog_9_method_23_code 52 = .ok (.lload_n 2, 1) := by decide +kernel
theorem d_Reckoner_exclude_53 : decode prog_9_method_23_code 53 = .ok (.lcmp, 1) := by decide +kernel
theorem d_Reckoner_exclude_54 : decode prog_9_method_23_code 54 = .ok (.ifCond .ne 7, 3) := by decide +kernel
theorem d_Reckoner_exclude_61 : decode prog_9_method_23_code 61 = .ok (.lconst 0, 1) := by decide +kernel
theorem d_Reckoner_exclude_57 : decode prog_9_method_23_code 57 = .ok (.lconst 1, 1) := by decide +kernel
theorem d_Reckoner_exclude_58 : decode prog_9_method_23_code 58 = .ok (.goto 4, 3) := by decide +kernel
theorem d_Reckoner_exclude_20 : decode prog_9_method_23_code 20 = .ok (.aload_n 1, 1) := by decide +kernel
theorem d_Reckoner_exclude_21 : decode prog_9_method_23_code 21 = .ok (.dup, 1) := by decide +kernel
theorem d_Reckoner_exclude_22 : decode prog_9_method_23_code 22 = .ok (.getfield 96, 3) := by decide +kernel
theorem d_Reckoner_exclude_25 : decode prog_9_method_23_code 25 = .ok (.aload_n 1, 1) := by decide +kernel
theorem d_Reckoner_exclude_26 : decode prog_9_method_23_code 26 = .ok (.getfield 96, 3) := by decide +kernel
theorem d_Reckoner_exclude_29 : decode prog_9_method_23_code 29 = .ok (.lload_n 2, 1) := by decide +kernel
theorem d_Reckoner_exclude_30 : decode prog_9_method_23_code 30 = .ok (.lcmp, 1) := by decide +kernel
theorem d_Reckoner_exclude_31 : decode prog_9_method_23_code 31 = .ok (.ifCond .ne 7, 3) := by decide +kernel
theorem d_Reckoner_exclude_38 : decode prog_9_method_23_code 38 = .ok (.lconst 0, 1) := by decide +kernel
theorem d_Reckoner_exclude_34 : decode prog_9_method_23_code 34 = .ok (.lconst 1, 1) := by decide +kernel
theorem d_Reckoner_exclude_35 : decode prog_9_method_23_code 35 = .ok (.goto 4, 3) := by decide +kernel
theorem d_Reckoner_exclude_0 : decode prog_9_method_23_code 0 = .ok (.aload_n 1, 1) := by decide +kernel
theorem d_Reckoner_exclude_1 : decode prog_9_method_23_code 1 = .ok (.getfield 87, 3) := by decide +kernel
theorem d_Reckoner_exclude_4 : decode prog_9_method_23_code 4 = .ok (.lconst 0, 1) := by decide +kernel
theorem d_Reckoner_exclude_5 : decode prog_9_method_23_code 5 = .ok (.lcmp, 1) := by decide +kernel
theorem d_Reckoner_exclude_6 : decode prog_9_method_23_code 6 = .ok (.ifCond .ne 14, 3) := by decide +kernel
theorem d_Reckoner_exclude_9 : decode prog_9_method_23_code 9 = .ok (.aload_n 1, 1) := by decide +kernel
theorem d_Reckoner_exclude_10 : decode prog_9_method_23_code 10 = .ok (.getfield 49, 3) := by decide +kernel
theorem d_Reckoner_exclude_13 : decode prog_9_method_23_code 13 = .ok (.lload_n 2, 1) := by decide +kernel
theorem d_Reckoner_exclude_14 : decode prog_9_method_23_code 14 = .ok (.lcmp, 1) := by decide +kernel
theorem d_Reckoner_exclude_15 : decode prog_9_method_23_code 15 = .ok (.ifCond .ne 5, 3) := by decide +kernel
theorem d_Reckoner_exclude_18 : decode prog_9_method_23_code 18 = .ok (.iconst 0, 1) := by decide +kernel
theorem d_Reckoner_exclude_19 : decode prog_9_method_23_code 19 = .ok (.ireturn, 1) := by decide +kernel
abbrev y_Reckoner_exclude : MethodName := ⟨"FilterGuard$Reckoner", "exclude", "(LFilterGuard$Num;J)Z"⟩
def rm_Reckoner_exclude : Room := { frames := 1, cells := 0, slots := 0, locals := 20 }
abbrev q_Reckoner_exclude (D : va_G) (ad : Nat → Nat → Nat) (ca : Nat → ClassId) (N : Nat → Nat) (M0 MZ : me_M) (RZ : Int32) (A : Nat → Prop) : Array Value → Jvm.State → Outcome → Jvm.State → Prop := va_Qi (fun r (_ : Unit) => r = RZ ∧ me_wf N MZ ∧ me_kp M0 MZ ∧ (RZ = 1 ∨ RZ = 0)) (fg_B D A (fun _ => me_W ad ca MZ) (fun _ => [])) A
set_option maxHeartbeats 4000000 in
set_option maxRecDepth 100000 in
theorem c_Reckoner_exclude (l : Launch) (D : va_G) (ad : Nat → Nat → Nat) (ca : Nat → ClassId) (N : Nat → Nat) (M0 MZ : me_M) (RZ : Int32) (j0 : Nat) (j1 : Nat) (x2 : Int64) (h : f_Reckoner_exclude M0 j0 j1 x2 = (some (MZ, RZ))) (hwf : me_wf N M0) (hj0 : j0 < N 8) (hj1 : j1 < N 11) (sz : Nat) : Met l y_Reckoner_exclude (fg_w y_Reckoner_exclude prog_9_method_23_code 4 (some .boolean)) rm_Reckoner_exclude (va_Pc [.ref (ad 8 j0), .ref (ad 11 j1), .long x2] (fz_P D (me_T ca) (me_W ad ca M0) sz)) (q_Reckoner_exclude D ad ca N M0 MZ RZ (va_A (me_W ad ca M0) sz)) rm_Reckoner_exclude.cells rm_Reckoner_exclude.slots (va_A (me_W ad ca M0) sz) := by
  refine fz_enter (fun A => q_Reckoner_exclude D ad ca N M0 MZ RZ A) (by decide +kernel) (Nat.le_of_ble_eq_true rfl) ?_
  intro p e s m below meth c ls A hx hb hml hown hts hr hlocks hin hP hK hD hS hA hX hl hz
  have hl : lv_has ls 4 [(0, .ref (ad 8 j0)), (1, .ref (ad 11 j1)), (2, .long x2)] := hl
  unfold f_Reckoner_exclude at h
  have hkp : me_kp M0 M0 := me_kp.rf
  have hkb := hkp
  have b_85 : ∀ (M : me_M) (s0 : Int64) (s1 : Int64) (s2 : Nat) (H : Heap) (locs : List Loc) (ls : Array Slot), f_Reckoner_exclude_b85 j1 x2 M s0 s1 s2 = (some (MZ, RZ)) → (s2 < N 11) → me_wf N M → me_kp M0 M → va_P D classes (me_W ad ca M) H → va_D A (me_W ad ca M) → va_S A s.heap H locs → lv_has ls 4 [(1, .ref (ad 11 j1)), (2, .long x2)] → W p l e rm_Reckoner_exclude s m [.ref (ad 8 j0), .ref (ad 11 j1), .long x2].toArray below meth c H locs 0 0 (MQ below (q_Reckoner_exclude D ad ca N M0 MZ RZ A) [.ref (ad 8 j0), .ref (ad 11 j1), .long x2].toArray s rm_Reckoner_exclude.cells rm_Reckoner_exclude.slots A) (F0 m 85 ls [.long s0, .long s1, .ref (ad 11 s2)]) := by
    intro M s0 s1 s2 H locs ls h hs2 hwf hkp hP hD hS hl
    unfold f_Reckoner_exclude_b85 at h
    have hkb := hkp
    refine lv_ladd hx hb d_Reckoner_exclude_85 ?_
    obtain ⟨M1, eM1, h⟩ := st_ob h
    refine p_Num_4 eM1 hx hb hts hown hK hP hD hwf hS hs2 (hts _ u_380) d_Reckoner_exclude_86 (fun H locs hP hD hwf hS => ?_)
    have hkp := kp_L eM1 hkp
    refine lv_aload_n hx hb d_Reckoner_exclude_89 rfl (lv_at hl 0 rfl) ?_
    refine lv_dup hx hb d_Reckoner_exclude_90 rfl ?_
    refine g_Num_5 hx hb hts hown hK hP hwf hj1 (hts _ u_382) d_Reckoner_exclude_91 ?_
    refine lv_aload_n hx hb d_Reckoner_exclude_94 rfl (lv_at hl 0 rfl) ?_
    refine g_Num_5 hx hb hts hown hK hP hwf hj1 (hts _ u_382) d_Reckoner_exclude_95 ?_
    refine lv_lload_n hx hb d_Reckoner_exclude_98 rfl (lv_at hl 1 rfl) ?_
    refine W.lcmp hx hb d_Reckoner_exclude_99 ?_
    refine lv_if_ne (tgt := 107) hx hb d_Reckoner_exclude_100 (by decide) (fun c2 => ?_) (fun c2 => ?_)
    · have h := if_f (fun z => c2 ((lg_cmp_eq _ _).mpr z)) h
      refine lv_lconst (v := 0) hx hb d_Reckoner_exclude_107 (by decide) ?_
      refine lv_lsub hx hb d_Reckoner_exclude_108 ?_
      obtain ⟨M3, eM3, h⟩ := st_ob h
      refine p_Num_5 eM3 hx hb hts hown hK hP hD hwf hS hj1 (hts _ u_382) d_Reckoner_exclude_109 (fun H locs hP hD hwf hS => ?_)
      have hkp := kp_L eM3 hkp
      refine lv_iconst (v := 1) hx hb d_Reckoner_exclude_112 (by decide) ?_
      exact me_retz (me_kp M0) h (by decide) hx hb hr hlocks hwf hkp hP hK hD hS d_Reckoner_exclude_113
    have h := if_t ((lg_cmp_eq _ _).mp c2) h
    refine lv_lconst (v := 1) hx hb d_Reckoner_exclude_103 (by decide) ?_
    refine lv_goto (tgt := 108) hx hb d_Reckoner_exclude_104 (by decide) ?_
    refine lv_lsub hx hb d_Reckoner_exclude_108 ?_
    obtain ⟨M4, eM4, h⟩ := st_ob h
    refine p_Num_5 eM4 hx hb hts hown hK hP hD hwf hS hj1 (hts _ u_382) d_Reckoner_exclude_109 (fun H locs hP hD hwf hS => ?_)
    have hkp := kp_L eM4 hkp
    refine lv_iconst (v := 1) hx hb d_Reckoner_exclude_112 (by decide) ?_
    exact me_retz (me_kp M0) h (by decide) hx hb hr hlocks hwf hkp hP hK hD hS d_Reckoner_exclude_113
  have b_62 : ∀ (M : me_M) (s0 : Int64) (s1 : Int64) (s2 : Nat) (H : Heap) (locs : List Loc) (ls : Array Slot), f_Reckoner_exclude_b62 j1 x2 M s0 s1 s2 = (some (MZ, RZ)) → (s2 < N 11) → me_wf N M → me_kp M0 M → va_P D classes (me_W ad ca M) H → va_D A (me_W ad ca M) → va_S A s.heap H locs → lv_has ls 4 [(1, .ref (ad 11 j1)), (2, .long x2)] → W p l e rm_Reckoner_exclude s m [.ref (ad 8 j0), .ref (ad 11 j1), .long x2].toArray below meth c H locs 0 0 (MQ below (q_Reckoner_exclude D ad ca N M0 MZ RZ A) [.ref (ad 8 j0), .ref (ad 11 j1), .long x2].toArray s rm_Reckoner_exclude.cells rm_Reckoner_exclude.slots A) (F0 m 62 ls [.long s0, .long s1, .ref (ad 11 s2)]) := by
    intro M s0 s1 s2 H locs ls h hs2 hwf hkp hP hD hS hl
    unfold f_Reckoner_exclude_b62 at h
    have hkb := hkp
    refine lv_lsub hx hb d_Reckoner_exclude_62 ?_
    obtain ⟨M5, eM5, h⟩ := st_ob h
    refine p_Num_3 eM5 hx hb hts hown hK hP hD hwf hS hs2 (hts _ u_377) d_Reckoner_exclude_63 (fun H locs hP hD hwf hS => ?_)
    have hkp := kp_L eM5 hkp
    refine lv_aload_n hx hb d_Reckoner_exclude_66 rfl (lv_at hl 0 rfl) ?_
    refine lv_dup hx hb d_Reckoner_exclude_67 rfl ?_
    refine g_Num_4 hx hb hts hown hK hP hwf hj1 (hts _ u_380) d_Reckoner_exclude_68 ?_
    refine lv_aload_n hx hb d_Reckoner_exclude_71 rfl (lv_at hl 0 rfl) ?_
    refine g_Num_4 hx hb hts hown hK hP hwf hj1 (hts _ u_380) d_Reckoner_exclude_72 ?_
    refine lv_lload_n hx hb d_Reckoner_exclude_75 rfl (lv_at hl 1 rfl) ?_
    refine W.lcmp hx hb d_Reckoner_exclude_76 ?_
    refine lv_if_ne (tgt := 84) hx hb d_Reckoner_exclude_77 (by decide) (fun c6 => ?_) (fun c6 => ?_)
    · have h := if_f (fun z => c6 ((lg_cmp_eq _ _).mpr z)) h
      refine lv_lconst (v := 0) hx hb d_Reckoner_exclude_84 (by decide) ?_
      exact b_85 M5 (0 : Int64) (mL M5 11 j1 4) j1 _ _ _ h hj1 hwf hkp hP hD hS (lv_sub hl [0, 1] rfl)
    have h := if_t ((lg_cmp_eq _ _).mp c6) h
    refine lv_lconst (v := 1) hx hb d_Reckoner_exclude_80 (by decide) ?_
    refine lv_goto (tgt := 85) hx hb d_Reckoner_exclude_81 (by decide) ?_
    exact b_85 M5 (1 : Int64) (mL M5 11 j1 4) j1 _ _ _ h hj1 hwf hkp hP hD hS (lv_sub hl [0, 1] rfl)
  have b_39 : ∀ (M : me_M) (s0 : Int64) (s1 : Int64) (s2 : Nat) (H : Heap) (locs : List Loc) (ls : Array Slot), f_Reckoner_exclude_b39 j1 x2 M s0 s1 s2 = (some (MZ, RZ)) → (s2 < N 11) → me_wf N M → me_kp M0 M → va_P D classes (me_W ad ca M) H → va_D A (me_W ad ca M) → va_S A s.heap H locs → lv_has ls 4 [(1, .ref (ad 11 j1)), (2, .long x2)] → W p l e rm_Reckoner_exclude s m [.ref (ad 8 j0), .ref (ad 11 j1), .long x2].toArray below meth c H locs 0 0 (MQ below (q_Reckoner_exclude D ad ca N M0 MZ RZ A) [.ref (ad 8 j0), .ref (ad 11 j1), .long x2].toArray s rm_Reckoner_exclude.cells rm_Reckoner_exclude.slots A) (F0 m 39 ls [.long s0, .long s1, .ref (ad 11 s2)]) := by
    intro M s0 s1 s2 H locs ls h hs2 hwf hkp hP hD hS hl
    unfold f_Reckoner_exclude_b39 at h
    have hkb := hkp
    refine lv_ladd hx hb d_Reckoner_exclude_39 ?_
    obtain ⟨M7, eM7, h⟩ := st_ob h
    refine p_Num_2 eM7 hx hb hts hown hK hP hD hwf hS hs2 (hts _ u_374) d_Reckoner_exclude_40 (fun H locs hP hD hwf hS => ?_)
    have hkp := kp_L eM7 hkp
    refine lv_aload_n hx hb d_Reckoner_exclude_43 rfl (lv_at hl 0 rfl) ?_
    refine lv_dup hx hb d_Reckoner_exclude_44 rfl ?_
    refine g_Num_3 hx hb hts hown hK hP hwf hj1 (hts _ u_377) d_Reckoner_exclude_45 ?_
    refine lv_aload_n hx hb d_Reckoner_exclude_48 rfl (lv_at hl 0 rfl) ?_
    refine g_Num_3 hx hb hts hown hK hP hwf hj1 (hts _ u_377) d_Reckoner_exclude_49 ?_
    refine lv_lload_n hx hb d_Reckoner_exclude_52 rfl (lv_at hl 1 rfl) ?_
    refine W.lcmp hx hb d_Reckoner_exclude_53 ?_
    refine lv_if_ne (tgt := 61) hx hb d_Reckoner_exclude_54 (by decide) (fun c8 => ?_) (fun c8 => ?_)
    · have h := if_f (fun z => c8 ((lg_cmp_eq _ _).mpr z)) h
      refine lv_lconst (v := 0) hx hb d_Reckoner_exclude_61 (by decide) ?_
      exact b_62 M7 (0 : Int64) (mL M7 11 j1 3) j1 _ _ _ h hj1 hwf hkp hP hD hS (lv_sub hl [0, 1] rfl)
    have h := if_t ((lg_cmp_eq _ _).mp c8) h
    refine lv_lconst (v := 1) hx hb d_Reckoner_exclude_57 (by decide) ?_
    refine lv_goto (tgt := 62) hx hb d_Reckoner_exclude_58 (by decide) ?_
    exact b_62 M7 (1 : Int64) (mL M7 11 j1 3) j1 _ _ _ h hj1 hwf hkp hP hD hS (lv_sub hl [0, 1] rfl)
  have b_20 : ∀ (M : me_M) (H : Heap) (locs : List Loc) (ls : Array Slot), f_Reckoner_exclude_b20 j1 x2 M = (some (MZ, RZ)) → me_wf N M → me_kp M0 M → va_P D classes (me_W ad ca M) H → va_D A (me_W ad ca M) → va_S A s.heap H locs → lv_has ls 4 [(1, .ref (ad 11 j1)), (2, .long x2)] → W p l e rm_Reckoner_exclude s m [.ref (ad 8 j0), .ref (ad 11 j1), .long x2].toArray below meth c H locs 0 0 (MQ below (q_Reckoner_exclude D ad ca N M0 MZ RZ A) [.ref (ad 8 j0), .ref (ad 11 j1), .long x2].toArray s rm_Reckoner_exclude.cells rm_Reckoner_exclude.slots A) (F0 m 20 ls []) := by
    intro M H locs ls h hwf hkp hP hD hS hl
    unfold f_Reckoner_exclude_b20 at h
    have hkb := hkp
    refine lv_aload_n hx hb d_Reckoner_exclude_20 rfl (lv_at hl 0 rfl) ?_
    refine lv_dup hx hb d_Reckoner_exclude_21 rfl ?_
    refine g_Num_2 hx hb hts hown hK hP hwf hj1 (hts _ u_374) d_Reckoner_exclude_22 ?_
    refine lv_aload_n hx hb d_Reckoner_exclude_25 rfl (lv_at hl 0 rfl) ?_
    refine g_Num_2 hx hb hts hown hK hP hwf hj1 (hts _ u_374) d_Reckoner_exclude_26 ?_
    refine lv_lload_n hx hb d_Reckoner_exclude_29 rfl (lv_at hl 1 rfl) ?_
    refine W.lcmp hx hb d_Reckoner_exclude_30 ?_
    refine lv_if_ne (tgt := 38) hx hb d_Reckoner_exclude_31 (by decide) (fun c9 => ?_) (fun c9 => ?_)
    · have h := if_f (fun z => c9 ((lg_cmp_eq _ _).mpr z)) h
      refine lv_lconst (v := 0) hx hb d_Reckoner_exclude_38 (by decide) ?_
      exact b_39 M (0 : Int64) (mL M 11 j1 2) j1 _ _ _ h hj1 hwf hkp hP hD hS (lv_sub hl [0, 1] rfl)
    have h := if_t ((lg_cmp_eq _ _).mp c9) h
    refine lv_lconst (v := 1) hx hb d_Reckoner_exclude_34 (by decide) ?_
    refine lv_goto (tgt := 39) hx hb d_Reckoner_exclude_35 (by decide) ?_
    exact b_39 M (1 : Int64) (mL M 11 j1 2) j1 _ _ _ h hj1 hwf hkp hP hD hS (lv_sub hl [0, 1] rfl)
  refine lv_aload_n hx hb d_Reckoner_exclude_0 rfl (lv_at hl 1 rfl) ?_
  refine g_Num_1 hx hb hts hown hK hP hwf hj1 (hts _ u_372) d_Reckoner_exclude_1 ?_
  refine lv_lconst (v := 0) hx hb d_Reckoner_exclude_4 (by decide) ?_
  refine W.lcmp hx hb d_Reckoner_exclude_5 ?_
  refine lv_if_ne (tgt := 20) hx hb d_Reckoner_exclude_6 (by decide) (fun c10 => ?_) (fun c10 => ?_)
  · have h := if_f (fun z => c10 ((lg_cmp_eq _ _).mpr z)) h
    exact b_20 M0 _ _ _ h hwf hkp hP hD hS (lv_sub hl [1, 2] rfl)
  have h := if_t ((lg_cmp_eq _ _).mp c10) h
  refine lv_aload_n hx hb d_Reckoner_exclude_9 rfl (lv_at hl 1 rfl) ?_
  refine g_Num_0 hx hb hts hown hK hP hwf hj1 (hts _ u_368) d_Reckoner_exclude_10 ?_
  refine lv_lload_n hx hb d_Reckoner_exclude_13 rfl (lv_at hl 2 rfl) ?_
  refine W.lcmp hx hb d_Reckoner_exclude_14 ?_
  refine lv_if_ne (tgt := 20) hx hb d_Reckoner_exclude_15 (by decide) (fun c11 => ?_) (fun c11 => ?_)
  · have h := if_f (fun z => c11 ((lg_cmp_eq _ _).mpr z)) h
    exact b_20 M0 _ _ _ h hwf hkp hP hD hS (lv_sub hl [1, 2] rfl)
  have h := if_t ((lg_cmp_eq _ _).mp c11) h
  refine lv_iconst (v := 0) hx hb d_Reckoner_exclude_18 (by decide) ?_
  exact me_retz (me_kp M0) h (by decide) hx hb hr hlocks hwf hkp hP hK hD hS d_Reckoner_exclude_19
theorem d_Reckoner_notSame_32 : decode prog_9_method_22_code 32 = .ok (.iload_n 3, 1) := by decide +kernel
theorem d_Reckoner_notSame_33 : decode prog_9_method_22_code 33 = .ok (.ifCond .eq 13, 3) := by decide +kernel
theorem d_Reckoner_notSame_46 : decode prog_9_method_22_code 46 = .ok (.iconst 1, 1) := by decide +kernel
theorem d_Reckoner_notSame_47 : decode prog_9_method_22_code 47 = .ok (.goto 4, 3) := by decide +kernel
theorem d_Reckoner_notSame_51 : decode prog_9_method_22_code 51 = .ok (.ireturn, 1) := by decide +kernel
theorem d_Reckoner_notSame_36 : decode prog_9_method_22_code 36 = .ok (.aload_n 0, 1) := by decide +kernel
theorem d_Reckoner_notSame_37 : decode prog_9_method_22_code 37 = .ok (.aload_n 2, 1) := by decide +kernel
theorem d_Reckoner_notSame_38 : decode prog_9_method_22_code 38 = .ok (.lload 4, 2) := by decide +kernel
theorem d_Reckoner_notSame_40 : decode prog_9_method_22_code 40 = .ok (.invokevirtual 192, 3) := by decide +kernel
theorem u_1306 : Cond.methodLink "FilterGuard$Reckoner" 192 ⟨"FilterGuard$Reckoner", "exclude", "(LFilterGuard$Num;J)Z"⟩ ∈ fg_g := fg_in (List.mem_of_getElem? (i := 1306) (by decide +kernel)) rfl
theorem u_1309 : Cond.code ⟨"FilterGuard$Reckoner", "exclude", "(LFilterGuard$Num;J)Z"⟩ prog_9_method_23_code 4 (some .boolean) ∈ fg_g := fg_in (List.mem_of_getElem? (i := 1309) (by decide +kernel)) rfl
theorem u_1308 : Cond.instanceMethod ⟨"FilterGuard$Reckoner", "exclude", "(LFilterGuard$Num;J)Z"⟩ ∈ fg_g := fg_in (List.mem_of_getElem? (i := 1308) (by decide +kernel)) rfl
theorem u_36 : Cond.selects "FilterGuard$Reckoner" ⟨"FilterGuard$Reckoner", "exclude", "(LFilterGuard$Num;J)Z"⟩ ⟨"FilterGuard$Reckoner", "exclude", "(LFilterGuard$Num;J)Z"⟩ ∈ fg_g := fg_in (List.mem_of_getElem? (i := 36) (by decide +kernel)) rfl
theorem d_Reckoner_notSame_43 : decode prog_9_method_22_code 43 = .ok (.ifCond .eq 7, 3) := by decide +kernel
theorem d_Reckoner_notSame_50 : decode prog_9_method_22_code 50 = .ok (.iconst 0, 1) := by decide +kernel
theorem d_Reckoner_notSame_0 : decode prog_9_method_22_code 0 = .ok (.aload_n 1, 1) := by decide +kernel
theorem d_Reckoner_notSame_1 : decode prog_9_method_22_code 1 = .ok (.invokevirtual 45, 3) := by decide +kernel
theorem d_Reckoner_notSame_4 : decode prog_9_method_22_code 4 = .ok (.istore_n 3, 1) := by decide +kernel
theorem d_Reckoner_notSame_5 : decode prog_9_method_22_code 5 = .ok (.aload_n 1, 1) := by decide +kernel
theorem d_Reckoner_notSame_6 : decode prog_9_method_22_code 6 = .ok (.getfield 49, 3) := by decide +kernel
theorem d_Reckoner_notSame_9 : decode prog_9_method_22_code 9 = .ok (.lstore 4, 2) := by decide +kernel
theorem d_Reckoner_notSame_11 : decode prog_9_method_22_code 11 = .ok (.aload_n 2, 1) := by decide +kernel
theorem d_Reckoner_notSame_12 : decode prog_9_method_22_code 12 = .ok (.invokevirtual 45, 3) := by decide +kernel
theorem d_Reckoner_notSame_15 : decode prog_9_method_22_code 15 = .ok (.ifCond .eq 17, 3) := by decide +kernel
theorem d_Reckoner_notSame_18 : decode prog_9_method_22_code 18 = .ok (.aload_n 0, 1) := by decide +kernel
theorem d_Reckoner_notSame_19 : decode prog_9_method_22_code 19 = .ok (.aload_n 1, 1) := by decide +kernel
theorem d_Reckoner_notSame_20 : decode prog_9_method_22_code 20 = .ok (.aload_n 2, 1) := by decide +kernel
theorem d_Reckoner_notSame_21 : decode prog_9_method_22_code 21 = .ok (.getfield 49, 3) := by decide +kernel
theorem d_Reckoner_notSame_24 : decode prog_9_method_22_code 24 = .ok (.invokevirtual 192, 3) := by decide +kernel
theorem d_Reckoner_notSame_27 : decode prog_9_method_22_code 27 = .ok (.ifCond .ne 5, 3) := by decide +kernel
theorem d_Reckoner_notSame_30 : decode prog_9_method_22_code 30 = .ok (.iconst 0, 1) := by decide +kernel
theorem d_Reckoner_notSame_31 : decode prog_9_method_22_code 31 = .ok (.ireturn, 1) := by decide +kernel
abbrev y_Reckoner_notSame : MethodName := ⟨"FilterGuard$Reckoner", "notSame", "(LFilterGuard$Num;LFilterGuard$Num;)Z"⟩
def rm_Reckoner_notSame : Room := { frames := 2, cells := 0, slots := 0, locals := 43 }
abbrev q_Reckoner_notSame (D : va_G) (ad : Nat → Nat → Nat) (ca : Nat → ClassId) (N : Nat → Nat) (M0 MZ : me_M) (RZ : Int32) (A : Nat → Prop) : Array Value → Jvm.State → Outcome → Jvm.State → Prop := va_Qi (fun r (_ : Unit) => r = RZ ∧ me_wf N MZ ∧ me_kp M0 MZ ∧ (RZ = 1 ∨ RZ = 0)) (fg_B D A (fun _ => me_W ad ca MZ) (fun _ => [])) A
set_option maxHeartbeats 4000000 in
set_option maxRecDepth 100000 in
theorem c_Reckoner_notSame (l : Launch) (D : va_G) (ad : Nat → Nat → Nat) (ca : Nat → ClassId) (N : Nat → Nat) (M0 MZ : me_M) (RZ : Int32) (j0 : Nat) (j1 : Nat) (j2 : Nat) (h : f_Reckoner_notSame M0 j0 j1 j2 = (some (MZ, RZ))) (hwf : me_wf N M0) (hj0 : j0 < N 8) (hj1 : j1 < N 11) (hj2 : j2 < N 11) (sz : Nat) : Met l y_Reckoner_notSame (fg_w y_Reckoner_notSame prog_9_method_22_code 6 (some .boolean)) rm_Reckoner_notSame (va_Pc [.ref (ad 8 j0), .ref (ad 11 j1), .ref (ad 11 j2)] (fz_P D (me_T ca) (me_W ad ca M0) sz)) (q_Reckoner_notSame D ad ca N M0 MZ RZ (va_A (me_W ad ca M0) sz)) rm_Reckoner_notSame.cells rm_Reckoner_notSame.slots (va_A (me_W ad ca M0) sz) := by
  refine fz_enter (fun A => q_Reckoner_notSame D ad ca N M0 MZ RZ A) (by decide +kernel) (Nat.le_of_ble_eq_true rfl) ?_
  intro p e s m below meth c ls A hx hb hml hown hts hr hlocks hin hP hK hD hS hA hX hl hz
  have hl : lv_has ls 6 [(0, .ref (ad 8 j0)), (1, .ref (ad 11 j1)), (2, .ref (ad 11 j2))] := hl
  unfold f_Reckoner_notSame at h
  have hkp : me_kp M0 M0 := me_kp.rf
  have hkb := hkp
  have b_32 : ∀ (M : me_M) (y3 : Int32) (y4 : Int64) (H : Heap) (locs : List Loc) (ls : Array Slot), f_Reckoner_notSame_b32 j0 j2 M y3 y4 = (some (MZ, RZ)) → (y3 = 1 ∨ y3 = 0) → me_wf N M → me_kp M0 M → va_P D classes (me_W ad ca M) H → va_D A (me_W ad ca M) → va_S A s.heap H locs → lv_has ls 6 [(0, .ref (ad 8 j0)), (2, .ref (ad 11 j2)), (3, .int y3), (4, .long y4)] → W p l e rm_Reckoner_notSame s m [.ref (ad 8 j0), .ref (ad 11 j1), .ref (ad 11 j2)].toArray below meth c H locs 0 0 (MQ below (q_Reckoner_notSame D ad ca N M0 MZ RZ A) [.ref (ad 8 j0), .ref (ad 11 j1), .ref (ad 11 j2)].toArray s rm_Reckoner_notSame.cells rm_Reckoner_notSame.slots A) (F0 m 32 ls []) := by
    intro M y3 y4 H locs ls h zy3 hwf hkp hP hD hS hl
    unfold f_Reckoner_notSame_b32 at h
    have hkb := hkp
    refine lv_iload_n hx hb d_Reckoner_notSame_32 rfl (lv_at hl 2 rfl) ?_
    refine lv_if_eq (tgt := 46) hx hb d_Reckoner_notSame_33 (by decide) (fun c1 => ?_) (fun c1 => ?_)
    · have h := if_t c1 h
      refine lv_iconst (v := 1) hx hb d_Reckoner_notSame_46 (by decide) ?_
      refine lv_goto (tgt := 51) hx hb d_Reckoner_notSame_47 (by decide) ?_
      exact me_retz (me_kp M0) h (by decide) hx hb hr hlocks hwf hkp hP hK hD hS d_Reckoner_notSame_51
    have h := if_f c1 h
    refine lv_aload_n hx hb d_Reckoner_notSame_36 rfl (lv_at hl 0 rfl) ?_
    refine lv_aload_n hx hb d_Reckoner_notSame_37 rfl (lv_at hl 1 rfl) ?_
    refine lv_lload hx hb d_Reckoner_notSame_38 (lv_at hl 3 rfl) ?_
    obtain ⟨M2, r3, eM2, h⟩ := b2_ob h
    refine me_theni0 (M1 := M2) (me_runV (C := "FilterGuard$Reckoner") (As := [.ref (ad 11 j2), .long y4]) (rest := []) ⟨hx, hb, hml, hown, hts⟩ (c_Reckoner_exclude l D ad ca N M M2 r3 j0 j2 y4 eM2 hwf hj0 hj2 _) rfl (by show fg_nm y_Reckoner_exclude 2; decide +kernel) u_1306 u_1308 u_36 u_186 u_1309 ⟨Nat.le_of_ble_eq_true rfl, Nat.le_of_ble_eq_true rfl⟩ hX hz hK hP hD hwf hS hA hj0 (by decide) rfl rfl rfl hl.1 (Nat.le_of_ble_eq_true rfl) d_Reckoner_notSame_40 ⟨Nat.le_of_ble_eq_true rfl, Nat.le_of_ble_eq_true rfl⟩) hP hD hK hS hA rfl rfl (fun H locs hw hP hD hS => ?_)
    obtain ⟨hwf, hk9, zr3⟩ := hw
    have hkp := hkp.tr hk9
    refine lv_if_eq (tgt := 50) hx hb d_Reckoner_notSame_43 (by decide) (fun c4 => ?_) (fun c4 => ?_)
    · have h := if_t c4 h
      refine lv_iconst (v := 0) hx hb d_Reckoner_notSame_50 (by decide) ?_
      exact me_retz (me_kp M0) h (by decide) hx hb hr hlocks hwf hkp hP hK hD hS d_Reckoner_notSame_51
    have h := if_f c4 h
    refine lv_iconst (v := 1) hx hb d_Reckoner_notSame_46 (by decide) ?_
    refine lv_goto (tgt := 51) hx hb d_Reckoner_notSame_47 (by decide) ?_
    exact me_retz (me_kp M0) h (by decide) hx hb hr hlocks hwf hkp hP hK hD hS d_Reckoner_notSame_51
  refine lv_aload_n hx hb d_Reckoner_notSame_0 rfl (lv_at hl 1 rfl) ?_
  obtain ⟨M5, r6, eM5, h⟩ := b2_ob h
  refine me_theni0 (M1 := M5) (me_runV (C := "FilterGuard$Num") (As := []) (rest := []) ⟨hx, hb, hml, hown, hts⟩ (c_Num_isExact0 l D ad ca N M0 M5 r6 j1 eM5 hwf hj1 _) rfl (by show fg_nm y_Num_isExact0 0; decide +kernel) u_1157 u_1158 u_1159 u_187 u_1160 ⟨Nat.le_of_ble_eq_true rfl, Nat.le_of_ble_eq_true rfl⟩ hX hz hK hP hD hwf hS hA hj1 (by decide) rfl rfl rfl hl.1 (Nat.le_of_ble_eq_true rfl) d_Reckoner_notSame_1 ⟨Nat.le_of_ble_eq_true rfl, Nat.le_of_ble_eq_true rfl⟩) hP hD hK hS hA rfl rfl (fun H locs hw hP hD hS => ?_)
  obtain ⟨hwf, hk9, zr6⟩ := hw
  have hkp := hkp.tr hk9
  refine lv_istore_n (lv' := [(3, .int r6), (0, .ref (ad 8 j0)), (1, .ref (ad 11 j1)), (2, .ref (ad 11 j2))]) hx hb d_Reckoner_notSame_4 rfl hl (by decide) rfl (fun ls hl => ?_)
  refine lv_aload_n hx hb d_Reckoner_notSame_5 rfl (lv_at hl 2 rfl) ?_
  refine g_Num_0 hx hb hts hown hK hP hwf hj1 (hts _ u_368) d_Reckoner_notSame_6 ?_
  obtain ⟨v7, ev7, h⟩ := st_ob h
  refine fg_topl (y := v7) ev7.symm ?_
  refine lv_lstore (lv' := [(4, .long v7), (3, .int r6), (0, .ref (ad 8 j0)), (1, .ref (ad 11 j1)), (2, .ref (ad 11 j2))]) hx hb d_Reckoner_notSame_9 hl (by decide) rfl (fun ls hl => ?_)
  refine lv_aload_n hx hb d_Reckoner_notSame_11 rfl (lv_at hl 4 rfl) ?_
  obtain ⟨M8, r9, eM8, h⟩ := b2_ob h
  refine me_theni0 (M1 := M8) (me_runV (C := "FilterGuard$Num") (As := []) (rest := []) ⟨hx, hb, hml, hown, hts⟩ (c_Num_isExact0 l D ad ca N M5 M8 r9 j2 eM8 hwf hj2 _) rfl (by show fg_nm y_Num_isExact0 0; decide +kernel) u_1157 u_1158 u_1159 u_187 u_1160 ⟨Nat.le_of_ble_eq_true rfl, Nat.le_of_ble_eq_true rfl⟩ hX hz hK hP hD hwf hS hA hj2 (by decide) rfl rfl rfl hl.1 (Nat.le_of_ble_eq_true rfl) d_Reckoner_notSame_12 ⟨Nat.le_of_ble_eq_true rfl, Nat.le_of_ble_eq_true rfl⟩) hP hD hK hS hA rfl rfl (fun H locs hw hP hD hS => ?_)
  obtain ⟨hwf, hk9, zr9⟩ := hw
  have hkp := hkp.tr hk9
  refine lv_if_eq (tgt := 32) hx hb d_Reckoner_notSame_15 (by decide) (fun c10 => ?_) (fun c10 => ?_)
  · have h := if_t c10 h
    exact b_32 M8 r6 v7 _ _ _ h zr6 hwf hkp hP hD hS (lv_sub hl [2, 4, 1, 0] rfl)
  have h := if_f c10 h
  refine lv_aload_n hx hb d_Reckoner_notSame_18 rfl (lv_at hl 2 rfl) ?_
  refine lv_aload_n hx hb d_Reckoner_notSame_19 rfl (lv_at hl 3 rfl) ?_
  refine lv_aload_n hx hb d_Reckoner_notSame_20 rfl (lv_at hl 4 rfl) ?_
  refine g_Num_0 hx hb hts hown hK hP hwf hj2 (hts _ u_368) d_Reckoner_notSame_21 ?_
  obtain ⟨M11, r12, eM11, h⟩ := b2_ob h
  refine me_theni0 (M1 := M11) (me_runV (C := "FilterGuard$Reckoner") (As := [.ref (ad 11 j1), .long (mL M8 11 j2 0)]) (rest := []) ⟨hx, hb, hml, hown, hts⟩ (c_Reckoner_exclude l D ad ca N M8 M11 r12 j0 j1 (mL M8 11 j2 0) eM11 hwf hj0 hj1 _) rfl (by show fg_nm y_Reckoner_exclude 2; decide +kernel) u_1306 u_1308 u_36 u_186 u_1309 ⟨Nat.le_of_ble_eq_true rfl, Nat.le_of_ble_eq_true rfl⟩ hX hz hK hP hD hwf hS hA hj0 (by decide) rfl rfl rfl hl.1 (Nat.le_of_ble_eq_true rfl) d_Reckoner_notSame_24 ⟨Nat.le_of_ble_eq_true rfl, Nat.le_of_ble_eq_true rfl⟩) hP hD hK hS hA rfl rfl (fun H locs hw hP hD hS => ?_)
  obtain ⟨hwf, hk9, zr12⟩ := hw
  have hkp := hkp.tr hk9
  refine lv_if_ne (tgt := 32) hx hb d_Reckoner_notSame_27 (by decide) (fun c13 => ?_) (fun c13 => ?_)
  · have h := if_f c13 h
    exact b_32 M11 r6 v7 _ _ _ h zr6 hwf hkp hP hD hS (lv_sub hl [2, 4, 1, 0] rfl)
  have h := if_t c13 h
  refine lv_iconst (v := 0) hx hb d_Reckoner_notSame_30 (by decide) ?_
  exact me_retz (me_kp M0) h (by decide) hx hb hr hlocks hwf hkp hP hK hD hS d_Reckoner_notSame_31
theorem d_Reckoner_greater_0 : decode prog_9_method_19_code 0 = .ok (.aload_n 2, 1) := by decide +kernel
theorem d_Reckoner_greater_1 : decode prog_9_method_19_code 1 = .ok (.getfield 128, 3) := by decide +kernel
theorem d_Reckoner_greater_4 : decode prog_9_method_19_code 4 = .ok (.ldc2_w 182, 3) := by decide +kernel
theorem u_1314 : Cond.constantLong "FilterGuard$Reckoner" 182 9223372036854775807 ∈ fg_g := fg_in (List.mem_of_getElem? (i := 1314) (by decide +kernel)) rfl
theorem d_Reckoner_greater_7 : decode prog_9_method_19_code 7 = .ok (.lcmp, 1) := by decide +kernel
theorem d_Reckoner_greater_8 : decode prog_9_method_19_code 8 = .ok (.ifCond .eq 14, 3) := by decide +kernel
theorem d_Reckoner_greater_22 : decode prog_9_method_19_code 22 = .ok (.iconst 0, 1) := by decide +kernel
theorem d_Reckoner_greater_23 : decode prog_9_method_19_code 23 = .ok (.ireturn, 1) := by decide +kernel
theorem d_Reckoner_greater_11 : decode prog_9_method_19_code 11 = .ok (.aload_n 1, 1) := by decide +kernel
theorem d_Reckoner_greater_12 : decode prog_9_method_19_code 12 = .ok (.getfield 131, 3) := by decide +kernel
theorem d_Reckoner_greater_15 : decode prog_9_method_19_code 15 = .ok (.ldc2_w 30, 3) := by decide +kernel
theorem d_Reckoner_greater_18 : decode prog_9_method_19_code 18 = .ok (.lcmp, 1) := by decide +kernel
theorem d_Reckoner_greater_19 : decode prog_9_method_19_code 19 = .ok (.ifCond .ne 5, 3) := by decide +kernel
theorem d_Reckoner_greater_24 : decode prog_9_method_19_code 24 = .ok (.aload_n 1, 1) := by decide +kernel
theorem d_Reckoner_greater_25 : decode prog_9_method_19_code 25 = .ok (.aload_n 1, 1) := by decide +kernel
theorem d_Reckoner_greater_26 : decode prog_9_method_19_code 26 = .ok (.getfield 128, 3) := by decide +kernel
theorem d_Reckoner_greater_29 : decode prog_9_method_19_code 29 = .ok (.aload_n 2, 1) := by decide +kernel
theorem d_Reckoner_greater_30 : decode prog_9_method_19_code 30 = .ok (.getfield 128, 3) := by decide +kernel
theorem d_Reckoner_greater_33 : decode prog_9_method_19_code 33 = .ok (.lconst 1, 1) := by decide +kernel
theorem d_Reckoner_greater_34 : decode prog_9_method_19_code 34 = .ok (.ladd, 1) := by decide +kernel
theorem d_Reckoner_greater_35 : decode prog_9_method_19_code 35 = .ok (.invokestatic 184, 3) := by decide +kernel
theorem d_Reckoner_greater_38 : decode prog_9_method_19_code 38 = .ok (.putfield 128, 3) := by decide +kernel
theorem d_Reckoner_greater_41 : decode prog_9_method_19_code 41 = .ok (.aload_n 2, 1) := by decide +kernel
theorem d_Reckoner_greater_42 : decode prog_9_method_19_code 42 = .ok (.aload_n 2, 1) := by decide +kernel
theorem d_Reckoner_greater_43 : decode prog_9_method_19_code 43 = .ok (.getfield 131, 3) := by decide +kernel
theorem d_Reckoner_greater_46 : decode prog_9_method_19_code 46 = .ok (.aload_n 1, 1) := by decide +kernel
theorem d_Reckoner_greater_47 : decode prog_9_method_19_code 47 = .ok (.getfield 131, 3) := by decide +kernel
theorem d_Reckoner_greater_50 : decode prog_9_method_19_code 50 = .ok (.lconst 1, 1) := by decide +kernel
theorem d_Reckoner_greater_51 : decode prog_9_method_19_code 51 = .ok (.lsub, 1) := by decide +kernel
theorem d_Reckoner_greater_52 : decode prog_9_method_19_code 52 = .ok (.invokestatic 189, 3) := by decide +kernel
theorem d_Reckoner_greater_55 : decode prog_9_method_19_code 55 = .ok (.putfield 131, 3) := by decide +kernel
theorem d_Reckoner_greater_58 : decode prog_9_method_19_code 58 = .ok (.iconst 1, 1) := by decide +kernel
theorem d_Reckoner_greater_59 : decode prog_9_method_19_code 59 = .ok (.ireturn, 1) := by decide +kernel
abbrev y_Reckoner_greater : MethodName := ⟨"FilterGuard$Reckoner", "greater", "(LFilterGuard$Num;LFilterGuard$Num;)Z"⟩
def rm_Reckoner_greater : Room := { frames := 2, cells := 0, slots := 0, locals := 60 }
abbrev q_Reckoner_greater (D : va_G) (ad : Nat → Nat → Nat) (ca : Nat → ClassId) (N : Nat → Nat) (M0 MZ : me_M) (RZ : Int32) (A : Nat → Prop) : Array Value → Jvm.State → Outcome → Jvm.State → Prop := va_Qi (fun r (_ : Unit) => r = RZ ∧ me_wf N MZ ∧ me_kp M0 MZ ∧ (RZ = 1 ∨ RZ = 0)) (fg_B D A (fun _ => me_W ad ca MZ) (fun _ => [])) A
set_option maxHeartbeats 4000000 in
set_option maxRecDepth 100000 in
theorem c_Reckoner_greater (l : Launch) (D : va_G) (ad : Nat → Nat → Nat) (ca : Nat → ClassId) (N : Nat → Nat) (M0 MZ : me_M) (RZ : Int32) (j0 : Nat) (j1 : Nat) (j2 : Nat) (h : f_Reckoner_greater M0 j0 j1 j2 = (some (MZ, RZ))) (hwf : me_wf N M0) (hj0 : j0 < N 8) (hj1 : j1 < N 11) (hj2 : j2 < N 11) (sz : Nat) : Met l y_Reckoner_greater (fg_w y_Reckoner_greater prog_9_method_19_code 3 (some .boolean)) rm_Reckoner_greater (va_Pc [.ref (ad 8 j0), .ref (ad 11 j1), .ref (ad 11 j2)] (fz_P D (me_T ca) (me_W ad ca M0) sz)) (q_Reckoner_greater D ad ca N M0 MZ RZ (va_A (me_W ad ca M0) sz)) rm_Reckoner_greater.cells rm_Reckoner_greater.slots (va_A (me_W ad ca M0) sz) := by
  refine fz_enter (fun A => q_Reckoner_greater D ad ca N M0 MZ RZ A) (by decide +kernel) (Nat.le_of_ble_eq_true rfl) ?_
  intro p e s m below meth c ls A hx hb hml hown hts hr hlocks hin hP hK hD hS hA hX hl hz
  have hl : lv_has ls 3 [(0, .ref (ad 8 j0)), (1, .ref (ad 11 j1)), (2, .ref (ad 11 j2))] := hl
  unfold f_Reckoner_greater at h
  have hkp : me_kp M0 M0 := me_kp.rf
  have hkb := hkp
  refine lv_aload_n hx hb d_Reckoner_greater_0 rfl (lv_at hl 2 rfl) ?_
  refine g_Num_4 hx hb hts hown hK hP hwf hj2 (hts _ u_380) d_Reckoner_greater_1 ?_
  refine lv_ldc2 hx hb hown (hts _ u_1314) d_Reckoner_greater_4 ?_
  refine W.lcmp hx hb d_Reckoner_greater_7 ?_
  refine lv_if_eq (tgt := 22) hx hb d_Reckoner_greater_8 (by decide) (fun c1 => ?_) (fun c1 => ?_)
  · have h := if_t ((lg_cmp_eq _ _).mp c1) h
    refine lv_iconst (v := 0) hx hb d_Reckoner_greater_22 (by decide) ?_
    exact me_retz (me_kp M0) h (by decide) hx hb hr hlocks hwf hkp hP hK hD hS d_Reckoner_greater_23
  have h := if_f (fun z => c1 ((lg_cmp_eq _ _).mpr z)) h
  refine lv_aload_n hx hb d_Reckoner_greater_11 rfl (lv_at hl 1 rfl) ?_
  refine g_Num_5 hx hb hts hown hK hP hwf hj1 (hts _ u_382) d_Reckoner_greater_12 ?_
  refine lv_ldc2 hx hb hown (hts _ u_1184) d_Reckoner_greater_15 ?_
  refine W.lcmp hx hb d_Reckoner_greater_18 ?_
  refine lv_if_ne (tgt := 24) hx hb d_Reckoner_greater_19 (by decide) (fun c2 => ?_) (fun c2 => ?_)
  · have h := if_f (fun z => c2 ((lg_cmp_eq _ _).mpr z)) h
    refine lv_aload_n hx hb d_Reckoner_greater_24 rfl (lv_at hl 1 rfl) ?_
    refine lv_aload_n hx hb d_Reckoner_greater_25 rfl (lv_at hl 1 rfl) ?_
    refine g_Num_4 hx hb hts hown hK hP hwf hj1 (hts _ u_380) d_Reckoner_greater_26 ?_
    refine lv_aload_n hx hb d_Reckoner_greater_29 rfl (lv_at hl 2 rfl) ?_
    refine g_Num_4 hx hb hts hown hK hP hwf hj2 (hts _ u_380) d_Reckoner_greater_30 ?_
    refine lv_lconst (v := 1) hx hb d_Reckoner_greater_33 (by decide) ?_
    refine lv_ladd hx hb d_Reckoner_greater_34 ?_
    refine va_mmax_long hx hb (hml.trans hl.1.symm) hown (hts _ u_1287) (hts _ u_1228) (hts _ u_193) (hts _ u_1229) (Nat.le_of_ble_eq_true rfl) (Nat.le_of_ble_eq_true rfl) (Nat.le_of_ble_eq_true rfl) (Nat.le_of_ble_eq_true rfl) d_Reckoner_greater_35 ?_
    refine fg_topl (y := jlmax (mL M0 11 j1 4) ((mL M0 11 j2 4) + 1)) rfl ?_
    obtain ⟨M3, eM3, h⟩ := st_ob h
    refine p_Num_4 eM3 hx hb hts hown hK hP hD hwf hS hj1 (hts _ u_380) d_Reckoner_greater_38 (fun H locs hP hD hwf hS => ?_)
    have hkp := kp_L eM3 hkp
    refine lv_aload_n hx hb d_Reckoner_greater_41 rfl (lv_at hl 2 rfl) ?_
    refine lv_aload_n hx hb d_Reckoner_greater_42 rfl (lv_at hl 2 rfl) ?_
    refine g_Num_5 hx hb hts hown hK hP hwf hj2 (hts _ u_382) d_Reckoner_greater_43 ?_
    refine lv_aload_n hx hb d_Reckoner_greater_46 rfl (lv_at hl 1 rfl) ?_
    refine g_Num_5 hx hb hts hown hK hP hwf hj1 (hts _ u_382) d_Reckoner_greater_47 ?_
    refine lv_lconst (v := 1) hx hb d_Reckoner_greater_50 (by decide) ?_
    refine lv_lsub hx hb d_Reckoner_greater_51 ?_
    refine va_mmin_long hx hb (hml.trans hl.1.symm) hown (hts _ u_1288) (hts _ u_1231) (hts _ u_193) (hts _ u_1232) (Nat.le_of_ble_eq_true rfl) (Nat.le_of_ble_eq_true rfl) (Nat.le_of_ble_eq_true rfl) (Nat.le_of_ble_eq_true rfl) d_Reckoner_greater_52 ?_
    refine fg_topl (y := jlmin (mL M3 11 j2 5) ((mL M3 11 j1 5) - 1)) rfl ?_
    obtain ⟨M4, eM4, h⟩ := st_ob h
    refine p_Num_5 eM4 hx hb hts hown hK hP hD hwf hS hj2 (hts _ u_382) d_Reckoner_greater_55 (fun H locs hP hD hwf hS => ?_)
    have hkp := kp_L eM4 hkp
    refine lv_iconst (v := 1) hx hb d_Reckoner_greater_58 (by decide) ?_
    exact me_retz (me_kp M0) h (by decide) hx hb hr hlocks hwf hkp hP hK hD hS d_Reckoner_greater_59
  have h := if_t ((lg_cmp_eq _ _).mp c2) h
  refine lv_iconst (v := 0) hx hb d_Reckoner_greater_22 (by decide) ?_
  exact me_retz (me_kp M0) h (by decide) hx hb hr hlocks hwf hkp hP hK hD hS d_Reckoner_greater_23
