theorem d_Reckoner_narrow_70 : decode prog_9_method_6_code 70 = .ok (.invokevirtual 125, 3) := by decide +kernel
theorem d_Reckoner_narrow_73 : decode prog_9_method_6_code 73 = .ok (.aload_n 1, 1) := by decide +kernel
theorem d_Reckoner_narrow_74 : decode prog_9_method_6_code 74 = .ok (.aload_n 1, 1) := by decide +kernel
theorem d_Reckoner_narrow_75 : decode prog_9_method_6_code 75 = .ok (.getfield 49, 3) := by decide +kernel
theorem d_Reckoner_narrow_78 : decode prog_9_method_6_code 78 = .ok (.ldc2_w 113, 3) := by decide +kernel
theorem d_Reckoner_narrow_81 : decode prog_9_method_6_code 81 = .ok (.land, 1) := by decide +kernel
theorem d_Reckoner_narrow_82 : decode prog_9_method_6_code 82 = .ok (.aload_n 1, 1) := by decide +kernel
theorem d_Reckoner_narrow_83 : decode prog_9_method_6_code 83 = .ok (.getfield 87, 3) := by decide +kernel
theorem d_Reckoner_narrow_86 : decode prog_9_method_6_code 86 = .ok (.ldc2_w 113, 3) := by decide +kernel
theorem d_Reckoner_narrow_89 : decode prog_9_method_6_code 89 = .ok (.land, 1) := by decide +kernel
theorem d_Reckoner_narrow_90 : decode prog_9_method_6_code 90 = .ok (.invokevirtual 92, 3) := by decide +kernel
theorem d_Reckoner_narrow_93 : decode prog_9_method_6_code 93 = .ok (.aload_n 1, 1) := by decide +kernel
theorem d_Reckoner_narrow_94 : decode prog_9_method_6_code 94 = .ok (.lconst 0, 1) := by decide +kernel
theorem d_Reckoner_narrow_95 : decode prog_9_method_6_code 95 = .ok (.putfield 128, 3) := by decide +kernel
theorem d_Reckoner_narrow_98 : decode prog_9_method_6_code 98 = .ok (.aload_n 1, 1) := by decide +kernel
theorem d_Reckoner_narrow_99 : decode prog_9_method_6_code 99 = .ok (.ldc2_w 113, 3) := by decide +kernel
theorem d_Reckoner_narrow_102 : decode prog_9_method_6_code 102 = .ok (.putfield 131, 3) := by decide +kernel
theorem d_Reckoner_narrow_105 : decode prog_9_method_6_code 105 = .ok (.aload_n 1, 1) := by decide +kernel
theorem d_Reckoner_narrow_106 : decode prog_9_method_6_code 106 = .ok (.invokevirtual 119, 3) := by decide +kernel
theorem d_Reckoner_narrow_109 : decode prog_9_method_6_code 109 = .ok (.ifCond .ne 31, 3) := by decide +kernel
theorem d_Reckoner_narrow_140 : decode prog_9_method_6_code 140 = .ok (.return_, 1) := by decide +kernel
theorem d_Reckoner_narrow_112 : decode prog_9_method_6_code 112 = .ok (.aload_n 1, 1) := by decide +kernel
theorem d_Reckoner_narrow_113 : decode prog_9_method_6_code 113 = .ok (.lconst 0, 1) := by decide +kernel
theorem d_Reckoner_narrow_114 : decode prog_9_method_6_code 114 = .ok (.ldc2_w 113, 3) := by decide +kernel
theorem d_Reckoner_narrow_117 : decode prog_9_method_6_code 117 = .ok (.invokevirtual 92, 3) := by decide +kernel
theorem d_Reckoner_narrow_120 : decode prog_9_method_6_code 120 = .ok (.aload_n 1, 1) := by decide +kernel
theorem d_Reckoner_narrow_121 : decode prog_9_method_6_code 121 = .ok (.lconst 0, 1) := by decide +kernel
theorem d_Reckoner_narrow_122 : decode prog_9_method_6_code 122 = .ok (.ldc2_w 113, 3) := by decide +kernel
theorem d_Reckoner_narrow_125 : decode prog_9_method_6_code 125 = .ok (.invokevirtual 125, 3) := by decide +kernel
theorem d_Reckoner_narrow_128 : decode prog_9_method_6_code 128 = .ok (.aload_n 1, 1) := by decide +kernel
theorem d_Reckoner_narrow_129 : decode prog_9_method_6_code 129 = .ok (.lconst 0, 1) := by decide +kernel
theorem d_Reckoner_narrow_130 : decode prog_9_method_6_code 130 = .ok (.putfield 128, 3) := by decide +kernel
theorem d_Reckoner_narrow_133 : decode prog_9_method_6_code 133 = .ok (.aload_n 1, 1) := by decide +kernel
theorem d_Reckoner_narrow_134 : decode prog_9_method_6_code 134 = .ok (.ldc2_w 113, 3) := by decide +kernel
theorem d_Reckoner_narrow_137 : decode prog_9_method_6_code 137 = .ok (.putfield 131, 3) := by decide +kernel
theorem d_Reckoner_narrow_52 : decode prog_9_method_6_code 52 = .ok (.iload_n 2, 1) := by decide +kernel
theorem d_Reckoner_narrow_53 : decode prog_9_method_6_code 53 = .ok (.ifCond .eq 14, 3) := by decide +kernel
theorem d_Reckoner_narrow_67 : decode prog_9_method_6_code 67 = .ok (.ldc2_w 113, 3) := by decide +kernel
theorem d_Reckoner_narrow_56 : decode prog_9_method_6_code 56 = .ok (.aload_n 1, 1) := by decide +kernel
theorem d_Reckoner_narrow_57 : decode prog_9_method_6_code 57 = .ok (.getfield 122, 3) := by decide +kernel
theorem d_Reckoner_narrow_60 : decode prog_9_method_6_code 60 = .ok (.ldc2_w 113, 3) := by decide +kernel
theorem d_Reckoner_narrow_63 : decode prog_9_method_6_code 63 = .ok (.land, 1) := by decide +kernel
theorem d_Reckoner_narrow_64 : decode prog_9_method_6_code 64 = .ok (.goto 6, 3) := by decide +kernel
theorem d_Reckoner_narrow_34 : decode prog_9_method_6_code 34 = .ok (.istore_n 2, 1) := by decide +kernel
theorem d_Reckoner_narrow_35 : decode prog_9_method_6_code 35 = .ok (.aload_n 1, 1) := by decide +kernel
theorem d_Reckoner_narrow_36 : decode prog_9_method_6_code 36 = .ok (.iload_n 2, 1) := by decide +kernel
theorem d_Reckoner_narrow_37 : decode prog_9_method_6_code 37 = .ok (.ifCond .eq 14, 3) := by decide +kernel
theorem d_Reckoner_narrow_51 : decode prog_9_method_6_code 51 = .ok (.lconst 0, 1) := by decide +kernel
theorem d_Reckoner_narrow_40 : decode prog_9_method_6_code 40 = .ok (.aload_n 1, 1) := by decide +kernel
theorem d_Reckoner_narrow_41 : decode prog_9_method_6_code 41 = .ok (.getfield 96, 3) := by decide +kernel
theorem d_Reckoner_narrow_44 : decode prog_9_method_6_code 44 = .ok (.ldc2_w 113, 3) := by decide +kernel
theorem d_Reckoner_narrow_47 : decode prog_9_method_6_code 47 = .ok (.land, 1) := by decide +kernel
theorem d_Reckoner_narrow_48 : decode prog_9_method_6_code 48 = .ok (.goto 4, 3) := by decide +kernel
theorem d_Reckoner_narrow_0 : decode prog_9_method_6_code 0 = .ok (.aload_n 1, 1) := by decide +kernel
theorem d_Reckoner_narrow_1 : decode prog_9_method_6_code 1 = .ok (.ldc2_w 113, 3) := by decide +kernel
theorem d_Reckoner_narrow_4 : decode prog_9_method_6_code 4 = .ok (.invokevirtual 61, 3) := by decide +kernel
theorem d_Reckoner_narrow_7 : decode prog_9_method_6_code 7 = .ok (.ifCond .ne 4, 3) := by decide +kernel
theorem d_Reckoner_narrow_11 : decode prog_9_method_6_code 11 = .ok (.aload_n 1, 1) := by decide +kernel
theorem d_Reckoner_narrow_12 : decode prog_9_method_6_code 12 = .ok (.getfield 96, 3) := by decide +kernel
theorem d_Reckoner_narrow_15 : decode prog_9_method_6_code 15 = .ok (.bipush 32, 2) := by decide +kernel
theorem d_Reckoner_narrow_17 : decode prog_9_method_6_code 17 = .ok (.lushr, 1) := by decide +kernel
theorem d_Reckoner_narrow_18 : decode prog_9_method_6_code 18 = .ok (.aload_n 1, 1) := by decide +kernel
theorem d_Reckoner_narrow_19 : decode prog_9_method_6_code 19 = .ok (.getfield 122, 3) := by decide +kernel
theorem d_Reckoner_narrow_22 : decode prog_9_method_6_code 22 = .ok (.bipush 32, 2) := by decide +kernel
theorem d_Reckoner_narrow_24 : decode prog_9_method_6_code 24 = .ok (.lushr, 1) := by decide +kernel
theorem d_Reckoner_narrow_25 : decode prog_9_method_6_code 25 = .ok (.lcmp, 1) := by decide +kernel
theorem d_Reckoner_narrow_26 : decode prog_9_method_6_code 26 = .ok (.ifCond .ne 7, 3) := by decide +kernel
theorem d_Reckoner_narrow_33 : decode prog_9_method_6_code 33 = .ok (.iconst 0, 1) := by decide +kernel
theorem d_Reckoner_narrow_29 : decode prog_9_method_6_code 29 = .ok (.iconst 1, 1) := by decide +kernel
theorem d_Reckoner_narrow_30 : decode prog_9_method_6_code 30 = .ok (.goto 4, 3) := by decide +kernel
theorem d_Reckoner_narrow_10 : decode prog_9_method_6_code 10 = .ok (.return_, 1) := by decide +kernel
abbrev y_Reckoner_narrow : MethodName := ⟨"FilterGuard$Reckoner", "narrow", "(LFilterGuard$Num;)V"⟩
def rm_Reckoner_narrow : Room := { frames := 3, cells := 0, slots := 0, locals := 83 }
abbrev q_Reckoner_narrow (D : va_G) (ad : Nat → Nat → Nat) (ca : Nat → ClassId) (N : Nat → Nat) (M0 MZ : me_M) (A : Nat → Prop) : Array Value → Jvm.State → Outcome → Jvm.State → Prop := va_Qv (fun (_ : Unit) => me_wf N MZ ∧ me_kp M0 MZ) (fg_B D A (fun _ => me_W ad ca MZ) (fun _ => [])) A
set_option maxHeartbeats 4000000 in
set_option maxRecDepth 100000 in
theorem c_Reckoner_narrow (l : Launch) (D : va_G) (ad : Nat → Nat → Nat) (ca : Nat → ClassId) (N : Nat → Nat) (M0 MZ : me_M) (j0 : Nat) (j1 : Nat) (h : f_Reckoner_narrow M0 j0 j1 = (some MZ)) (hwf : me_wf N M0) (hj0 : j0 < N 8) (hj1 : j1 < N 11) (sz : Nat) : Met l y_Reckoner_narrow (fg_w y_Reckoner_narrow prog_9_method_6_code 3 none) rm_Reckoner_narrow (va_Pc [.ref (ad 8 j0), .ref (ad 11 j1)] (fz_P D (me_T ca) (me_W ad ca M0) sz)) (q_Reckoner_narrow D ad ca N M0 MZ (va_A (me_W ad ca M0) sz)) rm_Reckoner_narrow.cells rm_Reckoner_narrow.slots (va_A (me_W ad ca M0) sz) := by
  refine fz_enter (fun A => q_Reckoner_narrow D ad ca N M0 MZ A) (by decide +kernel) (Nat.le_of_ble_eq_true rfl) ?_
  intro p e s m below meth c ls A hx hb hml hown hts hr hlocks hin hP hK hD hS hA hX hl hz
  have hl : lv_has ls 3 [(0, .ref (ad 8 j0)), (1, .ref (ad 11 j1))] := hl
  unfold f_Reckoner_narrow at h
  have hkp : me_kp M0 M0 := me_kp.rf
  have hkb := hkp
  have b_70 : ∀ (M : me_M) (s0 : Int64) (s1 : Int64) (s2 : Nat) (H : Heap) (locs : List Loc) (ls : Array Slot), f_Reckoner_narrow_b70 j1 M s0 s1 s2 = (some MZ) → (s2 < N 11) → me_wf N M → me_kp M0 M → va_P D classes (me_W ad ca M) H → va_D A (me_W ad ca M) → va_S A s.heap H locs → lv_has ls 3 [(1, .ref (ad 11 j1))] → W p l e rm_Reckoner_narrow s m [.ref (ad 8 j0), .ref (ad 11 j1)].toArray below meth c H locs 0 0 (MQ below (q_Reckoner_narrow D ad ca N M0 MZ A) [.ref (ad 8 j0), .ref (ad 11 j1)].toArray s rm_Reckoner_narrow.cells rm_Reckoner_narrow.slots A) (F0 m 70 ls [.long s0, .long s1, .ref (ad 11 s2)]) := by
    intro M s0 s1 s2 H locs ls h hs2 hwf hkp hP hD hS hl
    unfold f_Reckoner_narrow_b70 at h
    have hkb := hkp
    obtain ⟨M1, eM1, h⟩ := bd_ob h
    refine me_thenv0 (M1 := M1) (me_runV (C := "FilterGuard$Num") (As := [.long s1, .long s0]) (rest := []) ⟨hx, hb, hml, hown, hts⟩ (c_Num_range l D ad ca N M M1 s2 s1 s0 eM1 hwf hs2 _) rfl (by show fg_nm y_Num_range 2; decide +kernel) u_1145 u_1146 u_1147 u_187 u_1148 ⟨Nat.le_of_ble_eq_true rfl, Nat.le_of_ble_eq_true rfl⟩ hX hz hK hP hD hwf hS hA hs2 (by decide) rfl rfl rfl hl.1 (Nat.le_of_ble_eq_true rfl) d_Reckoner_narrow_70 ⟨Nat.le_of_ble_eq_true rfl, Nat.le_of_ble_eq_true rfl⟩) hP hD hK hS hA rfl rfl (fun H locs hw hP hD hS => ?_)
    obtain ⟨hwf, hk9⟩ := hw
    have hkp := hkp.tr hk9
    refine lv_aload_n hx hb d_Reckoner_narrow_73 rfl (lv_at hl 0 rfl) ?_
    refine lv_aload_n hx hb d_Reckoner_narrow_74 rfl (lv_at hl 0 rfl) ?_
    refine g_Num_0 hx hb hts hown hK hP hwf hj1 (hts _ u_368) d_Reckoner_narrow_75 ?_
    refine lv_ldc2 hx hb hown (hts _ u_1172) d_Reckoner_narrow_78 ?_
    refine lv_land hx hb d_Reckoner_narrow_81 ?_
    refine lv_aload_n hx hb d_Reckoner_narrow_82 rfl (lv_at hl 0 rfl) ?_
    refine g_Num_1 hx hb hts hown hK hP hwf hj1 (hts _ u_372) d_Reckoner_narrow_83 ?_
    refine lv_ldc2 hx hb hown (hts _ u_1172) d_Reckoner_narrow_86 ?_
    refine lv_land hx hb d_Reckoner_narrow_89 ?_
    obtain ⟨M2, eM2, h⟩ := bd_ob h
    refine me_thenv0 (M1 := M2) (me_runV (C := "FilterGuard$Num") (As := [.long ((mL M1 11 j1 0) &&& 4294967295), .long ((mL M1 11 j1 1) &&& 4294967295)]) (rest := []) ⟨hx, hb, hml, hown, hts⟩ (c_Num_bits l D ad ca N M1 M2 j1 ((mL M1 11 j1 0) &&& 4294967295) ((mL M1 11 j1 1) &&& 4294967295) eM2 hwf hj1 _) rfl (by show fg_nm y_Num_bits 2; decide +kernel) u_1140 u_1141 u_1142 u_187 u_1143 ⟨Nat.le_of_ble_eq_true rfl, Nat.le_of_ble_eq_true rfl⟩ hX hz hK hP hD hwf hS hA hj1 (by decide) rfl rfl rfl hl.1 (Nat.le_of_ble_eq_true rfl) d_Reckoner_narrow_90 ⟨Nat.le_of_ble_eq_true rfl, Nat.le_of_ble_eq_true rfl⟩) hP hD hK hS hA rfl rfl (fun H locs hw hP hD hS => ?_)
    obtain ⟨hwf, hk9⟩ := hw
    have hkp := hkp.tr hk9
    refine lv_aload_n hx hb d_Reckoner_narrow_93 rfl (lv_at hl 0 rfl) ?_
    refine lv_lconst (v := 0) hx hb d_Reckoner_narrow_94 (by decide) ?_
    obtain ⟨M3, eM3, h⟩ := st_ob h
    refine p_Num_4 eM3 hx hb hts hown hK hP hD hwf hS hj1 (hts _ u_380) d_Reckoner_narrow_95 (fun H locs hP hD hwf hS => ?_)
    have hkp := kp_L eM3 hkp
    refine lv_aload_n hx hb d_Reckoner_narrow_98 rfl (lv_at hl 0 rfl) ?_
    refine lv_ldc2 hx hb hown (hts _ u_1172) d_Reckoner_narrow_99 ?_
    obtain ⟨M4, eM4, h⟩ := st_ob h
    refine p_Num_5 eM4 hx hb hts hown hK hP hD hwf hS hj1 (hts _ u_382) d_Reckoner_narrow_102 (fun H locs hP hD hwf hS => ?_)
    have hkp := kp_L eM4 hkp
    refine lv_aload_n hx hb d_Reckoner_narrow_105 rfl (lv_at hl 0 rfl) ?_
    obtain ⟨M5, r6, eM5, h⟩ := b2_ob h
    refine me_theni0 (M1 := M5) (me_runV (C := "FilterGuard$Num") (As := []) (rest := []) ⟨hx, hb, hml, hown, hts⟩ (c_Num_settle l D ad ca N M4 M5 r6 j1 eM5 hwf hj1 _) rfl (by show fg_nm y_Num_settle 0; decide +kernel) u_1221 u_1222 u_1223 u_187 u_1224 ⟨Nat.le_of_ble_eq_true rfl, Nat.le_of_ble_eq_true rfl⟩ hX hz hK hP hD hwf hS hA hj1 (by decide) rfl rfl rfl hl.1 (Nat.le_of_ble_eq_true rfl) d_Reckoner_narrow_106 ⟨Nat.le_of_ble_eq_true rfl, Nat.le_of_ble_eq_true rfl⟩) hP hD hK hS hA rfl rfl (fun H locs hw hP hD hS => ?_)
    obtain ⟨hwf, hk9, zr6⟩ := hw
    have hkp := hkp.tr hk9
    refine lv_if_ne (tgt := 140) hx hb d_Reckoner_narrow_109 (by decide) (fun c7 => ?_) (fun c7 => ?_)
    · have h := if_f c7 h
      exact me_retv (me_kp M0) h hx hb hr hlocks hwf hkp hP hK hD hS d_Reckoner_narrow_140
    have h := if_t c7 h
    refine lv_aload_n hx hb d_Reckoner_narrow_112 rfl (lv_at hl 0 rfl) ?_
    refine lv_lconst (v := 0) hx hb d_Reckoner_narrow_113 (by decide) ?_
    refine lv_ldc2 hx hb hown (hts _ u_1172) d_Reckoner_narrow_114 ?_
    obtain ⟨M8, eM8, h⟩ := bd_ob h
    refine me_thenv0 (M1 := M8) (me_runV (C := "FilterGuard$Num") (As := [.long 0, .long 4294967295]) (rest := []) ⟨hx, hb, hml, hown, hts⟩ (c_Num_bits l D ad ca N M5 M8 j1 (0 : Int64) (4294967295 : Int64) eM8 hwf hj1 _) rfl (by show fg_nm y_Num_bits 2; decide +kernel) u_1140 u_1141 u_1142 u_187 u_1143 ⟨Nat.le_of_ble_eq_true rfl, Nat.le_of_ble_eq_true rfl⟩ hX hz hK hP hD hwf hS hA hj1 (by decide) rfl rfl rfl hl.1 (Nat.le_of_ble_eq_true rfl) d_Reckoner_narrow_117 ⟨Nat.le_of_ble_eq_true rfl, Nat.le_of_ble_eq_true rfl⟩) hP hD hK hS hA rfl rfl (fun H locs hw hP hD hS => ?_)
    obtain ⟨hwf, hk9⟩ := hw
    have hkp := hkp.tr hk9
    refine lv_aload_n hx hb d_Reckoner_narrow_120 rfl (lv_at hl 0 rfl) ?_
    refine lv_lconst (v := 0) hx hb d_Reckoner_narrow_121 (by decide) ?_
    refine lv_ldc2 hx hb hown (hts _ u_1172) d_Reckoner_narrow_122 ?_
    obtain ⟨M9, eM9, h⟩ := bd_ob h
    refine me_thenv0 (M1 := M9) (me_runV (C := "FilterGuard$Num") (As := [.long 0, .long 4294967295]) (rest := []) ⟨hx, hb, hml, hown, hts⟩ (c_Num_range l D ad ca N M8 M9 j1 (0 : Int64) (4294967295 : Int64) eM9 hwf hj1 _) rfl (by show fg_nm y_Num_range 2; decide +kernel) u_1145 u_1146 u_1147 u_187 u_1148 ⟨Nat.le_of_ble_eq_true rfl, Nat.le_of_ble_eq_true rfl⟩ hX hz hK hP hD hwf hS hA hj1 (by decide) rfl rfl rfl hl.1 (Nat.le_of_ble_eq_true rfl) d_Reckoner_narrow_125 ⟨Nat.le_of_ble_eq_true rfl, Nat.le_of_ble_eq_true rfl⟩) hP hD hK hS hA rfl rfl (fun H locs hw hP hD hS => ?_)
    obtain ⟨hwf, hk9⟩ := hw
    have hkp := hkp.tr hk9
    refine lv_aload_n hx hb d_Reckoner_narrow_128 rfl (lv_at hl 0 rfl) ?_
    refine lv_lconst (v := 0) hx hb d_Reckoner_narrow_129 (by decide) ?_
    obtain ⟨M10, eM10, h⟩ := st_ob h
    refine p_Num_4 eM10 hx hb hts hown hK hP hD hwf hS hj1 (hts _ u_380) d_Reckoner_narrow_130 (fun H locs hP hD hwf hS => ?_)
    have hkp := kp_L eM10 hkp
    refine lv_aload_n hx hb d_Reckoner_narrow_133 rfl (lv_at hl 0 rfl) ?_
    refine lv_ldc2 hx hb hown (hts _ u_1172) d_Reckoner_narrow_134 ?_
    obtain ⟨M11, eM11, h⟩ := st_ob h
    refine p_Num_5 eM11 hx hb hts hown hK hP hD hwf hS hj1 (hts _ u_382) d_Reckoner_narrow_137 (fun H locs hP hD hwf hS => ?_)
    have hkp := kp_L eM11 hkp
    exact me_retv (me_kp M0) h hx hb hr hlocks hwf hkp hP hK hD hS d_Reckoner_narrow_140
  have b_52 : ∀ (M : me_M) (y2 : Int32) (s0 : Int64) (s1 : Nat) (H : Heap) (locs : List Loc) (ls : Array Slot), f_Reckoner_narrow_b52 j1 M y2 s0 s1 = (some MZ) → (y2 = 1 ∨ y2 = 0) → (s1 < N 11) → me_wf N M → me_kp M0 M → va_P D classes (me_W ad ca M) H → va_D A (me_W ad ca M) → va_S A s.heap H locs → lv_has ls 3 [(1, .ref (ad 11 j1)), (2, .int y2)] → W p l e rm_Reckoner_narrow s m [.ref (ad 8 j0), .ref (ad 11 j1)].toArray below meth c H locs 0 0 (MQ below (q_Reckoner_narrow D ad ca N M0 MZ A) [.ref (ad 8 j0), .ref (ad 11 j1)].toArray s rm_Reckoner_narrow.cells rm_Reckoner_narrow.slots A) (F0 m 52 ls [.long s0, .ref (ad 11 s1)]) := by
    intro M y2 s0 s1 H locs ls h zy2 hs1 hwf hkp hP hD hS hl
    unfold f_Reckoner_narrow_b52 at h
    have hkb := hkp
    refine lv_iload_n hx hb d_Reckoner_narrow_52 rfl (lv_at hl 1 rfl) ?_
    refine lv_if_eq (tgt := 67) hx hb d_Reckoner_narrow_53 (by decide) (fun c12 => ?_) (fun c12 => ?_)
    · have h := if_t c12 h
      refine lv_ldc2 hx hb hown (hts _ u_1172) d_Reckoner_narrow_67 ?_
      exact b_70 M (4294967295 : Int64) s0 s1 _ _ _ h hs1 hwf hkp hP hD hS (lv_sub hl [0] rfl)
    have h := if_f c12 h
    refine lv_aload_n hx hb d_Reckoner_narrow_56 rfl (lv_at hl 0 rfl) ?_
    refine g_Num_3 hx hb hts hown hK hP hwf hj1 (hts _ u_377) d_Reckoner_narrow_57 ?_
    refine lv_ldc2 hx hb hown (hts _ u_1172) d_Reckoner_narrow_60 ?_
    refine lv_land hx hb d_Reckoner_narrow_63 ?_
    refine lv_goto (tgt := 70) hx hb d_Reckoner_narrow_64 (by decide) ?_
    exact b_70 M ((mL M 11 j1 3) &&& 4294967295) s0 s1 _ _ _ h hs1 hwf hkp hP hD hS (lv_sub hl [0] rfl)
  have b_34 : ∀ (M : me_M) (s0 : Int32) (H : Heap) (locs : List Loc) (ls : Array Slot), f_Reckoner_narrow_b34 j1 M s0 = (some MZ) → (s0 = 1 ∨ s0 = 0) → me_wf N M → me_kp M0 M → va_P D classes (me_W ad ca M) H → va_D A (me_W ad ca M) → va_S A s.heap H locs → lv_has ls 3 [(1, .ref (ad 11 j1))] → W p l e rm_Reckoner_narrow s m [.ref (ad 8 j0), .ref (ad 11 j1)].toArray below meth c H locs 0 0 (MQ below (q_Reckoner_narrow D ad ca N M0 MZ A) [.ref (ad 8 j0), .ref (ad 11 j1)].toArray s rm_Reckoner_narrow.cells rm_Reckoner_narrow.slots A) (F0 m 34 ls [.int s0]) := by
    intro M s0 H locs ls h zs0 hwf hkp hP hD hS hl
    unfold f_Reckoner_narrow_b34 at h
    have hkb := hkp
    refine lv_istore_n (lv' := [(2, .int s0), (1, .ref (ad 11 j1))]) hx hb d_Reckoner_narrow_34 rfl hl (by decide) rfl (fun ls hl => ?_)
    refine lv_aload_n hx hb d_Reckoner_narrow_35 rfl (lv_at hl 1 rfl) ?_
    refine lv_iload_n hx hb d_Reckoner_narrow_36 rfl (lv_at hl 0 rfl) ?_
    refine lv_if_eq (tgt := 51) hx hb d_Reckoner_narrow_37 (by decide) (fun c13 => ?_) (fun c13 => ?_)
    · have h := if_t c13 h
      refine lv_lconst (v := 0) hx hb d_Reckoner_narrow_51 (by decide) ?_
      exact b_52 M s0 (0 : Int64) j1 _ _ _ h zs0 hj1 hwf hkp hP hD hS (lv_sub hl [1, 0] rfl)
    have h := if_f c13 h
    refine lv_aload_n hx hb d_Reckoner_narrow_40 rfl (lv_at hl 1 rfl) ?_
    refine g_Num_2 hx hb hts hown hK hP hwf hj1 (hts _ u_374) d_Reckoner_narrow_41 ?_
    refine lv_ldc2 hx hb hown (hts _ u_1172) d_Reckoner_narrow_44 ?_
    refine lv_land hx hb d_Reckoner_narrow_47 ?_
    refine lv_goto (tgt := 52) hx hb d_Reckoner_narrow_48 (by decide) ?_
    exact b_52 M s0 ((mL M 11 j1 2) &&& 4294967295) j1 _ _ _ h zs0 hj1 hwf hkp hP hD hS (lv_sub hl [1, 0] rfl)
  refine lv_aload_n hx hb d_Reckoner_narrow_0 rfl (lv_at hl 1 rfl) ?_
  refine lv_ldc2 hx hb hown (hts _ u_1172) d_Reckoner_narrow_1 ?_
  obtain ⟨M14, r15, eM14, h⟩ := b2_ob h
  refine me_theni0 (M1 := M14) (me_runV (C := "FilterGuard$Num") (As := [.long 4294967295]) (rest := []) ⟨hx, hb, hml, hown, hts⟩ (c_Num_isAbove l D ad ca N M0 M14 r15 j1 (4294967295 : Int64) eM14 hwf hj1 _) rfl (by show fg_nm y_Num_isAbove 1; decide +kernel) u_1173 u_1174 u_1175 u_187 u_1176 ⟨Nat.le_of_ble_eq_true rfl, Nat.le_of_ble_eq_true rfl⟩ hX hz hK hP hD hwf hS hA hj1 (by decide) rfl rfl rfl hl.1 (Nat.le_of_ble_eq_true rfl) d_Reckoner_narrow_4 ⟨Nat.le_of_ble_eq_true rfl, Nat.le_of_ble_eq_true rfl⟩) hP hD hK hS hA rfl rfl (fun H locs hw hP hD hS => ?_)
  obtain ⟨hwf, hk9, zr15⟩ := hw
  have hkp := hkp.tr hk9
  refine lv_if_ne (tgt := 11) hx hb d_Reckoner_narrow_7 (by decide) (fun c16 => ?_) (fun c16 => ?_)
  · have h := if_f c16 h
    refine lv_aload_n hx hb d_Reckoner_narrow_11 rfl (lv_at hl 1 rfl) ?_
    refine g_Num_2 hx hb hts hown hK hP hwf hj1 (hts _ u_374) d_Reckoner_narrow_12 ?_
    refine lv_bipush (v := 32) hx hb d_Reckoner_narrow_15 (by decide) ?_
    refine lv_lushr (v := jlushr (mL M14 11 j1 2) (32 : Int32)) hx hb d_Reckoner_narrow_17 rfl ?_
    refine lv_aload_n hx hb d_Reckoner_narrow_18 rfl (lv_at hl 1 rfl) ?_
    refine g_Num_3 hx hb hts hown hK hP hwf hj1 (hts _ u_377) d_Reckoner_narrow_19 ?_
    refine lv_bipush (v := 32) hx hb d_Reckoner_narrow_22 (by decide) ?_
    refine lv_lushr (v := jlushr (mL M14 11 j1 3) (32 : Int32)) hx hb d_Reckoner_narrow_24 rfl ?_
    refine W.lcmp hx hb d_Reckoner_narrow_25 ?_
    refine lv_if_ne (tgt := 33) hx hb d_Reckoner_narrow_26 (by decide) (fun c17 => ?_) (fun c17 => ?_)
    · have h := if_f (fun z => c17 ((lg_cmp_eq _ _).mpr z)) h
      refine lv_iconst (v := 0) hx hb d_Reckoner_narrow_33 (by decide) ?_
      exact b_34 M14 (0 : Int32) _ _ _ h (by decide) hwf hkp hP hD hS (lv_sub hl [1] rfl)
    have h := if_t ((lg_cmp_eq _ _).mp c17) h
    refine lv_iconst (v := 1) hx hb d_Reckoner_narrow_29 (by decide) ?_
    refine lv_goto (tgt := 34) hx hb d_Reckoner_narrow_30 (by decide) ?_
    exact b_34 M14 (1 : Int32) _ _ _ h (by decide) hwf hkp hP hD hS (lv_sub hl [1] rfl)
  have h := if_t c16 h
  exact me_retv (me_kp M0) h hx hb hr hlocks hwf hkp hP hK hD hS d_Reckoner_narrow_10
theorem d_Reckoner_operate_139 : decode prog_9_method_4_code 139 = .ok (.aload_n 0, 1) := by decide +kernel
theorem d_Reckoner_operate_140 : decode prog_9_method_4_code 140 = .ok (.getfield 12, 3) := by decide +kernel
theorem g_Reckoner_0 {p : Program} {l : Launch} {e : Env} {R : Room} {s : Jvm.State} {m : MethodId} {args : Array Value} {below : List Frame} {meth : Method} {c : Code} {H : Heap} {locs : List Loc} {cells slots : Nat} {Q : Jvm.State → Prop} {cc : ByteArray} {pc : Nat} {ls : Array Slot} {rest : List Value} {D : va_G} {ad : Nat → Nat → Nat} {ca : Nat → ClassId} {M : me_M} {N : Nat → Nat} {own : String} {index j : Nat} (hexec : p.tables.exec = Jvm.exec) (hb : c.code = cc) (hts : ∀ w ∈ fg_g, w.before args s = true) (hown : s.vm.findClass own = some m.cls) (hK : va_K D classes (me_T ca) s) (hP : va_P D classes (me_W ad ca M) H) (hwf : me_wf N M) (hj : j < N 8) (hlink : (Cond.fieldLink own index "FilterGuard$Reckoner" "first" "LFilterGuard$Num;").before args s = true) (hdg : decode cc pc = .ok (.getfield index, 3)) (kk : W p l e R s m args below meth c H locs cells slots Q (F0 m (pc + 3) ls (va_rf ((mR M 8 j 0).map (ad 11)) :: rest))) : W p l e R s m args below meth c H locs cells slots Q (F0 m pc ls (.ref (ad 8 j) :: rest)) := me_get (k := 8) (f := 0) (C := "FilterGuard$Reckoner") (T := F_Reckoner) (Nf := 5) hexec hb hts i_Reckoner hown hK hP hwf hj (by decide) rfl (by decide) (by decide) hlink (fun _ h9 => h9) hdg kk
theorem d_Reckoner_operate_143 : decode prog_9_method_4_code 143 = .ok (.aload_n 0, 1) := by decide +kernel
theorem d_Reckoner_operate_144 : decode prog_9_method_4_code 144 = .ok (.getfield 18, 3) := by decide +kernel
theorem g_Reckoner_1 {p : Program} {l : Launch} {e : Env} {R : Room} {s : Jvm.State} {m : MethodId} {args : Array Value} {below : List Frame} {meth : Method} {c : Code} {H : Heap} {locs : List Loc} {cells slots : Nat} {Q : Jvm.State → Prop} {cc : ByteArray} {pc : Nat} {ls : Array Slot} {rest : List Value} {D : va_G} {ad : Nat → Nat → Nat} {ca : Nat → ClassId} {M : me_M} {N : Nat → Nat} {own : String} {index j : Nat} (hexec : p.tables.exec = Jvm.exec) (hb : c.code = cc) (hts : ∀ w ∈ fg_g, w.before args s = true) (hown : s.vm.findClass own = some m.cls) (hK : va_K D classes (me_T ca) s) (hP : va_P D classes (me_W ad ca M) H) (hwf : me_wf N M) (hj : j < N 8) (hlink : (Cond.fieldLink own index "FilterGuard$Reckoner" "second" "LFilterGuard$Num;").before args s = true) (hdg : decode cc pc = .ok (.getfield index, 3)) (kk : W p l e R s m args below meth c H locs cells slots Q (F0 m (pc + 3) ls (va_rf ((mR M 8 j 1).map (ad 11)) :: rest))) : W p l e R s m args below meth c H locs cells slots Q (F0 m pc ls (.ref (ad 8 j) :: rest)) := me_get (k := 8) (f := 1) (C := "FilterGuard$Reckoner") (T := F_Reckoner) (Nf := 5) hexec hb hts i_Reckoner hown hK hP hwf hj (by decide) rfl (by decide) (by decide) hlink (fun _ h9 => h9) hdg kk
theorem d_Reckoner_operate_147 : decode prog_9_method_4_code 147 = .ok (.aload 5, 2) := by decide +kernel
theorem d_Reckoner_operate_149 : decode prog_9_method_4_code 149 = .ok (.invokevirtual 34, 3) := by decide +kernel
theorem u_1126 : Cond.methodLink "FilterGuard$Reckoner" 34 ⟨"FilterGuard$Reckoner", "operateWide", "(ILFilterGuard$Num;LFilterGuard$Num;LFilterGuard$Num;)V"⟩ ∈ fg_g := fg_in (List.mem_of_getElem? (i := 1126) (by decide +kernel)) rfl
theorem u_1129 : Cond.code ⟨"FilterGuard$Reckoner", "operateWide", "(ILFilterGuard$Num;LFilterGuard$Num;LFilterGuard$Num;)V"⟩ prog_9_method_5_code 5 none ∈ fg_g := fg_in (List.mem_of_getElem? (i := 1129) (by decide +kernel)) rfl
theorem u_1127 : Cond.instanceMethod ⟨"FilterGuard$Reckoner", "operateWide", "(ILFilterGuard$Num;LFilterGuard$Num;LFilterGuard$Num;)V"⟩ ∈ fg_g := fg_in (List.mem_of_getElem? (i := 1127) (by decide +kernel)) rfl
theorem u_1128 : Cond.selects "FilterGuard$Reckoner" ⟨"FilterGuard$Reckoner", "operateWide", "(ILFilterGuard$Num;LFilterGuard$Num;LFilterGuard$Num;)V"⟩ ⟨"FilterGuard$Reckoner", "operateWide", "(ILFilterGuard$Num;LFilterGuard$Num;LFilterGuard$Num;)V"⟩ ∈ fg_g := fg_in (List.mem_of_getElem? (i := 1128) (by decide +kernel)) rfl
theorem d_Reckoner_operate_152 : decode prog_9_method_4_code 152 = .ok (.aload_n 0, 1) := by decide +kernel
theorem d_Reckoner_operate_153 : decode prog_9_method_4_code 153 = .ok (.aload 5, 2) := by decide +kernel
theorem d_Reckoner_operate_155 : decode prog_9_method_4_code 155 = .ok (.invokevirtual 42, 3) := by decide +kernel
theorem u_1236 : Cond.methodLink "FilterGuard$Reckoner" 42 ⟨"FilterGuard$Reckoner", "narrow", "(LFilterGuard$Num;)V"⟩ ∈ fg_g := fg_in (List.mem_of_getElem? (i := 1236) (by decide +kernel)) rfl
theorem u_1239 : Cond.code ⟨"FilterGuard$Reckoner", "narrow", "(LFilterGuard$Num;)V"⟩ prog_9_method_6_code 3 none ∈ fg_g := fg_in (List.mem_of_getElem? (i := 1239) (by decide +kernel)) rfl
theorem u_1237 : Cond.instanceMethod ⟨"FilterGuard$Reckoner", "narrow", "(LFilterGuard$Num;)V"⟩ ∈ fg_g := fg_in (List.mem_of_getElem? (i := 1237) (by decide +kernel)) rfl
theorem u_1238 : Cond.selects "FilterGuard$Reckoner" ⟨"FilterGuard$Reckoner", "narrow", "(LFilterGuard$Num;)V"⟩ ⟨"FilterGuard$Reckoner", "narrow", "(LFilterGuard$Num;)V"⟩ ∈ fg_g := fg_in (List.mem_of_getElem? (i := 1238) (by decide +kernel)) rfl
theorem d_Reckoner_operate_158 : decode prog_9_method_4_code 158 = .ok (.return_, 1) := by decide +kernel
theorem d_Reckoner_operate_126 : decode prog_9_method_4_code 126 = .ok (.aload_n 0, 1) := by decide +kernel
theorem d_Reckoner_operate_127 : decode prog_9_method_4_code 127 = .ok (.iload_n 1, 1) := by decide +kernel
theorem d_Reckoner_operate_128 : decode prog_9_method_4_code 128 = .ok (.bipush 10, 2) := by decide +kernel
theorem d_Reckoner_operate_130 : decode prog_9_method_4_code 130 = .ok (.if_icmp .ne 8, 3) := by decide +kernel
theorem d_Reckoner_operate_138 : decode prog_9_method_4_code 138 = .ok (.iload_n 1, 1) := by decide +kernel
theorem d_Reckoner_operate_133 : decode prog_9_method_4_code 133 = .ok (.bipush 9, 2) := by decide +kernel
theorem d_Reckoner_operate_135 : decode prog_9_method_4_code 135 = .ok (.goto 4, 3) := by decide +kernel
theorem d_Reckoner_operate_99 : decode prog_9_method_4_code 99 = .ok (.iload_n 1, 1) := by decide +kernel
theorem d_Reckoner_operate_100 : decode prog_9_method_4_code 100 = .ok (.bipush 10, 2) := by decide +kernel
theorem d_Reckoner_operate_102 : decode prog_9_method_4_code 102 = .ok (.if_icmp .ne 24, 3) := by decide +kernel
theorem d_Reckoner_operate_105 : decode prog_9_method_4_code 105 = .ok (.aload_n 0, 1) := by decide +kernel
theorem d_Reckoner_operate_106 : decode prog_9_method_4_code 106 = .ok (.getfield 12, 3) := by decide +kernel
theorem d_Reckoner_operate_109 : decode prog_9_method_4_code 109 = .ok (.ldc2_w 59, 3) := by decide +kernel
theorem u_1241 : Cond.constantLong "FilterGuard$Reckoner" 59 2147483647 ∈ fg_g := fg_in (List.mem_of_getElem? (i := 1241) (by decide +kernel)) rfl
theorem d_Reckoner_operate_112 : decode prog_9_method_4_code 112 = .ok (.invokevirtual 61, 3) := by decide +kernel
theorem d_Reckoner_operate_115 : decode prog_9_method_4_code 115 = .ok (.ifCond .eq 11, 3) := by decide +kernel
theorem d_Reckoner_operate_118 : decode prog_9_method_4_code 118 = .ok (.aload 5, 2) := by decide +kernel
theorem d_Reckoner_operate_120 : decode prog_9_method_4_code 120 = .ok (.invokevirtual 65, 3) := by decide +kernel
theorem d_Reckoner_operate_123 : decode prog_9_method_4_code 123 = .ok (.goto 29, 3) := by decide +kernel
theorem d_Reckoner_operate_64 : decode prog_9_method_4_code 64 = .ok (.istore 6, 2) := by decide +kernel
theorem d_Reckoner_operate_66 : decode prog_9_method_4_code 66 = .ok (.iload 6, 2) := by decide +kernel
theorem d_Reckoner_operate_68 : decode prog_9_method_4_code 68 = .ok (.ifCond .eq 31, 3) := by decide +kernel
theorem d_Reckoner_operate_71 : decode prog_9_method_4_code 71 = .ok (.aload_n 0, 1) := by decide +kernel
theorem d_Reckoner_operate_72 : decode prog_9_method_4_code 72 = .ok (.getfield 18, 3) := by decide +kernel
theorem d_Reckoner_operate_75 : decode prog_9_method_4_code 75 = .ok (.invokevirtual 45, 3) := by decide +kernel
theorem d_Reckoner_operate_78 : decode prog_9_method_4_code 78 = .ok (.ifCond .eq 21, 3) := by decide +kernel
theorem d_Reckoner_operate_81 : decode prog_9_method_4_code 81 = .ok (.aload_n 0, 1) := by decide +kernel
theorem d_Reckoner_operate_82 : decode prog_9_method_4_code 82 = .ok (.getfield 18, 3) := by decide +kernel
theorem d_Reckoner_operate_85 : decode prog_9_method_4_code 85 = .ok (.aload_n 0, 1) := by decide +kernel
theorem d_Reckoner_operate_86 : decode prog_9_method_4_code 86 = .ok (.getfield 18, 3) := by decide +kernel
theorem d_Reckoner_operate_89 : decode prog_9_method_4_code 89 = .ok (.getfield 49, 3) := by decide +kernel
theorem d_Reckoner_operate_92 : decode prog_9_method_4_code 92 = .ok (.ldc2_w 53, 3) := by decide +kernel
theorem u_1240 : Cond.constantLong "FilterGuard$Reckoner" 53 31 ∈ fg_g := fg_in (List.mem_of_getElem? (i := 1240) (by decide +kernel)) rfl
theorem d_Reckoner_operate_95 : decode prog_9_method_4_code 95 = .ok (.land, 1) := by decide +kernel
theorem d_Reckoner_operate_96 : decode prog_9_method_4_code 96 = .ok (.invokevirtual 55, 3) := by decide +kernel
theorem d_Reckoner_operate_63 : decode prog_9_method_4_code 63 = .ok (.iconst 0, 1) := by decide +kernel
theorem d_Reckoner_operate_0 : decode prog_9_method_4_code 0 = .ok (.iload 4, 2) := by decide +kernel
theorem d_Reckoner_operate_2 : decode prog_9_method_4_code 2 = .ok (.ifCond .ne 13, 3) := by decide +kernel
theorem d_Reckoner_operate_15 : decode prog_9_method_4_code 15 = .ok (.aload_n 0, 1) := by decide +kernel
theorem d_Reckoner_operate_16 : decode prog_9_method_4_code 16 = .ok (.getfield 12, 3) := by decide +kernel
theorem d_Reckoner_operate_19 : decode prog_9_method_4_code 19 = .ok (.aload_n 2, 1) := by decide +kernel
theorem d_Reckoner_operate_20 : decode prog_9_method_4_code 20 = .ok (.invokevirtual 38, 3) := by decide +kernel
theorem d_Reckoner_operate_23 : decode prog_9_method_4_code 23 = .ok (.aload_n 0, 1) := by decide +kernel
theorem d_Reckoner_operate_24 : decode prog_9_method_4_code 24 = .ok (.aload_n 0, 1) := by decide +kernel
theorem d_Reckoner_operate_25 : decode prog_9_method_4_code 25 = .ok (.getfield 12, 3) := by decide +kernel
theorem d_Reckoner_operate_28 : decode prog_9_method_4_code 28 = .ok (.invokevirtual 42, 3) := by decide +kernel
theorem d_Reckoner_operate_31 : decode prog_9_method_4_code 31 = .ok (.aload_n 0, 1) := by decide +kernel
theorem d_Reckoner_operate_32 : decode prog_9_method_4_code 32 = .ok (.getfield 18, 3) := by decide +kernel
theorem d_Reckoner_operate_35 : decode prog_9_method_4_code 35 = .ok (.aload_n 3, 1) := by decide +kernel
theorem d_Reckoner_operate_36 : decode prog_9_method_4_code 36 = .ok (.invokevirtual 38, 3) := by decide +kernel
theorem d_Reckoner_operate_39 : decode prog_9_method_4_code 39 = .ok (.aload_n 0, 1) := by decide +kernel
theorem d_Reckoner_operate_40 : decode prog_9_method_4_code 40 = .ok (.aload_n 0, 1) := by decide +kernel
theorem d_Reckoner_operate_41 : decode prog_9_method_4_code 41 = .ok (.getfield 18, 3) := by decide +kernel
theorem d_Reckoner_operate_44 : decode prog_9_method_4_code 44 = .ok (.invokevirtual 42, 3) := by decide +kernel
theorem d_Reckoner_operate_47 : decode prog_9_method_4_code 47 = .ok (.iload_n 1, 1) := by decide +kernel
theorem d_Reckoner_operate_48 : decode prog_9_method_4_code 48 = .ok (.bipush 8, 2) := by decide +kernel
theorem d_Reckoner_operate_50 : decode prog_9_method_4_code 50 = .ok (.if_icmp .lt 13, 3) := by decide +kernel
theorem d_Reckoner_operate_53 : decode prog_9_method_4_code 53 = .ok (.iload_n 1, 1) := by decide +kernel
theorem d_Reckoner_operate_54 : decode prog_9_method_4_code 54 = .ok (.bipush 10, 2) := by decide +kernel
theorem d_Reckoner_operate_56 : decode prog_9_method_4_code 56 = .ok (.if_icmp .gt 7, 3) := by decide +kernel
theorem d_Reckoner_operate_59 : decode prog_9_method_4_code 59 = .ok (.iconst 1, 1) := by decide +kernel
theorem d_Reckoner_operate_60 : decode prog_9_method_4_code 60 = .ok (.goto 4, 3) := by decide +kernel
theorem d_Reckoner_operate_5 : decode prog_9_method_4_code 5 = .ok (.aload_n 0, 1) := by decide +kernel
theorem d_Reckoner_operate_6 : decode prog_9_method_4_code 6 = .ok (.iload_n 1, 1) := by decide +kernel
theorem d_Reckoner_operate_7 : decode prog_9_method_4_code 7 = .ok (.aload_n 2, 1) := by decide +kernel
theorem d_Reckoner_operate_8 : decode prog_9_method_4_code 8 = .ok (.aload_n 3, 1) := by decide +kernel
theorem d_Reckoner_operate_9 : decode prog_9_method_4_code 9 = .ok (.aload 5, 2) := by decide +kernel
theorem d_Reckoner_operate_11 : decode prog_9_method_4_code 11 = .ok (.invokevirtual 34, 3) := by decide +kernel
theorem d_Reckoner_operate_14 : decode prog_9_method_4_code 14 = .ok (.return_, 1) := by decide +kernel
abbrev y_Reckoner_operate : MethodName := ⟨"FilterGuard$Reckoner", "operate", "(ILFilterGuard$Num;LFilterGuard$Num;ZLFilterGuard$Num;)V"⟩
def rm_Reckoner_operate : Room := { frames := 5, cells := 0, slots := 0, locals := 110 }
abbrev q_Reckoner_operate (D : va_G) (ad : Nat → Nat → Nat) (ca : Nat → ClassId) (N : Nat → Nat) (M0 MZ : me_M) (A : Nat → Prop) : Array Value → Jvm.State → Outcome → Jvm.State → Prop := va_Qv (fun (_ : Unit) => me_wf N MZ ∧ me_kp M0 MZ) (fg_B D A (fun _ => me_W ad ca MZ) (fun _ => [])) A
set_option maxHeartbeats 4000000 in
set_option maxRecDepth 100000 in
theorem c_Reckoner_operate (l : Launch) (D : va_G) (ad : Nat → Nat → Nat) (ca : Nat → ClassId) (N : Nat → Nat) (M0 MZ : me_M) (j0 : Nat) (x1 : Int32) (j2 : Nat) (j3 : Nat) (x4 : Int32) (j5 : Nat) (h : f_Reckoner_operate M0 j0 x1 j2 j3 x4 j5 = (some MZ)) (hwf : me_wf N M0) (hj0 : j0 < N 8) (hj2 : j2 < N 11) (hj3 : j3 < N 11) (zx4 : x4 = 1 ∨ x4 = 0) (hj5 : j5 < N 11) (sz : Nat) : Met l y_Reckoner_operate (fg_w y_Reckoner_operate prog_9_method_4_code 7 none) rm_Reckoner_operate (va_Pc [.ref (ad 8 j0), .int x1, .ref (ad 11 j2), .ref (ad 11 j3), .int x4, .ref (ad 11 j5)] (fz_P D (me_T ca) (me_W ad ca M0) sz)) (q_Reckoner_operate D ad ca N M0 MZ (va_A (me_W ad ca M0) sz)) rm_Reckoner_operate.cells rm_Reckoner_operate.slots (va_A (me_W ad ca M0) sz) := by
  refine fz_enter (fun A => q_Reckoner_operate D ad ca N M0 MZ A) (by decide +kernel) (Nat.le_of_ble_eq_true rfl) ?_
  intro p e s m below meth c ls A hx hb hml hown hts hr hlocks hin hP hK hD hS hA hX hl hz
  have hl : lv_has ls 7 [(0, .ref (ad 8 j0)), (1, .int x1), (2, .ref (ad 11 j2)), (3, .ref (ad 11 j3)), (4, .int x4), (5, .ref (ad 11 j5))] := hl
  unfold f_Reckoner_operate at h
  have hkp : me_kp M0 M0 := me_kp.rf
  have hkb := hkp
  have b_139 : ∀ (M : me_M) (s0 : Int32) (s1 : Nat) (H : Heap) (locs : List Loc) (ls : Array Slot), f_Reckoner_operate_b139 j0 j5 M s0 s1 = (some MZ) → (s1 < N 8) → me_wf N M → me_kp M0 M → va_P D classes (me_W ad ca M) H → va_D A (me_W ad ca M) → va_S A s.heap H locs → lv_has ls 7 [(0, .ref (ad 8 j0)), (5, .ref (ad 11 j5))] → W p l e rm_Reckoner_operate s m [.ref (ad 8 j0), .int x1, .ref (ad 11 j2), .ref (ad 11 j3), .int x4, .ref (ad 11 j5)].toArray below meth c H locs 0 0 (MQ below (q_Reckoner_operate D ad ca N M0 MZ A) [.ref (ad 8 j0), .int x1, .ref (ad 11 j2), .ref (ad 11 j3), .int x4, .ref (ad 11 j5)].toArray s rm_Reckoner_operate.cells rm_Reckoner_operate.slots A) (F0 m 139 ls [.int s0, .ref (ad 8 s1)]) := by
    intro M s0 s1 H locs ls h hs1 hwf hkp hP hD hS hl
    unfold f_Reckoner_operate_b139 at h
    have hkb := hkp
    refine lv_aload_n hx hb d_Reckoner_operate_139 rfl (lv_at hl 0 rfl) ?_
    refine g_Reckoner_0 hx hb hts hown hK hP hwf hj0 (hts _ u_396) d_Reckoner_operate_140 ?_
    obtain ⟨j1, e2, h⟩ := bd_ob h
    have hj1 : j1 < N 11 := (hwf.2.1 8 j0 0 _ e2 (by decide) hj0)
    refine me_opt (j := j1) e2 ?_
    refine lv_aload_n hx hb d_Reckoner_operate_143 rfl (lv_at hl 0 rfl) ?_
    refine g_Reckoner_1 hx hb hts hown hK hP hwf hj0 (hts _ u_397) d_Reckoner_operate_144 ?_
    obtain ⟨j4, e5, h⟩ := bd_ob h
    have hj4 : j4 < N 11 := (hwf.2.1 8 j0 1 _ e5 (by decide) hj0)
    refine me_opt (j := j4) e5 ?_
    refine lv_aload hx hb d_Reckoner_operate_147 (lv_at hl 1 rfl) ?_
    obtain ⟨M6, eM6, h⟩ := bd_ob h
    refine me_thenv0 (M1 := M6) (me_runV (C := "FilterGuard$Reckoner") (As := [.int s0, .ref (ad 11 j1), .ref (ad 11 j4), .ref (ad 11 j5)]) (rest := []) ⟨hx, hb, hml, hown, hts⟩ (c_Reckoner_operateWide l D ad ca N M M6 s1 s0 j1 j4 j5 eM6 hwf hs1 hj1 hj4 hj5 _) rfl (by show fg_nm y_Reckoner_operateWide 4; decide +kernel) u_1126 u_1127 u_1128 u_186 u_1129 ⟨Nat.le_of_ble_eq_true rfl, Nat.le_of_ble_eq_true rfl⟩ hX hz hK hP hD hwf hS hA hs1 (by decide) rfl rfl rfl hl.1 (Nat.le_of_ble_eq_true rfl) d_Reckoner_operate_149 ⟨Nat.le_of_ble_eq_true rfl, Nat.le_of_ble_eq_true rfl⟩) hP hD hK hS hA rfl rfl (fun H locs hw hP hD hS => ?_)
    obtain ⟨hwf, hk9⟩ := hw
    have hkp := hkp.tr hk9
    refine lv_aload_n hx hb d_Reckoner_operate_152 rfl (lv_at hl 0 rfl) ?_
    refine lv_aload hx hb d_Reckoner_operate_153 (lv_at hl 1 rfl) ?_
    obtain ⟨M7, eM7, h⟩ := bd_ob h
    refine me_thenv0 (M1 := M7) (me_runV (C := "FilterGuard$Reckoner") (As := [.ref (ad 11 j5)]) (rest := []) ⟨hx, hb, hml, hown, hts⟩ (c_Reckoner_narrow l D ad ca N M6 M7 j0 j5 eM7 hwf hj0 hj5 _) rfl (by show fg_nm y_Reckoner_narrow 1; decide +kernel) u_1236 u_1237 u_1238 u_186 u_1239 ⟨Nat.le_of_ble_eq_true rfl, Nat.le_of_ble_eq_true rfl⟩ hX hz hK hP hD hwf hS hA hj0 (by decide) rfl rfl rfl hl.1 (Nat.le_of_ble_eq_true rfl) d_Reckoner_operate_155 ⟨Nat.le_of_ble_eq_true rfl, Nat.le_of_ble_eq_true rfl⟩) hP hD hK hS hA rfl rfl (fun H locs hw hP hD hS => ?_)
    obtain ⟨hwf, hk9⟩ := hw
    have hkp := hkp.tr hk9
    exact me_retv (me_kp M0) h hx hb hr hlocks hwf hkp hP hK hD hS d_Reckoner_operate_158
  have b_126 : ∀ (M : me_M) (H : Heap) (locs : List Loc) (ls : Array Slot), f_Reckoner_operate_b126 j0 x1 j5 M = (some MZ) → me_wf N M → me_kp M0 M → va_P D classes (me_W ad ca M) H → va_D A (me_W ad ca M) → va_S A s.heap H locs → lv_has ls 7 [(0, .ref (ad 8 j0)), (1, .int x1), (5, .ref (ad 11 j5))] → W p l e rm_Reckoner_operate s m [.ref (ad 8 j0), .int x1, .ref (ad 11 j2), .ref (ad 11 j3), .int x4, .ref (ad 11 j5)].toArray below meth c H locs 0 0 (MQ below (q_Reckoner_operate D ad ca N M0 MZ A) [.ref (ad 8 j0), .int x1, .ref (ad 11 j2), .ref (ad 11 j3), .int x4, .ref (ad 11 j5)].toArray s rm_Reckoner_operate.cells rm_Reckoner_operate.slots A) (F0 m 126 ls []) := by
    intro M H locs ls h hwf hkp hP hD hS hl
    unfold f_Reckoner_operate_b126 at h
    have hkb := hkp
    refine lv_aload_n hx hb d_Reckoner_operate_126 rfl (lv_at hl 0 rfl) ?_
    refine lv_iload_n hx hb d_Reckoner_operate_127 rfl (lv_at hl 1 rfl) ?_
    refine lv_bipush (v := 10) hx hb d_Reckoner_operate_128 (by decide) ?_
    refine lv_icmp_ne (tgt := 138) hx hb d_Reckoner_operate_130 (by decide) (fun c8 => ?_) (fun c8 => ?_)
    · have h := if_f c8 h
      refine lv_iload_n hx hb d_Reckoner_operate_138 rfl (lv_at hl 1 rfl) ?_
      exact b_139 M x1 j0 _ _ _ h hj0 hwf hkp hP hD hS (lv_sub hl [0, 2] rfl)
    have h := if_t c8 h
    refine lv_bipush (v := 9) hx hb d_Reckoner_operate_133 (by decide) ?_
    refine lv_goto (tgt := 139) hx hb d_Reckoner_operate_135 (by decide) ?_
    exact b_139 M (9 : Int32) j0 _ _ _ h hj0 hwf hkp hP hD hS (lv_sub hl [0, 2] rfl)
  have b_99 : ∀ (M : me_M) (H : Heap) (locs : List Loc) (ls : Array Slot), f_Reckoner_operate_b99 j0 x1 j5 M = (some MZ) → me_wf N M → me_kp M0 M → va_P D classes (me_W ad ca M) H → va_D A (me_W ad ca M) → va_S A s.heap H locs → lv_has ls 7 [(0, .ref (ad 8 j0)), (1, .int x1), (5, .ref (ad 11 j5))] → W p l e rm_Reckoner_operate s m [.ref (ad 8 j0), .int x1, .ref (ad 11 j2), .ref (ad 11 j3), .int x4, .ref (ad 11 j5)].toArray below meth c H locs 0 0 (MQ below (q_Reckoner_operate D ad ca N M0 MZ A) [.ref (ad 8 j0), .int x1, .ref (ad 11 j2), .ref (ad 11 j3), .int x4, .ref (ad 11 j5)].toArray s rm_Reckoner_operate.cells rm_Reckoner_operate.slots A) (F0 m 99 ls []) := by
    intro M H locs ls h hwf hkp hP hD hS hl
    unfold f_Reckoner_operate_b99 at h
    have hkb := hkp
    refine lv_iload_n hx hb d_Reckoner_operate_99 rfl (lv_at hl 1 rfl) ?_
    refine lv_bipush (v := 10) hx hb d_Reckoner_operate_100 (by decide) ?_
    refine lv_icmp_ne (tgt := 126) hx hb d_Reckoner_operate_102 (by decide) (fun c9 => ?_) (fun c9 => ?_)
    · have h := if_f c9 h
      exact b_126 M _ _ _ h hwf hkp hP hD hS (lv_sub hl [0, 1, 2] rfl)
    have h := if_t c9 h
    refine lv_aload_n hx hb d_Reckoner_operate_105 rfl (lv_at hl 0 rfl) ?_
    refine g_Reckoner_0 hx hb hts hown hK hP hwf hj0 (hts _ u_396) d_Reckoner_operate_106 ?_
    obtain ⟨j10, e11, h⟩ := bd_ob h
    have hj10 : j10 < N 11 := (hwf.2.1 8 j0 0 _ e11 (by decide) hj0)
    refine me_opt (j := j10) e11 ?_
    refine lv_ldc2 hx hb hown (hts _ u_1241) d_Reckoner_operate_109 ?_
    obtain ⟨M12, r13, eM12, h⟩ := b2_ob h
    refine me_theni0 (M1 := M12) (me_runV (C := "FilterGuard$Num") (As := [.long 2147483647]) (rest := []) ⟨hx, hb, hml, hown, hts⟩ (c_Num_isAbove l D ad ca N M M12 r13 j10 (2147483647 : Int64) eM12 hwf hj10 _) rfl (by show fg_nm y_Num_isAbove 1; decide +kernel) u_1173 u_1174 u_1175 u_187 u_1176 ⟨Nat.le_of_ble_eq_true rfl, Nat.le_of_ble_eq_true rfl⟩ hX hz hK hP hD hwf hS hA hj10 (by decide) rfl rfl rfl hl.1 (Nat.le_of_ble_eq_true rfl) d_Reckoner_operate_112 ⟨Nat.le_of_ble_eq_true rfl, Nat.le_of_ble_eq_true rfl⟩) hP hD hK hS hA rfl rfl (fun H locs hw hP hD hS => ?_)
    obtain ⟨hwf, hk9, zr13⟩ := hw
    have hkp := hkp.tr hk9
    refine lv_if_eq (tgt := 126) hx hb d_Reckoner_operate_115 (by decide) (fun c14 => ?_) (fun c14 => ?_)
    · have h := if_t c14 h
      exact b_126 M12 _ _ _ h hwf hkp hP hD hS (lv_sub hl [0, 1, 2] rfl)
    have h := if_f c14 h
    refine lv_aload hx hb d_Reckoner_operate_118 (lv_at hl 2 rfl) ?_
    obtain ⟨M15, eM15, h⟩ := bd_ob h
    refine me_thenv0 (M1 := M15) (me_runV (C := "FilterGuard$Num") (As := []) (rest := []) ⟨hx, hb, hml, hown, hts⟩ (c_Num_any l D ad ca N M12 M15 j5 eM15 hwf hj5 _) rfl (by show fg_nm y_Num_any 0; decide +kernel) u_1130 u_1131 u_1132 u_187 u_1133 ⟨Nat.le_of_ble_eq_true rfl, Nat.le_of_ble_eq_true rfl⟩ hX hz hK hP hD hwf hS hA hj5 (by decide) rfl rfl rfl hl.1 (Nat.le_of_ble_eq_true rfl) d_Reckoner_operate_120 ⟨Nat.le_of_ble_eq_true rfl, Nat.le_of_ble_eq_true rfl⟩) hP hD hK hS hA rfl rfl (fun H locs hw hP hD hS => ?_)
    obtain ⟨hwf, hk9⟩ := hw
    have hkp := hkp.tr hk9
    refine lv_goto (tgt := 152) hx hb d_Reckoner_operate_123 (by decide) ?_
    refine lv_aload_n hx hb d_Reckoner_operate_152 rfl (lv_at hl 0 rfl) ?_
    refine lv_aload hx hb d_Reckoner_operate_153 (lv_at hl 2 rfl) ?_
    obtain ⟨M16, eM16, h⟩ := bd_ob h
    refine me_thenv0 (M1 := M16) (me_runV (C := "FilterGuard$Reckoner") (As := [.ref (ad 11 j5)]) (rest := []) ⟨hx, hb, hml, hown, hts⟩ (c_Reckoner_narrow l D ad ca N M15 M16 j0 j5 eM16 hwf hj0 hj5 _) rfl (by show fg_nm y_Reckoner_narrow 1; decide +kernel) u_1236 u_1237 u_1238 u_186 u_1239 ⟨Nat.le_of_ble_eq_true rfl, Nat.le_of_ble_eq_true rfl⟩ hX hz hK hP hD hwf hS hA hj0 (by decide) rfl rfl rfl hl.1 (Nat.le_of_ble_eq_true rfl) d_Reckoner_operate_155 ⟨Nat.le_of_ble_eq_true rfl, Nat.le_of_ble_eq_true rfl⟩) hP hD hK hS hA rfl rfl (fun H locs hw hP hD hS => ?_)
    obtain ⟨hwf, hk9⟩ := hw
    have hkp := hkp.tr hk9
    exact me_retv (me_kp M0) h hx hb hr hlocks hwf hkp hP hK hD hS d_Reckoner_operate_158
  have b_64 : ∀ (M : me_M) (s0 : Int32) (H : Heap) (locs : List Loc) (ls : Array Slot), f_Reckoner_operate_b64 j0 x1 j5 M s0 = (some MZ) → (s0 = 1 ∨ s0 = 0) → me_wf N M → me_kp M0 M → va_P D classes (me_W ad ca M) H → va_D A (me_W ad ca M) → va_S A s.heap H locs → lv_has ls 7 [(0, .ref (ad 8 j0)), (1, .int x1), (5, .ref (ad 11 j5))] → W p l e rm_Reckoner_operate s m [.ref (ad 8 j0), .int x1, .ref (ad 11 j2), .ref (ad 11 j3), .int x4, .ref (ad 11 j5)].toArray below meth c H locs 0 0 (MQ below (q_Reckoner_operate D ad ca N M0 MZ A) [.ref (ad 8 j0), .int x1, .ref (ad 11 j2), .ref (ad 11 j3), .int x4, .ref (ad 11 j5)].toArray s rm_Reckoner_operate.cells rm_Reckoner_operate.slots A) (F0 m 64 ls [.int s0]) := by
    intro M s0 H locs ls h zs0 hwf hkp hP hD hS hl
    unfold f_Reckoner_operate_b64 at h
    have hkb := hkp
    refine lv_istore (lv' := [(6, .int s0), (0, .ref (ad 8 j0)), (1, .int x1), (5, .ref (ad 11 j5))]) hx hb d_Reckoner_operate_64 hl (by decide) rfl (fun ls hl => ?_)
    refine lv_iload hx hb d_Reckoner_operate_66 (lv_at hl 0 rfl) ?_
    refine lv_if_eq (tgt := 99) hx hb d_Reckoner_operate_68 (by decide) (fun c17 => ?_) (fun c17 => ?_)
    · have h := if_t c17 h
      exact b_99 M _ _ _ h hwf hkp hP hD hS (lv_sub hl [1, 2, 3] rfl)
    have h := if_f c17 h
    refine lv_aload_n hx hb d_Reckoner_operate_71 rfl (lv_at hl 1 rfl) ?_
    refine g_Reckoner_1 hx hb hts hown hK hP hwf hj0 (hts _ u_397) d_Reckoner_operate_72 ?_
    obtain ⟨j18, e19, h⟩ := bd_ob h
    have hj18 : j18 < N 11 := (hwf.2.1 8 j0 1 _ e19 (by decide) hj0)
    refine me_opt (j := j18) e19 ?_
    obtain ⟨M20, r21, eM20, h⟩ := b2_ob h
    refine me_theni0 (M1 := M20) (me_runV (C := "FilterGuard$Num") (As := []) (rest := []) ⟨hx, hb, hml, hown, hts⟩ (c_Num_isExact0 l D ad ca N M M20 r21 j18 eM20 hwf hj18 _) rfl (by show fg_nm y_Num_isExact0 0; decide +kernel) u_1157 u_1158 u_1159 u_187 u_1160 ⟨Nat.le_of_ble_eq_true rfl, Nat.le_of_ble_eq_true rfl⟩ hX hz hK hP hD hwf hS hA hj18 (by decide) rfl rfl rfl hl.1 (Nat.le_of_ble_eq_true rfl) d_Reckoner_operate_75 ⟨Nat.le_of_ble_eq_true rfl, Nat.le_of_ble_eq_true rfl⟩) hP hD hK hS hA rfl rfl (fun H locs hw hP hD hS => ?_)
    obtain ⟨hwf, hk9, zr21⟩ := hw
    have hkp := hkp.tr hk9
    refine lv_if_eq (tgt := 99) hx hb d_Reckoner_operate_78 (by decide) (fun c22 => ?_) (fun c22 => ?_)
    · have h := if_t c22 h
      exact b_99 M20 _ _ _ h hwf hkp hP hD hS (lv_sub hl [1, 2, 3] rfl)
    have h := if_f c22 h
    refine lv_aload_n hx hb d_Reckoner_operate_81 rfl (lv_at hl 1 rfl) ?_
    refine g_Reckoner_1 hx hb hts hown hK hP hwf hj0 (hts _ u_397) d_Reckoner_operate_82 ?_
    refine me_opt (j := j18) (kp_r hkb hkp e19) ?_
    refine lv_aload_n hx hb d_Reckoner_operate_85 rfl (lv_at hl 1 rfl) ?_
    refine g_Reckoner_1 hx hb hts hown hK hP hwf hj0 (hts _ u_397) d_Reckoner_operate_86 ?_
    refine me_opt (j := j18) (kp_r hkb hkp e19) ?_
    refine g_Num_0 hx hb hts hown hK hP hwf hj18 (hts _ u_368) d_Reckoner_operate_89 ?_
    refine lv_ldc2 hx hb hown (hts _ u_1240) d_Reckoner_operate_92 ?_
    refine lv_land hx hb d_Reckoner_operate_95 ?_
    obtain ⟨M23, eM23, h⟩ := bd_ob h
    refine me_thenv0 (M1 := M23) (me_runV (C := "FilterGuard$Num") (As := [.long ((mL M20 11 j18 0) &&& 31)]) (rest := []) ⟨hx, hb, hml, hown, hts⟩ (c_Num_exact l D ad ca N M20 M23 j18 ((mL M20 11 j18 0) &&& 31) eM23 hwf hj18 _) rfl (by show fg_nm y_Num_exact 1; decide +kernel) u_1161 u_1037 u_1038 u_187 u_1039 ⟨Nat.le_of_ble_eq_true rfl, Nat.le_of_ble_eq_true rfl⟩ hX hz hK hP hD hwf hS hA hj18 (by decide) rfl rfl rfl hl.1 (Nat.le_of_ble_eq_true rfl) d_Reckoner_operate_96 ⟨Nat.le_of_ble_eq_true rfl, Nat.le_of_ble_eq_true rfl⟩) hP hD hK hS hA rfl rfl (fun H locs hw hP hD hS => ?_)
    obtain ⟨hwf, hk9⟩ := hw
    have hkp := hkp.tr hk9
    exact b_99 M23 _ _ _ h hwf hkp hP hD hS (lv_sub hl [1, 2, 3] rfl)
  have b_63 : ∀ (M : me_M) (H : Heap) (locs : List Loc) (ls : Array Slot), f_Reckoner_operate_b63 j0 x1 j5 M = (some MZ) → me_wf N M → me_kp M0 M → va_P D classes (me_W ad ca M) H → va_D A (me_W ad ca M) → va_S A s.heap H locs → lv_has ls 7 [(0, .ref (ad 8 j0)), (1, .int x1), (5, .ref (ad 11 j5))] → W p l e rm_Reckoner_operate s m [.ref (ad 8 j0), .int x1, .ref (ad 11 j2), .ref (ad 11 j3), .int x4, .ref (ad 11 j5)].toArray below meth c H locs 0 0 (MQ below (q_Reckoner_operate D ad ca N M0 MZ A) [.ref (ad 8 j0), .int x1, .ref (ad 11 j2), .ref (ad 11 j3), .int x4, .ref (ad 11 j5)].toArray s rm_Reckoner_operate.cells rm_Reckoner_operate.slots A) (F0 m 63 ls []) := by
    intro M H locs ls h hwf hkp hP hD hS hl
    unfold f_Reckoner_operate_b63 at h
    have hkb := hkp
    refine lv_iconst (v := 0) hx hb d_Reckoner_operate_63 (by decide) ?_
    exact b_64 M (0 : Int32) _ _ _ h (by decide) hwf hkp hP hD hS (lv_sub hl [0, 1, 2] rfl)
  refine lv_iload hx hb d_Reckoner_operate_0 (lv_at hl 4 rfl) ?_
  refine lv_if_ne (tgt := 15) hx hb d_Reckoner_operate_2 (by decide) (fun c24 => ?_) (fun c24 => ?_)
  · have h := if_f c24 h
    refine lv_aload_n hx hb d_Reckoner_operate_15 rfl (lv_at hl 0 rfl) ?_
    refine g_Reckoner_0 hx hb hts hown hK hP hwf hj0 (hts _ u_396) d_Reckoner_operate_16 ?_
    obtain ⟨j25, e26, h⟩ := bd_ob h
    have hj25 : j25 < N 11 := (hwf.2.1 8 j0 0 _ e26 (by decide) hj0)
    refine me_opt (j := j25) e26 ?_
    refine lv_aload_n hx hb d_Reckoner_operate_19 rfl (lv_at hl 2 rfl) ?_
    obtain ⟨M27, eM27, h⟩ := bd_ob h
    refine me_thenv0 (M1 := M27) (me_runV (C := "FilterGuard$Num") (As := [.ref (ad 11 j2)]) (rest := []) ⟨hx, hb, hml, hown, hts⟩ (c_Num_copy l D ad ca N M0 M27 j25 j2 eM27 hwf hj25 hj2 _) rfl (by show fg_nm y_Num_copy 1; decide +kernel) u_1189 u_1083 u_1084 u_187 u_1085 ⟨Nat.le_of_ble_eq_true rfl, Nat.le_of_ble_eq_true rfl⟩ hX hz hK hP hD hwf hS hA hj25 (by decide) rfl rfl rfl hl.1 (Nat.le_of_ble_eq_true rfl) d_Reckoner_operate_20 ⟨Nat.le_of_ble_eq_true rfl, Nat.le_of_ble_eq_true rfl⟩) hP hD hK hS hA rfl rfl (fun H locs hw hP hD hS => ?_)
    obtain ⟨hwf, hk9⟩ := hw
    have hkp := hkp.tr hk9
    refine lv_aload_n hx hb d_Reckoner_operate_23 rfl (lv_at hl 0 rfl) ?_
    refine lv_aload_n hx hb d_Reckoner_operate_24 rfl (lv_at hl 0 rfl) ?_
    refine g_Reckoner_0 hx hb hts hown hK hP hwf hj0 (hts _ u_396) d_Reckoner_operate_25 ?_
    refine me_opt (j := j25) (kp_r hkb hkp e26) ?_
    obtain ⟨M28, eM28, h⟩ := bd_ob h
    refine me_thenv0 (M1 := M28) (me_runV (C := "FilterGuard$Reckoner") (As := [.ref (ad 11 j25)]) (rest := []) ⟨hx, hb, hml, hown, hts⟩ (c_Reckoner_narrow l D ad ca N M27 M28 j0 j25 eM28 hwf hj0 hj25 _) rfl (by show fg_nm y_Reckoner_narrow 1; decide +kernel) u_1236 u_1237 u_1238 u_186 u_1239 ⟨Nat.le_of_ble_eq_true rfl, Nat.le_of_ble_eq_true rfl⟩ hX hz hK hP hD hwf hS hA hj0 (by decide) rfl rfl rfl hl.1 (Nat.le_of_ble_eq_true rfl) d_Reckoner_operate_28 ⟨Nat.le_of_ble_eq_true rfl, Nat.le_of_ble_eq_true rfl⟩) hP hD hK hS hA rfl rfl (fun H locs hw hP hD hS => ?_)
    obtain ⟨hwf, hk9⟩ := hw
    have hkp := hkp.tr hk9
    refine lv_aload_n hx hb d_Reckoner_operate_31 rfl (lv_at hl 0 rfl) ?_
    refine g_Reckoner_1 hx hb hts hown hK hP hwf hj0 (hts _ u_397) d_Reckoner_operate_32 ?_
    obtain ⟨j29, e30, h⟩ := bd_ob h
    have hj29 : j29 < N 11 := (hwf.2.1 8 j0 1 _ (kp_r hkb hkp e30) (by decide) hj0)
    refine me_opt (j := j29) (kp_r hkb hkp e30) ?_
    refine lv_aload_n hx hb d_Reckoner_operate_35 rfl (lv_at hl 3 rfl) ?_
    obtain ⟨M31, eM31, h⟩ := bd_ob h
    refine me_thenv0 (M1 := M31) (me_runV (C := "FilterGuard$Num") (As := [.ref (ad 11 j3)]) (rest := []) ⟨hx, hb, hml, hown, hts⟩ (c_Num_copy l D ad ca N M28 M31 j29 j3 eM31 hwf hj29 hj3 _) rfl (by show fg_nm y_Num_copy 1; decide +kernel) u_1189 u_1083 u_1084 u_187 u_1085 ⟨Nat.le_of_ble_eq_true rfl, Nat.le_of_ble_eq_true rfl⟩ hX hz hK hP hD hwf hS hA hj29 (by decide) rfl rfl rfl hl.1 (Nat.le_of_ble_eq_true rfl) d_Reckoner_operate_36 ⟨Nat.le_of_ble_eq_true rfl, Nat.le_of_ble_eq_true rfl⟩) hP hD hK hS hA rfl rfl (fun H locs hw hP hD hS => ?_)
    obtain ⟨hwf, hk9⟩ := hw
    have hkp := hkp.tr hk9
    refine lv_aload_n hx hb d_Reckoner_operate_39 rfl (lv_at hl 0 rfl) ?_
    refine lv_aload_n hx hb d_Reckoner_operate_40 rfl (lv_at hl 0 rfl) ?_
    refine g_Reckoner_1 hx hb hts hown hK hP hwf hj0 (hts _ u_397) d_Reckoner_operate_41 ?_
    refine me_opt (j := j29) (kp_r hkb hkp e30) ?_
    obtain ⟨M32, eM32, h⟩ := bd_ob h
    refine me_thenv0 (M1 := M32) (me_runV (C := "FilterGuard$Reckoner") (As := [.ref (ad 11 j29)]) (rest := []) ⟨hx, hb, hml, hown, hts⟩ (c_Reckoner_narrow l D ad ca N M31 M32 j0 j29 eM32 hwf hj0 hj29 _) rfl (by show fg_nm y_Reckoner_narrow 1; decide +kernel) u_1236 u_1237 u_1238 u_186 u_1239 ⟨Nat.le_of_ble_eq_true rfl, Nat.le_of_ble_eq_true rfl⟩ hX hz hK hP hD hwf hS hA hj0 (by decide) rfl rfl rfl hl.1 (Nat.le_of_ble_eq_true rfl) d_Reckoner_operate_44 ⟨Nat.le_of_ble_eq_true rfl, Nat.le_of_ble_eq_true rfl⟩) hP hD hK hS hA rfl rfl (fun H locs hw hP hD hS => ?_)
    obtain ⟨hwf, hk9⟩ := hw
    have hkp := hkp.tr hk9
    refine lv_iload_n hx hb d_Reckoner_operate_47 rfl (lv_at hl 1 rfl) ?_
    refine lv_bipush (v := 8) hx hb d_Reckoner_operate_48 (by decide) ?_
    refine lv_icmp_lt (tgt := 63) hx hb d_Reckoner_operate_50 (by decide) (fun c33 => ?_) (fun c33 => ?_)
    · have h := if_t c33 h
      exact b_63 M32 _ _ _ h hwf hkp hP hD hS (lv_sub hl [0, 1, 5] rfl)
    have h := if_f c33 h
    refine lv_iload_n hx hb d_Reckoner_operate_53 rfl (lv_at hl 1 rfl) ?_
    refine lv_bipush (v := 10) hx hb d_Reckoner_operate_54 (by decide) ?_
    refine lv_icmp_gt (tgt := 63) hx hb d_Reckoner_operate_56 (by decide) (fun c34 => ?_) (fun c34 => ?_)
    · have h := if_t c34 h
      exact b_63 M32 _ _ _ h hwf hkp hP hD hS (lv_sub hl [0, 1, 5] rfl)
    have h := if_f c34 h
    refine lv_iconst (v := 1) hx hb d_Reckoner_operate_59 (by decide) ?_
    refine lv_goto (tgt := 64) hx hb d_Reckoner_operate_60 (by decide) ?_
    exact b_64 M32 (1 : Int32) _ _ _ h (by decide) hwf hkp hP hD hS (lv_sub hl [0, 1, 5] rfl)
  have h := if_t c24 h
  refine lv_aload_n hx hb d_Reckoner_operate_5 rfl (lv_at hl 0 rfl) ?_
  refine lv_iload_n hx hb d_Reckoner_operate_6 rfl (lv_at hl 1 rfl) ?_
  refine lv_aload_n hx hb d_Reckoner_operate_7 rfl (lv_at hl 2 rfl) ?_
  refine lv_aload_n hx hb d_Reckoner_operate_8 rfl (lv_at hl 3 rfl) ?_
  refine lv_aload hx hb d_Reckoner_operate_9 (lv_at hl 5 rfl) ?_
  obtain ⟨M35, eM35, h⟩ := bd_ob h
  refine me_thenv0 (M1 := M35) (me_runV (C := "FilterGuard$Reckoner") (As := [.int x1, .ref (ad 11 j2), .ref (ad 11 j3), .ref (ad 11 j5)]) (rest := []) ⟨hx, hb, hml, hown, hts⟩ (c_Reckoner_operateWide l D ad ca N M0 M35 j0 x1 j2 j3 j5 eM35 hwf hj0 hj2 hj3 hj5 _) rfl (by show fg_nm y_Reckoner_operateWide 4; decide +kernel) u_1126 u_1127 u_1128 u_186 u_1129 ⟨Nat.le_of_ble_eq_true rfl, Nat.le_of_ble_eq_true rfl⟩ hX hz hK hP hD hwf hS hA hj0 (by decide) rfl rfl rfl hl.1 (Nat.le_of_ble_eq_true rfl) d_Reckoner_operate_11 ⟨Nat.le_of_ble_eq_true rfl, Nat.le_of_ble_eq_true rfl⟩) hP hD hK hS hA rfl rfl (fun H locs hw hP hD hS => ?_)
  obtain ⟨hwf, hk9⟩ := hw
  have hkp := hkp.tr hk9
  exact me_retv (me_kp M0) h hx hb hr hlocks hwf hkp hP hK hD hS d_Reckoner_operate_14
theorem d_Cell_isPointer_0 : decode prog_2_method_8_code 0 = .ok (.aload_n 0, 1) := by decide +kernel
theorem d_Cell_isPointer_1 : decode prog_2_method_8_code 1 = .ok (.getfield 18, 3) := by decide +kernel
theorem d_Cell_isPointer_4 : decode prog_2_method_8_code 4 = .ok (.iconst 2, 1) := by decide +kernel
theorem d_Cell_isPointer_5 : decode prog_2_method_8_code 5 = .ok (.if_icmp .eq 28, 3) := by decide +kernel
theorem d_Cell_isPointer_33 : decode prog_2_method_8_code 33 = .ok (.iconst 1, 1) := by decide +kernel
theorem d_Cell_isPointer_34 : decode prog_2_method_8_code 34 = .ok (.goto 4, 3) := by decide +kernel
theorem d_Cell_isPointer_38 : decode prog_2_method_8_code 38 = .ok (.ireturn, 1) := by decide +kernel
theorem d_Cell_isPointer_8 : decode prog_2_method_8_code 8 = .ok (.aload_n 0, 1) := by decide +kernel
theorem d_Cell_isPointer_9 : decode prog_2_method_8_code 9 = .ok (.getfield 18, 3) := by decide +kernel
theorem d_Cell_isPointer_12 : decode prog_2_method_8_code 12 = .ok (.iconst 3, 1) := by decide +kernel
theorem d_Cell_isPointer_13 : decode prog_2_method_8_code 13 = .ok (.if_icmp .eq 20, 3) := by decide +kernel
theorem d_Cell_isPointer_16 : decode prog_2_method_8_code 16 = .ok (.aload_n 0, 1) := by decide +kernel
theorem d_Cell_isPointer_17 : decode prog_2_method_8_code 17 = .ok (.getfield 18, 3) := by decide +kernel
theorem d_Cell_isPointer_20 : decode prog_2_method_8_code 20 = .ok (.iconst 4, 1) := by decide +kernel
theorem d_Cell_isPointer_21 : decode prog_2_method_8_code 21 = .ok (.if_icmp .eq 12, 3) := by decide +kernel
theorem d_Cell_isPointer_24 : decode prog_2_method_8_code 24 = .ok (.aload_n 0, 1) := by decide +kernel
theorem d_Cell_isPointer_25 : decode prog_2_method_8_code 25 = .ok (.getfield 18, 3) := by decide +kernel
theorem d_Cell_isPointer_28 : decode prog_2_method_8_code 28 = .ok (.bipush 7, 2) := by decide +kernel
theorem d_Cell_isPointer_30 : decode prog_2_method_8_code 30 = .ok (.if_icmp .ne 7, 3) := by decide +kernel
theorem d_Cell_isPointer_37 : decode prog_2_method_8_code 37 = .ok (.iconst 0, 1) := by decide +kernel
abbrev y_Cell_isPointer : MethodName := ⟨"FilterGuard$Cell", "isPointer", "()Z"⟩
def rm_Cell_isPointer : Room := { frames := 1, cells := 0, slots := 0, locals := 20 }
abbrev q_Cell_isPointer (D : va_G) (ad : Nat → Nat → Nat) (ca : Nat → ClassId) (N : Nat → Nat) (M0 MZ : me_M) (RZ : Int32) (A : Nat → Prop) : Array Value → Jvm.State → Outcome → Jvm.State → Prop := va_Qi (fun r (_ : Unit) => r = RZ ∧ me_wf N MZ ∧ me_kp M0 MZ ∧ (RZ = 1 ∨ RZ = 0)) (fg_B D A (fun _ => me_W ad ca MZ) (fun _ => [])) A
set_option maxHeartbeats 4000000 in
set_option maxRecDepth 100000 in
theorem c_Cell_isPointer (l : Launch) (D : va_G) (ad : Nat → Nat → Nat) (ca : Nat → ClassId) (N : Nat → Nat) (M0 MZ : me_M) (RZ : Int32) (j0 : Nat) (h : f_Cell_isPointer M0 j0 = (some (MZ, RZ))) (hwf : me_wf N M0) (hj0 : j0 < N 10) (sz : Nat) : Met l y_Cell_isPointer (fg_w y_Cell_isPointer prog_2_method_8_code 1 (some .boolean)) rm_Cell_isPointer (va_Pc [.ref (ad 10 j0)] (fz_P D (me_T ca) (me_W ad ca M0) sz)) (q_Cell_isPointer D ad ca N M0 MZ RZ (va_A (me_W ad ca M0) sz)) rm_Cell_isPointer.cells rm_Cell_isPointer.slots (va_A (me_W ad ca M0) sz) := by
  refine fz_enter (fun A => q_Cell_isPointer D ad ca N M0 MZ RZ A) (by decide +kernel) (Nat.le_of_ble_eq_true rfl) ?_
  intro p e s m below meth c ls A hx hb hml hown hts hr hlocks hin hP hK hD hS hA hX hl hz
  have hl : lv_has ls 1 [(0, .ref (ad 10 j0))] := hl
  unfold f_Cell_isPointer at h
  have hkp : me_kp M0 M0 := me_kp.rf
  have hkb := hkp
  refine lv_aload_n hx hb d_Cell_isPointer_0 rfl (lv_at hl 0 rfl) ?_
  refine g_Cell_0 hx hb hts hown hK hP hwf hj0 (hts _ u_420) d_Cell_isPointer_1 ?_
  refine lv_iconst (v := 2) hx hb d_Cell_isPointer_4 (by decide) ?_
  refine lv_icmp_eq (tgt := 33) hx hb d_Cell_isPointer_5 (by decide) (fun c1 => ?_) (fun c1 => ?_)
  · have h := if_t c1 h
    refine lv_iconst (v := 1) hx hb d_Cell_isPointer_33 (by decide) ?_
    refine lv_goto (tgt := 38) hx hb d_Cell_isPointer_34 (by decide) ?_
    exact me_retz (me_kp M0) h (by decide) hx hb hr hlocks hwf hkp hP hK hD hS d_Cell_isPointer_38
  have h := if_f c1 h
  refine lv_aload_n hx hb d_Cell_isPointer_8 rfl (lv_at hl 0 rfl) ?_
  refine g_Cell_0 hx hb hts hown hK hP hwf hj0 (hts _ u_420) d_Cell_isPointer_9 ?_
  refine lv_iconst (v := 3) hx hb d_Cell_isPointer_12 (by decide) ?_
  refine lv_icmp_eq (tgt := 33) hx hb d_Cell_isPointer_13 (by decide) (fun c2 => ?_) (fun c2 => ?_)
  · have h := if_t c2 h
    refine lv_iconst (v := 1) hx hb d_Cell_isPointer_33 (by decide) ?_
    refine lv_goto (tgt := 38) hx hb d_Cell_isPointer_34 (by decide) ?_
    exact me_retz (me_kp M0) h (by decide) hx hb hr hlocks hwf hkp hP hK hD hS d_Cell_isPointer_38
  have h := if_f c2 h
  refine lv_aload_n hx hb d_Cell_isPointer_16 rfl (lv_at hl 0 rfl) ?_
  refine g_Cell_0 hx hb hts hown hK hP hwf hj0 (hts _ u_420) d_Cell_isPointer_17 ?_
  refine lv_iconst (v := 4) hx hb d_Cell_isPointer_20 (by decide) ?_
  refine lv_icmp_eq (tgt := 33) hx hb d_Cell_isPointer_21 (by decide) (fun c3 => ?_) (fun c3 => ?_)
  · have h := if_t c3 h
    refine lv_iconst (v := 1) hx hb d_Cell_isPointer_33 (by decide) ?_
    refine lv_goto (tgt := 38) hx hb d_Cell_isPointer_34 (by decide) ?_
    exact me_retz (me_kp M0) h (by decide) hx hb hr hlocks hwf hkp hP hK hD hS d_Cell_isPointer_38
  have h := if_f c3 h
  refine lv_aload_n hx hb d_Cell_isPointer_24 rfl (lv_at hl 0 rfl) ?_
  refine g_Cell_0 hx hb hts hown hK hP hwf hj0 (hts _ u_420) d_Cell_isPointer_25 ?_
  refine lv_bipush (v := 7) hx hb d_Cell_isPointer_28 (by decide) ?_
  refine lv_icmp_ne (tgt := 37) hx hb d_Cell_isPointer_30 (by decide) (fun c4 => ?_) (fun c4 => ?_)
  · have h := if_f c4 h
    refine lv_iconst (v := 0) hx hb d_Cell_isPointer_37 (by decide) ?_
    exact me_retz (me_kp M0) h (by decide) hx hb hr hlocks hwf hkp hP hK hD hS d_Cell_isPointer_38
  have h := if_t c4 h
  refine lv_iconst (v := 1) hx hb d_Cell_isPointer_33 (by decide) ?_
  refine lv_goto (tgt := 38) hx hb d_Cell_isPointer_34 (by decide) ?_
  exact me_retz (me_kp M0) h (by decide) hx hb hr hlocks hwf hkp hP hK hD hS d_Cell_isPointer_38
theorem d_Steps_newIdentity_0 : decode prog_11_method_8_code 0 = .ok (.aload_n 0, 1) := by decide +kernel
theorem d_Steps_newIdentity_1 : decode prog_11_method_8_code 1 = .ok (.dup, 1) := by decide +kernel
theorem d_Steps_newIdentity_2 : decode prog_11_method_8_code 2 = .ok (.getfield 52, 3) := by decide +kernel
theorem g_Steps_7 {p : Program} {l : Launch} {e : Env} {R : Room} {s : Jvm.State} {m : MethodId} {args : Array Value} {below : List Frame} {meth : Method} {c : Code} {H : Heap} {locs : List Loc} {cells slots : Nat} {Q : Jvm.State → Prop} {cc : ByteArray} {pc : Nat} {ls : Array Slot} {rest : List Value} {D : va_G} {ad : Nat → Nat → Nat} {ca : Nat → ClassId} {M : me_M} {N : Nat → Nat} {own : String} {index j : Nat} (hexec : p.tables.exec = Jvm.exec) (hb : c.code = cc) (hts : ∀ w ∈ fg_g, w.before args s = true) (hown : s.vm.findClass own = some m.cls) (hK : va_K D classes (me_T ca) s) (hP : va_P D classes (me_W ad ca M) H) (hwf : me_wf N M) (hj : j < N 7) (hlink : (Cond.fieldLink own index "FilterGuard$Steps" "identities" "I").before args s = true) (hdg : decode cc pc = .ok (.getfield index, 3)) (kk : W p l e R s m args below meth c H locs cells slots Q (F0 m (pc + 3) ls (.int (mI M 7 j 7) :: rest))) : W p l e R s m args below meth c H locs cells slots Q (F0 m pc ls (.ref (ad 7 j) :: rest)) := me_get (k := 7) (f := 7) (C := "FilterGuard$Steps") (T := F_Steps) (Nf := 19) hexec hb hts i_Steps hown hK hP hwf hj (by decide) rfl (by decide) (by decide) hlink (fun _ h9 => h9) hdg kk
theorem d_Steps_newIdentity_5 : decode prog_11_method_8_code 5 = .ok (.iconst 1, 1) := by decide +kernel
theorem d_Steps_newIdentity_6 : decode prog_11_method_8_code 6 = .ok (.iadd, 1) := by decide +kernel
theorem d_Steps_newIdentity_7 : decode prog_11_method_8_code 7 = .ok (.putfield 52, 3) := by decide +kernel
theorem d_Steps_newIdentity_10 : decode prog_11_method_8_code 10 = .ok (.aload_n 0, 1) := by decide +kernel
theorem d_Steps_newIdentity_11 : decode prog_11_method_8_code 11 = .ok (.getfield 52, 3) := by decide +kernel
theorem d_Steps_newIdentity_14 : decode prog_11_method_8_code 14 = .ok (.ireturn, 1) := by decide +kernel
abbrev y_Steps_newIdentity : MethodName := ⟨"FilterGuard$Steps", "newIdentity", "()I"⟩
def rm_Steps_newIdentity : Room := { frames := 1, cells := 0, slots := 0, locals := 20 }
abbrev q_Steps_newIdentity (D : va_G) (ad : Nat → Nat → Nat) (ca : Nat → ClassId) (N : Nat → Nat) (M0 MZ : me_M) (RZ : Int32) (A : Nat → Prop) : Array Value → Jvm.State → Outcome → Jvm.State → Prop := va_Qi (fun r (_ : Unit) => r = RZ ∧ me_wf N MZ ∧ me_kp M0 MZ) (fg_B D A (fun _ => me_W ad ca MZ) (fun _ => [])) A
set_option maxHeartbeats 4000000 in
set_option maxRecDepth 100000 in
theorem c_Steps_newIdentity (l : Launch) (D : va_G) (ad : Nat → Nat → Nat) (ca : Nat → ClassId) (N : Nat → Nat) (M0 MZ : me_M) (RZ : Int32) (j0 : Nat) (h : f_Steps_newIdentity M0 j0 = (some (MZ, RZ))) (hwf : me_wf N M0) (hj0 : j0 < N 7) (sz : Nat) : Met l y_Steps_newIdentity (fg_w y_Steps_newIdentity prog_11_method_8_code 1 (some .int)) rm_Steps_newIdentity (va_Pc [.ref (ad 7 j0)] (fz_P D (me_T ca) (me_W ad ca M0) sz)) (q_Steps_newIdentity D ad ca N M0 MZ RZ (va_A (me_W ad ca M0) sz)) rm_Steps_newIdentity.cells rm_Steps_newIdentity.slots (va_A (me_W ad ca M0) sz) := by
  refine fz_enter (fun A => q_Steps_newIdentity D ad ca N M0 MZ RZ A) (by decide +kernel) (Nat.le_of_ble_eq_true rfl) ?_
  intro p e s m below meth c ls A hx hb hml hown hts hr hlocks hin hP hK hD hS hA hX hl hz
  have hl : lv_has ls 1 [(0, .ref (ad 7 j0))] := hl
  unfold f_Steps_newIdentity at h
  have hkp : me_kp M0 M0 := me_kp.rf
  have hkb := hkp
  refine lv_aload_n hx hb d_Steps_newIdentity_0 rfl (lv_at hl 0 rfl) ?_
  refine lv_dup hx hb d_Steps_newIdentity_1 rfl ?_
  refine g_Steps_7 hx hb hts hown hK hP hwf hj0 (hts _ u_462) d_Steps_newIdentity_2 ?_
  refine lv_iconst (v := 1) hx hb d_Steps_newIdentity_5 (by decide) ?_
  refine lv_iadd hx hb d_Steps_newIdentity_6 ?_
  obtain ⟨M1, eM1, h⟩ := st_ob h
  refine p_Steps_7 eM1 hx hb hts hown hK hP hD hwf hS hj0 (hts _ u_462) d_Steps_newIdentity_7 (fun H locs hP hD hwf hS => ?_)
  have hkp := kp_I eM1 hkp
  refine lv_aload_n hx hb d_Steps_newIdentity_10 rfl (lv_at hl 0 rfl) ?_
  refine g_Steps_7 hx hb hts hown hK hP hwf hj0 (hts _ u_462) d_Steps_newIdentity_11 ?_
  exact me_reti (me_kp M0) h hx hb hr hlocks hwf hkp hP hK hD hS d_Steps_newIdentity_14
theorem d_Steps_shift_119 : decode prog_11_method_7_code 119 = .ok (.istore 4, 2) := by decide +kernel
theorem d_Steps_shift_121 : decode prog_11_method_7_code 121 = .ok (.iload_n 3, 1) := by decide +kernel
theorem d_Steps_shift_122 : decode prog_11_method_7_code 122 = .ok (.ifCond .ne 18, 3) := by decide +kernel
theorem d_Steps_shift_140 : decode prog_11_method_7_code 140 = .ok (.bipush 11, 2) := by decide +kernel
theorem d_Steps_shift_142 : decode prog_11_method_7_code 142 = .ok (.ireturn, 1) := by decide +kernel
theorem d_Steps_shift_125 : decode prog_11_method_7_code 125 = .ok (.iload 4, 2) := by decide +kernel
theorem d_Steps_shift_127 : decode prog_11_method_7_code 127 = .ok (.ifCond .ne 13, 3) := by decide +kernel
theorem d_Steps_shift_130 : decode prog_11_method_7_code 130 = .ok (.aload_n 2, 1) := by decide +kernel
theorem d_Steps_shift_131 : decode prog_11_method_7_code 131 = .ok (.ldc2_w 176, 3) := by decide +kernel
theorem u_1252 : Cond.constantLong "FilterGuard$Steps" 176 65535 ∈ fg_g := fg_in (List.mem_of_getElem? (i := 1252) (by decide +kernel)) rfl
theorem d_Steps_shift_134 : decode prog_11_method_7_code 134 = .ok (.invokevirtual 183, 3) := by decide +kernel
theorem u_1255 : Cond.methodLink "FilterGuard$Steps" 183 ⟨"FilterGuard$Num", "isAbove", "(J)Z"⟩ ∈ fg_g := fg_in (List.mem_of_getElem? (i := 1255) (by decide +kernel)) rfl
theorem d_Steps_shift_137 : decode prog_11_method_7_code 137 = .ok (.ifCond .eq 6, 3) := by decide +kernel
theorem d_Steps_shift_143 : decode prog_11_method_7_code 143 = .ok (.aload_n 0, 1) := by decide +kernel
theorem d_Steps_shift_144 : decode prog_11_method_7_code 144 = .ok (.getfield 12, 3) := by decide +kernel
theorem g_Steps_2 {p : Program} {l : Launch} {e : Env} {R : Room} {s : Jvm.State} {m : MethodId} {args : Array Value} {below : List Frame} {meth : Method} {c : Code} {H : Heap} {locs : List Loc} {cells slots : Nat} {Q : Jvm.State → Prop} {cc : ByteArray} {pc : Nat} {ls : Array Slot} {rest : List Value} {D : va_G} {ad : Nat → Nat → Nat} {ca : Nat → ClassId} {M : me_M} {N : Nat → Nat} {own : String} {index j : Nat} (hexec : p.tables.exec = Jvm.exec) (hb : c.code = cc) (hts : ∀ w ∈ fg_g, w.before args s = true) (hown : s.vm.findClass own = some m.cls) (hK : va_K D classes (me_T ca) s) (hP : va_P D classes (me_W ad ca M) H) (hwf : me_wf N M) (hj : j < N 7) (hlink : (Cond.fieldLink own index "FilterGuard$Steps" "reckoner" "LFilterGuard$Reckoner;").before args s = true) (hdg : decode cc pc = .ok (.getfield index, 3)) (kk : W p l e R s m args below meth c H locs cells slots Q (F0 m (pc + 3) ls (va_rf ((mR M 7 j 2).map (ad 8)) :: rest))) : W p l e R s m args below meth c H locs cells slots Q (F0 m pc ls (.ref (ad 7 j) :: rest)) := me_get (k := 7) (f := 2) (C := "FilterGuard$Steps") (T := F_Steps) (Nf := 19) hexec hb hts i_Steps hown hK hP hwf hj (by decide) rfl (by decide) (by decide) hlink (fun _ h9 => h9) hdg kk
theorem d_Steps_shift_147 : decode prog_11_method_7_code 147 = .ok (.iconst 0, 1) := by decide +kernel
theorem d_Steps_shift_148 : decode prog_11_method_7_code 148 = .ok (.aload_n 1, 1) := by decide +kernel
theorem d_Steps_shift_149 : decode prog_11_method_7_code 149 = .ok (.getfield 143, 3) := by decide +kernel
theorem u_437 : Cond.fieldLink "FilterGuard$Steps" 143 "FilterGuard$Cell" "number" "LFilterGuard$Num;" ∈ fg_g := fg_in (List.mem_of_getElem? (i := 437) (by decide +kernel)) rfl
theorem d_Steps_shift_152 : decode prog_11_method_7_code 152 = .ok (.aload_n 2, 1) := by decide +kernel
theorem d_Steps_shift_153 : decode prog_11_method_7_code 153 = .ok (.aload_n 1, 1) := by decide +kernel
theorem d_Steps_shift_154 : decode prog_11_method_7_code 154 = .ok (.getfield 143, 3) := by decide +kernel
theorem d_Steps_shift_157 : decode prog_11_method_7_code 157 = .ok (.invokevirtual 187, 3) := by decide +kernel
theorem u_1256 : Cond.methodLink "FilterGuard$Steps" 187 ⟨"FilterGuard$Reckoner", "operateWide", "(ILFilterGuard$Num;LFilterGuard$Num;LFilterGuard$Num;)V"⟩ ∈ fg_g := fg_in (List.mem_of_getElem? (i := 1256) (by decide +kernel)) rfl
theorem d_Steps_shift_160 : decode prog_11_method_7_code 160 = .ok (.aload_n 1, 1) := by decide +kernel
theorem d_Steps_shift_161 : decode prog_11_method_7_code 161 = .ok (.getfield 143, 3) := by decide +kernel
theorem d_Steps_shift_164 : decode prog_11_method_7_code 164 = .ok (.ldc2_w 176, 3) := by decide +kernel
theorem d_Steps_shift_167 : decode prog_11_method_7_code 167 = .ok (.invokevirtual 183, 3) := by decide +kernel
theorem d_Steps_shift_170 : decode prog_11_method_7_code 170 = .ok (.ifCond .eq 6, 3) := by decide +kernel
theorem d_Steps_shift_176 : decode prog_11_method_7_code 176 = .ok (.aload_n 1, 1) := by decide +kernel
theorem d_Steps_shift_177 : decode prog_11_method_7_code 177 = .ok (.getfield 76, 3) := by decide +kernel
theorem u_422 : Cond.fieldLink "FilterGuard$Steps" 76 "FilterGuard$Cell" "kind" "I" ∈ fg_g := fg_in (List.mem_of_getElem? (i := 422) (by decide +kernel)) rfl
theorem d_Steps_shift_180 : decode prog_11_method_7_code 180 = .ok (.iconst 4, 1) := by decide +kernel
theorem d_Steps_shift_181 : decode prog_11_method_7_code 181 = .ok (.if_icmp .ne 16, 3) := by decide +kernel
theorem d_Steps_shift_197 : decode prog_11_method_7_code 197 = .ok (.iconst 0, 1) := by decide +kernel
theorem d_Steps_shift_198 : decode prog_11_method_7_code 198 = .ok (.ireturn, 1) := by decide +kernel
theorem d_Steps_shift_184 : decode prog_11_method_7_code 184 = .ok (.aload_n 1, 1) := by decide +kernel
theorem d_Steps_shift_185 : decode prog_11_method_7_code 185 = .ok (.aload_n 0, 1) := by decide +kernel
theorem d_Steps_shift_186 : decode prog_11_method_7_code 186 = .ok (.invokevirtual 191, 3) := by decide +kernel
theorem u_1257 : Cond.methodLink "FilterGuard$Steps" 191 ⟨"FilterGuard$Steps", "newIdentity", "()I"⟩ ∈ fg_g := fg_in (List.mem_of_getElem? (i := 1257) (by decide +kernel)) rfl
theorem u_1260 : Cond.code ⟨"FilterGuard$Steps", "newIdentity", "()I"⟩ prog_11_method_8_code 1 (some .int) ∈ fg_g := fg_in (List.mem_of_getElem? (i := 1260) (by decide +kernel)) rfl
theorem u_1259 : Cond.instanceMethod ⟨"FilterGuard$Steps", "newIdentity", "()I"⟩ ∈ fg_g := fg_in (List.mem_of_getElem? (i := 1259) (by decide +kernel)) rfl
theorem u_28 : Cond.selects "FilterGuard$Steps" ⟨"FilterGuard$Steps", "newIdentity", "()I"⟩ ⟨"FilterGuard$Steps", "newIdentity", "()I"⟩ ∈ fg_g := fg_in (List.mem_of_getElem? (i := 28) (by decide +kernel)) rfl
theorem d_Steps_shift_189 : decode prog_11_method_7_code 189 = .ok (.putfield 194, 3) := by decide +kernel
theorem u_430 : Cond.fieldLink "FilterGuard$Steps" 194 "FilterGuard$Cell" "identity" "I" ∈ fg_g := fg_in (List.mem_of_getElem? (i := 430) (by decide +kernel)) rfl
theorem d_Steps_shift_192 : decode prog_11_method_7_code 192 = .ok (.aload_n 1, 1) := by decide +kernel
theorem d_Steps_shift_193 : decode prog_11_method_7_code 193 = .ok (.iconst 0, 1) := by decide +kernel
theorem d_Steps_shift_194 : decode prog_11_method_7_code 194 = .ok (.putfield 197, 3) := by decide +kernel
theorem u_432 : Cond.fieldLink "FilterGuard$Steps" 197 "FilterGuard$Cell" "room" "I" ∈ fg_g := fg_in (List.mem_of_getElem? (i := 432) (by decide +kernel)) rfl
theorem d_Steps_shift_173 : decode prog_11_method_7_code 173 = .ok (.bipush 11, 2) := by decide +kernel
theorem d_Steps_shift_175 : decode prog_11_method_7_code 175 = .ok (.ireturn, 1) := by decide +kernel
theorem d_Steps_shift_114 : decode prog_11_method_7_code 114 = .ok (.iconst 1, 1) := by decide +kernel
theorem d_Steps_shift_115 : decode prog_11_method_7_code 115 = .ok (.goto 4, 3) := by decide +kernel
theorem d_Steps_shift_67 : decode prog_11_method_7_code 67 = .ok (.l2i, 1) := by decide +kernel
theorem d_Steps_shift_68 : decode prog_11_method_7_code 68 = .ok (.iadd, 1) := by decide +kernel
theorem d_Steps_shift_69 : decode prog_11_method_7_code 69 = .ok (.istore 6, 2) := by decide +kernel
theorem d_Steps_shift_71 : decode prog_11_method_7_code 71 = .ok (.aload_n 1, 1) := by decide +kernel
theorem d_Steps_shift_72 : decode prog_11_method_7_code 72 = .ok (.iload 6, 2) := by decide +kernel
theorem d_Steps_shift_74 : decode prog_11_method_7_code 74 = .ok (.putfield 178, 3) := by decide +kernel
theorem u_425 : Cond.fieldLink "FilterGuard$Steps" 178 "FilterGuard$Cell" "place" "I" ∈ fg_g := fg_in (List.mem_of_getElem? (i := 425) (by decide +kernel)) rfl
theorem d_Steps_shift_77 : decode prog_11_method_7_code 77 = .ok (.iload 6, 2) := by decide +kernel
theorem d_Steps_shift_79 : decode prog_11_method_7_code 79 = .ok (.ldc 181, 2) := by decide +kernel
theorem u_1253 : Cond.constant "FilterGuard$Steps" 181 (-65535) ∈ fg_g := fg_in (List.mem_of_getElem? (i := 1253) (by decide +kernel)) rfl
theorem d_Steps_shift_81 : decode prog_11_method_7_code 81 = .ok (.if_icmp .lt 10, 3) := by decide +kernel
theorem d_Steps_shift_91 : decode prog_11_method_7_code 91 = .ok (.bipush 11, 2) := by decide +kernel
theorem d_Steps_shift_93 : decode prog_11_method_7_code 93 = .ok (.goto 4, 3) := by decide +kernel
theorem d_Steps_shift_97 : decode prog_11_method_7_code 97 = .ok (.ireturn, 1) := by decide +kernel
theorem d_Steps_shift_84 : decode prog_11_method_7_code 84 = .ok (.iload 6, 2) := by decide +kernel
theorem d_Steps_shift_86 : decode prog_11_method_7_code 86 = .ok (.ldc 182, 2) := by decide +kernel
theorem u_1254 : Cond.constant "FilterGuard$Steps" 182 65535 ∈ fg_g := fg_in (List.mem_of_getElem? (i := 1254) (by decide +kernel)) rfl
theorem d_Steps_shift_88 : decode prog_11_method_7_code 88 = .ok (.if_icmp .le 8, 3) := by decide +kernel
theorem d_Steps_shift_96 : decode prog_11_method_7_code 96 = .ok (.iconst 0, 1) := by decide +kernel
theorem d_Steps_shift_16 : decode prog_11_method_7_code 16 = .ok (.istore_n 3, 1) := by decide +kernel
theorem d_Steps_shift_17 : decode prog_11_method_7_code 17 = .ok (.aload_n 2, 1) := by decide +kernel
theorem d_Steps_shift_18 : decode prog_11_method_7_code 18 = .ok (.invokevirtual 167, 3) := by decide +kernel
theorem u_1250 : Cond.methodLink "FilterGuard$Steps" 167 ⟨"FilterGuard$Num", "isExact", "()Z"⟩ ∈ fg_g := fg_in (List.mem_of_getElem? (i := 1250) (by decide +kernel)) rfl
theorem d_Steps_shift_21 : decode prog_11_method_7_code 21 = .ok (.ifCond .eq 77, 3) := by decide +kernel
theorem d_Steps_shift_98 : decode prog_11_method_7_code 98 = .ok (.aload_n 1, 1) := by decide +kernel
theorem d_Steps_shift_99 : decode prog_11_method_7_code 99 = .ok (.getfield 76, 3) := by decide +kernel
theorem d_Steps_shift_102 : decode prog_11_method_7_code 102 = .ok (.iconst 2, 1) := by decide +kernel
theorem d_Steps_shift_103 : decode prog_11_method_7_code 103 = .ok (.if_icmp .eq 11, 3) := by decide +kernel
theorem d_Steps_shift_106 : decode prog_11_method_7_code 106 = .ok (.aload_n 1, 1) := by decide +kernel
theorem d_Steps_shift_107 : decode prog_11_method_7_code 107 = .ok (.getfield 76, 3) := by decide +kernel
theorem d_Steps_shift_110 : decode prog_11_method_7_code 110 = .ok (.iconst 3, 1) := by decide +kernel
theorem d_Steps_shift_111 : decode prog_11_method_7_code 111 = .ok (.if_icmp .ne 7, 3) := by decide +kernel
theorem d_Steps_shift_118 : decode prog_11_method_7_code 118 = .ok (.iconst 0, 1) := by decide +kernel
theorem d_Steps_shift_24 : decode prog_11_method_7_code 24 = .ok (.aload_n 2, 1) := by decide +kernel
theorem d_Steps_shift_25 : decode prog_11_method_7_code 25 = .ok (.getfield 170, 3) := by decide +kernel
theorem u_370 : Cond.fieldLink "FilterGuard$Steps" 170 "FilterGuard$Num" "value" "J" ∈ fg_g := fg_in (List.mem_of_getElem? (i := 370) (by decide +kernel)) rfl
theorem d_Steps_shift_28 : decode prog_11_method_7_code 28 = .ok (.lstore 4, 2) := by decide +kernel
theorem d_Steps_shift_30 : decode prog_11_method_7_code 30 = .ok (.lload 4, 2) := by decide +kernel
theorem d_Steps_shift_32 : decode prog_11_method_7_code 32 = .ok (.ldc2_w 174, 3) := by decide +kernel
theorem u_1251 : Cond.constantLong "FilterGuard$Steps" 174 (-65535) ∈ fg_g := fg_in (List.mem_of_getElem? (i := 1251) (by decide +kernel)) rfl
theorem d_Steps_shift_35 : decode prog_11_method_7_code 35 = .ok (.lcmp, 1) := by decide +kernel
theorem d_Steps_shift_36 : decode prog_11_method_7_code 36 = .ok (.ifCond .lt 12, 3) := by decide +kernel
theorem d_Steps_shift_48 : decode prog_11_method_7_code 48 = .ok (.bipush 11, 2) := by decide +kernel
theorem d_Steps_shift_50 : decode prog_11_method_7_code 50 = .ok (.ireturn, 1) := by decide +kernel
theorem d_Steps_shift_39 : decode prog_11_method_7_code 39 = .ok (.lload 4, 2) := by decide +kernel
theorem d_Steps_shift_41 : decode prog_11_method_7_code 41 = .ok (.ldc2_w 176, 3) := by decide +kernel
theorem d_Steps_shift_44 : decode prog_11_method_7_code 44 = .ok (.lcmp, 1) := by decide +kernel
theorem d_Steps_shift_45 : decode prog_11_method_7_code 45 = .ok (.ifCond .le 6, 3) := by decide +kernel
theorem d_Steps_shift_51 : decode prog_11_method_7_code 51 = .ok (.aload_n 1, 1) := by decide +kernel
theorem d_Steps_shift_52 : decode prog_11_method_7_code 52 = .ok (.getfield 178, 3) := by decide +kernel
theorem d_Steps_shift_55 : decode prog_11_method_7_code 55 = .ok (.iload_n 3, 1) := by decide +kernel
theorem d_Steps_shift_56 : decode prog_11_method_7_code 56 = .ok (.ifCond .eq 9, 3) := by decide +kernel
theorem d_Steps_shift_65 : decode prog_11_method_7_code 65 = .ok (.lload 4, 2) := by decide +kernel
theorem d_Steps_shift_59 : decode prog_11_method_7_code 59 = .ok (.lload 4, 2) := by decide +kernel
theorem d_Steps_shift_61 : decode prog_11_method_7_code 61 = .ok (.lneg, 1) := by decide +kernel
theorem d_Steps_shift_62 : decode prog_11_method_7_code 62 = .ok (.goto 5, 3) := by decide +kernel
theorem d_Steps_shift_0 : decode prog_11_method_7_code 0 = .ok (.aload_n 0, 1) := by decide +kernel
theorem d_Steps_shift_1 : decode prog_11_method_7_code 1 = .ok (.getfield 44, 3) := by decide +kernel
theorem d_Steps_shift_4 : decode prog_11_method_7_code 4 = .ok (.getfield 133, 3) := by decide +kernel
theorem u_262 : Cond.fieldLink "FilterGuard$Steps" 133 "FilterGuard$Code" "operation" "I" ∈ fg_g := fg_in (List.mem_of_getElem? (i := 262) (by decide +kernel)) rfl
theorem d_Steps_shift_7 : decode prog_11_method_7_code 7 = .ok (.iconst 1, 1) := by decide +kernel
theorem d_Steps_shift_8 : decode prog_11_method_7_code 8 = .ok (.if_icmp .ne 7, 3) := by decide +kernel
theorem d_Steps_shift_15 : decode prog_11_method_7_code 15 = .ok (.iconst 0, 1) := by decide +kernel
theorem d_Steps_shift_11 : decode prog_11_method_7_code 11 = .ok (.iconst 1, 1) := by decide +kernel
theorem d_Steps_shift_12 : decode prog_11_method_7_code 12 = .ok (.goto 4, 3) := by decide +kernel
abbrev y_Steps_shift : MethodName := ⟨"FilterGuard$Steps", "shift", "(LFilterGuard$Cell;LFilterGuard$Num;)I"⟩
def rm_Steps_shift : Room := { frames := 5, cells := 0, slots := 0, locals := 110 }
abbrev q_Steps_shift (D : va_G) (ad : Nat → Nat → Nat) (ca : Nat → ClassId) (N : Nat → Nat) (M0 MZ : me_M) (RZ : Int32) (A : Nat → Prop) : Array Value → Jvm.State → Outcome → Jvm.State → Prop := va_Qi (fun r (_ : Unit) => r = RZ ∧ me_wf N MZ ∧ me_kp M0 MZ) (fg_B D A (fun _ => me_W ad ca MZ) (fun _ => [])) A
set_option maxHeartbeats 4000000 in
set_option maxRecDepth 100000 in
theorem c_Steps_shift (l : Launch) (D : va_G) (ad : Nat → Nat → Nat) (ca : Nat → ClassId) (N : Nat → Nat) (M0 MZ : me_M) (RZ : Int32) (j0 : Nat) (j1 : Nat) (j2 : Nat) (h : f_Steps_shift M0 j0 j1 j2 = (some (MZ, RZ))) (hwf : me_wf N M0) (hj0 : j0 < N 7) (hj1 : j1 < N 10) (hj2 : j2 < N 11) (sz : Nat) : Met l y_Steps_shift (fg_w y_Steps_shift prog_11_method_7_code 7 (some .int)) rm_Steps_shift (va_Pc [.ref (ad 7 j0), .ref (ad 10 j1), .ref (ad 11 j2)] (fz_P D (me_T ca) (me_W ad ca M0) sz)) (q_Steps_shift D ad ca N M0 MZ RZ (va_A (me_W ad ca M0) sz)) rm_Steps_shift.cells rm_Steps_shift.slots (va_A (me_W ad ca M0) sz) := by
  refine fz_enter (fun A => q_Steps_shift D ad ca N M0 MZ RZ A) (by decide +kernel) (Nat.le_of_ble_eq_true rfl) ?_
  intro p e s m below meth c ls A hx hb hml hown hts hr hlocks hin hP hK hD hS hA hX hl hz
  have hl : lv_has ls 7 [(0, .ref (ad 7 j0)), (1, .ref (ad 10 j1)), (2, .ref (ad 11 j2))] := hl
  unfold f_Steps_shift at h
  have hkp : me_kp M0 M0 := me_kp.rf
  have hkb := hkp
  have b_119 : ∀ (M : me_M) (y3 : Int32) (s0 : Int32) (H : Heap) (locs : List Loc) (ls : Array Slot), f_Steps_shift_b119 j0 j1 j2 M y3 s0 = (some (MZ, RZ)) → (y3 = 1 ∨ y3 = 0) → (s0 = 1 ∨ s0 = 0) → me_wf N M → me_kp M0 M → va_P D classes (me_W ad ca M) H → va_D A (me_W ad ca M) → va_S A s.heap H locs → lv_has ls 7 [(0, .ref (ad 7 j0)), (1, .ref (ad 10 j1)), (2, .ref (ad 11 j2)), (3, .int y3)] → W p l e rm_Steps_shift s m [.ref (ad 7 j0), .ref (ad 10 j1), .ref (ad 11 j2)].toArray below meth c H locs 0 0 (MQ below (q_Steps_shift D ad ca N M0 MZ RZ A) [.ref (ad 7 j0), .ref (ad 10 j1), .ref (ad 11 j2)].toArray s rm_Steps_shift.cells rm_Steps_shift.slots A) (F0 m 119 ls [.int s0]) := by
    intro M y3 s0 H locs ls h zy3 zs0 hwf hkp hP hD hS hl
    unfold f_Steps_shift_b119 at h
    have hkb := hkp
    refine lv_istore (lv' := [(4, .int s0), (0, .ref (ad 7 j0)), (1, .ref (ad 10 j1)), (2, .ref (ad 11 j2)), (3, .int y3)]) hx hb d_Steps_shift_119 hl (by decide) rfl (fun ls hl => ?_)
    refine lv_iload_n hx hb d_Steps_shift_121 rfl (lv_at hl 4 rfl) ?_
    refine lv_if_ne (tgt := 140) hx hb d_Steps_shift_122 (by decide) (fun c1 => ?_) (fun c1 => ?_)
    · have h := if_f c1 h
      refine lv_bipush (v := 11) hx hb d_Steps_shift_140 (by decide) ?_
      exact me_reti (me_kp M0) h hx hb hr hlocks hwf hkp hP hK hD hS d_Steps_shift_142
    have h := if_t c1 h
    refine lv_iload hx hb d_Steps_shift_125 (lv_at hl 0 rfl) ?_
    refine lv_if_ne (tgt := 140) hx hb d_Steps_shift_127 (by decide) (fun c2 => ?_) (fun c2 => ?_)
    · have h := if_f c2 h
      refine lv_bipush (v := 11) hx hb d_Steps_shift_140 (by decide) ?_
      exact me_reti (me_kp M0) h hx hb hr hlocks hwf hkp hP hK hD hS d_Steps_shift_142
    have h := if_t c2 h
    refine lv_aload_n hx hb d_Steps_shift_130 rfl (lv_at hl 3 rfl) ?_
    refine lv_ldc2 hx hb hown (hts _ u_1252) d_Steps_shift_131 ?_
    obtain ⟨M3, r4, eM3, h⟩ := b2_ob h
    refine me_theni0 (M1 := M3) (me_runV (C := "FilterGuard$Num") (As := [.long 65535]) (rest := []) ⟨hx, hb, hml, hown, hts⟩ (c_Num_isAbove l D ad ca N M M3 r4 j2 (65535 : Int64) eM3 hwf hj2 _) rfl (by show fg_nm y_Num_isAbove 1; decide +kernel) u_1255 u_1174 u_1175 u_187 u_1176 ⟨Nat.le_of_ble_eq_true rfl, Nat.le_of_ble_eq_true rfl⟩ hX hz hK hP hD hwf hS hA hj2 (by decide) rfl rfl rfl hl.1 (Nat.le_of_ble_eq_true rfl) d_Steps_shift_134 ⟨Nat.le_of_ble_eq_true rfl, Nat.le_of_ble_eq_true rfl⟩) hP hD hK hS hA rfl rfl (fun H locs hw hP hD hS => ?_)
    obtain ⟨hwf, hk9, zr4⟩ := hw
    have hkp := hkp.tr hk9
    refine lv_if_eq (tgt := 143) hx hb d_Steps_shift_137 (by decide) (fun c5 => ?_) (fun c5 => ?_)
    · have h := if_t c5 h
      refine lv_aload_n hx hb d_Steps_shift_143 rfl (lv_at hl 1 rfl) ?_
      refine g_Steps_2 hx hb hts hown hK hP hwf hj0 (hts _ u_457) d_Steps_shift_144 ?_
      obtain ⟨j6, e7, h⟩ := bd_ob h
      have hj6 : j6 < N 8 := (hwf.2.1 7 j0 2 _ (kp_r hkb hkp e7) (by decide) hj0)
      refine me_opt (j := j6) (kp_r hkb hkp e7) ?_
      refine lv_iconst (v := 0) hx hb d_Steps_shift_147 (by decide) ?_
      refine lv_aload_n hx hb d_Steps_shift_148 rfl (lv_at hl 2 rfl) ?_
      refine g_Cell_6 hx hb hts hown hK hP hwf hj1 (hts _ u_437) d_Steps_shift_149 ?_
      obtain ⟨j8, e9, h⟩ := bd_ob h
      have hj8 : j8 < N 11 := (hwf.2.1 10 j1 6 _ (kp_r hkb hkp e9) (by decide) hj1)
      refine me_opt (j := j8) (kp_r hkb hkp e9) ?_
      refine lv_aload_n hx hb d_Steps_shift_152 rfl (lv_at hl 3 rfl) ?_
      refine lv_aload_n hx hb d_Steps_shift_153 rfl (lv_at hl 2 rfl) ?_
      refine g_Cell_6 hx hb hts hown hK hP hwf hj1 (hts _ u_437) d_Steps_shift_154 ?_
      refine me_opt (j := j8) (kp_r hkb hkp e9) ?_
      obtain ⟨M10, eM10, h⟩ := bd_ob h
      refine me_thenv0 (M1 := M10) (me_runV (C := "FilterGuard$Reckoner") (As := [.int 0, .ref (ad 11 j8), .ref (ad 11 j2), .ref (ad 11 j8)]) (rest := []) ⟨hx, hb, hml, hown, hts⟩ (c_Reckoner_operateWide l D ad ca N M3 M10 j6 (0 : Int32) j8 j2 j8 eM10 hwf hj6 hj8 hj2 hj8 _) rfl (by show fg_nm y_Reckoner_operateWide 4; decide +kernel) u_1256 u_1127 u_1128 u_186 u_1129 ⟨Nat.le_of_ble_eq_true rfl, Nat.le_of_ble_eq_true rfl⟩ hX hz hK hP hD hwf hS hA hj6 (by decide) rfl rfl rfl hl.1 (Nat.le_of_ble_eq_true rfl) d_Steps_shift_157 ⟨Nat.le_of_ble_eq_true rfl, Nat.le_of_ble_eq_true rfl⟩) hP hD hK hS hA rfl rfl (fun H locs hw hP hD hS => ?_)
      obtain ⟨hwf, hk9⟩ := hw
      have hkp := hkp.tr hk9
      refine lv_aload_n hx hb d_Steps_shift_160 rfl (lv_at hl 2 rfl) ?_
      refine g_Cell_6 hx hb hts hown hK hP hwf hj1 (hts _ u_437) d_Steps_shift_161 ?_
      refine me_opt (j := j8) (kp_r hkb hkp e9) ?_
      refine lv_ldc2 hx hb hown (hts _ u_1252) d_Steps_shift_164 ?_
      obtain ⟨M11, r12, eM11, h⟩ := b2_ob h
      refine me_theni0 (M1 := M11) (me_runV (C := "FilterGuard$Num") (As := [.long 65535]) (rest := []) ⟨hx, hb, hml, hown, hts⟩ (c_Num_isAbove l D ad ca N M10 M11 r12 j8 (65535 : Int64) eM11 hwf hj8 _) rfl (by show fg_nm y_Num_isAbove 1; decide +kernel) u_1255 u_1174 u_1175 u_187 u_1176 ⟨Nat.le_of_ble_eq_true rfl, Nat.le_of_ble_eq_true rfl⟩ hX hz hK hP hD hwf hS hA hj8 (by decide) rfl rfl rfl hl.1 (Nat.le_of_ble_eq_true rfl) d_Steps_shift_167 ⟨Nat.le_of_ble_eq_true rfl, Nat.le_of_ble_eq_true rfl⟩) hP hD hK hS hA rfl rfl (fun H locs hw hP hD hS => ?_)
      obtain ⟨hwf, hk9, zr12⟩ := hw
      have hkp := hkp.tr hk9
      refine lv_if_eq (tgt := 176) hx hb d_Steps_shift_170 (by decide) (fun c13 => ?_) (fun c13 => ?_)
      · have h := if_t c13 h
        refine lv_aload_n hx hb d_Steps_shift_176 rfl (lv_at hl 2 rfl) ?_
        refine g_Cell_0 hx hb hts hown hK hP hwf hj1 (hts _ u_422) d_Steps_shift_177 ?_
        refine lv_iconst (v := 4) hx hb d_Steps_shift_180 (by decide) ?_
        refine lv_icmp_ne (tgt := 197) hx hb d_Steps_shift_181 (by decide) (fun c14 => ?_) (fun c14 => ?_)
        · have h := if_f c14 h
          refine lv_iconst (v := 0) hx hb d_Steps_shift_197 (by decide) ?_
          exact me_reti (me_kp M0) h hx hb hr hlocks hwf hkp hP hK hD hS d_Steps_shift_198
        have h := if_t c14 h
        refine lv_aload_n hx hb d_Steps_shift_184 rfl (lv_at hl 2 rfl) ?_
        refine lv_aload_n hx hb d_Steps_shift_185 rfl (lv_at hl 1 rfl) ?_
        obtain ⟨M15, r16, eM15, h⟩ := b2_ob h
        refine me_theni0 (M1 := M15) (me_runV (C := "FilterGuard$Steps") (As := []) (rest := [.ref (ad 10 j1)]) ⟨hx, hb, hml, hown, hts⟩ (c_Steps_newIdentity l D ad ca N M11 M15 r16 j0 eM15 hwf hj0 _) rfl (by show fg_nm y_Steps_newIdentity 0; decide +kernel) u_1257 u_1259 u_28 u_185 u_1260 ⟨Nat.le_of_ble_eq_true rfl, Nat.le_of_ble_eq_true rfl⟩ hX hz hK hP hD hwf hS hA hj0 (by decide) rfl rfl rfl hl.1 (Nat.le_of_ble_eq_true rfl) d_Steps_shift_186 ⟨Nat.le_of_ble_eq_true rfl, Nat.le_of_ble_eq_true rfl⟩) hP hD hK hS hA rfl rfl (fun H locs hw hP hD hS => ?_)
        obtain ⟨hwf, hk9⟩ := hw
        have hkp := hkp.tr hk9
        obtain ⟨M17, eM17, h⟩ := st_ob h
        refine p_Cell_3 eM17 hx hb hts hown hK hP hD hwf hS hj1 (hts _ u_430) d_Steps_shift_189 (fun H locs hP hD hwf hS => ?_)
        have hkp := kp_I eM17 hkp
        refine lv_aload_n hx hb d_Steps_shift_192 rfl (lv_at hl 2 rfl) ?_
        refine lv_iconst (v := 0) hx hb d_Steps_shift_193 (by decide) ?_
        obtain ⟨M18, eM18, h⟩ := st_ob h
        refine p_Cell_4 eM18 hx hb hts hown hK hP hD hwf hS hj1 (hts _ u_432) d_Steps_shift_194 (fun H locs hP hD hwf hS => ?_)
        have hkp := kp_I eM18 hkp
        refine lv_iconst (v := 0) hx hb d_Steps_shift_197 (by decide) ?_
        exact me_reti (me_kp M0) h hx hb hr hlocks hwf hkp hP hK hD hS d_Steps_shift_198
      have h := if_f c13 h
      refine lv_bipush (v := 11) hx hb d_Steps_shift_173 (by decide) ?_
      exact me_reti (me_kp M0) h hx hb hr hlocks hwf hkp hP hK hD hS d_Steps_shift_175
    have h := if_f c5 h
    refine lv_bipush (v := 11) hx hb d_Steps_shift_140 (by decide) ?_
    exact me_reti (me_kp M0) h hx hb hr hlocks hwf hkp hP hK hD hS d_Steps_shift_142
  have b_114 : ∀ (M : me_M) (y3 : Int32) (H : Heap) (locs : List Loc) (ls : Array Slot), f_Steps_shift_b114 j0 j1 j2 M y3 = (some (MZ, RZ)) → (y3 = 1 ∨ y3 = 0) → me_wf N M → me_kp M0 M → va_P D classes (me_W ad ca M) H → va_D A (me_W ad ca M) → va_S A s.heap H locs → lv_has ls 7 [(0, .ref (ad 7 j0)), (1, .ref (ad 10 j1)), (2, .ref (ad 11 j2)), (3, .int y3)] → W p l e rm_Steps_shift s m [.ref (ad 7 j0), .ref (ad 10 j1), .ref (ad 11 j2)].toArray below meth c H locs 0 0 (MQ below (q_Steps_shift D ad ca N M0 MZ RZ A) [.ref (ad 7 j0), .ref (ad 10 j1), .ref (ad 11 j2)].toArray s rm_Steps_shift.cells rm_Steps_shift.slots A) (F0 m 114 ls []) := by
    intro M y3 H locs ls h zy3 hwf hkp hP hD hS hl
    unfold f_Steps_shift_b114 at h
    have hkb := hkp
    refine lv_iconst (v := 1) hx hb d_Steps_shift_114 (by decide) ?_
    refine lv_goto (tgt := 119) hx hb d_Steps_shift_115 (by decide) ?_
    exact b_119 M y3 (1 : Int32) _ _ _ h zy3 (by decide) hwf hkp hP hD hS (lv_sub hl [0, 1, 2, 3] rfl)
  have b_67 : ∀ (M : me_M) (s0 : Int64) (s1 : Int32) (H : Heap) (locs : List Loc) (ls : Array Slot), f_Steps_shift_b67 j1 M s0 s1 = (some (MZ, RZ)) → me_wf N M → me_kp M0 M → va_P D classes (me_W ad ca M) H → va_D A (me_W ad ca M) → va_S A s.heap H locs → lv_has ls 7 [(1, .ref (ad 10 j1))] → W p l e rm_Steps_shift s m [.ref (ad 7 j0), .ref (ad 10 j1), .ref (ad 11 j2)].toArray below meth c H locs 0 0 (MQ below (q_Steps_shift D ad ca N M0 MZ RZ A) [.ref (ad 7 j0), .ref (ad 10 j1), .ref (ad 11 j2)].toArray s rm_Steps_shift.cells rm_Steps_shift.slots A) (F0 m 67 ls [.long s0, .int s1]) := by
    intro M s0 s1 H locs ls h hwf hkp hP hD hS hl
    unfold f_Steps_shift_b67 at h
    have hkb := hkp
    refine lv_l2i (v := s0.toInt32) hx hb d_Steps_shift_67 rfl ?_
    refine lv_iadd hx hb d_Steps_shift_68 ?_
    obtain ⟨v19, ev19, h⟩ := st_ob h
    refine fg_topi (y := v19) ev19.symm ?_
    refine lv_istore (lv' := [(6, .int v19), (1, .ref (ad 10 j1))]) hx hb d_Steps_shift_69 hl (by decide) rfl (fun ls hl => ?_)
    refine lv_aload_n hx hb d_Steps_shift_71 rfl (lv_at hl 1 rfl) ?_
    refine lv_iload hx hb d_Steps_shift_72 (lv_at hl 0 rfl) ?_
    obtain ⟨M20, eM20, h⟩ := st_ob h
    refine p_Cell_1 eM20 hx hb hts hown hK hP hD hwf hS hj1 (hts _ u_425) d_Steps_shift_74 (fun H locs hP hD hwf hS => ?_)
    have hkp := kp_I eM20 hkp
    refine lv_iload hx hb d_Steps_shift_77 (lv_at hl 0 rfl) ?_
    refine lv_ldc hx hb hown (hts _ u_1253) d_Steps_shift_79 ?_
    refine lv_icmp_lt (tgt := 91) hx hb d_Steps_shift_81 (by decide) (fun c21 => ?_) (fun c21 => ?_)
    · have h := if_t c21 h
      refine lv_bipush (v := 11) hx hb d_Steps_shift_91 (by decide) ?_
      refine lv_goto (tgt := 97) hx hb d_Steps_shift_93 (by decide) ?_
      exact me_reti (me_kp M0) h hx hb hr hlocks hwf hkp hP hK hD hS d_Steps_shift_97
    have h := if_f c21 h
    refine lv_iload hx hb d_Steps_shift_84 (lv_at hl 0 rfl) ?_
    refine lv_ldc hx hb hown (hts _ u_1254) d_Steps_shift_86 ?_
    refine lv_icmp_le (tgt := 96) hx hb d_Steps_shift_88 (by decide) (fun c22 => ?_) (fun c22 => ?_)
    · have h := if_t c22 h
      refine lv_iconst (v := 0) hx hb d_Steps_shift_96 (by decide) ?_
      exact me_reti (me_kp M0) h hx hb hr hlocks hwf hkp hP hK hD hS d_Steps_shift_97
    have h := if_f c22 h
    refine lv_bipush (v := 11) hx hb d_Steps_shift_91 (by decide) ?_
    refine lv_goto (tgt := 97) hx hb d_Steps_shift_93 (by decide) ?_
    exact me_reti (me_kp M0) h hx hb hr hlocks hwf hkp hP hK hD hS d_Steps_shift_97
  have b_16 : ∀ (M : me_M) (s0 : Int32) (H : Heap) (locs : List Loc) (ls : Array Slot), f_Steps_shift_b16 j0 j1 j2 M s0 = (some (MZ, RZ)) → (s0 = 1 ∨ s0 = 0) → me_wf N M → me_kp M0 M → va_P D classes (me_W ad ca M) H → va_D A (me_W ad ca M) → va_S A s.heap H locs → lv_has ls 7 [(0, .ref (ad 7 j0)), (1, .ref (ad 10 j1)), (2, .ref (ad 11 j2))] → W p l e rm_Steps_shift s m [.ref (ad 7 j0), .ref (ad 10 j1), .ref (ad 11 j2)].toArray below meth c H locs 0 0 (MQ below (q_Steps_shift D ad ca N M0 MZ RZ A) [.ref (ad 7 j0), .ref (ad 10 j1), .ref (ad 11 j2)].toArray s rm_Steps_shift.cells rm_Steps_shift.slots A) (F0 m 16 ls [.int s0]) := by
    intro M s0 H locs ls h zs0 hwf hkp hP hD hS hl
    unfold f_Steps_shift_b16 at h
    have hkb := hkp
    refine lv_istore_n (lv' := [(3, .int s0), (0, .ref (ad 7 j0)), (1, .ref (ad 10 j1)), (2, .ref (ad 11 j2))]) hx hb d_Steps_shift_16 rfl hl (by decide) rfl (fun ls hl => ?_)
    refine lv_aload_n hx hb d_Steps_shift_17 rfl (lv_at hl 3 rfl) ?_
    obtain ⟨M23, r24, eM23, h⟩ := b2_ob h
    refine me_theni0 (M1 := M23) (me_runV (C := "FilterGuard$Num") (As := []) (rest := []) ⟨hx, hb, hml, hown, hts⟩ (c_Num_isExact0 l D ad ca N M M23 r24 j2 eM23 hwf hj2 _) rfl (by show fg_nm y_Num_isExact0 0; decide +kernel) u_1250 u_1158 u_1159 u_187 u_1160 ⟨Nat.le_of_ble_eq_true rfl, Nat.le_of_ble_eq_true rfl⟩ hX hz hK hP hD hwf hS hA hj2 (by decide) rfl rfl rfl hl.1 (Nat.le_of_ble_eq_true rfl) d_Steps_shift_18 ⟨Nat.le_of_ble_eq_true rfl, Nat.le_of_ble_eq_true rfl⟩) hP hD hK hS hA rfl rfl (fun H locs hw hP hD hS => ?_)
    obtain ⟨hwf, hk9, zr24⟩ := hw
    have hkp := hkp.tr hk9
    refine lv_if_eq (tgt := 98) hx hb d_Steps_shift_21 (by decide) (fun c25 => ?_) (fun c25 => ?_)
    · have h := if_t c25 h
      refine lv_aload_n hx hb d_Steps_shift_98 rfl (lv_at hl 2 rfl) ?_
      refine g_Cell_0 hx hb hts hown hK hP hwf hj1 (hts _ u_422) d_Steps_shift_99 ?_
      refine lv_iconst (v := 2) hx hb d_Steps_shift_102 (by decide) ?_
      refine lv_icmp_eq (tgt := 114) hx hb d_Steps_shift_103 (by decide) (fun c26 => ?_) (fun c26 => ?_)
      · have h := if_t c26 h
        exact b_114 M23 s0 _ _ _ h zs0 hwf hkp hP hD hS (lv_sub hl [1, 2, 3, 0] rfl)
      have h := if_f c26 h
      refine lv_aload_n hx hb d_Steps_shift_106 rfl (lv_at hl 2 rfl) ?_
      refine g_Cell_0 hx hb hts hown hK hP hwf hj1 (hts _ u_422) d_Steps_shift_107 ?_
      refine lv_iconst (v := 3) hx hb d_Steps_shift_110 (by decide) ?_
      refine lv_icmp_ne (tgt := 118) hx hb d_Steps_shift_111 (by decide) (fun c27 => ?_) (fun c27 => ?_)
      · have h := if_f c27 h
        refine lv_iconst (v := 0) hx hb d_Steps_shift_118 (by decide) ?_
        exact b_119 M23 s0 (0 : Int32) _ _ _ h zs0 (by decide) hwf hkp hP hD hS (lv_sub hl [1, 2, 3, 0] rfl)
      have h := if_t c27 h
      exact b_114 M23 s0 _ _ _ h zs0 hwf hkp hP hD hS (lv_sub hl [1, 2, 3, 0] rfl)
    have h := if_f c25 h
    refine lv_aload_n hx hb d_Steps_shift_24 rfl (lv_at hl 3 rfl) ?_
    refine g_Num_0 hx hb hts hown hK hP hwf hj2 (hts _ u_370) d_Steps_shift_25 ?_
    obtain ⟨v28, ev28, h⟩ := st_ob h
    refine fg_topl (y := v28) ev28.symm ?_
    refine lv_lstore (lv' := [(4, .long v28), (3, .int s0), (0, .ref (ad 7 j0)), (1, .ref (ad 10 j1)), (2, .ref (ad 11 j2))]) hx hb d_Steps_shift_28 hl (by decide) rfl (fun ls hl => ?_)
    refine lv_lload hx hb d_Steps_shift_30 (lv_at hl 0 rfl) ?_
    refine lv_ldc2 hx hb hown (hts _ u_1251) d_Steps_shift_32 ?_
    refine W.lcmp hx hb d_Steps_shift_35 ?_
    refine lv_if_lt (tgt := 48) hx hb d_Steps_shift_36 (by decide) (fun c29 => ?_) (fun c29 => ?_)
    · have h := if_t ((lg_cmp_lt _ _).mp c29) h
      refine lv_bipush (v := 11) hx hb d_Steps_shift_48 (by decide) ?_
      exact me_reti (me_kp M0) h hx hb hr hlocks hwf hkp hP hK hD hS d_Steps_shift_50
    have h := if_f (fun z => c29 ((lg_cmp_lt _ _).mpr z)) h
    refine lv_lload hx hb d_Steps_shift_39 (lv_at hl 0 rfl) ?_
    refine lv_ldc2 hx hb hown (hts _ u_1252) d_Steps_shift_41 ?_
    refine W.lcmp hx hb d_Steps_shift_44 ?_
    refine lv_if_le (tgt := 51) hx hb d_Steps_shift_45 (by decide) (fun c30 => ?_) (fun c30 => ?_)
    · have h := if_f (Int64.not_lt.mpr ((lg_cmp_le _ _).mp c30)) h
      refine lv_aload_n hx hb d_Steps_shift_51 rfl (lv_at hl 3 rfl) ?_
      refine g_Cell_1 hx hb hts hown hK hP hwf hj1 (hts _ u_425) d_Steps_shift_52 ?_
      refine lv_iload_n hx hb d_Steps_shift_55 rfl (lv_at hl 1 rfl) ?_
      refine lv_if_eq (tgt := 65) hx hb d_Steps_shift_56 (by decide) (fun c31 => ?_) (fun c31 => ?_)
      · have h := if_t c31 h
        refine lv_lload hx hb d_Steps_shift_65 (lv_at hl 0 rfl) ?_
        exact b_67 M23 v28 (mI M23 10 j1 1) _ _ _ h hwf hkp hP hD hS (lv_sub hl [3] rfl)
      have h := if_f c31 h
      refine lv_lload hx hb d_Steps_shift_59 (lv_at hl 0 rfl) ?_
      refine lv_lneg hx hb d_Steps_shift_61 ?_
      refine lv_goto (tgt := 67) hx hb d_Steps_shift_62 (by decide) ?_
      exact b_67 M23 (-v28) (mI M23 10 j1 1) _ _ _ h hwf hkp hP hD hS (lv_sub hl [3] rfl)
    have h := if_t (Int64.not_le.mp (fun z => c30 ((lg_cmp_le _ _).mpr z))) h
    refine lv_bipush (v := 11) hx hb d_Steps_shift_48 (by decide) ?_
    exact me_reti (me_kp M0) h hx hb hr hlocks hwf hkp hP hK hD hS d_Steps_shift_50
  refine lv_aload_n hx hb d_Steps_shift_0 rfl (lv_at hl 0 rfl) ?_
  refine g_Steps_0 hx hb hts hown hK hP hwf hj0 (hts _ u_455) d_Steps_shift_1 ?_
  obtain ⟨j32, e33, h⟩ := bd_ob h
  have hj32 : j32 < N 2 := (hwf.2.1 7 j0 0 _ e33 (by decide) hj0)
  refine me_opt (j := j32) e33 ?_
  refine g_Code_12 hx hb hts hown hK hP hwf hj32 (hts _ u_262) d_Steps_shift_4 ?_
  refine lv_iconst (v := 1) hx hb d_Steps_shift_7 (by decide) ?_
  refine lv_icmp_ne (tgt := 15) hx hb d_Steps_shift_8 (by decide) (fun c34 => ?_) (fun c34 => ?_)
  · have h := if_f c34 h
    refine lv_iconst (v := 0) hx hb d_Steps_shift_15 (by decide) ?_
    exact b_16 M0 (0 : Int32) _ _ _ h (by decide) hwf hkp hP hD hS (lv_sub hl [0, 1, 2] rfl)
  have h := if_t c34 h
  refine lv_iconst (v := 1) hx hb d_Steps_shift_11 (by decide) ?_
  refine lv_goto (tgt := 16) hx hb d_Steps_shift_12 (by decide) ?_
  exact b_16 M0 (1 : Int32) _ _ _ h (by decide) hwf hkp hP hD hS (lv_sub hl [0, 1, 2] rfl)
