theorem d_Reckoner_notLess_0 : decode prog_9_method_20_code 0 = .ok (.aload_n 1, 1) := by decide +kernel
theorem d_Reckoner_notLess_1 : decode prog_9_method_20_code 1 = .ok (.aload_n 1, 1) := by decide +kernel
theorem d_Reckoner_notLess_2 : decode prog_9_method_20_code 2 = .ok (.getfield 128, 3) := by decide +kernel
theorem d_Reckoner_notLess_5 : decode prog_9_method_20_code 5 = .ok (.aload_n 2, 1) := by decide +kernel
theorem d_Reckoner_notLess_6 : decode prog_9_method_20_code 6 = .ok (.getfield 128, 3) := by decide +kernel
theorem d_Reckoner_notLess_9 : decode prog_9_method_20_code 9 = .ok (.invokestatic 184, 3) := by decide +kernel
theorem d_Reckoner_notLess_12 : decode prog_9_method_20_code 12 = .ok (.putfield 128, 3) := by decide +kernel
theorem d_Reckoner_notLess_15 : decode prog_9_method_20_code 15 = .ok (.aload_n 2, 1) := by decide +kernel
theorem d_Reckoner_notLess_16 : decode prog_9_method_20_code 16 = .ok (.aload_n 2, 1) := by decide +kernel
theorem d_Reckoner_notLess_17 : decode prog_9_method_20_code 17 = .ok (.getfield 131, 3) := by decide +kernel
theorem d_Reckoner_notLess_20 : decode prog_9_method_20_code 20 = .ok (.aload_n 1, 1) := by decide +kernel
theorem d_Reckoner_notLess_21 : decode prog_9_method_20_code 21 = .ok (.getfield 131, 3) := by decide +kernel
theorem d_Reckoner_notLess_24 : decode prog_9_method_20_code 24 = .ok (.invokestatic 189, 3) := by decide +kernel
theorem d_Reckoner_notLess_27 : decode prog_9_method_20_code 27 = .ok (.putfield 131, 3) := by decide +kernel
theorem d_Reckoner_notLess_30 : decode prog_9_method_20_code 30 = .ok (.iconst 1, 1) := by decide +kernel
theorem d_Reckoner_notLess_31 : decode prog_9_method_20_code 31 = .ok (.ireturn, 1) := by decide +kernel
abbrev y_Reckoner_notLess : MethodName := ⟨"FilterGuard$Reckoner", "notLess", "(LFilterGuard$Num;LFilterGuard$Num;)Z"⟩
def rm_Reckoner_notLess : Room := { frames := 2, cells := 0, slots := 0, locals := 60 }
abbrev q_Reckoner_notLess (D : va_G) (ad : Nat → Nat → Nat) (ca : Nat → ClassId) (N : Nat → Nat) (M0 MZ : me_M) (RZ : Int32) (A : Nat → Prop) : Array Value → Jvm.State → Outcome → Jvm.State → Prop := va_Qi (fun r (_ : Unit) => r = RZ ∧ me_wf N MZ ∧ me_kp M0 MZ ∧ (RZ = 1 ∨ RZ = 0)) (fg_B D A (fun _ => me_W ad ca MZ) (fun _ => [])) A
set_option maxHeartbeats 4000000 in
set_option maxRecDepth 100000 in
theorem c_Reckoner_notLess (l : Launch) (D : va_G) (ad : Nat → Nat → Nat) (ca : Nat → ClassId) (N : Nat → Nat) (M0 MZ : me_M) (RZ : Int32) (j0 : Nat) (j1 : Nat) (j2 : Nat) (h : f_Reckoner_notLess M0 j0 j1 j2 = (some (MZ, RZ))) (hwf : me_wf N M0) (hj0 : j0 < N 8) (hj1 : j1 < N 11) (hj2 : j2 < N 11) (sz : Nat) : Met l y_Reckoner_notLess (fg_w y_Reckoner_notLess prog_9_method_20_code 3 (some .boolean)) rm_Reckoner_notLess (va_Pc [.ref (ad 8 j0), .ref (ad 11 j1), .ref (ad 11 j2)] (fz_P D (me_T ca) (me_W ad ca M0) sz)) (q_Reckoner_notLess D ad ca N M0 MZ RZ (va_A (me_W ad ca M0) sz)) rm_Reckoner_notLess.cells rm_Reckoner_notLess.slots (va_A (me_W ad ca M0) sz) := by
  refine fz_enter (fun A => q_Reckoner_notLess D ad ca N M0 MZ RZ A) (by decide +kernel) (Nat.le_of_ble_eq_true rfl) ?_
  intro p e s m below meth c ls A hx hb hml hown hts hr hlocks hin hP hK hD hS hA hX hl hz
  have hl : lv_has ls 3 [(0, .ref (ad 8 j0)), (1, .ref (ad 11 j1)), (2, .ref (ad 11 j2))] := hl
  unfold f_Reckoner_notLess at h
  have hkp : me_kp M0 M0 := me_kp.rf
  have hkb := hkp
  refine lv_aload_n hx hb d_Reckoner_notLess_0 rfl (lv_at hl 1 rfl) ?_
  refine lv_aload_n hx hb d_Reckoner_notLess_1 rfl (lv_at hl 1 rfl) ?_
  refine g_Num_4 hx hb hts hown hK hP hwf hj1 (hts _ u_380) d_Reckoner_notLess_2 ?_
  refine lv_aload_n hx hb d_Reckoner_notLess_5 rfl (lv_at hl 2 rfl) ?_
  refine g_Num_4 hx hb hts hown hK hP hwf hj2 (hts _ u_380) d_Reckoner_notLess_6 ?_
  refine va_mmax_long hx hb (hml.trans hl.1.symm) hown (hts _ u_1287) (hts _ u_1228) (hts _ u_193) (hts _ u_1229) (Nat.le_of_ble_eq_true rfl) (Nat.le_of_ble_eq_true rfl) (Nat.le_of_ble_eq_true rfl) (Nat.le_of_ble_eq_true rfl) d_Reckoner_notLess_9 ?_
  refine fg_topl (y := jlmax (mL M0 11 j1 4) (mL M0 11 j2 4)) rfl ?_
  obtain ⟨M1, eM1, h⟩ := st_ob h
  refine p_Num_4 eM1 hx hb hts hown hK hP hD hwf hS hj1 (hts _ u_380) d_Reckoner_notLess_12 (fun H locs hP hD hwf hS => ?_)
  have hkp := kp_L eM1 hkp
  refine lv_aload_n hx hb d_Reckoner_notLess_15 rfl (lv_at hl 2 rfl) ?_
  refine lv_aload_n hx hb d_Reckoner_notLess_16 rfl (lv_at hl 2 rfl) ?_
  refine g_Num_5 hx hb hts hown hK hP hwf hj2 (hts _ u_382) d_Reckoner_notLess_17 ?_
  refine lv_aload_n hx hb d_Reckoner_notLess_20 rfl (lv_at hl 1 rfl) ?_
  refine g_Num_5 hx hb hts hown hK hP hwf hj1 (hts _ u_382) d_Reckoner_notLess_21 ?_
  refine va_mmin_long hx hb (hml.trans hl.1.symm) hown (hts _ u_1288) (hts _ u_1231) (hts _ u_193) (hts _ u_1232) (Nat.le_of_ble_eq_true rfl) (Nat.le_of_ble_eq_true rfl) (Nat.le_of_ble_eq_true rfl) (Nat.le_of_ble_eq_true rfl) d_Reckoner_notLess_24 ?_
  refine fg_topl (y := jlmin (mL M1 11 j2 5) (mL M1 11 j1 5)) rfl ?_
  obtain ⟨M2, eM2, h⟩ := st_ob h
  refine p_Num_5 eM2 hx hb hts hown hK hP hD hwf hS hj2 (hts _ u_382) d_Reckoner_notLess_27 (fun H locs hP hD hwf hS => ?_)
  have hkp := kp_L eM2 hkp
  refine lv_iconst (v := 1) hx hb d_Reckoner_notLess_30 (by decide) ?_
  exact me_retz (me_kp M0) h (by decide) hx hb hr hlocks hwf hkp hP hK hD hS d_Reckoner_notLess_31
theorem d_Reckoner_notMeet_45 : decode prog_9_method_25_code 45 = .ok (.iload_n 3, 1) := by decide +kernel
theorem d_Reckoner_notMeet_46 : decode prog_9_method_25_code 46 = .ok (.ifCond .eq 20, 3) := by decide +kernel
theorem d_Reckoner_notMeet_66 : decode prog_9_method_25_code 66 = .ok (.iconst 1, 1) := by decide +kernel
theorem d_Reckoner_notMeet_67 : decode prog_9_method_25_code 67 = .ok (.ireturn, 1) := by decide +kernel
theorem d_Reckoner_notMeet_49 : decode prog_9_method_25_code 49 = .ok (.aload_n 2, 1) := by decide +kernel
theorem d_Reckoner_notMeet_50 : decode prog_9_method_25_code 50 = .ok (.dup, 1) := by decide +kernel
theorem d_Reckoner_notMeet_51 : decode prog_9_method_25_code 51 = .ok (.getfield 87, 3) := by decide +kernel
theorem d_Reckoner_notMeet_54 : decode prog_9_method_25_code 54 = .ok (.aload_n 1, 1) := by decide +kernel
theorem d_Reckoner_notMeet_55 : decode prog_9_method_25_code 55 = .ok (.getfield 49, 3) := by decide +kernel
theorem d_Reckoner_notMeet_58 : decode prog_9_method_25_code 58 = .ok (.ldc2_w 90, 3) := by decide +kernel
theorem d_Reckoner_notMeet_61 : decode prog_9_method_25_code 61 = .ok (.lxor, 1) := by decide +kernel
theorem d_Reckoner_notMeet_62 : decode prog_9_method_25_code 62 = .ok (.land, 1) := by decide +kernel
theorem d_Reckoner_notMeet_63 : decode prog_9_method_25_code 63 = .ok (.putfield 87, 3) := by decide +kernel
theorem d_Reckoner_notMeet_0 : decode prog_9_method_25_code 0 = .ok (.aload_n 1, 1) := by decide +kernel
theorem d_Reckoner_notMeet_1 : decode prog_9_method_25_code 1 = .ok (.invokevirtual 45, 3) := by decide +kernel
theorem d_Reckoner_notMeet_4 : decode prog_9_method_25_code 4 = .ok (.istore_n 3, 1) := by decide +kernel
theorem d_Reckoner_notMeet_5 : decode prog_9_method_25_code 5 = .ok (.aload_n 1, 1) := by decide +kernel
theorem d_Reckoner_notMeet_6 : decode prog_9_method_25_code 6 = .ok (.getfield 49, 3) := by decide +kernel
theorem d_Reckoner_notMeet_9 : decode prog_9_method_25_code 9 = .ok (.aload_n 2, 1) := by decide +kernel
theorem d_Reckoner_notMeet_10 : decode prog_9_method_25_code 10 = .ok (.getfield 49, 3) := by decide +kernel
theorem d_Reckoner_notMeet_13 : decode prog_9_method_25_code 13 = .ok (.land, 1) := by decide +kernel
theorem d_Reckoner_notMeet_14 : decode prog_9_method_25_code 14 = .ok (.lconst 0, 1) := by decide +kernel
theorem d_Reckoner_notMeet_15 : decode prog_9_method_25_code 15 = .ok (.lcmp, 1) := by decide +kernel
theorem d_Reckoner_notMeet_16 : decode prog_9_method_25_code 16 = .ok (.ifCond .eq 5, 3) := by decide +kernel
theorem d_Reckoner_notMeet_21 : decode prog_9_method_25_code 21 = .ok (.aload_n 2, 1) := by decide +kernel
theorem d_Reckoner_notMeet_22 : decode prog_9_method_25_code 22 = .ok (.invokevirtual 45, 3) := by decide +kernel
theorem d_Reckoner_notMeet_25 : decode prog_9_method_25_code 25 = .ok (.ifCond .eq 20, 3) := by decide +kernel
theorem d_Reckoner_notMeet_28 : decode prog_9_method_25_code 28 = .ok (.aload_n 1, 1) := by decide +kernel
theorem d_Reckoner_notMeet_29 : decode prog_9_method_25_code 29 = .ok (.dup, 1) := by decide +kernel
theorem d_Reckoner_notMeet_30 : decode prog_9_method_25_code 30 = .ok (.getfield 87, 3) := by decide +kernel
theorem d_Reckoner_notMeet_33 : decode prog_9_method_25_code 33 = .ok (.aload_n 2, 1) := by decide +kernel
theorem d_Reckoner_notMeet_34 : decode prog_9_method_25_code 34 = .ok (.getfield 49, 3) := by decide +kernel
theorem d_Reckoner_notMeet_37 : decode prog_9_method_25_code 37 = .ok (.ldc2_w 90, 3) := by decide +kernel
theorem d_Reckoner_notMeet_40 : decode prog_9_method_25_code 40 = .ok (.lxor, 1) := by decide +kernel
theorem d_Reckoner_notMeet_41 : decode prog_9_method_25_code 41 = .ok (.land, 1) := by decide +kernel
theorem d_Reckoner_notMeet_42 : decode prog_9_method_25_code 42 = .ok (.putfield 87, 3) := by decide +kernel
theorem d_Reckoner_notMeet_19 : decode prog_9_method_25_code 19 = .ok (.iconst 0, 1) := by decide +kernel
theorem d_Reckoner_notMeet_20 : decode prog_9_method_25_code 20 = .ok (.ireturn, 1) := by decide +kernel
abbrev y_Reckoner_notMeet : MethodName := ⟨"FilterGuard$Reckoner", "notMeet", "(LFilterGuard$Num;LFilterGuard$Num;)Z"⟩
def rm_Reckoner_notMeet : Room := { frames := 2, cells := 0, slots := 0, locals := 40 }
abbrev q_Reckoner_notMeet (D : va_G) (ad : Nat → Nat → Nat) (ca : Nat → ClassId) (N : Nat → Nat) (M0 MZ : me_M) (RZ : Int32) (A : Nat → Prop) : Array Value → Jvm.State → Outcome → Jvm.State → Prop := va_Qi (fun r (_ : Unit) => r = RZ ∧ me_wf N MZ ∧ me_kp M0 MZ ∧ (RZ = 1 ∨ RZ = 0)) (fg_B D A (fun _ => me_W ad ca MZ) (fun _ => [])) A
set_option maxHeartbeats 4000000 in
set_option maxRecDepth 100000 in
theorem c_Reckoner_notMeet (l : Launch) (D : va_G) (ad : Nat → Nat → Nat) (ca : Nat → ClassId) (N : Nat → Nat) (M0 MZ : me_M) (RZ : Int32) (j0 : Nat) (j1 : Nat) (j2 : Nat) (h : f_Reckoner_notMeet M0 j0 j1 j2 = (some (MZ, RZ))) (hwf : me_wf N M0) (hj0 : j0 < N 8) (hj1 : j1 < N 11) (hj2 : j2 < N 11) (sz : Nat) : Met l y_Reckoner_notMeet (fg_w y_Reckoner_notMeet prog_9_method_25_code 4 (some .boolean)) rm_Reckoner_notMeet (va_Pc [.ref (ad 8 j0), .ref (ad 11 j1), .ref (ad 11 j2)] (fz_P D (me_T ca) (me_W ad ca M0) sz)) (q_Reckoner_notMeet D ad ca N M0 MZ RZ (va_A (me_W ad ca M0) sz)) rm_Reckoner_notMeet.cells rm_Reckoner_notMeet.slots (va_A (me_W ad ca M0) sz) := by
  refine fz_enter (fun A => q_Reckoner_notMeet D ad ca N M0 MZ RZ A) (by decide +kernel) (Nat.le_of_ble_eq_true rfl) ?_
  intro p e s m below meth c ls A hx hb hml hown hts hr hlocks hin hP hK hD hS hA hX hl hz
  have hl : lv_has ls 4 [(0, .ref (ad 8 j0)), (1, .ref (ad 11 j1)), (2, .ref (ad 11 j2))] := hl
  unfold f_Reckoner_notMeet at h
  have hkp : me_kp M0 M0 := me_kp.rf
  have hkb := hkp
  have b_45 : ∀ (M : me_M) (y3 : Int32) (H : Heap) (locs : List Loc) (ls : Array Slot), f_Reckoner_notMeet_b45 j1 j2 M y3 = (some (MZ, RZ)) → (y3 = 1 ∨ y3 = 0) → me_wf N M → me_kp M0 M → va_P D classes (me_W ad ca M) H → va_D A (me_W ad ca M) → va_S A s.heap H locs → lv_has ls 4 [(1, .ref (ad 11 j1)), (2, .ref (ad 11 j2)), (3, .int y3)] → W p l e rm_Reckoner_notMeet s m [.ref (ad 8 j0), .ref (ad 11 j1), .ref (ad 11 j2)].toArray below meth c H locs 0 0 (MQ below (q_Reckoner_notMeet D ad ca N M0 MZ RZ A) [.ref (ad 8 j0), .ref (ad 11 j1), .ref (ad 11 j2)].toArray s rm_Reckoner_notMeet.cells rm_Reckoner_notMeet.slots A) (F0 m 45 ls []) := by
    intro M y3 H locs ls h zy3 hwf hkp hP hD hS hl
    unfold f_Reckoner_notMeet_b45 at h
    have hkb := hkp
    refine lv_iload_n hx hb d_Reckoner_notMeet_45 rfl (lv_at hl 2 rfl) ?_
    refine lv_if_eq (tgt := 66) hx hb d_Reckoner_notMeet_46 (by decide) (fun c1 => ?_) (fun c1 => ?_)
    · have h := if_t c1 h
      refine lv_iconst (v := 1) hx hb d_Reckoner_notMeet_66 (by decide) ?_
      exact me_retz (me_kp M0) h (by decide) hx hb hr hlocks hwf hkp hP hK hD hS d_Reckoner_notMeet_67
    have h := if_f c1 h
    refine lv_aload_n hx hb d_Reckoner_notMeet_49 rfl (lv_at hl 1 rfl) ?_
    refine lv_dup hx hb d_Reckoner_notMeet_50 rfl ?_
    refine g_Num_1 hx hb hts hown hK hP hwf hj2 (hts _ u_372) d_Reckoner_notMeet_51 ?_
    refine lv_aload_n hx hb d_Reckoner_notMeet_54 rfl (lv_at hl 0 rfl) ?_
    refine g_Num_0 hx hb hts hown hK hP hwf hj1 (hts _ u_368) d_Reckoner_notMeet_55 ?_
    refine lv_ldc2 hx hb hown (hts _ u_1139) d_Reckoner_notMeet_58 ?_
    refine lv_lxor hx hb d_Reckoner_notMeet_61 ?_
    refine lv_land hx hb d_Reckoner_notMeet_62 ?_
    obtain ⟨M2, eM2, h⟩ := st_ob h
    refine p_Num_1 eM2 hx hb hts hown hK hP hD hwf hS hj2 (hts _ u_372) d_Reckoner_notMeet_63 (fun H locs hP hD hwf hS => ?_)
    have hkp := kp_L eM2 hkp
    refine lv_iconst (v := 1) hx hb d_Reckoner_notMeet_66 (by decide) ?_
    exact me_retz (me_kp M0) h (by decide) hx hb hr hlocks hwf hkp hP hK hD hS d_Reckoner_notMeet_67
  refine lv_aload_n hx hb d_Reckoner_notMeet_0 rfl (lv_at hl 1 rfl) ?_
  obtain ⟨M3, r4, eM3, h⟩ := b2_ob h
  refine me_theni0 (M1 := M3) (me_runV (C := "FilterGuard$Num") (As := []) (rest := []) ⟨hx, hb, hml, hown, hts⟩ (c_Num_isExact0 l D ad ca N M0 M3 r4 j1 eM3 hwf hj1 _) rfl (by show fg_nm y_Num_isExact0 0; decide +kernel) u_1157 u_1158 u_1159 u_187 u_1160 ⟨Nat.le_of_ble_eq_true rfl, Nat.le_of_ble_eq_true rfl⟩ hX hz hK hP hD hwf hS hA hj1 (by decide) rfl rfl rfl hl.1 (Nat.le_of_ble_eq_true rfl) d_Reckoner_notMeet_1 ⟨Nat.le_of_ble_eq_true rfl, Nat.le_of_ble_eq_true rfl⟩) hP hD hK hS hA rfl rfl (fun H locs hw hP hD hS => ?_)
  obtain ⟨hwf, hk9, zr4⟩ := hw
  have hkp := hkp.tr hk9
  refine lv_istore_n (lv' := [(3, .int r4), (0, .ref (ad 8 j0)), (1, .ref (ad 11 j1)), (2, .ref (ad 11 j2))]) hx hb d_Reckoner_notMeet_4 rfl hl (by decide) rfl (fun ls hl => ?_)
  refine lv_aload_n hx hb d_Reckoner_notMeet_5 rfl (lv_at hl 2 rfl) ?_
  refine g_Num_0 hx hb hts hown hK hP hwf hj1 (hts _ u_368) d_Reckoner_notMeet_6 ?_
  refine lv_aload_n hx hb d_Reckoner_notMeet_9 rfl (lv_at hl 3 rfl) ?_
  refine g_Num_0 hx hb hts hown hK hP hwf hj2 (hts _ u_368) d_Reckoner_notMeet_10 ?_
  refine lv_land hx hb d_Reckoner_notMeet_13 ?_
  refine lv_lconst (v := 0) hx hb d_Reckoner_notMeet_14 (by decide) ?_
  refine W.lcmp hx hb d_Reckoner_notMeet_15 ?_
  refine lv_if_eq (tgt := 21) hx hb d_Reckoner_notMeet_16 (by decide) (fun c5 => ?_) (fun c5 => ?_)
  · have h := if_t ((lg_cmp_eq _ _).mp c5) h
    refine lv_aload_n hx hb d_Reckoner_notMeet_21 rfl (lv_at hl 3 rfl) ?_
    obtain ⟨M6, r7, eM6, h⟩ := b2_ob h
    refine me_theni0 (M1 := M6) (me_runV (C := "FilterGuard$Num") (As := []) (rest := []) ⟨hx, hb, hml, hown, hts⟩ (c_Num_isExact0 l D ad ca N M3 M6 r7 j2 eM6 hwf hj2 _) rfl (by show fg_nm y_Num_isExact0 0; decide +kernel) u_1157 u_1158 u_1159 u_187 u_1160 ⟨Nat.le_of_ble_eq_true rfl, Nat.le_of_ble_eq_true rfl⟩ hX hz hK hP hD hwf hS hA hj2 (by decide) rfl rfl rfl hl.1 (Nat.le_of_ble_eq_true rfl) d_Reckoner_notMeet_22 ⟨Nat.le_of_ble_eq_true rfl, Nat.le_of_ble_eq_true rfl⟩) hP hD hK hS hA rfl rfl (fun H locs hw hP hD hS => ?_)
    obtain ⟨hwf, hk9, zr7⟩ := hw
    have hkp := hkp.tr hk9
    refine lv_if_eq (tgt := 45) hx hb d_Reckoner_notMeet_25 (by decide) (fun c8 => ?_) (fun c8 => ?_)
    · have h := if_t c8 h
      exact b_45 M6 r4 _ _ _ h zr4 hwf hkp hP hD hS (lv_sub hl [2, 3, 0] rfl)
    have h := if_f c8 h
    refine lv_aload_n hx hb d_Reckoner_notMeet_28 rfl (lv_at hl 2 rfl) ?_
    refine lv_dup hx hb d_Reckoner_notMeet_29 rfl ?_
    refine g_Num_1 hx hb hts hown hK hP hwf hj1 (hts _ u_372) d_Reckoner_notMeet_30 ?_
    refine lv_aload_n hx hb d_Reckoner_notMeet_33 rfl (lv_at hl 3 rfl) ?_
    refine g_Num_0 hx hb hts hown hK hP hwf hj2 (hts _ u_368) d_Reckoner_notMeet_34 ?_
    refine lv_ldc2 hx hb hown (hts _ u_1139) d_Reckoner_notMeet_37 ?_
    refine lv_lxor hx hb d_Reckoner_notMeet_40 ?_
    refine lv_land hx hb d_Reckoner_notMeet_41 ?_
    obtain ⟨M9, eM9, h⟩ := st_ob h
    refine p_Num_1 eM9 hx hb hts hown hK hP hD hwf hS hj1 (hts _ u_372) d_Reckoner_notMeet_42 (fun H locs hP hD hwf hS => ?_)
    have hkp := kp_L eM9 hkp
    exact b_45 M9 r4 _ _ _ h zr4 hwf hkp hP hD hS (lv_sub hl [2, 3, 0] rfl)
  have h := if_f (fun z => c5 ((lg_cmp_eq _ _).mpr z)) h
  refine lv_iconst (v := 0) hx hb d_Reckoner_notMeet_19 (by decide) ?_
  exact me_retz (me_kp M0) h (by decide) hx hb hr hlocks hwf hkp hP hK hD hS d_Reckoner_notMeet_20
theorem d_Reckoner_tellWide_189 : decode prog_9_method_16_code 189 = .ok (.iload 4, 2) := by decide +kernel
theorem d_Reckoner_tellWide_191 : decode prog_9_method_16_code 191 = .ok (.ifCond .eq 21, 3) := by decide +kernel
theorem d_Reckoner_tellWide_212 : decode prog_9_method_16_code 212 = .ok (.iconst 0, 1) := by decide +kernel
theorem d_Reckoner_tellWide_213 : decode prog_9_method_16_code 213 = .ok (.ireturn, 1) := by decide +kernel
theorem d_Reckoner_tellWide_194 : decode prog_9_method_16_code 194 = .ok (.aload_n 2, 1) := by decide +kernel
theorem d_Reckoner_tellWide_195 : decode prog_9_method_16_code 195 = .ok (.invokevirtual 119, 3) := by decide +kernel
theorem d_Reckoner_tellWide_198 : decode prog_9_method_16_code 198 = .ok (.ifCond .eq 14, 3) := by decide +kernel
theorem d_Reckoner_tellWide_201 : decode prog_9_method_16_code 201 = .ok (.aload_n 3, 1) := by decide +kernel
theorem d_Reckoner_tellWide_202 : decode prog_9_method_16_code 202 = .ok (.invokevirtual 119, 3) := by decide +kernel
theorem d_Reckoner_tellWide_205 : decode prog_9_method_16_code 205 = .ok (.ifCond .eq 7, 3) := by decide +kernel
theorem d_Reckoner_tellWide_208 : decode prog_9_method_16_code 208 = .ok (.iconst 1, 1) := by decide +kernel
theorem d_Reckoner_tellWide_209 : decode prog_9_method_16_code 209 = .ok (.goto 4, 3) := by decide +kernel
theorem d_Reckoner_tellWide_0 : decode prog_9_method_16_code 0 = .ok (.iload_n 1, 1) := by decide +kernel
theorem d_Reckoner_tellWide_1 : decode prog_9_method_16_code 1 = .ok (.tableswitch 180 0 10 #[59, 70, 81, 92, 103, 114, 125, 136, 147, 158, 169], 59) := by decide +kernel
theorem d_Reckoner_tellWide_60 : decode prog_9_method_16_code 60 = .ok (.aload_n 0, 1) := by decide +kernel
theorem d_Reckoner_tellWide_61 : decode prog_9_method_16_code 61 = .ok (.aload_n 2, 1) := by decide +kernel
theorem d_Reckoner_tellWide_62 : decode prog_9_method_16_code 62 = .ok (.aload_n 3, 1) := by decide +kernel
theorem d_Reckoner_tellWide_63 : decode prog_9_method_16_code 63 = .ok (.invokevirtual 157, 3) := by decide +kernel
theorem u_1283 : Cond.methodLink "FilterGuard$Reckoner" 157 ⟨"FilterGuard$Reckoner", "same", "(LFilterGuard$Num;LFilterGuard$Num;)Z"⟩ ∈ fg_g := fg_in (List.mem_of_getElem? (i := 1283) (by decide +kernel)) rfl
theorem u_1286 : Cond.code ⟨"FilterGuard$Reckoner", "same", "(LFilterGuard$Num;LFilterGuard$Num;)Z"⟩ prog_9_method_21_code 3 (some .boolean) ∈ fg_g := fg_in (List.mem_of_getElem? (i := 1286) (by decide +kernel)) rfl
theorem u_1285 : Cond.instanceMethod ⟨"FilterGuard$Reckoner", "same", "(LFilterGuard$Num;LFilterGuard$Num;)Z"⟩ ∈ fg_g := fg_in (List.mem_of_getElem? (i := 1285) (by decide +kernel)) rfl
theorem u_31 : Cond.selects "FilterGuard$Reckoner" ⟨"FilterGuard$Reckoner", "same", "(LFilterGuard$Num;LFilterGuard$Num;)Z"⟩ ⟨"FilterGuard$Reckoner", "same", "(LFilterGuard$Num;LFilterGuard$Num;)Z"⟩ ∈ fg_g := fg_in (List.mem_of_getElem? (i := 31) (by decide +kernel)) rfl
theorem d_Reckoner_tellWide_66 : decode prog_9_method_16_code 66 = .ok (.istore 4, 2) := by decide +kernel
theorem d_Reckoner_tellWide_68 : decode prog_9_method_16_code 68 = .ok (.goto 121, 3) := by decide +kernel
theorem d_Reckoner_tellWide_71 : decode prog_9_method_16_code 71 = .ok (.aload_n 0, 1) := by decide +kernel
theorem d_Reckoner_tellWide_72 : decode prog_9_method_16_code 72 = .ok (.aload_n 2, 1) := by decide +kernel
theorem d_Reckoner_tellWide_73 : decode prog_9_method_16_code 73 = .ok (.aload_n 3, 1) := by decide +kernel
theorem d_Reckoner_tellWide_74 : decode prog_9_method_16_code 74 = .ok (.invokevirtual 161, 3) := by decide +kernel
theorem u_1289 : Cond.methodLink "FilterGuard$Reckoner" 161 ⟨"FilterGuard$Reckoner", "above", "(LFilterGuard$Num;LFilterGuard$Num;)Z"⟩ ∈ fg_g := fg_in (List.mem_of_getElem? (i := 1289) (by decide +kernel)) rfl
theorem u_1292 : Cond.code ⟨"FilterGuard$Reckoner", "above", "(LFilterGuard$Num;LFilterGuard$Num;)Z"⟩ prog_9_method_17_code 3 (some .boolean) ∈ fg_g := fg_in (List.mem_of_getElem? (i := 1292) (by decide +kernel)) rfl
theorem u_1291 : Cond.instanceMethod ⟨"FilterGuard$Reckoner", "above", "(LFilterGuard$Num;LFilterGuard$Num;)Z"⟩ ∈ fg_g := fg_in (List.mem_of_getElem? (i := 1291) (by decide +kernel)) rfl
theorem u_32 : Cond.selects "FilterGuard$Reckoner" ⟨"FilterGuard$Reckoner", "above", "(LFilterGuard$Num;LFilterGuard$Num;)Z"⟩ ⟨"FilterGuard$Reckoner", "above", "(LFilterGuard$Num;LFilterGuard$Num;)Z"⟩ ∈ fg_g := fg_in (List.mem_of_getElem? (i := 32) (by decide +kernel)) rfl
theorem d_Reckoner_tellWide_77 : decode prog_9_method_16_code 77 = .ok (.istore 4, 2) := by decide +kernel
theorem d_Reckoner_tellWide_79 : decode prog_9_method_16_code 79 = .ok (.goto 110, 3) := by decide +kernel
theorem d_Reckoner_tellWide_82 : decode prog_9_method_16_code 82 = .ok (.aload_n 0, 1) := by decide +kernel
theorem d_Reckoner_tellWide_83 : decode prog_9_method_16_code 83 = .ok (.aload_n 2, 1) := by decide +kernel
theorem d_Reckoner_tellWide_84 : decode prog_9_method_16_code 84 = .ok (.aload_n 3, 1) := by decide +kernel
theorem d_Reckoner_tellWide_85 : decode prog_9_method_16_code 85 = .ok (.invokevirtual 164, 3) := by decide +kernel
theorem u_1293 : Cond.methodLink "FilterGuard$Reckoner" 164 ⟨"FilterGuard$Reckoner", "notBelow", "(LFilterGuard$Num;LFilterGuard$Num;)Z"⟩ ∈ fg_g := fg_in (List.mem_of_getElem? (i := 1293) (by decide +kernel)) rfl
theorem u_1296 : Cond.code ⟨"FilterGuard$Reckoner", "notBelow", "(LFilterGuard$Num;LFilterGuard$Num;)Z"⟩ prog_9_method_18_code 3 (some .boolean) ∈ fg_g := fg_in (List.mem_of_getElem? (i := 1296) (by decide +kernel)) rfl
theorem u_1295 : Cond.instanceMethod ⟨"FilterGuard$Reckoner", "notBelow", "(LFilterGuard$Num;LFilterGuard$Num;)Z"⟩ ∈ fg_g := fg_in (List.mem_of_getElem? (i := 1295) (by decide +kernel)) rfl
theorem u_33 : Cond.selects "FilterGuard$Reckoner" ⟨"FilterGuard$Reckoner", "notBelow", "(LFilterGuard$Num;LFilterGuard$Num;)Z"⟩ ⟨"FilterGuard$Reckoner", "notBelow", "(LFilterGuard$Num;LFilterGuard$Num;)Z"⟩ ∈ fg_g := fg_in (List.mem_of_getElem? (i := 33) (by decide +kernel)) rfl
theorem d_Reckoner_tellWide_88 : decode prog_9_method_16_code 88 = .ok (.istore 4, 2) := by decide +kernel
theorem d_Reckoner_tellWide_90 : decode prog_9_method_16_code 90 = .ok (.goto 99, 3) := by decide +kernel
theorem d_Reckoner_tellWide_93 : decode prog_9_method_16_code 93 = .ok (.aload_n 0, 1) := by decide +kernel
theorem d_Reckoner_tellWide_94 : decode prog_9_method_16_code 94 = .ok (.aload_n 2, 1) := by decide +kernel
theorem d_Reckoner_tellWide_95 : decode prog_9_method_16_code 95 = .ok (.aload_n 3, 1) := by decide +kernel
theorem d_Reckoner_tellWide_96 : decode prog_9_method_16_code 96 = .ok (.invokevirtual 167, 3) := by decide +kernel
theorem u_1297 : Cond.methodLink "FilterGuard$Reckoner" 167 ⟨"FilterGuard$Reckoner", "meet", "(LFilterGuard$Num;LFilterGuard$Num;)Z"⟩ ∈ fg_g := fg_in (List.mem_of_getElem? (i := 1297) (by decide +kernel)) rfl
theorem u_1300 : Cond.code ⟨"FilterGuard$Reckoner", "meet", "(LFilterGuard$Num;LFilterGuard$Num;)Z"⟩ prog_9_method_24_code 6 (some .boolean) ∈ fg_g := fg_in (List.mem_of_getElem? (i := 1300) (by decide +kernel)) rfl
theorem u_1299 : Cond.instanceMethod ⟨"FilterGuard$Reckoner", "meet", "(LFilterGuard$Num;LFilterGuard$Num;)Z"⟩ ∈ fg_g := fg_in (List.mem_of_getElem? (i := 1299) (by decide +kernel)) rfl
theorem u_34 : Cond.selects "FilterGuard$Reckoner" ⟨"FilterGuard$Reckoner", "meet", "(LFilterGuard$Num;LFilterGuard$Num;)Z"⟩ ⟨"FilterGuard$Reckoner", "meet", "(LFilterGuard$Num;LFilterGuard$Num;)Z"⟩ ∈ fg_g := fg_in (List.mem_of_getElem? (i := 34) (by decide +kernel)) rfl
theorem d_Reckoner_tellWide_99 : decode prog_9_method_16_code 99 = .ok (.istore 4, 2) := by decide +kernel
theorem d_Reckoner_tellWide_101 : decode prog_9_method_16_code 101 = .ok (.goto 88, 3) := by decide +kernel
theorem d_Reckoner_tellWide_104 : decode prog_9_method_16_code 104 = .ok (.aload_n 0, 1) := by decide +kernel
theorem d_Reckoner_tellWide_105 : decode prog_9_method_16_code 105 = .ok (.aload_n 2, 1) := by decide +kernel
theorem d_Reckoner_tellWide_106 : decode prog_9_method_16_code 106 = .ok (.aload_n 3, 1) := by decide +kernel
theorem d_Reckoner_tellWide_107 : decode prog_9_method_16_code 107 = .ok (.invokevirtual 170, 3) := by decide +kernel
theorem u_1302 : Cond.methodLink "FilterGuard$Reckoner" 170 ⟨"FilterGuard$Reckoner", "notSame", "(LFilterGuard$Num;LFilterGuard$Num;)Z"⟩ ∈ fg_g := fg_in (List.mem_of_getElem? (i := 1302) (by decide +kernel)) rfl
theorem u_1305 : Cond.code ⟨"FilterGuard$Reckoner", "notSame", "(LFilterGuard$Num;LFilterGuard$Num;)Z"⟩ prog_9_method_22_code 6 (some .boolean) ∈ fg_g := fg_in (List.mem_of_getElem? (i := 1305) (by decide +kernel)) rfl
theorem u_1304 : Cond.instanceMethod ⟨"FilterGuard$Reckoner", "notSame", "(LFilterGuard$Num;LFilterGuard$Num;)Z"⟩ ∈ fg_g := fg_in (List.mem_of_getElem? (i := 1304) (by decide +kernel)) rfl
theorem u_35 : Cond.selects "FilterGuard$Reckoner" ⟨"FilterGuard$Reckoner", "notSame", "(LFilterGuard$Num;LFilterGuard$Num;)Z"⟩ ⟨"FilterGuard$Reckoner", "notSame", "(LFilterGuard$Num;LFilterGuard$Num;)Z"⟩ ∈ fg_g := fg_in (List.mem_of_getElem? (i := 35) (by decide +kernel)) rfl
theorem d_Reckoner_tellWide_110 : decode prog_9_method_16_code 110 = .ok (.istore 4, 2) := by decide +kernel
theorem d_Reckoner_tellWide_112 : decode prog_9_method_16_code 112 = .ok (.goto 77, 3) := by decide +kernel
theorem d_Reckoner_tellWide_115 : decode prog_9_method_16_code 115 = .ok (.aload_n 0, 1) := by decide +kernel
theorem d_Reckoner_tellWide_116 : decode prog_9_method_16_code 116 = .ok (.aload_n 2, 1) := by decide +kernel
theorem d_Reckoner_tellWide_117 : decode prog_9_method_16_code 117 = .ok (.aload_n 3, 1) := by decide +kernel
theorem d_Reckoner_tellWide_118 : decode prog_9_method_16_code 118 = .ok (.invokevirtual 173, 3) := by decide +kernel
theorem u_1310 : Cond.methodLink "FilterGuard$Reckoner" 173 ⟨"FilterGuard$Reckoner", "greater", "(LFilterGuard$Num;LFilterGuard$Num;)Z"⟩ ∈ fg_g := fg_in (List.mem_of_getElem? (i := 1310) (by decide +kernel)) rfl
theorem u_1313 : Cond.code ⟨"FilterGuard$Reckoner", "greater", "(LFilterGuard$Num;LFilterGuard$Num;)Z"⟩ prog_9_method_19_code 3 (some .boolean) ∈ fg_g := fg_in (List.mem_of_getElem? (i := 1313) (by decide +kernel)) rfl
theorem u_1312 : Cond.instanceMethod ⟨"FilterGuard$Reckoner", "greater", "(LFilterGuard$Num;LFilterGuard$Num;)Z"⟩ ∈ fg_g := fg_in (List.mem_of_getElem? (i := 1312) (by decide +kernel)) rfl
theorem u_37 : Cond.selects "FilterGuard$Reckoner" ⟨"FilterGuard$Reckoner", "greater", "(LFilterGuard$Num;LFilterGuard$Num;)Z"⟩ ⟨"FilterGuard$Reckoner", "greater", "(LFilterGuard$Num;LFilterGuard$Num;)Z"⟩ ∈ fg_g := fg_in (List.mem_of_getElem? (i := 37) (by decide +kernel)) rfl
theorem d_Reckoner_tellWide_121 : decode prog_9_method_16_code 121 = .ok (.istore 4, 2) := by decide +kernel
theorem d_Reckoner_tellWide_123 : decode prog_9_method_16_code 123 = .ok (.goto 66, 3) := by decide +kernel
theorem d_Reckoner_tellWide_126 : decode prog_9_method_16_code 126 = .ok (.aload_n 0, 1) := by decide +kernel
theorem d_Reckoner_tellWide_127 : decode prog_9_method_16_code 127 = .ok (.aload_n 2, 1) := by decide +kernel
theorem d_Reckoner_tellWide_128 : decode prog_9_method_16_code 128 = .ok (.aload_n 3, 1) := by decide +kernel
theorem d_Reckoner_tellWide_129 : decode prog_9_method_16_code 129 = .ok (.invokevirtual 176, 3) := by decide +kernel
theorem u_1315 : Cond.methodLink "FilterGuard$Reckoner" 176 ⟨"FilterGuard$Reckoner", "notLess", "(LFilterGuard$Num;LFilterGuard$Num;)Z"⟩ ∈ fg_g := fg_in (List.mem_of_getElem? (i := 1315) (by decide +kernel)) rfl
theorem u_1318 : Cond.code ⟨"FilterGuard$Reckoner", "notLess", "(LFilterGuard$Num;LFilterGuard$Num;)Z"⟩ prog_9_method_20_code 3 (some .boolean) ∈ fg_g := fg_in (List.mem_of_getElem? (i := 1318) (by decide +kernel)) rfl
theorem u_1317 : Cond.instanceMethod ⟨"FilterGuard$Reckoner", "notLess", "(LFilterGuard$Num;LFilterGuard$Num;)Z"⟩ ∈ fg_g := fg_in (List.mem_of_getElem? (i := 1317) (by decide +kernel)) rfl
theorem u_38 : Cond.selects "FilterGuard$Reckoner" ⟨"FilterGuard$Reckoner", "notLess", "(LFilterGuard$Num;LFilterGuard$Num;)Z"⟩ ⟨"FilterGuard$Reckoner", "notLess", "(LFilterGuard$Num;LFilterGuard$Num;)Z"⟩ ∈ fg_g := fg_in (List.mem_of_getElem? (i := 38) (by decide +kernel)) rfl
theorem d_Reckoner_tellWide_132 : decode prog_9_method_16_code 132 = .ok (.istore 4, 2) := by decide +kernel
theorem d_Reckoner_tellWide_134 : decode prog_9_method_16_code 134 = .ok (.goto 55, 3) := by decide +kernel
theorem d_Reckoner_tellWide_137 : decode prog_9_method_16_code 137 = .ok (.aload_n 0, 1) := by decide +kernel
theorem d_Reckoner_tellWide_138 : decode prog_9_method_16_code 138 = .ok (.aload_n 3, 1) := by decide +kernel
theorem d_Reckoner_tellWide_139 : decode prog_9_method_16_code 139 = .ok (.aload_n 2, 1) := by decide +kernel
theorem d_Reckoner_tellWide_140 : decode prog_9_method_16_code 140 = .ok (.invokevirtual 161, 3) := by decide +kernel
theorem d_Reckoner_tellWide_143 : decode prog_9_method_16_code 143 = .ok (.istore 4, 2) := by decide +kernel
theorem d_Reckoner_tellWide_145 : decode prog_9_method_16_code 145 = .ok (.goto 44, 3) := by decide +kernel
theorem d_Reckoner_tellWide_148 : decode prog_9_method_16_code 148 = .ok (.aload_n 0, 1) := by decide +kernel
theorem d_Reckoner_tellWide_149 : decode prog_9_method_16_code 149 = .ok (.aload_n 3, 1) := by decide +kernel
theorem d_Reckoner_tellWide_150 : decode prog_9_method_16_code 150 = .ok (.aload_n 2, 1) := by decide +kernel
theorem d_Reckoner_tellWide_151 : decode prog_9_method_16_code 151 = .ok (.invokevirtual 164, 3) := by decide +kernel
theorem d_Reckoner_tellWide_154 : decode prog_9_method_16_code 154 = .ok (.istore 4, 2) := by decide +kernel
theorem d_Reckoner_tellWide_156 : decode prog_9_method_16_code 156 = .ok (.goto 33, 3) := by decide +kernel
theorem d_Reckoner_tellWide_159 : decode prog_9_method_16_code 159 = .ok (.aload_n 0, 1) := by decide +kernel
theorem d_Reckoner_tellWide_160 : decode prog_9_method_16_code 160 = .ok (.aload_n 3, 1) := by decide +kernel
theorem d_Reckoner_tellWide_161 : decode prog_9_method_16_code 161 = .ok (.aload_n 2, 1) := by decide +kernel
theorem d_Reckoner_tellWide_162 : decode prog_9_method_16_code 162 = .ok (.invokevirtual 173, 3) := by decide +kernel
theorem d_Reckoner_tellWide_165 : decode prog_9_method_16_code 165 = .ok (.istore 4, 2) := by decide +kernel
theorem d_Reckoner_tellWide_167 : decode prog_9_method_16_code 167 = .ok (.goto 22, 3) := by decide +kernel
theorem d_Reckoner_tellWide_170 : decode prog_9_method_16_code 170 = .ok (.aload_n 0, 1) := by decide +kernel
theorem d_Reckoner_tellWide_171 : decode prog_9_method_16_code 171 = .ok (.aload_n 3, 1) := by decide +kernel
theorem d_Reckoner_tellWide_172 : decode prog_9_method_16_code 172 = .ok (.aload_n 2, 1) := by decide +kernel
theorem d_Reckoner_tellWide_173 : decode prog_9_method_16_code 173 = .ok (.invokevirtual 176, 3) := by decide +kernel
theorem d_Reckoner_tellWide_176 : decode prog_9_method_16_code 176 = .ok (.istore 4, 2) := by decide +kernel
theorem d_Reckoner_tellWide_178 : decode prog_9_method_16_code 178 = .ok (.goto 11, 3) := by decide +kernel
theorem d_Reckoner_tellWide_181 : decode prog_9_method_16_code 181 = .ok (.aload_n 0, 1) := by decide +kernel
theorem d_Reckoner_tellWide_182 : decode prog_9_method_16_code 182 = .ok (.aload_n 2, 1) := by decide +kernel
theorem d_Reckoner_tellWide_183 : decode prog_9_method_16_code 183 = .ok (.aload_n 3, 1) := by decide +kernel
theorem d_Reckoner_tellWide_184 : decode prog_9_method_16_code 184 = .ok (.invokevirtual 179, 3) := by decide +kernel
theorem u_1319 : Cond.methodLink "FilterGuard$Reckoner" 179 ⟨"FilterGuard$Reckoner", "notMeet", "(LFilterGuard$Num;LFilterGuard$Num;)Z"⟩ ∈ fg_g := fg_in (List.mem_of_getElem? (i := 1319) (by decide +kernel)) rfl
theorem u_1322 : Cond.code ⟨"FilterGuard$Reckoner", "notMeet", "(LFilterGuard$Num;LFilterGuard$Num;)Z"⟩ prog_9_method_25_code 4 (some .boolean) ∈ fg_g := fg_in (List.mem_of_getElem? (i := 1322) (by decide +kernel)) rfl
theorem u_1321 : Cond.instanceMethod ⟨"FilterGuard$Reckoner", "notMeet", "(LFilterGuard$Num;LFilterGuard$Num;)Z"⟩ ∈ fg_g := fg_in (List.mem_of_getElem? (i := 1321) (by decide +kernel)) rfl
theorem u_39 : Cond.selects "FilterGuard$Reckoner" ⟨"FilterGuard$Reckoner", "notMeet", "(LFilterGuard$Num;LFilterGuard$Num;)Z"⟩ ⟨"FilterGuard$Reckoner", "notMeet", "(LFilterGuard$Num;LFilterGuard$Num;)Z"⟩ ∈ fg_g := fg_in (List.mem_of_getElem? (i := 39) (by decide +kernel)) rfl
theorem d_Reckoner_tellWide_187 : decode prog_9_method_16_code 187 = .ok (.istore 4, 2) := by decide +kernel
abbrev y_Reckoner_tellWide : MethodName := ⟨"FilterGuard$Reckoner", "tellWide", "(ILFilterGuard$Num;LFilterGuard$Num;)Z"⟩
def rm_Reckoner_tellWide : Room := { frames := 3, cells := 0, slots := 0, locals := 83 }
abbrev q_Reckoner_tellWide (D : va_G) (ad : Nat → Nat → Nat) (ca : Nat → ClassId) (N : Nat → Nat) (M0 MZ : me_M) (RZ : Int32) (A : Nat → Prop) : Array Value → Jvm.State → Outcome → Jvm.State → Prop := va_Qi (fun r (_ : Unit) => r = RZ ∧ me_wf N MZ ∧ me_kp M0 MZ ∧ (RZ = 1 ∨ RZ = 0)) (fg_B D A (fun _ => me_W ad ca MZ) (fun _ => [])) A
set_option maxHeartbeats 4000000 in
set_option maxRecDepth 100000 in
theorem c_Reckoner_tellWide (l : Launch) (D : va_G) (ad : Nat → Nat → Nat) (ca : Nat → ClassId) (N : Nat → Nat) (M0 MZ : me_M) (RZ : Int32) (j0 : Nat) (x1 : Int32) (j2 : Nat) (j3 : Nat) (h : f_Reckoner_tellWide M0 j0 x1 j2 j3 = (some (MZ, RZ))) (hwf : me_wf N M0) (hj0 : j0 < N 8) (hj2 : j2 < N 11) (hj3 : j3 < N 11) (sz : Nat) : Met l y_Reckoner_tellWide (fg_w y_Reckoner_tellWide prog_9_method_16_code 5 (some .boolean)) rm_Reckoner_tellWide (va_Pc [.ref (ad 8 j0), .int x1, .ref (ad 11 j2), .ref (ad 11 j3)] (fz_P D (me_T ca) (me_W ad ca M0) sz)) (q_Reckoner_tellWide D ad ca N M0 MZ RZ (va_A (me_W ad ca M0) sz)) rm_Reckoner_tellWide.cells rm_Reckoner_tellWide.slots (va_A (me_W ad ca M0) sz) := by
  refine fz_enter (fun A => q_Reckoner_tellWide D ad ca N M0 MZ RZ A) (by decide +kernel) (Nat.le_of_ble_eq_true rfl) ?_
  intro p e s m below meth c ls A hx hb hml hown hts hr hlocks hin hP hK hD hS hA hX hl hz
  have hl : lv_has ls 5 [(0, .ref (ad 8 j0)), (1, .int x1), (2, .ref (ad 11 j2)), (3, .ref (ad 11 j3))] := hl
  unfold f_Reckoner_tellWide at h
  have hkp : me_kp M0 M0 := me_kp.rf
  have hkb := hkp
  have b_189 : ∀ (M : me_M) (y4 : Int32) (H : Heap) (locs : List Loc) (ls : Array Slot), f_Reckoner_tellWide_b189 j2 j3 M y4 = (some (MZ, RZ)) → (y4 = 1 ∨ y4 = 0) → me_wf N M → me_kp M0 M → va_P D classes (me_W ad ca M) H → va_D A (me_W ad ca M) → va_S A s.heap H locs → lv_has ls 5 [(2, .ref (ad 11 j2)), (3, .ref (ad 11 j3)), (4, .int y4)] → W p l e rm_Reckoner_tellWide s m [.ref (ad 8 j0), .int x1, .ref (ad 11 j2), .ref (ad 11 j3)].toArray below meth c H locs 0 0 (MQ below (q_Reckoner_tellWide D ad ca N M0 MZ RZ A) [.ref (ad 8 j0), .int x1, .ref (ad 11 j2), .ref (ad 11 j3)].toArray s rm_Reckoner_tellWide.cells rm_Reckoner_tellWide.slots A) (F0 m 189 ls []) := by
    intro M y4 H locs ls h zy4 hwf hkp hP hD hS hl
    unfold f_Reckoner_tellWide_b189 at h
    have hkb := hkp
    refine lv_iload hx hb d_Reckoner_tellWide_189 (lv_at hl 2 rfl) ?_
    refine lv_if_eq (tgt := 212) hx hb d_Reckoner_tellWide_191 (by decide) (fun c1 => ?_) (fun c1 => ?_)
    · have h := if_t c1 h
      refine lv_iconst (v := 0) hx hb d_Reckoner_tellWide_212 (by decide) ?_
      exact me_retz (me_kp M0) h (by decide) hx hb hr hlocks hwf hkp hP hK hD hS d_Reckoner_tellWide_213
    have h := if_f c1 h
    refine lv_aload_n hx hb d_Reckoner_tellWide_194 rfl (lv_at hl 0 rfl) ?_
    obtain ⟨M2, r3, eM2, h⟩ := b2_ob h
    refine me_theni0 (M1 := M2) (me_runV (C := "FilterGuard$Num") (As := []) (rest := []) ⟨hx, hb, hml, hown, hts⟩ (c_Num_settle l D ad ca N M M2 r3 j2 eM2 hwf hj2 _) rfl (by show fg_nm y_Num_settle 0; decide +kernel) u_1221 u_1222 u_1223 u_187 u_1224 ⟨Nat.le_of_ble_eq_true rfl, Nat.le_of_ble_eq_true rfl⟩ hX hz hK hP hD hwf hS hA hj2 (by decide) rfl rfl rfl hl.1 (Nat.le_of_ble_eq_true rfl) d_Reckoner_tellWide_195 ⟨Nat.le_of_ble_eq_true rfl, Nat.le_of_ble_eq_true rfl⟩) hP hD hK hS hA rfl rfl (fun H locs hw hP hD hS => ?_)
    obtain ⟨hwf, hk9, zr3⟩ := hw
    have hkp := hkp.tr hk9
    refine lv_if_eq (tgt := 212) hx hb d_Reckoner_tellWide_198 (by decide) (fun c4 => ?_) (fun c4 => ?_)
    · have h := if_t c4 h
      refine lv_iconst (v := 0) hx hb d_Reckoner_tellWide_212 (by decide) ?_
      exact me_retz (me_kp M0) h (by decide) hx hb hr hlocks hwf hkp hP hK hD hS d_Reckoner_tellWide_213
    have h := if_f c4 h
    refine lv_aload_n hx hb d_Reckoner_tellWide_201 rfl (lv_at hl 1 rfl) ?_
    obtain ⟨M5, r6, eM5, h⟩ := b2_ob h
    refine me_theni0 (M1 := M5) (me_runV (C := "FilterGuard$Num") (As := []) (rest := []) ⟨hx, hb, hml, hown, hts⟩ (c_Num_settle l D ad ca N M2 M5 r6 j3 eM5 hwf hj3 _) rfl (by show fg_nm y_Num_settle 0; decide +kernel) u_1221 u_1222 u_1223 u_187 u_1224 ⟨Nat.le_of_ble_eq_true rfl, Nat.le_of_ble_eq_true rfl⟩ hX hz hK hP hD hwf hS hA hj3 (by decide) rfl rfl rfl hl.1 (Nat.le_of_ble_eq_true rfl) d_Reckoner_tellWide_202 ⟨Nat.le_of_ble_eq_true rfl, Nat.le_of_ble_eq_true rfl⟩) hP hD hK hS hA rfl rfl (fun H locs hw hP hD hS => ?_)
    obtain ⟨hwf, hk9, zr6⟩ := hw
    have hkp := hkp.tr hk9
    refine lv_if_eq (tgt := 212) hx hb d_Reckoner_tellWide_205 (by decide) (fun c7 => ?_) (fun c7 => ?_)
    · have h := if_t c7 h
      refine lv_iconst (v := 0) hx hb d_Reckoner_tellWide_212 (by decide) ?_
      exact me_retz (me_kp M0) h (by decide) hx hb hr hlocks hwf hkp hP hK hD hS d_Reckoner_tellWide_213
    have h := if_f c7 h
    refine lv_iconst (v := 1) hx hb d_Reckoner_tellWide_208 (by decide) ?_
    refine lv_goto (tgt := 213) hx hb d_Reckoner_tellWide_209 (by decide) ?_
    exact me_retz (me_kp M0) h (by decide) hx hb hr hlocks hwf hkp hP hK hD hS d_Reckoner_tellWide_213
  refine lv_iload_n hx hb d_Reckoner_tellWide_0 rfl (lv_at hl 1 rfl) ?_
  refine lv_topi (fun w8 ew8 => ?_)
  by_cases n9 : w8 = 0
  · have h := if_t (ew8.symm.trans n9) h
    subst n9
    refine lv_tableIn (off := 59) (tgt := 60) hx hb d_Reckoner_tellWide_1 (by decide) (by decide) (by decide) (by decide) ?_
    refine lv_aload_n hx hb d_Reckoner_tellWide_60 rfl (lv_at hl 0 rfl) ?_
    refine lv_aload_n hx hb d_Reckoner_tellWide_61 rfl (lv_at hl 2 rfl) ?_
    refine lv_aload_n hx hb d_Reckoner_tellWide_62 rfl (lv_at hl 3 rfl) ?_
    obtain ⟨M10, r11, eM10, h⟩ := b2_ob h
    refine me_theni0 (M1 := M10) (me_runV (C := "FilterGuard$Reckoner") (As := [.ref (ad 11 j2), .ref (ad 11 j3)]) (rest := []) ⟨hx, hb, hml, hown, hts⟩ (c_Reckoner_same l D ad ca N M0 M10 r11 j0 j2 j3 eM10 hwf hj0 hj2 hj3 _) rfl (by show fg_nm y_Reckoner_same 2; decide +kernel) u_1283 u_1285 u_31 u_186 u_1286 ⟨Nat.le_of_ble_eq_true rfl, Nat.le_of_ble_eq_true rfl⟩ hX hz hK hP hD hwf hS hA hj0 (by decide) rfl rfl rfl hl.1 (Nat.le_of_ble_eq_true rfl) d_Reckoner_tellWide_63 ⟨Nat.le_of_ble_eq_true rfl, Nat.le_of_ble_eq_true rfl⟩) hP hD hK hS hA rfl rfl (fun H locs hw hP hD hS => ?_)
    obtain ⟨hwf, hk9, zr11⟩ := hw
    have hkp := hkp.tr hk9
    refine lv_istore (lv' := [(4, .int r11), (0, .ref (ad 8 j0)), (1, .int x1), (2, .ref (ad 11 j2)), (3, .ref (ad 11 j3))]) hx hb d_Reckoner_tellWide_66 hl (by decide) rfl (fun ls hl => ?_)
    refine lv_goto (tgt := 189) hx hb d_Reckoner_tellWide_68 (by decide) ?_
    exact b_189 M10 r11 _ _ _ h zr11 hwf hkp hP hD hS (lv_sub hl [3, 4, 0] rfl)
  have h := if_f (fun z => n9 (ew8.trans z)) h
  by_cases n12 : w8 = 1
  · have h := if_t (ew8.symm.trans n12) h
    subst n12
    refine lv_tableIn (off := 70) (tgt := 71) hx hb d_Reckoner_tellWide_1 (by decide) (by decide) (by decide) (by decide) ?_
    refine lv_aload_n hx hb d_Reckoner_tellWide_71 rfl (lv_at hl 0 rfl) ?_
    refine lv_aload_n hx hb d_Reckoner_tellWide_72 rfl (lv_at hl 2 rfl) ?_
    refine lv_aload_n hx hb d_Reckoner_tellWide_73 rfl (lv_at hl 3 rfl) ?_
    obtain ⟨M13, r14, eM13, h⟩ := b2_ob h
    refine me_theni0 (M1 := M13) (me_runV (C := "FilterGuard$Reckoner") (As := [.ref (ad 11 j2), .ref (ad 11 j3)]) (rest := []) ⟨hx, hb, hml, hown, hts⟩ (c_Reckoner_above l D ad ca N M0 M13 r14 j0 j2 j3 eM13 hwf hj0 hj2 hj3 _) rfl (by show fg_nm y_Reckoner_above 2; decide +kernel) u_1289 u_1291 u_32 u_186 u_1292 ⟨Nat.le_of_ble_eq_true rfl, Nat.le_of_ble_eq_true rfl⟩ hX hz hK hP hD hwf hS hA hj0 (by decide) rfl rfl rfl hl.1 (Nat.le_of_ble_eq_true rfl) d_Reckoner_tellWide_74 ⟨Nat.le_of_ble_eq_true rfl, Nat.le_of_ble_eq_true rfl⟩) hP hD hK hS hA rfl rfl (fun H locs hw hP hD hS => ?_)
    obtain ⟨hwf, hk9, zr14⟩ := hw
    have hkp := hkp.tr hk9
    refine lv_istore (lv' := [(4, .int r14), (0, .ref (ad 8 j0)), (1, .int x1), (2, .ref (ad 11 j2)), (3, .ref (ad 11 j3))]) hx hb d_Reckoner_tellWide_77 hl (by decide) rfl (fun ls hl => ?_)
    refine lv_goto (tgt := 189) hx hb d_Reckoner_tellWide_79 (by decide) ?_
    exact b_189 M13 r14 _ _ _ h zr14 hwf hkp hP hD hS (lv_sub hl [3, 4, 0] rfl)
  have h := if_f (fun z => n12 (ew8.trans z)) h
  by_cases n15 : w8 = 2
  · have h := if_t (ew8.symm.trans n15) h
    subst n15
    refine lv_tableIn (off := 81) (tgt := 82) hx hb d_Reckoner_tellWide_1 (by decide) (by decide) (by decide) (by decide) ?_
    refine lv_aload_n hx hb d_Reckoner_tellWide_82 rfl (lv_at hl 0 rfl) ?_
    refine lv_aload_n hx hb d_Reckoner_tellWide_83 rfl (lv_at hl 2 rfl) ?_
    refine lv_aload_n hx hb d_Reckoner_tellWide_84 rfl (lv_at hl 3 rfl) ?_
    obtain ⟨M16, r17, eM16, h⟩ := b2_ob h
    refine me_theni0 (M1 := M16) (me_runV (C := "FilterGuard$Reckoner") (As := [.ref (ad 11 j2), .ref (ad 11 j3)]) (rest := []) ⟨hx, hb, hml, hown, hts⟩ (c_Reckoner_notBelow l D ad ca N M0 M16 r17 j0 j2 j3 eM16 hwf hj0 hj2 hj3 _) rfl (by show fg_nm y_Reckoner_notBelow 2; decide +kernel) u_1293 u_1295 u_33 u_186 u_1296 ⟨Nat.le_of_ble_eq_true rfl, Nat.le_of_ble_eq_true rfl⟩ hX hz hK hP hD hwf hS hA hj0 (by decide) rfl rfl rfl hl.1 (Nat.le_of_ble_eq_true rfl) d_Reckoner_tellWide_85 ⟨Nat.le_of_ble_eq_true rfl, Nat.le_of_ble_eq_true rfl⟩) hP hD hK hS hA rfl rfl (fun H locs hw hP hD hS => ?_)
    obtain ⟨hwf, hk9, zr17⟩ := hw
    have hkp := hkp.tr hk9
    refine lv_istore (lv' := [(4, .int r17), (0, .ref (ad 8 j0)), (1, .int x1), (2, .ref (ad 11 j2)), (3, .ref (ad 11 j3))]) hx hb d_Reckoner_tellWide_88 hl (by decide) rfl (fun ls hl => ?_)
    refine lv_goto (tgt := 189) hx hb d_Reckoner_tellWide_90 (by decide) ?_
    exact b_189 M16 r17 _ _ _ h zr17 hwf hkp hP hD hS (lv_sub hl [3, 4, 0] rfl)
  have h := if_f (fun z => n15 (ew8.trans z)) h
  by_cases n18 : w8 = 3
  · have h := if_t (ew8.symm.trans n18) h
    subst n18
    refine lv_tableIn (off := 92) (tgt := 93) hx hb d_Reckoner_tellWide_1 (by decide) (by decide) (by decide) (by decide) ?_
    refine lv_aload_n hx hb d_Reckoner_tellWide_93 rfl (lv_at hl 0 rfl) ?_
    refine lv_aload_n hx hb d_Reckoner_tellWide_94 rfl (lv_at hl 2 rfl) ?_
    refine lv_aload_n hx hb d_Reckoner_tellWide_95 rfl (lv_at hl 3 rfl) ?_
    obtain ⟨M19, r20, eM19, h⟩ := b2_ob h
    refine me_theni0 (M1 := M19) (me_runV (C := "FilterGuard$Reckoner") (As := [.ref (ad 11 j2), .ref (ad 11 j3)]) (rest := []) ⟨hx, hb, hml, hown, hts⟩ (c_Reckoner_meet l D ad ca N M0 M19 r20 j0 j2 j3 eM19 hwf hj0 hj2 hj3 _) rfl (by show fg_nm y_Reckoner_meet 2; decide +kernel) u_1297 u_1299 u_34 u_186 u_1300 ⟨Nat.le_of_ble_eq_true rfl, Nat.le_of_ble_eq_true rfl⟩ hX hz hK hP hD hwf hS hA hj0 (by decide) rfl rfl rfl hl.1 (Nat.le_of_ble_eq_true rfl) d_Reckoner_tellWide_96 ⟨Nat.le_of_ble_eq_true rfl, Nat.le_of_ble_eq_true rfl⟩) hP hD hK hS hA rfl rfl (fun H locs hw hP hD hS => ?_)
    obtain ⟨hwf, hk9, zr20⟩ := hw
    have hkp := hkp.tr hk9
    refine lv_istore (lv' := [(4, .int r20), (0, .ref (ad 8 j0)), (1, .int x1), (2, .ref (ad 11 j2)), (3, .ref (ad 11 j3))]) hx hb d_Reckoner_tellWide_99 hl (by decide) rfl (fun ls hl => ?_)
    refine lv_goto (tgt := 189) hx hb d_Reckoner_tellWide_101 (by decide) ?_
    exact b_189 M19 r20 _ _ _ h zr20 hwf hkp hP hD hS (lv_sub hl [3, 4, 0] rfl)
  have h := if_f (fun z => n18 (ew8.trans z)) h
  by_cases n21 : w8 = 4
  · have h := if_t (ew8.symm.trans n21) h
    subst n21
    refine lv_tableIn (off := 103) (tgt := 104) hx hb d_Reckoner_tellWide_1 (by decide) (by decide) (by decide) (by decide) ?_
    refine lv_aload_n hx hb d_Reckoner_tellWide_104 rfl (lv_at hl 0 rfl) ?_
    refine lv_aload_n hx hb d_Reckoner_tellWide_105 rfl (lv_at hl 2 rfl) ?_
    refine lv_aload_n hx hb d_Reckoner_tellWide_106 rfl (lv_at hl 3 rfl) ?_
    obtain ⟨M22, r23, eM22, h⟩ := b2_ob h
    refine me_theni0 (M1 := M22) (me_runV (C := "FilterGuard$Reckoner") (As := [.ref (ad 11 j2), .ref (ad 11 j3)]) (rest := []) ⟨hx, hb, hml, hown, hts⟩ (c_Reckoner_notSame l D ad ca N M0 M22 r23 j0 j2 j3 eM22 hwf hj0 hj2 hj3 _) rfl (by show fg_nm y_Reckoner_notSame 2; decide +kernel) u_1302 u_1304 u_35 u_186 u_1305 ⟨Nat.le_of_ble_eq_true rfl, Nat.le_of_ble_eq_true rfl⟩ hX hz hK hP hD hwf hS hA hj0 (by decide) rfl rfl rfl hl.1 (Nat.le_of_ble_eq_true rfl) d_Reckoner_tellWide_107 ⟨Nat.le_of_ble_eq_true rfl, Nat.le_of_ble_eq_true rfl⟩) hP hD hK hS hA rfl rfl (fun H locs hw hP hD hS => ?_)
    obtain ⟨hwf, hk9, zr23⟩ := hw
    have hkp := hkp.tr hk9
    refine lv_istore (lv' := [(4, .int r23), (0, .ref (ad 8 j0)), (1, .int x1), (2, .ref (ad 11 j2)), (3, .ref (ad 11 j3))]) hx hb d_Reckoner_tellWide_110 hl (by decide) rfl (fun ls hl => ?_)
    refine lv_goto (tgt := 189) hx hb d_Reckoner_tellWide_112 (by decide) ?_
    exact b_189 M22 r23 _ _ _ h zr23 hwf hkp hP hD hS (lv_sub hl [3, 4, 0] rfl)
  have h := if_f (fun z => n21 (ew8.trans z)) h
  by_cases n24 : w8 = 5
  · have h := if_t (ew8.symm.trans n24) h
    subst n24
    refine lv_tableIn (off := 114) (tgt := 115) hx hb d_Reckoner_tellWide_1 (by decide) (by decide) (by decide) (by decide) ?_
    refine lv_aload_n hx hb d_Reckoner_tellWide_115 rfl (lv_at hl 0 rfl) ?_
    refine lv_aload_n hx hb d_Reckoner_tellWide_116 rfl (lv_at hl 2 rfl) ?_
    refine lv_aload_n hx hb d_Reckoner_tellWide_117 rfl (lv_at hl 3 rfl) ?_
    obtain ⟨M25, r26, eM25, h⟩ := b2_ob h
    refine me_theni0 (M1 := M25) (me_runV (C := "FilterGuard$Reckoner") (As := [.ref (ad 11 j2), .ref (ad 11 j3)]) (rest := []) ⟨hx, hb, hml, hown, hts⟩ (c_Reckoner_greater l D ad ca N M0 M25 r26 j0 j2 j3 eM25 hwf hj0 hj2 hj3 _) rfl (by show fg_nm y_Reckoner_greater 2; decide +kernel) u_1310 u_1312 u_37 u_186 u_1313 ⟨Nat.le_of_ble_eq_true rfl, Nat.le_of_ble_eq_true rfl⟩ hX hz hK hP hD hwf hS hA hj0 (by decide) rfl rfl rfl hl.1 (Nat.le_of_ble_eq_true rfl) d_Reckoner_tellWide_118 ⟨Nat.le_of_ble_eq_true rfl, Nat.le_of_ble_eq_true rfl⟩) hP hD hK hS hA rfl rfl (fun H locs hw hP hD hS => ?_)
    obtain ⟨hwf, hk9, zr26⟩ := hw
    have hkp := hkp.tr hk9
    refine lv_istore (lv' := [(4, .int r26), (0, .ref (ad 8 j0)), (1, .int x1), (2, .ref (ad 11 j2)), (3, .ref (ad 11 j3))]) hx hb d_Reckoner_tellWide_121 hl (by decide) rfl (fun ls hl => ?_)
    refine lv_goto (tgt := 189) hx hb d_Reckoner_tellWide_123 (by decide) ?_
    exact b_189 M25 r26 _ _ _ h zr26 hwf hkp hP hD hS (lv_sub hl [3, 4, 0] rfl)
  have h := if_f (fun z => n24 (ew8.trans z)) h
  by_cases n27 : w8 = 6
  · have h := if_t (ew8.symm.trans n27) h
    subst n27
    refine lv_tableIn (off := 125) (tgt := 126) hx hb d_Reckoner_tellWide_1 (by decide) (by decide) (by decide) (by decide) ?_
    refine lv_aload_n hx hb d_Reckoner_tellWide_126 rfl (lv_at hl 0 rfl) ?_
    refine lv_aload_n hx hb d_Reckoner_tellWide_127 rfl (lv_at hl 2 rfl) ?_
    refine lv_aload_n hx hb d_Reckoner_tellWide_128 rfl (lv_at hl 3 rfl) ?_
    obtain ⟨M28, r29, eM28, h⟩ := b2_ob h
    refine me_theni0 (M1 := M28) (me_runV (C := "FilterGuard$Reckoner") (As := [.ref (ad 11 j2), .ref (ad 11 j3)]) (rest := []) ⟨hx, hb, hml, hown, hts⟩ (c_Reckoner_notLess l D ad ca N M0 M28 r29 j0 j2 j3 eM28 hwf hj0 hj2 hj3 _) rfl (by show fg_nm y_Reckoner_notLess 2; decide +kernel) u_1315 u_1317 u_38 u_186 u_1318 ⟨Nat.le_of_ble_eq_true rfl, Nat.le_of_ble_eq_true rfl⟩ hX hz hK hP hD hwf hS hA hj0 (by decide) rfl rfl rfl hl.1 (Nat.le_of_ble_eq_true rfl) d_Reckoner_tellWide_129 ⟨Nat.le_of_ble_eq_true rfl, Nat.le_of_ble_eq_true rfl⟩) hP hD hK hS hA rfl rfl (fun H locs hw hP hD hS => ?_)
    obtain ⟨hwf, hk9, zr29⟩ := hw
    have hkp := hkp.tr hk9
    refine lv_istore (lv' := [(4, .int r29), (0, .ref (ad 8 j0)), (1, .int x1), (2, .ref (ad 11 j2)), (3, .ref (ad 11 j3))]) hx hb d_Reckoner_tellWide_132 hl (by decide) rfl (fun ls hl => ?_)
    refine lv_goto (tgt := 189) hx hb d_Reckoner_tellWide_134 (by decide) ?_
    exact b_189 M28 r29 _ _ _ h zr29 hwf hkp hP hD hS (lv_sub hl [3, 4, 0] rfl)
  have h := if_f (fun z => n27 (ew8.trans z)) h
  by_cases n30 : w8 = 7
  · have h := if_t (ew8.symm.trans n30) h
    subst n30
    refine lv_tableIn (off := 136) (tgt := 137) hx hb d_Reckoner_tellWide_1 (by decide) (by decide) (by decide) (by decide) ?_
    refine lv_aload_n hx hb d_Reckoner_tellWide_137 rfl (lv_at hl 0 rfl) ?_
    refine lv_aload_n hx hb d_Reckoner_tellWide_138 rfl (lv_at hl 3 rfl) ?_
    refine lv_aload_n hx hb d_Reckoner_tellWide_139 rfl (lv_at hl 2 rfl) ?_
    obtain ⟨M31, r32, eM31, h⟩ := b2_ob h
    refine me_theni0 (M1 := M31) (me_runV (C := "FilterGuard$Reckoner") (As := [.ref (ad 11 j3), .ref (ad 11 j2)]) (rest := []) ⟨hx, hb, hml, hown, hts⟩ (c_Reckoner_above l D ad ca N M0 M31 r32 j0 j3 j2 eM31 hwf hj0 hj3 hj2 _) rfl (by show fg_nm y_Reckoner_above 2; decide +kernel) u_1289 u_1291 u_32 u_186 u_1292 ⟨Nat.le_of_ble_eq_true rfl, Nat.le_of_ble_eq_true rfl⟩ hX hz hK hP hD hwf hS hA hj0 (by decide) rfl rfl rfl hl.1 (Nat.le_of_ble_eq_true rfl) d_Reckoner_tellWide_140 ⟨Nat.le_of_ble_eq_true rfl, Nat.le_of_ble_eq_true rfl⟩) hP hD hK hS hA rfl rfl (fun H locs hw hP hD hS => ?_)
    obtain ⟨hwf, hk9, zr32⟩ := hw
    have hkp := hkp.tr hk9
    refine lv_istore (lv' := [(4, .int r32), (0, .ref (ad 8 j0)), (1, .int x1), (2, .ref (ad 11 j2)), (3, .ref (ad 11 j3))]) hx hb d_Reckoner_tellWide_143 hl (by decide) rfl (fun ls hl => ?_)
    refine lv_goto (tgt := 189) hx hb d_Reckoner_tellWide_145 (by decide) ?_
    exact b_189 M31 r32 _ _ _ h zr32 hwf hkp hP hD hS (lv_sub hl [3, 4, 0] rfl)
  have h := if_f (fun z => n30 (ew8.trans z)) h
  by_cases n33 : w8 = 8
  · have h := if_t (ew8.symm.trans n33) h
    subst n33
    refine lv_tableIn (off := 147) (tgt := 148) hx hb d_Reckoner_tellWide_1 (by decide) (by decide) (by decide) (by decide) ?_
    refine lv_aload_n hx hb d_Reckoner_tellWide_148 rfl (lv_at hl 0 rfl) ?_
    refine lv_aload_n hx hb d_Reckoner_tellWide_149 rfl (lv_at hl 3 rfl) ?_
    refine lv_aload_n hx hb d_Reckoner_tellWide_150 rfl (lv_at hl 2 rfl) ?_
    obtain ⟨M34, r35, eM34, h⟩ := b2_ob h
    refine me_theni0 (M1 := M34) (me_runV (C := "FilterGuard$Reckoner") (As := [.ref (ad 11 j3), .ref (ad 11 j2)]) (rest := []) ⟨hx, hb, hml, hown, hts⟩ (c_Reckoner_notBelow l D ad ca N M0 M34 r35 j0 j3 j2 eM34 hwf hj0 hj3 hj2 _) rfl (by show fg_nm y_Reckoner_notBelow 2; decide +kernel) u_1293 u_1295 u_33 u_186 u_1296 ⟨Nat.le_of_ble_eq_true rfl, Nat.le_of_ble_eq_true rfl⟩ hX hz hK hP hD hwf hS hA hj0 (by decide) rfl rfl rfl hl.1 (Nat.le_of_ble_eq_true rfl) d_Reckoner_tellWide_151 ⟨Nat.le_of_ble_eq_true rfl, Nat.le_of_ble_eq_true rfl⟩) hP hD hK hS hA rfl rfl (fun H locs hw hP hD hS => ?_)
    obtain ⟨hwf, hk9, zr35⟩ := hw
    have hkp := hkp.tr hk9
    refine lv_istore (lv' := [(4, .int r35), (0, .ref (ad 8 j0)), (1, .int x1), (2, .ref (ad 11 j2)), (3, .ref (ad 11 j3))]) hx hb d_Reckoner_tellWide_154 hl (by decide) rfl (fun ls hl => ?_)
    refine lv_goto (tgt := 189) hx hb d_Reckoner_tellWide_156 (by decide) ?_
    exact b_189 M34 r35 _ _ _ h zr35 hwf hkp hP hD hS (lv_sub hl [3, 4, 0] rfl)
  have h := if_f (fun z => n33 (ew8.trans z)) h
  by_cases n36 : w8 = 9
  · have h := if_t (ew8.symm.trans n36) h
    subst n36
    refine lv_tableIn (off := 158) (tgt := 159) hx hb d_Reckoner_tellWide_1 (by decide) (by decide) (by decide) (by decide) ?_
    refine lv_aload_n hx hb d_Reckoner_tellWide_159 rfl (lv_at hl 0 rfl) ?_
    refine lv_aload_n hx hb d_Reckoner_tellWide_160 rfl (lv_at hl 3 rfl) ?_
    refine lv_aload_n hx hb d_Reckoner_tellWide_161 rfl (lv_at hl 2 rfl) ?_
    obtain ⟨M37, r38, eM37, h⟩ := b2_ob h
    refine me_theni0 (M1 := M37) (me_runV (C := "FilterGuard$Reckoner") (As := [.ref (ad 11 j3), .ref (ad 11 j2)]) (rest := []) ⟨hx, hb, hml, hown, hts⟩ (c_Reckoner_greater l D ad ca N M0 M37 r38 j0 j3 j2 eM37 hwf hj0 hj3 hj2 _) rfl (by show fg_nm y_Reckoner_greater 2; decide +kernel) u_1310 u_1312 u_37 u_186 u_1313 ⟨Nat.le_of_ble_eq_true rfl, Nat.le_of_ble_eq_true rfl⟩ hX hz hK hP hD hwf hS hA hj0 (by decide) rfl rfl rfl hl.1 (Nat.le_of_ble_eq_true rfl) d_Reckoner_tellWide_162 ⟨Nat.le_of_ble_eq_true rfl, Nat.le_of_ble_eq_true rfl⟩) hP hD hK hS hA rfl rfl (fun H locs hw hP hD hS => ?_)
    obtain ⟨hwf, hk9, zr38⟩ := hw
    have hkp := hkp.tr hk9
    refine lv_istore (lv' := [(4, .int r38), (0, .ref (ad 8 j0)), (1, .int x1), (2, .ref (ad 11 j2)), (3, .ref (ad 11 j3))]) hx hb d_Reckoner_tellWide_165 hl (by decide) rfl (fun ls hl => ?_)
    refine lv_goto (tgt := 189) hx hb d_Reckoner_tellWide_167 (by decide) ?_
    exact b_189 M37 r38 _ _ _ h zr38 hwf hkp hP hD hS (lv_sub hl [3, 4, 0] rfl)
  have h := if_f (fun z => n36 (ew8.trans z)) h
  by_cases n39 : w8 = 10
  · have h := if_t (ew8.symm.trans n39) h
    subst n39
    refine lv_tableIn (off := 169) (tgt := 170) hx hb d_Reckoner_tellWide_1 (by decide) (by decide) (by decide) (by decide) ?_
    refine lv_aload_n hx hb d_Reckoner_tellWide_170 rfl (lv_at hl 0 rfl) ?_
    refine lv_aload_n hx hb d_Reckoner_tellWide_171 rfl (lv_at hl 3 rfl) ?_
    refine lv_aload_n hx hb d_Reckoner_tellWide_172 rfl (lv_at hl 2 rfl) ?_
    obtain ⟨M40, r41, eM40, h⟩ := b2_ob h
    refine me_theni0 (M1 := M40) (me_runV (C := "FilterGuard$Reckoner") (As := [.ref (ad 11 j3), .ref (ad 11 j2)]) (rest := []) ⟨hx, hb, hml, hown, hts⟩ (c_Reckoner_notLess l D ad ca N M0 M40 r41 j0 j3 j2 eM40 hwf hj0 hj3 hj2 _) rfl (by show fg_nm y_Reckoner_notLess 2; decide +kernel) u_1315 u_1317 u_38 u_186 u_1318 ⟨Nat.le_of_ble_eq_true rfl, Nat.le_of_ble_eq_true rfl⟩ hX hz hK hP hD hwf hS hA hj0 (by decide) rfl rfl rfl hl.1 (Nat.le_of_ble_eq_true rfl) d_Reckoner_tellWide_173 ⟨Nat.le_of_ble_eq_true rfl, Nat.le_of_ble_eq_true rfl⟩) hP hD hK hS hA rfl rfl (fun H locs hw hP hD hS => ?_)
    obtain ⟨hwf, hk9, zr41⟩ := hw
    have hkp := hkp.tr hk9
    refine lv_istore (lv' := [(4, .int r41), (0, .ref (ad 8 j0)), (1, .int x1), (2, .ref (ad 11 j2)), (3, .ref (ad 11 j3))]) hx hb d_Reckoner_tellWide_176 hl (by decide) rfl (fun ls hl => ?_)
    refine lv_goto (tgt := 189) hx hb d_Reckoner_tellWide_178 (by decide) ?_
    exact b_189 M40 r41 _ _ _ h zr41 hwf hkp hP hD hS (lv_sub hl [3, 4, 0] rfl)
  have h := if_f (fun z => n39 (ew8.trans z)) h
  have in9 := lv_neT n9 (show (0 : Int32).toInt = 0 from rfl)
  have in12 := lv_neT n12 (show (1 : Int32).toInt = 1 from rfl)
  have in15 := lv_neT n15 (show (2 : Int32).toInt = 2 from rfl)
  have in18 := lv_neT n18 (show (3 : Int32).toInt = 3 from rfl)
  have in21 := lv_neT n21 (show (4 : Int32).toInt = 4 from rfl)
  have in24 := lv_neT n24 (show (5 : Int32).toInt = 5 from rfl)
  have in27 := lv_neT n27 (show (6 : Int32).toInt = 6 from rfl)
  have in30 := lv_neT n30 (show (7 : Int32).toInt = 7 from rfl)
  have in33 := lv_neT n33 (show (8 : Int32).toInt = 8 from rfl)
  have in36 := lv_neT n36 (show (9 : Int32).toInt = 9 from rfl)
  have in39 := lv_neT n39 (show (10 : Int32).toInt = 10 from rfl)
  refine lv_tableOut (tgt := 181) hx hb d_Reckoner_tellWide_1 (by omega) (by decide) ?_
  refine lv_aload_n hx hb d_Reckoner_tellWide_181 rfl (lv_at hl 0 rfl) ?_
  refine lv_aload_n hx hb d_Reckoner_tellWide_182 rfl (lv_at hl 2 rfl) ?_
  refine lv_aload_n hx hb d_Reckoner_tellWide_183 rfl (lv_at hl 3 rfl) ?_
  obtain ⟨M42, r43, eM42, h⟩ := b2_ob h
  refine me_theni0 (M1 := M42) (me_runV (C := "FilterGuard$Reckoner") (As := [.ref (ad 11 j2), .ref (ad 11 j3)]) (rest := []) ⟨hx, hb, hml, hown, hts⟩ (c_Reckoner_notMeet l D ad ca N M0 M42 r43 j0 j2 j3 eM42 hwf hj0 hj2 hj3 _) rfl (by show fg_nm y_Reckoner_notMeet 2; decide +kernel) u_1319 u_1321 u_39 u_186 u_1322 ⟨Nat.le_of_ble_eq_true rfl, Nat.le_of_ble_eq_true rfl⟩ hX hz hK hP hD hwf hS hA hj0 (by decide) rfl rfl rfl hl.1 (Nat.le_of_ble_eq_true rfl) d_Reckoner_tellWide_184 ⟨Nat.le_of_ble_eq_true rfl, Nat.le_of_ble_eq_true rfl⟩) hP hD hK hS hA rfl rfl (fun H locs hw hP hD hS => ?_)
  obtain ⟨hwf, hk9, zr43⟩ := hw
  have hkp := hkp.tr hk9
  refine lv_istore (lv' := [(4, .int r43), (0, .ref (ad 8 j0)), (1, .int x1), (2, .ref (ad 11 j2)), (3, .ref (ad 11 j3))]) hx hb d_Reckoner_tellWide_187 hl (by decide) rfl (fun ls hl => ?_)
  exact b_189 M42 r43 _ _ _ h zr43 hwf hkp hP hD hS (lv_sub hl [3, 4, 0] rfl)
theorem d_Reckoner_tell_77 : decode prog_9_method_15_code 77 = .ok (.iload 5, 2) := by decide +kernel
theorem d_Reckoner_tell_79 : decode prog_9_method_15_code 79 = .ok (.ifCond .eq 5, 3) := by decide +kernel
theorem d_Reckoner_tell_84 : decode prog_9_method_15_code 84 = .ok (.aload_n 0, 1) := by decide +kernel
theorem d_Reckoner_tell_85 : decode prog_9_method_15_code 85 = .ok (.getfield 12, 3) := by decide +kernel
theorem d_Reckoner_tell_88 : decode prog_9_method_15_code 88 = .ok (.aload_n 2, 1) := by decide +kernel
theorem d_Reckoner_tell_89 : decode prog_9_method_15_code 89 = .ok (.invokevirtual 38, 3) := by decide +kernel
theorem d_Reckoner_tell_92 : decode prog_9_method_15_code 92 = .ok (.aload_n 0, 1) := by decide +kernel
theorem d_Reckoner_tell_93 : decode prog_9_method_15_code 93 = .ok (.aload_n 0, 1) := by decide +kernel
theorem d_Reckoner_tell_94 : decode prog_9_method_15_code 94 = .ok (.getfield 12, 3) := by decide +kernel
theorem d_Reckoner_tell_97 : decode prog_9_method_15_code 97 = .ok (.invokevirtual 42, 3) := by decide +kernel
theorem d_Reckoner_tell_100 : decode prog_9_method_15_code 100 = .ok (.aload_n 0, 1) := by decide +kernel
theorem d_Reckoner_tell_101 : decode prog_9_method_15_code 101 = .ok (.getfield 18, 3) := by decide +kernel
theorem d_Reckoner_tell_104 : decode prog_9_method_15_code 104 = .ok (.aload_n 3, 1) := by decide +kernel
theorem d_Reckoner_tell_105 : decode prog_9_method_15_code 105 = .ok (.invokevirtual 38, 3) := by decide +kernel
theorem d_Reckoner_tell_108 : decode prog_9_method_15_code 108 = .ok (.aload_n 0, 1) := by decide +kernel
theorem d_Reckoner_tell_109 : decode prog_9_method_15_code 109 = .ok (.aload_n 0, 1) := by decide +kernel
theorem d_Reckoner_tell_110 : decode prog_9_method_15_code 110 = .ok (.getfield 18, 3) := by decide +kernel
theorem d_Reckoner_tell_113 : decode prog_9_method_15_code 113 = .ok (.invokevirtual 42, 3) := by decide +kernel
theorem d_Reckoner_tell_116 : decode prog_9_method_15_code 116 = .ok (.aload_n 0, 1) := by decide +kernel
theorem d_Reckoner_tell_117 : decode prog_9_method_15_code 117 = .ok (.iload_n 1, 1) := by decide +kernel
theorem d_Reckoner_tell_118 : decode prog_9_method_15_code 118 = .ok (.aload_n 0, 1) := by decide +kernel
theorem d_Reckoner_tell_119 : decode prog_9_method_15_code 119 = .ok (.getfield 12, 3) := by decide +kernel
theorem d_Reckoner_tell_122 : decode prog_9_method_15_code 122 = .ok (.aload_n 0, 1) := by decide +kernel
theorem d_Reckoner_tell_123 : decode prog_9_method_15_code 123 = .ok (.getfield 18, 3) := by decide +kernel
theorem d_Reckoner_tell_126 : decode prog_9_method_15_code 126 = .ok (.invokevirtual 153, 3) := by decide +kernel
theorem u_1279 : Cond.methodLink "FilterGuard$Reckoner" 153 ⟨"FilterGuard$Reckoner", "tellWide", "(ILFilterGuard$Num;LFilterGuard$Num;)Z"⟩ ∈ fg_g := fg_in (List.mem_of_getElem? (i := 1279) (by decide +kernel)) rfl
theorem u_1282 : Cond.code ⟨"FilterGuard$Reckoner", "tellWide", "(ILFilterGuard$Num;LFilterGuard$Num;)Z"⟩ prog_9_method_16_code 5 (some .boolean) ∈ fg_g := fg_in (List.mem_of_getElem? (i := 1282) (by decide +kernel)) rfl
theorem u_1281 : Cond.instanceMethod ⟨"FilterGuard$Reckoner", "tellWide", "(ILFilterGuard$Num;LFilterGuard$Num;)Z"⟩ ∈ fg_g := fg_in (List.mem_of_getElem? (i := 1281) (by decide +kernel)) rfl
theorem u_30 : Cond.selects "FilterGuard$Reckoner" ⟨"FilterGuard$Reckoner", "tellWide", "(ILFilterGuard$Num;LFilterGuard$Num;)Z"⟩ ⟨"FilterGuard$Reckoner", "tellWide", "(ILFilterGuard$Num;LFilterGuard$Num;)Z"⟩ ∈ fg_g := fg_in (List.mem_of_getElem? (i := 30) (by decide +kernel)) rfl
theorem d_Reckoner_tell_129 : decode prog_9_method_15_code 129 = .ok (.ireturn, 1) := by decide +kernel
theorem d_Reckoner_tell_82 : decode prog_9_method_15_code 82 = .ok (.iconst 1, 1) := by decide +kernel
theorem d_Reckoner_tell_83 : decode prog_9_method_15_code 83 = .ok (.ireturn, 1) := by decide +kernel
theorem d_Reckoner_tell_44 : decode prog_9_method_15_code 44 = .ok (.lstore 6, 2) := by decide +kernel
theorem d_Reckoner_tell_46 : decode prog_9_method_15_code 46 = .ok (.iload 4, 2) := by decide +kernel
theorem d_Reckoner_tell_48 : decode prog_9_method_15_code 48 = .ok (.ifCond .eq 21, 3) := by decide +kernel
theorem d_Reckoner_tell_69 : decode prog_9_method_15_code 69 = .ok (.aload_n 0, 1) := by decide +kernel
theorem d_Reckoner_tell_70 : decode prog_9_method_15_code 70 = .ok (.iload_n 1, 1) := by decide +kernel
theorem d_Reckoner_tell_71 : decode prog_9_method_15_code 71 = .ok (.aload_n 2, 1) := by decide +kernel
theorem d_Reckoner_tell_72 : decode prog_9_method_15_code 72 = .ok (.aload_n 3, 1) := by decide +kernel
theorem d_Reckoner_tell_73 : decode prog_9_method_15_code 73 = .ok (.invokevirtual 153, 3) := by decide +kernel
theorem d_Reckoner_tell_76 : decode prog_9_method_15_code 76 = .ok (.ireturn, 1) := by decide +kernel
theorem d_Reckoner_tell_51 : decode prog_9_method_15_code 51 = .ok (.aload_n 2, 1) := by decide +kernel
theorem d_Reckoner_tell_52 : decode prog_9_method_15_code 52 = .ok (.lload 6, 2) := by decide +kernel
theorem d_Reckoner_tell_54 : decode prog_9_method_15_code 54 = .ok (.invokevirtual 61, 3) := by decide +kernel
theorem d_Reckoner_tell_57 : decode prog_9_method_15_code 57 = .ok (.ifCond .ne 20, 3) := by decide +kernel
theorem d_Reckoner_tell_60 : decode prog_9_method_15_code 60 = .ok (.aload_n 3, 1) := by decide +kernel
theorem d_Reckoner_tell_61 : decode prog_9_method_15_code 61 = .ok (.lload 6, 2) := by decide +kernel
theorem d_Reckoner_tell_63 : decode prog_9_method_15_code 63 = .ok (.invokevirtual 61, 3) := by decide +kernel
theorem d_Reckoner_tell_66 : decode prog_9_method_15_code 66 = .ok (.ifCond .ne 11, 3) := by decide +kernel
theorem d_Reckoner_tell_28 : decode prog_9_method_15_code 28 = .ok (.istore 5, 2) := by decide +kernel
theorem d_Reckoner_tell_30 : decode prog_9_method_15_code 30 = .ok (.iload 5, 2) := by decide +kernel
theorem d_Reckoner_tell_32 : decode prog_9_method_15_code 32 = .ok (.ifCond .eq 9, 3) := by decide +kernel
theorem d_Reckoner_tell_41 : decode prog_9_method_15_code 41 = .ok (.ldc2_w 113, 3) := by decide +kernel
theorem d_Reckoner_tell_35 : decode prog_9_method_15_code 35 = .ok (.ldc2_w 59, 3) := by decide +kernel
theorem d_Reckoner_tell_38 : decode prog_9_method_15_code 38 = .ok (.goto 6, 3) := by decide +kernel
theorem d_Reckoner_tell_23 : decode prog_9_method_15_code 23 = .ok (.iconst 1, 1) := by decide +kernel
theorem d_Reckoner_tell_24 : decode prog_9_method_15_code 24 = .ok (.goto 4, 3) := by decide +kernel
theorem d_Reckoner_tell_0 : decode prog_9_method_15_code 0 = .ok (.iload_n 1, 1) := by decide +kernel
theorem d_Reckoner_tell_1 : decode prog_9_method_15_code 1 = .ok (.iconst 5, 1) := by decide +kernel
theorem d_Reckoner_tell_2 : decode prog_9_method_15_code 2 = .ok (.if_icmp .eq 21, 3) := by decide +kernel
theorem d_Reckoner_tell_5 : decode prog_9_method_15_code 5 = .ok (.iload_n 1, 1) := by decide +kernel
theorem d_Reckoner_tell_6 : decode prog_9_method_15_code 6 = .ok (.bipush 6, 2) := by decide +kernel
theorem d_Reckoner_tell_8 : decode prog_9_method_15_code 8 = .ok (.if_icmp .eq 15, 3) := by decide +kernel
theorem d_Reckoner_tell_11 : decode prog_9_method_15_code 11 = .ok (.iload_n 1, 1) := by decide +kernel
theorem d_Reckoner_tell_12 : decode prog_9_method_15_code 12 = .ok (.bipush 9, 2) := by decide +kernel
theorem d_Reckoner_tell_14 : decode prog_9_method_15_code 14 = .ok (.if_icmp .eq 9, 3) := by decide +kernel
theorem d_Reckoner_tell_17 : decode prog_9_method_15_code 17 = .ok (.iload_n 1, 1) := by decide +kernel
theorem d_Reckoner_tell_18 : decode prog_9_method_15_code 18 = .ok (.bipush 10, 2) := by decide +kernel
theorem d_Reckoner_tell_20 : decode prog_9_method_15_code 20 = .ok (.if_icmp .ne 7, 3) := by decide +kernel
theorem d_Reckoner_tell_27 : decode prog_9_method_15_code 27 = .ok (.iconst 0, 1) := by decide +kernel
abbrev y_Reckoner_tell : MethodName := ⟨"FilterGuard$Reckoner", "tell", "(ILFilterGuard$Num;LFilterGuard$Num;Z)Z"⟩
def rm_Reckoner_tell : Room := { frames := 4, cells := 0, slots := 0, locals := 107 }
abbrev q_Reckoner_tell (D : va_G) (ad : Nat → Nat → Nat) (ca : Nat → ClassId) (N : Nat → Nat) (M0 MZ : me_M) (RZ : Int32) (A : Nat → Prop) : Array Value → Jvm.State → Outcome → Jvm.State → Prop := va_Qi (fun r (_ : Unit) => r = RZ ∧ me_wf N MZ ∧ me_kp M0 MZ ∧ (RZ = 1 ∨ RZ = 0)) (fg_B D A (fun _ => me_W ad ca MZ) (fun _ => [])) A
set_option maxHeartbeats 4000000 in
set_option maxRecDepth 100000 in
theorem c_Reckoner_tell (l : Launch) (D : va_G) (ad : Nat → Nat → Nat) (ca : Nat → ClassId) (N : Nat → Nat) (M0 MZ : me_M) (RZ : Int32) (j0 : Nat) (x1 : Int32) (j2 : Nat) (j3 : Nat) (x4 : Int32) (h : f_Reckoner_tell M0 j0 x1 j2 j3 x4 = (some (MZ, RZ))) (hwf : me_wf N M0) (hj0 : j0 < N 8) (hj2 : j2 < N 11) (hj3 : j3 < N 11) (zx4 : x4 = 1 ∨ x4 = 0) (sz : Nat) : Met l y_Reckoner_tell (fg_w y_Reckoner_tell prog_9_method_15_code 8 (some .boolean)) rm_Reckoner_tell (va_Pc [.ref (ad 8 j0), .int x1, .ref (ad 11 j2), .ref (ad 11 j3), .int x4] (fz_P D (me_T ca) (me_W ad ca M0) sz)) (q_Reckoner_tell D ad ca N M0 MZ RZ (va_A (me_W ad ca M0) sz)) rm_Reckoner_tell.cells rm_Reckoner_tell.slots (va_A (me_W ad ca M0) sz) := by
  refine fz_enter (fun A => q_Reckoner_tell D ad ca N M0 MZ RZ A) (by decide +kernel) (Nat.le_of_ble_eq_true rfl) ?_
  intro p e s m below meth c ls A hx hb hml hown hts hr hlocks hin hP hK hD hS hA hX hl hz
  have hl : lv_has ls 8 [(0, .ref (ad 8 j0)), (1, .int x1), (2, .ref (ad 11 j2)), (3, .ref (ad 11 j3)), (4, .int x4)] := hl
  unfold f_Reckoner_tell at h
  have hkp : me_kp M0 M0 := me_kp.rf
  have hkb := hkp
  have b_77 : ∀ (M : me_M) (y5 : Int32) (H : Heap) (locs : List Loc) (ls : Array Slot), f_Reckoner_tell_b77 j0 x1 j2 j3 M y5 = (some (MZ, RZ)) → (y5 = 1 ∨ y5 = 0) → me_wf N M → me_kp M0 M → va_P D classes (me_W ad ca M) H → va_D A (me_W ad ca M) → va_S A s.heap H locs → lv_has ls 8 [(0, .ref (ad 8 j0)), (1, .int x1), (2, .ref (ad 11 j2)), (3, .ref (ad 11 j3)), (5, .int y5)] → W p l e rm_Reckoner_tell s m [.ref (ad 8 j0), .int x1, .ref (ad 11 j2), .ref (ad 11 j3), .int x4].toArray below meth c H locs 0 0 (MQ below (q_Reckoner_tell D ad ca N M0 MZ RZ A) [.ref (ad 8 j0), .int x1, .ref (ad 11 j2), .ref (ad 11 j3), .int x4].toArray s rm_Reckoner_tell.cells rm_Reckoner_tell.slots A) (F0 m 77 ls []) := by
    intro M y5 H locs ls h zy5 hwf hkp hP hD hS hl
    unfold f_Reckoner_tell_b77 at h
    have hkb := hkp
    refine lv_iload hx hb d_Reckoner_tell_77 (lv_at hl 4 rfl) ?_
    refine lv_if_eq (tgt := 84) hx hb d_Reckoner_tell_79 (by decide) (fun c1 => ?_) (fun c1 => ?_)
    · have h := if_t c1 h
      refine lv_aload_n hx hb d_Reckoner_tell_84 rfl (lv_at hl 0 rfl) ?_
      refine g_Reckoner_0 hx hb hts hown hK hP hwf hj0 (hts _ u_396) d_Reckoner_tell_85 ?_
      obtain ⟨j4, e5, h⟩ := bd_ob h
      have hj4 : j4 < N 11 := (hwf.2.1 8 j0 0 _ e5 (by decide) hj0)
      refine me_opt (j := j4) e5 ?_
      refine lv_aload_n hx hb d_Reckoner_tell_88 rfl (lv_at hl 2 rfl) ?_
      obtain ⟨M6, eM6, h⟩ := bd_ob h
      refine me_thenv0 (M1 := M6) (me_runV (C := "FilterGuard$Num") (As := [.ref (ad 11 j2)]) (rest := []) ⟨hx, hb, hml, hown, hts⟩ (c_Num_copy l D ad ca N M M6 j4 j2 eM6 hwf hj4 hj2 _) rfl (by show fg_nm y_Num_copy 1; decide +kernel) u_1189 u_1083 u_1084 u_187 u_1085 ⟨Nat.le_of_ble_eq_true rfl, Nat.le_of_ble_eq_true rfl⟩ hX hz hK hP hD hwf hS hA hj4 (by decide) rfl rfl rfl hl.1 (Nat.le_of_ble_eq_true rfl) d_Reckoner_tell_89 ⟨Nat.le_of_ble_eq_true rfl, Nat.le_of_ble_eq_true rfl⟩) hP hD hK hS hA rfl rfl (fun H locs hw hP hD hS => ?_)
      obtain ⟨hwf, hk9⟩ := hw
      have hkp := hkp.tr hk9
      refine lv_aload_n hx hb d_Reckoner_tell_92 rfl (lv_at hl 0 rfl) ?_
      refine lv_aload_n hx hb d_Reckoner_tell_93 rfl (lv_at hl 0 rfl) ?_
      refine g_Reckoner_0 hx hb hts hown hK hP hwf hj0 (hts _ u_396) d_Reckoner_tell_94 ?_
      refine me_opt (j := j4) (kp_r hkb hkp e5) ?_
      obtain ⟨M7, eM7, h⟩ := bd_ob h
      refine me_thenv0 (M1 := M7) (me_runV (C := "FilterGuard$Reckoner") (As := [.ref (ad 11 j4)]) (rest := []) ⟨hx, hb, hml, hown, hts⟩ (c_Reckoner_narrow l D ad ca N M6 M7 j0 j4 eM7 hwf hj0 hj4 _) rfl (by show fg_nm y_Reckoner_narrow 1; decide +kernel) u_1236 u_1237 u_1238 u_186 u_1239 ⟨Nat.le_of_ble_eq_true rfl, Nat.le_of_ble_eq_true rfl⟩ hX hz hK hP hD hwf hS hA hj0 (by decide) rfl rfl rfl hl.1 (Nat.le_of_ble_eq_true rfl) d_Reckoner_tell_97 ⟨Nat.le_of_ble_eq_true rfl, Nat.le_of_ble_eq_true rfl⟩) hP hD hK hS hA rfl rfl (fun H locs hw hP hD hS => ?_)
      obtain ⟨hwf, hk9⟩ := hw
      have hkp := hkp.tr hk9
      refine lv_aload_n hx hb d_Reckoner_tell_100 rfl (lv_at hl 0 rfl) ?_
      refine g_Reckoner_1 hx hb hts hown hK hP hwf hj0 (hts _ u_397) d_Reckoner_tell_101 ?_
      obtain ⟨j8, e9, h⟩ := bd_ob h
      have hj8 : j8 < N 11 := (hwf.2.1 8 j0 1 _ (kp_r hkb hkp e9) (by decide) hj0)
      refine me_opt (j := j8) (kp_r hkb hkp e9) ?_
      refine lv_aload_n hx hb d_Reckoner_tell_104 rfl (lv_at hl 3 rfl) ?_
      obtain ⟨M10, eM10, h⟩ := bd_ob h
      refine me_thenv0 (M1 := M10) (me_runV (C := "FilterGuard$Num") (As := [.ref (ad 11 j3)]) (rest := []) ⟨hx, hb, hml, hown, hts⟩ (c_Num_copy l D ad ca N M7 M10 j8 j3 eM10 hwf hj8 hj3 _) rfl (by show fg_nm y_Num_copy 1; decide +kernel) u_1189 u_1083 u_1084 u_187 u_1085 ⟨Nat.le_of_ble_eq_true rfl, Nat.le_of_ble_eq_true rfl⟩ hX hz hK hP hD hwf hS hA hj8 (by decide) rfl rfl rfl hl.1 (Nat.le_of_ble_eq_true rfl) d_Reckoner_tell_105 ⟨Nat.le_of_ble_eq_true rfl, Nat.le_of_ble_eq_true rfl⟩) hP hD hK hS hA rfl rfl (fun H locs hw hP hD hS => ?_)
      obtain ⟨hwf, hk9⟩ := hw
      have hkp := hkp.tr hk9
      refine lv_aload_n hx hb d_Reckoner_tell_108 rfl (lv_at hl 0 rfl) ?_
      refine lv_aload_n hx hb d_Reckoner_tell_109 rfl (lv_at hl 0 rfl) ?_
      refine g_Reckoner_1 hx hb hts hown hK hP hwf hj0 (hts _ u_397) d_Reckoner_tell_110 ?_
      refine me_opt (j := j8) (kp_r hkb hkp e9) ?_
      obtain ⟨M11, eM11, h⟩ := bd_ob h
      refine me_thenv0 (M1 := M11) (me_runV (C := "FilterGuard$Reckoner") (As := [.ref (ad 11 j8)]) (rest := []) ⟨hx, hb, hml, hown, hts⟩ (c_Reckoner_narrow l D ad ca N M10 M11 j0 j8 eM11 hwf hj0 hj8 _) rfl (by show fg_nm y_Reckoner_narrow 1; decide +kernel) u_1236 u_1237 u_1238 u_186 u_1239 ⟨Nat.le_of_ble_eq_true rfl, Nat.le_of_ble_eq_true rfl⟩ hX hz hK hP hD hwf hS hA hj0 (by decide) rfl rfl rfl hl.1 (Nat.le_of_ble_eq_true rfl) d_Reckoner_tell_113 ⟨Nat.le_of_ble_eq_true rfl, Nat.le_of_ble_eq_true rfl⟩) hP hD hK hS hA rfl rfl (fun H locs hw hP hD hS => ?_)
      obtain ⟨hwf, hk9⟩ := hw
      have hkp := hkp.tr hk9
      refine lv_aload_n hx hb d_Reckoner_tell_116 rfl (lv_at hl 0 rfl) ?_
      refine lv_iload_n hx hb d_Reckoner_tell_117 rfl (lv_at hl 1 rfl) ?_
      refine lv_aload_n hx hb d_Reckoner_tell_118 rfl (lv_at hl 0 rfl) ?_
      refine g_Reckoner_0 hx hb hts hown hK hP hwf hj0 (hts _ u_396) d_Reckoner_tell_119 ?_
      refine me_opt (j := j4) (kp_r hkb hkp e5) ?_
      refine lv_aload_n hx hb d_Reckoner_tell_122 rfl (lv_at hl 0 rfl) ?_
      refine g_Reckoner_1 hx hb hts hown hK hP hwf hj0 (hts _ u_397) d_Reckoner_tell_123 ?_
      refine me_opt (j := j8) (kp_r hkb hkp e9) ?_
      obtain ⟨M12, r13, eM12, h⟩ := b2_ob h
      refine me_theni0 (M1 := M12) (me_runV (C := "FilterGuard$Reckoner") (As := [.int x1, .ref (ad 11 j4), .ref (ad 11 j8)]) (rest := []) ⟨hx, hb, hml, hown, hts⟩ (c_Reckoner_tellWide l D ad ca N M11 M12 r13 j0 x1 j4 j8 eM12 hwf hj0 hj4 hj8 _) rfl (by show fg_nm y_Reckoner_tellWide 3; decide +kernel) u_1279 u_1281 u_30 u_186 u_1282 ⟨Nat.le_of_ble_eq_true rfl, Nat.le_of_ble_eq_true rfl⟩ hX hz hK hP hD hwf hS hA hj0 (by decide) rfl rfl rfl hl.1 (Nat.le_of_ble_eq_true rfl) d_Reckoner_tell_126 ⟨Nat.le_of_ble_eq_true rfl, Nat.le_of_ble_eq_true rfl⟩) hP hD hK hS hA rfl rfl (fun H locs hw hP hD hS => ?_)
      obtain ⟨hwf, hk9, zr13⟩ := hw
      have hkp := hkp.tr hk9
      exact me_retz (me_kp M0) h zr13 hx hb hr hlocks hwf hkp hP hK hD hS d_Reckoner_tell_129
    have h := if_f c1 h
    refine lv_iconst (v := 1) hx hb d_Reckoner_tell_82 (by decide) ?_
    exact me_retz (me_kp M0) h (by decide) hx hb hr hlocks hwf hkp hP hK hD hS d_Reckoner_tell_83
  have b_44 : ∀ (M : me_M) (y5 : Int32) (s0 : Int64) (H : Heap) (locs : List Loc) (ls : Array Slot), f_Reckoner_tell_b44 j0 x1 j2 j3 x4 M y5 s0 = (some (MZ, RZ)) → (y5 = 1 ∨ y5 = 0) → me_wf N M → me_kp M0 M → va_P D classes (me_W ad ca M) H → va_D A (me_W ad ca M) → va_S A s.heap H locs → lv_has ls 8 [(0, .ref (ad 8 j0)), (1, .int x1), (2, .ref (ad 11 j2)), (3, .ref (ad 11 j3)), (4, .int x4), (5, .int y5)] → W p l e rm_Reckoner_tell s m [.ref (ad 8 j0), .int x1, .ref (ad 11 j2), .ref (ad 11 j3), .int x4].toArray below meth c H locs 0 0 (MQ below (q_Reckoner_tell D ad ca N M0 MZ RZ A) [.ref (ad 8 j0), .int x1, .ref (ad 11 j2), .ref (ad 11 j3), .int x4].toArray s rm_Reckoner_tell.cells rm_Reckoner_tell.slots A) (F0 m 44 ls [.long s0]) := by
    intro M y5 s0 H locs ls h zy5 hwf hkp hP hD hS hl
    unfold f_Reckoner_tell_b44 at h
    have hkb := hkp
    refine lv_lstore (lv' := [(6, .long s0), (0, .ref (ad 8 j0)), (1, .int x1), (2, .ref (ad 11 j2)), (3, .ref (ad 11 j3)), (4, .int x4), (5, .int y5)]) hx hb d_Reckoner_tell_44 hl (by decide) rfl (fun ls hl => ?_)
    refine lv_iload hx hb d_Reckoner_tell_46 (lv_at hl 5 rfl) ?_
    refine lv_if_eq (tgt := 69) hx hb d_Reckoner_tell_48 (by decide) (fun c14 => ?_) (fun c14 => ?_)
    · have h := if_t c14 h
      refine lv_aload_n hx hb d_Reckoner_tell_69 rfl (lv_at hl 1 rfl) ?_
      refine lv_iload_n hx hb d_Reckoner_tell_70 rfl (lv_at hl 2 rfl) ?_
      refine lv_aload_n hx hb d_Reckoner_tell_71 rfl (lv_at hl 3 rfl) ?_
      refine lv_aload_n hx hb d_Reckoner_tell_72 rfl (lv_at hl 4 rfl) ?_
      obtain ⟨M15, r16, eM15, h⟩ := b2_ob h
      refine me_theni0 (M1 := M15) (me_runV (C := "FilterGuard$Reckoner") (As := [.int x1, .ref (ad 11 j2), .ref (ad 11 j3)]) (rest := []) ⟨hx, hb, hml, hown, hts⟩ (c_Reckoner_tellWide l D ad ca N M M15 r16 j0 x1 j2 j3 eM15 hwf hj0 hj2 hj3 _) rfl (by show fg_nm y_Reckoner_tellWide 3; decide +kernel) u_1279 u_1281 u_30 u_186 u_1282 ⟨Nat.le_of_ble_eq_true rfl, Nat.le_of_ble_eq_true rfl⟩ hX hz hK hP hD hwf hS hA hj0 (by decide) rfl rfl rfl hl.1 (Nat.le_of_ble_eq_true rfl) d_Reckoner_tell_73 ⟨Nat.le_of_ble_eq_true rfl, Nat.le_of_ble_eq_true rfl⟩) hP hD hK hS hA rfl rfl (fun H locs hw hP hD hS => ?_)
      obtain ⟨hwf, hk9, zr16⟩ := hw
      have hkp := hkp.tr hk9
      exact me_retz (me_kp M0) h zr16 hx hb hr hlocks hwf hkp hP hK hD hS d_Reckoner_tell_76
    have h := if_f c14 h
    refine lv_aload_n hx hb d_Reckoner_tell_51 rfl (lv_at hl 3 rfl) ?_
    refine lv_lload hx hb d_Reckoner_tell_52 (lv_at hl 0 rfl) ?_
    obtain ⟨M17, r18, eM17, h⟩ := b2_ob h
    refine me_theni0 (M1 := M17) (me_runV (C := "FilterGuard$Num") (As := [.long s0]) (rest := []) ⟨hx, hb, hml, hown, hts⟩ (c_Num_isAbove l D ad ca N M M17 r18 j2 s0 eM17 hwf hj2 _) rfl (by show fg_nm y_Num_isAbove 1; decide +kernel) u_1173 u_1174 u_1175 u_187 u_1176 ⟨Nat.le_of_ble_eq_true rfl, Nat.le_of_ble_eq_true rfl⟩ hX hz hK hP hD hwf hS hA hj2 (by decide) rfl rfl rfl hl.1 (Nat.le_of_ble_eq_true rfl) d_Reckoner_tell_54 ⟨Nat.le_of_ble_eq_true rfl, Nat.le_of_ble_eq_true rfl⟩) hP hD hK hS hA rfl rfl (fun H locs hw hP hD hS => ?_)
    obtain ⟨hwf, hk9, zr18⟩ := hw
    have hkp := hkp.tr hk9
    refine lv_if_ne (tgt := 77) hx hb d_Reckoner_tell_57 (by decide) (fun c19 => ?_) (fun c19 => ?_)
    · have h := if_f c19 h
      exact b_77 M17 y5 _ _ _ h zy5 hwf hkp hP hD hS (lv_sub hl [1, 2, 3, 4, 6] rfl)
    have h := if_t c19 h
    refine lv_aload_n hx hb d_Reckoner_tell_60 rfl (lv_at hl 4 rfl) ?_
    refine lv_lload hx hb d_Reckoner_tell_61 (lv_at hl 0 rfl) ?_
    obtain ⟨M20, r21, eM20, h⟩ := b2_ob h
    refine me_theni0 (M1 := M20) (me_runV (C := "FilterGuard$Num") (As := [.long s0]) (rest := []) ⟨hx, hb, hml, hown, hts⟩ (c_Num_isAbove l D ad ca N M17 M20 r21 j3 s0 eM20 hwf hj3 _) rfl (by show fg_nm y_Num_isAbove 1; decide +kernel) u_1173 u_1174 u_1175 u_187 u_1176 ⟨Nat.le_of_ble_eq_true rfl, Nat.le_of_ble_eq_true rfl⟩ hX hz hK hP hD hwf hS hA hj3 (by decide) rfl rfl rfl hl.1 (Nat.le_of_ble_eq_true rfl) d_Reckoner_tell_63 ⟨Nat.le_of_ble_eq_true rfl, Nat.le_of_ble_eq_true rfl⟩) hP hD hK hS hA rfl rfl (fun H locs hw hP hD hS => ?_)
    obtain ⟨hwf, hk9, zr21⟩ := hw
    have hkp := hkp.tr hk9
    refine lv_if_ne (tgt := 77) hx hb d_Reckoner_tell_66 (by decide) (fun c22 => ?_) (fun c22 => ?_)
    · have h := if_f c22 h
      exact b_77 M20 y5 _ _ _ h zy5 hwf hkp hP hD hS (lv_sub hl [1, 2, 3, 4, 6] rfl)
    have h := if_t c22 h
    refine lv_aload_n hx hb d_Reckoner_tell_69 rfl (lv_at hl 1 rfl) ?_
    refine lv_iload_n hx hb d_Reckoner_tell_70 rfl (lv_at hl 2 rfl) ?_
    refine lv_aload_n hx hb d_Reckoner_tell_71 rfl (lv_at hl 3 rfl) ?_
    refine lv_aload_n hx hb d_Reckoner_tell_72 rfl (lv_at hl 4 rfl) ?_
    obtain ⟨M23, r24, eM23, h⟩ := b2_ob h
    refine me_theni0 (M1 := M23) (me_runV (C := "FilterGuard$Reckoner") (As := [.int x1, .ref (ad 11 j2), .ref (ad 11 j3)]) (rest := []) ⟨hx, hb, hml, hown, hts⟩ (c_Reckoner_tellWide l D ad ca N M20 M23 r24 j0 x1 j2 j3 eM23 hwf hj0 hj2 hj3 _) rfl (by show fg_nm y_Reckoner_tellWide 3; decide +kernel) u_1279 u_1281 u_30 u_186 u_1282 ⟨Nat.le_of_ble_eq_true rfl, Nat.le_of_ble_eq_true rfl⟩ hX hz hK hP hD hwf hS hA hj0 (by decide) rfl rfl rfl hl.1 (Nat.le_of_ble_eq_true rfl) d_Reckoner_tell_73 ⟨Nat.le_of_ble_eq_true rfl, Nat.le_of_ble_eq_true rfl⟩) hP hD hK hS hA rfl rfl (fun H locs hw hP hD hS => ?_)
    obtain ⟨hwf, hk9, zr24⟩ := hw
    have hkp := hkp.tr hk9
    exact me_retz (me_kp M0) h zr24 hx hb hr hlocks hwf hkp hP hK hD hS d_Reckoner_tell_76
  have b_28 : ∀ (M : me_M) (s0 : Int32) (H : Heap) (locs : List Loc) (ls : Array Slot), f_Reckoner_tell_b28 j0 x1 j2 j3 x4 M s0 = (some (MZ, RZ)) → (s0 = 1 ∨ s0 = 0) → me_wf N M → me_kp M0 M → va_P D classes (me_W ad ca M) H → va_D A (me_W ad ca M) → va_S A s.heap H locs → lv_has ls 8 [(0, .ref (ad 8 j0)), (1, .int x1), (2, .ref (ad 11 j2)), (3, .ref (ad 11 j3)), (4, .int x4)] → W p l e rm_Reckoner_tell s m [.ref (ad 8 j0), .int x1, .ref (ad 11 j2), .ref (ad 11 j3), .int x4].toArray below meth c H locs 0 0 (MQ below (q_Reckoner_tell D ad ca N M0 MZ RZ A) [.ref (ad 8 j0), .int x1, .ref (ad 11 j2), .ref (ad 11 j3), .int x4].toArray s rm_Reckoner_tell.cells rm_Reckoner_tell.slots A) (F0 m 28 ls [.int s0]) := by
    intro M s0 H locs ls h zs0 hwf hkp hP hD hS hl
    unfold f_Reckoner_tell_b28 at h
    have hkb := hkp
    refine lv_istore (lv' := [(5, .int s0), (0, .ref (ad 8 j0)), (1, .int x1), (2, .ref (ad 11 j2)), (3, .ref (ad 11 j3)), (4, .int x4)]) hx hb d_Reckoner_tell_28 hl (by decide) rfl (fun ls hl => ?_)
    refine lv_iload hx hb d_Reckoner_tell_30 (lv_at hl 0 rfl) ?_
    refine lv_if_eq (tgt := 41) hx hb d_Reckoner_tell_32 (by decide) (fun c25 => ?_) (fun c25 => ?_)
    · have h := if_t c25 h
      refine lv_ldc2 hx hb hown (hts _ u_1172) d_Reckoner_tell_41 ?_
      exact b_44 M s0 (4294967295 : Int64) _ _ _ h zs0 hwf hkp hP hD hS (lv_sub hl [1, 2, 3, 4, 5, 0] rfl)
    have h := if_f c25 h
    refine lv_ldc2 hx hb hown (hts _ u_1241) d_Reckoner_tell_35 ?_
    refine lv_goto (tgt := 44) hx hb d_Reckoner_tell_38 (by decide) ?_
    exact b_44 M s0 (2147483647 : Int64) _ _ _ h zs0 hwf hkp hP hD hS (lv_sub hl [1, 2, 3, 4, 5, 0] rfl)
  have b_23 : ∀ (M : me_M) (H : Heap) (locs : List Loc) (ls : Array Slot), f_Reckoner_tell_b23 j0 x1 j2 j3 x4 M = (some (MZ, RZ)) → me_wf N M → me_kp M0 M → va_P D classes (me_W ad ca M) H → va_D A (me_W ad ca M) → va_S A s.heap H locs → lv_has ls 8 [(0, .ref (ad 8 j0)), (1, .int x1), (2, .ref (ad 11 j2)), (3, .ref (ad 11 j3)), (4, .int x4)] → W p l e rm_Reckoner_tell s m [.ref (ad 8 j0), .int x1, .ref (ad 11 j2), .ref (ad 11 j3), .int x4].toArray below meth c H locs 0 0 (MQ below (q_Reckoner_tell D ad ca N M0 MZ RZ A) [.ref (ad 8 j0), .int x1, .ref (ad 11 j2), .ref (ad 11 j3), .int x4].toArray s rm_Reckoner_tell.cells rm_Reckoner_tell.slots A) (F0 m 23 ls []) := by
    intro M H locs ls h hwf hkp hP hD hS hl
    unfold f_Reckoner_tell_b23 at h
    have hkb := hkp
    refine lv_iconst (v := 1) hx hb d_Reckoner_tell_23 (by decide) ?_
    refine lv_goto (tgt := 28) hx hb d_Reckoner_tell_24 (by decide) ?_
    exact b_28 M (1 : Int32) _ _ _ h (by decide) hwf hkp hP hD hS (lv_sub hl [0, 1, 2, 3, 4] rfl)
  refine lv_iload_n hx hb d_Reckoner_tell_0 rfl (lv_at hl 1 rfl) ?_
  refine lv_iconst (v := 5) hx hb d_Reckoner_tell_1 (by decide) ?_
  refine lv_icmp_eq (tgt := 23) hx hb d_Reckoner_tell_2 (by decide) (fun c26 => ?_) (fun c26 => ?_)
  · have h := if_t c26 h
    exact b_23 M0 _ _ _ h hwf hkp hP hD hS (lv_sub hl [0, 1, 2, 3, 4] rfl)
  have h := if_f c26 h
  refine lv_iload_n hx hb d_Reckoner_tell_5 rfl (lv_at hl 1 rfl) ?_
  refine lv_bipush (v := 6) hx hb d_Reckoner_tell_6 (by decide) ?_
  refine lv_icmp_eq (tgt := 23) hx hb d_Reckoner_tell_8 (by decide) (fun c27 => ?_) (fun c27 => ?_)
  · have h := if_t c27 h
    exact b_23 M0 _ _ _ h hwf hkp hP hD hS (lv_sub hl [0, 1, 2, 3, 4] rfl)
  have h := if_f c27 h
  refine lv_iload_n hx hb d_Reckoner_tell_11 rfl (lv_at hl 1 rfl) ?_
  refine lv_bipush (v := 9) hx hb d_Reckoner_tell_12 (by decide) ?_
  refine lv_icmp_eq (tgt := 23) hx hb d_Reckoner_tell_14 (by decide) (fun c28 => ?_) (fun c28 => ?_)
  · have h := if_t c28 h
    exact b_23 M0 _ _ _ h hwf hkp hP hD hS (lv_sub hl [0, 1, 2, 3, 4] rfl)
  have h := if_f c28 h
  refine lv_iload_n hx hb d_Reckoner_tell_17 rfl (lv_at hl 1 rfl) ?_
  refine lv_bipush (v := 10) hx hb d_Reckoner_tell_18 (by decide) ?_
  refine lv_icmp_ne (tgt := 27) hx hb d_Reckoner_tell_20 (by decide) (fun c29 => ?_) (fun c29 => ?_)
  · have h := if_f c29 h
    refine lv_iconst (v := 0) hx hb d_Reckoner_tell_27 (by decide) ?_
    exact b_28 M0 (0 : Int32) _ _ _ h (by decide) hwf hkp hP hD hS (lv_sub hl [0, 1, 2, 3, 4] rfl)
  have h := if_t c29 h
  exact b_23 M0 _ _ _ h hwf hkp hP hD hS (lv_sub hl [0, 1, 2, 3, 4] rfl)
