theorem d_Cell_storeBytes_0 : decode prog_2_method_12_code 0 = .ok (.aload_n 0, 1) := by decide +kernel
theorem d_Cell_storeBytes_1 : decode prog_2_method_12_code 1 = .ok (.getfield 18, 3) := by decide +kernel
theorem d_Cell_storeBytes_4 : decode prog_2_method_12_code 4 = .ok (.ifCond .eq 27, 3) := by decide +kernel
theorem d_Cell_storeBytes_31 : decode prog_2_method_12_code 31 = .ok (.aload_n 0, 1) := by decide +kernel
theorem d_Cell_storeBytes_32 : decode prog_2_method_12_code 32 = .ok (.dup, 1) := by decide +kernel
theorem d_Cell_storeBytes_33 : decode prog_2_method_12_code 33 = .ok (.getfield 22, 3) := by decide +kernel
theorem d_Cell_storeBytes_36 : decode prog_2_method_12_code 36 = .ok (.iload_n 1, 1) := by decide +kernel
theorem d_Cell_storeBytes_37 : decode prog_2_method_12_code 37 = .ok (.ior, 1) := by decide +kernel
theorem d_Cell_storeBytes_38 : decode prog_2_method_12_code 38 = .ok (.putfield 22, 3) := by decide +kernel
theorem d_Cell_storeBytes_41 : decode prog_2_method_12_code 41 = .ok (.return_, 1) := by decide +kernel
theorem d_Cell_storeBytes_7 : decode prog_2_method_12_code 7 = .ok (.aload_n 0, 1) := by decide +kernel
theorem d_Cell_storeBytes_8 : decode prog_2_method_12_code 8 = .ok (.aload_n 0, 1) := by decide +kernel
theorem d_Cell_storeBytes_9 : decode prog_2_method_12_code 9 = .ok (.getfield 18, 3) := by decide +kernel
theorem d_Cell_storeBytes_12 : decode prog_2_method_12_code 12 = .ok (.iconst 1, 1) := by decide +kernel
theorem d_Cell_storeBytes_13 : decode prog_2_method_12_code 13 = .ok (.if_icmp .ne 9, 3) := by decide +kernel
theorem d_Cell_storeBytes_22 : decode prog_2_method_12_code 22 = .ok (.iconst 0, 1) := by decide +kernel
theorem d_Cell_storeBytes_23 : decode prog_2_method_12_code 23 = .ok (.putfield 22, 3) := by decide +kernel
theorem d_Cell_storeBytes_26 : decode prog_2_method_12_code 26 = .ok (.aload_n 0, 1) := by decide +kernel
theorem d_Cell_storeBytes_27 : decode prog_2_method_12_code 27 = .ok (.iconst 0, 1) := by decide +kernel
theorem d_Cell_storeBytes_28 : decode prog_2_method_12_code 28 = .ok (.putfield 18, 3) := by decide +kernel
theorem d_Cell_storeBytes_16 : decode prog_2_method_12_code 16 = .ok (.sipush 255, 3) := by decide +kernel
theorem d_Cell_storeBytes_19 : decode prog_2_method_12_code 19 = .ok (.goto 4, 3) := by decide +kernel
abbrev y_Cell_storeBytes : MethodName := ⟨"FilterGuard$Cell", "storeBytes", "(I)V"⟩
def rm_Cell_storeBytes : Room := { frames := 1, cells := 0, slots := 0, locals := 20 }
abbrev q_Cell_storeBytes (D : va_G) (ad : Nat → Nat → Nat) (ca : Nat → ClassId) (N : Nat → Nat) (M0 MZ : me_M) (A : Nat → Prop) : Array Value → Jvm.State → Outcome → Jvm.State → Prop := va_Qv (fun (_ : Unit) => me_wf N MZ ∧ me_kp M0 MZ) (fg_B D A (fun _ => me_W ad ca MZ) (fun _ => [])) A
set_option maxHeartbeats 4000000 in
set_option maxRecDepth 100000 in
theorem c_Cell_storeBytes (l : Launch) (D : va_G) (ad : Nat → Nat → Nat) (ca : Nat → ClassId) (N : Nat → Nat) (M0 MZ : me_M) (j0 : Nat) (x1 : Int32) (h : f_Cell_storeBytes M0 j0 x1 = (some MZ)) (hwf : me_wf N M0) (hj0 : j0 < N 10) (sz : Nat) : Met l y_Cell_storeBytes (fg_w y_Cell_storeBytes prog_2_method_12_code 2 none) rm_Cell_storeBytes (va_Pc [.ref (ad 10 j0), .int x1] (fz_P D (me_T ca) (me_W ad ca M0) sz)) (q_Cell_storeBytes D ad ca N M0 MZ (va_A (me_W ad ca M0) sz)) rm_Cell_storeBytes.cells rm_Cell_storeBytes.slots (va_A (me_W ad ca M0) sz) := by
  refine fz_enter (fun A => q_Cell_storeBytes D ad ca N M0 MZ A) (by decide +kernel) (Nat.le_of_ble_eq_true rfl) ?_
  intro p e s m below meth c ls A hx hb hml hown hts hr hlocks hin hP hK hD hS hA hX hl hz
  have hl : lv_has ls 2 [(0, .ref (ad 10 j0)), (1, .int x1)] := hl
  unfold f_Cell_storeBytes at h
  have hkp : me_kp M0 M0 := me_kp.rf
  have hkb := hkp
  refine lv_aload_n hx hb d_Cell_storeBytes_0 rfl (lv_at hl 0 rfl) ?_
  refine g_Cell_0 hx hb hts hown hK hP hwf hj0 (hts _ u_420) d_Cell_storeBytes_1 ?_
  refine lv_if_eq (tgt := 31) hx hb d_Cell_storeBytes_4 (by decide) (fun c1 => ?_) (fun c1 => ?_)
  · have h := if_t c1 h
    refine lv_aload_n hx hb d_Cell_storeBytes_31 rfl (lv_at hl 0 rfl) ?_
    refine lv_dup hx hb d_Cell_storeBytes_32 rfl ?_
    refine g_Cell_5 hx hb hts hown hK hP hwf hj0 (hts _ u_433) d_Cell_storeBytes_33 ?_
    refine lv_iload_n hx hb d_Cell_storeBytes_36 rfl (lv_at hl 1 rfl) ?_
    refine lv_ior hx hb d_Cell_storeBytes_37 ?_
    obtain ⟨M2, eM2, h⟩ := st_ob h
    refine p_Cell_5 eM2 hx hb hts hown hK hP hD hwf hS hj0 (hts _ u_433) d_Cell_storeBytes_38 (fun H locs hP hD hwf hS => ?_)
    have hkp := kp_I eM2 hkp
    exact me_retv (me_kp M0) h hx hb hr hlocks hwf hkp hP hK hD hS d_Cell_storeBytes_41
  have h := if_f c1 h
  refine lv_aload_n hx hb d_Cell_storeBytes_7 rfl (lv_at hl 0 rfl) ?_
  refine lv_aload_n hx hb d_Cell_storeBytes_8 rfl (lv_at hl 0 rfl) ?_
  refine g_Cell_0 hx hb hts hown hK hP hwf hj0 (hts _ u_420) d_Cell_storeBytes_9 ?_
  refine lv_iconst (v := 1) hx hb d_Cell_storeBytes_12 (by decide) ?_
  refine lv_icmp_ne (tgt := 22) hx hb d_Cell_storeBytes_13 (by decide) (fun c3 => ?_) (fun c3 => ?_)
  · have h := if_f c3 h
    refine lv_iconst (v := 0) hx hb d_Cell_storeBytes_22 (by decide) ?_
    obtain ⟨M4, eM4, h⟩ := st_ob h
    refine p_Cell_5 eM4 hx hb hts hown hK hP hD hwf hS hj0 (hts _ u_433) d_Cell_storeBytes_23 (fun H locs hP hD hwf hS => ?_)
    have hkp := kp_I eM4 hkp
    refine lv_aload_n hx hb d_Cell_storeBytes_26 rfl (lv_at hl 0 rfl) ?_
    refine lv_iconst (v := 0) hx hb d_Cell_storeBytes_27 (by decide) ?_
    obtain ⟨M5, eM5, h⟩ := st_ob h
    refine p_Cell_0 eM5 hx hb hts hown hK hP hD hwf hS hj0 (hts _ u_420) d_Cell_storeBytes_28 (fun H locs hP hD hwf hS => ?_)
    have hkp := kp_I eM5 hkp
    refine lv_aload_n hx hb d_Cell_storeBytes_31 rfl (lv_at hl 0 rfl) ?_
    refine lv_dup hx hb d_Cell_storeBytes_32 rfl ?_
    refine g_Cell_5 hx hb hts hown hK hP hwf hj0 (hts _ u_433) d_Cell_storeBytes_33 ?_
    refine lv_iload_n hx hb d_Cell_storeBytes_36 rfl (lv_at hl 1 rfl) ?_
    refine lv_ior hx hb d_Cell_storeBytes_37 ?_
    obtain ⟨M6, eM6, h⟩ := st_ob h
    refine p_Cell_5 eM6 hx hb hts hown hK hP hD hwf hS hj0 (hts _ u_433) d_Cell_storeBytes_38 (fun H locs hP hD hwf hS => ?_)
    have hkp := kp_I eM6 hkp
    exact me_retv (me_kp M0) h hx hb hr hlocks hwf hkp hP hK hD hS d_Cell_storeBytes_41
  have h := if_t c3 h
  refine lv_sipush (v := 255) hx hb d_Cell_storeBytes_16 (by decide) ?_
  refine lv_goto (tgt := 23) hx hb d_Cell_storeBytes_19 (by decide) ?_
  obtain ⟨M7, eM7, h⟩ := st_ob h
  refine p_Cell_5 eM7 hx hb hts hown hK hP hD hwf hS hj0 (hts _ u_433) d_Cell_storeBytes_23 (fun H locs hP hD hwf hS => ?_)
  have hkp := kp_I eM7 hkp
  refine lv_aload_n hx hb d_Cell_storeBytes_26 rfl (lv_at hl 0 rfl) ?_
  refine lv_iconst (v := 0) hx hb d_Cell_storeBytes_27 (by decide) ?_
  obtain ⟨M8, eM8, h⟩ := st_ob h
  refine p_Cell_0 eM8 hx hb hts hown hK hP hD hwf hS hj0 (hts _ u_420) d_Cell_storeBytes_28 (fun H locs hP hD hwf hS => ?_)
  have hkp := kp_I eM8 hkp
  refine lv_aload_n hx hb d_Cell_storeBytes_31 rfl (lv_at hl 0 rfl) ?_
  refine lv_dup hx hb d_Cell_storeBytes_32 rfl ?_
  refine g_Cell_5 hx hb hts hown hK hP hwf hj0 (hts _ u_433) d_Cell_storeBytes_33 ?_
  refine lv_iload_n hx hb d_Cell_storeBytes_36 rfl (lv_at hl 1 rfl) ?_
  refine lv_ior hx hb d_Cell_storeBytes_37 ?_
  obtain ⟨M9, eM9, h⟩ := st_ob h
  refine p_Cell_5 eM9 hx hb hts hown hK hP hD hwf hS hj0 (hts _ u_433) d_Cell_storeBytes_38 (fun H locs hP hD hwf hS => ?_)
  have hkp := kp_I eM9 hkp
  exact me_retv (me_kp M0) h hx hb hr hlocks hwf hkp hP hK hD hS d_Cell_storeBytes_41
theorem d_Steps_store_0 : decode prog_11_method_19_code 0 = .ok (.aload_n 0, 1) := by decide +kernel
theorem d_Steps_store_1 : decode prog_11_method_19_code 1 = .ok (.getfield 56, 3) := by decide +kernel
theorem d_Steps_store_4 : decode prog_11_method_19_code 4 = .ok (.iload_n 1, 1) := by decide +kernel
theorem d_Steps_store_5 : decode prog_11_method_19_code 5 = .ok (.invokevirtual 290, 3) := by decide +kernel
theorem d_Steps_store_8 : decode prog_11_method_19_code 8 = .ok (.astore_n 3, 1) := by decide +kernel
theorem d_Steps_store_9 : decode prog_11_method_19_code 9 = .ok (.aload_n 0, 1) := by decide +kernel
theorem d_Steps_store_10 : decode prog_11_method_19_code 10 = .ok (.getfield 44, 3) := by decide +kernel
theorem d_Steps_store_13 : decode prog_11_method_19_code 13 = .ok (.getfield 262, 3) := by decide +kernel
theorem d_Steps_store_16 : decode prog_11_method_19_code 16 = .ok (.bipush 8, 2) := by decide +kernel
theorem d_Steps_store_18 : decode prog_11_method_19_code 18 = .ok (.if_icmp .ne 9, 3) := by decide +kernel
theorem d_Steps_store_27 : decode prog_11_method_19_code 27 = .ok (.aload_n 3, 1) := by decide +kernel
theorem d_Steps_store_28 : decode prog_11_method_19_code 28 = .ok (.aload_n 0, 1) := by decide +kernel
theorem d_Steps_store_29 : decode prog_11_method_19_code 29 = .ok (.getfield 44, 3) := by decide +kernel
theorem d_Steps_store_32 : decode prog_11_method_19_code 32 = .ok (.iload_n 1, 1) := by decide +kernel
theorem d_Steps_store_33 : decode prog_11_method_19_code 33 = .ok (.invokevirtual 294, 3) := by decide +kernel
theorem d_Steps_store_36 : decode prog_11_method_19_code 36 = .ok (.invokevirtual 305, 3) := by decide +kernel
theorem u_1406 : Cond.methodLink "FilterGuard$Steps" 305 ⟨"FilterGuard$Cell", "storeBytes", "(I)V"⟩ ∈ fg_g := fg_in (List.mem_of_getElem? (i := 1406) (by decide +kernel)) rfl
theorem u_1409 : Cond.code ⟨"FilterGuard$Cell", "storeBytes", "(I)V"⟩ prog_2_method_12_code 2 none ∈ fg_g := fg_in (List.mem_of_getElem? (i := 1409) (by decide +kernel)) rfl
theorem u_1407 : Cond.instanceMethod ⟨"FilterGuard$Cell", "storeBytes", "(I)V"⟩ ∈ fg_g := fg_in (List.mem_of_getElem? (i := 1407) (by decide +kernel)) rfl
theorem u_1408 : Cond.selects "FilterGuard$Cell" ⟨"FilterGuard$Cell", "storeBytes", "(I)V"⟩ ⟨"FilterGuard$Cell", "storeBytes", "(I)V"⟩ ∈ fg_g := fg_in (List.mem_of_getElem? (i := 1408) (by decide +kernel)) rfl
theorem d_Steps_store_39 : decode prog_11_method_19_code 39 = .ok (.return_, 1) := by decide +kernel
theorem d_Steps_store_21 : decode prog_11_method_19_code 21 = .ok (.aload_n 3, 1) := by decide +kernel
theorem d_Steps_store_22 : decode prog_11_method_19_code 22 = .ok (.aload_n 2, 1) := by decide +kernel
theorem d_Steps_store_23 : decode prog_11_method_19_code 23 = .ok (.invokevirtual 139, 3) := by decide +kernel
theorem d_Steps_store_26 : decode prog_11_method_19_code 26 = .ok (.return_, 1) := by decide +kernel
abbrev y_Steps_store : MethodName := ⟨"FilterGuard$Steps", "store", "(ILFilterGuard$Cell;)V"⟩
def rm_Steps_store : Room := { frames := 3, cells := 0, slots := 0, locals := 82 }
abbrev q_Steps_store (D : va_G) (ad : Nat → Nat → Nat) (ca : Nat → ClassId) (N : Nat → Nat) (M0 MZ : me_M) (A : Nat → Prop) : Array Value → Jvm.State → Outcome → Jvm.State → Prop := va_Qv (fun (_ : Unit) => me_wf N MZ ∧ me_kp M0 MZ) (fg_B D A (fun _ => me_W ad ca MZ) (fun _ => [])) A
set_option maxHeartbeats 4000000 in
set_option maxRecDepth 100000 in
theorem c_Steps_store (l : Launch) (D : va_G) (ad : Nat → Nat → Nat) (ca : Nat → ClassId) (N : Nat → Nat) (M0 MZ : me_M) (j0 : Nat) (x1 : Int32) (j2 : Nat) (h : f_Steps_store M0 j0 x1 j2 = (some MZ)) (hwf : me_wf N M0) (hj0 : j0 < N 7) (hj2 : j2 < N 10) (sz : Nat) : Met l y_Steps_store (fg_w y_Steps_store prog_11_method_19_code 4 none) rm_Steps_store (va_Pc [.ref (ad 7 j0), .int x1, .ref (ad 10 j2)] (fz_P D (me_T ca) (me_W ad ca M0) sz)) (q_Steps_store D ad ca N M0 MZ (va_A (me_W ad ca M0) sz)) rm_Steps_store.cells rm_Steps_store.slots (va_A (me_W ad ca M0) sz) := by
  refine fz_enter (fun A => q_Steps_store D ad ca N M0 MZ A) (by decide +kernel) (Nat.le_of_ble_eq_true rfl) ?_
  intro p e s m below meth c ls A hx hb hml hown hts hr hlocks hin hP hK hD hS hA hX hl hz
  have hl : lv_has ls 4 [(0, .ref (ad 7 j0)), (1, .int x1), (2, .ref (ad 10 j2))] := hl
  unfold f_Steps_store at h
  have hkp : me_kp M0 M0 := me_kp.rf
  have hkb := hkp
  refine lv_aload_n hx hb d_Steps_store_0 rfl (lv_at hl 0 rfl) ?_
  refine g_Steps_6 hx hb hts hown hK hP hwf hj0 (hts _ u_461) d_Steps_store_1 ?_
  obtain ⟨j1, e2, h⟩ := bd_ob h
  have hj1 : j1 < N 9 := (hwf.2.1 7 j0 6 _ e2 (by decide) hj0)
  refine me_opt (j := j1) e2 ?_
  refine lv_iload_n hx hb d_Steps_store_4 rfl (lv_at hl 1 rfl) ?_
  obtain ⟨M3, r4, eM3, h⟩ := b2_ob h
  refine me_thenr0 (M1 := M3) (me_runV (C := "FilterGuard$State") (As := [.int x1]) (rest := []) ⟨hx, hb, hml, hown, hts⟩ (c_State_slotAt l D ad ca N M0 M3 r4 j1 x1 eM3 hwf hj1 _) rfl (by show fg_nm y_State_slotAt 1; decide +kernel) u_1355 u_1356 u_1357 u_189 u_1358 ⟨Nat.le_of_ble_eq_true rfl, Nat.le_of_ble_eq_true rfl⟩ hX hz hK hP hD hwf hS hA hj1 (by decide) rfl rfl rfl hl.1 (Nat.le_of_ble_eq_true rfl) d_Steps_store_5 ⟨Nat.le_of_ble_eq_true rfl, Nat.le_of_ble_eq_true rfl⟩) hP hD hK hS hA rfl rfl (fun H locs hw hP hD hS => ?_)
  obtain ⟨hwf, hk9, hr4⟩ := hw
  have hkp := hkp.tr hk9
  refine lv_astore_n (lv' := [(3, .ref (ad 10 r4)), (0, .ref (ad 7 j0)), (1, .int x1), (2, .ref (ad 10 j2))]) hx hb d_Steps_store_8 rfl hl (by decide) rfl (fun ls hl => ?_)
  refine lv_aload_n hx hb d_Steps_store_9 rfl (lv_at hl 1 rfl) ?_
  refine g_Steps_0 hx hb hts hown hK hP hwf hj0 (hts _ u_455) d_Steps_store_10 ?_
  obtain ⟨j5, e6, h⟩ := bd_ob h
  have hj5 : j5 < N 2 := (hwf.2.1 7 j0 0 _ (kp_r hkb hkp e6) (by decide) hj0)
  refine me_opt (j := j5) (kp_r hkb hkp e6) ?_
  refine g_Code_11 hx hb hts hown hK hP hwf hj5 (hts _ u_260) d_Steps_store_13 ?_
  refine lv_bipush (v := 8) hx hb d_Steps_store_16 (by decide) ?_
  refine lv_icmp_ne (tgt := 27) hx hb d_Steps_store_18 (by decide) (fun c7 => ?_) (fun c7 => ?_)
  · have h := if_f c7 h
    refine lv_aload_n hx hb d_Steps_store_27 rfl (lv_at hl 0 rfl) ?_
    refine lv_aload_n hx hb d_Steps_store_28 rfl (lv_at hl 1 rfl) ?_
    refine g_Steps_0 hx hb hts hown hK hP hwf hj0 (hts _ u_455) d_Steps_store_29 ?_
    refine me_opt (j := j5) (kp_r hkb hkp e6) ?_
    refine lv_iload_n hx hb d_Steps_store_32 rfl (lv_at hl 2 rfl) ?_
    obtain ⟨M8, r9, eM8, h⟩ := b2_ob h
    refine me_theni0 (M1 := M8) (me_runV (C := "FilterGuard$Code") (As := [.int x1]) (rest := [.ref (ad 10 r4)]) ⟨hx, hb, hml, hown, hts⟩ (c_Code_bytesAt l D ad ca N M3 M8 r9 j5 x1 eM8 hwf hj5 _) rfl (by show fg_nm y_Code_bytesAt 1; decide +kernel) u_1394 u_1395 u_1396 u_182 u_1397 ⟨Nat.le_of_ble_eq_true rfl, Nat.le_of_ble_eq_true rfl⟩ hX hz hK hP hD hwf hS hA hj5 (by decide) rfl rfl rfl hl.1 (Nat.le_of_ble_eq_true rfl) d_Steps_store_33 ⟨Nat.le_of_ble_eq_true rfl, Nat.le_of_ble_eq_true rfl⟩) hP hD hK hS hA rfl rfl (fun H locs hw hP hD hS => ?_)
    obtain ⟨hwf, hk9⟩ := hw
    have hkp := hkp.tr hk9
    obtain ⟨M10, eM10, h⟩ := bd_ob h
    refine me_thenv0 (M1 := M10) (me_runV (C := "FilterGuard$Cell") (As := [.int r9]) (rest := []) ⟨hx, hb, hml, hown, hts⟩ (c_Cell_storeBytes l D ad ca N M8 M10 r4 r9 eM10 hwf hr4 _) rfl (by show fg_nm y_Cell_storeBytes 1; decide +kernel) u_1406 u_1407 u_1408 u_188 u_1409 ⟨Nat.le_of_ble_eq_true rfl, Nat.le_of_ble_eq_true rfl⟩ hX hz hK hP hD hwf hS hA hr4 (by decide) rfl rfl rfl hl.1 (Nat.le_of_ble_eq_true rfl) d_Steps_store_36 ⟨Nat.le_of_ble_eq_true rfl, Nat.le_of_ble_eq_true rfl⟩) hP hD hK hS hA rfl rfl (fun H locs hw hP hD hS => ?_)
    obtain ⟨hwf, hk9⟩ := hw
    have hkp := hkp.tr hk9
    exact me_retv (me_kp M0) h hx hb hr hlocks hwf hkp hP hK hD hS d_Steps_store_39
  have h := if_t c7 h
  refine lv_aload_n hx hb d_Steps_store_21 rfl (lv_at hl 0 rfl) ?_
  refine lv_aload_n hx hb d_Steps_store_22 rfl (lv_at hl 3 rfl) ?_
  obtain ⟨M11, eM11, h⟩ := bd_ob h
  refine me_thenv0 (M1 := M11) (me_runV (C := "FilterGuard$Cell") (As := [.ref (ad 10 j2)]) (rest := []) ⟨hx, hb, hml, hown, hts⟩ (c_Cell_copy l D ad ca N M3 M11 r4 j2 eM11 hwf hr4 hj2 _) rfl (by show fg_nm y_Cell_copy 1; decide +kernel) u_1121 u_1079 u_1080 u_188 u_1081 ⟨Nat.le_of_ble_eq_true rfl, Nat.le_of_ble_eq_true rfl⟩ hX hz hK hP hD hwf hS hA hr4 (by decide) rfl rfl rfl hl.1 (Nat.le_of_ble_eq_true rfl) d_Steps_store_23 ⟨Nat.le_of_ble_eq_true rfl, Nat.le_of_ble_eq_true rfl⟩) hP hD hK hS hA rfl rfl (fun H locs hw hP hD hS => ?_)
  obtain ⟨hwf, hk9⟩ := hw
  have hkp := hkp.tr hk9
  exact me_retv (me_kp M0) h hx hb hr hlocks hwf hkp hP hK hD hS d_Steps_store_26
theorem d_Steps_addTo_39 : decode prog_11_method_18_code 39 = .ok (.aload_n 2, 1) := by decide +kernel
theorem d_Steps_addTo_40 : decode prog_11_method_18_code 40 = .ok (.aload_n 0, 1) := by decide +kernel
theorem d_Steps_addTo_41 : decode prog_11_method_18_code 41 = .ok (.getfield 44, 3) := by decide +kernel
theorem d_Steps_addTo_44 : decode prog_11_method_18_code 44 = .ok (.iload_n 1, 1) := by decide +kernel
theorem d_Steps_addTo_45 : decode prog_11_method_18_code 45 = .ok (.invokevirtual 294, 3) := by decide +kernel
theorem d_Steps_addTo_48 : decode prog_11_method_18_code 48 = .ok (.invokevirtual 297, 3) := by decide +kernel
theorem d_Steps_addTo_51 : decode prog_11_method_18_code 51 = .ok (.ifCond .ne 6, 3) := by decide +kernel
theorem d_Steps_addTo_57 : decode prog_11_method_18_code 57 = .ok (.aload_n 0, 1) := by decide +kernel
theorem d_Steps_addTo_58 : decode prog_11_method_18_code 58 = .ok (.getfield 21, 3) := by decide +kernel
theorem d_Steps_addTo_61 : decode prog_11_method_18_code 61 = .ok (.invokevirtual 164, 3) := by decide +kernel
theorem d_Steps_addTo_64 : decode prog_11_method_18_code 64 = .ok (.aload_n 0, 1) := by decide +kernel
theorem d_Steps_addTo_65 : decode prog_11_method_18_code 65 = .ok (.iload_n 1, 1) := by decide +kernel
theorem d_Steps_addTo_66 : decode prog_11_method_18_code 66 = .ok (.aload_n 0, 1) := by decide +kernel
theorem d_Steps_addTo_67 : decode prog_11_method_18_code 67 = .ok (.getfield 21, 3) := by decide +kernel
theorem d_Steps_addTo_70 : decode prog_11_method_18_code 70 = .ok (.invokevirtual 268, 3) := by decide +kernel
theorem u_1402 : Cond.methodLink "FilterGuard$Steps" 268 ⟨"FilterGuard$Steps", "store", "(ILFilterGuard$Cell;)V"⟩ ∈ fg_g := fg_in (List.mem_of_getElem? (i := 1402) (by decide +kernel)) rfl
theorem u_1405 : Cond.code ⟨"FilterGuard$Steps", "store", "(ILFilterGuard$Cell;)V"⟩ prog_11_method_19_code 4 none ∈ fg_g := fg_in (List.mem_of_getElem? (i := 1405) (by decide +kernel)) rfl
theorem u_1404 : Cond.instanceMethod ⟨"FilterGuard$Steps", "store", "(ILFilterGuard$Cell;)V"⟩ ∈ fg_g := fg_in (List.mem_of_getElem? (i := 1404) (by decide +kernel)) rfl
theorem u_52 : Cond.selects "FilterGuard$Steps" ⟨"FilterGuard$Steps", "store", "(ILFilterGuard$Cell;)V"⟩ ⟨"FilterGuard$Steps", "store", "(ILFilterGuard$Cell;)V"⟩ ∈ fg_g := fg_in (List.mem_of_getElem? (i := 52) (by decide +kernel)) rfl
theorem d_Steps_addTo_73 : decode prog_11_method_18_code 73 = .ok (.iconst 0, 1) := by decide +kernel
theorem d_Steps_addTo_74 : decode prog_11_method_18_code 74 = .ok (.ireturn, 1) := by decide +kernel
theorem d_Steps_addTo_54 : decode prog_11_method_18_code 54 = .ok (.bipush 15, 2) := by decide +kernel
theorem d_Steps_addTo_56 : decode prog_11_method_18_code 56 = .ok (.ireturn, 1) := by decide +kernel
theorem d_Steps_addTo_0 : decode prog_11_method_18_code 0 = .ok (.aload_n 0, 1) := by decide +kernel
theorem d_Steps_addTo_1 : decode prog_11_method_18_code 1 = .ok (.getfield 56, 3) := by decide +kernel
theorem d_Steps_addTo_4 : decode prog_11_method_18_code 4 = .ok (.iload_n 1, 1) := by decide +kernel
theorem d_Steps_addTo_5 : decode prog_11_method_18_code 5 = .ok (.invokevirtual 290, 3) := by decide +kernel
theorem d_Steps_addTo_8 : decode prog_11_method_18_code 8 = .ok (.astore_n 2, 1) := by decide +kernel
theorem d_Steps_addTo_9 : decode prog_11_method_18_code 9 = .ok (.aload_n 2, 1) := by decide +kernel
theorem d_Steps_addTo_10 : decode prog_11_method_18_code 10 = .ok (.getfield 76, 3) := by decide +kernel
theorem d_Steps_addTo_13 : decode prog_11_method_18_code 13 = .ok (.ifCond .eq 26, 3) := by decide +kernel
theorem d_Steps_addTo_16 : decode prog_11_method_18_code 16 = .ok (.aload_n 2, 1) := by decide +kernel
theorem d_Steps_addTo_17 : decode prog_11_method_18_code 17 = .ok (.getfield 76, 3) := by decide +kernel
theorem d_Steps_addTo_20 : decode prog_11_method_18_code 20 = .ok (.iconst 1, 1) := by decide +kernel
theorem d_Steps_addTo_21 : decode prog_11_method_18_code 21 = .ok (.if_icmp .eq 18, 3) := by decide +kernel
theorem d_Steps_addTo_24 : decode prog_11_method_18_code 24 = .ok (.aload_n 0, 1) := by decide +kernel
theorem d_Steps_addTo_25 : decode prog_11_method_18_code 25 = .ok (.getfield 44, 3) := by decide +kernel
theorem d_Steps_addTo_28 : decode prog_11_method_18_code 28 = .ok (.getfield 262, 3) := by decide +kernel
theorem d_Steps_addTo_31 : decode prog_11_method_18_code 31 = .ok (.bipush 8, 2) := by decide +kernel
theorem d_Steps_addTo_33 : decode prog_11_method_18_code 33 = .ok (.if_icmp .ne 6, 3) := by decide +kernel
theorem d_Steps_addTo_36 : decode prog_11_method_18_code 36 = .ok (.bipush 16, 2) := by decide +kernel
theorem d_Steps_addTo_38 : decode prog_11_method_18_code 38 = .ok (.ireturn, 1) := by decide +kernel
abbrev y_Steps_addTo : MethodName := ⟨"FilterGuard$Steps", "addTo", "(I)I"⟩
def rm_Steps_addTo : Room := { frames := 4, cells := 0, slots := 0, locals := 105 }
abbrev q_Steps_addTo (D : va_G) (ad : Nat → Nat → Nat) (ca : Nat → ClassId) (N : Nat → Nat) (M0 MZ : me_M) (RZ : Int32) (A : Nat → Prop) : Array Value → Jvm.State → Outcome → Jvm.State → Prop := va_Qi (fun r (_ : Unit) => r = RZ ∧ me_wf N MZ ∧ me_kp M0 MZ) (fg_B D A (fun _ => me_W ad ca MZ) (fun _ => [])) A
set_option maxHeartbeats 4000000 in
set_option maxRecDepth 100000 in
theorem c_Steps_addTo (l : Launch) (D : va_G) (ad : Nat → Nat → Nat) (ca : Nat → ClassId) (N : Nat → Nat) (M0 MZ : me_M) (RZ : Int32) (j0 : Nat) (x1 : Int32) (h : f_Steps_addTo M0 j0 x1 = (some (MZ, RZ))) (hwf : me_wf N M0) (hj0 : j0 < N 7) (sz : Nat) : Met l y_Steps_addTo (fg_w y_Steps_addTo prog_11_method_18_code 3 (some .int)) rm_Steps_addTo (va_Pc [.ref (ad 7 j0), .int x1] (fz_P D (me_T ca) (me_W ad ca M0) sz)) (q_Steps_addTo D ad ca N M0 MZ RZ (va_A (me_W ad ca M0) sz)) rm_Steps_addTo.cells rm_Steps_addTo.slots (va_A (me_W ad ca M0) sz) := by
  refine fz_enter (fun A => q_Steps_addTo D ad ca N M0 MZ RZ A) (by decide +kernel) (Nat.le_of_ble_eq_true rfl) ?_
  intro p e s m below meth c ls A hx hb hml hown hts hr hlocks hin hP hK hD hS hA hX hl hz
  have hl : lv_has ls 3 [(0, .ref (ad 7 j0)), (1, .int x1)] := hl
  unfold f_Steps_addTo at h
  have hkp : me_kp M0 M0 := me_kp.rf
  have hkb := hkp
  have b_39 : ∀ (M : me_M) (y2 : Nat) (H : Heap) (locs : List Loc) (ls : Array Slot), f_Steps_addTo_b39 j0 x1 M y2 = (some (MZ, RZ)) → (y2 < N 10) → me_wf N M → me_kp M0 M → va_P D classes (me_W ad ca M) H → va_D A (me_W ad ca M) → va_S A s.heap H locs → lv_has ls 3 [(0, .ref (ad 7 j0)), (1, .int x1), (2, .ref (ad 10 y2))] → W p l e rm_Steps_addTo s m [.ref (ad 7 j0), .int x1].toArray below meth c H locs 0 0 (MQ below (q_Steps_addTo D ad ca N M0 MZ RZ A) [.ref (ad 7 j0), .int x1].toArray s rm_Steps_addTo.cells rm_Steps_addTo.slots A) (F0 m 39 ls []) := by
    intro M y2 H locs ls h hy2 hwf hkp hP hD hS hl
    unfold f_Steps_addTo_b39 at h
    have hkb := hkp
    refine lv_aload_n hx hb d_Steps_addTo_39 rfl (lv_at hl 2 rfl) ?_
    refine lv_aload_n hx hb d_Steps_addTo_40 rfl (lv_at hl 0 rfl) ?_
    refine g_Steps_0 hx hb hts hown hK hP hwf hj0 (hts _ u_455) d_Steps_addTo_41 ?_
    obtain ⟨j1, e2, h⟩ := bd_ob h
    have hj1 : j1 < N 2 := (hwf.2.1 7 j0 0 _ e2 (by decide) hj0)
    refine me_opt (j := j1) e2 ?_
    refine lv_iload_n hx hb d_Steps_addTo_44 rfl (lv_at hl 1 rfl) ?_
    obtain ⟨M3, r4, eM3, h⟩ := b2_ob h
    refine me_theni0 (M1 := M3) (me_runV (C := "FilterGuard$Code") (As := [.int x1]) (rest := [.ref (ad 10 y2)]) ⟨hx, hb, hml, hown, hts⟩ (c_Code_bytesAt l D ad ca N M M3 r4 j1 x1 eM3 hwf hj1 _) rfl (by show fg_nm y_Code_bytesAt 1; decide +kernel) u_1394 u_1395 u_1396 u_182 u_1397 ⟨Nat.le_of_ble_eq_true rfl, Nat.le_of_ble_eq_true rfl⟩ hX hz hK hP hD hwf hS hA hj1 (by decide) rfl rfl rfl hl.1 (Nat.le_of_ble_eq_true rfl) d_Steps_addTo_45 ⟨Nat.le_of_ble_eq_true rfl, Nat.le_of_ble_eq_true rfl⟩) hP hD hK hS hA rfl rfl (fun H locs hw hP hD hS => ?_)
    obtain ⟨hwf, hk9⟩ := hw
    have hkp := hkp.tr hk9
    obtain ⟨M5, r6, eM5, h⟩ := b2_ob h
    refine me_theni0 (M1 := M5) (me_runV (C := "FilterGuard$Cell") (As := [.int r4]) (rest := []) ⟨hx, hb, hml, hown, hts⟩ (c_Cell_isReadable l D ad ca N M3 M5 r6 y2 r4 eM5 hwf hy2 _) rfl (by show fg_nm y_Cell_isReadable 1; decide +kernel) u_1363 u_1364 u_1365 u_188 u_1366 ⟨Nat.le_of_ble_eq_true rfl, Nat.le_of_ble_eq_true rfl⟩ hX hz hK hP hD hwf hS hA hy2 (by decide) rfl rfl rfl hl.1 (Nat.le_of_ble_eq_true rfl) d_Steps_addTo_48 ⟨Nat.le_of_ble_eq_true rfl, Nat.le_of_ble_eq_true rfl⟩) hP hD hK hS hA rfl rfl (fun H locs hw hP hD hS => ?_)
    obtain ⟨hwf, hk9, zr6⟩ := hw
    have hkp := hkp.tr hk9
    refine lv_if_ne (tgt := 57) hx hb d_Steps_addTo_51 (by decide) (fun c7 => ?_) (fun c7 => ?_)
    · have h := if_f c7 h
      refine lv_aload_n hx hb d_Steps_addTo_57 rfl (lv_at hl 0 rfl) ?_
      refine g_Steps_3 hx hb hts hown hK hP hwf hj0 (hts _ u_458) d_Steps_addTo_58 ?_
      obtain ⟨j8, e9, h⟩ := bd_ob h
      have hj8 : j8 < N 10 := (hwf.2.1 7 j0 3 _ (kp_r hkb hkp e9) (by decide) hj0)
      refine me_opt (j := j8) (kp_r hkb hkp e9) ?_
      obtain ⟨M10, eM10, h⟩ := bd_ob h
      refine me_thenv0 (M1 := M10) (me_runV (C := "FilterGuard$Cell") (As := []) (rest := []) ⟨hx, hb, hml, hown, hts⟩ (c_Cell_becomeAny l D ad ca N M5 M10 j8 eM10 hwf hj8 _) rfl (by show fg_nm y_Cell_becomeAny 0; decide +kernel) u_1266 u_1267 u_1268 u_188 u_1269 ⟨Nat.le_of_ble_eq_true rfl, Nat.le_of_ble_eq_true rfl⟩ hX hz hK hP hD hwf hS hA hj8 (by decide) rfl rfl rfl hl.1 (Nat.le_of_ble_eq_true rfl) d_Steps_addTo_61 ⟨Nat.le_of_ble_eq_true rfl, Nat.le_of_ble_eq_true rfl⟩) hP hD hK hS hA rfl rfl (fun H locs hw hP hD hS => ?_)
      obtain ⟨hwf, hk9⟩ := hw
      have hkp := hkp.tr hk9
      refine lv_aload_n hx hb d_Steps_addTo_64 rfl (lv_at hl 0 rfl) ?_
      refine lv_iload_n hx hb d_Steps_addTo_65 rfl (lv_at hl 1 rfl) ?_
      refine lv_aload_n hx hb d_Steps_addTo_66 rfl (lv_at hl 0 rfl) ?_
      refine g_Steps_3 hx hb hts hown hK hP hwf hj0 (hts _ u_458) d_Steps_addTo_67 ?_
      refine me_opt (j := j8) (kp_r hkb hkp e9) ?_
      obtain ⟨M11, eM11, h⟩ := bd_ob h
      refine me_thenv0 (M1 := M11) (me_runV (C := "FilterGuard$Steps") (As := [.int x1, .ref (ad 10 j8)]) (rest := []) ⟨hx, hb, hml, hown, hts⟩ (c_Steps_store l D ad ca N M10 M11 j0 x1 j8 eM11 hwf hj0 hj8 _) rfl (by show fg_nm y_Steps_store 2; decide +kernel) u_1402 u_1404 u_52 u_185 u_1405 ⟨Nat.le_of_ble_eq_true rfl, Nat.le_of_ble_eq_true rfl⟩ hX hz hK hP hD hwf hS hA hj0 (by decide) rfl rfl rfl hl.1 (Nat.le_of_ble_eq_true rfl) d_Steps_addTo_70 ⟨Nat.le_of_ble_eq_true rfl, Nat.le_of_ble_eq_true rfl⟩) hP hD hK hS hA rfl rfl (fun H locs hw hP hD hS => ?_)
      obtain ⟨hwf, hk9⟩ := hw
      have hkp := hkp.tr hk9
      refine lv_iconst (v := 0) hx hb d_Steps_addTo_73 (by decide) ?_
      exact me_reti (me_kp M0) h hx hb hr hlocks hwf hkp hP hK hD hS d_Steps_addTo_74
    have h := if_t c7 h
    refine lv_bipush (v := 15) hx hb d_Steps_addTo_54 (by decide) ?_
    exact me_reti (me_kp M0) h hx hb hr hlocks hwf hkp hP hK hD hS d_Steps_addTo_56
  refine lv_aload_n hx hb d_Steps_addTo_0 rfl (lv_at hl 0 rfl) ?_
  refine g_Steps_6 hx hb hts hown hK hP hwf hj0 (hts _ u_461) d_Steps_addTo_1 ?_
  obtain ⟨j12, e13, h⟩ := bd_ob h
  have hj12 : j12 < N 9 := (hwf.2.1 7 j0 6 _ e13 (by decide) hj0)
  refine me_opt (j := j12) e13 ?_
  refine lv_iload_n hx hb d_Steps_addTo_4 rfl (lv_at hl 1 rfl) ?_
  obtain ⟨M14, r15, eM14, h⟩ := b2_ob h
  refine me_thenr0 (M1 := M14) (me_runV (C := "FilterGuard$State") (As := [.int x1]) (rest := []) ⟨hx, hb, hml, hown, hts⟩ (c_State_slotAt l D ad ca N M0 M14 r15 j12 x1 eM14 hwf hj12 _) rfl (by show fg_nm y_State_slotAt 1; decide +kernel) u_1355 u_1356 u_1357 u_189 u_1358 ⟨Nat.le_of_ble_eq_true rfl, Nat.le_of_ble_eq_true rfl⟩ hX hz hK hP hD hwf hS hA hj12 (by decide) rfl rfl rfl hl.1 (Nat.le_of_ble_eq_true rfl) d_Steps_addTo_5 ⟨Nat.le_of_ble_eq_true rfl, Nat.le_of_ble_eq_true rfl⟩) hP hD hK hS hA rfl rfl (fun H locs hw hP hD hS => ?_)
  obtain ⟨hwf, hk9, hr15⟩ := hw
  have hkp := hkp.tr hk9
  refine lv_astore_n (lv' := [(2, .ref (ad 10 r15)), (0, .ref (ad 7 j0)), (1, .int x1)]) hx hb d_Steps_addTo_8 rfl hl (by decide) rfl (fun ls hl => ?_)
  refine lv_aload_n hx hb d_Steps_addTo_9 rfl (lv_at hl 0 rfl) ?_
  refine g_Cell_0 hx hb hts hown hK hP hwf hr15 (hts _ u_422) d_Steps_addTo_10 ?_
  refine lv_if_eq (tgt := 39) hx hb d_Steps_addTo_13 (by decide) (fun c16 => ?_) (fun c16 => ?_)
  · have h := if_t c16 h
    exact b_39 M14 r15 _ _ _ h hr15 hwf hkp hP hD hS (lv_sub hl [1, 2, 0] rfl)
  have h := if_f c16 h
  refine lv_aload_n hx hb d_Steps_addTo_16 rfl (lv_at hl 0 rfl) ?_
  refine g_Cell_0 hx hb hts hown hK hP hwf hr15 (hts _ u_422) d_Steps_addTo_17 ?_
  refine lv_iconst (v := 1) hx hb d_Steps_addTo_20 (by decide) ?_
  refine lv_icmp_eq (tgt := 39) hx hb d_Steps_addTo_21 (by decide) (fun c17 => ?_) (fun c17 => ?_)
  · have h := if_t c17 h
    exact b_39 M14 r15 _ _ _ h hr15 hwf hkp hP hD hS (lv_sub hl [1, 2, 0] rfl)
  have h := if_f c17 h
  refine lv_aload_n hx hb d_Steps_addTo_24 rfl (lv_at hl 1 rfl) ?_
  refine g_Steps_0 hx hb hts hown hK hP hwf hj0 (hts _ u_455) d_Steps_addTo_25 ?_
  obtain ⟨j18, e19, h⟩ := bd_ob h
  have hj18 : j18 < N 2 := (hwf.2.1 7 j0 0 _ (kp_r hkb hkp e19) (by decide) hj0)
  refine me_opt (j := j18) (kp_r hkb hkp e19) ?_
  refine g_Code_11 hx hb hts hown hK hP hwf hj18 (hts _ u_260) d_Steps_addTo_28 ?_
  refine lv_bipush (v := 8) hx hb d_Steps_addTo_31 (by decide) ?_
  refine lv_icmp_ne (tgt := 39) hx hb d_Steps_addTo_33 (by decide) (fun c20 => ?_) (fun c20 => ?_)
  · have h := if_f c20 h
    exact b_39 M14 r15 _ _ _ h hr15 hwf hkp hP hD hS (lv_sub hl [1, 2, 0] rfl)
  have h := if_t c20 h
  refine lv_bipush (v := 16) hx hb d_Steps_addTo_36 (by decide) ?_
  exact me_reti (me_kp M0) h hx hb hr hlocks hwf hkp hP hK hD hS d_Steps_addTo_38
theorem d_Steps_memory_154 : decode prog_11_method_13_code 154 = .ok (.aload_n 2, 1) := by decide +kernel
theorem d_Steps_memory_155 : decode prog_11_method_13_code 155 = .ok (.getfield 76, 3) := by decide +kernel
theorem d_Steps_memory_158 : decode prog_11_method_13_code 158 = .ok (.iconst 3, 1) := by decide +kernel
theorem d_Steps_memory_159 : decode prog_11_method_13_code 159 = .ok (.if_icmp .eq 5, 3) := by decide +kernel
theorem d_Steps_memory_164 : decode prog_11_method_13_code 164 = .ok (.aload_n 0, 1) := by decide +kernel
theorem d_Steps_memory_165 : decode prog_11_method_13_code 165 = .ok (.getfield 44, 3) := by decide +kernel
theorem d_Steps_memory_168 : decode prog_11_method_13_code 168 = .ok (.getfield 85, 3) := by decide +kernel
theorem d_Steps_memory_171 : decode prog_11_method_13_code 171 = .ok (.iconst 5, 1) := by decide +kernel
theorem d_Steps_memory_172 : decode prog_11_method_13_code 172 = .ok (.if_icmp .ne 9, 3) := by decide +kernel
theorem d_Steps_memory_181 : decode prog_11_method_13_code 181 = .ok (.aload_n 0, 1) := by decide +kernel
theorem d_Steps_memory_182 : decode prog_11_method_13_code 182 = .ok (.iload_n 3, 1) := by decide +kernel
theorem d_Steps_memory_183 : decode prog_11_method_13_code 183 = .ok (.aload 4, 2) := by decide +kernel
theorem d_Steps_memory_185 : decode prog_11_method_13_code 185 = .ok (.invokevirtual 268, 3) := by decide +kernel
theorem d_Steps_memory_188 : decode prog_11_method_13_code 188 = .ok (.iconst 0, 1) := by decide +kernel
theorem d_Steps_memory_189 : decode prog_11_method_13_code 189 = .ok (.ireturn, 1) := by decide +kernel
theorem d_Steps_memory_175 : decode prog_11_method_13_code 175 = .ok (.aload_n 0, 1) := by decide +kernel
theorem d_Steps_memory_176 : decode prog_11_method_13_code 176 = .ok (.iload_n 3, 1) := by decide +kernel
theorem d_Steps_memory_177 : decode prog_11_method_13_code 177 = .ok (.invokevirtual 265, 3) := by decide +kernel
theorem u_1398 : Cond.methodLink "FilterGuard$Steps" 265 ⟨"FilterGuard$Steps", "addTo", "(I)I"⟩ ∈ fg_g := fg_in (List.mem_of_getElem? (i := 1398) (by decide +kernel)) rfl
theorem u_1401 : Cond.code ⟨"FilterGuard$Steps", "addTo", "(I)I"⟩ prog_11_method_18_code 3 (some .int) ∈ fg_g := fg_in (List.mem_of_getElem? (i := 1401) (by decide +kernel)) rfl
theorem u_1400 : Cond.instanceMethod ⟨"FilterGuard$Steps", "addTo", "(I)I"⟩ ∈ fg_g := fg_in (List.mem_of_getElem? (i := 1400) (by decide +kernel)) rfl
theorem u_51 : Cond.selects "FilterGuard$Steps" ⟨"FilterGuard$Steps", "addTo", "(I)I"⟩ ⟨"FilterGuard$Steps", "addTo", "(I)I"⟩ ∈ fg_g := fg_in (List.mem_of_getElem? (i := 51) (by decide +kernel)) rfl
theorem d_Steps_memory_180 : decode prog_11_method_13_code 180 = .ok (.ireturn, 1) := by decide +kernel
theorem d_Steps_memory_162 : decode prog_11_method_13_code 162 = .ok (.iconst 0, 1) := by decide +kernel
theorem d_Steps_memory_163 : decode prog_11_method_13_code 163 = .ok (.ireturn, 1) := by decide +kernel
theorem d_Steps_memory_135 : decode prog_11_method_13_code 135 = .ok (.istore 5, 2) := by decide +kernel
theorem d_Steps_memory_137 : decode prog_11_method_13_code 137 = .ok (.aload 4, 2) := by decide +kernel
theorem d_Steps_memory_139 : decode prog_11_method_13_code 139 = .ok (.getfield 76, 3) := by decide +kernel
theorem d_Steps_memory_142 : decode prog_11_method_13_code 142 = .ok (.iconst 1, 1) := by decide +kernel
theorem d_Steps_memory_143 : decode prog_11_method_13_code 143 = .ok (.if_icmp .eq 11, 3) := by decide +kernel
theorem d_Steps_memory_146 : decode prog_11_method_13_code 146 = .ok (.iload 5, 2) := by decide +kernel
theorem d_Steps_memory_148 : decode prog_11_method_13_code 148 = .ok (.ifCond .ne 6, 3) := by decide +kernel
theorem d_Steps_memory_151 : decode prog_11_method_13_code 151 = .ok (.bipush 16, 2) := by decide +kernel
theorem d_Steps_memory_153 : decode prog_11_method_13_code 153 = .ok (.ireturn, 1) := by decide +kernel
theorem d_Steps_memory_134 : decode prog_11_method_13_code 134 = .ok (.iconst 0, 1) := by decide +kernel
theorem d_Steps_memory_42 : decode prog_11_method_13_code 42 = .ok (.aaload, 1) := by decide +kernel
theorem d_Steps_memory_43 : decode prog_11_method_13_code 43 = .ok (.astore_n 2, 1) := by decide +kernel
theorem d_Steps_memory_44 : decode prog_11_method_13_code 44 = .ok (.aload_n 2, 1) := by decide +kernel
theorem d_Steps_memory_45 : decode prog_11_method_13_code 45 = .ok (.invokevirtual 150, 3) := by decide +kernel
theorem d_Steps_memory_48 : decode prog_11_method_13_code 48 = .ok (.ifCond .ne 6, 3) := by decide +kernel
theorem d_Steps_memory_54 : decode prog_11_method_13_code 54 = .ok (.aload_n 2, 1) := by decide +kernel
theorem d_Steps_memory_55 : decode prog_11_method_13_code 55 = .ok (.getfield 178, 3) := by decide +kernel
theorem d_Steps_memory_58 : decode prog_11_method_13_code 58 = .ok (.aload_n 0, 1) := by decide +kernel
theorem d_Steps_memory_59 : decode prog_11_method_13_code 59 = .ok (.getfield 44, 3) := by decide +kernel
theorem d_Steps_memory_62 : decode prog_11_method_13_code 62 = .ok (.getfield 252, 3) := by decide +kernel
theorem u_246 : Cond.fieldLink "FilterGuard$Steps" 252 "FilterGuard$Code" "offset" "I" ∈ fg_g := fg_in (List.mem_of_getElem? (i := 246) (by decide +kernel)) rfl
theorem d_Steps_memory_65 : decode prog_11_method_13_code 65 = .ok (.iadd, 1) := by decide +kernel
theorem d_Steps_memory_66 : decode prog_11_method_13_code 66 = .ok (.istore_n 3, 1) := by decide +kernel
theorem d_Steps_memory_67 : decode prog_11_method_13_code 67 = .ok (.aload_n 0, 1) := by decide +kernel
theorem d_Steps_memory_68 : decode prog_11_method_13_code 68 = .ok (.aload_n 2, 1) := by decide +kernel
theorem d_Steps_memory_69 : decode prog_11_method_13_code 69 = .ok (.iload_n 3, 1) := by decide +kernel
theorem d_Steps_memory_70 : decode prog_11_method_13_code 70 = .ok (.invokevirtual 255, 3) := by decide +kernel
theorem u_1386 : Cond.methodLink "FilterGuard$Steps" 255 ⟨"FilterGuard$Steps", "isPlace", "(LFilterGuard$Cell;I)Z"⟩ ∈ fg_g := fg_in (List.mem_of_getElem? (i := 1386) (by decide +kernel)) rfl
theorem u_1389 : Cond.code ⟨"FilterGuard$Steps", "isPlace", "(LFilterGuard$Cell;I)Z"⟩ prog_11_method_14_code 5 (some .boolean) ∈ fg_g := fg_in (List.mem_of_getElem? (i := 1389) (by decide +kernel)) rfl
theorem u_1388 : Cond.instanceMethod ⟨"FilterGuard$Steps", "isPlace", "(LFilterGuard$Cell;I)Z"⟩ ∈ fg_g := fg_in (List.mem_of_getElem? (i := 1388) (by decide +kernel)) rfl
theorem u_49 : Cond.selects "FilterGuard$Steps" ⟨"FilterGuard$Steps", "isPlace", "(LFilterGuard$Cell;I)Z"⟩ ⟨"FilterGuard$Steps", "isPlace", "(LFilterGuard$Cell;I)Z"⟩ ∈ fg_g := fg_in (List.mem_of_getElem? (i := 49) (by decide +kernel)) rfl
theorem d_Steps_memory_73 : decode prog_11_method_13_code 73 = .ok (.ifCond .ne 6, 3) := by decide +kernel
theorem d_Steps_memory_79 : decode prog_11_method_13_code 79 = .ok (.iload_n 1, 1) := by decide +kernel
theorem d_Steps_memory_80 : decode prog_11_method_13_code 80 = .ok (.ifCond .eq 13, 3) := by decide +kernel
theorem d_Steps_memory_93 : decode prog_11_method_13_code 93 = .ok (.aload_n 0, 1) := by decide +kernel
theorem d_Steps_memory_94 : decode prog_11_method_13_code 94 = .ok (.invokevirtual 129, 3) := by decide +kernel
theorem d_Steps_memory_97 : decode prog_11_method_13_code 97 = .ok (.astore 4, 2) := by decide +kernel
theorem d_Steps_memory_99 : decode prog_11_method_13_code 99 = .ok (.aload_n 0, 1) := by decide +kernel
theorem d_Steps_memory_100 : decode prog_11_method_13_code 100 = .ok (.getfield 44, 3) := by decide +kernel
theorem d_Steps_memory_103 : decode prog_11_method_13_code 103 = .ok (.getfield 85, 3) := by decide +kernel
theorem d_Steps_memory_106 : decode prog_11_method_13_code 106 = .ok (.iconst 3, 1) := by decide +kernel
theorem d_Steps_memory_107 : decode prog_11_method_13_code 107 = .ok (.if_icmp .ne 27, 3) := by decide +kernel
theorem d_Steps_memory_110 : decode prog_11_method_13_code 110 = .ok (.aload_n 2, 1) := by decide +kernel
theorem d_Steps_memory_111 : decode prog_11_method_13_code 111 = .ok (.getfield 76, 3) := by decide +kernel
theorem d_Steps_memory_114 : decode prog_11_method_13_code 114 = .ok (.iconst 3, 1) := by decide +kernel
theorem d_Steps_memory_115 : decode prog_11_method_13_code 115 = .ok (.if_icmp .ne 19, 3) := by decide +kernel
theorem d_Steps_memory_118 : decode prog_11_method_13_code 118 = .ok (.aload_n 0, 1) := by decide +kernel
theorem d_Steps_memory_119 : decode prog_11_method_13_code 119 = .ok (.getfield 44, 3) := by decide +kernel
theorem d_Steps_memory_122 : decode prog_11_method_13_code 122 = .ok (.getfield 262, 3) := by decide +kernel
theorem d_Steps_memory_125 : decode prog_11_method_13_code 125 = .ok (.bipush 8, 2) := by decide +kernel
theorem d_Steps_memory_127 : decode prog_11_method_13_code 127 = .ok (.if_icmp .ne 7, 3) := by decide +kernel
theorem d_Steps_memory_130 : decode prog_11_method_13_code 130 = .ok (.iconst 1, 1) := by decide +kernel
theorem d_Steps_memory_131 : decode prog_11_method_13_code 131 = .ok (.goto 4, 3) := by decide +kernel
theorem d_Steps_memory_83 : decode prog_11_method_13_code 83 = .ok (.aload_n 0, 1) := by decide +kernel
theorem d_Steps_memory_84 : decode prog_11_method_13_code 84 = .ok (.aload_n 2, 1) := by decide +kernel
theorem d_Steps_memory_85 : decode prog_11_method_13_code 85 = .ok (.getfield 76, 3) := by decide +kernel
theorem d_Steps_memory_88 : decode prog_11_method_13_code 88 = .ok (.iload_n 3, 1) := by decide +kernel
theorem d_Steps_memory_89 : decode prog_11_method_13_code 89 = .ok (.invokevirtual 259, 3) := by decide +kernel
theorem u_1390 : Cond.methodLink "FilterGuard$Steps" 259 ⟨"FilterGuard$Steps", "load", "(II)I"⟩ ∈ fg_g := fg_in (List.mem_of_getElem? (i := 1390) (by decide +kernel)) rfl
theorem u_1393 : Cond.code ⟨"FilterGuard$Steps", "load", "(II)I"⟩ prog_11_method_17_code 5 (some .int) ∈ fg_g := fg_in (List.mem_of_getElem? (i := 1393) (by decide +kernel)) rfl
theorem u_1392 : Cond.instanceMethod ⟨"FilterGuard$Steps", "load", "(II)I"⟩ ∈ fg_g := fg_in (List.mem_of_getElem? (i := 1392) (by decide +kernel)) rfl
theorem u_50 : Cond.selects "FilterGuard$Steps" ⟨"FilterGuard$Steps", "load", "(II)I"⟩ ⟨"FilterGuard$Steps", "load", "(II)I"⟩ ∈ fg_g := fg_in (List.mem_of_getElem? (i := 50) (by decide +kernel)) rfl
theorem d_Steps_memory_92 : decode prog_11_method_13_code 92 = .ok (.ireturn, 1) := by decide +kernel
theorem d_Steps_memory_76 : decode prog_11_method_13_code 76 = .ok (.bipush 14, 2) := by decide +kernel
theorem d_Steps_memory_78 : decode prog_11_method_13_code 78 = .ok (.ireturn, 1) := by decide +kernel
theorem d_Steps_memory_51 : decode prog_11_method_13_code 51 = .ok (.bipush 13, 2) := by decide +kernel
theorem d_Steps_memory_53 : decode prog_11_method_13_code 53 = .ok (.ireturn, 1) := by decide +kernel
theorem d_Steps_memory_16 : decode prog_11_method_13_code 16 = .ok (.istore_n 1, 1) := by decide +kernel
theorem d_Steps_memory_17 : decode prog_11_method_13_code 17 = .ok (.aload_n 0, 1) := by decide +kernel
theorem d_Steps_memory_18 : decode prog_11_method_13_code 18 = .ok (.getfield 66, 3) := by decide +kernel
theorem d_Steps_memory_21 : decode prog_11_method_13_code 21 = .ok (.iload_n 1, 1) := by decide +kernel
theorem d_Steps_memory_22 : decode prog_11_method_13_code 22 = .ok (.ifCond .eq 13, 3) := by decide +kernel
theorem d_Steps_memory_35 : decode prog_11_method_13_code 35 = .ok (.aload_n 0, 1) := by decide +kernel
theorem d_Steps_memory_36 : decode prog_11_method_13_code 36 = .ok (.getfield 44, 3) := by decide +kernel
theorem d_Steps_memory_39 : decode prog_11_method_13_code 39 = .ok (.getfield 73, 3) := by decide +kernel
theorem d_Steps_memory_25 : decode prog_11_method_13_code 25 = .ok (.aload_n 0, 1) := by decide +kernel
theorem d_Steps_memory_26 : decode prog_11_method_13_code 26 = .ok (.getfield 44, 3) := by decide +kernel
theorem d_Steps_memory_29 : decode prog_11_method_13_code 29 = .ok (.getfield 82, 3) := by decide +kernel
theorem d_Steps_memory_32 : decode prog_11_method_13_code 32 = .ok (.goto 10, 3) := by decide +kernel
theorem d_Steps_memory_0 : decode prog_11_method_13_code 0 = .ok (.aload_n 0, 1) := by decide +kernel
theorem d_Steps_memory_1 : decode prog_11_method_13_code 1 = .ok (.getfield 44, 3) := by decide +kernel
theorem d_Steps_memory_4 : decode prog_11_method_13_code 4 = .ok (.getfield 85, 3) := by decide +kernel
theorem d_Steps_memory_7 : decode prog_11_method_13_code 7 = .ok (.iconst 2, 1) := by decide +kernel
theorem d_Steps_memory_8 : decode prog_11_method_13_code 8 = .ok (.if_icmp .ne 7, 3) := by decide +kernel
theorem d_Steps_memory_15 : decode prog_11_method_13_code 15 = .ok (.iconst 0, 1) := by decide +kernel
theorem d_Steps_memory_11 : decode prog_11_method_13_code 11 = .ok (.iconst 1, 1) := by decide +kernel
theorem d_Steps_memory_12 : decode prog_11_method_13_code 12 = .ok (.goto 4, 3) := by decide +kernel
abbrev y_Steps_memory : MethodName := ⟨"FilterGuard$Steps", "memory", "()I"⟩
def rm_Steps_memory : Room := { frames := 5, cells := 0, slots := 0, locals := 128 }
abbrev q_Steps_memory (D : va_G) (ad : Nat → Nat → Nat) (ca : Nat → ClassId) (N : Nat → Nat) (M0 MZ : me_M) (RZ : Int32) (A : Nat → Prop) : Array Value → Jvm.State → Outcome → Jvm.State → Prop := va_Qi (fun r (_ : Unit) => r = RZ ∧ me_wf N MZ ∧ me_kp M0 MZ) (fg_B D A (fun _ => me_W ad ca MZ) (fun _ => [])) A
set_option maxHeartbeats 4000000 in
set_option maxRecDepth 100000 in
theorem c_Steps_memory (l : Launch) (D : va_G) (ad : Nat → Nat → Nat) (ca : Nat → ClassId) (N : Nat → Nat) (M0 MZ : me_M) (RZ : Int32) (j0 : Nat) (h : f_Steps_memory M0 j0 = (some (MZ, RZ))) (hwf : me_wf N M0) (hj0 : j0 < N 7) (sz : Nat) : Met l y_Steps_memory (fg_w y_Steps_memory prog_11_method_13_code 6 (some .int)) rm_Steps_memory (va_Pc [.ref (ad 7 j0)] (fz_P D (me_T ca) (me_W ad ca M0) sz)) (q_Steps_memory D ad ca N M0 MZ RZ (va_A (me_W ad ca M0) sz)) rm_Steps_memory.cells rm_Steps_memory.slots (va_A (me_W ad ca M0) sz) := by
  refine fz_enter (fun A => q_Steps_memory D ad ca N M0 MZ RZ A) (by decide +kernel) (Nat.le_of_ble_eq_true rfl) ?_
  intro p e s m below meth c ls A hx hb hml hown hts hr hlocks hin hP hK hD hS hA hX hl hz
  have hl : lv_has ls 6 [(0, .ref (ad 7 j0))] := hl
  unfold f_Steps_memory at h
  have hkp : me_kp M0 M0 := me_kp.rf
  have hkb := hkp
  have b_154 : ∀ (M : me_M) (y2 : Nat) (y3 : Int32) (y4 : Nat) (H : Heap) (locs : List Loc) (ls : Array Slot), f_Steps_memory_b154 j0 M y2 y3 y4 = (some (MZ, RZ)) → (y2 < N 10) → (y4 < N 10) → me_wf N M → me_kp M0 M → va_P D classes (me_W ad ca M) H → va_D A (me_W ad ca M) → va_S A s.heap H locs → lv_has ls 6 [(0, .ref (ad 7 j0)), (2, .ref (ad 10 y2)), (3, .int y3), (4, .ref (ad 10 y4))] → W p l e rm_Steps_memory s m [.ref (ad 7 j0)].toArray below meth c H locs 0 0 (MQ below (q_Steps_memory D ad ca N M0 MZ RZ A) [.ref (ad 7 j0)].toArray s rm_Steps_memory.cells rm_Steps_memory.slots A) (F0 m 154 ls []) := by
    intro M y2 y3 y4 H locs ls h hy2 hy4 hwf hkp hP hD hS hl
    unfold f_Steps_memory_b154 at h
    have hkb := hkp
    refine lv_aload_n hx hb d_Steps_memory_154 rfl (lv_at hl 1 rfl) ?_
    refine g_Cell_0 hx hb hts hown hK hP hwf hy2 (hts _ u_422) d_Steps_memory_155 ?_
    refine lv_iconst (v := 3) hx hb d_Steps_memory_158 (by decide) ?_
    refine lv_icmp_eq (tgt := 164) hx hb d_Steps_memory_159 (by decide) (fun c1 => ?_) (fun c1 => ?_)
    · have h := if_t c1 h
      refine lv_aload_n hx hb d_Steps_memory_164 rfl (lv_at hl 0 rfl) ?_
      refine g_Steps_0 hx hb hts hown hK hP hwf hj0 (hts _ u_455) d_Steps_memory_165 ?_
      obtain ⟨j2, e3, h⟩ := bd_ob h
      have hj2 : j2 < N 2 := (hwf.2.1 7 j0 0 _ e3 (by decide) hj0)
      refine me_opt (j := j2) e3 ?_
      refine g_Code_10 hx hb hts hown hK hP hwf hj2 (hts _ u_251) d_Steps_memory_168 ?_
      refine lv_iconst (v := 5) hx hb d_Steps_memory_171 (by decide) ?_
      refine lv_icmp_ne (tgt := 181) hx hb d_Steps_memory_172 (by decide) (fun c4 => ?_) (fun c4 => ?_)
      · have h := if_f c4 h
        refine lv_aload_n hx hb d_Steps_memory_181 rfl (lv_at hl 0 rfl) ?_
        refine lv_iload_n hx hb d_Steps_memory_182 rfl (lv_at hl 2 rfl) ?_
        refine lv_aload hx hb d_Steps_memory_183 (lv_at hl 3 rfl) ?_
        obtain ⟨M5, eM5, h⟩ := bd_ob h
        refine me_thenv0 (M1 := M5) (me_runV (C := "FilterGuard$Steps") (As := [.int y3, .ref (ad 10 y4)]) (rest := []) ⟨hx, hb, hml, hown, hts⟩ (c_Steps_store l D ad ca N M M5 j0 y3 y4 eM5 hwf hj0 hy4 _) rfl (by show fg_nm y_Steps_store 2; decide +kernel) u_1402 u_1404 u_52 u_185 u_1405 ⟨Nat.le_of_ble_eq_true rfl, Nat.le_of_ble_eq_true rfl⟩ hX hz hK hP hD hwf hS hA hj0 (by decide) rfl rfl rfl hl.1 (Nat.le_of_ble_eq_true rfl) d_Steps_memory_185 ⟨Nat.le_of_ble_eq_true rfl, Nat.le_of_ble_eq_true rfl⟩) hP hD hK hS hA rfl rfl (fun H locs hw hP hD hS => ?_)
        obtain ⟨hwf, hk9⟩ := hw
        have hkp := hkp.tr hk9
        refine lv_iconst (v := 0) hx hb d_Steps_memory_188 (by decide) ?_
        exact me_reti (me_kp M0) h hx hb hr hlocks hwf hkp hP hK hD hS d_Steps_memory_189
      have h := if_t c4 h
      refine lv_aload_n hx hb d_Steps_memory_175 rfl (lv_at hl 0 rfl) ?_
      refine lv_iload_n hx hb d_Steps_memory_176 rfl (lv_at hl 2 rfl) ?_
      obtain ⟨M6, r7, eM6, h⟩ := b2_ob h
      refine me_theni0 (M1 := M6) (me_runV (C := "FilterGuard$Steps") (As := [.int y3]) (rest := []) ⟨hx, hb, hml, hown, hts⟩ (c_Steps_addTo l D ad ca N M M6 r7 j0 y3 eM6 hwf hj0 _) rfl (by show fg_nm y_Steps_addTo 1; decide +kernel) u_1398 u_1400 u_51 u_185 u_1401 ⟨Nat.le_of_ble_eq_true rfl, Nat.le_of_ble_eq_true rfl⟩ hX hz hK hP hD hwf hS hA hj0 (by decide) rfl rfl rfl hl.1 (Nat.le_of_ble_eq_true rfl) d_Steps_memory_177 ⟨Nat.le_of_ble_eq_true rfl, Nat.le_of_ble_eq_true rfl⟩) hP hD hK hS hA rfl rfl (fun H locs hw hP hD hS => ?_)
      obtain ⟨hwf, hk9⟩ := hw
      have hkp := hkp.tr hk9
      exact me_reti (me_kp M0) h hx hb hr hlocks hwf hkp hP hK hD hS d_Steps_memory_180
    have h := if_f c1 h
    refine lv_iconst (v := 0) hx hb d_Steps_memory_162 (by decide) ?_
    exact me_reti (me_kp M0) h hx hb hr hlocks hwf hkp hP hK hD hS d_Steps_memory_163
  have b_135 : ∀ (M : me_M) (y2 : Nat) (y3 : Int32) (y4 : Nat) (s0 : Int32) (H : Heap) (locs : List Loc) (ls : Array Slot), f_Steps_memory_b135 j0 M y2 y3 y4 s0 = (some (MZ, RZ)) → (y2 < N 10) → (y4 < N 10) → (s0 = 1 ∨ s0 = 0) → me_wf N M → me_kp M0 M → va_P D classes (me_W ad ca M) H → va_D A (me_W ad ca M) → va_S A s.heap H locs → lv_has ls 6 [(0, .ref (ad 7 j0)), (2, .ref (ad 10 y2)), (3, .int y3), (4, .ref (ad 10 y4))] → W p l e rm_Steps_memory s m [.ref (ad 7 j0)].toArray below meth c H locs 0 0 (MQ below (q_Steps_memory D ad ca N M0 MZ RZ A) [.ref (ad 7 j0)].toArray s rm_Steps_memory.cells rm_Steps_memory.slots A) (F0 m 135 ls [.int s0]) := by
    intro M y2 y3 y4 s0 H locs ls h hy2 hy4 zs0 hwf hkp hP hD hS hl
    unfold f_Steps_memory_b135 at h
    have hkb := hkp
    refine lv_istore (lv' := [(5, .int s0), (0, .ref (ad 7 j0)), (2, .ref (ad 10 y2)), (3, .int y3), (4, .ref (ad 10 y4))]) hx hb d_Steps_memory_135 hl (by decide) rfl (fun ls hl => ?_)
    refine lv_aload hx hb d_Steps_memory_137 (lv_at hl 4 rfl) ?_
    refine g_Cell_0 hx hb hts hown hK hP hwf hy4 (hts _ u_422) d_Steps_memory_139 ?_
    refine lv_iconst (v := 1) hx hb d_Steps_memory_142 (by decide) ?_
    refine lv_icmp_eq (tgt := 154) hx hb d_Steps_memory_143 (by decide) (fun c8 => ?_) (fun c8 => ?_)
    · have h := if_t c8 h
      exact b_154 M y2 y3 y4 _ _ _ h hy2 hy4 hwf hkp hP hD hS (lv_sub hl [1, 2, 3, 4] rfl)
    have h := if_f c8 h
    refine lv_iload hx hb d_Steps_memory_146 (lv_at hl 0 rfl) ?_
    refine lv_if_ne (tgt := 154) hx hb d_Steps_memory_148 (by decide) (fun c9 => ?_) (fun c9 => ?_)
    · have h := if_f c9 h
      exact b_154 M y2 y3 y4 _ _ _ h hy2 hy4 hwf hkp hP hD hS (lv_sub hl [1, 2, 3, 4] rfl)
    have h := if_t c9 h
    refine lv_bipush (v := 16) hx hb d_Steps_memory_151 (by decide) ?_
    exact me_reti (me_kp M0) h hx hb hr hlocks hwf hkp hP hK hD hS d_Steps_memory_153
  have b_134 : ∀ (M : me_M) (y2 : Nat) (y3 : Int32) (y4 : Nat) (H : Heap) (locs : List Loc) (ls : Array Slot), f_Steps_memory_b134 j0 M y2 y3 y4 = (some (MZ, RZ)) → (y2 < N 10) → (y4 < N 10) → me_wf N M → me_kp M0 M → va_P D classes (me_W ad ca M) H → va_D A (me_W ad ca M) → va_S A s.heap H locs → lv_has ls 6 [(0, .ref (ad 7 j0)), (2, .ref (ad 10 y2)), (3, .int y3), (4, .ref (ad 10 y4))] → W p l e rm_Steps_memory s m [.ref (ad 7 j0)].toArray below meth c H locs 0 0 (MQ below (q_Steps_memory D ad ca N M0 MZ RZ A) [.ref (ad 7 j0)].toArray s rm_Steps_memory.cells rm_Steps_memory.slots A) (F0 m 134 ls []) := by
    intro M y2 y3 y4 H locs ls h hy2 hy4 hwf hkp hP hD hS hl
    unfold f_Steps_memory_b134 at h
    have hkb := hkp
    refine lv_iconst (v := 0) hx hb d_Steps_memory_134 (by decide) ?_
    exact b_135 M y2 y3 y4 (0 : Int32) _ _ _ h hy2 hy4 (by decide) hwf hkp hP hD hS (lv_sub hl [0, 1, 2, 3] rfl)
  have b_42 : ∀ (M : me_M) (y1 : Int32) (s0 : Int32) (s1 : Nat) (H : Heap) (locs : List Loc) (ls : Array Slot), f_Steps_memory_b42 j0 M y1 s0 s1 = (some (MZ, RZ)) → (y1 = 1 ∨ y1 = 0) → (s1 < N 18) → me_wf N M → me_kp M0 M → va_P D classes (me_W ad ca M) H → va_D A (me_W ad ca M) → va_S A s.heap H locs → lv_has ls 6 [(0, .ref (ad 7 j0)), (1, .int y1)] → W p l e rm_Steps_memory s m [.ref (ad 7 j0)].toArray below meth c H locs 0 0 (MQ below (q_Steps_memory D ad ca N M0 MZ RZ A) [.ref (ad 7 j0)].toArray s rm_Steps_memory.cells rm_Steps_memory.slots A) (F0 m 42 ls [.int s0, .ref (ad 18 s1)]) := by
    intro M y1 s0 s1 H locs ls h zy1 hs1 hwf hkp hP hD hS hl
    unfold f_Steps_memory_b42 at h
    have hkb := hkp
    obtain ⟨g10, h⟩ := gd_ob h
    refine me_aald (k := 18) (t := 10) hx hb hK hP hwf hs1 (by decide) (by decide) rfl (fun _ => rfl) g10 d_Steps_memory_42 ?_
    obtain ⟨j11, e12, h⟩ := bd_ob h
    have hj11 : j11 < N 10 := (hwf.2.1 18 s1 s0.toNatClampNeg _ e12 (by decide) hs1)
    refine me_opt (j := j11) e12 ?_
    refine lv_astore_n (lv' := [(2, .ref (ad 10 j11)), (0, .ref (ad 7 j0)), (1, .int y1)]) hx hb d_Steps_memory_43 rfl hl (by decide) rfl (fun ls hl => ?_)
    refine lv_aload_n hx hb d_Steps_memory_44 rfl (lv_at hl 0 rfl) ?_
    obtain ⟨M13, r14, eM13, h⟩ := b2_ob h
    refine me_theni0 (M1 := M13) (me_runV (C := "FilterGuard$Cell") (As := []) (rest := []) ⟨hx, hb, hml, hown, hts⟩ (c_Cell_isPointer l D ad ca N M M13 r14 j11 eM13 hwf hj11 _) rfl (by show fg_nm y_Cell_isPointer 0; decide +kernel) u_1242 u_1243 u_1244 u_188 u_1245 ⟨Nat.le_of_ble_eq_true rfl, Nat.le_of_ble_eq_true rfl⟩ hX hz hK hP hD hwf hS hA hj11 (by decide) rfl rfl rfl hl.1 (Nat.le_of_ble_eq_true rfl) d_Steps_memory_45 ⟨Nat.le_of_ble_eq_true rfl, Nat.le_of_ble_eq_true rfl⟩) hP hD hK hS hA rfl rfl (fun H locs hw hP hD hS => ?_)
    obtain ⟨hwf, hk9, zr14⟩ := hw
    have hkp := hkp.tr hk9
    refine lv_if_ne (tgt := 54) hx hb d_Steps_memory_48 (by decide) (fun c15 => ?_) (fun c15 => ?_)
    · have h := if_f c15 h
      refine lv_aload_n hx hb d_Steps_memory_54 rfl (lv_at hl 0 rfl) ?_
      refine g_Cell_1 hx hb hts hown hK hP hwf hj11 (hts _ u_425) d_Steps_memory_55 ?_
      refine lv_aload_n hx hb d_Steps_memory_58 rfl (lv_at hl 1 rfl) ?_
      refine g_Steps_0 hx hb hts hown hK hP hwf hj0 (hts _ u_455) d_Steps_memory_59 ?_
      obtain ⟨j16, e17, h⟩ := bd_ob h
      have hj16 : j16 < N 2 := (hwf.2.1 7 j0 0 _ (kp_r hkb hkp e17) (by decide) hj0)
      refine me_opt (j := j16) (kp_r hkb hkp e17) ?_
      refine g_Code_8 hx hb hts hown hK hP hwf hj16 (hts _ u_246) d_Steps_memory_62 ?_
      refine lv_iadd hx hb d_Steps_memory_65 ?_
      obtain ⟨v18, ev18, h⟩ := st_ob h
      refine fg_topi (y := v18) ev18.symm ?_
      refine lv_istore_n (lv' := [(3, .int v18), (2, .ref (ad 10 j11)), (0, .ref (ad 7 j0)), (1, .int y1)]) hx hb d_Steps_memory_66 rfl hl (by decide) rfl (fun ls hl => ?_)
      refine lv_aload_n hx hb d_Steps_memory_67 rfl (lv_at hl 2 rfl) ?_
      refine lv_aload_n hx hb d_Steps_memory_68 rfl (lv_at hl 1 rfl) ?_
      refine lv_iload_n hx hb d_Steps_memory_69 rfl (lv_at hl 0 rfl) ?_
      obtain ⟨M19, r20, eM19, h⟩ := b2_ob h
      refine me_theni0 (M1 := M19) (me_runV (C := "FilterGuard$Steps") (As := [.ref (ad 10 j11), .int v18]) (rest := []) ⟨hx, hb, hml, hown, hts⟩ (c_Steps_isPlace l D ad ca N M13 M19 r20 j0 j11 v18 eM19 hwf hj0 hj11 _) rfl (by show fg_nm y_Steps_isPlace 2; decide +kernel) u_1386 u_1388 u_49 u_185 u_1389 ⟨Nat.le_of_ble_eq_true rfl, Nat.le_of_ble_eq_true rfl⟩ hX hz hK hP hD hwf hS hA hj0 (by decide) rfl rfl rfl hl.1 (Nat.le_of_ble_eq_true rfl) d_Steps_memory_70 ⟨Nat.le_of_ble_eq_true rfl, Nat.le_of_ble_eq_true rfl⟩) hP hD hK hS hA rfl rfl (fun H locs hw hP hD hS => ?_)
      obtain ⟨hwf, hk9, zr20⟩ := hw
      have hkp := hkp.tr hk9
      refine lv_if_ne (tgt := 79) hx hb d_Steps_memory_73 (by decide) (fun c21 => ?_) (fun c21 => ?_)
      · have h := if_f c21 h
        refine lv_iload_n hx hb d_Steps_memory_79 rfl (lv_at hl 3 rfl) ?_
        refine lv_if_eq (tgt := 93) hx hb d_Steps_memory_80 (by decide) (fun c22 => ?_) (fun c22 => ?_)
        · have h := if_t c22 h
          refine lv_aload_n hx hb d_Steps_memory_93 rfl (lv_at hl 2 rfl) ?_
          obtain ⟨M23, r24, eM23, h⟩ := b2_ob h
          refine me_thenr0 (M1 := M23) (me_runV (C := "FilterGuard$Steps") (As := []) (rest := []) ⟨hx, hb, hml, hown, hts⟩ (c_Steps_operand l D ad ca N M19 M23 r24 j0 eM23 hwf hj0 _) rfl (by show fg_nm y_Steps_operand 0; decide +kernel) u_1113 u_1115 u_18 u_185 u_1116 ⟨Nat.le_of_ble_eq_true rfl, Nat.le_of_ble_eq_true rfl⟩ hX hz hK hP hD hwf hS hA hj0 (by decide) rfl rfl rfl hl.1 (Nat.le_of_ble_eq_true rfl) d_Steps_memory_94 ⟨Nat.le_of_ble_eq_true rfl, Nat.le_of_ble_eq_true rfl⟩) hP hD hK hS hA rfl rfl (fun H locs hw hP hD hS => ?_)
          obtain ⟨hwf, hk9, hr24⟩ := hw
          have hkp := hkp.tr hk9
          refine lv_astore (lv' := [(4, .ref (ad 10 r24)), (3, .int v18), (2, .ref (ad 10 j11)), (0, .ref (ad 7 j0)), (1, .int y1)]) hx hb d_Steps_memory_97 hl (by decide) rfl (fun ls hl => ?_)
          refine lv_aload_n hx hb d_Steps_memory_99 rfl (lv_at hl 3 rfl) ?_
          refine g_Steps_0 hx hb hts hown hK hP hwf hj0 (hts _ u_455) d_Steps_memory_100 ?_
          refine me_opt (j := j16) (kp_r hkb hkp e17) ?_
          refine g_Code_10 hx hb hts hown hK hP hwf hj16 (hts _ u_251) d_Steps_memory_103 ?_
          refine lv_iconst (v := 3) hx hb d_Steps_memory_106 (by decide) ?_
          refine lv_icmp_ne (tgt := 134) hx hb d_Steps_memory_107 (by decide) (fun c25 => ?_) (fun c25 => ?_)
          · have h := if_f c25 h
            exact b_134 M23 j11 v18 r24 _ _ _ h hj11 hr24 hwf hkp hP hD hS (lv_sub hl [3, 2, 1, 0] rfl)
          have h := if_t c25 h
          refine lv_aload_n hx hb d_Steps_memory_110 rfl (lv_at hl 2 rfl) ?_
          refine g_Cell_0 hx hb hts hown hK hP hwf hj11 (hts _ u_422) d_Steps_memory_111 ?_
          refine lv_iconst (v := 3) hx hb d_Steps_memory_114 (by decide) ?_
          refine lv_icmp_ne (tgt := 134) hx hb d_Steps_memory_115 (by decide) (fun c26 => ?_) (fun c26 => ?_)
          · have h := if_f c26 h
            exact b_134 M23 j11 v18 r24 _ _ _ h hj11 hr24 hwf hkp hP hD hS (lv_sub hl [3, 2, 1, 0] rfl)
          have h := if_t c26 h
          refine lv_aload_n hx hb d_Steps_memory_118 rfl (lv_at hl 3 rfl) ?_
          refine g_Steps_0 hx hb hts hown hK hP hwf hj0 (hts _ u_455) d_Steps_memory_119 ?_
          refine me_opt (j := j16) (kp_r hkb hkp e17) ?_
          refine g_Code_11 hx hb hts hown hK hP hwf hj16 (hts _ u_260) d_Steps_memory_122 ?_
          refine lv_bipush (v := 8) hx hb d_Steps_memory_125 (by decide) ?_
          refine lv_icmp_ne (tgt := 134) hx hb d_Steps_memory_127 (by decide) (fun c27 => ?_) (fun c27 => ?_)
          · have h := if_f c27 h
            exact b_134 M23 j11 v18 r24 _ _ _ h hj11 hr24 hwf hkp hP hD hS (lv_sub hl [3, 2, 1, 0] rfl)
          have h := if_t c27 h
          refine lv_iconst (v := 1) hx hb d_Steps_memory_130 (by decide) ?_
          refine lv_goto (tgt := 135) hx hb d_Steps_memory_131 (by decide) ?_
          exact b_135 M23 j11 v18 r24 (1 : Int32) _ _ _ h hj11 hr24 (by decide) hwf hkp hP hD hS (lv_sub hl [3, 2, 1, 0] rfl)
        have h := if_f c22 h
        refine lv_aload_n hx hb d_Steps_memory_83 rfl (lv_at hl 2 rfl) ?_
        refine lv_aload_n hx hb d_Steps_memory_84 rfl (lv_at hl 1 rfl) ?_
        refine g_Cell_0 hx hb hts hown hK hP hwf hj11 (hts _ u_422) d_Steps_memory_85 ?_
        refine lv_iload_n hx hb d_Steps_memory_88 rfl (lv_at hl 0 rfl) ?_
        obtain ⟨M28, r29, eM28, h⟩ := b2_ob h
        refine me_theni0 (M1 := M28) (me_runV (C := "FilterGuard$Steps") (As := [.int (mI M19 10 j11 0), .int v18]) (rest := []) ⟨hx, hb, hml, hown, hts⟩ (c_Steps_load l D ad ca N M19 M28 r29 j0 (mI M19 10 j11 0) v18 eM28 hwf hj0 _) rfl (by show fg_nm y_Steps_load 2; decide +kernel) u_1390 u_1392 u_50 u_185 u_1393 ⟨Nat.le_of_ble_eq_true rfl, Nat.le_of_ble_eq_true rfl⟩ hX hz hK hP hD hwf hS hA hj0 (by decide) rfl rfl rfl hl.1 (Nat.le_of_ble_eq_true rfl) d_Steps_memory_89 ⟨Nat.le_of_ble_eq_true rfl, Nat.le_of_ble_eq_true rfl⟩) hP hD hK hS hA rfl rfl (fun H locs hw hP hD hS => ?_)
        obtain ⟨hwf, hk9⟩ := hw
        have hkp := hkp.tr hk9
        exact me_reti (me_kp M0) h hx hb hr hlocks hwf hkp hP hK hD hS d_Steps_memory_92
      have h := if_t c21 h
      refine lv_bipush (v := 14) hx hb d_Steps_memory_76 (by decide) ?_
      exact me_reti (me_kp M0) h hx hb hr hlocks hwf hkp hP hK hD hS d_Steps_memory_78
    have h := if_t c15 h
    refine lv_bipush (v := 13) hx hb d_Steps_memory_51 (by decide) ?_
    exact me_reti (me_kp M0) h hx hb hr hlocks hwf hkp hP hK hD hS d_Steps_memory_53
  have b_16 : ∀ (M : me_M) (s0 : Int32) (H : Heap) (locs : List Loc) (ls : Array Slot), f_Steps_memory_b16 j0 M s0 = (some (MZ, RZ)) → (s0 = 1 ∨ s0 = 0) → me_wf N M → me_kp M0 M → va_P D classes (me_W ad ca M) H → va_D A (me_W ad ca M) → va_S A s.heap H locs → lv_has ls 6 [(0, .ref (ad 7 j0))] → W p l e rm_Steps_memory s m [.ref (ad 7 j0)].toArray below meth c H locs 0 0 (MQ below (q_Steps_memory D ad ca N M0 MZ RZ A) [.ref (ad 7 j0)].toArray s rm_Steps_memory.cells rm_Steps_memory.slots A) (F0 m 16 ls [.int s0]) := by
    intro M s0 H locs ls h zs0 hwf hkp hP hD hS hl
    unfold f_Steps_memory_b16 at h
    have hkb := hkp
    refine lv_istore_n (lv' := [(1, .int s0), (0, .ref (ad 7 j0))]) hx hb d_Steps_memory_16 rfl hl (by decide) rfl (fun ls hl => ?_)
    refine lv_aload_n hx hb d_Steps_memory_17 rfl (lv_at hl 1 rfl) ?_
    refine g_Steps_5 hx hb hts hown hK hP hwf hj0 (hts _ u_460) d_Steps_memory_18 ?_
    obtain ⟨j30, e31, h⟩ := bd_ob h
    have hj30 : j30 < N 18 := (hwf.2.1 7 j0 5 _ e31 (by decide) hj0)
    refine me_opt (j := j30) e31 ?_
    refine lv_iload_n hx hb d_Steps_memory_21 rfl (lv_at hl 0 rfl) ?_
    refine lv_if_eq (tgt := 35) hx hb d_Steps_memory_22 (by decide) (fun c32 => ?_) (fun c32 => ?_)
    · have h := if_t c32 h
      refine lv_aload_n hx hb d_Steps_memory_35 rfl (lv_at hl 1 rfl) ?_
      refine g_Steps_0 hx hb hts hown hK hP hwf hj0 (hts _ u_455) d_Steps_memory_36 ?_
      obtain ⟨j33, e34, h⟩ := bd_ob h
      have hj33 : j33 < N 2 := (hwf.2.1 7 j0 0 _ e34 (by decide) hj0)
      refine me_opt (j := j33) e34 ?_
      refine g_Code_6 hx hb hts hown hK hP hwf hj33 (hts _ u_232) d_Steps_memory_39 ?_
      exact b_42 M s0 (mI M 2 j33 6) j30 _ _ _ h zs0 hj30 hwf hkp hP hD hS (lv_sub hl [1, 0] rfl)
    have h := if_f c32 h
    refine lv_aload_n hx hb d_Steps_memory_25 rfl (lv_at hl 1 rfl) ?_
    refine g_Steps_0 hx hb hts hown hK hP hwf hj0 (hts _ u_455) d_Steps_memory_26 ?_
    obtain ⟨j35, e36, h⟩ := bd_ob h
    have hj35 : j35 < N 2 := (hwf.2.1 7 j0 0 _ e36 (by decide) hj0)
    refine me_opt (j := j35) e36 ?_
    refine g_Code_7 hx hb hts hown hK hP hwf hj35 (hts _ u_239) d_Steps_memory_29 ?_
    refine lv_goto (tgt := 42) hx hb d_Steps_memory_32 (by decide) ?_
    exact b_42 M s0 (mI M 2 j35 7) j30 _ _ _ h zs0 hj30 hwf hkp hP hD hS (lv_sub hl [1, 0] rfl)
  refine lv_aload_n hx hb d_Steps_memory_0 rfl (lv_at hl 0 rfl) ?_
  refine g_Steps_0 hx hb hts hown hK hP hwf hj0 (hts _ u_455) d_Steps_memory_1 ?_
  obtain ⟨j37, e38, h⟩ := bd_ob h
  have hj37 : j37 < N 2 := (hwf.2.1 7 j0 0 _ e38 (by decide) hj0)
  refine me_opt (j := j37) e38 ?_
  refine g_Code_10 hx hb hts hown hK hP hwf hj37 (hts _ u_251) d_Steps_memory_4 ?_
  refine lv_iconst (v := 2) hx hb d_Steps_memory_7 (by decide) ?_
  refine lv_icmp_ne (tgt := 15) hx hb d_Steps_memory_8 (by decide) (fun c39 => ?_) (fun c39 => ?_)
  · have h := if_f c39 h
    refine lv_iconst (v := 0) hx hb d_Steps_memory_15 (by decide) ?_
    exact b_16 M0 (0 : Int32) _ _ _ h (by decide) hwf hkp hP hD hS (lv_sub hl [0] rfl)
  have h := if_t c39 h
  refine lv_iconst (v := 1) hx hb d_Steps_memory_11 (by decide) ?_
  refine lv_goto (tgt := 16) hx hb d_Steps_memory_12 (by decide) ?_
  exact b_16 M0 (1 : Int32) _ _ _ h (by decide) hwf hkp hP hD hS (lv_sub hl [0] rfl)
theorem d_Steps_take_82 : decode prog_11_method_3_code 82 = .ok (.aload_n 0, 1) := by decide +kernel
theorem d_Steps_take_83 : decode prog_11_method_3_code 83 = .ok (.getfield 44, 3) := by decide +kernel
theorem d_Steps_take_86 : decode prog_11_method_3_code 86 = .ok (.getfield 85, 3) := by decide +kernel
theorem d_Steps_take_89 : decode prog_11_method_3_code 89 = .ok (.tableswitch 97 1 10 #[55, 97, 97, 97, 97, 60, 95, 65, 70, 75], 55) := by decide +kernel
theorem d_Steps_take_144 : decode prog_11_method_3_code 144 = .ok (.aload_n 0, 1) := by decide +kernel
theorem d_Steps_take_145 : decode prog_11_method_3_code 145 = .ok (.invokevirtual 88, 3) := by decide +kernel
theorem u_1095 : Cond.methodLink "FilterGuard$Steps" 88 ⟨"FilterGuard$Steps", "wide", "()I"⟩ ∈ fg_g := fg_in (List.mem_of_getElem? (i := 1095) (by decide +kernel)) rfl
theorem u_1098 : Cond.code ⟨"FilterGuard$Steps", "wide", "()I"⟩ prog_11_method_4_code 1 (some .int) ∈ fg_g := fg_in (List.mem_of_getElem? (i := 1098) (by decide +kernel)) rfl
theorem u_1097 : Cond.instanceMethod ⟨"FilterGuard$Steps", "wide", "()I"⟩ ∈ fg_g := fg_in (List.mem_of_getElem? (i := 1097) (by decide +kernel)) rfl
theorem u_16 : Cond.selects "FilterGuard$Steps" ⟨"FilterGuard$Steps", "wide", "()I"⟩ ⟨"FilterGuard$Steps", "wide", "()I"⟩ ∈ fg_g := fg_in (List.mem_of_getElem? (i := 16) (by decide +kernel)) rfl
theorem d_Steps_take_148 : decode prog_11_method_3_code 148 = .ok (.ireturn, 1) := by decide +kernel
theorem d_Steps_take_186 : decode prog_11_method_3_code 186 = .ok (.aload_n 0, 1) := by decide +kernel
theorem d_Steps_take_187 : decode prog_11_method_3_code 187 = .ok (.invokevirtual 101, 3) := by decide +kernel
theorem u_1382 : Cond.methodLink "FilterGuard$Steps" 101 ⟨"FilterGuard$Steps", "memory", "()I"⟩ ∈ fg_g := fg_in (List.mem_of_getElem? (i := 1382) (by decide +kernel)) rfl
theorem u_1385 : Cond.code ⟨"FilterGuard$Steps", "memory", "()I"⟩ prog_11_method_13_code 6 (some .int) ∈ fg_g := fg_in (List.mem_of_getElem? (i := 1385) (by decide +kernel)) rfl
theorem u_1384 : Cond.instanceMethod ⟨"FilterGuard$Steps", "memory", "()I"⟩ ∈ fg_g := fg_in (List.mem_of_getElem? (i := 1384) (by decide +kernel)) rfl
theorem u_48 : Cond.selects "FilterGuard$Steps" ⟨"FilterGuard$Steps", "memory", "()I"⟩ ⟨"FilterGuard$Steps", "memory", "()I"⟩ ∈ fg_g := fg_in (List.mem_of_getElem? (i := 48) (by decide +kernel)) rfl
theorem d_Steps_take_190 : decode prog_11_method_3_code 190 = .ok (.ireturn, 1) := by decide +kernel
theorem d_Steps_take_149 : decode prog_11_method_3_code 149 = .ok (.aload_n 0, 1) := by decide +kernel
theorem d_Steps_take_150 : decode prog_11_method_3_code 150 = .ok (.invokevirtual 92, 3) := by decide +kernel
theorem u_1109 : Cond.methodLink "FilterGuard$Steps" 92 ⟨"FilterGuard$Steps", "arithmetic", "()I"⟩ ∈ fg_g := fg_in (List.mem_of_getElem? (i := 1109) (by decide +kernel)) rfl
theorem u_1112 : Cond.code ⟨"FilterGuard$Steps", "arithmetic", "()I"⟩ prog_11_method_6_code 4 (some .int) ∈ fg_g := fg_in (List.mem_of_getElem? (i := 1112) (by decide +kernel)) rfl
theorem u_1111 : Cond.instanceMethod ⟨"FilterGuard$Steps", "arithmetic", "()I"⟩ ∈ fg_g := fg_in (List.mem_of_getElem? (i := 1111) (by decide +kernel)) rfl
theorem u_17 : Cond.selects "FilterGuard$Steps" ⟨"FilterGuard$Steps", "arithmetic", "()I"⟩ ⟨"FilterGuard$Steps", "arithmetic", "()I"⟩ ∈ fg_g := fg_in (List.mem_of_getElem? (i := 17) (by decide +kernel)) rfl
theorem d_Steps_take_153 : decode prog_11_method_3_code 153 = .ok (.ireturn, 1) := by decide +kernel
theorem d_Steps_take_184 : decode prog_11_method_3_code 184 = .ok (.iconst 0, 1) := by decide +kernel
theorem d_Steps_take_185 : decode prog_11_method_3_code 185 = .ok (.ireturn, 1) := by decide +kernel
theorem d_Steps_take_154 : decode prog_11_method_3_code 154 = .ok (.aload_n 0, 1) := by decide +kernel
theorem d_Steps_take_155 : decode prog_11_method_3_code 155 = .ok (.invokevirtual 95, 3) := by decide +kernel
theorem u_1271 : Cond.methodLink "FilterGuard$Steps" 95 ⟨"FilterGuard$Steps", "relation", "()I"⟩ ∈ fg_g := fg_in (List.mem_of_getElem? (i := 1271) (by decide +kernel)) rfl
theorem u_1274 : Cond.code ⟨"FilterGuard$Steps", "relation", "()I"⟩ prog_11_method_9_code 4 (some .int) ∈ fg_g := fg_in (List.mem_of_getElem? (i := 1274) (by decide +kernel)) rfl
theorem u_1273 : Cond.instanceMethod ⟨"FilterGuard$Steps", "relation", "()I"⟩ ∈ fg_g := fg_in (List.mem_of_getElem? (i := 1273) (by decide +kernel)) rfl
theorem u_29 : Cond.selects "FilterGuard$Steps" ⟨"FilterGuard$Steps", "relation", "()I"⟩ ⟨"FilterGuard$Steps", "relation", "()I"⟩ ∈ fg_g := fg_in (List.mem_of_getElem? (i := 29) (by decide +kernel)) rfl
theorem d_Steps_take_158 : decode prog_11_method_3_code 158 = .ok (.ireturn, 1) := by decide +kernel
theorem d_Steps_take_159 : decode prog_11_method_3_code 159 = .ok (.aload_n 0, 1) := by decide +kernel
theorem d_Steps_take_160 : decode prog_11_method_3_code 160 = .ok (.invokevirtual 98, 3) := by decide +kernel
theorem u_1338 : Cond.methodLink "FilterGuard$Steps" 98 ⟨"FilterGuard$Steps", "help", "()I"⟩ ∈ fg_g := fg_in (List.mem_of_getElem? (i := 1338) (by decide +kernel)) rfl
theorem u_1341 : Cond.code ⟨"FilterGuard$Steps", "help", "()I"⟩ prog_11_method_20_code 4 (some .int) ∈ fg_g := fg_in (List.mem_of_getElem? (i := 1341) (by decide +kernel)) rfl
theorem u_1340 : Cond.instanceMethod ⟨"FilterGuard$Steps", "help", "()I"⟩ ∈ fg_g := fg_in (List.mem_of_getElem? (i := 1340) (by decide +kernel)) rfl
theorem u_42 : Cond.selects "FilterGuard$Steps" ⟨"FilterGuard$Steps", "help", "()I"⟩ ⟨"FilterGuard$Steps", "help", "()I"⟩ ∈ fg_g := fg_in (List.mem_of_getElem? (i := 42) (by decide +kernel)) rfl
theorem d_Steps_take_163 : decode prog_11_method_3_code 163 = .ok (.ireturn, 1) := by decide +kernel
theorem d_Steps_take_164 : decode prog_11_method_3_code 164 = .ok (.aload_n 0, 1) := by decide +kernel
theorem d_Steps_take_165 : decode prog_11_method_3_code 165 = .ok (.getfield 66, 3) := by decide +kernel
theorem d_Steps_take_168 : decode prog_11_method_3_code 168 = .ok (.iconst 0, 1) := by decide +kernel
theorem d_Steps_take_169 : decode prog_11_method_3_code 169 = .ok (.aaload, 1) := by decide +kernel
theorem d_Steps_take_170 : decode prog_11_method_3_code 170 = .ok (.getfield 76, 3) := by decide +kernel
theorem d_Steps_take_173 : decode prog_11_method_3_code 173 = .ok (.iconst 1, 1) := by decide +kernel
theorem d_Steps_take_174 : decode prog_11_method_3_code 174 = .ok (.if_icmp .ne 7, 3) := by decide +kernel
theorem d_Steps_take_181 : decode prog_11_method_3_code 181 = .ok (.bipush 18, 2) := by decide +kernel
theorem d_Steps_take_183 : decode prog_11_method_3_code 183 = .ok (.ireturn, 1) := by decide +kernel
theorem d_Steps_take_177 : decode prog_11_method_3_code 177 = .ok (.iconst 0, 1) := by decide +kernel
theorem d_Steps_take_178 : decode prog_11_method_3_code 178 = .ok (.goto 5, 3) := by decide +kernel
theorem d_Steps_take_46 : decode prog_11_method_3_code 46 = .ok (.istore_n 2, 1) := by decide +kernel
theorem d_Steps_take_47 : decode prog_11_method_3_code 47 = .ok (.iload_n 2, 1) := by decide +kernel
theorem d_Steps_take_48 : decode prog_11_method_3_code 48 = .ok (.ifCond .ne 31, 3) := by decide +kernel
theorem d_Steps_take_79 : decode prog_11_method_3_code 79 = .ok (.bipush 10, 2) := by decide +kernel
theorem d_Steps_take_81 : decode prog_11_method_3_code 81 = .ok (.ireturn, 1) := by decide +kernel
theorem d_Steps_take_51 : decode prog_11_method_3_code 51 = .ok (.aload_n 0, 1) := by decide +kernel
theorem d_Steps_take_52 : decode prog_11_method_3_code 52 = .ok (.getfield 44, 3) := by decide +kernel
theorem d_Steps_take_55 : decode prog_11_method_3_code 55 = .ok (.getfield 79, 3) := by decide +kernel
theorem d_Steps_take_58 : decode prog_11_method_3_code 58 = .ok (.ifCond .eq 24, 3) := by decide +kernel
theorem d_Steps_take_61 : decode prog_11_method_3_code 61 = .ok (.aload_n 0, 1) := by decide +kernel
theorem d_Steps_take_62 : decode prog_11_method_3_code 62 = .ok (.getfield 66, 3) := by decide +kernel
theorem d_Steps_take_65 : decode prog_11_method_3_code 65 = .ok (.aload_n 0, 1) := by decide +kernel
theorem d_Steps_take_66 : decode prog_11_method_3_code 66 = .ok (.getfield 44, 3) := by decide +kernel
theorem d_Steps_take_69 : decode prog_11_method_3_code 69 = .ok (.getfield 82, 3) := by decide +kernel
theorem d_Steps_take_72 : decode prog_11_method_3_code 72 = .ok (.aaload, 1) := by decide +kernel
theorem d_Steps_take_73 : decode prog_11_method_3_code 73 = .ok (.getfield 76, 3) := by decide +kernel
theorem d_Steps_take_76 : decode prog_11_method_3_code 76 = .ok (.ifCond .ne 6, 3) := by decide +kernel
theorem d_Steps_take_45 : decode prog_11_method_3_code 45 = .ok (.iconst 0, 1) := by decide +kernel
theorem d_Steps_take_0 : decode prog_11_method_3_code 0 = .ok (.aload_n 0, 1) := by decide +kernel
theorem d_Steps_take_1 : decode prog_11_method_3_code 1 = .ok (.aload_n 1, 1) := by decide +kernel
theorem d_Steps_take_2 : decode prog_11_method_3_code 2 = .ok (.putfield 56, 3) := by decide +kernel
theorem p_Steps_6 {p : Program} {l : Launch} {e : Env} {R : Room} {s : Jvm.State} {m : MethodId} {args : Array Value} {below : List Frame} {meth : Method} {c : Code} {H : Heap} {locs : List Loc} {cells slots : Nat} {Q : Jvm.State → Prop} {cc : ByteArray} {pc : Nat} {ls : Array Slot} {rest : List Value} {D : va_G} {A : Nat → Prop} {H0 : Heap} {ad : Nat → Nat → Nat} {ca : Nat → ClassId} {M M1 : me_M} {N : Nat → Nat} {own : String} {index j : Nat} {v : Nat} (he : M1 = wR M 7 j 6 (some v)) (hexec : p.tables.exec = Jvm.exec) (hb : c.code = cc) (hts : ∀ w ∈ fg_g, w.before args s = true) (hown : s.vm.findClass own = some m.cls) (hK : va_K D classes (me_T ca) s) (hP : va_P D classes (me_W ad ca M) H) (hD : va_D A (me_W ad ca M)) (hwf : me_wf N M) (hS : va_S A H0 H locs) (hj : j < N 7) (hv : v < N 9) (hlink : (Cond.fieldLink own index "FilterGuard$Steps" "state" "LFilterGuard$State;").before args s = true) (hdg : decode cc pc = .ok (.putfield index, 3)) (kk : ∀ (H1 : Heap) (locs1 : List Loc), va_P D classes (me_W ad ca M1) H1 → va_D A (me_W ad ca M1) → me_wf N M1 → va_S A H0 H1 locs1 → W p l e R s m args below meth c H1 locs1 cells slots Q (F0 m (pc + 3) ls rest)) : W p l e R s m args below meth c H locs cells slots Q (F0 m pc ls (.ref (ad 9 v) :: .ref (ad 7 j) :: rest)) := by
  subst he
  exact me_put (M1 := wR M 7 j 6 (some v)) (k := 7) (f := 6) (C := "FilterGuard$Steps") (T := F_Steps) (Nf := 19) hexec hb hts i_Steps t_Steps t_Steps_ok n_Steps hown hK hP hD hwf hS hj (by decide) rfl (by decide) (by decide) hlink (fun _ h9 => h9) rfl rfl rfl rfl (fun a b h => me_wRE h) (me_fRw (v := some v) (by decide) (by decide)) hdg (fun H1 locs1 a1 a2 a3 => kk H1 locs1 a1 a2 (me_wfR hwf (fun t z => by cases z; exact hv)) a3)
theorem d_Steps_take_5 : decode prog_11_method_3_code 5 = .ok (.aload_n 0, 1) := by decide +kernel
theorem d_Steps_take_6 : decode prog_11_method_3_code 6 = .ok (.aload_n 1, 1) := by decide +kernel
theorem d_Steps_take_7 : decode prog_11_method_3_code 7 = .ok (.getfield 60, 3) := by decide +kernel
theorem u_525 : Cond.fieldLink "FilterGuard$Steps" 60 "FilterGuard$State" "cells" "[LFilterGuard$Cell;" ∈ fg_g := fg_in (List.mem_of_getElem? (i := 525) (by decide +kernel)) rfl
theorem d_Steps_take_10 : decode prog_11_method_3_code 10 = .ok (.putfield 66, 3) := by decide +kernel
theorem p_Steps_5 {p : Program} {l : Launch} {e : Env} {R : Room} {s : Jvm.State} {m : MethodId} {args : Array Value} {below : List Frame} {meth : Method} {c : Code} {H : Heap} {locs : List Loc} {cells slots : Nat} {Q : Jvm.State → Prop} {cc : ByteArray} {pc : Nat} {ls : Array Slot} {rest : List Value} {D : va_G} {A : Nat → Prop} {H0 : Heap} {ad : Nat → Nat → Nat} {ca : Nat → ClassId} {M M1 : me_M} {N : Nat → Nat} {own : String} {index j : Nat} {v : Nat} (he : M1 = wR M 7 j 5 (some v)) (hexec : p.tables.exec = Jvm.exec) (hb : c.code = cc) (hts : ∀ w ∈ fg_g, w.before args s = true) (hown : s.vm.findClass own = some m.cls) (hK : va_K D classes (me_T ca) s) (hP : va_P D classes (me_W ad ca M) H) (hD : va_D A (me_W ad ca M)) (hwf : me_wf N M) (hS : va_S A H0 H locs) (hj : j < N 7) (hv : v < N 18) (hlink : (Cond.fieldLink own index "FilterGuard$Steps" "cells" "[LFilterGuard$Cell;").before args s = true) (hdg : decode cc pc = .ok (.putfield index, 3)) (kk : ∀ (H1 : Heap) (locs1 : List Loc), va_P D classes (me_W ad ca M1) H1 → va_D A (me_W ad ca M1) → me_wf N M1 → va_S A H0 H1 locs1 → W p l e R s m args below meth c H1 locs1 cells slots Q (F0 m (pc + 3) ls rest)) : W p l e R s m args below meth c H locs cells slots Q (F0 m pc ls (.ref (ad 18 v) :: .ref (ad 7 j) :: rest)) := by
  subst he
  exact me_put (M1 := wR M 7 j 5 (some v)) (k := 7) (f := 5) (C := "FilterGuard$Steps") (T := F_Steps) (Nf := 19) hexec hb hts i_Steps t_Steps t_Steps_ok n_Steps hown hK hP hD hwf hS hj (by decide) rfl (by decide) (by decide) hlink (fun _ h9 => h9) rfl rfl rfl rfl (fun a b h => me_wRE h) (me_fRw (v := some v) (by decide) (by decide)) hdg (fun H1 locs1 a1 a2 a3 => kk H1 locs1 a1 a2 (me_wfR hwf (fun t z => by cases z; exact hv)) a3)
theorem d_Steps_take_13 : decode prog_11_method_3_code 13 = .ok (.aload_n 0, 1) := by decide +kernel
theorem d_Steps_take_14 : decode prog_11_method_3_code 14 = .ok (.getfield 44, 3) := by decide +kernel
theorem d_Steps_take_17 : decode prog_11_method_3_code 17 = .ok (.getfield 67, 3) := by decide +kernel
theorem u_269 : Cond.fieldLink "FilterGuard$Steps" 67 "FilterGuard$Code" "readsTo" "Z" ∈ fg_g := fg_in (List.mem_of_getElem? (i := 269) (by decide +kernel)) rfl
theorem g_Code_14 {p : Program} {l : Launch} {e : Env} {R : Room} {s : Jvm.State} {m : MethodId} {args : Array Value} {below : List Frame} {meth : Method} {c : Code} {H : Heap} {locs : List Loc} {cells slots : Nat} {Q : Jvm.State → Prop} {cc : ByteArray} {pc : Nat} {ls : Array Slot} {rest : List Value} {D : va_G} {ad : Nat → Nat → Nat} {ca : Nat → ClassId} {M : me_M} {N : Nat → Nat} {own : String} {index j : Nat} (hexec : p.tables.exec = Jvm.exec) (hb : c.code = cc) (hts : ∀ w ∈ fg_g, w.before args s = true) (hown : s.vm.findClass own = some m.cls) (hK : va_K D classes (me_T ca) s) (hP : va_P D classes (me_W ad ca M) H) (hwf : me_wf N M) (hj : j < N 2) (hlink : (Cond.fieldLink own index "FilterGuard$Code" "readsTo" "Z").before args s = true) (hdg : decode cc pc = .ok (.getfield index, 3)) (kk : W p l e R s m args below meth c H locs cells slots Q (F0 m (pc + 3) ls (.int (mI M 2 j 14) :: rest))) : W p l e R s m args below meth c H locs cells slots Q (F0 m pc ls (.ref (ad 2 j) :: rest)) := me_get (k := 2) (f := 14) (C := "FilterGuard$Code") (T := F_Code) (Nf := 16) hexec hb hts i_Code hown hK hP hwf hj (by decide) rfl (by decide) (by decide) hlink (fun _ h9 => h9) hdg kk
theorem d_Steps_take_20 : decode prog_11_method_3_code 20 = .ok (.ifCond .eq 25, 3) := by decide +kernel
theorem d_Steps_take_23 : decode prog_11_method_3_code 23 = .ok (.aload_n 0, 1) := by decide +kernel
theorem d_Steps_take_24 : decode prog_11_method_3_code 24 = .ok (.getfield 66, 3) := by decide +kernel
theorem d_Steps_take_27 : decode prog_11_method_3_code 27 = .ok (.aload_n 0, 1) := by decide +kernel
theorem d_Steps_take_28 : decode prog_11_method_3_code 28 = .ok (.getfield 44, 3) := by decide +kernel
theorem d_Steps_take_31 : decode prog_11_method_3_code 31 = .ok (.getfield 73, 3) := by decide +kernel
theorem d_Steps_take_34 : decode prog_11_method_3_code 34 = .ok (.aaload, 1) := by decide +kernel
theorem d_Steps_take_35 : decode prog_11_method_3_code 35 = .ok (.getfield 76, 3) := by decide +kernel
theorem d_Steps_take_38 : decode prog_11_method_3_code 38 = .ok (.ifCond .ne 7, 3) := by decide +kernel
theorem d_Steps_take_41 : decode prog_11_method_3_code 41 = .ok (.iconst 1, 1) := by decide +kernel
theorem d_Steps_take_42 : decode prog_11_method_3_code 42 = .ok (.goto 4, 3) := by decide +kernel
abbrev y_Steps_take : MethodName := ⟨"FilterGuard$Steps", "take", "(LFilterGuard$State;)I"⟩
def rm_Steps_take : Room := { frames := 7, cells := 0, slots := 0, locals := 175 }
abbrev q_Steps_take (D : va_G) (ad : Nat → Nat → Nat) (ca : Nat → ClassId) (N : Nat → Nat) (M0 MZ : me_M) (RZ : Int32) (A : Nat → Prop) : Array Value → Jvm.State → Outcome → Jvm.State → Prop := va_Qi (fun r (_ : Unit) => r = RZ ∧ me_wf N MZ ∧ me_kz M0 MZ) (fg_B D A (fun _ => me_W ad ca MZ) (fun _ => [])) A
set_option maxHeartbeats 4000000 in
set_option maxRecDepth 100000 in
theorem c_Steps_take (l : Launch) (D : va_G) (ad : Nat → Nat → Nat) (ca : Nat → ClassId) (N : Nat → Nat) (M0 MZ : me_M) (RZ : Int32) (j0 : Nat) (j1 : Nat) (h : f_Steps_take M0 j0 j1 = (some (MZ, RZ))) (hwf : me_wf N M0) (hj0 : j0 < N 7) (hj1 : j1 < N 9) (sz : Nat) : Met l y_Steps_take (fg_w y_Steps_take prog_11_method_3_code 3 (some .int)) rm_Steps_take (va_Pc [.ref (ad 7 j0), .ref (ad 9 j1)] (fz_P D (me_T ca) (me_W ad ca M0) sz)) (q_Steps_take D ad ca N M0 MZ RZ (va_A (me_W ad ca M0) sz)) rm_Steps_take.cells rm_Steps_take.slots (va_A (me_W ad ca M0) sz) := by
  refine fz_enter (fun A => q_Steps_take D ad ca N M0 MZ RZ A) (by decide +kernel) (Nat.le_of_ble_eq_true rfl) ?_
  intro p e s m below meth c ls A hx hb hml hown hts hr hlocks hin hP hK hD hS hA hX hl hz
  have hl : lv_has ls 3 [(0, .ref (ad 7 j0)), (1, .ref (ad 9 j1))] := hl
  unfold f_Steps_take at h
  have hkp : me_kz M0 M0 := me_kz.rf
  have hkb := hkp
  have b_82 : ∀ (M : me_M) (H : Heap) (locs : List Loc) (ls : Array Slot), f_Steps_take_b82 j0 M = (some (MZ, RZ)) → me_wf N M → me_kz M0 M → va_P D classes (me_W ad ca M) H → va_D A (me_W ad ca M) → va_S A s.heap H locs → lv_has ls 3 [(0, .ref (ad 7 j0))] → W p l e rm_Steps_take s m [.ref (ad 7 j0), .ref (ad 9 j1)].toArray below meth c H locs 0 0 (MQ below (q_Steps_take D ad ca N M0 MZ RZ A) [.ref (ad 7 j0), .ref (ad 9 j1)].toArray s rm_Steps_take.cells rm_Steps_take.slots A) (F0 m 82 ls []) := by
    intro M H locs ls h hwf hkp hP hD hS hl
    unfold f_Steps_take_b82 at h
    have hkb := hkp
    refine lv_aload_n hx hb d_Steps_take_82 rfl (lv_at hl 0 rfl) ?_
    refine g_Steps_0 hx hb hts hown hK hP hwf hj0 (hts _ u_455) d_Steps_take_83 ?_
    obtain ⟨j2, e3, h⟩ := bd_ob h
    have hj2 : j2 < N 2 := (hwf.2.1 7 j0 0 _ e3 (by decide) hj0)
    refine me_opt (j := j2) e3 ?_
    refine g_Code_10 hx hb hts hown hK hP hwf hj2 (hts _ u_251) d_Steps_take_86 ?_
    refine lv_topi (fun w4 ew4 => ?_)
    by_cases n5 : w4 = 1
    · have h := if_t (ew4.symm.trans n5) h
      subst n5
      refine lv_tableIn (off := 55) (tgt := 144) hx hb d_Steps_take_89 (by decide) (by decide) (by decide) (by decide) ?_
      refine lv_aload_n hx hb d_Steps_take_144 rfl (lv_at hl 0 rfl) ?_
      obtain ⟨M6, r7, eM6, h⟩ := b2_ob h
      refine me_theni0 (M1 := M6) (me_runV (C := "FilterGuard$Steps") (As := []) (rest := []) ⟨hx, hb, hml, hown, hts⟩ (c_Steps_wide l D ad ca N M M6 r7 j0 eM6 hwf hj0 _) rfl (by show fg_nm y_Steps_wide 0; decide +kernel) u_1095 u_1097 u_16 u_185 u_1098 ⟨Nat.le_of_ble_eq_true rfl, Nat.le_of_ble_eq_true rfl⟩ hX hz hK hP hD hwf hS hA hj0 (by decide) rfl rfl rfl hl.1 (Nat.le_of_ble_eq_true rfl) d_Steps_take_145 ⟨Nat.le_of_ble_eq_true rfl, Nat.le_of_ble_eq_true rfl⟩) hP hD hK hS hA rfl rfl (fun H locs hw hP hD hS => ?_)
      obtain ⟨hwf, hk9⟩ := hw
      have hkp := hkp.tr hk9.z
      exact me_reti (me_kz M0) h hx hb hr hlocks hwf hkp hP hK hD hS d_Steps_take_148
    have h := if_f (fun z => n5 (ew4.trans z)) h
    by_cases n8 : w4 = 2
    · have h := if_t (ew4.symm.trans n8) h
      subst n8
      refine lv_tableIn (off := 97) (tgt := 186) hx hb d_Steps_take_89 (by decide) (by decide) (by decide) (by decide) ?_
      refine lv_aload_n hx hb d_Steps_take_186 rfl (lv_at hl 0 rfl) ?_
      obtain ⟨M9, r10, eM9, h⟩ := b2_ob h
      refine me_theni0 (M1 := M9) (me_runV (C := "FilterGuard$Steps") (As := []) (rest := []) ⟨hx, hb, hml, hown, hts⟩ (c_Steps_memory l D ad ca N M M9 r10 j0 eM9 hwf hj0 _) rfl (by show fg_nm y_Steps_memory 0; decide +kernel) u_1382 u_1384 u_48 u_185 u_1385 ⟨Nat.le_of_ble_eq_true rfl, Nat.le_of_ble_eq_true rfl⟩ hX hz hK hP hD hwf hS hA hj0 (by decide) rfl rfl rfl hl.1 (Nat.le_of_ble_eq_true rfl) d_Steps_take_187 ⟨Nat.le_of_ble_eq_true rfl, Nat.le_of_ble_eq_true rfl⟩) hP hD hK hS hA rfl rfl (fun H locs hw hP hD hS => ?_)
      obtain ⟨hwf, hk9⟩ := hw
      have hkp := hkp.tr hk9.z
      exact me_reti (me_kz M0) h hx hb hr hlocks hwf hkp hP hK hD hS d_Steps_take_190
    have h := if_f (fun z => n8 (ew4.trans z)) h
    by_cases n11 : w4 = 3
    · have h := if_t (ew4.symm.trans n11) h
      subst n11
      refine lv_tableIn (off := 97) (tgt := 186) hx hb d_Steps_take_89 (by decide) (by decide) (by decide) (by decide) ?_
      refine lv_aload_n hx hb d_Steps_take_186 rfl (lv_at hl 0 rfl) ?_
      obtain ⟨M12, r13, eM12, h⟩ := b2_ob h
      refine me_theni0 (M1 := M12) (me_runV (C := "FilterGuard$Steps") (As := []) (rest := []) ⟨hx, hb, hml, hown, hts⟩ (c_Steps_memory l D ad ca N M M12 r13 j0 eM12 hwf hj0 _) rfl (by show fg_nm y_Steps_memory 0; decide +kernel) u_1382 u_1384 u_48 u_185 u_1385 ⟨Nat.le_of_ble_eq_true rfl, Nat.le_of_ble_eq_true rfl⟩ hX hz hK hP hD hwf hS hA hj0 (by decide) rfl rfl rfl hl.1 (Nat.le_of_ble_eq_true rfl) d_Steps_take_187 ⟨Nat.le_of_ble_eq_true rfl, Nat.le_of_ble_eq_true rfl⟩) hP hD hK hS hA rfl rfl (fun H locs hw hP hD hS => ?_)
      obtain ⟨hwf, hk9⟩ := hw
      have hkp := hkp.tr hk9.z
      exact me_reti (me_kz M0) h hx hb hr hlocks hwf hkp hP hK hD hS d_Steps_take_190
    have h := if_f (fun z => n11 (ew4.trans z)) h
    by_cases n14 : w4 = 4
    · have h := if_t (ew4.symm.trans n14) h
      subst n14
      refine lv_tableIn (off := 97) (tgt := 186) hx hb d_Steps_take_89 (by decide) (by decide) (by decide) (by decide) ?_
      refine lv_aload_n hx hb d_Steps_take_186 rfl (lv_at hl 0 rfl) ?_
      obtain ⟨M15, r16, eM15, h⟩ := b2_ob h
      refine me_theni0 (M1 := M15) (me_runV (C := "FilterGuard$Steps") (As := []) (rest := []) ⟨hx, hb, hml, hown, hts⟩ (c_Steps_memory l D ad ca N M M15 r16 j0 eM15 hwf hj0 _) rfl (by show fg_nm y_Steps_memory 0; decide +kernel) u_1382 u_1384 u_48 u_185 u_1385 ⟨Nat.le_of_ble_eq_true rfl, Nat.le_of_ble_eq_true rfl⟩ hX hz hK hP hD hwf hS hA hj0 (by decide) rfl rfl rfl hl.1 (Nat.le_of_ble_eq_true rfl) d_Steps_take_187 ⟨Nat.le_of_ble_eq_true rfl, Nat.le_of_ble_eq_true rfl⟩) hP hD hK hS hA rfl rfl (fun H locs hw hP hD hS => ?_)
      obtain ⟨hwf, hk9⟩ := hw
      have hkp := hkp.tr hk9.z
      exact me_reti (me_kz M0) h hx hb hr hlocks hwf hkp hP hK hD hS d_Steps_take_190
    have h := if_f (fun z => n14 (ew4.trans z)) h
    by_cases n17 : w4 = 5
    · have h := if_t (ew4.symm.trans n17) h
      subst n17
      refine lv_tableIn (off := 97) (tgt := 186) hx hb d_Steps_take_89 (by decide) (by decide) (by decide) (by decide) ?_
      refine lv_aload_n hx hb d_Steps_take_186 rfl (lv_at hl 0 rfl) ?_
      obtain ⟨M18, r19, eM18, h⟩ := b2_ob h
      refine me_theni0 (M1 := M18) (me_runV (C := "FilterGuard$Steps") (As := []) (rest := []) ⟨hx, hb, hml, hown, hts⟩ (c_Steps_memory l D ad ca N M M18 r19 j0 eM18 hwf hj0 _) rfl (by show fg_nm y_Steps_memory 0; decide +kernel) u_1382 u_1384 u_48 u_185 u_1385 ⟨Nat.le_of_ble_eq_true rfl, Nat.le_of_ble_eq_true rfl⟩ hX hz hK hP hD hwf hS hA hj0 (by decide) rfl rfl rfl hl.1 (Nat.le_of_ble_eq_true rfl) d_Steps_take_187 ⟨Nat.le_of_ble_eq_true rfl, Nat.le_of_ble_eq_true rfl⟩) hP hD hK hS hA rfl rfl (fun H locs hw hP hD hS => ?_)
      obtain ⟨hwf, hk9⟩ := hw
      have hkp := hkp.tr hk9.z
      exact me_reti (me_kz M0) h hx hb hr hlocks hwf hkp hP hK hD hS d_Steps_take_190
    have h := if_f (fun z => n17 (ew4.trans z)) h
    by_cases n20 : w4 = 6
    · have h := if_t (ew4.symm.trans n20) h
      subst n20
      refine lv_tableIn (off := 60) (tgt := 149) hx hb d_Steps_take_89 (by decide) (by decide) (by decide) (by decide) ?_
      refine lv_aload_n hx hb d_Steps_take_149 rfl (lv_at hl 0 rfl) ?_
      obtain ⟨M21, r22, eM21, h⟩ := b2_ob h
      refine me_theni0 (M1 := M21) (me_runV (C := "FilterGuard$Steps") (As := []) (rest := []) ⟨hx, hb, hml, hown, hts⟩ (c_Steps_arithmetic l D ad ca N M M21 r22 j0 eM21 hwf hj0 _) rfl (by show fg_nm y_Steps_arithmetic 0; decide +kernel) u_1109 u_1111 u_17 u_185 u_1112 ⟨Nat.le_of_ble_eq_true rfl, Nat.le_of_ble_eq_true rfl⟩ hX hz hK hP hD hwf hS hA hj0 (by decide) rfl rfl rfl hl.1 (Nat.le_of_ble_eq_true rfl) d_Steps_take_150 ⟨Nat.le_of_ble_eq_true rfl, Nat.le_of_ble_eq_true rfl⟩) hP hD hK hS hA rfl rfl (fun H locs hw hP hD hS => ?_)
      obtain ⟨hwf, hk9⟩ := hw
      have hkp := hkp.tr hk9.z
      exact me_reti (me_kz M0) h hx hb hr hlocks hwf hkp hP hK hD hS d_Steps_take_153
    have h := if_f (fun z => n20 (ew4.trans z)) h
    by_cases n23 : w4 = 7
    · have h := if_t (ew4.symm.trans n23) h
      subst n23
      refine lv_tableIn (off := 95) (tgt := 184) hx hb d_Steps_take_89 (by decide) (by decide) (by decide) (by decide) ?_
      refine lv_iconst (v := 0) hx hb d_Steps_take_184 (by decide) ?_
      exact me_reti (me_kz M0) h hx hb hr hlocks hwf hkp hP hK hD hS d_Steps_take_185
    have h := if_f (fun z => n23 (ew4.trans z)) h
    by_cases n24 : w4 = 8
    · have h := if_t (ew4.symm.trans n24) h
      subst n24
      refine lv_tableIn (off := 65) (tgt := 154) hx hb d_Steps_take_89 (by decide) (by decide) (by decide) (by decide) ?_
      refine lv_aload_n hx hb d_Steps_take_154 rfl (lv_at hl 0 rfl) ?_
      obtain ⟨M25, r26, eM25, h⟩ := b2_ob h
      refine me_theni0 (M1 := M25) (me_runV (C := "FilterGuard$Steps") (As := []) (rest := []) ⟨hx, hb, hml, hown, hts⟩ (c_Steps_relation l D ad ca N M M25 r26 j0 eM25 hwf hj0 _) rfl (by show fg_nm y_Steps_relation 0; decide +kernel) u_1271 u_1273 u_29 u_185 u_1274 ⟨Nat.le_of_ble_eq_true rfl, Nat.le_of_ble_eq_true rfl⟩ hX hz hK hP hD hwf hS hA hj0 (by decide) rfl rfl rfl hl.1 (Nat.le_of_ble_eq_true rfl) d_Steps_take_155 ⟨Nat.le_of_ble_eq_true rfl, Nat.le_of_ble_eq_true rfl⟩) hP hD hK hS hA rfl rfl (fun H locs hw hP hD hS => ?_)
      obtain ⟨hwf, hk9⟩ := hw
      have hkp := hkp.tr hk9.z
      exact me_reti (me_kz M0) h hx hb hr hlocks hwf hkp hP hK hD hS d_Steps_take_158
    have h := if_f (fun z => n24 (ew4.trans z)) h
    by_cases n27 : w4 = 9
    · have h := if_t (ew4.symm.trans n27) h
      subst n27
      refine lv_tableIn (off := 70) (tgt := 159) hx hb d_Steps_take_89 (by decide) (by decide) (by decide) (by decide) ?_
      refine lv_aload_n hx hb d_Steps_take_159 rfl (lv_at hl 0 rfl) ?_
      obtain ⟨M28, r29, eM28, h⟩ := b2_ob h
      refine me_theni0 (M1 := M28) (me_runV (C := "FilterGuard$Steps") (As := []) (rest := []) ⟨hx, hb, hml, hown, hts⟩ (c_Steps_help l D ad ca N M M28 r29 j0 eM28 hwf hj0 _) rfl (by show fg_nm y_Steps_help 0; decide +kernel) u_1338 u_1340 u_42 u_185 u_1341 ⟨Nat.le_of_ble_eq_true rfl, Nat.le_of_ble_eq_true rfl⟩ hX hz hK hP hD hwf hS hA hj0 (by decide) rfl rfl rfl hl.1 (Nat.le_of_ble_eq_true rfl) d_Steps_take_160 ⟨Nat.le_of_ble_eq_true rfl, Nat.le_of_ble_eq_true rfl⟩) hP hD hK hS hA rfl rfl (fun H locs hw hP hD hS => ?_)
      obtain ⟨hwf, hk9⟩ := hw
      have hkp := hkp.tr hk9.z
      exact me_reti (me_kz M0) h hx hb hr hlocks hwf hkp hP hK hD hS d_Steps_take_163
    have h := if_f (fun z => n27 (ew4.trans z)) h
    by_cases n30 : w4 = 10
    · have h := if_t (ew4.symm.trans n30) h
      subst n30
      refine lv_tableIn (off := 75) (tgt := 164) hx hb d_Steps_take_89 (by decide) (by decide) (by decide) (by decide) ?_
      refine lv_aload_n hx hb d_Steps_take_164 rfl (lv_at hl 0 rfl) ?_
      refine g_Steps_5 hx hb hts hown hK hP hwf hj0 (hts _ u_460) d_Steps_take_165 ?_
      obtain ⟨j31, e32, h⟩ := bd_ob h
      have hj31 : j31 < N 18 := (hwf.2.1 7 j0 5 _ e32 (by decide) hj0)
      refine me_opt (j := j31) e32 ?_
      refine lv_iconst (v := 0) hx hb d_Steps_take_168 (by decide) ?_
      obtain ⟨g33, h⟩ := gd_ob h
      refine me_aald (k := 18) (t := 10) hx hb hK hP hwf hj31 (by decide) (by decide) rfl (fun _ => rfl) (me_in (i := (0 : Int32)) (k := 0) (by decide) (by decide) g33) d_Steps_take_169 ?_
      rw [show (0 : Int32).toNatClampNeg = 0 by decide]
      obtain ⟨j34, e35, h⟩ := bd_ob h
      have hj34 : j34 < N 10 := (hwf.2.1 18 j31 0 _ e35 (by decide) hj31)
      refine me_opt (j := j34) e35 ?_
      refine g_Cell_0 hx hb hts hown hK hP hwf hj34 (hts _ u_422) d_Steps_take_170 ?_
      refine lv_iconst (v := 1) hx hb d_Steps_take_173 (by decide) ?_
      refine lv_icmp_ne (tgt := 181) hx hb d_Steps_take_174 (by decide) (fun c36 => ?_) (fun c36 => ?_)
      · have h := if_f c36 h
        refine lv_bipush (v := 18) hx hb d_Steps_take_181 (by decide) ?_
        exact me_reti (me_kz M0) h hx hb hr hlocks hwf hkp hP hK hD hS d_Steps_take_183
      have h := if_t c36 h
      refine lv_iconst (v := 0) hx hb d_Steps_take_177 (by decide) ?_
      refine lv_goto (tgt := 183) hx hb d_Steps_take_178 (by decide) ?_
      exact me_reti (me_kz M0) h hx hb hr hlocks hwf hkp hP hK hD hS d_Steps_take_183
    have h := if_f (fun z => n30 (ew4.trans z)) h
    have in5 := lv_neT n5 (show (1 : Int32).toInt = 1 from rfl)
    have in8 := lv_neT n8 (show (2 : Int32).toInt = 2 from rfl)
    have in11 := lv_neT n11 (show (3 : Int32).toInt = 3 from rfl)
    have in14 := lv_neT n14 (show (4 : Int32).toInt = 4 from rfl)
    have in17 := lv_neT n17 (show (5 : Int32).toInt = 5 from rfl)
    have in20 := lv_neT n20 (show (6 : Int32).toInt = 6 from rfl)
    have in23 := lv_neT n23 (show (7 : Int32).toInt = 7 from rfl)
    have in24 := lv_neT n24 (show (8 : Int32).toInt = 8 from rfl)
    have in27 := lv_neT n27 (show (9 : Int32).toInt = 9 from rfl)
    have in30 := lv_neT n30 (show (10 : Int32).toInt = 10 from rfl)
    refine lv_tableOut (tgt := 186) hx hb d_Steps_take_89 (by omega) (by decide) ?_
    refine lv_aload_n hx hb d_Steps_take_186 rfl (lv_at hl 0 rfl) ?_
    obtain ⟨M37, r38, eM37, h⟩ := b2_ob h
    refine me_theni0 (M1 := M37) (me_runV (C := "FilterGuard$Steps") (As := []) (rest := []) ⟨hx, hb, hml, hown, hts⟩ (c_Steps_memory l D ad ca N M M37 r38 j0 eM37 hwf hj0 _) rfl (by show fg_nm y_Steps_memory 0; decide +kernel) u_1382 u_1384 u_48 u_185 u_1385 ⟨Nat.le_of_ble_eq_true rfl, Nat.le_of_ble_eq_true rfl⟩ hX hz hK hP hD hwf hS hA hj0 (by decide) rfl rfl rfl hl.1 (Nat.le_of_ble_eq_true rfl) d_Steps_take_187 ⟨Nat.le_of_ble_eq_true rfl, Nat.le_of_ble_eq_true rfl⟩) hP hD hK hS hA rfl rfl (fun H locs hw hP hD hS => ?_)
    obtain ⟨hwf, hk9⟩ := hw
    have hkp := hkp.tr hk9.z
    exact me_reti (me_kz M0) h hx hb hr hlocks hwf hkp hP hK hD hS d_Steps_take_190
  have b_46 : ∀ (M : me_M) (s0 : Int32) (H : Heap) (locs : List Loc) (ls : Array Slot), f_Steps_take_b46 j0 M s0 = (some (MZ, RZ)) → (s0 = 1 ∨ s0 = 0) → me_wf N M → me_kz M0 M → va_P D classes (me_W ad ca M) H → va_D A (me_W ad ca M) → va_S A s.heap H locs → lv_has ls 3 [(0, .ref (ad 7 j0))] → W p l e rm_Steps_take s m [.ref (ad 7 j0), .ref (ad 9 j1)].toArray below meth c H locs 0 0 (MQ below (q_Steps_take D ad ca N M0 MZ RZ A) [.ref (ad 7 j0), .ref (ad 9 j1)].toArray s rm_Steps_take.cells rm_Steps_take.slots A) (F0 m 46 ls [.int s0]) := by
    intro M s0 H locs ls h zs0 hwf hkp hP hD hS hl
    unfold f_Steps_take_b46 at h
    have hkb := hkp
    refine lv_istore_n (lv' := [(2, .int s0), (0, .ref (ad 7 j0))]) hx hb d_Steps_take_46 rfl hl (by decide) rfl (fun ls hl => ?_)
    refine lv_iload_n hx hb d_Steps_take_47 rfl (lv_at hl 0 rfl) ?_
    refine lv_if_ne (tgt := 79) hx hb d_Steps_take_48 (by decide) (fun c39 => ?_) (fun c39 => ?_)
    · have h := if_f c39 h
      refine lv_bipush (v := 10) hx hb d_Steps_take_79 (by decide) ?_
      exact me_reti (me_kz M0) h hx hb hr hlocks hwf hkp hP hK hD hS d_Steps_take_81
    have h := if_t c39 h
    refine lv_aload_n hx hb d_Steps_take_51 rfl (lv_at hl 1 rfl) ?_
    refine g_Steps_0 hx hb hts hown hK hP hwf hj0 (hts _ u_455) d_Steps_take_52 ?_
    obtain ⟨j40, e41, h⟩ := bd_ob h
    have hj40 : j40 < N 2 := (hwf.2.1 7 j0 0 _ e41 (by decide) hj0)
    refine me_opt (j := j40) e41 ?_
    refine g_Code_15 hx hb hts hown hK hP hwf hj40 (hts _ u_272) d_Steps_take_55 ?_
    have z42 := (hwf.2.2.2 2 j40 15 rfl)
    refine lv_if_eq (tgt := 82) hx hb d_Steps_take_58 (by decide) (fun c43 => ?_) (fun c43 => ?_)
    · have h := if_t c43 h
      exact b_82 M _ _ _ h hwf hkp hP hD hS (lv_sub hl [1] rfl)
    have h := if_f c43 h
    refine lv_aload_n hx hb d_Steps_take_61 rfl (lv_at hl 1 rfl) ?_
    refine g_Steps_5 hx hb hts hown hK hP hwf hj0 (hts _ u_460) d_Steps_take_62 ?_
    obtain ⟨j44, e45, h⟩ := bd_ob h
    have hj44 : j44 < N 18 := (hwf.2.1 7 j0 5 _ e45 (by decide) hj0)
    refine me_opt (j := j44) e45 ?_
    refine lv_aload_n hx hb d_Steps_take_65 rfl (lv_at hl 1 rfl) ?_
    refine g_Steps_0 hx hb hts hown hK hP hwf hj0 (hts _ u_455) d_Steps_take_66 ?_
    refine me_opt (j := j40) e41 ?_
    refine g_Code_7 hx hb hts hown hK hP hwf hj40 (hts _ u_239) d_Steps_take_69 ?_
    obtain ⟨g46, h⟩ := gd_ob h
    refine me_aald (k := 18) (t := 10) hx hb hK hP hwf hj44 (by decide) (by decide) rfl (fun _ => rfl) g46 d_Steps_take_72 ?_
    obtain ⟨j47, e48, h⟩ := bd_ob h
    have hj47 : j47 < N 10 := (hwf.2.1 18 j44 ((mI M 2 j40 7).toNatClampNeg) _ e48 (by decide) hj44)
    refine me_opt (j := j47) e48 ?_
    refine g_Cell_0 hx hb hts hown hK hP hwf hj47 (hts _ u_422) d_Steps_take_73 ?_
    refine lv_if_ne (tgt := 82) hx hb d_Steps_take_76 (by decide) (fun c49 => ?_) (fun c49 => ?_)
    · have h := if_f c49 h
      exact b_82 M _ _ _ h hwf hkp hP hD hS (lv_sub hl [1] rfl)
    have h := if_t c49 h
    refine lv_bipush (v := 10) hx hb d_Steps_take_79 (by decide) ?_
    exact me_reti (me_kz M0) h hx hb hr hlocks hwf hkp hP hK hD hS d_Steps_take_81
  have b_45 : ∀ (M : me_M) (H : Heap) (locs : List Loc) (ls : Array Slot), f_Steps_take_b45 j0 M = (some (MZ, RZ)) → me_wf N M → me_kz M0 M → va_P D classes (me_W ad ca M) H → va_D A (me_W ad ca M) → va_S A s.heap H locs → lv_has ls 3 [(0, .ref (ad 7 j0))] → W p l e rm_Steps_take s m [.ref (ad 7 j0), .ref (ad 9 j1)].toArray below meth c H locs 0 0 (MQ below (q_Steps_take D ad ca N M0 MZ RZ A) [.ref (ad 7 j0), .ref (ad 9 j1)].toArray s rm_Steps_take.cells rm_Steps_take.slots A) (F0 m 45 ls []) := by
    intro M H locs ls h hwf hkp hP hD hS hl
    unfold f_Steps_take_b45 at h
    have hkb := hkp
    refine lv_iconst (v := 0) hx hb d_Steps_take_45 (by decide) ?_
    exact b_46 M (0 : Int32) _ _ _ h (by decide) hwf hkp hP hD hS (lv_sub hl [0] rfl)
  refine lv_aload_n hx hb d_Steps_take_0 rfl (lv_at hl 0 rfl) ?_
  refine lv_aload_n hx hb d_Steps_take_1 rfl (lv_at hl 1 rfl) ?_
  obtain ⟨M50, eM50, h⟩ := st_ob h
  refine p_Steps_6 eM50 hx hb hts hown hK hP hD hwf hS hj0 hj1 (hts _ u_461) d_Steps_take_2 (fun H locs hP hD hwf hS => ?_)
  have hkp := kz_R eM50 hkp
  refine lv_aload_n hx hb d_Steps_take_5 rfl (lv_at hl 0 rfl) ?_
  refine lv_aload_n hx hb d_Steps_take_6 rfl (lv_at hl 1 rfl) ?_
  refine g_State_0 hx hb hts hown hK hP hwf hj1 (hts _ u_525) d_Steps_take_7 ?_
  obtain ⟨j51, e52, h⟩ := bd_ob h
  have hj51 : j51 < N 18 := (hwf.2.1 9 j1 0 _ e52 (by decide) hj1)
  refine me_opt (j := j51) e52 ?_
  obtain ⟨M53, eM53, h⟩ := st_ob h
  refine p_Steps_5 eM53 hx hb hts hown hK hP hD hwf hS hj0 hj51 (hts _ u_460) d_Steps_take_10 (fun H locs hP hD hwf hS => ?_)
  have hkp := kz_R eM53 hkp
  refine lv_aload_n hx hb d_Steps_take_13 rfl (lv_at hl 0 rfl) ?_
  refine g_Steps_0 hx hb hts hown hK hP hwf hj0 (hts _ u_455) d_Steps_take_14 ?_
  obtain ⟨j54, e55, h⟩ := bd_ob h
  have hj54 : j54 < N 2 := (hwf.2.1 7 j0 0 _ e55 (by decide) hj0)
  refine me_opt (j := j54) e55 ?_
  refine g_Code_14 hx hb hts hown hK hP hwf hj54 (hts _ u_269) d_Steps_take_17 ?_
  have z56 := (hwf.2.2.2 2 j54 14 rfl)
  refine lv_if_eq (tgt := 45) hx hb d_Steps_take_20 (by decide) (fun c57 => ?_) (fun c57 => ?_)
  · have h := if_t c57 h
    exact b_45 M53 _ _ _ h hwf hkp hP hD hS (lv_sub hl [0] rfl)
  have h := if_f c57 h
  refine lv_aload_n hx hb d_Steps_take_23 rfl (lv_at hl 0 rfl) ?_
  refine g_Steps_5 hx hb hts hown hK hP hwf hj0 (hts _ u_460) d_Steps_take_24 ?_
  obtain ⟨j58, e59, h⟩ := bd_ob h
  have hj58 : j58 < N 18 := (hwf.2.1 7 j0 5 _ e59 (by decide) hj0)
  refine me_opt (j := j58) e59 ?_
  refine lv_aload_n hx hb d_Steps_take_27 rfl (lv_at hl 0 rfl) ?_
  refine g_Steps_0 hx hb hts hown hK hP hwf hj0 (hts _ u_455) d_Steps_take_28 ?_
  refine me_opt (j := j54) e55 ?_
  refine g_Code_6 hx hb hts hown hK hP hwf hj54 (hts _ u_232) d_Steps_take_31 ?_
  obtain ⟨g60, h⟩ := gd_ob h
  refine me_aald (k := 18) (t := 10) hx hb hK hP hwf hj58 (by decide) (by decide) rfl (fun _ => rfl) (kp_z hkb hkp g60) d_Steps_take_34 ?_
  obtain ⟨j61, e62, h⟩ := bd_ob h
  have hj61 : j61 < N 10 := (hwf.2.1 18 j58 ((mI M53 2 j54 6).toNatClampNeg) _ e62 (by decide) hj58)
  refine me_opt (j := j61) e62 ?_
  refine g_Cell_0 hx hb hts hown hK hP hwf hj61 (hts _ u_422) d_Steps_take_35 ?_
  refine lv_if_ne (tgt := 45) hx hb d_Steps_take_38 (by decide) (fun c63 => ?_) (fun c63 => ?_)
  · have h := if_f c63 h
    exact b_45 M53 _ _ _ h hwf hkp hP hD hS (lv_sub hl [0] rfl)
  have h := if_t c63 h
  refine lv_iconst (v := 1) hx hb d_Steps_take_41 (by decide) ?_
  refine lv_goto (tgt := 46) hx hb d_Steps_take_42 (by decide) ?_
  exact b_46 M53 (1 : Int32) _ _ _ h (by decide) hwf hkp hP hD hS (lv_sub hl [0] rfl)
