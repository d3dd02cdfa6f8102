theorem d_M_operate_36 : decode prog_14_method_41_code 36 = .ok (.aload_n 0, 1) := by decide +kernel
theorem d_M_operate_37 : decode prog_14_method_41_code 37 = .ok (.iload_n 2, 1) := by decide +kernel
theorem d_M_operate_38 : decode prog_14_method_41_code 38 = .ok (.iload 5, 2) := by decide +kernel
theorem d_M_operate_40 : decode prog_14_method_41_code 40 = .ok (.invokevirtual 294, 3) := by decide +kernel
theorem u_2324 : Cond.methodLink "FilterGuardModel" 294 ⟨"FilterGuardModel", "does", "(IZ)V"⟩ ∈ fg_g := fg_in (List.mem_of_getElem? (i := 2324) (by decide +kernel)) rfl
theorem u_2327 : Cond.code ⟨"FilterGuardModel", "does", "(IZ)V"⟩ prog_14_method_31_code 3 none ∈ fg_g := fg_in (List.mem_of_getElem? (i := 2327) (by decide +kernel)) rfl
theorem u_2326 : Cond.instanceMethod ⟨"FilterGuardModel", "does", "(IZ)V"⟩ ∈ fg_g := fg_in (List.mem_of_getElem? (i := 2326) (by decide +kernel)) rfl
theorem u_152 : Cond.selects "FilterGuardModel" ⟨"FilterGuardModel", "does", "(IZ)V"⟩ ⟨"FilterGuardModel", "does", "(IZ)V"⟩ ∈ fg_g := fg_in (List.mem_of_getElem? (i := 152) (by decide +kernel)) rfl
theorem d_M_operate_43 : decode prog_14_method_41_code 43 = .ok (.iload 5, 2) := by decide +kernel
theorem d_M_operate_45 : decode prog_14_method_41_code 45 = .ok (.ifCond .eq 10, 3) := by decide +kernel
theorem d_M_operate_55 : decode prog_14_method_41_code 55 = .ok (.aload_n 0, 1) := by decide +kernel
theorem d_M_operate_56 : decode prog_14_method_41_code 56 = .ok (.sipush 30077, 3) := by decide +kernel
theorem d_M_operate_59 : decode prog_14_method_41_code 59 = .ok (.iload_n 1, 1) := by decide +kernel
theorem d_M_operate_60 : decode prog_14_method_41_code 60 = .ok (.invokevirtual 208, 3) := by decide +kernel
theorem d_M_operate_63 : decode prog_14_method_41_code 63 = .ok (.return_, 1) := by decide +kernel
theorem d_M_operate_48 : decode prog_14_method_41_code 48 = .ok (.aload_n 0, 1) := by decide +kernel
theorem d_M_operate_49 : decode prog_14_method_41_code 49 = .ok (.sipush 30077, 3) := by decide +kernel
theorem d_M_operate_52 : decode prog_14_method_41_code 52 = .ok (.invokevirtual 291, 3) := by decide +kernel
theorem u_2231 : Cond.methodLink "FilterGuardModel" 291 ⟨"FilterGuardModel", "narrow", "(I)V"⟩ ∈ fg_g := fg_in (List.mem_of_getElem? (i := 2231) (by decide +kernel)) rfl
theorem u_2234 : Cond.code ⟨"FilterGuardModel", "narrow", "(I)V"⟩ prog_14_method_32_code 12 none ∈ fg_g := fg_in (List.mem_of_getElem? (i := 2234) (by decide +kernel)) rfl
theorem u_2233 : Cond.instanceMethod ⟨"FilterGuardModel", "narrow", "(I)V"⟩ ∈ fg_g := fg_in (List.mem_of_getElem? (i := 2233) (by decide +kernel)) rfl
theorem u_131 : Cond.selects "FilterGuardModel" ⟨"FilterGuardModel", "narrow", "(I)V"⟩ ⟨"FilterGuardModel", "narrow", "(I)V"⟩ ∈ fg_g := fg_in (List.mem_of_getElem? (i := 131) (by decide +kernel)) rfl
theorem d_M_operate_0 : decode prog_14_method_41_code 0 = .ok (.aload_n 0, 1) := by decide +kernel
theorem d_M_operate_1 : decode prog_14_method_41_code 1 = .ok (.iload_n 3, 1) := by decide +kernel
theorem d_M_operate_2 : decode prog_14_method_41_code 2 = .ok (.sipush 30075, 3) := by decide +kernel
theorem d_M_operate_5 : decode prog_14_method_41_code 5 = .ok (.invokevirtual 208, 3) := by decide +kernel
theorem d_M_operate_8 : decode prog_14_method_41_code 8 = .ok (.aload_n 0, 1) := by decide +kernel
theorem d_M_operate_9 : decode prog_14_method_41_code 9 = .ok (.iload 4, 2) := by decide +kernel
theorem d_M_operate_11 : decode prog_14_method_41_code 11 = .ok (.sipush 30076, 3) := by decide +kernel
theorem d_M_operate_14 : decode prog_14_method_41_code 14 = .ok (.invokevirtual 208, 3) := by decide +kernel
theorem d_M_operate_17 : decode prog_14_method_41_code 17 = .ok (.iload 5, 2) := by decide +kernel
theorem d_M_operate_19 : decode prog_14_method_41_code 19 = .ok (.ifCond .eq 17, 3) := by decide +kernel
theorem d_M_operate_22 : decode prog_14_method_41_code 22 = .ok (.aload_n 0, 1) := by decide +kernel
theorem d_M_operate_23 : decode prog_14_method_41_code 23 = .ok (.sipush 30075, 3) := by decide +kernel
theorem d_M_operate_26 : decode prog_14_method_41_code 26 = .ok (.invokevirtual 291, 3) := by decide +kernel
theorem d_M_operate_29 : decode prog_14_method_41_code 29 = .ok (.aload_n 0, 1) := by decide +kernel
theorem d_M_operate_30 : decode prog_14_method_41_code 30 = .ok (.sipush 30076, 3) := by decide +kernel
theorem d_M_operate_33 : decode prog_14_method_41_code 33 = .ok (.invokevirtual 291, 3) := by decide +kernel
abbrev y_M_operate : MethodName := ⟨"FilterGuardModel", "operate", "(IIIIZ)V"⟩
def rm_M_operate : Room := { frames := 6, cells := 0, slots := 0, locals := 141 }
abbrev q_M_operate (D : va_G) (ad : Nat → Nat → Nat) (ca : Nat → ClassId) (N : Nat → Nat) (M0 MZ : me_M) (A : Nat → Prop) : Array Value → Jvm.State → Outcome → Jvm.State → Prop := va_Qv (fun (_ : Unit) => me_wf N MZ ∧ me_kp M0 MZ) (fg_B D A (fun _ => me_W ad ca MZ) (fun _ => [])) A
set_option maxHeartbeats 4000000 in
set_option maxRecDepth 100000 in
theorem c_M_operate (l : Launch) (D : va_G) (ad : Nat → Nat → Nat) (ca : Nat → ClassId) (N : Nat → Nat) (M0 MZ : me_M) (j0 : Nat) (x1 : Int32) (x2 : Int32) (x3 : Int32) (x4 : Int32) (x5 : Int32) (h : f_M_operate M0 j0 x1 x2 x3 x4 x5 = (some MZ)) (hwf : me_wf N M0) (hj0 : j0 < N 1) (zx5 : x5 = 1 ∨ x5 = 0) (sz : Nat) : Met l y_M_operate (fg_w y_M_operate prog_14_method_41_code 6 none) rm_M_operate (va_Pc [.ref (ad 1 j0), .int x1, .int x2, .int x3, .int x4, .int x5] (fz_P D (me_T ca) (me_W ad ca M0) sz)) (q_M_operate D ad ca N M0 MZ (va_A (me_W ad ca M0) sz)) rm_M_operate.cells rm_M_operate.slots (va_A (me_W ad ca M0) sz) := by
  refine fz_enter (fun A => q_M_operate D ad ca N M0 MZ A) (by decide +kernel) (Nat.le_of_ble_eq_true rfl) ?_
  intro p e s m below meth c ls A hx hb hml hown hts hr hlocks hin hP hK hD hS hA hX hl hz
  have hl : lv_has ls 6 [(0, .ref (ad 1 j0)), (1, .int x1), (2, .int x2), (3, .int x3), (4, .int x4), (5, .int x5)] := hl
  unfold f_M_operate at h
  have hkp : me_kp M0 M0 := me_kp.rf
  have hkb := hkp
  have b_36 : ∀ (M : me_M) (H : Heap) (locs : List Loc) (ls : Array Slot), f_M_operate_b36 j0 x1 x2 x5 M = (some MZ) → me_wf N M → me_kp M0 M → va_P D classes (me_W ad ca M) H → va_D A (me_W ad ca M) → va_S A s.heap H locs → lv_has ls 6 [(0, .ref (ad 1 j0)), (1, .int x1), (2, .int x2), (5, .int x5)] → W p l e rm_M_operate s m [.ref (ad 1 j0), .int x1, .int x2, .int x3, .int x4, .int x5].toArray below meth c H locs 0 0 (MQ below (q_M_operate D ad ca N M0 MZ A) [.ref (ad 1 j0), .int x1, .int x2, .int x3, .int x4, .int x5].toArray s rm_M_operate.cells rm_M_operate.slots A) (F0 m 36 ls []) := by
    intro M H locs ls h hwf hkp hP hD hS hl
    unfold f_M_operate_b36 at h
    have hkb := hkp
    refine lv_aload_n hx hb d_M_operate_36 rfl (lv_at hl 0 rfl) ?_
    refine lv_iload_n hx hb d_M_operate_37 rfl (lv_at hl 2 rfl) ?_
    refine lv_iload hx hb d_M_operate_38 (lv_at hl 3 rfl) ?_
    obtain ⟨M1, eM1, h⟩ := bd_ob h
    refine me_thenv0 (M1 := M1) (me_runV (C := "FilterGuardModel") (As := [.int x2, .int x5]) (rest := []) ⟨hx, hb, hml, hown, hts⟩ (c_M_does1 l D ad ca N M M1 j0 x2 x5 eM1 hwf hj0 zx5 _) rfl (by show fg_nm y_M_does1 2; decide +kernel) u_2324 u_2326 u_152 u_192 u_2327 ⟨Nat.le_of_ble_eq_true rfl, Nat.le_of_ble_eq_true rfl⟩ hX hz hK hP hD hwf hS hA hj0 (by decide) rfl rfl rfl hl.1 (Nat.le_of_ble_eq_true rfl) d_M_operate_40 ⟨Nat.le_of_ble_eq_true rfl, Nat.le_of_ble_eq_true rfl⟩) hP hD hK hS hA rfl rfl (fun H locs hw hP hD hS => ?_)
    obtain ⟨hwf, hk9⟩ := hw
    have hkp := hkp.tr hk9
    refine lv_iload hx hb d_M_operate_43 (lv_at hl 3 rfl) ?_
    refine lv_if_eq (tgt := 55) hx hb d_M_operate_45 (by decide) (fun c2 => ?_) (fun c2 => ?_)
    · have h := if_t c2 h
      refine lv_aload_n hx hb d_M_operate_55 rfl (lv_at hl 0 rfl) ?_
      refine lv_sipush (v := 30077) hx hb d_M_operate_56 (by decide) ?_
      refine lv_iload_n hx hb d_M_operate_59 rfl (lv_at hl 1 rfl) ?_
      obtain ⟨M3, eM3, h⟩ := bd_ob h
      refine me_thenv0 (M1 := M3) (me_runV (C := "FilterGuardModel") (As := [.int 30077, .int x1]) (rest := []) ⟨hx, hb, hml, hown, hts⟩ (c_M_copyNumber l D ad ca N M1 M3 j0 (30077 : Int32) x1 eM3 hwf hj0 _) rfl (by show fg_nm y_M_copyNumber 2; decide +kernel) u_2096 u_2098 u_103 u_192 u_2099 ⟨Nat.le_of_ble_eq_true rfl, Nat.le_of_ble_eq_true rfl⟩ hX hz hK hP hD hwf hS hA hj0 (by decide) rfl rfl rfl hl.1 (Nat.le_of_ble_eq_true rfl) d_M_operate_60 ⟨Nat.le_of_ble_eq_true rfl, Nat.le_of_ble_eq_true rfl⟩) hP hD hK hS hA rfl rfl (fun H locs hw hP hD hS => ?_)
      obtain ⟨hwf, hk9⟩ := hw
      have hkp := hkp.tr hk9
      exact me_retv (me_kp M0) h hx hb hr hlocks hwf hkp hP hK hD hS d_M_operate_63
    have h := if_f c2 h
    refine lv_aload_n hx hb d_M_operate_48 rfl (lv_at hl 0 rfl) ?_
    refine lv_sipush (v := 30077) hx hb d_M_operate_49 (by decide) ?_
    obtain ⟨M4, eM4, h⟩ := bd_ob h
    refine me_thenv0 (M1 := M4) (me_runV (C := "FilterGuardModel") (As := [.int 30077]) (rest := []) ⟨hx, hb, hml, hown, hts⟩ (c_M_narrow l D ad ca N M1 M4 j0 (30077 : Int32) eM4 hwf hj0 _) rfl (by show fg_nm y_M_narrow 1; decide +kernel) u_2231 u_2233 u_131 u_192 u_2234 ⟨Nat.le_of_ble_eq_true rfl, Nat.le_of_ble_eq_true rfl⟩ hX hz hK hP hD hwf hS hA hj0 (by decide) rfl rfl rfl hl.1 (Nat.le_of_ble_eq_true rfl) d_M_operate_52 ⟨Nat.le_of_ble_eq_true rfl, Nat.le_of_ble_eq_true rfl⟩) hP hD hK hS hA rfl rfl (fun H locs hw hP hD hS => ?_)
    obtain ⟨hwf, hk9⟩ := hw
    have hkp := hkp.tr hk9
    refine lv_aload_n hx hb d_M_operate_55 rfl (lv_at hl 0 rfl) ?_
    refine lv_sipush (v := 30077) hx hb d_M_operate_56 (by decide) ?_
    refine lv_iload_n hx hb d_M_operate_59 rfl (lv_at hl 1 rfl) ?_
    obtain ⟨M5, eM5, h⟩ := bd_ob h
    refine me_thenv0 (M1 := M5) (me_runV (C := "FilterGuardModel") (As := [.int 30077, .int x1]) (rest := []) ⟨hx, hb, hml, hown, hts⟩ (c_M_copyNumber l D ad ca N M4 M5 j0 (30077 : Int32) x1 eM5 hwf hj0 _) rfl (by show fg_nm y_M_copyNumber 2; decide +kernel) u_2096 u_2098 u_103 u_192 u_2099 ⟨Nat.le_of_ble_eq_true rfl, Nat.le_of_ble_eq_true rfl⟩ hX hz hK hP hD hwf hS hA hj0 (by decide) rfl rfl rfl hl.1 (Nat.le_of_ble_eq_true rfl) d_M_operate_60 ⟨Nat.le_of_ble_eq_true rfl, Nat.le_of_ble_eq_true rfl⟩) hP hD hK hS hA rfl rfl (fun H locs hw hP hD hS => ?_)
    obtain ⟨hwf, hk9⟩ := hw
    have hkp := hkp.tr hk9
    exact me_retv (me_kp M0) h hx hb hr hlocks hwf hkp hP hK hD hS d_M_operate_63
  refine lv_aload_n hx hb d_M_operate_0 rfl (lv_at hl 0 rfl) ?_
  refine lv_iload_n hx hb d_M_operate_1 rfl (lv_at hl 3 rfl) ?_
  refine lv_sipush (v := 30075) hx hb d_M_operate_2 (by decide) ?_
  obtain ⟨M6, eM6, h⟩ := bd_ob h
  refine me_thenv0 (M1 := M6) (me_runV (C := "FilterGuardModel") (As := [.int x3, .int 30075]) (rest := []) ⟨hx, hb, hml, hown, hts⟩ (c_M_copyNumber l D ad ca N M0 M6 j0 x3 (30075 : Int32) eM6 hwf hj0 _) rfl (by show fg_nm y_M_copyNumber 2; decide +kernel) u_2096 u_2098 u_103 u_192 u_2099 ⟨Nat.le_of_ble_eq_true rfl, Nat.le_of_ble_eq_true rfl⟩ hX hz hK hP hD hwf hS hA hj0 (by decide) rfl rfl rfl hl.1 (Nat.le_of_ble_eq_true rfl) d_M_operate_5 ⟨Nat.le_of_ble_eq_true rfl, Nat.le_of_ble_eq_true rfl⟩) hP hD hK hS hA rfl rfl (fun H locs hw hP hD hS => ?_)
  obtain ⟨hwf, hk9⟩ := hw
  have hkp := hkp.tr hk9
  refine lv_aload_n hx hb d_M_operate_8 rfl (lv_at hl 0 rfl) ?_
  refine lv_iload hx hb d_M_operate_9 (lv_at hl 4 rfl) ?_
  refine lv_sipush (v := 30076) hx hb d_M_operate_11 (by decide) ?_
  obtain ⟨M7, eM7, h⟩ := bd_ob h
  refine me_thenv0 (M1 := M7) (me_runV (C := "FilterGuardModel") (As := [.int x4, .int 30076]) (rest := []) ⟨hx, hb, hml, hown, hts⟩ (c_M_copyNumber l D ad ca N M6 M7 j0 x4 (30076 : Int32) eM7 hwf hj0 _) rfl (by show fg_nm y_M_copyNumber 2; decide +kernel) u_2096 u_2098 u_103 u_192 u_2099 ⟨Nat.le_of_ble_eq_true rfl, Nat.le_of_ble_eq_true rfl⟩ hX hz hK hP hD hwf hS hA hj0 (by decide) rfl rfl rfl hl.1 (Nat.le_of_ble_eq_true rfl) d_M_operate_14 ⟨Nat.le_of_ble_eq_true rfl, Nat.le_of_ble_eq_true rfl⟩) hP hD hK hS hA rfl rfl (fun H locs hw hP hD hS => ?_)
  obtain ⟨hwf, hk9⟩ := hw
  have hkp := hkp.tr hk9
  refine lv_iload hx hb d_M_operate_17 (lv_at hl 5 rfl) ?_
  refine lv_if_eq (tgt := 36) hx hb d_M_operate_19 (by decide) (fun c8 => ?_) (fun c8 => ?_)
  · have h := if_t c8 h
    exact b_36 M7 _ _ _ h hwf hkp hP hD hS (lv_sub hl [0, 1, 2, 5] rfl)
  have h := if_f c8 h
  refine lv_aload_n hx hb d_M_operate_22 rfl (lv_at hl 0 rfl) ?_
  refine lv_sipush (v := 30075) hx hb d_M_operate_23 (by decide) ?_
  obtain ⟨M9, eM9, h⟩ := bd_ob h
  refine me_thenv0 (M1 := M9) (me_runV (C := "FilterGuardModel") (As := [.int 30075]) (rest := []) ⟨hx, hb, hml, hown, hts⟩ (c_M_narrow l D ad ca N M7 M9 j0 (30075 : Int32) eM9 hwf hj0 _) rfl (by show fg_nm y_M_narrow 1; decide +kernel) u_2231 u_2233 u_131 u_192 u_2234 ⟨Nat.le_of_ble_eq_true rfl, Nat.le_of_ble_eq_true rfl⟩ hX hz hK hP hD hwf hS hA hj0 (by decide) rfl rfl rfl hl.1 (Nat.le_of_ble_eq_true rfl) d_M_operate_26 ⟨Nat.le_of_ble_eq_true rfl, Nat.le_of_ble_eq_true rfl⟩) hP hD hK hS hA rfl rfl (fun H locs hw hP hD hS => ?_)
  obtain ⟨hwf, hk9⟩ := hw
  have hkp := hkp.tr hk9
  refine lv_aload_n hx hb d_M_operate_29 rfl (lv_at hl 0 rfl) ?_
  refine lv_sipush (v := 30076) hx hb d_M_operate_30 (by decide) ?_
  obtain ⟨M10, eM10, h⟩ := bd_ob h
  refine me_thenv0 (M1 := M10) (me_runV (C := "FilterGuardModel") (As := [.int 30076]) (rest := []) ⟨hx, hb, hml, hown, hts⟩ (c_M_narrow l D ad ca N M9 M10 j0 (30076 : Int32) eM10 hwf hj0 _) rfl (by show fg_nm y_M_narrow 1; decide +kernel) u_2231 u_2233 u_131 u_192 u_2234 ⟨Nat.le_of_ble_eq_true rfl, Nat.le_of_ble_eq_true rfl⟩ hX hz hK hP hD hwf hS hA hj0 (by decide) rfl rfl rfl hl.1 (Nat.le_of_ble_eq_true rfl) d_M_operate_33 ⟨Nat.le_of_ble_eq_true rfl, Nat.le_of_ble_eq_true rfl⟩) hP hD hK hS hA rfl rfl (fun H locs hw hP hD hS => ?_)
  obtain ⟨hwf, hk9⟩ := hw
  have hkp := hkp.tr hk9
  exact b_36 M10 _ _ _ h hwf hkp hP hD hS (lv_sub hl [0, 1, 2, 5] rfl)
theorem d_M_holds_138 : decode prog_14_method_42_code 138 = .ok (.aload_n 0, 1) := by decide +kernel
theorem d_M_holds_139 : decode prog_14_method_42_code 139 = .ok (.iload_n 1, 1) := by decide +kernel
theorem d_M_holds_140 : decode prog_14_method_42_code 140 = .ok (.invokevirtual 300, 3) := by decide +kernel
theorem u_2235 : Cond.methodLink "FilterGuardModel" 300 ⟨"FilterGuardModel", "tells", "(I)Z"⟩ ∈ fg_g := fg_in (List.mem_of_getElem? (i := 2235) (by decide +kernel)) rfl
theorem u_2238 : Cond.code ⟨"FilterGuardModel", "tells", "(I)Z"⟩ prog_14_method_40_code 3 (some .boolean) ∈ fg_g := fg_in (List.mem_of_getElem? (i := 2238) (by decide +kernel)) rfl
theorem u_2237 : Cond.instanceMethod ⟨"FilterGuardModel", "tells", "(I)Z"⟩ ∈ fg_g := fg_in (List.mem_of_getElem? (i := 2237) (by decide +kernel)) rfl
theorem u_132 : Cond.selects "FilterGuardModel" ⟨"FilterGuardModel", "tells", "(I)Z"⟩ ⟨"FilterGuardModel", "tells", "(I)Z"⟩ ∈ fg_g := fg_in (List.mem_of_getElem? (i := 132) (by decide +kernel)) rfl
theorem d_M_holds_143 : decode prog_14_method_42_code 143 = .ok (.ifCond .ne 5, 3) := by decide +kernel
theorem d_M_holds_148 : decode prog_14_method_42_code 148 = .ok (.aload_n 0, 1) := by decide +kernel
theorem d_M_holds_149 : decode prog_14_method_42_code 149 = .ok (.sipush 30075, 3) := by decide +kernel
theorem d_M_holds_152 : decode prog_14_method_42_code 152 = .ok (.iload_n 2, 1) := by decide +kernel
theorem d_M_holds_153 : decode prog_14_method_42_code 153 = .ok (.invokevirtual 208, 3) := by decide +kernel
theorem d_M_holds_156 : decode prog_14_method_42_code 156 = .ok (.aload_n 0, 1) := by decide +kernel
theorem d_M_holds_157 : decode prog_14_method_42_code 157 = .ok (.sipush 30076, 3) := by decide +kernel
theorem d_M_holds_160 : decode prog_14_method_42_code 160 = .ok (.iload_n 3, 1) := by decide +kernel
theorem d_M_holds_161 : decode prog_14_method_42_code 161 = .ok (.invokevirtual 208, 3) := by decide +kernel
theorem d_M_holds_164 : decode prog_14_method_42_code 164 = .ok (.iconst 1, 1) := by decide +kernel
theorem d_M_holds_165 : decode prog_14_method_42_code 165 = .ok (.ireturn, 1) := by decide +kernel
theorem d_M_holds_146 : decode prog_14_method_42_code 146 = .ok (.iconst 0, 1) := by decide +kernel
theorem d_M_holds_147 : decode prog_14_method_42_code 147 = .ok (.ireturn, 1) := by decide +kernel
theorem d_M_holds_99 : decode prog_14_method_42_code 99 = .ok (.istore 8, 2) := by decide +kernel
theorem d_M_holds_101 : decode prog_14_method_42_code 101 = .ok (.iload 4, 2) := by decide +kernel
theorem d_M_holds_103 : decode prog_14_method_42_code 103 = .ok (.ifCond .eq 35, 3) := by decide +kernel
theorem d_M_holds_106 : decode prog_14_method_42_code 106 = .ok (.iload 8, 2) := by decide +kernel
theorem d_M_holds_108 : decode prog_14_method_42_code 108 = .ok (.ifCond .ne 30, 3) := by decide +kernel
theorem d_M_holds_111 : decode prog_14_method_42_code 111 = .ok (.iload 5, 2) := by decide +kernel
theorem d_M_holds_113 : decode prog_14_method_42_code 113 = .ok (.ifCond .eq 5, 3) := by decide +kernel
theorem d_M_holds_118 : decode prog_14_method_42_code 118 = .ok (.aload_n 0, 1) := by decide +kernel
theorem d_M_holds_119 : decode prog_14_method_42_code 119 = .ok (.sipush 30075, 3) := by decide +kernel
theorem d_M_holds_122 : decode prog_14_method_42_code 122 = .ok (.invokevirtual 291, 3) := by decide +kernel
theorem d_M_holds_125 : decode prog_14_method_42_code 125 = .ok (.aload_n 0, 1) := by decide +kernel
theorem d_M_holds_126 : decode prog_14_method_42_code 126 = .ok (.sipush 30076, 3) := by decide +kernel
theorem d_M_holds_129 : decode prog_14_method_42_code 129 = .ok (.invokevirtual 291, 3) := by decide +kernel
theorem d_M_holds_132 : decode prog_14_method_42_code 132 = .ok (.aload_n 0, 1) := by decide +kernel
theorem d_M_holds_133 : decode prog_14_method_42_code 133 = .ok (.iload_n 1, 1) := by decide +kernel
theorem d_M_holds_134 : decode prog_14_method_42_code 134 = .ok (.invokevirtual 300, 3) := by decide +kernel
theorem d_M_holds_137 : decode prog_14_method_42_code 137 = .ok (.ireturn, 1) := by decide +kernel
theorem d_M_holds_116 : decode prog_14_method_42_code 116 = .ok (.iconst 1, 1) := by decide +kernel
theorem d_M_holds_117 : decode prog_14_method_42_code 117 = .ok (.ireturn, 1) := by decide +kernel
theorem d_M_holds_98 : decode prog_14_method_42_code 98 = .ok (.iconst 0, 1) := by decide +kernel
theorem d_M_holds_60 : decode prog_14_method_42_code 60 = .ok (.lstore 6, 2) := by decide +kernel
theorem d_M_holds_62 : decode prog_14_method_42_code 62 = .ok (.lload 6, 2) := by decide +kernel
theorem d_M_holds_64 : decode prog_14_method_42_code 64 = .ok (.aload_n 0, 1) := by decide +kernel
theorem d_M_holds_65 : decode prog_14_method_42_code 65 = .ok (.getfield 113, 3) := by decide +kernel
theorem d_M_holds_68 : decode prog_14_method_42_code 68 = .ok (.sipush 30075, 3) := by decide +kernel
theorem d_M_holds_71 : decode prog_14_method_42_code 71 = .ok (.laload, 1) := by decide +kernel
theorem d_M_holds_72 : decode prog_14_method_42_code 72 = .ok (.invokestatic 158, 3) := by decide +kernel
theorem d_M_holds_75 : decode prog_14_method_42_code 75 = .ok (.ifCond .ne 23, 3) := by decide +kernel
theorem d_M_holds_78 : decode prog_14_method_42_code 78 = .ok (.lload 6, 2) := by decide +kernel
theorem d_M_holds_80 : decode prog_14_method_42_code 80 = .ok (.aload_n 0, 1) := by decide +kernel
theorem d_M_holds_81 : decode prog_14_method_42_code 81 = .ok (.getfield 113, 3) := by decide +kernel
theorem d_M_holds_84 : decode prog_14_method_42_code 84 = .ok (.sipush 30076, 3) := by decide +kernel
theorem d_M_holds_87 : decode prog_14_method_42_code 87 = .ok (.laload, 1) := by decide +kernel
theorem d_M_holds_88 : decode prog_14_method_42_code 88 = .ok (.invokestatic 158, 3) := by decide +kernel
theorem d_M_holds_91 : decode prog_14_method_42_code 91 = .ok (.ifCond .ne 7, 3) := by decide +kernel
theorem d_M_holds_94 : decode prog_14_method_42_code 94 = .ok (.iconst 1, 1) := by decide +kernel
theorem d_M_holds_95 : decode prog_14_method_42_code 95 = .ok (.goto 4, 3) := by decide +kernel
theorem d_M_holds_44 : decode prog_14_method_42_code 44 = .ok (.istore 5, 2) := by decide +kernel
theorem d_M_holds_46 : decode prog_14_method_42_code 46 = .ok (.iload 5, 2) := by decide +kernel
theorem d_M_holds_48 : decode prog_14_method_42_code 48 = .ok (.ifCond .eq 9, 3) := by decide +kernel
theorem d_M_holds_57 : decode prog_14_method_42_code 57 = .ok (.ldc2_w 203, 3) := by decide +kernel
theorem d_M_holds_51 : decode prog_14_method_42_code 51 = .ok (.ldc2_w 298, 3) := by decide +kernel
theorem u_2230 : Cond.constantLong "FilterGuardModel" 298 2147483647 ∈ fg_g := fg_in (List.mem_of_getElem? (i := 2230) (by decide +kernel)) rfl
theorem d_M_holds_54 : decode prog_14_method_42_code 54 = .ok (.goto 6, 3) := by decide +kernel
theorem d_M_holds_39 : decode prog_14_method_42_code 39 = .ok (.iconst 1, 1) := by decide +kernel
theorem d_M_holds_40 : decode prog_14_method_42_code 40 = .ok (.goto 4, 3) := by decide +kernel
theorem d_M_holds_0 : decode prog_14_method_42_code 0 = .ok (.aload_n 0, 1) := by decide +kernel
theorem d_M_holds_1 : decode prog_14_method_42_code 1 = .ok (.iload_n 2, 1) := by decide +kernel
theorem d_M_holds_2 : decode prog_14_method_42_code 2 = .ok (.sipush 30075, 3) := by decide +kernel
theorem d_M_holds_5 : decode prog_14_method_42_code 5 = .ok (.invokevirtual 208, 3) := by decide +kernel
theorem d_M_holds_8 : decode prog_14_method_42_code 8 = .ok (.aload_n 0, 1) := by decide +kernel
theorem d_M_holds_9 : decode prog_14_method_42_code 9 = .ok (.iload_n 3, 1) := by decide +kernel
theorem d_M_holds_10 : decode prog_14_method_42_code 10 = .ok (.sipush 30076, 3) := by decide +kernel
theorem d_M_holds_13 : decode prog_14_method_42_code 13 = .ok (.invokevirtual 208, 3) := by decide +kernel
theorem d_M_holds_16 : decode prog_14_method_42_code 16 = .ok (.iload_n 1, 1) := by decide +kernel
theorem d_M_holds_17 : decode prog_14_method_42_code 17 = .ok (.iconst 5, 1) := by decide +kernel
theorem d_M_holds_18 : decode prog_14_method_42_code 18 = .ok (.if_icmp .eq 21, 3) := by decide +kernel
theorem d_M_holds_21 : decode prog_14_method_42_code 21 = .ok (.iload_n 1, 1) := by decide +kernel
theorem d_M_holds_22 : decode prog_14_method_42_code 22 = .ok (.bipush 6, 2) := by decide +kernel
theorem d_M_holds_24 : decode prog_14_method_42_code 24 = .ok (.if_icmp .eq 15, 3) := by decide +kernel
theorem d_M_holds_27 : decode prog_14_method_42_code 27 = .ok (.iload_n 1, 1) := by decide +kernel
theorem d_M_holds_28 : decode prog_14_method_42_code 28 = .ok (.bipush 9, 2) := by decide +kernel
theorem d_M_holds_30 : decode prog_14_method_42_code 30 = .ok (.if_icmp .eq 9, 3) := by decide +kernel
theorem d_M_holds_33 : decode prog_14_method_42_code 33 = .ok (.iload_n 1, 1) := by decide +kernel
theorem d_M_holds_34 : decode prog_14_method_42_code 34 = .ok (.bipush 10, 2) := by decide +kernel
theorem d_M_holds_36 : decode prog_14_method_42_code 36 = .ok (.if_icmp .ne 7, 3) := by decide +kernel
theorem d_M_holds_43 : decode prog_14_method_42_code 43 = .ok (.iconst 0, 1) := by decide +kernel
abbrev y_M_holds : MethodName := ⟨"FilterGuardModel", "holds", "(IIIZ)Z"⟩
def rm_M_holds : Room := { frames := 6, cells := 0, slots := 0, locals := 141 }
abbrev q_M_holds (D : va_G) (ad : Nat → Nat → Nat) (ca : Nat → ClassId) (N : Nat → Nat) (M0 MZ : me_M) (RZ : Int32) (A : Nat → Prop) : Array Value → Jvm.State → Outcome → Jvm.State → Prop := va_Qi (fun r (_ : Unit) => r = RZ ∧ me_wf N MZ ∧ me_kp M0 MZ ∧ (RZ = 1 ∨ RZ = 0)) (fg_B D A (fun _ => me_W ad ca MZ) (fun _ => [])) A
set_option maxHeartbeats 4000000 in
set_option maxRecDepth 100000 in
theorem c_M_holds (l : Launch) (D : va_G) (ad : Nat → Nat → Nat) (ca : Nat → ClassId) (N : Nat → Nat) (M0 MZ : me_M) (RZ : Int32) (j0 : Nat) (x1 : Int32) (x2 : Int32) (x3 : Int32) (x4 : Int32) (h : f_M_holds M0 j0 x1 x2 x3 x4 = (some (MZ, RZ))) (hwf : me_wf N M0) (hj0 : j0 < N 1) (zx4 : x4 = 1 ∨ x4 = 0) (sz : Nat) : Met l y_M_holds (fg_w y_M_holds prog_14_method_42_code 9 (some .boolean)) rm_M_holds (va_Pc [.ref (ad 1 j0), .int x1, .int x2, .int x3, .int x4] (fz_P D (me_T ca) (me_W ad ca M0) sz)) (q_M_holds D ad ca N M0 MZ RZ (va_A (me_W ad ca M0) sz)) rm_M_holds.cells rm_M_holds.slots (va_A (me_W ad ca M0) sz) := by
  refine fz_enter (fun A => q_M_holds D ad ca N M0 MZ RZ A) (by decide +kernel) (Nat.le_of_ble_eq_true rfl) ?_
  intro p e s m below meth c ls A hx hb hml hown hts hr hlocks hin hP hK hD hS hA hX hl hz
  have hl : lv_has ls 9 [(0, .ref (ad 1 j0)), (1, .int x1), (2, .int x2), (3, .int x3), (4, .int x4)] := hl
  unfold f_M_holds at h
  have hkp : me_kp M0 M0 := me_kp.rf
  have hkb := hkp
  have b_138 : ∀ (M : me_M) (H : Heap) (locs : List Loc) (ls : Array Slot), f_M_holds_b138 j0 x1 x2 x3 M = (some (MZ, RZ)) → me_wf N M → me_kp M0 M → va_P D classes (me_W ad ca M) H → va_D A (me_W ad ca M) → va_S A s.heap H locs → lv_has ls 9 [(0, .ref (ad 1 j0)), (1, .int x1), (2, .int x2), (3, .int x3)] → W p l e rm_M_holds s m [.ref (ad 1 j0), .int x1, .int x2, .int x3, .int x4].toArray below meth c H locs 0 0 (MQ below (q_M_holds D ad ca N M0 MZ RZ A) [.ref (ad 1 j0), .int x1, .int x2, .int x3, .int x4].toArray s rm_M_holds.cells rm_M_holds.slots A) (F0 m 138 ls []) := by
    intro M H locs ls h hwf hkp hP hD hS hl
    unfold f_M_holds_b138 at h
    have hkb := hkp
    refine lv_aload_n hx hb d_M_holds_138 rfl (lv_at hl 0 rfl) ?_
    refine lv_iload_n hx hb d_M_holds_139 rfl (lv_at hl 1 rfl) ?_
    obtain ⟨M1, r2, eM1, h⟩ := b2_ob h
    refine me_theni0 (M1 := M1) (me_runV (C := "FilterGuardModel") (As := [.int x1]) (rest := []) ⟨hx, hb, hml, hown, hts⟩ (c_M_tells l D ad ca N M M1 r2 j0 x1 eM1 hwf hj0 _) rfl (by show fg_nm y_M_tells 1; decide +kernel) u_2235 u_2237 u_132 u_192 u_2238 ⟨Nat.le_of_ble_eq_true rfl, Nat.le_of_ble_eq_true rfl⟩ hX hz hK hP hD hwf hS hA hj0 (by decide) rfl rfl rfl hl.1 (Nat.le_of_ble_eq_true rfl) d_M_holds_140 ⟨Nat.le_of_ble_eq_true rfl, Nat.le_of_ble_eq_true rfl⟩) hP hD hK hS hA rfl rfl (fun H locs hw hP hD hS => ?_)
    obtain ⟨hwf, hk9, zr2⟩ := hw
    have hkp := hkp.tr hk9
    refine lv_if_ne (tgt := 148) hx hb d_M_holds_143 (by decide) (fun c3 => ?_) (fun c3 => ?_)
    · have h := if_f c3 h
      refine lv_aload_n hx hb d_M_holds_148 rfl (lv_at hl 0 rfl) ?_
      refine lv_sipush (v := 30075) hx hb d_M_holds_149 (by decide) ?_
      refine lv_iload_n hx hb d_M_holds_152 rfl (lv_at hl 2 rfl) ?_
      obtain ⟨M4, eM4, h⟩ := bd_ob h
      refine me_thenv0 (M1 := M4) (me_runV (C := "FilterGuardModel") (As := [.int 30075, .int x2]) (rest := []) ⟨hx, hb, hml, hown, hts⟩ (c_M_copyNumber l D ad ca N M1 M4 j0 (30075 : Int32) x2 eM4 hwf hj0 _) rfl (by show fg_nm y_M_copyNumber 2; decide +kernel) u_2096 u_2098 u_103 u_192 u_2099 ⟨Nat.le_of_ble_eq_true rfl, Nat.le_of_ble_eq_true rfl⟩ hX hz hK hP hD hwf hS hA hj0 (by decide) rfl rfl rfl hl.1 (Nat.le_of_ble_eq_true rfl) d_M_holds_153 ⟨Nat.le_of_ble_eq_true rfl, Nat.le_of_ble_eq_true rfl⟩) hP hD hK hS hA rfl rfl (fun H locs hw hP hD hS => ?_)
      obtain ⟨hwf, hk9⟩ := hw
      have hkp := hkp.tr hk9
      refine lv_aload_n hx hb d_M_holds_156 rfl (lv_at hl 0 rfl) ?_
      refine lv_sipush (v := 30076) hx hb d_M_holds_157 (by decide) ?_
      refine lv_iload_n hx hb d_M_holds_160 rfl (lv_at hl 3 rfl) ?_
      obtain ⟨M5, eM5, h⟩ := bd_ob h
      refine me_thenv0 (M1 := M5) (me_runV (C := "FilterGuardModel") (As := [.int 30076, .int x3]) (rest := []) ⟨hx, hb, hml, hown, hts⟩ (c_M_copyNumber l D ad ca N M4 M5 j0 (30076 : Int32) x3 eM5 hwf hj0 _) rfl (by show fg_nm y_M_copyNumber 2; decide +kernel) u_2096 u_2098 u_103 u_192 u_2099 ⟨Nat.le_of_ble_eq_true rfl, Nat.le_of_ble_eq_true rfl⟩ hX hz hK hP hD hwf hS hA hj0 (by decide) rfl rfl rfl hl.1 (Nat.le_of_ble_eq_true rfl) d_M_holds_161 ⟨Nat.le_of_ble_eq_true rfl, Nat.le_of_ble_eq_true rfl⟩) hP hD hK hS hA rfl rfl (fun H locs hw hP hD hS => ?_)
      obtain ⟨hwf, hk9⟩ := hw
      have hkp := hkp.tr hk9
      refine lv_iconst (v := 1) hx hb d_M_holds_164 (by decide) ?_
      exact me_retz (me_kp M0) h (by decide) hx hb hr hlocks hwf hkp hP hK hD hS d_M_holds_165
    have h := if_t c3 h
    refine lv_iconst (v := 0) hx hb d_M_holds_146 (by decide) ?_
    exact me_retz (me_kp M0) h (by decide) hx hb hr hlocks hwf hkp hP hK hD hS d_M_holds_147
  have b_99 : ∀ (M : me_M) (y5 : Int32) (s0 : Int32) (H : Heap) (locs : List Loc) (ls : Array Slot), f_M_holds_b99 j0 x1 x2 x3 x4 M y5 s0 = (some (MZ, RZ)) → (y5 = 1 ∨ y5 = 0) → (s0 = 1 ∨ s0 = 0) → me_wf N M → me_kp M0 M → va_P D classes (me_W ad ca M) H → va_D A (me_W ad ca M) → va_S A s.heap H locs → lv_has ls 9 [(0, .ref (ad 1 j0)), (1, .int x1), (2, .int x2), (3, .int x3), (4, .int x4), (5, .int y5)] → W p l e rm_M_holds s m [.ref (ad 1 j0), .int x1, .int x2, .int x3, .int x4].toArray below meth c H locs 0 0 (MQ below (q_M_holds D ad ca N M0 MZ RZ A) [.ref (ad 1 j0), .int x1, .int x2, .int x3, .int x4].toArray s rm_M_holds.cells rm_M_holds.slots A) (F0 m 99 ls [.int s0]) := by
    intro M y5 s0 H locs ls h zy5 zs0 hwf hkp hP hD hS hl
    unfold f_M_holds_b99 at h
    have hkb := hkp
    refine lv_istore (lv' := [(8, .int s0), (0, .ref (ad 1 j0)), (1, .int x1), (2, .int x2), (3, .int x3), (4, .int x4), (5, .int y5)]) hx hb d_M_holds_99 hl (by decide) rfl (fun ls hl => ?_)
    refine lv_iload hx hb d_M_holds_101 (lv_at hl 5 rfl) ?_
    refine lv_if_eq (tgt := 138) hx hb d_M_holds_103 (by decide) (fun c6 => ?_) (fun c6 => ?_)
    · have h := if_t c6 h
      exact b_138 M _ _ _ h hwf hkp hP hD hS (lv_sub hl [1, 2, 3, 4] rfl)
    have h := if_f c6 h
    refine lv_iload hx hb d_M_holds_106 (lv_at hl 0 rfl) ?_
    refine lv_if_ne (tgt := 138) hx hb d_M_holds_108 (by decide) (fun c7 => ?_) (fun c7 => ?_)
    · have h := if_f c7 h
      exact b_138 M _ _ _ h hwf hkp hP hD hS (lv_sub hl [1, 2, 3, 4] rfl)
    have h := if_t c7 h
    refine lv_iload hx hb d_M_holds_111 (lv_at hl 6 rfl) ?_
    refine lv_if_eq (tgt := 118) hx hb d_M_holds_113 (by decide) (fun c8 => ?_) (fun c8 => ?_)
    · have h := if_t c8 h
      refine lv_aload_n hx hb d_M_holds_118 rfl (lv_at hl 1 rfl) ?_
      refine lv_sipush (v := 30075) hx hb d_M_holds_119 (by decide) ?_
      obtain ⟨M9, eM9, h⟩ := bd_ob h
      refine me_thenv0 (M1 := M9) (me_runV (C := "FilterGuardModel") (As := [.int 30075]) (rest := []) ⟨hx, hb, hml, hown, hts⟩ (c_M_narrow l D ad ca N M M9 j0 (30075 : Int32) eM9 hwf hj0 _) rfl (by show fg_nm y_M_narrow 1; decide +kernel) u_2231 u_2233 u_131 u_192 u_2234 ⟨Nat.le_of_ble_eq_true rfl, Nat.le_of_ble_eq_true rfl⟩ hX hz hK hP hD hwf hS hA hj0 (by decide) rfl rfl rfl hl.1 (Nat.le_of_ble_eq_true rfl) d_M_holds_122 ⟨Nat.le_of_ble_eq_true rfl, Nat.le_of_ble_eq_true rfl⟩) hP hD hK hS hA rfl rfl (fun H locs hw hP hD hS => ?_)
      obtain ⟨hwf, hk9⟩ := hw
      have hkp := hkp.tr hk9
      refine lv_aload_n hx hb d_M_holds_125 rfl (lv_at hl 1 rfl) ?_
      refine lv_sipush (v := 30076) hx hb d_M_holds_126 (by decide) ?_
      obtain ⟨M10, eM10, h⟩ := bd_ob h
      refine me_thenv0 (M1 := M10) (me_runV (C := "FilterGuardModel") (As := [.int 30076]) (rest := []) ⟨hx, hb, hml, hown, hts⟩ (c_M_narrow l D ad ca N M9 M10 j0 (30076 : Int32) eM10 hwf hj0 _) rfl (by show fg_nm y_M_narrow 1; decide +kernel) u_2231 u_2233 u_131 u_192 u_2234 ⟨Nat.le_of_ble_eq_true rfl, Nat.le_of_ble_eq_true rfl⟩ hX hz hK hP hD hwf hS hA hj0 (by decide) rfl rfl rfl hl.1 (Nat.le_of_ble_eq_true rfl) d_M_holds_129 ⟨Nat.le_of_ble_eq_true rfl, Nat.le_of_ble_eq_true rfl⟩) hP hD hK hS hA rfl rfl (fun H locs hw hP hD hS => ?_)
      obtain ⟨hwf, hk9⟩ := hw
      have hkp := hkp.tr hk9
      refine lv_aload_n hx hb d_M_holds_132 rfl (lv_at hl 1 rfl) ?_
      refine lv_iload_n hx hb d_M_holds_133 rfl (lv_at hl 2 rfl) ?_
      obtain ⟨M11, r12, eM11, h⟩ := b2_ob h
      refine me_theni0 (M1 := M11) (me_runV (C := "FilterGuardModel") (As := [.int x1]) (rest := []) ⟨hx, hb, hml, hown, hts⟩ (c_M_tells l D ad ca N M10 M11 r12 j0 x1 eM11 hwf hj0 _) rfl (by show fg_nm y_M_tells 1; decide +kernel) u_2235 u_2237 u_132 u_192 u_2238 ⟨Nat.le_of_ble_eq_true rfl, Nat.le_of_ble_eq_true rfl⟩ hX hz hK hP hD hwf hS hA hj0 (by decide) rfl rfl rfl hl.1 (Nat.le_of_ble_eq_true rfl) d_M_holds_134 ⟨Nat.le_of_ble_eq_true rfl, Nat.le_of_ble_eq_true rfl⟩) hP hD hK hS hA rfl rfl (fun H locs hw hP hD hS => ?_)
      obtain ⟨hwf, hk9, zr12⟩ := hw
      have hkp := hkp.tr hk9
      exact me_retz (me_kp M0) h zr12 hx hb hr hlocks hwf hkp hP hK hD hS d_M_holds_137
    have h := if_f c8 h
    refine lv_iconst (v := 1) hx hb d_M_holds_116 (by decide) ?_
    exact me_retz (me_kp M0) h (by decide) hx hb hr hlocks hwf hkp hP hK hD hS d_M_holds_117
  have b_98 : ∀ (M : me_M) (y5 : Int32) (H : Heap) (locs : List Loc) (ls : Array Slot), f_M_holds_b98 j0 x1 x2 x3 x4 M y5 = (some (MZ, RZ)) → (y5 = 1 ∨ y5 = 0) → me_wf N M → me_kp M0 M → va_P D classes (me_W ad ca M) H → va_D A (me_W ad ca M) → va_S A s.heap H locs → lv_has ls 9 [(0, .ref (ad 1 j0)), (1, .int x1), (2, .int x2), (3, .int x3), (4, .int x4), (5, .int y5)] → W p l e rm_M_holds s m [.ref (ad 1 j0), .int x1, .int x2, .int x3, .int x4].toArray below meth c H locs 0 0 (MQ below (q_M_holds D ad ca N M0 MZ RZ A) [.ref (ad 1 j0), .int x1, .int x2, .int x3, .int x4].toArray s rm_M_holds.cells rm_M_holds.slots A) (F0 m 98 ls []) := by
    intro M y5 H locs ls h zy5 hwf hkp hP hD hS hl
    unfold f_M_holds_b98 at h
    have hkb := hkp
    refine lv_iconst (v := 0) hx hb d_M_holds_98 (by decide) ?_
    exact b_99 M y5 (0 : Int32) _ _ _ h zy5 (by decide) hwf hkp hP hD hS (lv_sub hl [0, 1, 2, 3, 4, 5] rfl)
  have b_60 : ∀ (M : me_M) (y5 : Int32) (s0 : Int64) (H : Heap) (locs : List Loc) (ls : Array Slot), f_M_holds_b60 j0 x1 x2 x3 x4 M y5 s0 = (some (MZ, RZ)) → (y5 = 1 ∨ y5 = 0) → me_wf N M → me_kp M0 M → va_P D classes (me_W ad ca M) H → va_D A (me_W ad ca M) → va_S A s.heap H locs → lv_has ls 9 [(0, .ref (ad 1 j0)), (1, .int x1), (2, .int x2), (3, .int x3), (4, .int x4), (5, .int y5)] → W p l e rm_M_holds s m [.ref (ad 1 j0), .int x1, .int x2, .int x3, .int x4].toArray below meth c H locs 0 0 (MQ below (q_M_holds D ad ca N M0 MZ RZ A) [.ref (ad 1 j0), .int x1, .int x2, .int x3, .int x4].toArray s rm_M_holds.cells rm_M_holds.slots A) (F0 m 60 ls [.long s0]) := by
    intro M y5 s0 H locs ls h zy5 hwf hkp hP hD hS hl
    unfold f_M_holds_b60 at h
    have hkb := hkp
    refine lv_lstore (lv' := [(6, .long s0), (0, .ref (ad 1 j0)), (1, .int x1), (2, .int x2), (3, .int x3), (4, .int x4), (5, .int y5)]) hx hb d_M_holds_60 hl (by decide) rfl (fun ls hl => ?_)
    refine lv_lload hx hb d_M_holds_62 (lv_at hl 0 rfl) ?_
    refine lv_aload_n hx hb d_M_holds_64 rfl (lv_at hl 1 rfl) ?_
    refine g_M_55 hx hb hts hown hK hP hwf hj0 (hts _ u_1796) d_M_holds_65 ?_
    obtain ⟨j13, e14, h⟩ := bd_ob h
    have hj13 : j13 < N 16 := (hwf.2.1 1 j0 55 _ e14 (by decide) hj0)
    refine me_opt (j := j13) e14 ?_
    refine lv_sipush (v := 30075) hx hb d_M_holds_68 (by decide) ?_
    obtain ⟨g15, h⟩ := gd_ob h
    refine me_lald hx hb hK hP hwf hj13 (me_in (i := (30075 : Int32)) (k := 30075) (by decide) (by decide) g15) d_M_holds_71 ?_
    refine fg_topl (y := mL M 16 j13 30075) (congrArg _ (by decide)) ?_
    obtain ⟨r16, er16, h⟩ := bd_ob h
    refine me_pani' (r0 := r16) (fg_runS (wc := []) (tc := []) (A2 := A) (As := [.long s0, .long (mL M 16 j13 30075)]) (rest := []) ⟨hx, hb, hml, hown, hts⟩ (c_M_below l D r16 s0 (mL M 16 j13 30075) er16 _) (by show fg_nm y_M_below 2; decide +kernel) u_2072 u_2073 u_192 u_2074 ⟨Nat.le_of_ble_eq_true rfl, Nat.le_of_ble_eq_true rfl⟩ hX me_P0 (hK.sub (tys' := []) [] rfl) me_D0 rfl hl.1 (Nat.le_of_ble_eq_true rfl) d_M_holds_72 ⟨Nat.le_of_ble_eq_true rfl, Nat.le_of_ble_eq_true rfl⟩) hP hD hK hS hA rfl rfl (fun H locs hw hP hD hS => ?_)
    have zr16 := hw
    refine lv_if_ne (tgt := 98) hx hb d_M_holds_75 (by decide) (fun c17 => ?_) (fun c17 => ?_)
    · have h := if_f c17 h
      exact b_98 M y5 _ _ _ h zy5 hwf hkp hP hD hS (lv_sub hl [1, 2, 3, 4, 5, 6] rfl)
    have h := if_t c17 h
    refine lv_lload hx hb d_M_holds_78 (lv_at hl 0 rfl) ?_
    refine lv_aload_n hx hb d_M_holds_80 rfl (lv_at hl 1 rfl) ?_
    refine g_M_55 hx hb hts hown hK hP hwf hj0 (hts _ u_1796) d_M_holds_81 ?_
    refine me_opt (j := j13) e14 ?_
    refine lv_sipush (v := 30076) hx hb d_M_holds_84 (by decide) ?_
    obtain ⟨g18, h⟩ := gd_ob h
    refine me_lald hx hb hK hP hwf hj13 (me_in (i := (30076 : Int32)) (k := 30076) (by decide) (by decide) g18) d_M_holds_87 ?_
    refine fg_topl (y := mL M 16 j13 30076) (congrArg _ (by decide)) ?_
    obtain ⟨r19, er19, h⟩ := bd_ob h
    refine me_pani' (r0 := r19) (fg_runS (wc := []) (tc := []) (A2 := A) (As := [.long s0, .long (mL M 16 j13 30076)]) (rest := []) ⟨hx, hb, hml, hown, hts⟩ (c_M_below l D r19 s0 (mL M 16 j13 30076) er19 _) (by show fg_nm y_M_below 2; decide +kernel) u_2072 u_2073 u_192 u_2074 ⟨Nat.le_of_ble_eq_true rfl, Nat.le_of_ble_eq_true rfl⟩ hX me_P0 (hK.sub (tys' := []) [] rfl) me_D0 rfl hl.1 (Nat.le_of_ble_eq_true rfl) d_M_holds_88 ⟨Nat.le_of_ble_eq_true rfl, Nat.le_of_ble_eq_true rfl⟩) hP hD hK hS hA rfl rfl (fun H locs hw hP hD hS => ?_)
    have zr19 := hw
    refine lv_if_ne (tgt := 98) hx hb d_M_holds_91 (by decide) (fun c20 => ?_) (fun c20 => ?_)
    · have h := if_f c20 h
      exact b_98 M y5 _ _ _ h zy5 hwf hkp hP hD hS (lv_sub hl [1, 2, 3, 4, 5, 6] rfl)
    have h := if_t c20 h
    refine lv_iconst (v := 1) hx hb d_M_holds_94 (by decide) ?_
    refine lv_goto (tgt := 99) hx hb d_M_holds_95 (by decide) ?_
    exact b_99 M y5 (1 : Int32) _ _ _ h zy5 (by decide) hwf hkp hP hD hS (lv_sub hl [1, 2, 3, 4, 5, 6] rfl)
  have b_44 : ∀ (M : me_M) (s0 : Int32) (H : Heap) (locs : List Loc) (ls : Array Slot), f_M_holds_b44 j0 x1 x2 x3 x4 M s0 = (some (MZ, RZ)) → (s0 = 1 ∨ s0 = 0) → me_wf N M → me_kp M0 M → va_P D classes (me_W ad ca M) H → va_D A (me_W ad ca M) → va_S A s.heap H locs → lv_has ls 9 [(0, .ref (ad 1 j0)), (1, .int x1), (2, .int x2), (3, .int x3), (4, .int x4)] → W p l e rm_M_holds s m [.ref (ad 1 j0), .int x1, .int x2, .int x3, .int x4].toArray below meth c H locs 0 0 (MQ below (q_M_holds D ad ca N M0 MZ RZ A) [.ref (ad 1 j0), .int x1, .int x2, .int x3, .int x4].toArray s rm_M_holds.cells rm_M_holds.slots A) (F0 m 44 ls [.int s0]) := by
    intro M s0 H locs ls h zs0 hwf hkp hP hD hS hl
    unfold f_M_holds_b44 at h
    have hkb := hkp
    refine lv_istore (lv' := [(5, .int s0), (0, .ref (ad 1 j0)), (1, .int x1), (2, .int x2), (3, .int x3), (4, .int x4)]) hx hb d_M_holds_44 hl (by decide) rfl (fun ls hl => ?_)
    refine lv_iload hx hb d_M_holds_46 (lv_at hl 0 rfl) ?_
    refine lv_if_eq (tgt := 57) hx hb d_M_holds_48 (by decide) (fun c21 => ?_) (fun c21 => ?_)
    · have h := if_t c21 h
      refine lv_ldc2 hx hb hown (hts _ u_2019) d_M_holds_57 ?_
      exact b_60 M s0 (4294967295 : Int64) _ _ _ h zs0 hwf hkp hP hD hS (lv_sub hl [1, 2, 3, 4, 5, 0] rfl)
    have h := if_f c21 h
    refine lv_ldc2 hx hb hown (hts _ u_2230) d_M_holds_51 ?_
    refine lv_goto (tgt := 60) hx hb d_M_holds_54 (by decide) ?_
    exact b_60 M s0 (2147483647 : Int64) _ _ _ h zs0 hwf hkp hP hD hS (lv_sub hl [1, 2, 3, 4, 5, 0] rfl)
  have b_39 : ∀ (M : me_M) (H : Heap) (locs : List Loc) (ls : Array Slot), f_M_holds_b39 j0 x1 x2 x3 x4 M = (some (MZ, RZ)) → me_wf N M → me_kp M0 M → va_P D classes (me_W ad ca M) H → va_D A (me_W ad ca M) → va_S A s.heap H locs → lv_has ls 9 [(0, .ref (ad 1 j0)), (1, .int x1), (2, .int x2), (3, .int x3), (4, .int x4)] → W p l e rm_M_holds s m [.ref (ad 1 j0), .int x1, .int x2, .int x3, .int x4].toArray below meth c H locs 0 0 (MQ below (q_M_holds D ad ca N M0 MZ RZ A) [.ref (ad 1 j0), .int x1, .int x2, .int x3, .int x4].toArray s rm_M_holds.cells rm_M_holds.slots A) (F0 m 39 ls []) := by
    intro M H locs ls h hwf hkp hP hD hS hl
    unfold f_M_holds_b39 at h
    have hkb := hkp
    refine lv_iconst (v := 1) hx hb d_M_holds_39 (by decide) ?_
    refine lv_goto (tgt := 44) hx hb d_M_holds_40 (by decide) ?_
    exact b_44 M (1 : Int32) _ _ _ h (by decide) hwf hkp hP hD hS (lv_sub hl [0, 1, 2, 3, 4] rfl)
  refine lv_aload_n hx hb d_M_holds_0 rfl (lv_at hl 0 rfl) ?_
  refine lv_iload_n hx hb d_M_holds_1 rfl (lv_at hl 2 rfl) ?_
  refine lv_sipush (v := 30075) hx hb d_M_holds_2 (by decide) ?_
  obtain ⟨M22, eM22, h⟩ := bd_ob h
  refine me_thenv0 (M1 := M22) (me_runV (C := "FilterGuardModel") (As := [.int x2, .int 30075]) (rest := []) ⟨hx, hb, hml, hown, hts⟩ (c_M_copyNumber l D ad ca N M0 M22 j0 x2 (30075 : Int32) eM22 hwf hj0 _) rfl (by show fg_nm y_M_copyNumber 2; decide +kernel) u_2096 u_2098 u_103 u_192 u_2099 ⟨Nat.le_of_ble_eq_true rfl, Nat.le_of_ble_eq_true rfl⟩ hX hz hK hP hD hwf hS hA hj0 (by decide) rfl rfl rfl hl.1 (Nat.le_of_ble_eq_true rfl) d_M_holds_5 ⟨Nat.le_of_ble_eq_true rfl, Nat.le_of_ble_eq_true rfl⟩) hP hD hK hS hA rfl rfl (fun H locs hw hP hD hS => ?_)
  obtain ⟨hwf, hk9⟩ := hw
  have hkp := hkp.tr hk9
  refine lv_aload_n hx hb d_M_holds_8 rfl (lv_at hl 0 rfl) ?_
  refine lv_iload_n hx hb d_M_holds_9 rfl (lv_at hl 3 rfl) ?_
  refine lv_sipush (v := 30076) hx hb d_M_holds_10 (by decide) ?_
  obtain ⟨M23, eM23, h⟩ := bd_ob h
  refine me_thenv0 (M1 := M23) (me_runV (C := "FilterGuardModel") (As := [.int x3, .int 30076]) (rest := []) ⟨hx, hb, hml, hown, hts⟩ (c_M_copyNumber l D ad ca N M22 M23 j0 x3 (30076 : Int32) eM23 hwf hj0 _) rfl (by show fg_nm y_M_copyNumber 2; decide +kernel) u_2096 u_2098 u_103 u_192 u_2099 ⟨Nat.le_of_ble_eq_true rfl, Nat.le_of_ble_eq_true rfl⟩ hX hz hK hP hD hwf hS hA hj0 (by decide) rfl rfl rfl hl.1 (Nat.le_of_ble_eq_true rfl) d_M_holds_13 ⟨Nat.le_of_ble_eq_true rfl, Nat.le_of_ble_eq_true rfl⟩) hP hD hK hS hA rfl rfl (fun H locs hw hP hD hS => ?_)
  obtain ⟨hwf, hk9⟩ := hw
  have hkp := hkp.tr hk9
  refine lv_iload_n hx hb d_M_holds_16 rfl (lv_at hl 1 rfl) ?_
  refine lv_iconst (v := 5) hx hb d_M_holds_17 (by decide) ?_
  refine lv_icmp_eq (tgt := 39) hx hb d_M_holds_18 (by decide) (fun c24 => ?_) (fun c24 => ?_)
  · have h := if_t c24 h
    exact b_39 M23 _ _ _ h hwf hkp hP hD hS (lv_sub hl [0, 1, 2, 3, 4] rfl)
  have h := if_f c24 h
  refine lv_iload_n hx hb d_M_holds_21 rfl (lv_at hl 1 rfl) ?_
  refine lv_bipush (v := 6) hx hb d_M_holds_22 (by decide) ?_
  refine lv_icmp_eq (tgt := 39) hx hb d_M_holds_24 (by decide) (fun c25 => ?_) (fun c25 => ?_)
  · have h := if_t c25 h
    exact b_39 M23 _ _ _ h hwf hkp hP hD hS (lv_sub hl [0, 1, 2, 3, 4] rfl)
  have h := if_f c25 h
  refine lv_iload_n hx hb d_M_holds_27 rfl (lv_at hl 1 rfl) ?_
  refine lv_bipush (v := 9) hx hb d_M_holds_28 (by decide) ?_
  refine lv_icmp_eq (tgt := 39) hx hb d_M_holds_30 (by decide) (fun c26 => ?_) (fun c26 => ?_)
  · have h := if_t c26 h
    exact b_39 M23 _ _ _ h hwf hkp hP hD hS (lv_sub hl [0, 1, 2, 3, 4] rfl)
  have h := if_f c26 h
  refine lv_iload_n hx hb d_M_holds_33 rfl (lv_at hl 1 rfl) ?_
  refine lv_bipush (v := 10) hx hb d_M_holds_34 (by decide) ?_
  refine lv_icmp_ne (tgt := 43) hx hb d_M_holds_36 (by decide) (fun c27 => ?_) (fun c27 => ?_)
  · have h := if_f c27 h
    refine lv_iconst (v := 0) hx hb d_M_holds_43 (by decide) ?_
    exact b_44 M23 (0 : Int32) _ _ _ h (by decide) hwf hkp hP hD hS (lv_sub hl [0, 1, 2, 3, 4] rfl)
  have h := if_t c27 h
  exact b_39 M23 _ _ _ h hwf hkp hP hD hS (lv_sub hl [0, 1, 2, 3, 4] rfl)
theorem d_M_covers_56 : decode prog_14_method_43_code 56 = .ok (.istore_n 3, 1) := by decide +kernel
theorem d_M_covers_57 : decode prog_14_method_43_code 57 = .ok (.iload_n 3, 1) := by decide +kernel
theorem d_M_covers_58 : decode prog_14_method_43_code 58 = .ok (.ifCond .eq 75, 3) := by decide +kernel
theorem d_M_covers_133 : decode prog_14_method_43_code 133 = .ok (.iconst 0, 1) := by decide +kernel
theorem d_M_covers_134 : decode prog_14_method_43_code 134 = .ok (.ireturn, 1) := by decide +kernel
theorem d_M_covers_61 : decode prog_14_method_43_code 61 = .ok (.aload_n 0, 1) := by decide +kernel
theorem d_M_covers_62 : decode prog_14_method_43_code 62 = .ok (.getfield 110, 3) := by decide +kernel
theorem d_M_covers_65 : decode prog_14_method_43_code 65 = .ok (.iload_n 2, 1) := by decide +kernel
theorem d_M_covers_66 : decode prog_14_method_43_code 66 = .ok (.laload, 1) := by decide +kernel
theorem d_M_covers_67 : decode prog_14_method_43_code 67 = .ok (.aload_n 0, 1) := by decide +kernel
theorem d_M_covers_68 : decode prog_14_method_43_code 68 = .ok (.getfield 110, 3) := by decide +kernel
theorem d_M_covers_71 : decode prog_14_method_43_code 71 = .ok (.iload_n 1, 1) := by decide +kernel
theorem d_M_covers_72 : decode prog_14_method_43_code 72 = .ok (.laload, 1) := by decide +kernel
theorem d_M_covers_73 : decode prog_14_method_43_code 73 = .ok (.invokestatic 158, 3) := by decide +kernel
theorem d_M_covers_76 : decode prog_14_method_43_code 76 = .ok (.ifCond .ne 57, 3) := by decide +kernel
theorem d_M_covers_79 : decode prog_14_method_43_code 79 = .ok (.aload_n 0, 1) := by decide +kernel
theorem d_M_covers_80 : decode prog_14_method_43_code 80 = .ok (.getfield 113, 3) := by decide +kernel
theorem d_M_covers_83 : decode prog_14_method_43_code 83 = .ok (.iload_n 1, 1) := by decide +kernel
theorem d_M_covers_84 : decode prog_14_method_43_code 84 = .ok (.laload, 1) := by decide +kernel
theorem d_M_covers_85 : decode prog_14_method_43_code 85 = .ok (.aload_n 0, 1) := by decide +kernel
theorem d_M_covers_86 : decode prog_14_method_43_code 86 = .ok (.getfield 113, 3) := by decide +kernel
theorem d_M_covers_89 : decode prog_14_method_43_code 89 = .ok (.iload_n 2, 1) := by decide +kernel
theorem d_M_covers_90 : decode prog_14_method_43_code 90 = .ok (.laload, 1) := by decide +kernel
theorem d_M_covers_91 : decode prog_14_method_43_code 91 = .ok (.invokestatic 158, 3) := by decide +kernel
theorem d_M_covers_94 : decode prog_14_method_43_code 94 = .ok (.ifCond .ne 39, 3) := by decide +kernel
theorem d_M_covers_97 : decode prog_14_method_43_code 97 = .ok (.aload_n 0, 1) := by decide +kernel
theorem d_M_covers_98 : decode prog_14_method_43_code 98 = .ok (.getfield 116, 3) := by decide +kernel
theorem d_M_covers_101 : decode prog_14_method_43_code 101 = .ok (.iload_n 1, 1) := by decide +kernel
theorem d_M_covers_102 : decode prog_14_method_43_code 102 = .ok (.laload, 1) := by decide +kernel
theorem d_M_covers_103 : decode prog_14_method_43_code 103 = .ok (.aload_n 0, 1) := by decide +kernel
theorem d_M_covers_104 : decode prog_14_method_43_code 104 = .ok (.getfield 116, 3) := by decide +kernel
theorem d_M_covers_107 : decode prog_14_method_43_code 107 = .ok (.iload_n 2, 1) := by decide +kernel
theorem d_M_covers_108 : decode prog_14_method_43_code 108 = .ok (.laload, 1) := by decide +kernel
theorem d_M_covers_109 : decode prog_14_method_43_code 109 = .ok (.lcmp, 1) := by decide +kernel
theorem d_M_covers_110 : decode prog_14_method_43_code 110 = .ok (.ifCond .gt 23, 3) := by decide +kernel
theorem d_M_covers_113 : decode prog_14_method_43_code 113 = .ok (.aload_n 0, 1) := by decide +kernel
theorem d_M_covers_114 : decode prog_14_method_43_code 114 = .ok (.getfield 119, 3) := by decide +kernel
theorem d_M_covers_117 : decode prog_14_method_43_code 117 = .ok (.iload_n 1, 1) := by decide +kernel
theorem d_M_covers_118 : decode prog_14_method_43_code 118 = .ok (.laload, 1) := by decide +kernel
theorem d_M_covers_119 : decode prog_14_method_43_code 119 = .ok (.aload_n 0, 1) := by decide +kernel
theorem d_M_covers_120 : decode prog_14_method_43_code 120 = .ok (.getfield 119, 3) := by decide +kernel
theorem d_M_covers_123 : decode prog_14_method_43_code 123 = .ok (.iload_n 2, 1) := by decide +kernel
theorem d_M_covers_124 : decode prog_14_method_43_code 124 = .ok (.laload, 1) := by decide +kernel
theorem d_M_covers_125 : decode prog_14_method_43_code 125 = .ok (.lcmp, 1) := by decide +kernel
theorem d_M_covers_126 : decode prog_14_method_43_code 126 = .ok (.ifCond .lt 7, 3) := by decide +kernel
theorem d_M_covers_129 : decode prog_14_method_43_code 129 = .ok (.iconst 1, 1) := by decide +kernel
theorem d_M_covers_130 : decode prog_14_method_43_code 130 = .ok (.goto 4, 3) := by decide +kernel
theorem d_M_covers_55 : decode prog_14_method_43_code 55 = .ok (.iconst 0, 1) := by decide +kernel
theorem d_M_covers_0 : decode prog_14_method_43_code 0 = .ok (.aload_n 0, 1) := by decide +kernel
theorem d_M_covers_1 : decode prog_14_method_43_code 1 = .ok (.getfield 107, 3) := by decide +kernel
theorem d_M_covers_4 : decode prog_14_method_43_code 4 = .ok (.iload_n 2, 1) := by decide +kernel
theorem d_M_covers_5 : decode prog_14_method_43_code 5 = .ok (.laload, 1) := by decide +kernel
theorem d_M_covers_6 : decode prog_14_method_43_code 6 = .ok (.aload_n 0, 1) := by decide +kernel
theorem d_M_covers_7 : decode prog_14_method_43_code 7 = .ok (.getfield 107, 3) := by decide +kernel
theorem d_M_covers_10 : decode prog_14_method_43_code 10 = .ok (.iload_n 1, 1) := by decide +kernel
theorem d_M_covers_11 : decode prog_14_method_43_code 11 = .ok (.laload, 1) := by decide +kernel
theorem d_M_covers_12 : decode prog_14_method_43_code 12 = .ok (.ldc2_w 162, 3) := by decide +kernel
theorem d_M_covers_15 : decode prog_14_method_43_code 15 = .ok (.lxor, 1) := by decide +kernel
theorem d_M_covers_16 : decode prog_14_method_43_code 16 = .ok (.land, 1) := by decide +kernel
theorem d_M_covers_17 : decode prog_14_method_43_code 17 = .ok (.lconst 0, 1) := by decide +kernel
theorem d_M_covers_18 : decode prog_14_method_43_code 18 = .ok (.lcmp, 1) := by decide +kernel
theorem d_M_covers_19 : decode prog_14_method_43_code 19 = .ok (.ifCond .ne 36, 3) := by decide +kernel
theorem d_M_covers_22 : decode prog_14_method_43_code 22 = .ok (.aload_n 0, 1) := by decide +kernel
theorem d_M_covers_23 : decode prog_14_method_43_code 23 = .ok (.getfield 104, 3) := by decide +kernel
theorem d_M_covers_26 : decode prog_14_method_43_code 26 = .ok (.iload_n 1, 1) := by decide +kernel
theorem d_M_covers_27 : decode prog_14_method_43_code 27 = .ok (.laload, 1) := by decide +kernel
theorem d_M_covers_28 : decode prog_14_method_43_code 28 = .ok (.aload_n 0, 1) := by decide +kernel
theorem d_M_covers_29 : decode prog_14_method_43_code 29 = .ok (.getfield 104, 3) := by decide +kernel
theorem d_M_covers_32 : decode prog_14_method_43_code 32 = .ok (.iload_n 2, 1) := by decide +kernel
theorem d_M_covers_33 : decode prog_14_method_43_code 33 = .ok (.laload, 1) := by decide +kernel
theorem d_M_covers_34 : decode prog_14_method_43_code 34 = .ok (.lxor, 1) := by decide +kernel
theorem d_M_covers_35 : decode prog_14_method_43_code 35 = .ok (.aload_n 0, 1) := by decide +kernel
theorem d_M_covers_36 : decode prog_14_method_43_code 36 = .ok (.getfield 107, 3) := by decide +kernel
theorem d_M_covers_39 : decode prog_14_method_43_code 39 = .ok (.iload_n 1, 1) := by decide +kernel
theorem d_M_covers_40 : decode prog_14_method_43_code 40 = .ok (.laload, 1) := by decide +kernel
theorem d_M_covers_41 : decode prog_14_method_43_code 41 = .ok (.ldc2_w 162, 3) := by decide +kernel
theorem d_M_covers_44 : decode prog_14_method_43_code 44 = .ok (.lxor, 1) := by decide +kernel
theorem d_M_covers_45 : decode prog_14_method_43_code 45 = .ok (.land, 1) := by decide +kernel
theorem d_M_covers_46 : decode prog_14_method_43_code 46 = .ok (.lconst 0, 1) := by decide +kernel
theorem d_M_covers_47 : decode prog_14_method_43_code 47 = .ok (.lcmp, 1) := by decide +kernel
theorem d_M_covers_48 : decode prog_14_method_43_code 48 = .ok (.ifCond .ne 7, 3) := by decide +kernel
theorem d_M_covers_51 : decode prog_14_method_43_code 51 = .ok (.iconst 1, 1) := by decide +kernel
theorem d_M_covers_52 : decode prog_14_method_43_code 52 = .ok (.goto 4, 3) := by decide +kernel
abbrev y_M_covers : MethodName := ⟨"FilterGuardModel", "covers", "(II)Z"⟩
def rm_M_covers : Room := { frames := 2, cells := 0, slots := 0, locals := 43 }
abbrev q_M_covers (D : va_G) (ad : Nat → Nat → Nat) (ca : Nat → ClassId) (N : Nat → Nat) (M0 MZ : me_M) (RZ : Int32) (A : Nat → Prop) : Array Value → Jvm.State → Outcome → Jvm.State → Prop := va_Qi (fun r (_ : Unit) => r = RZ ∧ me_wf N MZ ∧ me_kp M0 MZ ∧ (RZ = 1 ∨ RZ = 0)) (fg_B D A (fun _ => me_W ad ca MZ) (fun _ => [])) A
set_option maxHeartbeats 4000000 in
set_option maxRecDepth 100000 in
theorem c_M_covers (l : Launch) (D : va_G) (ad : Nat → Nat → Nat) (ca : Nat → ClassId) (N : Nat → Nat) (M0 MZ : me_M) (RZ : Int32) (j0 : Nat) (x1 : Int32) (x2 : Int32) (h : f_M_covers M0 j0 x1 x2 = (some (MZ, RZ))) (hwf : me_wf N M0) (hj0 : j0 < N 1) (sz : Nat) : Met l y_M_covers (fg_w y_M_covers prog_14_method_43_code 4 (some .boolean)) rm_M_covers (va_Pc [.ref (ad 1 j0), .int x1, .int x2] (fz_P D (me_T ca) (me_W ad ca M0) sz)) (q_M_covers D ad ca N M0 MZ RZ (va_A (me_W ad ca M0) sz)) rm_M_covers.cells rm_M_covers.slots (va_A (me_W ad ca M0) sz) := by
  refine fz_enter (fun A => q_M_covers D ad ca N M0 MZ RZ A) (by decide +kernel) (Nat.le_of_ble_eq_true rfl) ?_
  intro p e s m below meth c ls A hx hb hml hown hts hr hlocks hin hP hK hD hS hA hX hl hz
  have hl : lv_has ls 4 [(0, .ref (ad 1 j0)), (1, .int x1), (2, .int x2)] := hl
  unfold f_M_covers at h
  have hkp : me_kp M0 M0 := me_kp.rf
  have hkb := hkp
  have b_56 : ∀ (M : me_M) (s0 : Int32) (H : Heap) (locs : List Loc) (ls : Array Slot), f_M_covers_b56 j0 x1 x2 M s0 = (some (MZ, RZ)) → (s0 = 1 ∨ s0 = 0) → me_wf N M → me_kp M0 M → va_P D classes (me_W ad ca M) H → va_D A (me_W ad ca M) → va_S A s.heap H locs → lv_has ls 4 [(0, .ref (ad 1 j0)), (1, .int x1), (2, .int x2)] → W p l e rm_M_covers s m [.ref (ad 1 j0), .int x1, .int x2].toArray below meth c H locs 0 0 (MQ below (q_M_covers D ad ca N M0 MZ RZ A) [.ref (ad 1 j0), .int x1, .int x2].toArray s rm_M_covers.cells rm_M_covers.slots A) (F0 m 56 ls [.int s0]) := by
    intro M s0 H locs ls h zs0 hwf hkp hP hD hS hl
    unfold f_M_covers_b56 at h
    have hkb := hkp
    refine lv_istore_n (lv' := [(3, .int s0), (0, .ref (ad 1 j0)), (1, .int x1), (2, .int x2)]) hx hb d_M_covers_56 rfl hl (by decide) rfl (fun ls hl => ?_)
    refine lv_iload_n hx hb d_M_covers_57 rfl (lv_at hl 0 rfl) ?_
    refine lv_if_eq (tgt := 133) hx hb d_M_covers_58 (by decide) (fun c1 => ?_) (fun c1 => ?_)
    · have h := if_t c1 h
      refine lv_iconst (v := 0) hx hb d_M_covers_133 (by decide) ?_
      exact me_retz (me_kp M0) h (by decide) hx hb hr hlocks hwf hkp hP hK hD hS d_M_covers_134
    have h := if_f c1 h
    refine lv_aload_n hx hb d_M_covers_61 rfl (lv_at hl 1 rfl) ?_
    refine g_M_54 hx hb hts hown hK hP hwf hj0 (hts _ u_1795) d_M_covers_62 ?_
    obtain ⟨j2, e3, h⟩ := bd_ob h
    have hj2 : j2 < N 16 := (hwf.2.1 1 j0 54 _ e3 (by decide) hj0)
    refine me_opt (j := j2) e3 ?_
    refine lv_iload_n hx hb d_M_covers_65 rfl (lv_at hl 3 rfl) ?_
    obtain ⟨g4, h⟩ := gd_ob h
    refine me_lald hx hb hK hP hwf hj2 g4 d_M_covers_66 ?_
    refine lv_aload_n hx hb d_M_covers_67 rfl (lv_at hl 1 rfl) ?_
    refine g_M_54 hx hb hts hown hK hP hwf hj0 (hts _ u_1795) d_M_covers_68 ?_
    refine me_opt (j := j2) e3 ?_
    refine lv_iload_n hx hb d_M_covers_71 rfl (lv_at hl 2 rfl) ?_
    obtain ⟨g5, h⟩ := gd_ob h
    refine me_lald hx hb hK hP hwf hj2 g5 d_M_covers_72 ?_
    obtain ⟨r6, er6, h⟩ := bd_ob h
    refine me_pani' (r0 := r6) (fg_runS (wc := []) (tc := []) (A2 := A) (As := [.long (mL M 16 j2 x2.toNatClampNeg), .long (mL M 16 j2 x1.toNatClampNeg)]) (rest := []) ⟨hx, hb, hml, hown, hts⟩ (c_M_below l D r6 (mL M 16 j2 x2.toNatClampNeg) (mL M 16 j2 x1.toNatClampNeg) er6 _) (by show fg_nm y_M_below 2; decide +kernel) u_2072 u_2073 u_192 u_2074 ⟨Nat.le_of_ble_eq_true rfl, Nat.le_of_ble_eq_true rfl⟩ hX me_P0 (hK.sub (tys' := []) [] rfl) me_D0 rfl hl.1 (Nat.le_of_ble_eq_true rfl) d_M_covers_73 ⟨Nat.le_of_ble_eq_true rfl, Nat.le_of_ble_eq_true rfl⟩) hP hD hK hS hA rfl rfl (fun H locs hw hP hD hS => ?_)
    have zr6 := hw
    refine lv_if_ne (tgt := 133) hx hb d_M_covers_76 (by decide) (fun c7 => ?_) (fun c7 => ?_)
    · have h := if_f c7 h
      refine lv_iconst (v := 0) hx hb d_M_covers_133 (by decide) ?_
      exact me_retz (me_kp M0) h (by decide) hx hb hr hlocks hwf hkp hP hK hD hS d_M_covers_134
    have h := if_t c7 h
    refine lv_aload_n hx hb d_M_covers_79 rfl (lv_at hl 1 rfl) ?_
    refine g_M_55 hx hb hts hown hK hP hwf hj0 (hts _ u_1796) d_M_covers_80 ?_
    obtain ⟨j8, e9, h⟩ := bd_ob h
    have hj8 : j8 < N 16 := (hwf.2.1 1 j0 55 _ e9 (by decide) hj0)
    refine me_opt (j := j8) e9 ?_
    refine lv_iload_n hx hb d_M_covers_83 rfl (lv_at hl 2 rfl) ?_
    obtain ⟨g10, h⟩ := gd_ob h
    refine me_lald hx hb hK hP hwf hj8 g10 d_M_covers_84 ?_
    refine lv_aload_n hx hb d_M_covers_85 rfl (lv_at hl 1 rfl) ?_
    refine g_M_55 hx hb hts hown hK hP hwf hj0 (hts _ u_1796) d_M_covers_86 ?_
    refine me_opt (j := j8) e9 ?_
    refine lv_iload_n hx hb d_M_covers_89 rfl (lv_at hl 3 rfl) ?_
    obtain ⟨g11, h⟩ := gd_ob h
    refine me_lald hx hb hK hP hwf hj8 g11 d_M_covers_90 ?_
    obtain ⟨r12, er12, h⟩ := bd_ob h
    refine me_pani' (r0 := r12) (fg_runS (wc := []) (tc := []) (A2 := A) (As := [.long (mL M 16 j8 x1.toNatClampNeg), .long (mL M 16 j8 x2.toNatClampNeg)]) (rest := []) ⟨hx, hb, hml, hown, hts⟩ (c_M_below l D r12 (mL M 16 j8 x1.toNatClampNeg) (mL M 16 j8 x2.toNatClampNeg) er12 _) (by show fg_nm y_M_below 2; decide +kernel) u_2072 u_2073 u_192 u_2074 ⟨Nat.le_of_ble_eq_true rfl, Nat.le_of_ble_eq_true rfl⟩ hX me_P0 (hK.sub (tys' := []) [] rfl) me_D0 rfl hl.1 (Nat.le_of_ble_eq_true rfl) d_M_covers_91 ⟨Nat.le_of_ble_eq_true rfl, Nat.le_of_ble_eq_true rfl⟩) hP hD hK hS hA rfl rfl (fun H locs hw hP hD hS => ?_)
    have zr12 := hw
    refine lv_if_ne (tgt := 133) hx hb d_M_covers_94 (by decide) (fun c13 => ?_) (fun c13 => ?_)
    · have h := if_f c13 h
      refine lv_iconst (v := 0) hx hb d_M_covers_133 (by decide) ?_
      exact me_retz (me_kp M0) h (by decide) hx hb hr hlocks hwf hkp hP hK hD hS d_M_covers_134
    have h := if_t c13 h
    refine lv_aload_n hx hb d_M_covers_97 rfl (lv_at hl 1 rfl) ?_
    refine g_M_56 hx hb hts hown hK hP hwf hj0 (hts _ u_1797) d_M_covers_98 ?_
    obtain ⟨j14, e15, h⟩ := bd_ob h
    have hj14 : j14 < N 16 := (hwf.2.1 1 j0 56 _ e15 (by decide) hj0)
    refine me_opt (j := j14) e15 ?_
    refine lv_iload_n hx hb d_M_covers_101 rfl (lv_at hl 2 rfl) ?_
    obtain ⟨g16, h⟩ := gd_ob h
    refine me_lald hx hb hK hP hwf hj14 g16 d_M_covers_102 ?_
    refine lv_aload_n hx hb d_M_covers_103 rfl (lv_at hl 1 rfl) ?_
    refine g_M_56 hx hb hts hown hK hP hwf hj0 (hts _ u_1797) d_M_covers_104 ?_
    refine me_opt (j := j14) e15 ?_
    refine lv_iload_n hx hb d_M_covers_107 rfl (lv_at hl 3 rfl) ?_
    obtain ⟨g17, h⟩ := gd_ob h
    refine me_lald hx hb hK hP hwf hj14 g17 d_M_covers_108 ?_
    refine W.lcmp hx hb d_M_covers_109 ?_
    refine lv_if_gt (tgt := 133) hx hb d_M_covers_110 (by decide) (fun c18 => ?_) (fun c18 => ?_)
    · have h := if_t ((lg_cmp_gt _ _).mp c18) h
      refine lv_iconst (v := 0) hx hb d_M_covers_133 (by decide) ?_
      exact me_retz (me_kp M0) h (by decide) hx hb hr hlocks hwf hkp hP hK hD hS d_M_covers_134
    have h := if_f (fun z => c18 ((lg_cmp_gt _ _).mpr z)) h
    refine lv_aload_n hx hb d_M_covers_113 rfl (lv_at hl 1 rfl) ?_
    refine g_M_57 hx hb hts hown hK hP hwf hj0 (hts _ u_1798) d_M_covers_114 ?_
    obtain ⟨j19, e20, h⟩ := bd_ob h
    have hj19 : j19 < N 16 := (hwf.2.1 1 j0 57 _ e20 (by decide) hj0)
    refine me_opt (j := j19) e20 ?_
    refine lv_iload_n hx hb d_M_covers_117 rfl (lv_at hl 2 rfl) ?_
    obtain ⟨g21, h⟩ := gd_ob h
    refine me_lald hx hb hK hP hwf hj19 g21 d_M_covers_118 ?_
    refine lv_aload_n hx hb d_M_covers_119 rfl (lv_at hl 1 rfl) ?_
    refine g_M_57 hx hb hts hown hK hP hwf hj0 (hts _ u_1798) d_M_covers_120 ?_
    refine me_opt (j := j19) e20 ?_
    refine lv_iload_n hx hb d_M_covers_123 rfl (lv_at hl 3 rfl) ?_
    obtain ⟨g22, h⟩ := gd_ob h
    refine me_lald hx hb hK hP hwf hj19 g22 d_M_covers_124 ?_
    refine W.lcmp hx hb d_M_covers_125 ?_
    refine lv_if_lt (tgt := 133) hx hb d_M_covers_126 (by decide) (fun c23 => ?_) (fun c23 => ?_)
    · have h := if_t ((lg_cmp_lt _ _).mp c23) h
      refine lv_iconst (v := 0) hx hb d_M_covers_133 (by decide) ?_
      exact me_retz (me_kp M0) h (by decide) hx hb hr hlocks hwf hkp hP hK hD hS d_M_covers_134
    have h := if_f (fun z => c23 ((lg_cmp_lt _ _).mpr z)) h
    refine lv_iconst (v := 1) hx hb d_M_covers_129 (by decide) ?_
    refine lv_goto (tgt := 134) hx hb d_M_covers_130 (by decide) ?_
    exact me_retz (me_kp M0) h (by decide) hx hb hr hlocks hwf hkp hP hK hD hS d_M_covers_134
  have b_55 : ∀ (M : me_M) (H : Heap) (locs : List Loc) (ls : Array Slot), f_M_covers_b55 j0 x1 x2 M = (some (MZ, RZ)) → me_wf N M → me_kp M0 M → va_P D classes (me_W ad ca M) H → va_D A (me_W ad ca M) → va_S A s.heap H locs → lv_has ls 4 [(0, .ref (ad 1 j0)), (1, .int x1), (2, .int x2)] → W p l e rm_M_covers s m [.ref (ad 1 j0), .int x1, .int x2].toArray below meth c H locs 0 0 (MQ below (q_M_covers D ad ca N M0 MZ RZ A) [.ref (ad 1 j0), .int x1, .int x2].toArray s rm_M_covers.cells rm_M_covers.slots A) (F0 m 55 ls []) := by
    intro M H locs ls h hwf hkp hP hD hS hl
    unfold f_M_covers_b55 at h
    have hkb := hkp
    refine lv_iconst (v := 0) hx hb d_M_covers_55 (by decide) ?_
    exact b_56 M (0 : Int32) _ _ _ h (by decide) hwf hkp hP hD hS (lv_sub hl [0, 1, 2] rfl)
  refine lv_aload_n hx hb d_M_covers_0 rfl (lv_at hl 0 rfl) ?_
  refine g_M_53 hx hb hts hown hK hP hwf hj0 (hts _ u_1794) d_M_covers_1 ?_
  obtain ⟨j24, e25, h⟩ := bd_ob h
  have hj24 : j24 < N 16 := (hwf.2.1 1 j0 53 _ e25 (by decide) hj0)
  refine me_opt (j := j24) e25 ?_
  refine lv_iload_n hx hb d_M_covers_4 rfl (lv_at hl 2 rfl) ?_
  obtain ⟨g26, h⟩ := gd_ob h
  refine me_lald hx hb hK hP hwf hj24 g26 d_M_covers_5 ?_
  refine lv_aload_n hx hb d_M_covers_6 rfl (lv_at hl 0 rfl) ?_
  refine g_M_53 hx hb hts hown hK hP hwf hj0 (hts _ u_1794) d_M_covers_7 ?_
  refine me_opt (j := j24) e25 ?_
  refine lv_iload_n hx hb d_M_covers_10 rfl (lv_at hl 1 rfl) ?_
  obtain ⟨g27, h⟩ := gd_ob h
  refine me_lald hx hb hK hP hwf hj24 g27 d_M_covers_11 ?_
  refine lv_ldc2 hx hb hown (hts _ u_2071) d_M_covers_12 ?_
  refine lv_lxor hx hb d_M_covers_15 ?_
  refine lv_land hx hb d_M_covers_16 ?_
  obtain ⟨v28, ev28, h⟩ := st_ob h
  refine fg_topl (y := v28) ev28.symm ?_
  refine lv_lconst (v := 0) hx hb d_M_covers_17 (by decide) ?_
  refine W.lcmp hx hb d_M_covers_18 ?_
  refine lv_if_ne (tgt := 55) hx hb d_M_covers_19 (by decide) (fun c29 => ?_) (fun c29 => ?_)
  · have h := if_f (fun z => c29 ((lg_cmp_eq _ _).mpr z)) h
    exact b_55 M0 _ _ _ h hwf hkp hP hD hS (lv_sub hl [0, 1, 2] rfl)
  have h := if_t ((lg_cmp_eq _ _).mp c29) h
  refine lv_aload_n hx hb d_M_covers_22 rfl (lv_at hl 0 rfl) ?_
  refine g_M_52 hx hb hts hown hK hP hwf hj0 (hts _ u_1793) d_M_covers_23 ?_
  obtain ⟨j30, e31, h⟩ := bd_ob h
  have hj30 : j30 < N 16 := (hwf.2.1 1 j0 52 _ e31 (by decide) hj0)
  refine me_opt (j := j30) e31 ?_
  refine lv_iload_n hx hb d_M_covers_26 rfl (lv_at hl 1 rfl) ?_
  obtain ⟨g32, h⟩ := gd_ob h
  refine me_lald hx hb hK hP hwf hj30 g32 d_M_covers_27 ?_
  refine lv_aload_n hx hb d_M_covers_28 rfl (lv_at hl 0 rfl) ?_
  refine g_M_52 hx hb hts hown hK hP hwf hj0 (hts _ u_1793) d_M_covers_29 ?_
  refine me_opt (j := j30) e31 ?_
  refine lv_iload_n hx hb d_M_covers_32 rfl (lv_at hl 2 rfl) ?_
  obtain ⟨g33, h⟩ := gd_ob h
  refine me_lald hx hb hK hP hwf hj30 g33 d_M_covers_33 ?_
  refine lv_lxor hx hb d_M_covers_34 ?_
  refine lv_aload_n hx hb d_M_covers_35 rfl (lv_at hl 0 rfl) ?_
  refine g_M_53 hx hb hts hown hK hP hwf hj0 (hts _ u_1794) d_M_covers_36 ?_
  refine me_opt (j := j24) e25 ?_
  refine lv_iload_n hx hb d_M_covers_39 rfl (lv_at hl 1 rfl) ?_
  refine me_lald hx hb hK hP hwf hj24 g27 d_M_covers_40 ?_
  refine lv_ldc2 hx hb hown (hts _ u_2071) d_M_covers_41 ?_
  refine lv_lxor hx hb d_M_covers_44 ?_
  refine lv_land hx hb d_M_covers_45 ?_
  obtain ⟨v34, ev34, h⟩ := st_ob h
  refine fg_topl (y := v34) ev34.symm ?_
  refine lv_lconst (v := 0) hx hb d_M_covers_46 (by decide) ?_
  refine W.lcmp hx hb d_M_covers_47 ?_
  refine lv_if_ne (tgt := 55) hx hb d_M_covers_48 (by decide) (fun c35 => ?_) (fun c35 => ?_)
  · have h := if_f (fun z => c35 ((lg_cmp_eq _ _).mpr z)) h
    exact b_55 M0 _ _ _ h hwf hkp hP hD hS (lv_sub hl [0, 1, 2] rfl)
  have h := if_t ((lg_cmp_eq _ _).mp c35) h
  refine lv_iconst (v := 1) hx hb d_M_covers_51 (by decide) ?_
  refine lv_goto (tgt := 56) hx hb d_M_covers_52 (by decide) ?_
  exact b_56 M0 (1 : Int32) _ _ _ h (by decide) hwf hkp hP hD hS (lv_sub hl [0, 1, 2] rfl)
theorem d_M_opOf_0 : decode prog_14_method_44_code 0 = .ok (.lload_n 0, 1) := by decide +kernel
theorem d_M_opOf_1 : decode prog_14_method_44_code 1 = .ok (.ldc2_w 218, 3) := by decide +kernel
theorem d_M_opOf_4 : decode prog_14_method_44_code 4 = .ok (.land, 1) := by decide +kernel
theorem d_M_opOf_5 : decode prog_14_method_44_code 5 = .ok (.l2i, 1) := by decide +kernel
theorem d_M_opOf_6 : decode prog_14_method_44_code 6 = .ok (.ireturn, 1) := by decide +kernel
abbrev y_M_opOf : MethodName := ⟨"FilterGuardModel", "opOf", "(J)I"⟩
def rm_M_opOf : Room := { frames := 1, cells := 0, slots := 0, locals := 20 }
abbrev q_M_opOf (D : va_G) (RZ : Int32) (A : Nat → Prop) : Array Value → Jvm.State → Outcome → Jvm.State → Prop := va_Qi (fun r (_ : Unit) => r = RZ ∧ True) (fg_B D A (fun _ => []) (fun _ => [])) A
set_option maxHeartbeats 4000000 in
set_option maxRecDepth 100000 in
theorem c_M_opOf (l : Launch) (D : va_G) (RZ : Int32) (x0 : Int64) (h : f_M_opOf x0 = (some RZ)) (sz : Nat) : Met l y_M_opOf (fg_w y_M_opOf prog_14_method_44_code 2 (some .int)) rm_M_opOf (va_Pc [.long x0] (fg_P D [] [] sz)) (q_M_opOf D RZ (va_A [] sz)) rm_M_opOf.cells rm_M_opOf.slots (va_A [] sz) := by
  refine fg_enter (fun A => q_M_opOf D RZ A) (by decide +kernel) (Nat.le_of_ble_eq_true rfl) ?_
  intro p e s m below meth c ls A hx hb hml hown hts hr hlocks hin hP hK hD hS hA hX hl
  have hl : lv_has ls 2 [(0, .long x0)] := hl
  unfold f_M_opOf at h
  refine lv_lload_n hx hb d_M_opOf_0 rfl (lv_at hl 0 rfl) ?_
  refine lv_ldc2 hx hb hown (hts _ u_1980) d_M_opOf_1 ?_
  refine lv_land hx hb d_M_opOf_4 ?_
  refine lv_l2i (v := (x0 &&& 255).toInt32) hx hb d_M_opOf_5 rfl ?_
  exact me_preti h hx hb hr hlocks hK hS d_M_opOf_6
theorem d_M_toOf_0 : decode prog_14_method_45_code 0 = .ok (.lload_n 0, 1) := by decide +kernel
theorem d_M_toOf_1 : decode prog_14_method_45_code 1 = .ok (.bipush 8, 2) := by decide +kernel
theorem d_M_toOf_3 : decode prog_14_method_45_code 3 = .ok (.lshr, 1) := by decide +kernel
theorem d_M_toOf_4 : decode prog_14_method_45_code 4 = .ok (.ldc2_w 303, 3) := by decide +kernel
theorem u_2009 : Cond.constantLong "FilterGuardModel" 303 15 ∈ fg_g := fg_in (List.mem_of_getElem? (i := 2009) (by decide +kernel)) rfl
theorem d_M_toOf_7 : decode prog_14_method_45_code 7 = .ok (.land, 1) := by decide +kernel
theorem d_M_toOf_8 : decode prog_14_method_45_code 8 = .ok (.l2i, 1) := by decide +kernel
theorem d_M_toOf_9 : decode prog_14_method_45_code 9 = .ok (.ireturn, 1) := by decide +kernel
abbrev y_M_toOf : MethodName := ⟨"FilterGuardModel", "toOf", "(J)I"⟩
def rm_M_toOf : Room := { frames := 1, cells := 0, slots := 0, locals := 20 }
abbrev q_M_toOf (D : va_G) (RZ : Int32) (A : Nat → Prop) : Array Value → Jvm.State → Outcome → Jvm.State → Prop := va_Qi (fun r (_ : Unit) => r = RZ ∧ True) (fg_B D A (fun _ => []) (fun _ => [])) A
set_option maxHeartbeats 4000000 in
set_option maxRecDepth 100000 in
theorem c_M_toOf (l : Launch) (D : va_G) (RZ : Int32) (x0 : Int64) (h : f_M_toOf x0 = (some RZ)) (sz : Nat) : Met l y_M_toOf (fg_w y_M_toOf prog_14_method_45_code 2 (some .int)) rm_M_toOf (va_Pc [.long x0] (fg_P D [] [] sz)) (q_M_toOf D RZ (va_A [] sz)) rm_M_toOf.cells rm_M_toOf.slots (va_A [] sz) := by
  refine fg_enter (fun A => q_M_toOf D RZ A) (by decide +kernel) (Nat.le_of_ble_eq_true rfl) ?_
  intro p e s m below meth c ls A hx hb hml hown hts hr hlocks hin hP hK hD hS hA hX hl
  have hl : lv_has ls 2 [(0, .long x0)] := hl
  unfold f_M_toOf at h
  refine lv_lload_n hx hb d_M_toOf_0 rfl (lv_at hl 0 rfl) ?_
  refine lv_bipush (v := 8) hx hb d_M_toOf_1 (by decide) ?_
  refine lv_lshr (v := jlshr x0 (8 : Int32)) hx hb d_M_toOf_3 rfl ?_
  refine lv_ldc2 hx hb hown (hts _ u_2009) d_M_toOf_4 ?_
  refine lv_land hx hb d_M_toOf_7 ?_
  refine lv_l2i (v := ((jlshr x0 (8 : Int32)) &&& 15).toInt32) hx hb d_M_toOf_8 rfl ?_
  exact me_preti h hx hb hr hlocks hK hS d_M_toOf_9
theorem d_M_fromOf_0 : decode prog_14_method_46_code 0 = .ok (.lload_n 0, 1) := by decide +kernel
theorem d_M_fromOf_1 : decode prog_14_method_46_code 1 = .ok (.bipush 12, 2) := by decide +kernel
theorem d_M_fromOf_3 : decode prog_14_method_46_code 3 = .ok (.lshr, 1) := by decide +kernel
theorem d_M_fromOf_4 : decode prog_14_method_46_code 4 = .ok (.ldc2_w 303, 3) := by decide +kernel
theorem d_M_fromOf_7 : decode prog_14_method_46_code 7 = .ok (.land, 1) := by decide +kernel
theorem d_M_fromOf_8 : decode prog_14_method_46_code 8 = .ok (.l2i, 1) := by decide +kernel
theorem d_M_fromOf_9 : decode prog_14_method_46_code 9 = .ok (.ireturn, 1) := by decide +kernel
abbrev y_M_fromOf : MethodName := ⟨"FilterGuardModel", "fromOf", "(J)I"⟩
def rm_M_fromOf : Room := { frames := 1, cells := 0, slots := 0, locals := 20 }
abbrev q_M_fromOf (D : va_G) (RZ : Int32) (A : Nat → Prop) : Array Value → Jvm.State → Outcome → Jvm.State → Prop := va_Qi (fun r (_ : Unit) => r = RZ ∧ True) (fg_B D A (fun _ => []) (fun _ => [])) A
set_option maxHeartbeats 4000000 in
set_option maxRecDepth 100000 in
theorem c_M_fromOf (l : Launch) (D : va_G) (RZ : Int32) (x0 : Int64) (h : f_M_fromOf x0 = (some RZ)) (sz : Nat) : Met l y_M_fromOf (fg_w y_M_fromOf prog_14_method_46_code 2 (some .int)) rm_M_fromOf (va_Pc [.long x0] (fg_P D [] [] sz)) (q_M_fromOf D RZ (va_A [] sz)) rm_M_fromOf.cells rm_M_fromOf.slots (va_A [] sz) := by
  refine fg_enter (fun A => q_M_fromOf D RZ A) (by decide +kernel) (Nat.le_of_ble_eq_true rfl) ?_
  intro p e s m below meth c ls A hx hb hml hown hts hr hlocks hin hP hK hD hS hA hX hl
  have hl : lv_has ls 2 [(0, .long x0)] := hl
  unfold f_M_fromOf at h
  refine lv_lload_n hx hb d_M_fromOf_0 rfl (lv_at hl 0 rfl) ?_
  refine lv_bipush (v := 12) hx hb d_M_fromOf_1 (by decide) ?_
  refine lv_lshr (v := jlshr x0 (12 : Int32)) hx hb d_M_fromOf_3 rfl ?_
  refine lv_ldc2 hx hb hown (hts _ u_2009) d_M_fromOf_4 ?_
  refine lv_land hx hb d_M_fromOf_7 ?_
  refine lv_l2i (v := ((jlshr x0 (12 : Int32)) &&& 15).toInt32) hx hb d_M_fromOf_8 rfl ?_
  exact me_preti h hx hb hr hlocks hK hS d_M_fromOf_9
