theorem d_State_slotAt_0 : decode prog_10_method_5_code 0 = .ok (.bipush 11, 2) := by decide +kernel
theorem d_State_slotAt_2 : decode prog_10_method_5_code 2 = .ok (.iconst 0, 1) := by decide +kernel
theorem d_State_slotAt_3 : decode prog_10_method_5_code 3 = .ok (.iconst (-1), 1) := by decide +kernel
theorem d_State_slotAt_4 : decode prog_10_method_5_code 4 = .ok (.iload_n 1, 1) := by decide +kernel
theorem d_State_slotAt_5 : decode prog_10_method_5_code 5 = .ok (.isub, 1) := by decide +kernel
theorem d_State_slotAt_6 : decode prog_10_method_5_code 6 = .ok (.iconst 3, 1) := by decide +kernel
theorem d_State_slotAt_7 : decode prog_10_method_5_code 7 = .ok (.ishr, 1) := by decide +kernel
theorem d_State_slotAt_8 : decode prog_10_method_5_code 8 = .ok (.bipush 63, 2) := by decide +kernel
theorem d_State_slotAt_10 : decode prog_10_method_5_code 10 = .ok (.invokestatic 40, 3) := by decide +kernel
theorem u_1359 : Cond.methodLink "FilterGuard$State" 40 ⟨"java/lang/Math", "min", "(II)I"⟩ ∈ fg_g := fg_in (List.mem_of_getElem? (i := 1359) (by decide +kernel)) rfl
theorem d_State_slotAt_13 : decode prog_10_method_5_code 13 = .ok (.invokestatic 46, 3) := by decide +kernel
theorem u_1360 : Cond.methodLink "FilterGuard$State" 46 ⟨"java/lang/Math", "max", "(II)I"⟩ ∈ fg_g := fg_in (List.mem_of_getElem? (i := 1360) (by decide +kernel)) rfl
theorem u_1361 : Cond.static ⟨"java/lang/Math", "max", "(II)I"⟩ ∈ fg_g := fg_in (List.mem_of_getElem? (i := 1361) (by decide +kernel)) rfl
theorem u_1362 : Cond.code ⟨"java/lang/Math", "max", "(II)I"⟩ prog_21_method_65_code 2 (some .int) ∈ fg_g := fg_in (List.mem_of_getElem? (i := 1362) (by decide +kernel)) rfl
theorem d_State_slotAt_16 : decode prog_10_method_5_code 16 = .ok (.iadd, 1) := by decide +kernel
theorem d_State_slotAt_17 : decode prog_10_method_5_code 17 = .ok (.istore_n 2, 1) := by decide +kernel
theorem d_State_slotAt_18 : decode prog_10_method_5_code 18 = .ok (.aload_n 0, 1) := by decide +kernel
theorem d_State_slotAt_19 : decode prog_10_method_5_code 19 = .ok (.aload_n 0, 1) := by decide +kernel
theorem d_State_slotAt_20 : decode prog_10_method_5_code 20 = .ok (.getfield 17, 3) := by decide +kernel
theorem d_State_slotAt_23 : decode prog_10_method_5_code 23 = .ok (.iload_n 2, 1) := by decide +kernel
theorem d_State_slotAt_24 : decode prog_10_method_5_code 24 = .ok (.iconst 1, 1) := by decide +kernel
theorem d_State_slotAt_25 : decode prog_10_method_5_code 25 = .ok (.iadd, 1) := by decide +kernel
theorem d_State_slotAt_26 : decode prog_10_method_5_code 26 = .ok (.invokestatic 46, 3) := by decide +kernel
theorem d_State_slotAt_29 : decode prog_10_method_5_code 29 = .ok (.putfield 17, 3) := by decide +kernel
theorem d_State_slotAt_32 : decode prog_10_method_5_code 32 = .ok (.aload_n 0, 1) := by decide +kernel
theorem d_State_slotAt_33 : decode prog_10_method_5_code 33 = .ok (.getfield 11, 3) := by decide +kernel
theorem d_State_slotAt_36 : decode prog_10_method_5_code 36 = .ok (.iload_n 2, 1) := by decide +kernel
theorem d_State_slotAt_37 : decode prog_10_method_5_code 37 = .ok (.aaload, 1) := by decide +kernel
theorem d_State_slotAt_38 : decode prog_10_method_5_code 38 = .ok (.areturn, 1) := by decide +kernel
abbrev y_State_slotAt : MethodName := ⟨"FilterGuard$State", "slotAt", "(I)LFilterGuard$Cell;"⟩
def rm_State_slotAt : Room := { frames := 2, cells := 0, slots := 0, locals := 60 }
abbrev q_State_slotAt (D : va_G) (ad : Nat → Nat → Nat) (ca : Nat → ClassId) (N : Nat → Nat) (M0 MZ : me_M) (RZ : Nat) (A : Nat → Prop) : Array Value → Jvm.State → Outcome → Jvm.State → Prop := va_Qq (fun r (_ : Unit) => r = some (ad 10 RZ) ∧ me_wf N MZ ∧ me_kp M0 MZ ∧ RZ < N 10) (fg_B D A (fun _ => me_W ad ca MZ) (fun _ => [])) A
set_option maxHeartbeats 4000000 in
set_option maxRecDepth 100000 in
theorem c_State_slotAt (l : Launch) (D : va_G) (ad : Nat → Nat → Nat) (ca : Nat → ClassId) (N : Nat → Nat) (M0 MZ : me_M) (RZ : Nat) (j0 : Nat) (x1 : Int32) (h : f_State_slotAt M0 j0 x1 = (some (MZ, RZ))) (hwf : me_wf N M0) (hj0 : j0 < N 9) (sz : Nat) : Met l y_State_slotAt (fg_w y_State_slotAt prog_10_method_5_code 3 (some (.object "FilterGuard$Cell"))) rm_State_slotAt (va_Pc [.ref (ad 9 j0), .int x1] (fz_P D (me_T ca) (me_W ad ca M0) sz)) (q_State_slotAt D ad ca N M0 MZ RZ (va_A (me_W ad ca M0) sz)) rm_State_slotAt.cells rm_State_slotAt.slots (va_A (me_W ad ca M0) sz) := by
  refine fz_enter (fun A => q_State_slotAt D ad ca N M0 MZ RZ A) (by decide +kernel) (Nat.le_of_ble_eq_true rfl) ?_
  intro p e s m below meth c ls A hx hb hml hown hts hr hlocks hin hP hK hD hS hA hX hl hz
  have hl : lv_has ls 3 [(0, .ref (ad 9 j0)), (1, .int x1)] := hl
  unfold f_State_slotAt at h
  have hkp : me_kp M0 M0 := me_kp.rf
  have hkb := hkp
  refine lv_bipush (v := 11) hx hb d_State_slotAt_0 (by decide) ?_
  refine lv_iconst (v := 0) hx hb d_State_slotAt_2 (by decide) ?_
  refine lv_iconst (v := (-1)) hx hb d_State_slotAt_3 (by decide) ?_
  refine lv_iload_n hx hb d_State_slotAt_4 rfl (lv_at hl 1 rfl) ?_
  refine lv_isub hx hb d_State_slotAt_5 ?_
  refine lv_iconst (v := 3) hx hb d_State_slotAt_6 (by decide) ?_
  refine lv_ishr hx hb d_State_slotAt_7 ?_
  refine fg_topi (y := jishr ((-1) - x1) 3) rfl ?_
  refine lv_bipush (v := 63) hx hb d_State_slotAt_8 (by decide) ?_
  refine va_mmin hx hb (hml.trans hl.1.symm) hown (hts _ u_1359) (hts _ u_742) (hts _ u_193) (hts _ u_743) (Nat.le_of_ble_eq_true rfl) (Nat.le_of_ble_eq_true rfl) (Nat.le_of_ble_eq_true rfl) (Nat.le_of_ble_eq_true rfl) d_State_slotAt_10 ?_
  refine fg_topi (y := jimin (jishr ((-1) - x1) 3) (63 : Int32)) rfl ?_
  refine va_mmax hx hb (hml.trans hl.1.symm) hown (hts _ u_1360) (hts _ u_1361) (hts _ u_193) (hts _ u_1362) (Nat.le_of_ble_eq_true rfl) (Nat.le_of_ble_eq_true rfl) (Nat.le_of_ble_eq_true rfl) (Nat.le_of_ble_eq_true rfl) d_State_slotAt_13 ?_
  refine fg_topi (y := jimax (0 : Int32) (jimin (jishr ((-1) - x1) 3) (63 : Int32))) rfl ?_
  refine lv_iadd hx hb d_State_slotAt_16 ?_
  obtain ⟨v1, ev1, h⟩ := st_ob h
  refine fg_topi (y := v1) ev1.symm ?_
  refine lv_istore_n (lv' := [(2, .int v1), (0, .ref (ad 9 j0)), (1, .int x1)]) hx hb d_State_slotAt_17 rfl hl (by decide) rfl (fun ls hl => ?_)
  refine lv_aload_n hx hb d_State_slotAt_18 rfl (lv_at hl 1 rfl) ?_
  refine lv_aload_n hx hb d_State_slotAt_19 rfl (lv_at hl 1 rfl) ?_
  refine g_State_1 hx hb hts hown hK hP hwf hj0 (hts _ u_527) d_State_slotAt_20 ?_
  refine lv_iload_n hx hb d_State_slotAt_23 rfl (lv_at hl 0 rfl) ?_
  refine lv_iconst (v := 1) hx hb d_State_slotAt_24 (by decide) ?_
  refine lv_iadd hx hb d_State_slotAt_25 ?_
  refine va_mmax hx hb (hml.trans hl.1.symm) hown (hts _ u_1360) (hts _ u_1361) (hts _ u_193) (hts _ u_1362) (Nat.le_of_ble_eq_true rfl) (Nat.le_of_ble_eq_true rfl) (Nat.le_of_ble_eq_true rfl) (Nat.le_of_ble_eq_true rfl) d_State_slotAt_26 ?_
  refine fg_topi (y := jimax (mI M0 9 j0 1) (v1 + 1)) rfl ?_
  obtain ⟨M2, eM2, h⟩ := st_ob h
  refine p_State_1 eM2 hx hb hts hown hK hP hD hwf hS hj0 (hts _ u_527) d_State_slotAt_29 (fun H locs hP hD hwf hS => ?_)
  have hkp := kp_I eM2 hkp
  refine lv_aload_n hx hb d_State_slotAt_32 rfl (lv_at hl 1 rfl) ?_
  refine g_State_0 hx hb hts hown hK hP hwf hj0 (hts _ u_523) d_State_slotAt_33 ?_
  obtain ⟨j3, e4, h⟩ := bd_ob h
  have hj3 : j3 < N 18 := (hwf.2.1 9 j0 0 _ (kp_r hkb hkp e4) (by decide) hj0)
  refine me_opt (j := j3) (kp_r hkb hkp e4) ?_
  refine lv_iload_n hx hb d_State_slotAt_36 rfl (lv_at hl 0 rfl) ?_
  obtain ⟨g5, h⟩ := gd_ob h
  refine me_aald (k := 18) (t := 10) hx hb hK hP hwf hj3 (by decide) (by decide) rfl (fun _ => rfl) (kp_z hkb.z hkp.z g5) d_State_slotAt_37 ?_
  obtain ⟨j6, e7, h⟩ := bd_ob h
  have hj6 : j6 < N 10 := (hwf.2.1 18 j3 v1.toNatClampNeg _ (kp_r hkb hkp e7) (by decide) hj3)
  refine me_opt (j := j6) (kp_r hkb hkp e7) ?_
  exact me_retr (me_kp M0) h hj6 hx hb hr hlocks hwf hkp hP hK hD hS d_State_slotAt_38
theorem d_Cell_isReadable_0 : decode prog_2_method_11_code 0 = .ok (.aload_n 0, 1) := by decide +kernel
theorem d_Cell_isReadable_1 : decode prog_2_method_11_code 1 = .ok (.getfield 18, 3) := by decide +kernel
theorem d_Cell_isReadable_4 : decode prog_2_method_11_code 4 = .ok (.iconst 1, 1) := by decide +kernel
theorem d_Cell_isReadable_5 : decode prog_2_method_11_code 5 = .ok (.if_icmp .eq 20, 3) := by decide +kernel
theorem d_Cell_isReadable_25 : decode prog_2_method_11_code 25 = .ok (.iconst 1, 1) := by decide +kernel
theorem d_Cell_isReadable_26 : decode prog_2_method_11_code 26 = .ok (.goto 4, 3) := by decide +kernel
theorem d_Cell_isReadable_30 : decode prog_2_method_11_code 30 = .ok (.ireturn, 1) := by decide +kernel
theorem d_Cell_isReadable_8 : decode prog_2_method_11_code 8 = .ok (.aload_n 0, 1) := by decide +kernel
theorem d_Cell_isReadable_9 : decode prog_2_method_11_code 9 = .ok (.getfield 18, 3) := by decide +kernel
theorem d_Cell_isReadable_12 : decode prog_2_method_11_code 12 = .ok (.ifCond .ne 17, 3) := by decide +kernel
theorem d_Cell_isReadable_29 : decode prog_2_method_11_code 29 = .ok (.iconst 0, 1) := by decide +kernel
theorem d_Cell_isReadable_15 : decode prog_2_method_11_code 15 = .ok (.aload_n 0, 1) := by decide +kernel
theorem d_Cell_isReadable_16 : decode prog_2_method_11_code 16 = .ok (.getfield 22, 3) := by decide +kernel
theorem d_Cell_isReadable_19 : decode prog_2_method_11_code 19 = .ok (.iload_n 1, 1) := by decide +kernel
theorem d_Cell_isReadable_20 : decode prog_2_method_11_code 20 = .ok (.iand, 1) := by decide +kernel
theorem d_Cell_isReadable_21 : decode prog_2_method_11_code 21 = .ok (.iload_n 1, 1) := by decide +kernel
theorem d_Cell_isReadable_22 : decode prog_2_method_11_code 22 = .ok (.if_icmp .ne 7, 3) := by decide +kernel
abbrev y_Cell_isReadable : MethodName := ⟨"FilterGuard$Cell", "isReadable", "(I)Z"⟩
def rm_Cell_isReadable : Room := { frames := 1, cells := 0, slots := 0, locals := 20 }
abbrev q_Cell_isReadable (D : va_G) (ad : Nat → Nat → Nat) (ca : Nat → ClassId) (N : Nat → Nat) (M0 MZ : me_M) (RZ : Int32) (A : Nat → Prop) : Array Value → Jvm.State → Outcome → Jvm.State → Prop := va_Qi (fun r (_ : Unit) => r = RZ ∧ me_wf N MZ ∧ me_kp M0 MZ ∧ (RZ = 1 ∨ RZ = 0)) (fg_B D A (fun _ => me_W ad ca MZ) (fun _ => [])) A
set_option maxHeartbeats 4000000 in
set_option maxRecDepth 100000 in
theorem c_Cell_isReadable (l : Launch) (D : va_G) (ad : Nat → Nat → Nat) (ca : Nat → ClassId) (N : Nat → Nat) (M0 MZ : me_M) (RZ : Int32) (j0 : Nat) (x1 : Int32) (h : f_Cell_isReadable M0 j0 x1 = (some (MZ, RZ))) (hwf : me_wf N M0) (hj0 : j0 < N 10) (sz : Nat) : Met l y_Cell_isReadable (fg_w y_Cell_isReadable prog_2_method_11_code 2 (some .boolean)) rm_Cell_isReadable (va_Pc [.ref (ad 10 j0), .int x1] (fz_P D (me_T ca) (me_W ad ca M0) sz)) (q_Cell_isReadable D ad ca N M0 MZ RZ (va_A (me_W ad ca M0) sz)) rm_Cell_isReadable.cells rm_Cell_isReadable.slots (va_A (me_W ad ca M0) sz) := by
  refine fz_enter (fun A => q_Cell_isReadable D ad ca N M0 MZ RZ A) (by decide +kernel) (Nat.le_of_ble_eq_true rfl) ?_
  intro p e s m below meth c ls A hx hb hml hown hts hr hlocks hin hP hK hD hS hA hX hl hz
  have hl : lv_has ls 2 [(0, .ref (ad 10 j0)), (1, .int x1)] := hl
  unfold f_Cell_isReadable at h
  have hkp : me_kp M0 M0 := me_kp.rf
  have hkb := hkp
  refine lv_aload_n hx hb d_Cell_isReadable_0 rfl (lv_at hl 0 rfl) ?_
  refine g_Cell_0 hx hb hts hown hK hP hwf hj0 (hts _ u_420) d_Cell_isReadable_1 ?_
  refine lv_iconst (v := 1) hx hb d_Cell_isReadable_4 (by decide) ?_
  refine lv_icmp_eq (tgt := 25) hx hb d_Cell_isReadable_5 (by decide) (fun c1 => ?_) (fun c1 => ?_)
  · have h := if_t c1 h
    refine lv_iconst (v := 1) hx hb d_Cell_isReadable_25 (by decide) ?_
    refine lv_goto (tgt := 30) hx hb d_Cell_isReadable_26 (by decide) ?_
    exact me_retz (me_kp M0) h (by decide) hx hb hr hlocks hwf hkp hP hK hD hS d_Cell_isReadable_30
  have h := if_f c1 h
  refine lv_aload_n hx hb d_Cell_isReadable_8 rfl (lv_at hl 0 rfl) ?_
  refine g_Cell_0 hx hb hts hown hK hP hwf hj0 (hts _ u_420) d_Cell_isReadable_9 ?_
  refine lv_if_ne (tgt := 29) hx hb d_Cell_isReadable_12 (by decide) (fun c2 => ?_) (fun c2 => ?_)
  · have h := if_f c2 h
    refine lv_iconst (v := 0) hx hb d_Cell_isReadable_29 (by decide) ?_
    exact me_retz (me_kp M0) h (by decide) hx hb hr hlocks hwf hkp hP hK hD hS d_Cell_isReadable_30
  have h := if_t c2 h
  refine lv_aload_n hx hb d_Cell_isReadable_15 rfl (lv_at hl 0 rfl) ?_
  refine g_Cell_5 hx hb hts hown hK hP hwf hj0 (hts _ u_433) d_Cell_isReadable_16 ?_
  refine lv_iload_n hx hb d_Cell_isReadable_19 rfl (lv_at hl 1 rfl) ?_
  refine lv_iand hx hb d_Cell_isReadable_20 ?_
  refine lv_iload_n hx hb d_Cell_isReadable_21 rfl (lv_at hl 1 rfl) ?_
  refine lv_icmp_ne (tgt := 29) hx hb d_Cell_isReadable_22 (by decide) (fun c3 => ?_) (fun c3 => ?_)
  · have h := if_f c3 h
    refine lv_iconst (v := 0) hx hb d_Cell_isReadable_29 (by decide) ?_
    exact me_retz (me_kp M0) h (by decide) hx hb hr hlocks hwf hkp hP hK hD hS d_Cell_isReadable_30
  have h := if_t c3 h
  refine lv_iconst (v := 1) hx hb d_Cell_isReadable_25 (by decide) ?_
  refine lv_goto (tgt := 30) hx hb d_Cell_isReadable_26 (by decide) ?_
  exact me_retz (me_kp M0) h (by decide) hx hb hr hlocks hwf hkp hP hK hD hS d_Cell_isReadable_30
theorem d_Steps_isStackReadable_17 : decode prog_11_method_23_code 17 = .ok (.iload_n 3, 1) := by decide +kernel
theorem d_Steps_isStackReadable_18 : decode prog_11_method_23_code 18 = .ok (.iload_n 1, 1) := by decide +kernel
theorem d_Steps_isStackReadable_19 : decode prog_11_method_23_code 19 = .ok (.iload_n 2, 1) := by decide +kernel
theorem d_Steps_isStackReadable_20 : decode prog_11_method_23_code 20 = .ok (.iadd, 1) := by decide +kernel
theorem d_Steps_isStackReadable_21 : decode prog_11_method_23_code 21 = .ok (.if_icmp .ge 31, 3) := by decide +kernel
theorem d_Steps_isStackReadable_52 : decode prog_11_method_23_code 52 = .ok (.iconst 1, 1) := by decide +kernel
theorem d_Steps_isStackReadable_53 : decode prog_11_method_23_code 53 = .ok (.ireturn, 1) := by decide +kernel
theorem d_Steps_isStackReadable_24 : decode prog_11_method_23_code 24 = .ok (.aload_n 0, 1) := by decide +kernel
theorem d_Steps_isStackReadable_25 : decode prog_11_method_23_code 25 = .ok (.getfield 56, 3) := by decide +kernel
theorem d_Steps_isStackReadable_28 : decode prog_11_method_23_code 28 = .ok (.iload_n 3, 1) := by decide +kernel
theorem d_Steps_isStackReadable_29 : decode prog_11_method_23_code 29 = .ok (.invokevirtual 290, 3) := by decide +kernel
theorem u_1355 : Cond.methodLink "FilterGuard$Steps" 290 ⟨"FilterGuard$State", "slotAt", "(I)LFilterGuard$Cell;"⟩ ∈ fg_g := fg_in (List.mem_of_getElem? (i := 1355) (by decide +kernel)) rfl
theorem u_1358 : Cond.code ⟨"FilterGuard$State", "slotAt", "(I)LFilterGuard$Cell;"⟩ prog_10_method_5_code 3 (some (.object "FilterGuard$Cell")) ∈ fg_g := fg_in (List.mem_of_getElem? (i := 1358) (by decide +kernel)) rfl
theorem u_1356 : Cond.instanceMethod ⟨"FilterGuard$State", "slotAt", "(I)LFilterGuard$Cell;"⟩ ∈ fg_g := fg_in (List.mem_of_getElem? (i := 1356) (by decide +kernel)) rfl
theorem u_1357 : Cond.selects "FilterGuard$State" ⟨"FilterGuard$State", "slotAt", "(I)LFilterGuard$Cell;"⟩ ⟨"FilterGuard$State", "slotAt", "(I)LFilterGuard$Cell;"⟩ ∈ fg_g := fg_in (List.mem_of_getElem? (i := 1357) (by decide +kernel)) rfl
theorem d_Steps_isStackReadable_32 : decode prog_11_method_23_code 32 = .ok (.iconst 1, 1) := by decide +kernel
theorem d_Steps_isStackReadable_33 : decode prog_11_method_23_code 33 = .ok (.iload_n 3, 1) := by decide +kernel
theorem d_Steps_isStackReadable_34 : decode prog_11_method_23_code 34 = .ok (.bipush 7, 2) := by decide +kernel
theorem d_Steps_isStackReadable_36 : decode prog_11_method_23_code 36 = .ok (.iand, 1) := by decide +kernel
theorem d_Steps_isStackReadable_37 : decode prog_11_method_23_code 37 = .ok (.ishl, 1) := by decide +kernel
theorem d_Steps_isStackReadable_38 : decode prog_11_method_23_code 38 = .ok (.invokevirtual 297, 3) := by decide +kernel
theorem u_1363 : Cond.methodLink "FilterGuard$Steps" 297 ⟨"FilterGuard$Cell", "isReadable", "(I)Z"⟩ ∈ fg_g := fg_in (List.mem_of_getElem? (i := 1363) (by decide +kernel)) rfl
theorem u_1366 : Cond.code ⟨"FilterGuard$Cell", "isReadable", "(I)Z"⟩ prog_2_method_11_code 2 (some .boolean) ∈ fg_g := fg_in (List.mem_of_getElem? (i := 1366) (by decide +kernel)) rfl
theorem u_1364 : Cond.instanceMethod ⟨"FilterGuard$Cell", "isReadable", "(I)Z"⟩ ∈ fg_g := fg_in (List.mem_of_getElem? (i := 1364) (by decide +kernel)) rfl
theorem u_1365 : Cond.selects "FilterGuard$Cell" ⟨"FilterGuard$Cell", "isReadable", "(I)Z"⟩ ⟨"FilterGuard$Cell", "isReadable", "(I)Z"⟩ ∈ fg_g := fg_in (List.mem_of_getElem? (i := 1365) (by decide +kernel)) rfl
theorem d_Steps_isStackReadable_41 : decode prog_11_method_23_code 41 = .ok (.ifCond .ne 5, 3) := by decide +kernel
theorem d_Steps_isStackReadable_46 : decode prog_11_method_23_code 46 = .ok (.iinc 3 1, 3) := by decide +kernel
theorem d_Steps_isStackReadable_49 : decode prog_11_method_23_code 49 = .ok (.goto (-32), 3) := by decide +kernel
theorem d_Steps_isStackReadable_44 : decode prog_11_method_23_code 44 = .ok (.iconst 0, 1) := by decide +kernel
theorem d_Steps_isStackReadable_45 : decode prog_11_method_23_code 45 = .ok (.ireturn, 1) := by decide +kernel
theorem d_Steps_isStackReadable_0 : decode prog_11_method_23_code 0 = .ok (.iload_n 1, 1) := by decide +kernel
theorem d_Steps_isStackReadable_1 : decode prog_11_method_23_code 1 = .ok (.sipush (-512), 3) := by decide +kernel
theorem d_Steps_isStackReadable_4 : decode prog_11_method_23_code 4 = .ok (.if_icmp .lt 9, 3) := by decide +kernel
theorem d_Steps_isStackReadable_13 : decode prog_11_method_23_code 13 = .ok (.iconst 0, 1) := by decide +kernel
theorem d_Steps_isStackReadable_14 : decode prog_11_method_23_code 14 = .ok (.ireturn, 1) := by decide +kernel
theorem d_Steps_isStackReadable_7 : decode prog_11_method_23_code 7 = .ok (.iload_n 1, 1) := by decide +kernel
theorem d_Steps_isStackReadable_8 : decode prog_11_method_23_code 8 = .ok (.iload_n 2, 1) := by decide +kernel
theorem d_Steps_isStackReadable_9 : decode prog_11_method_23_code 9 = .ok (.iadd, 1) := by decide +kernel
theorem d_Steps_isStackReadable_10 : decode prog_11_method_23_code 10 = .ok (.ifCond .le 5, 3) := by decide +kernel
theorem d_Steps_isStackReadable_15 : decode prog_11_method_23_code 15 = .ok (.iload_n 1, 1) := by decide +kernel
theorem d_Steps_isStackReadable_16 : decode prog_11_method_23_code 16 = .ok (.istore_n 3, 1) := by decide +kernel
abbrev y_Steps_isStackReadable : MethodName := ⟨"FilterGuard$Steps", "isStackReadable", "(II)Z"⟩
def rm_Steps_isStackReadable : Room := { frames := 3, cells := 0, slots := 0, locals := 82 }
abbrev q_Steps_isStackReadable (D : va_G) (ad : Nat → Nat → Nat) (ca : Nat → ClassId) (N : Nat → Nat) (M0 MZ : me_M) (RZ : Int32) (A : Nat → Prop) : Array Value → Jvm.State → Outcome → Jvm.State → Prop := va_Qi (fun r (_ : Unit) => r = RZ ∧ me_wf N MZ ∧ me_kp M0 MZ ∧ (RZ = 1 ∨ RZ = 0)) (fg_B D A (fun _ => me_W ad ca MZ) (fun _ => [])) A
set_option maxHeartbeats 4000000 in
set_option maxRecDepth 100000 in
theorem c_Steps_isStackReadable (l : Launch) (D : va_G) (ad : Nat → Nat → Nat) (ca : Nat → ClassId) (N : Nat → Nat) (M0 MZ : me_M) (RZ : Int32) (j0 : Nat) (x1 : Int32) (x2 : Int32) (h : f_Steps_isStackReadable M0 j0 x1 x2 = (some (MZ, RZ))) (hwf : me_wf N M0) (hj0 : j0 < N 7) (sz : Nat) : Met l y_Steps_isStackReadable (fg_w y_Steps_isStackReadable prog_11_method_23_code 4 (some .boolean)) rm_Steps_isStackReadable (va_Pc [.ref (ad 7 j0), .int x1, .int x2] (fz_P D (me_T ca) (me_W ad ca M0) sz)) (q_Steps_isStackReadable D ad ca N M0 MZ RZ (va_A (me_W ad ca M0) sz)) rm_Steps_isStackReadable.cells rm_Steps_isStackReadable.slots (va_A (me_W ad ca M0) sz) := by
  refine fz_enter (fun A => q_Steps_isStackReadable D ad ca N M0 MZ RZ A) (by decide +kernel) (Nat.le_of_ble_eq_true rfl) ?_
  intro p e s m below meth c ls A hx hb hml hown hts hr hlocks hin hP hK hD hS hA hX hl hz
  have hl : lv_has ls 4 [(0, .ref (ad 7 j0)), (1, .int x1), (2, .int x2)] := hl
  unfold f_Steps_isStackReadable at h
  have hkp : me_kp M0 M0 := me_kp.rf
  have hkb := hkp
  have b_17 : ∀ (fu : Nat), ∀ (M : me_M) (y3 : Int32) (H : Heap) (locs : List Loc) (ls : Array Slot), f_Steps_isStackReadable_l17 j0 x1 x2 fu M y3 = (some (MZ, RZ)) → me_wf N M → me_kp M0 M → va_P D classes (me_W ad ca M) H → va_D A (me_W ad ca M) → va_S A s.heap H locs → lv_has ls 4 [(0, .ref (ad 7 j0)), (1, .int x1), (2, .int x2), (3, .int y3)] → W p l e rm_Steps_isStackReadable s m [.ref (ad 7 j0), .int x1, .int x2].toArray below meth c H locs 0 0 (MQ below (q_Steps_isStackReadable D ad ca N M0 MZ RZ A) [.ref (ad 7 j0), .int x1, .int x2].toArray s rm_Steps_isStackReadable.cells rm_Steps_isStackReadable.slots A) (F0 m 17 ls []) := by
    intro fu
    induction fu with
    | zero =>
      intro M y3 H locs ls h hwf hkp hP hD hS hl
      cases h
    | succ fu ih =>
      intro M y3 H locs ls h hwf hkp hP hD hS hl
      unfold f_Steps_isStackReadable_l17 at h
      have hkb := hkp
      refine lv_iload_n hx hb d_Steps_isStackReadable_17 rfl (lv_at hl 3 rfl) ?_
      refine lv_iload_n hx hb d_Steps_isStackReadable_18 rfl (lv_at hl 1 rfl) ?_
      refine lv_iload_n hx hb d_Steps_isStackReadable_19 rfl (lv_at hl 2 rfl) ?_
      refine lv_iadd hx hb d_Steps_isStackReadable_20 ?_
      refine lv_icmp_ge (tgt := 52) hx hb d_Steps_isStackReadable_21 (by decide) (fun c1 => ?_) (fun c1 => ?_)
      · have h := if_t c1 h
        refine lv_iconst (v := 1) hx hb d_Steps_isStackReadable_52 (by decide) ?_
        exact me_retz (me_kp M0) h (by decide) hx hb hr hlocks hwf hkp hP hK hD hS d_Steps_isStackReadable_53
      have h := if_f c1 h
      refine lv_aload_n hx hb d_Steps_isStackReadable_24 rfl (lv_at hl 0 rfl) ?_
      refine g_Steps_6 hx hb hts hown hK hP hwf hj0 (hts _ u_461) d_Steps_isStackReadable_25 ?_
      obtain ⟨j2, e3, h⟩ := bd_ob h
      have hj2 : j2 < N 9 := (hwf.2.1 7 j0 6 _ e3 (by decide) hj0)
      refine me_opt (j := j2) e3 ?_
      refine lv_iload_n hx hb d_Steps_isStackReadable_28 rfl (lv_at hl 3 rfl) ?_
      obtain ⟨M4, r5, eM4, h⟩ := b2_ob h
      refine me_thenr0 (M1 := M4) (me_runV (C := "FilterGuard$State") (As := [.int y3]) (rest := []) ⟨hx, hb, hml, hown, hts⟩ (c_State_slotAt l D ad ca N M M4 r5 j2 y3 eM4 hwf hj2 _) rfl (by show fg_nm y_State_slotAt 1; decide +kernel) u_1355 u_1356 u_1357 u_189 u_1358 ⟨Nat.le_of_ble_eq_true rfl, Nat.le_of_ble_eq_true rfl⟩ hX hz hK hP hD hwf hS hA hj2 (by decide) rfl rfl rfl hl.1 (Nat.le_of_ble_eq_true rfl) d_Steps_isStackReadable_29 ⟨Nat.le_of_ble_eq_true rfl, Nat.le_of_ble_eq_true rfl⟩) hP hD hK hS hA rfl rfl (fun H locs hw hP hD hS => ?_)
      obtain ⟨hwf, hk9, hr5⟩ := hw
      have hkp := hkp.tr hk9
      refine lv_iconst (v := 1) hx hb d_Steps_isStackReadable_32 (by decide) ?_
      refine lv_iload_n hx hb d_Steps_isStackReadable_33 rfl (lv_at hl 3 rfl) ?_
      refine lv_bipush (v := 7) hx hb d_Steps_isStackReadable_34 (by decide) ?_
      refine lv_iand hx hb d_Steps_isStackReadable_36 ?_
      refine lv_ishl hx hb d_Steps_isStackReadable_37 ?_
      refine fg_topi (y := jishl 1 (y3 &&& 7)) rfl ?_
      obtain ⟨M6, r7, eM6, h⟩ := b2_ob h
      refine me_theni0 (M1 := M6) (me_runV (C := "FilterGuard$Cell") (As := [.int (jishl 1 (y3 &&& 7))]) (rest := []) ⟨hx, hb, hml, hown, hts⟩ (c_Cell_isReadable l D ad ca N M4 M6 r7 r5 (jishl 1 (y3 &&& 7)) eM6 hwf hr5 _) rfl (by show fg_nm y_Cell_isReadable 1; decide +kernel) u_1363 u_1364 u_1365 u_188 u_1366 ⟨Nat.le_of_ble_eq_true rfl, Nat.le_of_ble_eq_true rfl⟩ hX hz hK hP hD hwf hS hA hr5 (by decide) rfl rfl rfl hl.1 (Nat.le_of_ble_eq_true rfl) d_Steps_isStackReadable_38 ⟨Nat.le_of_ble_eq_true rfl, Nat.le_of_ble_eq_true rfl⟩) hP hD hK hS hA rfl rfl (fun H locs hw hP hD hS => ?_)
      obtain ⟨hwf, hk9, zr7⟩ := hw
      have hkp := hkp.tr hk9
      refine lv_if_ne (tgt := 46) hx hb d_Steps_isStackReadable_41 (by decide) (fun c8 => ?_) (fun c8 => ?_)
      · have h := if_f c8 h
        refine lv_iinc (v := y3 + 1) (lv' := [(3, .int (y3 + 1)), (0, .ref (ad 7 j0)), (1, .int x1), (2, .int x2)]) hx hb d_Steps_isStackReadable_46 hl (k := 3) rfl (by rfl) (by decide) rfl (fun ls hl => ?_)
        refine lv_goto (tgt := 17) hx hb d_Steps_isStackReadable_49 (by decide) ?_
        exact ih M6 (y3 + 1) _ _ _ h hwf hkp hP hD hS (lv_sub hl [1, 2, 3, 0] rfl)
      have h := if_t c8 h
      refine lv_iconst (v := 0) hx hb d_Steps_isStackReadable_44 (by decide) ?_
      exact me_retz (me_kp M0) h (by decide) hx hb hr hlocks hwf hkp hP hK hD hS d_Steps_isStackReadable_45
  refine lv_iload_n hx hb d_Steps_isStackReadable_0 rfl (lv_at hl 1 rfl) ?_
  refine lv_sipush (v := (-512)) hx hb d_Steps_isStackReadable_1 (by decide) ?_
  refine lv_icmp_lt (tgt := 13) hx hb d_Steps_isStackReadable_4 (by decide) (fun c9 => ?_) (fun c9 => ?_)
  · have h := if_t c9 h
    refine lv_iconst (v := 0) hx hb d_Steps_isStackReadable_13 (by decide) ?_
    exact me_retz (me_kp M0) h (by decide) hx hb hr hlocks hwf hkp hP hK hD hS d_Steps_isStackReadable_14
  have h := if_f c9 h
  refine lv_iload_n hx hb d_Steps_isStackReadable_7 rfl (lv_at hl 1 rfl) ?_
  refine lv_iload_n hx hb d_Steps_isStackReadable_8 rfl (lv_at hl 2 rfl) ?_
  refine lv_iadd hx hb d_Steps_isStackReadable_9 ?_
  refine lv_if_le (tgt := 15) hx hb d_Steps_isStackReadable_10 (by decide) (fun c10 => ?_) (fun c10 => ?_)
  · have h := if_t c10 h
    refine lv_iload_n hx hb d_Steps_isStackReadable_15 rfl (lv_at hl 1 rfl) ?_
    refine lv_istore_n (lv' := [(3, .int x1), (0, .ref (ad 7 j0)), (1, .int x1), (2, .int x2)]) hx hb d_Steps_isStackReadable_16 rfl hl (by decide) rfl (fun ls hl => ?_)
    exact b_17 _ M0 x1 _ _ _ h hwf hkp hP hD hS (lv_sub hl [1, 2, 3, 0] rfl)
  have h := if_f c10 h
  refine lv_iconst (v := 0) hx hb d_Steps_isStackReadable_13 (by decide) ?_
  exact me_retz (me_kp M0) h (by decide) hx hb hr hlocks hwf hkp hP hK hD hS d_Steps_isStackReadable_14
theorem d_Steps_isInPacket_0 : decode prog_11_method_15_code 0 = .ok (.iload_n 2, 1) := by decide +kernel
theorem d_Steps_isInPacket_1 : decode prog_11_method_15_code 1 = .ok (.ifCond .lt 20, 3) := by decide +kernel
theorem d_Steps_isInPacket_21 : decode prog_11_method_15_code 21 = .ok (.iconst 0, 1) := by decide +kernel
theorem d_Steps_isInPacket_22 : decode prog_11_method_15_code 22 = .ok (.ireturn, 1) := by decide +kernel
theorem d_Steps_isInPacket_4 : decode prog_11_method_15_code 4 = .ok (.iload_n 2, 1) := by decide +kernel
theorem d_Steps_isInPacket_5 : decode prog_11_method_15_code 5 = .ok (.i2l, 1) := by decide +kernel
theorem d_Steps_isInPacket_6 : decode prog_11_method_15_code 6 = .ok (.lload_n 3, 1) := by decide +kernel
theorem d_Steps_isInPacket_7 : decode prog_11_method_15_code 7 = .ok (.ladd, 1) := by decide +kernel
theorem d_Steps_isInPacket_8 : decode prog_11_method_15_code 8 = .ok (.aload_n 1, 1) := by decide +kernel
theorem d_Steps_isInPacket_9 : decode prog_11_method_15_code 9 = .ok (.getfield 197, 3) := by decide +kernel
theorem d_Steps_isInPacket_12 : decode prog_11_method_15_code 12 = .ok (.i2l, 1) := by decide +kernel
theorem d_Steps_isInPacket_13 : decode prog_11_method_15_code 13 = .ok (.lcmp, 1) := by decide +kernel
theorem d_Steps_isInPacket_14 : decode prog_11_method_15_code 14 = .ok (.ifCond .gt 7, 3) := by decide +kernel
theorem d_Steps_isInPacket_17 : decode prog_11_method_15_code 17 = .ok (.iconst 1, 1) := by decide +kernel
theorem d_Steps_isInPacket_18 : decode prog_11_method_15_code 18 = .ok (.goto 4, 3) := by decide +kernel
abbrev y_Steps_isInPacket : MethodName := ⟨"FilterGuard$Steps", "isInPacket", "(LFilterGuard$Cell;IJ)Z"⟩
def rm_Steps_isInPacket : Room := { frames := 1, cells := 0, slots := 0, locals := 20 }
abbrev q_Steps_isInPacket (D : va_G) (ad : Nat → Nat → Nat) (ca : Nat → ClassId) (N : Nat → Nat) (M0 MZ : me_M) (RZ : Int32) (A : Nat → Prop) : Array Value → Jvm.State → Outcome → Jvm.State → Prop := va_Qi (fun r (_ : Unit) => r = RZ ∧ me_wf N MZ ∧ me_kp M0 MZ ∧ (RZ = 1 ∨ RZ = 0)) (fg_B D A (fun _ => me_W ad ca MZ) (fun _ => [])) A
set_option maxHeartbeats 4000000 in
set_option maxRecDepth 100000 in
theorem c_Steps_isInPacket (l : Launch) (D : va_G) (ad : Nat → Nat → Nat) (ca : Nat → ClassId) (N : Nat → Nat) (M0 MZ : me_M) (RZ : Int32) (j0 : Nat) (j1 : Nat) (x2 : Int32) (x3 : Int64) (h : f_Steps_isInPacket M0 j0 j1 x2 x3 = (some (MZ, RZ))) (hwf : me_wf N M0) (hj0 : j0 < N 7) (hj1 : j1 < N 10) (sz : Nat) : Met l y_Steps_isInPacket (fg_w y_Steps_isInPacket prog_11_method_15_code 5 (some .boolean)) rm_Steps_isInPacket (va_Pc [.ref (ad 7 j0), .ref (ad 10 j1), .int x2, .long x3] (fz_P D (me_T ca) (me_W ad ca M0) sz)) (q_Steps_isInPacket D ad ca N M0 MZ RZ (va_A (me_W ad ca M0) sz)) rm_Steps_isInPacket.cells rm_Steps_isInPacket.slots (va_A (me_W ad ca M0) sz) := by
  refine fz_enter (fun A => q_Steps_isInPacket D ad ca N M0 MZ RZ A) (by decide +kernel) (Nat.le_of_ble_eq_true rfl) ?_
  intro p e s m below meth c ls A hx hb hml hown hts hr hlocks hin hP hK hD hS hA hX hl hz
  have hl : lv_has ls 5 [(0, .ref (ad 7 j0)), (1, .ref (ad 10 j1)), (2, .int x2), (3, .long x3)] := hl
  unfold f_Steps_isInPacket at h
  have hkp : me_kp M0 M0 := me_kp.rf
  have hkb := hkp
  refine lv_iload_n hx hb d_Steps_isInPacket_0 rfl (lv_at hl 2 rfl) ?_
  refine lv_if_lt (tgt := 21) hx hb d_Steps_isInPacket_1 (by decide) (fun c1 => ?_) (fun c1 => ?_)
  · have h := if_t c1 h
    refine lv_iconst (v := 0) hx hb d_Steps_isInPacket_21 (by decide) ?_
    exact me_retz (me_kp M0) h (by decide) hx hb hr hlocks hwf hkp hP hK hD hS d_Steps_isInPacket_22
  have h := if_f c1 h
  refine lv_iload_n hx hb d_Steps_isInPacket_4 rfl (lv_at hl 2 rfl) ?_
  refine lv_i2l (v := x2.toInt64) hx hb d_Steps_isInPacket_5 rfl ?_
  refine lv_lload_n hx hb d_Steps_isInPacket_6 rfl (lv_at hl 3 rfl) ?_
  refine lv_ladd hx hb d_Steps_isInPacket_7 ?_
  refine lv_aload_n hx hb d_Steps_isInPacket_8 rfl (lv_at hl 1 rfl) ?_
  refine g_Cell_4 hx hb hts hown hK hP hwf hj1 (hts _ u_432) d_Steps_isInPacket_9 ?_
  refine lv_i2l (v := (mI M0 10 j1 4).toInt64) hx hb d_Steps_isInPacket_12 rfl ?_
  refine W.lcmp hx hb d_Steps_isInPacket_13 ?_
  refine lv_if_gt (tgt := 21) hx hb d_Steps_isInPacket_14 (by decide) (fun c2 => ?_) (fun c2 => ?_)
  · have h := if_t ((lg_cmp_gt _ _).mp c2) h
    refine lv_iconst (v := 0) hx hb d_Steps_isInPacket_21 (by decide) ?_
    exact me_retz (me_kp M0) h (by decide) hx hb hr hlocks hwf hkp hP hK hD hS d_Steps_isInPacket_22
  have h := if_f (fun z => c2 ((lg_cmp_gt _ _).mpr z)) h
  refine lv_iconst (v := 1) hx hb d_Steps_isInPacket_17 (by decide) ?_
  refine lv_goto (tgt := 22) hx hb d_Steps_isInPacket_18 (by decide) ?_
  exact me_retz (me_kp M0) h (by decide) hx hb hr hlocks hwf hkp hP hK hD hS d_Steps_isInPacket_22
theorem d_Steps_isInValue_0 : decode prog_11_method_16_code 0 = .ok (.aload_n 0, 1) := by decide +kernel
theorem d_Steps_isInValue_1 : decode prog_11_method_16_code 1 = .ok (.getfield 48, 3) := by decide +kernel
theorem g_Steps_1 {p : Program} {l : Launch} {e : Env} {R : Room} {s : Jvm.State} {m : MethodId} {args : Array Value} {below : List Frame} {meth : Method} {c : Code} {H : Heap} {locs : List Loc} {cells slots : Nat} {Q : Jvm.State → Prop} {cc : ByteArray} {pc : Nat} {ls : Array Slot} {rest : List Value} {D : va_G} {ad : Nat → Nat → Nat} {ca : Nat → ClassId} {M : me_M} {N : Nat → Nat} {own : String} {index j : Nat} (hexec : p.tables.exec = Jvm.exec) (hb : c.code = cc) (hts : ∀ w ∈ fg_g, w.before args s = true) (hown : s.vm.findClass own = some m.cls) (hK : va_K D classes (me_T ca) s) (hP : va_P D classes (me_W ad ca M) H) (hwf : me_wf N M) (hj : j < N 7) (hlink : (Cond.fieldLink own index "FilterGuard$Steps" "stores" "[LFilterGuard$Store;").before args s = true) (hdg : decode cc pc = .ok (.getfield index, 3)) (kk : W p l e R s m args below meth c H locs cells slots Q (F0 m (pc + 3) ls (va_rf ((mR M 7 j 1).map (ad 19)) :: rest))) : W p l e R s m args below meth c H locs cells slots Q (F0 m pc ls (.ref (ad 7 j) :: rest)) := me_get (k := 7) (f := 1) (C := "FilterGuard$Steps") (T := F_Steps) (Nf := 19) hexec hb hts i_Steps hown hK hP hwf hj (by decide) rfl (by decide) (by decide) hlink (fun _ h9 => h9) hdg kk
theorem d_Steps_isInValue_4 : decode prog_11_method_16_code 4 = .ok (.aload_n 1, 1) := by decide +kernel
theorem d_Steps_isInValue_5 : decode prog_11_method_16_code 5 = .ok (.getfield 122, 3) := by decide +kernel
theorem d_Steps_isInValue_8 : decode prog_11_method_16_code 8 = .ok (.aaload, 1) := by decide +kernel
theorem d_Steps_isInValue_9 : decode prog_11_method_16_code 9 = .ok (.getfield 279, 3) := by decide +kernel
theorem u_910 : Cond.fieldLink "FilterGuard$Steps" 279 "FilterGuard$Store" "valueBytes" "I" ∈ fg_g := fg_in (List.mem_of_getElem? (i := 910) (by decide +kernel)) rfl
theorem g_Store_2 {p : Program} {l : Launch} {e : Env} {R : Room} {s : Jvm.State} {m : MethodId} {args : Array Value} {below : List Frame} {meth : Method} {c : Code} {H : Heap} {locs : List Loc} {cells slots : Nat} {Q : Jvm.State → Prop} {cc : ByteArray} {pc : Nat} {ls : Array Slot} {rest : List Value} {D : va_G} {ad : Nat → Nat → Nat} {ca : Nat → ClassId} {M : me_M} {N : Nat → Nat} {own : String} {index j : Nat} (hexec : p.tables.exec = Jvm.exec) (hb : c.code = cc) (hts : ∀ w ∈ fg_g, w.before args s = true) (hown : s.vm.findClass own = some m.cls) (hK : va_K D classes (me_T ca) s) (hP : va_P D classes (me_W ad ca M) H) (hwf : me_wf N M) (hj : j < N 12) (hlink : (Cond.fieldLink own index "FilterGuard$Store" "valueBytes" "I").before args s = true) (hdg : decode cc pc = .ok (.getfield index, 3)) (kk : W p l e R s m args below meth c H locs cells slots Q (F0 m (pc + 3) ls (.int (mI M 12 j 2) :: rest))) : W p l e R s m args below meth c H locs cells slots Q (F0 m pc ls (.ref (ad 12 j) :: rest)) := me_get (k := 12) (f := 2) (C := "FilterGuard$Store") (T := F_Store) (Nf := 7) hexec hb hts i_Store hown hK hP hwf hj (by decide) rfl (by decide) (by decide) hlink (fun _ h9 => h9) hdg kk
theorem d_Steps_isInValue_12 : decode prog_11_method_16_code 12 = .ok (.istore 5, 2) := by decide +kernel
theorem d_Steps_isInValue_14 : decode prog_11_method_16_code 14 = .ok (.iload_n 2, 1) := by decide +kernel
theorem d_Steps_isInValue_15 : decode prog_11_method_16_code 15 = .ok (.i2l, 1) := by decide +kernel
theorem d_Steps_isInValue_16 : decode prog_11_method_16_code 16 = .ok (.aload_n 1, 1) := by decide +kernel
theorem d_Steps_isInValue_17 : decode prog_11_method_16_code 17 = .ok (.getfield 143, 3) := by decide +kernel
theorem d_Steps_isInValue_20 : decode prog_11_method_16_code 20 = .ok (.getfield 284, 3) := by decide +kernel
theorem u_375 : Cond.fieldLink "FilterGuard$Steps" 284 "FilterGuard$Num" "least" "J" ∈ fg_g := fg_in (List.mem_of_getElem? (i := 375) (by decide +kernel)) rfl
theorem d_Steps_isInValue_23 : decode prog_11_method_16_code 23 = .ok (.ladd, 1) := by decide +kernel
theorem d_Steps_isInValue_24 : decode prog_11_method_16_code 24 = .ok (.lconst 0, 1) := by decide +kernel
theorem d_Steps_isInValue_25 : decode prog_11_method_16_code 25 = .ok (.lcmp, 1) := by decide +kernel
theorem d_Steps_isInValue_26 : decode prog_11_method_16_code 26 = .ok (.ifCond .lt 26, 3) := by decide +kernel
theorem d_Steps_isInValue_52 : decode prog_11_method_16_code 52 = .ok (.iconst 0, 1) := by decide +kernel
theorem d_Steps_isInValue_53 : decode prog_11_method_16_code 53 = .ok (.ireturn, 1) := by decide +kernel
theorem d_Steps_isInValue_29 : decode prog_11_method_16_code 29 = .ok (.iload_n 2, 1) := by decide +kernel
theorem d_Steps_isInValue_30 : decode prog_11_method_16_code 30 = .ok (.i2l, 1) := by decide +kernel
theorem d_Steps_isInValue_31 : decode prog_11_method_16_code 31 = .ok (.aload_n 1, 1) := by decide +kernel
theorem d_Steps_isInValue_32 : decode prog_11_method_16_code 32 = .ok (.getfield 143, 3) := by decide +kernel
theorem d_Steps_isInValue_35 : decode prog_11_method_16_code 35 = .ok (.getfield 287, 3) := by decide +kernel
theorem u_378 : Cond.fieldLink "FilterGuard$Steps" 287 "FilterGuard$Num" "greatest" "J" ∈ fg_g := fg_in (List.mem_of_getElem? (i := 378) (by decide +kernel)) rfl
theorem d_Steps_isInValue_38 : decode prog_11_method_16_code 38 = .ok (.ladd, 1) := by decide +kernel
theorem d_Steps_isInValue_39 : decode prog_11_method_16_code 39 = .ok (.lload_n 3, 1) := by decide +kernel
theorem d_Steps_isInValue_40 : decode prog_11_method_16_code 40 = .ok (.ladd, 1) := by decide +kernel
theorem d_Steps_isInValue_41 : decode prog_11_method_16_code 41 = .ok (.iload 5, 2) := by decide +kernel
theorem d_Steps_isInValue_43 : decode prog_11_method_16_code 43 = .ok (.i2l, 1) := by decide +kernel
theorem d_Steps_isInValue_44 : decode prog_11_method_16_code 44 = .ok (.lcmp, 1) := by decide +kernel
theorem d_Steps_isInValue_45 : decode prog_11_method_16_code 45 = .ok (.ifCond .gt 7, 3) := by decide +kernel
theorem d_Steps_isInValue_48 : decode prog_11_method_16_code 48 = .ok (.iconst 1, 1) := by decide +kernel
theorem d_Steps_isInValue_49 : decode prog_11_method_16_code 49 = .ok (.goto 4, 3) := by decide +kernel
abbrev y_Steps_isInValue : MethodName := ⟨"FilterGuard$Steps", "isInValue", "(LFilterGuard$Cell;IJ)Z"⟩
def rm_Steps_isInValue : Room := { frames := 1, cells := 0, slots := 0, locals := 20 }
abbrev q_Steps_isInValue (D : va_G) (ad : Nat → Nat → Nat) (ca : Nat → ClassId) (N : Nat → Nat) (M0 MZ : me_M) (RZ : Int32) (A : Nat → Prop) : Array Value → Jvm.State → Outcome → Jvm.State → Prop := va_Qi (fun r (_ : Unit) => r = RZ ∧ me_wf N MZ ∧ me_kp M0 MZ ∧ (RZ = 1 ∨ RZ = 0)) (fg_B D A (fun _ => me_W ad ca MZ) (fun _ => [])) A
set_option maxHeartbeats 4000000 in
set_option maxRecDepth 100000 in
theorem c_Steps_isInValue (l : Launch) (D : va_G) (ad : Nat → Nat → Nat) (ca : Nat → ClassId) (N : Nat → Nat) (M0 MZ : me_M) (RZ : Int32) (j0 : Nat) (j1 : Nat) (x2 : Int32) (x3 : Int64) (h : f_Steps_isInValue M0 j0 j1 x2 x3 = (some (MZ, RZ))) (hwf : me_wf N M0) (hj0 : j0 < N 7) (hj1 : j1 < N 10) (sz : Nat) : Met l y_Steps_isInValue (fg_w y_Steps_isInValue prog_11_method_16_code 6 (some .boolean)) rm_Steps_isInValue (va_Pc [.ref (ad 7 j0), .ref (ad 10 j1), .int x2, .long x3] (fz_P D (me_T ca) (me_W ad ca M0) sz)) (q_Steps_isInValue D ad ca N M0 MZ RZ (va_A (me_W ad ca M0) sz)) rm_Steps_isInValue.cells rm_Steps_isInValue.slots (va_A (me_W ad ca M0) sz) := by
  refine fz_enter (fun A => q_Steps_isInValue D ad ca N M0 MZ RZ A) (by decide +kernel) (Nat.le_of_ble_eq_true rfl) ?_
  intro p e s m below meth c ls A hx hb hml hown hts hr hlocks hin hP hK hD hS hA hX hl hz
  have hl : lv_has ls 6 [(0, .ref (ad 7 j0)), (1, .ref (ad 10 j1)), (2, .int x2), (3, .long x3)] := hl
  unfold f_Steps_isInValue at h
  have hkp : me_kp M0 M0 := me_kp.rf
  have hkb := hkp
  refine lv_aload_n hx hb d_Steps_isInValue_0 rfl (lv_at hl 0 rfl) ?_
  refine g_Steps_1 hx hb hts hown hK hP hwf hj0 (hts _ u_456) d_Steps_isInValue_1 ?_
  obtain ⟨j2, e3, h⟩ := bd_ob h
  have hj2 : j2 < N 19 := (hwf.2.1 7 j0 1 _ e3 (by decide) hj0)
  refine me_opt (j := j2) e3 ?_
  refine lv_aload_n hx hb d_Steps_isInValue_4 rfl (lv_at hl 1 rfl) ?_
  refine g_Cell_2 hx hb hts hown hK hP hwf hj1 (hts _ u_427) d_Steps_isInValue_5 ?_
  obtain ⟨g4, h⟩ := gd_ob h
  refine me_aald (k := 19) (t := 12) hx hb hK hP hwf hj2 (by decide) (by decide) rfl (fun _ => rfl) g4 d_Steps_isInValue_8 ?_
  obtain ⟨j5, e6, h⟩ := bd_ob h
  have hj5 : j5 < N 12 := (hwf.2.1 19 j2 ((mI M0 10 j1 2).toNatClampNeg) _ e6 (by decide) hj2)
  refine me_opt (j := j5) e6 ?_
  refine g_Store_2 hx hb hts hown hK hP hwf hj5 (hts _ u_910) d_Steps_isInValue_9 ?_
  obtain ⟨v7, ev7, h⟩ := st_ob h
  refine fg_topi (y := v7) ev7.symm ?_
  refine lv_istore (lv' := [(5, .int v7), (0, .ref (ad 7 j0)), (1, .ref (ad 10 j1)), (2, .int x2), (3, .long x3)]) hx hb d_Steps_isInValue_12 hl (by decide) rfl (fun ls hl => ?_)
  refine lv_iload_n hx hb d_Steps_isInValue_14 rfl (lv_at hl 3 rfl) ?_
  refine lv_i2l (v := x2.toInt64) hx hb d_Steps_isInValue_15 rfl ?_
  refine lv_aload_n hx hb d_Steps_isInValue_16 rfl (lv_at hl 2 rfl) ?_
  refine g_Cell_6 hx hb hts hown hK hP hwf hj1 (hts _ u_437) d_Steps_isInValue_17 ?_
  obtain ⟨j8, e9, h⟩ := bd_ob h
  have hj8 : j8 < N 11 := (hwf.2.1 10 j1 6 _ e9 (by decide) hj1)
  refine me_opt (j := j8) e9 ?_
  refine g_Num_2 hx hb hts hown hK hP hwf hj8 (hts _ u_375) d_Steps_isInValue_20 ?_
  refine lv_ladd hx hb d_Steps_isInValue_23 ?_
  refine lv_lconst (v := 0) hx hb d_Steps_isInValue_24 (by decide) ?_
  refine W.lcmp hx hb d_Steps_isInValue_25 ?_
  refine lv_if_lt (tgt := 52) hx hb d_Steps_isInValue_26 (by decide) (fun c10 => ?_) (fun c10 => ?_)
  · have h := if_t ((lg_cmp_lt _ _).mp c10) h
    refine lv_iconst (v := 0) hx hb d_Steps_isInValue_52 (by decide) ?_
    exact me_retz (me_kp M0) h (by decide) hx hb hr hlocks hwf hkp hP hK hD hS d_Steps_isInValue_53
  have h := if_f (fun z => c10 ((lg_cmp_lt _ _).mpr z)) h
  refine lv_iload_n hx hb d_Steps_isInValue_29 rfl (lv_at hl 3 rfl) ?_
  refine lv_i2l (v := x2.toInt64) hx hb d_Steps_isInValue_30 rfl ?_
  refine lv_aload_n hx hb d_Steps_isInValue_31 rfl (lv_at hl 2 rfl) ?_
  refine g_Cell_6 hx hb hts hown hK hP hwf hj1 (hts _ u_437) d_Steps_isInValue_32 ?_
  refine me_opt (j := j8) e9 ?_
  refine g_Num_3 hx hb hts hown hK hP hwf hj8 (hts _ u_378) d_Steps_isInValue_35 ?_
  refine lv_ladd hx hb d_Steps_isInValue_38 ?_
  refine lv_lload_n hx hb d_Steps_isInValue_39 rfl (lv_at hl 4 rfl) ?_
  refine lv_ladd hx hb d_Steps_isInValue_40 ?_
  refine lv_iload hx hb d_Steps_isInValue_41 (lv_at hl 0 rfl) ?_
  refine lv_i2l (v := v7.toInt64) hx hb d_Steps_isInValue_43 rfl ?_
  refine W.lcmp hx hb d_Steps_isInValue_44 ?_
  refine lv_if_gt (tgt := 52) hx hb d_Steps_isInValue_45 (by decide) (fun c11 => ?_) (fun c11 => ?_)
  · have h := if_t ((lg_cmp_gt _ _).mp c11) h
    refine lv_iconst (v := 0) hx hb d_Steps_isInValue_52 (by decide) ?_
    exact me_retz (me_kp M0) h (by decide) hx hb hr hlocks hwf hkp hP hK hD hS d_Steps_isInValue_53
  have h := if_f (fun z => c11 ((lg_cmp_gt _ _).mpr z)) h
  refine lv_iconst (v := 1) hx hb d_Steps_isInValue_48 (by decide) ?_
  refine lv_goto (tgt := 53) hx hb d_Steps_isInValue_49 (by decide) ?_
  exact me_retz (me_kp M0) h (by decide) hx hb hr hlocks hwf hkp hP hK hD hS d_Steps_isInValue_53
theorem d_Steps_faultOfReading_0 : decode prog_11_method_22_code 0 = .ok (.aload_n 1, 1) := by decide +kernel
theorem d_Steps_faultOfReading_1 : decode prog_11_method_22_code 1 = .ok (.getfield 76, 3) := by decide +kernel
theorem d_Steps_faultOfReading_4 : decode prog_11_method_22_code 4 = .ok (.tableswitch 94 0 7 #[48, 94, 94, 51, 64, 94, 94, 79], 48) := by decide +kernel
theorem d_Steps_faultOfReading_52 : decode prog_11_method_22_code 52 = .ok (.bipush 10, 2) := by decide +kernel
theorem d_Steps_faultOfReading_54 : decode prog_11_method_22_code 54 = .ok (.ireturn, 1) := by decide +kernel
theorem d_Steps_faultOfReading_98 : decode prog_11_method_22_code 98 = .ok (.iconst 0, 1) := by decide +kernel
theorem d_Steps_faultOfReading_99 : decode prog_11_method_22_code 99 = .ok (.istore_n 3, 1) := by decide +kernel
theorem d_Steps_faultOfReading_100 : decode prog_11_method_22_code 100 = .ok (.iload_n 3, 1) := by decide +kernel
theorem d_Steps_faultOfReading_101 : decode prog_11_method_22_code 101 = .ok (.ifCond .eq 7, 3) := by decide +kernel
theorem d_Steps_faultOfReading_108 : decode prog_11_method_22_code 108 = .ok (.bipush 17, 2) := by decide +kernel
theorem d_Steps_faultOfReading_110 : decode prog_11_method_22_code 110 = .ok (.ireturn, 1) := by decide +kernel
theorem d_Steps_faultOfReading_55 : decode prog_11_method_22_code 55 = .ok (.aload_n 0, 1) := by decide +kernel
theorem d_Steps_faultOfReading_56 : decode prog_11_method_22_code 56 = .ok (.aload_n 1, 1) := by decide +kernel
theorem d_Steps_faultOfReading_57 : decode prog_11_method_22_code 57 = .ok (.getfield 178, 3) := by decide +kernel
theorem d_Steps_faultOfReading_60 : decode prog_11_method_22_code 60 = .ok (.iload_n 2, 1) := by decide +kernel
theorem d_Steps_faultOfReading_61 : decode prog_11_method_22_code 61 = .ok (.invokevirtual 322, 3) := by decide +kernel
theorem u_1351 : Cond.methodLink "FilterGuard$Steps" 322 ⟨"FilterGuard$Steps", "isStackReadable", "(II)Z"⟩ ∈ fg_g := fg_in (List.mem_of_getElem? (i := 1351) (by decide +kernel)) rfl
theorem u_1354 : Cond.code ⟨"FilterGuard$Steps", "isStackReadable", "(II)Z"⟩ prog_11_method_23_code 4 (some .boolean) ∈ fg_g := fg_in (List.mem_of_getElem? (i := 1354) (by decide +kernel)) rfl
theorem u_1353 : Cond.instanceMethod ⟨"FilterGuard$Steps", "isStackReadable", "(II)Z"⟩ ∈ fg_g := fg_in (List.mem_of_getElem? (i := 1353) (by decide +kernel)) rfl
theorem u_45 : Cond.selects "FilterGuard$Steps" ⟨"FilterGuard$Steps", "isStackReadable", "(II)Z"⟩ ⟨"FilterGuard$Steps", "isStackReadable", "(II)Z"⟩ ∈ fg_g := fg_in (List.mem_of_getElem? (i := 45) (by decide +kernel)) rfl
theorem d_Steps_faultOfReading_64 : decode prog_11_method_22_code 64 = .ok (.istore_n 3, 1) := by decide +kernel
theorem d_Steps_faultOfReading_65 : decode prog_11_method_22_code 65 = .ok (.goto 35, 3) := by decide +kernel
theorem d_Steps_faultOfReading_104 : decode prog_11_method_22_code 104 = .ok (.iconst 0, 1) := by decide +kernel
theorem d_Steps_faultOfReading_105 : decode prog_11_method_22_code 105 = .ok (.goto 5, 3) := by decide +kernel
theorem d_Steps_faultOfReading_68 : decode prog_11_method_22_code 68 = .ok (.aload_n 0, 1) := by decide +kernel
theorem d_Steps_faultOfReading_69 : decode prog_11_method_22_code 69 = .ok (.aload_n 1, 1) := by decide +kernel
theorem d_Steps_faultOfReading_70 : decode prog_11_method_22_code 70 = .ok (.aload_n 1, 1) := by decide +kernel
theorem d_Steps_faultOfReading_71 : decode prog_11_method_22_code 71 = .ok (.getfield 178, 3) := by decide +kernel
theorem d_Steps_faultOfReading_74 : decode prog_11_method_22_code 74 = .ok (.iload_n 2, 1) := by decide +kernel
theorem d_Steps_faultOfReading_75 : decode prog_11_method_22_code 75 = .ok (.i2l, 1) := by decide +kernel
theorem d_Steps_faultOfReading_76 : decode prog_11_method_22_code 76 = .ok (.invokevirtual 272, 3) := by decide +kernel
theorem u_1367 : Cond.methodLink "FilterGuard$Steps" 272 ⟨"FilterGuard$Steps", "isInPacket", "(LFilterGuard$Cell;IJ)Z"⟩ ∈ fg_g := fg_in (List.mem_of_getElem? (i := 1367) (by decide +kernel)) rfl
theorem u_1370 : Cond.code ⟨"FilterGuard$Steps", "isInPacket", "(LFilterGuard$Cell;IJ)Z"⟩ prog_11_method_15_code 5 (some .boolean) ∈ fg_g := fg_in (List.mem_of_getElem? (i := 1370) (by decide +kernel)) rfl
theorem u_1369 : Cond.instanceMethod ⟨"FilterGuard$Steps", "isInPacket", "(LFilterGuard$Cell;IJ)Z"⟩ ∈ fg_g := fg_in (List.mem_of_getElem? (i := 1369) (by decide +kernel)) rfl
theorem u_46 : Cond.selects "FilterGuard$Steps" ⟨"FilterGuard$Steps", "isInPacket", "(LFilterGuard$Cell;IJ)Z"⟩ ⟨"FilterGuard$Steps", "isInPacket", "(LFilterGuard$Cell;IJ)Z"⟩ ∈ fg_g := fg_in (List.mem_of_getElem? (i := 46) (by decide +kernel)) rfl
theorem d_Steps_faultOfReading_79 : decode prog_11_method_22_code 79 = .ok (.istore_n 3, 1) := by decide +kernel
theorem d_Steps_faultOfReading_80 : decode prog_11_method_22_code 80 = .ok (.goto 20, 3) := by decide +kernel
theorem d_Steps_faultOfReading_83 : decode prog_11_method_22_code 83 = .ok (.aload_n 0, 1) := by decide +kernel
theorem d_Steps_faultOfReading_84 : decode prog_11_method_22_code 84 = .ok (.aload_n 1, 1) := by decide +kernel
theorem d_Steps_faultOfReading_85 : decode prog_11_method_22_code 85 = .ok (.aload_n 1, 1) := by decide +kernel
theorem d_Steps_faultOfReading_86 : decode prog_11_method_22_code 86 = .ok (.getfield 178, 3) := by decide +kernel
theorem d_Steps_faultOfReading_89 : decode prog_11_method_22_code 89 = .ok (.iload_n 2, 1) := by decide +kernel
theorem d_Steps_faultOfReading_90 : decode prog_11_method_22_code 90 = .ok (.i2l, 1) := by decide +kernel
theorem d_Steps_faultOfReading_91 : decode prog_11_method_22_code 91 = .ok (.invokevirtual 276, 3) := by decide +kernel
theorem u_1371 : Cond.methodLink "FilterGuard$Steps" 276 ⟨"FilterGuard$Steps", "isInValue", "(LFilterGuard$Cell;IJ)Z"⟩ ∈ fg_g := fg_in (List.mem_of_getElem? (i := 1371) (by decide +kernel)) rfl
theorem u_1374 : Cond.code ⟨"FilterGuard$Steps", "isInValue", "(LFilterGuard$Cell;IJ)Z"⟩ prog_11_method_16_code 6 (some .boolean) ∈ fg_g := fg_in (List.mem_of_getElem? (i := 1374) (by decide +kernel)) rfl
theorem u_1373 : Cond.instanceMethod ⟨"FilterGuard$Steps", "isInValue", "(LFilterGuard$Cell;IJ)Z"⟩ ∈ fg_g := fg_in (List.mem_of_getElem? (i := 1373) (by decide +kernel)) rfl
theorem u_47 : Cond.selects "FilterGuard$Steps" ⟨"FilterGuard$Steps", "isInValue", "(LFilterGuard$Cell;IJ)Z"⟩ ⟨"FilterGuard$Steps", "isInValue", "(LFilterGuard$Cell;IJ)Z"⟩ ∈ fg_g := fg_in (List.mem_of_getElem? (i := 47) (by decide +kernel)) rfl
theorem d_Steps_faultOfReading_94 : decode prog_11_method_22_code 94 = .ok (.istore_n 3, 1) := by decide +kernel
theorem d_Steps_faultOfReading_95 : decode prog_11_method_22_code 95 = .ok (.goto 5, 3) := by decide +kernel
abbrev y_Steps_faultOfReading : MethodName := ⟨"FilterGuard$Steps", "faultOfReading", "(LFilterGuard$Cell;I)I"⟩
def rm_Steps_faultOfReading : Room := { frames := 4, cells := 0, slots := 0, locals := 105 }
abbrev q_Steps_faultOfReading (D : va_G) (ad : Nat → Nat → Nat) (ca : Nat → ClassId) (N : Nat → Nat) (M0 MZ : me_M) (RZ : Int32) (A : Nat → Prop) : Array Value → Jvm.State → Outcome → Jvm.State → Prop := va_Qi (fun r (_ : Unit) => r = RZ ∧ me_wf N MZ ∧ me_kp M0 MZ) (fg_B D A (fun _ => me_W ad ca MZ) (fun _ => [])) A
set_option maxHeartbeats 4000000 in
set_option maxRecDepth 100000 in
theorem c_Steps_faultOfReading (l : Launch) (D : va_G) (ad : Nat → Nat → Nat) (ca : Nat → ClassId) (N : Nat → Nat) (M0 MZ : me_M) (RZ : Int32) (j0 : Nat) (j1 : Nat) (x2 : Int32) (h : f_Steps_faultOfReading M0 j0 j1 x2 = (some (MZ, RZ))) (hwf : me_wf N M0) (hj0 : j0 < N 7) (hj1 : j1 < N 10) (sz : Nat) : Met l y_Steps_faultOfReading (fg_w y_Steps_faultOfReading prog_11_method_22_code 4 (some .int)) rm_Steps_faultOfReading (va_Pc [.ref (ad 7 j0), .ref (ad 10 j1), .int x2] (fz_P D (me_T ca) (me_W ad ca M0) sz)) (q_Steps_faultOfReading D ad ca N M0 MZ RZ (va_A (me_W ad ca M0) sz)) rm_Steps_faultOfReading.cells rm_Steps_faultOfReading.slots (va_A (me_W ad ca M0) sz) := by
  refine fz_enter (fun A => q_Steps_faultOfReading D ad ca N M0 MZ RZ A) (by decide +kernel) (Nat.le_of_ble_eq_true rfl) ?_
  intro p e s m below meth c ls A hx hb hml hown hts hr hlocks hin hP hK hD hS hA hX hl hz
  have hl : lv_has ls 4 [(0, .ref (ad 7 j0)), (1, .ref (ad 10 j1)), (2, .int x2)] := hl
  unfold f_Steps_faultOfReading at h
  have hkp : me_kp M0 M0 := me_kp.rf
  have hkb := hkp
  refine lv_aload_n hx hb d_Steps_faultOfReading_0 rfl (lv_at hl 1 rfl) ?_
  refine g_Cell_0 hx hb hts hown hK hP hwf hj1 (hts _ u_422) d_Steps_faultOfReading_1 ?_
  refine lv_topi (fun w1 ew1 => ?_)
  by_cases n2 : w1 = 0
  · have h := if_t (ew1.symm.trans n2) h
    subst n2
    refine lv_tableIn (off := 48) (tgt := 52) hx hb d_Steps_faultOfReading_4 (by decide) (by decide) (by decide) (by decide) ?_
    refine lv_bipush (v := 10) hx hb d_Steps_faultOfReading_52 (by decide) ?_
    exact me_reti (me_kp M0) h hx hb hr hlocks hwf hkp hP hK hD hS d_Steps_faultOfReading_54
  have h := if_f (fun z => n2 (ew1.trans z)) h
  by_cases n3 : w1 = 1
  · have h := if_t (ew1.symm.trans n3) h
    subst n3
    refine lv_tableIn (off := 94) (tgt := 98) hx hb d_Steps_faultOfReading_4 (by decide) (by decide) (by decide) (by decide) ?_
    refine lv_iconst (v := 0) hx hb d_Steps_faultOfReading_98 (by decide) ?_
    refine lv_istore_n (lv' := [(3, .int 0), (0, .ref (ad 7 j0)), (1, .ref (ad 10 j1)), (2, .int x2)]) hx hb d_Steps_faultOfReading_99 rfl hl (by decide) rfl (fun ls hl => ?_)
    refine lv_iload_n hx hb d_Steps_faultOfReading_100 rfl (lv_at hl 0 rfl) ?_
    refine lv_if_eq (tgt := 108) hx hb d_Steps_faultOfReading_101 (by decide) (fun c4 => ?_) (fun c4 => absurd (by decide) c4)
    refine lv_bipush (v := 17) hx hb d_Steps_faultOfReading_108 (by decide) ?_
    exact me_reti (me_kp M0) h hx hb hr hlocks hwf hkp hP hK hD hS d_Steps_faultOfReading_110
  have h := if_f (fun z => n3 (ew1.trans z)) h
  by_cases n5 : w1 = 2
  · have h := if_t (ew1.symm.trans n5) h
    subst n5
    refine lv_tableIn (off := 94) (tgt := 98) hx hb d_Steps_faultOfReading_4 (by decide) (by decide) (by decide) (by decide) ?_
    refine lv_iconst (v := 0) hx hb d_Steps_faultOfReading_98 (by decide) ?_
    refine lv_istore_n (lv' := [(3, .int 0), (0, .ref (ad 7 j0)), (1, .ref (ad 10 j1)), (2, .int x2)]) hx hb d_Steps_faultOfReading_99 rfl hl (by decide) rfl (fun ls hl => ?_)
    refine lv_iload_n hx hb d_Steps_faultOfReading_100 rfl (lv_at hl 0 rfl) ?_
    refine lv_if_eq (tgt := 108) hx hb d_Steps_faultOfReading_101 (by decide) (fun c6 => ?_) (fun c6 => absurd (by decide) c6)
    refine lv_bipush (v := 17) hx hb d_Steps_faultOfReading_108 (by decide) ?_
    exact me_reti (me_kp M0) h hx hb hr hlocks hwf hkp hP hK hD hS d_Steps_faultOfReading_110
  have h := if_f (fun z => n5 (ew1.trans z)) h
  by_cases n7 : w1 = 3
  · have h := if_t (ew1.symm.trans n7) h
    subst n7
    refine lv_tableIn (off := 51) (tgt := 55) hx hb d_Steps_faultOfReading_4 (by decide) (by decide) (by decide) (by decide) ?_
    refine lv_aload_n hx hb d_Steps_faultOfReading_55 rfl (lv_at hl 0 rfl) ?_
    refine lv_aload_n hx hb d_Steps_faultOfReading_56 rfl (lv_at hl 1 rfl) ?_
    refine g_Cell_1 hx hb hts hown hK hP hwf hj1 (hts _ u_425) d_Steps_faultOfReading_57 ?_
    refine lv_iload_n hx hb d_Steps_faultOfReading_60 rfl (lv_at hl 2 rfl) ?_
    obtain ⟨M8, r9, eM8, h⟩ := b2_ob h
    refine me_theni0 (M1 := M8) (me_runV (C := "FilterGuard$Steps") (As := [.int (mI M0 10 j1 1), .int x2]) (rest := []) ⟨hx, hb, hml, hown, hts⟩ (c_Steps_isStackReadable l D ad ca N M0 M8 r9 j0 (mI M0 10 j1 1) x2 eM8 hwf hj0 _) rfl (by show fg_nm y_Steps_isStackReadable 2; decide +kernel) u_1351 u_1353 u_45 u_185 u_1354 ⟨Nat.le_of_ble_eq_true rfl, Nat.le_of_ble_eq_true rfl⟩ hX hz hK hP hD hwf hS hA hj0 (by decide) rfl rfl rfl hl.1 (Nat.le_of_ble_eq_true rfl) d_Steps_faultOfReading_61 ⟨Nat.le_of_ble_eq_true rfl, Nat.le_of_ble_eq_true rfl⟩) hP hD hK hS hA rfl rfl (fun H locs hw hP hD hS => ?_)
    obtain ⟨hwf, hk9, zr9⟩ := hw
    have hkp := hkp.tr hk9
    refine lv_istore_n (lv' := [(3, .int r9), (0, .ref (ad 7 j0)), (1, .ref (ad 10 j1)), (2, .int x2)]) hx hb d_Steps_faultOfReading_64 rfl hl (by decide) rfl (fun ls hl => ?_)
    refine lv_goto (tgt := 100) hx hb d_Steps_faultOfReading_65 (by decide) ?_
    refine lv_iload_n hx hb d_Steps_faultOfReading_100 rfl (lv_at hl 0 rfl) ?_
    refine lv_if_eq (tgt := 108) hx hb d_Steps_faultOfReading_101 (by decide) (fun c10 => ?_) (fun c10 => ?_)
    · have h := if_t c10 h
      refine lv_bipush (v := 17) hx hb d_Steps_faultOfReading_108 (by decide) ?_
      exact me_reti (me_kp M0) h hx hb hr hlocks hwf hkp hP hK hD hS d_Steps_faultOfReading_110
    have h := if_f c10 h
    refine lv_iconst (v := 0) hx hb d_Steps_faultOfReading_104 (by decide) ?_
    refine lv_goto (tgt := 110) hx hb d_Steps_faultOfReading_105 (by decide) ?_
    exact me_reti (me_kp M0) h hx hb hr hlocks hwf hkp hP hK hD hS d_Steps_faultOfReading_110
  have h := if_f (fun z => n7 (ew1.trans z)) h
  by_cases n11 : w1 = 4
  · have h := if_t (ew1.symm.trans n11) h
    subst n11
    refine lv_tableIn (off := 64) (tgt := 68) hx hb d_Steps_faultOfReading_4 (by decide) (by decide) (by decide) (by decide) ?_
    refine lv_aload_n hx hb d_Steps_faultOfReading_68 rfl (lv_at hl 0 rfl) ?_
    refine lv_aload_n hx hb d_Steps_faultOfReading_69 rfl (lv_at hl 1 rfl) ?_
    refine lv_aload_n hx hb d_Steps_faultOfReading_70 rfl (lv_at hl 1 rfl) ?_
    refine g_Cell_1 hx hb hts hown hK hP hwf hj1 (hts _ u_425) d_Steps_faultOfReading_71 ?_
    refine lv_iload_n hx hb d_Steps_faultOfReading_74 rfl (lv_at hl 2 rfl) ?_
    refine lv_i2l (v := x2.toInt64) hx hb d_Steps_faultOfReading_75 rfl ?_
    obtain ⟨M12, r13, eM12, h⟩ := b2_ob h
    refine me_theni0 (M1 := M12) (me_runV (C := "FilterGuard$Steps") (As := [.ref (ad 10 j1), .int (mI M0 10 j1 1), .long x2.toInt64]) (rest := []) ⟨hx, hb, hml, hown, hts⟩ (c_Steps_isInPacket l D ad ca N M0 M12 r13 j0 j1 (mI M0 10 j1 1) x2.toInt64 eM12 hwf hj0 hj1 _) rfl (by show fg_nm y_Steps_isInPacket 3; decide +kernel) u_1367 u_1369 u_46 u_185 u_1370 ⟨Nat.le_of_ble_eq_true rfl, Nat.le_of_ble_eq_true rfl⟩ hX hz hK hP hD hwf hS hA hj0 (by decide) rfl rfl rfl hl.1 (Nat.le_of_ble_eq_true rfl) d_Steps_faultOfReading_76 ⟨Nat.le_of_ble_eq_true rfl, Nat.le_of_ble_eq_true rfl⟩) hP hD hK hS hA rfl rfl (fun H locs hw hP hD hS => ?_)
    obtain ⟨hwf, hk9, zr13⟩ := hw
    have hkp := hkp.tr hk9
    refine lv_istore_n (lv' := [(3, .int r13), (0, .ref (ad 7 j0)), (1, .ref (ad 10 j1)), (2, .int x2)]) hx hb d_Steps_faultOfReading_79 rfl hl (by decide) rfl (fun ls hl => ?_)
    refine lv_goto (tgt := 100) hx hb d_Steps_faultOfReading_80 (by decide) ?_
    refine lv_iload_n hx hb d_Steps_faultOfReading_100 rfl (lv_at hl 0 rfl) ?_
    refine lv_if_eq (tgt := 108) hx hb d_Steps_faultOfReading_101 (by decide) (fun c14 => ?_) (fun c14 => ?_)
    · have h := if_t c14 h
      refine lv_bipush (v := 17) hx hb d_Steps_faultOfReading_108 (by decide) ?_
      exact me_reti (me_kp M0) h hx hb hr hlocks hwf hkp hP hK hD hS d_Steps_faultOfReading_110
    have h := if_f c14 h
    refine lv_iconst (v := 0) hx hb d_Steps_faultOfReading_104 (by decide) ?_
    refine lv_goto (tgt := 110) hx hb d_Steps_faultOfReading_105 (by decide) ?_
    exact me_reti (me_kp M0) h hx hb hr hlocks hwf hkp hP hK hD hS d_Steps_faultOfReading_110
  have h := if_f (fun z => n11 (ew1.trans z)) h
  by_cases n15 : w1 = 5
  · have h := if_t (ew1.symm.trans n15) h
    subst n15
    refine lv_tableIn (off := 94) (tgt := 98) hx hb d_Steps_faultOfReading_4 (by decide) (by decide) (by decide) (by decide) ?_
    refine lv_iconst (v := 0) hx hb d_Steps_faultOfReading_98 (by decide) ?_
    refine lv_istore_n (lv' := [(3, .int 0), (0, .ref (ad 7 j0)), (1, .ref (ad 10 j1)), (2, .int x2)]) hx hb d_Steps_faultOfReading_99 rfl hl (by decide) rfl (fun ls hl => ?_)
    refine lv_iload_n hx hb d_Steps_faultOfReading_100 rfl (lv_at hl 0 rfl) ?_
    refine lv_if_eq (tgt := 108) hx hb d_Steps_faultOfReading_101 (by decide) (fun c16 => ?_) (fun c16 => absurd (by decide) c16)
    refine lv_bipush (v := 17) hx hb d_Steps_faultOfReading_108 (by decide) ?_
    exact me_reti (me_kp M0) h hx hb hr hlocks hwf hkp hP hK hD hS d_Steps_faultOfReading_110
  have h := if_f (fun z => n15 (ew1.trans z)) h
  by_cases n17 : w1 = 6
  · have h := if_t (ew1.symm.trans n17) h
    subst n17
    refine lv_tableIn (off := 94) (tgt := 98) hx hb d_Steps_faultOfReading_4 (by decide) (by decide) (by decide) (by decide) ?_
    refine lv_iconst (v := 0) hx hb d_Steps_faultOfReading_98 (by decide) ?_
    refine lv_istore_n (lv' := [(3, .int 0), (0, .ref (ad 7 j0)), (1, .ref (ad 10 j1)), (2, .int x2)]) hx hb d_Steps_faultOfReading_99 rfl hl (by decide) rfl (fun ls hl => ?_)
    refine lv_iload_n hx hb d_Steps_faultOfReading_100 rfl (lv_at hl 0 rfl) ?_
    refine lv_if_eq (tgt := 108) hx hb d_Steps_faultOfReading_101 (by decide) (fun c18 => ?_) (fun c18 => absurd (by decide) c18)
    refine lv_bipush (v := 17) hx hb d_Steps_faultOfReading_108 (by decide) ?_
    exact me_reti (me_kp M0) h hx hb hr hlocks hwf hkp hP hK hD hS d_Steps_faultOfReading_110
  have h := if_f (fun z => n17 (ew1.trans z)) h
  by_cases n19 : w1 = 7
  · have h := if_t (ew1.symm.trans n19) h
    subst n19
    refine lv_tableIn (off := 79) (tgt := 83) hx hb d_Steps_faultOfReading_4 (by decide) (by decide) (by decide) (by decide) ?_
    refine lv_aload_n hx hb d_Steps_faultOfReading_83 rfl (lv_at hl 0 rfl) ?_
    refine lv_aload_n hx hb d_Steps_faultOfReading_84 rfl (lv_at hl 1 rfl) ?_
    refine lv_aload_n hx hb d_Steps_faultOfReading_85 rfl (lv_at hl 1 rfl) ?_
    refine g_Cell_1 hx hb hts hown hK hP hwf hj1 (hts _ u_425) d_Steps_faultOfReading_86 ?_
    refine lv_iload_n hx hb d_Steps_faultOfReading_89 rfl (lv_at hl 2 rfl) ?_
    refine lv_i2l (v := x2.toInt64) hx hb d_Steps_faultOfReading_90 rfl ?_
    obtain ⟨M20, r21, eM20, h⟩ := b2_ob h
    refine me_theni0 (M1 := M20) (me_runV (C := "FilterGuard$Steps") (As := [.ref (ad 10 j1), .int (mI M0 10 j1 1), .long x2.toInt64]) (rest := []) ⟨hx, hb, hml, hown, hts⟩ (c_Steps_isInValue l D ad ca N M0 M20 r21 j0 j1 (mI M0 10 j1 1) x2.toInt64 eM20 hwf hj0 hj1 _) rfl (by show fg_nm y_Steps_isInValue 3; decide +kernel) u_1371 u_1373 u_47 u_185 u_1374 ⟨Nat.le_of_ble_eq_true rfl, Nat.le_of_ble_eq_true rfl⟩ hX hz hK hP hD hwf hS hA hj0 (by decide) rfl rfl rfl hl.1 (Nat.le_of_ble_eq_true rfl) d_Steps_faultOfReading_91 ⟨Nat.le_of_ble_eq_true rfl, Nat.le_of_ble_eq_true rfl⟩) hP hD hK hS hA rfl rfl (fun H locs hw hP hD hS => ?_)
    obtain ⟨hwf, hk9, zr21⟩ := hw
    have hkp := hkp.tr hk9
    refine lv_istore_n (lv' := [(3, .int r21), (0, .ref (ad 7 j0)), (1, .ref (ad 10 j1)), (2, .int x2)]) hx hb d_Steps_faultOfReading_94 rfl hl (by decide) rfl (fun ls hl => ?_)
    refine lv_goto (tgt := 100) hx hb d_Steps_faultOfReading_95 (by decide) ?_
    refine lv_iload_n hx hb d_Steps_faultOfReading_100 rfl (lv_at hl 0 rfl) ?_
    refine lv_if_eq (tgt := 108) hx hb d_Steps_faultOfReading_101 (by decide) (fun c22 => ?_) (fun c22 => ?_)
    · have h := if_t c22 h
      refine lv_bipush (v := 17) hx hb d_Steps_faultOfReading_108 (by decide) ?_
      exact me_reti (me_kp M0) h hx hb hr hlocks hwf hkp hP hK hD hS d_Steps_faultOfReading_110
    have h := if_f c22 h
    refine lv_iconst (v := 0) hx hb d_Steps_faultOfReading_104 (by decide) ?_
    refine lv_goto (tgt := 110) hx hb d_Steps_faultOfReading_105 (by decide) ?_
    exact me_reti (me_kp M0) h hx hb hr hlocks hwf hkp hP hK hD hS d_Steps_faultOfReading_110
  have h := if_f (fun z => n19 (ew1.trans z)) h
  have in2 := lv_neT n2 (show (0 : Int32).toInt = 0 from rfl)
  have in3 := lv_neT n3 (show (1 : Int32).toInt = 1 from rfl)
  have in5 := lv_neT n5 (show (2 : Int32).toInt = 2 from rfl)
  have in7 := lv_neT n7 (show (3 : Int32).toInt = 3 from rfl)
  have in11 := lv_neT n11 (show (4 : Int32).toInt = 4 from rfl)
  have in15 := lv_neT n15 (show (5 : Int32).toInt = 5 from rfl)
  have in17 := lv_neT n17 (show (6 : Int32).toInt = 6 from rfl)
  have in19 := lv_neT n19 (show (7 : Int32).toInt = 7 from rfl)
  refine lv_tableOut (tgt := 98) hx hb d_Steps_faultOfReading_4 (by omega) (by decide) ?_
  refine lv_iconst (v := 0) hx hb d_Steps_faultOfReading_98 (by decide) ?_
  refine lv_istore_n (lv' := [(3, .int 0), (0, .ref (ad 7 j0)), (1, .ref (ad 10 j1)), (2, .int x2)]) hx hb d_Steps_faultOfReading_99 rfl hl (by decide) rfl (fun ls hl => ?_)
  refine lv_iload_n hx hb d_Steps_faultOfReading_100 rfl (lv_at hl 0 rfl) ?_
  refine lv_if_eq (tgt := 108) hx hb d_Steps_faultOfReading_101 (by decide) (fun c23 => ?_) (fun c23 => absurd (by decide) c23)
  refine lv_bipush (v := 17) hx hb d_Steps_faultOfReading_108 (by decide) ?_
  exact me_reti (me_kp M0) h hx hb hr hlocks hwf hkp hP hK hD hS d_Steps_faultOfReading_110
theorem d_Steps_faultOfArguments_65 : decode prog_11_method_21_code 65 = .ok (.istore_n 2, 1) := by decide +kernel
theorem d_Steps_faultOfArguments_66 : decode prog_11_method_21_code 66 = .ok (.aload_n 1, 1) := by decide +kernel
theorem d_Steps_faultOfArguments_67 : decode prog_11_method_21_code 67 = .ok (.getfield 76, 3) := by decide +kernel
theorem d_Steps_faultOfArguments_70 : decode prog_11_method_21_code 70 = .ok (.iload_n 2, 1) := by decide +kernel
theorem d_Steps_faultOfArguments_71 : decode prog_11_method_21_code 71 = .ok (.if_icmp .eq 18, 3) := by decide +kernel
theorem d_Steps_faultOfArguments_89 : decode prog_11_method_21_code 89 = .ok (.aload_n 0, 1) := by decide +kernel
theorem d_Steps_faultOfArguments_90 : decode prog_11_method_21_code 90 = .ok (.getfield 44, 3) := by decide +kernel
theorem d_Steps_faultOfArguments_93 : decode prog_11_method_21_code 93 = .ok (.getfield 119, 3) := by decide +kernel
theorem d_Steps_faultOfArguments_96 : decode prog_11_method_21_code 96 = .ok (.iconst 4, 1) := by decide +kernel
theorem d_Steps_faultOfArguments_97 : decode prog_11_method_21_code 97 = .ok (.if_icmp .ne 5, 3) := by decide +kernel
theorem d_Steps_faultOfArguments_102 : decode prog_11_method_21_code 102 = .ok (.aload_n 0, 1) := by decide +kernel
theorem d_Steps_faultOfArguments_103 : decode prog_11_method_21_code 103 = .ok (.getfield 44, 3) := by decide +kernel
theorem d_Steps_faultOfArguments_106 : decode prog_11_method_21_code 106 = .ok (.getfield 119, 3) := by decide +kernel
theorem d_Steps_faultOfArguments_109 : decode prog_11_method_21_code 109 = .ok (.bipush 6, 2) := by decide +kernel
theorem d_Steps_faultOfArguments_111 : decode prog_11_method_21_code 111 = .ok (.if_icmp .ne 42, 3) := by decide +kernel
theorem d_Steps_faultOfArguments_153 : decode prog_11_method_21_code 153 = .ok (.aload_n 0, 1) := by decide +kernel
theorem d_Steps_faultOfArguments_154 : decode prog_11_method_21_code 154 = .ok (.getfield 48, 3) := by decide +kernel
theorem d_Steps_faultOfArguments_157 : decode prog_11_method_21_code 157 = .ok (.aload_n 1, 1) := by decide +kernel
theorem d_Steps_faultOfArguments_158 : decode prog_11_method_21_code 158 = .ok (.getfield 122, 3) := by decide +kernel
theorem d_Steps_faultOfArguments_161 : decode prog_11_method_21_code 161 = .ok (.aaload, 1) := by decide +kernel
theorem d_Steps_faultOfArguments_162 : decode prog_11_method_21_code 162 = .ok (.astore_n 3, 1) := by decide +kernel
theorem d_Steps_faultOfArguments_163 : decode prog_11_method_21_code 163 = .ok (.aload_n 0, 1) := by decide +kernel
theorem d_Steps_faultOfArguments_164 : decode prog_11_method_21_code 164 = .ok (.aload_n 0, 1) := by decide +kernel
theorem d_Steps_faultOfArguments_165 : decode prog_11_method_21_code 165 = .ok (.getfield 66, 3) := by decide +kernel
theorem d_Steps_faultOfArguments_168 : decode prog_11_method_21_code 168 = .ok (.iconst 2, 1) := by decide +kernel
theorem d_Steps_faultOfArguments_169 : decode prog_11_method_21_code 169 = .ok (.aaload, 1) := by decide +kernel
theorem d_Steps_faultOfArguments_170 : decode prog_11_method_21_code 170 = .ok (.aload_n 3, 1) := by decide +kernel
theorem d_Steps_faultOfArguments_171 : decode prog_11_method_21_code 171 = .ok (.getfield 319, 3) := by decide +kernel
theorem u_905 : Cond.fieldLink "FilterGuard$Steps" 319 "FilterGuard$Store" "keyBytes" "I" ∈ fg_g := fg_in (List.mem_of_getElem? (i := 905) (by decide +kernel)) rfl
theorem g_Store_1 {p : Program} {l : Launch} {e : Env} {R : Room} {s : Jvm.State} {m : MethodId} {args : Array Value} {below : List Frame} {meth : Method} {c : Code} {H : Heap} {locs : List Loc} {cells slots : Nat} {Q : Jvm.State → Prop} {cc : ByteArray} {pc : Nat} {ls : Array Slot} {rest : List Value} {D : va_G} {ad : Nat → Nat → Nat} {ca : Nat → ClassId} {M : me_M} {N : Nat → Nat} {own : String} {index j : Nat} (hexec : p.tables.exec = Jvm.exec) (hb : c.code = cc) (hts : ∀ w ∈ fg_g, w.before args s = true) (hown : s.vm.findClass own = some m.cls) (hK : va_K D classes (me_T ca) s) (hP : va_P D classes (me_W ad ca M) H) (hwf : me_wf N M) (hj : j < N 12) (hlink : (Cond.fieldLink own index "FilterGuard$Store" "keyBytes" "I").before args s = true) (hdg : decode cc pc = .ok (.getfield index, 3)) (kk : W p l e R s m args below meth c H locs cells slots Q (F0 m (pc + 3) ls (.int (mI M 12 j 1) :: rest))) : W p l e R s m args below meth c H locs cells slots Q (F0 m pc ls (.ref (ad 12 j) :: rest)) := me_get (k := 12) (f := 1) (C := "FilterGuard$Store") (T := F_Store) (Nf := 7) hexec hb hts i_Store hown hK hP hwf hj (by decide) rfl (by decide) (by decide) hlink (fun _ h9 => h9) hdg kk
theorem d_Steps_faultOfArguments_174 : decode prog_11_method_21_code 174 = .ok (.invokevirtual 316, 3) := by decide +kernel
theorem u_1347 : Cond.methodLink "FilterGuard$Steps" 316 ⟨"FilterGuard$Steps", "faultOfReading", "(LFilterGuard$Cell;I)I"⟩ ∈ fg_g := fg_in (List.mem_of_getElem? (i := 1347) (by decide +kernel)) rfl
theorem u_1350 : Cond.code ⟨"FilterGuard$Steps", "faultOfReading", "(LFilterGuard$Cell;I)I"⟩ prog_11_method_22_code 4 (some .int) ∈ fg_g := fg_in (List.mem_of_getElem? (i := 1350) (by decide +kernel)) rfl
theorem u_1349 : Cond.instanceMethod ⟨"FilterGuard$Steps", "faultOfReading", "(LFilterGuard$Cell;I)I"⟩ ∈ fg_g := fg_in (List.mem_of_getElem? (i := 1349) (by decide +kernel)) rfl
theorem u_44 : Cond.selects "FilterGuard$Steps" ⟨"FilterGuard$Steps", "faultOfReading", "(LFilterGuard$Cell;I)I"⟩ ⟨"FilterGuard$Steps", "faultOfReading", "(LFilterGuard$Cell;I)I"⟩ ∈ fg_g := fg_in (List.mem_of_getElem? (i := 44) (by decide +kernel)) rfl
theorem d_Steps_faultOfArguments_177 : decode prog_11_method_21_code 177 = .ok (.istore 4, 2) := by decide +kernel
theorem d_Steps_faultOfArguments_179 : decode prog_11_method_21_code 179 = .ok (.iload 4, 2) := by decide +kernel
theorem d_Steps_faultOfArguments_181 : decode prog_11_method_21_code 181 = .ok (.ifCond .ne 14, 3) := by decide +kernel
theorem d_Steps_faultOfArguments_195 : decode prog_11_method_21_code 195 = .ok (.iload 4, 2) := by decide +kernel
theorem d_Steps_faultOfArguments_197 : decode prog_11_method_21_code 197 = .ok (.goto 17, 3) := by decide +kernel
theorem d_Steps_faultOfArguments_214 : decode prog_11_method_21_code 214 = .ok (.ireturn, 1) := by decide +kernel
theorem d_Steps_faultOfArguments_184 : decode prog_11_method_21_code 184 = .ok (.aload_n 0, 1) := by decide +kernel
theorem d_Steps_faultOfArguments_185 : decode prog_11_method_21_code 185 = .ok (.getfield 44, 3) := by decide +kernel
theorem d_Steps_faultOfArguments_188 : decode prog_11_method_21_code 188 = .ok (.getfield 119, 3) := by decide +kernel
theorem d_Steps_faultOfArguments_191 : decode prog_11_method_21_code 191 = .ok (.iconst 2, 1) := by decide +kernel
theorem d_Steps_faultOfArguments_192 : decode prog_11_method_21_code 192 = .ok (.if_icmp .eq 8, 3) := by decide +kernel
theorem d_Steps_faultOfArguments_200 : decode prog_11_method_21_code 200 = .ok (.aload_n 0, 1) := by decide +kernel
theorem d_Steps_faultOfArguments_201 : decode prog_11_method_21_code 201 = .ok (.aload_n 0, 1) := by decide +kernel
theorem d_Steps_faultOfArguments_202 : decode prog_11_method_21_code 202 = .ok (.getfield 66, 3) := by decide +kernel
theorem d_Steps_faultOfArguments_205 : decode prog_11_method_21_code 205 = .ok (.iconst 3, 1) := by decide +kernel
theorem d_Steps_faultOfArguments_206 : decode prog_11_method_21_code 206 = .ok (.aaload, 1) := by decide +kernel
theorem d_Steps_faultOfArguments_207 : decode prog_11_method_21_code 207 = .ok (.aload_n 3, 1) := by decide +kernel
theorem d_Steps_faultOfArguments_208 : decode prog_11_method_21_code 208 = .ok (.getfield 279, 3) := by decide +kernel
theorem d_Steps_faultOfArguments_211 : decode prog_11_method_21_code 211 = .ok (.invokevirtual 316, 3) := by decide +kernel
theorem d_Steps_faultOfArguments_114 : decode prog_11_method_21_code 114 = .ok (.aload_n 1, 1) := by decide +kernel
theorem d_Steps_faultOfArguments_115 : decode prog_11_method_21_code 115 = .ok (.getfield 143, 3) := by decide +kernel
theorem d_Steps_faultOfArguments_118 : decode prog_11_method_21_code 118 = .ok (.ldc2_w 314, 3) := by decide +kernel
theorem u_1346 : Cond.constantLong "FilterGuard$Steps" 314 512 ∈ fg_g := fg_in (List.mem_of_getElem? (i := 1346) (by decide +kernel)) rfl
theorem d_Steps_faultOfArguments_121 : decode prog_11_method_21_code 121 = .ok (.invokevirtual 183, 3) := by decide +kernel
theorem d_Steps_faultOfArguments_124 : decode prog_11_method_21_code 124 = .ok (.istore_n 3, 1) := by decide +kernel
theorem d_Steps_faultOfArguments_125 : decode prog_11_method_21_code 125 = .ok (.iload_n 3, 1) := by decide +kernel
theorem d_Steps_faultOfArguments_126 : decode prog_11_method_21_code 126 = .ok (.ifCond .eq 8, 3) := by decide +kernel
theorem d_Steps_faultOfArguments_134 : decode prog_11_method_21_code 134 = .ok (.aload_n 0, 1) := by decide +kernel
theorem d_Steps_faultOfArguments_135 : decode prog_11_method_21_code 135 = .ok (.aload_n 0, 1) := by decide +kernel
theorem d_Steps_faultOfArguments_136 : decode prog_11_method_21_code 136 = .ok (.getfield 66, 3) := by decide +kernel
theorem d_Steps_faultOfArguments_139 : decode prog_11_method_21_code 139 = .ok (.iconst 1, 1) := by decide +kernel
theorem d_Steps_faultOfArguments_140 : decode prog_11_method_21_code 140 = .ok (.aaload, 1) := by decide +kernel
theorem d_Steps_faultOfArguments_141 : decode prog_11_method_21_code 141 = .ok (.aload_n 1, 1) := by decide +kernel
theorem d_Steps_faultOfArguments_142 : decode prog_11_method_21_code 142 = .ok (.getfield 143, 3) := by decide +kernel
theorem d_Steps_faultOfArguments_145 : decode prog_11_method_21_code 145 = .ok (.getfield 287, 3) := by decide +kernel
theorem d_Steps_faultOfArguments_148 : decode prog_11_method_21_code 148 = .ok (.l2i, 1) := by decide +kernel
theorem d_Steps_faultOfArguments_149 : decode prog_11_method_21_code 149 = .ok (.invokevirtual 316, 3) := by decide +kernel
theorem d_Steps_faultOfArguments_152 : decode prog_11_method_21_code 152 = .ok (.ireturn, 1) := by decide +kernel
theorem d_Steps_faultOfArguments_129 : decode prog_11_method_21_code 129 = .ok (.bipush 17, 2) := by decide +kernel
theorem d_Steps_faultOfArguments_131 : decode prog_11_method_21_code 131 = .ok (.goto 21, 3) := by decide +kernel
theorem d_Steps_faultOfArguments_100 : decode prog_11_method_21_code 100 = .ok (.iconst 0, 1) := by decide +kernel
theorem d_Steps_faultOfArguments_101 : decode prog_11_method_21_code 101 = .ok (.ireturn, 1) := by decide +kernel
theorem d_Steps_faultOfArguments_74 : decode prog_11_method_21_code 74 = .ok (.aload_n 1, 1) := by decide +kernel
theorem d_Steps_faultOfArguments_75 : decode prog_11_method_21_code 75 = .ok (.getfield 76, 3) := by decide +kernel
theorem d_Steps_faultOfArguments_78 : decode prog_11_method_21_code 78 = .ok (.ifCond .ne 8, 3) := by decide +kernel
theorem d_Steps_faultOfArguments_86 : decode prog_11_method_21_code 86 = .ok (.bipush 17, 2) := by decide +kernel
theorem d_Steps_faultOfArguments_88 : decode prog_11_method_21_code 88 = .ok (.ireturn, 1) := by decide +kernel
theorem d_Steps_faultOfArguments_81 : decode prog_11_method_21_code 81 = .ok (.bipush 10, 2) := by decide +kernel
theorem d_Steps_faultOfArguments_83 : decode prog_11_method_21_code 83 = .ok (.goto 5, 3) := by decide +kernel
theorem d_Steps_faultOfArguments_59 : decode prog_11_method_21_code 59 = .ok (.iconst 1, 1) := by decide +kernel
theorem d_Steps_faultOfArguments_60 : decode prog_11_method_21_code 60 = .ok (.goto 5, 3) := by decide +kernel
theorem d_Steps_faultOfArguments_34 : decode prog_11_method_21_code 34 = .ok (.aaload, 1) := by decide +kernel
theorem d_Steps_faultOfArguments_35 : decode prog_11_method_21_code 35 = .ok (.astore_n 1, 1) := by decide +kernel
theorem d_Steps_faultOfArguments_36 : decode prog_11_method_21_code 36 = .ok (.aload_n 0, 1) := by decide +kernel
theorem d_Steps_faultOfArguments_37 : decode prog_11_method_21_code 37 = .ok (.getfield 44, 3) := by decide +kernel
theorem d_Steps_faultOfArguments_40 : decode prog_11_method_21_code 40 = .ok (.getfield 119, 3) := by decide +kernel
theorem d_Steps_faultOfArguments_43 : decode prog_11_method_21_code 43 = .ok (.iconst 4, 1) := by decide +kernel
theorem d_Steps_faultOfArguments_44 : decode prog_11_method_21_code 44 = .ok (.if_icmp .eq 15, 3) := by decide +kernel
theorem d_Steps_faultOfArguments_47 : decode prog_11_method_21_code 47 = .ok (.aload_n 0, 1) := by decide +kernel
theorem d_Steps_faultOfArguments_48 : decode prog_11_method_21_code 48 = .ok (.getfield 44, 3) := by decide +kernel
theorem d_Steps_faultOfArguments_51 : decode prog_11_method_21_code 51 = .ok (.getfield 119, 3) := by decide +kernel
theorem d_Steps_faultOfArguments_54 : decode prog_11_method_21_code 54 = .ok (.bipush 6, 2) := by decide +kernel
theorem d_Steps_faultOfArguments_56 : decode prog_11_method_21_code 56 = .ok (.if_icmp .ne 7, 3) := by decide +kernel
theorem d_Steps_faultOfArguments_63 : decode prog_11_method_21_code 63 = .ok (.bipush 6, 2) := by decide +kernel
theorem d_Steps_faultOfArguments_0 : decode prog_11_method_21_code 0 = .ok (.aload_n 0, 1) := by decide +kernel
theorem d_Steps_faultOfArguments_1 : decode prog_11_method_21_code 1 = .ok (.getfield 44, 3) := by decide +kernel
theorem d_Steps_faultOfArguments_4 : decode prog_11_method_21_code 4 = .ok (.getfield 119, 3) := by decide +kernel
theorem d_Steps_faultOfArguments_7 : decode prog_11_method_21_code 7 = .ok (.iconst 5, 1) := by decide +kernel
theorem d_Steps_faultOfArguments_8 : decode prog_11_method_21_code 8 = .ok (.if_icmp .ne 5, 3) := by decide +kernel
theorem d_Steps_faultOfArguments_13 : decode prog_11_method_21_code 13 = .ok (.aload_n 0, 1) := by decide +kernel
theorem d_Steps_faultOfArguments_14 : decode prog_11_method_21_code 14 = .ok (.getfield 66, 3) := by decide +kernel
theorem d_Steps_faultOfArguments_17 : decode prog_11_method_21_code 17 = .ok (.aload_n 0, 1) := by decide +kernel
theorem d_Steps_faultOfArguments_18 : decode prog_11_method_21_code 18 = .ok (.getfield 44, 3) := by decide +kernel
theorem d_Steps_faultOfArguments_21 : decode prog_11_method_21_code 21 = .ok (.getfield 119, 3) := by decide +kernel
theorem d_Steps_faultOfArguments_24 : decode prog_11_method_21_code 24 = .ok (.bipush 6, 2) := by decide +kernel
theorem d_Steps_faultOfArguments_26 : decode prog_11_method_21_code 26 = .ok (.if_icmp .ne 7, 3) := by decide +kernel
theorem d_Steps_faultOfArguments_33 : decode prog_11_method_21_code 33 = .ok (.iconst 1, 1) := by decide +kernel
theorem d_Steps_faultOfArguments_29 : decode prog_11_method_21_code 29 = .ok (.iconst 2, 1) := by decide +kernel
theorem d_Steps_faultOfArguments_30 : decode prog_11_method_21_code 30 = .ok (.goto 4, 3) := by decide +kernel
theorem d_Steps_faultOfArguments_11 : decode prog_11_method_21_code 11 = .ok (.iconst 0, 1) := by decide +kernel
theorem d_Steps_faultOfArguments_12 : decode prog_11_method_21_code 12 = .ok (.ireturn, 1) := by decide +kernel
abbrev y_Steps_faultOfArguments : MethodName := ⟨"FilterGuard$Steps", "faultOfArguments", "()I"⟩
def rm_Steps_faultOfArguments : Room := { frames := 5, cells := 0, slots := 0, locals := 128 }
abbrev q_Steps_faultOfArguments (D : va_G) (ad : Nat → Nat → Nat) (ca : Nat → ClassId) (N : Nat → Nat) (M0 MZ : me_M) (RZ : Int32) (A : Nat → Prop) : Array Value → Jvm.State → Outcome → Jvm.State → Prop := va_Qi (fun r (_ : Unit) => r = RZ ∧ me_wf N MZ ∧ me_kp M0 MZ) (fg_B D A (fun _ => me_W ad ca MZ) (fun _ => [])) A
set_option maxHeartbeats 4000000 in
set_option maxRecDepth 100000 in
theorem c_Steps_faultOfArguments (l : Launch) (D : va_G) (ad : Nat → Nat → Nat) (ca : Nat → ClassId) (N : Nat → Nat) (M0 MZ : me_M) (RZ : Int32) (j0 : Nat) (h : f_Steps_faultOfArguments M0 j0 = (some (MZ, RZ))) (hwf : me_wf N M0) (hj0 : j0 < N 7) (sz : Nat) : Met l y_Steps_faultOfArguments (fg_w y_Steps_faultOfArguments prog_11_method_21_code 5 (some .int)) rm_Steps_faultOfArguments (va_Pc [.ref (ad 7 j0)] (fz_P D (me_T ca) (me_W ad ca M0) sz)) (q_Steps_faultOfArguments D ad ca N M0 MZ RZ (va_A (me_W ad ca M0) sz)) rm_Steps_faultOfArguments.cells rm_Steps_faultOfArguments.slots (va_A (me_W ad ca M0) sz) := by
  refine fz_enter (fun A => q_Steps_faultOfArguments D ad ca N M0 MZ RZ A) (by decide +kernel) (Nat.le_of_ble_eq_true rfl) ?_
  intro p e s m below meth c ls A hx hb hml hown hts hr hlocks hin hP hK hD hS hA hX hl hz
  have hl : lv_has ls 5 [(0, .ref (ad 7 j0))] := hl
  unfold f_Steps_faultOfArguments at h
  have hkp : me_kp M0 M0 := me_kp.rf
  have hkb := hkp
  have b_65 : ∀ (M : me_M) (y1 : Nat) (s0 : Int32) (H : Heap) (locs : List Loc) (ls : Array Slot), f_Steps_faultOfArguments_b65 j0 M y1 s0 = (some (MZ, RZ)) → (y1 < N 10) → me_wf N M → me_kp M0 M → va_P D classes (me_W ad ca M) H → va_D A (me_W ad ca M) → va_S A s.heap H locs → lv_has ls 5 [(0, .ref (ad 7 j0)), (1, .ref (ad 10 y1))] → W p l e rm_Steps_faultOfArguments s m [.ref (ad 7 j0)].toArray below meth c H locs 0 0 (MQ below (q_Steps_faultOfArguments D ad ca N M0 MZ RZ A) [.ref (ad 7 j0)].toArray s rm_Steps_faultOfArguments.cells rm_Steps_faultOfArguments.slots A) (F0 m 65 ls [.int s0]) := by
    intro M y1 s0 H locs ls h hy1 hwf hkp hP hD hS hl
    unfold f_Steps_faultOfArguments_b65 at h
    have hkb := hkp
    refine lv_istore_n (lv' := [(2, .int s0), (0, .ref (ad 7 j0)), (1, .ref (ad 10 y1))]) hx hb d_Steps_faultOfArguments_65 rfl hl (by decide) rfl (fun ls hl => ?_)
    refine lv_aload_n hx hb d_Steps_faultOfArguments_66 rfl (lv_at hl 2 rfl) ?_
    refine g_Cell_0 hx hb hts hown hK hP hwf hy1 (hts _ u_422) d_Steps_faultOfArguments_67 ?_
    refine lv_iload_n hx hb d_Steps_faultOfArguments_70 rfl (lv_at hl 0 rfl) ?_
    refine lv_icmp_eq (tgt := 89) hx hb d_Steps_faultOfArguments_71 (by decide) (fun c1 => ?_) (fun c1 => ?_)
    · have h := if_t c1 h
      refine lv_aload_n hx hb d_Steps_faultOfArguments_89 rfl (lv_at hl 1 rfl) ?_
      refine g_Steps_0 hx hb hts hown hK hP hwf hj0 (hts _ u_455) d_Steps_faultOfArguments_90 ?_
      obtain ⟨j2, e3, h⟩ := bd_ob h
      have hj2 : j2 < N 2 := (hwf.2.1 7 j0 0 _ e3 (by decide) hj0)
      refine me_opt (j := j2) e3 ?_
      refine g_Code_9 hx hb hts hown hK hP hwf hj2 (hts _ u_248) d_Steps_faultOfArguments_93 ?_
      refine lv_iconst (v := 4) hx hb d_Steps_faultOfArguments_96 (by decide) ?_
      refine lv_icmp_ne (tgt := 102) hx hb d_Steps_faultOfArguments_97 (by decide) (fun c4 => ?_) (fun c4 => ?_)
      · have h := if_f c4 h
        refine lv_aload_n hx hb d_Steps_faultOfArguments_102 rfl (lv_at hl 1 rfl) ?_
        refine g_Steps_0 hx hb hts hown hK hP hwf hj0 (hts _ u_455) d_Steps_faultOfArguments_103 ?_
        refine me_opt (j := j2) e3 ?_
        refine g_Code_9 hx hb hts hown hK hP hwf hj2 (hts _ u_248) d_Steps_faultOfArguments_106 ?_
        refine lv_bipush (v := 6) hx hb d_Steps_faultOfArguments_109 (by decide) ?_
        refine lv_icmp_ne (tgt := 153) hx hb d_Steps_faultOfArguments_111 (by decide) (fun c5 => ?_) (fun c5 => ?_)
        · have h := if_f c5 h
          refine lv_aload_n hx hb d_Steps_faultOfArguments_153 rfl (lv_at hl 1 rfl) ?_
          refine g_Steps_1 hx hb hts hown hK hP hwf hj0 (hts _ u_456) d_Steps_faultOfArguments_154 ?_
          obtain ⟨j6, e7, h⟩ := bd_ob h
          have hj6 : j6 < N 19 := (hwf.2.1 7 j0 1 _ e7 (by decide) hj0)
          refine me_opt (j := j6) e7 ?_
          refine lv_aload_n hx hb d_Steps_faultOfArguments_157 rfl (lv_at hl 2 rfl) ?_
          refine g_Cell_2 hx hb hts hown hK hP hwf hy1 (hts _ u_427) d_Steps_faultOfArguments_158 ?_
          obtain ⟨g8, h⟩ := gd_ob h
          refine me_aald (k := 19) (t := 12) hx hb hK hP hwf hj6 (by decide) (by decide) rfl (fun _ => rfl) g8 d_Steps_faultOfArguments_161 ?_
          obtain ⟨j9, e10, h⟩ := bd_ob h
          have hj9 : j9 < N 12 := (hwf.2.1 19 j6 ((mI M 10 y1 2).toNatClampNeg) _ e10 (by decide) hj6)
          refine me_opt (j := j9) e10 ?_
          refine lv_astore_n (lv' := [(3, .ref (ad 12 j9)), (2, .int s0), (0, .ref (ad 7 j0)), (1, .ref (ad 10 y1))]) hx hb d_Steps_faultOfArguments_162 rfl hl (by decide) rfl (fun ls hl => ?_)
          refine lv_aload_n hx hb d_Steps_faultOfArguments_163 rfl (lv_at hl 2 rfl) ?_
          refine lv_aload_n hx hb d_Steps_faultOfArguments_164 rfl (lv_at hl 2 rfl) ?_
          refine g_Steps_5 hx hb hts hown hK hP hwf hj0 (hts _ u_460) d_Steps_faultOfArguments_165 ?_
          obtain ⟨j11, e12, h⟩ := bd_ob h
          have hj11 : j11 < N 18 := (hwf.2.1 7 j0 5 _ e12 (by decide) hj0)
          refine me_opt (j := j11) e12 ?_
          refine lv_iconst (v := 2) hx hb d_Steps_faultOfArguments_168 (by decide) ?_
          obtain ⟨g13, h⟩ := gd_ob h
          refine me_aald (k := 18) (t := 10) hx hb hK hP hwf hj11 (by decide) (by decide) rfl (fun _ => rfl) (me_in (i := (2 : Int32)) (k := 2) (by decide) (by decide) g13) d_Steps_faultOfArguments_169 ?_
          rw [show (2 : Int32).toNatClampNeg = 2 by decide]
          obtain ⟨j14, e15, h⟩ := bd_ob h
          have hj14 : j14 < N 10 := (hwf.2.1 18 j11 2 _ e15 (by decide) hj11)
          refine me_opt (j := j14) e15 ?_
          refine lv_aload_n hx hb d_Steps_faultOfArguments_170 rfl (lv_at hl 0 rfl) ?_
          refine g_Store_1 hx hb hts hown hK hP hwf hj9 (hts _ u_905) d_Steps_faultOfArguments_171 ?_
          obtain ⟨M16, r17, eM16, h⟩ := b2_ob h
          refine me_theni0 (M1 := M16) (me_runV (C := "FilterGuard$Steps") (As := [.ref (ad 10 j14), .int (mI M 12 j9 1)]) (rest := []) ⟨hx, hb, hml, hown, hts⟩ (c_Steps_faultOfReading l D ad ca N M M16 r17 j0 j14 (mI M 12 j9 1) eM16 hwf hj0 hj14 _) rfl (by show fg_nm y_Steps_faultOfReading 2; decide +kernel) u_1347 u_1349 u_44 u_185 u_1350 ⟨Nat.le_of_ble_eq_true rfl, Nat.le_of_ble_eq_true rfl⟩ hX hz hK hP hD hwf hS hA hj0 (by decide) rfl rfl rfl hl.1 (Nat.le_of_ble_eq_true rfl) d_Steps_faultOfArguments_174 ⟨Nat.le_of_ble_eq_true rfl, Nat.le_of_ble_eq_true rfl⟩) hP hD hK hS hA rfl rfl (fun H locs hw hP hD hS => ?_)
          obtain ⟨hwf, hk9⟩ := hw
          have hkp := hkp.tr hk9
          refine lv_istore (lv' := [(4, .int r17), (3, .ref (ad 12 j9)), (2, .int s0), (0, .ref (ad 7 j0)), (1, .ref (ad 10 y1))]) hx hb d_Steps_faultOfArguments_177 hl (by decide) rfl (fun ls hl => ?_)
          refine lv_iload hx hb d_Steps_faultOfArguments_179 (lv_at hl 0 rfl) ?_
          refine lv_if_ne (tgt := 195) hx hb d_Steps_faultOfArguments_181 (by decide) (fun c18 => ?_) (fun c18 => ?_)
          · have h := if_f c18 h
            refine lv_iload hx hb d_Steps_faultOfArguments_195 (lv_at hl 0 rfl) ?_
            refine lv_goto (tgt := 214) hx hb d_Steps_faultOfArguments_197 (by decide) ?_
            exact me_reti (me_kp M0) h hx hb hr hlocks hwf hkp hP hK hD hS d_Steps_faultOfArguments_214
          have h := if_t c18 h
          refine lv_aload_n hx hb d_Steps_faultOfArguments_184 rfl (lv_at hl 3 rfl) ?_
          refine g_Steps_0 hx hb hts hown hK hP hwf hj0 (hts _ u_455) d_Steps_faultOfArguments_185 ?_
          refine me_opt (j := j2) (kp_r hkb hkp e3) ?_
          refine g_Code_9 hx hb hts hown hK hP hwf hj2 (hts _ u_248) d_Steps_faultOfArguments_188 ?_
          refine lv_iconst (v := 2) hx hb d_Steps_faultOfArguments_191 (by decide) ?_
          refine lv_icmp_eq (tgt := 200) hx hb d_Steps_faultOfArguments_192 (by decide) (fun c19 => ?_) (fun c19 => ?_)
          · have h := if_t c19 h
            refine lv_aload_n hx hb d_Steps_faultOfArguments_200 rfl (lv_at hl 3 rfl) ?_
            refine lv_aload_n hx hb d_Steps_faultOfArguments_201 rfl (lv_at hl 3 rfl) ?_
            refine g_Steps_5 hx hb hts hown hK hP hwf hj0 (hts _ u_460) d_Steps_faultOfArguments_202 ?_
            refine me_opt (j := j11) (kp_r hkb hkp e12) ?_
            refine lv_iconst (v := 3) hx hb d_Steps_faultOfArguments_205 (by decide) ?_
            obtain ⟨g20, h⟩ := gd_ob h
            refine me_aald (k := 18) (t := 10) hx hb hK hP hwf hj11 (by decide) (by decide) rfl (fun _ => rfl) (me_in (i := (3 : Int32)) (k := 3) (by decide) (by decide) (kp_c hkb.z hkp.z g20)) d_Steps_faultOfArguments_206 ?_
            rw [show (3 : Int32).toNatClampNeg = 3 by decide]
            obtain ⟨j21, e22, h⟩ := bd_ob h
            have hj21 : j21 < N 10 := (hwf.2.1 18 j11 3 _ (kp_r hkb hkp e22) (by decide) hj11)
            refine me_opt (j := j21) (kp_r hkb hkp e22) ?_
            refine lv_aload_n hx hb d_Steps_faultOfArguments_207 rfl (lv_at hl 1 rfl) ?_
            refine g_Store_2 hx hb hts hown hK hP hwf hj9 (hts _ u_910) d_Steps_faultOfArguments_208 ?_
            obtain ⟨M23, r24, eM23, h⟩ := b2_ob h
            refine me_theni0 (M1 := M23) (me_runV (C := "FilterGuard$Steps") (As := [.ref (ad 10 j21), .int (mI M16 12 j9 2)]) (rest := []) ⟨hx, hb, hml, hown, hts⟩ (c_Steps_faultOfReading l D ad ca N M16 M23 r24 j0 j21 (mI M16 12 j9 2) eM23 hwf hj0 hj21 _) rfl (by show fg_nm y_Steps_faultOfReading 2; decide +kernel) u_1347 u_1349 u_44 u_185 u_1350 ⟨Nat.le_of_ble_eq_true rfl, Nat.le_of_ble_eq_true rfl⟩ hX hz hK hP hD hwf hS hA hj0 (by decide) rfl rfl rfl hl.1 (Nat.le_of_ble_eq_true rfl) d_Steps_faultOfArguments_211 ⟨Nat.le_of_ble_eq_true rfl, Nat.le_of_ble_eq_true rfl⟩) hP hD hK hS hA rfl rfl (fun H locs hw hP hD hS => ?_)
            obtain ⟨hwf, hk9⟩ := hw
            have hkp := hkp.tr hk9
            exact me_reti (me_kp M0) h hx hb hr hlocks hwf hkp hP hK hD hS d_Steps_faultOfArguments_214
          have h := if_f c19 h
          refine lv_iload hx hb d_Steps_faultOfArguments_195 (lv_at hl 0 rfl) ?_
          refine lv_goto (tgt := 214) hx hb d_Steps_faultOfArguments_197 (by decide) ?_
          exact me_reti (me_kp M0) h hx hb hr hlocks hwf hkp hP hK hD hS d_Steps_faultOfArguments_214
        have h := if_t c5 h
        refine lv_aload_n hx hb d_Steps_faultOfArguments_114 rfl (lv_at hl 2 rfl) ?_
        refine g_Cell_6 hx hb hts hown hK hP hwf hy1 (hts _ u_437) d_Steps_faultOfArguments_115 ?_
        obtain ⟨j25, e26, h⟩ := bd_ob h
        have hj25 : j25 < N 11 := (hwf.2.1 10 y1 6 _ e26 (by decide) hy1)
        refine me_opt (j := j25) e26 ?_
        refine lv_ldc2 hx hb hown (hts _ u_1346) d_Steps_faultOfArguments_118 ?_
        obtain ⟨M27, r28, eM27, h⟩ := b2_ob h
        refine me_theni0 (M1 := M27) (me_runV (C := "FilterGuard$Num") (As := [.long 512]) (rest := []) ⟨hx, hb, hml, hown, hts⟩ (c_Num_isAbove l D ad ca N M M27 r28 j25 (512 : Int64) eM27 hwf hj25 _) rfl (by show fg_nm y_Num_isAbove 1; decide +kernel) u_1255 u_1174 u_1175 u_187 u_1176 ⟨Nat.le_of_ble_eq_true rfl, Nat.le_of_ble_eq_true rfl⟩ hX hz hK hP hD hwf hS hA hj25 (by decide) rfl rfl rfl hl.1 (Nat.le_of_ble_eq_true rfl) d_Steps_faultOfArguments_121 ⟨Nat.le_of_ble_eq_true rfl, Nat.le_of_ble_eq_true rfl⟩) hP hD hK hS hA rfl rfl (fun H locs hw hP hD hS => ?_)
        obtain ⟨hwf, hk9, zr28⟩ := hw
        have hkp := hkp.tr hk9
        refine lv_istore_n (lv' := [(3, .int r28), (2, .int s0), (0, .ref (ad 7 j0)), (1, .ref (ad 10 y1))]) hx hb d_Steps_faultOfArguments_124 rfl hl (by decide) rfl (fun ls hl => ?_)
        refine lv_iload_n hx hb d_Steps_faultOfArguments_125 rfl (lv_at hl 0 rfl) ?_
        refine lv_if_eq (tgt := 134) hx hb d_Steps_faultOfArguments_126 (by decide) (fun c29 => ?_) (fun c29 => ?_)
        · have h := if_t c29 h
          refine lv_aload_n hx hb d_Steps_faultOfArguments_134 rfl (lv_at hl 2 rfl) ?_
          refine lv_aload_n hx hb d_Steps_faultOfArguments_135 rfl (lv_at hl 2 rfl) ?_
          refine g_Steps_5 hx hb hts hown hK hP hwf hj0 (hts _ u_460) d_Steps_faultOfArguments_136 ?_
          obtain ⟨j30, e31, h⟩ := bd_ob h
          have hj30 : j30 < N 18 := (hwf.2.1 7 j0 5 _ (kp_r hkb hkp e31) (by decide) hj0)
          refine me_opt (j := j30) (kp_r hkb hkp e31) ?_
          refine lv_iconst (v := 1) hx hb d_Steps_faultOfArguments_139 (by decide) ?_
          obtain ⟨g32, h⟩ := gd_ob h
          refine me_aald (k := 18) (t := 10) hx hb hK hP hwf hj30 (by decide) (by decide) rfl (fun _ => rfl) (me_in (i := (1 : Int32)) (k := 1) (by decide) (by decide) (kp_c hkb.z hkp.z g32)) d_Steps_faultOfArguments_140 ?_
          rw [show (1 : Int32).toNatClampNeg = 1 by decide]
          obtain ⟨j33, e34, h⟩ := bd_ob h
          have hj33 : j33 < N 10 := (hwf.2.1 18 j30 1 _ (kp_r hkb hkp e34) (by decide) hj30)
          refine me_opt (j := j33) (kp_r hkb hkp e34) ?_
          refine lv_aload_n hx hb d_Steps_faultOfArguments_141 rfl (lv_at hl 3 rfl) ?_
          refine g_Cell_6 hx hb hts hown hK hP hwf hy1 (hts _ u_437) d_Steps_faultOfArguments_142 ?_
          refine me_opt (j := j25) (kp_r hkb hkp e26) ?_
          refine g_Num_3 hx hb hts hown hK hP hwf hj25 (hts _ u_378) d_Steps_faultOfArguments_145 ?_
          refine lv_l2i (v := (mL M27 11 j25 3).toInt32) hx hb d_Steps_faultOfArguments_148 rfl ?_
          obtain ⟨M35, r36, eM35, h⟩ := b2_ob h
          refine me_theni0 (M1 := M35) (me_runV (C := "FilterGuard$Steps") (As := [.ref (ad 10 j33), .int ((mL M27 11 j25 3).toInt32)]) (rest := []) ⟨hx, hb, hml, hown, hts⟩ (c_Steps_faultOfReading l D ad ca N M27 M35 r36 j0 j33 ((mL M27 11 j25 3).toInt32) eM35 hwf hj0 hj33 _) rfl (by show fg_nm y_Steps_faultOfReading 2; decide +kernel) u_1347 u_1349 u_44 u_185 u_1350 ⟨Nat.le_of_ble_eq_true rfl, Nat.le_of_ble_eq_true rfl⟩ hX hz hK hP hD hwf hS hA hj0 (by decide) rfl rfl rfl hl.1 (Nat.le_of_ble_eq_true rfl) d_Steps_faultOfArguments_149 ⟨Nat.le_of_ble_eq_true rfl, Nat.le_of_ble_eq_true rfl⟩) hP hD hK hS hA rfl rfl (fun H locs hw hP hD hS => ?_)
          obtain ⟨hwf, hk9⟩ := hw
          have hkp := hkp.tr hk9
          exact me_reti (me_kp M0) h hx hb hr hlocks hwf hkp hP hK hD hS d_Steps_faultOfArguments_152
        have h := if_f c29 h
        refine lv_bipush (v := 17) hx hb d_Steps_faultOfArguments_129 (by decide) ?_
        refine lv_goto (tgt := 152) hx hb d_Steps_faultOfArguments_131 (by decide) ?_
        exact me_reti (me_kp M0) h hx hb hr hlocks hwf hkp hP hK hD hS d_Steps_faultOfArguments_152
      have h := if_t c4 h
      refine lv_iconst (v := 0) hx hb d_Steps_faultOfArguments_100 (by decide) ?_
      exact me_reti (me_kp M0) h hx hb hr hlocks hwf hkp hP hK hD hS d_Steps_faultOfArguments_101
    have h := if_f c1 h
    refine lv_aload_n hx hb d_Steps_faultOfArguments_74 rfl (lv_at hl 2 rfl) ?_
    refine g_Cell_0 hx hb hts hown hK hP hwf hy1 (hts _ u_422) d_Steps_faultOfArguments_75 ?_
    refine lv_if_ne (tgt := 86) hx hb d_Steps_faultOfArguments_78 (by decide) (fun c37 => ?_) (fun c37 => ?_)
    · have h := if_f c37 h
      refine lv_bipush (v := 17) hx hb d_Steps_faultOfArguments_86 (by decide) ?_
      exact me_reti (me_kp M0) h hx hb hr hlocks hwf hkp hP hK hD hS d_Steps_faultOfArguments_88
    have h := if_t c37 h
    refine lv_bipush (v := 10) hx hb d_Steps_faultOfArguments_81 (by decide) ?_
    refine lv_goto (tgt := 88) hx hb d_Steps_faultOfArguments_83 (by decide) ?_
    exact me_reti (me_kp M0) h hx hb hr hlocks hwf hkp hP hK hD hS d_Steps_faultOfArguments_88
  have b_59 : ∀ (M : me_M) (y1 : Nat) (H : Heap) (locs : List Loc) (ls : Array Slot), f_Steps_faultOfArguments_b59 j0 M y1 = (some (MZ, RZ)) → (y1 < N 10) → me_wf N M → me_kp M0 M → va_P D classes (me_W ad ca M) H → va_D A (me_W ad ca M) → va_S A s.heap H locs → lv_has ls 5 [(0, .ref (ad 7 j0)), (1, .ref (ad 10 y1))] → W p l e rm_Steps_faultOfArguments s m [.ref (ad 7 j0)].toArray below meth c H locs 0 0 (MQ below (q_Steps_faultOfArguments D ad ca N M0 MZ RZ A) [.ref (ad 7 j0)].toArray s rm_Steps_faultOfArguments.cells rm_Steps_faultOfArguments.slots A) (F0 m 59 ls []) := by
    intro M y1 H locs ls h hy1 hwf hkp hP hD hS hl
    unfold f_Steps_faultOfArguments_b59 at h
    have hkb := hkp
    refine lv_iconst (v := 1) hx hb d_Steps_faultOfArguments_59 (by decide) ?_
    refine lv_goto (tgt := 65) hx hb d_Steps_faultOfArguments_60 (by decide) ?_
    exact b_65 M y1 (1 : Int32) _ _ _ h hy1 hwf hkp hP hD hS (lv_sub hl [0, 1] rfl)
  have b_34 : ∀ (M : me_M) (s0 : Int32) (s1 : Nat) (H : Heap) (locs : List Loc) (ls : Array Slot), f_Steps_faultOfArguments_b34 j0 M s0 s1 = (some (MZ, RZ)) → (s1 < N 18) → me_wf N M → me_kp M0 M → va_P D classes (me_W ad ca M) H → va_D A (me_W ad ca M) → va_S A s.heap H locs → lv_has ls 5 [(0, .ref (ad 7 j0))] → W p l e rm_Steps_faultOfArguments s m [.ref (ad 7 j0)].toArray below meth c H locs 0 0 (MQ below (q_Steps_faultOfArguments D ad ca N M0 MZ RZ A) [.ref (ad 7 j0)].toArray s rm_Steps_faultOfArguments.cells rm_Steps_faultOfArguments.slots A) (F0 m 34 ls [.int s0, .ref (ad 18 s1)]) := by
    intro M s0 s1 H locs ls h hs1 hwf hkp hP hD hS hl
    unfold f_Steps_faultOfArguments_b34 at h
    have hkb := hkp
    obtain ⟨g38, h⟩ := gd_ob h
    refine me_aald (k := 18) (t := 10) hx hb hK hP hwf hs1 (by decide) (by decide) rfl (fun _ => rfl) g38 d_Steps_faultOfArguments_34 ?_
    obtain ⟨j39, e40, h⟩ := bd_ob h
    have hj39 : j39 < N 10 := (hwf.2.1 18 s1 s0.toNatClampNeg _ e40 (by decide) hs1)
    refine me_opt (j := j39) e40 ?_
    refine lv_astore_n (lv' := [(1, .ref (ad 10 j39)), (0, .ref (ad 7 j0))]) hx hb d_Steps_faultOfArguments_35 rfl hl (by decide) rfl (fun ls hl => ?_)
    refine lv_aload_n hx hb d_Steps_faultOfArguments_36 rfl (lv_at hl 1 rfl) ?_
    refine g_Steps_0 hx hb hts hown hK hP hwf hj0 (hts _ u_455) d_Steps_faultOfArguments_37 ?_
    obtain ⟨j41, e42, h⟩ := bd_ob h
    have hj41 : j41 < N 2 := (hwf.2.1 7 j0 0 _ e42 (by decide) hj0)
    refine me_opt (j := j41) e42 ?_
    refine g_Code_9 hx hb hts hown hK hP hwf hj41 (hts _ u_248) d_Steps_faultOfArguments_40 ?_
    refine lv_iconst (v := 4) hx hb d_Steps_faultOfArguments_43 (by decide) ?_
    refine lv_icmp_eq (tgt := 59) hx hb d_Steps_faultOfArguments_44 (by decide) (fun c43 => ?_) (fun c43 => ?_)
    · have h := if_t c43 h
      exact b_59 M j39 _ _ _ h hj39 hwf hkp hP hD hS (lv_sub hl [1, 0] rfl)
    have h := if_f c43 h
    refine lv_aload_n hx hb d_Steps_faultOfArguments_47 rfl (lv_at hl 1 rfl) ?_
    refine g_Steps_0 hx hb hts hown hK hP hwf hj0 (hts _ u_455) d_Steps_faultOfArguments_48 ?_
    refine me_opt (j := j41) e42 ?_
    refine g_Code_9 hx hb hts hown hK hP hwf hj41 (hts _ u_248) d_Steps_faultOfArguments_51 ?_
    refine lv_bipush (v := 6) hx hb d_Steps_faultOfArguments_54 (by decide) ?_
    refine lv_icmp_ne (tgt := 63) hx hb d_Steps_faultOfArguments_56 (by decide) (fun c44 => ?_) (fun c44 => ?_)
    · have h := if_f c44 h
      refine lv_bipush (v := 6) hx hb d_Steps_faultOfArguments_63 (by decide) ?_
      exact b_65 M j39 (6 : Int32) _ _ _ h hj39 hwf hkp hP hD hS (lv_sub hl [1, 0] rfl)
    have h := if_t c44 h
    exact b_59 M j39 _ _ _ h hj39 hwf hkp hP hD hS (lv_sub hl [1, 0] rfl)
  refine lv_aload_n hx hb d_Steps_faultOfArguments_0 rfl (lv_at hl 0 rfl) ?_
  refine g_Steps_0 hx hb hts hown hK hP hwf hj0 (hts _ u_455) d_Steps_faultOfArguments_1 ?_
  obtain ⟨j45, e46, h⟩ := bd_ob h
  have hj45 : j45 < N 2 := (hwf.2.1 7 j0 0 _ e46 (by decide) hj0)
  refine me_opt (j := j45) e46 ?_
  refine g_Code_9 hx hb hts hown hK hP hwf hj45 (hts _ u_248) d_Steps_faultOfArguments_4 ?_
  refine lv_iconst (v := 5) hx hb d_Steps_faultOfArguments_7 (by decide) ?_
  refine lv_icmp_ne (tgt := 13) hx hb d_Steps_faultOfArguments_8 (by decide) (fun c47 => ?_) (fun c47 => ?_)
  · have h := if_f c47 h
    refine lv_aload_n hx hb d_Steps_faultOfArguments_13 rfl (lv_at hl 0 rfl) ?_
    refine g_Steps_5 hx hb hts hown hK hP hwf hj0 (hts _ u_460) d_Steps_faultOfArguments_14 ?_
    obtain ⟨j48, e49, h⟩ := bd_ob h
    have hj48 : j48 < N 18 := (hwf.2.1 7 j0 5 _ e49 (by decide) hj0)
    refine me_opt (j := j48) e49 ?_
    refine lv_aload_n hx hb d_Steps_faultOfArguments_17 rfl (lv_at hl 0 rfl) ?_
    refine g_Steps_0 hx hb hts hown hK hP hwf hj0 (hts _ u_455) d_Steps_faultOfArguments_18 ?_
    refine me_opt (j := j45) e46 ?_
    refine g_Code_9 hx hb hts hown hK hP hwf hj45 (hts _ u_248) d_Steps_faultOfArguments_21 ?_
    refine lv_bipush (v := 6) hx hb d_Steps_faultOfArguments_24 (by decide) ?_
    refine lv_icmp_ne (tgt := 33) hx hb d_Steps_faultOfArguments_26 (by decide) (fun c50 => ?_) (fun c50 => ?_)
    · have h := if_f c50 h
      refine lv_iconst (v := 1) hx hb d_Steps_faultOfArguments_33 (by decide) ?_
      exact b_34 M0 (1 : Int32) j48 _ _ _ h hj48 hwf hkp hP hD hS (lv_sub hl [0] rfl)
    have h := if_t c50 h
    refine lv_iconst (v := 2) hx hb d_Steps_faultOfArguments_29 (by decide) ?_
    refine lv_goto (tgt := 34) hx hb d_Steps_faultOfArguments_30 (by decide) ?_
    exact b_34 M0 (2 : Int32) j48 _ _ _ h hj48 hwf hkp hP hD hS (lv_sub hl [0] rfl)
  have h := if_t c47 h
  refine lv_iconst (v := 0) hx hb d_Steps_faultOfArguments_11 (by decide) ?_
  exact me_reti (me_kp M0) h hx hb hr hlocks hwf hkp hP hK hD hS d_Steps_faultOfArguments_12
