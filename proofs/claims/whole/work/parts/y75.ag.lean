theorem d_M_bytesOf_0 : decode prog_14_method_27_code 0 = .ok (.aload_n 0, 1) := by decide +kernel
theorem d_M_bytesOf_1 : decode prog_14_method_27_code 1 = .ok (.iload_n 1, 1) := by decide +kernel
theorem d_M_bytesOf_2 : decode prog_14_method_27_code 2 = .ok (.invokevirtual 192, 3) := by decide +kernel
theorem d_M_bytesOf_5 : decode prog_14_method_27_code 5 = .ok (.ifCond .eq 39, 3) := by decide +kernel
theorem d_M_bytesOf_44 : decode prog_14_method_27_code 44 = .ok (.bipush 8, 2) := by decide +kernel
theorem d_M_bytesOf_46 : decode prog_14_method_27_code 46 = .ok (.ireturn, 1) := by decide +kernel
theorem d_M_bytesOf_8 : decode prog_14_method_27_code 8 = .ok (.aload_n 0, 1) := by decide +kernel
theorem d_M_bytesOf_9 : decode prog_14_method_27_code 9 = .ok (.getfield 104, 3) := by decide +kernel
theorem d_M_bytesOf_12 : decode prog_14_method_27_code 12 = .ok (.iload_n 1, 1) := by decide +kernel
theorem d_M_bytesOf_13 : decode prog_14_method_27_code 13 = .ok (.laload, 1) := by decide +kernel
theorem d_M_bytesOf_14 : decode prog_14_method_27_code 14 = .ok (.ldc2_w 212, 3) := by decide +kernel
theorem u_2305 : Cond.constantLong "FilterGuardModel" 212 2 ∈ fg_g := fg_in (List.mem_of_getElem? (i := 2305) (by decide +kernel)) rfl
theorem d_M_bytesOf_17 : decode prog_14_method_27_code 17 = .ok (.lcmp, 1) := by decide +kernel
theorem d_M_bytesOf_18 : decode prog_14_method_27_code 18 = .ok (.ifCond .eq 16, 3) := by decide +kernel
theorem d_M_bytesOf_34 : decode prog_14_method_27_code 34 = .ok (.aload_n 0, 1) := by decide +kernel
theorem d_M_bytesOf_35 : decode prog_14_method_27_code 35 = .ok (.getfield 104, 3) := by decide +kernel
theorem d_M_bytesOf_38 : decode prog_14_method_27_code 38 = .ok (.iload_n 1, 1) := by decide +kernel
theorem d_M_bytesOf_39 : decode prog_14_method_27_code 39 = .ok (.laload, 1) := by decide +kernel
theorem d_M_bytesOf_40 : decode prog_14_method_27_code 40 = .ok (.l2i, 1) := by decide +kernel
theorem d_M_bytesOf_41 : decode prog_14_method_27_code 41 = .ok (.goto 5, 3) := by decide +kernel
theorem d_M_bytesOf_21 : decode prog_14_method_27_code 21 = .ok (.aload_n 0, 1) := by decide +kernel
theorem d_M_bytesOf_22 : decode prog_14_method_27_code 22 = .ok (.getfield 104, 3) := by decide +kernel
theorem d_M_bytesOf_25 : decode prog_14_method_27_code 25 = .ok (.iload_n 1, 1) := by decide +kernel
theorem d_M_bytesOf_26 : decode prog_14_method_27_code 26 = .ok (.laload, 1) := by decide +kernel
theorem d_M_bytesOf_27 : decode prog_14_method_27_code 27 = .ok (.ldc2_w 214, 3) := by decide +kernel
theorem u_2306 : Cond.constantLong "FilterGuardModel" 214 4 ∈ fg_g := fg_in (List.mem_of_getElem? (i := 2306) (by decide +kernel)) rfl
theorem d_M_bytesOf_30 : decode prog_14_method_27_code 30 = .ok (.lcmp, 1) := by decide +kernel
theorem d_M_bytesOf_31 : decode prog_14_method_27_code 31 = .ok (.ifCond .ne 13, 3) := by decide +kernel
abbrev y_M_bytesOf : MethodName := ⟨"FilterGuardModel", "bytesOf", "(I)I"⟩
def rm_M_bytesOf : Room := { frames := 2, cells := 0, slots := 0, locals := 41 }
abbrev q_M_bytesOf (D : va_G) (ad : Nat → Nat → Nat) (ca : Nat → ClassId) (N : Nat → Nat) (M0 MZ : me_M) (RZ : Int32) (A : Nat → Prop) : Array Value → Jvm.State → Outcome → Jvm.State → Prop := va_Qi (fun r (_ : Unit) => r = RZ ∧ me_wf N MZ ∧ me_kp M0 MZ) (fg_B D A (fun _ => me_W ad ca MZ) (fun _ => [])) A
set_option maxHeartbeats 4000000 in
set_option maxRecDepth 100000 in
theorem c_M_bytesOf (l : Launch) (D : va_G) (ad : Nat → Nat → Nat) (ca : Nat → ClassId) (N : Nat → Nat) (M0 MZ : me_M) (RZ : Int32) (j0 : Nat) (x1 : Int32) (h : f_M_bytesOf M0 j0 x1 = (some (MZ, RZ))) (hwf : me_wf N M0) (hj0 : j0 < N 1) (sz : Nat) : Met l y_M_bytesOf (fg_w y_M_bytesOf prog_14_method_27_code 2 (some .int)) rm_M_bytesOf (va_Pc [.ref (ad 1 j0), .int x1] (fz_P D (me_T ca) (me_W ad ca M0) sz)) (q_M_bytesOf D ad ca N M0 MZ RZ (va_A (me_W ad ca M0) sz)) rm_M_bytesOf.cells rm_M_bytesOf.slots (va_A (me_W ad ca M0) sz) := by
  refine fz_enter (fun A => q_M_bytesOf D ad ca N M0 MZ RZ A) (by decide +kernel) (Nat.le_of_ble_eq_true rfl) ?_
  intro p e s m below meth c ls A hx hb hml hown hts hr hlocks hin hP hK hD hS hA hX hl hz
  have hl : lv_has ls 2 [(0, .ref (ad 1 j0)), (1, .int x1)] := hl
  unfold f_M_bytesOf at h
  have hkp : me_kp M0 M0 := me_kp.rf
  have hkb := hkp
  refine lv_aload_n hx hb d_M_bytesOf_0 rfl (lv_at hl 0 rfl) ?_
  refine lv_iload_n hx hb d_M_bytesOf_1 rfl (lv_at hl 1 rfl) ?_
  obtain ⟨M1, r2, eM1, h⟩ := b2_ob h
  refine me_theni0 (M1 := M1) (me_runV (C := "FilterGuardModel") (As := [.int x1]) (rest := []) ⟨hx, hb, hml, hown, hts⟩ (c_M_isExact l D ad ca N M0 M1 r2 j0 x1 eM1 hwf hj0 _) rfl (by show fg_nm y_M_isExact 1; decide +kernel) u_2251 u_2253 u_136 u_192 u_2254 ⟨Nat.le_of_ble_eq_true rfl, Nat.le_of_ble_eq_true rfl⟩ hX hz hK hP hD hwf hS hA hj0 (by decide) rfl rfl rfl hl.1 (Nat.le_of_ble_eq_true rfl) d_M_bytesOf_2 ⟨Nat.le_of_ble_eq_true rfl, Nat.le_of_ble_eq_true rfl⟩) hP hD hK hS hA rfl rfl (fun H locs hw hP hD hS => ?_)
  obtain ⟨hwf, hk9, zr2⟩ := hw
  have hkp := hkp.tr hk9
  refine lv_if_eq (tgt := 44) hx hb d_M_bytesOf_5 (by decide) (fun c3 => ?_) (fun c3 => ?_)
  · have h := if_t c3 h
    refine lv_bipush (v := 8) hx hb d_M_bytesOf_44 (by decide) ?_
    exact me_reti (me_kp M0) h hx hb hr hlocks hwf hkp hP hK hD hS d_M_bytesOf_46
  have h := if_f c3 h
  refine lv_aload_n hx hb d_M_bytesOf_8 rfl (lv_at hl 0 rfl) ?_
  refine g_M_52 hx hb hts hown hK hP hwf hj0 (hts _ u_1793) d_M_bytesOf_9 ?_
  obtain ⟨j4, e5, h⟩ := bd_ob h
  have hj4 : j4 < N 16 := (hwf.2.1 1 j0 52 _ (kp_r hkb hkp e5) (by decide) hj0)
  refine me_opt (j := j4) (kp_r hkb hkp e5) ?_
  refine lv_iload_n hx hb d_M_bytesOf_12 rfl (lv_at hl 1 rfl) ?_
  obtain ⟨g6, h⟩ := gd_ob h
  refine me_lald hx hb hK hP hwf hj4 (kp_z hkb.z hkp.z g6) d_M_bytesOf_13 ?_
  refine lv_ldc2 hx hb hown (hts _ u_2305) d_M_bytesOf_14 ?_
  refine W.lcmp hx hb d_M_bytesOf_17 ?_
  refine lv_if_eq (tgt := 34) hx hb d_M_bytesOf_18 (by decide) (fun c7 => ?_) (fun c7 => ?_)
  · have h := if_t ((lg_cmp_eq _ _).mp c7) h
    refine lv_aload_n hx hb d_M_bytesOf_34 rfl (lv_at hl 0 rfl) ?_
    refine g_M_52 hx hb hts hown hK hP hwf hj0 (hts _ u_1793) d_M_bytesOf_35 ?_
    refine me_opt (j := j4) (kp_r hkb hkp e5) ?_
    refine lv_iload_n hx hb d_M_bytesOf_38 rfl (lv_at hl 1 rfl) ?_
    refine me_lald hx hb hK hP hwf hj4 (kp_z hkb.z hkp.z g6) d_M_bytesOf_39 ?_
    refine lv_l2i (v := (mL M1 16 j4 x1.toNatClampNeg).toInt32) hx hb d_M_bytesOf_40 rfl ?_
    refine lv_goto (tgt := 46) hx hb d_M_bytesOf_41 (by decide) ?_
    exact me_reti (me_kp M0) h hx hb hr hlocks hwf hkp hP hK hD hS d_M_bytesOf_46
  have h := if_f (fun z => c7 ((lg_cmp_eq _ _).mpr z)) h
  refine lv_aload_n hx hb d_M_bytesOf_21 rfl (lv_at hl 0 rfl) ?_
  refine g_M_52 hx hb hts hown hK hP hwf hj0 (hts _ u_1793) d_M_bytesOf_22 ?_
  refine me_opt (j := j4) (kp_r hkb hkp e5) ?_
  refine lv_iload_n hx hb d_M_bytesOf_25 rfl (lv_at hl 1 rfl) ?_
  refine me_lald hx hb hK hP hwf hj4 (kp_z hkb.z hkp.z g6) d_M_bytesOf_26 ?_
  refine lv_ldc2 hx hb hown (hts _ u_2306) d_M_bytesOf_27 ?_
  refine W.lcmp hx hb d_M_bytesOf_30 ?_
  refine lv_if_ne (tgt := 44) hx hb d_M_bytesOf_31 (by decide) (fun c8 => ?_) (fun c8 => ?_)
  · have h := if_f (fun z => c8 ((lg_cmp_eq _ _).mpr z)) h
    refine lv_bipush (v := 8) hx hb d_M_bytesOf_44 (by decide) ?_
    exact me_reti (me_kp M0) h hx hb hr hlocks hwf hkp hP hK hD hS d_M_bytesOf_46
  have h := if_t ((lg_cmp_eq _ _).mp c8) h
  refine lv_aload_n hx hb d_M_bytesOf_34 rfl (lv_at hl 0 rfl) ?_
  refine g_M_52 hx hb hts hown hK hP hwf hj0 (hts _ u_1793) d_M_bytesOf_35 ?_
  refine me_opt (j := j4) (kp_r hkb hkp e5) ?_
  refine lv_iload_n hx hb d_M_bytesOf_38 rfl (lv_at hl 1 rfl) ?_
  refine me_lald hx hb hK hP hwf hj4 (kp_z hkb.z hkp.z g6) d_M_bytesOf_39 ?_
  refine lv_l2i (v := (mL M1 16 j4 x1.toNatClampNeg).toInt32) hx hb d_M_bytesOf_40 rfl ?_
  refine lv_goto (tgt := 46) hx hb d_M_bytesOf_41 (by decide) ?_
  exact me_reti (me_kp M0) h hx hb hr hlocks hwf hkp hP hK hD hS d_M_bytesOf_46
theorem d_M_top_0 : decode prog_14_method_28_code 0 = .ok (.iload_n 0, 1) := by decide +kernel
theorem d_M_top_1 : decode prog_14_method_28_code 1 = .ok (.bipush 8, 2) := by decide +kernel
theorem d_M_top_3 : decode prog_14_method_28_code 3 = .ok (.if_icmp .ne 9, 3) := by decide +kernel
theorem d_M_top_12 : decode prog_14_method_28_code 12 = .ok (.iload_n 0, 1) := by decide +kernel
theorem d_M_top_13 : decode prog_14_method_28_code 13 = .ok (.iconst 4, 1) := by decide +kernel
theorem d_M_top_14 : decode prog_14_method_28_code 14 = .ok (.if_icmp .ne 9, 3) := by decide +kernel
theorem d_M_top_23 : decode prog_14_method_28_code 23 = .ok (.ldc2_w 216, 3) := by decide +kernel
theorem u_2370 : Cond.constantLong "FilterGuardModel" 216 65535 ∈ fg_g := fg_in (List.mem_of_getElem? (i := 2370) (by decide +kernel)) rfl
theorem d_M_top_26 : decode prog_14_method_28_code 26 = .ok (.lreturn, 1) := by decide +kernel
theorem d_M_top_17 : decode prog_14_method_28_code 17 = .ok (.ldc2_w 203, 3) := by decide +kernel
theorem d_M_top_20 : decode prog_14_method_28_code 20 = .ok (.goto 6, 3) := by decide +kernel
theorem d_M_top_6 : decode prog_14_method_28_code 6 = .ok (.ldc2_w 162, 3) := by decide +kernel
theorem d_M_top_9 : decode prog_14_method_28_code 9 = .ok (.goto 17, 3) := by decide +kernel
abbrev y_M_top : MethodName := ⟨"FilterGuardModel", "top", "(I)J"⟩
def rm_M_top : Room := { frames := 1, cells := 0, slots := 0, locals := 20 }
abbrev q_M_top (D : va_G) (RZ : Int64) (A : Nat → Prop) : Array Value → Jvm.State → Outcome → Jvm.State → Prop := va_Ql (fun r (_ : Unit) => r = RZ ∧ True) (fg_B D A (fun _ => []) (fun _ => [])) A
set_option maxHeartbeats 4000000 in
set_option maxRecDepth 100000 in
theorem c_M_top (l : Launch) (D : va_G) (RZ : Int64) (x0 : Int32) (h : f_M_top x0 = (some RZ)) (sz : Nat) : Met l y_M_top (fg_w y_M_top prog_14_method_28_code 1 (some .long)) rm_M_top (va_Pc [.int x0] (fg_P D [] [] sz)) (q_M_top D RZ (va_A [] sz)) rm_M_top.cells rm_M_top.slots (va_A [] sz) := by
  refine fg_enter (fun A => q_M_top D RZ A) (by decide +kernel) (Nat.le_of_ble_eq_true rfl) ?_
  intro p e s m below meth c ls A hx hb hml hown hts hr hlocks hin hP hK hD hS hA hX hl
  have hl : lv_has ls 1 [(0, .int x0)] := hl
  unfold f_M_top at h
  refine lv_iload_n hx hb d_M_top_0 rfl (lv_at hl 0 rfl) ?_
  refine lv_bipush (v := 8) hx hb d_M_top_1 (by decide) ?_
  refine lv_icmp_ne (tgt := 12) hx hb d_M_top_3 (by decide) (fun c1 => ?_) (fun c1 => ?_)
  · have h := if_f c1 h
    refine lv_iload_n hx hb d_M_top_12 rfl (lv_at hl 0 rfl) ?_
    refine lv_iconst (v := 4) hx hb d_M_top_13 (by decide) ?_
    refine lv_icmp_ne (tgt := 23) hx hb d_M_top_14 (by decide) (fun c2 => ?_) (fun c2 => ?_)
    · have h := if_f c2 h
      refine lv_ldc2 hx hb hown (hts _ u_2370) d_M_top_23 ?_
      exact me_pretl h hx hb hr hlocks hK hS d_M_top_26
    have h := if_t c2 h
    refine lv_ldc2 hx hb hown (hts _ u_2019) d_M_top_17 ?_
    refine lv_goto (tgt := 26) hx hb d_M_top_20 (by decide) ?_
    exact me_pretl h hx hb hr hlocks hK hS d_M_top_26
  have h := if_t c1 h
  refine lv_ldc2 hx hb hown (hts _ u_2071) d_M_top_6 ?_
  refine lv_goto (tgt := 26) hx hb d_M_top_9 (by decide) ?_
  exact me_pretl h hx hb hr hlocks hK hS d_M_top_26
theorem d_M_swap_15 : decode prog_14_method_29_code 15 = .ok (.iload 4, 2) := by decide +kernel
theorem d_M_swap_17 : decode prog_14_method_29_code 17 = .ok (.iload_n 1, 1) := by decide +kernel
theorem d_M_swap_18 : decode prog_14_method_29_code 18 = .ok (.if_icmp .ge 33, 3) := by decide +kernel
theorem d_M_swap_51 : decode prog_14_method_29_code 51 = .ok (.aload_n 0, 1) := by decide +kernel
theorem d_M_swap_52 : decode prog_14_method_29_code 52 = .ok (.sipush 30077, 3) := by decide +kernel
theorem d_M_swap_55 : decode prog_14_method_29_code 55 = .ok (.lload_n 2, 1) := by decide +kernel
theorem d_M_swap_56 : decode prog_14_method_29_code 56 = .ok (.invokevirtual 195, 3) := by decide +kernel
theorem d_M_swap_59 : decode prog_14_method_29_code 59 = .ok (.goto 21, 3) := by decide +kernel
theorem d_M_swap_80 : decode prog_14_method_29_code 80 = .ok (.return_, 1) := by decide +kernel
theorem d_M_swap_21 : decode prog_14_method_29_code 21 = .ok (.lload_n 2, 1) := by decide +kernel
theorem d_M_swap_22 : decode prog_14_method_29_code 22 = .ok (.bipush 8, 2) := by decide +kernel
theorem d_M_swap_24 : decode prog_14_method_29_code 24 = .ok (.lshl, 1) := by decide +kernel
theorem d_M_swap_25 : decode prog_14_method_29_code 25 = .ok (.aload_n 0, 1) := by decide +kernel
theorem d_M_swap_26 : decode prog_14_method_29_code 26 = .ok (.getfield 104, 3) := by decide +kernel
theorem d_M_swap_29 : decode prog_14_method_29_code 29 = .ok (.sipush 30075, 3) := by decide +kernel
theorem d_M_swap_32 : decode prog_14_method_29_code 32 = .ok (.laload, 1) := by decide +kernel
theorem d_M_swap_33 : decode prog_14_method_29_code 33 = .ok (.bipush 8, 2) := by decide +kernel
theorem d_M_swap_35 : decode prog_14_method_29_code 35 = .ok (.iload 4, 2) := by decide +kernel
theorem d_M_swap_37 : decode prog_14_method_29_code 37 = .ok (.imul, 1) := by decide +kernel
theorem d_M_swap_38 : decode prog_14_method_29_code 38 = .ok (.lshr, 1) := by decide +kernel
theorem d_M_swap_39 : decode prog_14_method_29_code 39 = .ok (.ldc2_w 218, 3) := by decide +kernel
theorem u_1980 : Cond.constantLong "FilterGuardModel" 218 255 ∈ fg_g := fg_in (List.mem_of_getElem? (i := 1980) (by decide +kernel)) rfl
theorem d_M_swap_42 : decode prog_14_method_29_code 42 = .ok (.land, 1) := by decide +kernel
theorem d_M_swap_43 : decode prog_14_method_29_code 43 = .ok (.lor, 1) := by decide +kernel
theorem d_M_swap_44 : decode prog_14_method_29_code 44 = .ok (.lstore_n 2, 1) := by decide +kernel
theorem d_M_swap_45 : decode prog_14_method_29_code 45 = .ok (.iinc 4 1, 3) := by decide +kernel
theorem d_M_swap_48 : decode prog_14_method_29_code 48 = .ok (.goto (-33), 3) := by decide +kernel
theorem d_M_swap_0 : decode prog_14_method_29_code 0 = .ok (.aload_n 0, 1) := by decide +kernel
theorem d_M_swap_1 : decode prog_14_method_29_code 1 = .ok (.sipush 30075, 3) := by decide +kernel
theorem d_M_swap_4 : decode prog_14_method_29_code 4 = .ok (.invokevirtual 192, 3) := by decide +kernel
theorem d_M_swap_7 : decode prog_14_method_29_code 7 = .ok (.ifCond .eq 55, 3) := by decide +kernel
theorem d_M_swap_62 : decode prog_14_method_29_code 62 = .ok (.iload_n 1, 1) := by decide +kernel
theorem d_M_swap_63 : decode prog_14_method_29_code 63 = .ok (.bipush 8, 2) := by decide +kernel
theorem d_M_swap_65 : decode prog_14_method_29_code 65 = .ok (.if_icmp .ge 15, 3) := by decide +kernel
theorem d_M_swap_68 : decode prog_14_method_29_code 68 = .ok (.aload_n 0, 1) := by decide +kernel
theorem d_M_swap_69 : decode prog_14_method_29_code 69 = .ok (.getfield 113, 3) := by decide +kernel
theorem d_M_swap_72 : decode prog_14_method_29_code 72 = .ok (.sipush 30077, 3) := by decide +kernel
theorem d_M_swap_75 : decode prog_14_method_29_code 75 = .ok (.iload_n 1, 1) := by decide +kernel
theorem d_M_swap_76 : decode prog_14_method_29_code 76 = .ok (.invokestatic 220, 3) := by decide +kernel
theorem u_2367 : Cond.methodLink "FilterGuardModel" 220 ⟨"FilterGuardModel", "top", "(I)J"⟩ ∈ fg_g := fg_in (List.mem_of_getElem? (i := 2367) (by decide +kernel)) rfl
theorem u_2369 : Cond.code ⟨"FilterGuardModel", "top", "(I)J"⟩ prog_14_method_28_code 1 (some .long) ∈ fg_g := fg_in (List.mem_of_getElem? (i := 2369) (by decide +kernel)) rfl
theorem u_2368 : Cond.static ⟨"FilterGuardModel", "top", "(I)J"⟩ ∈ fg_g := fg_in (List.mem_of_getElem? (i := 2368) (by decide +kernel)) rfl
theorem d_M_swap_79 : decode prog_14_method_29_code 79 = .ok (.lastore, 1) := by decide +kernel
theorem d_M_swap_10 : decode prog_14_method_29_code 10 = .ok (.lconst 0, 1) := by decide +kernel
theorem d_M_swap_11 : decode prog_14_method_29_code 11 = .ok (.lstore_n 2, 1) := by decide +kernel
theorem d_M_swap_12 : decode prog_14_method_29_code 12 = .ok (.iconst 0, 1) := by decide +kernel
theorem d_M_swap_13 : decode prog_14_method_29_code 13 = .ok (.istore 4, 2) := by decide +kernel
abbrev y_M_swap : MethodName := ⟨"FilterGuardModel", "swap", "(I)V"⟩
def rm_M_swap : Room := { frames := 2, cells := 0, slots := 0, locals := 43 }
abbrev q_M_swap (D : va_G) (ad : Nat → Nat → Nat) (ca : Nat → ClassId) (N : Nat → Nat) (M0 MZ : me_M) (A : Nat → Prop) : Array Value → Jvm.State → Outcome → Jvm.State → Prop := va_Qv (fun (_ : Unit) => me_wf N MZ ∧ me_kp M0 MZ) (fg_B D A (fun _ => me_W ad ca MZ) (fun _ => [])) A
set_option maxHeartbeats 4000000 in
set_option maxRecDepth 100000 in
theorem c_M_swap (l : Launch) (D : va_G) (ad : Nat → Nat → Nat) (ca : Nat → ClassId) (N : Nat → Nat) (M0 MZ : me_M) (j0 : Nat) (x1 : Int32) (h : f_M_swap M0 j0 x1 = (some MZ)) (hwf : me_wf N M0) (hj0 : j0 < N 1) (sz : Nat) : Met l y_M_swap (fg_w y_M_swap prog_14_method_29_code 5 none) rm_M_swap (va_Pc [.ref (ad 1 j0), .int x1] (fz_P D (me_T ca) (me_W ad ca M0) sz)) (q_M_swap D ad ca N M0 MZ (va_A (me_W ad ca M0) sz)) rm_M_swap.cells rm_M_swap.slots (va_A (me_W ad ca M0) sz) := by
  refine fz_enter (fun A => q_M_swap D ad ca N M0 MZ A) (by decide +kernel) (Nat.le_of_ble_eq_true rfl) ?_
  intro p e s m below meth c ls A hx hb hml hown hts hr hlocks hin hP hK hD hS hA hX hl hz
  have hl : lv_has ls 5 [(0, .ref (ad 1 j0)), (1, .int x1)] := hl
  unfold f_M_swap at h
  have hkp : me_kp M0 M0 := me_kp.rf
  have hkb := hkp
  have b_15 : ∀ (fu : Nat), ∀ (M : me_M) (y2 : Int64) (y4 : Int32) (H : Heap) (locs : List Loc) (ls : Array Slot), f_M_swap_l15 j0 x1 fu M y2 y4 = (some MZ) → me_wf N M → me_kp M0 M → va_P D classes (me_W ad ca M) H → va_D A (me_W ad ca M) → va_S A s.heap H locs → lv_has ls 5 [(0, .ref (ad 1 j0)), (1, .int x1), (2, .long y2), (4, .int y4)] → W p l e rm_M_swap s m [.ref (ad 1 j0), .int x1].toArray below meth c H locs 0 0 (MQ below (q_M_swap D ad ca N M0 MZ A) [.ref (ad 1 j0), .int x1].toArray s rm_M_swap.cells rm_M_swap.slots A) (F0 m 15 ls []) := by
    intro fu
    induction fu with
    | zero =>
      intro M y2 y4 H locs ls h hwf hkp hP hD hS hl
      cases h
    | succ fu ih =>
      intro M y2 y4 H locs ls h hwf hkp hP hD hS hl
      unfold f_M_swap_l15 at h
      have hkb := hkp
      refine lv_iload hx hb d_M_swap_15 (lv_at hl 3 rfl) ?_
      refine lv_iload_n hx hb d_M_swap_17 rfl (lv_at hl 1 rfl) ?_
      refine lv_icmp_ge (tgt := 51) hx hb d_M_swap_18 (by decide) (fun c1 => ?_) (fun c1 => ?_)
      · have h := if_t c1 h
        refine lv_aload_n hx hb d_M_swap_51 rfl (lv_at hl 0 rfl) ?_
        refine lv_sipush (v := 30077) hx hb d_M_swap_52 (by decide) ?_
        refine lv_lload_n hx hb d_M_swap_55 rfl (lv_at hl 2 rfl) ?_
        obtain ⟨M2, eM2, h⟩ := bd_ob h
        refine me_thenv0 (M1 := M2) (me_runV (C := "FilterGuardModel") (As := [.int 30077, .long y2]) (rest := []) ⟨hx, hb, hml, hown, hts⟩ (c_M_setExact l D ad ca N M M2 j0 (30077 : Int32) y2 eM2 hwf hj0 _) rfl (by show fg_nm y_M_setExact 2; decide +kernel) u_2108 u_2110 u_106 u_192 u_2111 ⟨Nat.le_of_ble_eq_true rfl, Nat.le_of_ble_eq_true rfl⟩ hX hz hK hP hD hwf hS hA hj0 (by decide) rfl rfl rfl hl.1 (Nat.le_of_ble_eq_true rfl) d_M_swap_56 ⟨Nat.le_of_ble_eq_true rfl, Nat.le_of_ble_eq_true rfl⟩) hP hD hK hS hA rfl rfl (fun H locs hw hP hD hS => ?_)
        obtain ⟨hwf, hk9⟩ := hw
        have hkp := hkp.tr hk9
        refine lv_goto (tgt := 80) hx hb d_M_swap_59 (by decide) ?_
        exact me_retv (me_kp M0) h hx hb hr hlocks hwf hkp hP hK hD hS d_M_swap_80
      have h := if_f c1 h
      refine lv_lload_n hx hb d_M_swap_21 rfl (lv_at hl 2 rfl) ?_
      refine lv_bipush (v := 8) hx hb d_M_swap_22 (by decide) ?_
      refine lv_lshl (v := jlshl y2 (8 : Int32)) hx hb d_M_swap_24 rfl ?_
      refine lv_aload_n hx hb d_M_swap_25 rfl (lv_at hl 0 rfl) ?_
      refine g_M_52 hx hb hts hown hK hP hwf hj0 (hts _ u_1793) d_M_swap_26 ?_
      obtain ⟨j3, e4, h⟩ := bd_ob h
      have hj3 : j3 < N 16 := (hwf.2.1 1 j0 52 _ e4 (by decide) hj0)
      refine me_opt (j := j3) e4 ?_
      refine lv_sipush (v := 30075) hx hb d_M_swap_29 (by decide) ?_
      obtain ⟨g5, h⟩ := gd_ob h
      refine me_lald hx hb hK hP hwf hj3 (me_in (i := (30075 : Int32)) (k := 30075) (by decide) (by decide) g5) d_M_swap_32 ?_
      refine fg_topl (y := mL M 16 j3 30075) (congrArg _ (by decide)) ?_
      refine lv_bipush (v := 8) hx hb d_M_swap_33 (by decide) ?_
      refine lv_iload hx hb d_M_swap_35 (lv_at hl 3 rfl) ?_
      refine lv_imul hx hb d_M_swap_37 ?_
      refine lv_lshr (v := jlshr (mL M 16 j3 30075) (8 * y4)) hx hb d_M_swap_38 rfl ?_
      refine lv_ldc2 hx hb hown (hts _ u_1980) d_M_swap_39 ?_
      refine lv_land hx hb d_M_swap_42 ?_
      refine lv_lor hx hb d_M_swap_43 ?_
      obtain ⟨v6, ev6, h⟩ := st_ob h
      refine fg_topl (y := v6) ev6.symm ?_
      refine lv_lstore_n (lv' := [(2, .long v6), (0, .ref (ad 1 j0)), (1, .int x1), (4, .int y4)]) hx hb d_M_swap_44 rfl hl (by decide) rfl (fun ls hl => ?_)
      refine lv_iinc (v := y4 + 1) (lv' := [(4, .int (y4 + 1)), (2, .long v6), (0, .ref (ad 1 j0)), (1, .int x1)]) hx hb d_M_swap_45 hl (k := 3) rfl (by rfl) (by decide) rfl (fun ls hl => ?_)
      refine lv_goto (tgt := 15) hx hb d_M_swap_48 (by decide) ?_
      exact ih M v6 (y4 + 1) _ _ _ h hwf hkp hP hD hS (lv_sub hl [2, 3, 1, 0] rfl)
  refine lv_aload_n hx hb d_M_swap_0 rfl (lv_at hl 0 rfl) ?_
  refine lv_sipush (v := 30075) hx hb d_M_swap_1 (by decide) ?_
  obtain ⟨M7, r8, eM7, h⟩ := b2_ob h
  refine me_theni0 (M1 := M7) (me_runV (C := "FilterGuardModel") (As := [.int 30075]) (rest := []) ⟨hx, hb, hml, hown, hts⟩ (c_M_isExact l D ad ca N M0 M7 r8 j0 (30075 : Int32) eM7 hwf hj0 _) rfl (by show fg_nm y_M_isExact 1; decide +kernel) u_2251 u_2253 u_136 u_192 u_2254 ⟨Nat.le_of_ble_eq_true rfl, Nat.le_of_ble_eq_true rfl⟩ hX hz hK hP hD hwf hS hA hj0 (by decide) rfl rfl rfl hl.1 (Nat.le_of_ble_eq_true rfl) d_M_swap_4 ⟨Nat.le_of_ble_eq_true rfl, Nat.le_of_ble_eq_true rfl⟩) hP hD hK hS hA rfl rfl (fun H locs hw hP hD hS => ?_)
  obtain ⟨hwf, hk9, zr8⟩ := hw
  have hkp := hkp.tr hk9
  refine lv_if_eq (tgt := 62) hx hb d_M_swap_7 (by decide) (fun c9 => ?_) (fun c9 => ?_)
  · have h := if_t c9 h
    refine lv_iload_n hx hb d_M_swap_62 rfl (lv_at hl 1 rfl) ?_
    refine lv_bipush (v := 8) hx hb d_M_swap_63 (by decide) ?_
    refine lv_icmp_ge (tgt := 80) hx hb d_M_swap_65 (by decide) (fun c10 => ?_) (fun c10 => ?_)
    · have h := if_t c10 h
      exact me_retv (me_kp M0) h hx hb hr hlocks hwf hkp hP hK hD hS d_M_swap_80
    have h := if_f c10 h
    refine lv_aload_n hx hb d_M_swap_68 rfl (lv_at hl 0 rfl) ?_
    refine g_M_55 hx hb hts hown hK hP hwf hj0 (hts _ u_1796) d_M_swap_69 ?_
    obtain ⟨j11, e12, h⟩ := bd_ob h
    have hj11 : j11 < N 16 := (hwf.2.1 1 j0 55 _ (kp_r hkb hkp e12) (by decide) hj0)
    refine me_opt (j := j11) (kp_r hkb hkp e12) ?_
    refine lv_sipush (v := 30077) hx hb d_M_swap_72 (by decide) ?_
    refine lv_iload_n hx hb d_M_swap_75 rfl (lv_at hl 1 rfl) ?_
    obtain ⟨r13, er13, h⟩ := bd_ob h
    refine me_panl' (r0 := r13) (fg_runS (wc := []) (tc := []) (A2 := A) (As := [.int x1]) (rest := [.int 30077, .ref (ad 16 j11)]) ⟨hx, hb, hml, hown, hts⟩ (c_M_top l D r13 x1 er13 _) (by show fg_nm y_M_top 1; decide +kernel) u_2367 u_2368 u_192 u_2369 ⟨Nat.le_of_ble_eq_true rfl, Nat.le_of_ble_eq_true rfl⟩ hX me_P0 (hK.sub (tys' := []) [] rfl) me_D0 rfl hl.1 (Nat.le_of_ble_eq_true rfl) d_M_swap_76 ⟨Nat.le_of_ble_eq_true rfl, Nat.le_of_ble_eq_true rfl⟩) hP hD hK hS hA rfl rfl (fun H locs hw hP hD hS => ?_)
    obtain ⟨g14, h⟩ := gd_ob h
    obtain ⟨M15, eM15, h⟩ := st_ob h
    refine me_last (eM15.trans (by rw [show (30077 : Int32).toNatClampNeg = 30077 by decide])) hx hb hK hP hD hwf hS hj11 (me_in (i := (30077 : Int32)) (k := 30077) (by decide) (by decide) (kp_c hkb.z hkp.z g14)) d_M_swap_79 (fun H locs hP hD hwf hS => ?_)
    have hkp := kp_L eM15 hkp
    exact me_retv (me_kp M0) h hx hb hr hlocks hwf hkp hP hK hD hS d_M_swap_80
  have h := if_f c9 h
  refine lv_lconst (v := 0) hx hb d_M_swap_10 (by decide) ?_
  refine lv_lstore_n (lv' := [(2, .long 0), (0, .ref (ad 1 j0)), (1, .int x1)]) hx hb d_M_swap_11 rfl hl (by decide) rfl (fun ls hl => ?_)
  refine lv_iconst (v := 0) hx hb d_M_swap_12 (by decide) ?_
  refine lv_istore (lv' := [(4, .int 0), (2, .long 0), (0, .ref (ad 1 j0)), (1, .int x1)]) hx hb d_M_swap_13 hl (by decide) rfl (fun ls hl => ?_)
  exact b_15 _ M7 (0 : Int64) (0 : Int32) _ _ _ h hwf hkp hP hD hS (lv_sub hl [2, 3, 1, 0] rfl)
theorem d_M_cut_0 : decode prog_14_method_30_code 0 = .ok (.iload_n 1, 1) := by decide +kernel
theorem d_M_cut_1 : decode prog_14_method_30_code 1 = .ok (.invokestatic 220, 3) := by decide +kernel
theorem d_M_cut_4 : decode prog_14_method_30_code 4 = .ok (.aload_n 0, 1) := by decide +kernel
theorem d_M_cut_5 : decode prog_14_method_30_code 5 = .ok (.getfield 113, 3) := by decide +kernel
theorem d_M_cut_8 : decode prog_14_method_30_code 8 = .ok (.sipush 30075, 3) := by decide +kernel
theorem d_M_cut_11 : decode prog_14_method_30_code 11 = .ok (.laload, 1) := by decide +kernel
theorem d_M_cut_12 : decode prog_14_method_30_code 12 = .ok (.invokestatic 158, 3) := by decide +kernel
theorem d_M_cut_15 : decode prog_14_method_30_code 15 = .ok (.ifCond .ne 14, 3) := by decide +kernel
theorem d_M_cut_29 : decode prog_14_method_30_code 29 = .ok (.aload_n 0, 1) := by decide +kernel
theorem d_M_cut_30 : decode prog_14_method_30_code 30 = .ok (.sipush 30076, 3) := by decide +kernel
theorem d_M_cut_33 : decode prog_14_method_30_code 33 = .ok (.iload_n 1, 1) := by decide +kernel
theorem d_M_cut_34 : decode prog_14_method_30_code 34 = .ok (.invokestatic 220, 3) := by decide +kernel
theorem d_M_cut_37 : decode prog_14_method_30_code 37 = .ok (.invokevirtual 195, 3) := by decide +kernel
theorem d_M_cut_40 : decode prog_14_method_30_code 40 = .ok (.aload_n 0, 1) := by decide +kernel
theorem d_M_cut_41 : decode prog_14_method_30_code 41 = .ok (.iconst 5, 1) := by decide +kernel
theorem d_M_cut_42 : decode prog_14_method_30_code 42 = .ok (.invokevirtual 224, 3) := by decide +kernel
theorem u_2355 : Cond.methodLink "FilterGuardModel" 224 ⟨"FilterGuardModel", "logic", "(I)V"⟩ ∈ fg_g := fg_in (List.mem_of_getElem? (i := 2355) (by decide +kernel)) rfl
theorem u_2358 : Cond.code ⟨"FilterGuardModel", "logic", "(I)V"⟩ prog_14_method_25_code 2 none ∈ fg_g := fg_in (List.mem_of_getElem? (i := 2358) (by decide +kernel)) rfl
theorem u_2357 : Cond.instanceMethod ⟨"FilterGuardModel", "logic", "(I)V"⟩ ∈ fg_g := fg_in (List.mem_of_getElem? (i := 2357) (by decide +kernel)) rfl
theorem u_159 : Cond.selects "FilterGuardModel" ⟨"FilterGuardModel", "logic", "(I)V"⟩ ⟨"FilterGuardModel", "logic", "(I)V"⟩ ∈ fg_g := fg_in (List.mem_of_getElem? (i := 159) (by decide +kernel)) rfl
theorem d_M_cut_45 : decode prog_14_method_30_code 45 = .ok (.return_, 1) := by decide +kernel
theorem d_M_cut_18 : decode prog_14_method_30_code 18 = .ok (.aload_n 0, 1) := by decide +kernel
theorem d_M_cut_19 : decode prog_14_method_30_code 19 = .ok (.sipush 30075, 3) := by decide +kernel
theorem d_M_cut_22 : decode prog_14_method_30_code 22 = .ok (.sipush 30077, 3) := by decide +kernel
theorem d_M_cut_25 : decode prog_14_method_30_code 25 = .ok (.invokevirtual 208, 3) := by decide +kernel
theorem d_M_cut_28 : decode prog_14_method_30_code 28 = .ok (.return_, 1) := by decide +kernel
abbrev y_M_cut : MethodName := ⟨"FilterGuardModel", "cut", "(I)V"⟩
def rm_M_cut : Room := { frames := 4, cells := 0, slots := 0, locals := 87 }
abbrev q_M_cut (D : va_G) (ad : Nat → Nat → Nat) (ca : Nat → ClassId) (N : Nat → Nat) (M0 MZ : me_M) (A : Nat → Prop) : Array Value → Jvm.State → Outcome → Jvm.State → Prop := va_Qv (fun (_ : Unit) => me_wf N MZ ∧ me_kp M0 MZ) (fg_B D A (fun _ => me_W ad ca MZ) (fun _ => [])) A
set_option maxHeartbeats 4000000 in
set_option maxRecDepth 100000 in
theorem c_M_cut (l : Launch) (D : va_G) (ad : Nat → Nat → Nat) (ca : Nat → ClassId) (N : Nat → Nat) (M0 MZ : me_M) (j0 : Nat) (x1 : Int32) (h : f_M_cut M0 j0 x1 = (some MZ)) (hwf : me_wf N M0) (hj0 : j0 < N 1) (sz : Nat) : Met l y_M_cut (fg_w y_M_cut prog_14_method_30_code 2 none) rm_M_cut (va_Pc [.ref (ad 1 j0), .int x1] (fz_P D (me_T ca) (me_W ad ca M0) sz)) (q_M_cut D ad ca N M0 MZ (va_A (me_W ad ca M0) sz)) rm_M_cut.cells rm_M_cut.slots (va_A (me_W ad ca M0) sz) := by
  refine fz_enter (fun A => q_M_cut D ad ca N M0 MZ A) (by decide +kernel) (Nat.le_of_ble_eq_true rfl) ?_
  intro p e s m below meth c ls A hx hb hml hown hts hr hlocks hin hP hK hD hS hA hX hl hz
  have hl : lv_has ls 2 [(0, .ref (ad 1 j0)), (1, .int x1)] := hl
  unfold f_M_cut at h
  have hkp : me_kp M0 M0 := me_kp.rf
  have hkb := hkp
  refine lv_iload_n hx hb d_M_cut_0 rfl (lv_at hl 1 rfl) ?_
  obtain ⟨r1, er1, h⟩ := bd_ob h
  refine me_panl' (r0 := r1) (fg_runS (wc := []) (tc := []) (A2 := A) (As := [.int x1]) (rest := []) ⟨hx, hb, hml, hown, hts⟩ (c_M_top l D r1 x1 er1 _) (by show fg_nm y_M_top 1; decide +kernel) u_2367 u_2368 u_192 u_2369 ⟨Nat.le_of_ble_eq_true rfl, Nat.le_of_ble_eq_true rfl⟩ hX me_P0 (hK.sub (tys' := []) [] rfl) me_D0 rfl hl.1 (Nat.le_of_ble_eq_true rfl) d_M_cut_1 ⟨Nat.le_of_ble_eq_true rfl, Nat.le_of_ble_eq_true rfl⟩) hP hD hK hS hA rfl rfl (fun H locs hw hP hD hS => ?_)
  refine lv_aload_n hx hb d_M_cut_4 rfl (lv_at hl 0 rfl) ?_
  refine g_M_55 hx hb hts hown hK hP hwf hj0 (hts _ u_1796) d_M_cut_5 ?_
  obtain ⟨j2, e3, h⟩ := bd_ob h
  have hj2 : j2 < N 16 := (hwf.2.1 1 j0 55 _ e3 (by decide) hj0)
  refine me_opt (j := j2) e3 ?_
  refine lv_sipush (v := 30075) hx hb d_M_cut_8 (by decide) ?_
  obtain ⟨g4, h⟩ := gd_ob h
  refine me_lald hx hb hK hP hwf hj2 (me_in (i := (30075 : Int32)) (k := 30075) (by decide) (by decide) g4) d_M_cut_11 ?_
  refine fg_topl (y := mL M0 16 j2 30075) (congrArg _ (by decide)) ?_
  obtain ⟨r5, er5, h⟩ := bd_ob h
  refine me_pani' (r0 := r5) (fg_runS (wc := []) (tc := []) (A2 := A) (As := [.long r1, .long (mL M0 16 j2 30075)]) (rest := []) ⟨hx, hb, hml, hown, hts⟩ (c_M_below l D r5 r1 (mL M0 16 j2 30075) er5 _) (by show fg_nm y_M_below 2; decide +kernel) u_2072 u_2073 u_192 u_2074 ⟨Nat.le_of_ble_eq_true rfl, Nat.le_of_ble_eq_true rfl⟩ hX me_P0 (hK.sub (tys' := []) [] rfl) me_D0 rfl hl.1 (Nat.le_of_ble_eq_true rfl) d_M_cut_12 ⟨Nat.le_of_ble_eq_true rfl, Nat.le_of_ble_eq_true rfl⟩) hP hD hK hS hA rfl rfl (fun H locs hw hP hD hS => ?_)
  have zr5 := hw
  refine lv_if_ne (tgt := 29) hx hb d_M_cut_15 (by decide) (fun c6 => ?_) (fun c6 => ?_)
  · have h := if_f c6 h
    refine lv_aload_n hx hb d_M_cut_29 rfl (lv_at hl 0 rfl) ?_
    refine lv_sipush (v := 30076) hx hb d_M_cut_30 (by decide) ?_
    refine lv_iload_n hx hb d_M_cut_33 rfl (lv_at hl 1 rfl) ?_
    obtain ⟨r7, er7, h⟩ := bd_ob h
    refine me_panl' (r0 := r7) (fg_runS (wc := []) (tc := []) (A2 := A) (As := [.int x1]) (rest := [.int 30076, .ref (ad 1 j0)]) ⟨hx, hb, hml, hown, hts⟩ (c_M_top l D r7 x1 er7 _) (by show fg_nm y_M_top 1; decide +kernel) u_2367 u_2368 u_192 u_2369 ⟨Nat.le_of_ble_eq_true rfl, Nat.le_of_ble_eq_true rfl⟩ hX me_P0 (hK.sub (tys' := []) [] rfl) me_D0 rfl hl.1 (Nat.le_of_ble_eq_true rfl) d_M_cut_34 ⟨Nat.le_of_ble_eq_true rfl, Nat.le_of_ble_eq_true rfl⟩) hP hD hK hS hA rfl rfl (fun H locs hw hP hD hS => ?_)
    obtain ⟨M8, eM8, h⟩ := bd_ob h
    refine me_thenv0 (M1 := M8) (me_runV (C := "FilterGuardModel") (As := [.int 30076, .long r7]) (rest := []) ⟨hx, hb, hml, hown, hts⟩ (c_M_setExact l D ad ca N M0 M8 j0 (30076 : Int32) r7 eM8 hwf hj0 _) rfl (by show fg_nm y_M_setExact 2; decide +kernel) u_2108 u_2110 u_106 u_192 u_2111 ⟨Nat.le_of_ble_eq_true rfl, Nat.le_of_ble_eq_true rfl⟩ hX hz hK hP hD hwf hS hA hj0 (by decide) rfl rfl rfl hl.1 (Nat.le_of_ble_eq_true rfl) d_M_cut_37 ⟨Nat.le_of_ble_eq_true rfl, Nat.le_of_ble_eq_true rfl⟩) hP hD hK hS hA rfl rfl (fun H locs hw hP hD hS => ?_)
    obtain ⟨hwf, hk9⟩ := hw
    have hkp := hkp.tr hk9
    refine lv_aload_n hx hb d_M_cut_40 rfl (lv_at hl 0 rfl) ?_
    refine lv_iconst (v := 5) hx hb d_M_cut_41 (by decide) ?_
    obtain ⟨M9, eM9, h⟩ := bd_ob h
    refine me_thenv0 (M1 := M9) (me_runV (C := "FilterGuardModel") (As := [.int 5]) (rest := []) ⟨hx, hb, hml, hown, hts⟩ (c_M_logic l D ad ca N M8 M9 j0 (5 : Int32) eM9 hwf hj0 _) rfl (by show fg_nm y_M_logic 1; decide +kernel) u_2355 u_2357 u_159 u_192 u_2358 ⟨Nat.le_of_ble_eq_true rfl, Nat.le_of_ble_eq_true rfl⟩ hX hz hK hP hD hwf hS hA hj0 (by decide) rfl rfl rfl hl.1 (Nat.le_of_ble_eq_true rfl) d_M_cut_42 ⟨Nat.le_of_ble_eq_true rfl, Nat.le_of_ble_eq_true rfl⟩) hP hD hK hS hA rfl rfl (fun H locs hw hP hD hS => ?_)
    obtain ⟨hwf, hk9⟩ := hw
    have hkp := hkp.tr hk9
    exact me_retv (me_kp M0) h hx hb hr hlocks hwf hkp hP hK hD hS d_M_cut_45
  have h := if_t c6 h
  refine lv_aload_n hx hb d_M_cut_18 rfl (lv_at hl 0 rfl) ?_
  refine lv_sipush (v := 30075) hx hb d_M_cut_19 (by decide) ?_
  refine lv_sipush (v := 30077) hx hb d_M_cut_22 (by decide) ?_
  obtain ⟨M10, eM10, h⟩ := bd_ob h
  refine me_thenv0 (M1 := M10) (me_runV (C := "FilterGuardModel") (As := [.int 30075, .int 30077]) (rest := []) ⟨hx, hb, hml, hown, hts⟩ (c_M_copyNumber l D ad ca N M0 M10 j0 (30075 : Int32) (30077 : Int32) eM10 hwf hj0 _) rfl (by show fg_nm y_M_copyNumber 2; decide +kernel) u_2096 u_2098 u_103 u_192 u_2099 ⟨Nat.le_of_ble_eq_true rfl, Nat.le_of_ble_eq_true rfl⟩ hX hz hK hP hD hwf hS hA hj0 (by decide) rfl rfl rfl hl.1 (Nat.le_of_ble_eq_true rfl) d_M_cut_25 ⟨Nat.le_of_ble_eq_true rfl, Nat.le_of_ble_eq_true rfl⟩) hP hD hK hS hA rfl rfl (fun H locs hw hP hD hS => ?_)
  obtain ⟨hwf, hk9⟩ := hw
  have hkp := hkp.tr hk9
  exact me_retv (me_kp M0) h hx hb hr hlocks hwf hkp hP hK hD hS d_M_cut_28
theorem d_M_does1_249 : decode prog_14_method_31_code 249 = .ok (.aload_n 0, 1) := by decide +kernel
theorem d_M_does1_250 : decode prog_14_method_31_code 250 = .ok (.sipush 30077, 3) := by decide +kernel
theorem d_M_does1_253 : decode prog_14_method_31_code 253 = .ok (.invokevirtual 264, 3) := by decide +kernel
theorem u_2143 : Cond.methodLink "FilterGuardModel" 264 ⟨"FilterGuardModel", "settle", "(I)Z"⟩ ∈ fg_g := fg_in (List.mem_of_getElem? (i := 2143) (by decide +kernel)) rfl
theorem u_2146 : Cond.code ⟨"FilterGuardModel", "settle", "(I)Z"⟩ prog_14_method_17_code 4 (some .boolean) ∈ fg_g := fg_in (List.mem_of_getElem? (i := 2146) (by decide +kernel)) rfl
theorem u_2145 : Cond.instanceMethod ⟨"FilterGuardModel", "settle", "(I)Z"⟩ ∈ fg_g := fg_in (List.mem_of_getElem? (i := 2145) (by decide +kernel)) rfl
theorem u_113 : Cond.selects "FilterGuardModel" ⟨"FilterGuardModel", "settle", "(I)Z"⟩ ⟨"FilterGuardModel", "settle", "(I)Z"⟩ ∈ fg_g := fg_in (List.mem_of_getElem? (i := 113) (by decide +kernel)) rfl
theorem d_M_does1_256 : decode prog_14_method_31_code 256 = .ok (.ifCond .ne 10, 3) := by decide +kernel
theorem d_M_does1_266 : decode prog_14_method_31_code 266 = .ok (.return_, 1) := by decide +kernel
theorem d_M_does1_259 : decode prog_14_method_31_code 259 = .ok (.aload_n 0, 1) := by decide +kernel
theorem d_M_does1_260 : decode prog_14_method_31_code 260 = .ok (.sipush 30077, 3) := by decide +kernel
theorem d_M_does1_263 : decode prog_14_method_31_code 263 = .ok (.invokevirtual 228, 3) := by decide +kernel
theorem u_2138 : Cond.methodLink "FilterGuardModel" 228 ⟨"FilterGuardModel", "setAny", "(I)V"⟩ ∈ fg_g := fg_in (List.mem_of_getElem? (i := 2138) (by decide +kernel)) rfl
theorem u_2141 : Cond.code ⟨"FilterGuardModel", "setAny", "(I)V"⟩ prog_14_method_8_code 2 none ∈ fg_g := fg_in (List.mem_of_getElem? (i := 2141) (by decide +kernel)) rfl
theorem u_2140 : Cond.instanceMethod ⟨"FilterGuardModel", "setAny", "(I)V"⟩ ∈ fg_g := fg_in (List.mem_of_getElem? (i := 2140) (by decide +kernel)) rfl
theorem u_112 : Cond.selects "FilterGuardModel" ⟨"FilterGuardModel", "setAny", "(I)V"⟩ ⟨"FilterGuardModel", "setAny", "(I)V"⟩ ∈ fg_g := fg_in (List.mem_of_getElem? (i := 112) (by decide +kernel)) rfl
theorem d_M_does1_244 : decode prog_14_method_31_code 244 = .ok (.land, 1) := by decide +kernel
theorem d_M_does1_245 : decode prog_14_method_31_code 245 = .ok (.l2i, 1) := by decide +kernel
theorem d_M_does1_246 : decode prog_14_method_31_code 246 = .ok (.invokevirtual 261, 3) := by decide +kernel
theorem u_2376 : Cond.methodLink "FilterGuardModel" 261 ⟨"FilterGuardModel", "shift", "(II)V"⟩ ∈ fg_g := fg_in (List.mem_of_getElem? (i := 2376) (by decide +kernel)) rfl
theorem u_2379 : Cond.code ⟨"FilterGuardModel", "shift", "(II)V"⟩ prog_14_method_26_code 3 none ∈ fg_g := fg_in (List.mem_of_getElem? (i := 2379) (by decide +kernel)) rfl
theorem u_2378 : Cond.instanceMethod ⟨"FilterGuardModel", "shift", "(II)V"⟩ ∈ fg_g := fg_in (List.mem_of_getElem? (i := 2378) (by decide +kernel)) rfl
theorem u_163 : Cond.selects "FilterGuardModel" ⟨"FilterGuardModel", "shift", "(II)V"⟩ ⟨"FilterGuardModel", "shift", "(II)V"⟩ ∈ fg_g := fg_in (List.mem_of_getElem? (i := 163) (by decide +kernel)) rfl
theorem d_M_does1_223 : decode prog_14_method_31_code 223 = .ok (.aload_n 0, 1) := by decide +kernel
theorem d_M_does1_224 : decode prog_14_method_31_code 224 = .ok (.getfield 104, 3) := by decide +kernel
theorem d_M_does1_227 : decode prog_14_method_31_code 227 = .ok (.sipush 30076, 3) := by decide +kernel
theorem d_M_does1_230 : decode prog_14_method_31_code 230 = .ok (.laload, 1) := by decide +kernel
theorem d_M_does1_231 : decode prog_14_method_31_code 231 = .ok (.iload_n 2, 1) := by decide +kernel
theorem d_M_does1_232 : decode prog_14_method_31_code 232 = .ok (.ifCond .eq 9, 3) := by decide +kernel
theorem d_M_does1_241 : decode prog_14_method_31_code 241 = .ok (.ldc2_w 259, 3) := by decide +kernel
theorem u_2030 : Cond.constantLong "FilterGuardModel" 259 63 ∈ fg_g := fg_in (List.mem_of_getElem? (i := 2030) (by decide +kernel)) rfl
theorem d_M_does1_235 : decode prog_14_method_31_code 235 = .ok (.ldc2_w 257, 3) := by decide +kernel
theorem u_2029 : Cond.constantLong "FilterGuardModel" 257 31 ∈ fg_g := fg_in (List.mem_of_getElem? (i := 2029) (by decide +kernel)) rfl
theorem d_M_does1_238 : decode prog_14_method_31_code 238 = .ok (.goto 6, 3) := by decide +kernel
theorem d_M_does1_222 : decode prog_14_method_31_code 222 = .ok (.iload_n 1, 1) := by decide +kernel
theorem d_M_does1_206 : decode prog_14_method_31_code 206 = .ok (.aload_n 0, 1) := by decide +kernel
theorem d_M_does1_207 : decode prog_14_method_31_code 207 = .ok (.iload_n 2, 1) := by decide +kernel
theorem d_M_does1_208 : decode prog_14_method_31_code 208 = .ok (.ifCond .eq 14, 3) := by decide +kernel
theorem d_M_does1_211 : decode prog_14_method_31_code 211 = .ok (.iload_n 1, 1) := by decide +kernel
theorem d_M_does1_212 : decode prog_14_method_31_code 212 = .ok (.bipush 10, 2) := by decide +kernel
theorem d_M_does1_214 : decode prog_14_method_31_code 214 = .ok (.if_icmp .ne 8, 3) := by decide +kernel
theorem d_M_does1_217 : decode prog_14_method_31_code 217 = .ok (.bipush 9, 2) := by decide +kernel
theorem d_M_does1_219 : decode prog_14_method_31_code 219 = .ok (.goto 4, 3) := by decide +kernel
theorem d_M_does1_53 : decode prog_14_method_31_code 53 = .ok (.aload_n 0, 1) := by decide +kernel
theorem d_M_does1_54 : decode prog_14_method_31_code 54 = .ok (.invokevirtual 234, 3) := by decide +kernel
theorem u_2332 : Cond.methodLink "FilterGuardModel" 234 ⟨"FilterGuardModel", "subtract", "()V"⟩ ∈ fg_g := fg_in (List.mem_of_getElem? (i := 2332) (by decide +kernel)) rfl
theorem u_2335 : Cond.code ⟨"FilterGuardModel", "subtract", "()V"⟩ prog_14_method_19_code 10 none ∈ fg_g := fg_in (List.mem_of_getElem? (i := 2335) (by decide +kernel)) rfl
theorem u_2334 : Cond.instanceMethod ⟨"FilterGuardModel", "subtract", "()V"⟩ ∈ fg_g := fg_in (List.mem_of_getElem? (i := 2334) (by decide +kernel)) rfl
theorem u_154 : Cond.selects "FilterGuardModel" ⟨"FilterGuardModel", "subtract", "()V"⟩ ⟨"FilterGuardModel", "subtract", "()V"⟩ ∈ fg_g := fg_in (List.mem_of_getElem? (i := 154) (by decide +kernel)) rfl
theorem d_M_does1_57 : decode prog_14_method_31_code 57 = .ok (.goto 192, 3) := by decide +kernel
theorem d_M_does1_31 : decode prog_14_method_31_code 31 = .ok (.iload_n 1, 1) := by decide +kernel
theorem d_M_does1_32 : decode prog_14_method_31_code 32 = .ok (.ifCond .ne 10, 3) := by decide +kernel
theorem d_M_does1_42 : decode prog_14_method_31_code 42 = .ok (.iload_n 1, 1) := by decide +kernel
theorem d_M_does1_43 : decode prog_14_method_31_code 43 = .ok (.iconst 1, 1) := by decide +kernel
theorem d_M_does1_44 : decode prog_14_method_31_code 44 = .ok (.if_icmp .eq 9, 3) := by decide +kernel
theorem d_M_does1_47 : decode prog_14_method_31_code 47 = .ok (.iload_n 1, 1) := by decide +kernel
theorem d_M_does1_48 : decode prog_14_method_31_code 48 = .ok (.bipush 11, 2) := by decide +kernel
theorem d_M_does1_50 : decode prog_14_method_31_code 50 = .ok (.if_icmp .ne 10, 3) := by decide +kernel
theorem d_M_does1_60 : decode prog_14_method_31_code 60 = .ok (.iload_n 1, 1) := by decide +kernel
theorem d_M_does1_61 : decode prog_14_method_31_code 61 = .ok (.iconst 2, 1) := by decide +kernel
theorem d_M_does1_62 : decode prog_14_method_31_code 62 = .ok (.if_icmp .ne 10, 3) := by decide +kernel
theorem d_M_does1_72 : decode prog_14_method_31_code 72 = .ok (.iload_n 1, 1) := by decide +kernel
theorem d_M_does1_73 : decode prog_14_method_31_code 73 = .ok (.iconst 3, 1) := by decide +kernel
theorem d_M_does1_74 : decode prog_14_method_31_code 74 = .ok (.if_icmp .ne 10, 3) := by decide +kernel
theorem d_M_does1_84 : decode prog_14_method_31_code 84 = .ok (.iload_n 1, 1) := by decide +kernel
theorem d_M_does1_85 : decode prog_14_method_31_code 85 = .ok (.iconst 4, 1) := by decide +kernel
theorem d_M_does1_86 : decode prog_14_method_31_code 86 = .ok (.if_icmp .ne 10, 3) := by decide +kernel
theorem d_M_does1_96 : decode prog_14_method_31_code 96 = .ok (.iload_n 1, 1) := by decide +kernel
theorem d_M_does1_97 : decode prog_14_method_31_code 97 = .ok (.bipush 8, 2) := by decide +kernel
theorem d_M_does1_99 : decode prog_14_method_31_code 99 = .ok (.if_icmp .ge 11, 3) := by decide +kernel
theorem d_M_does1_110 : decode prog_14_method_31_code 110 = .ok (.iload_n 1, 1) := by decide +kernel
theorem d_M_does1_111 : decode prog_14_method_31_code 111 = .ok (.bipush 12, 2) := by decide +kernel
theorem d_M_does1_113 : decode prog_14_method_31_code 113 = .ok (.if_icmp .ne 16, 3) := by decide +kernel
theorem d_M_does1_129 : decode prog_14_method_31_code 129 = .ok (.iload_n 1, 1) := by decide +kernel
theorem d_M_does1_130 : decode prog_14_method_31_code 130 = .ok (.bipush 13, 2) := by decide +kernel
theorem d_M_does1_132 : decode prog_14_method_31_code 132 = .ok (.if_icmp .ne 17, 3) := by decide +kernel
theorem d_M_does1_149 : decode prog_14_method_31_code 149 = .ok (.iload_n 1, 1) := by decide +kernel
theorem d_M_does1_150 : decode prog_14_method_31_code 150 = .ok (.bipush 14, 2) := by decide +kernel
theorem d_M_does1_152 : decode prog_14_method_31_code 152 = .ok (.if_icmp .ne 17, 3) := by decide +kernel
theorem d_M_does1_169 : decode prog_14_method_31_code 169 = .ok (.aload_n 0, 1) := by decide +kernel
theorem d_M_does1_170 : decode prog_14_method_31_code 170 = .ok (.sipush 30076, 3) := by decide +kernel
theorem d_M_does1_173 : decode prog_14_method_31_code 173 = .ok (.invokevirtual 192, 3) := by decide +kernel
theorem d_M_does1_176 : decode prog_14_method_31_code 176 = .ok (.ifCond .eq 73, 3) := by decide +kernel
theorem d_M_does1_179 : decode prog_14_method_31_code 179 = .ok (.iload_n 2, 1) := by decide +kernel
theorem d_M_does1_180 : decode prog_14_method_31_code 180 = .ok (.ifCond .eq 26, 3) := by decide +kernel
theorem d_M_does1_183 : decode prog_14_method_31_code 183 = .ok (.iload_n 1, 1) := by decide +kernel
theorem d_M_does1_184 : decode prog_14_method_31_code 184 = .ok (.bipush 10, 2) := by decide +kernel
theorem d_M_does1_186 : decode prog_14_method_31_code 186 = .ok (.if_icmp .ne 20, 3) := by decide +kernel
theorem d_M_does1_189 : decode prog_14_method_31_code 189 = .ok (.aload_n 0, 1) := by decide +kernel
theorem d_M_does1_190 : decode prog_14_method_31_code 190 = .ok (.getfield 113, 3) := by decide +kernel
theorem d_M_does1_193 : decode prog_14_method_31_code 193 = .ok (.sipush 30075, 3) := by decide +kernel
theorem d_M_does1_196 : decode prog_14_method_31_code 196 = .ok (.laload, 1) := by decide +kernel
theorem d_M_does1_197 : decode prog_14_method_31_code 197 = .ok (.ldc2_w 255, 3) := by decide +kernel
theorem u_2375 : Cond.constantLong "FilterGuardModel" 255 2147483648 ∈ fg_g := fg_in (List.mem_of_getElem? (i := 2375) (by decide +kernel)) rfl
theorem d_M_does1_200 : decode prog_14_method_31_code 200 = .ok (.invokestatic 158, 3) := by decide +kernel
theorem d_M_does1_203 : decode prog_14_method_31_code 203 = .ok (.ifCond .eq 46, 3) := by decide +kernel
theorem d_M_does1_155 : decode prog_14_method_31_code 155 = .ok (.aload_n 0, 1) := by decide +kernel
theorem d_M_does1_156 : decode prog_14_method_31_code 156 = .ok (.aload_n 0, 1) := by decide +kernel
theorem d_M_does1_157 : decode prog_14_method_31_code 157 = .ok (.sipush 30076, 3) := by decide +kernel
theorem d_M_does1_160 : decode prog_14_method_31_code 160 = .ok (.invokevirtual 246, 3) := by decide +kernel
theorem u_2359 : Cond.methodLink "FilterGuardModel" 246 ⟨"FilterGuardModel", "bytesOf", "(I)I"⟩ ∈ fg_g := fg_in (List.mem_of_getElem? (i := 2359) (by decide +kernel)) rfl
theorem u_2362 : Cond.code ⟨"FilterGuardModel", "bytesOf", "(I)I"⟩ prog_14_method_27_code 2 (some .int) ∈ fg_g := fg_in (List.mem_of_getElem? (i := 2362) (by decide +kernel)) rfl
theorem u_2361 : Cond.instanceMethod ⟨"FilterGuardModel", "bytesOf", "(I)I"⟩ ∈ fg_g := fg_in (List.mem_of_getElem? (i := 2361) (by decide +kernel)) rfl
theorem u_160 : Cond.selects "FilterGuardModel" ⟨"FilterGuardModel", "bytesOf", "(I)I"⟩ ⟨"FilterGuardModel", "bytesOf", "(I)I"⟩ ∈ fg_g := fg_in (List.mem_of_getElem? (i := 160) (by decide +kernel)) rfl
theorem d_M_does1_163 : decode prog_14_method_31_code 163 = .ok (.invokevirtual 252, 3) := by decide +kernel
theorem u_2371 : Cond.methodLink "FilterGuardModel" 252 ⟨"FilterGuardModel", "cut", "(I)V"⟩ ∈ fg_g := fg_in (List.mem_of_getElem? (i := 2371) (by decide +kernel)) rfl
theorem u_2374 : Cond.code ⟨"FilterGuardModel", "cut", "(I)V"⟩ prog_14_method_30_code 2 none ∈ fg_g := fg_in (List.mem_of_getElem? (i := 2374) (by decide +kernel)) rfl
theorem u_2373 : Cond.instanceMethod ⟨"FilterGuardModel", "cut", "(I)V"⟩ ∈ fg_g := fg_in (List.mem_of_getElem? (i := 2373) (by decide +kernel)) rfl
theorem u_162 : Cond.selects "FilterGuardModel" ⟨"FilterGuardModel", "cut", "(I)V"⟩ ⟨"FilterGuardModel", "cut", "(I)V"⟩ ∈ fg_g := fg_in (List.mem_of_getElem? (i := 162) (by decide +kernel)) rfl
theorem d_M_does1_166 : decode prog_14_method_31_code 166 = .ok (.goto 83, 3) := by decide +kernel
theorem d_M_does1_135 : decode prog_14_method_31_code 135 = .ok (.aload_n 0, 1) := by decide +kernel
theorem d_M_does1_136 : decode prog_14_method_31_code 136 = .ok (.aload_n 0, 1) := by decide +kernel
theorem d_M_does1_137 : decode prog_14_method_31_code 137 = .ok (.sipush 30076, 3) := by decide +kernel
theorem d_M_does1_140 : decode prog_14_method_31_code 140 = .ok (.invokevirtual 246, 3) := by decide +kernel
theorem d_M_does1_143 : decode prog_14_method_31_code 143 = .ok (.invokevirtual 249, 3) := by decide +kernel
theorem u_2363 : Cond.methodLink "FilterGuardModel" 249 ⟨"FilterGuardModel", "swap", "(I)V"⟩ ∈ fg_g := fg_in (List.mem_of_getElem? (i := 2363) (by decide +kernel)) rfl
theorem u_2366 : Cond.code ⟨"FilterGuardModel", "swap", "(I)V"⟩ prog_14_method_29_code 5 none ∈ fg_g := fg_in (List.mem_of_getElem? (i := 2366) (by decide +kernel)) rfl
theorem u_2365 : Cond.instanceMethod ⟨"FilterGuardModel", "swap", "(I)V"⟩ ∈ fg_g := fg_in (List.mem_of_getElem? (i := 2365) (by decide +kernel)) rfl
theorem u_161 : Cond.selects "FilterGuardModel" ⟨"FilterGuardModel", "swap", "(I)V"⟩ ⟨"FilterGuardModel", "swap", "(I)V"⟩ ∈ fg_g := fg_in (List.mem_of_getElem? (i := 161) (by decide +kernel)) rfl
theorem d_M_does1_146 : decode prog_14_method_31_code 146 = .ok (.goto 103, 3) := by decide +kernel
theorem d_M_does1_116 : decode prog_14_method_31_code 116 = .ok (.aload_n 0, 1) := by decide +kernel
theorem d_M_does1_117 : decode prog_14_method_31_code 117 = .ok (.sipush 30076, 3) := by decide +kernel
theorem d_M_does1_120 : decode prog_14_method_31_code 120 = .ok (.sipush 30077, 3) := by decide +kernel
theorem d_M_does1_123 : decode prog_14_method_31_code 123 = .ok (.invokevirtual 208, 3) := by decide +kernel
theorem d_M_does1_126 : decode prog_14_method_31_code 126 = .ok (.goto 123, 3) := by decide +kernel
theorem d_M_does1_102 : decode prog_14_method_31_code 102 = .ok (.aload_n 0, 1) := by decide +kernel
theorem d_M_does1_103 : decode prog_14_method_31_code 103 = .ok (.iload_n 1, 1) := by decide +kernel
theorem d_M_does1_104 : decode prog_14_method_31_code 104 = .ok (.invokevirtual 224, 3) := by decide +kernel
theorem d_M_does1_107 : decode prog_14_method_31_code 107 = .ok (.goto 142, 3) := by decide +kernel
theorem d_M_does1_89 : decode prog_14_method_31_code 89 = .ok (.aload_n 0, 1) := by decide +kernel
theorem d_M_does1_90 : decode prog_14_method_31_code 90 = .ok (.invokevirtual 243, 3) := by decide +kernel
theorem u_2351 : Cond.methodLink "FilterGuardModel" 243 ⟨"FilterGuardModel", "rest", "()V"⟩ ∈ fg_g := fg_in (List.mem_of_getElem? (i := 2351) (by decide +kernel)) rfl
theorem u_2354 : Cond.code ⟨"FilterGuardModel", "rest", "()V"⟩ prog_14_method_24_code 2 none ∈ fg_g := fg_in (List.mem_of_getElem? (i := 2354) (by decide +kernel)) rfl
theorem u_2353 : Cond.instanceMethod ⟨"FilterGuardModel", "rest", "()V"⟩ ∈ fg_g := fg_in (List.mem_of_getElem? (i := 2353) (by decide +kernel)) rfl
theorem u_158 : Cond.selects "FilterGuardModel" ⟨"FilterGuardModel", "rest", "()V"⟩ ⟨"FilterGuardModel", "rest", "()V"⟩ ∈ fg_g := fg_in (List.mem_of_getElem? (i := 158) (by decide +kernel)) rfl
theorem d_M_does1_93 : decode prog_14_method_31_code 93 = .ok (.goto 156, 3) := by decide +kernel
theorem d_M_does1_77 : decode prog_14_method_31_code 77 = .ok (.aload_n 0, 1) := by decide +kernel
theorem d_M_does1_78 : decode prog_14_method_31_code 78 = .ok (.invokevirtual 240, 3) := by decide +kernel
theorem u_2344 : Cond.methodLink "FilterGuardModel" 240 ⟨"FilterGuardModel", "divide", "()V"⟩ ∈ fg_g := fg_in (List.mem_of_getElem? (i := 2344) (by decide +kernel)) rfl
theorem u_2347 : Cond.code ⟨"FilterGuardModel", "divide", "()V"⟩ prog_14_method_23_code 1 none ∈ fg_g := fg_in (List.mem_of_getElem? (i := 2347) (by decide +kernel)) rfl
theorem u_2346 : Cond.instanceMethod ⟨"FilterGuardModel", "divide", "()V"⟩ ∈ fg_g := fg_in (List.mem_of_getElem? (i := 2346) (by decide +kernel)) rfl
theorem u_157 : Cond.selects "FilterGuardModel" ⟨"FilterGuardModel", "divide", "()V"⟩ ⟨"FilterGuardModel", "divide", "()V"⟩ ∈ fg_g := fg_in (List.mem_of_getElem? (i := 157) (by decide +kernel)) rfl
theorem d_M_does1_81 : decode prog_14_method_31_code 81 = .ok (.goto 168, 3) := by decide +kernel
theorem d_M_does1_65 : decode prog_14_method_31_code 65 = .ok (.aload_n 0, 1) := by decide +kernel
theorem d_M_does1_66 : decode prog_14_method_31_code 66 = .ok (.invokevirtual 237, 3) := by decide +kernel
theorem u_2336 : Cond.methodLink "FilterGuardModel" 237 ⟨"FilterGuardModel", "multiply", "()V"⟩ ∈ fg_g := fg_in (List.mem_of_getElem? (i := 2336) (by decide +kernel)) rfl
theorem u_2339 : Cond.code ⟨"FilterGuardModel", "multiply", "()V"⟩ prog_14_method_21_code 2 none ∈ fg_g := fg_in (List.mem_of_getElem? (i := 2339) (by decide +kernel)) rfl
theorem u_2338 : Cond.instanceMethod ⟨"FilterGuardModel", "multiply", "()V"⟩ ∈ fg_g := fg_in (List.mem_of_getElem? (i := 2338) (by decide +kernel)) rfl
theorem u_155 : Cond.selects "FilterGuardModel" ⟨"FilterGuardModel", "multiply", "()V"⟩ ⟨"FilterGuardModel", "multiply", "()V"⟩ ∈ fg_g := fg_in (List.mem_of_getElem? (i := 155) (by decide +kernel)) rfl
theorem d_M_does1_69 : decode prog_14_method_31_code 69 = .ok (.goto 180, 3) := by decide +kernel
theorem d_M_does1_35 : decode prog_14_method_31_code 35 = .ok (.aload_n 0, 1) := by decide +kernel
theorem d_M_does1_36 : decode prog_14_method_31_code 36 = .ok (.invokevirtual 231, 3) := by decide +kernel
theorem u_2328 : Cond.methodLink "FilterGuardModel" 231 ⟨"FilterGuardModel", "add", "()V"⟩ ∈ fg_g := fg_in (List.mem_of_getElem? (i := 2328) (by decide +kernel)) rfl
theorem u_2331 : Cond.code ⟨"FilterGuardModel", "add", "()V"⟩ prog_14_method_18_code 14 none ∈ fg_g := fg_in (List.mem_of_getElem? (i := 2331) (by decide +kernel)) rfl
theorem u_2330 : Cond.instanceMethod ⟨"FilterGuardModel", "add", "()V"⟩ ∈ fg_g := fg_in (List.mem_of_getElem? (i := 2330) (by decide +kernel)) rfl
theorem u_153 : Cond.selects "FilterGuardModel" ⟨"FilterGuardModel", "add", "()V"⟩ ⟨"FilterGuardModel", "add", "()V"⟩ ∈ fg_g := fg_in (List.mem_of_getElem? (i := 153) (by decide +kernel)) rfl
theorem d_M_does1_39 : decode prog_14_method_31_code 39 = .ok (.goto 210, 3) := by decide +kernel
theorem d_M_does1_0 : decode prog_14_method_31_code 0 = .ok (.aload_n 0, 1) := by decide +kernel
theorem d_M_does1_1 : decode prog_14_method_31_code 1 = .ok (.sipush 30077, 3) := by decide +kernel
theorem d_M_does1_4 : decode prog_14_method_31_code 4 = .ok (.invokevirtual 228, 3) := by decide +kernel
theorem d_M_does1_7 : decode prog_14_method_31_code 7 = .ok (.iload_n 1, 1) := by decide +kernel
theorem d_M_does1_8 : decode prog_14_method_31_code 8 = .ok (.bipush 11, 2) := by decide +kernel
theorem d_M_does1_10 : decode prog_14_method_31_code 10 = .ok (.if_icmp .ne 21, 3) := by decide +kernel
theorem d_M_does1_13 : decode prog_14_method_31_code 13 = .ok (.aload_n 0, 1) := by decide +kernel
theorem d_M_does1_14 : decode prog_14_method_31_code 14 = .ok (.sipush 30075, 3) := by decide +kernel
theorem d_M_does1_17 : decode prog_14_method_31_code 17 = .ok (.sipush 30076, 3) := by decide +kernel
theorem d_M_does1_20 : decode prog_14_method_31_code 20 = .ok (.invokevirtual 208, 3) := by decide +kernel
theorem d_M_does1_23 : decode prog_14_method_31_code 23 = .ok (.aload_n 0, 1) := by decide +kernel
theorem d_M_does1_24 : decode prog_14_method_31_code 24 = .ok (.sipush 30075, 3) := by decide +kernel
theorem d_M_does1_27 : decode prog_14_method_31_code 27 = .ok (.lconst 0, 1) := by decide +kernel
theorem d_M_does1_28 : decode prog_14_method_31_code 28 = .ok (.invokevirtual 195, 3) := by decide +kernel
abbrev y_M_does1 : MethodName := ⟨"FilterGuardModel", "does", "(IZ)V"⟩
def rm_M_does1 : Room := { frames := 5, cells := 0, slots := 0, locals := 110 }
abbrev q_M_does1 (D : va_G) (ad : Nat → Nat → Nat) (ca : Nat → ClassId) (N : Nat → Nat) (M0 MZ : me_M) (A : Nat → Prop) : Array Value → Jvm.State → Outcome → Jvm.State → Prop := va_Qv (fun (_ : Unit) => me_wf N MZ ∧ me_kp M0 MZ) (fg_B D A (fun _ => me_W ad ca MZ) (fun _ => [])) A
set_option maxHeartbeats 4000000 in
set_option maxRecDepth 100000 in
theorem c_M_does1 (l : Launch) (D : va_G) (ad : Nat → Nat → Nat) (ca : Nat → ClassId) (N : Nat → Nat) (M0 MZ : me_M) (j0 : Nat) (x1 : Int32) (x2 : Int32) (h : f_M_does1 M0 j0 x1 x2 = (some MZ)) (hwf : me_wf N M0) (hj0 : j0 < N 1) (zx2 : x2 = 1 ∨ x2 = 0) (sz : Nat) : Met l y_M_does1 (fg_w y_M_does1 prog_14_method_31_code 3 none) rm_M_does1 (va_Pc [.ref (ad 1 j0), .int x1, .int x2] (fz_P D (me_T ca) (me_W ad ca M0) sz)) (q_M_does1 D ad ca N M0 MZ (va_A (me_W ad ca M0) sz)) rm_M_does1.cells rm_M_does1.slots (va_A (me_W ad ca M0) sz) := by
  refine fz_enter (fun A => q_M_does1 D ad ca N M0 MZ A) (by decide +kernel) (Nat.le_of_ble_eq_true rfl) ?_
  intro p e s m below meth c ls A hx hb hml hown hts hr hlocks hin hP hK hD hS hA hX hl hz
  have hl : lv_has ls 3 [(0, .ref (ad 1 j0)), (1, .int x1), (2, .int x2)] := hl
  unfold f_M_does1 at h
  have hkp : me_kp M0 M0 := me_kp.rf
  have hkb := hkp
  have b_249 : ∀ (M : me_M) (H : Heap) (locs : List Loc) (ls : Array Slot), f_M_does1_b249 j0 M = (some MZ) → me_wf N M → me_kp M0 M → va_P D classes (me_W ad ca M) H → va_D A (me_W ad ca M) → va_S A s.heap H locs → lv_has ls 3 [(0, .ref (ad 1 j0))] → W p l e rm_M_does1 s m [.ref (ad 1 j0), .int x1, .int x2].toArray below meth c H locs 0 0 (MQ below (q_M_does1 D ad ca N M0 MZ A) [.ref (ad 1 j0), .int x1, .int x2].toArray s rm_M_does1.cells rm_M_does1.slots A) (F0 m 249 ls []) := by
    intro M H locs ls h hwf hkp hP hD hS hl
    unfold f_M_does1_b249 at h
    have hkb := hkp
    refine lv_aload_n hx hb d_M_does1_249 rfl (lv_at hl 0 rfl) ?_
    refine lv_sipush (v := 30077) hx hb d_M_does1_250 (by decide) ?_
    obtain ⟨M1, r2, eM1, h⟩ := b2_ob h
    refine me_theni0 (M1 := M1) (me_runV (C := "FilterGuardModel") (As := [.int 30077]) (rest := []) ⟨hx, hb, hml, hown, hts⟩ (c_M_settle l D ad ca N M M1 r2 j0 (30077 : Int32) eM1 hwf hj0 _) rfl (by show fg_nm y_M_settle 1; decide +kernel) u_2143 u_2145 u_113 u_192 u_2146 ⟨Nat.le_of_ble_eq_true rfl, Nat.le_of_ble_eq_true rfl⟩ hX hz hK hP hD hwf hS hA hj0 (by decide) rfl rfl rfl hl.1 (Nat.le_of_ble_eq_true rfl) d_M_does1_253 ⟨Nat.le_of_ble_eq_true rfl, Nat.le_of_ble_eq_true rfl⟩) hP hD hK hS hA rfl rfl (fun H locs hw hP hD hS => ?_)
    obtain ⟨hwf, hk9, zr2⟩ := hw
    have hkp := hkp.tr hk9
    refine lv_if_ne (tgt := 266) hx hb d_M_does1_256 (by decide) (fun c3 => ?_) (fun c3 => ?_)
    · have h := if_f c3 h
      exact me_retv (me_kp M0) h hx hb hr hlocks hwf hkp hP hK hD hS d_M_does1_266
    have h := if_t c3 h
    refine lv_aload_n hx hb d_M_does1_259 rfl (lv_at hl 0 rfl) ?_
    refine lv_sipush (v := 30077) hx hb d_M_does1_260 (by decide) ?_
    obtain ⟨M4, eM4, h⟩ := bd_ob h
    refine me_thenv0 (M1 := M4) (me_runV (C := "FilterGuardModel") (As := [.int 30077]) (rest := []) ⟨hx, hb, hml, hown, hts⟩ (c_M_setAny l D ad ca N M1 M4 j0 (30077 : Int32) eM4 hwf hj0 _) rfl (by show fg_nm y_M_setAny 1; decide +kernel) u_2138 u_2140 u_112 u_192 u_2141 ⟨Nat.le_of_ble_eq_true rfl, Nat.le_of_ble_eq_true rfl⟩ hX hz hK hP hD hwf hS hA hj0 (by decide) rfl rfl rfl hl.1 (Nat.le_of_ble_eq_true rfl) d_M_does1_263 ⟨Nat.le_of_ble_eq_true rfl, Nat.le_of_ble_eq_true rfl⟩) hP hD hK hS hA rfl rfl (fun H locs hw hP hD hS => ?_)
    obtain ⟨hwf, hk9⟩ := hw
    have hkp := hkp.tr hk9
    exact me_retv (me_kp M0) h hx hb hr hlocks hwf hkp hP hK hD hS d_M_does1_266
  have b_244 : ∀ (M : me_M) (s0 : Int64) (s1 : Int64) (s2 : Int32) (s3 : Nat) (H : Heap) (locs : List Loc) (ls : Array Slot), f_M_does1_b244 j0 M s0 s1 s2 s3 = (some MZ) → (s3 < N 1) → me_wf N M → me_kp M0 M → va_P D classes (me_W ad ca M) H → va_D A (me_W ad ca M) → va_S A s.heap H locs → lv_has ls 3 [(0, .ref (ad 1 j0))] → W p l e rm_M_does1 s m [.ref (ad 1 j0), .int x1, .int x2].toArray below meth c H locs 0 0 (MQ below (q_M_does1 D ad ca N M0 MZ A) [.ref (ad 1 j0), .int x1, .int x2].toArray s rm_M_does1.cells rm_M_does1.slots A) (F0 m 244 ls [.long s0, .long s1, .int s2, .ref (ad 1 s3)]) := by
    intro M s0 s1 s2 s3 H locs ls h hs3 hwf hkp hP hD hS hl
    unfold f_M_does1_b244 at h
    have hkb := hkp
    refine lv_land hx hb d_M_does1_244 ?_
    refine lv_l2i (v := (s1 &&& s0).toInt32) hx hb d_M_does1_245 rfl ?_
    obtain ⟨M5, eM5, h⟩ := bd_ob h
    refine me_thenv0 (M1 := M5) (me_runV (C := "FilterGuardModel") (As := [.int s2, .int ((s1 &&& s0).toInt32)]) (rest := []) ⟨hx, hb, hml, hown, hts⟩ (c_M_shift l D ad ca N M M5 s3 s2 ((s1 &&& s0).toInt32) eM5 hwf hs3 _) rfl (by show fg_nm y_M_shift 2; decide +kernel) u_2376 u_2378 u_163 u_192 u_2379 ⟨Nat.le_of_ble_eq_true rfl, Nat.le_of_ble_eq_true rfl⟩ hX hz hK hP hD hwf hS hA hs3 (by decide) rfl rfl rfl hl.1 (Nat.le_of_ble_eq_true rfl) d_M_does1_246 ⟨Nat.le_of_ble_eq_true rfl, Nat.le_of_ble_eq_true rfl⟩) hP hD hK hS hA rfl rfl (fun H locs hw hP hD hS => ?_)
    obtain ⟨hwf, hk9⟩ := hw
    have hkp := hkp.tr hk9
    exact b_249 M5 _ _ _ h hwf hkp hP hD hS (lv_sub hl [0] rfl)
  have b_223 : ∀ (M : me_M) (s0 : Int32) (s1 : Nat) (H : Heap) (locs : List Loc) (ls : Array Slot), f_M_does1_b223 j0 x2 M s0 s1 = (some MZ) → (s1 < N 1) → me_wf N M → me_kp M0 M → va_P D classes (me_W ad ca M) H → va_D A (me_W ad ca M) → va_S A s.heap H locs → lv_has ls 3 [(0, .ref (ad 1 j0)), (2, .int x2)] → W p l e rm_M_does1 s m [.ref (ad 1 j0), .int x1, .int x2].toArray below meth c H locs 0 0 (MQ below (q_M_does1 D ad ca N M0 MZ A) [.ref (ad 1 j0), .int x1, .int x2].toArray s rm_M_does1.cells rm_M_does1.slots A) (F0 m 223 ls [.int s0, .ref (ad 1 s1)]) := by
    intro M s0 s1 H locs ls h hs1 hwf hkp hP hD hS hl
    unfold f_M_does1_b223 at h
    have hkb := hkp
    refine lv_aload_n hx hb d_M_does1_223 rfl (lv_at hl 0 rfl) ?_
    refine g_M_52 hx hb hts hown hK hP hwf hj0 (hts _ u_1793) d_M_does1_224 ?_
    obtain ⟨j6, e7, h⟩ := bd_ob h
    have hj6 : j6 < N 16 := (hwf.2.1 1 j0 52 _ e7 (by decide) hj0)
    refine me_opt (j := j6) e7 ?_
    refine lv_sipush (v := 30076) hx hb d_M_does1_227 (by decide) ?_
    obtain ⟨g8, h⟩ := gd_ob h
    refine me_lald hx hb hK hP hwf hj6 (me_in (i := (30076 : Int32)) (k := 30076) (by decide) (by decide) g8) d_M_does1_230 ?_
    refine fg_topl (y := mL M 16 j6 30076) (congrArg _ (by decide)) ?_
    refine lv_iload_n hx hb d_M_does1_231 rfl (lv_at hl 1 rfl) ?_
    refine lv_if_eq (tgt := 241) hx hb d_M_does1_232 (by decide) (fun c9 => ?_) (fun c9 => ?_)
    · have h := if_t c9 h
      refine lv_ldc2 hx hb hown (hts _ u_2030) d_M_does1_241 ?_
      exact b_244 M (63 : Int64) (mL M 16 j6 30076) s0 s1 _ _ _ h hs1 hwf hkp hP hD hS (lv_sub hl [0] rfl)
    have h := if_f c9 h
    refine lv_ldc2 hx hb hown (hts _ u_2029) d_M_does1_235 ?_
    refine lv_goto (tgt := 244) hx hb d_M_does1_238 (by decide) ?_
    exact b_244 M (31 : Int64) (mL M 16 j6 30076) s0 s1 _ _ _ h hs1 hwf hkp hP hD hS (lv_sub hl [0] rfl)
  have b_222 : ∀ (M : me_M) (s0 : Nat) (H : Heap) (locs : List Loc) (ls : Array Slot), f_M_does1_b222 j0 x1 x2 M s0 = (some MZ) → (s0 < N 1) → me_wf N M → me_kp M0 M → va_P D classes (me_W ad ca M) H → va_D A (me_W ad ca M) → va_S A s.heap H locs → lv_has ls 3 [(0, .ref (ad 1 j0)), (1, .int x1), (2, .int x2)] → W p l e rm_M_does1 s m [.ref (ad 1 j0), .int x1, .int x2].toArray below meth c H locs 0 0 (MQ below (q_M_does1 D ad ca N M0 MZ A) [.ref (ad 1 j0), .int x1, .int x2].toArray s rm_M_does1.cells rm_M_does1.slots A) (F0 m 222 ls [.ref (ad 1 s0)]) := by
    intro M s0 H locs ls h hs0 hwf hkp hP hD hS hl
    unfold f_M_does1_b222 at h
    have hkb := hkp
    refine lv_iload_n hx hb d_M_does1_222 rfl (lv_at hl 1 rfl) ?_
    exact b_223 M x1 s0 _ _ _ h hs0 hwf hkp hP hD hS (lv_sub hl [0, 2] rfl)
  have b_206 : ∀ (M : me_M) (H : Heap) (locs : List Loc) (ls : Array Slot), f_M_does1_b206 j0 x1 x2 M = (some MZ) → me_wf N M → me_kp M0 M → va_P D classes (me_W ad ca M) H → va_D A (me_W ad ca M) → va_S A s.heap H locs → lv_has ls 3 [(0, .ref (ad 1 j0)), (1, .int x1), (2, .int x2)] → W p l e rm_M_does1 s m [.ref (ad 1 j0), .int x1, .int x2].toArray below meth c H locs 0 0 (MQ below (q_M_does1 D ad ca N M0 MZ A) [.ref (ad 1 j0), .int x1, .int x2].toArray s rm_M_does1.cells rm_M_does1.slots A) (F0 m 206 ls []) := by
    intro M H locs ls h hwf hkp hP hD hS hl
    unfold f_M_does1_b206 at h
    have hkb := hkp
    refine lv_aload_n hx hb d_M_does1_206 rfl (lv_at hl 0 rfl) ?_
    refine lv_iload_n hx hb d_M_does1_207 rfl (lv_at hl 2 rfl) ?_
    refine lv_if_eq (tgt := 222) hx hb d_M_does1_208 (by decide) (fun c10 => ?_) (fun c10 => ?_)
    · have h := if_t c10 h
      exact b_222 M j0 _ _ _ h hj0 hwf hkp hP hD hS (lv_sub hl [0, 1, 2] rfl)
    have h := if_f c10 h
    refine lv_iload_n hx hb d_M_does1_211 rfl (lv_at hl 1 rfl) ?_
    refine lv_bipush (v := 10) hx hb d_M_does1_212 (by decide) ?_
    refine lv_icmp_ne (tgt := 222) hx hb d_M_does1_214 (by decide) (fun c11 => ?_) (fun c11 => ?_)
    · have h := if_f c11 h
      exact b_222 M j0 _ _ _ h hj0 hwf hkp hP hD hS (lv_sub hl [0, 1, 2] rfl)
    have h := if_t c11 h
    refine lv_bipush (v := 9) hx hb d_M_does1_217 (by decide) ?_
    refine lv_goto (tgt := 223) hx hb d_M_does1_219 (by decide) ?_
    exact b_223 M (9 : Int32) j0 _ _ _ h hj0 hwf hkp hP hD hS (lv_sub hl [0, 2] rfl)
  have b_53 : ∀ (M : me_M) (H : Heap) (locs : List Loc) (ls : Array Slot), f_M_does1_b53 j0 M = (some MZ) → me_wf N M → me_kp M0 M → va_P D classes (me_W ad ca M) H → va_D A (me_W ad ca M) → va_S A s.heap H locs → lv_has ls 3 [(0, .ref (ad 1 j0))] → W p l e rm_M_does1 s m [.ref (ad 1 j0), .int x1, .int x2].toArray below meth c H locs 0 0 (MQ below (q_M_does1 D ad ca N M0 MZ A) [.ref (ad 1 j0), .int x1, .int x2].toArray s rm_M_does1.cells rm_M_does1.slots A) (F0 m 53 ls []) := by
    intro M H locs ls h hwf hkp hP hD hS hl
    unfold f_M_does1_b53 at h
    have hkb := hkp
    refine lv_aload_n hx hb d_M_does1_53 rfl (lv_at hl 0 rfl) ?_
    obtain ⟨M12, eM12, h⟩ := bd_ob h
    refine me_thenv0 (M1 := M12) (me_runV (C := "FilterGuardModel") (As := []) (rest := []) ⟨hx, hb, hml, hown, hts⟩ (c_M_subtract l D ad ca N M M12 j0 eM12 hwf hj0 _) rfl (by show fg_nm y_M_subtract 0; decide +kernel) u_2332 u_2334 u_154 u_192 u_2335 ⟨Nat.le_of_ble_eq_true rfl, Nat.le_of_ble_eq_true rfl⟩ hX hz hK hP hD hwf hS hA hj0 (by decide) rfl rfl rfl hl.1 (Nat.le_of_ble_eq_true rfl) d_M_does1_54 ⟨Nat.le_of_ble_eq_true rfl, Nat.le_of_ble_eq_true rfl⟩) hP hD hK hS hA rfl rfl (fun H locs hw hP hD hS => ?_)
    obtain ⟨hwf, hk9⟩ := hw
    have hkp := hkp.tr hk9
    refine lv_goto (tgt := 249) hx hb d_M_does1_57 (by decide) ?_
    exact b_249 M12 _ _ _ h hwf hkp hP hD hS (lv_sub hl [0] rfl)
  have b_31 : ∀ (M : me_M) (H : Heap) (locs : List Loc) (ls : Array Slot), f_M_does1_b31 j0 x1 x2 M = (some MZ) → me_wf N M → me_kp M0 M → va_P D classes (me_W ad ca M) H → va_D A (me_W ad ca M) → va_S A s.heap H locs → lv_has ls 3 [(0, .ref (ad 1 j0)), (1, .int x1), (2, .int x2)] → W p l e rm_M_does1 s m [.ref (ad 1 j0), .int x1, .int x2].toArray below meth c H locs 0 0 (MQ below (q_M_does1 D ad ca N M0 MZ A) [.ref (ad 1 j0), .int x1, .int x2].toArray s rm_M_does1.cells rm_M_does1.slots A) (F0 m 31 ls []) := by
    intro M H locs ls h hwf hkp hP hD hS hl
    unfold f_M_does1_b31 at h
    have hkb := hkp
    refine lv_iload_n hx hb d_M_does1_31 rfl (lv_at hl 1 rfl) ?_
    refine lv_if_ne (tgt := 42) hx hb d_M_does1_32 (by decide) (fun c13 => ?_) (fun c13 => ?_)
    · have h := if_f c13 h
      refine lv_iload_n hx hb d_M_does1_42 rfl (lv_at hl 1 rfl) ?_
      refine lv_iconst (v := 1) hx hb d_M_does1_43 (by decide) ?_
      refine lv_icmp_eq (tgt := 53) hx hb d_M_does1_44 (by decide) (fun c14 => ?_) (fun c14 => ?_)
      · have h := if_t c14 h
        exact b_53 M _ _ _ h hwf hkp hP hD hS (lv_sub hl [0] rfl)
      have h := if_f c14 h
      refine lv_iload_n hx hb d_M_does1_47 rfl (lv_at hl 1 rfl) ?_
      refine lv_bipush (v := 11) hx hb d_M_does1_48 (by decide) ?_
      refine lv_icmp_ne (tgt := 60) hx hb d_M_does1_50 (by decide) (fun c15 => ?_) (fun c15 => ?_)
      · have h := if_f c15 h
        refine lv_iload_n hx hb d_M_does1_60 rfl (lv_at hl 1 rfl) ?_
        refine lv_iconst (v := 2) hx hb d_M_does1_61 (by decide) ?_
        refine lv_icmp_ne (tgt := 72) hx hb d_M_does1_62 (by decide) (fun c16 => ?_) (fun c16 => ?_)
        · have h := if_f c16 h
          refine lv_iload_n hx hb d_M_does1_72 rfl (lv_at hl 1 rfl) ?_
          refine lv_iconst (v := 3) hx hb d_M_does1_73 (by decide) ?_
          refine lv_icmp_ne (tgt := 84) hx hb d_M_does1_74 (by decide) (fun c17 => ?_) (fun c17 => ?_)
          · have h := if_f c17 h
            refine lv_iload_n hx hb d_M_does1_84 rfl (lv_at hl 1 rfl) ?_
            refine lv_iconst (v := 4) hx hb d_M_does1_85 (by decide) ?_
            refine lv_icmp_ne (tgt := 96) hx hb d_M_does1_86 (by decide) (fun c18 => ?_) (fun c18 => ?_)
            · have h := if_f c18 h
              refine lv_iload_n hx hb d_M_does1_96 rfl (lv_at hl 1 rfl) ?_
              refine lv_bipush (v := 8) hx hb d_M_does1_97 (by decide) ?_
              refine lv_icmp_ge (tgt := 110) hx hb d_M_does1_99 (by decide) (fun c19 => ?_) (fun c19 => ?_)
              · have h := if_t c19 h
                refine lv_iload_n hx hb d_M_does1_110 rfl (lv_at hl 1 rfl) ?_
                refine lv_bipush (v := 12) hx hb d_M_does1_111 (by decide) ?_
                refine lv_icmp_ne (tgt := 129) hx hb d_M_does1_113 (by decide) (fun c20 => ?_) (fun c20 => ?_)
                · have h := if_f c20 h
                  refine lv_iload_n hx hb d_M_does1_129 rfl (lv_at hl 1 rfl) ?_
                  refine lv_bipush (v := 13) hx hb d_M_does1_130 (by decide) ?_
                  refine lv_icmp_ne (tgt := 149) hx hb d_M_does1_132 (by decide) (fun c21 => ?_) (fun c21 => ?_)
                  · have h := if_f c21 h
                    refine lv_iload_n hx hb d_M_does1_149 rfl (lv_at hl 1 rfl) ?_
                    refine lv_bipush (v := 14) hx hb d_M_does1_150 (by decide) ?_
                    refine lv_icmp_ne (tgt := 169) hx hb d_M_does1_152 (by decide) (fun c22 => ?_) (fun c22 => ?_)
                    · have h := if_f c22 h
                      refine lv_aload_n hx hb d_M_does1_169 rfl (lv_at hl 0 rfl) ?_
                      refine lv_sipush (v := 30076) hx hb d_M_does1_170 (by decide) ?_
                      obtain ⟨M23, r24, eM23, h⟩ := b2_ob h
                      refine me_theni0 (M1 := M23) (me_runV (C := "FilterGuardModel") (As := [.int 30076]) (rest := []) ⟨hx, hb, hml, hown, hts⟩ (c_M_isExact l D ad ca N M M23 r24 j0 (30076 : Int32) eM23 hwf hj0 _) rfl (by show fg_nm y_M_isExact 1; decide +kernel) u_2251 u_2253 u_136 u_192 u_2254 ⟨Nat.le_of_ble_eq_true rfl, Nat.le_of_ble_eq_true rfl⟩ hX hz hK hP hD hwf hS hA hj0 (by decide) rfl rfl rfl hl.1 (Nat.le_of_ble_eq_true rfl) d_M_does1_173 ⟨Nat.le_of_ble_eq_true rfl, Nat.le_of_ble_eq_true rfl⟩) hP hD hK hS hA rfl rfl (fun H locs hw hP hD hS => ?_)
                      obtain ⟨hwf, hk9, zr24⟩ := hw
                      have hkp := hkp.tr hk9
                      refine lv_if_eq (tgt := 249) hx hb d_M_does1_176 (by decide) (fun c25 => ?_) (fun c25 => ?_)
                      · have h := if_t c25 h
                        exact b_249 M23 _ _ _ h hwf hkp hP hD hS (lv_sub hl [0] rfl)
                      have h := if_f c25 h
                      refine lv_iload_n hx hb d_M_does1_179 rfl (lv_at hl 2 rfl) ?_
                      refine lv_if_eq (tgt := 206) hx hb d_M_does1_180 (by decide) (fun c26 => ?_) (fun c26 => ?_)
                      · have h := if_t c26 h
                        exact b_206 M23 _ _ _ h hwf hkp hP hD hS (lv_sub hl [0, 1, 2] rfl)
                      have h := if_f c26 h
                      refine lv_iload_n hx hb d_M_does1_183 rfl (lv_at hl 1 rfl) ?_
                      refine lv_bipush (v := 10) hx hb d_M_does1_184 (by decide) ?_
                      refine lv_icmp_ne (tgt := 206) hx hb d_M_does1_186 (by decide) (fun c27 => ?_) (fun c27 => ?_)
                      · have h := if_f c27 h
                        exact b_206 M23 _ _ _ h hwf hkp hP hD hS (lv_sub hl [0, 1, 2] rfl)
                      have h := if_t c27 h
                      refine lv_aload_n hx hb d_M_does1_189 rfl (lv_at hl 0 rfl) ?_
                      refine g_M_55 hx hb hts hown hK hP hwf hj0 (hts _ u_1796) d_M_does1_190 ?_
                      obtain ⟨j28, e29, h⟩ := bd_ob h
                      have hj28 : j28 < N 16 := (hwf.2.1 1 j0 55 _ (kp_r hkb hkp e29) (by decide) hj0)
                      refine me_opt (j := j28) (kp_r hkb hkp e29) ?_
                      refine lv_sipush (v := 30075) hx hb d_M_does1_193 (by decide) ?_
                      obtain ⟨g30, h⟩ := gd_ob h
                      refine me_lald hx hb hK hP hwf hj28 (me_in (i := (30075 : Int32)) (k := 30075) (by decide) (by decide) (kp_c hkb.z hkp.z g30)) d_M_does1_196 ?_
                      refine fg_topl (y := mL M23 16 j28 30075) (congrArg _ (by decide)) ?_
                      refine lv_ldc2 hx hb hown (hts _ u_2375) d_M_does1_197 ?_
                      obtain ⟨r31, er31, h⟩ := bd_ob h
                      refine me_pani' (r0 := r31) (fg_runS (wc := []) (tc := []) (A2 := A) (As := [.long (mL M23 16 j28 30075), .long 2147483648]) (rest := []) ⟨hx, hb, hml, hown, hts⟩ (c_M_below l D r31 (mL M23 16 j28 30075) (2147483648 : Int64) er31 _) (by show fg_nm y_M_below 2; decide +kernel) u_2072 u_2073 u_192 u_2074 ⟨Nat.le_of_ble_eq_true rfl, Nat.le_of_ble_eq_true rfl⟩ hX me_P0 (hK.sub (tys' := []) [] rfl) me_D0 rfl hl.1 (Nat.le_of_ble_eq_true rfl) d_M_does1_200 ⟨Nat.le_of_ble_eq_true rfl, Nat.le_of_ble_eq_true rfl⟩) hP hD hK hS hA rfl rfl (fun H locs hw hP hD hS => ?_)
                      have zr31 := hw
                      refine lv_if_eq (tgt := 249) hx hb d_M_does1_203 (by decide) (fun c32 => ?_) (fun c32 => ?_)
                      · have h := if_t c32 h
                        exact b_249 M23 _ _ _ h hwf hkp hP hD hS (lv_sub hl [0] rfl)
                      have h := if_f c32 h
                      exact b_206 M23 _ _ _ h hwf hkp hP hD hS (lv_sub hl [0, 1, 2] rfl)
                    have h := if_t c22 h
                    refine lv_aload_n hx hb d_M_does1_155 rfl (lv_at hl 0 rfl) ?_
                    refine lv_aload_n hx hb d_M_does1_156 rfl (lv_at hl 0 rfl) ?_
                    refine lv_sipush (v := 30076) hx hb d_M_does1_157 (by decide) ?_
                    obtain ⟨M33, r34, eM33, h⟩ := b2_ob h
                    refine me_theni0 (M1 := M33) (me_runV (C := "FilterGuardModel") (As := [.int 30076]) (rest := [.ref (ad 1 j0)]) ⟨hx, hb, hml, hown, hts⟩ (c_M_bytesOf l D ad ca N M M33 r34 j0 (30076 : Int32) eM33 hwf hj0 _) rfl (by show fg_nm y_M_bytesOf 1; decide +kernel) u_2359 u_2361 u_160 u_192 u_2362 ⟨Nat.le_of_ble_eq_true rfl, Nat.le_of_ble_eq_true rfl⟩ hX hz hK hP hD hwf hS hA hj0 (by decide) rfl rfl rfl hl.1 (Nat.le_of_ble_eq_true rfl) d_M_does1_160 ⟨Nat.le_of_ble_eq_true rfl, Nat.le_of_ble_eq_true rfl⟩) hP hD hK hS hA rfl rfl (fun H locs hw hP hD hS => ?_)
                    obtain ⟨hwf, hk9⟩ := hw
                    have hkp := hkp.tr hk9
                    obtain ⟨M35, eM35, h⟩ := bd_ob h
                    refine me_thenv0 (M1 := M35) (me_runV (C := "FilterGuardModel") (As := [.int r34]) (rest := []) ⟨hx, hb, hml, hown, hts⟩ (c_M_cut l D ad ca N M33 M35 j0 r34 eM35 hwf hj0 _) rfl (by show fg_nm y_M_cut 1; decide +kernel) u_2371 u_2373 u_162 u_192 u_2374 ⟨Nat.le_of_ble_eq_true rfl, Nat.le_of_ble_eq_true rfl⟩ hX hz hK hP hD hwf hS hA hj0 (by decide) rfl rfl rfl hl.1 (Nat.le_of_ble_eq_true rfl) d_M_does1_163 ⟨Nat.le_of_ble_eq_true rfl, Nat.le_of_ble_eq_true rfl⟩) hP hD hK hS hA rfl rfl (fun H locs hw hP hD hS => ?_)
                    obtain ⟨hwf, hk9⟩ := hw
                    have hkp := hkp.tr hk9
                    refine lv_goto (tgt := 249) hx hb d_M_does1_166 (by decide) ?_
                    exact b_249 M35 _ _ _ h hwf hkp hP hD hS (lv_sub hl [0] rfl)
                  have h := if_t c21 h
                  refine lv_aload_n hx hb d_M_does1_135 rfl (lv_at hl 0 rfl) ?_
                  refine lv_aload_n hx hb d_M_does1_136 rfl (lv_at hl 0 rfl) ?_
                  refine lv_sipush (v := 30076) hx hb d_M_does1_137 (by decide) ?_
                  obtain ⟨M36, r37, eM36, h⟩ := b2_ob h
                  refine me_theni0 (M1 := M36) (me_runV (C := "FilterGuardModel") (As := [.int 30076]) (rest := [.ref (ad 1 j0)]) ⟨hx, hb, hml, hown, hts⟩ (c_M_bytesOf l D ad ca N M M36 r37 j0 (30076 : Int32) eM36 hwf hj0 _) rfl (by show fg_nm y_M_bytesOf 1; decide +kernel) u_2359 u_2361 u_160 u_192 u_2362 ⟨Nat.le_of_ble_eq_true rfl, Nat.le_of_ble_eq_true rfl⟩ hX hz hK hP hD hwf hS hA hj0 (by decide) rfl rfl rfl hl.1 (Nat.le_of_ble_eq_true rfl) d_M_does1_140 ⟨Nat.le_of_ble_eq_true rfl, Nat.le_of_ble_eq_true rfl⟩) hP hD hK hS hA rfl rfl (fun H locs hw hP hD hS => ?_)
                  obtain ⟨hwf, hk9⟩ := hw
                  have hkp := hkp.tr hk9
                  obtain ⟨M38, eM38, h⟩ := bd_ob h
                  refine me_thenv0 (M1 := M38) (me_runV (C := "FilterGuardModel") (As := [.int r37]) (rest := []) ⟨hx, hb, hml, hown, hts⟩ (c_M_swap l D ad ca N M36 M38 j0 r37 eM38 hwf hj0 _) rfl (by show fg_nm y_M_swap 1; decide +kernel) u_2363 u_2365 u_161 u_192 u_2366 ⟨Nat.le_of_ble_eq_true rfl, Nat.le_of_ble_eq_true rfl⟩ hX hz hK hP hD hwf hS hA hj0 (by decide) rfl rfl rfl hl.1 (Nat.le_of_ble_eq_true rfl) d_M_does1_143 ⟨Nat.le_of_ble_eq_true rfl, Nat.le_of_ble_eq_true rfl⟩) hP hD hK hS hA rfl rfl (fun H locs hw hP hD hS => ?_)
                  obtain ⟨hwf, hk9⟩ := hw
                  have hkp := hkp.tr hk9
                  refine lv_goto (tgt := 249) hx hb d_M_does1_146 (by decide) ?_
                  exact b_249 M38 _ _ _ h hwf hkp hP hD hS (lv_sub hl [0] rfl)
                have h := if_t c20 h
                refine lv_aload_n hx hb d_M_does1_116 rfl (lv_at hl 0 rfl) ?_
                refine lv_sipush (v := 30076) hx hb d_M_does1_117 (by decide) ?_
                refine lv_sipush (v := 30077) hx hb d_M_does1_120 (by decide) ?_
                obtain ⟨M39, eM39, h⟩ := bd_ob h
                refine me_thenv0 (M1 := M39) (me_runV (C := "FilterGuardModel") (As := [.int 30076, .int 30077]) (rest := []) ⟨hx, hb, hml, hown, hts⟩ (c_M_copyNumber l D ad ca N M M39 j0 (30076 : Int32) (30077 : Int32) eM39 hwf hj0 _) rfl (by show fg_nm y_M_copyNumber 2; decide +kernel) u_2096 u_2098 u_103 u_192 u_2099 ⟨Nat.le_of_ble_eq_true rfl, Nat.le_of_ble_eq_true rfl⟩ hX hz hK hP hD hwf hS hA hj0 (by decide) rfl rfl rfl hl.1 (Nat.le_of_ble_eq_true rfl) d_M_does1_123 ⟨Nat.le_of_ble_eq_true rfl, Nat.le_of_ble_eq_true rfl⟩) hP hD hK hS hA rfl rfl (fun H locs hw hP hD hS => ?_)
                obtain ⟨hwf, hk9⟩ := hw
                have hkp := hkp.tr hk9
                refine lv_goto (tgt := 249) hx hb d_M_does1_126 (by decide) ?_
                exact b_249 M39 _ _ _ h hwf hkp hP hD hS (lv_sub hl [0] rfl)
              have h := if_f c19 h
              refine lv_aload_n hx hb d_M_does1_102 rfl (lv_at hl 0 rfl) ?_
              refine lv_iload_n hx hb d_M_does1_103 rfl (lv_at hl 1 rfl) ?_
              obtain ⟨M40, eM40, h⟩ := bd_ob h
              refine me_thenv0 (M1 := M40) (me_runV (C := "FilterGuardModel") (As := [.int x1]) (rest := []) ⟨hx, hb, hml, hown, hts⟩ (c_M_logic l D ad ca N M M40 j0 x1 eM40 hwf hj0 _) rfl (by show fg_nm y_M_logic 1; decide +kernel) u_2355 u_2357 u_159 u_192 u_2358 ⟨Nat.le_of_ble_eq_true rfl, Nat.le_of_ble_eq_true rfl⟩ hX hz hK hP hD hwf hS hA hj0 (by decide) rfl rfl rfl hl.1 (Nat.le_of_ble_eq_true rfl) d_M_does1_104 ⟨Nat.le_of_ble_eq_true rfl, Nat.le_of_ble_eq_true rfl⟩) hP hD hK hS hA rfl rfl (fun H locs hw hP hD hS => ?_)
              obtain ⟨hwf, hk9⟩ := hw
              have hkp := hkp.tr hk9
              refine lv_goto (tgt := 249) hx hb d_M_does1_107 (by decide) ?_
              exact b_249 M40 _ _ _ h hwf hkp hP hD hS (lv_sub hl [0] rfl)
            have h := if_t c18 h
            refine lv_aload_n hx hb d_M_does1_89 rfl (lv_at hl 0 rfl) ?_
            obtain ⟨M41, eM41, h⟩ := bd_ob h
            refine me_thenv0 (M1 := M41) (me_runV (C := "FilterGuardModel") (As := []) (rest := []) ⟨hx, hb, hml, hown, hts⟩ (c_M_rest l D ad ca N M M41 j0 eM41 hwf hj0 _) rfl (by show fg_nm y_M_rest 0; decide +kernel) u_2351 u_2353 u_158 u_192 u_2354 ⟨Nat.le_of_ble_eq_true rfl, Nat.le_of_ble_eq_true rfl⟩ hX hz hK hP hD hwf hS hA hj0 (by decide) rfl rfl rfl hl.1 (Nat.le_of_ble_eq_true rfl) d_M_does1_90 ⟨Nat.le_of_ble_eq_true rfl, Nat.le_of_ble_eq_true rfl⟩) hP hD hK hS hA rfl rfl (fun H locs hw hP hD hS => ?_)
            obtain ⟨hwf, hk9⟩ := hw
            have hkp := hkp.tr hk9
            refine lv_goto (tgt := 249) hx hb d_M_does1_93 (by decide) ?_
            exact b_249 M41 _ _ _ h hwf hkp hP hD hS (lv_sub hl [0] rfl)
          have h := if_t c17 h
          refine lv_aload_n hx hb d_M_does1_77 rfl (lv_at hl 0 rfl) ?_
          obtain ⟨M42, eM42, h⟩ := bd_ob h
          refine me_thenv0 (M1 := M42) (me_runV (C := "FilterGuardModel") (As := []) (rest := []) ⟨hx, hb, hml, hown, hts⟩ (c_M_divide l D ad ca N M M42 j0 eM42 hwf hj0 _) rfl (by show fg_nm y_M_divide 0; decide +kernel) u_2344 u_2346 u_157 u_192 u_2347 ⟨Nat.le_of_ble_eq_true rfl, Nat.le_of_ble_eq_true rfl⟩ hX hz hK hP hD hwf hS hA hj0 (by decide) rfl rfl rfl hl.1 (Nat.le_of_ble_eq_true rfl) d_M_does1_78 ⟨Nat.le_of_ble_eq_true rfl, Nat.le_of_ble_eq_true rfl⟩) hP hD hK hS hA rfl rfl (fun H locs hw hP hD hS => ?_)
          obtain ⟨hwf, hk9⟩ := hw
          have hkp := hkp.tr hk9
          refine lv_goto (tgt := 249) hx hb d_M_does1_81 (by decide) ?_
          exact b_249 M42 _ _ _ h hwf hkp hP hD hS (lv_sub hl [0] rfl)
        have h := if_t c16 h
        refine lv_aload_n hx hb d_M_does1_65 rfl (lv_at hl 0 rfl) ?_
        obtain ⟨M43, eM43, h⟩ := bd_ob h
        refine me_thenv0 (M1 := M43) (me_runV (C := "FilterGuardModel") (As := []) (rest := []) ⟨hx, hb, hml, hown, hts⟩ (c_M_multiply l D ad ca N M M43 j0 eM43 hwf hj0 _) rfl (by show fg_nm y_M_multiply 0; decide +kernel) u_2336 u_2338 u_155 u_192 u_2339 ⟨Nat.le_of_ble_eq_true rfl, Nat.le_of_ble_eq_true rfl⟩ hX hz hK hP hD hwf hS hA hj0 (by decide) rfl rfl rfl hl.1 (Nat.le_of_ble_eq_true rfl) d_M_does1_66 ⟨Nat.le_of_ble_eq_true rfl, Nat.le_of_ble_eq_true rfl⟩) hP hD hK hS hA rfl rfl (fun H locs hw hP hD hS => ?_)
        obtain ⟨hwf, hk9⟩ := hw
        have hkp := hkp.tr hk9
        refine lv_goto (tgt := 249) hx hb d_M_does1_69 (by decide) ?_
        exact b_249 M43 _ _ _ h hwf hkp hP hD hS (lv_sub hl [0] rfl)
      have h := if_t c15 h
      exact b_53 M _ _ _ h hwf hkp hP hD hS (lv_sub hl [0] rfl)
    have h := if_t c13 h
    refine lv_aload_n hx hb d_M_does1_35 rfl (lv_at hl 0 rfl) ?_
    obtain ⟨M44, eM44, h⟩ := bd_ob h
    refine me_thenv0 (M1 := M44) (me_runV (C := "FilterGuardModel") (As := []) (rest := []) ⟨hx, hb, hml, hown, hts⟩ (c_M_add l D ad ca N M M44 j0 eM44 hwf hj0 _) rfl (by show fg_nm y_M_add 0; decide +kernel) u_2328 u_2330 u_153 u_192 u_2331 ⟨Nat.le_of_ble_eq_true rfl, Nat.le_of_ble_eq_true rfl⟩ hX hz hK hP hD hwf hS hA hj0 (by decide) rfl rfl rfl hl.1 (Nat.le_of_ble_eq_true rfl) d_M_does1_36 ⟨Nat.le_of_ble_eq_true rfl, Nat.le_of_ble_eq_true rfl⟩) hP hD hK hS hA rfl rfl (fun H locs hw hP hD hS => ?_)
    obtain ⟨hwf, hk9⟩ := hw
    have hkp := hkp.tr hk9
    refine lv_goto (tgt := 249) hx hb d_M_does1_39 (by decide) ?_
    exact b_249 M44 _ _ _ h hwf hkp hP hD hS (lv_sub hl [0] rfl)
  refine lv_aload_n hx hb d_M_does1_0 rfl (lv_at hl 0 rfl) ?_
  refine lv_sipush (v := 30077) hx hb d_M_does1_1 (by decide) ?_
  obtain ⟨M45, eM45, h⟩ := bd_ob h
  refine me_thenv0 (M1 := M45) (me_runV (C := "FilterGuardModel") (As := [.int 30077]) (rest := []) ⟨hx, hb, hml, hown, hts⟩ (c_M_setAny l D ad ca N M0 M45 j0 (30077 : Int32) eM45 hwf hj0 _) rfl (by show fg_nm y_M_setAny 1; decide +kernel) u_2138 u_2140 u_112 u_192 u_2141 ⟨Nat.le_of_ble_eq_true rfl, Nat.le_of_ble_eq_true rfl⟩ hX hz hK hP hD hwf hS hA hj0 (by decide) rfl rfl rfl hl.1 (Nat.le_of_ble_eq_true rfl) d_M_does1_4 ⟨Nat.le_of_ble_eq_true rfl, Nat.le_of_ble_eq_true rfl⟩) hP hD hK hS hA rfl rfl (fun H locs hw hP hD hS => ?_)
  obtain ⟨hwf, hk9⟩ := hw
  have hkp := hkp.tr hk9
  refine lv_iload_n hx hb d_M_does1_7 rfl (lv_at hl 1 rfl) ?_
  refine lv_bipush (v := 11) hx hb d_M_does1_8 (by decide) ?_
  refine lv_icmp_ne (tgt := 31) hx hb d_M_does1_10 (by decide) (fun c46 => ?_) (fun c46 => ?_)
  · have h := if_f c46 h
    exact b_31 M45 _ _ _ h hwf hkp hP hD hS (lv_sub hl [0, 1, 2] rfl)
  have h := if_t c46 h
  refine lv_aload_n hx hb d_M_does1_13 rfl (lv_at hl 0 rfl) ?_
  refine lv_sipush (v := 30075) hx hb d_M_does1_14 (by decide) ?_
  refine lv_sipush (v := 30076) hx hb d_M_does1_17 (by decide) ?_
  obtain ⟨M47, eM47, h⟩ := bd_ob h
  refine me_thenv0 (M1 := M47) (me_runV (C := "FilterGuardModel") (As := [.int 30075, .int 30076]) (rest := []) ⟨hx, hb, hml, hown, hts⟩ (c_M_copyNumber l D ad ca N M45 M47 j0 (30075 : Int32) (30076 : Int32) eM47 hwf hj0 _) rfl (by show fg_nm y_M_copyNumber 2; decide +kernel) u_2096 u_2098 u_103 u_192 u_2099 ⟨Nat.le_of_ble_eq_true rfl, Nat.le_of_ble_eq_true rfl⟩ hX hz hK hP hD hwf hS hA hj0 (by decide) rfl rfl rfl hl.1 (Nat.le_of_ble_eq_true rfl) d_M_does1_20 ⟨Nat.le_of_ble_eq_true rfl, Nat.le_of_ble_eq_true rfl⟩) hP hD hK hS hA rfl rfl (fun H locs hw hP hD hS => ?_)
  obtain ⟨hwf, hk9⟩ := hw
  have hkp := hkp.tr hk9
  refine lv_aload_n hx hb d_M_does1_23 rfl (lv_at hl 0 rfl) ?_
  refine lv_sipush (v := 30075) hx hb d_M_does1_24 (by decide) ?_
  refine lv_lconst (v := 0) hx hb d_M_does1_27 (by decide) ?_
  obtain ⟨M48, eM48, h⟩ := bd_ob h
  refine me_thenv0 (M1 := M48) (me_runV (C := "FilterGuardModel") (As := [.int 30075, .long 0]) (rest := []) ⟨hx, hb, hml, hown, hts⟩ (c_M_setExact l D ad ca N M47 M48 j0 (30075 : Int32) (0 : Int64) eM48 hwf hj0 _) rfl (by show fg_nm y_M_setExact 2; decide +kernel) u_2108 u_2110 u_106 u_192 u_2111 ⟨Nat.le_of_ble_eq_true rfl, Nat.le_of_ble_eq_true rfl⟩ hX hz hK hP hD hwf hS hA hj0 (by decide) rfl rfl rfl hl.1 (Nat.le_of_ble_eq_true rfl) d_M_does1_28 ⟨Nat.le_of_ble_eq_true rfl, Nat.le_of_ble_eq_true rfl⟩) hP hD hK hS hA rfl rfl (fun H locs hw hP hD hS => ?_)
  obtain ⟨hwf, hk9⟩ := hw
  have hkp := hkp.tr hk9
  exact b_31 M48 _ _ _ h hwf hkp hP hD hS (lv_sub hl [0, 1, 2] rfl)
