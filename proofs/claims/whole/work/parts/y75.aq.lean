theorem d_M_slotOf_0 : decode prog_14_method_74_code 0 = .ok (.iload_n 0, 1) := by decide +kernel
theorem d_M_slotOf_1 : decode prog_14_method_74_code 1 = .ok (.sipush 512, 3) := by decide +kernel
theorem d_M_slotOf_4 : decode prog_14_method_74_code 4 = .ok (.iadd, 1) := by decide +kernel
theorem d_M_slotOf_5 : decode prog_14_method_74_code 5 = .ok (.bipush 8, 2) := by decide +kernel
theorem d_M_slotOf_7 : decode prog_14_method_74_code 7 = .ok (.idiv, 1) := by decide +kernel
theorem d_M_slotOf_8 : decode prog_14_method_74_code 8 = .ok (.ireturn, 1) := by decide +kernel
abbrev y_M_slotOf : MethodName := ⟨"FilterGuardModel", "slotOf", "(I)I"⟩
def rm_M_slotOf : Room := { frames := 1, cells := 0, slots := 0, locals := 20 }
abbrev q_M_slotOf (D : va_G) (RZ : Int32) (A : Nat → Prop) : Array Value → Jvm.State → Outcome → Jvm.State → Prop := va_Qi (fun r (_ : Unit) => r = RZ ∧ True) (fg_B D A (fun _ => []) (fun _ => [])) A
set_option maxHeartbeats 4000000 in
set_option maxRecDepth 100000 in
theorem c_M_slotOf (l : Launch) (D : va_G) (RZ : Int32) (x0 : Int32) (h : f_M_slotOf x0 = (some RZ)) (sz : Nat) : Met l y_M_slotOf (fg_w y_M_slotOf prog_14_method_74_code 1 (some .int)) rm_M_slotOf (va_Pc [.int x0] (fg_P D [] [] sz)) (q_M_slotOf D RZ (va_A [] sz)) rm_M_slotOf.cells rm_M_slotOf.slots (va_A [] sz) := by
  refine fg_enter (fun A => q_M_slotOf D RZ A) (by decide +kernel) (Nat.le_of_ble_eq_true rfl) ?_
  intro p e s m below meth c ls A hx hb hml hown hts hr hlocks hin hP hK hD hS hA hX hl
  have hl : lv_has ls 1 [(0, .int x0)] := hl
  unfold f_M_slotOf at h
  refine lv_iload_n hx hb d_M_slotOf_0 rfl (lv_at hl 0 rfl) ?_
  refine lv_sipush (v := 512) hx hb d_M_slotOf_1 (by decide) ?_
  refine lv_iadd hx hb d_M_slotOf_4 ?_
  refine lv_bipush (v := 8) hx hb d_M_slotOf_5 (by decide) ?_
  refine lv_idiv hx hb d_M_slotOf_7 (by decide) ?_
  exact me_preti h hx hb hr hlocks hK hS d_M_slotOf_8
theorem d_M_isWritten_0 : decode prog_14_method_75_code 0 = .ok (.aload_n 0, 1) := by decide +kernel
theorem d_M_isWritten_1 : decode prog_14_method_75_code 1 = .ok (.getfield 122, 3) := by decide +kernel
theorem d_M_isWritten_4 : decode prog_14_method_75_code 4 = .ok (.iload_n 1, 1) := by decide +kernel
theorem d_M_isWritten_5 : decode prog_14_method_75_code 5 = .ok (.invokestatic 403, 3) := by decide +kernel
theorem u_2180 : Cond.methodLink "FilterGuardModel" 403 ⟨"FilterGuardModel", "slotOf", "(I)I"⟩ ∈ fg_g := fg_in (List.mem_of_getElem? (i := 2180) (by decide +kernel)) rfl
theorem u_2182 : Cond.code ⟨"FilterGuardModel", "slotOf", "(I)I"⟩ prog_14_method_74_code 1 (some .int) ∈ fg_g := fg_in (List.mem_of_getElem? (i := 2182) (by decide +kernel)) rfl
theorem u_2181 : Cond.static ⟨"FilterGuardModel", "slotOf", "(I)I"⟩ ∈ fg_g := fg_in (List.mem_of_getElem? (i := 2181) (by decide +kernel)) rfl
theorem d_M_isWritten_8 : decode prog_14_method_75_code 8 = .ok (.iaload, 1) := by decide +kernel
theorem d_M_isWritten_9 : decode prog_14_method_75_code 9 = .ok (.iload_n 1, 1) := by decide +kernel
theorem d_M_isWritten_10 : decode prog_14_method_75_code 10 = .ok (.sipush 512, 3) := by decide +kernel
theorem d_M_isWritten_13 : decode prog_14_method_75_code 13 = .ok (.iadd, 1) := by decide +kernel
theorem d_M_isWritten_14 : decode prog_14_method_75_code 14 = .ok (.bipush 8, 2) := by decide +kernel
theorem d_M_isWritten_16 : decode prog_14_method_75_code 16 = .ok (.irem, 1) := by decide +kernel
theorem d_M_isWritten_17 : decode prog_14_method_75_code 17 = .ok (.ishr, 1) := by decide +kernel
theorem d_M_isWritten_18 : decode prog_14_method_75_code 18 = .ok (.iconst 1, 1) := by decide +kernel
theorem d_M_isWritten_19 : decode prog_14_method_75_code 19 = .ok (.iand, 1) := by decide +kernel
theorem d_M_isWritten_20 : decode prog_14_method_75_code 20 = .ok (.iconst 1, 1) := by decide +kernel
theorem d_M_isWritten_21 : decode prog_14_method_75_code 21 = .ok (.if_icmp .ne 7, 3) := by decide +kernel
theorem d_M_isWritten_28 : decode prog_14_method_75_code 28 = .ok (.iconst 0, 1) := by decide +kernel
theorem d_M_isWritten_29 : decode prog_14_method_75_code 29 = .ok (.ireturn, 1) := by decide +kernel
theorem d_M_isWritten_24 : decode prog_14_method_75_code 24 = .ok (.iconst 1, 1) := by decide +kernel
theorem d_M_isWritten_25 : decode prog_14_method_75_code 25 = .ok (.goto 4, 3) := by decide +kernel
abbrev y_M_isWritten : MethodName := ⟨"FilterGuardModel", "isWritten", "(I)Z"⟩
def rm_M_isWritten : Room := { frames := 2, cells := 0, slots := 0, locals := 40 }
abbrev q_M_isWritten (D : va_G) (ad : Nat → Nat → Nat) (ca : Nat → ClassId) (N : Nat → Nat) (M0 MZ : me_M) (RZ : Int32) (A : Nat → Prop) : Array Value → Jvm.State → Outcome → Jvm.State → Prop := va_Qi (fun r (_ : Unit) => r = RZ ∧ me_wf N MZ ∧ me_kp M0 MZ ∧ (RZ = 1 ∨ RZ = 0)) (fg_B D A (fun _ => me_W ad ca MZ) (fun _ => [])) A
set_option maxHeartbeats 4000000 in
set_option maxRecDepth 100000 in
theorem c_M_isWritten (l : Launch) (D : va_G) (ad : Nat → Nat → Nat) (ca : Nat → ClassId) (N : Nat → Nat) (M0 MZ : me_M) (RZ : Int32) (j0 : Nat) (x1 : Int32) (h : f_M_isWritten M0 j0 x1 = (some (MZ, RZ))) (hwf : me_wf N M0) (hj0 : j0 < N 1) (sz : Nat) : Met l y_M_isWritten (fg_w y_M_isWritten prog_14_method_75_code 2 (some .boolean)) rm_M_isWritten (va_Pc [.ref (ad 1 j0), .int x1] (fz_P D (me_T ca) (me_W ad ca M0) sz)) (q_M_isWritten D ad ca N M0 MZ RZ (va_A (me_W ad ca M0) sz)) rm_M_isWritten.cells rm_M_isWritten.slots (va_A (me_W ad ca M0) sz) := by
  refine fz_enter (fun A => q_M_isWritten D ad ca N M0 MZ RZ A) (by decide +kernel) (Nat.le_of_ble_eq_true rfl) ?_
  intro p e s m below meth c ls A hx hb hml hown hts hr hlocks hin hP hK hD hS hA hX hl hz
  have hl : lv_has ls 2 [(0, .ref (ad 1 j0)), (1, .int x1)] := hl
  unfold f_M_isWritten at h
  have hkp : me_kp M0 M0 := me_kp.rf
  have hkb := hkp
  refine lv_aload_n hx hb d_M_isWritten_0 rfl (lv_at hl 0 rfl) ?_
  refine g_M_58 hx hb hts hown hK hP hwf hj0 (hts _ u_1799) d_M_isWritten_1 ?_
  obtain ⟨j1, e2, h⟩ := bd_ob h
  have hj1 : j1 < N 13 := (hwf.2.1 1 j0 58 _ e2 (by decide) hj0)
  refine me_opt (j := j1) e2 ?_
  refine lv_iload_n hx hb d_M_isWritten_4 rfl (lv_at hl 1 rfl) ?_
  obtain ⟨r3, er3, h⟩ := bd_ob h
  refine me_pani' (r0 := r3) (fg_runS (wc := []) (tc := []) (A2 := A) (As := [.int x1]) (rest := [.ref (ad 13 j1)]) ⟨hx, hb, hml, hown, hts⟩ (c_M_slotOf l D r3 x1 er3 _) (by show fg_nm y_M_slotOf 1; decide +kernel) u_2180 u_2181 u_192 u_2182 ⟨Nat.le_of_ble_eq_true rfl, Nat.le_of_ble_eq_true rfl⟩ hX me_P0 (hK.sub (tys' := []) [] rfl) me_D0 rfl hl.1 (Nat.le_of_ble_eq_true rfl) d_M_isWritten_5 ⟨Nat.le_of_ble_eq_true rfl, Nat.le_of_ble_eq_true rfl⟩) hP hD hK hS hA rfl rfl (fun H locs hw hP hD hS => ?_)
  obtain ⟨g4, h⟩ := gd_ob h
  refine me_iald hx hb hK hP hwf hj1 g4 d_M_isWritten_8 ?_
  refine lv_iload_n hx hb d_M_isWritten_9 rfl (lv_at hl 1 rfl) ?_
  refine lv_sipush (v := 512) hx hb d_M_isWritten_10 (by decide) ?_
  refine lv_iadd hx hb d_M_isWritten_13 ?_
  refine lv_bipush (v := 8) hx hb d_M_isWritten_14 (by decide) ?_
  refine lv_irem hx hb d_M_isWritten_16 (by decide) ?_
  refine fg_topi (y := jirem (x1 + 512) 8) rfl ?_
  refine lv_ishr hx hb d_M_isWritten_17 ?_
  refine fg_topi (y := jishr (mI M0 13 j1 r3.toNatClampNeg) (jirem (x1 + 512) 8)) rfl ?_
  refine lv_iconst (v := 1) hx hb d_M_isWritten_18 (by decide) ?_
  refine lv_iand hx hb d_M_isWritten_19 ?_
  refine lv_iconst (v := 1) hx hb d_M_isWritten_20 (by decide) ?_
  refine lv_icmp_ne (tgt := 28) hx hb d_M_isWritten_21 (by decide) (fun c5 => ?_) (fun c5 => ?_)
  · have h := if_f c5 h
    refine lv_iconst (v := 0) hx hb d_M_isWritten_28 (by decide) ?_
    exact me_retz (me_kp M0) h (by decide) hx hb hr hlocks hwf hkp hP hK hD hS d_M_isWritten_29
  have h := if_t c5 h
  refine lv_iconst (v := 1) hx hb d_M_isWritten_24 (by decide) ?_
  refine lv_goto (tgt := 29) hx hb d_M_isWritten_25 (by decide) ?_
  exact me_retz (me_kp M0) h (by decide) hx hb hr hlocks hwf hkp hP hK hD hS d_M_isWritten_29
theorem d_M_isSaved_0 : decode prog_14_method_76_code 0 = .ok (.aload_n 0, 1) := by decide +kernel
theorem d_M_isSaved_1 : decode prog_14_method_76_code 1 = .ok (.getfield 89, 3) := by decide +kernel
theorem d_M_isSaved_4 : decode prog_14_method_76_code 4 = .ok (.bipush 11, 2) := by decide +kernel
theorem d_M_isSaved_6 : decode prog_14_method_76_code 6 = .ok (.iload_n 1, 1) := by decide +kernel
theorem d_M_isSaved_7 : decode prog_14_method_76_code 7 = .ok (.invokestatic 403, 3) := by decide +kernel
theorem d_M_isSaved_10 : decode prog_14_method_76_code 10 = .ok (.iadd, 1) := by decide +kernel
theorem d_M_isSaved_11 : decode prog_14_method_76_code 11 = .ok (.baload, 1) := by decide +kernel
theorem d_M_isSaved_12 : decode prog_14_method_76_code 12 = .ok (.ifCond .eq 7, 3) := by decide +kernel
theorem d_M_isSaved_19 : decode prog_14_method_76_code 19 = .ok (.iconst 0, 1) := by decide +kernel
theorem d_M_isSaved_20 : decode prog_14_method_76_code 20 = .ok (.ireturn, 1) := by decide +kernel
theorem d_M_isSaved_15 : decode prog_14_method_76_code 15 = .ok (.iconst 1, 1) := by decide +kernel
theorem d_M_isSaved_16 : decode prog_14_method_76_code 16 = .ok (.goto 4, 3) := by decide +kernel
abbrev y_M_isSaved : MethodName := ⟨"FilterGuardModel", "isSaved", "(I)Z"⟩
def rm_M_isSaved : Room := { frames := 2, cells := 0, slots := 0, locals := 40 }
abbrev q_M_isSaved (D : va_G) (ad : Nat → Nat → Nat) (ca : Nat → ClassId) (N : Nat → Nat) (M0 MZ : me_M) (RZ : Int32) (A : Nat → Prop) : Array Value → Jvm.State → Outcome → Jvm.State → Prop := va_Qi (fun r (_ : Unit) => r = RZ ∧ me_wf N MZ ∧ me_kp M0 MZ ∧ (RZ = 1 ∨ RZ = 0)) (fg_B D A (fun _ => me_W ad ca MZ) (fun _ => [])) A
set_option maxHeartbeats 4000000 in
set_option maxRecDepth 100000 in
theorem c_M_isSaved (l : Launch) (D : va_G) (ad : Nat → Nat → Nat) (ca : Nat → ClassId) (N : Nat → Nat) (M0 MZ : me_M) (RZ : Int32) (j0 : Nat) (x1 : Int32) (h : f_M_isSaved M0 j0 x1 = (some (MZ, RZ))) (hwf : me_wf N M0) (hj0 : j0 < N 1) (sz : Nat) : Met l y_M_isSaved (fg_w y_M_isSaved prog_14_method_76_code 2 (some .boolean)) rm_M_isSaved (va_Pc [.ref (ad 1 j0), .int x1] (fz_P D (me_T ca) (me_W ad ca M0) sz)) (q_M_isSaved D ad ca N M0 MZ RZ (va_A (me_W ad ca M0) sz)) rm_M_isSaved.cells rm_M_isSaved.slots (va_A (me_W ad ca M0) sz) := by
  refine fz_enter (fun A => q_M_isSaved D ad ca N M0 MZ RZ A) (by decide +kernel) (Nat.le_of_ble_eq_true rfl) ?_
  intro p e s m below meth c ls A hx hb hml hown hts hr hlocks hin hP hK hD hS hA hX hl hz
  have hl : lv_has ls 2 [(0, .ref (ad 1 j0)), (1, .int x1)] := hl
  unfold f_M_isSaved at h
  have hkp : me_kp M0 M0 := me_kp.rf
  have hkb := hkp
  refine lv_aload_n hx hb d_M_isSaved_0 rfl (lv_at hl 0 rfl) ?_
  refine g_M_47 hx hb hts hown hK hP hwf hj0 (hts _ u_1788) d_M_isSaved_1 ?_
  obtain ⟨j1, e2, h⟩ := bd_ob h
  have hj1 : j1 < N 14 := (hwf.2.1 1 j0 47 _ e2 (by decide) hj0)
  refine me_opt (j := j1) e2 ?_
  refine lv_bipush (v := 11) hx hb d_M_isSaved_4 (by decide) ?_
  refine lv_iload_n hx hb d_M_isSaved_6 rfl (lv_at hl 1 rfl) ?_
  obtain ⟨r3, er3, h⟩ := bd_ob h
  refine me_pani' (r0 := r3) (fg_runS (wc := []) (tc := []) (A2 := A) (As := [.int x1]) (rest := [.int 11, .ref (ad 14 j1)]) ⟨hx, hb, hml, hown, hts⟩ (c_M_slotOf l D r3 x1 er3 _) (by show fg_nm y_M_slotOf 1; decide +kernel) u_2180 u_2181 u_192 u_2182 ⟨Nat.le_of_ble_eq_true rfl, Nat.le_of_ble_eq_true rfl⟩ hX me_P0 (hK.sub (tys' := []) [] rfl) me_D0 rfl hl.1 (Nat.le_of_ble_eq_true rfl) d_M_isSaved_7 ⟨Nat.le_of_ble_eq_true rfl, Nat.le_of_ble_eq_true rfl⟩) hP hD hK hS hA rfl rfl (fun H locs hw hP hD hS => ?_)
  refine lv_iadd hx hb d_M_isSaved_10 ?_
  obtain ⟨g4, h⟩ := gd_ob h
  refine me_bald hx hb hK hP hwf hj1 g4 d_M_isSaved_11 ?_
  refine lv_if_eq (tgt := 19) hx hb d_M_isSaved_12 (by decide) (fun c5 => ?_) (fun c5 => ?_)
  · have h := if_t c5 h
    refine lv_iconst (v := 0) hx hb d_M_isSaved_19 (by decide) ?_
    exact me_retz (me_kp M0) h (by decide) hx hb hr hlocks hwf hkp hP hK hD hS d_M_isSaved_20
  have h := if_f c5 h
  refine lv_iconst (v := 1) hx hb d_M_isSaved_15 (by decide) ?_
  refine lv_goto (tgt := 20) hx hb d_M_isSaved_16 (by decide) ?_
  exact me_retz (me_kp M0) h (by decide) hx hb hr hlocks hwf hkp hP hK hD hS d_M_isSaved_20
theorem d_M_memoryFault_0 : decode prog_14_method_77_code 0 = .ok (.aload_n 0, 1) := by decide +kernel
theorem d_M_memoryFault_1 : decode prog_14_method_77_code 1 = .ok (.getfield 89, 3) := by decide +kernel
theorem d_M_memoryFault_4 : decode prog_14_method_77_code 4 = .ok (.iload_n 1, 1) := by decide +kernel
theorem d_M_memoryFault_5 : decode prog_14_method_77_code 5 = .ok (.baload, 1) := by decide +kernel
theorem d_M_memoryFault_6 : decode prog_14_method_77_code 6 = .ok (.tableswitch 205 2 7 #[38, 88, 128, 205, 205, 157], 38) := by decide +kernel
theorem d_M_memoryFault_44 : decode prog_14_method_77_code 44 = .ok (.lload_n 2, 1) := by decide +kernel
theorem d_M_memoryFault_45 : decode prog_14_method_77_code 45 = .ok (.lconst 0, 1) := by decide +kernel
theorem d_M_memoryFault_46 : decode prog_14_method_77_code 46 = .ok (.lcmp, 1) := by decide +kernel
theorem d_M_memoryFault_47 : decode prog_14_method_77_code 47 = .ok (.ifCond .lt 44, 3) := by decide +kernel
theorem d_M_memoryFault_91 : decode prog_14_method_77_code 91 = .ok (.bipush 14, 2) := by decide +kernel
theorem d_M_memoryFault_93 : decode prog_14_method_77_code 93 = .ok (.ireturn, 1) := by decide +kernel
theorem d_M_memoryFault_50 : decode prog_14_method_77_code 50 = .ok (.lload_n 2, 1) := by decide +kernel
theorem d_M_memoryFault_51 : decode prog_14_method_77_code 51 = .ok (.iload 4, 2) := by decide +kernel
theorem d_M_memoryFault_53 : decode prog_14_method_77_code 53 = .ok (.i2l, 1) := by decide +kernel
theorem d_M_memoryFault_54 : decode prog_14_method_77_code 54 = .ok (.ladd, 1) := by decide +kernel
theorem d_M_memoryFault_55 : decode prog_14_method_77_code 55 = .ok (.ldc2_w 406, 3) := by decide +kernel
theorem u_2127 : Cond.constantLong "FilterGuardModel" 406 64 ∈ fg_g := fg_in (List.mem_of_getElem? (i := 2127) (by decide +kernel)) rfl
theorem d_M_memoryFault_58 : decode prog_14_method_77_code 58 = .ok (.lcmp, 1) := by decide +kernel
theorem d_M_memoryFault_59 : decode prog_14_method_77_code 59 = .ok (.ifCond .gt 32, 3) := by decide +kernel
theorem d_M_memoryFault_62 : decode prog_14_method_77_code 62 = .ok (.lload_n 2, 1) := by decide +kernel
theorem d_M_memoryFault_63 : decode prog_14_method_77_code 63 = .ok (.iload 4, 2) := by decide +kernel
theorem d_M_memoryFault_65 : decode prog_14_method_77_code 65 = .ok (.i2l, 1) := by decide +kernel
theorem d_M_memoryFault_66 : decode prog_14_method_77_code 66 = .ok (.lrem, 1) := by decide +kernel
theorem d_M_memoryFault_67 : decode prog_14_method_77_code 67 = .ok (.lconst 0, 1) := by decide +kernel
theorem d_M_memoryFault_68 : decode prog_14_method_77_code 68 = .ok (.lcmp, 1) := by decide +kernel
theorem d_M_memoryFault_69 : decode prog_14_method_77_code 69 = .ok (.ifCond .ne 22, 3) := by decide +kernel
theorem d_M_memoryFault_72 : decode prog_14_method_77_code 72 = .ok (.lload_n 2, 1) := by decide +kernel
theorem d_M_memoryFault_73 : decode prog_14_method_77_code 73 = .ok (.ldc2_w 408, 3) := by decide +kernel
theorem u_2128 : Cond.constantLong "FilterGuardModel" 408 16 ∈ fg_g := fg_in (List.mem_of_getElem? (i := 2128) (by decide +kernel)) rfl
theorem d_M_memoryFault_76 : decode prog_14_method_77_code 76 = .ok (.lcmp, 1) := by decide +kernel
theorem d_M_memoryFault_77 : decode prog_14_method_77_code 77 = .ok (.ifCond .ge 10, 3) := by decide +kernel
theorem d_M_memoryFault_87 : decode prog_14_method_77_code 87 = .ok (.iconst 0, 1) := by decide +kernel
theorem d_M_memoryFault_88 : decode prog_14_method_77_code 88 = .ok (.goto 5, 3) := by decide +kernel
theorem d_M_memoryFault_80 : decode prog_14_method_77_code 80 = .ok (.iload 4, 2) := by decide +kernel
theorem d_M_memoryFault_82 : decode prog_14_method_77_code 82 = .ok (.bipush 8, 2) := by decide +kernel
theorem d_M_memoryFault_84 : decode prog_14_method_77_code 84 = .ok (.if_icmp .ne 7, 3) := by decide +kernel
theorem d_M_memoryFault_94 : decode prog_14_method_77_code 94 = .ok (.lload_n 2, 1) := by decide +kernel
theorem d_M_memoryFault_95 : decode prog_14_method_77_code 95 = .ok (.ldc2_w 410, 3) := by decide +kernel
theorem u_2129 : Cond.constantLong "FilterGuardModel" 410 (-512) ∈ fg_g := fg_in (List.mem_of_getElem? (i := 2129) (by decide +kernel)) rfl
theorem d_M_memoryFault_98 : decode prog_14_method_77_code 98 = .ok (.lcmp, 1) := by decide +kernel
theorem d_M_memoryFault_99 : decode prog_14_method_77_code 99 = .ok (.ifCond .lt 32, 3) := by decide +kernel
theorem d_M_memoryFault_131 : decode prog_14_method_77_code 131 = .ok (.bipush 14, 2) := by decide +kernel
theorem d_M_memoryFault_133 : decode prog_14_method_77_code 133 = .ok (.ireturn, 1) := by decide +kernel
theorem d_M_memoryFault_102 : decode prog_14_method_77_code 102 = .ok (.lload_n 2, 1) := by decide +kernel
theorem d_M_memoryFault_103 : decode prog_14_method_77_code 103 = .ok (.iload 4, 2) := by decide +kernel
theorem d_M_memoryFault_105 : decode prog_14_method_77_code 105 = .ok (.i2l, 1) := by decide +kernel
theorem d_M_memoryFault_106 : decode prog_14_method_77_code 106 = .ok (.ladd, 1) := by decide +kernel
theorem d_M_memoryFault_107 : decode prog_14_method_77_code 107 = .ok (.lconst 0, 1) := by decide +kernel
theorem d_M_memoryFault_108 : decode prog_14_method_77_code 108 = .ok (.lcmp, 1) := by decide +kernel
theorem d_M_memoryFault_109 : decode prog_14_method_77_code 109 = .ok (.ifCond .gt 22, 3) := by decide +kernel
theorem d_M_memoryFault_112 : decode prog_14_method_77_code 112 = .ok (.iload 5, 2) := by decide +kernel
theorem d_M_memoryFault_114 : decode prog_14_method_77_code 114 = .ok (.ifCond .eq 13, 3) := by decide +kernel
theorem d_M_memoryFault_127 : decode prog_14_method_77_code 127 = .ok (.iconst 0, 1) := by decide +kernel
theorem d_M_memoryFault_128 : decode prog_14_method_77_code 128 = .ok (.goto 5, 3) := by decide +kernel
theorem d_M_memoryFault_117 : decode prog_14_method_77_code 117 = .ok (.lload_n 2, 1) := by decide +kernel
theorem d_M_memoryFault_118 : decode prog_14_method_77_code 118 = .ok (.iload 4, 2) := by decide +kernel
theorem d_M_memoryFault_120 : decode prog_14_method_77_code 120 = .ok (.i2l, 1) := by decide +kernel
theorem d_M_memoryFault_121 : decode prog_14_method_77_code 121 = .ok (.lrem, 1) := by decide +kernel
theorem d_M_memoryFault_122 : decode prog_14_method_77_code 122 = .ok (.lconst 0, 1) := by decide +kernel
theorem d_M_memoryFault_123 : decode prog_14_method_77_code 123 = .ok (.lcmp, 1) := by decide +kernel
theorem d_M_memoryFault_124 : decode prog_14_method_77_code 124 = .ok (.ifCond .ne 7, 3) := by decide +kernel
theorem d_M_memoryFault_134 : decode prog_14_method_77_code 134 = .ok (.lload_n 2, 1) := by decide +kernel
theorem d_M_memoryFault_135 : decode prog_14_method_77_code 135 = .ok (.lconst 0, 1) := by decide +kernel
theorem d_M_memoryFault_136 : decode prog_14_method_77_code 136 = .ok (.lcmp, 1) := by decide +kernel
theorem d_M_memoryFault_137 : decode prog_14_method_77_code 137 = .ok (.ifCond .lt 23, 3) := by decide +kernel
theorem d_M_memoryFault_160 : decode prog_14_method_77_code 160 = .ok (.bipush 14, 2) := by decide +kernel
theorem d_M_memoryFault_162 : decode prog_14_method_77_code 162 = .ok (.ireturn, 1) := by decide +kernel
theorem d_M_memoryFault_140 : decode prog_14_method_77_code 140 = .ok (.lload_n 2, 1) := by decide +kernel
theorem d_M_memoryFault_141 : decode prog_14_method_77_code 141 = .ok (.iload 4, 2) := by decide +kernel
theorem d_M_memoryFault_143 : decode prog_14_method_77_code 143 = .ok (.i2l, 1) := by decide +kernel
theorem d_M_memoryFault_144 : decode prog_14_method_77_code 144 = .ok (.ladd, 1) := by decide +kernel
theorem d_M_memoryFault_145 : decode prog_14_method_77_code 145 = .ok (.aload_n 0, 1) := by decide +kernel
theorem d_M_memoryFault_146 : decode prog_14_method_77_code 146 = .ok (.getfield 101, 3) := by decide +kernel
theorem d_M_memoryFault_149 : decode prog_14_method_77_code 149 = .ok (.iload_n 1, 1) := by decide +kernel
theorem d_M_memoryFault_150 : decode prog_14_method_77_code 150 = .ok (.iaload, 1) := by decide +kernel
theorem d_M_memoryFault_151 : decode prog_14_method_77_code 151 = .ok (.i2l, 1) := by decide +kernel
theorem d_M_memoryFault_152 : decode prog_14_method_77_code 152 = .ok (.lcmp, 1) := by decide +kernel
theorem d_M_memoryFault_153 : decode prog_14_method_77_code 153 = .ok (.ifCond .gt 7, 3) := by decide +kernel
theorem d_M_memoryFault_156 : decode prog_14_method_77_code 156 = .ok (.iconst 0, 1) := by decide +kernel
theorem d_M_memoryFault_157 : decode prog_14_method_77_code 157 = .ok (.goto 5, 3) := by decide +kernel
theorem d_M_memoryFault_211 : decode prog_14_method_77_code 211 = .ok (.bipush 13, 2) := by decide +kernel
theorem d_M_memoryFault_213 : decode prog_14_method_77_code 213 = .ok (.ireturn, 1) := by decide +kernel
theorem d_M_memoryFault_163 : decode prog_14_method_77_code 163 = .ok (.lload_n 2, 1) := by decide +kernel
theorem d_M_memoryFault_164 : decode prog_14_method_77_code 164 = .ok (.aload_n 0, 1) := by decide +kernel
theorem d_M_memoryFault_165 : decode prog_14_method_77_code 165 = .ok (.getfield 110, 3) := by decide +kernel
theorem d_M_memoryFault_168 : decode prog_14_method_77_code 168 = .ok (.iload_n 1, 1) := by decide +kernel
theorem d_M_memoryFault_169 : decode prog_14_method_77_code 169 = .ok (.laload, 1) := by decide +kernel
theorem d_M_memoryFault_170 : decode prog_14_method_77_code 170 = .ok (.ladd, 1) := by decide +kernel
theorem d_M_memoryFault_171 : decode prog_14_method_77_code 171 = .ok (.lconst 0, 1) := by decide +kernel
theorem d_M_memoryFault_172 : decode prog_14_method_77_code 172 = .ok (.lcmp, 1) := by decide +kernel
theorem d_M_memoryFault_173 : decode prog_14_method_77_code 173 = .ok (.ifCond .lt 35, 3) := by decide +kernel
theorem d_M_memoryFault_208 : decode prog_14_method_77_code 208 = .ok (.bipush 14, 2) := by decide +kernel
theorem d_M_memoryFault_210 : decode prog_14_method_77_code 210 = .ok (.ireturn, 1) := by decide +kernel
theorem d_M_memoryFault_176 : decode prog_14_method_77_code 176 = .ok (.lload_n 2, 1) := by decide +kernel
theorem d_M_memoryFault_177 : decode prog_14_method_77_code 177 = .ok (.aload_n 0, 1) := by decide +kernel
theorem d_M_memoryFault_178 : decode prog_14_method_77_code 178 = .ok (.getfield 113, 3) := by decide +kernel
theorem d_M_memoryFault_181 : decode prog_14_method_77_code 181 = .ok (.iload_n 1, 1) := by decide +kernel
theorem d_M_memoryFault_182 : decode prog_14_method_77_code 182 = .ok (.laload, 1) := by decide +kernel
theorem d_M_memoryFault_183 : decode prog_14_method_77_code 183 = .ok (.ladd, 1) := by decide +kernel
theorem d_M_memoryFault_184 : decode prog_14_method_77_code 184 = .ok (.iload 4, 2) := by decide +kernel
theorem d_M_memoryFault_186 : decode prog_14_method_77_code 186 = .ok (.i2l, 1) := by decide +kernel
theorem d_M_memoryFault_187 : decode prog_14_method_77_code 187 = .ok (.ladd, 1) := by decide +kernel
theorem d_M_memoryFault_188 : decode prog_14_method_77_code 188 = .ok (.aload_n 0, 1) := by decide +kernel
theorem d_M_memoryFault_189 : decode prog_14_method_77_code 189 = .ok (.getfield 21, 3) := by decide +kernel
theorem g_M_7 {p : Program} {l : Launch} {e : Env} {R : Room} {s : Jvm.State} {m : MethodId} {args : Array Value} {below : List Frame} {meth : Method} {c : Code} {H : Heap} {locs : List Loc} {cells slots : Nat} {Q : Jvm.State → Prop} {cc : ByteArray} {pc : Nat} {ls : Array Slot} {rest : List Value} {D : va_G} {ad : Nat → Nat → Nat} {ca : Nat → ClassId} {M : me_M} {N : Nat → Nat} {own : String} {index j : Nat} (hexec : p.tables.exec = Jvm.exec) (hb : c.code = cc) (hts : ∀ w ∈ fg_g, w.before args s = true) (hown : s.vm.findClass own = some m.cls) (hK : va_K D classes (me_T ca) s) (hP : va_P D classes (me_W ad ca M) H) (hwf : me_wf N M) (hj : j < N 1) (hlink : (Cond.fieldLink own index "FilterGuardModel" "valueBytes" "[I").before args s = true) (hdg : decode cc pc = .ok (.getfield index, 3)) (kk : W p l e R s m args below meth c H locs cells slots Q (F0 m (pc + 3) ls (va_rf ((mR M 1 j 7).map (ad 13)) :: rest))) : W p l e R s m args below meth c H locs cells slots Q (F0 m pc ls (.ref (ad 1 j) :: rest)) := me_get (k := 1) (f := 7) (C := "FilterGuardModel") (T := F_M) (Nf := 75) hexec hb hts i_M hown hK hP hwf hj (by decide) rfl (by decide) (by decide) hlink (fun _ h9 => h9) hdg kk
theorem d_M_memoryFault_192 : decode prog_14_method_77_code 192 = .ok (.aload_n 0, 1) := by decide +kernel
theorem d_M_memoryFault_193 : decode prog_14_method_77_code 193 = .ok (.getfield 95, 3) := by decide +kernel
theorem d_M_memoryFault_196 : decode prog_14_method_77_code 196 = .ok (.iload_n 1, 1) := by decide +kernel
theorem d_M_memoryFault_197 : decode prog_14_method_77_code 197 = .ok (.iaload, 1) := by decide +kernel
theorem d_M_memoryFault_198 : decode prog_14_method_77_code 198 = .ok (.iaload, 1) := by decide +kernel
theorem d_M_memoryFault_199 : decode prog_14_method_77_code 199 = .ok (.i2l, 1) := by decide +kernel
theorem d_M_memoryFault_200 : decode prog_14_method_77_code 200 = .ok (.lcmp, 1) := by decide +kernel
theorem d_M_memoryFault_201 : decode prog_14_method_77_code 201 = .ok (.ifCond .gt 7, 3) := by decide +kernel
theorem d_M_memoryFault_204 : decode prog_14_method_77_code 204 = .ok (.iconst 0, 1) := by decide +kernel
theorem d_M_memoryFault_205 : decode prog_14_method_77_code 205 = .ok (.goto 5, 3) := by decide +kernel
abbrev y_M_memoryFault : MethodName := ⟨"FilterGuardModel", "memoryFault", "(IJIZ)I"⟩
def rm_M_memoryFault : Room := { frames := 1, cells := 0, slots := 0, locals := 20 }
abbrev q_M_memoryFault (D : va_G) (ad : Nat → Nat → Nat) (ca : Nat → ClassId) (N : Nat → Nat) (M0 MZ : me_M) (RZ : Int32) (A : Nat → Prop) : Array Value → Jvm.State → Outcome → Jvm.State → Prop := va_Qi (fun r (_ : Unit) => r = RZ ∧ me_wf N MZ ∧ me_kp M0 MZ) (fg_B D A (fun _ => me_W ad ca MZ) (fun _ => [])) A
set_option maxHeartbeats 4000000 in
set_option maxRecDepth 100000 in
theorem c_M_memoryFault (l : Launch) (D : va_G) (ad : Nat → Nat → Nat) (ca : Nat → ClassId) (N : Nat → Nat) (M0 MZ : me_M) (RZ : Int32) (j0 : Nat) (x1 : Int32) (x2 : Int64) (x4 : Int32) (x5 : Int32) (h : f_M_memoryFault M0 j0 x1 x2 x4 x5 = (some (MZ, RZ))) (hwf : me_wf N M0) (hj0 : j0 < N 1) (zx5 : x5 = 1 ∨ x5 = 0) (sz : Nat) : Met l y_M_memoryFault (fg_w y_M_memoryFault prog_14_method_77_code 6 (some .int)) rm_M_memoryFault (va_Pc [.ref (ad 1 j0), .int x1, .long x2, .int x4, .int x5] (fz_P D (me_T ca) (me_W ad ca M0) sz)) (q_M_memoryFault D ad ca N M0 MZ RZ (va_A (me_W ad ca M0) sz)) rm_M_memoryFault.cells rm_M_memoryFault.slots (va_A (me_W ad ca M0) sz) := by
  refine fz_enter (fun A => q_M_memoryFault D ad ca N M0 MZ RZ A) (by decide +kernel) (Nat.le_of_ble_eq_true rfl) ?_
  intro p e s m below meth c ls A hx hb hml hown hts hr hlocks hin hP hK hD hS hA hX hl hz
  have hl : lv_has ls 6 [(0, .ref (ad 1 j0)), (1, .int x1), (2, .long x2), (4, .int x4), (5, .int x5)] := hl
  unfold f_M_memoryFault at h
  have hkp : me_kp M0 M0 := me_kp.rf
  have hkb := hkp
  refine lv_aload_n hx hb d_M_memoryFault_0 rfl (lv_at hl 0 rfl) ?_
  refine g_M_47 hx hb hts hown hK hP hwf hj0 (hts _ u_1788) d_M_memoryFault_1 ?_
  obtain ⟨j1, e2, h⟩ := bd_ob h
  have hj1 : j1 < N 14 := (hwf.2.1 1 j0 47 _ e2 (by decide) hj0)
  refine me_opt (j := j1) e2 ?_
  refine lv_iload_n hx hb d_M_memoryFault_4 rfl (lv_at hl 1 rfl) ?_
  obtain ⟨g3, h⟩ := gd_ob h
  refine me_bald hx hb hK hP hwf hj1 g3 d_M_memoryFault_5 ?_
  refine lv_topi (fun w4 ew4 => ?_)
  by_cases n5 : w4 = 2
  · have h := if_t (ew4.symm.trans n5) h
    subst n5
    refine lv_tableIn (off := 38) (tgt := 44) hx hb d_M_memoryFault_6 (by decide) (by decide) (by decide) (by decide) ?_
    refine lv_lload_n hx hb d_M_memoryFault_44 rfl (lv_at hl 2 rfl) ?_
    refine lv_lconst (v := 0) hx hb d_M_memoryFault_45 (by decide) ?_
    refine W.lcmp hx hb d_M_memoryFault_46 ?_
    refine lv_if_lt (tgt := 91) hx hb d_M_memoryFault_47 (by decide) (fun c6 => ?_) (fun c6 => ?_)
    · have h := if_t ((lg_cmp_lt _ _).mp c6) h
      refine lv_bipush (v := 14) hx hb d_M_memoryFault_91 (by decide) ?_
      exact me_reti (me_kp M0) h hx hb hr hlocks hwf hkp hP hK hD hS d_M_memoryFault_93
    have h := if_f (fun z => c6 ((lg_cmp_lt _ _).mpr z)) h
    refine lv_lload_n hx hb d_M_memoryFault_50 rfl (lv_at hl 2 rfl) ?_
    refine lv_iload hx hb d_M_memoryFault_51 (lv_at hl 3 rfl) ?_
    refine lv_i2l (v := x4.toInt64) hx hb d_M_memoryFault_53 rfl ?_
    refine lv_ladd hx hb d_M_memoryFault_54 ?_
    refine lv_ldc2 hx hb hown (hts _ u_2127) d_M_memoryFault_55 ?_
    refine W.lcmp hx hb d_M_memoryFault_58 ?_
    refine lv_if_gt (tgt := 91) hx hb d_M_memoryFault_59 (by decide) (fun c7 => ?_) (fun c7 => ?_)
    · have h := if_t ((lg_cmp_gt _ _).mp c7) h
      refine lv_bipush (v := 14) hx hb d_M_memoryFault_91 (by decide) ?_
      exact me_reti (me_kp M0) h hx hb hr hlocks hwf hkp hP hK hD hS d_M_memoryFault_93
    have h := if_f (fun z => c7 ((lg_cmp_gt _ _).mpr z)) h
    refine lv_lload_n hx hb d_M_memoryFault_62 rfl (lv_at hl 2 rfl) ?_
    refine lv_iload hx hb d_M_memoryFault_63 (lv_at hl 3 rfl) ?_
    refine lv_i2l (v := x4.toInt64) hx hb d_M_memoryFault_65 rfl ?_
    obtain ⟨g8, h⟩ := gd_ob h
    refine lv_lrem hx hb d_M_memoryFault_66 g8 ?_
    refine fg_topl (y := jlrem x2 x4.toInt64) rfl ?_
    refine lv_lconst (v := 0) hx hb d_M_memoryFault_67 (by decide) ?_
    refine W.lcmp hx hb d_M_memoryFault_68 ?_
    refine lv_if_ne (tgt := 91) hx hb d_M_memoryFault_69 (by decide) (fun c9 => ?_) (fun c9 => ?_)
    · have h := if_f (fun z => c9 ((lg_cmp_eq _ _).mpr z)) h
      refine lv_bipush (v := 14) hx hb d_M_memoryFault_91 (by decide) ?_
      exact me_reti (me_kp M0) h hx hb hr hlocks hwf hkp hP hK hD hS d_M_memoryFault_93
    have h := if_t ((lg_cmp_eq _ _).mp c9) h
    refine lv_lload_n hx hb d_M_memoryFault_72 rfl (lv_at hl 2 rfl) ?_
    refine lv_ldc2 hx hb hown (hts _ u_2128) d_M_memoryFault_73 ?_
    refine W.lcmp hx hb d_M_memoryFault_76 ?_
    refine lv_if_ge (tgt := 87) hx hb d_M_memoryFault_77 (by decide) (fun c10 => ?_) (fun c10 => ?_)
    · have h := if_f (Int64.not_lt.mpr ((lg_cmp_ge _ _).mp c10)) h
      refine lv_iconst (v := 0) hx hb d_M_memoryFault_87 (by decide) ?_
      refine lv_goto (tgt := 93) hx hb d_M_memoryFault_88 (by decide) ?_
      exact me_reti (me_kp M0) h hx hb hr hlocks hwf hkp hP hK hD hS d_M_memoryFault_93
    have h := if_t (Int64.not_le.mp (fun z => c10 ((lg_cmp_ge _ _).mpr z))) h
    refine lv_iload hx hb d_M_memoryFault_80 (lv_at hl 3 rfl) ?_
    refine lv_bipush (v := 8) hx hb d_M_memoryFault_82 (by decide) ?_
    refine lv_icmp_ne (tgt := 91) hx hb d_M_memoryFault_84 (by decide) (fun c11 => ?_) (fun c11 => ?_)
    · have h := if_f c11 h
      refine lv_bipush (v := 14) hx hb d_M_memoryFault_91 (by decide) ?_
      exact me_reti (me_kp M0) h hx hb hr hlocks hwf hkp hP hK hD hS d_M_memoryFault_93
    have h := if_t c11 h
    refine lv_iconst (v := 0) hx hb d_M_memoryFault_87 (by decide) ?_
    refine lv_goto (tgt := 93) hx hb d_M_memoryFault_88 (by decide) ?_
    exact me_reti (me_kp M0) h hx hb hr hlocks hwf hkp hP hK hD hS d_M_memoryFault_93
  have h := if_f (fun z => n5 (ew4.trans z)) h
  by_cases n12 : w4 = 3
  · have h := if_t (ew4.symm.trans n12) h
    subst n12
    refine lv_tableIn (off := 88) (tgt := 94) hx hb d_M_memoryFault_6 (by decide) (by decide) (by decide) (by decide) ?_
    refine lv_lload_n hx hb d_M_memoryFault_94 rfl (lv_at hl 2 rfl) ?_
    refine lv_ldc2 hx hb hown (hts _ u_2129) d_M_memoryFault_95 ?_
    refine W.lcmp hx hb d_M_memoryFault_98 ?_
    refine lv_if_lt (tgt := 131) hx hb d_M_memoryFault_99 (by decide) (fun c13 => ?_) (fun c13 => ?_)
    · have h := if_t ((lg_cmp_lt _ _).mp c13) h
      refine lv_bipush (v := 14) hx hb d_M_memoryFault_131 (by decide) ?_
      exact me_reti (me_kp M0) h hx hb hr hlocks hwf hkp hP hK hD hS d_M_memoryFault_133
    have h := if_f (fun z => c13 ((lg_cmp_lt _ _).mpr z)) h
    refine lv_lload_n hx hb d_M_memoryFault_102 rfl (lv_at hl 2 rfl) ?_
    refine lv_iload hx hb d_M_memoryFault_103 (lv_at hl 3 rfl) ?_
    refine lv_i2l (v := x4.toInt64) hx hb d_M_memoryFault_105 rfl ?_
    refine lv_ladd hx hb d_M_memoryFault_106 ?_
    refine lv_lconst (v := 0) hx hb d_M_memoryFault_107 (by decide) ?_
    refine W.lcmp hx hb d_M_memoryFault_108 ?_
    refine lv_if_gt (tgt := 131) hx hb d_M_memoryFault_109 (by decide) (fun c14 => ?_) (fun c14 => ?_)
    · have h := if_t ((lg_cmp_gt _ _).mp c14) h
      refine lv_bipush (v := 14) hx hb d_M_memoryFault_131 (by decide) ?_
      exact me_reti (me_kp M0) h hx hb hr hlocks hwf hkp hP hK hD hS d_M_memoryFault_133
    have h := if_f (fun z => c14 ((lg_cmp_gt _ _).mpr z)) h
    refine lv_iload hx hb d_M_memoryFault_112 (lv_at hl 4 rfl) ?_
    refine lv_if_eq (tgt := 127) hx hb d_M_memoryFault_114 (by decide) (fun c15 => ?_) (fun c15 => ?_)
    · have h := if_t c15 h
      refine lv_iconst (v := 0) hx hb d_M_memoryFault_127 (by decide) ?_
      refine lv_goto (tgt := 133) hx hb d_M_memoryFault_128 (by decide) ?_
      exact me_reti (me_kp M0) h hx hb hr hlocks hwf hkp hP hK hD hS d_M_memoryFault_133
    have h := if_f c15 h
    refine lv_lload_n hx hb d_M_memoryFault_117 rfl (lv_at hl 2 rfl) ?_
    refine lv_iload hx hb d_M_memoryFault_118 (lv_at hl 3 rfl) ?_
    refine lv_i2l (v := x4.toInt64) hx hb d_M_memoryFault_120 rfl ?_
    obtain ⟨g16, h⟩ := gd_ob h
    refine lv_lrem hx hb d_M_memoryFault_121 g16 ?_
    refine fg_topl (y := jlrem x2 x4.toInt64) rfl ?_
    refine lv_lconst (v := 0) hx hb d_M_memoryFault_122 (by decide) ?_
    refine W.lcmp hx hb d_M_memoryFault_123 ?_
    refine lv_if_ne (tgt := 131) hx hb d_M_memoryFault_124 (by decide) (fun c17 => ?_) (fun c17 => ?_)
    · have h := if_f (fun z => c17 ((lg_cmp_eq _ _).mpr z)) h
      refine lv_bipush (v := 14) hx hb d_M_memoryFault_131 (by decide) ?_
      exact me_reti (me_kp M0) h hx hb hr hlocks hwf hkp hP hK hD hS d_M_memoryFault_133
    have h := if_t ((lg_cmp_eq _ _).mp c17) h
    refine lv_iconst (v := 0) hx hb d_M_memoryFault_127 (by decide) ?_
    refine lv_goto (tgt := 133) hx hb d_M_memoryFault_128 (by decide) ?_
    exact me_reti (me_kp M0) h hx hb hr hlocks hwf hkp hP hK hD hS d_M_memoryFault_133
  have h := if_f (fun z => n12 (ew4.trans z)) h
  by_cases n18 : w4 = 4
  · have h := if_t (ew4.symm.trans n18) h
    subst n18
    refine lv_tableIn (off := 128) (tgt := 134) hx hb d_M_memoryFault_6 (by decide) (by decide) (by decide) (by decide) ?_
    refine lv_lload_n hx hb d_M_memoryFault_134 rfl (lv_at hl 2 rfl) ?_
    refine lv_lconst (v := 0) hx hb d_M_memoryFault_135 (by decide) ?_
    refine W.lcmp hx hb d_M_memoryFault_136 ?_
    refine lv_if_lt (tgt := 160) hx hb d_M_memoryFault_137 (by decide) (fun c19 => ?_) (fun c19 => ?_)
    · have h := if_t ((lg_cmp_lt _ _).mp c19) h
      refine lv_bipush (v := 14) hx hb d_M_memoryFault_160 (by decide) ?_
      exact me_reti (me_kp M0) h hx hb hr hlocks hwf hkp hP hK hD hS d_M_memoryFault_162
    have h := if_f (fun z => c19 ((lg_cmp_lt _ _).mpr z)) h
    refine lv_lload_n hx hb d_M_memoryFault_140 rfl (lv_at hl 2 rfl) ?_
    refine lv_iload hx hb d_M_memoryFault_141 (lv_at hl 3 rfl) ?_
    refine lv_i2l (v := x4.toInt64) hx hb d_M_memoryFault_143 rfl ?_
    refine lv_ladd hx hb d_M_memoryFault_144 ?_
    refine lv_aload_n hx hb d_M_memoryFault_145 rfl (lv_at hl 0 rfl) ?_
    refine g_M_51 hx hb hts hown hK hP hwf hj0 (hts _ u_1792) d_M_memoryFault_146 ?_
    obtain ⟨j20, e21, h⟩ := bd_ob h
    have hj20 : j20 < N 13 := (hwf.2.1 1 j0 51 _ e21 (by decide) hj0)
    refine me_opt (j := j20) e21 ?_
    refine lv_iload_n hx hb d_M_memoryFault_149 rfl (lv_at hl 1 rfl) ?_
    obtain ⟨g22, h⟩ := gd_ob h
    refine me_iald hx hb hK hP hwf hj20 g22 d_M_memoryFault_150 ?_
    refine lv_i2l (v := (mI M0 13 j20 x1.toNatClampNeg).toInt64) hx hb d_M_memoryFault_151 rfl ?_
    refine W.lcmp hx hb d_M_memoryFault_152 ?_
    refine lv_if_gt (tgt := 160) hx hb d_M_memoryFault_153 (by decide) (fun c23 => ?_) (fun c23 => ?_)
    · have h := if_t ((lg_cmp_gt _ _).mp c23) h
      refine lv_bipush (v := 14) hx hb d_M_memoryFault_160 (by decide) ?_
      exact me_reti (me_kp M0) h hx hb hr hlocks hwf hkp hP hK hD hS d_M_memoryFault_162
    have h := if_f (fun z => c23 ((lg_cmp_gt _ _).mpr z)) h
    refine lv_iconst (v := 0) hx hb d_M_memoryFault_156 (by decide) ?_
    refine lv_goto (tgt := 162) hx hb d_M_memoryFault_157 (by decide) ?_
    exact me_reti (me_kp M0) h hx hb hr hlocks hwf hkp hP hK hD hS d_M_memoryFault_162
  have h := if_f (fun z => n18 (ew4.trans z)) h
  by_cases n24 : w4 = 5
  · have h := if_t (ew4.symm.trans n24) h
    subst n24
    refine lv_tableIn (off := 205) (tgt := 211) hx hb d_M_memoryFault_6 (by decide) (by decide) (by decide) (by decide) ?_
    refine lv_bipush (v := 13) hx hb d_M_memoryFault_211 (by decide) ?_
    exact me_reti (me_kp M0) h hx hb hr hlocks hwf hkp hP hK hD hS d_M_memoryFault_213
  have h := if_f (fun z => n24 (ew4.trans z)) h
  by_cases n25 : w4 = 6
  · have h := if_t (ew4.symm.trans n25) h
    subst n25
    refine lv_tableIn (off := 205) (tgt := 211) hx hb d_M_memoryFault_6 (by decide) (by decide) (by decide) (by decide) ?_
    refine lv_bipush (v := 13) hx hb d_M_memoryFault_211 (by decide) ?_
    exact me_reti (me_kp M0) h hx hb hr hlocks hwf hkp hP hK hD hS d_M_memoryFault_213
  have h := if_f (fun z => n25 (ew4.trans z)) h
  by_cases n26 : w4 = 7
  · have h := if_t (ew4.symm.trans n26) h
    subst n26
    refine lv_tableIn (off := 157) (tgt := 163) hx hb d_M_memoryFault_6 (by decide) (by decide) (by decide) (by decide) ?_
    refine lv_lload_n hx hb d_M_memoryFault_163 rfl (lv_at hl 2 rfl) ?_
    refine lv_aload_n hx hb d_M_memoryFault_164 rfl (lv_at hl 0 rfl) ?_
    refine g_M_54 hx hb hts hown hK hP hwf hj0 (hts _ u_1795) d_M_memoryFault_165 ?_
    obtain ⟨j27, e28, h⟩ := bd_ob h
    have hj27 : j27 < N 16 := (hwf.2.1 1 j0 54 _ e28 (by decide) hj0)
    refine me_opt (j := j27) e28 ?_
    refine lv_iload_n hx hb d_M_memoryFault_168 rfl (lv_at hl 1 rfl) ?_
    obtain ⟨g29, h⟩ := gd_ob h
    refine me_lald hx hb hK hP hwf hj27 g29 d_M_memoryFault_169 ?_
    refine lv_ladd hx hb d_M_memoryFault_170 ?_
    refine lv_lconst (v := 0) hx hb d_M_memoryFault_171 (by decide) ?_
    refine W.lcmp hx hb d_M_memoryFault_172 ?_
    refine lv_if_lt (tgt := 208) hx hb d_M_memoryFault_173 (by decide) (fun c30 => ?_) (fun c30 => ?_)
    · have h := if_t ((lg_cmp_lt _ _).mp c30) h
      refine lv_bipush (v := 14) hx hb d_M_memoryFault_208 (by decide) ?_
      exact me_reti (me_kp M0) h hx hb hr hlocks hwf hkp hP hK hD hS d_M_memoryFault_210
    have h := if_f (fun z => c30 ((lg_cmp_lt _ _).mpr z)) h
    refine lv_lload_n hx hb d_M_memoryFault_176 rfl (lv_at hl 2 rfl) ?_
    refine lv_aload_n hx hb d_M_memoryFault_177 rfl (lv_at hl 0 rfl) ?_
    refine g_M_55 hx hb hts hown hK hP hwf hj0 (hts _ u_1796) d_M_memoryFault_178 ?_
    obtain ⟨j31, e32, h⟩ := bd_ob h
    have hj31 : j31 < N 16 := (hwf.2.1 1 j0 55 _ e32 (by decide) hj0)
    refine me_opt (j := j31) e32 ?_
    refine lv_iload_n hx hb d_M_memoryFault_181 rfl (lv_at hl 1 rfl) ?_
    obtain ⟨g33, h⟩ := gd_ob h
    refine me_lald hx hb hK hP hwf hj31 g33 d_M_memoryFault_182 ?_
    refine lv_ladd hx hb d_M_memoryFault_183 ?_
    refine lv_iload hx hb d_M_memoryFault_184 (lv_at hl 3 rfl) ?_
    refine lv_i2l (v := x4.toInt64) hx hb d_M_memoryFault_186 rfl ?_
    refine lv_ladd hx hb d_M_memoryFault_187 ?_
    refine lv_aload_n hx hb d_M_memoryFault_188 rfl (lv_at hl 0 rfl) ?_
    refine g_M_7 hx hb hts hown hK hP hwf hj0 (hts _ u_1748) d_M_memoryFault_189 ?_
    obtain ⟨j34, e35, h⟩ := bd_ob h
    have hj34 : j34 < N 13 := (hwf.2.1 1 j0 7 _ e35 (by decide) hj0)
    refine me_opt (j := j34) e35 ?_
    refine lv_aload_n hx hb d_M_memoryFault_192 rfl (lv_at hl 0 rfl) ?_
    refine g_M_49 hx hb hts hown hK hP hwf hj0 (hts _ u_1790) d_M_memoryFault_193 ?_
    obtain ⟨j36, e37, h⟩ := bd_ob h
    have hj36 : j36 < N 13 := (hwf.2.1 1 j0 49 _ e37 (by decide) hj0)
    refine me_opt (j := j36) e37 ?_
    refine lv_iload_n hx hb d_M_memoryFault_196 rfl (lv_at hl 1 rfl) ?_
    obtain ⟨g38, h⟩ := gd_ob h
    refine me_iald hx hb hK hP hwf hj36 g38 d_M_memoryFault_197 ?_
    obtain ⟨g39, h⟩ := gd_ob h
    refine me_iald hx hb hK hP hwf hj34 g39 d_M_memoryFault_198 ?_
    refine lv_i2l (v := (mI M0 13 j34 (mI M0 13 j36 x1.toNatClampNeg).toNatClampNeg).toInt64) hx hb d_M_memoryFault_199 rfl ?_
    refine W.lcmp hx hb d_M_memoryFault_200 ?_
    refine lv_if_gt (tgt := 208) hx hb d_M_memoryFault_201 (by decide) (fun c40 => ?_) (fun c40 => ?_)
    · have h := if_t ((lg_cmp_gt _ _).mp c40) h
      refine lv_bipush (v := 14) hx hb d_M_memoryFault_208 (by decide) ?_
      exact me_reti (me_kp M0) h hx hb hr hlocks hwf hkp hP hK hD hS d_M_memoryFault_210
    have h := if_f (fun z => c40 ((lg_cmp_gt _ _).mpr z)) h
    refine lv_iconst (v := 0) hx hb d_M_memoryFault_204 (by decide) ?_
    refine lv_goto (tgt := 210) hx hb d_M_memoryFault_205 (by decide) ?_
    exact me_reti (me_kp M0) h hx hb hr hlocks hwf hkp hP hK hD hS d_M_memoryFault_210
  have h := if_f (fun z => n26 (ew4.trans z)) h
  have in5 := lv_neT n5 (show (2 : Int32).toInt = 2 from rfl)
  have in12 := lv_neT n12 (show (3 : Int32).toInt = 3 from rfl)
  have in18 := lv_neT n18 (show (4 : Int32).toInt = 4 from rfl)
  have in24 := lv_neT n24 (show (5 : Int32).toInt = 5 from rfl)
  have in25 := lv_neT n25 (show (6 : Int32).toInt = 6 from rfl)
  have in26 := lv_neT n26 (show (7 : Int32).toInt = 7 from rfl)
  refine lv_tableOut (tgt := 211) hx hb d_M_memoryFault_6 (by omega) (by decide) ?_
  refine lv_bipush (v := 13) hx hb d_M_memoryFault_211 (by decide) ?_
  exact me_reti (me_kp M0) h hx hb hr hlocks hwf hkp hP hK hD hS d_M_memoryFault_213
theorem d_M_loadStack_62 : decode prog_14_method_79_code 62 = .ok (.iload 5, 2) := by decide +kernel
theorem d_M_loadStack_64 : decode prog_14_method_79_code 64 = .ok (.iload_n 3, 1) := by decide +kernel
theorem d_M_loadStack_65 : decode prog_14_method_79_code 65 = .ok (.if_icmp .ge 23, 3) := by decide +kernel
theorem d_M_loadStack_88 : decode prog_14_method_79_code 88 = .ok (.aload_n 0, 1) := by decide +kernel
theorem d_M_loadStack_89 : decode prog_14_method_79_code 89 = .ok (.iload_n 1, 1) := by decide +kernel
theorem d_M_loadStack_90 : decode prog_14_method_79_code 90 = .ok (.iload_n 3, 1) := by decide +kernel
theorem d_M_loadStack_91 : decode prog_14_method_79_code 91 = .ok (.invokevirtual 419, 3) := by decide +kernel
theorem u_2130 : Cond.methodLink "FilterGuardModel" 419 ⟨"FilterGuardModel", "toRead", "(II)V"⟩ ∈ fg_g := fg_in (List.mem_of_getElem? (i := 2130) (by decide +kernel)) rfl
theorem u_2133 : Cond.code ⟨"FilterGuardModel", "toRead", "(II)V"⟩ prog_14_method_66_code 4 none ∈ fg_g := fg_in (List.mem_of_getElem? (i := 2133) (by decide +kernel)) rfl
theorem u_2132 : Cond.instanceMethod ⟨"FilterGuardModel", "toRead", "(II)V"⟩ ∈ fg_g := fg_in (List.mem_of_getElem? (i := 2132) (by decide +kernel)) rfl
theorem u_110 : Cond.selects "FilterGuardModel" ⟨"FilterGuardModel", "toRead", "(II)V"⟩ ⟨"FilterGuardModel", "toRead", "(II)V"⟩ ∈ fg_g := fg_in (List.mem_of_getElem? (i := 110) (by decide +kernel)) rfl
theorem d_M_loadStack_94 : decode prog_14_method_79_code 94 = .ok (.iconst 0, 1) := by decide +kernel
theorem d_M_loadStack_95 : decode prog_14_method_79_code 95 = .ok (.ireturn, 1) := by decide +kernel
theorem d_M_loadStack_68 : decode prog_14_method_79_code 68 = .ok (.aload_n 0, 1) := by decide +kernel
theorem d_M_loadStack_69 : decode prog_14_method_79_code 69 = .ok (.iload_n 2, 1) := by decide +kernel
theorem d_M_loadStack_70 : decode prog_14_method_79_code 70 = .ok (.iload 5, 2) := by decide +kernel
theorem d_M_loadStack_72 : decode prog_14_method_79_code 72 = .ok (.iadd, 1) := by decide +kernel
theorem d_M_loadStack_73 : decode prog_14_method_79_code 73 = .ok (.invokevirtual 429, 3) := by decide +kernel
theorem u_2191 : Cond.methodLink "FilterGuardModel" 429 ⟨"FilterGuardModel", "isWritten", "(I)Z"⟩ ∈ fg_g := fg_in (List.mem_of_getElem? (i := 2191) (by decide +kernel)) rfl
theorem u_2194 : Cond.code ⟨"FilterGuardModel", "isWritten", "(I)Z"⟩ prog_14_method_75_code 2 (some .boolean) ∈ fg_g := fg_in (List.mem_of_getElem? (i := 2194) (by decide +kernel)) rfl
theorem u_2193 : Cond.instanceMethod ⟨"FilterGuardModel", "isWritten", "(I)Z"⟩ ∈ fg_g := fg_in (List.mem_of_getElem? (i := 2193) (by decide +kernel)) rfl
theorem u_122 : Cond.selects "FilterGuardModel" ⟨"FilterGuardModel", "isWritten", "(I)Z"⟩ ⟨"FilterGuardModel", "isWritten", "(I)Z"⟩ ∈ fg_g := fg_in (List.mem_of_getElem? (i := 122) (by decide +kernel)) rfl
theorem d_M_loadStack_76 : decode prog_14_method_79_code 76 = .ok (.ifCond .ne 6, 3) := by decide +kernel
theorem d_M_loadStack_82 : decode prog_14_method_79_code 82 = .ok (.iinc 5 1, 3) := by decide +kernel
theorem d_M_loadStack_85 : decode prog_14_method_79_code 85 = .ok (.goto (-23), 3) := by decide +kernel
theorem d_M_loadStack_79 : decode prog_14_method_79_code 79 = .ok (.bipush 15, 2) := by decide +kernel
theorem d_M_loadStack_81 : decode prog_14_method_79_code 81 = .ok (.ireturn, 1) := by decide +kernel
theorem d_M_loadStack_35 : decode prog_14_method_79_code 35 = .ok (.iload_n 3, 1) := by decide +kernel
theorem d_M_loadStack_36 : decode prog_14_method_79_code 36 = .ok (.bipush 8, 2) := by decide +kernel
theorem d_M_loadStack_38 : decode prog_14_method_79_code 38 = .ok (.if_icmp .ne 13, 3) := by decide +kernel
theorem d_M_loadStack_51 : decode prog_14_method_79_code 51 = .ok (.aload_n 0, 1) := by decide +kernel
theorem d_M_loadStack_52 : decode prog_14_method_79_code 52 = .ok (.iload_n 1, 1) := by decide +kernel
theorem d_M_loadStack_53 : decode prog_14_method_79_code 53 = .ok (.iload_n 3, 1) := by decide +kernel
theorem d_M_loadStack_54 : decode prog_14_method_79_code 54 = .ok (.invokevirtual 419, 3) := by decide +kernel
theorem d_M_loadStack_57 : decode prog_14_method_79_code 57 = .ok (.iconst 0, 1) := by decide +kernel
theorem d_M_loadStack_58 : decode prog_14_method_79_code 58 = .ok (.ireturn, 1) := by decide +kernel
theorem d_M_loadStack_41 : decode prog_14_method_79_code 41 = .ok (.aload_n 0, 1) := by decide +kernel
theorem d_M_loadStack_42 : decode prog_14_method_79_code 42 = .ok (.iload 4, 2) := by decide +kernel
theorem d_M_loadStack_44 : decode prog_14_method_79_code 44 = .ok (.iload_n 1, 1) := by decide +kernel
theorem d_M_loadStack_45 : decode prog_14_method_79_code 45 = .ok (.invokevirtual 360, 3) := by decide +kernel
theorem d_M_loadStack_48 : decode prog_14_method_79_code 48 = .ok (.goto 9, 3) := by decide +kernel
theorem d_M_loadStack_0 : decode prog_14_method_79_code 0 = .ok (.bipush 11, 2) := by decide +kernel
theorem d_M_loadStack_2 : decode prog_14_method_79_code 2 = .ok (.iload_n 2, 1) := by decide +kernel
theorem d_M_loadStack_3 : decode prog_14_method_79_code 3 = .ok (.invokestatic 403, 3) := by decide +kernel
theorem d_M_loadStack_6 : decode prog_14_method_79_code 6 = .ok (.iadd, 1) := by decide +kernel
theorem d_M_loadStack_7 : decode prog_14_method_79_code 7 = .ok (.istore 4, 2) := by decide +kernel
theorem d_M_loadStack_9 : decode prog_14_method_79_code 9 = .ok (.aload_n 0, 1) := by decide +kernel
theorem d_M_loadStack_10 : decode prog_14_method_79_code 10 = .ok (.iload_n 2, 1) := by decide +kernel
theorem d_M_loadStack_11 : decode prog_14_method_79_code 11 = .ok (.invokevirtual 426, 3) := by decide +kernel
theorem u_2183 : Cond.methodLink "FilterGuardModel" 426 ⟨"FilterGuardModel", "isSaved", "(I)Z"⟩ ∈ fg_g := fg_in (List.mem_of_getElem? (i := 2183) (by decide +kernel)) rfl
theorem u_2186 : Cond.code ⟨"FilterGuardModel", "isSaved", "(I)Z"⟩ prog_14_method_76_code 2 (some .boolean) ∈ fg_g := fg_in (List.mem_of_getElem? (i := 2186) (by decide +kernel)) rfl
theorem u_2185 : Cond.instanceMethod ⟨"FilterGuardModel", "isSaved", "(I)Z"⟩ ∈ fg_g := fg_in (List.mem_of_getElem? (i := 2185) (by decide +kernel)) rfl
theorem u_120 : Cond.selects "FilterGuardModel" ⟨"FilterGuardModel", "isSaved", "(I)Z"⟩ ⟨"FilterGuardModel", "isSaved", "(I)Z"⟩ ∈ fg_g := fg_in (List.mem_of_getElem? (i := 120) (by decide +kernel)) rfl
theorem d_M_loadStack_14 : decode prog_14_method_79_code 14 = .ok (.ifCond .eq 45, 3) := by decide +kernel
theorem d_M_loadStack_59 : decode prog_14_method_79_code 59 = .ok (.iconst 0, 1) := by decide +kernel
theorem d_M_loadStack_60 : decode prog_14_method_79_code 60 = .ok (.istore 5, 2) := by decide +kernel
theorem d_M_loadStack_17 : decode prog_14_method_79_code 17 = .ok (.iload_n 3, 1) := by decide +kernel
theorem d_M_loadStack_18 : decode prog_14_method_79_code 18 = .ok (.bipush 8, 2) := by decide +kernel
theorem d_M_loadStack_20 : decode prog_14_method_79_code 20 = .ok (.if_icmp .ge 15, 3) := by decide +kernel
theorem d_M_loadStack_23 : decode prog_14_method_79_code 23 = .ok (.aload_n 0, 1) := by decide +kernel
theorem d_M_loadStack_24 : decode prog_14_method_79_code 24 = .ok (.iload 4, 2) := by decide +kernel
theorem d_M_loadStack_26 : decode prog_14_method_79_code 26 = .ok (.invokevirtual 378, 3) := by decide +kernel
theorem d_M_loadStack_29 : decode prog_14_method_79_code 29 = .ok (.ifCond .ne 6, 3) := by decide +kernel
theorem d_M_loadStack_32 : decode prog_14_method_79_code 32 = .ok (.bipush 15, 2) := by decide +kernel
theorem d_M_loadStack_34 : decode prog_14_method_79_code 34 = .ok (.ireturn, 1) := by decide +kernel
abbrev y_M_loadStack : MethodName := ⟨"FilterGuardModel", "loadStack", "(III)I"⟩
def rm_M_loadStack : Room := { frames := 6, cells := 0, slots := 0, locals := 133 }
abbrev q_M_loadStack (D : va_G) (ad : Nat → Nat → Nat) (ca : Nat → ClassId) (N : Nat → Nat) (M0 MZ : me_M) (RZ : Int32) (A : Nat → Prop) : Array Value → Jvm.State → Outcome → Jvm.State → Prop := va_Qi (fun r (_ : Unit) => r = RZ ∧ me_wf N MZ ∧ me_kp M0 MZ) (fg_B D A (fun _ => me_W ad ca MZ) (fun _ => [])) A
set_option maxHeartbeats 4000000 in
set_option maxRecDepth 100000 in
theorem c_M_loadStack (l : Launch) (D : va_G) (ad : Nat → Nat → Nat) (ca : Nat → ClassId) (N : Nat → Nat) (M0 MZ : me_M) (RZ : Int32) (j0 : Nat) (x1 : Int32) (x2 : Int32) (x3 : Int32) (h : f_M_loadStack M0 j0 x1 x2 x3 = (some (MZ, RZ))) (hwf : me_wf N M0) (hj0 : j0 < N 1) (sz : Nat) : Met l y_M_loadStack (fg_w y_M_loadStack prog_14_method_79_code 6 (some .int)) rm_M_loadStack (va_Pc [.ref (ad 1 j0), .int x1, .int x2, .int x3] (fz_P D (me_T ca) (me_W ad ca M0) sz)) (q_M_loadStack D ad ca N M0 MZ RZ (va_A (me_W ad ca M0) sz)) rm_M_loadStack.cells rm_M_loadStack.slots (va_A (me_W ad ca M0) sz) := by
  refine fz_enter (fun A => q_M_loadStack D ad ca N M0 MZ RZ A) (by decide +kernel) (Nat.le_of_ble_eq_true rfl) ?_
  intro p e s m below meth c ls A hx hb hml hown hts hr hlocks hin hP hK hD hS hA hX hl hz
  have hl : lv_has ls 6 [(0, .ref (ad 1 j0)), (1, .int x1), (2, .int x2), (3, .int x3)] := hl
  unfold f_M_loadStack at h
  have hkp : me_kp M0 M0 := me_kp.rf
  have hkb := hkp
  have b_62 : ∀ (fu : Nat), ∀ (M : me_M) (y5 : Int32) (H : Heap) (locs : List Loc) (ls : Array Slot), f_M_loadStack_l62 j0 x1 x2 x3 fu M y5 = (some (MZ, RZ)) → me_wf N M → me_kp M0 M → va_P D classes (me_W ad ca M) H → va_D A (me_W ad ca M) → va_S A s.heap H locs → lv_has ls 6 [(0, .ref (ad 1 j0)), (1, .int x1), (2, .int x2), (3, .int x3), (5, .int y5)] → W p l e rm_M_loadStack s m [.ref (ad 1 j0), .int x1, .int x2, .int x3].toArray below meth c H locs 0 0 (MQ below (q_M_loadStack D ad ca N M0 MZ RZ A) [.ref (ad 1 j0), .int x1, .int x2, .int x3].toArray s rm_M_loadStack.cells rm_M_loadStack.slots A) (F0 m 62 ls []) := by
    intro fu
    induction fu with
    | zero =>
      intro M y5 H locs ls h hwf hkp hP hD hS hl
      cases h
    | succ fu ih =>
      intro M y5 H locs ls h hwf hkp hP hD hS hl
      unfold f_M_loadStack_l62 at h
      have hkb := hkp
      refine lv_iload hx hb d_M_loadStack_62 (lv_at hl 4 rfl) ?_
      refine lv_iload_n hx hb d_M_loadStack_64 rfl (lv_at hl 3 rfl) ?_
      refine lv_icmp_ge (tgt := 88) hx hb d_M_loadStack_65 (by decide) (fun c1 => ?_) (fun c1 => ?_)
      · have h := if_t c1 h
        refine lv_aload_n hx hb d_M_loadStack_88 rfl (lv_at hl 0 rfl) ?_
        refine lv_iload_n hx hb d_M_loadStack_89 rfl (lv_at hl 1 rfl) ?_
        refine lv_iload_n hx hb d_M_loadStack_90 rfl (lv_at hl 3 rfl) ?_
        obtain ⟨M2, eM2, h⟩ := bd_ob h
        refine me_thenv0 (M1 := M2) (me_runV (C := "FilterGuardModel") (As := [.int x1, .int x3]) (rest := []) ⟨hx, hb, hml, hown, hts⟩ (c_M_toRead l D ad ca N M M2 j0 x1 x3 eM2 hwf hj0 _) rfl (by show fg_nm y_M_toRead 2; decide +kernel) u_2130 u_2132 u_110 u_192 u_2133 ⟨Nat.le_of_ble_eq_true rfl, Nat.le_of_ble_eq_true rfl⟩ hX hz hK hP hD hwf hS hA hj0 (by decide) rfl rfl rfl hl.1 (Nat.le_of_ble_eq_true rfl) d_M_loadStack_91 ⟨Nat.le_of_ble_eq_true rfl, Nat.le_of_ble_eq_true rfl⟩) hP hD hK hS hA rfl rfl (fun H locs hw hP hD hS => ?_)
        obtain ⟨hwf, hk9⟩ := hw
        have hkp := hkp.tr hk9
        refine lv_iconst (v := 0) hx hb d_M_loadStack_94 (by decide) ?_
        exact me_reti (me_kp M0) h hx hb hr hlocks hwf hkp hP hK hD hS d_M_loadStack_95
      have h := if_f c1 h
      refine lv_aload_n hx hb d_M_loadStack_68 rfl (lv_at hl 0 rfl) ?_
      refine lv_iload_n hx hb d_M_loadStack_69 rfl (lv_at hl 2 rfl) ?_
      refine lv_iload hx hb d_M_loadStack_70 (lv_at hl 4 rfl) ?_
      refine lv_iadd hx hb d_M_loadStack_72 ?_
      obtain ⟨M3, r4, eM3, h⟩ := b2_ob h
      refine me_theni0 (M1 := M3) (me_runV (C := "FilterGuardModel") (As := [.int (x2 + y5)]) (rest := []) ⟨hx, hb, hml, hown, hts⟩ (c_M_isWritten l D ad ca N M M3 r4 j0 (x2 + y5) eM3 hwf hj0 _) rfl (by show fg_nm y_M_isWritten 1; decide +kernel) u_2191 u_2193 u_122 u_192 u_2194 ⟨Nat.le_of_ble_eq_true rfl, Nat.le_of_ble_eq_true rfl⟩ hX hz hK hP hD hwf hS hA hj0 (by decide) rfl rfl rfl hl.1 (Nat.le_of_ble_eq_true rfl) d_M_loadStack_73 ⟨Nat.le_of_ble_eq_true rfl, Nat.le_of_ble_eq_true rfl⟩) hP hD hK hS hA rfl rfl (fun H locs hw hP hD hS => ?_)
      obtain ⟨hwf, hk9, zr4⟩ := hw
      have hkp := hkp.tr hk9
      refine lv_if_ne (tgt := 82) hx hb d_M_loadStack_76 (by decide) (fun c5 => ?_) (fun c5 => ?_)
      · have h := if_f c5 h
        refine lv_iinc (v := y5 + 1) (lv' := [(5, .int (y5 + 1)), (0, .ref (ad 1 j0)), (1, .int x1), (2, .int x2), (3, .int x3)]) hx hb d_M_loadStack_82 hl (k := 4) rfl (by rfl) (by decide) rfl (fun ls hl => ?_)
        refine lv_goto (tgt := 62) hx hb d_M_loadStack_85 (by decide) ?_
        exact ih M3 (y5 + 1) _ _ _ h hwf hkp hP hD hS (lv_sub hl [1, 2, 3, 4, 0] rfl)
      have h := if_t c5 h
      refine lv_bipush (v := 15) hx hb d_M_loadStack_79 (by decide) ?_
      exact me_reti (me_kp M0) h hx hb hr hlocks hwf hkp hP hK hD hS d_M_loadStack_81
  have b_35 : ∀ (M : me_M) (y4 : Int32) (H : Heap) (locs : List Loc) (ls : Array Slot), f_M_loadStack_b35 j0 x1 x3 M y4 = (some (MZ, RZ)) → me_wf N M → me_kp M0 M → va_P D classes (me_W ad ca M) H → va_D A (me_W ad ca M) → va_S A s.heap H locs → lv_has ls 6 [(0, .ref (ad 1 j0)), (1, .int x1), (3, .int x3), (4, .int y4)] → W p l e rm_M_loadStack s m [.ref (ad 1 j0), .int x1, .int x2, .int x3].toArray below meth c H locs 0 0 (MQ below (q_M_loadStack D ad ca N M0 MZ RZ A) [.ref (ad 1 j0), .int x1, .int x2, .int x3].toArray s rm_M_loadStack.cells rm_M_loadStack.slots A) (F0 m 35 ls []) := by
    intro M y4 H locs ls h hwf hkp hP hD hS hl
    unfold f_M_loadStack_b35 at h
    have hkb := hkp
    refine lv_iload_n hx hb d_M_loadStack_35 rfl (lv_at hl 2 rfl) ?_
    refine lv_bipush (v := 8) hx hb d_M_loadStack_36 (by decide) ?_
    refine lv_icmp_ne (tgt := 51) hx hb d_M_loadStack_38 (by decide) (fun c6 => ?_) (fun c6 => ?_)
    · have h := if_f c6 h
      refine lv_aload_n hx hb d_M_loadStack_51 rfl (lv_at hl 0 rfl) ?_
      refine lv_iload_n hx hb d_M_loadStack_52 rfl (lv_at hl 1 rfl) ?_
      refine lv_iload_n hx hb d_M_loadStack_53 rfl (lv_at hl 2 rfl) ?_
      obtain ⟨M7, eM7, h⟩ := bd_ob h
      refine me_thenv0 (M1 := M7) (me_runV (C := "FilterGuardModel") (As := [.int x1, .int x3]) (rest := []) ⟨hx, hb, hml, hown, hts⟩ (c_M_toRead l D ad ca N M M7 j0 x1 x3 eM7 hwf hj0 _) rfl (by show fg_nm y_M_toRead 2; decide +kernel) u_2130 u_2132 u_110 u_192 u_2133 ⟨Nat.le_of_ble_eq_true rfl, Nat.le_of_ble_eq_true rfl⟩ hX hz hK hP hD hwf hS hA hj0 (by decide) rfl rfl rfl hl.1 (Nat.le_of_ble_eq_true rfl) d_M_loadStack_54 ⟨Nat.le_of_ble_eq_true rfl, Nat.le_of_ble_eq_true rfl⟩) hP hD hK hS hA rfl rfl (fun H locs hw hP hD hS => ?_)
      obtain ⟨hwf, hk9⟩ := hw
      have hkp := hkp.tr hk9
      refine lv_iconst (v := 0) hx hb d_M_loadStack_57 (by decide) ?_
      exact me_reti (me_kp M0) h hx hb hr hlocks hwf hkp hP hK hD hS d_M_loadStack_58
    have h := if_t c6 h
    refine lv_aload_n hx hb d_M_loadStack_41 rfl (lv_at hl 0 rfl) ?_
    refine lv_iload hx hb d_M_loadStack_42 (lv_at hl 3 rfl) ?_
    refine lv_iload_n hx hb d_M_loadStack_44 rfl (lv_at hl 1 rfl) ?_
    obtain ⟨M8, eM8, h⟩ := bd_ob h
    refine me_thenv0 (M1 := M8) (me_runV (C := "FilterGuardModel") (As := [.int y4, .int x1]) (rest := []) ⟨hx, hb, hml, hown, hts⟩ (c_M_copyItem l D ad ca N M M8 j0 y4 x1 eM8 hwf hj0 _) rfl (by show fg_nm y_M_copyItem 2; decide +kernel) u_2092 u_2094 u_102 u_192 u_2095 ⟨Nat.le_of_ble_eq_true rfl, Nat.le_of_ble_eq_true rfl⟩ hX hz hK hP hD hwf hS hA hj0 (by decide) rfl rfl rfl hl.1 (Nat.le_of_ble_eq_true rfl) d_M_loadStack_45 ⟨Nat.le_of_ble_eq_true rfl, Nat.le_of_ble_eq_true rfl⟩) hP hD hK hS hA rfl rfl (fun H locs hw hP hD hS => ?_)
    obtain ⟨hwf, hk9⟩ := hw
    have hkp := hkp.tr hk9
    refine lv_goto (tgt := 57) hx hb d_M_loadStack_48 (by decide) ?_
    refine lv_iconst (v := 0) hx hb d_M_loadStack_57 (by decide) ?_
    exact me_reti (me_kp M0) h hx hb hr hlocks hwf hkp hP hK hD hS d_M_loadStack_58
  refine lv_bipush (v := 11) hx hb d_M_loadStack_0 (by decide) ?_
  refine lv_iload_n hx hb d_M_loadStack_2 rfl (lv_at hl 2 rfl) ?_
  obtain ⟨r9, er9, h⟩ := bd_ob h
  refine me_pani' (r0 := r9) (fg_runS (wc := []) (tc := []) (A2 := A) (As := [.int x2]) (rest := [.int 11]) ⟨hx, hb, hml, hown, hts⟩ (c_M_slotOf l D r9 x2 er9 _) (by show fg_nm y_M_slotOf 1; decide +kernel) u_2180 u_2181 u_192 u_2182 ⟨Nat.le_of_ble_eq_true rfl, Nat.le_of_ble_eq_true rfl⟩ hX me_P0 (hK.sub (tys' := []) [] rfl) me_D0 rfl hl.1 (Nat.le_of_ble_eq_true rfl) d_M_loadStack_3 ⟨Nat.le_of_ble_eq_true rfl, Nat.le_of_ble_eq_true rfl⟩) hP hD hK hS hA rfl rfl (fun H locs hw hP hD hS => ?_)
  refine lv_iadd hx hb d_M_loadStack_6 ?_
  obtain ⟨v10, ev10, h⟩ := st_ob h
  refine fg_topi (y := v10) ev10.symm ?_
  refine lv_istore (lv' := [(4, .int v10), (0, .ref (ad 1 j0)), (1, .int x1), (2, .int x2), (3, .int x3)]) hx hb d_M_loadStack_7 hl (by decide) rfl (fun ls hl => ?_)
  refine lv_aload_n hx hb d_M_loadStack_9 rfl (lv_at hl 1 rfl) ?_
  refine lv_iload_n hx hb d_M_loadStack_10 rfl (lv_at hl 3 rfl) ?_
  obtain ⟨M11, r12, eM11, h⟩ := b2_ob h
  refine me_theni0 (M1 := M11) (me_runV (C := "FilterGuardModel") (As := [.int x2]) (rest := []) ⟨hx, hb, hml, hown, hts⟩ (c_M_isSaved l D ad ca N M0 M11 r12 j0 x2 eM11 hwf hj0 _) rfl (by show fg_nm y_M_isSaved 1; decide +kernel) u_2183 u_2185 u_120 u_192 u_2186 ⟨Nat.le_of_ble_eq_true rfl, Nat.le_of_ble_eq_true rfl⟩ hX hz hK hP hD hwf hS hA hj0 (by decide) rfl rfl rfl hl.1 (Nat.le_of_ble_eq_true rfl) d_M_loadStack_11 ⟨Nat.le_of_ble_eq_true rfl, Nat.le_of_ble_eq_true rfl⟩) hP hD hK hS hA rfl rfl (fun H locs hw hP hD hS => ?_)
  obtain ⟨hwf, hk9, zr12⟩ := hw
  have hkp := hkp.tr hk9
  refine lv_if_eq (tgt := 59) hx hb d_M_loadStack_14 (by decide) (fun c13 => ?_) (fun c13 => ?_)
  · have h := if_t c13 h
    refine lv_iconst (v := 0) hx hb d_M_loadStack_59 (by decide) ?_
    refine lv_istore (lv' := [(5, .int 0), (4, .int v10), (0, .ref (ad 1 j0)), (1, .int x1), (2, .int x2), (3, .int x3)]) hx hb d_M_loadStack_60 hl (by decide) rfl (fun ls hl => ?_)
    exact b_62 _ M11 (0 : Int32) _ _ _ h hwf hkp hP hD hS (lv_sub hl [2, 3, 4, 5, 0] rfl)
  have h := if_f c13 h
  refine lv_iload_n hx hb d_M_loadStack_17 rfl (lv_at hl 4 rfl) ?_
  refine lv_bipush (v := 8) hx hb d_M_loadStack_18 (by decide) ?_
  refine lv_icmp_ge (tgt := 35) hx hb d_M_loadStack_20 (by decide) (fun c14 => ?_) (fun c14 => ?_)
  · have h := if_t c14 h
    exact b_35 M11 v10 _ _ _ h hwf hkp hP hD hS (lv_sub hl [1, 2, 4, 0] rfl)
  have h := if_f c14 h
  refine lv_aload_n hx hb d_M_loadStack_23 rfl (lv_at hl 1 rfl) ?_
  refine lv_iload hx hb d_M_loadStack_24 (lv_at hl 0 rfl) ?_
  obtain ⟨M15, r16, eM15, h⟩ := b2_ob h
  refine me_theni0 (M1 := M15) (me_runV (C := "FilterGuardModel") (As := [.int v10]) (rest := []) ⟨hx, hb, hml, hown, hts⟩ (c_M_isNumber l D ad ca N M11 M15 r16 j0 v10 eM15 hwf hj0 _) rfl (by show fg_nm y_M_isNumber 1; decide +kernel) u_2187 u_2189 u_121 u_192 u_2190 ⟨Nat.le_of_ble_eq_true rfl, Nat.le_of_ble_eq_true rfl⟩ hX hz hK hP hD hwf hS hA hj0 (by decide) rfl rfl rfl hl.1 (Nat.le_of_ble_eq_true rfl) d_M_loadStack_26 ⟨Nat.le_of_ble_eq_true rfl, Nat.le_of_ble_eq_true rfl⟩) hP hD hK hS hA rfl rfl (fun H locs hw hP hD hS => ?_)
  obtain ⟨hwf, hk9, zr16⟩ := hw
  have hkp := hkp.tr hk9
  refine lv_if_ne (tgt := 35) hx hb d_M_loadStack_29 (by decide) (fun c17 => ?_) (fun c17 => ?_)
  · have h := if_f c17 h
    exact b_35 M15 v10 _ _ _ h hwf hkp hP hD hS (lv_sub hl [1, 2, 4, 0] rfl)
  have h := if_t c17 h
  refine lv_bipush (v := 15) hx hb d_M_loadStack_32 (by decide) ?_
  exact me_reti (me_kp M0) h hx hb hr hlocks hwf hkp hP hK hD hS d_M_loadStack_34
theorem d_M_load_108 : decode prog_14_method_78_code 108 = .ok (.aload_n 0, 1) := by decide +kernel
theorem d_M_load_109 : decode prog_14_method_78_code 109 = .ok (.getfield 89, 3) := by decide +kernel
theorem d_M_load_112 : decode prog_14_method_78_code 112 = .ok (.iload_n 3, 1) := by decide +kernel
theorem d_M_load_113 : decode prog_14_method_78_code 113 = .ok (.baload, 1) := by decide +kernel
theorem d_M_load_114 : decode prog_14_method_78_code 114 = .ok (.iconst 3, 1) := by decide +kernel
theorem d_M_load_115 : decode prog_14_method_78_code 115 = .ok (.if_icmp .eq 13, 3) := by decide +kernel
theorem d_M_load_128 : decode prog_14_method_78_code 128 = .ok (.aload_n 0, 1) := by decide +kernel
theorem d_M_load_129 : decode prog_14_method_78_code 129 = .ok (.iload 4, 2) := by decide +kernel
theorem d_M_load_131 : decode prog_14_method_78_code 131 = .ok (.iload 6, 2) := by decide +kernel
theorem d_M_load_133 : decode prog_14_method_78_code 133 = .ok (.iload 5, 2) := by decide +kernel
theorem d_M_load_135 : decode prog_14_method_78_code 135 = .ok (.invokevirtual 422, 3) := by decide +kernel
theorem u_2176 : Cond.methodLink "FilterGuardModel" 422 ⟨"FilterGuardModel", "loadStack", "(III)I"⟩ ∈ fg_g := fg_in (List.mem_of_getElem? (i := 2176) (by decide +kernel)) rfl
theorem u_2179 : Cond.code ⟨"FilterGuardModel", "loadStack", "(III)I"⟩ prog_14_method_79_code 6 (some .int) ∈ fg_g := fg_in (List.mem_of_getElem? (i := 2179) (by decide +kernel)) rfl
theorem u_2178 : Cond.instanceMethod ⟨"FilterGuardModel", "loadStack", "(III)I"⟩ ∈ fg_g := fg_in (List.mem_of_getElem? (i := 2178) (by decide +kernel)) rfl
theorem u_119 : Cond.selects "FilterGuardModel" ⟨"FilterGuardModel", "loadStack", "(III)I"⟩ ⟨"FilterGuardModel", "loadStack", "(III)I"⟩ ∈ fg_g := fg_in (List.mem_of_getElem? (i := 119) (by decide +kernel)) rfl
theorem d_M_load_138 : decode prog_14_method_78_code 138 = .ok (.ireturn, 1) := by decide +kernel
theorem d_M_load_118 : decode prog_14_method_78_code 118 = .ok (.aload_n 0, 1) := by decide +kernel
theorem d_M_load_119 : decode prog_14_method_78_code 119 = .ok (.iload 4, 2) := by decide +kernel
theorem d_M_load_121 : decode prog_14_method_78_code 121 = .ok (.iload 5, 2) := by decide +kernel
theorem d_M_load_123 : decode prog_14_method_78_code 123 = .ok (.invokevirtual 419, 3) := by decide +kernel
theorem d_M_load_126 : decode prog_14_method_78_code 126 = .ok (.iconst 0, 1) := by decide +kernel
theorem d_M_load_127 : decode prog_14_method_78_code 127 = .ok (.ireturn, 1) := by decide +kernel
theorem d_M_load_0 : decode prog_14_method_78_code 0 = .ok (.lload_n 1, 1) := by decide +kernel
theorem d_M_load_1 : decode prog_14_method_78_code 1 = .ok (.invokestatic 318, 3) := by decide +kernel
theorem d_M_load_4 : decode prog_14_method_78_code 4 = .ok (.istore_n 3, 1) := by decide +kernel
theorem d_M_load_5 : decode prog_14_method_78_code 5 = .ok (.lload_n 1, 1) := by decide +kernel
theorem d_M_load_6 : decode prog_14_method_78_code 6 = .ok (.invokestatic 315, 3) := by decide +kernel
theorem d_M_load_9 : decode prog_14_method_78_code 9 = .ok (.istore 4, 2) := by decide +kernel
theorem d_M_load_11 : decode prog_14_method_78_code 11 = .ok (.lload_n 1, 1) := by decide +kernel
theorem d_M_load_12 : decode prog_14_method_78_code 12 = .ok (.invokestatic 308, 3) := by decide +kernel
theorem d_M_load_15 : decode prog_14_method_78_code 15 = .ok (.invokestatic 412, 3) := by decide +kernel
theorem u_2120 : Cond.methodLink "FilterGuardModel" 412 ⟨"FilterGuardModel", "widthOf", "(I)I"⟩ ∈ fg_g := fg_in (List.mem_of_getElem? (i := 2120) (by decide +kernel)) rfl
theorem u_2122 : Cond.code ⟨"FilterGuardModel", "widthOf", "(I)I"⟩ prog_14_method_51_code 2 (some .int) ∈ fg_g := fg_in (List.mem_of_getElem? (i := 2122) (by decide +kernel)) rfl
theorem u_2121 : Cond.static ⟨"FilterGuardModel", "widthOf", "(I)I"⟩ ∈ fg_g := fg_in (List.mem_of_getElem? (i := 2121) (by decide +kernel)) rfl
theorem d_M_load_18 : decode prog_14_method_78_code 18 = .ok (.istore 5, 2) := by decide +kernel
theorem d_M_load_20 : decode prog_14_method_78_code 20 = .ok (.aload_n 0, 1) := by decide +kernel
theorem d_M_load_21 : decode prog_14_method_78_code 21 = .ok (.getfield 89, 3) := by decide +kernel
theorem d_M_load_24 : decode prog_14_method_78_code 24 = .ok (.iload_n 3, 1) := by decide +kernel
theorem d_M_load_25 : decode prog_14_method_78_code 25 = .ok (.baload, 1) := by decide +kernel
theorem d_M_load_26 : decode prog_14_method_78_code 26 = .ok (.ifCond .ne 6, 3) := by decide +kernel
theorem d_M_load_32 : decode prog_14_method_78_code 32 = .ok (.aload_n 0, 1) := by decide +kernel
theorem d_M_load_33 : decode prog_14_method_78_code 33 = .ok (.getfield 92, 3) := by decide +kernel
theorem d_M_load_36 : decode prog_14_method_78_code 36 = .ok (.iload_n 3, 1) := by decide +kernel
theorem d_M_load_37 : decode prog_14_method_78_code 37 = .ok (.iaload, 1) := by decide +kernel
theorem d_M_load_38 : decode prog_14_method_78_code 38 = .ok (.lload_n 1, 1) := by decide +kernel
theorem d_M_load_39 : decode prog_14_method_78_code 39 = .ok (.invokestatic 321, 3) := by decide +kernel
theorem d_M_load_42 : decode prog_14_method_78_code 42 = .ok (.iadd, 1) := by decide +kernel
theorem d_M_load_43 : decode prog_14_method_78_code 43 = .ok (.istore 6, 2) := by decide +kernel
theorem d_M_load_45 : decode prog_14_method_78_code 45 = .ok (.aload_n 0, 1) := by decide +kernel
theorem d_M_load_46 : decode prog_14_method_78_code 46 = .ok (.iload_n 3, 1) := by decide +kernel
theorem d_M_load_47 : decode prog_14_method_78_code 47 = .ok (.iload 6, 2) := by decide +kernel
theorem d_M_load_49 : decode prog_14_method_78_code 49 = .ok (.i2l, 1) := by decide +kernel
theorem d_M_load_50 : decode prog_14_method_78_code 50 = .ok (.iload 5, 2) := by decide +kernel
theorem d_M_load_52 : decode prog_14_method_78_code 52 = .ok (.iconst 1, 1) := by decide +kernel
theorem d_M_load_53 : decode prog_14_method_78_code 53 = .ok (.invokevirtual 415, 3) := by decide +kernel
theorem u_2123 : Cond.methodLink "FilterGuardModel" 415 ⟨"FilterGuardModel", "memoryFault", "(IJIZ)I"⟩ ∈ fg_g := fg_in (List.mem_of_getElem? (i := 2123) (by decide +kernel)) rfl
theorem u_2126 : Cond.code ⟨"FilterGuardModel", "memoryFault", "(IJIZ)I"⟩ prog_14_method_77_code 6 (some .int) ∈ fg_g := fg_in (List.mem_of_getElem? (i := 2126) (by decide +kernel)) rfl
theorem u_2125 : Cond.instanceMethod ⟨"FilterGuardModel", "memoryFault", "(IJIZ)I"⟩ ∈ fg_g := fg_in (List.mem_of_getElem? (i := 2125) (by decide +kernel)) rfl
theorem u_109 : Cond.selects "FilterGuardModel" ⟨"FilterGuardModel", "memoryFault", "(IJIZ)I"⟩ ⟨"FilterGuardModel", "memoryFault", "(IJIZ)I"⟩ ∈ fg_g := fg_in (List.mem_of_getElem? (i := 109) (by decide +kernel)) rfl
theorem d_M_load_56 : decode prog_14_method_78_code 56 = .ok (.istore 7, 2) := by decide +kernel
theorem d_M_load_58 : decode prog_14_method_78_code 58 = .ok (.iload 7, 2) := by decide +kernel
theorem d_M_load_60 : decode prog_14_method_78_code 60 = .ok (.ifCond .le 6, 3) := by decide +kernel
theorem d_M_load_66 : decode prog_14_method_78_code 66 = .ok (.aload_n 0, 1) := by decide +kernel
theorem d_M_load_67 : decode prog_14_method_78_code 67 = .ok (.getfield 89, 3) := by decide +kernel
theorem d_M_load_70 : decode prog_14_method_78_code 70 = .ok (.iload_n 3, 1) := by decide +kernel
theorem d_M_load_71 : decode prog_14_method_78_code 71 = .ok (.baload, 1) := by decide +kernel
theorem d_M_load_72 : decode prog_14_method_78_code 72 = .ok (.iconst 2, 1) := by decide +kernel
theorem d_M_load_73 : decode prog_14_method_78_code 73 = .ok (.if_icmp .ne 35, 3) := by decide +kernel
theorem d_M_load_76 : decode prog_14_method_78_code 76 = .ok (.iload 6, 2) := by decide +kernel
theorem d_M_load_78 : decode prog_14_method_78_code 78 = .ok (.bipush 16, 2) := by decide +kernel
theorem d_M_load_80 : decode prog_14_method_78_code 80 = .ok (.if_icmp .ge 28, 3) := by decide +kernel
theorem d_M_load_83 : decode prog_14_method_78_code 83 = .ok (.aload_n 0, 1) := by decide +kernel
theorem d_M_load_84 : decode prog_14_method_78_code 84 = .ok (.iload 4, 2) := by decide +kernel
theorem d_M_load_86 : decode prog_14_method_78_code 86 = .ok (.iload 6, 2) := by decide +kernel
theorem d_M_load_88 : decode prog_14_method_78_code 88 = .ok (.ifCond .ne 7, 3) := by decide +kernel
theorem d_M_load_95 : decode prog_14_method_78_code 95 = .ok (.iconst 5, 1) := by decide +kernel
theorem d_M_load_96 : decode prog_14_method_78_code 96 = .ok (.invokevirtual 366, 3) := by decide +kernel
theorem d_M_load_99 : decode prog_14_method_78_code 99 = .ok (.aload_n 0, 1) := by decide +kernel
theorem d_M_load_100 : decode prog_14_method_78_code 100 = .ok (.iload 4, 2) := by decide +kernel
theorem d_M_load_102 : decode prog_14_method_78_code 102 = .ok (.lconst 0, 1) := by decide +kernel
theorem d_M_load_103 : decode prog_14_method_78_code 103 = .ok (.invokevirtual 195, 3) := by decide +kernel
theorem d_M_load_106 : decode prog_14_method_78_code 106 = .ok (.iconst 0, 1) := by decide +kernel
theorem d_M_load_107 : decode prog_14_method_78_code 107 = .ok (.ireturn, 1) := by decide +kernel
theorem d_M_load_91 : decode prog_14_method_78_code 91 = .ok (.iconst 4, 1) := by decide +kernel
theorem d_M_load_92 : decode prog_14_method_78_code 92 = .ok (.goto 4, 3) := by decide +kernel
theorem d_M_load_63 : decode prog_14_method_78_code 63 = .ok (.iload 7, 2) := by decide +kernel
theorem d_M_load_65 : decode prog_14_method_78_code 65 = .ok (.ireturn, 1) := by decide +kernel
theorem d_M_load_29 : decode prog_14_method_78_code 29 = .ok (.bipush 10, 2) := by decide +kernel
theorem d_M_load_31 : decode prog_14_method_78_code 31 = .ok (.ireturn, 1) := by decide +kernel
abbrev y_M_load : MethodName := ⟨"FilterGuardModel", "load", "(J)I"⟩
def rm_M_load : Room := { frames := 7, cells := 0, slots := 0, locals := 158 }
abbrev q_M_load (D : va_G) (ad : Nat → Nat → Nat) (ca : Nat → ClassId) (N : Nat → Nat) (M0 MZ : me_M) (RZ : Int32) (A : Nat → Prop) : Array Value → Jvm.State → Outcome → Jvm.State → Prop := va_Qi (fun r (_ : Unit) => r = RZ ∧ me_wf N MZ ∧ me_kp M0 MZ) (fg_B D A (fun _ => me_W ad ca MZ) (fun _ => [])) A
set_option maxHeartbeats 4000000 in
set_option maxRecDepth 100000 in
theorem c_M_load (l : Launch) (D : va_G) (ad : Nat → Nat → Nat) (ca : Nat → ClassId) (N : Nat → Nat) (M0 MZ : me_M) (RZ : Int32) (j0 : Nat) (x1 : Int64) (h : f_M_load M0 j0 x1 = (some (MZ, RZ))) (hwf : me_wf N M0) (hj0 : j0 < N 1) (sz : Nat) : Met l y_M_load (fg_w y_M_load prog_14_method_78_code 8 (some .int)) rm_M_load (va_Pc [.ref (ad 1 j0), .long x1] (fz_P D (me_T ca) (me_W ad ca M0) sz)) (q_M_load D ad ca N M0 MZ RZ (va_A (me_W ad ca M0) sz)) rm_M_load.cells rm_M_load.slots (va_A (me_W ad ca M0) sz) := by
  refine fz_enter (fun A => q_M_load D ad ca N M0 MZ RZ A) (by decide +kernel) (Nat.le_of_ble_eq_true rfl) ?_
  intro p e s m below meth c ls A hx hb hml hown hts hr hlocks hin hP hK hD hS hA hX hl hz
  have hl : lv_has ls 8 [(0, .ref (ad 1 j0)), (1, .long x1)] := hl
  unfold f_M_load at h
  have hkp : me_kp M0 M0 := me_kp.rf
  have hkb := hkp
  have b_108 : ∀ (M : me_M) (y3 : Int32) (y4 : Int32) (y5 : Int32) (y6 : Int32) (H : Heap) (locs : List Loc) (ls : Array Slot), f_M_load_b108 j0 M y3 y4 y5 y6 = (some (MZ, RZ)) → me_wf N M → me_kp M0 M → va_P D classes (me_W ad ca M) H → va_D A (me_W ad ca M) → va_S A s.heap H locs → lv_has ls 8 [(0, .ref (ad 1 j0)), (3, .int y3), (4, .int y4), (5, .int y5), (6, .int y6)] → W p l e rm_M_load s m [.ref (ad 1 j0), .long x1].toArray below meth c H locs 0 0 (MQ below (q_M_load D ad ca N M0 MZ RZ A) [.ref (ad 1 j0), .long x1].toArray s rm_M_load.cells rm_M_load.slots A) (F0 m 108 ls []) := by
    intro M y3 y4 y5 y6 H locs ls h hwf hkp hP hD hS hl
    unfold f_M_load_b108 at h
    have hkb := hkp
    refine lv_aload_n hx hb d_M_load_108 rfl (lv_at hl 0 rfl) ?_
    refine g_M_47 hx hb hts hown hK hP hwf hj0 (hts _ u_1788) d_M_load_109 ?_
    obtain ⟨j1, e2, h⟩ := bd_ob h
    have hj1 : j1 < N 14 := (hwf.2.1 1 j0 47 _ e2 (by decide) hj0)
    refine me_opt (j := j1) e2 ?_
    refine lv_iload_n hx hb d_M_load_112 rfl (lv_at hl 1 rfl) ?_
    obtain ⟨g3, h⟩ := gd_ob h
    refine me_bald hx hb hK hP hwf hj1 g3 d_M_load_113 ?_
    refine lv_iconst (v := 3) hx hb d_M_load_114 (by decide) ?_
    refine lv_icmp_eq (tgt := 128) hx hb d_M_load_115 (by decide) (fun c4 => ?_) (fun c4 => ?_)
    · have h := if_t c4 h
      refine lv_aload_n hx hb d_M_load_128 rfl (lv_at hl 0 rfl) ?_
      refine lv_iload hx hb d_M_load_129 (lv_at hl 2 rfl) ?_
      refine lv_iload hx hb d_M_load_131 (lv_at hl 4 rfl) ?_
      refine lv_iload hx hb d_M_load_133 (lv_at hl 3 rfl) ?_
      obtain ⟨M5, r6, eM5, h⟩ := b2_ob h
      refine me_theni0 (M1 := M5) (me_runV (C := "FilterGuardModel") (As := [.int y4, .int y6, .int y5]) (rest := []) ⟨hx, hb, hml, hown, hts⟩ (c_M_loadStack l D ad ca N M M5 r6 j0 y4 y6 y5 eM5 hwf hj0 _) rfl (by show fg_nm y_M_loadStack 3; decide +kernel) u_2176 u_2178 u_119 u_192 u_2179 ⟨Nat.le_of_ble_eq_true rfl, Nat.le_of_ble_eq_true rfl⟩ hX hz hK hP hD hwf hS hA hj0 (by decide) rfl rfl rfl hl.1 (Nat.le_of_ble_eq_true rfl) d_M_load_135 ⟨Nat.le_of_ble_eq_true rfl, Nat.le_of_ble_eq_true rfl⟩) hP hD hK hS hA rfl rfl (fun H locs hw hP hD hS => ?_)
      obtain ⟨hwf, hk9⟩ := hw
      have hkp := hkp.tr hk9
      exact me_reti (me_kp M0) h hx hb hr hlocks hwf hkp hP hK hD hS d_M_load_138
    have h := if_f c4 h
    refine lv_aload_n hx hb d_M_load_118 rfl (lv_at hl 0 rfl) ?_
    refine lv_iload hx hb d_M_load_119 (lv_at hl 2 rfl) ?_
    refine lv_iload hx hb d_M_load_121 (lv_at hl 3 rfl) ?_
    obtain ⟨M7, eM7, h⟩ := bd_ob h
    refine me_thenv0 (M1 := M7) (me_runV (C := "FilterGuardModel") (As := [.int y4, .int y5]) (rest := []) ⟨hx, hb, hml, hown, hts⟩ (c_M_toRead l D ad ca N M M7 j0 y4 y5 eM7 hwf hj0 _) rfl (by show fg_nm y_M_toRead 2; decide +kernel) u_2130 u_2132 u_110 u_192 u_2133 ⟨Nat.le_of_ble_eq_true rfl, Nat.le_of_ble_eq_true rfl⟩ hX hz hK hP hD hwf hS hA hj0 (by decide) rfl rfl rfl hl.1 (Nat.le_of_ble_eq_true rfl) d_M_load_123 ⟨Nat.le_of_ble_eq_true rfl, Nat.le_of_ble_eq_true rfl⟩) hP hD hK hS hA rfl rfl (fun H locs hw hP hD hS => ?_)
    obtain ⟨hwf, hk9⟩ := hw
    have hkp := hkp.tr hk9
    refine lv_iconst (v := 0) hx hb d_M_load_126 (by decide) ?_
    exact me_reti (me_kp M0) h hx hb hr hlocks hwf hkp hP hK hD hS d_M_load_127
  refine lv_lload_n hx hb d_M_load_0 rfl (lv_at hl 1 rfl) ?_
  obtain ⟨r8, er8, h⟩ := bd_ob h
  refine me_pani' (r0 := r8) (fg_runS (wc := []) (tc := []) (A2 := A) (As := [.long x1]) (rest := []) ⟨hx, hb, hml, hown, hts⟩ (c_M_fromOf l D r8 x1 er8 _) (by show fg_nm y_M_fromOf 1; decide +kernel) u_2010 u_2011 u_192 u_2012 ⟨Nat.le_of_ble_eq_true rfl, Nat.le_of_ble_eq_true rfl⟩ hX me_P0 (hK.sub (tys' := []) [] rfl) me_D0 rfl hl.1 (Nat.le_of_ble_eq_true rfl) d_M_load_1 ⟨Nat.le_of_ble_eq_true rfl, Nat.le_of_ble_eq_true rfl⟩) hP hD hK hS hA rfl rfl (fun H locs hw hP hD hS => ?_)
  refine lv_istore_n (lv' := [(3, .int r8), (0, .ref (ad 1 j0)), (1, .long x1)]) hx hb d_M_load_4 rfl hl (by decide) rfl (fun ls hl => ?_)
  refine lv_lload_n hx hb d_M_load_5 rfl (lv_at hl 2 rfl) ?_
  obtain ⟨r9, er9, h⟩ := bd_ob h
  refine me_pani' (r0 := r9) (fg_runS (wc := []) (tc := []) (A2 := A) (As := [.long x1]) (rest := []) ⟨hx, hb, hml, hown, hts⟩ (c_M_toOf l D r9 x1 er9 _) (by show fg_nm y_M_toOf 1; decide +kernel) u_2006 u_2007 u_192 u_2008 ⟨Nat.le_of_ble_eq_true rfl, Nat.le_of_ble_eq_true rfl⟩ hX me_P0 (hK.sub (tys' := []) [] rfl) me_D0 rfl hl.1 (Nat.le_of_ble_eq_true rfl) d_M_load_6 ⟨Nat.le_of_ble_eq_true rfl, Nat.le_of_ble_eq_true rfl⟩) hP hD hK hS hA rfl rfl (fun H locs hw hP hD hS => ?_)
  refine lv_istore (lv' := [(4, .int r9), (3, .int r8), (0, .ref (ad 1 j0)), (1, .long x1)]) hx hb d_M_load_9 hl (by decide) rfl (fun ls hl => ?_)
  refine lv_lload_n hx hb d_M_load_11 rfl (lv_at hl 3 rfl) ?_
  obtain ⟨r10, er10, h⟩ := bd_ob h
  refine me_pani' (r0 := r10) (fg_runS (wc := []) (tc := []) (A2 := A) (As := [.long x1]) (rest := []) ⟨hx, hb, hml, hown, hts⟩ (c_M_opOf l D r10 x1 er10 _) (by show fg_nm y_M_opOf 1; decide +kernel) u_1997 u_1998 u_192 u_1999 ⟨Nat.le_of_ble_eq_true rfl, Nat.le_of_ble_eq_true rfl⟩ hX me_P0 (hK.sub (tys' := []) [] rfl) me_D0 rfl hl.1 (Nat.le_of_ble_eq_true rfl) d_M_load_12 ⟨Nat.le_of_ble_eq_true rfl, Nat.le_of_ble_eq_true rfl⟩) hP hD hK hS hA rfl rfl (fun H locs hw hP hD hS => ?_)
  obtain ⟨r11, er11, h⟩ := bd_ob h
  refine me_pani' (r0 := r11) (fg_runS (wc := []) (tc := []) (A2 := A) (As := [.int r10]) (rest := []) ⟨hx, hb, hml, hown, hts⟩ (c_M_widthOf l D r11 r10 er11 _) (by show fg_nm y_M_widthOf 1; decide +kernel) u_2120 u_2121 u_192 u_2122 ⟨Nat.le_of_ble_eq_true rfl, Nat.le_of_ble_eq_true rfl⟩ hX me_P0 (hK.sub (tys' := []) [] rfl) me_D0 rfl hl.1 (Nat.le_of_ble_eq_true rfl) d_M_load_15 ⟨Nat.le_of_ble_eq_true rfl, Nat.le_of_ble_eq_true rfl⟩) hP hD hK hS hA rfl rfl (fun H locs hw hP hD hS => ?_)
  refine lv_istore (lv' := [(5, .int r11), (4, .int r9), (3, .int r8), (0, .ref (ad 1 j0)), (1, .long x1)]) hx hb d_M_load_18 hl (by decide) rfl (fun ls hl => ?_)
  refine lv_aload_n hx hb d_M_load_20 rfl (lv_at hl 3 rfl) ?_
  refine g_M_47 hx hb hts hown hK hP hwf hj0 (hts _ u_1788) d_M_load_21 ?_
  obtain ⟨j12, e13, h⟩ := bd_ob h
  have hj12 : j12 < N 14 := (hwf.2.1 1 j0 47 _ e13 (by decide) hj0)
  refine me_opt (j := j12) e13 ?_
  refine lv_iload_n hx hb d_M_load_24 rfl (lv_at hl 2 rfl) ?_
  obtain ⟨g14, h⟩ := gd_ob h
  refine me_bald hx hb hK hP hwf hj12 g14 d_M_load_25 ?_
  refine lv_if_ne (tgt := 32) hx hb d_M_load_26 (by decide) (fun c15 => ?_) (fun c15 => ?_)
  · have h := if_f c15 h
    refine lv_aload_n hx hb d_M_load_32 rfl (lv_at hl 3 rfl) ?_
    refine g_M_48 hx hb hts hown hK hP hwf hj0 (hts _ u_1789) d_M_load_33 ?_
    obtain ⟨j16, e17, h⟩ := bd_ob h
    have hj16 : j16 < N 13 := (hwf.2.1 1 j0 48 _ e17 (by decide) hj0)
    refine me_opt (j := j16) e17 ?_
    refine lv_iload_n hx hb d_M_load_36 rfl (lv_at hl 2 rfl) ?_
    obtain ⟨g18, h⟩ := gd_ob h
    refine me_iald hx hb hK hP hwf hj16 g18 d_M_load_37 ?_
    refine lv_lload_n hx hb d_M_load_38 rfl (lv_at hl 4 rfl) ?_
    obtain ⟨r19, er19, h⟩ := bd_ob h
    refine me_pani' (r0 := r19) (fg_runS (wc := []) (tc := []) (A2 := A) (As := [.long x1]) (rest := [.int (mI M0 13 j16 r8.toNatClampNeg)]) ⟨hx, hb, hml, hown, hts⟩ (c_M_offsetOf l D r19 x1 er19 _) (by show fg_nm y_M_offsetOf 1; decide +kernel) u_2013 u_2014 u_192 u_2015 ⟨Nat.le_of_ble_eq_true rfl, Nat.le_of_ble_eq_true rfl⟩ hX me_P0 (hK.sub (tys' := []) [] rfl) me_D0 rfl hl.1 (Nat.le_of_ble_eq_true rfl) d_M_load_39 ⟨Nat.le_of_ble_eq_true rfl, Nat.le_of_ble_eq_true rfl⟩) hP hD hK hS hA rfl rfl (fun H locs hw hP hD hS => ?_)
    refine lv_iadd hx hb d_M_load_42 ?_
    obtain ⟨v20, ev20, h⟩ := st_ob h
    refine fg_topi (y := v20) ev20.symm ?_
    refine lv_istore (lv' := [(6, .int v20), (5, .int r11), (4, .int r9), (3, .int r8), (0, .ref (ad 1 j0)), (1, .long x1)]) hx hb d_M_load_43 hl (by decide) rfl (fun ls hl => ?_)
    refine lv_aload_n hx hb d_M_load_45 rfl (lv_at hl 4 rfl) ?_
    refine lv_iload_n hx hb d_M_load_46 rfl (lv_at hl 3 rfl) ?_
    refine lv_iload hx hb d_M_load_47 (lv_at hl 0 rfl) ?_
    refine lv_i2l (v := v20.toInt64) hx hb d_M_load_49 rfl ?_
    refine lv_iload hx hb d_M_load_50 (lv_at hl 1 rfl) ?_
    refine lv_iconst (v := 1) hx hb d_M_load_52 (by decide) ?_
    obtain ⟨M21, r22, eM21, h⟩ := b2_ob h
    refine me_theni0 (M1 := M21) (me_runV (C := "FilterGuardModel") (As := [.int r8, .long v20.toInt64, .int r11, .int 1]) (rest := []) ⟨hx, hb, hml, hown, hts⟩ (c_M_memoryFault l D ad ca N M0 M21 r22 j0 r8 v20.toInt64 r11 (1 : Int32) eM21 hwf hj0 (by decide) _) rfl (by show fg_nm y_M_memoryFault 4; decide +kernel) u_2123 u_2125 u_109 u_192 u_2126 ⟨Nat.le_of_ble_eq_true rfl, Nat.le_of_ble_eq_true rfl⟩ hX hz hK hP hD hwf hS hA hj0 (by decide) rfl rfl rfl hl.1 (Nat.le_of_ble_eq_true rfl) d_M_load_53 ⟨Nat.le_of_ble_eq_true rfl, Nat.le_of_ble_eq_true rfl⟩) hP hD hK hS hA rfl rfl (fun H locs hw hP hD hS => ?_)
    obtain ⟨hwf, hk9⟩ := hw
    have hkp := hkp.tr hk9
    refine lv_istore (lv' := [(7, .int r22), (6, .int v20), (5, .int r11), (4, .int r9), (3, .int r8), (0, .ref (ad 1 j0)), (1, .long x1)]) hx hb d_M_load_56 hl (by decide) rfl (fun ls hl => ?_)
    refine lv_iload hx hb d_M_load_58 (lv_at hl 0 rfl) ?_
    refine lv_if_le (tgt := 66) hx hb d_M_load_60 (by decide) (fun c23 => ?_) (fun c23 => ?_)
    · have h := if_t c23 h
      refine lv_aload_n hx hb d_M_load_66 rfl (lv_at hl 5 rfl) ?_
      refine g_M_47 hx hb hts hown hK hP hwf hj0 (hts _ u_1788) d_M_load_67 ?_
      refine me_opt (j := j12) (kp_r hkb hkp e13) ?_
      refine lv_iload_n hx hb d_M_load_70 rfl (lv_at hl 4 rfl) ?_
      refine me_bald hx hb hK hP hwf hj12 (kp_z hkb.z hkp.z g14) d_M_load_71 ?_
      refine lv_iconst (v := 2) hx hb d_M_load_72 (by decide) ?_
      refine lv_icmp_ne (tgt := 108) hx hb d_M_load_73 (by decide) (fun c24 => ?_) (fun c24 => ?_)
      · have h := if_f c24 h
        exact b_108 M21 r8 r9 r11 v20 _ _ _ h hwf hkp hP hD hS (lv_sub hl [5, 4, 3, 2, 1] rfl)
      have h := if_t c24 h
      refine lv_iload hx hb d_M_load_76 (lv_at hl 1 rfl) ?_
      refine lv_bipush (v := 16) hx hb d_M_load_78 (by decide) ?_
      refine lv_icmp_ge (tgt := 108) hx hb d_M_load_80 (by decide) (fun c25 => ?_) (fun c25 => ?_)
      · have h := if_t c25 h
        exact b_108 M21 r8 r9 r11 v20 _ _ _ h hwf hkp hP hD hS (lv_sub hl [5, 4, 3, 2, 1] rfl)
      have h := if_f c25 h
      refine lv_aload_n hx hb d_M_load_83 rfl (lv_at hl 5 rfl) ?_
      refine lv_iload hx hb d_M_load_84 (lv_at hl 3 rfl) ?_
      refine lv_iload hx hb d_M_load_86 (lv_at hl 1 rfl) ?_
      refine lv_if_ne (tgt := 95) hx hb d_M_load_88 (by decide) (fun c26 => ?_) (fun c26 => ?_)
      · have h := if_f c26 h
        refine lv_iconst (v := 5) hx hb d_M_load_95 (by decide) ?_
        obtain ⟨M27, eM27, h⟩ := bd_ob h
        refine me_thenv0 (M1 := M27) (me_runV (C := "FilterGuardModel") (As := [.int r9, .int 5]) (rest := []) ⟨hx, hb, hml, hown, hts⟩ (c_M_setKind l D ad ca N M21 M27 j0 r9 (5 : Int32) eM27 hwf hj0 _) rfl (by show fg_nm y_M_setKind 2; decide +kernel) u_2044 u_2046 u_92 u_192 u_2047 ⟨Nat.le_of_ble_eq_true rfl, Nat.le_of_ble_eq_true rfl⟩ hX hz hK hP hD hwf hS hA hj0 (by decide) rfl rfl rfl hl.1 (Nat.le_of_ble_eq_true rfl) d_M_load_96 ⟨Nat.le_of_ble_eq_true rfl, Nat.le_of_ble_eq_true rfl⟩) hP hD hK hS hA rfl rfl (fun H locs hw hP hD hS => ?_)
        obtain ⟨hwf, hk9⟩ := hw
        have hkp := hkp.tr hk9
        refine lv_aload_n hx hb d_M_load_99 rfl (lv_at hl 5 rfl) ?_
        refine lv_iload hx hb d_M_load_100 (lv_at hl 3 rfl) ?_
        refine lv_lconst (v := 0) hx hb d_M_load_102 (by decide) ?_
        obtain ⟨M28, eM28, h⟩ := bd_ob h
        refine me_thenv0 (M1 := M28) (me_runV (C := "FilterGuardModel") (As := [.int r9, .long 0]) (rest := []) ⟨hx, hb, hml, hown, hts⟩ (c_M_setExact l D ad ca N M27 M28 j0 r9 (0 : Int64) eM28 hwf hj0 _) rfl (by show fg_nm y_M_setExact 2; decide +kernel) u_2108 u_2110 u_106 u_192 u_2111 ⟨Nat.le_of_ble_eq_true rfl, Nat.le_of_ble_eq_true rfl⟩ hX hz hK hP hD hwf hS hA hj0 (by decide) rfl rfl rfl hl.1 (Nat.le_of_ble_eq_true rfl) d_M_load_103 ⟨Nat.le_of_ble_eq_true rfl, Nat.le_of_ble_eq_true rfl⟩) hP hD hK hS hA rfl rfl (fun H locs hw hP hD hS => ?_)
        obtain ⟨hwf, hk9⟩ := hw
        have hkp := hkp.tr hk9
        refine lv_iconst (v := 0) hx hb d_M_load_106 (by decide) ?_
        exact me_reti (me_kp M0) h hx hb hr hlocks hwf hkp hP hK hD hS d_M_load_107
      have h := if_t c26 h
      refine lv_iconst (v := 4) hx hb d_M_load_91 (by decide) ?_
      refine lv_goto (tgt := 96) hx hb d_M_load_92 (by decide) ?_
      obtain ⟨M29, eM29, h⟩ := bd_ob h
      refine me_thenv0 (M1 := M29) (me_runV (C := "FilterGuardModel") (As := [.int r9, .int 4]) (rest := []) ⟨hx, hb, hml, hown, hts⟩ (c_M_setKind l D ad ca N M21 M29 j0 r9 (4 : Int32) eM29 hwf hj0 _) rfl (by show fg_nm y_M_setKind 2; decide +kernel) u_2044 u_2046 u_92 u_192 u_2047 ⟨Nat.le_of_ble_eq_true rfl, Nat.le_of_ble_eq_true rfl⟩ hX hz hK hP hD hwf hS hA hj0 (by decide) rfl rfl rfl hl.1 (Nat.le_of_ble_eq_true rfl) d_M_load_96 ⟨Nat.le_of_ble_eq_true rfl, Nat.le_of_ble_eq_true rfl⟩) hP hD hK hS hA rfl rfl (fun H locs hw hP hD hS => ?_)
      obtain ⟨hwf, hk9⟩ := hw
      have hkp := hkp.tr hk9
      refine lv_aload_n hx hb d_M_load_99 rfl (lv_at hl 5 rfl) ?_
      refine lv_iload hx hb d_M_load_100 (lv_at hl 3 rfl) ?_
      refine lv_lconst (v := 0) hx hb d_M_load_102 (by decide) ?_
      obtain ⟨M30, eM30, h⟩ := bd_ob h
      refine me_thenv0 (M1 := M30) (me_runV (C := "FilterGuardModel") (As := [.int r9, .long 0]) (rest := []) ⟨hx, hb, hml, hown, hts⟩ (c_M_setExact l D ad ca N M29 M30 j0 r9 (0 : Int64) eM30 hwf hj0 _) rfl (by show fg_nm y_M_setExact 2; decide +kernel) u_2108 u_2110 u_106 u_192 u_2111 ⟨Nat.le_of_ble_eq_true rfl, Nat.le_of_ble_eq_true rfl⟩ hX hz hK hP hD hwf hS hA hj0 (by decide) rfl rfl rfl hl.1 (Nat.le_of_ble_eq_true rfl) d_M_load_103 ⟨Nat.le_of_ble_eq_true rfl, Nat.le_of_ble_eq_true rfl⟩) hP hD hK hS hA rfl rfl (fun H locs hw hP hD hS => ?_)
      obtain ⟨hwf, hk9⟩ := hw
      have hkp := hkp.tr hk9
      refine lv_iconst (v := 0) hx hb d_M_load_106 (by decide) ?_
      exact me_reti (me_kp M0) h hx hb hr hlocks hwf hkp hP hK hD hS d_M_load_107
    have h := if_f c23 h
    refine lv_iload hx hb d_M_load_63 (lv_at hl 0 rfl) ?_
    exact me_reti (me_kp M0) h hx hb hr hlocks hwf hkp hP hK hD hS d_M_load_65
  have h := if_t c15 h
  refine lv_bipush (v := 10) hx hb d_M_load_29 (by decide) ?_
  exact me_reti (me_kp M0) h hx hb hr hlocks hwf hkp hP hK hD hS d_M_load_31
