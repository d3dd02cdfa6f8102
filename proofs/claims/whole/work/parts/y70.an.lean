theorem d_Num_isExact0_0 : decode prog_8_method_7_code 0 = .ok (.aload_n 0, 1) := by decide +kernel
theorem d_Num_isExact0_1 : decode prog_8_method_7_code 1 = .ok (.getfield 15, 3) := by decide +kernel
theorem d_Num_isExact0_4 : decode prog_8_method_7_code 4 = .ok (.lconst 0, 1) := by decide +kernel
theorem d_Num_isExact0_5 : decode prog_8_method_7_code 5 = .ok (.lcmp, 1) := by decide +kernel
theorem d_Num_isExact0_6 : decode prog_8_method_7_code 6 = .ok (.ifCond .ne 7, 3) := by decide +kernel
theorem d_Num_isExact0_13 : decode prog_8_method_7_code 13 = .ok (.iconst 0, 1) := by decide +kernel
theorem d_Num_isExact0_14 : decode prog_8_method_7_code 14 = .ok (.ireturn, 1) := by decide +kernel
theorem d_Num_isExact0_9 : decode prog_8_method_7_code 9 = .ok (.iconst 1, 1) := by decide +kernel
theorem d_Num_isExact0_10 : decode prog_8_method_7_code 10 = .ok (.goto 4, 3) := by decide +kernel
abbrev y_Num_isExact0 : MethodName := ⟨"FilterGuard$Num", "isExact", "()Z"⟩
def rm_Num_isExact0 : Room := { frames := 1, cells := 0, slots := 0, locals := 20 }
abbrev q_Num_isExact0 (D : va_G) (ad : Nat → Nat → Nat) (ca : Nat → ClassId) (N : Nat → Nat) (M0 MZ : me_M) (RZ : Int32) (A : Nat → Prop) : Array Value → Jvm.State → Outcome → Jvm.State → Prop := va_Qi (fun r (_ : Unit) => r = RZ ∧ me_wf N MZ ∧ me_kp M0 MZ ∧ (RZ = 1 ∨ RZ = 0)) (fg_B D A (fun _ => me_W ad ca MZ) (fun _ => [])) A
set_option maxHeartbeats 4000000 in
set_option maxRecDepth 100000 in
theorem c_Num_isExact0 (l : Launch) (D : va_G) (ad : Nat → Nat → Nat) (ca : Nat → ClassId) (N : Nat → Nat) (M0 MZ : me_M) (RZ : Int32) (j0 : Nat) (h : f_Num_isExact0 M0 j0 = (some (MZ, RZ))) (hwf : me_wf N M0) (hj0 : j0 < N 11) (sz : Nat) : Met l y_Num_isExact0 (fg_w y_Num_isExact0 prog_8_method_7_code 1 (some .boolean)) rm_Num_isExact0 (va_Pc [.ref (ad 11 j0)] (fz_P D (me_T ca) (me_W ad ca M0) sz)) (q_Num_isExact0 D ad ca N M0 MZ RZ (va_A (me_W ad ca M0) sz)) rm_Num_isExact0.cells rm_Num_isExact0.slots (va_A (me_W ad ca M0) sz) := by
  refine fz_enter (fun A => q_Num_isExact0 D ad ca N M0 MZ RZ A) (by decide +kernel) (Nat.le_of_ble_eq_true rfl) ?_
  intro p e s m below meth c ls A hx hb hml hown hts hr hlocks hin hP hK hD hS hA hX hl hz
  have hl : lv_has ls 1 [(0, .ref (ad 11 j0))] := hl
  unfold f_Num_isExact0 at h
  have hkp : me_kp M0 M0 := me_kp.rf
  have hkb := hkp
  refine lv_aload_n hx hb d_Num_isExact0_0 rfl (lv_at hl 0 rfl) ?_
  refine g_Num_1 hx hb hts hown hK hP hwf hj0 (hts _ u_371) d_Num_isExact0_1 ?_
  refine lv_lconst (v := 0) hx hb d_Num_isExact0_4 (by decide) ?_
  refine W.lcmp hx hb d_Num_isExact0_5 ?_
  refine lv_if_ne (tgt := 13) hx hb d_Num_isExact0_6 (by decide) (fun c1 => ?_) (fun c1 => ?_)
  · have h := if_f (fun z => c1 ((lg_cmp_eq _ _).mpr z)) h
    refine lv_iconst (v := 0) hx hb d_Num_isExact0_13 (by decide) ?_
    exact me_retz (me_kp M0) h (by decide) hx hb hr hlocks hwf hkp hP hK hD hS d_Num_isExact0_14
  have h := if_t ((lg_cmp_eq _ _).mp c1) h
  refine lv_iconst (v := 1) hx hb d_Num_isExact0_9 (by decide) ?_
  refine lv_goto (tgt := 14) hx hb d_Num_isExact0_10 (by decide) ?_
  exact me_retz (me_kp M0) h (by decide) hx hb hr hlocks hwf hkp hP hK hD hS d_Num_isExact0_14
theorem d_Long_bitCount_0 : decode prog_20_method_50_code 0 = .ok (.lload_n 0, 1) := by decide +kernel
theorem d_Long_bitCount_1 : decode prog_20_method_50_code 1 = .ok (.lload_n 0, 1) := by decide +kernel
theorem d_Long_bitCount_2 : decode prog_20_method_50_code 2 = .ok (.iconst 1, 1) := by decide +kernel
theorem d_Long_bitCount_3 : decode prog_20_method_50_code 3 = .ok (.lushr, 1) := by decide +kernel
theorem d_Long_bitCount_4 : decode prog_20_method_50_code 4 = .ok (.ldc2_w 314, 3) := by decide +kernel
theorem u_1169 : Cond.constantLong "java/lang/Long" 314 6148914691236517205 ∈ fg_g := fg_in (List.mem_of_getElem? (i := 1169) (by decide +kernel)) rfl
theorem d_Long_bitCount_7 : decode prog_20_method_50_code 7 = .ok (.land, 1) := by decide +kernel
theorem d_Long_bitCount_8 : decode prog_20_method_50_code 8 = .ok (.lsub, 1) := by decide +kernel
theorem d_Long_bitCount_9 : decode prog_20_method_50_code 9 = .ok (.lstore_n 0, 1) := by decide +kernel
theorem d_Long_bitCount_10 : decode prog_20_method_50_code 10 = .ok (.lload_n 0, 1) := by decide +kernel
theorem d_Long_bitCount_11 : decode prog_20_method_50_code 11 = .ok (.ldc2_w 316, 3) := by decide +kernel
theorem u_1170 : Cond.constantLong "java/lang/Long" 316 3689348814741910323 ∈ fg_g := fg_in (List.mem_of_getElem? (i := 1170) (by decide +kernel)) rfl
theorem d_Long_bitCount_14 : decode prog_20_method_50_code 14 = .ok (.land, 1) := by decide +kernel
theorem d_Long_bitCount_15 : decode prog_20_method_50_code 15 = .ok (.lload_n 0, 1) := by decide +kernel
theorem d_Long_bitCount_16 : decode prog_20_method_50_code 16 = .ok (.iconst 2, 1) := by decide +kernel
theorem d_Long_bitCount_17 : decode prog_20_method_50_code 17 = .ok (.lushr, 1) := by decide +kernel
theorem d_Long_bitCount_18 : decode prog_20_method_50_code 18 = .ok (.ldc2_w 316, 3) := by decide +kernel
theorem d_Long_bitCount_21 : decode prog_20_method_50_code 21 = .ok (.land, 1) := by decide +kernel
theorem d_Long_bitCount_22 : decode prog_20_method_50_code 22 = .ok (.ladd, 1) := by decide +kernel
theorem d_Long_bitCount_23 : decode prog_20_method_50_code 23 = .ok (.lstore_n 0, 1) := by decide +kernel
theorem d_Long_bitCount_24 : decode prog_20_method_50_code 24 = .ok (.lload_n 0, 1) := by decide +kernel
theorem d_Long_bitCount_25 : decode prog_20_method_50_code 25 = .ok (.lload_n 0, 1) := by decide +kernel
theorem d_Long_bitCount_26 : decode prog_20_method_50_code 26 = .ok (.iconst 4, 1) := by decide +kernel
theorem d_Long_bitCount_27 : decode prog_20_method_50_code 27 = .ok (.lushr, 1) := by decide +kernel
theorem d_Long_bitCount_28 : decode prog_20_method_50_code 28 = .ok (.ladd, 1) := by decide +kernel
theorem d_Long_bitCount_29 : decode prog_20_method_50_code 29 = .ok (.ldc2_w 318, 3) := by decide +kernel
theorem u_1171 : Cond.constantLong "java/lang/Long" 318 1085102592571150095 ∈ fg_g := fg_in (List.mem_of_getElem? (i := 1171) (by decide +kernel)) rfl
theorem d_Long_bitCount_32 : decode prog_20_method_50_code 32 = .ok (.land, 1) := by decide +kernel
theorem d_Long_bitCount_33 : decode prog_20_method_50_code 33 = .ok (.lstore_n 0, 1) := by decide +kernel
theorem d_Long_bitCount_34 : decode prog_20_method_50_code 34 = .ok (.lload_n 0, 1) := by decide +kernel
theorem d_Long_bitCount_35 : decode prog_20_method_50_code 35 = .ok (.lload_n 0, 1) := by decide +kernel
theorem d_Long_bitCount_36 : decode prog_20_method_50_code 36 = .ok (.bipush 8, 2) := by decide +kernel
theorem d_Long_bitCount_38 : decode prog_20_method_50_code 38 = .ok (.lushr, 1) := by decide +kernel
theorem d_Long_bitCount_39 : decode prog_20_method_50_code 39 = .ok (.ladd, 1) := by decide +kernel
theorem d_Long_bitCount_40 : decode prog_20_method_50_code 40 = .ok (.lstore_n 0, 1) := by decide +kernel
theorem d_Long_bitCount_41 : decode prog_20_method_50_code 41 = .ok (.lload_n 0, 1) := by decide +kernel
theorem d_Long_bitCount_42 : decode prog_20_method_50_code 42 = .ok (.lload_n 0, 1) := by decide +kernel
theorem d_Long_bitCount_43 : decode prog_20_method_50_code 43 = .ok (.bipush 16, 2) := by decide +kernel
theorem d_Long_bitCount_45 : decode prog_20_method_50_code 45 = .ok (.lushr, 1) := by decide +kernel
theorem d_Long_bitCount_46 : decode prog_20_method_50_code 46 = .ok (.ladd, 1) := by decide +kernel
theorem d_Long_bitCount_47 : decode prog_20_method_50_code 47 = .ok (.lstore_n 0, 1) := by decide +kernel
theorem d_Long_bitCount_48 : decode prog_20_method_50_code 48 = .ok (.lload_n 0, 1) := by decide +kernel
theorem d_Long_bitCount_49 : decode prog_20_method_50_code 49 = .ok (.lload_n 0, 1) := by decide +kernel
theorem d_Long_bitCount_50 : decode prog_20_method_50_code 50 = .ok (.bipush 32, 2) := by decide +kernel
theorem d_Long_bitCount_52 : decode prog_20_method_50_code 52 = .ok (.lushr, 1) := by decide +kernel
theorem d_Long_bitCount_53 : decode prog_20_method_50_code 53 = .ok (.ladd, 1) := by decide +kernel
theorem d_Long_bitCount_54 : decode prog_20_method_50_code 54 = .ok (.lstore_n 0, 1) := by decide +kernel
theorem d_Long_bitCount_55 : decode prog_20_method_50_code 55 = .ok (.lload_n 0, 1) := by decide +kernel
theorem d_Long_bitCount_56 : decode prog_20_method_50_code 56 = .ok (.l2i, 1) := by decide +kernel
theorem d_Long_bitCount_57 : decode prog_20_method_50_code 57 = .ok (.bipush 127, 2) := by decide +kernel
theorem d_Long_bitCount_59 : decode prog_20_method_50_code 59 = .ok (.iand, 1) := by decide +kernel
theorem d_Long_bitCount_60 : decode prog_20_method_50_code 60 = .ok (.ireturn, 1) := by decide +kernel
abbrev y_Long_bitCount : MethodName := ⟨"java/lang/Long", "bitCount", "(J)I"⟩
def rm_Long_bitCount : Room := { frames := 1, cells := 0, slots := 0, locals := 20 }
abbrev q_Long_bitCount (D : va_G) (RZ : Int32) (A : Nat → Prop) : Array Value → Jvm.State → Outcome → Jvm.State → Prop := va_Qi (fun r (_ : Unit) => r = RZ ∧ True) (fg_B D A (fun _ => []) (fun _ => [])) A
set_option maxHeartbeats 4000000 in
set_option maxRecDepth 100000 in
theorem c_Long_bitCount (l : Launch) (D : va_G) (RZ : Int32) (x0 : Int64) (h : f_Long_bitCount x0 = (some RZ)) (sz : Nat) : Met l y_Long_bitCount (fg_w y_Long_bitCount prog_20_method_50_code 2 (some .int)) rm_Long_bitCount (va_Pc [.long x0] (fg_P D [] [] sz)) (q_Long_bitCount D RZ (va_A [] sz)) rm_Long_bitCount.cells rm_Long_bitCount.slots (va_A [] sz) := by
  refine fg_enter (fun A => q_Long_bitCount D RZ A) (by decide +kernel) (Nat.le_of_ble_eq_true rfl) ?_
  intro p e s m below meth c ls A hx hb hml hown hts hr hlocks hin hP hK hD hS hA hX hl
  have hl : lv_has ls 2 [(0, .long x0)] := hl
  unfold f_Long_bitCount at h
  refine lv_lload_n hx hb d_Long_bitCount_0 rfl (lv_at hl 0 rfl) ?_
  refine lv_lload_n hx hb d_Long_bitCount_1 rfl (lv_at hl 0 rfl) ?_
  refine lv_iconst (v := 1) hx hb d_Long_bitCount_2 (by decide) ?_
  refine lv_lushr (v := jlushr x0 (1 : Int32)) hx hb d_Long_bitCount_3 rfl ?_
  refine lv_ldc2 hx hb hown (hts _ u_1169) d_Long_bitCount_4 ?_
  refine lv_land hx hb d_Long_bitCount_7 ?_
  refine lv_lsub hx hb d_Long_bitCount_8 ?_
  obtain ⟨v1, ev1, h⟩ := st_ob h
  refine fg_topl (y := v1) ev1.symm ?_
  refine lv_lstore_n (lv' := [(0, .long v1)]) hx hb d_Long_bitCount_9 rfl hl (by decide) rfl (fun ls hl => ?_)
  refine lv_lload_n hx hb d_Long_bitCount_10 rfl (lv_at hl 0 rfl) ?_
  refine lv_ldc2 hx hb hown (hts _ u_1170) d_Long_bitCount_11 ?_
  refine lv_land hx hb d_Long_bitCount_14 ?_
  refine lv_lload_n hx hb d_Long_bitCount_15 rfl (lv_at hl 0 rfl) ?_
  refine lv_iconst (v := 2) hx hb d_Long_bitCount_16 (by decide) ?_
  refine lv_lushr (v := jlushr v1 (2 : Int32)) hx hb d_Long_bitCount_17 rfl ?_
  refine lv_ldc2 hx hb hown (hts _ u_1170) d_Long_bitCount_18 ?_
  refine lv_land hx hb d_Long_bitCount_21 ?_
  refine lv_ladd hx hb d_Long_bitCount_22 ?_
  obtain ⟨v2, ev2, h⟩ := st_ob h
  refine fg_topl (y := v2) ev2.symm ?_
  refine lv_lstore_n (lv' := [(0, .long v2)]) hx hb d_Long_bitCount_23 rfl hl (by decide) rfl (fun ls hl => ?_)
  refine lv_lload_n hx hb d_Long_bitCount_24 rfl (lv_at hl 0 rfl) ?_
  refine lv_lload_n hx hb d_Long_bitCount_25 rfl (lv_at hl 0 rfl) ?_
  refine lv_iconst (v := 4) hx hb d_Long_bitCount_26 (by decide) ?_
  refine lv_lushr (v := jlushr v2 (4 : Int32)) hx hb d_Long_bitCount_27 rfl ?_
  refine lv_ladd hx hb d_Long_bitCount_28 ?_
  refine lv_ldc2 hx hb hown (hts _ u_1171) d_Long_bitCount_29 ?_
  refine lv_land hx hb d_Long_bitCount_32 ?_
  obtain ⟨v3, ev3, h⟩ := st_ob h
  refine fg_topl (y := v3) ev3.symm ?_
  refine lv_lstore_n (lv' := [(0, .long v3)]) hx hb d_Long_bitCount_33 rfl hl (by decide) rfl (fun ls hl => ?_)
  refine lv_lload_n hx hb d_Long_bitCount_34 rfl (lv_at hl 0 rfl) ?_
  refine lv_lload_n hx hb d_Long_bitCount_35 rfl (lv_at hl 0 rfl) ?_
  refine lv_bipush (v := 8) hx hb d_Long_bitCount_36 (by decide) ?_
  refine lv_lushr (v := jlushr v3 (8 : Int32)) hx hb d_Long_bitCount_38 rfl ?_
  refine lv_ladd hx hb d_Long_bitCount_39 ?_
  obtain ⟨v4, ev4, h⟩ := st_ob h
  refine fg_topl (y := v4) ev4.symm ?_
  refine lv_lstore_n (lv' := [(0, .long v4)]) hx hb d_Long_bitCount_40 rfl hl (by decide) rfl (fun ls hl => ?_)
  refine lv_lload_n hx hb d_Long_bitCount_41 rfl (lv_at hl 0 rfl) ?_
  refine lv_lload_n hx hb d_Long_bitCount_42 rfl (lv_at hl 0 rfl) ?_
  refine lv_bipush (v := 16) hx hb d_Long_bitCount_43 (by decide) ?_
  refine lv_lushr (v := jlushr v4 (16 : Int32)) hx hb d_Long_bitCount_45 rfl ?_
  refine lv_ladd hx hb d_Long_bitCount_46 ?_
  obtain ⟨v5, ev5, h⟩ := st_ob h
  refine fg_topl (y := v5) ev5.symm ?_
  refine lv_lstore_n (lv' := [(0, .long v5)]) hx hb d_Long_bitCount_47 rfl hl (by decide) rfl (fun ls hl => ?_)
  refine lv_lload_n hx hb d_Long_bitCount_48 rfl (lv_at hl 0 rfl) ?_
  refine lv_lload_n hx hb d_Long_bitCount_49 rfl (lv_at hl 0 rfl) ?_
  refine lv_bipush (v := 32) hx hb d_Long_bitCount_50 (by decide) ?_
  refine lv_lushr (v := jlushr v5 (32 : Int32)) hx hb d_Long_bitCount_52 rfl ?_
  refine lv_ladd hx hb d_Long_bitCount_53 ?_
  obtain ⟨v6, ev6, h⟩ := st_ob h
  refine fg_topl (y := v6) ev6.symm ?_
  refine lv_lstore_n (lv' := [(0, .long v6)]) hx hb d_Long_bitCount_54 rfl hl (by decide) rfl (fun ls hl => ?_)
  refine lv_lload_n hx hb d_Long_bitCount_55 rfl (lv_at hl 0 rfl) ?_
  refine lv_l2i (v := v6.toInt32) hx hb d_Long_bitCount_56 rfl ?_
  refine lv_bipush (v := 127) hx hb d_Long_bitCount_57 (by decide) ?_
  refine lv_iand hx hb d_Long_bitCount_59 ?_
  exact me_preti h hx hb hr hlocks hK hS d_Long_bitCount_60
theorem d_Num_lowestZeros_0 : decode prog_8_method_14_code 0 = .ok (.aload_n 0, 1) := by decide +kernel
theorem d_Num_lowestZeros_1 : decode prog_8_method_14_code 1 = .ok (.getfield 9, 3) := by decide +kernel
theorem d_Num_lowestZeros_4 : decode prog_8_method_14_code 4 = .ok (.aload_n 0, 1) := by decide +kernel
theorem d_Num_lowestZeros_5 : decode prog_8_method_14_code 5 = .ok (.getfield 15, 3) := by decide +kernel
theorem d_Num_lowestZeros_8 : decode prog_8_method_14_code 8 = .ok (.lor, 1) := by decide +kernel
theorem d_Num_lowestZeros_9 : decode prog_8_method_14_code 9 = .ok (.lstore_n 1, 1) := by decide +kernel
theorem d_Num_lowestZeros_10 : decode prog_8_method_14_code 10 = .ok (.lload_n 1, 1) := by decide +kernel
theorem d_Num_lowestZeros_11 : decode prog_8_method_14_code 11 = .ok (.ldc2_w 30, 3) := by decide +kernel
theorem d_Num_lowestZeros_14 : decode prog_8_method_14_code 14 = .ok (.lxor, 1) := by decide +kernel
theorem d_Num_lowestZeros_15 : decode prog_8_method_14_code 15 = .ok (.lload_n 1, 1) := by decide +kernel
theorem d_Num_lowestZeros_16 : decode prog_8_method_14_code 16 = .ok (.lconst 1, 1) := by decide +kernel
theorem d_Num_lowestZeros_17 : decode prog_8_method_14_code 17 = .ok (.lsub, 1) := by decide +kernel
theorem d_Num_lowestZeros_18 : decode prog_8_method_14_code 18 = .ok (.land, 1) := by decide +kernel
theorem d_Num_lowestZeros_19 : decode prog_8_method_14_code 19 = .ok (.invokestatic 60, 3) := by decide +kernel
theorem u_1166 : Cond.methodLink "FilterGuard$Num" 60 ⟨"java/lang/Long", "bitCount", "(J)I"⟩ ∈ fg_g := fg_in (List.mem_of_getElem? (i := 1166) (by decide +kernel)) rfl
theorem u_202 : Cond.initialized "java/lang/Long" ∈ fg_g := fg_in (List.mem_of_getElem? (i := 202) (by decide +kernel)) rfl
theorem u_1168 : Cond.code ⟨"java/lang/Long", "bitCount", "(J)I"⟩ prog_20_method_50_code 2 (some .int) ∈ fg_g := fg_in (List.mem_of_getElem? (i := 1168) (by decide +kernel)) rfl
theorem u_1167 : Cond.static ⟨"java/lang/Long", "bitCount", "(J)I"⟩ ∈ fg_g := fg_in (List.mem_of_getElem? (i := 1167) (by decide +kernel)) rfl
theorem d_Num_lowestZeros_22 : decode prog_8_method_14_code 22 = .ok (.ireturn, 1) := by decide +kernel
abbrev y_Num_lowestZeros : MethodName := ⟨"FilterGuard$Num", "lowestZeros", "()I"⟩
def rm_Num_lowestZeros : Room := { frames := 2, cells := 0, slots := 0, locals := 41 }
abbrev q_Num_lowestZeros (D : va_G) (ad : Nat → Nat → Nat) (ca : Nat → ClassId) (N : Nat → Nat) (M0 MZ : me_M) (RZ : Int32) (A : Nat → Prop) : Array Value → Jvm.State → Outcome → Jvm.State → Prop := va_Qi (fun r (_ : Unit) => r = RZ ∧ me_wf N MZ ∧ me_kp M0 MZ) (fg_B D A (fun _ => me_W ad ca MZ) (fun _ => [])) A
set_option maxHeartbeats 4000000 in
set_option maxRecDepth 100000 in
theorem c_Num_lowestZeros (l : Launch) (D : va_G) (ad : Nat → Nat → Nat) (ca : Nat → ClassId) (N : Nat → Nat) (M0 MZ : me_M) (RZ : Int32) (j0 : Nat) (h : f_Num_lowestZeros M0 j0 = (some (MZ, RZ))) (hwf : me_wf N M0) (hj0 : j0 < N 11) (sz : Nat) : Met l y_Num_lowestZeros (fg_w y_Num_lowestZeros prog_8_method_14_code 3 (some .int)) rm_Num_lowestZeros (va_Pc [.ref (ad 11 j0)] (fz_P D (me_T ca) (me_W ad ca M0) sz)) (q_Num_lowestZeros D ad ca N M0 MZ RZ (va_A (me_W ad ca M0) sz)) rm_Num_lowestZeros.cells rm_Num_lowestZeros.slots (va_A (me_W ad ca M0) sz) := by
  refine fz_enter (fun A => q_Num_lowestZeros D ad ca N M0 MZ RZ A) (by decide +kernel) (Nat.le_of_ble_eq_true rfl) ?_
  intro p e s m below meth c ls A hx hb hml hown hts hr hlocks hin hP hK hD hS hA hX hl hz
  have hl : lv_has ls 3 [(0, .ref (ad 11 j0))] := hl
  unfold f_Num_lowestZeros at h
  have hkp : me_kp M0 M0 := me_kp.rf
  have hkb := hkp
  refine lv_aload_n hx hb d_Num_lowestZeros_0 rfl (lv_at hl 0 rfl) ?_
  refine g_Num_0 hx hb hts hown hK hP hwf hj0 (hts _ u_367) d_Num_lowestZeros_1 ?_
  refine lv_aload_n hx hb d_Num_lowestZeros_4 rfl (lv_at hl 0 rfl) ?_
  refine g_Num_1 hx hb hts hown hK hP hwf hj0 (hts _ u_371) d_Num_lowestZeros_5 ?_
  refine lv_lor hx hb d_Num_lowestZeros_8 ?_
  obtain ⟨v1, ev1, h⟩ := st_ob h
  refine fg_topl (y := v1) ev1.symm ?_
  refine lv_lstore_n (lv' := [(1, .long v1), (0, .ref (ad 11 j0))]) hx hb d_Num_lowestZeros_9 rfl hl (by decide) rfl (fun ls hl => ?_)
  refine lv_lload_n hx hb d_Num_lowestZeros_10 rfl (lv_at hl 0 rfl) ?_
  refine lv_ldc2 hx hb hown (hts _ u_1061) d_Num_lowestZeros_11 ?_
  refine lv_lxor hx hb d_Num_lowestZeros_14 ?_
  refine lv_lload_n hx hb d_Num_lowestZeros_15 rfl (lv_at hl 0 rfl) ?_
  refine lv_lconst (v := 1) hx hb d_Num_lowestZeros_16 (by decide) ?_
  refine lv_lsub hx hb d_Num_lowestZeros_17 ?_
  refine lv_land hx hb d_Num_lowestZeros_18 ?_
  obtain ⟨r2, er2, h⟩ := bd_ob h
  refine me_pani' (r0 := r2) (fg_runS (wc := []) (tc := []) (A2 := A) (As := [.long ((v1 ^^^ (-1)) &&& (v1 - 1))]) (rest := []) ⟨hx, hb, hml, hown, hts⟩ (c_Long_bitCount l D r2 ((v1 ^^^ (-1)) &&& (v1 - 1)) er2 _) (by show fg_nm y_Long_bitCount 1; decide +kernel) u_1166 u_1167 u_202 u_1168 ⟨Nat.le_of_ble_eq_true rfl, Nat.le_of_ble_eq_true rfl⟩ hX me_P0 (hK.sub (tys' := []) [] rfl) me_D0 rfl hl.1 (Nat.le_of_ble_eq_true rfl) d_Num_lowestZeros_19 ⟨Nat.le_of_ble_eq_true rfl, Nat.le_of_ble_eq_true rfl⟩) hP hD hK hS hA rfl rfl (fun H locs hw hP hD hS => ?_)
  exact me_reti (me_kp M0) h hx hb hr hlocks hwf hkp hP hK hD hS d_Num_lowestZeros_22
theorem d_Num_isAbove_0 : decode prog_8_method_10_code 0 = .ok (.aload_n 0, 1) := by decide +kernel
theorem d_Num_isAbove_1 : decode prog_8_method_10_code 1 = .ok (.getfield 21, 3) := by decide +kernel
theorem d_Num_isAbove_4 : decode prog_8_method_10_code 4 = .ok (.ldc2_w 32, 3) := by decide +kernel
theorem d_Num_isAbove_7 : decode prog_8_method_10_code 7 = .ok (.lxor, 1) := by decide +kernel
theorem d_Num_isAbove_8 : decode prog_8_method_10_code 8 = .ok (.lload_n 1, 1) := by decide +kernel
theorem d_Num_isAbove_9 : decode prog_8_method_10_code 9 = .ok (.ldc2_w 32, 3) := by decide +kernel
theorem d_Num_isAbove_12 : decode prog_8_method_10_code 12 = .ok (.lxor, 1) := by decide +kernel
theorem d_Num_isAbove_13 : decode prog_8_method_10_code 13 = .ok (.lcmp, 1) := by decide +kernel
theorem d_Num_isAbove_14 : decode prog_8_method_10_code 14 = .ok (.ifCond .le 7, 3) := by decide +kernel
theorem d_Num_isAbove_21 : decode prog_8_method_10_code 21 = .ok (.iconst 0, 1) := by decide +kernel
theorem d_Num_isAbove_22 : decode prog_8_method_10_code 22 = .ok (.ireturn, 1) := by decide +kernel
theorem d_Num_isAbove_17 : decode prog_8_method_10_code 17 = .ok (.iconst 1, 1) := by decide +kernel
theorem d_Num_isAbove_18 : decode prog_8_method_10_code 18 = .ok (.goto 4, 3) := by decide +kernel
abbrev y_Num_isAbove : MethodName := ⟨"FilterGuard$Num", "isAbove", "(J)Z"⟩
def rm_Num_isAbove : Room := { frames := 1, cells := 0, slots := 0, locals := 20 }
abbrev q_Num_isAbove (D : va_G) (ad : Nat → Nat → Nat) (ca : Nat → ClassId) (N : Nat → Nat) (M0 MZ : me_M) (RZ : Int32) (A : Nat → Prop) : Array Value → Jvm.State → Outcome → Jvm.State → Prop := va_Qi (fun r (_ : Unit) => r = RZ ∧ me_wf N MZ ∧ me_kp M0 MZ ∧ (RZ = 1 ∨ RZ = 0)) (fg_B D A (fun _ => me_W ad ca MZ) (fun _ => [])) A
set_option maxHeartbeats 4000000 in
set_option maxRecDepth 100000 in
theorem c_Num_isAbove (l : Launch) (D : va_G) (ad : Nat → Nat → Nat) (ca : Nat → ClassId) (N : Nat → Nat) (M0 MZ : me_M) (RZ : Int32) (j0 : Nat) (x1 : Int64) (h : f_Num_isAbove M0 j0 x1 = (some (MZ, RZ))) (hwf : me_wf N M0) (hj0 : j0 < N 11) (sz : Nat) : Met l y_Num_isAbove (fg_w y_Num_isAbove prog_8_method_10_code 3 (some .boolean)) rm_Num_isAbove (va_Pc [.ref (ad 11 j0), .long x1] (fz_P D (me_T ca) (me_W ad ca M0) sz)) (q_Num_isAbove D ad ca N M0 MZ RZ (va_A (me_W ad ca M0) sz)) rm_Num_isAbove.cells rm_Num_isAbove.slots (va_A (me_W ad ca M0) sz) := by
  refine fz_enter (fun A => q_Num_isAbove D ad ca N M0 MZ RZ A) (by decide +kernel) (Nat.le_of_ble_eq_true rfl) ?_
  intro p e s m below meth c ls A hx hb hml hown hts hr hlocks hin hP hK hD hS hA hX hl hz
  have hl : lv_has ls 3 [(0, .ref (ad 11 j0)), (1, .long x1)] := hl
  unfold f_Num_isAbove at h
  have hkp : me_kp M0 M0 := me_kp.rf
  have hkb := hkp
  refine lv_aload_n hx hb d_Num_isAbove_0 rfl (lv_at hl 0 rfl) ?_
  refine g_Num_3 hx hb hts hown hK hP hwf hj0 (hts _ u_376) d_Num_isAbove_1 ?_
  refine lv_ldc2 hx hb hown (hts _ u_1065) d_Num_isAbove_4 ?_
  refine lv_lxor hx hb d_Num_isAbove_7 ?_
  refine lv_lload_n hx hb d_Num_isAbove_8 rfl (lv_at hl 1 rfl) ?_
  refine lv_ldc2 hx hb hown (hts _ u_1065) d_Num_isAbove_9 ?_
  refine lv_lxor hx hb d_Num_isAbove_12 ?_
  refine W.lcmp hx hb d_Num_isAbove_13 ?_
  refine lv_if_le (tgt := 21) hx hb d_Num_isAbove_14 (by decide) (fun c1 => ?_) (fun c1 => ?_)
  · have h := if_f (Int64.not_lt.mpr ((lg_cmp_le _ _).mp c1)) h
    refine lv_iconst (v := 0) hx hb d_Num_isAbove_21 (by decide) ?_
    exact me_retz (me_kp M0) h (by decide) hx hb hr hlocks hwf hkp hP hK hD hS d_Num_isAbove_22
  have h := if_t (Int64.not_le.mp (fun z => c1 ((lg_cmp_le _ _).mpr z))) h
  refine lv_iconst (v := 1) hx hb d_Num_isAbove_17 (by decide) ?_
  refine lv_goto (tgt := 22) hx hb d_Num_isAbove_18 (by decide) ?_
  exact me_retz (me_kp M0) h (by decide) hx hb hr hlocks hwf hkp hP hK hD hS d_Num_isAbove_22
theorem d_Reckoner_multiply_61 : decode prog_9_method_9_code 61 = .ok (.invokevirtual 92, 3) := by decide +kernel
theorem d_Reckoner_multiply_64 : decode prog_9_method_9_code 64 = .ok (.aload_n 1, 1) := by decide +kernel
theorem d_Reckoner_multiply_65 : decode prog_9_method_9_code 65 = .ok (.ldc2_w 113, 3) := by decide +kernel
theorem u_1172 : Cond.constantLong "FilterGuard$Reckoner" 113 4294967295 ∈ fg_g := fg_in (List.mem_of_getElem? (i := 1172) (by decide +kernel)) rfl
theorem d_Reckoner_multiply_68 : decode prog_9_method_9_code 68 = .ok (.invokevirtual 61, 3) := by decide +kernel
theorem u_1173 : Cond.methodLink "FilterGuard$Reckoner" 61 ⟨"FilterGuard$Num", "isAbove", "(J)Z"⟩ ∈ fg_g := fg_in (List.mem_of_getElem? (i := 1173) (by decide +kernel)) rfl
theorem u_1176 : Cond.code ⟨"FilterGuard$Num", "isAbove", "(J)Z"⟩ prog_8_method_10_code 3 (some .boolean) ∈ fg_g := fg_in (List.mem_of_getElem? (i := 1176) (by decide +kernel)) rfl
theorem u_1174 : Cond.instanceMethod ⟨"FilterGuard$Num", "isAbove", "(J)Z"⟩ ∈ fg_g := fg_in (List.mem_of_getElem? (i := 1174) (by decide +kernel)) rfl
theorem u_1175 : Cond.selects "FilterGuard$Num" ⟨"FilterGuard$Num", "isAbove", "(J)Z"⟩ ⟨"FilterGuard$Num", "isAbove", "(J)Z"⟩ ∈ fg_g := fg_in (List.mem_of_getElem? (i := 1175) (by decide +kernel)) rfl
theorem d_Reckoner_multiply_71 : decode prog_9_method_9_code 71 = .ok (.ifCond .ne 38, 3) := by decide +kernel
theorem d_Reckoner_multiply_109 : decode prog_9_method_9_code 109 = .ok (.return_, 1) := by decide +kernel
theorem d_Reckoner_multiply_74 : decode prog_9_method_9_code 74 = .ok (.aload_n 2, 1) := by decide +kernel
theorem d_Reckoner_multiply_75 : decode prog_9_method_9_code 75 = .ok (.ldc2_w 113, 3) := by decide +kernel
theorem d_Reckoner_multiply_78 : decode prog_9_method_9_code 78 = .ok (.invokevirtual 61, 3) := by decide +kernel
theorem d_Reckoner_multiply_81 : decode prog_9_method_9_code 81 = .ok (.ifCond .ne 28, 3) := by decide +kernel
theorem d_Reckoner_multiply_84 : decode prog_9_method_9_code 84 = .ok (.aload_n 0, 1) := by decide +kernel
theorem d_Reckoner_multiply_85 : decode prog_9_method_9_code 85 = .ok (.getfield 21, 3) := by decide +kernel
theorem d_Reckoner_multiply_88 : decode prog_9_method_9_code 88 = .ok (.aload_n 1, 1) := by decide +kernel
theorem d_Reckoner_multiply_89 : decode prog_9_method_9_code 89 = .ok (.getfield 96, 3) := by decide +kernel
theorem d_Reckoner_multiply_92 : decode prog_9_method_9_code 92 = .ok (.aload_n 2, 1) := by decide +kernel
theorem d_Reckoner_multiply_93 : decode prog_9_method_9_code 93 = .ok (.getfield 96, 3) := by decide +kernel
theorem d_Reckoner_multiply_96 : decode prog_9_method_9_code 96 = .ok (.lmul, 1) := by decide +kernel
theorem d_Reckoner_multiply_97 : decode prog_9_method_9_code 97 = .ok (.aload_n 1, 1) := by decide +kernel
theorem d_Reckoner_multiply_98 : decode prog_9_method_9_code 98 = .ok (.getfield 122, 3) := by decide +kernel
theorem d_Reckoner_multiply_101 : decode prog_9_method_9_code 101 = .ok (.aload_n 2, 1) := by decide +kernel
theorem d_Reckoner_multiply_102 : decode prog_9_method_9_code 102 = .ok (.getfield 122, 3) := by decide +kernel
theorem d_Reckoner_multiply_105 : decode prog_9_method_9_code 105 = .ok (.lmul, 1) := by decide +kernel
theorem d_Reckoner_multiply_106 : decode prog_9_method_9_code 106 = .ok (.invokevirtual 125, 3) := by decide +kernel
theorem d_Reckoner_multiply_31 : decode prog_9_method_9_code 31 = .ok (.aload_n 1, 1) := by decide +kernel
theorem d_Reckoner_multiply_32 : decode prog_9_method_9_code 32 = .ok (.invokevirtual 138, 3) := by decide +kernel
theorem u_1162 : Cond.methodLink "FilterGuard$Reckoner" 138 ⟨"FilterGuard$Num", "lowestZeros", "()I"⟩ ∈ fg_g := fg_in (List.mem_of_getElem? (i := 1162) (by decide +kernel)) rfl
theorem u_1165 : Cond.code ⟨"FilterGuard$Num", "lowestZeros", "()I"⟩ prog_8_method_14_code 3 (some .int) ∈ fg_g := fg_in (List.mem_of_getElem? (i := 1165) (by decide +kernel)) rfl
theorem u_1163 : Cond.instanceMethod ⟨"FilterGuard$Num", "lowestZeros", "()I"⟩ ∈ fg_g := fg_in (List.mem_of_getElem? (i := 1163) (by decide +kernel)) rfl
theorem u_1164 : Cond.selects "FilterGuard$Num" ⟨"FilterGuard$Num", "lowestZeros", "()I"⟩ ⟨"FilterGuard$Num", "lowestZeros", "()I"⟩ ∈ fg_g := fg_in (List.mem_of_getElem? (i := 1164) (by decide +kernel)) rfl
theorem d_Reckoner_multiply_35 : decode prog_9_method_9_code 35 = .ok (.aload_n 2, 1) := by decide +kernel
theorem d_Reckoner_multiply_36 : decode prog_9_method_9_code 36 = .ok (.invokevirtual 138, 3) := by decide +kernel
theorem d_Reckoner_multiply_39 : decode prog_9_method_9_code 39 = .ok (.iadd, 1) := by decide +kernel
theorem d_Reckoner_multiply_40 : decode prog_9_method_9_code 40 = .ok (.istore_n 3, 1) := by decide +kernel
theorem d_Reckoner_multiply_41 : decode prog_9_method_9_code 41 = .ok (.aload_n 0, 1) := by decide +kernel
theorem d_Reckoner_multiply_42 : decode prog_9_method_9_code 42 = .ok (.getfield 21, 3) := by decide +kernel
theorem d_Reckoner_multiply_45 : decode prog_9_method_9_code 45 = .ok (.lconst 0, 1) := by decide +kernel
theorem d_Reckoner_multiply_46 : decode prog_9_method_9_code 46 = .ok (.iload_n 3, 1) := by decide +kernel
theorem d_Reckoner_multiply_47 : decode prog_9_method_9_code 47 = .ok (.bipush 64, 2) := by decide +kernel
theorem d_Reckoner_multiply_49 : decode prog_9_method_9_code 49 = .ok (.if_icmp .lt 7, 3) := by decide +kernel
theorem d_Reckoner_multiply_56 : decode prog_9_method_9_code 56 = .ok (.ldc2_w 90, 3) := by decide +kernel
theorem d_Reckoner_multiply_59 : decode prog_9_method_9_code 59 = .ok (.iload_n 3, 1) := by decide +kernel
theorem d_Reckoner_multiply_60 : decode prog_9_method_9_code 60 = .ok (.lshl, 1) := by decide +kernel
theorem d_Reckoner_multiply_52 : decode prog_9_method_9_code 52 = .ok (.lconst 0, 1) := by decide +kernel
theorem d_Reckoner_multiply_53 : decode prog_9_method_9_code 53 = .ok (.goto 8, 3) := by decide +kernel
theorem d_Reckoner_multiply_0 : decode prog_9_method_9_code 0 = .ok (.aload_n 1, 1) := by decide +kernel
theorem d_Reckoner_multiply_1 : decode prog_9_method_9_code 1 = .ok (.invokevirtual 45, 3) := by decide +kernel
theorem u_1157 : Cond.methodLink "FilterGuard$Reckoner" 45 ⟨"FilterGuard$Num", "isExact", "()Z"⟩ ∈ fg_g := fg_in (List.mem_of_getElem? (i := 1157) (by decide +kernel)) rfl
theorem u_1160 : Cond.code ⟨"FilterGuard$Num", "isExact", "()Z"⟩ prog_8_method_7_code 1 (some .boolean) ∈ fg_g := fg_in (List.mem_of_getElem? (i := 1160) (by decide +kernel)) rfl
theorem u_1158 : Cond.instanceMethod ⟨"FilterGuard$Num", "isExact", "()Z"⟩ ∈ fg_g := fg_in (List.mem_of_getElem? (i := 1158) (by decide +kernel)) rfl
theorem u_1159 : Cond.selects "FilterGuard$Num" ⟨"FilterGuard$Num", "isExact", "()Z"⟩ ⟨"FilterGuard$Num", "isExact", "()Z"⟩ ∈ fg_g := fg_in (List.mem_of_getElem? (i := 1159) (by decide +kernel)) rfl
theorem d_Reckoner_multiply_4 : decode prog_9_method_9_code 4 = .ok (.ifCond .eq 27, 3) := by decide +kernel
theorem d_Reckoner_multiply_7 : decode prog_9_method_9_code 7 = .ok (.aload_n 2, 1) := by decide +kernel
theorem d_Reckoner_multiply_8 : decode prog_9_method_9_code 8 = .ok (.invokevirtual 45, 3) := by decide +kernel
theorem d_Reckoner_multiply_11 : decode prog_9_method_9_code 11 = .ok (.ifCond .eq 20, 3) := by decide +kernel
theorem d_Reckoner_multiply_14 : decode prog_9_method_9_code 14 = .ok (.aload_n 0, 1) := by decide +kernel
theorem d_Reckoner_multiply_15 : decode prog_9_method_9_code 15 = .ok (.getfield 21, 3) := by decide +kernel
theorem d_Reckoner_multiply_18 : decode prog_9_method_9_code 18 = .ok (.aload_n 1, 1) := by decide +kernel
theorem d_Reckoner_multiply_19 : decode prog_9_method_9_code 19 = .ok (.getfield 49, 3) := by decide +kernel
theorem d_Reckoner_multiply_22 : decode prog_9_method_9_code 22 = .ok (.aload_n 2, 1) := by decide +kernel
theorem d_Reckoner_multiply_23 : decode prog_9_method_9_code 23 = .ok (.getfield 49, 3) := by decide +kernel
theorem d_Reckoner_multiply_26 : decode prog_9_method_9_code 26 = .ok (.lmul, 1) := by decide +kernel
theorem d_Reckoner_multiply_27 : decode prog_9_method_9_code 27 = .ok (.invokevirtual 55, 3) := by decide +kernel
theorem u_1161 : Cond.methodLink "FilterGuard$Reckoner" 55 ⟨"FilterGuard$Num", "exact", "(J)V"⟩ ∈ fg_g := fg_in (List.mem_of_getElem? (i := 1161) (by decide +kernel)) rfl
theorem d_Reckoner_multiply_30 : decode prog_9_method_9_code 30 = .ok (.return_, 1) := by decide +kernel
abbrev y_Reckoner_multiply : MethodName := ⟨"FilterGuard$Reckoner", "multiply", "(LFilterGuard$Num;LFilterGuard$Num;)V"⟩
def rm_Reckoner_multiply : Room := { frames := 3, cells := 0, slots := 0, locals := 63 }
abbrev q_Reckoner_multiply (D : va_G) (ad : Nat → Nat → Nat) (ca : Nat → ClassId) (N : Nat → Nat) (M0 MZ : me_M) (A : Nat → Prop) : Array Value → Jvm.State → Outcome → Jvm.State → Prop := va_Qv (fun (_ : Unit) => me_wf N MZ ∧ me_kp M0 MZ) (fg_B D A (fun _ => me_W ad ca MZ) (fun _ => [])) A
set_option maxHeartbeats 4000000 in
set_option maxRecDepth 100000 in
theorem c_Reckoner_multiply (l : Launch) (D : va_G) (ad : Nat → Nat → Nat) (ca : Nat → ClassId) (N : Nat → Nat) (M0 MZ : me_M) (j0 : Nat) (j1 : Nat) (j2 : Nat) (h : f_Reckoner_multiply M0 j0 j1 j2 = (some MZ)) (hwf : me_wf N M0) (hj0 : j0 < N 8) (hj1 : j1 < N 11) (hj2 : j2 < N 11) (sz : Nat) : Met l y_Reckoner_multiply (fg_w y_Reckoner_multiply prog_9_method_9_code 4 none) rm_Reckoner_multiply (va_Pc [.ref (ad 8 j0), .ref (ad 11 j1), .ref (ad 11 j2)] (fz_P D (me_T ca) (me_W ad ca M0) sz)) (q_Reckoner_multiply D ad ca N M0 MZ (va_A (me_W ad ca M0) sz)) rm_Reckoner_multiply.cells rm_Reckoner_multiply.slots (va_A (me_W ad ca M0) sz) := by
  refine fz_enter (fun A => q_Reckoner_multiply D ad ca N M0 MZ A) (by decide +kernel) (Nat.le_of_ble_eq_true rfl) ?_
  intro p e s m below meth c ls A hx hb hml hown hts hr hlocks hin hP hK hD hS hA hX hl hz
  have hl : lv_has ls 4 [(0, .ref (ad 8 j0)), (1, .ref (ad 11 j1)), (2, .ref (ad 11 j2))] := hl
  unfold f_Reckoner_multiply at h
  have hkp : me_kp M0 M0 := me_kp.rf
  have hkb := hkp
  have b_61 : ∀ (M : me_M) (s0 : Int64) (s1 : Int64) (s2 : Nat) (H : Heap) (locs : List Loc) (ls : Array Slot), f_Reckoner_multiply_b61 j0 j1 j2 M s0 s1 s2 = (some MZ) → (s2 < N 11) → me_wf N M → me_kp M0 M → va_P D classes (me_W ad ca M) H → va_D A (me_W ad ca M) → va_S A s.heap H locs → lv_has ls 4 [(0, .ref (ad 8 j0)), (1, .ref (ad 11 j1)), (2, .ref (ad 11 j2))] → W p l e rm_Reckoner_multiply s m [.ref (ad 8 j0), .ref (ad 11 j1), .ref (ad 11 j2)].toArray below meth c H locs 0 0 (MQ below (q_Reckoner_multiply D ad ca N M0 MZ A) [.ref (ad 8 j0), .ref (ad 11 j1), .ref (ad 11 j2)].toArray s rm_Reckoner_multiply.cells rm_Reckoner_multiply.slots A) (F0 m 61 ls [.long s0, .long s1, .ref (ad 11 s2)]) := by
    intro M s0 s1 s2 H locs ls h hs2 hwf hkp hP hD hS hl
    unfold f_Reckoner_multiply_b61 at h
    have hkb := hkp
    obtain ⟨M1, eM1, h⟩ := bd_ob h
    refine me_thenv0 (M1 := M1) (me_runV (C := "FilterGuard$Num") (As := [.long s1, .long s0]) (rest := []) ⟨hx, hb, hml, hown, hts⟩ (c_Num_bits l D ad ca N M M1 s2 s1 s0 eM1 hwf hs2 _) rfl (by show fg_nm y_Num_bits 2; decide +kernel) u_1140 u_1141 u_1142 u_187 u_1143 ⟨Nat.le_of_ble_eq_true rfl, Nat.le_of_ble_eq_true rfl⟩ hX hz hK hP hD hwf hS hA hs2 (by decide) rfl rfl rfl hl.1 (Nat.le_of_ble_eq_true rfl) d_Reckoner_multiply_61 ⟨Nat.le_of_ble_eq_true rfl, Nat.le_of_ble_eq_true rfl⟩) hP hD hK hS hA rfl rfl (fun H locs hw hP hD hS => ?_)
    obtain ⟨hwf, hk9⟩ := hw
    have hkp := hkp.tr hk9
    refine lv_aload_n hx hb d_Reckoner_multiply_64 rfl (lv_at hl 1 rfl) ?_
    refine lv_ldc2 hx hb hown (hts _ u_1172) d_Reckoner_multiply_65 ?_
    obtain ⟨M2, r3, eM2, h⟩ := b2_ob h
    refine me_theni0 (M1 := M2) (me_runV (C := "FilterGuard$Num") (As := [.long 4294967295]) (rest := []) ⟨hx, hb, hml, hown, hts⟩ (c_Num_isAbove l D ad ca N M1 M2 r3 j1 (4294967295 : Int64) eM2 hwf hj1 _) rfl (by show fg_nm y_Num_isAbove 1; decide +kernel) u_1173 u_1174 u_1175 u_187 u_1176 ⟨Nat.le_of_ble_eq_true rfl, Nat.le_of_ble_eq_true rfl⟩ hX hz hK hP hD hwf hS hA hj1 (by decide) rfl rfl rfl hl.1 (Nat.le_of_ble_eq_true rfl) d_Reckoner_multiply_68 ⟨Nat.le_of_ble_eq_true rfl, Nat.le_of_ble_eq_true rfl⟩) hP hD hK hS hA rfl rfl (fun H locs hw hP hD hS => ?_)
    obtain ⟨hwf, hk9, zr3⟩ := hw
    have hkp := hkp.tr hk9
    refine lv_if_ne (tgt := 109) hx hb d_Reckoner_multiply_71 (by decide) (fun c4 => ?_) (fun c4 => ?_)
    · have h := if_f c4 h
      exact me_retv (me_kp M0) h hx hb hr hlocks hwf hkp hP hK hD hS d_Reckoner_multiply_109
    have h := if_t c4 h
    refine lv_aload_n hx hb d_Reckoner_multiply_74 rfl (lv_at hl 2 rfl) ?_
    refine lv_ldc2 hx hb hown (hts _ u_1172) d_Reckoner_multiply_75 ?_
    obtain ⟨M5, r6, eM5, h⟩ := b2_ob h
    refine me_theni0 (M1 := M5) (me_runV (C := "FilterGuard$Num") (As := [.long 4294967295]) (rest := []) ⟨hx, hb, hml, hown, hts⟩ (c_Num_isAbove l D ad ca N M2 M5 r6 j2 (4294967295 : Int64) eM5 hwf hj2 _) rfl (by show fg_nm y_Num_isAbove 1; decide +kernel) u_1173 u_1174 u_1175 u_187 u_1176 ⟨Nat.le_of_ble_eq_true rfl, Nat.le_of_ble_eq_true rfl⟩ hX hz hK hP hD hwf hS hA hj2 (by decide) rfl rfl rfl hl.1 (Nat.le_of_ble_eq_true rfl) d_Reckoner_multiply_78 ⟨Nat.le_of_ble_eq_true rfl, Nat.le_of_ble_eq_true rfl⟩) hP hD hK hS hA rfl rfl (fun H locs hw hP hD hS => ?_)
    obtain ⟨hwf, hk9, zr6⟩ := hw
    have hkp := hkp.tr hk9
    refine lv_if_ne (tgt := 109) hx hb d_Reckoner_multiply_81 (by decide) (fun c7 => ?_) (fun c7 => ?_)
    · have h := if_f c7 h
      exact me_retv (me_kp M0) h hx hb hr hlocks hwf hkp hP hK hD hS d_Reckoner_multiply_109
    have h := if_t c7 h
    refine lv_aload_n hx hb d_Reckoner_multiply_84 rfl (lv_at hl 0 rfl) ?_
    refine g_Reckoner_2 hx hb hts hown hK hP hwf hj0 (hts _ u_398) d_Reckoner_multiply_85 ?_
    obtain ⟨j8, e9, h⟩ := bd_ob h
    have hj8 : j8 < N 11 := (hwf.2.1 8 j0 2 _ (kp_r hkb hkp e9) (by decide) hj0)
    refine me_opt (j := j8) (kp_r hkb hkp e9) ?_
    refine lv_aload_n hx hb d_Reckoner_multiply_88 rfl (lv_at hl 1 rfl) ?_
    refine g_Num_2 hx hb hts hown hK hP hwf hj1 (hts _ u_374) d_Reckoner_multiply_89 ?_
    refine lv_aload_n hx hb d_Reckoner_multiply_92 rfl (lv_at hl 2 rfl) ?_
    refine g_Num_2 hx hb hts hown hK hP hwf hj2 (hts _ u_374) d_Reckoner_multiply_93 ?_
    refine lv_lmul hx hb d_Reckoner_multiply_96 ?_
    refine lv_aload_n hx hb d_Reckoner_multiply_97 rfl (lv_at hl 1 rfl) ?_
    refine g_Num_3 hx hb hts hown hK hP hwf hj1 (hts _ u_377) d_Reckoner_multiply_98 ?_
    refine lv_aload_n hx hb d_Reckoner_multiply_101 rfl (lv_at hl 2 rfl) ?_
    refine g_Num_3 hx hb hts hown hK hP hwf hj2 (hts _ u_377) d_Reckoner_multiply_102 ?_
    refine lv_lmul hx hb d_Reckoner_multiply_105 ?_
    obtain ⟨M10, eM10, h⟩ := bd_ob h
    refine me_thenv0 (M1 := M10) (me_runV (C := "FilterGuard$Num") (As := [.long ((mL M5 11 j1 2) * (mL M5 11 j2 2)), .long ((mL M5 11 j1 3) * (mL M5 11 j2 3))]) (rest := []) ⟨hx, hb, hml, hown, hts⟩ (c_Num_range l D ad ca N M5 M10 j8 ((mL M5 11 j1 2) * (mL M5 11 j2 2)) ((mL M5 11 j1 3) * (mL M5 11 j2 3)) eM10 hwf hj8 _) rfl (by show fg_nm y_Num_range 2; decide +kernel) u_1145 u_1146 u_1147 u_187 u_1148 ⟨Nat.le_of_ble_eq_true rfl, Nat.le_of_ble_eq_true rfl⟩ hX hz hK hP hD hwf hS hA hj8 (by decide) rfl rfl rfl hl.1 (Nat.le_of_ble_eq_true rfl) d_Reckoner_multiply_106 ⟨Nat.le_of_ble_eq_true rfl, Nat.le_of_ble_eq_true rfl⟩) hP hD hK hS hA rfl rfl (fun H locs hw hP hD hS => ?_)
    obtain ⟨hwf, hk9⟩ := hw
    have hkp := hkp.tr hk9
    exact me_retv (me_kp M0) h hx hb hr hlocks hwf hkp hP hK hD hS d_Reckoner_multiply_109
  have b_31 : ∀ (M : me_M) (H : Heap) (locs : List Loc) (ls : Array Slot), f_Reckoner_multiply_b31 j0 j1 j2 M = (some MZ) → me_wf N M → me_kp M0 M → va_P D classes (me_W ad ca M) H → va_D A (me_W ad ca M) → va_S A s.heap H locs → lv_has ls 4 [(0, .ref (ad 8 j0)), (1, .ref (ad 11 j1)), (2, .ref (ad 11 j2))] → W p l e rm_Reckoner_multiply s m [.ref (ad 8 j0), .ref (ad 11 j1), .ref (ad 11 j2)].toArray below meth c H locs 0 0 (MQ below (q_Reckoner_multiply D ad ca N M0 MZ A) [.ref (ad 8 j0), .ref (ad 11 j1), .ref (ad 11 j2)].toArray s rm_Reckoner_multiply.cells rm_Reckoner_multiply.slots A) (F0 m 31 ls []) := by
    intro M H locs ls h hwf hkp hP hD hS hl
    unfold f_Reckoner_multiply_b31 at h
    have hkb := hkp
    refine lv_aload_n hx hb d_Reckoner_multiply_31 rfl (lv_at hl 1 rfl) ?_
    obtain ⟨M11, r12, eM11, h⟩ := b2_ob h
    refine me_theni0 (M1 := M11) (me_runV (C := "FilterGuard$Num") (As := []) (rest := []) ⟨hx, hb, hml, hown, hts⟩ (c_Num_lowestZeros l D ad ca N M M11 r12 j1 eM11 hwf hj1 _) rfl (by show fg_nm y_Num_lowestZeros 0; decide +kernel) u_1162 u_1163 u_1164 u_187 u_1165 ⟨Nat.le_of_ble_eq_true rfl, Nat.le_of_ble_eq_true rfl⟩ hX hz hK hP hD hwf hS hA hj1 (by decide) rfl rfl rfl hl.1 (Nat.le_of_ble_eq_true rfl) d_Reckoner_multiply_32 ⟨Nat.le_of_ble_eq_true rfl, Nat.le_of_ble_eq_true rfl⟩) hP hD hK hS hA rfl rfl (fun H locs hw hP hD hS => ?_)
    obtain ⟨hwf, hk9⟩ := hw
    have hkp := hkp.tr hk9
    refine lv_aload_n hx hb d_Reckoner_multiply_35 rfl (lv_at hl 2 rfl) ?_
    obtain ⟨M13, r14, eM13, h⟩ := b2_ob h
    refine me_theni0 (M1 := M13) (me_runV (C := "FilterGuard$Num") (As := []) (rest := [.int r12]) ⟨hx, hb, hml, hown, hts⟩ (c_Num_lowestZeros l D ad ca N M11 M13 r14 j2 eM13 hwf hj2 _) rfl (by show fg_nm y_Num_lowestZeros 0; decide +kernel) u_1162 u_1163 u_1164 u_187 u_1165 ⟨Nat.le_of_ble_eq_true rfl, Nat.le_of_ble_eq_true rfl⟩ hX hz hK hP hD hwf hS hA hj2 (by decide) rfl rfl rfl hl.1 (Nat.le_of_ble_eq_true rfl) d_Reckoner_multiply_36 ⟨Nat.le_of_ble_eq_true rfl, Nat.le_of_ble_eq_true rfl⟩) hP hD hK hS hA rfl rfl (fun H locs hw hP hD hS => ?_)
    obtain ⟨hwf, hk9⟩ := hw
    have hkp := hkp.tr hk9
    refine lv_iadd hx hb d_Reckoner_multiply_39 ?_
    obtain ⟨v15, ev15, h⟩ := st_ob h
    refine fg_topi (y := v15) ev15.symm ?_
    refine lv_istore_n (lv' := [(3, .int v15), (0, .ref (ad 8 j0)), (1, .ref (ad 11 j1)), (2, .ref (ad 11 j2))]) hx hb d_Reckoner_multiply_40 rfl hl (by decide) rfl (fun ls hl => ?_)
    refine lv_aload_n hx hb d_Reckoner_multiply_41 rfl (lv_at hl 1 rfl) ?_
    refine g_Reckoner_2 hx hb hts hown hK hP hwf hj0 (hts _ u_398) d_Reckoner_multiply_42 ?_
    obtain ⟨j16, e17, h⟩ := bd_ob h
    have hj16 : j16 < N 11 := (hwf.2.1 8 j0 2 _ (kp_r hkb hkp e17) (by decide) hj0)
    refine me_opt (j := j16) (kp_r hkb hkp e17) ?_
    refine lv_lconst (v := 0) hx hb d_Reckoner_multiply_45 (by decide) ?_
    refine lv_iload_n hx hb d_Reckoner_multiply_46 rfl (lv_at hl 0 rfl) ?_
    refine lv_bipush (v := 64) hx hb d_Reckoner_multiply_47 (by decide) ?_
    refine lv_icmp_lt (tgt := 56) hx hb d_Reckoner_multiply_49 (by decide) (fun c18 => ?_) (fun c18 => ?_)
    · have h := if_t c18 h
      refine lv_ldc2 hx hb hown (hts _ u_1139) d_Reckoner_multiply_56 ?_
      refine lv_iload_n hx hb d_Reckoner_multiply_59 rfl (lv_at hl 0 rfl) ?_
      refine lv_lshl (v := jlshl (-1 : Int64) v15) hx hb d_Reckoner_multiply_60 rfl ?_
      exact b_61 M13 (jlshl (-1 : Int64) v15) (0 : Int64) j16 _ _ _ h hj16 hwf hkp hP hD hS (lv_sub hl [1, 2, 3] rfl)
    have h := if_f c18 h
    refine lv_lconst (v := 0) hx hb d_Reckoner_multiply_52 (by decide) ?_
    refine lv_goto (tgt := 61) hx hb d_Reckoner_multiply_53 (by decide) ?_
    exact b_61 M13 (0 : Int64) (0 : Int64) j16 _ _ _ h hj16 hwf hkp hP hD hS (lv_sub hl [1, 2, 3] rfl)
  refine lv_aload_n hx hb d_Reckoner_multiply_0 rfl (lv_at hl 1 rfl) ?_
  obtain ⟨M19, r20, eM19, h⟩ := b2_ob h
  refine me_theni0 (M1 := M19) (me_runV (C := "FilterGuard$Num") (As := []) (rest := []) ⟨hx, hb, hml, hown, hts⟩ (c_Num_isExact0 l D ad ca N M0 M19 r20 j1 eM19 hwf hj1 _) rfl (by show fg_nm y_Num_isExact0 0; decide +kernel) u_1157 u_1158 u_1159 u_187 u_1160 ⟨Nat.le_of_ble_eq_true rfl, Nat.le_of_ble_eq_true rfl⟩ hX hz hK hP hD hwf hS hA hj1 (by decide) rfl rfl rfl hl.1 (Nat.le_of_ble_eq_true rfl) d_Reckoner_multiply_1 ⟨Nat.le_of_ble_eq_true rfl, Nat.le_of_ble_eq_true rfl⟩) hP hD hK hS hA rfl rfl (fun H locs hw hP hD hS => ?_)
  obtain ⟨hwf, hk9, zr20⟩ := hw
  have hkp := hkp.tr hk9
  refine lv_if_eq (tgt := 31) hx hb d_Reckoner_multiply_4 (by decide) (fun c21 => ?_) (fun c21 => ?_)
  · have h := if_t c21 h
    exact b_31 M19 _ _ _ h hwf hkp hP hD hS (lv_sub hl [0, 1, 2] rfl)
  have h := if_f c21 h
  refine lv_aload_n hx hb d_Reckoner_multiply_7 rfl (lv_at hl 2 rfl) ?_
  obtain ⟨M22, r23, eM22, h⟩ := b2_ob h
  refine me_theni0 (M1 := M22) (me_runV (C := "FilterGuard$Num") (As := []) (rest := []) ⟨hx, hb, hml, hown, hts⟩ (c_Num_isExact0 l D ad ca N M19 M22 r23 j2 eM22 hwf hj2 _) rfl (by show fg_nm y_Num_isExact0 0; decide +kernel) u_1157 u_1158 u_1159 u_187 u_1160 ⟨Nat.le_of_ble_eq_true rfl, Nat.le_of_ble_eq_true rfl⟩ hX hz hK hP hD hwf hS hA hj2 (by decide) rfl rfl rfl hl.1 (Nat.le_of_ble_eq_true rfl) d_Reckoner_multiply_8 ⟨Nat.le_of_ble_eq_true rfl, Nat.le_of_ble_eq_true rfl⟩) hP hD hK hS hA rfl rfl (fun H locs hw hP hD hS => ?_)
  obtain ⟨hwf, hk9, zr23⟩ := hw
  have hkp := hkp.tr hk9
  refine lv_if_eq (tgt := 31) hx hb d_Reckoner_multiply_11 (by decide) (fun c24 => ?_) (fun c24 => ?_)
  · have h := if_t c24 h
    exact b_31 M22 _ _ _ h hwf hkp hP hD hS (lv_sub hl [0, 1, 2] rfl)
  have h := if_f c24 h
  refine lv_aload_n hx hb d_Reckoner_multiply_14 rfl (lv_at hl 0 rfl) ?_
  refine g_Reckoner_2 hx hb hts hown hK hP hwf hj0 (hts _ u_398) d_Reckoner_multiply_15 ?_
  obtain ⟨j25, e26, h⟩ := bd_ob h
  have hj25 : j25 < N 11 := (hwf.2.1 8 j0 2 _ (kp_r hkb hkp e26) (by decide) hj0)
  refine me_opt (j := j25) (kp_r hkb hkp e26) ?_
  refine lv_aload_n hx hb d_Reckoner_multiply_18 rfl (lv_at hl 1 rfl) ?_
  refine g_Num_0 hx hb hts hown hK hP hwf hj1 (hts _ u_368) d_Reckoner_multiply_19 ?_
  refine lv_aload_n hx hb d_Reckoner_multiply_22 rfl (lv_at hl 2 rfl) ?_
  refine g_Num_0 hx hb hts hown hK hP hwf hj2 (hts _ u_368) d_Reckoner_multiply_23 ?_
  refine lv_lmul hx hb d_Reckoner_multiply_26 ?_
  obtain ⟨M27, eM27, h⟩ := bd_ob h
  refine me_thenv0 (M1 := M27) (me_runV (C := "FilterGuard$Num") (As := [.long ((mL M22 11 j1 0) * (mL M22 11 j2 0))]) (rest := []) ⟨hx, hb, hml, hown, hts⟩ (c_Num_exact l D ad ca N M22 M27 j25 ((mL M22 11 j1 0) * (mL M22 11 j2 0)) eM27 hwf hj25 _) rfl (by show fg_nm y_Num_exact 1; decide +kernel) u_1161 u_1037 u_1038 u_187 u_1039 ⟨Nat.le_of_ble_eq_true rfl, Nat.le_of_ble_eq_true rfl⟩ hX hz hK hP hD hwf hS hA hj25 (by decide) rfl rfl rfl hl.1 (Nat.le_of_ble_eq_true rfl) d_Reckoner_multiply_27 ⟨Nat.le_of_ble_eq_true rfl, Nat.le_of_ble_eq_true rfl⟩) hP hD hK hS hA rfl rfl (fun H locs hw hP hD hS => ?_)
  obtain ⟨hwf, hk9⟩ := hw
  have hkp := hkp.tr hk9
  exact me_retv (me_kp M0) h hx hb hr hlocks hwf hkp hP hK hD hS d_Reckoner_multiply_30
theorem d_Reckoner_quotient_0 : decode prog_9_method_2_code 0 = .ok (.lload_n 2, 1) := by decide +kernel
theorem d_Reckoner_quotient_1 : decode prog_9_method_2_code 1 = .ok (.lconst 0, 1) := by decide +kernel
theorem d_Reckoner_quotient_2 : decode prog_9_method_2_code 2 = .ok (.lcmp, 1) := by decide +kernel
theorem d_Reckoner_quotient_3 : decode prog_9_method_2_code 3 = .ok (.ifCond .ne 5, 3) := by decide +kernel
theorem d_Reckoner_quotient_8 : decode prog_9_method_2_code 8 = .ok (.lload_n 2, 1) := by decide +kernel
theorem d_Reckoner_quotient_9 : decode prog_9_method_2_code 9 = .ok (.lconst 0, 1) := by decide +kernel
theorem d_Reckoner_quotient_10 : decode prog_9_method_2_code 10 = .ok (.lcmp, 1) := by decide +kernel
theorem d_Reckoner_quotient_11 : decode prog_9_method_2_code 11 = .ok (.ifCond .ge 23, 3) := by decide +kernel
theorem d_Reckoner_quotient_34 : decode prog_9_method_2_code 34 = .ok (.lload_n 0, 1) := by decide +kernel
theorem d_Reckoner_quotient_35 : decode prog_9_method_2_code 35 = .ok (.lconst 0, 1) := by decide +kernel
theorem d_Reckoner_quotient_36 : decode prog_9_method_2_code 36 = .ok (.lcmp, 1) := by decide +kernel
theorem d_Reckoner_quotient_37 : decode prog_9_method_2_code 37 = .ok (.ifCond .lt 7, 3) := by decide +kernel
theorem d_Reckoner_quotient_44 : decode prog_9_method_2_code 44 = .ok (.lload_n 0, 1) := by decide +kernel
theorem d_Reckoner_quotient_45 : decode prog_9_method_2_code 45 = .ok (.iconst 1, 1) := by decide +kernel
theorem d_Reckoner_quotient_46 : decode prog_9_method_2_code 46 = .ok (.lushr, 1) := by decide +kernel
theorem d_Reckoner_quotient_47 : decode prog_9_method_2_code 47 = .ok (.lload_n 2, 1) := by decide +kernel
theorem d_Reckoner_quotient_48 : decode prog_9_method_2_code 48 = .ok (.ldiv, 1) := by decide +kernel
theorem d_Reckoner_quotient_49 : decode prog_9_method_2_code 49 = .ok (.iconst 1, 1) := by decide +kernel
theorem d_Reckoner_quotient_50 : decode prog_9_method_2_code 50 = .ok (.lshl, 1) := by decide +kernel
theorem d_Reckoner_quotient_51 : decode prog_9_method_2_code 51 = .ok (.lstore 4, 2) := by decide +kernel
theorem d_Reckoner_quotient_53 : decode prog_9_method_2_code 53 = .ok (.lload_n 0, 1) := by decide +kernel
theorem d_Reckoner_quotient_54 : decode prog_9_method_2_code 54 = .ok (.lload 4, 2) := by decide +kernel
theorem d_Reckoner_quotient_56 : decode prog_9_method_2_code 56 = .ok (.lload_n 2, 1) := by decide +kernel
theorem d_Reckoner_quotient_57 : decode prog_9_method_2_code 57 = .ok (.lmul, 1) := by decide +kernel
theorem d_Reckoner_quotient_58 : decode prog_9_method_2_code 58 = .ok (.lsub, 1) := by decide +kernel
theorem d_Reckoner_quotient_59 : decode prog_9_method_2_code 59 = .ok (.lstore 6, 2) := by decide +kernel
theorem d_Reckoner_quotient_61 : decode prog_9_method_2_code 61 = .ok (.lload 6, 2) := by decide +kernel
theorem d_Reckoner_quotient_63 : decode prog_9_method_2_code 63 = .ok (.ldc2_w 30, 3) := by decide +kernel
theorem u_1184 : Cond.constantLong "FilterGuard$Reckoner" 30 (-9223372036854775808) ∈ fg_g := fg_in (List.mem_of_getElem? (i := 1184) (by decide +kernel)) rfl
theorem d_Reckoner_quotient_66 : decode prog_9_method_2_code 66 = .ok (.lxor, 1) := by decide +kernel
theorem d_Reckoner_quotient_67 : decode prog_9_method_2_code 67 = .ok (.lload_n 2, 1) := by decide +kernel
theorem d_Reckoner_quotient_68 : decode prog_9_method_2_code 68 = .ok (.ldc2_w 30, 3) := by decide +kernel
theorem d_Reckoner_quotient_71 : decode prog_9_method_2_code 71 = .ok (.lxor, 1) := by decide +kernel
theorem d_Reckoner_quotient_72 : decode prog_9_method_2_code 72 = .ok (.lcmp, 1) := by decide +kernel
theorem d_Reckoner_quotient_73 : decode prog_9_method_2_code 73 = .ok (.ifCond .ge 8, 3) := by decide +kernel
theorem d_Reckoner_quotient_81 : decode prog_9_method_2_code 81 = .ok (.lload 4, 2) := by decide +kernel
theorem d_Reckoner_quotient_83 : decode prog_9_method_2_code 83 = .ok (.lconst 1, 1) := by decide +kernel
theorem d_Reckoner_quotient_84 : decode prog_9_method_2_code 84 = .ok (.ladd, 1) := by decide +kernel
theorem d_Reckoner_quotient_85 : decode prog_9_method_2_code 85 = .ok (.lreturn, 1) := by decide +kernel
theorem d_Reckoner_quotient_76 : decode prog_9_method_2_code 76 = .ok (.lload 4, 2) := by decide +kernel
theorem d_Reckoner_quotient_78 : decode prog_9_method_2_code 78 = .ok (.goto 7, 3) := by decide +kernel
theorem d_Reckoner_quotient_40 : decode prog_9_method_2_code 40 = .ok (.lload_n 0, 1) := by decide +kernel
theorem d_Reckoner_quotient_41 : decode prog_9_method_2_code 41 = .ok (.lload_n 2, 1) := by decide +kernel
theorem d_Reckoner_quotient_42 : decode prog_9_method_2_code 42 = .ok (.ldiv, 1) := by decide +kernel
theorem d_Reckoner_quotient_43 : decode prog_9_method_2_code 43 = .ok (.lreturn, 1) := by decide +kernel
theorem d_Reckoner_quotient_14 : decode prog_9_method_2_code 14 = .ok (.lload_n 0, 1) := by decide +kernel
theorem d_Reckoner_quotient_15 : decode prog_9_method_2_code 15 = .ok (.ldc2_w 30, 3) := by decide +kernel
theorem d_Reckoner_quotient_18 : decode prog_9_method_2_code 18 = .ok (.lxor, 1) := by decide +kernel
theorem d_Reckoner_quotient_19 : decode prog_9_method_2_code 19 = .ok (.lload_n 2, 1) := by decide +kernel
theorem d_Reckoner_quotient_20 : decode prog_9_method_2_code 20 = .ok (.ldc2_w 30, 3) := by decide +kernel
theorem d_Reckoner_quotient_23 : decode prog_9_method_2_code 23 = .ok (.lxor, 1) := by decide +kernel
theorem d_Reckoner_quotient_24 : decode prog_9_method_2_code 24 = .ok (.lcmp, 1) := by decide +kernel
theorem d_Reckoner_quotient_25 : decode prog_9_method_2_code 25 = .ok (.ifCond .ge 7, 3) := by decide +kernel
theorem d_Reckoner_quotient_32 : decode prog_9_method_2_code 32 = .ok (.lconst 1, 1) := by decide +kernel
theorem d_Reckoner_quotient_33 : decode prog_9_method_2_code 33 = .ok (.lreturn, 1) := by decide +kernel
theorem d_Reckoner_quotient_28 : decode prog_9_method_2_code 28 = .ok (.lconst 0, 1) := by decide +kernel
theorem d_Reckoner_quotient_29 : decode prog_9_method_2_code 29 = .ok (.goto 4, 3) := by decide +kernel
theorem d_Reckoner_quotient_6 : decode prog_9_method_2_code 6 = .ok (.lconst 0, 1) := by decide +kernel
theorem d_Reckoner_quotient_7 : decode prog_9_method_2_code 7 = .ok (.lreturn, 1) := by decide +kernel
abbrev y_Reckoner_quotient : MethodName := ⟨"FilterGuard$Reckoner", "quotient", "(JJ)J"⟩
def rm_Reckoner_quotient : Room := { frames := 1, cells := 0, slots := 0, locals := 20 }
abbrev q_Reckoner_quotient (D : va_G) (RZ : Int64) (A : Nat → Prop) : Array Value → Jvm.State → Outcome → Jvm.State → Prop := va_Ql (fun r (_ : Unit) => r = RZ ∧ True) (fg_B D A (fun _ => []) (fun _ => [])) A
set_option maxHeartbeats 4000000 in
set_option maxRecDepth 100000 in
theorem c_Reckoner_quotient (l : Launch) (D : va_G) (RZ : Int64) (x0 : Int64) (x2 : Int64) (h : f_Reckoner_quotient x0 x2 = (some RZ)) (sz : Nat) : Met l y_Reckoner_quotient (fg_w y_Reckoner_quotient prog_9_method_2_code 8 (some .long)) rm_Reckoner_quotient (va_Pc [.long x0, .long x2] (fg_P D [] [] sz)) (q_Reckoner_quotient D RZ (va_A [] sz)) rm_Reckoner_quotient.cells rm_Reckoner_quotient.slots (va_A [] sz) := by
  refine fg_enter (fun A => q_Reckoner_quotient D RZ A) (by decide +kernel) (Nat.le_of_ble_eq_true rfl) ?_
  intro p e s m below meth c ls A hx hb hml hown hts hr hlocks hin hP hK hD hS hA hX hl
  have hl : lv_has ls 8 [(0, .long x0), (2, .long x2)] := hl
  unfold f_Reckoner_quotient at h
  refine lv_lload_n hx hb d_Reckoner_quotient_0 rfl (lv_at hl 1 rfl) ?_
  refine lv_lconst (v := 0) hx hb d_Reckoner_quotient_1 (by decide) ?_
  refine W.lcmp hx hb d_Reckoner_quotient_2 ?_
  refine lv_if_ne (tgt := 8) hx hb d_Reckoner_quotient_3 (by decide) (fun c1 => ?_) (fun c1 => ?_)
  · have h := if_f (fun z => c1 ((lg_cmp_eq _ _).mpr z)) h
    refine lv_lload_n hx hb d_Reckoner_quotient_8 rfl (lv_at hl 1 rfl) ?_
    refine lv_lconst (v := 0) hx hb d_Reckoner_quotient_9 (by decide) ?_
    refine W.lcmp hx hb d_Reckoner_quotient_10 ?_
    refine lv_if_ge (tgt := 34) hx hb d_Reckoner_quotient_11 (by decide) (fun c2 => ?_) (fun c2 => ?_)
    · have h := if_f (Int64.not_lt.mpr ((lg_cmp_ge _ _).mp c2)) h
      refine lv_lload_n hx hb d_Reckoner_quotient_34 rfl (lv_at hl 0 rfl) ?_
      refine lv_lconst (v := 0) hx hb d_Reckoner_quotient_35 (by decide) ?_
      refine W.lcmp hx hb d_Reckoner_quotient_36 ?_
      refine lv_if_lt (tgt := 44) hx hb d_Reckoner_quotient_37 (by decide) (fun c3 => ?_) (fun c3 => ?_)
      · have h := if_t ((lg_cmp_lt _ _).mp c3) h
        refine lv_lload_n hx hb d_Reckoner_quotient_44 rfl (lv_at hl 0 rfl) ?_
        refine lv_iconst (v := 1) hx hb d_Reckoner_quotient_45 (by decide) ?_
        refine lv_lushr (v := jlushr x0 (1 : Int32)) hx hb d_Reckoner_quotient_46 rfl ?_
        refine lv_lload_n hx hb d_Reckoner_quotient_47 rfl (lv_at hl 1 rfl) ?_
        obtain ⟨g4, h⟩ := gd_ob h
        refine lv_ldiv hx hb d_Reckoner_quotient_48 g4 ?_
        refine lv_iconst (v := 1) hx hb d_Reckoner_quotient_49 (by decide) ?_
        refine lv_lshl (v := jlshl ((jlushr x0 (1 : Int32)) / x2) (1 : Int32)) hx hb d_Reckoner_quotient_50 rfl ?_
        obtain ⟨v5, ev5, h⟩ := st_ob h
        refine fg_topl (y := v5) ev5.symm ?_
        refine lv_lstore (lv' := [(4, .long v5), (0, .long x0), (2, .long x2)]) hx hb d_Reckoner_quotient_51 hl (by decide) rfl (fun ls hl => ?_)
        refine lv_lload_n hx hb d_Reckoner_quotient_53 rfl (lv_at hl 1 rfl) ?_
        refine lv_lload hx hb d_Reckoner_quotient_54 (lv_at hl 0 rfl) ?_
        refine lv_lload_n hx hb d_Reckoner_quotient_56 rfl (lv_at hl 2 rfl) ?_
        refine lv_lmul hx hb d_Reckoner_quotient_57 ?_
        refine lv_lsub hx hb d_Reckoner_quotient_58 ?_
        obtain ⟨v6, ev6, h⟩ := st_ob h
        refine fg_topl (y := v6) ev6.symm ?_
        refine lv_lstore (lv' := [(6, .long v6), (4, .long v5), (0, .long x0), (2, .long x2)]) hx hb d_Reckoner_quotient_59 hl (by decide) rfl (fun ls hl => ?_)
        refine lv_lload hx hb d_Reckoner_quotient_61 (lv_at hl 0 rfl) ?_
        refine lv_ldc2 hx hb hown (hts _ u_1184) d_Reckoner_quotient_63 ?_
        refine lv_lxor hx hb d_Reckoner_quotient_66 ?_
        refine lv_lload_n hx hb d_Reckoner_quotient_67 rfl (lv_at hl 3 rfl) ?_
        refine lv_ldc2 hx hb hown (hts _ u_1184) d_Reckoner_quotient_68 ?_
        refine lv_lxor hx hb d_Reckoner_quotient_71 ?_
        refine W.lcmp hx hb d_Reckoner_quotient_72 ?_
        refine lv_if_ge (tgt := 81) hx hb d_Reckoner_quotient_73 (by decide) (fun c7 => ?_) (fun c7 => ?_)
        · have h := if_f (Int64.not_lt.mpr ((lg_cmp_ge _ _).mp c7)) h
          refine lv_lload hx hb d_Reckoner_quotient_81 (lv_at hl 1 rfl) ?_
          refine lv_lconst (v := 1) hx hb d_Reckoner_quotient_83 (by decide) ?_
          refine lv_ladd hx hb d_Reckoner_quotient_84 ?_
          exact me_pretl h hx hb hr hlocks hK hS d_Reckoner_quotient_85
        have h := if_t (Int64.not_le.mp (fun z => c7 ((lg_cmp_ge _ _).mpr z))) h
        refine lv_lload hx hb d_Reckoner_quotient_76 (lv_at hl 1 rfl) ?_
        refine lv_goto (tgt := 85) hx hb d_Reckoner_quotient_78 (by decide) ?_
        exact me_pretl h hx hb hr hlocks hK hS d_Reckoner_quotient_85
      have h := if_f (fun z => c3 ((lg_cmp_lt _ _).mpr z)) h
      refine lv_lload_n hx hb d_Reckoner_quotient_40 rfl (lv_at hl 0 rfl) ?_
      refine lv_lload_n hx hb d_Reckoner_quotient_41 rfl (lv_at hl 1 rfl) ?_
      obtain ⟨g8, h⟩ := gd_ob h
      refine lv_ldiv hx hb d_Reckoner_quotient_42 g8 ?_
      exact me_pretl h hx hb hr hlocks hK hS d_Reckoner_quotient_43
    have h := if_t (Int64.not_le.mp (fun z => c2 ((lg_cmp_ge _ _).mpr z))) h
    refine lv_lload_n hx hb d_Reckoner_quotient_14 rfl (lv_at hl 0 rfl) ?_
    refine lv_ldc2 hx hb hown (hts _ u_1184) d_Reckoner_quotient_15 ?_
    refine lv_lxor hx hb d_Reckoner_quotient_18 ?_
    refine lv_lload_n hx hb d_Reckoner_quotient_19 rfl (lv_at hl 1 rfl) ?_
    refine lv_ldc2 hx hb hown (hts _ u_1184) d_Reckoner_quotient_20 ?_
    refine lv_lxor hx hb d_Reckoner_quotient_23 ?_
    refine W.lcmp hx hb d_Reckoner_quotient_24 ?_
    refine lv_if_ge (tgt := 32) hx hb d_Reckoner_quotient_25 (by decide) (fun c9 => ?_) (fun c9 => ?_)
    · have h := if_f (Int64.not_lt.mpr ((lg_cmp_ge _ _).mp c9)) h
      refine lv_lconst (v := 1) hx hb d_Reckoner_quotient_32 (by decide) ?_
      exact me_pretl h hx hb hr hlocks hK hS d_Reckoner_quotient_33
    have h := if_t (Int64.not_le.mp (fun z => c9 ((lg_cmp_ge _ _).mpr z))) h
    refine lv_lconst (v := 0) hx hb d_Reckoner_quotient_28 (by decide) ?_
    refine lv_goto (tgt := 33) hx hb d_Reckoner_quotient_29 (by decide) ?_
    exact me_pretl h hx hb hr hlocks hK hS d_Reckoner_quotient_33
  have h := if_t ((lg_cmp_eq _ _).mp c1) h
  refine lv_lconst (v := 0) hx hb d_Reckoner_quotient_6 (by decide) ?_
  exact me_pretl h hx hb hr hlocks hK hS d_Reckoner_quotient_7
theorem d_Reckoner_divide_0 : decode prog_9_method_10_code 0 = .ok (.aload_n 2, 1) := by decide +kernel
theorem d_Reckoner_divide_1 : decode prog_9_method_10_code 1 = .ok (.getfield 49, 3) := by decide +kernel
theorem d_Reckoner_divide_4 : decode prog_9_method_10_code 4 = .ok (.lstore_n 3, 1) := by decide +kernel
theorem d_Reckoner_divide_5 : decode prog_9_method_10_code 5 = .ok (.aload_n 2, 1) := by decide +kernel
theorem d_Reckoner_divide_6 : decode prog_9_method_10_code 6 = .ok (.invokevirtual 45, 3) := by decide +kernel
theorem d_Reckoner_divide_9 : decode prog_9_method_10_code 9 = .ok (.ifCond .ne 18, 3) := by decide +kernel
theorem d_Reckoner_divide_27 : decode prog_9_method_10_code 27 = .ok (.lload_n 3, 1) := by decide +kernel
theorem d_Reckoner_divide_28 : decode prog_9_method_10_code 28 = .ok (.lconst 0, 1) := by decide +kernel
theorem d_Reckoner_divide_29 : decode prog_9_method_10_code 29 = .ok (.lcmp, 1) := by decide +kernel
theorem d_Reckoner_divide_30 : decode prog_9_method_10_code 30 = .ok (.ifCond .ne 14, 3) := by decide +kernel
theorem d_Reckoner_divide_44 : decode prog_9_method_10_code 44 = .ok (.aload_n 0, 1) := by decide +kernel
theorem d_Reckoner_divide_45 : decode prog_9_method_10_code 45 = .ok (.getfield 21, 3) := by decide +kernel
theorem d_Reckoner_divide_48 : decode prog_9_method_10_code 48 = .ok (.aload_n 1, 1) := by decide +kernel
theorem d_Reckoner_divide_49 : decode prog_9_method_10_code 49 = .ok (.getfield 96, 3) := by decide +kernel
theorem d_Reckoner_divide_52 : decode prog_9_method_10_code 52 = .ok (.lload_n 3, 1) := by decide +kernel
theorem d_Reckoner_divide_53 : decode prog_9_method_10_code 53 = .ok (.invokestatic 142, 3) := by decide +kernel
theorem u_1181 : Cond.methodLink "FilterGuard$Reckoner" 142 ⟨"FilterGuard$Reckoner", "quotient", "(JJ)J"⟩ ∈ fg_g := fg_in (List.mem_of_getElem? (i := 1181) (by decide +kernel)) rfl
theorem u_1183 : Cond.code ⟨"FilterGuard$Reckoner", "quotient", "(JJ)J"⟩ prog_9_method_2_code 8 (some .long) ∈ fg_g := fg_in (List.mem_of_getElem? (i := 1183) (by decide +kernel)) rfl
theorem u_1182 : Cond.static ⟨"FilterGuard$Reckoner", "quotient", "(JJ)J"⟩ ∈ fg_g := fg_in (List.mem_of_getElem? (i := 1182) (by decide +kernel)) rfl
theorem d_Reckoner_divide_56 : decode prog_9_method_10_code 56 = .ok (.aload_n 1, 1) := by decide +kernel
theorem d_Reckoner_divide_57 : decode prog_9_method_10_code 57 = .ok (.getfield 122, 3) := by decide +kernel
theorem d_Reckoner_divide_60 : decode prog_9_method_10_code 60 = .ok (.lload_n 3, 1) := by decide +kernel
theorem d_Reckoner_divide_61 : decode prog_9_method_10_code 61 = .ok (.invokestatic 142, 3) := by decide +kernel
theorem d_Reckoner_divide_64 : decode prog_9_method_10_code 64 = .ok (.invokevirtual 125, 3) := by decide +kernel
theorem d_Reckoner_divide_67 : decode prog_9_method_10_code 67 = .ok (.return_, 1) := by decide +kernel
theorem d_Reckoner_divide_33 : decode prog_9_method_10_code 33 = .ok (.aload_n 0, 1) := by decide +kernel
theorem d_Reckoner_divide_34 : decode prog_9_method_10_code 34 = .ok (.getfield 21, 3) := by decide +kernel
theorem d_Reckoner_divide_37 : decode prog_9_method_10_code 37 = .ok (.lconst 0, 1) := by decide +kernel
theorem d_Reckoner_divide_38 : decode prog_9_method_10_code 38 = .ok (.invokevirtual 55, 3) := by decide +kernel
theorem d_Reckoner_divide_41 : decode prog_9_method_10_code 41 = .ok (.goto 26, 3) := by decide +kernel
theorem d_Reckoner_divide_12 : decode prog_9_method_10_code 12 = .ok (.aload_n 0, 1) := by decide +kernel
theorem d_Reckoner_divide_13 : decode prog_9_method_10_code 13 = .ok (.getfield 21, 3) := by decide +kernel
theorem d_Reckoner_divide_16 : decode prog_9_method_10_code 16 = .ok (.lconst 0, 1) := by decide +kernel
theorem d_Reckoner_divide_17 : decode prog_9_method_10_code 17 = .ok (.aload_n 1, 1) := by decide +kernel
theorem d_Reckoner_divide_18 : decode prog_9_method_10_code 18 = .ok (.getfield 122, 3) := by decide +kernel
theorem d_Reckoner_divide_21 : decode prog_9_method_10_code 21 = .ok (.invokevirtual 125, 3) := by decide +kernel
theorem d_Reckoner_divide_24 : decode prog_9_method_10_code 24 = .ok (.goto 43, 3) := by decide +kernel
abbrev y_Reckoner_divide : MethodName := ⟨"FilterGuard$Reckoner", "divide", "(LFilterGuard$Num;LFilterGuard$Num;)V"⟩
def rm_Reckoner_divide : Room := { frames := 2, cells := 0, slots := 0, locals := 47 }
abbrev q_Reckoner_divide (D : va_G) (ad : Nat → Nat → Nat) (ca : Nat → ClassId) (N : Nat → Nat) (M0 MZ : me_M) (A : Nat → Prop) : Array Value → Jvm.State → Outcome → Jvm.State → Prop := va_Qv (fun (_ : Unit) => me_wf N MZ ∧ me_kp M0 MZ) (fg_B D A (fun _ => me_W ad ca MZ) (fun _ => [])) A
set_option maxHeartbeats 4000000 in
set_option maxRecDepth 100000 in
theorem c_Reckoner_divide (l : Launch) (D : va_G) (ad : Nat → Nat → Nat) (ca : Nat → ClassId) (N : Nat → Nat) (M0 MZ : me_M) (j0 : Nat) (j1 : Nat) (j2 : Nat) (h : f_Reckoner_divide M0 j0 j1 j2 = (some MZ)) (hwf : me_wf N M0) (hj0 : j0 < N 8) (hj1 : j1 < N 11) (hj2 : j2 < N 11) (sz : Nat) : Met l y_Reckoner_divide (fg_w y_Reckoner_divide prog_9_method_10_code 5 none) rm_Reckoner_divide (va_Pc [.ref (ad 8 j0), .ref (ad 11 j1), .ref (ad 11 j2)] (fz_P D (me_T ca) (me_W ad ca M0) sz)) (q_Reckoner_divide D ad ca N M0 MZ (va_A (me_W ad ca M0) sz)) rm_Reckoner_divide.cells rm_Reckoner_divide.slots (va_A (me_W ad ca M0) sz) := by
  refine fz_enter (fun A => q_Reckoner_divide D ad ca N M0 MZ A) (by decide +kernel) (Nat.le_of_ble_eq_true rfl) ?_
  intro p e s m below meth c ls A hx hb hml hown hts hr hlocks hin hP hK hD hS hA hX hl hz
  have hl : lv_has ls 5 [(0, .ref (ad 8 j0)), (1, .ref (ad 11 j1)), (2, .ref (ad 11 j2))] := hl
  unfold f_Reckoner_divide at h
  have hkp : me_kp M0 M0 := me_kp.rf
  have hkb := hkp
  refine lv_aload_n hx hb d_Reckoner_divide_0 rfl (lv_at hl 2 rfl) ?_
  refine g_Num_0 hx hb hts hown hK hP hwf hj2 (hts _ u_368) d_Reckoner_divide_1 ?_
  obtain ⟨v1, ev1, h⟩ := st_ob h
  refine fg_topl (y := v1) ev1.symm ?_
  refine lv_lstore_n (lv' := [(3, .long v1), (0, .ref (ad 8 j0)), (1, .ref (ad 11 j1)), (2, .ref (ad 11 j2))]) hx hb d_Reckoner_divide_4 rfl hl (by decide) rfl (fun ls hl => ?_)
  refine lv_aload_n hx hb d_Reckoner_divide_5 rfl (lv_at hl 3 rfl) ?_
  obtain ⟨M2, r3, eM2, h⟩ := b2_ob h
  refine me_theni0 (M1 := M2) (me_runV (C := "FilterGuard$Num") (As := []) (rest := []) ⟨hx, hb, hml, hown, hts⟩ (c_Num_isExact0 l D ad ca N M0 M2 r3 j2 eM2 hwf hj2 _) rfl (by show fg_nm y_Num_isExact0 0; decide +kernel) u_1157 u_1158 u_1159 u_187 u_1160 ⟨Nat.le_of_ble_eq_true rfl, Nat.le_of_ble_eq_true rfl⟩ hX hz hK hP hD hwf hS hA hj2 (by decide) rfl rfl rfl hl.1 (Nat.le_of_ble_eq_true rfl) d_Reckoner_divide_6 ⟨Nat.le_of_ble_eq_true rfl, Nat.le_of_ble_eq_true rfl⟩) hP hD hK hS hA rfl rfl (fun H locs hw hP hD hS => ?_)
  obtain ⟨hwf, hk9, zr3⟩ := hw
  have hkp := hkp.tr hk9
  refine lv_if_ne (tgt := 27) hx hb d_Reckoner_divide_9 (by decide) (fun c4 => ?_) (fun c4 => ?_)
  · have h := if_f c4 h
    refine lv_lload_n hx hb d_Reckoner_divide_27 rfl (lv_at hl 0 rfl) ?_
    refine lv_lconst (v := 0) hx hb d_Reckoner_divide_28 (by decide) ?_
    refine W.lcmp hx hb d_Reckoner_divide_29 ?_
    refine lv_if_ne (tgt := 44) hx hb d_Reckoner_divide_30 (by decide) (fun c5 => ?_) (fun c5 => ?_)
    · have h := if_f (fun z => c5 ((lg_cmp_eq _ _).mpr z)) h
      refine lv_aload_n hx hb d_Reckoner_divide_44 rfl (lv_at hl 1 rfl) ?_
      refine g_Reckoner_2 hx hb hts hown hK hP hwf hj0 (hts _ u_398) d_Reckoner_divide_45 ?_
      obtain ⟨j6, e7, h⟩ := bd_ob h
      have hj6 : j6 < N 11 := (hwf.2.1 8 j0 2 _ (kp_r hkb hkp e7) (by decide) hj0)
      refine me_opt (j := j6) (kp_r hkb hkp e7) ?_
      refine lv_aload_n hx hb d_Reckoner_divide_48 rfl (lv_at hl 2 rfl) ?_
      refine g_Num_2 hx hb hts hown hK hP hwf hj1 (hts _ u_374) d_Reckoner_divide_49 ?_
      refine lv_lload_n hx hb d_Reckoner_divide_52 rfl (lv_at hl 0 rfl) ?_
      obtain ⟨r8, er8, h⟩ := bd_ob h
      refine me_panl' (r0 := r8) (fg_runS (wc := []) (tc := []) (A2 := A) (As := [.long (mL M2 11 j1 2), .long v1]) (rest := [.ref (ad 11 j6)]) ⟨hx, hb, hml, hown, hts⟩ (c_Reckoner_quotient l D r8 (mL M2 11 j1 2) v1 er8 _) (by show fg_nm y_Reckoner_quotient 2; decide +kernel) u_1181 u_1182 u_186 u_1183 ⟨Nat.le_of_ble_eq_true rfl, Nat.le_of_ble_eq_true rfl⟩ hX me_P0 (hK.sub (tys' := []) [] rfl) me_D0 rfl hl.1 (Nat.le_of_ble_eq_true rfl) d_Reckoner_divide_53 ⟨Nat.le_of_ble_eq_true rfl, Nat.le_of_ble_eq_true rfl⟩) hP hD hK hS hA rfl rfl (fun H locs hw hP hD hS => ?_)
      refine lv_aload_n hx hb d_Reckoner_divide_56 rfl (lv_at hl 2 rfl) ?_
      refine g_Num_3 hx hb hts hown hK hP hwf hj1 (hts _ u_377) d_Reckoner_divide_57 ?_
      refine lv_lload_n hx hb d_Reckoner_divide_60 rfl (lv_at hl 0 rfl) ?_
      obtain ⟨r9, er9, h⟩ := bd_ob h
      refine me_panl' (r0 := r9) (fg_runS (wc := []) (tc := []) (A2 := A) (As := [.long (mL M2 11 j1 3), .long v1]) (rest := [.long r8, .ref (ad 11 j6)]) ⟨hx, hb, hml, hown, hts⟩ (c_Reckoner_quotient l D r9 (mL M2 11 j1 3) v1 er9 _) (by show fg_nm y_Reckoner_quotient 2; decide +kernel) u_1181 u_1182 u_186 u_1183 ⟨Nat.le_of_ble_eq_true rfl, Nat.le_of_ble_eq_true rfl⟩ hX me_P0 (hK.sub (tys' := []) [] rfl) me_D0 rfl hl.1 (Nat.le_of_ble_eq_true rfl) d_Reckoner_divide_61 ⟨Nat.le_of_ble_eq_true rfl, Nat.le_of_ble_eq_true rfl⟩) hP hD hK hS hA rfl rfl (fun H locs hw hP hD hS => ?_)
      obtain ⟨M10, eM10, h⟩ := bd_ob h
      refine me_thenv0 (M1 := M10) (me_runV (C := "FilterGuard$Num") (As := [.long r8, .long r9]) (rest := []) ⟨hx, hb, hml, hown, hts⟩ (c_Num_range l D ad ca N M2 M10 j6 r8 r9 eM10 hwf hj6 _) rfl (by show fg_nm y_Num_range 2; decide +kernel) u_1145 u_1146 u_1147 u_187 u_1148 ⟨Nat.le_of_ble_eq_true rfl, Nat.le_of_ble_eq_true rfl⟩ hX hz hK hP hD hwf hS hA hj6 (by decide) rfl rfl rfl hl.1 (Nat.le_of_ble_eq_true rfl) d_Reckoner_divide_64 ⟨Nat.le_of_ble_eq_true rfl, Nat.le_of_ble_eq_true rfl⟩) hP hD hK hS hA rfl rfl (fun H locs hw hP hD hS => ?_)
      obtain ⟨hwf, hk9⟩ := hw
      have hkp := hkp.tr hk9
      exact me_retv (me_kp M0) h hx hb hr hlocks hwf hkp hP hK hD hS d_Reckoner_divide_67
    have h := if_t ((lg_cmp_eq _ _).mp c5) h
    refine lv_aload_n hx hb d_Reckoner_divide_33 rfl (lv_at hl 1 rfl) ?_
    refine g_Reckoner_2 hx hb hts hown hK hP hwf hj0 (hts _ u_398) d_Reckoner_divide_34 ?_
    obtain ⟨j11, e12, h⟩ := bd_ob h
    have hj11 : j11 < N 11 := (hwf.2.1 8 j0 2 _ (kp_r hkb hkp e12) (by decide) hj0)
    refine me_opt (j := j11) (kp_r hkb hkp e12) ?_
    refine lv_lconst (v := 0) hx hb d_Reckoner_divide_37 (by decide) ?_
    obtain ⟨M13, eM13, h⟩ := bd_ob h
    refine me_thenv0 (M1 := M13) (me_runV (C := "FilterGuard$Num") (As := [.long 0]) (rest := []) ⟨hx, hb, hml, hown, hts⟩ (c_Num_exact l D ad ca N M2 M13 j11 (0 : Int64) eM13 hwf hj11 _) rfl (by show fg_nm y_Num_exact 1; decide +kernel) u_1161 u_1037 u_1038 u_187 u_1039 ⟨Nat.le_of_ble_eq_true rfl, Nat.le_of_ble_eq_true rfl⟩ hX hz hK hP hD hwf hS hA hj11 (by decide) rfl rfl rfl hl.1 (Nat.le_of_ble_eq_true rfl) d_Reckoner_divide_38 ⟨Nat.le_of_ble_eq_true rfl, Nat.le_of_ble_eq_true rfl⟩) hP hD hK hS hA rfl rfl (fun H locs hw hP hD hS => ?_)
    obtain ⟨hwf, hk9⟩ := hw
    have hkp := hkp.tr hk9
    refine lv_goto (tgt := 67) hx hb d_Reckoner_divide_41 (by decide) ?_
    exact me_retv (me_kp M0) h hx hb hr hlocks hwf hkp hP hK hD hS d_Reckoner_divide_67
  have h := if_t c4 h
  refine lv_aload_n hx hb d_Reckoner_divide_12 rfl (lv_at hl 1 rfl) ?_
  refine g_Reckoner_2 hx hb hts hown hK hP hwf hj0 (hts _ u_398) d_Reckoner_divide_13 ?_
  obtain ⟨j14, e15, h⟩ := bd_ob h
  have hj14 : j14 < N 11 := (hwf.2.1 8 j0 2 _ (kp_r hkb hkp e15) (by decide) hj0)
  refine me_opt (j := j14) (kp_r hkb hkp e15) ?_
  refine lv_lconst (v := 0) hx hb d_Reckoner_divide_16 (by decide) ?_
  refine lv_aload_n hx hb d_Reckoner_divide_17 rfl (lv_at hl 2 rfl) ?_
  refine g_Num_3 hx hb hts hown hK hP hwf hj1 (hts _ u_377) d_Reckoner_divide_18 ?_
  obtain ⟨M16, eM16, h⟩ := bd_ob h
  refine me_thenv0 (M1 := M16) (me_runV (C := "FilterGuard$Num") (As := [.long 0, .long (mL M2 11 j1 3)]) (rest := []) ⟨hx, hb, hml, hown, hts⟩ (c_Num_range l D ad ca N M2 M16 j14 (0 : Int64) (mL M2 11 j1 3) eM16 hwf hj14 _) rfl (by show fg_nm y_Num_range 2; decide +kernel) u_1145 u_1146 u_1147 u_187 u_1148 ⟨Nat.le_of_ble_eq_true rfl, Nat.le_of_ble_eq_true rfl⟩ hX hz hK hP hD hwf hS hA hj14 (by decide) rfl rfl rfl hl.1 (Nat.le_of_ble_eq_true rfl) d_Reckoner_divide_21 ⟨Nat.le_of_ble_eq_true rfl, Nat.le_of_ble_eq_true rfl⟩) hP hD hK hS hA rfl rfl (fun H locs hw hP hD hS => ?_)
  obtain ⟨hwf, hk9⟩ := hw
  have hkp := hkp.tr hk9
  refine lv_goto (tgt := 67) hx hb d_Reckoner_divide_24 (by decide) ?_
  exact me_retv (me_kp M0) h hx hb hr hlocks hwf hkp hP hK hD hS d_Reckoner_divide_67
