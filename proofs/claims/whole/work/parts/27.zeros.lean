abbrev y_Long_bitCount : MethodName := ⟨"java/lang/Long", "bitCount", "(J)I"⟩
theorem d_Long_bitCount_0 : decode prog_20_method_50_code 0 = .ok (.lload_n 0, 1) := by decide +kernel
theorem d_Long_bitCount_1 : decode prog_20_method_50_code 1 = .ok (.lload_n 0, 1) := by decide +kernel
theorem d_Long_bitCount_2 : decode prog_20_method_50_code 2 = .ok (.iconst 1, 1) := by decide +kernel
theorem d_Long_bitCount_3 : decode prog_20_method_50_code 3 = .ok (.lushr, 1) := by decide +kernel
theorem d_Long_bitCount_4 : decode prog_20_method_50_code 4 = .ok (.ldc2_w 314, 3) := by decide +kernel
theorem u_1169 : Cond.constantLong "java/lang/Long" 314 6148914691236517205 ∈ fg_g := fg_in (List.mem_of_getElem? (i := 1169) (by decide +kernel)) rfl
theorem d_Long_bitCount_7 : decode prog_20_method_50_code 7 = .ok (.land, 1) := by decide +kernel
theorem d_Long_bitCount_8 : decode prog_20_method_50_code 8 = .ok (.lsub, 1) := by decide +kernel
theorem d_Long_bitCount_9 : decode prog_20_method_50_code 9 = .ok (.lstore_n 0, 1) := by decide +kernel
theorem d_Long_bitCount_10 : decode prog_20_method_50_code 10 = .ok (.lload_n 0, 1) := by decide +kernel
theorem d_Long_bitCount_11 : decode prog_20_method_50_code 11 = .ok (.ldc2_w 316, 3) := by decide +kernel
theorem u_1170 : Cond.constantLong "java/lang/Long" 316 3689348814741910323 ∈ fg_g := fg_in (List.mem_of_getElem? (i := 1170) (by decide +kernel)) rfl
theorem d_Long_bitCount_14 : decode prog_20_method_50_code 14 = .ok (.land, 1) := by decide +kernel
theorem d_Long_bitCount_15 : decode prog_20_method_50_code 15 = .ok (.lload_n 0, 1) := by decide +kernel
theorem d_Long_bitCount_16 : decode prog_20_method_50_code 16 = .ok (.iconst 2, 1) := by decide +kernel
theorem d_Long_bitCount_17 : decode prog_20_method_50_code 17 = .ok (.lushr, 1) := by decide +kernel
theorem d_Long_bitCount_18 : decode prog_20_method_50_code 18 = .ok (.ldc2_w 316, 3) := by decide +kernel
theorem d_Long_bitCount_21 : decode prog_20_method_50_code 21 = .ok (.land, 1) := by decide +kernel
theorem d_Long_bitCount_22 : decode prog_20_method_50_code 22 = .ok (.ladd, 1) := by decide +kernel
theorem d_Long_bitCount_23 : decode prog_20_method_50_code 23 = .ok (.lstore_n 0, 1) := by decide +kernel
theorem d_Long_bitCount_24 : decode prog_20_method_50_code 24 = .ok (.lload_n 0, 1) := by decide +kernel
theorem d_Long_bitCount_25 : decode prog_20_method_50_code 25 = .ok (.lload_n 0, 1) := by decide +kernel
theorem d_Long_bitCount_26 : decode prog_20_method_50_code 26 = .ok (.iconst 4, 1) := by decide +kernel
theorem d_Long_bitCount_27 : decode prog_20_method_50_code 27 = .ok (.lushr, 1) := by decide +kernel
theorem d_Long_bitCount_28 : decode prog_20_method_50_code 28 = .ok (.ladd, 1) := by decide +kernel
theorem d_Long_bitCount_29 : decode prog_20_method_50_code 29 = .ok (.ldc2_w 318, 3) := by decide +kernel
theorem u_1171 : Cond.constantLong "java/lang/Long" 318 1085102592571150095 ∈ fg_g := fg_in (List.mem_of_getElem? (i := 1171) (by decide +kernel)) rfl
theorem d_Long_bitCount_32 : decode prog_20_method_50_code 32 = .ok (.land, 1) := by decide +kernel
theorem d_Long_bitCount_33 : decode prog_20_method_50_code 33 = .ok (.lstore_n 0, 1) := by decide +kernel
theorem d_Long_bitCount_34 : decode prog_20_method_50_code 34 = .ok (.lload_n 0, 1) := by decide +kernel
theorem d_Long_bitCount_35 : decode prog_20_method_50_code 35 = .ok (.lload_n 0, 1) := by decide +kernel
theorem d_Long_bitCount_36 : decode prog_20_method_50_code 36 = .ok (.bipush 8, 2) := by decide +kernel
theorem d_Long_bitCount_38 : decode prog_20_method_50_code 38 = .ok (.lushr, 1) := by decide +kernel
theorem d_Long_bitCount_39 : decode prog_20_method_50_code 39 = .ok (.ladd, 1) := by decide +kernel
theorem d_Long_bitCount_40 : decode prog_20_method_50_code 40 = .ok (.lstore_n 0, 1) := by decide +kernel
theorem d_Long_bitCount_41 : decode prog_20_method_50_code 41 = .ok (.lload_n 0, 1) := by decide +kernel
theorem d_Long_bitCount_42 : decode prog_20_method_50_code 42 = .ok (.lload_n 0, 1) := by decide +kernel
theorem d_Long_bitCount_43 : decode prog_20_method_50_code 43 = .ok (.bipush 16, 2) := by decide +kernel
theorem d_Long_bitCount_45 : decode prog_20_method_50_code 45 = .ok (.lushr, 1) := by decide +kernel
theorem d_Long_bitCount_46 : decode prog_20_method_50_code 46 = .ok (.ladd, 1) := by decide +kernel
theorem d_Long_bitCount_47 : decode prog_20_method_50_code 47 = .ok (.lstore_n 0, 1) := by decide +kernel
theorem d_Long_bitCount_48 : decode prog_20_method_50_code 48 = .ok (.lload_n 0, 1) := by decide +kernel
theorem d_Long_bitCount_49 : decode prog_20_method_50_code 49 = .ok (.lload_n 0, 1) := by decide +kernel
theorem d_Long_bitCount_50 : decode prog_20_method_50_code 50 = .ok (.bipush 32, 2) := by decide +kernel
theorem d_Long_bitCount_52 : decode prog_20_method_50_code 52 = .ok (.lushr, 1) := by decide +kernel
theorem d_Long_bitCount_53 : decode prog_20_method_50_code 53 = .ok (.ladd, 1) := by decide +kernel
theorem d_Long_bitCount_54 : decode prog_20_method_50_code 54 = .ok (.lstore_n 0, 1) := by decide +kernel
theorem d_Long_bitCount_55 : decode prog_20_method_50_code 55 = .ok (.lload_n 0, 1) := by decide +kernel
theorem d_Long_bitCount_56 : decode prog_20_method_50_code 56 = .ok (.l2i, 1) := by decide +kernel
theorem d_Long_bitCount_57 : decode prog_20_method_50_code 57 = .ok (.bipush 127, 2) := by decide +kernel
theorem d_Long_bitCount_59 : decode prog_20_method_50_code 59 = .ok (.iand, 1) := by decide +kernel
theorem d_Long_bitCount_60 : decode prog_20_method_50_code 60 = .ok (.ireturn, 1) := by decide +kernel
def rm_Long_bitCount : Room := { frames := 1, cells := 0, slots := 0, locals := 20 }
abbrev q_Long_bitCount (D : va_G) (x1 : Int64) (A : Nat → Prop) : Array Value → Jvm.State → Outcome → Jvm.State → Prop := va_Qi (fun (r : Int32) (_ : Unit) => r = fn_bc x1) (fg_B D A (fun (_ : Unit) => []) (fun (_ : Unit) => [])) A
set_option maxHeartbeats 4000000 in
set_option maxRecDepth 100000 in
theorem c_Long_bitCount (l : Launch) (D : va_G) (x1 : Int64) (sz : Nat) : Met l y_Long_bitCount (fg_w y_Long_bitCount prog_20_method_50_code 2 (some .int)) rm_Long_bitCount (va_Pc [.long x1] (fg_P D [] [] sz)) (q_Long_bitCount D x1 (va_A [] sz)) rm_Long_bitCount.cells rm_Long_bitCount.slots (va_A [] sz) := by
  refine fg_enter (fun A => q_Long_bitCount D x1 A) (by decide +kernel) (Nat.le_of_ble_eq_true rfl) ?_
  intro p e s m below meth c ls A hx hb hml hown hts hr hlocks hin hP hK hD hS hA hX hl
  have hl : lv_has ls 2 [(0, .long x1)] := hl
  refine lv_lload_n hx hb d_Long_bitCount_0 rfl (lv_at hl 0 rfl) ?_
  refine lv_lload_n hx hb d_Long_bitCount_1 rfl (lv_at hl 0 rfl) ?_
  refine lv_iconst (v := 1) hx hb d_Long_bitCount_2 (by decide) ?_
  refine lv_lushr (v := (x1.toUInt64 >>> ((1 : Int32).toInt64.toUInt64 &&& Int64.toUInt64 63)).toInt64) hx hb d_Long_bitCount_3 rfl ?_
  refine lv_ldc2 hx hb hown (hts _ u_1169) d_Long_bitCount_4 ?_
  refine lv_land hx hb d_Long_bitCount_7 ?_
  refine lv_lsub hx hb d_Long_bitCount_8 ?_
  refine fg_topl (y := fn_b1 x1) rfl ?_
  refine lv_lstore_n (lv' := [(0, .long (fn_b1 x1))]) hx hb d_Long_bitCount_9 rfl hl (by decide) rfl (fun ls hl => ?_)
  refine lv_lload_n hx hb d_Long_bitCount_10 rfl (lv_at hl 0 rfl) ?_
  refine lv_ldc2 hx hb hown (hts _ u_1170) d_Long_bitCount_11 ?_
  refine lv_land hx hb d_Long_bitCount_14 ?_
  refine lv_lload_n hx hb d_Long_bitCount_15 rfl (lv_at hl 0 rfl) ?_
  refine lv_iconst (v := 2) hx hb d_Long_bitCount_16 (by decide) ?_
  refine lv_lushr (v := ((fn_b1 x1).toUInt64 >>> ((2 : Int32).toInt64.toUInt64 &&& Int64.toUInt64 63)).toInt64) hx hb d_Long_bitCount_17 rfl ?_
  refine lv_ldc2 hx hb hown (hts _ u_1170) d_Long_bitCount_18 ?_
  refine lv_land hx hb d_Long_bitCount_21 ?_
  refine lv_ladd hx hb d_Long_bitCount_22 ?_
  refine fg_topl (y := fn_b2 (fn_b1 x1)) rfl ?_
  refine lv_lstore_n (lv' := [(0, .long (fn_b2 (fn_b1 x1)))]) hx hb d_Long_bitCount_23 rfl hl (by decide) rfl (fun ls hl => ?_)
  refine lv_lload_n hx hb d_Long_bitCount_24 rfl (lv_at hl 0 rfl) ?_
  refine lv_lload_n hx hb d_Long_bitCount_25 rfl (lv_at hl 0 rfl) ?_
  refine lv_iconst (v := 4) hx hb d_Long_bitCount_26 (by decide) ?_
  refine lv_lushr (v := ((fn_b2 (fn_b1 x1)).toUInt64 >>> ((4 : Int32).toInt64.toUInt64 &&& Int64.toUInt64 63)).toInt64) hx hb d_Long_bitCount_27 rfl ?_
  refine lv_ladd hx hb d_Long_bitCount_28 ?_
  refine lv_ldc2 hx hb hown (hts _ u_1171) d_Long_bitCount_29 ?_
  refine lv_land hx hb d_Long_bitCount_32 ?_
  refine fg_topl (y := fn_b3 (fn_b2 (fn_b1 x1))) rfl ?_
  refine lv_lstore_n (lv' := [(0, .long (fn_b3 (fn_b2 (fn_b1 x1))))]) hx hb d_Long_bitCount_33 rfl hl (by decide) rfl (fun ls hl => ?_)
  refine lv_lload_n hx hb d_Long_bitCount_34 rfl (lv_at hl 0 rfl) ?_
  refine lv_lload_n hx hb d_Long_bitCount_35 rfl (lv_at hl 0 rfl) ?_
  refine lv_bipush (v := 8) hx hb d_Long_bitCount_36 (by decide) ?_
  refine lv_lushr (v := ((fn_b3 (fn_b2 (fn_b1 x1))).toUInt64 >>> ((8 : Int32).toInt64.toUInt64 &&& Int64.toUInt64 63)).toInt64) hx hb d_Long_bitCount_38 rfl ?_
  refine lv_ladd hx hb d_Long_bitCount_39 ?_
  refine fg_topl (y := fn_b4 (fn_b3 (fn_b2 (fn_b1 x1))) 8) rfl ?_
  refine lv_lstore_n (lv' := [(0, .long (fn_b4 (fn_b3 (fn_b2 (fn_b1 x1))) 8))]) hx hb d_Long_bitCount_40 rfl hl (by decide) rfl (fun ls hl => ?_)
  refine lv_lload_n hx hb d_Long_bitCount_41 rfl (lv_at hl 0 rfl) ?_
  refine lv_lload_n hx hb d_Long_bitCount_42 rfl (lv_at hl 0 rfl) ?_
  refine lv_bipush (v := 16) hx hb d_Long_bitCount_43 (by decide) ?_
  refine lv_lushr (v := ((fn_b4 (fn_b3 (fn_b2 (fn_b1 x1))) 8).toUInt64 >>> ((16 : Int32).toInt64.toUInt64 &&& Int64.toUInt64 63)).toInt64) hx hb d_Long_bitCount_45 rfl ?_
  refine lv_ladd hx hb d_Long_bitCount_46 ?_
  refine fg_topl (y := fn_b4 (fn_b4 (fn_b3 (fn_b2 (fn_b1 x1))) 8) 16) rfl ?_
  refine lv_lstore_n (lv' := [(0, .long (fn_b4 (fn_b4 (fn_b3 (fn_b2 (fn_b1 x1))) 8) 16))]) hx hb d_Long_bitCount_47 rfl hl (by decide) rfl (fun ls hl => ?_)
  refine lv_lload_n hx hb d_Long_bitCount_48 rfl (lv_at hl 0 rfl) ?_
  refine lv_lload_n hx hb d_Long_bitCount_49 rfl (lv_at hl 0 rfl) ?_
  refine lv_bipush (v := 32) hx hb d_Long_bitCount_50 (by decide) ?_
  refine lv_lushr (v := ((fn_b4 (fn_b4 (fn_b3 (fn_b2 (fn_b1 x1))) 8) 16).toUInt64 >>> ((32 : Int32).toInt64.toUInt64 &&& Int64.toUInt64 63)).toInt64) hx hb d_Long_bitCount_52 rfl ?_
  refine lv_ladd hx hb d_Long_bitCount_53 ?_
  refine fg_topl (y := fn_b4 (fn_b4 (fn_b4 (fn_b3 (fn_b2 (fn_b1 x1))) 8) 16) 32) rfl ?_
  refine lv_lstore_n (lv' := [(0, .long (fn_b4 (fn_b4 (fn_b4 (fn_b3 (fn_b2 (fn_b1 x1))) 8) 16) 32))]) hx hb d_Long_bitCount_54 rfl hl (by decide) rfl (fun ls hl => ?_)
  refine lv_lload_n hx hb d_Long_bitCount_55 rfl (lv_at hl 0 rfl) ?_
  refine lv_l2i (v := (fn_b4 (fn_b4 (fn_b4 (fn_b3 (fn_b2 (fn_b1 x1))) 8) 16) 32).toInt32) hx hb d_Long_bitCount_56 rfl ?_
  refine lv_bipush (v := 127) hx hb d_Long_bitCount_57 (by decide) ?_
  refine lv_iand hx hb d_Long_bitCount_59 ?_
  exact fg_reti () hx hb hr hlocks rfl (hP.sub (ws' := []) [] rfl) (hK.sub (tys' := []) [] rfl) (hD.sub (ws' := []) [] (by decide) rfl) hS (Nat.le_of_ble_eq_true rfl) (Nat.le_of_ble_eq_true rfl) d_Long_bitCount_60
abbrev y_Num_lowestZeros : MethodName := ⟨"FilterGuard$Num", "lowestZeros", "()I"⟩
theorem d_Num_lowestZeros_0 : decode prog_8_method_14_code 0 = .ok (.aload_n 0, 1) := by decide +kernel
theorem d_Num_lowestZeros_1 : decode prog_8_method_14_code 1 = .ok (.getfield 9, 3) := by decide +kernel
theorem d_Num_lowestZeros_4 : decode prog_8_method_14_code 4 = .ok (.aload_n 0, 1) := by decide +kernel
theorem d_Num_lowestZeros_5 : decode prog_8_method_14_code 5 = .ok (.getfield 15, 3) := by decide +kernel
theorem d_Num_lowestZeros_8 : decode prog_8_method_14_code 8 = .ok (.lor, 1) := by decide +kernel
theorem d_Num_lowestZeros_9 : decode prog_8_method_14_code 9 = .ok (.lstore_n 1, 1) := by decide +kernel
theorem d_Num_lowestZeros_10 : decode prog_8_method_14_code 10 = .ok (.lload_n 1, 1) := by decide +kernel
theorem d_Num_lowestZeros_11 : decode prog_8_method_14_code 11 = .ok (.ldc2_w 30, 3) := by decide +kernel
theorem d_Num_lowestZeros_14 : decode prog_8_method_14_code 14 = .ok (.lxor, 1) := by decide +kernel
theorem d_Num_lowestZeros_15 : decode prog_8_method_14_code 15 = .ok (.lload_n 1, 1) := by decide +kernel
theorem d_Num_lowestZeros_16 : decode prog_8_method_14_code 16 = .ok (.lconst 1, 1) := by decide +kernel
theorem d_Num_lowestZeros_17 : decode prog_8_method_14_code 17 = .ok (.lsub, 1) := by decide +kernel
theorem d_Num_lowestZeros_18 : decode prog_8_method_14_code 18 = .ok (.land, 1) := by decide +kernel
theorem d_Num_lowestZeros_19 : decode prog_8_method_14_code 19 = .ok (.invokestatic 60, 3) := by decide +kernel
theorem u_1166 : Cond.methodLink "FilterGuard$Num" 60 ⟨"java/lang/Long", "bitCount", "(J)I"⟩ ∈ fg_g := fg_in (List.mem_of_getElem? (i := 1166) (by decide +kernel)) rfl
theorem u_202 : Cond.initialized "java/lang/Long" ∈ fg_g := fg_in (List.mem_of_getElem? (i := 202) (by decide +kernel)) rfl
theorem u_1168 : Cond.code ⟨"java/lang/Long", "bitCount", "(J)I"⟩ prog_20_method_50_code 2 (some .int) ∈ fg_g := fg_in (List.mem_of_getElem? (i := 1168) (by decide +kernel)) rfl
theorem u_1167 : Cond.static ⟨"java/lang/Long", "bitCount", "(J)I"⟩ ∈ fg_g := fg_in (List.mem_of_getElem? (i := 1167) (by decide +kernel)) rfl
theorem d_Num_lowestZeros_22 : decode prog_8_method_14_code 22 = .ok (.ireturn, 1) := by decide +kernel
def rm_Num_lowestZeros : Room := { frames := 2, cells := 0, slots := 0, locals := 60 }
abbrev q_Num_lowestZeros (D : va_G) (h0 : Nat) (n1 : Int64) (n2 : Int64) (n3 : Int64) (n4 : Int64) (n5 : Int64) (n6 : Int64) (A : Nat → Prop) : Array Value → Jvm.State → Outcome → Jvm.State → Prop := va_Qi (fun (r : Int32) (_ : Unit) => r = fn_lz n1 n2) (fg_B D A (fun (_ : Unit) => [(h0, .inr (11, [.long n1, .long n2, .long n3, .long n4, .long n5, .long n6]))]) (fun (_ : Unit) => [])) A
set_option maxHeartbeats 4000000 in
set_option maxRecDepth 100000 in
theorem c_Num_lowestZeros (l : Launch) (D : va_G) (h0 : Nat) (n1 : Int64) (n2 : Int64) (n3 : Int64) (n4 : Int64) (n5 : Int64) (n6 : Int64) (sz : Nat) : Met l y_Num_lowestZeros (fg_w y_Num_lowestZeros prog_8_method_14_code 3 (some .int)) rm_Num_lowestZeros (va_Pc [.ref h0] (fg_P D [] [(h0, .inr (11, [.long n1, .long n2, .long n3, .long n4, .long n5, .long n6]))] sz)) (q_Num_lowestZeros D h0 n1 n2 n3 n4 n5 n6 (va_A [(h0, .inr (11, [.long n1, .long n2, .long n3, .long n4, .long n5, .long n6]))] sz)) rm_Num_lowestZeros.cells rm_Num_lowestZeros.slots (va_A [(h0, .inr (11, [.long n1, .long n2, .long n3, .long n4, .long n5, .long n6]))] sz) := by
  refine fg_enter (fun A => q_Num_lowestZeros D h0 n1 n2 n3 n4 n5 n6 A) (by decide +kernel) (Nat.le_of_ble_eq_true rfl) ?_
  intro p e s m below meth c ls A hx hb hml hown hts hr hlocks hin hP hK hD hS hA hX hl
  have hl : lv_has ls 3 [(0, .ref h0)] := hl
  refine lv_aload_n hx hb d_Num_lowestZeros_0 rfl (lv_at hl 0 rfl) ?_
  refine va_get (D := D) (ci := 11) (v := .long n1) (C := "FilterGuard$Num") (T := F_Num) (N := 6) hx hb hts i_Num hown hK hP 0 rfl rfl 0 (by decide) (hts _ u_367) (fun _ h9 => h9) rfl d_Num_lowestZeros_1 ?_
  refine lv_aload_n hx hb d_Num_lowestZeros_4 rfl (lv_at hl 0 rfl) ?_
  refine va_get (D := D) (ci := 11) (v := .long n2) (C := "FilterGuard$Num") (T := F_Num) (N := 6) hx hb hts i_Num hown hK hP 0 rfl rfl 1 (by decide) (hts _ u_371) (fun _ h9 => h9) rfl d_Num_lowestZeros_5 ?_
  refine lv_lor hx hb d_Num_lowestZeros_8 ?_
  refine lv_lstore_n (lv' := [(1, .long (n1 ||| n2)), (0, .ref h0)]) hx hb d_Num_lowestZeros_9 rfl hl (by decide) rfl (fun ls hl => ?_)
  refine lv_lload_n hx hb d_Num_lowestZeros_10 rfl (lv_at hl 0 rfl) ?_
  refine lv_ldc2 hx hb hown (hts _ u_1061) d_Num_lowestZeros_11 ?_
  refine lv_lxor hx hb d_Num_lowestZeros_14 ?_
  refine lv_lload_n hx hb d_Num_lowestZeros_15 rfl (lv_at hl 0 rfl) ?_
  refine lv_lconst (v := 1) hx hb d_Num_lowestZeros_16 (by decide) ?_
  refine lv_lsub hx hb d_Num_lowestZeros_17 ?_
  refine lv_land hx hb d_Num_lowestZeros_18 ?_
  refine fg_theni (wr := [(h0, .inr (11, [.long n1, .long n2, .long n3, .long n4, .long n5, .long n6]))]) (fg_runS (As := [.long (((n1 ||| n2) ^^^ (-1)) &&& ((n1 ||| n2) - 1))]) (rest := []) ⟨hx, hb, hml, hown, hts⟩ (c_Long_bitCount l D (((n1 ||| n2) ^^^ (-1)) &&& ((n1 ||| n2) - 1)) s.heap.size) (by show fg_nm y_Long_bitCount 1; decide +kernel) u_1166 u_1167 u_202 u_1168 ⟨Nat.le_of_ble_eq_true rfl, Nat.le_of_ble_eq_true rfl⟩ hX (hP.sub (ws' := []) [] rfl) (hK.sub (tys' := []) [] rfl) (hD.sub (ws' := []) [] (by decide) rfl) rfl hl.1 (Nat.le_of_ble_eq_true rfl) d_Num_lowestZeros_19 ⟨(Nat.le_of_ble_eq_true rfl), (Nat.le_of_ble_eq_true rfl)⟩) hP hD hK hS hA [] [0] rfl rfl (by decide) (by decide) (fun r19_1 u H locs hw19_0 hP hD hK hS => ?_)
  try dsimp only at hw19_0
  have hP : va_P D classes [(h0, .inr (11, [.long n1, .long n2, .long n3, .long n4, .long n5, .long n6]))] H := hP
  have hD : va_D A [(h0, .inr (11, [.long n1, .long n2, .long n3, .long n4, .long n5, .long n6]))] := hD
  have hK : va_K D classes [] s := hK
  refine W.widen (k := 0) (n := 0) (Nat.le_of_ble_eq_true rfl) (Nat.le_of_ble_eq_true rfl) ?_
  subst hw19_0
  have hP : va_P D classes [(h0, .inr (11, [.long n1, .long n2, .long n3, .long n4, .long n5, .long n6]))] H := hP
  have hD : va_D A [(h0, .inr (11, [.long n1, .long n2, .long n3, .long n4, .long n5, .long n6]))] := hD
  exact fg_reti () hx hb hr hlocks rfl (hP.sub (ws' := [(h0, .inr (11, [.long n1, .long n2, .long n3, .long n4, .long n5, .long n6]))]) [0] rfl) (hK.sub (tys' := []) [] rfl) (hD.sub (ws' := [(h0, .inr (11, [.long n1, .long n2, .long n3, .long n4, .long n5, .long n6]))]) [0] (by decide) rfl) hS (Nat.le_of_ble_eq_true rfl) (Nat.le_of_ble_eq_true rfl) d_Num_lowestZeros_22
