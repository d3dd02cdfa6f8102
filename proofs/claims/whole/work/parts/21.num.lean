abbrev y_Num_exact : MethodName := ⟨"FilterGuard$Num", "exact", "(J)V"⟩
theorem d_Num_exact_0 : decode prog_8_method_2_code 0 = .ok (.aload_n 0, 1) := by decide +kernel
theorem d_Num_exact_1 : decode prog_8_method_2_code 1 = .ok (.lload_n 1, 1) := by decide +kernel
theorem d_Num_exact_2 : decode prog_8_method_2_code 2 = .ok (.putfield 9, 3) := by decide +kernel
theorem u_367 : Cond.fieldLink "FilterGuard$Num" 9 "FilterGuard$Num" "value" "J" ∈ fg_g := fg_in (List.mem_of_getElem? (i := 367) (by decide +kernel)) rfl
theorem d_Num_exact_5 : decode prog_8_method_2_code 5 = .ok (.aload_n 0, 1) := by decide +kernel
theorem d_Num_exact_6 : decode prog_8_method_2_code 6 = .ok (.lconst 0, 1) := by decide +kernel
theorem d_Num_exact_7 : decode prog_8_method_2_code 7 = .ok (.putfield 15, 3) := by decide +kernel
theorem u_371 : Cond.fieldLink "FilterGuard$Num" 15 "FilterGuard$Num" "mask" "J" ∈ fg_g := fg_in (List.mem_of_getElem? (i := 371) (by decide +kernel)) rfl
theorem d_Num_exact_10 : decode prog_8_method_2_code 10 = .ok (.aload_n 0, 1) := by decide +kernel
theorem d_Num_exact_11 : decode prog_8_method_2_code 11 = .ok (.lload_n 1, 1) := by decide +kernel
theorem d_Num_exact_12 : decode prog_8_method_2_code 12 = .ok (.putfield 18, 3) := by decide +kernel
theorem u_373 : Cond.fieldLink "FilterGuard$Num" 18 "FilterGuard$Num" "least" "J" ∈ fg_g := fg_in (List.mem_of_getElem? (i := 373) (by decide +kernel)) rfl
theorem d_Num_exact_15 : decode prog_8_method_2_code 15 = .ok (.aload_n 0, 1) := by decide +kernel
theorem d_Num_exact_16 : decode prog_8_method_2_code 16 = .ok (.lload_n 1, 1) := by decide +kernel
theorem d_Num_exact_17 : decode prog_8_method_2_code 17 = .ok (.putfield 21, 3) := by decide +kernel
theorem u_376 : Cond.fieldLink "FilterGuard$Num" 21 "FilterGuard$Num" "greatest" "J" ∈ fg_g := fg_in (List.mem_of_getElem? (i := 376) (by decide +kernel)) rfl
theorem d_Num_exact_20 : decode prog_8_method_2_code 20 = .ok (.aload_n 0, 1) := by decide +kernel
theorem d_Num_exact_21 : decode prog_8_method_2_code 21 = .ok (.lload_n 1, 1) := by decide +kernel
theorem d_Num_exact_22 : decode prog_8_method_2_code 22 = .ok (.putfield 24, 3) := by decide +kernel
theorem u_379 : Cond.fieldLink "FilterGuard$Num" 24 "FilterGuard$Num" "signedLeast" "J" ∈ fg_g := fg_in (List.mem_of_getElem? (i := 379) (by decide +kernel)) rfl
theorem d_Num_exact_25 : decode prog_8_method_2_code 25 = .ok (.aload_n 0, 1) := by decide +kernel
theorem d_Num_exact_26 : decode prog_8_method_2_code 26 = .ok (.lload_n 1, 1) := by decide +kernel
theorem d_Num_exact_27 : decode prog_8_method_2_code 27 = .ok (.putfield 27, 3) := by decide +kernel
theorem u_381 : Cond.fieldLink "FilterGuard$Num" 27 "FilterGuard$Num" "signedGreatest" "J" ∈ fg_g := fg_in (List.mem_of_getElem? (i := 381) (by decide +kernel)) rfl
theorem d_Num_exact_30 : decode prog_8_method_2_code 30 = .ok (.return_, 1) := by decide +kernel
def rm_Num_exact : Room := { frames := 1, cells := 0, slots := 0, locals := 20 }
abbrev q_Num_exact (D : va_G) (h0 : Nat) (n1 : Int64) (n2 : Int64) (n3 : Int64) (n4 : Int64) (n5 : Int64) (n6 : Int64) (x1 : Int64) (A : Nat → Prop) : Array Value → Jvm.State → Outcome → Jvm.State → Prop := va_Qv (fun (_ : Unit) => True) (fg_B D A (fun (_ : Unit) => [(h0, .inr (11, [.long x1, .long 0, .long x1, .long x1, .long x1, .long x1]))]) (fun (_ : Unit) => [])) A
set_option maxHeartbeats 4000000 in
set_option maxRecDepth 100000 in
theorem c_Num_exact (l : Launch) (D : va_G) (h0 : Nat) (n1 : Int64) (n2 : Int64) (n3 : Int64) (n4 : Int64) (n5 : Int64) (n6 : Int64) (x1 : Int64) (sz : Nat) : Met l y_Num_exact (fg_w y_Num_exact prog_8_method_2_code 3 none) rm_Num_exact (va_Pc [.ref h0, .long x1] (fg_P D [] [(h0, .inr (11, [.long n1, .long n2, .long n3, .long n4, .long n5, .long n6]))] sz)) (q_Num_exact D h0 n1 n2 n3 n4 n5 n6 x1 (va_A [(h0, .inr (11, [.long n1, .long n2, .long n3, .long n4, .long n5, .long n6]))] sz)) rm_Num_exact.cells rm_Num_exact.slots (va_A [(h0, .inr (11, [.long n1, .long n2, .long n3, .long n4, .long n5, .long n6]))] sz) := by
  refine fg_enter (fun A => q_Num_exact D h0 n1 n2 n3 n4 n5 n6 x1 A) (by decide +kernel) (Nat.le_of_ble_eq_true rfl) ?_
  intro p e s m below meth c ls A hx hb hml hown hts hr hlocks hin hP hK hD hS hA hX hl
  have hl : lv_has ls 3 [(0, .ref h0), (1, .long x1)] := hl
  refine lv_aload_n hx hb d_Num_exact_0 rfl (lv_at hl 0 rfl) ?_
  refine lv_lload_n hx hb d_Num_exact_1 rfl (lv_at hl 1 rfl) ?_
  refine va_put (D := D) (ci := 11) (v := .long x1) (ty := .long) (C := "FilterGuard$Num") (T := F_Num) (N := 6) hx hb hts i_Num t_Num t_Num_ok n_Num hown hK hP hD hS 0 rfl rfl 0 (by decide) (hts _ u_367) (fun _ h9 => h9) rfl (by decide +kernel) rfl rfl (Nat.le_of_ble_eq_true rfl) d_Num_exact_2 (fun H locs hP hD hS => ?_)
  have hP : va_P D classes [(h0, .inr (11, [.long x1, .long n2, .long n3, .long n4, .long n5, .long n6]))] H := hP
  have hD : va_D A [(h0, .inr (11, [.long x1, .long n2, .long n3, .long n4, .long n5, .long n6]))] := hD
  refine lv_aload_n hx hb d_Num_exact_5 rfl (lv_at hl 0 rfl) ?_
  refine lv_lconst (v := 0) hx hb d_Num_exact_6 (by decide) ?_
  refine va_put (D := D) (ci := 11) (v := .long 0) (ty := .long) (C := "FilterGuard$Num") (T := F_Num) (N := 6) hx hb hts i_Num t_Num t_Num_ok n_Num hown hK hP hD hS 0 rfl rfl 1 (by decide) (hts _ u_371) (fun _ h9 => h9) rfl (by decide +kernel) rfl rfl (Nat.le_of_ble_eq_true rfl) d_Num_exact_7 (fun H locs hP hD hS => ?_)
  have hP : va_P D classes [(h0, .inr (11, [.long x1, .long 0, .long n3, .long n4, .long n5, .long n6]))] H := hP
  have hD : va_D A [(h0, .inr (11, [.long x1, .long 0, .long n3, .long n4, .long n5, .long n6]))] := hD
  refine lv_aload_n hx hb d_Num_exact_10 rfl (lv_at hl 0 rfl) ?_
  refine lv_lload_n hx hb d_Num_exact_11 rfl (lv_at hl 1 rfl) ?_
  refine va_put (D := D) (ci := 11) (v := .long x1) (ty := .long) (C := "FilterGuard$Num") (T := F_Num) (N := 6) hx hb hts i_Num t_Num t_Num_ok n_Num hown hK hP hD hS 0 rfl rfl 2 (by decide) (hts _ u_373) (fun _ h9 => h9) rfl (by decide +kernel) rfl rfl (Nat.le_of_ble_eq_true rfl) d_Num_exact_12 (fun H locs hP hD hS => ?_)
  have hP : va_P D classes [(h0, .inr (11, [.long x1, .long 0, .long x1, .long n4, .long n5, .long n6]))] H := hP
  have hD : va_D A [(h0, .inr (11, [.long x1, .long 0, .long x1, .long n4, .long n5, .long n6]))] := hD
  refine lv_aload_n hx hb d_Num_exact_15 rfl (lv_at hl 0 rfl) ?_
  refine lv_lload_n hx hb d_Num_exact_16 rfl (lv_at hl 1 rfl) ?_
  refine va_put (D := D) (ci := 11) (v := .long x1) (ty := .long) (C := "FilterGuard$Num") (T := F_Num) (N := 6) hx hb hts i_Num t_Num t_Num_ok n_Num hown hK hP hD hS 0 rfl rfl 3 (by decide) (hts _ u_376) (fun _ h9 => h9) rfl (by decide +kernel) rfl rfl (Nat.le_of_ble_eq_true rfl) d_Num_exact_17 (fun H locs hP hD hS => ?_)
  have hP : va_P D classes [(h0, .inr (11, [.long x1, .long 0, .long x1, .long x1, .long n5, .long n6]))] H := hP
  have hD : va_D A [(h0, .inr (11, [.long x1, .long 0, .long x1, .long x1, .long n5, .long n6]))] := hD
  refine lv_aload_n hx hb d_Num_exact_20 rfl (lv_at hl 0 rfl) ?_
  refine lv_lload_n hx hb d_Num_exact_21 rfl (lv_at hl 1 rfl) ?_
  refine va_put (D := D) (ci := 11) (v := .long x1) (ty := .long) (C := "FilterGuard$Num") (T := F_Num) (N := 6) hx hb hts i_Num t_Num t_Num_ok n_Num hown hK hP hD hS 0 rfl rfl 4 (by decide) (hts _ u_379) (fun _ h9 => h9) rfl (by decide +kernel) rfl rfl (Nat.le_of_ble_eq_true rfl) d_Num_exact_22 (fun H locs hP hD hS => ?_)
  have hP : va_P D classes [(h0, .inr (11, [.long x1, .long 0, .long x1, .long x1, .long x1, .long n6]))] H := hP
  have hD : va_D A [(h0, .inr (11, [.long x1, .long 0, .long x1, .long x1, .long x1, .long n6]))] := hD
  refine lv_aload_n hx hb d_Num_exact_25 rfl (lv_at hl 0 rfl) ?_
  refine lv_lload_n hx hb d_Num_exact_26 rfl (lv_at hl 1 rfl) ?_
  refine va_put (D := D) (ci := 11) (v := .long x1) (ty := .long) (C := "FilterGuard$Num") (T := F_Num) (N := 6) hx hb hts i_Num t_Num t_Num_ok n_Num hown hK hP hD hS 0 rfl rfl 5 (by decide) (hts _ u_381) (fun _ h9 => h9) rfl (by decide +kernel) rfl rfl (Nat.le_of_ble_eq_true rfl) d_Num_exact_27 (fun H locs hP hD hS => ?_)
  have hP : va_P D classes [(h0, .inr (11, [.long x1, .long 0, .long x1, .long x1, .long x1, .long x1]))] H := hP
  have hD : va_D A [(h0, .inr (11, [.long x1, .long 0, .long x1, .long x1, .long x1, .long x1]))] := hD
  exact fg_retv () hx hb hr hlocks trivial (hP.sub (ws' := [(h0, .inr (11, [.long x1, .long 0, .long x1, .long x1, .long x1, .long x1]))]) [0] rfl) (hK.sub (tys' := []) [] rfl) (hD.sub (ws' := [(h0, .inr (11, [.long x1, .long 0, .long x1, .long x1, .long x1, .long x1]))]) [0] (by decide) rfl) hS (Nat.le_of_ble_eq_true rfl) (Nat.le_of_ble_eq_true rfl) d_Num_exact_30
abbrev y_Num_any : MethodName := ⟨"FilterGuard$Num", "any", "()V"⟩
theorem d_Num_any_0 : decode prog_8_method_3_code 0 = .ok (.aload_n 0, 1) := by decide +kernel
theorem d_Num_any_1 : decode prog_8_method_3_code 1 = .ok (.lconst 0, 1) := by decide +kernel
theorem d_Num_any_2 : decode prog_8_method_3_code 2 = .ok (.putfield 9, 3) := by decide +kernel
theorem d_Num_any_5 : decode prog_8_method_3_code 5 = .ok (.aload_n 0, 1) := by decide +kernel
theorem d_Num_any_6 : decode prog_8_method_3_code 6 = .ok (.ldc2_w 30, 3) := by decide +kernel
theorem u_1061 : Cond.constantLong "FilterGuard$Num" 30 (-1) ∈ fg_g := fg_in (List.mem_of_getElem? (i := 1061) (by decide +kernel)) rfl
theorem d_Num_any_9 : decode prog_8_method_3_code 9 = .ok (.putfield 15, 3) := by decide +kernel
theorem d_Num_any_12 : decode prog_8_method_3_code 12 = .ok (.aload_n 0, 1) := by decide +kernel
theorem d_Num_any_13 : decode prog_8_method_3_code 13 = .ok (.lconst 0, 1) := by decide +kernel
theorem d_Num_any_14 : decode prog_8_method_3_code 14 = .ok (.putfield 18, 3) := by decide +kernel
theorem d_Num_any_17 : decode prog_8_method_3_code 17 = .ok (.aload_n 0, 1) := by decide +kernel
theorem d_Num_any_18 : decode prog_8_method_3_code 18 = .ok (.ldc2_w 30, 3) := by decide +kernel
theorem d_Num_any_21 : decode prog_8_method_3_code 21 = .ok (.putfield 21, 3) := by decide +kernel
theorem d_Num_any_24 : decode prog_8_method_3_code 24 = .ok (.aload_n 0, 1) := by decide +kernel
theorem d_Num_any_25 : decode prog_8_method_3_code 25 = .ok (.ldc2_w 32, 3) := by decide +kernel
theorem u_1065 : Cond.constantLong "FilterGuard$Num" 32 (-9223372036854775808) ∈ fg_g := fg_in (List.mem_of_getElem? (i := 1065) (by decide +kernel)) rfl
theorem d_Num_any_28 : decode prog_8_method_3_code 28 = .ok (.putfield 24, 3) := by decide +kernel
theorem d_Num_any_31 : decode prog_8_method_3_code 31 = .ok (.aload_n 0, 1) := by decide +kernel
theorem d_Num_any_32 : decode prog_8_method_3_code 32 = .ok (.ldc2_w 34, 3) := by decide +kernel
theorem u_1134 : Cond.constantLong "FilterGuard$Num" 34 9223372036854775807 ∈ fg_g := fg_in (List.mem_of_getElem? (i := 1134) (by decide +kernel)) rfl
theorem d_Num_any_35 : decode prog_8_method_3_code 35 = .ok (.putfield 27, 3) := by decide +kernel
theorem d_Num_any_38 : decode prog_8_method_3_code 38 = .ok (.return_, 1) := by decide +kernel
def rm_Num_any : Room := { frames := 1, cells := 0, slots := 0, locals := 20 }
abbrev q_Num_any (D : va_G) (h0 : Nat) (n1 : Int64) (n2 : Int64) (n3 : Int64) (n4 : Int64) (n5 : Int64) (n6 : Int64) (A : Nat → Prop) : Array Value → Jvm.State → Outcome → Jvm.State → Prop := va_Qv (fun (_ : Unit) => True) (fg_B D A (fun (_ : Unit) => [(h0, .inr (11, [.long 0, .long (-1), .long 0, .long (-1), .long (-9223372036854775808), .long 9223372036854775807]))]) (fun (_ : Unit) => [])) A
set_option maxHeartbeats 4000000 in
set_option maxRecDepth 100000 in
theorem c_Num_any (l : Launch) (D : va_G) (h0 : Nat) (n1 : Int64) (n2 : Int64) (n3 : Int64) (n4 : Int64) (n5 : Int64) (n6 : Int64) (sz : Nat) : Met l y_Num_any (fg_w y_Num_any prog_8_method_3_code 1 none) rm_Num_any (va_Pc [.ref h0] (fg_P D [] [(h0, .inr (11, [.long n1, .long n2, .long n3, .long n4, .long n5, .long n6]))] sz)) (q_Num_any D h0 n1 n2 n3 n4 n5 n6 (va_A [(h0, .inr (11, [.long n1, .long n2, .long n3, .long n4, .long n5, .long n6]))] sz)) rm_Num_any.cells rm_Num_any.slots (va_A [(h0, .inr (11, [.long n1, .long n2, .long n3, .long n4, .long n5, .long n6]))] sz) := by
  refine fg_enter (fun A => q_Num_any D h0 n1 n2 n3 n4 n5 n6 A) (by decide +kernel) (Nat.le_of_ble_eq_true rfl) ?_
  intro p e s m below meth c ls A hx hb hml hown hts hr hlocks hin hP hK hD hS hA hX hl
  have hl : lv_has ls 1 [(0, .ref h0)] := hl
  refine lv_aload_n hx hb d_Num_any_0 rfl (lv_at hl 0 rfl) ?_
  refine lv_lconst (v := 0) hx hb d_Num_any_1 (by decide) ?_
  refine va_put (D := D) (ci := 11) (v := .long 0) (ty := .long) (C := "FilterGuard$Num") (T := F_Num) (N := 6) hx hb hts i_Num t_Num t_Num_ok n_Num hown hK hP hD hS 0 rfl rfl 0 (by decide) (hts _ u_367) (fun _ h9 => h9) rfl (by decide +kernel) rfl rfl (Nat.le_of_ble_eq_true rfl) d_Num_any_2 (fun H locs hP hD hS => ?_)
  have hP : va_P D classes [(h0, .inr (11, [.long 0, .long n2, .long n3, .long n4, .long n5, .long n6]))] H := hP
  have hD : va_D A [(h0, .inr (11, [.long 0, .long n2, .long n3, .long n4, .long n5, .long n6]))] := hD
  refine lv_aload_n hx hb d_Num_any_5 rfl (lv_at hl 0 rfl) ?_
  refine lv_ldc2 hx hb hown (hts _ u_1061) d_Num_any_6 ?_
  refine va_put (D := D) (ci := 11) (v := .long (-1)) (ty := .long) (C := "FilterGuard$Num") (T := F_Num) (N := 6) hx hb hts i_Num t_Num t_Num_ok n_Num hown hK hP hD hS 0 rfl rfl 1 (by decide) (hts _ u_371) (fun _ h9 => h9) rfl (by decide +kernel) rfl rfl (Nat.le_of_ble_eq_true rfl) d_Num_any_9 (fun H locs hP hD hS => ?_)
  have hP : va_P D classes [(h0, .inr (11, [.long 0, .long (-1), .long n3, .long n4, .long n5, .long n6]))] H := hP
  have hD : va_D A [(h0, .inr (11, [.long 0, .long (-1), .long n3, .long n4, .long n5, .long n6]))] := hD
  refine lv_aload_n hx hb d_Num_any_12 rfl (lv_at hl 0 rfl) ?_
  refine lv_lconst (v := 0) hx hb d_Num_any_13 (by decide) ?_
  refine va_put (D := D) (ci := 11) (v := .long 0) (ty := .long) (C := "FilterGuard$Num") (T := F_Num) (N := 6) hx hb hts i_Num t_Num t_Num_ok n_Num hown hK hP hD hS 0 rfl rfl 2 (by decide) (hts _ u_373) (fun _ h9 => h9) rfl (by decide +kernel) rfl rfl (Nat.le_of_ble_eq_true rfl) d_Num_any_14 (fun H locs hP hD hS => ?_)
  have hP : va_P D classes [(h0, .inr (11, [.long 0, .long (-1), .long 0, .long n4, .long n5, .long n6]))] H := hP
  have hD : va_D A [(h0, .inr (11, [.long 0, .long (-1), .long 0, .long n4, .long n5, .long n6]))] := hD
  refine lv_aload_n hx hb d_Num_any_17 rfl (lv_at hl 0 rfl) ?_
  refine lv_ldc2 hx hb hown (hts _ u_1061) d_Num_any_18 ?_
  refine va_put (D := D) (ci := 11) (v := .long (-1)) (ty := .long) (C := "FilterGuard$Num") (T := F_Num) (N := 6) hx hb hts i_Num t_Num t_Num_ok n_Num hown hK hP hD hS 0 rfl rfl 3 (by decide) (hts _ u_376) (fun _ h9 => h9) rfl (by decide +kernel) rfl rfl (Nat.le_of_ble_eq_true rfl) d_Num_any_21 (fun H locs hP hD hS => ?_)
  have hP : va_P D classes [(h0, .inr (11, [.long 0, .long (-1), .long 0, .long (-1), .long n5, .long n6]))] H := hP
  have hD : va_D A [(h0, .inr (11, [.long 0, .long (-1), .long 0, .long (-1), .long n5, .long n6]))] := hD
  refine lv_aload_n hx hb d_Num_any_24 rfl (lv_at hl 0 rfl) ?_
  refine lv_ldc2 hx hb hown (hts _ u_1065) d_Num_any_25 ?_
  refine va_put (D := D) (ci := 11) (v := .long (-9223372036854775808)) (ty := .long) (C := "FilterGuard$Num") (T := F_Num) (N := 6) hx hb hts i_Num t_Num t_Num_ok n_Num hown hK hP hD hS 0 rfl rfl 4 (by decide) (hts _ u_379) (fun _ h9 => h9) rfl (by decide +kernel) rfl rfl (Nat.le_of_ble_eq_true rfl) d_Num_any_28 (fun H locs hP hD hS => ?_)
  have hP : va_P D classes [(h0, .inr (11, [.long 0, .long (-1), .long 0, .long (-1), .long (-9223372036854775808), .long n6]))] H := hP
  have hD : va_D A [(h0, .inr (11, [.long 0, .long (-1), .long 0, .long (-1), .long (-9223372036854775808), .long n6]))] := hD
  refine lv_aload_n hx hb d_Num_any_31 rfl (lv_at hl 0 rfl) ?_
  refine lv_ldc2 hx hb hown (hts _ u_1134) d_Num_any_32 ?_
  refine va_put (D := D) (ci := 11) (v := .long 9223372036854775807) (ty := .long) (C := "FilterGuard$Num") (T := F_Num) (N := 6) hx hb hts i_Num t_Num t_Num_ok n_Num hown hK hP hD hS 0 rfl rfl 5 (by decide) (hts _ u_381) (fun _ h9 => h9) rfl (by decide +kernel) rfl rfl (Nat.le_of_ble_eq_true rfl) d_Num_any_35 (fun H locs hP hD hS => ?_)
  have hP : va_P D classes [(h0, .inr (11, [.long 0, .long (-1), .long 0, .long (-1), .long (-9223372036854775808), .long 9223372036854775807]))] H := hP
  have hD : va_D A [(h0, .inr (11, [.long 0, .long (-1), .long 0, .long (-1), .long (-9223372036854775808), .long 9223372036854775807]))] := hD
  exact fg_retv () hx hb hr hlocks trivial (hP.sub (ws' := [(h0, .inr (11, [.long 0, .long (-1), .long 0, .long (-1), .long (-9223372036854775808), .long 9223372036854775807]))]) [0] rfl) (hK.sub (tys' := []) [] rfl) (hD.sub (ws' := [(h0, .inr (11, [.long 0, .long (-1), .long 0, .long (-1), .long (-9223372036854775808), .long 9223372036854775807]))]) [0] (by decide) rfl) hS (Nat.le_of_ble_eq_true rfl) (Nat.le_of_ble_eq_true rfl) d_Num_any_38
abbrev y_Num_range : MethodName := ⟨"FilterGuard$Num", "range", "(JJ)V"⟩
theorem d_Num_range_0 : decode prog_8_method_4_code 0 = .ok (.aload_n 0, 1) := by decide +kernel
theorem d_Num_range_1 : decode prog_8_method_4_code 1 = .ok (.lload_n 1, 1) := by decide +kernel
theorem d_Num_range_2 : decode prog_8_method_4_code 2 = .ok (.putfield 18, 3) := by decide +kernel
theorem d_Num_range_5 : decode prog_8_method_4_code 5 = .ok (.aload_n 0, 1) := by decide +kernel
theorem d_Num_range_6 : decode prog_8_method_4_code 6 = .ok (.lload_n 3, 1) := by decide +kernel
theorem d_Num_range_7 : decode prog_8_method_4_code 7 = .ok (.putfield 21, 3) := by decide +kernel
theorem d_Num_range_10 : decode prog_8_method_4_code 10 = .ok (.return_, 1) := by decide +kernel
def rm_Num_range : Room := { frames := 1, cells := 0, slots := 0, locals := 20 }
abbrev q_Num_range (D : va_G) (h0 : Nat) (n1 : Int64) (n2 : Int64) (n3 : Int64) (n4 : Int64) (n5 : Int64) (n6 : Int64) (x1 : Int64) (x2 : Int64) (A : Nat → Prop) : Array Value → Jvm.State → Outcome → Jvm.State → Prop := va_Qv (fun (_ : Unit) => True) (fg_B D A (fun (_ : Unit) => [(h0, .inr (11, [.long n1, .long n2, .long x1, .long x2, .long n5, .long n6]))]) (fun (_ : Unit) => [])) A
set_option maxHeartbeats 4000000 in
set_option maxRecDepth 100000 in
theorem c_Num_range (l : Launch) (D : va_G) (h0 : Nat) (n1 : Int64) (n2 : Int64) (n3 : Int64) (n4 : Int64) (n5 : Int64) (n6 : Int64) (x1 : Int64) (x2 : Int64) (sz : Nat) : Met l y_Num_range (fg_w y_Num_range prog_8_method_4_code 5 none) rm_Num_range (va_Pc [.ref h0, .long x1, .long x2] (fg_P D [] [(h0, .inr (11, [.long n1, .long n2, .long n3, .long n4, .long n5, .long n6]))] sz)) (q_Num_range D h0 n1 n2 n3 n4 n5 n6 x1 x2 (va_A [(h0, .inr (11, [.long n1, .long n2, .long n3, .long n4, .long n5, .long n6]))] sz)) rm_Num_range.cells rm_Num_range.slots (va_A [(h0, .inr (11, [.long n1, .long n2, .long n3, .long n4, .long n5, .long n6]))] sz) := by
  refine fg_enter (fun A => q_Num_range D h0 n1 n2 n3 n4 n5 n6 x1 x2 A) (by decide +kernel) (Nat.le_of_ble_eq_true rfl) ?_
  intro p e s m below meth c ls A hx hb hml hown hts hr hlocks hin hP hK hD hS hA hX hl
  have hl : lv_has ls 5 [(0, .ref h0), (1, .long x1), (3, .long x2)] := hl
  refine lv_aload_n hx hb d_Num_range_0 rfl (lv_at hl 0 rfl) ?_
  refine lv_lload_n hx hb d_Num_range_1 rfl (lv_at hl 1 rfl) ?_
  refine va_put (D := D) (ci := 11) (v := .long x1) (ty := .long) (C := "FilterGuard$Num") (T := F_Num) (N := 6) hx hb hts i_Num t_Num t_Num_ok n_Num hown hK hP hD hS 0 rfl rfl 2 (by decide) (hts _ u_373) (fun _ h9 => h9) rfl (by decide +kernel) rfl rfl (Nat.le_of_ble_eq_true rfl) d_Num_range_2 (fun H locs hP hD hS => ?_)
  have hP : va_P D classes [(h0, .inr (11, [.long n1, .long n2, .long x1, .long n4, .long n5, .long n6]))] H := hP
  have hD : va_D A [(h0, .inr (11, [.long n1, .long n2, .long x1, .long n4, .long n5, .long n6]))] := hD
  refine lv_aload_n hx hb d_Num_range_5 rfl (lv_at hl 0 rfl) ?_
  refine lv_lload_n hx hb d_Num_range_6 rfl (lv_at hl 2 rfl) ?_
  refine va_put (D := D) (ci := 11) (v := .long x2) (ty := .long) (C := "FilterGuard$Num") (T := F_Num) (N := 6) hx hb hts i_Num t_Num t_Num_ok n_Num hown hK hP hD hS 0 rfl rfl 3 (by decide) (hts _ u_376) (fun _ h9 => h9) rfl (by decide +kernel) rfl rfl (Nat.le_of_ble_eq_true rfl) d_Num_range_7 (fun H locs hP hD hS => ?_)
  have hP : va_P D classes [(h0, .inr (11, [.long n1, .long n2, .long x1, .long x2, .long n5, .long n6]))] H := hP
  have hD : va_D A [(h0, .inr (11, [.long n1, .long n2, .long x1, .long x2, .long n5, .long n6]))] := hD
  exact fg_retv () hx hb hr hlocks trivial (hP.sub (ws' := [(h0, .inr (11, [.long n1, .long n2, .long x1, .long x2, .long n5, .long n6]))]) [0] rfl) (hK.sub (tys' := []) [] rfl) (hD.sub (ws' := [(h0, .inr (11, [.long n1, .long n2, .long x1, .long x2, .long n5, .long n6]))]) [0] (by decide) rfl) hS (Nat.le_of_ble_eq_true rfl) (Nat.le_of_ble_eq_true rfl) d_Num_range_10
abbrev y_Num_bits : MethodName := ⟨"FilterGuard$Num", "bits", "(JJ)V"⟩
theorem d_Num_bits_0 : decode prog_8_method_5_code 0 = .ok (.aload_n 0, 1) := by decide +kernel
theorem d_Num_bits_1 : decode prog_8_method_5_code 1 = .ok (.lload_n 1, 1) := by decide +kernel
theorem d_Num_bits_2 : decode prog_8_method_5_code 2 = .ok (.putfield 9, 3) := by decide +kernel
theorem d_Num_bits_5 : decode prog_8_method_5_code 5 = .ok (.aload_n 0, 1) := by decide +kernel
theorem d_Num_bits_6 : decode prog_8_method_5_code 6 = .ok (.lload_n 3, 1) := by decide +kernel
theorem d_Num_bits_7 : decode prog_8_method_5_code 7 = .ok (.putfield 15, 3) := by decide +kernel
theorem d_Num_bits_10 : decode prog_8_method_5_code 10 = .ok (.return_, 1) := by decide +kernel
def rm_Num_bits : Room := { frames := 1, cells := 0, slots := 0, locals := 20 }
abbrev q_Num_bits (D : va_G) (h0 : Nat) (n1 : Int64) (n2 : Int64) (n3 : Int64) (n4 : Int64) (n5 : Int64) (n6 : Int64) (x1 : Int64) (x2 : Int64) (A : Nat → Prop) : Array Value → Jvm.State → Outcome → Jvm.State → Prop := va_Qv (fun (_ : Unit) => True) (fg_B D A (fun (_ : Unit) => [(h0, .inr (11, [.long x1, .long x2, .long n3, .long n4, .long n5, .long n6]))]) (fun (_ : Unit) => [])) A
set_option maxHeartbeats 4000000 in
set_option maxRecDepth 100000 in
theorem c_Num_bits (l : Launch) (D : va_G) (h0 : Nat) (n1 : Int64) (n2 : Int64) (n3 : Int64) (n4 : Int64) (n5 : Int64) (n6 : Int64) (x1 : Int64) (x2 : Int64) (sz : Nat) : Met l y_Num_bits (fg_w y_Num_bits prog_8_method_5_code 5 none) rm_Num_bits (va_Pc [.ref h0, .long x1, .long x2] (fg_P D [] [(h0, .inr (11, [.long n1, .long n2, .long n3, .long n4, .long n5, .long n6]))] sz)) (q_Num_bits D h0 n1 n2 n3 n4 n5 n6 x1 x2 (va_A [(h0, .inr (11, [.long n1, .long n2, .long n3, .long n4, .long n5, .long n6]))] sz)) rm_Num_bits.cells rm_Num_bits.slots (va_A [(h0, .inr (11, [.long n1, .long n2, .long n3, .long n4, .long n5, .long n6]))] sz) := by
  refine fg_enter (fun A => q_Num_bits D h0 n1 n2 n3 n4 n5 n6 x1 x2 A) (by decide +kernel) (Nat.le_of_ble_eq_true rfl) ?_
  intro p e s m below meth c ls A hx hb hml hown hts hr hlocks hin hP hK hD hS hA hX hl
  have hl : lv_has ls 5 [(0, .ref h0), (1, .long x1), (3, .long x2)] := hl
  refine lv_aload_n hx hb d_Num_bits_0 rfl (lv_at hl 0 rfl) ?_
  refine lv_lload_n hx hb d_Num_bits_1 rfl (lv_at hl 1 rfl) ?_
  refine va_put (D := D) (ci := 11) (v := .long x1) (ty := .long) (C := "FilterGuard$Num") (T := F_Num) (N := 6) hx hb hts i_Num t_Num t_Num_ok n_Num hown hK hP hD hS 0 rfl rfl 0 (by decide) (hts _ u_367) (fun _ h9 => h9) rfl (by decide +kernel) rfl rfl (Nat.le_of_ble_eq_true rfl) d_Num_bits_2 (fun H locs hP hD hS => ?_)
  have hP : va_P D classes [(h0, .inr (11, [.long x1, .long n2, .long n3, .long n4, .long n5, .long n6]))] H := hP
  have hD : va_D A [(h0, .inr (11, [.long x1, .long n2, .long n3, .long n4, .long n5, .long n6]))] := hD
  refine lv_aload_n hx hb d_Num_bits_5 rfl (lv_at hl 0 rfl) ?_
  refine lv_lload_n hx hb d_Num_bits_6 rfl (lv_at hl 2 rfl) ?_
  refine va_put (D := D) (ci := 11) (v := .long x2) (ty := .long) (C := "FilterGuard$Num") (T := F_Num) (N := 6) hx hb hts i_Num t_Num t_Num_ok n_Num hown hK hP hD hS 0 rfl rfl 1 (by decide) (hts _ u_371) (fun _ h9 => h9) rfl (by decide +kernel) rfl rfl (Nat.le_of_ble_eq_true rfl) d_Num_bits_7 (fun H locs hP hD hS => ?_)
  have hP : va_P D classes [(h0, .inr (11, [.long x1, .long x2, .long n3, .long n4, .long n5, .long n6]))] H := hP
  have hD : va_D A [(h0, .inr (11, [.long x1, .long x2, .long n3, .long n4, .long n5, .long n6]))] := hD
  exact fg_retv () hx hb hr hlocks trivial (hP.sub (ws' := [(h0, .inr (11, [.long x1, .long x2, .long n3, .long n4, .long n5, .long n6]))]) [0] rfl) (hK.sub (tys' := []) [] rfl) (hD.sub (ws' := [(h0, .inr (11, [.long x1, .long x2, .long n3, .long n4, .long n5, .long n6]))]) [0] (by decide) rfl) hS (Nat.le_of_ble_eq_true rfl) (Nat.le_of_ble_eq_true rfl) d_Num_bits_10
abbrev y_Num_copy : MethodName := ⟨"FilterGuard$Num", "copy", "(LFilterGuard$Num;)V"⟩
theorem d_Num_copy_0 : decode prog_8_method_6_code 0 = .ok (.aload_n 0, 1) := by decide +kernel
theorem d_Num_copy_1 : decode prog_8_method_6_code 1 = .ok (.aload_n 1, 1) := by decide +kernel
theorem d_Num_copy_2 : decode prog_8_method_6_code 2 = .ok (.getfield 9, 3) := by decide +kernel
theorem d_Num_copy_5 : decode prog_8_method_6_code 5 = .ok (.putfield 9, 3) := by decide +kernel
theorem d_Num_copy_8 : decode prog_8_method_6_code 8 = .ok (.aload_n 0, 1) := by decide +kernel
theorem d_Num_copy_9 : decode prog_8_method_6_code 9 = .ok (.aload_n 1, 1) := by decide +kernel
theorem d_Num_copy_10 : decode prog_8_method_6_code 10 = .ok (.getfield 15, 3) := by decide +kernel
theorem d_Num_copy_13 : decode prog_8_method_6_code 13 = .ok (.putfield 15, 3) := by decide +kernel
theorem d_Num_copy_16 : decode prog_8_method_6_code 16 = .ok (.aload_n 0, 1) := by decide +kernel
theorem d_Num_copy_17 : decode prog_8_method_6_code 17 = .ok (.aload_n 1, 1) := by decide +kernel
theorem d_Num_copy_18 : decode prog_8_method_6_code 18 = .ok (.getfield 18, 3) := by decide +kernel
theorem d_Num_copy_21 : decode prog_8_method_6_code 21 = .ok (.putfield 18, 3) := by decide +kernel
theorem d_Num_copy_24 : decode prog_8_method_6_code 24 = .ok (.aload_n 0, 1) := by decide +kernel
theorem d_Num_copy_25 : decode prog_8_method_6_code 25 = .ok (.aload_n 1, 1) := by decide +kernel
theorem d_Num_copy_26 : decode prog_8_method_6_code 26 = .ok (.getfield 21, 3) := by decide +kernel
theorem d_Num_copy_29 : decode prog_8_method_6_code 29 = .ok (.putfield 21, 3) := by decide +kernel
theorem d_Num_copy_32 : decode prog_8_method_6_code 32 = .ok (.aload_n 0, 1) := by decide +kernel
theorem d_Num_copy_33 : decode prog_8_method_6_code 33 = .ok (.aload_n 1, 1) := by decide +kernel
theorem d_Num_copy_34 : decode prog_8_method_6_code 34 = .ok (.getfield 24, 3) := by decide +kernel
theorem d_Num_copy_37 : decode prog_8_method_6_code 37 = .ok (.putfield 24, 3) := by decide +kernel
theorem d_Num_copy_40 : decode prog_8_method_6_code 40 = .ok (.aload_n 0, 1) := by decide +kernel
theorem d_Num_copy_41 : decode prog_8_method_6_code 41 = .ok (.aload_n 1, 1) := by decide +kernel
theorem d_Num_copy_42 : decode prog_8_method_6_code 42 = .ok (.getfield 27, 3) := by decide +kernel
theorem d_Num_copy_45 : decode prog_8_method_6_code 45 = .ok (.putfield 27, 3) := by decide +kernel
theorem d_Num_copy_48 : decode prog_8_method_6_code 48 = .ok (.return_, 1) := by decide +kernel
def rm_Num_copy : Room := { frames := 1, cells := 0, slots := 0, locals := 20 }
abbrev q_Num_copy (D : va_G) (h0 : Nat) (n1 : Int64) (n2 : Int64) (n3 : Int64) (n4 : Int64) (n5 : Int64) (n6 : Int64) (h1 : Nat) (o1 : Int64) (o2 : Int64) (o3 : Int64) (o4 : Int64) (o5 : Int64) (o6 : Int64) (A : Nat → Prop) : Array Value → Jvm.State → Outcome → Jvm.State → Prop := va_Qv (fun (_ : Unit) => True) (fg_B D A (fun (_ : Unit) => [(h0, .inr (11, [.long o1, .long o2, .long o3, .long o4, .long o5, .long o6])), (h1, .inr (11, [.long o1, .long o2, .long o3, .long o4, .long o5, .long o6]))]) (fun (_ : Unit) => [])) A
set_option maxHeartbeats 4000000 in
set_option maxRecDepth 100000 in
theorem c_Num_copy (l : Launch) (D : va_G) (h0 : Nat) (n1 : Int64) (n2 : Int64) (n3 : Int64) (n4 : Int64) (n5 : Int64) (n6 : Int64) (h1 : Nat) (o1 : Int64) (o2 : Int64) (o3 : Int64) (o4 : Int64) (o5 : Int64) (o6 : Int64) (sz : Nat) : Met l y_Num_copy (fg_w y_Num_copy prog_8_method_6_code 2 none) rm_Num_copy (va_Pc [.ref h0, .ref h1] (fg_P D [] [(h0, .inr (11, [.long n1, .long n2, .long n3, .long n4, .long n5, .long n6])), (h1, .inr (11, [.long o1, .long o2, .long o3, .long o4, .long o5, .long o6]))] sz)) (q_Num_copy D h0 n1 n2 n3 n4 n5 n6 h1 o1 o2 o3 o4 o5 o6 (va_A [(h0, .inr (11, [.long n1, .long n2, .long n3, .long n4, .long n5, .long n6])), (h1, .inr (11, [.long o1, .long o2, .long o3, .long o4, .long o5, .long o6]))] sz)) rm_Num_copy.cells rm_Num_copy.slots (va_A [(h0, .inr (11, [.long n1, .long n2, .long n3, .long n4, .long n5, .long n6])), (h1, .inr (11, [.long o1, .long o2, .long o3, .long o4, .long o5, .long o6]))] sz) := by
  refine fg_enter (fun A => q_Num_copy D h0 n1 n2 n3 n4 n5 n6 h1 o1 o2 o3 o4 o5 o6 A) (by decide +kernel) (Nat.le_of_ble_eq_true rfl) ?_
  intro p e s m below meth c ls A hx hb hml hown hts hr hlocks hin hP hK hD hS hA hX hl
  have hl : lv_has ls 2 [(0, .ref h0), (1, .ref h1)] := hl
  refine lv_aload_n hx hb d_Num_copy_0 rfl (lv_at hl 0 rfl) ?_
  refine lv_aload_n hx hb d_Num_copy_1 rfl (lv_at hl 1 rfl) ?_
  refine va_get (D := D) (ci := 11) (v := .long o1) (C := "FilterGuard$Num") (T := F_Num) (N := 6) hx hb hts i_Num hown hK hP 1 rfl rfl 0 (by decide) (hts _ u_367) (fun _ h9 => h9) rfl d_Num_copy_2 ?_
  refine va_put (D := D) (ci := 11) (v := .long o1) (ty := .long) (C := "FilterGuard$Num") (T := F_Num) (N := 6) hx hb hts i_Num t_Num t_Num_ok n_Num hown hK hP hD hS 0 rfl rfl 0 (by decide) (hts _ u_367) (fun _ h9 => h9) rfl (by decide +kernel) rfl rfl (Nat.le_of_ble_eq_true rfl) d_Num_copy_5 (fun H locs hP hD hS => ?_)
  have hP : va_P D classes [(h0, .inr (11, [.long o1, .long n2, .long n3, .long n4, .long n5, .long n6])), (h1, .inr (11, [.long o1, .long o2, .long o3, .long o4, .long o5, .long o6]))] H := hP
  have hD : va_D A [(h0, .inr (11, [.long o1, .long n2, .long n3, .long n4, .long n5, .long n6])), (h1, .inr (11, [.long o1, .long o2, .long o3, .long o4, .long o5, .long o6]))] := hD
  refine lv_aload_n hx hb d_Num_copy_8 rfl (lv_at hl 0 rfl) ?_
  refine lv_aload_n hx hb d_Num_copy_9 rfl (lv_at hl 1 rfl) ?_
  refine va_get (D := D) (ci := 11) (v := .long o2) (C := "FilterGuard$Num") (T := F_Num) (N := 6) hx hb hts i_Num hown hK hP 1 rfl rfl 1 (by decide) (hts _ u_371) (fun _ h9 => h9) rfl d_Num_copy_10 ?_
  refine va_put (D := D) (ci := 11) (v := .long o2) (ty := .long) (C := "FilterGuard$Num") (T := F_Num) (N := 6) hx hb hts i_Num t_Num t_Num_ok n_Num hown hK hP hD hS 0 rfl rfl 1 (by decide) (hts _ u_371) (fun _ h9 => h9) rfl (by decide +kernel) rfl rfl (Nat.le_of_ble_eq_true rfl) d_Num_copy_13 (fun H locs hP hD hS => ?_)
  have hP : va_P D classes [(h0, .inr (11, [.long o1, .long o2, .long n3, .long n4, .long n5, .long n6])), (h1, .inr (11, [.long o1, .long o2, .long o3, .long o4, .long o5, .long o6]))] H := hP
  have hD : va_D A [(h0, .inr (11, [.long o1, .long o2, .long n3, .long n4, .long n5, .long n6])), (h1, .inr (11, [.long o1, .long o2, .long o3, .long o4, .long o5, .long o6]))] := hD
  refine lv_aload_n hx hb d_Num_copy_16 rfl (lv_at hl 0 rfl) ?_
  refine lv_aload_n hx hb d_Num_copy_17 rfl (lv_at hl 1 rfl) ?_
  refine va_get (D := D) (ci := 11) (v := .long o3) (C := "FilterGuard$Num") (T := F_Num) (N := 6) hx hb hts i_Num hown hK hP 1 rfl rfl 2 (by decide) (hts _ u_373) (fun _ h9 => h9) rfl d_Num_copy_18 ?_
  refine va_put (D := D) (ci := 11) (v := .long o3) (ty := .long) (C := "FilterGuard$Num") (T := F_Num) (N := 6) hx hb hts i_Num t_Num t_Num_ok n_Num hown hK hP hD hS 0 rfl rfl 2 (by decide) (hts _ u_373) (fun _ h9 => h9) rfl (by decide +kernel) rfl rfl (Nat.le_of_ble_eq_true rfl) d_Num_copy_21 (fun H locs hP hD hS => ?_)
  have hP : va_P D classes [(h0, .inr (11, [.long o1, .long o2, .long o3, .long n4, .long n5, .long n6])), (h1, .inr (11, [.long o1, .long o2, .long o3, .long o4, .long o5, .long o6]))] H := hP
  have hD : va_D A [(h0, .inr (11, [.long o1, .long o2, .long o3, .long n4, .long n5, .long n6])), (h1, .inr (11, [.long o1, .long o2, .long o3, .long o4, .long o5, .long o6]))] := hD
  refine lv_aload_n hx hb d_Num_copy_24 rfl (lv_at hl 0 rfl) ?_
  refine lv_aload_n hx hb d_Num_copy_25 rfl (lv_at hl 1 rfl) ?_
  refine va_get (D := D) (ci := 11) (v := .long o4) (C := "FilterGuard$Num") (T := F_Num) (N := 6) hx hb hts i_Num hown hK hP 1 rfl rfl 3 (by decide) (hts _ u_376) (fun _ h9 => h9) rfl d_Num_copy_26 ?_
  refine va_put (D := D) (ci := 11) (v := .long o4) (ty := .long) (C := "FilterGuard$Num") (T := F_Num) (N := 6) hx hb hts i_Num t_Num t_Num_ok n_Num hown hK hP hD hS 0 rfl rfl 3 (by decide) (hts _ u_376) (fun _ h9 => h9) rfl (by decide +kernel) rfl rfl (Nat.le_of_ble_eq_true rfl) d_Num_copy_29 (fun H locs hP hD hS => ?_)
  have hP : va_P D classes [(h0, .inr (11, [.long o1, .long o2, .long o3, .long o4, .long n5, .long n6])), (h1, .inr (11, [.long o1, .long o2, .long o3, .long o4, .long o5, .long o6]))] H := hP
  have hD : va_D A [(h0, .inr (11, [.long o1, .long o2, .long o3, .long o4, .long n5, .long n6])), (h1, .inr (11, [.long o1, .long o2, .long o3, .long o4, .long o5, .long o6]))] := hD
  refine lv_aload_n hx hb d_Num_copy_32 rfl (lv_at hl 0 rfl) ?_
  refine lv_aload_n hx hb d_Num_copy_33 rfl (lv_at hl 1 rfl) ?_
  refine va_get (D := D) (ci := 11) (v := .long o5) (C := "FilterGuard$Num") (T := F_Num) (N := 6) hx hb hts i_Num hown hK hP 1 rfl rfl 4 (by decide) (hts _ u_379) (fun _ h9 => h9) rfl d_Num_copy_34 ?_
  refine va_put (D := D) (ci := 11) (v := .long o5) (ty := .long) (C := "FilterGuard$Num") (T := F_Num) (N := 6) hx hb hts i_Num t_Num t_Num_ok n_Num hown hK hP hD hS 0 rfl rfl 4 (by decide) (hts _ u_379) (fun _ h9 => h9) rfl (by decide +kernel) rfl rfl (Nat.le_of_ble_eq_true rfl) d_Num_copy_37 (fun H locs hP hD hS => ?_)
  have hP : va_P D classes [(h0, .inr (11, [.long o1, .long o2, .long o3, .long o4, .long o5, .long n6])), (h1, .inr (11, [.long o1, .long o2, .long o3, .long o4, .long o5, .long o6]))] H := hP
  have hD : va_D A [(h0, .inr (11, [.long o1, .long o2, .long o3, .long o4, .long o5, .long n6])), (h1, .inr (11, [.long o1, .long o2, .long o3, .long o4, .long o5, .long o6]))] := hD
  refine lv_aload_n hx hb d_Num_copy_40 rfl (lv_at hl 0 rfl) ?_
  refine lv_aload_n hx hb d_Num_copy_41 rfl (lv_at hl 1 rfl) ?_
  refine va_get (D := D) (ci := 11) (v := .long o6) (C := "FilterGuard$Num") (T := F_Num) (N := 6) hx hb hts i_Num hown hK hP 1 rfl rfl 5 (by decide) (hts _ u_381) (fun _ h9 => h9) rfl d_Num_copy_42 ?_
  refine va_put (D := D) (ci := 11) (v := .long o6) (ty := .long) (C := "FilterGuard$Num") (T := F_Num) (N := 6) hx hb hts i_Num t_Num t_Num_ok n_Num hown hK hP hD hS 0 rfl rfl 5 (by decide) (hts _ u_381) (fun _ h9 => h9) rfl (by decide +kernel) rfl rfl (Nat.le_of_ble_eq_true rfl) d_Num_copy_45 (fun H locs hP hD hS => ?_)
  have hP : va_P D classes [(h0, .inr (11, [.long o1, .long o2, .long o3, .long o4, .long o5, .long o6])), (h1, .inr (11, [.long o1, .long o2, .long o3, .long o4, .long o5, .long o6]))] H := hP
  have hD : va_D A [(h0, .inr (11, [.long o1, .long o2, .long o3, .long o4, .long o5, .long o6])), (h1, .inr (11, [.long o1, .long o2, .long o3, .long o4, .long o5, .long o6]))] := hD
  exact fg_retv () hx hb hr hlocks trivial (hP.sub (ws' := [(h0, .inr (11, [.long o1, .long o2, .long o3, .long o4, .long o5, .long o6])), (h1, .inr (11, [.long o1, .long o2, .long o3, .long o4, .long o5, .long o6]))]) [0, 1] rfl) (hK.sub (tys' := []) [] rfl) (hD.sub (ws' := [(h0, .inr (11, [.long o1, .long o2, .long o3, .long o4, .long o5, .long o6])), (h1, .inr (11, [.long o1, .long o2, .long o3, .long o4, .long o5, .long o6]))]) [0, 1] (by decide) rfl) hS (Nat.le_of_ble_eq_true rfl) (Nat.le_of_ble_eq_true rfl) d_Num_copy_48
abbrev y_Num_isExact0 : MethodName := ⟨"FilterGuard$Num", "isExact", "()Z"⟩
theorem d_Num_isExact0_0 : decode prog_8_method_7_code 0 = .ok (.aload_n 0, 1) := by decide +kernel
theorem d_Num_isExact0_1 : decode prog_8_method_7_code 1 = .ok (.getfield 15, 3) := by decide +kernel
theorem d_Num_isExact0_4 : decode prog_8_method_7_code 4 = .ok (.lconst 0, 1) := by decide +kernel
theorem d_Num_isExact0_5 : decode prog_8_method_7_code 5 = .ok (.lcmp, 1) := by decide +kernel
theorem d_Num_isExact0_6 : decode prog_8_method_7_code 6 = .ok (.ifCond .ne 7, 3) := by decide +kernel
theorem d_Num_isExact0_13 : decode prog_8_method_7_code 13 = .ok (.iconst 0, 1) := by decide +kernel
theorem d_Num_isExact0_14 : decode prog_8_method_7_code 14 = .ok (.ireturn, 1) := by decide +kernel
theorem d_Num_isExact0_9 : decode prog_8_method_7_code 9 = .ok (.iconst 1, 1) := by decide +kernel
theorem d_Num_isExact0_10 : decode prog_8_method_7_code 10 = .ok (.goto 4, 3) := by decide +kernel
def rm_Num_isExact : Room := { frames := 1, cells := 0, slots := 0, locals := 20 }
abbrev q_Num_isExact (D : va_G) (h0 : Nat) (n1 : Int64) (n2 : Int64) (n3 : Int64) (n4 : Int64) (n5 : Int64) (n6 : Int64) (A : Nat → Prop) : Array Value → Jvm.State → Outcome → Jvm.State → Prop := va_Qi (fun (r : Int32) (_ : Unit) => r = (if n2 = 0 then 1 else 0)) (fg_B D A (fun (_ : Unit) => [(h0, .inr (11, [.long n1, .long n2, .long n3, .long n4, .long n5, .long n6]))]) (fun (_ : Unit) => [])) A
set_option maxHeartbeats 4000000 in
set_option maxRecDepth 100000 in
theorem c_Num_isExact (l : Launch) (D : va_G) (h0 : Nat) (n1 : Int64) (n2 : Int64) (n3 : Int64) (n4 : Int64) (n5 : Int64) (n6 : Int64) (sz : Nat) : Met l y_Num_isExact0 (fg_w y_Num_isExact0 prog_8_method_7_code 1 (some .boolean)) rm_Num_isExact (va_Pc [.ref h0] (fg_P D [] [(h0, .inr (11, [.long n1, .long n2, .long n3, .long n4, .long n5, .long n6]))] sz)) (q_Num_isExact D h0 n1 n2 n3 n4 n5 n6 (va_A [(h0, .inr (11, [.long n1, .long n2, .long n3, .long n4, .long n5, .long n6]))] sz)) rm_Num_isExact.cells rm_Num_isExact.slots (va_A [(h0, .inr (11, [.long n1, .long n2, .long n3, .long n4, .long n5, .long n6]))] sz) := by
  refine fg_enter (fun A => q_Num_isExact D h0 n1 n2 n3 n4 n5 n6 A) (by decide +kernel) (Nat.le_of_ble_eq_true rfl) ?_
  intro p e s m below meth c ls A hx hb hml hown hts hr hlocks hin hP hK hD hS hA hX hl
  have hl : lv_has ls 1 [(0, .ref h0)] := hl
  refine lv_aload_n hx hb d_Num_isExact0_0 rfl (lv_at hl 0 rfl) ?_
  refine va_get (D := D) (ci := 11) (v := .long n2) (C := "FilterGuard$Num") (T := F_Num) (N := 6) hx hb hts i_Num hown hK hP 0 rfl rfl 1 (by decide) (hts _ u_371) (fun _ h9 => h9) rfl d_Num_isExact0_1 ?_
  refine lv_lconst (v := 0) hx hb d_Num_isExact0_4 (by decide) ?_
  refine W.lcmp hx hb d_Num_isExact0_5 ?_
  refine lv_if_ne (tgt := 13) hx hb d_Num_isExact0_6 (by decide) (fun c_1 => ?_) (fun c_1 => ?_)
  · refine lv_iconst (v := 0) hx hb d_Num_isExact0_13 (by decide) ?_
    exact fg_retz () hx hb hr hlocks rfl (by rw [if_neg (fun z => c_1 ((lg_cmp_eq _ _).mpr z))]) (hP.sub (ws' := [(h0, .inr (11, [.long n1, .long n2, .long n3, .long n4, .long n5, .long n6]))]) [0] rfl) (hK.sub (tys' := []) [] rfl) (hD.sub (ws' := [(h0, .inr (11, [.long n1, .long n2, .long n3, .long n4, .long n5, .long n6]))]) [0] (by decide) rfl) hS (Nat.le_of_ble_eq_true rfl) (Nat.le_of_ble_eq_true rfl) d_Num_isExact0_14
  · refine lv_iconst (v := 1) hx hb d_Num_isExact0_9 (by decide) ?_
    refine lv_goto (tgt := 14) hx hb d_Num_isExact0_10 (by decide) ?_
    exact fg_retz () hx hb hr hlocks rfl (by rw [if_pos ((lg_cmp_eq _ _).mp c_1)]) (hP.sub (ws' := [(h0, .inr (11, [.long n1, .long n2, .long n3, .long n4, .long n5, .long n6]))]) [0] rfl) (hK.sub (tys' := []) [] rfl) (hD.sub (ws' := [(h0, .inr (11, [.long n1, .long n2, .long n3, .long n4, .long n5, .long n6]))]) [0] (by decide) rfl) hS (Nat.le_of_ble_eq_true rfl) (Nat.le_of_ble_eq_true rfl) d_Num_isExact0_14
abbrev y_Num_isExact1 : MethodName := ⟨"FilterGuard$Num", "isExact", "(J)Z"⟩
theorem d_Num_isExact1_0 : decode prog_8_method_8_code 0 = .ok (.aload_n 0, 1) := by decide +kernel
theorem d_Num_isExact1_1 : decode prog_8_method_8_code 1 = .ok (.getfield 15, 3) := by decide +kernel
theorem d_Num_isExact1_4 : decode prog_8_method_8_code 4 = .ok (.lconst 0, 1) := by decide +kernel
theorem d_Num_isExact1_5 : decode prog_8_method_8_code 5 = .ok (.lcmp, 1) := by decide +kernel
theorem d_Num_isExact1_6 : decode prog_8_method_8_code 6 = .ok (.ifCond .ne 16, 3) := by decide +kernel
theorem d_Num_isExact1_22 : decode prog_8_method_8_code 22 = .ok (.iconst 0, 1) := by decide +kernel
theorem d_Num_isExact1_23 : decode prog_8_method_8_code 23 = .ok (.ireturn, 1) := by decide +kernel
theorem d_Num_isExact1_9 : decode prog_8_method_8_code 9 = .ok (.aload_n 0, 1) := by decide +kernel
theorem d_Num_isExact1_10 : decode prog_8_method_8_code 10 = .ok (.getfield 9, 3) := by decide +kernel
theorem d_Num_isExact1_13 : decode prog_8_method_8_code 13 = .ok (.lload_n 1, 1) := by decide +kernel
theorem d_Num_isExact1_14 : decode prog_8_method_8_code 14 = .ok (.lcmp, 1) := by decide +kernel
theorem d_Num_isExact1_15 : decode prog_8_method_8_code 15 = .ok (.ifCond .ne 7, 3) := by decide +kernel
theorem d_Num_isExact1_18 : decode prog_8_method_8_code 18 = .ok (.iconst 1, 1) := by decide +kernel
theorem d_Num_isExact1_19 : decode prog_8_method_8_code 19 = .ok (.goto 4, 3) := by decide +kernel
def rm_Num_isExact1 : Room := { frames := 1, cells := 0, slots := 0, locals := 20 }
abbrev q_Num_isExact1 (D : va_G) (h0 : Nat) (n1 : Int64) (n2 : Int64) (n3 : Int64) (n4 : Int64) (n5 : Int64) (n6 : Int64) (x1 : Int64) (A : Nat → Prop) : Array Value → Jvm.State → Outcome → Jvm.State → Prop := va_Qi (fun (r : Int32) (_ : Unit) => r = (if n2 = 0 ∧ n1 = x1 then 1 else 0)) (fg_B D A (fun (_ : Unit) => [(h0, .inr (11, [.long n1, .long n2, .long n3, .long n4, .long n5, .long n6]))]) (fun (_ : Unit) => [])) A
set_option maxHeartbeats 4000000 in
set_option maxRecDepth 100000 in
theorem c_Num_isExact1 (l : Launch) (D : va_G) (h0 : Nat) (n1 : Int64) (n2 : Int64) (n3 : Int64) (n4 : Int64) (n5 : Int64) (n6 : Int64) (x1 : Int64) (sz : Nat) : Met l y_Num_isExact1 (fg_w y_Num_isExact1 prog_8_method_8_code 3 (some .boolean)) rm_Num_isExact1 (va_Pc [.ref h0, .long x1] (fg_P D [] [(h0, .inr (11, [.long n1, .long n2, .long n3, .long n4, .long n5, .long n6]))] sz)) (q_Num_isExact1 D h0 n1 n2 n3 n4 n5 n6 x1 (va_A [(h0, .inr (11, [.long n1, .long n2, .long n3, .long n4, .long n5, .long n6]))] sz)) rm_Num_isExact1.cells rm_Num_isExact1.slots (va_A [(h0, .inr (11, [.long n1, .long n2, .long n3, .long n4, .long n5, .long n6]))] sz) := by
  refine fg_enter (fun A => q_Num_isExact1 D h0 n1 n2 n3 n4 n5 n6 x1 A) (by decide +kernel) (Nat.le_of_ble_eq_true rfl) ?_
  intro p e s m below meth c ls A hx hb hml hown hts hr hlocks hin hP hK hD hS hA hX hl
  have hl : lv_has ls 3 [(0, .ref h0), (1, .long x1)] := hl
  refine lv_aload_n hx hb d_Num_isExact1_0 rfl (lv_at hl 0 rfl) ?_
  refine va_get (D := D) (ci := 11) (v := .long n2) (C := "FilterGuard$Num") (T := F_Num) (N := 6) hx hb hts i_Num hown hK hP 0 rfl rfl 1 (by decide) (hts _ u_371) (fun _ h9 => h9) rfl d_Num_isExact1_1 ?_
  refine lv_lconst (v := 0) hx hb d_Num_isExact1_4 (by decide) ?_
  refine W.lcmp hx hb d_Num_isExact1_5 ?_
  refine lv_if_ne (tgt := 22) hx hb d_Num_isExact1_6 (by decide) (fun c_1 => ?_) (fun c_1 => ?_)
  · refine lv_iconst (v := 0) hx hb d_Num_isExact1_22 (by decide) ?_
    exact fg_retz () hx hb hr hlocks rfl (by rw [if_neg (fun z => c_1 ((lg_cmp_eq _ _).mpr z.1))]) (hP.sub (ws' := [(h0, .inr (11, [.long n1, .long n2, .long n3, .long n4, .long n5, .long n6]))]) [0] rfl) (hK.sub (tys' := []) [] rfl) (hD.sub (ws' := [(h0, .inr (11, [.long n1, .long n2, .long n3, .long n4, .long n5, .long n6]))]) [0] (by decide) rfl) hS (Nat.le_of_ble_eq_true rfl) (Nat.le_of_ble_eq_true rfl) d_Num_isExact1_23
  · refine lv_aload_n hx hb d_Num_isExact1_9 rfl (lv_at hl 0 rfl) ?_
    refine va_get (D := D) (ci := 11) (v := .long n1) (C := "FilterGuard$Num") (T := F_Num) (N := 6) hx hb hts i_Num hown hK hP 0 rfl rfl 0 (by decide) (hts _ u_367) (fun _ h9 => h9) rfl d_Num_isExact1_10 ?_
    refine lv_lload_n hx hb d_Num_isExact1_13 rfl (lv_at hl 1 rfl) ?_
    refine W.lcmp hx hb d_Num_isExact1_14 ?_
    refine lv_if_ne (tgt := 22) hx hb d_Num_isExact1_15 (by decide) (fun c_2 => ?_) (fun c_2 => ?_)
    · refine lv_iconst (v := 0) hx hb d_Num_isExact1_22 (by decide) ?_
      exact fg_retz () hx hb hr hlocks rfl (by rw [if_neg (fun z => c_2 ((lg_cmp_eq _ _).mpr z.2))]) (hP.sub (ws' := [(h0, .inr (11, [.long n1, .long n2, .long n3, .long n4, .long n5, .long n6]))]) [0] rfl) (hK.sub (tys' := []) [] rfl) (hD.sub (ws' := [(h0, .inr (11, [.long n1, .long n2, .long n3, .long n4, .long n5, .long n6]))]) [0] (by decide) rfl) hS (Nat.le_of_ble_eq_true rfl) (Nat.le_of_ble_eq_true rfl) d_Num_isExact1_23
    · refine lv_iconst (v := 1) hx hb d_Num_isExact1_18 (by decide) ?_
      refine lv_goto (tgt := 23) hx hb d_Num_isExact1_19 (by decide) ?_
      exact fg_retz () hx hb hr hlocks rfl (by rw [if_pos ⟨(lg_cmp_eq _ _).mp c_1, (lg_cmp_eq _ _).mp c_2⟩]) (hP.sub (ws' := [(h0, .inr (11, [.long n1, .long n2, .long n3, .long n4, .long n5, .long n6]))]) [0] rfl) (hK.sub (tys' := []) [] rfl) (hD.sub (ws' := [(h0, .inr (11, [.long n1, .long n2, .long n3, .long n4, .long n5, .long n6]))]) [0] (by decide) rfl) hS (Nat.le_of_ble_eq_true rfl) (Nat.le_of_ble_eq_true rfl) d_Num_isExact1_23
abbrev y_Num_isBelow : MethodName := ⟨"FilterGuard$Num", "isBelow", "(JJ)Z"⟩
theorem d_Num_isBelow_0 : decode prog_8_method_9_code 0 = .ok (.lload_n 0, 1) := by decide +kernel
theorem d_Num_isBelow_1 : decode prog_8_method_9_code 1 = .ok (.ldc2_w 32, 3) := by decide +kernel
theorem d_Num_isBelow_4 : decode prog_8_method_9_code 4 = .ok (.lxor, 1) := by decide +kernel
theorem d_Num_isBelow_5 : decode prog_8_method_9_code 5 = .ok (.lload_n 2, 1) := by decide +kernel
theorem d_Num_isBelow_6 : decode prog_8_method_9_code 6 = .ok (.ldc2_w 32, 3) := by decide +kernel
theorem d_Num_isBelow_9 : decode prog_8_method_9_code 9 = .ok (.lxor, 1) := by decide +kernel
theorem d_Num_isBelow_10 : decode prog_8_method_9_code 10 = .ok (.lcmp, 1) := by decide +kernel
theorem d_Num_isBelow_11 : decode prog_8_method_9_code 11 = .ok (.ifCond .ge 7, 3) := by decide +kernel
theorem d_Num_isBelow_18 : decode prog_8_method_9_code 18 = .ok (.iconst 0, 1) := by decide +kernel
theorem d_Num_isBelow_19 : decode prog_8_method_9_code 19 = .ok (.ireturn, 1) := by decide +kernel
theorem d_Num_isBelow_14 : decode prog_8_method_9_code 14 = .ok (.iconst 1, 1) := by decide +kernel
theorem d_Num_isBelow_15 : decode prog_8_method_9_code 15 = .ok (.goto 4, 3) := by decide +kernel
def rm_Num_isBelow : Room := { frames := 1, cells := 0, slots := 0, locals := 20 }
abbrev q_Num_isBelow (D : va_G) (x1 : Int64) (x2 : Int64) (A : Nat → Prop) : Array Value → Jvm.State → Outcome → Jvm.State → Prop := va_Qi (fun (r : Int32) (_ : Unit) => r = (if fn_lt x1 x2 then 1 else 0)) (fg_B D A (fun (_ : Unit) => []) (fun (_ : Unit) => [])) A
set_option maxHeartbeats 4000000 in
set_option maxRecDepth 100000 in
theorem c_Num_isBelow (l : Launch) (D : va_G) (x1 : Int64) (x2 : Int64) (sz : Nat) : Met l y_Num_isBelow (fg_w y_Num_isBelow prog_8_method_9_code 4 (some .boolean)) rm_Num_isBelow (va_Pc [.long x1, .long x2] (fg_P D [] [] sz)) (q_Num_isBelow D x1 x2 (va_A [] sz)) rm_Num_isBelow.cells rm_Num_isBelow.slots (va_A [] sz) := by
  refine fg_enter (fun A => q_Num_isBelow D x1 x2 A) (by decide +kernel) (Nat.le_of_ble_eq_true rfl) ?_
  intro p e s m below meth c ls A hx hb hml hown hts hr hlocks hin hP hK hD hS hA hX hl
  have hl : lv_has ls 4 [(0, .long x1), (2, .long x2)] := hl
  refine lv_lload_n hx hb d_Num_isBelow_0 rfl (lv_at hl 0 rfl) ?_
  refine lv_ldc2 hx hb hown (hts _ u_1065) d_Num_isBelow_1 ?_
  refine lv_lxor hx hb d_Num_isBelow_4 ?_
  refine lv_lload_n hx hb d_Num_isBelow_5 rfl (lv_at hl 1 rfl) ?_
  refine lv_ldc2 hx hb hown (hts _ u_1065) d_Num_isBelow_6 ?_
  refine lv_lxor hx hb d_Num_isBelow_9 ?_
  refine W.lcmp hx hb d_Num_isBelow_10 ?_
  refine lv_if_ge (tgt := 18) hx hb d_Num_isBelow_11 (by decide) (fun c_1 => ?_) (fun c_1 => ?_)
  · refine lv_iconst (v := 0) hx hb d_Num_isBelow_18 (by decide) ?_
    exact fg_retz () hx hb hr hlocks rfl (by rw [if_neg (Int64.not_lt.mpr ((lg_cmp_ge _ _).mp c_1))]) (hP.sub (ws' := []) [] rfl) (hK.sub (tys' := []) [] rfl) (hD.sub (ws' := []) [] (by decide) rfl) hS (Nat.le_of_ble_eq_true rfl) (Nat.le_of_ble_eq_true rfl) d_Num_isBelow_19
  · refine lv_iconst (v := 1) hx hb d_Num_isBelow_14 (by decide) ?_
    refine lv_goto (tgt := 19) hx hb d_Num_isBelow_15 (by decide) ?_
    exact fg_retz () hx hb hr hlocks rfl (by rw [if_pos (Int64.not_le.mp (fun z => c_1 ((lg_cmp_ge _ _).mpr z)))]) (hP.sub (ws' := []) [] rfl) (hK.sub (tys' := []) [] rfl) (hD.sub (ws' := []) [] (by decide) rfl) hS (Nat.le_of_ble_eq_true rfl) (Nat.le_of_ble_eq_true rfl) d_Num_isBelow_19
abbrev y_Num_isAbove : MethodName := ⟨"FilterGuard$Num", "isAbove", "(J)Z"⟩
theorem d_Num_isAbove_0 : decode prog_8_method_10_code 0 = .ok (.aload_n 0, 1) := by decide +kernel
theorem d_Num_isAbove_1 : decode prog_8_method_10_code 1 = .ok (.getfield 21, 3) := by decide +kernel
theorem d_Num_isAbove_4 : decode prog_8_method_10_code 4 = .ok (.ldc2_w 32, 3) := by decide +kernel
theorem d_Num_isAbove_7 : decode prog_8_method_10_code 7 = .ok (.lxor, 1) := by decide +kernel
theorem d_Num_isAbove_8 : decode prog_8_method_10_code 8 = .ok (.lload_n 1, 1) := by decide +kernel
theorem d_Num_isAbove_9 : decode prog_8_method_10_code 9 = .ok (.ldc2_w 32, 3) := by decide +kernel
theorem d_Num_isAbove_12 : decode prog_8_method_10_code 12 = .ok (.lxor, 1) := by decide +kernel
theorem d_Num_isAbove_13 : decode prog_8_method_10_code 13 = .ok (.lcmp, 1) := by decide +kernel
theorem d_Num_isAbove_14 : decode prog_8_method_10_code 14 = .ok (.ifCond .le 7, 3) := by decide +kernel
theorem d_Num_isAbove_21 : decode prog_8_method_10_code 21 = .ok (.iconst 0, 1) := by decide +kernel
theorem d_Num_isAbove_22 : decode prog_8_method_10_code 22 = .ok (.ireturn, 1) := by decide +kernel
theorem d_Num_isAbove_17 : decode prog_8_method_10_code 17 = .ok (.iconst 1, 1) := by decide +kernel
theorem d_Num_isAbove_18 : decode prog_8_method_10_code 18 = .ok (.goto 4, 3) := by decide +kernel
def rm_Num_isAbove : Room := { frames := 1, cells := 0, slots := 0, locals := 20 }
abbrev q_Num_isAbove (D : va_G) (h0 : Nat) (n1 : Int64) (n2 : Int64) (n3 : Int64) (n4 : Int64) (n5 : Int64) (n6 : Int64) (x1 : Int64) (A : Nat → Prop) : Array Value → Jvm.State → Outcome → Jvm.State → Prop := va_Qi (fun (r : Int32) (_ : Unit) => r = (if fn_lt x1 n4 then 1 else 0)) (fg_B D A (fun (_ : Unit) => [(h0, .inr (11, [.long n1, .long n2, .long n3, .long n4, .long n5, .long n6]))]) (fun (_ : Unit) => [])) A
set_option maxHeartbeats 4000000 in
set_option maxRecDepth 100000 in
theorem c_Num_isAbove (l : Launch) (D : va_G) (h0 : Nat) (n1 : Int64) (n2 : Int64) (n3 : Int64) (n4 : Int64) (n5 : Int64) (n6 : Int64) (x1 : Int64) (sz : Nat) : Met l y_Num_isAbove (fg_w y_Num_isAbove prog_8_method_10_code 3 (some .boolean)) rm_Num_isAbove (va_Pc [.ref h0, .long x1] (fg_P D [] [(h0, .inr (11, [.long n1, .long n2, .long n3, .long n4, .long n5, .long n6]))] sz)) (q_Num_isAbove D h0 n1 n2 n3 n4 n5 n6 x1 (va_A [(h0, .inr (11, [.long n1, .long n2, .long n3, .long n4, .long n5, .long n6]))] sz)) rm_Num_isAbove.cells rm_Num_isAbove.slots (va_A [(h0, .inr (11, [.long n1, .long n2, .long n3, .long n4, .long n5, .long n6]))] sz) := by
  refine fg_enter (fun A => q_Num_isAbove D h0 n1 n2 n3 n4 n5 n6 x1 A) (by decide +kernel) (Nat.le_of_ble_eq_true rfl) ?_
  intro p e s m below meth c ls A hx hb hml hown hts hr hlocks hin hP hK hD hS hA hX hl
  have hl : lv_has ls 3 [(0, .ref h0), (1, .long x1)] := hl
  refine lv_aload_n hx hb d_Num_isAbove_0 rfl (lv_at hl 0 rfl) ?_
  refine va_get (D := D) (ci := 11) (v := .long n4) (C := "FilterGuard$Num") (T := F_Num) (N := 6) hx hb hts i_Num hown hK hP 0 rfl rfl 3 (by decide) (hts _ u_376) (fun _ h9 => h9) rfl d_Num_isAbove_1 ?_
  refine lv_ldc2 hx hb hown (hts _ u_1065) d_Num_isAbove_4 ?_
  refine lv_lxor hx hb d_Num_isAbove_7 ?_
  refine lv_lload_n hx hb d_Num_isAbove_8 rfl (lv_at hl 1 rfl) ?_
  refine lv_ldc2 hx hb hown (hts _ u_1065) d_Num_isAbove_9 ?_
  refine lv_lxor hx hb d_Num_isAbove_12 ?_
  refine W.lcmp hx hb d_Num_isAbove_13 ?_
  refine lv_if_le (tgt := 21) hx hb d_Num_isAbove_14 (by decide) (fun c_1 => ?_) (fun c_1 => ?_)
  · refine lv_iconst (v := 0) hx hb d_Num_isAbove_21 (by decide) ?_
    exact fg_retz () hx hb hr hlocks rfl (by rw [if_neg (Int64.not_lt.mpr ((lg_cmp_le _ _).mp c_1))]) (hP.sub (ws' := [(h0, .inr (11, [.long n1, .long n2, .long n3, .long n4, .long n5, .long n6]))]) [0] rfl) (hK.sub (tys' := []) [] rfl) (hD.sub (ws' := [(h0, .inr (11, [.long n1, .long n2, .long n3, .long n4, .long n5, .long n6]))]) [0] (by decide) rfl) hS (Nat.le_of_ble_eq_true rfl) (Nat.le_of_ble_eq_true rfl) d_Num_isAbove_22
  · refine lv_iconst (v := 1) hx hb d_Num_isAbove_17 (by decide) ?_
    refine lv_goto (tgt := 22) hx hb d_Num_isAbove_18 (by decide) ?_
    exact fg_retz () hx hb hr hlocks rfl (by rw [if_pos (Int64.not_le.mp (fun z => c_1 ((lg_cmp_le _ _).mpr z)))]) (hP.sub (ws' := [(h0, .inr (11, [.long n1, .long n2, .long n3, .long n4, .long n5, .long n6]))]) [0] rfl) (hK.sub (tys' := []) [] rfl) (hD.sub (ws' := [(h0, .inr (11, [.long n1, .long n2, .long n3, .long n4, .long n5, .long n6]))]) [0] (by decide) rfl) hS (Nat.le_of_ble_eq_true rfl) (Nat.le_of_ble_eq_true rfl) d_Num_isAbove_22
abbrev y_Num_downFromHighest : MethodName := ⟨"FilterGuard$Num", "downFromHighest", "(J)J"⟩
theorem d_Num_downFromHighest_0 : decode prog_8_method_13_code 0 = .ok (.lload_n 0, 1) := by decide +kernel
theorem d_Num_downFromHighest_1 : decode prog_8_method_13_code 1 = .ok (.lload_n 0, 1) := by decide +kernel
theorem d_Num_downFromHighest_2 : decode prog_8_method_13_code 2 = .ok (.iconst 1, 1) := by decide +kernel
theorem d_Num_downFromHighest_3 : decode prog_8_method_13_code 3 = .ok (.lushr, 1) := by decide +kernel
theorem d_Num_downFromHighest_4 : decode prog_8_method_13_code 4 = .ok (.lor, 1) := by decide +kernel
theorem d_Num_downFromHighest_5 : decode prog_8_method_13_code 5 = .ok (.lstore_n 2, 1) := by decide +kernel
theorem d_Num_downFromHighest_6 : decode prog_8_method_13_code 6 = .ok (.lload_n 2, 1) := by decide +kernel
theorem d_Num_downFromHighest_7 : decode prog_8_method_13_code 7 = .ok (.lload_n 2, 1) := by decide +kernel
theorem d_Num_downFromHighest_8 : decode prog_8_method_13_code 8 = .ok (.iconst 2, 1) := by decide +kernel
theorem d_Num_downFromHighest_9 : decode prog_8_method_13_code 9 = .ok (.lushr, 1) := by decide +kernel
theorem d_Num_downFromHighest_10 : decode prog_8_method_13_code 10 = .ok (.lor, 1) := by decide +kernel
theorem d_Num_downFromHighest_11 : decode prog_8_method_13_code 11 = .ok (.lstore_n 2, 1) := by decide +kernel
theorem d_Num_downFromHighest_12 : decode prog_8_method_13_code 12 = .ok (.lload_n 2, 1) := by decide +kernel
theorem d_Num_downFromHighest_13 : decode prog_8_method_13_code 13 = .ok (.lload_n 2, 1) := by decide +kernel
theorem d_Num_downFromHighest_14 : decode prog_8_method_13_code 14 = .ok (.iconst 4, 1) := by decide +kernel
theorem d_Num_downFromHighest_15 : decode prog_8_method_13_code 15 = .ok (.lushr, 1) := by decide +kernel
theorem d_Num_downFromHighest_16 : decode prog_8_method_13_code 16 = .ok (.lor, 1) := by decide +kernel
theorem d_Num_downFromHighest_17 : decode prog_8_method_13_code 17 = .ok (.lstore_n 2, 1) := by decide +kernel
theorem d_Num_downFromHighest_18 : decode prog_8_method_13_code 18 = .ok (.lload_n 2, 1) := by decide +kernel
theorem d_Num_downFromHighest_19 : decode prog_8_method_13_code 19 = .ok (.lload_n 2, 1) := by decide +kernel
theorem d_Num_downFromHighest_20 : decode prog_8_method_13_code 20 = .ok (.bipush 8, 2) := by decide +kernel
theorem d_Num_downFromHighest_22 : decode prog_8_method_13_code 22 = .ok (.lushr, 1) := by decide +kernel
theorem d_Num_downFromHighest_23 : decode prog_8_method_13_code 23 = .ok (.lor, 1) := by decide +kernel
theorem d_Num_downFromHighest_24 : decode prog_8_method_13_code 24 = .ok (.lstore_n 2, 1) := by decide +kernel
theorem d_Num_downFromHighest_25 : decode prog_8_method_13_code 25 = .ok (.lload_n 2, 1) := by decide +kernel
theorem d_Num_downFromHighest_26 : decode prog_8_method_13_code 26 = .ok (.lload_n 2, 1) := by decide +kernel
theorem d_Num_downFromHighest_27 : decode prog_8_method_13_code 27 = .ok (.bipush 16, 2) := by decide +kernel
theorem d_Num_downFromHighest_29 : decode prog_8_method_13_code 29 = .ok (.lushr, 1) := by decide +kernel
theorem d_Num_downFromHighest_30 : decode prog_8_method_13_code 30 = .ok (.lor, 1) := by decide +kernel
theorem d_Num_downFromHighest_31 : decode prog_8_method_13_code 31 = .ok (.lstore_n 2, 1) := by decide +kernel
theorem d_Num_downFromHighest_32 : decode prog_8_method_13_code 32 = .ok (.lload_n 2, 1) := by decide +kernel
theorem d_Num_downFromHighest_33 : decode prog_8_method_13_code 33 = .ok (.lload_n 2, 1) := by decide +kernel
theorem d_Num_downFromHighest_34 : decode prog_8_method_13_code 34 = .ok (.bipush 32, 2) := by decide +kernel
theorem d_Num_downFromHighest_36 : decode prog_8_method_13_code 36 = .ok (.lushr, 1) := by decide +kernel
theorem d_Num_downFromHighest_37 : decode prog_8_method_13_code 37 = .ok (.lor, 1) := by decide +kernel
theorem d_Num_downFromHighest_38 : decode prog_8_method_13_code 38 = .ok (.lreturn, 1) := by decide +kernel
def rm_Num_down : Room := { frames := 1, cells := 0, slots := 0, locals := 20 }
abbrev q_Num_down (D : va_G) (x1 : Int64) (A : Nat → Prop) : Array Value → Jvm.State → Outcome → Jvm.State → Prop := va_Ql (fun (r : Int64) (_ : Unit) => r = fn_down x1) (fg_B D A (fun (_ : Unit) => []) (fun (_ : Unit) => [])) A
set_option maxHeartbeats 4000000 in
set_option maxRecDepth 100000 in
theorem c_Num_down (l : Launch) (D : va_G) (x1 : Int64) (sz : Nat) : Met l y_Num_downFromHighest (fg_w y_Num_downFromHighest prog_8_method_13_code 4 (some .long)) rm_Num_down (va_Pc [.long x1] (fg_P D [] [] sz)) (q_Num_down D x1 (va_A [] sz)) rm_Num_down.cells rm_Num_down.slots (va_A [] sz) := by
  refine fg_enter (fun A => q_Num_down D x1 A) (by decide +kernel) (Nat.le_of_ble_eq_true rfl) ?_
  intro p e s m below meth c ls A hx hb hml hown hts hr hlocks hin hP hK hD hS hA hX hl
  have hl : lv_has ls 4 [(0, .long x1)] := hl
  refine lv_lload_n hx hb d_Num_downFromHighest_0 rfl (lv_at hl 0 rfl) ?_
  refine lv_lload_n hx hb d_Num_downFromHighest_1 rfl (lv_at hl 0 rfl) ?_
  refine lv_iconst (v := 1) hx hb d_Num_downFromHighest_2 (by decide) ?_
  refine lv_lushr (v := (x1.toUInt64 >>> ((1 : Int32).toInt64.toUInt64 &&& Int64.toUInt64 63)).toInt64) hx hb d_Num_downFromHighest_3 rfl ?_
  refine lv_lor hx hb d_Num_downFromHighest_4 ?_
  refine lv_lstore_n (lv' := [(2, .long (x1 ||| ((x1.toUInt64 >>> ((1 : Int32).toInt64.toUInt64 &&& Int64.toUInt64 63)).toInt64))), (0, .long x1)]) hx hb d_Num_downFromHighest_5 rfl hl (by decide) rfl (fun ls hl => ?_)
  refine lv_lload_n hx hb d_Num_downFromHighest_6 rfl (lv_at hl 0 rfl) ?_
  refine lv_lload_n hx hb d_Num_downFromHighest_7 rfl (lv_at hl 0 rfl) ?_
  refine lv_iconst (v := 2) hx hb d_Num_downFromHighest_8 (by decide) ?_
  refine lv_lushr (v := ((x1 ||| ((x1.toUInt64 >>> ((1 : Int32).toInt64.toUInt64 &&& Int64.toUInt64 63)).toInt64)).toUInt64 >>> ((2 : Int32).toInt64.toUInt64 &&& Int64.toUInt64 63)).toInt64) hx hb d_Num_downFromHighest_9 rfl ?_
  refine lv_lor hx hb d_Num_downFromHighest_10 ?_
  refine lv_lstore_n (lv' := [(2, .long ((x1 ||| ((x1.toUInt64 >>> ((1 : Int32).toInt64.toUInt64 &&& Int64.toUInt64 63)).toInt64)) ||| (((x1 ||| ((x1.toUInt64 >>> ((1 : Int32).toInt64.toUInt64 &&& Int64.toUInt64 63)).toInt64)).toUInt64 >>> ((2 : Int32).toInt64.toUInt64 &&& Int64.toUInt64 63)).toInt64))), (0, .long x1)]) hx hb d_Num_downFromHighest_11 rfl hl (by decide) rfl (fun ls hl => ?_)
  refine lv_lload_n hx hb d_Num_downFromHighest_12 rfl (lv_at hl 0 rfl) ?_
  refine lv_lload_n hx hb d_Num_downFromHighest_13 rfl (lv_at hl 0 rfl) ?_
  refine lv_iconst (v := 4) hx hb d_Num_downFromHighest_14 (by decide) ?_
  refine lv_lushr (v := (((x1 ||| ((x1.toUInt64 >>> ((1 : Int32).toInt64.toUInt64 &&& Int64.toUInt64 63)).toInt64)) ||| (((x1 ||| ((x1.toUInt64 >>> ((1 : Int32).toInt64.toUInt64 &&& Int64.toUInt64 63)).toInt64)).toUInt64 >>> ((2 : Int32).toInt64.toUInt64 &&& Int64.toUInt64 63)).toInt64)).toUInt64 >>> ((4 : Int32).toInt64.toUInt64 &&& Int64.toUInt64 63)).toInt64) hx hb d_Num_downFromHighest_15 rfl ?_
  refine lv_lor hx hb d_Num_downFromHighest_16 ?_
  refine lv_lstore_n (lv' := [(2, .long (((x1 ||| ((x1.toUInt64 >>> ((1 : Int32).toInt64.toUInt64 &&& Int64.toUInt64 63)).toInt64)) ||| (((x1 ||| ((x1.toUInt64 >>> ((1 : Int32).toInt64.toUInt64 &&& Int64.toUInt64 63)).toInt64)).toUInt64 >>> ((2 : Int32).toInt64.toUInt64 &&& Int64.toUInt64 63)).toInt64)) ||| ((((x1 ||| ((x1.toUInt64 >>> ((1 : Int32).toInt64.toUInt64 &&& Int64.toUInt64 63)).toInt64)) ||| (((x1 ||| ((x1.toUInt64 >>> ((1 : Int32).toInt64.toUInt64 &&& Int64.toUInt64 63)).toInt64)).toUInt64 >>> ((2 : Int32).toInt64.toUInt64 &&& Int64.toUInt64 63)).toInt64)).toUInt64 >>> ((4 : Int32).toInt64.toUInt64 &&& Int64.toUInt64 63)).toInt64))), (0, .long x1)]) hx hb d_Num_downFromHighest_17 rfl hl (by decide) rfl (fun ls hl => ?_)
  refine lv_lload_n hx hb d_Num_downFromHighest_18 rfl (lv_at hl 0 rfl) ?_
  refine lv_lload_n hx hb d_Num_downFromHighest_19 rfl (lv_at hl 0 rfl) ?_
  refine lv_bipush (v := 8) hx hb d_Num_downFromHighest_20 (by decide) ?_
  refine lv_lushr (v := ((((x1 ||| ((x1.toUInt64 >>> ((1 : Int32).toInt64.toUInt64 &&& Int64.toUInt64 63)).toInt64)) ||| (((x1 ||| ((x1.toUInt64 >>> ((1 : Int32).toInt64.toUInt64 &&& Int64.toUInt64 63)).toInt64)).toUInt64 >>> ((2 : Int32).toInt64.toUInt64 &&& Int64.toUInt64 63)).toInt64)) ||| ((((x1 ||| ((x1.toUInt64 >>> ((1 : Int32).toInt64.toUInt64 &&& Int64.toUInt64 63)).toInt64)) ||| (((x1 ||| ((x1.toUInt64 >>> ((1 : Int32).toInt64.toUInt64 &&& Int64.toUInt64 63)).toInt64)).toUInt64 >>> ((2 : Int32).toInt64.toUInt64 &&& Int64.toUInt64 63)).toInt64)).toUInt64 >>> ((4 : Int32).toInt64.toUInt64 &&& Int64.toUInt64 63)).toInt64)).toUInt64 >>> ((8 : Int32).toInt64.toUInt64 &&& Int64.toUInt64 63)).toInt64) hx hb d_Num_downFromHighest_22 rfl ?_
  refine lv_lor hx hb d_Num_downFromHighest_23 ?_
  refine lv_lstore_n (lv' := [(2, .long ((((x1 ||| ((x1.toUInt64 >>> ((1 : Int32).toInt64.toUInt64 &&& Int64.toUInt64 63)).toInt64)) ||| (((x1 ||| ((x1.toUInt64 >>> ((1 : Int32).toInt64.toUInt64 &&& Int64.toUInt64 63)).toInt64)).toUInt64 >>> ((2 : Int32).toInt64.toUInt64 &&& Int64.toUInt64 63)).toInt64)) ||| ((((x1 ||| ((x1.toUInt64 >>> ((1 : Int32).toInt64.toUInt64 &&& Int64.toUInt64 63)).toInt64)) ||| (((x1 ||| ((x1.toUInt64 >>> ((1 : Int32).toInt64.toUInt64 &&& Int64.toUInt64 63)).toInt64)).toUInt64 >>> ((2 : Int32).toInt64.toUInt64 &&& Int64.toUInt64 63)).toInt64)).toUInt64 >>> ((4 : Int32).toInt64.toUInt64 &&& Int64.toUInt64 63)).toInt64)) ||| (((((x1 ||| ((x1.toUInt64 >>> ((1 : Int32).toInt64.toUInt64 &&& Int64.toUInt64 63)).toInt64)) ||| (((x1 ||| ((x1.toUInt64 >>> ((1 : Int32).toInt64.toUInt64 &&& Int64.toUInt64 63)).toInt64)).toUInt64 >>> ((2 : Int32).toInt64.toUInt64 &&& Int64.toUInt64 63)).toInt64)) ||| ((((x1 ||| ((x1.toUInt64 >>> ((1 : Int32).toInt64.toUInt64 &&& Int64.toUInt64 63)).toInt64)) ||| (((x1 ||| ((x1.toUInt64 >>> ((1 : Int32).toInt64.toUInt64 &&& Int64.toUInt64 63)).toInt64)).toUInt64 >>> ((2 : Int32).toInt64.toUInt64 &&& Int64.toUInt64 63)).toInt64)).toUInt64 >>> ((4 : Int32).toInt64.toUInt64 &&& Int64.toUInt64 63)).toInt64)).toUInt64 >>> ((8 : Int32).toInt64.toUInt64 &&& Int64.toUInt64 63)).toInt64))), (0, .long x1)]) hx hb d_Num_downFromHighest_24 rfl hl (by decide) rfl (fun ls hl => ?_)
  refine lv_lload_n hx hb d_Num_downFromHighest_25 rfl (lv_at hl 0 rfl) ?_
  refine lv_lload_n hx hb d_Num_downFromHighest_26 rfl (lv_at hl 0 rfl) ?_
  refine lv_bipush (v := 16) hx hb d_Num_downFromHighest_27 (by decide) ?_
  refine lv_lushr (v := (((((x1 ||| ((x1.toUInt64 >>> ((1 : Int32).toInt64.toUInt64 &&& Int64.toUInt64 63)).toInt64)) ||| (((x1 ||| ((x1.toUInt64 >>> ((1 : Int32).toInt64.toUInt64 &&& Int64.toUInt64 63)).toInt64)).toUInt64 >>> ((2 : Int32).toInt64.toUInt64 &&& Int64.toUInt64 63)).toInt64)) ||| ((((x1 ||| ((x1.toUInt64 >>> ((1 : Int32).toInt64.toUInt64 &&& Int64.toUInt64 63)).toInt64)) ||| (((x1 ||| ((x1.toUInt64 >>> ((1 : Int32).toInt64.toUInt64 &&& Int64.toUInt64 63)).toInt64)).toUInt64 >>> ((2 : Int32).toInt64.toUInt64 &&& Int64.toUInt64 63)).toInt64)).toUInt64 >>> ((4 : Int32).toInt64.toUInt64 &&& Int64.toUInt64 63)).toInt64)) ||| (((((x1 ||| ((x1.toUInt64 >>> ((1 : Int32).toInt64.toUInt64 &&& Int64.toUInt64 63)).toInt64)) ||| (((x1 ||| ((x1.toUInt64 >>> ((1 : Int32).toInt64.toUInt64 &&& Int64.toUInt64 63)).toInt64)).toUInt64 >>> ((2 : Int32).toInt64.toUInt64 &&& Int64.toUInt64 63)).toInt64)) ||| ((((x1 ||| ((x1.toUInt64 >>> ((1 : Int32).toInt64.toUInt64 &&& Int64.toUInt64 63)).toInt64)) ||| (((x1 ||| ((x1.toUInt64 >>> ((1 : Int32).toInt64.toUInt64 &&& Int64.toUInt64 63)).toInt64)).toUInt64 >>> ((2 : Int32).toInt64.toUInt64 &&& Int64.toUInt64 63)).toInt64)).toUInt64 >>> ((4 : Int32).toInt64.toUInt64 &&& Int64.toUInt64 63)).toInt64)).toUInt64 >>> ((8 : Int32).toInt64.toUInt64 &&& Int64.toUInt64 63)).toInt64)).toUInt64 >>> ((16 : Int32).toInt64.toUInt64 &&& Int64.toUInt64 63)).toInt64) hx hb d_Num_downFromHighest_29 rfl ?_
  refine lv_lor hx hb d_Num_downFromHighest_30 ?_
  refine lv_lstore_n (lv' := [(2, .long (((((x1 ||| ((x1.toUInt64 >>> ((1 : Int32).toInt64.toUInt64 &&& Int64.toUInt64 63)).toInt64)) ||| (((x1 ||| ((x1.toUInt64 >>> ((1 : Int32).toInt64.toUInt64 &&& Int64.toUInt64 63)).toInt64)).toUInt64 >>> ((2 : Int32).toInt64.toUInt64 &&& Int64.toUInt64 63)).toInt64)) ||| ((((x1 ||| ((x1.toUInt64 >>> ((1 : Int32).toInt64.toUInt64 &&& Int64.toUInt64 63)).toInt64)) ||| (((x1 ||| ((x1.toUInt64 >>> ((1 : Int32).toInt64.toUInt64 &&& Int64.toUInt64 63)).toInt64)).toUInt64 >>> ((2 : Int32).toInt64.toUInt64 &&& Int64.toUInt64 63)).toInt64)).toUInt64 >>> ((4 : Int32).toInt64.toUInt64 &&& Int64.toUInt64 63)).toInt64)) ||| (((((x1 ||| ((x1.toUInt64 >>> ((1 : Int32).toInt64.toUInt64 &&& Int64.toUInt64 63)).toInt64)) ||| (((x1 ||| ((x1.toUInt64 >>> ((1 : Int32).toInt64.toUInt64 &&& Int64.toUInt64 63)).toInt64)).toUInt64 >>> ((2 : Int32).toInt64.toUInt64 &&& Int64.toUInt64 63)).toInt64)) ||| ((((x1 ||| ((x1.toUInt64 >>> ((1 : Int32).toInt64.toUInt64 &&& Int64.toUInt64 63)).toInt64)) ||| (((x1 ||| ((x1.toUInt64 >>> ((1 : Int32).toInt64.toUInt64 &&& Int64.toUInt64 63)).toInt64)).toUInt64 >>> ((2 : Int32).toInt64.toUInt64 &&& Int64.toUInt64 63)).toInt64)).toUInt64 >>> ((4 : Int32).toInt64.toUInt64 &&& Int64.toUInt64 63)).toInt64)).toUInt64 >>> ((8 : Int32).toInt64.toUInt64 &&& Int64.toUInt64 63)).toInt64)) ||| ((((((x1 ||| ((x1.toUInt64 >>> ((1 : Int32).toInt64.toUInt64 &&& Int64.toUInt64 63)).toInt64)) ||| (((x1 ||| ((x1.toUInt64 >>> ((1 : Int32).toInt64.toUInt64 &&& Int64.toUInt64 63)).toInt64)).toUInt64 >>> ((2 : Int32).toInt64.toUInt64 &&& Int64.toUInt64 63)).toInt64)) ||| ((((x1 ||| ((x1.toUInt64 >>> ((1 : Int32).toInt64.toUInt64 &&& Int64.toUInt64 63)).toInt64)) ||| (((x1 ||| ((x1.toUInt64 >>> ((1 : Int32).toInt64.toUInt64 &&& Int64.toUInt64 63)).toInt64)).toUInt64 >>> ((2 : Int32).toInt64.toUInt64 &&& Int64.toUInt64 63)).toInt64)).toUInt64 >>> ((4 : Int32).toInt64.toUInt64 &&& Int64.toUInt64 63)).toInt64)) ||| (((((x1 ||| ((x1.toUInt64 >>> ((1 : Int32).toInt64.toUInt64 &&& Int64.toUInt64 63)).toInt64)) ||| (((x1 ||| ((x1.toUInt64 >>> ((1 : Int32).toInt64.toUInt64 &&& Int64.toUInt64 63)).toInt64)).toUInt64 >>> ((2 : Int32).toInt64.toUInt64 &&& Int64.toUInt64 63)).toInt64)) ||| ((((x1 ||| ((x1.toUInt64 >>> ((1 : Int32).toInt64.toUInt64 &&& Int64.toUInt64 63)).toInt64)) ||| (((x1 ||| ((x1.toUInt64 >>> ((1 : Int32).toInt64.toUInt64 &&& Int64.toUInt64 63)).toInt64)).toUInt64 >>> ((2 : Int32).toInt64.toUInt64 &&& Int64.toUInt64 63)).toInt64)).toUInt64 >>> ((4 : Int32).toInt64.toUInt64 &&& Int64.toUInt64 63)).toInt64)).toUInt64 >>> ((8 : Int32).toInt64.toUInt64 &&& Int64.toUInt64 63)).toInt64)).toUInt64 >>> ((16 : Int32).toInt64.toUInt64 &&& Int64.toUInt64 63)).toInt64))), (0, .long x1)]) hx hb d_Num_downFromHighest_31 rfl hl (by decide) rfl (fun ls hl => ?_)
  refine lv_lload_n hx hb d_Num_downFromHighest_32 rfl (lv_at hl 0 rfl) ?_
  refine lv_lload_n hx hb d_Num_downFromHighest_33 rfl (lv_at hl 0 rfl) ?_
  refine lv_bipush (v := 32) hx hb d_Num_downFromHighest_34 (by decide) ?_
  refine lv_lushr (v := ((((((x1 ||| ((x1.toUInt64 >>> ((1 : Int32).toInt64.toUInt64 &&& Int64.toUInt64 63)).toInt64)) ||| (((x1 ||| ((x1.toUInt64 >>> ((1 : Int32).toInt64.toUInt64 &&& Int64.toUInt64 63)).toInt64)).toUInt64 >>> ((2 : Int32).toInt64.toUInt64 &&& Int64.toUInt64 63)).toInt64)) ||| ((((x1 ||| ((x1.toUInt64 >>> ((1 : Int32).toInt64.toUInt64 &&& Int64.toUInt64 63)).toInt64)) ||| (((x1 ||| ((x1.toUInt64 >>> ((1 : Int32).toInt64.toUInt64 &&& Int64.toUInt64 63)).toInt64)).toUInt64 >>> ((2 : Int32).toInt64.toUInt64 &&& Int64.toUInt64 63)).toInt64)).toUInt64 >>> ((4 : Int32).toInt64.toUInt64 &&& Int64.toUInt64 63)).toInt64)) ||| (((((x1 ||| ((x1.toUInt64 >>> ((1 : Int32).toInt64.toUInt64 &&& Int64.toUInt64 63)).toInt64)) ||| (((x1 ||| ((x1.toUInt64 >>> ((1 : Int32).toInt64.toUInt64 &&& Int64.toUInt64 63)).toInt64)).toUInt64 >>> ((2 : Int32).toInt64.toUInt64 &&& Int64.toUInt64 63)).toInt64)) ||| ((((x1 ||| ((x1.toUInt64 >>> ((1 : Int32).toInt64.toUInt64 &&& Int64.toUInt64 63)).toInt64)) ||| (((x1 ||| ((x1.toUInt64 >>> ((1 : Int32).toInt64.toUInt64 &&& Int64.toUInt64 63)).toInt64)).toUInt64 >>> ((2 : Int32).toInt64.toUInt64 &&& Int64.toUInt64 63)).toInt64)).toUInt64 >>> ((4 : Int32).toInt64.toUInt64 &&& Int64.toUInt64 63)).toInt64)).toUInt64 >>> ((8 : Int32).toInt64.toUInt64 &&& Int64.toUInt64 63)).toInt64)) ||| ((((((x1 ||| ((x1.toUInt64 >>> ((1 : Int32).toInt64.toUInt64 &&& Int64.toUInt64 63)).toInt64)) ||| (((x1 ||| ((x1.toUInt64 >>> ((1 : Int32).toInt64.toUInt64 &&& Int64.toUInt64 63)).toInt64)).toUInt64 >>> ((2 : Int32).toInt64.toUInt64 &&& Int64.toUInt64 63)).toInt64)) ||| ((((x1 ||| ((x1.toUInt64 >>> ((1 : Int32).toInt64.toUInt64 &&& Int64.toUInt64 63)).toInt64)) ||| (((x1 ||| ((x1.toUInt64 >>> ((1 : Int32).toInt64.toUInt64 &&& Int64.toUInt64 63)).toInt64)).toUInt64 >>> ((2 : Int32).toInt64.toUInt64 &&& Int64.toUInt64 63)).toInt64)).toUInt64 >>> ((4 : Int32).toInt64.toUInt64 &&& Int64.toUInt64 63)).toInt64)) ||| (((((x1 ||| ((x1.toUInt64 >>> ((1 : Int32).toInt64.toUInt64 &&& Int64.toUInt64 63)).toInt64)) ||| (((x1 ||| ((x1.toUInt64 >>> ((1 : Int32).toInt64.toUInt64 &&& Int64.toUInt64 63)).toInt64)).toUInt64 >>> ((2 : Int32).toInt64.toUInt64 &&& Int64.toUInt64 63)).toInt64)) ||| ((((x1 ||| ((x1.toUInt64 >>> ((1 : Int32).toInt64.toUInt64 &&& Int64.toUInt64 63)).toInt64)) ||| (((x1 ||| ((x1.toUInt64 >>> ((1 : Int32).toInt64.toUInt64 &&& Int64.toUInt64 63)).toInt64)).toUInt64 >>> ((2 : Int32).toInt64.toUInt64 &&& Int64.toUInt64 63)).toInt64)).toUInt64 >>> ((4 : Int32).toInt64.toUInt64 &&& Int64.toUInt64 63)).toInt64)).toUInt64 >>> ((8 : Int32).toInt64.toUInt64 &&& Int64.toUInt64 63)).toInt64)).toUInt64 >>> ((16 : Int32).toInt64.toUInt64 &&& Int64.toUInt64 63)).toInt64)).toUInt64 >>> ((32 : Int32).toInt64.toUInt64 &&& Int64.toUInt64 63)).toInt64) hx hb d_Num_downFromHighest_36 rfl ?_
  refine lv_lor hx hb d_Num_downFromHighest_37 ?_
  exact fg_retl () hx hb hr hlocks rfl (hP.sub (ws' := []) [] rfl) (hK.sub (tys' := []) [] rfl) (hD.sub (ws' := []) [] (by decide) rfl) hS (Nat.le_of_ble_eq_true rfl) (Nat.le_of_ble_eq_true rfl) d_Num_downFromHighest_38
abbrev y_Num_raiseLeast : MethodName := ⟨"FilterGuard$Num", "raiseLeast", "(J)V"⟩
theorem d_Num_raiseLeast_0 : decode prog_8_method_15_code 0 = .ok (.aload_n 0, 1) := by decide +kernel
theorem d_Num_raiseLeast_1 : decode prog_8_method_15_code 1 = .ok (.getfield 18, 3) := by decide +kernel
theorem d_Num_raiseLeast_4 : decode prog_8_method_15_code 4 = .ok (.ldc2_w 32, 3) := by decide +kernel
theorem d_Num_raiseLeast_7 : decode prog_8_method_15_code 7 = .ok (.lxor, 1) := by decide +kernel
theorem d_Num_raiseLeast_8 : decode prog_8_method_15_code 8 = .ok (.lload_n 1, 1) := by decide +kernel
theorem d_Num_raiseLeast_9 : decode prog_8_method_15_code 9 = .ok (.ldc2_w 32, 3) := by decide +kernel
theorem d_Num_raiseLeast_12 : decode prog_8_method_15_code 12 = .ok (.lxor, 1) := by decide +kernel
theorem d_Num_raiseLeast_13 : decode prog_8_method_15_code 13 = .ok (.lcmp, 1) := by decide +kernel
theorem d_Num_raiseLeast_14 : decode prog_8_method_15_code 14 = .ok (.ifCond .ge 8, 3) := by decide +kernel
theorem d_Num_raiseLeast_22 : decode prog_8_method_15_code 22 = .ok (.return_, 1) := by decide +kernel
theorem d_Num_raiseLeast_17 : decode prog_8_method_15_code 17 = .ok (.aload_n 0, 1) := by decide +kernel
theorem d_Num_raiseLeast_18 : decode prog_8_method_15_code 18 = .ok (.lload_n 1, 1) := by decide +kernel
theorem d_Num_raiseLeast_19 : decode prog_8_method_15_code 19 = .ok (.putfield 18, 3) := by decide +kernel
def rm_Num_raise : Room := { frames := 1, cells := 0, slots := 0, locals := 20 }
abbrev q_Num_raise (D : va_G) (h0 : Nat) (n1 : Int64) (n2 : Int64) (n3 : Int64) (n4 : Int64) (n5 : Int64) (n6 : Int64) (x1 : Int64) (A : Nat → Prop) : Array Value → Jvm.State → Outcome → Jvm.State → Prop := va_Qv (fun (y1 : Int64) => y1 = fn_max n3 x1) (fg_B D A (fun (y1 : Int64) => [(h0, .inr (11, [.long n1, .long n2, .long y1, .long n4, .long n5, .long n6]))]) (fun (y1 : Int64) => [])) A
set_option maxHeartbeats 4000000 in
set_option maxRecDepth 100000 in
theorem c_Num_raise (l : Launch) (D : va_G) (h0 : Nat) (n1 : Int64) (n2 : Int64) (n3 : Int64) (n4 : Int64) (n5 : Int64) (n6 : Int64) (x1 : Int64) (sz : Nat) : Met l y_Num_raiseLeast (fg_w y_Num_raiseLeast prog_8_method_15_code 3 none) rm_Num_raise (va_Pc [.ref h0, .long x1] (fg_P D [] [(h0, .inr (11, [.long n1, .long n2, .long n3, .long n4, .long n5, .long n6]))] sz)) (q_Num_raise D h0 n1 n2 n3 n4 n5 n6 x1 (va_A [(h0, .inr (11, [.long n1, .long n2, .long n3, .long n4, .long n5, .long n6]))] sz)) rm_Num_raise.cells rm_Num_raise.slots (va_A [(h0, .inr (11, [.long n1, .long n2, .long n3, .long n4, .long n5, .long n6]))] sz) := by
  refine fg_enter (fun A => q_Num_raise D h0 n1 n2 n3 n4 n5 n6 x1 A) (by decide +kernel) (Nat.le_of_ble_eq_true rfl) ?_
  intro p e s m below meth c ls A hx hb hml hown hts hr hlocks hin hP hK hD hS hA hX hl
  have hl : lv_has ls 3 [(0, .ref h0), (1, .long x1)] := hl
  refine lv_aload_n hx hb d_Num_raiseLeast_0 rfl (lv_at hl 0 rfl) ?_
  refine va_get (D := D) (ci := 11) (v := .long n3) (C := "FilterGuard$Num") (T := F_Num) (N := 6) hx hb hts i_Num hown hK hP 0 rfl rfl 2 (by decide) (hts _ u_373) (fun _ h9 => h9) rfl d_Num_raiseLeast_1 ?_
  refine lv_ldc2 hx hb hown (hts _ u_1065) d_Num_raiseLeast_4 ?_
  refine lv_lxor hx hb d_Num_raiseLeast_7 ?_
  refine lv_lload_n hx hb d_Num_raiseLeast_8 rfl (lv_at hl 1 rfl) ?_
  refine lv_ldc2 hx hb hown (hts _ u_1065) d_Num_raiseLeast_9 ?_
  refine lv_lxor hx hb d_Num_raiseLeast_12 ?_
  refine W.lcmp hx hb d_Num_raiseLeast_13 ?_
  refine lv_if_ge (tgt := 22) hx hb d_Num_raiseLeast_14 (by decide) (fun c_1 => ?_) (fun c_1 => ?_)
  · exact fg_retv (n3) hx hb hr hlocks (fn_max_ge (Int64.not_lt.mpr ((lg_cmp_ge _ _).mp c_1))) (hP.sub (ws' := [(h0, .inr (11, [.long n1, .long n2, .long n3, .long n4, .long n5, .long n6]))]) [0] rfl) (hK.sub (tys' := []) [] rfl) (hD.sub (ws' := [(h0, .inr (11, [.long n1, .long n2, .long n3, .long n4, .long n5, .long n6]))]) [0] (by decide) rfl) hS (Nat.le_of_ble_eq_true rfl) (Nat.le_of_ble_eq_true rfl) d_Num_raiseLeast_22
  · refine lv_aload_n hx hb d_Num_raiseLeast_17 rfl (lv_at hl 0 rfl) ?_
    refine lv_lload_n hx hb d_Num_raiseLeast_18 rfl (lv_at hl 1 rfl) ?_
    refine va_put (D := D) (ci := 11) (v := .long x1) (ty := .long) (C := "FilterGuard$Num") (T := F_Num) (N := 6) hx hb hts i_Num t_Num t_Num_ok n_Num hown hK hP hD hS 0 rfl rfl 2 (by decide) (hts _ u_373) (fun _ h9 => h9) rfl (by decide +kernel) rfl rfl (Nat.le_of_ble_eq_true rfl) d_Num_raiseLeast_19 (fun H locs hP hD hS => ?_)
    have hP : va_P D classes [(h0, .inr (11, [.long n1, .long n2, .long x1, .long n4, .long n5, .long n6]))] H := hP
    have hD : va_D A [(h0, .inr (11, [.long n1, .long n2, .long x1, .long n4, .long n5, .long n6]))] := hD
    exact fg_retv (x1) hx hb hr hlocks (fn_max_lt (Int64.not_le.mp (fun z => c_1 ((lg_cmp_ge _ _).mpr z)))) (hP.sub (ws' := [(h0, .inr (11, [.long n1, .long n2, .long x1, .long n4, .long n5, .long n6]))]) [0] rfl) (hK.sub (tys' := []) [] rfl) (hD.sub (ws' := [(h0, .inr (11, [.long n1, .long n2, .long x1, .long n4, .long n5, .long n6]))]) [0] (by decide) rfl) hS (Nat.le_of_ble_eq_true rfl) (Nat.le_of_ble_eq_true rfl) d_Num_raiseLeast_22
abbrev y_Num_lowerGreatest : MethodName := ⟨"FilterGuard$Num", "lowerGreatest", "(J)V"⟩
theorem d_Num_lowerGreatest_0 : decode prog_8_method_16_code 0 = .ok (.aload_n 0, 1) := by decide +kernel
theorem d_Num_lowerGreatest_1 : decode prog_8_method_16_code 1 = .ok (.getfield 21, 3) := by decide +kernel
theorem d_Num_lowerGreatest_4 : decode prog_8_method_16_code 4 = .ok (.ldc2_w 32, 3) := by decide +kernel
theorem d_Num_lowerGreatest_7 : decode prog_8_method_16_code 7 = .ok (.lxor, 1) := by decide +kernel
theorem d_Num_lowerGreatest_8 : decode prog_8_method_16_code 8 = .ok (.lload_n 1, 1) := by decide +kernel
theorem d_Num_lowerGreatest_9 : decode prog_8_method_16_code 9 = .ok (.ldc2_w 32, 3) := by decide +kernel
theorem d_Num_lowerGreatest_12 : decode prog_8_method_16_code 12 = .ok (.lxor, 1) := by decide +kernel
theorem d_Num_lowerGreatest_13 : decode prog_8_method_16_code 13 = .ok (.lcmp, 1) := by decide +kernel
theorem d_Num_lowerGreatest_14 : decode prog_8_method_16_code 14 = .ok (.ifCond .le 8, 3) := by decide +kernel
theorem d_Num_lowerGreatest_22 : decode prog_8_method_16_code 22 = .ok (.return_, 1) := by decide +kernel
theorem d_Num_lowerGreatest_17 : decode prog_8_method_16_code 17 = .ok (.aload_n 0, 1) := by decide +kernel
theorem d_Num_lowerGreatest_18 : decode prog_8_method_16_code 18 = .ok (.lload_n 1, 1) := by decide +kernel
theorem d_Num_lowerGreatest_19 : decode prog_8_method_16_code 19 = .ok (.putfield 21, 3) := by decide +kernel
def rm_Num_lower : Room := { frames := 1, cells := 0, slots := 0, locals := 20 }
abbrev q_Num_lower (D : va_G) (h0 : Nat) (n1 : Int64) (n2 : Int64) (n3 : Int64) (n4 : Int64) (n5 : Int64) (n6 : Int64) (x1 : Int64) (A : Nat → Prop) : Array Value → Jvm.State → Outcome → Jvm.State → Prop := va_Qv (fun (y1 : Int64) => y1 = fn_min n4 x1) (fg_B D A (fun (y1 : Int64) => [(h0, .inr (11, [.long n1, .long n2, .long n3, .long y1, .long n5, .long n6]))]) (fun (y1 : Int64) => [])) A
set_option maxHeartbeats 4000000 in
set_option maxRecDepth 100000 in
theorem c_Num_lower (l : Launch) (D : va_G) (h0 : Nat) (n1 : Int64) (n2 : Int64) (n3 : Int64) (n4 : Int64) (n5 : Int64) (n6 : Int64) (x1 : Int64) (sz : Nat) : Met l y_Num_lowerGreatest (fg_w y_Num_lowerGreatest prog_8_method_16_code 3 none) rm_Num_lower (va_Pc [.ref h0, .long x1] (fg_P D [] [(h0, .inr (11, [.long n1, .long n2, .long n3, .long n4, .long n5, .long n6]))] sz)) (q_Num_lower D h0 n1 n2 n3 n4 n5 n6 x1 (va_A [(h0, .inr (11, [.long n1, .long n2, .long n3, .long n4, .long n5, .long n6]))] sz)) rm_Num_lower.cells rm_Num_lower.slots (va_A [(h0, .inr (11, [.long n1, .long n2, .long n3, .long n4, .long n5, .long n6]))] sz) := by
  refine fg_enter (fun A => q_Num_lower D h0 n1 n2 n3 n4 n5 n6 x1 A) (by decide +kernel) (Nat.le_of_ble_eq_true rfl) ?_
  intro p e s m below meth c ls A hx hb hml hown hts hr hlocks hin hP hK hD hS hA hX hl
  have hl : lv_has ls 3 [(0, .ref h0), (1, .long x1)] := hl
  refine lv_aload_n hx hb d_Num_lowerGreatest_0 rfl (lv_at hl 0 rfl) ?_
  refine va_get (D := D) (ci := 11) (v := .long n4) (C := "FilterGuard$Num") (T := F_Num) (N := 6) hx hb hts i_Num hown hK hP 0 rfl rfl 3 (by decide) (hts _ u_376) (fun _ h9 => h9) rfl d_Num_lowerGreatest_1 ?_
  refine lv_ldc2 hx hb hown (hts _ u_1065) d_Num_lowerGreatest_4 ?_
  refine lv_lxor hx hb d_Num_lowerGreatest_7 ?_
  refine lv_lload_n hx hb d_Num_lowerGreatest_8 rfl (lv_at hl 1 rfl) ?_
  refine lv_ldc2 hx hb hown (hts _ u_1065) d_Num_lowerGreatest_9 ?_
  refine lv_lxor hx hb d_Num_lowerGreatest_12 ?_
  refine W.lcmp hx hb d_Num_lowerGreatest_13 ?_
  refine lv_if_le (tgt := 22) hx hb d_Num_lowerGreatest_14 (by decide) (fun c_1 => ?_) (fun c_1 => ?_)
  · exact fg_retv (n4) hx hb hr hlocks (fn_min_ge (Int64.not_lt.mpr ((lg_cmp_le _ _).mp c_1))) (hP.sub (ws' := [(h0, .inr (11, [.long n1, .long n2, .long n3, .long n4, .long n5, .long n6]))]) [0] rfl) (hK.sub (tys' := []) [] rfl) (hD.sub (ws' := [(h0, .inr (11, [.long n1, .long n2, .long n3, .long n4, .long n5, .long n6]))]) [0] (by decide) rfl) hS (Nat.le_of_ble_eq_true rfl) (Nat.le_of_ble_eq_true rfl) d_Num_lowerGreatest_22
  · refine lv_aload_n hx hb d_Num_lowerGreatest_17 rfl (lv_at hl 0 rfl) ?_
    refine lv_lload_n hx hb d_Num_lowerGreatest_18 rfl (lv_at hl 1 rfl) ?_
    refine va_put (D := D) (ci := 11) (v := .long x1) (ty := .long) (C := "FilterGuard$Num") (T := F_Num) (N := 6) hx hb hts i_Num t_Num t_Num_ok n_Num hown hK hP hD hS 0 rfl rfl 3 (by decide) (hts _ u_376) (fun _ h9 => h9) rfl (by decide +kernel) rfl rfl (Nat.le_of_ble_eq_true rfl) d_Num_lowerGreatest_19 (fun H locs hP hD hS => ?_)
    have hP : va_P D classes [(h0, .inr (11, [.long n1, .long n2, .long n3, .long x1, .long n5, .long n6]))] H := hP
    have hD : va_D A [(h0, .inr (11, [.long n1, .long n2, .long n3, .long x1, .long n5, .long n6]))] := hD
    exact fg_retv (x1) hx hb hr hlocks (fn_min_lt (Int64.not_le.mp (fun z => c_1 ((lg_cmp_le _ _).mpr z)))) (hP.sub (ws' := [(h0, .inr (11, [.long n1, .long n2, .long n3, .long x1, .long n5, .long n6]))]) [0] rfl) (hK.sub (tys' := []) [] rfl) (hD.sub (ws' := [(h0, .inr (11, [.long n1, .long n2, .long n3, .long x1, .long n5, .long n6]))]) [0] (by decide) rfl) hS (Nat.le_of_ble_eq_true rfl) (Nat.le_of_ble_eq_true rfl) d_Num_lowerGreatest_22
