def rm_Num_copy_s : Room := { frames := 1, cells := 0, slots := 0, locals := 20 }
abbrev q_Num_copy_s (D : va_G) (h0 : Nat) (n1 : Int64) (n2 : Int64) (n3 : Int64) (n4 : Int64) (n5 : Int64) (n6 : Int64) (A : Nat → Prop) : Array Value → Jvm.State → Outcome → Jvm.State → Prop := va_Qv (fun (_ : Unit) => True) (fg_B D A (fun (_ : Unit) => [(h0, .inr (11, [.long n1, .long n2, .long n3, .long n4, .long n5, .long n6]))]) (fun (_ : Unit) => [])) A
set_option maxHeartbeats 4000000 in
set_option maxRecDepth 100000 in
theorem c_Num_copy_s (l : Launch) (D : va_G) (h0 : Nat) (n1 : Int64) (n2 : Int64) (n3 : Int64) (n4 : Int64) (n5 : Int64) (n6 : Int64) (sz : Nat) : Met l y_Num_copy (fg_w y_Num_copy prog_8_method_6_code 2 none) rm_Num_copy_s (va_Pc [.ref h0, .ref h0] (fg_P D [] [(h0, .inr (11, [.long n1, .long n2, .long n3, .long n4, .long n5, .long n6]))] sz)) (q_Num_copy_s D h0 n1 n2 n3 n4 n5 n6 (va_A [(h0, .inr (11, [.long n1, .long n2, .long n3, .long n4, .long n5, .long n6]))] sz)) rm_Num_copy_s.cells rm_Num_copy_s.slots (va_A [(h0, .inr (11, [.long n1, .long n2, .long n3, .long n4, .long n5, .long n6]))] sz) := by
  refine fg_enter (fun A => q_Num_copy_s D h0 n1 n2 n3 n4 n5 n6 A) (by decide +kernel) (Nat.le_of_ble_eq_true rfl) ?_
  intro p e s m below meth c ls A hx hb hml hown hts hr hlocks hin hP hK hD hS hA hX hl
  have hl : lv_has ls 2 [(0, .ref h0), (1, .ref h0)] := hl
  refine lv_aload_n hx hb d_Num_copy_0 rfl (lv_at hl 0 rfl) ?_
  refine lv_aload_n hx hb d_Num_copy_1 rfl (lv_at hl 1 rfl) ?_
  refine va_get (D := D) (ci := 11) (v := .long n1) (C := "FilterGuard$Num") (T := F_Num) (N := 6) hx hb hts i_Num hown hK hP 0 rfl rfl 0 (by decide) (hts _ u_367) (fun _ h9 => h9) rfl d_Num_copy_2 ?_
  refine va_put (D := D) (ci := 11) (v := .long n1) (ty := .long) (C := "FilterGuard$Num") (T := F_Num) (N := 6) hx hb hts i_Num t_Num t_Num_ok n_Num hown hK hP hD hS 0 rfl rfl 0 (by decide) (hts _ u_367) (fun _ h9 => h9) rfl (by decide +kernel) rfl rfl (Nat.le_of_ble_eq_true rfl) d_Num_copy_5 (fun H locs hP hD hS => ?_)
  have hP : va_P D classes [(h0, .inr (11, [.long n1, .long n2, .long n3, .long n4, .long n5, .long n6]))] H := hP
  have hD : va_D A [(h0, .inr (11, [.long n1, .long n2, .long n3, .long n4, .long n5, .long n6]))] := hD
  refine lv_aload_n hx hb d_Num_copy_8 rfl (lv_at hl 0 rfl) ?_
  refine lv_aload_n hx hb d_Num_copy_9 rfl (lv_at hl 1 rfl) ?_
  refine va_get (D := D) (ci := 11) (v := .long n2) (C := "FilterGuard$Num") (T := F_Num) (N := 6) hx hb hts i_Num hown hK hP 0 rfl rfl 1 (by decide) (hts _ u_371) (fun _ h9 => h9) rfl d_Num_copy_10 ?_
  refine va_put (D := D) (ci := 11) (v := .long n2) (ty := .long) (C := "FilterGuard$Num") (T := F_Num) (N := 6) hx hb hts i_Num t_Num t_Num_ok n_Num hown hK hP hD hS 0 rfl rfl 1 (by decide) (hts _ u_371) (fun _ h9 => h9) rfl (by decide +kernel) rfl rfl (Nat.le_of_ble_eq_true rfl) d_Num_copy_13 (fun H locs hP hD hS => ?_)
  have hP : va_P D classes [(h0, .inr (11, [.long n1, .long n2, .long n3, .long n4, .long n5, .long n6]))] H := hP
  have hD : va_D A [(h0, .inr (11, [.long n1, .long n2, .long n3, .long n4, .long n5, .long n6]))] := hD
  refine lv_aload_n hx hb d_Num_copy_16 rfl (lv_at hl 0 rfl) ?_
  refine lv_aload_n hx hb d_Num_copy_17 rfl (lv_at hl 1 rfl) ?_
  refine va_get (D := D) (ci := 11) (v := .long n3) (C := "FilterGuard$Num") (T := F_Num) (N := 6) hx hb hts i_Num hown hK hP 0 rfl rfl 2 (by decide) (hts _ u_373) (fun _ h9 => h9) rfl d_Num_copy_18 ?_
  refine va_put (D := D) (ci := 11) (v := .long n3) (ty := .long) (C := "FilterGuard$Num") (T := F_Num) (N := 6) hx hb hts i_Num t_Num t_Num_ok n_Num hown hK hP hD hS 0 rfl rfl 2 (by decide) (hts _ u_373) (fun _ h9 => h9) rfl (by decide +kernel) rfl rfl (Nat.le_of_ble_eq_true rfl) d_Num_copy_21 (fun H locs hP hD hS => ?_)
  have hP : va_P D classes [(h0, .inr (11, [.long n1, .long n2, .long n3, .long n4, .long n5, .long n6]))] H := hP
  have hD : va_D A [(h0, .inr (11, [.long n1, .long n2, .long n3, .long n4, .long n5, .long n6]))] := hD
  refine lv_aload_n hx hb d_Num_copy_24 rfl (lv_at hl 0 rfl) ?_
  refine lv_aload_n hx hb d_Num_copy_25 rfl (lv_at hl 1 rfl) ?_
  refine va_get (D := D) (ci := 11) (v := .long n4) (C := "FilterGuard$Num") (T := F_Num) (N := 6) hx hb hts i_Num hown hK hP 0 rfl rfl 3 (by decide) (hts _ u_376) (fun _ h9 => h9) rfl d_Num_copy_26 ?_
  refine va_put (D := D) (ci := 11) (v := .long n4) (ty := .long) (C := "FilterGuard$Num") (T := F_Num) (N := 6) hx hb hts i_Num t_Num t_Num_ok n_Num hown hK hP hD hS 0 rfl rfl 3 (by decide) (hts _ u_376) (fun _ h9 => h9) rfl (by decide +kernel) rfl rfl (Nat.le_of_ble_eq_true rfl) d_Num_copy_29 (fun H locs hP hD hS => ?_)
  have hP : va_P D classes [(h0, .inr (11, [.long n1, .long n2, .long n3, .long n4, .long n5, .long n6]))] H := hP
  have hD : va_D A [(h0, .inr (11, [.long n1, .long n2, .long n3, .long n4, .long n5, .long n6]))] := hD
  refine lv_aload_n hx hb d_Num_copy_32 rfl (lv_at hl 0 rfl) ?_
  refine lv_aload_n hx hb d_Num_copy_33 rfl (lv_at hl 1 rfl) ?_
  refine va_get (D := D) (ci := 11) (v := .long n5) (C := "FilterGuard$Num") (T := F_Num) (N := 6) hx hb hts i_Num hown hK hP 0 rfl rfl 4 (by decide) (hts _ u_379) (fun _ h9 => h9) rfl d_Num_copy_34 ?_
  refine va_put (D := D) (ci := 11) (v := .long n5) (ty := .long) (C := "FilterGuard$Num") (T := F_Num) (N := 6) hx hb hts i_Num t_Num t_Num_ok n_Num hown hK hP hD hS 0 rfl rfl 4 (by decide) (hts _ u_379) (fun _ h9 => h9) rfl (by decide +kernel) rfl rfl (Nat.le_of_ble_eq_true rfl) d_Num_copy_37 (fun H locs hP hD hS => ?_)
  have hP : va_P D classes [(h0, .inr (11, [.long n1, .long n2, .long n3, .long n4, .long n5, .long n6]))] H := hP
  have hD : va_D A [(h0, .inr (11, [.long n1, .long n2, .long n3, .long n4, .long n5, .long n6]))] := hD
  refine lv_aload_n hx hb d_Num_copy_40 rfl (lv_at hl 0 rfl) ?_
  refine lv_aload_n hx hb d_Num_copy_41 rfl (lv_at hl 1 rfl) ?_
  refine va_get (D := D) (ci := 11) (v := .long n6) (C := "FilterGuard$Num") (T := F_Num) (N := 6) hx hb hts i_Num hown hK hP 0 rfl rfl 5 (by decide) (hts _ u_381) (fun _ h9 => h9) rfl d_Num_copy_42 ?_
  refine va_put (D := D) (ci := 11) (v := .long n6) (ty := .long) (C := "FilterGuard$Num") (T := F_Num) (N := 6) hx hb hts i_Num t_Num t_Num_ok n_Num hown hK hP hD hS 0 rfl rfl 5 (by decide) (hts _ u_381) (fun _ h9 => h9) rfl (by decide +kernel) rfl rfl (Nat.le_of_ble_eq_true rfl) d_Num_copy_45 (fun H locs hP hD hS => ?_)
  have hP : va_P D classes [(h0, .inr (11, [.long n1, .long n2, .long n3, .long n4, .long n5, .long n6]))] H := hP
  have hD : va_D A [(h0, .inr (11, [.long n1, .long n2, .long n3, .long n4, .long n5, .long n6]))] := hD
  exact fg_retv () hx hb hr hlocks trivial (hP.sub (ws' := [(h0, .inr (11, [.long n1, .long n2, .long n3, .long n4, .long n5, .long n6]))]) [0] rfl) (hK.sub (tys' := []) [] rfl) (hD.sub (ws' := [(h0, .inr (11, [.long n1, .long n2, .long n3, .long n4, .long n5, .long n6]))]) [0] (by decide) rfl) hS (Nat.le_of_ble_eq_true rfl) (Nat.le_of_ble_eq_true rfl) d_Num_copy_48
abbrev y_Cell_clear : MethodName := ⟨"FilterGuard$Cell", "clear", "()V"⟩
theorem d_Cell_clear_0 : decode prog_2_method_2_code 0 = .ok (.aload_n 0, 1) := by decide +kernel
theorem d_Cell_clear_1 : decode prog_2_method_2_code 1 = .ok (.iconst 0, 1) := by decide +kernel
theorem d_Cell_clear_2 : decode prog_2_method_2_code 2 = .ok (.putfield 18, 3) := by decide +kernel
theorem u_420 : Cond.fieldLink "FilterGuard$Cell" 18 "FilterGuard$Cell" "kind" "I" ∈ fg_g := fg_in (List.mem_of_getElem? (i := 420) (by decide +kernel)) rfl
theorem d_Cell_clear_5 : decode prog_2_method_2_code 5 = .ok (.aload_n 0, 1) := by decide +kernel
theorem d_Cell_clear_6 : decode prog_2_method_2_code 6 = .ok (.iconst 0, 1) := by decide +kernel
theorem d_Cell_clear_7 : decode prog_2_method_2_code 7 = .ok (.putfield 22, 3) := by decide +kernel
theorem u_433 : Cond.fieldLink "FilterGuard$Cell" 22 "FilterGuard$Cell" "written" "I" ∈ fg_g := fg_in (List.mem_of_getElem? (i := 433) (by decide +kernel)) rfl
theorem d_Cell_clear_10 : decode prog_2_method_2_code 10 = .ok (.return_, 1) := by decide +kernel
def rm_Cell_clear : Room := { frames := 1, cells := 0, slots := 0, locals := 20 }
abbrev q_Cell_clear (D : va_G) (h0 : Nat) (h2 : Nat) (k1 : Int32) (k2 : Int32) (k3 : Int32) (k4 : Int32) (k5 : Int32) (k6 : Int32) (A : Nat → Prop) : Array Value → Jvm.State → Outcome → Jvm.State → Prop := va_Qv (fun (_ : Unit) => True) (fg_B D A (fun (_ : Unit) => [(h0, .inr (10, [.int 0, .int k2, .int k3, .int k4, .int k5, .int 0, .ref h2]))]) (fun (_ : Unit) => [])) A
set_option maxHeartbeats 4000000 in
set_option maxRecDepth 100000 in
theorem c_Cell_clear (l : Launch) (D : va_G) (h0 : Nat) (h2 : Nat) (k1 : Int32) (k2 : Int32) (k3 : Int32) (k4 : Int32) (k5 : Int32) (k6 : Int32) (sz : Nat) : Met l y_Cell_clear (fg_w y_Cell_clear prog_2_method_2_code 1 none) rm_Cell_clear (va_Pc [.ref h0] (fg_P D [] [(h0, .inr (10, [.int k1, .int k2, .int k3, .int k4, .int k5, .int k6, .ref h2]))] sz)) (q_Cell_clear D h0 h2 k1 k2 k3 k4 k5 k6 (va_A [(h0, .inr (10, [.int k1, .int k2, .int k3, .int k4, .int k5, .int k6, .ref h2]))] sz)) rm_Cell_clear.cells rm_Cell_clear.slots (va_A [(h0, .inr (10, [.int k1, .int k2, .int k3, .int k4, .int k5, .int k6, .ref h2]))] sz) := by
  refine fg_enter (fun A => q_Cell_clear D h0 h2 k1 k2 k3 k4 k5 k6 A) (by decide +kernel) (Nat.le_of_ble_eq_true rfl) ?_
  intro p e s m below meth c ls A hx hb hml hown hts hr hlocks hin hP hK hD hS hA hX hl
  have hl : lv_has ls 1 [(0, .ref h0)] := hl
  refine lv_aload_n hx hb d_Cell_clear_0 rfl (lv_at hl 0 rfl) ?_
  refine lv_iconst (v := 0) hx hb d_Cell_clear_1 (by decide) ?_
  refine va_put (D := D) (ci := 10) (v := .int 0) (ty := .int) (C := "FilterGuard$Cell") (T := F_Cell) (N := 7) hx hb hts i_Cell t_Cell t_Cell_ok n_Cell hown hK hP hD hS 0 rfl rfl 0 (by decide) (hts _ u_420) (fun _ h9 => h9) rfl (by decide +kernel) rfl rfl (Nat.le_of_ble_eq_true rfl) d_Cell_clear_2 (fun H locs hP hD hS => ?_)
  have hP : va_P D classes [(h0, .inr (10, [.int 0, .int k2, .int k3, .int k4, .int k5, .int k6, .ref h2]))] H := hP
  have hD : va_D A [(h0, .inr (10, [.int 0, .int k2, .int k3, .int k4, .int k5, .int k6, .ref h2]))] := hD
  refine lv_aload_n hx hb d_Cell_clear_5 rfl (lv_at hl 0 rfl) ?_
  refine lv_iconst (v := 0) hx hb d_Cell_clear_6 (by decide) ?_
  refine va_put (D := D) (ci := 10) (v := .int 0) (ty := .int) (C := "FilterGuard$Cell") (T := F_Cell) (N := 7) hx hb hts i_Cell t_Cell t_Cell_ok n_Cell hown hK hP hD hS 0 rfl rfl 5 (by decide) (hts _ u_433) (fun _ h9 => h9) rfl (by decide +kernel) rfl rfl (Nat.le_of_ble_eq_true rfl) d_Cell_clear_7 (fun H locs hP hD hS => ?_)
  have hP : va_P D classes [(h0, .inr (10, [.int 0, .int k2, .int k3, .int k4, .int k5, .int 0, .ref h2]))] H := hP
  have hD : va_D A [(h0, .inr (10, [.int 0, .int k2, .int k3, .int k4, .int k5, .int 0, .ref h2]))] := hD
  exact fg_retv () hx hb hr hlocks trivial (hP.sub (ws' := [(h0, .inr (10, [.int 0, .int k2, .int k3, .int k4, .int k5, .int 0, .ref h2]))]) [0] rfl) (hK.sub (tys' := []) [] rfl) (hD.sub (ws' := [(h0, .inr (10, [.int 0, .int k2, .int k3, .int k4, .int k5, .int 0, .ref h2]))]) [0] (by decide) rfl) hS (Nat.le_of_ble_eq_true rfl) (Nat.le_of_ble_eq_true rfl) d_Cell_clear_10
abbrev y_Cell_copy : MethodName := ⟨"FilterGuard$Cell", "copy", "(LFilterGuard$Cell;)V"⟩
theorem d_Cell_copy_0 : decode prog_2_method_3_code 0 = .ok (.aload_n 0, 1) := by decide +kernel
theorem d_Cell_copy_1 : decode prog_2_method_3_code 1 = .ok (.aload_n 1, 1) := by decide +kernel
theorem d_Cell_copy_2 : decode prog_2_method_3_code 2 = .ok (.getfield 18, 3) := by decide +kernel
theorem d_Cell_copy_5 : decode prog_2_method_3_code 5 = .ok (.putfield 18, 3) := by decide +kernel
theorem d_Cell_copy_8 : decode prog_2_method_3_code 8 = .ok (.aload_n 0, 1) := by decide +kernel
theorem d_Cell_copy_9 : decode prog_2_method_3_code 9 = .ok (.aload_n 1, 1) := by decide +kernel
theorem d_Cell_copy_10 : decode prog_2_method_3_code 10 = .ok (.getfield 22, 3) := by decide +kernel
theorem d_Cell_copy_13 : decode prog_2_method_3_code 13 = .ok (.putfield 22, 3) := by decide +kernel
theorem d_Cell_copy_16 : decode prog_2_method_3_code 16 = .ok (.aload_n 0, 1) := by decide +kernel
theorem d_Cell_copy_17 : decode prog_2_method_3_code 17 = .ok (.getfield 18, 3) := by decide +kernel
theorem d_Cell_copy_20 : decode prog_2_method_3_code 20 = .ok (.ifCond .ne 4, 3) := by decide +kernel
theorem d_Cell_copy_24 : decode prog_2_method_3_code 24 = .ok (.aload_n 0, 1) := by decide +kernel
theorem d_Cell_copy_25 : decode prog_2_method_3_code 25 = .ok (.aload_n 1, 1) := by decide +kernel
theorem d_Cell_copy_26 : decode prog_2_method_3_code 26 = .ok (.getfield 25, 3) := by decide +kernel
theorem u_424 : Cond.fieldLink "FilterGuard$Cell" 25 "FilterGuard$Cell" "place" "I" ∈ fg_g := fg_in (List.mem_of_getElem? (i := 424) (by decide +kernel)) rfl
theorem d_Cell_copy_29 : decode prog_2_method_3_code 29 = .ok (.putfield 25, 3) := by decide +kernel
theorem d_Cell_copy_32 : decode prog_2_method_3_code 32 = .ok (.aload_n 0, 1) := by decide +kernel
theorem d_Cell_copy_33 : decode prog_2_method_3_code 33 = .ok (.aload_n 1, 1) := by decide +kernel
theorem d_Cell_copy_34 : decode prog_2_method_3_code 34 = .ok (.getfield 28, 3) := by decide +kernel
theorem u_426 : Cond.fieldLink "FilterGuard$Cell" 28 "FilterGuard$Cell" "mapNumber" "I" ∈ fg_g := fg_in (List.mem_of_getElem? (i := 426) (by decide +kernel)) rfl
theorem d_Cell_copy_37 : decode prog_2_method_3_code 37 = .ok (.putfield 28, 3) := by decide +kernel
theorem d_Cell_copy_40 : decode prog_2_method_3_code 40 = .ok (.aload_n 0, 1) := by decide +kernel
theorem d_Cell_copy_41 : decode prog_2_method_3_code 41 = .ok (.aload_n 1, 1) := by decide +kernel
theorem d_Cell_copy_42 : decode prog_2_method_3_code 42 = .ok (.getfield 31, 3) := by decide +kernel
theorem u_428 : Cond.fieldLink "FilterGuard$Cell" 31 "FilterGuard$Cell" "identity" "I" ∈ fg_g := fg_in (List.mem_of_getElem? (i := 428) (by decide +kernel)) rfl
theorem d_Cell_copy_45 : decode prog_2_method_3_code 45 = .ok (.putfield 31, 3) := by decide +kernel
theorem d_Cell_copy_48 : decode prog_2_method_3_code 48 = .ok (.aload_n 0, 1) := by decide +kernel
theorem d_Cell_copy_49 : decode prog_2_method_3_code 49 = .ok (.aload_n 1, 1) := by decide +kernel
theorem d_Cell_copy_50 : decode prog_2_method_3_code 50 = .ok (.getfield 34, 3) := by decide +kernel
theorem u_431 : Cond.fieldLink "FilterGuard$Cell" 34 "FilterGuard$Cell" "room" "I" ∈ fg_g := fg_in (List.mem_of_getElem? (i := 431) (by decide +kernel)) rfl
theorem d_Cell_copy_53 : decode prog_2_method_3_code 53 = .ok (.putfield 34, 3) := by decide +kernel
theorem d_Cell_copy_56 : decode prog_2_method_3_code 56 = .ok (.aload_n 0, 1) := by decide +kernel
theorem d_Cell_copy_57 : decode prog_2_method_3_code 57 = .ok (.getfield 18, 3) := by decide +kernel
theorem d_Cell_copy_60 : decode prog_2_method_3_code 60 = .ok (.iconst 1, 1) := by decide +kernel
theorem d_Cell_copy_61 : decode prog_2_method_3_code 61 = .ok (.if_icmp .eq 20, 3) := by decide +kernel
theorem d_Cell_copy_81 : decode prog_2_method_3_code 81 = .ok (.aload_n 0, 1) := by decide +kernel
theorem d_Cell_copy_82 : decode prog_2_method_3_code 82 = .ok (.getfield 12, 3) := by decide +kernel
theorem d_Cell_copy_85 : decode prog_2_method_3_code 85 = .ok (.aload_n 1, 1) := by decide +kernel
theorem d_Cell_copy_86 : decode prog_2_method_3_code 86 = .ok (.getfield 12, 3) := by decide +kernel
theorem d_Cell_copy_89 : decode prog_2_method_3_code 89 = .ok (.invokevirtual 37, 3) := by decide +kernel
theorem u_1082 : Cond.methodLink "FilterGuard$Cell" 37 ⟨"FilterGuard$Num", "copy", "(LFilterGuard$Num;)V"⟩ ∈ fg_g := fg_in (List.mem_of_getElem? (i := 1082) (by decide +kernel)) rfl
theorem d_Cell_copy_92 : decode prog_2_method_3_code 92 = .ok (.return_, 1) := by decide +kernel
theorem d_Cell_copy_64 : decode prog_2_method_3_code 64 = .ok (.aload_n 0, 1) := by decide +kernel
theorem d_Cell_copy_65 : decode prog_2_method_3_code 65 = .ok (.getfield 18, 3) := by decide +kernel
theorem d_Cell_copy_68 : decode prog_2_method_3_code 68 = .ok (.iconst 4, 1) := by decide +kernel
theorem d_Cell_copy_69 : decode prog_2_method_3_code 69 = .ok (.if_icmp .eq 12, 3) := by decide +kernel
theorem d_Cell_copy_72 : decode prog_2_method_3_code 72 = .ok (.aload_n 0, 1) := by decide +kernel
theorem d_Cell_copy_73 : decode prog_2_method_3_code 73 = .ok (.getfield 18, 3) := by decide +kernel
theorem d_Cell_copy_76 : decode prog_2_method_3_code 76 = .ok (.bipush 7, 2) := by decide +kernel
theorem d_Cell_copy_78 : decode prog_2_method_3_code 78 = .ok (.if_icmp .ne 14, 3) := by decide +kernel
theorem d_Cell_copy_23 : decode prog_2_method_3_code 23 = .ok (.return_, 1) := by decide +kernel
def rm_Cell_copy : Room := { frames := 2, cells := 0, slots := 0, locals := 60 }
abbrev q_Cell_copy (D : va_G) (h0 : Nat) (h2 : Nat) (k1 : Int32) (k2 : Int32) (k3 : Int32) (k4 : Int32) (k5 : Int32) (k6 : Int32) (n1 : Int64) (n2 : Int64) (n3 : Int64) (n4 : Int64) (n5 : Int64) (n6 : Int64) (h1 : Nat) (h3 : Nat) (l1 : Int32) (l2 : Int32) (l3 : Int32) (l4 : Int32) (l5 : Int32) (l6 : Int32) (o1 : Int64) (o2 : Int64) (o3 : Int64) (o4 : Int64) (o5 : Int64) (o6 : Int64) (A : Nat → Prop) : Array Value → Jvm.State → Outcome → Jvm.State → Prop := va_Qv (fun (u : Int32 × Int32 × Int32 × Int32 × Int64 × Int64 × Int64 × Int64 × Int64 × Int64) => fc_cp k2 l1 l2 = u.1 ∧ fc_cp k3 l1 l3 = u.2.1 ∧ fc_cp k4 l1 l4 = u.2.2.1 ∧ fc_cp k5 l1 l5 = u.2.2.2.1 ∧ fc_cpn (n1, n2, n3, n4, n5, n6) (o1, o2, o3, o4, o5, o6) l1 = (u.2.2.2.2.1, u.2.2.2.2.2.1, u.2.2.2.2.2.2.1, u.2.2.2.2.2.2.2.1, u.2.2.2.2.2.2.2.2.1, u.2.2.2.2.2.2.2.2.2)) (fg_B D A (fun (u : Int32 × Int32 × Int32 × Int32 × Int64 × Int64 × Int64 × Int64 × Int64 × Int64) => [(h0, .inr (10, [.int l1, .int u.1, .int u.2.1, .int u.2.2.1, .int u.2.2.2.1, .int l6, .ref h2])), (h2, .inr (11, [.long u.2.2.2.2.1, .long u.2.2.2.2.2.1, .long u.2.2.2.2.2.2.1, .long u.2.2.2.2.2.2.2.1, .long u.2.2.2.2.2.2.2.2.1, .long u.2.2.2.2.2.2.2.2.2])), (h1, .inr (10, [.int l1, .int l2, .int l3, .int l4, .int l5, .int l6, .ref h3])), (h3, .inr (11, [.long o1, .long o2, .long o3, .long o4, .long o5, .long o6]))]) (fun (u : Int32 × Int32 × Int32 × Int32 × Int64 × Int64 × Int64 × Int64 × Int64 × Int64) => [])) A
set_option maxHeartbeats 4000000 in
set_option maxRecDepth 100000 in
theorem c_Cell_copy (l : Launch) (D : va_G) (h0 : Nat) (h2 : Nat) (k1 : Int32) (k2 : Int32) (k3 : Int32) (k4 : Int32) (k5 : Int32) (k6 : Int32) (n1 : Int64) (n2 : Int64) (n3 : Int64) (n4 : Int64) (n5 : Int64) (n6 : Int64) (h1 : Nat) (h3 : Nat) (l1 : Int32) (l2 : Int32) (l3 : Int32) (l4 : Int32) (l5 : Int32) (l6 : Int32) (o1 : Int64) (o2 : Int64) (o3 : Int64) (o4 : Int64) (o5 : Int64) (o6 : Int64) (sz : Nat) : Met l y_Cell_copy (fg_w y_Cell_copy prog_2_method_3_code 2 none) rm_Cell_copy (va_Pc [.ref h0, .ref h1] (fg_P D [] [(h0, .inr (10, [.int k1, .int k2, .int k3, .int k4, .int k5, .int k6, .ref h2])), (h2, .inr (11, [.long n1, .long n2, .long n3, .long n4, .long n5, .long n6])), (h1, .inr (10, [.int l1, .int l2, .int l3, .int l4, .int l5, .int l6, .ref h3])), (h3, .inr (11, [.long o1, .long o2, .long o3, .long o4, .long o5, .long o6]))] sz)) (q_Cell_copy D h0 h2 k1 k2 k3 k4 k5 k6 n1 n2 n3 n4 n5 n6 h1 h3 l1 l2 l3 l4 l5 l6 o1 o2 o3 o4 o5 o6 (va_A [(h0, .inr (10, [.int k1, .int k2, .int k3, .int k4, .int k5, .int k6, .ref h2])), (h2, .inr (11, [.long n1, .long n2, .long n3, .long n4, .long n5, .long n6])), (h1, .inr (10, [.int l1, .int l2, .int l3, .int l4, .int l5, .int l6, .ref h3])), (h3, .inr (11, [.long o1, .long o2, .long o3, .long o4, .long o5, .long o6]))] sz)) rm_Cell_copy.cells rm_Cell_copy.slots (va_A [(h0, .inr (10, [.int k1, .int k2, .int k3, .int k4, .int k5, .int k6, .ref h2])), (h2, .inr (11, [.long n1, .long n2, .long n3, .long n4, .long n5, .long n6])), (h1, .inr (10, [.int l1, .int l2, .int l3, .int l4, .int l5, .int l6, .ref h3])), (h3, .inr (11, [.long o1, .long o2, .long o3, .long o4, .long o5, .long o6]))] sz) := by
  refine fg_enter (fun A => q_Cell_copy D h0 h2 k1 k2 k3 k4 k5 k6 n1 n2 n3 n4 n5 n6 h1 h3 l1 l2 l3 l4 l5 l6 o1 o2 o3 o4 o5 o6 A) (by decide +kernel) (Nat.le_of_ble_eq_true rfl) ?_
  intro p e s m below meth c ls A hx hb hml hown hts hr hlocks hin hP hK hD hS hA hX hl
  have hl : lv_has ls 2 [(0, .ref h0), (1, .ref h1)] := hl
  refine lv_aload_n hx hb d_Cell_copy_0 rfl (lv_at hl 0 rfl) ?_
  refine lv_aload_n hx hb d_Cell_copy_1 rfl (lv_at hl 1 rfl) ?_
  refine va_get (D := D) (ci := 10) (v := .int l1) (C := "FilterGuard$Cell") (T := F_Cell) (N := 7) hx hb hts i_Cell hown hK hP 2 rfl rfl 0 (by decide) (hts _ u_420) (fun _ h9 => h9) rfl d_Cell_copy_2 ?_
  refine va_put (D := D) (ci := 10) (v := .int l1) (ty := .int) (C := "FilterGuard$Cell") (T := F_Cell) (N := 7) hx hb hts i_Cell t_Cell t_Cell_ok n_Cell hown hK hP hD hS 0 rfl rfl 0 (by decide) (hts _ u_420) (fun _ h9 => h9) rfl (by decide +kernel) rfl rfl (Nat.le_of_ble_eq_true rfl) d_Cell_copy_5 (fun H locs hP hD hS => ?_)
  have hP : va_P D classes [(h0, .inr (10, [.int l1, .int k2, .int k3, .int k4, .int k5, .int k6, .ref h2])), (h2, .inr (11, [.long n1, .long n2, .long n3, .long n4, .long n5, .long n6])), (h1, .inr (10, [.int l1, .int l2, .int l3, .int l4, .int l5, .int l6, .ref h3])), (h3, .inr (11, [.long o1, .long o2, .long o3, .long o4, .long o5, .long o6]))] H := hP
  have hD : va_D A [(h0, .inr (10, [.int l1, .int k2, .int k3, .int k4, .int k5, .int k6, .ref h2])), (h2, .inr (11, [.long n1, .long n2, .long n3, .long n4, .long n5, .long n6])), (h1, .inr (10, [.int l1, .int l2, .int l3, .int l4, .int l5, .int l6, .ref h3])), (h3, .inr (11, [.long o1, .long o2, .long o3, .long o4, .long o5, .long o6]))] := hD
  refine lv_aload_n hx hb d_Cell_copy_8 rfl (lv_at hl 0 rfl) ?_
  refine lv_aload_n hx hb d_Cell_copy_9 rfl (lv_at hl 1 rfl) ?_
  refine va_get (D := D) (ci := 10) (v := .int l6) (C := "FilterGuard$Cell") (T := F_Cell) (N := 7) hx hb hts i_Cell hown hK hP 2 rfl rfl 5 (by decide) (hts _ u_433) (fun _ h9 => h9) rfl d_Cell_copy_10 ?_
  refine va_put (D := D) (ci := 10) (v := .int l6) (ty := .int) (C := "FilterGuard$Cell") (T := F_Cell) (N := 7) hx hb hts i_Cell t_Cell t_Cell_ok n_Cell hown hK hP hD hS 0 rfl rfl 5 (by decide) (hts _ u_433) (fun _ h9 => h9) rfl (by decide +kernel) rfl rfl (Nat.le_of_ble_eq_true rfl) d_Cell_copy_13 (fun H locs hP hD hS => ?_)
  have hP : va_P D classes [(h0, .inr (10, [.int l1, .int k2, .int k3, .int k4, .int k5, .int l6, .ref h2])), (h2, .inr (11, [.long n1, .long n2, .long n3, .long n4, .long n5, .long n6])), (h1, .inr (10, [.int l1, .int l2, .int l3, .int l4, .int l5, .int l6, .ref h3])), (h3, .inr (11, [.long o1, .long o2, .long o3, .long o4, .long o5, .long o6]))] H := hP
  have hD : va_D A [(h0, .inr (10, [.int l1, .int k2, .int k3, .int k4, .int k5, .int l6, .ref h2])), (h2, .inr (11, [.long n1, .long n2, .long n3, .long n4, .long n5, .long n6])), (h1, .inr (10, [.int l1, .int l2, .int l3, .int l4, .int l5, .int l6, .ref h3])), (h3, .inr (11, [.long o1, .long o2, .long o3, .long o4, .long o5, .long o6]))] := hD
  refine lv_aload_n hx hb d_Cell_copy_16 rfl (lv_at hl 0 rfl) ?_
  refine va_get (D := D) (ci := 10) (v := .int l1) (C := "FilterGuard$Cell") (T := F_Cell) (N := 7) hx hb hts i_Cell hown hK hP 0 rfl rfl 0 (by decide) (hts _ u_420) (fun _ h9 => h9) rfl d_Cell_copy_17 ?_
  refine lv_if_ne (tgt := 24) hx hb d_Cell_copy_20 (by decide) (fun c_1 => ?_) (fun c_1 => ?_)
  · refine lv_aload_n hx hb d_Cell_copy_24 rfl (lv_at hl 0 rfl) ?_
    refine lv_aload_n hx hb d_Cell_copy_25 rfl (lv_at hl 1 rfl) ?_
    refine va_get (D := D) (ci := 10) (v := .int l2) (C := "FilterGuard$Cell") (T := F_Cell) (N := 7) hx hb hts i_Cell hown hK hP 2 rfl rfl 1 (by decide) (hts _ u_424) (fun _ h9 => h9) rfl d_Cell_copy_26 ?_
    refine va_put (D := D) (ci := 10) (v := .int l2) (ty := .int) (C := "FilterGuard$Cell") (T := F_Cell) (N := 7) hx hb hts i_Cell t_Cell t_Cell_ok n_Cell hown hK hP hD hS 0 rfl rfl 1 (by decide) (hts _ u_424) (fun _ h9 => h9) rfl (by decide +kernel) rfl rfl (Nat.le_of_ble_eq_true rfl) d_Cell_copy_29 (fun H locs hP hD hS => ?_)
    have hP : va_P D classes [(h0, .inr (10, [.int l1, .int l2, .int k3, .int k4, .int k5, .int l6, .ref h2])), (h2, .inr (11, [.long n1, .long n2, .long n3, .long n4, .long n5, .long n6])), (h1, .inr (10, [.int l1, .int l2, .int l3, .int l4, .int l5, .int l6, .ref h3])), (h3, .inr (11, [.long o1, .long o2, .long o3, .long o4, .long o5, .long o6]))] H := hP
    have hD : va_D A [(h0, .inr (10, [.int l1, .int l2, .int k3, .int k4, .int k5, .int l6, .ref h2])), (h2, .inr (11, [.long n1, .long n2, .long n3, .long n4, .long n5, .long n6])), (h1, .inr (10, [.int l1, .int l2, .int l3, .int l4, .int l5, .int l6, .ref h3])), (h3, .inr (11, [.long o1, .long o2, .long o3, .long o4, .long o5, .long o6]))] := hD
    refine lv_aload_n hx hb d_Cell_copy_32 rfl (lv_at hl 0 rfl) ?_
    refine lv_aload_n hx hb d_Cell_copy_33 rfl (lv_at hl 1 rfl) ?_
    refine va_get (D := D) (ci := 10) (v := .int l3) (C := "FilterGuard$Cell") (T := F_Cell) (N := 7) hx hb hts i_Cell hown hK hP 2 rfl rfl 2 (by decide) (hts _ u_426) (fun _ h9 => h9) rfl d_Cell_copy_34 ?_
    refine va_put (D := D) (ci := 10) (v := .int l3) (ty := .int) (C := "FilterGuard$Cell") (T := F_Cell) (N := 7) hx hb hts i_Cell t_Cell t_Cell_ok n_Cell hown hK hP hD hS 0 rfl rfl 2 (by decide) (hts _ u_426) (fun _ h9 => h9) rfl (by decide +kernel) rfl rfl (Nat.le_of_ble_eq_true rfl) d_Cell_copy_37 (fun H locs hP hD hS => ?_)
    have hP : va_P D classes [(h0, .inr (10, [.int l1, .int l2, .int l3, .int k4, .int k5, .int l6, .ref h2])), (h2, .inr (11, [.long n1, .long n2, .long n3, .long n4, .long n5, .long n6])), (h1, .inr (10, [.int l1, .int l2, .int l3, .int l4, .int l5, .int l6, .ref h3])), (h3, .inr (11, [.long o1, .long o2, .long o3, .long o4, .long o5, .long o6]))] H := hP
    have hD : va_D A [(h0, .inr (10, [.int l1, .int l2, .int l3, .int k4, .int k5, .int l6, .ref h2])), (h2, .inr (11, [.long n1, .long n2, .long n3, .long n4, .long n5, .long n6])), (h1, .inr (10, [.int l1, .int l2, .int l3, .int l4, .int l5, .int l6, .ref h3])), (h3, .inr (11, [.long o1, .long o2, .long o3, .long o4, .long o5, .long o6]))] := hD
    refine lv_aload_n hx hb d_Cell_copy_40 rfl (lv_at hl 0 rfl) ?_
    refine lv_aload_n hx hb d_Cell_copy_41 rfl (lv_at hl 1 rfl) ?_
    refine va_get (D := D) (ci := 10) (v := .int l4) (C := "FilterGuard$Cell") (T := F_Cell) (N := 7) hx hb hts i_Cell hown hK hP 2 rfl rfl 3 (by decide) (hts _ u_428) (fun _ h9 => h9) rfl d_Cell_copy_42 ?_
    refine va_put (D := D) (ci := 10) (v := .int l4) (ty := .int) (C := "FilterGuard$Cell") (T := F_Cell) (N := 7) hx hb hts i_Cell t_Cell t_Cell_ok n_Cell hown hK hP hD hS 0 rfl rfl 3 (by decide) (hts _ u_428) (fun _ h9 => h9) rfl (by decide +kernel) rfl rfl (Nat.le_of_ble_eq_true rfl) d_Cell_copy_45 (fun H locs hP hD hS => ?_)
    have hP : va_P D classes [(h0, .inr (10, [.int l1, .int l2, .int l3, .int l4, .int k5, .int l6, .ref h2])), (h2, .inr (11, [.long n1, .long n2, .long n3, .long n4, .long n5, .long n6])), (h1, .inr (10, [.int l1, .int l2, .int l3, .int l4, .int l5, .int l6, .ref h3])), (h3, .inr (11, [.long o1, .long o2, .long o3, .long o4, .long o5, .long o6]))] H := hP
    have hD : va_D A [(h0, .inr (10, [.int l1, .int l2, .int l3, .int l4, .int k5, .int l6, .ref h2])), (h2, .inr (11, [.long n1, .long n2, .long n3, .long n4, .long n5, .long n6])), (h1, .inr (10, [.int l1, .int l2, .int l3, .int l4, .int l5, .int l6, .ref h3])), (h3, .inr (11, [.long o1, .long o2, .long o3, .long o4, .long o5, .long o6]))] := hD
    refine lv_aload_n hx hb d_Cell_copy_48 rfl (lv_at hl 0 rfl) ?_
    refine lv_aload_n hx hb d_Cell_copy_49 rfl (lv_at hl 1 rfl) ?_
    refine va_get (D := D) (ci := 10) (v := .int l5) (C := "FilterGuard$Cell") (T := F_Cell) (N := 7) hx hb hts i_Cell hown hK hP 2 rfl rfl 4 (by decide) (hts _ u_431) (fun _ h9 => h9) rfl d_Cell_copy_50 ?_
    refine va_put (D := D) (ci := 10) (v := .int l5) (ty := .int) (C := "FilterGuard$Cell") (T := F_Cell) (N := 7) hx hb hts i_Cell t_Cell t_Cell_ok n_Cell hown hK hP hD hS 0 rfl rfl 4 (by decide) (hts _ u_431) (fun _ h9 => h9) rfl (by decide +kernel) rfl rfl (Nat.le_of_ble_eq_true rfl) d_Cell_copy_53 (fun H locs hP hD hS => ?_)
    have hP : va_P D classes [(h0, .inr (10, [.int l1, .int l2, .int l3, .int l4, .int l5, .int l6, .ref h2])), (h2, .inr (11, [.long n1, .long n2, .long n3, .long n4, .long n5, .long n6])), (h1, .inr (10, [.int l1, .int l2, .int l3, .int l4, .int l5, .int l6, .ref h3])), (h3, .inr (11, [.long o1, .long o2, .long o3, .long o4, .long o5, .long o6]))] H := hP
    have hD : va_D A [(h0, .inr (10, [.int l1, .int l2, .int l3, .int l4, .int l5, .int l6, .ref h2])), (h2, .inr (11, [.long n1, .long n2, .long n3, .long n4, .long n5, .long n6])), (h1, .inr (10, [.int l1, .int l2, .int l3, .int l4, .int l5, .int l6, .ref h3])), (h3, .inr (11, [.long o1, .long o2, .long o3, .long o4, .long o5, .long o6]))] := hD
    refine lv_aload_n hx hb d_Cell_copy_56 rfl (lv_at hl 0 rfl) ?_
    refine va_get (D := D) (ci := 10) (v := .int l1) (C := "FilterGuard$Cell") (T := F_Cell) (N := 7) hx hb hts i_Cell hown hK hP 0 rfl rfl 0 (by decide) (hts _ u_420) (fun _ h9 => h9) rfl d_Cell_copy_57 ?_
    refine lv_iconst (v := 1) hx hb d_Cell_copy_60 (by decide) ?_
    refine lv_icmp_eq (tgt := 81) hx hb d_Cell_copy_61 (by decide) (fun c_2 => ?_) (fun c_2 => ?_)
    · refine lv_aload_n hx hb d_Cell_copy_81 rfl (lv_at hl 0 rfl) ?_
      refine va_get (D := D) (ci := 10) (v := .ref h2) (C := "FilterGuard$Cell") (T := F_Cell) (N := 7) hx hb hts i_Cell hown hK hP 0 rfl rfl 6 (by decide) (hts _ u_435) (fun _ h9 => h9) rfl d_Cell_copy_82 ?_
      refine lv_aload_n hx hb d_Cell_copy_85 rfl (lv_at hl 1 rfl) ?_
      refine va_get (D := D) (ci := 10) (v := .ref h3) (C := "FilterGuard$Cell") (T := F_Cell) (N := 7) hx hb hts i_Cell hown hK hP 2 rfl rfl 6 (by decide) (hts _ u_435) (fun _ h9 => h9) rfl d_Cell_copy_86 ?_
      refine fg_thenv (wr := [(h0, .inr (10, [.int l1, .int l2, .int l3, .int l4, .int l5, .int l6, .ref h2])), (h1, .inr (10, [.int l1, .int l2, .int l3, .int l4, .int l5, .int l6, .ref h3]))]) (fg_runV (C := "FilterGuard$Num") (As := [.ref h3]) (rest := []) (ci := 11) (q0 := 0) ⟨hx, hb, hml, hown, hts⟩ (c_Num_copy l D h2 n1 n2 n3 n4 n5 n6 h3 o1 o2 o3 o4 o5 o6 H.size) rfl (by show fg_nm y_Num_copy 1; decide +kernel) u_1082 u_1083 u_1084 u_187 u_1085 ⟨Nat.le_of_ble_eq_true rfl, Nat.le_of_ble_eq_true rfl⟩ hX (hP.sub (ws' := [(h2, .inr (11, [.long n1, .long n2, .long n3, .long n4, .long n5, .long n6])), (h3, .inr (11, [.long o1, .long o2, .long o3, .long o4, .long o5, .long o6]))]) [1, 3] rfl) (hK.sub (tys' := []) [] rfl) (hD.sub (ws' := [(h2, .inr (11, [.long n1, .long n2, .long n3, .long n4, .long n5, .long n6])), (h3, .inr (11, [.long o1, .long o2, .long o3, .long o4, .long o5, .long o6]))]) [1, 3] (by decide) rfl) rfl rfl rfl rfl hl.1 (Nat.le_of_ble_eq_true rfl) d_Cell_copy_89 ⟨(Nat.le_of_ble_eq_true rfl), (Nat.le_of_ble_eq_true rfl)⟩) hP hD hK hS hA [1, 3] [0, 2] rfl rfl (by decide) (by decide) (fun  u H locs hw89_2 hP hD hK hS => ?_)
      try dsimp only at hw89_2
      have hP : va_P D classes [(h0, .inr (10, [.int l1, .int l2, .int l3, .int l4, .int l5, .int l6, .ref h2])), (h1, .inr (10, [.int l1, .int l2, .int l3, .int l4, .int l5, .int l6, .ref h3])), (h2, .inr (11, [.long o1, .long o2, .long o3, .long o4, .long o5, .long o6])), (h3, .inr (11, [.long o1, .long o2, .long o3, .long o4, .long o5, .long o6]))] H := hP
      have hD : va_D A [(h0, .inr (10, [.int l1, .int l2, .int l3, .int l4, .int l5, .int l6, .ref h2])), (h1, .inr (10, [.int l1, .int l2, .int l3, .int l4, .int l5, .int l6, .ref h3])), (h2, .inr (11, [.long o1, .long o2, .long o3, .long o4, .long o5, .long o6])), (h3, .inr (11, [.long o1, .long o2, .long o3, .long o4, .long o5, .long o6]))] := hD
      have hK : va_K D classes [] s := hK
      refine W.widen (k := 0) (n := 0) (Nat.le_of_ble_eq_true rfl) (Nat.le_of_ble_eq_true rfl) ?_
      exact fg_retv (l2, l3, l4, l5, o1, o2, o3, o4, o5, o6) hx hb hr hlocks ⟨(by unfold fc_cp; rw [if_neg c_1]), (by unfold fc_cp; rw [if_neg c_1]), (by unfold fc_cp; rw [if_neg c_1]), (by unfold fc_cp; rw [if_neg c_1]), (by unfold fc_cpn; rw [if_neg c_1, if_pos (Or.inl c_2)])⟩ (hP.sub (ws' := [(h0, .inr (10, [.int l1, .int l2, .int l3, .int l4, .int l5, .int l6, .ref h2])), (h2, .inr (11, [.long o1, .long o2, .long o3, .long o4, .long o5, .long o6])), (h1, .inr (10, [.int l1, .int l2, .int l3, .int l4, .int l5, .int l6, .ref h3])), (h3, .inr (11, [.long o1, .long o2, .long o3, .long o4, .long o5, .long o6]))]) [0, 2, 1, 3] rfl) (hK.sub (tys' := []) [] rfl) (hD.sub (ws' := [(h0, .inr (10, [.int l1, .int l2, .int l3, .int l4, .int l5, .int l6, .ref h2])), (h2, .inr (11, [.long o1, .long o2, .long o3, .long o4, .long o5, .long o6])), (h1, .inr (10, [.int l1, .int l2, .int l3, .int l4, .int l5, .int l6, .ref h3])), (h3, .inr (11, [.long o1, .long o2, .long o3, .long o4, .long o5, .long o6]))]) [0, 2, 1, 3] (by decide) rfl) hS (Nat.le_of_ble_eq_true rfl) (Nat.le_of_ble_eq_true rfl) d_Cell_copy_92
    · refine lv_aload_n hx hb d_Cell_copy_64 rfl (lv_at hl 0 rfl) ?_
      refine va_get (D := D) (ci := 10) (v := .int l1) (C := "FilterGuard$Cell") (T := F_Cell) (N := 7) hx hb hts i_Cell hown hK hP 0 rfl rfl 0 (by decide) (hts _ u_420) (fun _ h9 => h9) rfl d_Cell_copy_65 ?_
      refine lv_iconst (v := 4) hx hb d_Cell_copy_68 (by decide) ?_
      refine lv_icmp_eq (tgt := 81) hx hb d_Cell_copy_69 (by decide) (fun c_4 => ?_) (fun c_4 => ?_)
      · refine lv_aload_n hx hb d_Cell_copy_81 rfl (lv_at hl 0 rfl) ?_
        refine va_get (D := D) (ci := 10) (v := .ref h2) (C := "FilterGuard$Cell") (T := F_Cell) (N := 7) hx hb hts i_Cell hown hK hP 0 rfl rfl 6 (by decide) (hts _ u_435) (fun _ h9 => h9) rfl d_Cell_copy_82 ?_
        refine lv_aload_n hx hb d_Cell_copy_85 rfl (lv_at hl 1 rfl) ?_
        refine va_get (D := D) (ci := 10) (v := .ref h3) (C := "FilterGuard$Cell") (T := F_Cell) (N := 7) hx hb hts i_Cell hown hK hP 2 rfl rfl 6 (by decide) (hts _ u_435) (fun _ h9 => h9) rfl d_Cell_copy_86 ?_
        refine fg_thenv (wr := [(h0, .inr (10, [.int l1, .int l2, .int l3, .int l4, .int l5, .int l6, .ref h2])), (h1, .inr (10, [.int l1, .int l2, .int l3, .int l4, .int l5, .int l6, .ref h3]))]) (fg_runV (C := "FilterGuard$Num") (As := [.ref h3]) (rest := []) (ci := 11) (q0 := 0) ⟨hx, hb, hml, hown, hts⟩ (c_Num_copy l D h2 n1 n2 n3 n4 n5 n6 h3 o1 o2 o3 o4 o5 o6 H.size) rfl (by show fg_nm y_Num_copy 1; decide +kernel) u_1082 u_1083 u_1084 u_187 u_1085 ⟨Nat.le_of_ble_eq_true rfl, Nat.le_of_ble_eq_true rfl⟩ hX (hP.sub (ws' := [(h2, .inr (11, [.long n1, .long n2, .long n3, .long n4, .long n5, .long n6])), (h3, .inr (11, [.long o1, .long o2, .long o3, .long o4, .long o5, .long o6]))]) [1, 3] rfl) (hK.sub (tys' := []) [] rfl) (hD.sub (ws' := [(h2, .inr (11, [.long n1, .long n2, .long n3, .long n4, .long n5, .long n6])), (h3, .inr (11, [.long o1, .long o2, .long o3, .long o4, .long o5, .long o6]))]) [1, 3] (by decide) rfl) rfl rfl rfl rfl hl.1 (Nat.le_of_ble_eq_true rfl) d_Cell_copy_89 ⟨(Nat.le_of_ble_eq_true rfl), (Nat.le_of_ble_eq_true rfl)⟩) hP hD hK hS hA [1, 3] [0, 2] rfl rfl (by decide) (by decide) (fun  u H locs hw89_4 hP hD hK hS => ?_)
        try dsimp only at hw89_4
        have hP : va_P D classes [(h0, .inr (10, [.int l1, .int l2, .int l3, .int l4, .int l5, .int l6, .ref h2])), (h1, .inr (10, [.int l1, .int l2, .int l3, .int l4, .int l5, .int l6, .ref h3])), (h2, .inr (11, [.long o1, .long o2, .long o3, .long o4, .long o5, .long o6])), (h3, .inr (11, [.long o1, .long o2, .long o3, .long o4, .long o5, .long o6]))] H := hP
        have hD : va_D A [(h0, .inr (10, [.int l1, .int l2, .int l3, .int l4, .int l5, .int l6, .ref h2])), (h1, .inr (10, [.int l1, .int l2, .int l3, .int l4, .int l5, .int l6, .ref h3])), (h2, .inr (11, [.long o1, .long o2, .long o3, .long o4, .long o5, .long o6])), (h3, .inr (11, [.long o1, .long o2, .long o3, .long o4, .long o5, .long o6]))] := hD
        have hK : va_K D classes [] s := hK
        refine W.widen (k := 0) (n := 0) (Nat.le_of_ble_eq_true rfl) (Nat.le_of_ble_eq_true rfl) ?_
        exact fg_retv (l2, l3, l4, l5, o1, o2, o3, o4, o5, o6) hx hb hr hlocks ⟨(by unfold fc_cp; rw [if_neg c_1]), (by unfold fc_cp; rw [if_neg c_1]), (by unfold fc_cp; rw [if_neg c_1]), (by unfold fc_cp; rw [if_neg c_1]), (by unfold fc_cpn; rw [if_neg c_1, if_pos (Or.inr (Or.inl c_4))])⟩ (hP.sub (ws' := [(h0, .inr (10, [.int l1, .int l2, .int l3, .int l4, .int l5, .int l6, .ref h2])), (h2, .inr (11, [.long o1, .long o2, .long o3, .long o4, .long o5, .long o6])), (h1, .inr (10, [.int l1, .int l2, .int l3, .int l4, .int l5, .int l6, .ref h3])), (h3, .inr (11, [.long o1, .long o2, .long o3, .long o4, .long o5, .long o6]))]) [0, 2, 1, 3] rfl) (hK.sub (tys' := []) [] rfl) (hD.sub (ws' := [(h0, .inr (10, [.int l1, .int l2, .int l3, .int l4, .int l5, .int l6, .ref h2])), (h2, .inr (11, [.long o1, .long o2, .long o3, .long o4, .long o5, .long o6])), (h1, .inr (10, [.int l1, .int l2, .int l3, .int l4, .int l5, .int l6, .ref h3])), (h3, .inr (11, [.long o1, .long o2, .long o3, .long o4, .long o5, .long o6]))]) [0, 2, 1, 3] (by decide) rfl) hS (Nat.le_of_ble_eq_true rfl) (Nat.le_of_ble_eq_true rfl) d_Cell_copy_92
      · refine lv_aload_n hx hb d_Cell_copy_72 rfl (lv_at hl 0 rfl) ?_
        refine va_get (D := D) (ci := 10) (v := .int l1) (C := "FilterGuard$Cell") (T := F_Cell) (N := 7) hx hb hts i_Cell hown hK hP 0 rfl rfl 0 (by decide) (hts _ u_420) (fun _ h9 => h9) rfl d_Cell_copy_73 ?_
        refine lv_bipush (v := 7) hx hb d_Cell_copy_76 (by decide) ?_
        refine lv_icmp_ne (tgt := 92) hx hb d_Cell_copy_78 (by decide) (fun c_6 => ?_) (fun c_6 => ?_)
        · exact fg_retv (l2, l3, l4, l5, n1, n2, n3, n4, n5, n6) hx hb hr hlocks ⟨(by unfold fc_cp; rw [if_neg c_1]), (by unfold fc_cp; rw [if_neg c_1]), (by unfold fc_cp; rw [if_neg c_1]), (by unfold fc_cp; rw [if_neg c_1]), (by unfold fc_cpn; rw [if_neg c_1, if_neg (fun z => z.elim c_2 (fun z => z.elim c_4 c_6))])⟩ (hP.sub (ws' := [(h0, .inr (10, [.int l1, .int l2, .int l3, .int l4, .int l5, .int l6, .ref h2])), (h2, .inr (11, [.long n1, .long n2, .long n3, .long n4, .long n5, .long n6])), (h1, .inr (10, [.int l1, .int l2, .int l3, .int l4, .int l5, .int l6, .ref h3])), (h3, .inr (11, [.long o1, .long o2, .long o3, .long o4, .long o5, .long o6]))]) [0, 1, 2, 3] rfl) (hK.sub (tys' := []) [] rfl) (hD.sub (ws' := [(h0, .inr (10, [.int l1, .int l2, .int l3, .int l4, .int l5, .int l6, .ref h2])), (h2, .inr (11, [.long n1, .long n2, .long n3, .long n4, .long n5, .long n6])), (h1, .inr (10, [.int l1, .int l2, .int l3, .int l4, .int l5, .int l6, .ref h3])), (h3, .inr (11, [.long o1, .long o2, .long o3, .long o4, .long o5, .long o6]))]) [0, 1, 2, 3] (by decide) rfl) hS (Nat.le_of_ble_eq_true rfl) (Nat.le_of_ble_eq_true rfl) d_Cell_copy_92
        · refine lv_aload_n hx hb d_Cell_copy_81 rfl (lv_at hl 0 rfl) ?_
          refine va_get (D := D) (ci := 10) (v := .ref h2) (C := "FilterGuard$Cell") (T := F_Cell) (N := 7) hx hb hts i_Cell hown hK hP 0 rfl rfl 6 (by decide) (hts _ u_435) (fun _ h9 => h9) rfl d_Cell_copy_82 ?_
          refine lv_aload_n hx hb d_Cell_copy_85 rfl (lv_at hl 1 rfl) ?_
          refine va_get (D := D) (ci := 10) (v := .ref h3) (C := "FilterGuard$Cell") (T := F_Cell) (N := 7) hx hb hts i_Cell hown hK hP 2 rfl rfl 6 (by decide) (hts _ u_435) (fun _ h9 => h9) rfl d_Cell_copy_86 ?_
          refine fg_thenv (wr := [(h0, .inr (10, [.int l1, .int l2, .int l3, .int l4, .int l5, .int l6, .ref h2])), (h1, .inr (10, [.int l1, .int l2, .int l3, .int l4, .int l5, .int l6, .ref h3]))]) (fg_runV (C := "FilterGuard$Num") (As := [.ref h3]) (rest := []) (ci := 11) (q0 := 0) ⟨hx, hb, hml, hown, hts⟩ (c_Num_copy l D h2 n1 n2 n3 n4 n5 n6 h3 o1 o2 o3 o4 o5 o6 H.size) rfl (by show fg_nm y_Num_copy 1; decide +kernel) u_1082 u_1083 u_1084 u_187 u_1085 ⟨Nat.le_of_ble_eq_true rfl, Nat.le_of_ble_eq_true rfl⟩ hX (hP.sub (ws' := [(h2, .inr (11, [.long n1, .long n2, .long n3, .long n4, .long n5, .long n6])), (h3, .inr (11, [.long o1, .long o2, .long o3, .long o4, .long o5, .long o6]))]) [1, 3] rfl) (hK.sub (tys' := []) [] rfl) (hD.sub (ws' := [(h2, .inr (11, [.long n1, .long n2, .long n3, .long n4, .long n5, .long n6])), (h3, .inr (11, [.long o1, .long o2, .long o3, .long o4, .long o5, .long o6]))]) [1, 3] (by decide) rfl) rfl rfl rfl rfl hl.1 (Nat.le_of_ble_eq_true rfl) d_Cell_copy_89 ⟨(Nat.le_of_ble_eq_true rfl), (Nat.le_of_ble_eq_true rfl)⟩) hP hD hK hS hA [1, 3] [0, 2] rfl rfl (by decide) (by decide) (fun  u H locs hw89_6 hP hD hK hS => ?_)
          try dsimp only at hw89_6
          have hP : va_P D classes [(h0, .inr (10, [.int l1, .int l2, .int l3, .int l4, .int l5, .int l6, .ref h2])), (h1, .inr (10, [.int l1, .int l2, .int l3, .int l4, .int l5, .int l6, .ref h3])), (h2, .inr (11, [.long o1, .long o2, .long o3, .long o4, .long o5, .long o6])), (h3, .inr (11, [.long o1, .long o2, .long o3, .long o4, .long o5, .long o6]))] H := hP
          have hD : va_D A [(h0, .inr (10, [.int l1, .int l2, .int l3, .int l4, .int l5, .int l6, .ref h2])), (h1, .inr (10, [.int l1, .int l2, .int l3, .int l4, .int l5, .int l6, .ref h3])), (h2, .inr (11, [.long o1, .long o2, .long o3, .long o4, .long o5, .long o6])), (h3, .inr (11, [.long o1, .long o2, .long o3, .long o4, .long o5, .long o6]))] := hD
          have hK : va_K D classes [] s := hK
          refine W.widen (k := 0) (n := 0) (Nat.le_of_ble_eq_true rfl) (Nat.le_of_ble_eq_true rfl) ?_
          exact fg_retv (l2, l3, l4, l5, o1, o2, o3, o4, o5, o6) hx hb hr hlocks ⟨(by unfold fc_cp; rw [if_neg c_1]), (by unfold fc_cp; rw [if_neg c_1]), (by unfold fc_cp; rw [if_neg c_1]), (by unfold fc_cp; rw [if_neg c_1]), (by unfold fc_cpn; rw [if_neg c_1, if_pos (Or.inr (Or.inr c_6))])⟩ (hP.sub (ws' := [(h0, .inr (10, [.int l1, .int l2, .int l3, .int l4, .int l5, .int l6, .ref h2])), (h2, .inr (11, [.long o1, .long o2, .long o3, .long o4, .long o5, .long o6])), (h1, .inr (10, [.int l1, .int l2, .int l3, .int l4, .int l5, .int l6, .ref h3])), (h3, .inr (11, [.long o1, .long o2, .long o3, .long o4, .long o5, .long o6]))]) [0, 2, 1, 3] rfl) (hK.sub (tys' := []) [] rfl) (hD.sub (ws' := [(h0, .inr (10, [.int l1, .int l2, .int l3, .int l4, .int l5, .int l6, .ref h2])), (h2, .inr (11, [.long o1, .long o2, .long o3, .long o4, .long o5, .long o6])), (h1, .inr (10, [.int l1, .int l2, .int l3, .int l4, .int l5, .int l6, .ref h3])), (h3, .inr (11, [.long o1, .long o2, .long o3, .long o4, .long o5, .long o6]))]) [0, 2, 1, 3] (by decide) rfl) hS (Nat.le_of_ble_eq_true rfl) (Nat.le_of_ble_eq_true rfl) d_Cell_copy_92
  · exact fg_retv (k2, k3, k4, k5, n1, n2, n3, n4, n5, n6) hx hb hr hlocks ⟨(by unfold fc_cp; rw [if_pos c_1]), (by unfold fc_cp; rw [if_pos c_1]), (by unfold fc_cp; rw [if_pos c_1]), (by unfold fc_cp; rw [if_pos c_1]), (by unfold fc_cpn; rw [if_pos c_1])⟩ (hP.sub (ws' := [(h0, .inr (10, [.int l1, .int k2, .int k3, .int k4, .int k5, .int l6, .ref h2])), (h2, .inr (11, [.long n1, .long n2, .long n3, .long n4, .long n5, .long n6])), (h1, .inr (10, [.int l1, .int l2, .int l3, .int l4, .int l5, .int l6, .ref h3])), (h3, .inr (11, [.long o1, .long o2, .long o3, .long o4, .long o5, .long o6]))]) [0, 1, 2, 3] rfl) (hK.sub (tys' := []) [] rfl) (hD.sub (ws' := [(h0, .inr (10, [.int l1, .int k2, .int k3, .int k4, .int k5, .int l6, .ref h2])), (h2, .inr (11, [.long n1, .long n2, .long n3, .long n4, .long n5, .long n6])), (h1, .inr (10, [.int l1, .int l2, .int l3, .int l4, .int l5, .int l6, .ref h3])), (h3, .inr (11, [.long o1, .long o2, .long o3, .long o4, .long o5, .long o6]))]) [0, 1, 2, 3] (by decide) rfl) hS (Nat.le_of_ble_eq_true rfl) (Nat.le_of_ble_eq_true rfl) d_Cell_copy_23
def rm_Cell_copy_s : Room := { frames := 2, cells := 0, slots := 0, locals := 60 }
abbrev q_Cell_copy_s (D : va_G) (h0 : Nat) (h2 : Nat) (k1 : Int32) (k2 : Int32) (k3 : Int32) (k4 : Int32) (k5 : Int32) (k6 : Int32) (n1 : Int64) (n2 : Int64) (n3 : Int64) (n4 : Int64) (n5 : Int64) (n6 : Int64) (A : Nat → Prop) : Array Value → Jvm.State → Outcome → Jvm.State → Prop := va_Qv (fun (_ : Unit) => True) (fg_B D A (fun (_ : Unit) => [(h0, .inr (10, [.int k1, .int k2, .int k3, .int k4, .int k5, .int k6, .ref h2])), (h2, .inr (11, [.long n1, .long n2, .long n3, .long n4, .long n5, .long n6]))]) (fun (_ : Unit) => [])) A
set_option maxHeartbeats 4000000 in
set_option maxRecDepth 100000 in
theorem c_Cell_copy_s (l : Launch) (D : va_G) (h0 : Nat) (h2 : Nat) (k1 : Int32) (k2 : Int32) (k3 : Int32) (k4 : Int32) (k5 : Int32) (k6 : Int32) (n1 : Int64) (n2 : Int64) (n3 : Int64) (n4 : Int64) (n5 : Int64) (n6 : Int64) (sz : Nat) : Met l y_Cell_copy (fg_w y_Cell_copy prog_2_method_3_code 2 none) rm_Cell_copy_s (va_Pc [.ref h0, .ref h0] (fg_P D [] [(h0, .inr (10, [.int k1, .int k2, .int k3, .int k4, .int k5, .int k6, .ref h2])), (h2, .inr (11, [.long n1, .long n2, .long n3, .long n4, .long n5, .long n6]))] sz)) (q_Cell_copy_s D h0 h2 k1 k2 k3 k4 k5 k6 n1 n2 n3 n4 n5 n6 (va_A [(h0, .inr (10, [.int k1, .int k2, .int k3, .int k4, .int k5, .int k6, .ref h2])), (h2, .inr (11, [.long n1, .long n2, .long n3, .long n4, .long n5, .long n6]))] sz)) rm_Cell_copy_s.cells rm_Cell_copy_s.slots (va_A [(h0, .inr (10, [.int k1, .int k2, .int k3, .int k4, .int k5, .int k6, .ref h2])), (h2, .inr (11, [.long n1, .long n2, .long n3, .long n4, .long n5, .long n6]))] sz) := by
  refine fg_enter (fun A => q_Cell_copy_s D h0 h2 k1 k2 k3 k4 k5 k6 n1 n2 n3 n4 n5 n6 A) (by decide +kernel) (Nat.le_of_ble_eq_true rfl) ?_
  intro p e s m below meth c ls A hx hb hml hown hts hr hlocks hin hP hK hD hS hA hX hl
  have hl : lv_has ls 2 [(0, .ref h0), (1, .ref h0)] := hl
  refine lv_aload_n hx hb d_Cell_copy_0 rfl (lv_at hl 0 rfl) ?_
  refine lv_aload_n hx hb d_Cell_copy_1 rfl (lv_at hl 1 rfl) ?_
  refine va_get (D := D) (ci := 10) (v := .int k1) (C := "FilterGuard$Cell") (T := F_Cell) (N := 7) hx hb hts i_Cell hown hK hP 0 rfl rfl 0 (by decide) (hts _ u_420) (fun _ h9 => h9) rfl d_Cell_copy_2 ?_
  refine va_put (D := D) (ci := 10) (v := .int k1) (ty := .int) (C := "FilterGuard$Cell") (T := F_Cell) (N := 7) hx hb hts i_Cell t_Cell t_Cell_ok n_Cell hown hK hP hD hS 0 rfl rfl 0 (by decide) (hts _ u_420) (fun _ h9 => h9) rfl (by decide +kernel) rfl rfl (Nat.le_of_ble_eq_true rfl) d_Cell_copy_5 (fun H locs hP hD hS => ?_)
  have hP : va_P D classes [(h0, .inr (10, [.int k1, .int k2, .int k3, .int k4, .int k5, .int k6, .ref h2])), (h2, .inr (11, [.long n1, .long n2, .long n3, .long n4, .long n5, .long n6]))] H := hP
  have hD : va_D A [(h0, .inr (10, [.int k1, .int k2, .int k3, .int k4, .int k5, .int k6, .ref h2])), (h2, .inr (11, [.long n1, .long n2, .long n3, .long n4, .long n5, .long n6]))] := hD
  refine lv_aload_n hx hb d_Cell_copy_8 rfl (lv_at hl 0 rfl) ?_
  refine lv_aload_n hx hb d_Cell_copy_9 rfl (lv_at hl 1 rfl) ?_
  refine va_get (D := D) (ci := 10) (v := .int k6) (C := "FilterGuard$Cell") (T := F_Cell) (N := 7) hx hb hts i_Cell hown hK hP 0 rfl rfl 5 (by decide) (hts _ u_433) (fun _ h9 => h9) rfl d_Cell_copy_10 ?_
  refine va_put (D := D) (ci := 10) (v := .int k6) (ty := .int) (C := "FilterGuard$Cell") (T := F_Cell) (N := 7) hx hb hts i_Cell t_Cell t_Cell_ok n_Cell hown hK hP hD hS 0 rfl rfl 5 (by decide) (hts _ u_433) (fun _ h9 => h9) rfl (by decide +kernel) rfl rfl (Nat.le_of_ble_eq_true rfl) d_Cell_copy_13 (fun H locs hP hD hS => ?_)
  have hP : va_P D classes [(h0, .inr (10, [.int k1, .int k2, .int k3, .int k4, .int k5, .int k6, .ref h2])), (h2, .inr (11, [.long n1, .long n2, .long n3, .long n4, .long n5, .long n6]))] H := hP
  have hD : va_D A [(h0, .inr (10, [.int k1, .int k2, .int k3, .int k4, .int k5, .int k6, .ref h2])), (h2, .inr (11, [.long n1, .long n2, .long n3, .long n4, .long n5, .long n6]))] := hD
  refine lv_aload_n hx hb d_Cell_copy_16 rfl (lv_at hl 0 rfl) ?_
  refine va_get (D := D) (ci := 10) (v := .int k1) (C := "FilterGuard$Cell") (T := F_Cell) (N := 7) hx hb hts i_Cell hown hK hP 0 rfl rfl 0 (by decide) (hts _ u_420) (fun _ h9 => h9) rfl d_Cell_copy_17 ?_
  refine lv_if_ne (tgt := 24) hx hb d_Cell_copy_20 (by decide) (fun c_1 => ?_) (fun c_1 => ?_)
  · refine lv_aload_n hx hb d_Cell_copy_24 rfl (lv_at hl 0 rfl) ?_
    refine lv_aload_n hx hb d_Cell_copy_25 rfl (lv_at hl 1 rfl) ?_
    refine va_get (D := D) (ci := 10) (v := .int k2) (C := "FilterGuard$Cell") (T := F_Cell) (N := 7) hx hb hts i_Cell hown hK hP 0 rfl rfl 1 (by decide) (hts _ u_424) (fun _ h9 => h9) rfl d_Cell_copy_26 ?_
    refine va_put (D := D) (ci := 10) (v := .int k2) (ty := .int) (C := "FilterGuard$Cell") (T := F_Cell) (N := 7) hx hb hts i_Cell t_Cell t_Cell_ok n_Cell hown hK hP hD hS 0 rfl rfl 1 (by decide) (hts _ u_424) (fun _ h9 => h9) rfl (by decide +kernel) rfl rfl (Nat.le_of_ble_eq_true rfl) d_Cell_copy_29 (fun H locs hP hD hS => ?_)
    have hP : va_P D classes [(h0, .inr (10, [.int k1, .int k2, .int k3, .int k4, .int k5, .int k6, .ref h2])), (h2, .inr (11, [.long n1, .long n2, .long n3, .long n4, .long n5, .long n6]))] H := hP
    have hD : va_D A [(h0, .inr (10, [.int k1, .int k2, .int k3, .int k4, .int k5, .int k6, .ref h2])), (h2, .inr (11, [.long n1, .long n2, .long n3, .long n4, .long n5, .long n6]))] := hD
    refine lv_aload_n hx hb d_Cell_copy_32 rfl (lv_at hl 0 rfl) ?_
    refine lv_aload_n hx hb d_Cell_copy_33 rfl (lv_at hl 1 rfl) ?_
    refine va_get (D := D) (ci := 10) (v := .int k3) (C := "FilterGuard$Cell") (T := F_Cell) (N := 7) hx hb hts i_Cell hown hK hP 0 rfl rfl 2 (by decide) (hts _ u_426) (fun _ h9 => h9) rfl d_Cell_copy_34 ?_
    refine va_put (D := D) (ci := 10) (v := .int k3) (ty := .int) (C := "FilterGuard$Cell") (T := F_Cell) (N := 7) hx hb hts i_Cell t_Cell t_Cell_ok n_Cell hown hK hP hD hS 0 rfl rfl 2 (by decide) (hts _ u_426) (fun _ h9 => h9) rfl (by decide +kernel) rfl rfl (Nat.le_of_ble_eq_true rfl) d_Cell_copy_37 (fun H locs hP hD hS => ?_)
    have hP : va_P D classes [(h0, .inr (10, [.int k1, .int k2, .int k3, .int k4, .int k5, .int k6, .ref h2])), (h2, .inr (11, [.long n1, .long n2, .long n3, .long n4, .long n5, .long n6]))] H := hP
    have hD : va_D A [(h0, .inr (10, [.int k1, .int k2, .int k3, .int k4, .int k5, .int k6, .ref h2])), (h2, .inr (11, [.long n1, .long n2, .long n3, .long n4, .long n5, .long n6]))] := hD
    refine lv_aload_n hx hb d_Cell_copy_40 rfl (lv_at hl 0 rfl) ?_
    refine lv_aload_n hx hb d_Cell_copy_41 rfl (lv_at hl 1 rfl) ?_
    refine va_get (D := D) (ci := 10) (v := .int k4) (C := "FilterGuard$Cell") (T := F_Cell) (N := 7) hx hb hts i_Cell hown hK hP 0 rfl rfl 3 (by decide) (hts _ u_428) (fun _ h9 => h9) rfl d_Cell_copy_42 ?_
    refine va_put (D := D) (ci := 10) (v := .int k4) (ty := .int) (C := "FilterGuard$Cell") (T := F_Cell) (N := 7) hx hb hts i_Cell t_Cell t_Cell_ok n_Cell hown hK hP hD hS 0 rfl rfl 3 (by decide) (hts _ u_428) (fun _ h9 => h9) rfl (by decide +kernel) rfl rfl (Nat.le_of_ble_eq_true rfl) d_Cell_copy_45 (fun H locs hP hD hS => ?_)
    have hP : va_P D classes [(h0, .inr (10, [.int k1, .int k2, .int k3, .int k4, .int k5, .int k6, .ref h2])), (h2, .inr (11, [.long n1, .long n2, .long n3, .long n4, .long n5, .long n6]))] H := hP
    have hD : va_D A [(h0, .inr (10, [.int k1, .int k2, .int k3, .int k4, .int k5, .int k6, .ref h2])), (h2, .inr (11, [.long n1, .long n2, .long n3, .long n4, .long n5, .long n6]))] := hD
    refine lv_aload_n hx hb d_Cell_copy_48 rfl (lv_at hl 0 rfl) ?_
    refine lv_aload_n hx hb d_Cell_copy_49 rfl (lv_at hl 1 rfl) ?_
    refine va_get (D := D) (ci := 10) (v := .int k5) (C := "FilterGuard$Cell") (T := F_Cell) (N := 7) hx hb hts i_Cell hown hK hP 0 rfl rfl 4 (by decide) (hts _ u_431) (fun _ h9 => h9) rfl d_Cell_copy_50 ?_
    refine va_put (D := D) (ci := 10) (v := .int k5) (ty := .int) (C := "FilterGuard$Cell") (T := F_Cell) (N := 7) hx hb hts i_Cell t_Cell t_Cell_ok n_Cell hown hK hP hD hS 0 rfl rfl 4 (by decide) (hts _ u_431) (fun _ h9 => h9) rfl (by decide +kernel) rfl rfl (Nat.le_of_ble_eq_true rfl) d_Cell_copy_53 (fun H locs hP hD hS => ?_)
    have hP : va_P D classes [(h0, .inr (10, [.int k1, .int k2, .int k3, .int k4, .int k5, .int k6, .ref h2])), (h2, .inr (11, [.long n1, .long n2, .long n3, .long n4, .long n5, .long n6]))] H := hP
    have hD : va_D A [(h0, .inr (10, [.int k1, .int k2, .int k3, .int k4, .int k5, .int k6, .ref h2])), (h2, .inr (11, [.long n1, .long n2, .long n3, .long n4, .long n5, .long n6]))] := hD
    refine lv_aload_n hx hb d_Cell_copy_56 rfl (lv_at hl 0 rfl) ?_
    refine va_get (D := D) (ci := 10) (v := .int k1) (C := "FilterGuard$Cell") (T := F_Cell) (N := 7) hx hb hts i_Cell hown hK hP 0 rfl rfl 0 (by decide) (hts _ u_420) (fun _ h9 => h9) rfl d_Cell_copy_57 ?_
    refine lv_iconst (v := 1) hx hb d_Cell_copy_60 (by decide) ?_
    refine lv_icmp_eq (tgt := 81) hx hb d_Cell_copy_61 (by decide) (fun c_2 => ?_) (fun c_2 => ?_)
    · refine lv_aload_n hx hb d_Cell_copy_81 rfl (lv_at hl 0 rfl) ?_
      refine va_get (D := D) (ci := 10) (v := .ref h2) (C := "FilterGuard$Cell") (T := F_Cell) (N := 7) hx hb hts i_Cell hown hK hP 0 rfl rfl 6 (by decide) (hts _ u_435) (fun _ h9 => h9) rfl d_Cell_copy_82 ?_
      refine lv_aload_n hx hb d_Cell_copy_85 rfl (lv_at hl 1 rfl) ?_
      refine va_get (D := D) (ci := 10) (v := .ref h2) (C := "FilterGuard$Cell") (T := F_Cell) (N := 7) hx hb hts i_Cell hown hK hP 0 rfl rfl 6 (by decide) (hts _ u_435) (fun _ h9 => h9) rfl d_Cell_copy_86 ?_
      refine fg_thenv (wr := [(h0, .inr (10, [.int k1, .int k2, .int k3, .int k4, .int k5, .int k6, .ref h2]))]) (fg_runV (C := "FilterGuard$Num") (As := [.ref h2]) (rest := []) (ci := 11) (q0 := 0) ⟨hx, hb, hml, hown, hts⟩ (c_Num_copy_s l D h2 n1 n2 n3 n4 n5 n6 H.size) rfl (by show fg_nm y_Num_copy 1; decide +kernel) u_1082 u_1083 u_1084 u_187 u_1085 ⟨Nat.le_of_ble_eq_true rfl, Nat.le_of_ble_eq_true rfl⟩ hX (hP.sub (ws' := [(h2, .inr (11, [.long n1, .long n2, .long n3, .long n4, .long n5, .long n6]))]) [1] rfl) (hK.sub (tys' := []) [] rfl) (hD.sub (ws' := [(h2, .inr (11, [.long n1, .long n2, .long n3, .long n4, .long n5, .long n6]))]) [1] (by decide) rfl) rfl rfl rfl rfl hl.1 (Nat.le_of_ble_eq_true rfl) d_Cell_copy_89 ⟨(Nat.le_of_ble_eq_true rfl), (Nat.le_of_ble_eq_true rfl)⟩) hP hD hK hS hA [1] [0] rfl rfl (by decide) (by decide) (fun  u H locs hw89_2 hP hD hK hS => ?_)
      try dsimp only at hw89_2
      have hP : va_P D classes [(h0, .inr (10, [.int k1, .int k2, .int k3, .int k4, .int k5, .int k6, .ref h2])), (h2, .inr (11, [.long n1, .long n2, .long n3, .long n4, .long n5, .long n6]))] H := hP
      have hD : va_D A [(h0, .inr (10, [.int k1, .int k2, .int k3, .int k4, .int k5, .int k6, .ref h2])), (h2, .inr (11, [.long n1, .long n2, .long n3, .long n4, .long n5, .long n6]))] := hD
      have hK : va_K D classes [] s := hK
      refine W.widen (k := 0) (n := 0) (Nat.le_of_ble_eq_true rfl) (Nat.le_of_ble_eq_true rfl) ?_
      exact fg_retv () hx hb hr hlocks trivial (hP.sub (ws' := [(h0, .inr (10, [.int k1, .int k2, .int k3, .int k4, .int k5, .int k6, .ref h2])), (h2, .inr (11, [.long n1, .long n2, .long n3, .long n4, .long n5, .long n6]))]) [0, 1] rfl) (hK.sub (tys' := []) [] rfl) (hD.sub (ws' := [(h0, .inr (10, [.int k1, .int k2, .int k3, .int k4, .int k5, .int k6, .ref h2])), (h2, .inr (11, [.long n1, .long n2, .long n3, .long n4, .long n5, .long n6]))]) [0, 1] (by decide) rfl) hS (Nat.le_of_ble_eq_true rfl) (Nat.le_of_ble_eq_true rfl) d_Cell_copy_92
    · refine lv_aload_n hx hb d_Cell_copy_64 rfl (lv_at hl 0 rfl) ?_
      refine va_get (D := D) (ci := 10) (v := .int k1) (C := "FilterGuard$Cell") (T := F_Cell) (N := 7) hx hb hts i_Cell hown hK hP 0 rfl rfl 0 (by decide) (hts _ u_420) (fun _ h9 => h9) rfl d_Cell_copy_65 ?_
      refine lv_iconst (v := 4) hx hb d_Cell_copy_68 (by decide) ?_
      refine lv_icmp_eq (tgt := 81) hx hb d_Cell_copy_69 (by decide) (fun c_4 => ?_) (fun c_4 => ?_)
      · refine lv_aload_n hx hb d_Cell_copy_81 rfl (lv_at hl 0 rfl) ?_
        refine va_get (D := D) (ci := 10) (v := .ref h2) (C := "FilterGuard$Cell") (T := F_Cell) (N := 7) hx hb hts i_Cell hown hK hP 0 rfl rfl 6 (by decide) (hts _ u_435) (fun _ h9 => h9) rfl d_Cell_copy_82 ?_
        refine lv_aload_n hx hb d_Cell_copy_85 rfl (lv_at hl 1 rfl) ?_
        refine va_get (D := D) (ci := 10) (v := .ref h2) (C := "FilterGuard$Cell") (T := F_Cell) (N := 7) hx hb hts i_Cell hown hK hP 0 rfl rfl 6 (by decide) (hts _ u_435) (fun _ h9 => h9) rfl d_Cell_copy_86 ?_
        refine fg_thenv (wr := [(h0, .inr (10, [.int k1, .int k2, .int k3, .int k4, .int k5, .int k6, .ref h2]))]) (fg_runV (C := "FilterGuard$Num") (As := [.ref h2]) (rest := []) (ci := 11) (q0 := 0) ⟨hx, hb, hml, hown, hts⟩ (c_Num_copy_s l D h2 n1 n2 n3 n4 n5 n6 H.size) rfl (by show fg_nm y_Num_copy 1; decide +kernel) u_1082 u_1083 u_1084 u_187 u_1085 ⟨Nat.le_of_ble_eq_true rfl, Nat.le_of_ble_eq_true rfl⟩ hX (hP.sub (ws' := [(h2, .inr (11, [.long n1, .long n2, .long n3, .long n4, .long n5, .long n6]))]) [1] rfl) (hK.sub (tys' := []) [] rfl) (hD.sub (ws' := [(h2, .inr (11, [.long n1, .long n2, .long n3, .long n4, .long n5, .long n6]))]) [1] (by decide) rfl) rfl rfl rfl rfl hl.1 (Nat.le_of_ble_eq_true rfl) d_Cell_copy_89 ⟨(Nat.le_of_ble_eq_true rfl), (Nat.le_of_ble_eq_true rfl)⟩) hP hD hK hS hA [1] [0] rfl rfl (by decide) (by decide) (fun  u H locs hw89_4 hP hD hK hS => ?_)
        try dsimp only at hw89_4
        have hP : va_P D classes [(h0, .inr (10, [.int k1, .int k2, .int k3, .int k4, .int k5, .int k6, .ref h2])), (h2, .inr (11, [.long n1, .long n2, .long n3, .long n4, .long n5, .long n6]))] H := hP
        have hD : va_D A [(h0, .inr (10, [.int k1, .int k2, .int k3, .int k4, .int k5, .int k6, .ref h2])), (h2, .inr (11, [.long n1, .long n2, .long n3, .long n4, .long n5, .long n6]))] := hD
        have hK : va_K D classes [] s := hK
        refine W.widen (k := 0) (n := 0) (Nat.le_of_ble_eq_true rfl) (Nat.le_of_ble_eq_true rfl) ?_
        exact fg_retv () hx hb hr hlocks trivial (hP.sub (ws' := [(h0, .inr (10, [.int k1, .int k2, .int k3, .int k4, .int k5, .int k6, .ref h2])), (h2, .inr (11, [.long n1, .long n2, .long n3, .long n4, .long n5, .long n6]))]) [0, 1] rfl) (hK.sub (tys' := []) [] rfl) (hD.sub (ws' := [(h0, .inr (10, [.int k1, .int k2, .int k3, .int k4, .int k5, .int k6, .ref h2])), (h2, .inr (11, [.long n1, .long n2, .long n3, .long n4, .long n5, .long n6]))]) [0, 1] (by decide) rfl) hS (Nat.le_of_ble_eq_true rfl) (Nat.le_of_ble_eq_true rfl) d_Cell_copy_92
      · refine lv_aload_n hx hb d_Cell_copy_72 rfl (lv_at hl 0 rfl) ?_
        refine va_get (D := D) (ci := 10) (v := .int k1) (C := "FilterGuard$Cell") (T := F_Cell) (N := 7) hx hb hts i_Cell hown hK hP 0 rfl rfl 0 (by decide) (hts _ u_420) (fun _ h9 => h9) rfl d_Cell_copy_73 ?_
        refine lv_bipush (v := 7) hx hb d_Cell_copy_76 (by decide) ?_
        refine lv_icmp_ne (tgt := 92) hx hb d_Cell_copy_78 (by decide) (fun c_6 => ?_) (fun c_6 => ?_)
        · exact fg_retv () hx hb hr hlocks trivial (hP.sub (ws' := [(h0, .inr (10, [.int k1, .int k2, .int k3, .int k4, .int k5, .int k6, .ref h2])), (h2, .inr (11, [.long n1, .long n2, .long n3, .long n4, .long n5, .long n6]))]) [0, 1] rfl) (hK.sub (tys' := []) [] rfl) (hD.sub (ws' := [(h0, .inr (10, [.int k1, .int k2, .int k3, .int k4, .int k5, .int k6, .ref h2])), (h2, .inr (11, [.long n1, .long n2, .long n3, .long n4, .long n5, .long n6]))]) [0, 1] (by decide) rfl) hS (Nat.le_of_ble_eq_true rfl) (Nat.le_of_ble_eq_true rfl) d_Cell_copy_92
        · refine lv_aload_n hx hb d_Cell_copy_81 rfl (lv_at hl 0 rfl) ?_
          refine va_get (D := D) (ci := 10) (v := .ref h2) (C := "FilterGuard$Cell") (T := F_Cell) (N := 7) hx hb hts i_Cell hown hK hP 0 rfl rfl 6 (by decide) (hts _ u_435) (fun _ h9 => h9) rfl d_Cell_copy_82 ?_
          refine lv_aload_n hx hb d_Cell_copy_85 rfl (lv_at hl 1 rfl) ?_
          refine va_get (D := D) (ci := 10) (v := .ref h2) (C := "FilterGuard$Cell") (T := F_Cell) (N := 7) hx hb hts i_Cell hown hK hP 0 rfl rfl 6 (by decide) (hts _ u_435) (fun _ h9 => h9) rfl d_Cell_copy_86 ?_
          refine fg_thenv (wr := [(h0, .inr (10, [.int k1, .int k2, .int k3, .int k4, .int k5, .int k6, .ref h2]))]) (fg_runV (C := "FilterGuard$Num") (As := [.ref h2]) (rest := []) (ci := 11) (q0 := 0) ⟨hx, hb, hml, hown, hts⟩ (c_Num_copy_s l D h2 n1 n2 n3 n4 n5 n6 H.size) rfl (by show fg_nm y_Num_copy 1; decide +kernel) u_1082 u_1083 u_1084 u_187 u_1085 ⟨Nat.le_of_ble_eq_true rfl, Nat.le_of_ble_eq_true rfl⟩ hX (hP.sub (ws' := [(h2, .inr (11, [.long n1, .long n2, .long n3, .long n4, .long n5, .long n6]))]) [1] rfl) (hK.sub (tys' := []) [] rfl) (hD.sub (ws' := [(h2, .inr (11, [.long n1, .long n2, .long n3, .long n4, .long n5, .long n6]))]) [1] (by decide) rfl) rfl rfl rfl rfl hl.1 (Nat.le_of_ble_eq_true rfl) d_Cell_copy_89 ⟨(Nat.le_of_ble_eq_true rfl), (Nat.le_of_ble_eq_true rfl)⟩) hP hD hK hS hA [1] [0] rfl rfl (by decide) (by decide) (fun  u H locs hw89_6 hP hD hK hS => ?_)
          try dsimp only at hw89_6
          have hP : va_P D classes [(h0, .inr (10, [.int k1, .int k2, .int k3, .int k4, .int k5, .int k6, .ref h2])), (h2, .inr (11, [.long n1, .long n2, .long n3, .long n4, .long n5, .long n6]))] H := hP
          have hD : va_D A [(h0, .inr (10, [.int k1, .int k2, .int k3, .int k4, .int k5, .int k6, .ref h2])), (h2, .inr (11, [.long n1, .long n2, .long n3, .long n4, .long n5, .long n6]))] := hD
          have hK : va_K D classes [] s := hK
          refine W.widen (k := 0) (n := 0) (Nat.le_of_ble_eq_true rfl) (Nat.le_of_ble_eq_true rfl) ?_
          exact fg_retv () hx hb hr hlocks trivial (hP.sub (ws' := [(h0, .inr (10, [.int k1, .int k2, .int k3, .int k4, .int k5, .int k6, .ref h2])), (h2, .inr (11, [.long n1, .long n2, .long n3, .long n4, .long n5, .long n6]))]) [0, 1] rfl) (hK.sub (tys' := []) [] rfl) (hD.sub (ws' := [(h0, .inr (10, [.int k1, .int k2, .int k3, .int k4, .int k5, .int k6, .ref h2])), (h2, .inr (11, [.long n1, .long n2, .long n3, .long n4, .long n5, .long n6]))]) [0, 1] (by decide) rfl) hS (Nat.le_of_ble_eq_true rfl) (Nat.le_of_ble_eq_true rfl) d_Cell_copy_92
  · exact fg_retv () hx hb hr hlocks trivial (hP.sub (ws' := [(h0, .inr (10, [.int k1, .int k2, .int k3, .int k4, .int k5, .int k6, .ref h2])), (h2, .inr (11, [.long n1, .long n2, .long n3, .long n4, .long n5, .long n6]))]) [0, 1] rfl) (hK.sub (tys' := []) [] rfl) (hD.sub (ws' := [(h0, .inr (10, [.int k1, .int k2, .int k3, .int k4, .int k5, .int k6, .ref h2])), (h2, .inr (11, [.long n1, .long n2, .long n3, .long n4, .long n5, .long n6]))]) [0, 1] (by decide) rfl) hS (Nat.le_of_ble_eq_true rfl) (Nat.le_of_ble_eq_true rfl) d_Cell_copy_23
abbrev y_Cell_becomeExact : MethodName := ⟨"FilterGuard$Cell", "becomeExact", "(J)V"⟩
theorem d_Cell_becomeExact_0 : decode prog_2_method_4_code 0 = .ok (.aload_n 0, 1) := by decide +kernel
theorem d_Cell_becomeExact_1 : decode prog_2_method_4_code 1 = .ok (.iconst 1, 1) := by decide +kernel
theorem d_Cell_becomeExact_2 : decode prog_2_method_4_code 2 = .ok (.putfield 18, 3) := by decide +kernel
theorem d_Cell_becomeExact_5 : decode prog_2_method_4_code 5 = .ok (.aload_n 0, 1) := by decide +kernel
theorem d_Cell_becomeExact_6 : decode prog_2_method_4_code 6 = .ok (.getfield 12, 3) := by decide +kernel
theorem d_Cell_becomeExact_9 : decode prog_2_method_4_code 9 = .ok (.lload_n 1, 1) := by decide +kernel
theorem d_Cell_becomeExact_10 : decode prog_2_method_4_code 10 = .ok (.invokevirtual 41, 3) := by decide +kernel
theorem u_1036 : Cond.methodLink "FilterGuard$Cell" 41 ⟨"FilterGuard$Num", "exact", "(J)V"⟩ ∈ fg_g := fg_in (List.mem_of_getElem? (i := 1036) (by decide +kernel)) rfl
theorem d_Cell_becomeExact_13 : decode prog_2_method_4_code 13 = .ok (.return_, 1) := by decide +kernel
def rm_Cell_becomeExact : Room := { frames := 2, cells := 0, slots := 0, locals := 60 }
abbrev q_Cell_becomeExact (D : va_G) (h0 : Nat) (h2 : Nat) (k1 : Int32) (k2 : Int32) (k3 : Int32) (k4 : Int32) (k5 : Int32) (k6 : Int32) (n1 : Int64) (n2 : Int64) (n3 : Int64) (n4 : Int64) (n5 : Int64) (n6 : Int64) (x1 : Int64) (A : Nat → Prop) : Array Value → Jvm.State → Outcome → Jvm.State → Prop := va_Qv (fun (_ : Unit) => True) (fg_B D A (fun (_ : Unit) => [(h0, .inr (10, [.int 1, .int k2, .int k3, .int k4, .int k5, .int k6, .ref h2])), (h2, .inr (11, [.long x1, .long 0, .long x1, .long x1, .long x1, .long x1]))]) (fun (_ : Unit) => [])) A
set_option maxHeartbeats 4000000 in
set_option maxRecDepth 100000 in
theorem c_Cell_becomeExact (l : Launch) (D : va_G) (h0 : Nat) (h2 : Nat) (k1 : Int32) (k2 : Int32) (k3 : Int32) (k4 : Int32) (k5 : Int32) (k6 : Int32) (n1 : Int64) (n2 : Int64) (n3 : Int64) (n4 : Int64) (n5 : Int64) (n6 : Int64) (x1 : Int64) (sz : Nat) : Met l y_Cell_becomeExact (fg_w y_Cell_becomeExact prog_2_method_4_code 3 none) rm_Cell_becomeExact (va_Pc [.ref h0, .long x1] (fg_P D [] [(h0, .inr (10, [.int k1, .int k2, .int k3, .int k4, .int k5, .int k6, .ref h2])), (h2, .inr (11, [.long n1, .long n2, .long n3, .long n4, .long n5, .long n6]))] sz)) (q_Cell_becomeExact D h0 h2 k1 k2 k3 k4 k5 k6 n1 n2 n3 n4 n5 n6 x1 (va_A [(h0, .inr (10, [.int k1, .int k2, .int k3, .int k4, .int k5, .int k6, .ref h2])), (h2, .inr (11, [.long n1, .long n2, .long n3, .long n4, .long n5, .long n6]))] sz)) rm_Cell_becomeExact.cells rm_Cell_becomeExact.slots (va_A [(h0, .inr (10, [.int k1, .int k2, .int k3, .int k4, .int k5, .int k6, .ref h2])), (h2, .inr (11, [.long n1, .long n2, .long n3, .long n4, .long n5, .long n6]))] sz) := by
  refine fg_enter (fun A => q_Cell_becomeExact D h0 h2 k1 k2 k3 k4 k5 k6 n1 n2 n3 n4 n5 n6 x1 A) (by decide +kernel) (Nat.le_of_ble_eq_true rfl) ?_
  intro p e s m below meth c ls A hx hb hml hown hts hr hlocks hin hP hK hD hS hA hX hl
  have hl : lv_has ls 3 [(0, .ref h0), (1, .long x1)] := hl
  refine lv_aload_n hx hb d_Cell_becomeExact_0 rfl (lv_at hl 0 rfl) ?_
  refine lv_iconst (v := 1) hx hb d_Cell_becomeExact_1 (by decide) ?_
  refine va_put (D := D) (ci := 10) (v := .int 1) (ty := .int) (C := "FilterGuard$Cell") (T := F_Cell) (N := 7) hx hb hts i_Cell t_Cell t_Cell_ok n_Cell hown hK hP hD hS 0 rfl rfl 0 (by decide) (hts _ u_420) (fun _ h9 => h9) rfl (by decide +kernel) rfl rfl (Nat.le_of_ble_eq_true rfl) d_Cell_becomeExact_2 (fun H locs hP hD hS => ?_)
  have hP : va_P D classes [(h0, .inr (10, [.int 1, .int k2, .int k3, .int k4, .int k5, .int k6, .ref h2])), (h2, .inr (11, [.long n1, .long n2, .long n3, .long n4, .long n5, .long n6]))] H := hP
  have hD : va_D A [(h0, .inr (10, [.int 1, .int k2, .int k3, .int k4, .int k5, .int k6, .ref h2])), (h2, .inr (11, [.long n1, .long n2, .long n3, .long n4, .long n5, .long n6]))] := hD
  refine lv_aload_n hx hb d_Cell_becomeExact_5 rfl (lv_at hl 0 rfl) ?_
  refine va_get (D := D) (ci := 10) (v := .ref h2) (C := "FilterGuard$Cell") (T := F_Cell) (N := 7) hx hb hts i_Cell hown hK hP 0 rfl rfl 6 (by decide) (hts _ u_435) (fun _ h9 => h9) rfl d_Cell_becomeExact_6 ?_
  refine lv_lload_n hx hb d_Cell_becomeExact_9 rfl (lv_at hl 1 rfl) ?_
  refine fg_thenv (wr := [(h0, .inr (10, [.int 1, .int k2, .int k3, .int k4, .int k5, .int k6, .ref h2]))]) (fg_runV (C := "FilterGuard$Num") (As := [.long x1]) (rest := []) (ci := 11) (q0 := 0) ⟨hx, hb, hml, hown, hts⟩ (c_Num_exact l D h2 n1 n2 n3 n4 n5 n6 x1 H.size) rfl (by show fg_nm y_Num_exact 1; decide +kernel) u_1036 u_1037 u_1038 u_187 u_1039 ⟨Nat.le_of_ble_eq_true rfl, Nat.le_of_ble_eq_true rfl⟩ hX (hP.sub (ws' := [(h2, .inr (11, [.long n1, .long n2, .long n3, .long n4, .long n5, .long n6]))]) [1] rfl) (hK.sub (tys' := []) [] rfl) (hD.sub (ws' := [(h2, .inr (11, [.long n1, .long n2, .long n3, .long n4, .long n5, .long n6]))]) [1] (by decide) rfl) rfl rfl rfl rfl hl.1 (Nat.le_of_ble_eq_true rfl) d_Cell_becomeExact_10 ⟨(Nat.le_of_ble_eq_true rfl), (Nat.le_of_ble_eq_true rfl)⟩) hP hD hK hS hA [1] [0] rfl rfl (by decide) (by decide) (fun  u H locs hw10_0 hP hD hK hS => ?_)
  try dsimp only at hw10_0
  have hP : va_P D classes [(h0, .inr (10, [.int 1, .int k2, .int k3, .int k4, .int k5, .int k6, .ref h2])), (h2, .inr (11, [.long x1, .long 0, .long x1, .long x1, .long x1, .long x1]))] H := hP
  have hD : va_D A [(h0, .inr (10, [.int 1, .int k2, .int k3, .int k4, .int k5, .int k6, .ref h2])), (h2, .inr (11, [.long x1, .long 0, .long x1, .long x1, .long x1, .long x1]))] := hD
  have hK : va_K D classes [] s := hK
  refine W.widen (k := 0) (n := 0) (Nat.le_of_ble_eq_true rfl) (Nat.le_of_ble_eq_true rfl) ?_
  exact fg_retv () hx hb hr hlocks trivial (hP.sub (ws' := [(h0, .inr (10, [.int 1, .int k2, .int k3, .int k4, .int k5, .int k6, .ref h2])), (h2, .inr (11, [.long x1, .long 0, .long x1, .long x1, .long x1, .long x1]))]) [0, 1] rfl) (hK.sub (tys' := []) [] rfl) (hD.sub (ws' := [(h0, .inr (10, [.int 1, .int k2, .int k3, .int k4, .int k5, .int k6, .ref h2])), (h2, .inr (11, [.long x1, .long 0, .long x1, .long x1, .long x1, .long x1]))]) [0, 1] (by decide) rfl) hS (Nat.le_of_ble_eq_true rfl) (Nat.le_of_ble_eq_true rfl) d_Cell_becomeExact_13
abbrev y_Cell_becomeAny : MethodName := ⟨"FilterGuard$Cell", "becomeAny", "()V"⟩
theorem d_Cell_becomeAny_0 : decode prog_2_method_5_code 0 = .ok (.aload_n 0, 1) := by decide +kernel
theorem d_Cell_becomeAny_1 : decode prog_2_method_5_code 1 = .ok (.iconst 1, 1) := by decide +kernel
theorem d_Cell_becomeAny_2 : decode prog_2_method_5_code 2 = .ok (.putfield 18, 3) := by decide +kernel
theorem d_Cell_becomeAny_5 : decode prog_2_method_5_code 5 = .ok (.aload_n 0, 1) := by decide +kernel
theorem d_Cell_becomeAny_6 : decode prog_2_method_5_code 6 = .ok (.getfield 12, 3) := by decide +kernel
theorem d_Cell_becomeAny_9 : decode prog_2_method_5_code 9 = .ok (.invokevirtual 45, 3) := by decide +kernel
theorem u_1270 : Cond.methodLink "FilterGuard$Cell" 45 ⟨"FilterGuard$Num", "any", "()V"⟩ ∈ fg_g := fg_in (List.mem_of_getElem? (i := 1270) (by decide +kernel)) rfl
theorem d_Cell_becomeAny_12 : decode prog_2_method_5_code 12 = .ok (.return_, 1) := by decide +kernel
def rm_Cell_becomeAny : Room := { frames := 2, cells := 0, slots := 0, locals := 60 }
abbrev q_Cell_becomeAny (D : va_G) (h0 : Nat) (h2 : Nat) (k1 : Int32) (k2 : Int32) (k3 : Int32) (k4 : Int32) (k5 : Int32) (k6 : Int32) (n1 : Int64) (n2 : Int64) (n3 : Int64) (n4 : Int64) (n5 : Int64) (n6 : Int64) (A : Nat → Prop) : Array Value → Jvm.State → Outcome → Jvm.State → Prop := va_Qv (fun (_ : Unit) => True) (fg_B D A (fun (_ : Unit) => [(h0, .inr (10, [.int 1, .int k2, .int k3, .int k4, .int k5, .int k6, .ref h2])), (h2, .inr (11, [.long 0, .long (-1), .long 0, .long (-1), .long (-9223372036854775808), .long 9223372036854775807]))]) (fun (_ : Unit) => [])) A
set_option maxHeartbeats 4000000 in
set_option maxRecDepth 100000 in
theorem c_Cell_becomeAny (l : Launch) (D : va_G) (h0 : Nat) (h2 : Nat) (k1 : Int32) (k2 : Int32) (k3 : Int32) (k4 : Int32) (k5 : Int32) (k6 : Int32) (n1 : Int64) (n2 : Int64) (n3 : Int64) (n4 : Int64) (n5 : Int64) (n6 : Int64) (sz : Nat) : Met l y_Cell_becomeAny (fg_w y_Cell_becomeAny prog_2_method_5_code 1 none) rm_Cell_becomeAny (va_Pc [.ref h0] (fg_P D [] [(h0, .inr (10, [.int k1, .int k2, .int k3, .int k4, .int k5, .int k6, .ref h2])), (h2, .inr (11, [.long n1, .long n2, .long n3, .long n4, .long n5, .long n6]))] sz)) (q_Cell_becomeAny D h0 h2 k1 k2 k3 k4 k5 k6 n1 n2 n3 n4 n5 n6 (va_A [(h0, .inr (10, [.int k1, .int k2, .int k3, .int k4, .int k5, .int k6, .ref h2])), (h2, .inr (11, [.long n1, .long n2, .long n3, .long n4, .long n5, .long n6]))] sz)) rm_Cell_becomeAny.cells rm_Cell_becomeAny.slots (va_A [(h0, .inr (10, [.int k1, .int k2, .int k3, .int k4, .int k5, .int k6, .ref h2])), (h2, .inr (11, [.long n1, .long n2, .long n3, .long n4, .long n5, .long n6]))] sz) := by
  refine fg_enter (fun A => q_Cell_becomeAny D h0 h2 k1 k2 k3 k4 k5 k6 n1 n2 n3 n4 n5 n6 A) (by decide +kernel) (Nat.le_of_ble_eq_true rfl) ?_
  intro p e s m below meth c ls A hx hb hml hown hts hr hlocks hin hP hK hD hS hA hX hl
  have hl : lv_has ls 1 [(0, .ref h0)] := hl
  refine lv_aload_n hx hb d_Cell_becomeAny_0 rfl (lv_at hl 0 rfl) ?_
  refine lv_iconst (v := 1) hx hb d_Cell_becomeAny_1 (by decide) ?_
  refine va_put (D := D) (ci := 10) (v := .int 1) (ty := .int) (C := "FilterGuard$Cell") (T := F_Cell) (N := 7) hx hb hts i_Cell t_Cell t_Cell_ok n_Cell hown hK hP hD hS 0 rfl rfl 0 (by decide) (hts _ u_420) (fun _ h9 => h9) rfl (by decide +kernel) rfl rfl (Nat.le_of_ble_eq_true rfl) d_Cell_becomeAny_2 (fun H locs hP hD hS => ?_)
  have hP : va_P D classes [(h0, .inr (10, [.int 1, .int k2, .int k3, .int k4, .int k5, .int k6, .ref h2])), (h2, .inr (11, [.long n1, .long n2, .long n3, .long n4, .long n5, .long n6]))] H := hP
  have hD : va_D A [(h0, .inr (10, [.int 1, .int k2, .int k3, .int k4, .int k5, .int k6, .ref h2])), (h2, .inr (11, [.long n1, .long n2, .long n3, .long n4, .long n5, .long n6]))] := hD
  refine lv_aload_n hx hb d_Cell_becomeAny_5 rfl (lv_at hl 0 rfl) ?_
  refine va_get (D := D) (ci := 10) (v := .ref h2) (C := "FilterGuard$Cell") (T := F_Cell) (N := 7) hx hb hts i_Cell hown hK hP 0 rfl rfl 6 (by decide) (hts _ u_435) (fun _ h9 => h9) rfl d_Cell_becomeAny_6 ?_
  refine fg_thenv (wr := [(h0, .inr (10, [.int 1, .int k2, .int k3, .int k4, .int k5, .int k6, .ref h2]))]) (fg_runV (C := "FilterGuard$Num") (As := []) (rest := []) (ci := 11) (q0 := 0) ⟨hx, hb, hml, hown, hts⟩ (c_Num_any l D h2 n1 n2 n3 n4 n5 n6 H.size) rfl (by show fg_nm y_Num_any 0; decide +kernel) u_1270 u_1131 u_1132 u_187 u_1133 ⟨Nat.le_of_ble_eq_true rfl, Nat.le_of_ble_eq_true rfl⟩ hX (hP.sub (ws' := [(h2, .inr (11, [.long n1, .long n2, .long n3, .long n4, .long n5, .long n6]))]) [1] rfl) (hK.sub (tys' := []) [] rfl) (hD.sub (ws' := [(h2, .inr (11, [.long n1, .long n2, .long n3, .long n4, .long n5, .long n6]))]) [1] (by decide) rfl) rfl rfl rfl rfl hl.1 (Nat.le_of_ble_eq_true rfl) d_Cell_becomeAny_9 ⟨(Nat.le_of_ble_eq_true rfl), (Nat.le_of_ble_eq_true rfl)⟩) hP hD hK hS hA [1] [0] rfl rfl (by decide) (by decide) (fun  u H locs hw9_0 hP hD hK hS => ?_)
  try dsimp only at hw9_0
  have hP : va_P D classes [(h0, .inr (10, [.int 1, .int k2, .int k3, .int k4, .int k5, .int k6, .ref h2])), (h2, .inr (11, [.long 0, .long (-1), .long 0, .long (-1), .long (-9223372036854775808), .long 9223372036854775807]))] H := hP
  have hD : va_D A [(h0, .inr (10, [.int 1, .int k2, .int k3, .int k4, .int k5, .int k6, .ref h2])), (h2, .inr (11, [.long 0, .long (-1), .long 0, .long (-1), .long (-9223372036854775808), .long 9223372036854775807]))] := hD
  have hK : va_K D classes [] s := hK
  refine W.widen (k := 0) (n := 0) (Nat.le_of_ble_eq_true rfl) (Nat.le_of_ble_eq_true rfl) ?_
  exact fg_retv () hx hb hr hlocks trivial (hP.sub (ws' := [(h0, .inr (10, [.int 1, .int k2, .int k3, .int k4, .int k5, .int k6, .ref h2])), (h2, .inr (11, [.long 0, .long (-1), .long 0, .long (-1), .long (-9223372036854775808), .long 9223372036854775807]))]) [0, 1] rfl) (hK.sub (tys' := []) [] rfl) (hD.sub (ws' := [(h0, .inr (10, [.int 1, .int k2, .int k3, .int k4, .int k5, .int k6, .ref h2])), (h2, .inr (11, [.long 0, .long (-1), .long 0, .long (-1), .long (-9223372036854775808), .long 9223372036854775807]))]) [0, 1] (by decide) rfl) hS (Nat.le_of_ble_eq_true rfl) (Nat.le_of_ble_eq_true rfl) d_Cell_becomeAny_12
abbrev y_Cell_becomeRead : MethodName := ⟨"FilterGuard$Cell", "becomeRead", "(I)V"⟩
theorem d_Cell_becomeRead_0 : decode prog_2_method_6_code 0 = .ok (.aload_n 0, 1) := by decide +kernel
theorem d_Cell_becomeRead_1 : decode prog_2_method_6_code 1 = .ok (.iconst 1, 1) := by decide +kernel
theorem d_Cell_becomeRead_2 : decode prog_2_method_6_code 2 = .ok (.putfield 18, 3) := by decide +kernel
theorem d_Cell_becomeRead_5 : decode prog_2_method_6_code 5 = .ok (.aload_n 0, 1) := by decide +kernel
theorem d_Cell_becomeRead_6 : decode prog_2_method_6_code 6 = .ok (.getfield 12, 3) := by decide +kernel
theorem d_Cell_becomeRead_9 : decode prog_2_method_6_code 9 = .ok (.invokevirtual 45, 3) := by decide +kernel
theorem d_Cell_becomeRead_12 : decode prog_2_method_6_code 12 = .ok (.iload_n 1, 1) := by decide +kernel
theorem d_Cell_becomeRead_13 : decode prog_2_method_6_code 13 = .ok (.bipush 8, 2) := by decide +kernel
theorem d_Cell_becomeRead_15 : decode prog_2_method_6_code 15 = .ok (.if_icmp .ge 27, 3) := by decide +kernel
theorem d_Cell_becomeRead_42 : decode prog_2_method_6_code 42 = .ok (.return_, 1) := by decide +kernel
theorem d_Cell_becomeRead_18 : decode prog_2_method_6_code 18 = .ok (.aload_n 0, 1) := by decide +kernel
theorem d_Cell_becomeRead_19 : decode prog_2_method_6_code 19 = .ok (.getfield 12, 3) := by decide +kernel
theorem d_Cell_becomeRead_22 : decode prog_2_method_6_code 22 = .ok (.lconst 0, 1) := by decide +kernel
theorem d_Cell_becomeRead_23 : decode prog_2_method_6_code 23 = .ok (.lconst 1, 1) := by decide +kernel
theorem d_Cell_becomeRead_24 : decode prog_2_method_6_code 24 = .ok (.bipush 8, 2) := by decide +kernel
theorem d_Cell_becomeRead_26 : decode prog_2_method_6_code 26 = .ok (.iload_n 1, 1) := by decide +kernel
theorem d_Cell_becomeRead_27 : decode prog_2_method_6_code 27 = .ok (.imul, 1) := by decide +kernel
theorem d_Cell_becomeRead_28 : decode prog_2_method_6_code 28 = .ok (.lshl, 1) := by decide +kernel
theorem d_Cell_becomeRead_29 : decode prog_2_method_6_code 29 = .ok (.lconst 1, 1) := by decide +kernel
theorem d_Cell_becomeRead_30 : decode prog_2_method_6_code 30 = .ok (.lsub, 1) := by decide +kernel
theorem d_Cell_becomeRead_31 : decode prog_2_method_6_code 31 = .ok (.invokevirtual 48, 3) := by decide +kernel
theorem u_1380 : Cond.methodLink "FilterGuard$Cell" 48 ⟨"FilterGuard$Num", "range", "(JJ)V"⟩ ∈ fg_g := fg_in (List.mem_of_getElem? (i := 1380) (by decide +kernel)) rfl
theorem d_Cell_becomeRead_34 : decode prog_2_method_6_code 34 = .ok (.aload_n 0, 1) := by decide +kernel
theorem d_Cell_becomeRead_35 : decode prog_2_method_6_code 35 = .ok (.getfield 12, 3) := by decide +kernel
theorem d_Cell_becomeRead_38 : decode prog_2_method_6_code 38 = .ok (.invokevirtual 52, 3) := by decide +kernel
theorem u_1381 : Cond.methodLink "FilterGuard$Cell" 52 ⟨"FilterGuard$Num", "settle", "()Z"⟩ ∈ fg_g := fg_in (List.mem_of_getElem? (i := 1381) (by decide +kernel)) rfl
theorem d_Cell_becomeRead_41 : decode prog_2_method_6_code 41 = .ok (.pop, 1) := by decide +kernel
def rm_Cell_becomeRead : Room := { frames := 3, cells := 0, slots := 0, locals := 120 }
abbrev q_Cell_becomeRead (D : va_G) (h0 : Nat) (h2 : Nat) (k1 : Int32) (k2 : Int32) (k3 : Int32) (k4 : Int32) (k5 : Int32) (k6 : Int32) (n1 : Int64) (n2 : Int64) (n3 : Int64) (n4 : Int64) (n5 : Int64) (n6 : Int64) (x1 : Int32) (A : Nat → Prop) : Array Value → Jvm.State → Outcome → Jvm.State → Prop := va_Qv (fun (u : Int64 × Int64 × Int64 × Int64 × Int64 × Int64) => fc_read x1 = (u.1, u.2.1, u.2.2.1, u.2.2.2.1, u.2.2.2.2.1, u.2.2.2.2.2)) (fg_B D A (fun (u : Int64 × Int64 × Int64 × Int64 × Int64 × Int64) => [(h0, .inr (10, [.int 1, .int k2, .int k3, .int k4, .int k5, .int k6, .ref h2])), (h2, .inr (11, [.long u.1, .long u.2.1, .long u.2.2.1, .long u.2.2.2.1, .long u.2.2.2.2.1, .long u.2.2.2.2.2]))]) (fun (u : Int64 × Int64 × Int64 × Int64 × Int64 × Int64) => [])) A
set_option maxHeartbeats 4000000 in
set_option maxRecDepth 100000 in
theorem c_Cell_becomeRead (l : Launch) (D : va_G) (h0 : Nat) (h2 : Nat) (k1 : Int32) (k2 : Int32) (k3 : Int32) (k4 : Int32) (k5 : Int32) (k6 : Int32) (n1 : Int64) (n2 : Int64) (n3 : Int64) (n4 : Int64) (n5 : Int64) (n6 : Int64) (x1 : Int32) (sz : Nat) (hb1 : x1 = 1 ∨ x1 = 2 ∨ x1 = 4 ∨ x1 = 8) : Met l y_Cell_becomeRead (fg_w y_Cell_becomeRead prog_2_method_6_code 2 none) rm_Cell_becomeRead (va_Pc [.ref h0, .int x1] (fg_P D [] [(h0, .inr (10, [.int k1, .int k2, .int k3, .int k4, .int k5, .int k6, .ref h2])), (h2, .inr (11, [.long n1, .long n2, .long n3, .long n4, .long n5, .long n6]))] sz)) (q_Cell_becomeRead D h0 h2 k1 k2 k3 k4 k5 k6 n1 n2 n3 n4 n5 n6 x1 (va_A [(h0, .inr (10, [.int k1, .int k2, .int k3, .int k4, .int k5, .int k6, .ref h2])), (h2, .inr (11, [.long n1, .long n2, .long n3, .long n4, .long n5, .long n6]))] sz)) rm_Cell_becomeRead.cells rm_Cell_becomeRead.slots (va_A [(h0, .inr (10, [.int k1, .int k2, .int k3, .int k4, .int k5, .int k6, .ref h2])), (h2, .inr (11, [.long n1, .long n2, .long n3, .long n4, .long n5, .long n6]))] sz) := by
  refine fg_enter (fun A => q_Cell_becomeRead D h0 h2 k1 k2 k3 k4 k5 k6 n1 n2 n3 n4 n5 n6 x1 A) (by decide +kernel) (Nat.le_of_ble_eq_true rfl) ?_
  intro p e s m below meth c ls A hx hb hml hown hts hr hlocks hin hP hK hD hS hA hX hl
  have hl : lv_has ls 2 [(0, .ref h0), (1, .int x1)] := hl
  refine lv_aload_n hx hb d_Cell_becomeRead_0 rfl (lv_at hl 0 rfl) ?_
  refine lv_iconst (v := 1) hx hb d_Cell_becomeRead_1 (by decide) ?_
  refine va_put (D := D) (ci := 10) (v := .int 1) (ty := .int) (C := "FilterGuard$Cell") (T := F_Cell) (N := 7) hx hb hts i_Cell t_Cell t_Cell_ok n_Cell hown hK hP hD hS 0 rfl rfl 0 (by decide) (hts _ u_420) (fun _ h9 => h9) rfl (by decide +kernel) rfl rfl (Nat.le_of_ble_eq_true rfl) d_Cell_becomeRead_2 (fun H locs hP hD hS => ?_)
  have hP : va_P D classes [(h0, .inr (10, [.int 1, .int k2, .int k3, .int k4, .int k5, .int k6, .ref h2])), (h2, .inr (11, [.long n1, .long n2, .long n3, .long n4, .long n5, .long n6]))] H := hP
  have hD : va_D A [(h0, .inr (10, [.int 1, .int k2, .int k3, .int k4, .int k5, .int k6, .ref h2])), (h2, .inr (11, [.long n1, .long n2, .long n3, .long n4, .long n5, .long n6]))] := hD
  refine lv_aload_n hx hb d_Cell_becomeRead_5 rfl (lv_at hl 0 rfl) ?_
  refine va_get (D := D) (ci := 10) (v := .ref h2) (C := "FilterGuard$Cell") (T := F_Cell) (N := 7) hx hb hts i_Cell hown hK hP 0 rfl rfl 6 (by decide) (hts _ u_435) (fun _ h9 => h9) rfl d_Cell_becomeRead_6 ?_
  refine fg_thenv (wr := [(h0, .inr (10, [.int 1, .int k2, .int k3, .int k4, .int k5, .int k6, .ref h2]))]) (fg_runV (C := "FilterGuard$Num") (As := []) (rest := []) (ci := 11) (q0 := 0) ⟨hx, hb, hml, hown, hts⟩ (c_Num_any l D h2 n1 n2 n3 n4 n5 n6 H.size) rfl (by show fg_nm y_Num_any 0; decide +kernel) u_1270 u_1131 u_1132 u_187 u_1133 ⟨Nat.le_of_ble_eq_true rfl, Nat.le_of_ble_eq_true rfl⟩ hX (hP.sub (ws' := [(h2, .inr (11, [.long n1, .long n2, .long n3, .long n4, .long n5, .long n6]))]) [1] rfl) (hK.sub (tys' := []) [] rfl) (hD.sub (ws' := [(h2, .inr (11, [.long n1, .long n2, .long n3, .long n4, .long n5, .long n6]))]) [1] (by decide) rfl) rfl rfl rfl rfl hl.1 (Nat.le_of_ble_eq_true rfl) d_Cell_becomeRead_9 ⟨(Nat.le_of_ble_eq_true rfl), (Nat.le_of_ble_eq_true rfl)⟩) hP hD hK hS hA [1] [0] rfl rfl (by decide) (by decide) (fun  u H locs hw9_0 hP hD hK hS => ?_)
  try dsimp only at hw9_0
  have hP : va_P D classes [(h0, .inr (10, [.int 1, .int k2, .int k3, .int k4, .int k5, .int k6, .ref h2])), (h2, .inr (11, [.long 0, .long (-1), .long 0, .long (-1), .long (-9223372036854775808), .long 9223372036854775807]))] H := hP
  have hD : va_D A [(h0, .inr (10, [.int 1, .int k2, .int k3, .int k4, .int k5, .int k6, .ref h2])), (h2, .inr (11, [.long 0, .long (-1), .long 0, .long (-1), .long (-9223372036854775808), .long 9223372036854775807]))] := hD
  have hK : va_K D classes [] s := hK
  refine W.widen (k := 0) (n := 0) (Nat.le_of_ble_eq_true rfl) (Nat.le_of_ble_eq_true rfl) ?_
  refine lv_iload_n hx hb d_Cell_becomeRead_12 rfl (lv_at hl 1 rfl) ?_
  refine lv_bipush (v := 8) hx hb d_Cell_becomeRead_13 (by decide) ?_
  refine lv_icmp_ge (tgt := 42) hx hb d_Cell_becomeRead_15 (by decide) (fun c_2 => ?_) (fun c_2 => ?_)
  · exact fg_retv (0, (-1), 0, (-1), (-9223372036854775808), 9223372036854775807) hx hb hr hlocks (by unfold fc_read; rw [if_pos c_2]) (hP.sub (ws' := [(h0, .inr (10, [.int 1, .int k2, .int k3, .int k4, .int k5, .int k6, .ref h2])), (h2, .inr (11, [.long 0, .long (-1), .long 0, .long (-1), .long (-9223372036854775808), .long 9223372036854775807]))]) [0, 1] rfl) (hK.sub (tys' := []) [] rfl) (hD.sub (ws' := [(h0, .inr (10, [.int 1, .int k2, .int k3, .int k4, .int k5, .int k6, .ref h2])), (h2, .inr (11, [.long 0, .long (-1), .long 0, .long (-1), .long (-9223372036854775808), .long 9223372036854775807]))]) [0, 1] (by decide) rfl) hS (Nat.le_of_ble_eq_true rfl) (Nat.le_of_ble_eq_true rfl) d_Cell_becomeRead_42
  · refine lv_aload_n hx hb d_Cell_becomeRead_18 rfl (lv_at hl 0 rfl) ?_
    refine va_get (D := D) (ci := 10) (v := .ref h2) (C := "FilterGuard$Cell") (T := F_Cell) (N := 7) hx hb hts i_Cell hown hK hP 0 rfl rfl 6 (by decide) (hts _ u_435) (fun _ h9 => h9) rfl d_Cell_becomeRead_19 ?_
    refine lv_lconst (v := 0) hx hb d_Cell_becomeRead_22 (by decide) ?_
    refine lv_lconst (v := 1) hx hb d_Cell_becomeRead_23 (by decide) ?_
    refine lv_bipush (v := 8) hx hb d_Cell_becomeRead_24 (by decide) ?_
    refine lv_iload_n hx hb d_Cell_becomeRead_26 rfl (lv_at hl 1 rfl) ?_
    refine lv_imul hx hb d_Cell_becomeRead_27 ?_
    refine lv_lshl (v := 1 <<< ((8 * x1).toInt64 &&& 63)) hx hb d_Cell_becomeRead_28 rfl ?_
    refine lv_lconst (v := 1) hx hb d_Cell_becomeRead_29 (by decide) ?_
    refine lv_lsub hx hb d_Cell_becomeRead_30 ?_
    refine fg_thenv (wr := [(h0, .inr (10, [.int 1, .int k2, .int k3, .int k4, .int k5, .int k6, .ref h2]))]) (fg_runV (C := "FilterGuard$Num") (As := [.long 0, .long ((1 <<< ((8 * x1).toInt64 &&& 63)) - 1)]) (rest := []) (ci := 11) (q0 := 0) ⟨hx, hb, hml, hown, hts⟩ (c_Num_range l D h2 0 (-1) 0 (-1) (-9223372036854775808) 9223372036854775807 0 ((1 <<< ((8 * x1).toInt64 &&& 63)) - 1) H.size) rfl (by show fg_nm y_Num_range 2; decide +kernel) u_1380 u_1146 u_1147 u_187 u_1148 ⟨Nat.le_of_ble_eq_true rfl, Nat.le_of_ble_eq_true rfl⟩ hX (hP.sub (ws' := [(h2, .inr (11, [.long 0, .long (-1), .long 0, .long (-1), .long (-9223372036854775808), .long 9223372036854775807]))]) [1] rfl) (hK.sub (tys' := []) [] rfl) (hD.sub (ws' := [(h2, .inr (11, [.long 0, .long (-1), .long 0, .long (-1), .long (-9223372036854775808), .long 9223372036854775807]))]) [1] (by decide) rfl) rfl rfl rfl rfl hl.1 (Nat.le_of_ble_eq_true rfl) d_Cell_becomeRead_31 ⟨(Nat.le_of_ble_eq_true rfl), (Nat.le_of_ble_eq_true rfl)⟩) hP hD hK hS hA [1] [0] rfl rfl (by decide) (by decide) (fun  u H locs hw31_2 hP hD hK hS => ?_)
    try dsimp only at hw31_2
    have hP : va_P D classes [(h0, .inr (10, [.int 1, .int k2, .int k3, .int k4, .int k5, .int k6, .ref h2])), (h2, .inr (11, [.long 0, .long (-1), .long 0, .long ((1 <<< ((8 * x1).toInt64 &&& 63)) - 1), .long (-9223372036854775808), .long 9223372036854775807]))] H := hP
    have hD : va_D A [(h0, .inr (10, [.int 1, .int k2, .int k3, .int k4, .int k5, .int k6, .ref h2])), (h2, .inr (11, [.long 0, .long (-1), .long 0, .long ((1 <<< ((8 * x1).toInt64 &&& 63)) - 1), .long (-9223372036854775808), .long 9223372036854775807]))] := hD
    have hK : va_K D classes [] s := hK
    refine W.widen (k := 0) (n := 0) (Nat.le_of_ble_eq_true rfl) (Nat.le_of_ble_eq_true rfl) ?_
    refine lv_aload_n hx hb d_Cell_becomeRead_34 rfl (lv_at hl 0 rfl) ?_
    refine va_get (D := D) (ci := 10) (v := .ref h2) (C := "FilterGuard$Cell") (T := F_Cell) (N := 7) hx hb hts i_Cell hown hK hP 0 rfl rfl 6 (by decide) (hts _ u_435) (fun _ h9 => h9) rfl d_Cell_becomeRead_35 ?_
    refine fg_theni (wr := [(h0, .inr (10, [.int 1, .int k2, .int k3, .int k4, .int k5, .int k6, .ref h2]))]) (fg_runV (C := "FilterGuard$Num") (As := []) (rest := []) (ci := 11) (q0 := 0) ⟨hx, hb, hml, hown, hts⟩ (c_Num_settle l D h2 0 (-1) 0 ((1 <<< ((8 * x1).toInt64 &&& 63)) - 1) (-9223372036854775808) 9223372036854775807 H.size) rfl (by show fg_nm y_Num_settle 0; decide +kernel) u_1381 u_1222 u_1223 u_187 u_1224 ⟨Nat.le_of_ble_eq_true rfl, Nat.le_of_ble_eq_true rfl⟩ hX (hP.sub (ws' := [(h2, .inr (11, [.long 0, .long (-1), .long 0, .long ((1 <<< ((8 * x1).toInt64 &&& 63)) - 1), .long (-9223372036854775808), .long 9223372036854775807]))]) [1] rfl) (hK.sub (tys' := []) [] rfl) (hD.sub (ws' := [(h2, .inr (11, [.long 0, .long (-1), .long 0, .long ((1 <<< ((8 * x1).toInt64 &&& 63)) - 1), .long (-9223372036854775808), .long 9223372036854775807]))]) [1] (by decide) rfl) rfl rfl rfl rfl hl.1 (Nat.le_of_ble_eq_true rfl) d_Cell_becomeRead_38 ⟨(Nat.le_of_ble_eq_true rfl), (Nat.le_of_ble_eq_true rfl)⟩) hP hD hK hS hA [1] [0] rfl rfl (by decide) (by decide) (fun r38_4 u H locs hw38_3 hP hD hK hS => ?_)
    obtain ⟨y1_38_4, y2_38_5, y3_38_6, y4_38_7, y5_38_8, y6_38_9⟩ := u
    try dsimp only at hw38_3
    have hP : va_P D classes [(h0, .inr (10, [.int 1, .int k2, .int k3, .int k4, .int k5, .int k6, .ref h2])), (h2, .inr (11, [.long y1_38_4, .long y2_38_5, .long y3_38_6, .long y4_38_7, .long y5_38_8, .long y6_38_9]))] H := hP
    have hD : va_D A [(h0, .inr (10, [.int 1, .int k2, .int k3, .int k4, .int k5, .int k6, .ref h2])), (h2, .inr (11, [.long y1_38_4, .long y2_38_5, .long y3_38_6, .long y4_38_7, .long y5_38_8, .long y6_38_9]))] := hD
    have hK : va_K D classes [] s := hK
    refine W.widen (k := 0) (n := 0) (Nat.le_of_ble_eq_true rfl) (Nat.le_of_ble_eq_true rfl) ?_
    refine lv_pop hx hb d_Cell_becomeRead_41 rfl ?_
    exact fg_retv (y1_38_4, y2_38_5, y3_38_6, y4_38_7, y5_38_8, y6_38_9) hx hb hr hlocks (fc_read_r hb1 c_2 hw38_3) (hP.sub (ws' := [(h0, .inr (10, [.int 1, .int k2, .int k3, .int k4, .int k5, .int k6, .ref h2])), (h2, .inr (11, [.long y1_38_4, .long y2_38_5, .long y3_38_6, .long y4_38_7, .long y5_38_8, .long y6_38_9]))]) [0, 1] rfl) (hK.sub (tys' := []) [] rfl) (hD.sub (ws' := [(h0, .inr (10, [.int 1, .int k2, .int k3, .int k4, .int k5, .int k6, .ref h2])), (h2, .inr (11, [.long y1_38_4, .long y2_38_5, .long y3_38_6, .long y4_38_7, .long y5_38_8, .long y6_38_9]))]) [0, 1] (by decide) rfl) hS (Nat.le_of_ble_eq_true rfl) (Nat.le_of_ble_eq_true rfl) d_Cell_becomeRead_42
abbrev y_Cell_become : MethodName := ⟨"FilterGuard$Cell", "become", "(II)V"⟩
theorem d_Cell_become_0 : decode prog_2_method_7_code 0 = .ok (.aload_n 0, 1) := by decide +kernel
theorem d_Cell_become_1 : decode prog_2_method_7_code 1 = .ok (.iload_n 1, 1) := by decide +kernel
theorem d_Cell_become_2 : decode prog_2_method_7_code 2 = .ok (.putfield 18, 3) := by decide +kernel
theorem d_Cell_become_5 : decode prog_2_method_7_code 5 = .ok (.aload_n 0, 1) := by decide +kernel
theorem d_Cell_become_6 : decode prog_2_method_7_code 6 = .ok (.iload_n 2, 1) := by decide +kernel
theorem d_Cell_become_7 : decode prog_2_method_7_code 7 = .ok (.putfield 25, 3) := by decide +kernel
theorem d_Cell_become_10 : decode prog_2_method_7_code 10 = .ok (.aload_n 0, 1) := by decide +kernel
theorem d_Cell_become_11 : decode prog_2_method_7_code 11 = .ok (.iconst 0, 1) := by decide +kernel
theorem d_Cell_become_12 : decode prog_2_method_7_code 12 = .ok (.putfield 28, 3) := by decide +kernel
theorem d_Cell_become_15 : decode prog_2_method_7_code 15 = .ok (.aload_n 0, 1) := by decide +kernel
theorem d_Cell_become_16 : decode prog_2_method_7_code 16 = .ok (.iconst 0, 1) := by decide +kernel
theorem d_Cell_become_17 : decode prog_2_method_7_code 17 = .ok (.putfield 31, 3) := by decide +kernel
theorem d_Cell_become_20 : decode prog_2_method_7_code 20 = .ok (.aload_n 0, 1) := by decide +kernel
theorem d_Cell_become_21 : decode prog_2_method_7_code 21 = .ok (.iconst 0, 1) := by decide +kernel
theorem d_Cell_become_22 : decode prog_2_method_7_code 22 = .ok (.putfield 34, 3) := by decide +kernel
theorem d_Cell_become_25 : decode prog_2_method_7_code 25 = .ok (.aload_n 0, 1) := by decide +kernel
theorem d_Cell_become_26 : decode prog_2_method_7_code 26 = .ok (.getfield 12, 3) := by decide +kernel
theorem d_Cell_become_29 : decode prog_2_method_7_code 29 = .ok (.lconst 0, 1) := by decide +kernel
theorem d_Cell_become_30 : decode prog_2_method_7_code 30 = .ok (.invokevirtual 41, 3) := by decide +kernel
theorem d_Cell_become_33 : decode prog_2_method_7_code 33 = .ok (.return_, 1) := by decide +kernel
def rm_Cell_become : Room := { frames := 2, cells := 0, slots := 0, locals := 60 }
abbrev q_Cell_become (D : va_G) (h0 : Nat) (h2 : Nat) (k1 : Int32) (k2 : Int32) (k3 : Int32) (k4 : Int32) (k5 : Int32) (k6 : Int32) (n1 : Int64) (n2 : Int64) (n3 : Int64) (n4 : Int64) (n5 : Int64) (n6 : Int64) (x1 : Int32) (x2 : Int32) (A : Nat → Prop) : Array Value → Jvm.State → Outcome → Jvm.State → Prop := va_Qv (fun (_ : Unit) => True) (fg_B D A (fun (_ : Unit) => [(h0, .inr (10, [.int x1, .int x2, .int 0, .int 0, .int 0, .int k6, .ref h2])), (h2, .inr (11, [.long 0, .long 0, .long 0, .long 0, .long 0, .long 0]))]) (fun (_ : Unit) => [])) A
set_option maxHeartbeats 4000000 in
set_option maxRecDepth 100000 in
theorem c_Cell_become (l : Launch) (D : va_G) (h0 : Nat) (h2 : Nat) (k1 : Int32) (k2 : Int32) (k3 : Int32) (k4 : Int32) (k5 : Int32) (k6 : Int32) (n1 : Int64) (n2 : Int64) (n3 : Int64) (n4 : Int64) (n5 : Int64) (n6 : Int64) (x1 : Int32) (x2 : Int32) (sz : Nat) : Met l y_Cell_become (fg_w y_Cell_become prog_2_method_7_code 3 none) rm_Cell_become (va_Pc [.ref h0, .int x1, .int x2] (fg_P D [] [(h0, .inr (10, [.int k1, .int k2, .int k3, .int k4, .int k5, .int k6, .ref h2])), (h2, .inr (11, [.long n1, .long n2, .long n3, .long n4, .long n5, .long n6]))] sz)) (q_Cell_become D h0 h2 k1 k2 k3 k4 k5 k6 n1 n2 n3 n4 n5 n6 x1 x2 (va_A [(h0, .inr (10, [.int k1, .int k2, .int k3, .int k4, .int k5, .int k6, .ref h2])), (h2, .inr (11, [.long n1, .long n2, .long n3, .long n4, .long n5, .long n6]))] sz)) rm_Cell_become.cells rm_Cell_become.slots (va_A [(h0, .inr (10, [.int k1, .int k2, .int k3, .int k4, .int k5, .int k6, .ref h2])), (h2, .inr (11, [.long n1, .long n2, .long n3, .long n4, .long n5, .long n6]))] sz) := by
  refine fg_enter (fun A => q_Cell_become D h0 h2 k1 k2 k3 k4 k5 k6 n1 n2 n3 n4 n5 n6 x1 x2 A) (by decide +kernel) (Nat.le_of_ble_eq_true rfl) ?_
  intro p e s m below meth c ls A hx hb hml hown hts hr hlocks hin hP hK hD hS hA hX hl
  have hl : lv_has ls 3 [(0, .ref h0), (1, .int x1), (2, .int x2)] := hl
  refine lv_aload_n hx hb d_Cell_become_0 rfl (lv_at hl 0 rfl) ?_
  refine lv_iload_n hx hb d_Cell_become_1 rfl (lv_at hl 1 rfl) ?_
  refine va_put (D := D) (ci := 10) (v := .int x1) (ty := .int) (C := "FilterGuard$Cell") (T := F_Cell) (N := 7) hx hb hts i_Cell t_Cell t_Cell_ok n_Cell hown hK hP hD hS 0 rfl rfl 0 (by decide) (hts _ u_420) (fun _ h9 => h9) rfl (by decide +kernel) rfl rfl (Nat.le_of_ble_eq_true rfl) d_Cell_become_2 (fun H locs hP hD hS => ?_)
  have hP : va_P D classes [(h0, .inr (10, [.int x1, .int k2, .int k3, .int k4, .int k5, .int k6, .ref h2])), (h2, .inr (11, [.long n1, .long n2, .long n3, .long n4, .long n5, .long n6]))] H := hP
  have hD : va_D A [(h0, .inr (10, [.int x1, .int k2, .int k3, .int k4, .int k5, .int k6, .ref h2])), (h2, .inr (11, [.long n1, .long n2, .long n3, .long n4, .long n5, .long n6]))] := hD
  refine lv_aload_n hx hb d_Cell_become_5 rfl (lv_at hl 0 rfl) ?_
  refine lv_iload_n hx hb d_Cell_become_6 rfl (lv_at hl 2 rfl) ?_
  refine va_put (D := D) (ci := 10) (v := .int x2) (ty := .int) (C := "FilterGuard$Cell") (T := F_Cell) (N := 7) hx hb hts i_Cell t_Cell t_Cell_ok n_Cell hown hK hP hD hS 0 rfl rfl 1 (by decide) (hts _ u_424) (fun _ h9 => h9) rfl (by decide +kernel) rfl rfl (Nat.le_of_ble_eq_true rfl) d_Cell_become_7 (fun H locs hP hD hS => ?_)
  have hP : va_P D classes [(h0, .inr (10, [.int x1, .int x2, .int k3, .int k4, .int k5, .int k6, .ref h2])), (h2, .inr (11, [.long n1, .long n2, .long n3, .long n4, .long n5, .long n6]))] H := hP
  have hD : va_D A [(h0, .inr (10, [.int x1, .int x2, .int k3, .int k4, .int k5, .int k6, .ref h2])), (h2, .inr (11, [.long n1, .long n2, .long n3, .long n4, .long n5, .long n6]))] := hD
  refine lv_aload_n hx hb d_Cell_become_10 rfl (lv_at hl 0 rfl) ?_
  refine lv_iconst (v := 0) hx hb d_Cell_become_11 (by decide) ?_
  refine va_put (D := D) (ci := 10) (v := .int 0) (ty := .int) (C := "FilterGuard$Cell") (T := F_Cell) (N := 7) hx hb hts i_Cell t_Cell t_Cell_ok n_Cell hown hK hP hD hS 0 rfl rfl 2 (by decide) (hts _ u_426) (fun _ h9 => h9) rfl (by decide +kernel) rfl rfl (Nat.le_of_ble_eq_true rfl) d_Cell_become_12 (fun H locs hP hD hS => ?_)
  have hP : va_P D classes [(h0, .inr (10, [.int x1, .int x2, .int 0, .int k4, .int k5, .int k6, .ref h2])), (h2, .inr (11, [.long n1, .long n2, .long n3, .long n4, .long n5, .long n6]))] H := hP
  have hD : va_D A [(h0, .inr (10, [.int x1, .int x2, .int 0, .int k4, .int k5, .int k6, .ref h2])), (h2, .inr (11, [.long n1, .long n2, .long n3, .long n4, .long n5, .long n6]))] := hD
  refine lv_aload_n hx hb d_Cell_become_15 rfl (lv_at hl 0 rfl) ?_
  refine lv_iconst (v := 0) hx hb d_Cell_become_16 (by decide) ?_
  refine va_put (D := D) (ci := 10) (v := .int 0) (ty := .int) (C := "FilterGuard$Cell") (T := F_Cell) (N := 7) hx hb hts i_Cell t_Cell t_Cell_ok n_Cell hown hK hP hD hS 0 rfl rfl 3 (by decide) (hts _ u_428) (fun _ h9 => h9) rfl (by decide +kernel) rfl rfl (Nat.le_of_ble_eq_true rfl) d_Cell_become_17 (fun H locs hP hD hS => ?_)
  have hP : va_P D classes [(h0, .inr (10, [.int x1, .int x2, .int 0, .int 0, .int k5, .int k6, .ref h2])), (h2, .inr (11, [.long n1, .long n2, .long n3, .long n4, .long n5, .long n6]))] H := hP
  have hD : va_D A [(h0, .inr (10, [.int x1, .int x2, .int 0, .int 0, .int k5, .int k6, .ref h2])), (h2, .inr (11, [.long n1, .long n2, .long n3, .long n4, .long n5, .long n6]))] := hD
  refine lv_aload_n hx hb d_Cell_become_20 rfl (lv_at hl 0 rfl) ?_
  refine lv_iconst (v := 0) hx hb d_Cell_become_21 (by decide) ?_
  refine va_put (D := D) (ci := 10) (v := .int 0) (ty := .int) (C := "FilterGuard$Cell") (T := F_Cell) (N := 7) hx hb hts i_Cell t_Cell t_Cell_ok n_Cell hown hK hP hD hS 0 rfl rfl 4 (by decide) (hts _ u_431) (fun _ h9 => h9) rfl (by decide +kernel) rfl rfl (Nat.le_of_ble_eq_true rfl) d_Cell_become_22 (fun H locs hP hD hS => ?_)
  have hP : va_P D classes [(h0, .inr (10, [.int x1, .int x2, .int 0, .int 0, .int 0, .int k6, .ref h2])), (h2, .inr (11, [.long n1, .long n2, .long n3, .long n4, .long n5, .long n6]))] H := hP
  have hD : va_D A [(h0, .inr (10, [.int x1, .int x2, .int 0, .int 0, .int 0, .int k6, .ref h2])), (h2, .inr (11, [.long n1, .long n2, .long n3, .long n4, .long n5, .long n6]))] := hD
  refine lv_aload_n hx hb d_Cell_become_25 rfl (lv_at hl 0 rfl) ?_
  refine va_get (D := D) (ci := 10) (v := .ref h2) (C := "FilterGuard$Cell") (T := F_Cell) (N := 7) hx hb hts i_Cell hown hK hP 0 rfl rfl 6 (by decide) (hts _ u_435) (fun _ h9 => h9) rfl d_Cell_become_26 ?_
  refine lv_lconst (v := 0) hx hb d_Cell_become_29 (by decide) ?_
  refine fg_thenv (wr := [(h0, .inr (10, [.int x1, .int x2, .int 0, .int 0, .int 0, .int k6, .ref h2]))]) (fg_runV (C := "FilterGuard$Num") (As := [.long 0]) (rest := []) (ci := 11) (q0 := 0) ⟨hx, hb, hml, hown, hts⟩ (c_Num_exact l D h2 n1 n2 n3 n4 n5 n6 0 H.size) rfl (by show fg_nm y_Num_exact 1; decide +kernel) u_1036 u_1037 u_1038 u_187 u_1039 ⟨Nat.le_of_ble_eq_true rfl, Nat.le_of_ble_eq_true rfl⟩ hX (hP.sub (ws' := [(h2, .inr (11, [.long n1, .long n2, .long n3, .long n4, .long n5, .long n6]))]) [1] rfl) (hK.sub (tys' := []) [] rfl) (hD.sub (ws' := [(h2, .inr (11, [.long n1, .long n2, .long n3, .long n4, .long n5, .long n6]))]) [1] (by decide) rfl) rfl rfl rfl rfl hl.1 (Nat.le_of_ble_eq_true rfl) d_Cell_become_30 ⟨(Nat.le_of_ble_eq_true rfl), (Nat.le_of_ble_eq_true rfl)⟩) hP hD hK hS hA [1] [0] rfl rfl (by decide) (by decide) (fun  u H locs hw30_0 hP hD hK hS => ?_)
  try dsimp only at hw30_0
  have hP : va_P D classes [(h0, .inr (10, [.int x1, .int x2, .int 0, .int 0, .int 0, .int k6, .ref h2])), (h2, .inr (11, [.long 0, .long 0, .long 0, .long 0, .long 0, .long 0]))] H := hP
  have hD : va_D A [(h0, .inr (10, [.int x1, .int x2, .int 0, .int 0, .int 0, .int k6, .ref h2])), (h2, .inr (11, [.long 0, .long 0, .long 0, .long 0, .long 0, .long 0]))] := hD
  have hK : va_K D classes [] s := hK
  refine W.widen (k := 0) (n := 0) (Nat.le_of_ble_eq_true rfl) (Nat.le_of_ble_eq_true rfl) ?_
  exact fg_retv () hx hb hr hlocks trivial (hP.sub (ws' := [(h0, .inr (10, [.int x1, .int x2, .int 0, .int 0, .int 0, .int k6, .ref h2])), (h2, .inr (11, [.long 0, .long 0, .long 0, .long 0, .long 0, .long 0]))]) [0, 1] rfl) (hK.sub (tys' := []) [] rfl) (hD.sub (ws' := [(h0, .inr (10, [.int x1, .int x2, .int 0, .int 0, .int 0, .int k6, .ref h2])), (h2, .inr (11, [.long 0, .long 0, .long 0, .long 0, .long 0, .long 0]))]) [0, 1] (by decide) rfl) hS (Nat.le_of_ble_eq_true rfl) (Nat.le_of_ble_eq_true rfl) d_Cell_become_33
abbrev y_Cell_isPointer : MethodName := ⟨"FilterGuard$Cell", "isPointer", "()Z"⟩
theorem d_Cell_isPointer_0 : decode prog_2_method_8_code 0 = .ok (.aload_n 0, 1) := by decide +kernel
theorem d_Cell_isPointer_1 : decode prog_2_method_8_code 1 = .ok (.getfield 18, 3) := by decide +kernel
theorem d_Cell_isPointer_4 : decode prog_2_method_8_code 4 = .ok (.iconst 2, 1) := by decide +kernel
theorem d_Cell_isPointer_5 : decode prog_2_method_8_code 5 = .ok (.if_icmp .eq 28, 3) := by decide +kernel
theorem d_Cell_isPointer_33 : decode prog_2_method_8_code 33 = .ok (.iconst 1, 1) := by decide +kernel
theorem d_Cell_isPointer_34 : decode prog_2_method_8_code 34 = .ok (.goto 4, 3) := by decide +kernel
theorem d_Cell_isPointer_38 : decode prog_2_method_8_code 38 = .ok (.ireturn, 1) := by decide +kernel
theorem d_Cell_isPointer_8 : decode prog_2_method_8_code 8 = .ok (.aload_n 0, 1) := by decide +kernel
theorem d_Cell_isPointer_9 : decode prog_2_method_8_code 9 = .ok (.getfield 18, 3) := by decide +kernel
theorem d_Cell_isPointer_12 : decode prog_2_method_8_code 12 = .ok (.iconst 3, 1) := by decide +kernel
theorem d_Cell_isPointer_13 : decode prog_2_method_8_code 13 = .ok (.if_icmp .eq 20, 3) := by decide +kernel
theorem d_Cell_isPointer_16 : decode prog_2_method_8_code 16 = .ok (.aload_n 0, 1) := by decide +kernel
theorem d_Cell_isPointer_17 : decode prog_2_method_8_code 17 = .ok (.getfield 18, 3) := by decide +kernel
theorem d_Cell_isPointer_20 : decode prog_2_method_8_code 20 = .ok (.iconst 4, 1) := by decide +kernel
theorem d_Cell_isPointer_21 : decode prog_2_method_8_code 21 = .ok (.if_icmp .eq 12, 3) := by decide +kernel
theorem d_Cell_isPointer_24 : decode prog_2_method_8_code 24 = .ok (.aload_n 0, 1) := by decide +kernel
theorem d_Cell_isPointer_25 : decode prog_2_method_8_code 25 = .ok (.getfield 18, 3) := by decide +kernel
theorem d_Cell_isPointer_28 : decode prog_2_method_8_code 28 = .ok (.bipush 7, 2) := by decide +kernel
theorem d_Cell_isPointer_30 : decode prog_2_method_8_code 30 = .ok (.if_icmp .ne 7, 3) := by decide +kernel
theorem d_Cell_isPointer_37 : decode prog_2_method_8_code 37 = .ok (.iconst 0, 1) := by decide +kernel
def rm_Cell_isPointer : Room := { frames := 1, cells := 0, slots := 0, locals := 20 }
abbrev q_Cell_isPointer (D : va_G) (h0 : Nat) (h2 : Nat) (k1 : Int32) (k2 : Int32) (k3 : Int32) (k4 : Int32) (k5 : Int32) (k6 : Int32) (A : Nat → Prop) : Array Value → Jvm.State → Outcome → Jvm.State → Prop := va_Qi (fun (r : Int32) (_ : Unit) => r = (if k1 = 2 ∨ k1 = 3 ∨ k1 = 4 ∨ k1 = 7 then 1 else 0)) (fg_B D A (fun (_ : Unit) => [(h0, .inr (10, [.int k1, .int k2, .int k3, .int k4, .int k5, .int k6, .ref h2]))]) (fun (_ : Unit) => [])) A
set_option maxHeartbeats 4000000 in
set_option maxRecDepth 100000 in
theorem c_Cell_isPointer (l : Launch) (D : va_G) (h0 : Nat) (h2 : Nat) (k1 : Int32) (k2 : Int32) (k3 : Int32) (k4 : Int32) (k5 : Int32) (k6 : Int32) (sz : Nat) : Met l y_Cell_isPointer (fg_w y_Cell_isPointer prog_2_method_8_code 1 (some .boolean)) rm_Cell_isPointer (va_Pc [.ref h0] (fg_P D [] [(h0, .inr (10, [.int k1, .int k2, .int k3, .int k4, .int k5, .int k6, .ref h2]))] sz)) (q_Cell_isPointer D h0 h2 k1 k2 k3 k4 k5 k6 (va_A [(h0, .inr (10, [.int k1, .int k2, .int k3, .int k4, .int k5, .int k6, .ref h2]))] sz)) rm_Cell_isPointer.cells rm_Cell_isPointer.slots (va_A [(h0, .inr (10, [.int k1, .int k2, .int k3, .int k4, .int k5, .int k6, .ref h2]))] sz) := by
  refine fg_enter (fun A => q_Cell_isPointer D h0 h2 k1 k2 k3 k4 k5 k6 A) (by decide +kernel) (Nat.le_of_ble_eq_true rfl) ?_
  intro p e s m below meth c ls A hx hb hml hown hts hr hlocks hin hP hK hD hS hA hX hl
  have hl : lv_has ls 1 [(0, .ref h0)] := hl
  refine lv_aload_n hx hb d_Cell_isPointer_0 rfl (lv_at hl 0 rfl) ?_
  refine va_get (D := D) (ci := 10) (v := .int k1) (C := "FilterGuard$Cell") (T := F_Cell) (N := 7) hx hb hts i_Cell hown hK hP 0 rfl rfl 0 (by decide) (hts _ u_420) (fun _ h9 => h9) rfl d_Cell_isPointer_1 ?_
  refine lv_iconst (v := 2) hx hb d_Cell_isPointer_4 (by decide) ?_
  refine lv_icmp_eq (tgt := 33) hx hb d_Cell_isPointer_5 (by decide) (fun c_1 => ?_) (fun c_1 => ?_)
  · refine lv_iconst (v := 1) hx hb d_Cell_isPointer_33 (by decide) ?_
    refine lv_goto (tgt := 38) hx hb d_Cell_isPointer_34 (by decide) ?_
    exact fg_retz () hx hb hr hlocks rfl (by rw [if_pos (Or.inl c_1)]) (hP.sub (ws' := [(h0, .inr (10, [.int k1, .int k2, .int k3, .int k4, .int k5, .int k6, .ref h2]))]) [0] rfl) (hK.sub (tys' := []) [] rfl) (hD.sub (ws' := [(h0, .inr (10, [.int k1, .int k2, .int k3, .int k4, .int k5, .int k6, .ref h2]))]) [0] (by decide) rfl) hS (Nat.le_of_ble_eq_true rfl) (Nat.le_of_ble_eq_true rfl) d_Cell_isPointer_38
  · refine lv_aload_n hx hb d_Cell_isPointer_8 rfl (lv_at hl 0 rfl) ?_
    refine va_get (D := D) (ci := 10) (v := .int k1) (C := "FilterGuard$Cell") (T := F_Cell) (N := 7) hx hb hts i_Cell hown hK hP 0 rfl rfl 0 (by decide) (hts _ u_420) (fun _ h9 => h9) rfl d_Cell_isPointer_9 ?_
    refine lv_iconst (v := 3) hx hb d_Cell_isPointer_12 (by decide) ?_
    refine lv_icmp_eq (tgt := 33) hx hb d_Cell_isPointer_13 (by decide) (fun c_2 => ?_) (fun c_2 => ?_)
    · refine lv_iconst (v := 1) hx hb d_Cell_isPointer_33 (by decide) ?_
      refine lv_goto (tgt := 38) hx hb d_Cell_isPointer_34 (by decide) ?_
      exact fg_retz () hx hb hr hlocks rfl (by rw [if_pos (Or.inr (Or.inl c_2))]) (hP.sub (ws' := [(h0, .inr (10, [.int k1, .int k2, .int k3, .int k4, .int k5, .int k6, .ref h2]))]) [0] rfl) (hK.sub (tys' := []) [] rfl) (hD.sub (ws' := [(h0, .inr (10, [.int k1, .int k2, .int k3, .int k4, .int k5, .int k6, .ref h2]))]) [0] (by decide) rfl) hS (Nat.le_of_ble_eq_true rfl) (Nat.le_of_ble_eq_true rfl) d_Cell_isPointer_38
    · refine lv_aload_n hx hb d_Cell_isPointer_16 rfl (lv_at hl 0 rfl) ?_
      refine va_get (D := D) (ci := 10) (v := .int k1) (C := "FilterGuard$Cell") (T := F_Cell) (N := 7) hx hb hts i_Cell hown hK hP 0 rfl rfl 0 (by decide) (hts _ u_420) (fun _ h9 => h9) rfl d_Cell_isPointer_17 ?_
      refine lv_iconst (v := 4) hx hb d_Cell_isPointer_20 (by decide) ?_
      refine lv_icmp_eq (tgt := 33) hx hb d_Cell_isPointer_21 (by decide) (fun c_3 => ?_) (fun c_3 => ?_)
      · refine lv_iconst (v := 1) hx hb d_Cell_isPointer_33 (by decide) ?_
        refine lv_goto (tgt := 38) hx hb d_Cell_isPointer_34 (by decide) ?_
        exact fg_retz () hx hb hr hlocks rfl (by rw [if_pos (Or.inr (Or.inr (Or.inl c_3)))]) (hP.sub (ws' := [(h0, .inr (10, [.int k1, .int k2, .int k3, .int k4, .int k5, .int k6, .ref h2]))]) [0] rfl) (hK.sub (tys' := []) [] rfl) (hD.sub (ws' := [(h0, .inr (10, [.int k1, .int k2, .int k3, .int k4, .int k5, .int k6, .ref h2]))]) [0] (by decide) rfl) hS (Nat.le_of_ble_eq_true rfl) (Nat.le_of_ble_eq_true rfl) d_Cell_isPointer_38
      · refine lv_aload_n hx hb d_Cell_isPointer_24 rfl (lv_at hl 0 rfl) ?_
        refine va_get (D := D) (ci := 10) (v := .int k1) (C := "FilterGuard$Cell") (T := F_Cell) (N := 7) hx hb hts i_Cell hown hK hP 0 rfl rfl 0 (by decide) (hts _ u_420) (fun _ h9 => h9) rfl d_Cell_isPointer_25 ?_
        refine lv_bipush (v := 7) hx hb d_Cell_isPointer_28 (by decide) ?_
        refine lv_icmp_ne (tgt := 37) hx hb d_Cell_isPointer_30 (by decide) (fun c_4 => ?_) (fun c_4 => ?_)
        · refine lv_iconst (v := 0) hx hb d_Cell_isPointer_37 (by decide) ?_
          exact fg_retz () hx hb hr hlocks rfl (by rw [if_neg (fun z => z.elim c_1 (fun z => z.elim c_2 (fun z => z.elim c_3 c_4)))]) (hP.sub (ws' := [(h0, .inr (10, [.int k1, .int k2, .int k3, .int k4, .int k5, .int k6, .ref h2]))]) [0] rfl) (hK.sub (tys' := []) [] rfl) (hD.sub (ws' := [(h0, .inr (10, [.int k1, .int k2, .int k3, .int k4, .int k5, .int k6, .ref h2]))]) [0] (by decide) rfl) hS (Nat.le_of_ble_eq_true rfl) (Nat.le_of_ble_eq_true rfl) d_Cell_isPointer_38
        · refine lv_iconst (v := 1) hx hb d_Cell_isPointer_33 (by decide) ?_
          refine lv_goto (tgt := 38) hx hb d_Cell_isPointer_34 (by decide) ?_
          exact fg_retz () hx hb hr hlocks rfl (by rw [if_pos (Or.inr (Or.inr (Or.inr c_4)))]) (hP.sub (ws' := [(h0, .inr (10, [.int k1, .int k2, .int k3, .int k4, .int k5, .int k6, .ref h2]))]) [0] rfl) (hK.sub (tys' := []) [] rfl) (hD.sub (ws' := [(h0, .inr (10, [.int k1, .int k2, .int k3, .int k4, .int k5, .int k6, .ref h2]))]) [0] (by decide) rfl) hS (Nat.le_of_ble_eq_true rfl) (Nat.le_of_ble_eq_true rfl) d_Cell_isPointer_38
abbrev y_Cell_isZero : MethodName := ⟨"FilterGuard$Cell", "isZero", "()Z"⟩
theorem d_Cell_isZero_0 : decode prog_2_method_9_code 0 = .ok (.aload_n 0, 1) := by decide +kernel
theorem d_Cell_isZero_1 : decode prog_2_method_9_code 1 = .ok (.getfield 18, 3) := by decide +kernel
theorem d_Cell_isZero_4 : decode prog_2_method_9_code 4 = .ok (.iconst 1, 1) := by decide +kernel
theorem d_Cell_isZero_5 : decode prog_2_method_9_code 5 = .ok (.if_icmp .ne 18, 3) := by decide +kernel
theorem d_Cell_isZero_23 : decode prog_2_method_9_code 23 = .ok (.iconst 0, 1) := by decide +kernel
theorem d_Cell_isZero_24 : decode prog_2_method_9_code 24 = .ok (.ireturn, 1) := by decide +kernel
theorem d_Cell_isZero_8 : decode prog_2_method_9_code 8 = .ok (.aload_n 0, 1) := by decide +kernel
theorem d_Cell_isZero_9 : decode prog_2_method_9_code 9 = .ok (.getfield 12, 3) := by decide +kernel
theorem d_Cell_isZero_12 : decode prog_2_method_9_code 12 = .ok (.lconst 0, 1) := by decide +kernel
theorem d_Cell_isZero_13 : decode prog_2_method_9_code 13 = .ok (.invokevirtual 56, 3) := by decide +kernel
theorem u_1329 : Cond.methodLink "FilterGuard$Cell" 56 ⟨"FilterGuard$Num", "isExact", "(J)Z"⟩ ∈ fg_g := fg_in (List.mem_of_getElem? (i := 1329) (by decide +kernel)) rfl
theorem d_Cell_isZero_16 : decode prog_2_method_9_code 16 = .ok (.ifCond .eq 7, 3) := by decide +kernel
theorem d_Cell_isZero_19 : decode prog_2_method_9_code 19 = .ok (.iconst 1, 1) := by decide +kernel
theorem d_Cell_isZero_20 : decode prog_2_method_9_code 20 = .ok (.goto 4, 3) := by decide +kernel
def rm_Cell_isZero : Room := { frames := 2, cells := 0, slots := 0, locals := 60 }
abbrev q_Cell_isZero (D : va_G) (h0 : Nat) (h2 : Nat) (k1 : Int32) (k2 : Int32) (k3 : Int32) (k4 : Int32) (k5 : Int32) (k6 : Int32) (n1 : Int64) (n2 : Int64) (n3 : Int64) (n4 : Int64) (n5 : Int64) (n6 : Int64) (A : Nat → Prop) : Array Value → Jvm.State → Outcome → Jvm.State → Prop := va_Qi (fun (r : Int32) (_ : Unit) => r = (if k1 = 1 ∧ (n2 = 0 ∧ n1 = 0) then 1 else 0)) (fg_B D A (fun (_ : Unit) => [(h0, .inr (10, [.int k1, .int k2, .int k3, .int k4, .int k5, .int k6, .ref h2])), (h2, .inr (11, [.long n1, .long n2, .long n3, .long n4, .long n5, .long n6]))]) (fun (_ : Unit) => [])) A
set_option maxHeartbeats 4000000 in
set_option maxRecDepth 100000 in
theorem c_Cell_isZero (l : Launch) (D : va_G) (h0 : Nat) (h2 : Nat) (k1 : Int32) (k2 : Int32) (k3 : Int32) (k4 : Int32) (k5 : Int32) (k6 : Int32) (n1 : Int64) (n2 : Int64) (n3 : Int64) (n4 : Int64) (n5 : Int64) (n6 : Int64) (sz : Nat) : Met l y_Cell_isZero (fg_w y_Cell_isZero prog_2_method_9_code 1 (some .boolean)) rm_Cell_isZero (va_Pc [.ref h0] (fg_P D [] [(h0, .inr (10, [.int k1, .int k2, .int k3, .int k4, .int k5, .int k6, .ref h2])), (h2, .inr (11, [.long n1, .long n2, .long n3, .long n4, .long n5, .long n6]))] sz)) (q_Cell_isZero D h0 h2 k1 k2 k3 k4 k5 k6 n1 n2 n3 n4 n5 n6 (va_A [(h0, .inr (10, [.int k1, .int k2, .int k3, .int k4, .int k5, .int k6, .ref h2])), (h2, .inr (11, [.long n1, .long n2, .long n3, .long n4, .long n5, .long n6]))] sz)) rm_Cell_isZero.cells rm_Cell_isZero.slots (va_A [(h0, .inr (10, [.int k1, .int k2, .int k3, .int k4, .int k5, .int k6, .ref h2])), (h2, .inr (11, [.long n1, .long n2, .long n3, .long n4, .long n5, .long n6]))] sz) := by
  refine fg_enter (fun A => q_Cell_isZero D h0 h2 k1 k2 k3 k4 k5 k6 n1 n2 n3 n4 n5 n6 A) (by decide +kernel) (Nat.le_of_ble_eq_true rfl) ?_
  intro p e s m below meth c ls A hx hb hml hown hts hr hlocks hin hP hK hD hS hA hX hl
  have hl : lv_has ls 1 [(0, .ref h0)] := hl
  refine lv_aload_n hx hb d_Cell_isZero_0 rfl (lv_at hl 0 rfl) ?_
  refine va_get (D := D) (ci := 10) (v := .int k1) (C := "FilterGuard$Cell") (T := F_Cell) (N := 7) hx hb hts i_Cell hown hK hP 0 rfl rfl 0 (by decide) (hts _ u_420) (fun _ h9 => h9) rfl d_Cell_isZero_1 ?_
  refine lv_iconst (v := 1) hx hb d_Cell_isZero_4 (by decide) ?_
  refine lv_icmp_ne (tgt := 23) hx hb d_Cell_isZero_5 (by decide) (fun c_1 => ?_) (fun c_1 => ?_)
  · refine lv_iconst (v := 0) hx hb d_Cell_isZero_23 (by decide) ?_
    exact fg_retz () hx hb hr hlocks rfl (by rw [if_neg (fun z => c_1 z.1)]) (hP.sub (ws' := [(h0, .inr (10, [.int k1, .int k2, .int k3, .int k4, .int k5, .int k6, .ref h2])), (h2, .inr (11, [.long n1, .long n2, .long n3, .long n4, .long n5, .long n6]))]) [0, 1] rfl) (hK.sub (tys' := []) [] rfl) (hD.sub (ws' := [(h0, .inr (10, [.int k1, .int k2, .int k3, .int k4, .int k5, .int k6, .ref h2])), (h2, .inr (11, [.long n1, .long n2, .long n3, .long n4, .long n5, .long n6]))]) [0, 1] (by decide) rfl) hS (Nat.le_of_ble_eq_true rfl) (Nat.le_of_ble_eq_true rfl) d_Cell_isZero_24
  · refine lv_aload_n hx hb d_Cell_isZero_8 rfl (lv_at hl 0 rfl) ?_
    refine va_get (D := D) (ci := 10) (v := .ref h2) (C := "FilterGuard$Cell") (T := F_Cell) (N := 7) hx hb hts i_Cell hown hK hP 0 rfl rfl 6 (by decide) (hts _ u_435) (fun _ h9 => h9) rfl d_Cell_isZero_9 ?_
    refine lv_lconst (v := 0) hx hb d_Cell_isZero_12 (by decide) ?_
    refine fg_theni (wr := [(h0, .inr (10, [.int k1, .int k2, .int k3, .int k4, .int k5, .int k6, .ref h2]))]) (fg_runV (C := "FilterGuard$Num") (As := [.long 0]) (rest := []) (ci := 11) (q0 := 0) ⟨hx, hb, hml, hown, hts⟩ (c_Num_isExact1 l D h2 n1 n2 n3 n4 n5 n6 0 s.heap.size) rfl (by show fg_nm y_Num_isExact1 1; decide +kernel) u_1329 u_1208 u_1209 u_187 u_1210 ⟨Nat.le_of_ble_eq_true rfl, Nat.le_of_ble_eq_true rfl⟩ hX (hP.sub (ws' := [(h2, .inr (11, [.long n1, .long n2, .long n3, .long n4, .long n5, .long n6]))]) [1] rfl) (hK.sub (tys' := []) [] rfl) (hD.sub (ws' := [(h2, .inr (11, [.long n1, .long n2, .long n3, .long n4, .long n5, .long n6]))]) [1] (by decide) rfl) rfl rfl rfl rfl hl.1 (Nat.le_of_ble_eq_true rfl) d_Cell_isZero_13 ⟨(Nat.le_of_ble_eq_true rfl), (Nat.le_of_ble_eq_true rfl)⟩) hP hD hK hS hA [1] [0] rfl rfl (by decide) (by decide) (fun r13_2 u H locs hw13_1 hP hD hK hS => ?_)
    try dsimp only at hw13_1
    have hP : va_P D classes [(h0, .inr (10, [.int k1, .int k2, .int k3, .int k4, .int k5, .int k6, .ref h2])), (h2, .inr (11, [.long n1, .long n2, .long n3, .long n4, .long n5, .long n6]))] H := hP
    have hD : va_D A [(h0, .inr (10, [.int k1, .int k2, .int k3, .int k4, .int k5, .int k6, .ref h2])), (h2, .inr (11, [.long n1, .long n2, .long n3, .long n4, .long n5, .long n6]))] := hD
    have hK : va_K D classes [] s := hK
    refine W.widen (k := 0) (n := 0) (Nat.le_of_ble_eq_true rfl) (Nat.le_of_ble_eq_true rfl) ?_
    refine lv_if_eq (tgt := 23) hx hb d_Cell_isZero_16 (by decide) (fun c_3 => ?_) (fun c_3 => ?_)
    · have gc_3 : ¬ (n2 = 0 ∧ n1 = 0) := fg_ifz hw13_1 c_3
      refine lv_iconst (v := 0) hx hb d_Cell_isZero_23 (by decide) ?_
      exact fg_retz () hx hb hr hlocks rfl (by rw [if_neg (fun z => gc_3 z.2)]) (hP.sub (ws' := [(h0, .inr (10, [.int k1, .int k2, .int k3, .int k4, .int k5, .int k6, .ref h2])), (h2, .inr (11, [.long n1, .long n2, .long n3, .long n4, .long n5, .long n6]))]) [0, 1] rfl) (hK.sub (tys' := []) [] rfl) (hD.sub (ws' := [(h0, .inr (10, [.int k1, .int k2, .int k3, .int k4, .int k5, .int k6, .ref h2])), (h2, .inr (11, [.long n1, .long n2, .long n3, .long n4, .long n5, .long n6]))]) [0, 1] (by decide) rfl) hS (Nat.le_of_ble_eq_true rfl) (Nat.le_of_ble_eq_true rfl) d_Cell_isZero_24
    · have gc_3 : (n2 = 0 ∧ n1 = 0) := fg_ifnz hw13_1 c_3
      refine lv_iconst (v := 1) hx hb d_Cell_isZero_19 (by decide) ?_
      refine lv_goto (tgt := 24) hx hb d_Cell_isZero_20 (by decide) ?_
      exact fg_retz () hx hb hr hlocks rfl (by rw [if_pos ⟨c_1, gc_3⟩]) (hP.sub (ws' := [(h0, .inr (10, [.int k1, .int k2, .int k3, .int k4, .int k5, .int k6, .ref h2])), (h2, .inr (11, [.long n1, .long n2, .long n3, .long n4, .long n5, .long n6]))]) [0, 1] rfl) (hK.sub (tys' := []) [] rfl) (hD.sub (ws' := [(h0, .inr (10, [.int k1, .int k2, .int k3, .int k4, .int k5, .int k6, .ref h2])), (h2, .inr (11, [.long n1, .long n2, .long n3, .long n4, .long n5, .long n6]))]) [0, 1] (by decide) rfl) hS (Nat.le_of_ble_eq_true rfl) (Nat.le_of_ble_eq_true rfl) d_Cell_isZero_24
abbrev y_Cell_isOfPacket : MethodName := ⟨"FilterGuard$Cell", "isOfPacket", "()Z"⟩
theorem d_Cell_isOfPacket_0 : decode prog_2_method_10_code 0 = .ok (.aload_n 0, 1) := by decide +kernel
theorem d_Cell_isOfPacket_1 : decode prog_2_method_10_code 1 = .ok (.getfield 18, 3) := by decide +kernel
theorem d_Cell_isOfPacket_4 : decode prog_2_method_10_code 4 = .ok (.iconst 4, 1) := by decide +kernel
theorem d_Cell_isOfPacket_5 : decode prog_2_method_10_code 5 = .ok (.if_icmp .eq 11, 3) := by decide +kernel
theorem d_Cell_isOfPacket_16 : decode prog_2_method_10_code 16 = .ok (.iconst 1, 1) := by decide +kernel
theorem d_Cell_isOfPacket_17 : decode prog_2_method_10_code 17 = .ok (.goto 4, 3) := by decide +kernel
theorem d_Cell_isOfPacket_21 : decode prog_2_method_10_code 21 = .ok (.ireturn, 1) := by decide +kernel
theorem d_Cell_isOfPacket_8 : decode prog_2_method_10_code 8 = .ok (.aload_n 0, 1) := by decide +kernel
theorem d_Cell_isOfPacket_9 : decode prog_2_method_10_code 9 = .ok (.getfield 18, 3) := by decide +kernel
theorem d_Cell_isOfPacket_12 : decode prog_2_method_10_code 12 = .ok (.iconst 5, 1) := by decide +kernel
theorem d_Cell_isOfPacket_13 : decode prog_2_method_10_code 13 = .ok (.if_icmp .ne 7, 3) := by decide +kernel
theorem d_Cell_isOfPacket_20 : decode prog_2_method_10_code 20 = .ok (.iconst 0, 1) := by decide +kernel
def rm_Cell_isOfPacket : Room := { frames := 1, cells := 0, slots := 0, locals := 20 }
abbrev q_Cell_isOfPacket (D : va_G) (h0 : Nat) (h2 : Nat) (k1 : Int32) (k2 : Int32) (k3 : Int32) (k4 : Int32) (k5 : Int32) (k6 : Int32) (A : Nat → Prop) : Array Value → Jvm.State → Outcome → Jvm.State → Prop := va_Qi (fun (r : Int32) (_ : Unit) => r = (if k1 = 4 ∨ k1 = 5 then 1 else 0)) (fg_B D A (fun (_ : Unit) => [(h0, .inr (10, [.int k1, .int k2, .int k3, .int k4, .int k5, .int k6, .ref h2]))]) (fun (_ : Unit) => [])) A
set_option maxHeartbeats 4000000 in
set_option maxRecDepth 100000 in
theorem c_Cell_isOfPacket (l : Launch) (D : va_G) (h0 : Nat) (h2 : Nat) (k1 : Int32) (k2 : Int32) (k3 : Int32) (k4 : Int32) (k5 : Int32) (k6 : Int32) (sz : Nat) : Met l y_Cell_isOfPacket (fg_w y_Cell_isOfPacket prog_2_method_10_code 1 (some .boolean)) rm_Cell_isOfPacket (va_Pc [.ref h0] (fg_P D [] [(h0, .inr (10, [.int k1, .int k2, .int k3, .int k4, .int k5, .int k6, .ref h2]))] sz)) (q_Cell_isOfPacket D h0 h2 k1 k2 k3 k4 k5 k6 (va_A [(h0, .inr (10, [.int k1, .int k2, .int k3, .int k4, .int k5, .int k6, .ref h2]))] sz)) rm_Cell_isOfPacket.cells rm_Cell_isOfPacket.slots (va_A [(h0, .inr (10, [.int k1, .int k2, .int k3, .int k4, .int k5, .int k6, .ref h2]))] sz) := by
  refine fg_enter (fun A => q_Cell_isOfPacket D h0 h2 k1 k2 k3 k4 k5 k6 A) (by decide +kernel) (Nat.le_of_ble_eq_true rfl) ?_
  intro p e s m below meth c ls A hx hb hml hown hts hr hlocks hin hP hK hD hS hA hX hl
  have hl : lv_has ls 1 [(0, .ref h0)] := hl
  refine lv_aload_n hx hb d_Cell_isOfPacket_0 rfl (lv_at hl 0 rfl) ?_
  refine va_get (D := D) (ci := 10) (v := .int k1) (C := "FilterGuard$Cell") (T := F_Cell) (N := 7) hx hb hts i_Cell hown hK hP 0 rfl rfl 0 (by decide) (hts _ u_420) (fun _ h9 => h9) rfl d_Cell_isOfPacket_1 ?_
  refine lv_iconst (v := 4) hx hb d_Cell_isOfPacket_4 (by decide) ?_
  refine lv_icmp_eq (tgt := 16) hx hb d_Cell_isOfPacket_5 (by decide) (fun c_1 => ?_) (fun c_1 => ?_)
  · refine lv_iconst (v := 1) hx hb d_Cell_isOfPacket_16 (by decide) ?_
    refine lv_goto (tgt := 21) hx hb d_Cell_isOfPacket_17 (by decide) ?_
    exact fg_retz () hx hb hr hlocks rfl (by rw [if_pos (Or.inl c_1)]) (hP.sub (ws' := [(h0, .inr (10, [.int k1, .int k2, .int k3, .int k4, .int k5, .int k6, .ref h2]))]) [0] rfl) (hK.sub (tys' := []) [] rfl) (hD.sub (ws' := [(h0, .inr (10, [.int k1, .int k2, .int k3, .int k4, .int k5, .int k6, .ref h2]))]) [0] (by decide) rfl) hS (Nat.le_of_ble_eq_true rfl) (Nat.le_of_ble_eq_true rfl) d_Cell_isOfPacket_21
  · refine lv_aload_n hx hb d_Cell_isOfPacket_8 rfl (lv_at hl 0 rfl) ?_
    refine va_get (D := D) (ci := 10) (v := .int k1) (C := "FilterGuard$Cell") (T := F_Cell) (N := 7) hx hb hts i_Cell hown hK hP 0 rfl rfl 0 (by decide) (hts _ u_420) (fun _ h9 => h9) rfl d_Cell_isOfPacket_9 ?_
    refine lv_iconst (v := 5) hx hb d_Cell_isOfPacket_12 (by decide) ?_
    refine lv_icmp_ne (tgt := 20) hx hb d_Cell_isOfPacket_13 (by decide) (fun c_2 => ?_) (fun c_2 => ?_)
    · refine lv_iconst (v := 0) hx hb d_Cell_isOfPacket_20 (by decide) ?_
      exact fg_retz () hx hb hr hlocks rfl (by rw [if_neg (fun z => z.elim c_1 c_2)]) (hP.sub (ws' := [(h0, .inr (10, [.int k1, .int k2, .int k3, .int k4, .int k5, .int k6, .ref h2]))]) [0] rfl) (hK.sub (tys' := []) [] rfl) (hD.sub (ws' := [(h0, .inr (10, [.int k1, .int k2, .int k3, .int k4, .int k5, .int k6, .ref h2]))]) [0] (by decide) rfl) hS (Nat.le_of_ble_eq_true rfl) (Nat.le_of_ble_eq_true rfl) d_Cell_isOfPacket_21
    · refine lv_iconst (v := 1) hx hb d_Cell_isOfPacket_16 (by decide) ?_
      refine lv_goto (tgt := 21) hx hb d_Cell_isOfPacket_17 (by decide) ?_
      exact fg_retz () hx hb hr hlocks rfl (by rw [if_pos (Or.inr c_2)]) (hP.sub (ws' := [(h0, .inr (10, [.int k1, .int k2, .int k3, .int k4, .int k5, .int k6, .ref h2]))]) [0] rfl) (hK.sub (tys' := []) [] rfl) (hD.sub (ws' := [(h0, .inr (10, [.int k1, .int k2, .int k3, .int k4, .int k5, .int k6, .ref h2]))]) [0] (by decide) rfl) hS (Nat.le_of_ble_eq_true rfl) (Nat.le_of_ble_eq_true rfl) d_Cell_isOfPacket_21
abbrev y_Cell_isReadable : MethodName := ⟨"FilterGuard$Cell", "isReadable", "(I)Z"⟩
theorem d_Cell_isReadable_0 : decode prog_2_method_11_code 0 = .ok (.aload_n 0, 1) := by decide +kernel
theorem d_Cell_isReadable_1 : decode prog_2_method_11_code 1 = .ok (.getfield 18, 3) := by decide +kernel
theorem d_Cell_isReadable_4 : decode prog_2_method_11_code 4 = .ok (.iconst 1, 1) := by decide +kernel
theorem d_Cell_isReadable_5 : decode prog_2_method_11_code 5 = .ok (.if_icmp .eq 20, 3) := by decide +kernel
theorem d_Cell_isReadable_25 : decode prog_2_method_11_code 25 = .ok (.iconst 1, 1) := by decide +kernel
theorem d_Cell_isReadable_26 : decode prog_2_method_11_code 26 = .ok (.goto 4, 3) := by decide +kernel
theorem d_Cell_isReadable_30 : decode prog_2_method_11_code 30 = .ok (.ireturn, 1) := by decide +kernel
theorem d_Cell_isReadable_8 : decode prog_2_method_11_code 8 = .ok (.aload_n 0, 1) := by decide +kernel
theorem d_Cell_isReadable_9 : decode prog_2_method_11_code 9 = .ok (.getfield 18, 3) := by decide +kernel
theorem d_Cell_isReadable_12 : decode prog_2_method_11_code 12 = .ok (.ifCond .ne 17, 3) := by decide +kernel
theorem d_Cell_isReadable_29 : decode prog_2_method_11_code 29 = .ok (.iconst 0, 1) := by decide +kernel
theorem d_Cell_isReadable_15 : decode prog_2_method_11_code 15 = .ok (.aload_n 0, 1) := by decide +kernel
theorem d_Cell_isReadable_16 : decode prog_2_method_11_code 16 = .ok (.getfield 22, 3) := by decide +kernel
theorem d_Cell_isReadable_19 : decode prog_2_method_11_code 19 = .ok (.iload_n 1, 1) := by decide +kernel
theorem d_Cell_isReadable_20 : decode prog_2_method_11_code 20 = .ok (.iand, 1) := by decide +kernel
theorem d_Cell_isReadable_21 : decode prog_2_method_11_code 21 = .ok (.iload_n 1, 1) := by decide +kernel
theorem d_Cell_isReadable_22 : decode prog_2_method_11_code 22 = .ok (.if_icmp .ne 7, 3) := by decide +kernel
def rm_Cell_isReadable : Room := { frames := 1, cells := 0, slots := 0, locals := 20 }
abbrev q_Cell_isReadable (D : va_G) (h0 : Nat) (h2 : Nat) (k1 : Int32) (k2 : Int32) (k3 : Int32) (k4 : Int32) (k5 : Int32) (k6 : Int32) (x1 : Int32) (A : Nat → Prop) : Array Value → Jvm.State → Outcome → Jvm.State → Prop := va_Qi (fun (r : Int32) (_ : Unit) => r = (if k1 = 1 ∨ (k1 = 0 ∧ k6 &&& x1 = x1) then 1 else 0)) (fg_B D A (fun (_ : Unit) => [(h0, .inr (10, [.int k1, .int k2, .int k3, .int k4, .int k5, .int k6, .ref h2]))]) (fun (_ : Unit) => [])) A
set_option maxHeartbeats 4000000 in
set_option maxRecDepth 100000 in
theorem c_Cell_isReadable (l : Launch) (D : va_G) (h0 : Nat) (h2 : Nat) (k1 : Int32) (k2 : Int32) (k3 : Int32) (k4 : Int32) (k5 : Int32) (k6 : Int32) (x1 : Int32) (sz : Nat) : Met l y_Cell_isReadable (fg_w y_Cell_isReadable prog_2_method_11_code 2 (some .boolean)) rm_Cell_isReadable (va_Pc [.ref h0, .int x1] (fg_P D [] [(h0, .inr (10, [.int k1, .int k2, .int k3, .int k4, .int k5, .int k6, .ref h2]))] sz)) (q_Cell_isReadable D h0 h2 k1 k2 k3 k4 k5 k6 x1 (va_A [(h0, .inr (10, [.int k1, .int k2, .int k3, .int k4, .int k5, .int k6, .ref h2]))] sz)) rm_Cell_isReadable.cells rm_Cell_isReadable.slots (va_A [(h0, .inr (10, [.int k1, .int k2, .int k3, .int k4, .int k5, .int k6, .ref h2]))] sz) := by
  refine fg_enter (fun A => q_Cell_isReadable D h0 h2 k1 k2 k3 k4 k5 k6 x1 A) (by decide +kernel) (Nat.le_of_ble_eq_true rfl) ?_
  intro p e s m below meth c ls A hx hb hml hown hts hr hlocks hin hP hK hD hS hA hX hl
  have hl : lv_has ls 2 [(0, .ref h0), (1, .int x1)] := hl
  refine lv_aload_n hx hb d_Cell_isReadable_0 rfl (lv_at hl 0 rfl) ?_
  refine va_get (D := D) (ci := 10) (v := .int k1) (C := "FilterGuard$Cell") (T := F_Cell) (N := 7) hx hb hts i_Cell hown hK hP 0 rfl rfl 0 (by decide) (hts _ u_420) (fun _ h9 => h9) rfl d_Cell_isReadable_1 ?_
  refine lv_iconst (v := 1) hx hb d_Cell_isReadable_4 (by decide) ?_
  refine lv_icmp_eq (tgt := 25) hx hb d_Cell_isReadable_5 (by decide) (fun c_1 => ?_) (fun c_1 => ?_)
  · refine lv_iconst (v := 1) hx hb d_Cell_isReadable_25 (by decide) ?_
    refine lv_goto (tgt := 30) hx hb d_Cell_isReadable_26 (by decide) ?_
    exact fg_retz () hx hb hr hlocks rfl (by rw [if_pos (Or.inl c_1)]) (hP.sub (ws' := [(h0, .inr (10, [.int k1, .int k2, .int k3, .int k4, .int k5, .int k6, .ref h2]))]) [0] rfl) (hK.sub (tys' := []) [] rfl) (hD.sub (ws' := [(h0, .inr (10, [.int k1, .int k2, .int k3, .int k4, .int k5, .int k6, .ref h2]))]) [0] (by decide) rfl) hS (Nat.le_of_ble_eq_true rfl) (Nat.le_of_ble_eq_true rfl) d_Cell_isReadable_30
  · refine lv_aload_n hx hb d_Cell_isReadable_8 rfl (lv_at hl 0 rfl) ?_
    refine va_get (D := D) (ci := 10) (v := .int k1) (C := "FilterGuard$Cell") (T := F_Cell) (N := 7) hx hb hts i_Cell hown hK hP 0 rfl rfl 0 (by decide) (hts _ u_420) (fun _ h9 => h9) rfl d_Cell_isReadable_9 ?_
    refine lv_if_ne (tgt := 29) hx hb d_Cell_isReadable_12 (by decide) (fun c_2 => ?_) (fun c_2 => ?_)
    · refine lv_iconst (v := 0) hx hb d_Cell_isReadable_29 (by decide) ?_
      exact fg_retz () hx hb hr hlocks rfl (by rw [if_neg (fun z => z.elim c_1 (fun z => c_2 z.1))]) (hP.sub (ws' := [(h0, .inr (10, [.int k1, .int k2, .int k3, .int k4, .int k5, .int k6, .ref h2]))]) [0] rfl) (hK.sub (tys' := []) [] rfl) (hD.sub (ws' := [(h0, .inr (10, [.int k1, .int k2, .int k3, .int k4, .int k5, .int k6, .ref h2]))]) [0] (by decide) rfl) hS (Nat.le_of_ble_eq_true rfl) (Nat.le_of_ble_eq_true rfl) d_Cell_isReadable_30
    · refine lv_aload_n hx hb d_Cell_isReadable_15 rfl (lv_at hl 0 rfl) ?_
      refine va_get (D := D) (ci := 10) (v := .int k6) (C := "FilterGuard$Cell") (T := F_Cell) (N := 7) hx hb hts i_Cell hown hK hP 0 rfl rfl 5 (by decide) (hts _ u_433) (fun _ h9 => h9) rfl d_Cell_isReadable_16 ?_
      refine lv_iload_n hx hb d_Cell_isReadable_19 rfl (lv_at hl 1 rfl) ?_
      refine lv_iand hx hb d_Cell_isReadable_20 ?_
      refine lv_iload_n hx hb d_Cell_isReadable_21 rfl (lv_at hl 1 rfl) ?_
      refine lv_icmp_ne (tgt := 29) hx hb d_Cell_isReadable_22 (by decide) (fun c_3 => ?_) (fun c_3 => ?_)
      · refine lv_iconst (v := 0) hx hb d_Cell_isReadable_29 (by decide) ?_
        exact fg_retz () hx hb hr hlocks rfl (by rw [if_neg (fun z => z.elim c_1 (fun z => c_3 z.2))]) (hP.sub (ws' := [(h0, .inr (10, [.int k1, .int k2, .int k3, .int k4, .int k5, .int k6, .ref h2]))]) [0] rfl) (hK.sub (tys' := []) [] rfl) (hD.sub (ws' := [(h0, .inr (10, [.int k1, .int k2, .int k3, .int k4, .int k5, .int k6, .ref h2]))]) [0] (by decide) rfl) hS (Nat.le_of_ble_eq_true rfl) (Nat.le_of_ble_eq_true rfl) d_Cell_isReadable_30
      · refine lv_iconst (v := 1) hx hb d_Cell_isReadable_25 (by decide) ?_
        refine lv_goto (tgt := 30) hx hb d_Cell_isReadable_26 (by decide) ?_
        exact fg_retz () hx hb hr hlocks rfl (by rw [if_pos (Or.inr ⟨c_2, c_3⟩)]) (hP.sub (ws' := [(h0, .inr (10, [.int k1, .int k2, .int k3, .int k4, .int k5, .int k6, .ref h2]))]) [0] rfl) (hK.sub (tys' := []) [] rfl) (hD.sub (ws' := [(h0, .inr (10, [.int k1, .int k2, .int k3, .int k4, .int k5, .int k6, .ref h2]))]) [0] (by decide) rfl) hS (Nat.le_of_ble_eq_true rfl) (Nat.le_of_ble_eq_true rfl) d_Cell_isReadable_30
abbrev y_Cell_storeBytes : MethodName := ⟨"FilterGuard$Cell", "storeBytes", "(I)V"⟩
theorem d_Cell_storeBytes_0 : decode prog_2_method_12_code 0 = .ok (.aload_n 0, 1) := by decide +kernel
theorem d_Cell_storeBytes_1 : decode prog_2_method_12_code 1 = .ok (.getfield 18, 3) := by decide +kernel
theorem d_Cell_storeBytes_4 : decode prog_2_method_12_code 4 = .ok (.ifCond .eq 27, 3) := by decide +kernel
theorem d_Cell_storeBytes_31 : decode prog_2_method_12_code 31 = .ok (.aload_n 0, 1) := by decide +kernel
theorem d_Cell_storeBytes_32 : decode prog_2_method_12_code 32 = .ok (.dup, 1) := by decide +kernel
theorem d_Cell_storeBytes_33 : decode prog_2_method_12_code 33 = .ok (.getfield 22, 3) := by decide +kernel
theorem d_Cell_storeBytes_36 : decode prog_2_method_12_code 36 = .ok (.iload_n 1, 1) := by decide +kernel
theorem d_Cell_storeBytes_37 : decode prog_2_method_12_code 37 = .ok (.ior, 1) := by decide +kernel
theorem d_Cell_storeBytes_38 : decode prog_2_method_12_code 38 = .ok (.putfield 22, 3) := by decide +kernel
theorem d_Cell_storeBytes_41 : decode prog_2_method_12_code 41 = .ok (.return_, 1) := by decide +kernel
theorem d_Cell_storeBytes_7 : decode prog_2_method_12_code 7 = .ok (.aload_n 0, 1) := by decide +kernel
theorem d_Cell_storeBytes_8 : decode prog_2_method_12_code 8 = .ok (.aload_n 0, 1) := by decide +kernel
theorem d_Cell_storeBytes_9 : decode prog_2_method_12_code 9 = .ok (.getfield 18, 3) := by decide +kernel
theorem d_Cell_storeBytes_12 : decode prog_2_method_12_code 12 = .ok (.iconst 1, 1) := by decide +kernel
theorem d_Cell_storeBytes_13 : decode prog_2_method_12_code 13 = .ok (.if_icmp .ne 9, 3) := by decide +kernel
theorem d_Cell_storeBytes_22 : decode prog_2_method_12_code 22 = .ok (.iconst 0, 1) := by decide +kernel
theorem d_Cell_storeBytes_23 : decode prog_2_method_12_code 23 = .ok (.putfield 22, 3) := by decide +kernel
theorem d_Cell_storeBytes_26 : decode prog_2_method_12_code 26 = .ok (.aload_n 0, 1) := by decide +kernel
theorem d_Cell_storeBytes_27 : decode prog_2_method_12_code 27 = .ok (.iconst 0, 1) := by decide +kernel
theorem d_Cell_storeBytes_28 : decode prog_2_method_12_code 28 = .ok (.putfield 18, 3) := by decide +kernel
theorem d_Cell_storeBytes_16 : decode prog_2_method_12_code 16 = .ok (.sipush 255, 3) := by decide +kernel
theorem d_Cell_storeBytes_19 : decode prog_2_method_12_code 19 = .ok (.goto 4, 3) := by decide +kernel
def rm_Cell_storeBytes : Room := { frames := 1, cells := 0, slots := 0, locals := 20 }
abbrev q_Cell_storeBytes (D : va_G) (h0 : Nat) (h2 : Nat) (k1 : Int32) (k2 : Int32) (k3 : Int32) (k4 : Int32) (k5 : Int32) (k6 : Int32) (x1 : Int32) (A : Nat → Prop) : Array Value → Jvm.State → Outcome → Jvm.State → Prop := va_Qv (fun (u : Int32 × Int32) => u.1 = 0 ∧ u.2 = fc_store k1 k6 x1) (fg_B D A (fun (u : Int32 × Int32) => [(h0, .inr (10, [.int u.1, .int k2, .int k3, .int k4, .int k5, .int u.2, .ref h2]))]) (fun (u : Int32 × Int32) => [])) A
set_option maxHeartbeats 4000000 in
set_option maxRecDepth 100000 in
theorem c_Cell_storeBytes (l : Launch) (D : va_G) (h0 : Nat) (h2 : Nat) (k1 : Int32) (k2 : Int32) (k3 : Int32) (k4 : Int32) (k5 : Int32) (k6 : Int32) (x1 : Int32) (sz : Nat) : Met l y_Cell_storeBytes (fg_w y_Cell_storeBytes prog_2_method_12_code 2 none) rm_Cell_storeBytes (va_Pc [.ref h0, .int x1] (fg_P D [] [(h0, .inr (10, [.int k1, .int k2, .int k3, .int k4, .int k5, .int k6, .ref h2]))] sz)) (q_Cell_storeBytes D h0 h2 k1 k2 k3 k4 k5 k6 x1 (va_A [(h0, .inr (10, [.int k1, .int k2, .int k3, .int k4, .int k5, .int k6, .ref h2]))] sz)) rm_Cell_storeBytes.cells rm_Cell_storeBytes.slots (va_A [(h0, .inr (10, [.int k1, .int k2, .int k3, .int k4, .int k5, .int k6, .ref h2]))] sz) := by
  refine fg_enter (fun A => q_Cell_storeBytes D h0 h2 k1 k2 k3 k4 k5 k6 x1 A) (by decide +kernel) (Nat.le_of_ble_eq_true rfl) ?_
  intro p e s m below meth c ls A hx hb hml hown hts hr hlocks hin hP hK hD hS hA hX hl
  have hl : lv_has ls 2 [(0, .ref h0), (1, .int x1)] := hl
  refine lv_aload_n hx hb d_Cell_storeBytes_0 rfl (lv_at hl 0 rfl) ?_
  refine va_get (D := D) (ci := 10) (v := .int k1) (C := "FilterGuard$Cell") (T := F_Cell) (N := 7) hx hb hts i_Cell hown hK hP 0 rfl rfl 0 (by decide) (hts _ u_420) (fun _ h9 => h9) rfl d_Cell_storeBytes_1 ?_
  refine lv_if_eq (tgt := 31) hx hb d_Cell_storeBytes_4 (by decide) (fun c_1 => ?_) (fun c_1 => ?_)
  · refine lv_aload_n hx hb d_Cell_storeBytes_31 rfl (lv_at hl 0 rfl) ?_
    refine lv_dup hx hb d_Cell_storeBytes_32 rfl ?_
    refine va_get (D := D) (ci := 10) (v := .int k6) (C := "FilterGuard$Cell") (T := F_Cell) (N := 7) hx hb hts i_Cell hown hK hP 0 rfl rfl 5 (by decide) (hts _ u_433) (fun _ h9 => h9) rfl d_Cell_storeBytes_33 ?_
    refine lv_iload_n hx hb d_Cell_storeBytes_36 rfl (lv_at hl 1 rfl) ?_
    refine lv_ior hx hb d_Cell_storeBytes_37 ?_
    refine va_put (D := D) (ci := 10) (v := .int (k6 ||| x1)) (ty := .int) (C := "FilterGuard$Cell") (T := F_Cell) (N := 7) hx hb hts i_Cell t_Cell t_Cell_ok n_Cell hown hK hP hD hS 0 rfl rfl 5 (by decide) (hts _ u_433) (fun _ h9 => h9) rfl (by decide +kernel) rfl rfl (Nat.le_of_ble_eq_true rfl) d_Cell_storeBytes_38 (fun H locs hP hD hS => ?_)
    have hP : va_P D classes [(h0, .inr (10, [.int k1, .int k2, .int k3, .int k4, .int k5, .int (k6 ||| x1), .ref h2]))] H := hP
    have hD : va_D A [(h0, .inr (10, [.int k1, .int k2, .int k3, .int k4, .int k5, .int (k6 ||| x1), .ref h2]))] := hD
    exact fg_retv (k1, k6 ||| x1) hx hb hr hlocks ⟨c_1, (by unfold fc_store; (repeat rw [if_pos c_1]); try rfl)⟩ (hP.sub (ws' := [(h0, .inr (10, [.int k1, .int k2, .int k3, .int k4, .int k5, .int (k6 ||| x1), .ref h2]))]) [0] rfl) (hK.sub (tys' := []) [] rfl) (hD.sub (ws' := [(h0, .inr (10, [.int k1, .int k2, .int k3, .int k4, .int k5, .int (k6 ||| x1), .ref h2]))]) [0] (by decide) rfl) hS (Nat.le_of_ble_eq_true rfl) (Nat.le_of_ble_eq_true rfl) d_Cell_storeBytes_41
  · refine lv_aload_n hx hb d_Cell_storeBytes_7 rfl (lv_at hl 0 rfl) ?_
    refine lv_aload_n hx hb d_Cell_storeBytes_8 rfl (lv_at hl 0 rfl) ?_
    refine va_get (D := D) (ci := 10) (v := .int k1) (C := "FilterGuard$Cell") (T := F_Cell) (N := 7) hx hb hts i_Cell hown hK hP 0 rfl rfl 0 (by decide) (hts _ u_420) (fun _ h9 => h9) rfl d_Cell_storeBytes_9 ?_
    refine lv_iconst (v := 1) hx hb d_Cell_storeBytes_12 (by decide) ?_
    refine lv_icmp_ne (tgt := 22) hx hb d_Cell_storeBytes_13 (by decide) (fun c_2 => ?_) (fun c_2 => ?_)
    · refine lv_iconst (v := 0) hx hb d_Cell_storeBytes_22 (by decide) ?_
      refine va_put (D := D) (ci := 10) (v := .int 0) (ty := .int) (C := "FilterGuard$Cell") (T := F_Cell) (N := 7) hx hb hts i_Cell t_Cell t_Cell_ok n_Cell hown hK hP hD hS 0 rfl rfl 5 (by decide) (hts _ u_433) (fun _ h9 => h9) rfl (by decide +kernel) rfl rfl (Nat.le_of_ble_eq_true rfl) d_Cell_storeBytes_23 (fun H locs hP hD hS => ?_)
      have hP : va_P D classes [(h0, .inr (10, [.int k1, .int k2, .int k3, .int k4, .int k5, .int 0, .ref h2]))] H := hP
      have hD : va_D A [(h0, .inr (10, [.int k1, .int k2, .int k3, .int k4, .int k5, .int 0, .ref h2]))] := hD
      refine lv_aload_n hx hb d_Cell_storeBytes_26 rfl (lv_at hl 0 rfl) ?_
      refine lv_iconst (v := 0) hx hb d_Cell_storeBytes_27 (by decide) ?_
      refine va_put (D := D) (ci := 10) (v := .int 0) (ty := .int) (C := "FilterGuard$Cell") (T := F_Cell) (N := 7) hx hb hts i_Cell t_Cell t_Cell_ok n_Cell hown hK hP hD hS 0 rfl rfl 0 (by decide) (hts _ u_420) (fun _ h9 => h9) rfl (by decide +kernel) rfl rfl (Nat.le_of_ble_eq_true rfl) d_Cell_storeBytes_28 (fun H locs hP hD hS => ?_)
      have hP : va_P D classes [(h0, .inr (10, [.int 0, .int k2, .int k3, .int k4, .int k5, .int 0, .ref h2]))] H := hP
      have hD : va_D A [(h0, .inr (10, [.int 0, .int k2, .int k3, .int k4, .int k5, .int 0, .ref h2]))] := hD
      refine lv_aload_n hx hb d_Cell_storeBytes_31 rfl (lv_at hl 0 rfl) ?_
      refine lv_dup hx hb d_Cell_storeBytes_32 rfl ?_
      refine va_get (D := D) (ci := 10) (v := .int 0) (C := "FilterGuard$Cell") (T := F_Cell) (N := 7) hx hb hts i_Cell hown hK hP 0 rfl rfl 5 (by decide) (hts _ u_433) (fun _ h9 => h9) rfl d_Cell_storeBytes_33 ?_
      refine lv_iload_n hx hb d_Cell_storeBytes_36 rfl (lv_at hl 1 rfl) ?_
      refine lv_ior hx hb d_Cell_storeBytes_37 ?_
      refine va_put (D := D) (ci := 10) (v := .int (0 ||| x1)) (ty := .int) (C := "FilterGuard$Cell") (T := F_Cell) (N := 7) hx hb hts i_Cell t_Cell t_Cell_ok n_Cell hown hK hP hD hS 0 rfl rfl 5 (by decide) (hts _ u_433) (fun _ h9 => h9) rfl (by decide +kernel) rfl rfl (Nat.le_of_ble_eq_true rfl) d_Cell_storeBytes_38 (fun H locs hP hD hS => ?_)
      have hP : va_P D classes [(h0, .inr (10, [.int 0, .int k2, .int k3, .int k4, .int k5, .int (0 ||| x1), .ref h2]))] H := hP
      have hD : va_D A [(h0, .inr (10, [.int 0, .int k2, .int k3, .int k4, .int k5, .int (0 ||| x1), .ref h2]))] := hD
      exact fg_retv (0, 0 ||| x1) hx hb hr hlocks ⟨rfl, (by unfold fc_store; (repeat rw [if_neg c_1]); (repeat rw [if_neg c_2]); try rfl)⟩ (hP.sub (ws' := [(h0, .inr (10, [.int 0, .int k2, .int k3, .int k4, .int k5, .int (0 ||| x1), .ref h2]))]) [0] rfl) (hK.sub (tys' := []) [] rfl) (hD.sub (ws' := [(h0, .inr (10, [.int 0, .int k2, .int k3, .int k4, .int k5, .int (0 ||| x1), .ref h2]))]) [0] (by decide) rfl) hS (Nat.le_of_ble_eq_true rfl) (Nat.le_of_ble_eq_true rfl) d_Cell_storeBytes_41
    · refine lv_sipush (v := 255) hx hb d_Cell_storeBytes_16 (by decide) ?_
      refine lv_goto (tgt := 23) hx hb d_Cell_storeBytes_19 (by decide) ?_
      refine va_put (D := D) (ci := 10) (v := .int 255) (ty := .int) (C := "FilterGuard$Cell") (T := F_Cell) (N := 7) hx hb hts i_Cell t_Cell t_Cell_ok n_Cell hown hK hP hD hS 0 rfl rfl 5 (by decide) (hts _ u_433) (fun _ h9 => h9) rfl (by decide +kernel) rfl rfl (Nat.le_of_ble_eq_true rfl) d_Cell_storeBytes_23 (fun H locs hP hD hS => ?_)
      have hP : va_P D classes [(h0, .inr (10, [.int k1, .int k2, .int k3, .int k4, .int k5, .int 255, .ref h2]))] H := hP
      have hD : va_D A [(h0, .inr (10, [.int k1, .int k2, .int k3, .int k4, .int k5, .int 255, .ref h2]))] := hD
      refine lv_aload_n hx hb d_Cell_storeBytes_26 rfl (lv_at hl 0 rfl) ?_
      refine lv_iconst (v := 0) hx hb d_Cell_storeBytes_27 (by decide) ?_
      refine va_put (D := D) (ci := 10) (v := .int 0) (ty := .int) (C := "FilterGuard$Cell") (T := F_Cell) (N := 7) hx hb hts i_Cell t_Cell t_Cell_ok n_Cell hown hK hP hD hS 0 rfl rfl 0 (by decide) (hts _ u_420) (fun _ h9 => h9) rfl (by decide +kernel) rfl rfl (Nat.le_of_ble_eq_true rfl) d_Cell_storeBytes_28 (fun H locs hP hD hS => ?_)
      have hP : va_P D classes [(h0, .inr (10, [.int 0, .int k2, .int k3, .int k4, .int k5, .int 255, .ref h2]))] H := hP
      have hD : va_D A [(h0, .inr (10, [.int 0, .int k2, .int k3, .int k4, .int k5, .int 255, .ref h2]))] := hD
      refine lv_aload_n hx hb d_Cell_storeBytes_31 rfl (lv_at hl 0 rfl) ?_
      refine lv_dup hx hb d_Cell_storeBytes_32 rfl ?_
      refine va_get (D := D) (ci := 10) (v := .int 255) (C := "FilterGuard$Cell") (T := F_Cell) (N := 7) hx hb hts i_Cell hown hK hP 0 rfl rfl 5 (by decide) (hts _ u_433) (fun _ h9 => h9) rfl d_Cell_storeBytes_33 ?_
      refine lv_iload_n hx hb d_Cell_storeBytes_36 rfl (lv_at hl 1 rfl) ?_
      refine lv_ior hx hb d_Cell_storeBytes_37 ?_
      refine va_put (D := D) (ci := 10) (v := .int (255 ||| x1)) (ty := .int) (C := "FilterGuard$Cell") (T := F_Cell) (N := 7) hx hb hts i_Cell t_Cell t_Cell_ok n_Cell hown hK hP hD hS 0 rfl rfl 5 (by decide) (hts _ u_433) (fun _ h9 => h9) rfl (by decide +kernel) rfl rfl (Nat.le_of_ble_eq_true rfl) d_Cell_storeBytes_38 (fun H locs hP hD hS => ?_)
      have hP : va_P D classes [(h0, .inr (10, [.int 0, .int k2, .int k3, .int k4, .int k5, .int (255 ||| x1), .ref h2]))] H := hP
      have hD : va_D A [(h0, .inr (10, [.int 0, .int k2, .int k3, .int k4, .int k5, .int (255 ||| x1), .ref h2]))] := hD
      exact fg_retv (0, 255 ||| x1) hx hb hr hlocks ⟨rfl, (by unfold fc_store; (repeat rw [if_neg c_1]); (repeat rw [if_pos c_2]); try rfl)⟩ (hP.sub (ws' := [(h0, .inr (10, [.int 0, .int k2, .int k3, .int k4, .int k5, .int (255 ||| x1), .ref h2]))]) [0] rfl) (hK.sub (tys' := []) [] rfl) (hD.sub (ws' := [(h0, .inr (10, [.int 0, .int k2, .int k3, .int k4, .int k5, .int (255 ||| x1), .ref h2]))]) [0] (by decide) rfl) hS (Nat.le_of_ble_eq_true rfl) (Nat.le_of_ble_eq_true rfl) d_Cell_storeBytes_41
abbrev y_Cell_hasIdentity : MethodName := ⟨"FilterGuard$Cell", "hasIdentity", "()Z"⟩
theorem d_Cell_hasIdentity_0 : decode prog_2_method_13_code 0 = .ok (.aload_n 0, 1) := by decide +kernel
theorem d_Cell_hasIdentity_1 : decode prog_2_method_13_code 1 = .ok (.getfield 18, 3) := by decide +kernel
theorem d_Cell_hasIdentity_4 : decode prog_2_method_13_code 4 = .ok (.iconst 4, 1) := by decide +kernel
theorem d_Cell_hasIdentity_5 : decode prog_2_method_13_code 5 = .ok (.if_icmp .eq 12, 3) := by decide +kernel
theorem d_Cell_hasIdentity_17 : decode prog_2_method_13_code 17 = .ok (.iconst 1, 1) := by decide +kernel
theorem d_Cell_hasIdentity_18 : decode prog_2_method_13_code 18 = .ok (.goto 4, 3) := by decide +kernel
theorem d_Cell_hasIdentity_22 : decode prog_2_method_13_code 22 = .ok (.ireturn, 1) := by decide +kernel
theorem d_Cell_hasIdentity_8 : decode prog_2_method_13_code 8 = .ok (.aload_n 0, 1) := by decide +kernel
theorem d_Cell_hasIdentity_9 : decode prog_2_method_13_code 9 = .ok (.getfield 18, 3) := by decide +kernel
theorem d_Cell_hasIdentity_12 : decode prog_2_method_13_code 12 = .ok (.bipush 8, 2) := by decide +kernel
theorem d_Cell_hasIdentity_14 : decode prog_2_method_13_code 14 = .ok (.if_icmp .ne 7, 3) := by decide +kernel
theorem d_Cell_hasIdentity_21 : decode prog_2_method_13_code 21 = .ok (.iconst 0, 1) := by decide +kernel
def rm_Cell_hasIdentity : Room := { frames := 1, cells := 0, slots := 0, locals := 20 }
abbrev q_Cell_hasIdentity (D : va_G) (h0 : Nat) (h2 : Nat) (k1 : Int32) (k2 : Int32) (k3 : Int32) (k4 : Int32) (k5 : Int32) (k6 : Int32) (A : Nat → Prop) : Array Value → Jvm.State → Outcome → Jvm.State → Prop := va_Qi (fun (r : Int32) (_ : Unit) => r = (if k1 = 4 ∨ k1 = 8 then 1 else 0)) (fg_B D A (fun (_ : Unit) => [(h0, .inr (10, [.int k1, .int k2, .int k3, .int k4, .int k5, .int k6, .ref h2]))]) (fun (_ : Unit) => [])) A
set_option maxHeartbeats 4000000 in
set_option maxRecDepth 100000 in
theorem c_Cell_hasIdentity (l : Launch) (D : va_G) (h0 : Nat) (h2 : Nat) (k1 : Int32) (k2 : Int32) (k3 : Int32) (k4 : Int32) (k5 : Int32) (k6 : Int32) (sz : Nat) : Met l y_Cell_hasIdentity (fg_w y_Cell_hasIdentity prog_2_method_13_code 1 (some .boolean)) rm_Cell_hasIdentity (va_Pc [.ref h0] (fg_P D [] [(h0, .inr (10, [.int k1, .int k2, .int k3, .int k4, .int k5, .int k6, .ref h2]))] sz)) (q_Cell_hasIdentity D h0 h2 k1 k2 k3 k4 k5 k6 (va_A [(h0, .inr (10, [.int k1, .int k2, .int k3, .int k4, .int k5, .int k6, .ref h2]))] sz)) rm_Cell_hasIdentity.cells rm_Cell_hasIdentity.slots (va_A [(h0, .inr (10, [.int k1, .int k2, .int k3, .int k4, .int k5, .int k6, .ref h2]))] sz) := by
  refine fg_enter (fun A => q_Cell_hasIdentity D h0 h2 k1 k2 k3 k4 k5 k6 A) (by decide +kernel) (Nat.le_of_ble_eq_true rfl) ?_
  intro p e s m below meth c ls A hx hb hml hown hts hr hlocks hin hP hK hD hS hA hX hl
  have hl : lv_has ls 1 [(0, .ref h0)] := hl
  refine lv_aload_n hx hb d_Cell_hasIdentity_0 rfl (lv_at hl 0 rfl) ?_
  refine va_get (D := D) (ci := 10) (v := .int k1) (C := "FilterGuard$Cell") (T := F_Cell) (N := 7) hx hb hts i_Cell hown hK hP 0 rfl rfl 0 (by decide) (hts _ u_420) (fun _ h9 => h9) rfl d_Cell_hasIdentity_1 ?_
  refine lv_iconst (v := 4) hx hb d_Cell_hasIdentity_4 (by decide) ?_
  refine lv_icmp_eq (tgt := 17) hx hb d_Cell_hasIdentity_5 (by decide) (fun c_1 => ?_) (fun c_1 => ?_)
  · refine lv_iconst (v := 1) hx hb d_Cell_hasIdentity_17 (by decide) ?_
    refine lv_goto (tgt := 22) hx hb d_Cell_hasIdentity_18 (by decide) ?_
    exact fg_retz () hx hb hr hlocks rfl (by rw [if_pos (Or.inl c_1)]) (hP.sub (ws' := [(h0, .inr (10, [.int k1, .int k2, .int k3, .int k4, .int k5, .int k6, .ref h2]))]) [0] rfl) (hK.sub (tys' := []) [] rfl) (hD.sub (ws' := [(h0, .inr (10, [.int k1, .int k2, .int k3, .int k4, .int k5, .int k6, .ref h2]))]) [0] (by decide) rfl) hS (Nat.le_of_ble_eq_true rfl) (Nat.le_of_ble_eq_true rfl) d_Cell_hasIdentity_22
  · refine lv_aload_n hx hb d_Cell_hasIdentity_8 rfl (lv_at hl 0 rfl) ?_
    refine va_get (D := D) (ci := 10) (v := .int k1) (C := "FilterGuard$Cell") (T := F_Cell) (N := 7) hx hb hts i_Cell hown hK hP 0 rfl rfl 0 (by decide) (hts _ u_420) (fun _ h9 => h9) rfl d_Cell_hasIdentity_9 ?_
    refine lv_bipush (v := 8) hx hb d_Cell_hasIdentity_12 (by decide) ?_
    refine lv_icmp_ne (tgt := 21) hx hb d_Cell_hasIdentity_14 (by decide) (fun c_2 => ?_) (fun c_2 => ?_)
    · refine lv_iconst (v := 0) hx hb d_Cell_hasIdentity_21 (by decide) ?_
      exact fg_retz () hx hb hr hlocks rfl (by rw [if_neg (fun z => z.elim c_1 c_2)]) (hP.sub (ws' := [(h0, .inr (10, [.int k1, .int k2, .int k3, .int k4, .int k5, .int k6, .ref h2]))]) [0] rfl) (hK.sub (tys' := []) [] rfl) (hD.sub (ws' := [(h0, .inr (10, [.int k1, .int k2, .int k3, .int k4, .int k5, .int k6, .ref h2]))]) [0] (by decide) rfl) hS (Nat.le_of_ble_eq_true rfl) (Nat.le_of_ble_eq_true rfl) d_Cell_hasIdentity_22
    · refine lv_iconst (v := 1) hx hb d_Cell_hasIdentity_17 (by decide) ?_
      refine lv_goto (tgt := 22) hx hb d_Cell_hasIdentity_18 (by decide) ?_
      exact fg_retz () hx hb hr hlocks rfl (by rw [if_pos (Or.inr c_2)]) (hP.sub (ws' := [(h0, .inr (10, [.int k1, .int k2, .int k3, .int k4, .int k5, .int k6, .ref h2]))]) [0] rfl) (hK.sub (tys' := []) [] rfl) (hD.sub (ws' := [(h0, .inr (10, [.int k1, .int k2, .int k3, .int k4, .int k5, .int k6, .ref h2]))]) [0] (by decide) rfl) hS (Nat.le_of_ble_eq_true rfl) (Nat.le_of_ble_eq_true rfl) d_Cell_hasIdentity_22
