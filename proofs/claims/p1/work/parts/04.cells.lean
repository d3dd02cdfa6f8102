abbrev y_Num_init : MethodName := ⟨"FilterGuard$Num", "<init>", "()V"⟩
theorem d_Num_init_0 : decode prog_8_method_1_code 0 = .ok (.aload_n 0, 1) := by decide +kernel
theorem d_Num_init_1 : decode prog_8_method_1_code 1 = .ok (.invokespecial 3, 3) := by decide +kernel
theorem u_366 : Cond.methodLink "FilterGuard$Num" 3 ⟨"java/lang/Object", "<init>", "()V"⟩ ∈ fg_g := fg_in (List.mem_of_getElem? (i := 366) (by decide +kernel)) rfl
theorem u_210 : Cond.instanceMethod ⟨"java/lang/Object", "<init>", "()V"⟩ ∈ fg_g := fg_in (List.mem_of_getElem? (i := 210) (by decide +kernel)) rfl
theorem u_211 : Cond.code ⟨"java/lang/Object", "<init>", "()V"⟩ ⟨#[0xb1]⟩ 1 none ∈ fg_g := fg_in (List.mem_of_getElem? (i := 211) (by decide +kernel)) rfl
theorem d_Num_init_4 : decode prog_8_method_1_code 4 = .ok (.return_, 1) := by decide +kernel
def rm_Num_init : Room := { frames := 1, cells := 0, slots := 0, locals := 20 }
abbrev q_Num_init (D : va_G) (h0 : Nat) (A : Nat → Prop) : Array Value → Jvm.State → Outcome → Jvm.State → Prop := va_Qv (fun (_ : Unit) => True) (fg_B D A (fun (_ : Unit) => [(h0, .inr (11, [.long 0, .long 0, .long 0, .long 0, .long 0, .long 0]))]) (fun (_ : Unit) => [])) A
set_option maxHeartbeats 4000000 in
set_option maxRecDepth 100000 in
theorem c_Num_init (l : Launch) (D : va_G) (h0 : Nat) (sz : Nat) : Met l y_Num_init (fg_w y_Num_init prog_8_method_1_code 1 none) rm_Num_init (va_Pc [.ref h0] (fg_P D [] [(h0, .inr (11, [.long 0, .long 0, .long 0, .long 0, .long 0, .long 0]))] sz)) (q_Num_init D h0 (va_A [(h0, .inr (11, [.long 0, .long 0, .long 0, .long 0, .long 0, .long 0]))] sz)) rm_Num_init.cells rm_Num_init.slots (va_A [(h0, .inr (11, [.long 0, .long 0, .long 0, .long 0, .long 0, .long 0]))] sz) := by
  refine fg_enter (fun A => q_Num_init D h0 A) (by decide +kernel) (Nat.le_of_ble_eq_true rfl) ?_
  intro p e s m below meth c ls A hx hb hml hown hts hr hlocks hin hP hK hD hS hA hX hl
  have hl : lv_has ls 1 [(0, .ref h0)] := hl
  refine lv_aload_n hx hb d_Num_init_0 rfl (lv_at hl 0 rfl) ?_
  refine W.objInit hx hb hown (hts _ u_366) (hts _ u_210) (hts _ u_211) rfl (by rw [hml]; exact hl.1) rfl d_Num_init_1 (Nat.le_of_ble_eq_true rfl) (Nat.le_of_ble_eq_true rfl) ?_
  refine W.eq (g2 := F0 m 4 ls []) rfl ?_
  exact fg_retv () hx hb hr hlocks trivial (hP.sub (ws' := [(h0, .inr (11, [.long 0, .long 0, .long 0, .long 0, .long 0, .long 0]))]) [0] rfl) (hK.sub (tys' := []) [] rfl) (hD.sub (ws' := [(h0, .inr (11, [.long 0, .long 0, .long 0, .long 0, .long 0, .long 0]))]) [0] (by decide) rfl) hS (Nat.le_of_ble_eq_true rfl) (Nat.le_of_ble_eq_true rfl) d_Num_init_4
abbrev y_Cell_init : MethodName := ⟨"FilterGuard$Cell", "<init>", "()V"⟩
theorem d_Cell_init_0 : decode prog_2_method_1_code 0 = .ok (.aload_n 0, 1) := by decide +kernel
theorem d_Cell_init_1 : decode prog_2_method_1_code 1 = .ok (.invokespecial 3, 3) := by decide +kernel
theorem u_417 : Cond.methodLink "FilterGuard$Cell" 3 ⟨"java/lang/Object", "<init>", "()V"⟩ ∈ fg_g := fg_in (List.mem_of_getElem? (i := 417) (by decide +kernel)) rfl
theorem d_Cell_init_4 : decode prog_2_method_1_code 4 = .ok (.aload_n 0, 1) := by decide +kernel
theorem d_Cell_init_5 : decode prog_2_method_1_code 5 = .ok (.new 9, 3) := by decide +kernel
theorem u_418 : Cond.classLink "FilterGuard$Cell" 9 "FilterGuard$Num" ∈ fg_g := fg_in (List.mem_of_getElem? (i := 418) (by decide +kernel)) rfl
theorem u_362 : Cond.instantiable "FilterGuard$Num" 6 ∈ fg_g := fg_in (List.mem_of_getElem? (i := 362) (by decide +kernel)) rfl
theorem u_187 : Cond.initialized "FilterGuard$Num" ∈ fg_g := fg_in (List.mem_of_getElem? (i := 187) (by decide +kernel)) rfl
theorem d_Cell_init_8 : decode prog_2_method_1_code 8 = .ok (.dup, 1) := by decide +kernel
theorem d_Cell_init_9 : decode prog_2_method_1_code 9 = .ok (.invokespecial 11, 3) := by decide +kernel
theorem o_419 : Cond.methodLinkNest "FilterGuard$Cell" 11 ⟨"FilterGuard$Num", "<init>", "()V"⟩ "FilterGuard" ∈ lw_tbl := List.mem_of_getElem? (i := 419) (by decide +kernel)
theorem u_365 : Cond.code ⟨"FilterGuard$Num", "<init>", "()V"⟩ prog_8_method_1_code 1 none ∈ fg_g := fg_in (List.mem_of_getElem? (i := 365) (by decide +kernel)) rfl
theorem u_364 : Cond.instanceMethod ⟨"FilterGuard$Num", "<init>", "()V"⟩ ∈ fg_g := fg_in (List.mem_of_getElem? (i := 364) (by decide +kernel)) rfl
theorem d_Cell_init_12 : decode prog_2_method_1_code 12 = .ok (.putfield 12, 3) := by decide +kernel
theorem u_435 : Cond.fieldLink "FilterGuard$Cell" 12 "FilterGuard$Cell" "number" "LFilterGuard$Num;" ∈ fg_g := fg_in (List.mem_of_getElem? (i := 435) (by decide +kernel)) rfl
theorem d_Cell_init_15 : decode prog_2_method_1_code 15 = .ok (.return_, 1) := by decide +kernel
def rm_Cell_init : Room := { frames := 2, cells := 1, slots := 6, locals := 52 }
abbrev q_Cell_init (D : va_G) (h0 : Nat) (A : Nat → Prop) : Array Value → Jvm.State → Outcome → Jvm.State → Prop := va_Qv (fun (q1 : Nat) => True) (fg_B D A (fun (q1 : Nat) => [(h0, .inr (10, [.int 0, .int 0, .int 0, .int 0, .int 0, .int 0, .ref q1])), (q1, .inr (11, [.long 0, .long 0, .long 0, .long 0, .long 0, .long 0]))]) (fun (q1 : Nat) => [])) A
set_option maxHeartbeats 4000000 in
set_option maxRecDepth 100000 in
theorem c_Cell_init (l : Launch) (D : va_G) (h0 : Nat) (sz : Nat) : Met l y_Cell_init (fg_w y_Cell_init prog_2_method_1_code 1 none) rm_Cell_init (va_Pc [.ref h0] (fg_P D [] [(h0, .inr (10, [.int 0, .int 0, .int 0, .int 0, .int 0, .int 0, .null]))] sz)) (q_Cell_init D h0 (va_A [(h0, .inr (10, [.int 0, .int 0, .int 0, .int 0, .int 0, .int 0, .null]))] sz)) rm_Cell_init.cells rm_Cell_init.slots (va_A [(h0, .inr (10, [.int 0, .int 0, .int 0, .int 0, .int 0, .int 0, .null]))] sz) := by
  refine fg_enter (fun A => q_Cell_init D h0 A) (by decide +kernel) (Nat.le_of_ble_eq_true rfl) ?_
  intro p e s m below meth c ls A hx hb hml hown hts hr hlocks hin hP hK hD hS hA hX hl
  have hl : lv_has ls 1 [(0, .ref h0)] := hl
  refine lv_aload_n hx hb d_Cell_init_0 rfl (lv_at hl 0 rfl) ?_
  refine W.objInit hx hb hown (hts _ u_417) (hts _ u_210) (hts _ u_211) rfl (by rw [hml]; exact hl.1) rfl d_Cell_init_1 (Nat.le_of_ble_eq_true rfl) (Nat.le_of_ble_eq_true rfl) ?_
  refine W.eq (g2 := F0 m 4 ls []) rfl ?_
  refine lv_aload_n hx hb d_Cell_init_4 rfl (lv_at hl 0 rfl) ?_
  refine va_new (ci := 11) (fs := [.long 0, .long 0, .long 0, .long 0, .long 0, .long 0]) (C := "FilterGuard$Num") (T := F_Num) (N := 6) hx hb hts i_Num t_Num t_Num_ok hown (hts _ u_418) (hts _ u_362) (hts _ u_187) hK hP hD hS hA rfl z_Num (Nat.le_of_ble_eq_true rfl) (Nat.le_of_ble_eq_true rfl) d_Cell_init_5 (fun q5_0 H hP hD hS => ?_)
  have hP : va_P D classes [(h0, .inr (10, [.int 0, .int 0, .int 0, .int 0, .int 0, .int 0, .null])), (q5_0, .inr (11, [.long 0, .long 0, .long 0, .long 0, .long 0, .long 0]))] H := hP
  have hD : va_D A [(h0, .inr (10, [.int 0, .int 0, .int 0, .int 0, .int 0, .int 0, .null])), (q5_0, .inr (11, [.long 0, .long 0, .long 0, .long 0, .long 0, .long 0]))] := hD
  refine W.widen (k := 1) (n := 6) (Nat.le_of_ble_eq_true rfl) (Nat.le_of_ble_eq_true rfl) ?_
  refine lv_dup hx hb d_Cell_init_8 rfl ?_
  refine fg_thenv (wr := [(h0, .inr (10, [.int 0, .int 0, .int 0, .int 0, .int 0, .int 0, .null]))]) (fg_runIN (As := []) (rest := [.ref q5_0, .ref h0]) ⟨hx, hb, hml, hown, hts⟩ (c_Num_init l D q5_0 H.size) rfl (by show fg_nm y_Num_init 0; decide +kernel) o_419 u_364 u_187 u_365 ⟨Nat.le_of_ble_eq_true rfl, Nat.le_of_ble_eq_true rfl⟩ hX (hP.sub (ws' := [(q5_0, .inr (11, [.long 0, .long 0, .long 0, .long 0, .long 0, .long 0]))]) [1] rfl) (hK.sub (tys' := []) [] rfl) (hD.sub (ws' := [(q5_0, .inr (11, [.long 0, .long 0, .long 0, .long 0, .long 0, .long 0]))]) [1] (by decide) rfl) rfl hl.1 (Nat.le_of_ble_eq_true rfl) d_Cell_init_9 ⟨(Nat.le_of_ble_eq_true rfl), (Nat.le_of_ble_eq_true rfl)⟩) hP hD hK hS hA [1] [0] rfl rfl (by decide) (by decide) (fun  u H locs hw9_1 hP hD hK hS => ?_)
  try dsimp only at hw9_1
  have hP : va_P D classes [(h0, .inr (10, [.int 0, .int 0, .int 0, .int 0, .int 0, .int 0, .null])), (q5_0, .inr (11, [.long 0, .long 0, .long 0, .long 0, .long 0, .long 0]))] H := hP
  have hD : va_D A [(h0, .inr (10, [.int 0, .int 0, .int 0, .int 0, .int 0, .int 0, .null])), (q5_0, .inr (11, [.long 0, .long 0, .long 0, .long 0, .long 0, .long 0]))] := hD
  have hK : va_K D classes [] s := hK
  refine W.widen (k := 1) (n := 6) (Nat.le_of_ble_eq_true rfl) (Nat.le_of_ble_eq_true rfl) ?_
  refine va_putF (D := D) (ci := 10) (v := .ref q5_0) (ty := (.object "FilterGuard$Num")) (C := "FilterGuard$Cell") (T := F_Cell) (N := 7) hx hb hts i_Cell t_Cell t_Cell_ok n_Cell hown hK hP hD hS 0 rfl rfl 6 (by decide) (hts _ u_435) (fun _ h9 => h9) rfl hin rfl (by decide +kernel) rfl rfl (Nat.le_of_ble_eq_true rfl) d_Cell_init_12 (fun H locs hP hD hS => ?_)
  have hP : va_P D classes [(h0, .inr (10, [.int 0, .int 0, .int 0, .int 0, .int 0, .int 0, .ref q5_0])), (q5_0, .inr (11, [.long 0, .long 0, .long 0, .long 0, .long 0, .long 0]))] H := hP
  have hD : va_D A [(h0, .inr (10, [.int 0, .int 0, .int 0, .int 0, .int 0, .int 0, .ref q5_0])), (q5_0, .inr (11, [.long 0, .long 0, .long 0, .long 0, .long 0, .long 0]))] := hD
  exact fg_retv (q5_0) hx hb hr hlocks trivial (hP.sub (ws' := [(h0, .inr (10, [.int 0, .int 0, .int 0, .int 0, .int 0, .int 0, .ref q5_0])), (q5_0, .inr (11, [.long 0, .long 0, .long 0, .long 0, .long 0, .long 0]))]) [0, 1] rfl) (hK.sub (tys' := []) [] rfl) (hD.sub (ws' := [(h0, .inr (10, [.int 0, .int 0, .int 0, .int 0, .int 0, .int 0, .ref q5_0])), (q5_0, .inr (11, [.long 0, .long 0, .long 0, .long 0, .long 0, .long 0]))]) [0, 1] (by decide) rfl) hS (Nat.le_of_ble_eq_true rfl) (Nat.le_of_ble_eq_true rfl) d_Cell_init_15
