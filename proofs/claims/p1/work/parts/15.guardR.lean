abbrev y_G_clock : MethodName := ⟨"FilterGuard", "clock", "(J)V"⟩
theorem d_G_clock_0 : decode prog_1_method_14_code 0 = .ok (.aload_n 0, 1) := by decide +kernel
theorem d_G_clock_1 : decode prog_1_method_14_code 1 = .ok (.getfield 50, 3) := by decide +kernel
theorem d_G_clock_4 : decode prog_1_method_14_code 4 = .ok (.lload_n 1, 1) := by decide +kernel
theorem d_G_clock_5 : decode prog_1_method_14_code 5 = .ok (.putfield 205, 3) := by decide +kernel
theorem u_638 : Cond.fieldLink "FilterGuard" 205 "FilterGuard$Machine" "time" "J" ∈ fg_g := fg_in (List.mem_of_getElem? (i := 638) (by decide +kernel)) rfl
theorem d_G_clock_8 : decode prog_1_method_14_code 8 = .ok (.return_, 1) := by decide +kernel
def rm_G_clock : Room := { frames := 1, cells := 0, slots := 0, locals := 20 }
abbrev q_G_clock (D : va_G) (h0 : Nat) (qt : Nat) (qs : Nat) (qc : Nat) (qh : Nat) (qf : Nat) (qe : Nat) (qm : Nat) (m0 : Nat) (m1 : Nat) (m2 : Nat) (m3 : Nat) (m4 : Nat) (m5 : Nat) (x1 : Int64) (A : Nat → Prop) : Array Value → Jvm.State → Outcome → Jvm.State → Prop := va_Qv (fun (_ : Unit) => True) (fg_B D A (fun (_ : Unit) => [(h0, .inr (0, [.ref qt, .int 0, .ref qs, .int 0, .ref qc, .ref qh, .ref qf, .ref qe, .ref qm, .int 0, .int (-1), .int 0, .int 0, .int 0])), (qm, .inr (5, [.ref qc, .ref qh, .ref qs, .ref m5, .ref m0, .ref m1, .ref m2, .ref m3, .int 0, .ref m4, .int 0, .long x1, .int 0, .int 0, .int 0, .int 0, .ref qc, .int 0, .ref m1, .int 0]))]) (fun (_ : Unit) => [])) A
set_option maxHeartbeats 4000000 in
set_option maxRecDepth 100000 in
theorem c_G_clock (l : Launch) (D : va_G) (h0 : Nat) (qt : Nat) (qs : Nat) (qc : Nat) (qh : Nat) (qf : Nat) (qe : Nat) (qm : Nat) (m0 : Nat) (m1 : Nat) (m2 : Nat) (m3 : Nat) (m4 : Nat) (m5 : Nat) (x1 : Int64) (sz : Nat) : Met l y_G_clock (fg_w y_G_clock prog_1_method_14_code 3 none) rm_G_clock (va_Pc [.ref h0, .long x1] (fg_P D [] [(h0, .inr (0, [.ref qt, .int 0, .ref qs, .int 0, .ref qc, .ref qh, .ref qf, .ref qe, .ref qm, .int 0, .int (-1), .int 0, .int 0, .int 0])), (qm, .inr (5, [.ref qc, .ref qh, .ref qs, .ref m5, .ref m0, .ref m1, .ref m2, .ref m3, .int 0, .ref m4, .int 0, .long 0, .int 0, .int 0, .int 0, .int 0, .ref qc, .int 0, .ref m1, .int 0]))] sz)) (q_G_clock D h0 qt qs qc qh qf qe qm m0 m1 m2 m3 m4 m5 x1 (va_A [(h0, .inr (0, [.ref qt, .int 0, .ref qs, .int 0, .ref qc, .ref qh, .ref qf, .ref qe, .ref qm, .int 0, .int (-1), .int 0, .int 0, .int 0])), (qm, .inr (5, [.ref qc, .ref qh, .ref qs, .ref m5, .ref m0, .ref m1, .ref m2, .ref m3, .int 0, .ref m4, .int 0, .long 0, .int 0, .int 0, .int 0, .int 0, .ref qc, .int 0, .ref m1, .int 0]))] sz)) rm_G_clock.cells rm_G_clock.slots (va_A [(h0, .inr (0, [.ref qt, .int 0, .ref qs, .int 0, .ref qc, .ref qh, .ref qf, .ref qe, .ref qm, .int 0, .int (-1), .int 0, .int 0, .int 0])), (qm, .inr (5, [.ref qc, .ref qh, .ref qs, .ref m5, .ref m0, .ref m1, .ref m2, .ref m3, .int 0, .ref m4, .int 0, .long 0, .int 0, .int 0, .int 0, .int 0, .ref qc, .int 0, .ref m1, .int 0]))] sz) := by
  refine fg_enter (fun A => q_G_clock D h0 qt qs qc qh qf qe qm m0 m1 m2 m3 m4 m5 x1 A) (by decide +kernel) (Nat.le_of_ble_eq_true rfl) ?_
  intro p e s m below meth c ls A hx hb hml hown hts hr hlocks hin hP hK hD hS hA hX hl
  have hl : lv_has ls 3 [(0, .ref h0), (1, .long x1)] := hl
  refine lv_aload_n hx hb d_G_clock_0 rfl (lv_at hl 0 rfl) ?_
  refine va_get (D := D) (ci := 0) (v := .ref qm) (C := "FilterGuard") (T := F_G) (N := 14) hx hb hts i_G hown hK hP 0 rfl rfl 8 (by decide) (hts _ u_701) (fun _ h9 => h9) rfl d_G_clock_1 ?_
  refine lv_lload_n hx hb d_G_clock_4 rfl (lv_at hl 1 rfl) ?_
  refine va_put (D := D) (ci := 5) (v := .long x1) (ty := .long) (C := "FilterGuard$Machine") (T := F_Machine) (N := 20) hx hb hts i_Machine t_Machine t_Machine_ok n_Machine hown hK hP hD hS 1 rfl rfl 11 (by decide) (hts _ u_638) (fun _ h9 => h9) rfl (by decide +kernel) rfl rfl (Nat.le_of_ble_eq_true rfl) d_G_clock_5 (fun H locs hP hD hS => ?_)
  have hP : va_P D classes [(h0, .inr (0, [.ref qt, .int 0, .ref qs, .int 0, .ref qc, .ref qh, .ref qf, .ref qe, .ref qm, .int 0, .int (-1), .int 0, .int 0, .int 0])), (qm, .inr (5, [.ref qc, .ref qh, .ref qs, .ref m5, .ref m0, .ref m1, .ref m2, .ref m3, .int 0, .ref m4, .int 0, .long x1, .int 0, .int 0, .int 0, .int 0, .ref qc, .int 0, .ref m1, .int 0]))] H := hP
  have hD : va_D A [(h0, .inr (0, [.ref qt, .int 0, .ref qs, .int 0, .ref qc, .ref qh, .ref qf, .ref qe, .ref qm, .int 0, .int (-1), .int 0, .int 0, .int 0])), (qm, .inr (5, [.ref qc, .ref qh, .ref qs, .ref m5, .ref m0, .ref m1, .ref m2, .ref m3, .int 0, .ref m4, .int 0, .long x1, .int 0, .int 0, .int 0, .int 0, .ref qc, .int 0, .ref m1, .int 0]))] := hD
  exact fg_retv () hx hb hr hlocks trivial (hP.sub (ws' := [(h0, .inr (0, [.ref qt, .int 0, .ref qs, .int 0, .ref qc, .ref qh, .ref qf, .ref qe, .ref qm, .int 0, .int (-1), .int 0, .int 0, .int 0])), (qm, .inr (5, [.ref qc, .ref qh, .ref qs, .ref m5, .ref m0, .ref m1, .ref m2, .ref m3, .int 0, .ref m4, .int 0, .long x1, .int 0, .int 0, .int 0, .int 0, .ref qc, .int 0, .ref m1, .int 0]))]) [0, 1] rfl) (hK.sub (tys' := []) [] rfl) (hD.sub (ws' := [(h0, .inr (0, [.ref qt, .int 0, .ref qs, .int 0, .ref qc, .ref qh, .ref qf, .ref qe, .ref qm, .int 0, .int (-1), .int 0, .int 0, .int 0])), (qm, .inr (5, [.ref qc, .ref qh, .ref qs, .ref m5, .ref m0, .ref m1, .ref m2, .ref m3, .int 0, .ref m4, .int 0, .long x1, .int 0, .int 0, .int 0, .int 0, .ref qc, .int 0, .ref m1, .int 0]))]) [0, 1] (by decide) rfl) hS (Nat.le_of_ble_eq_true rfl) (Nat.le_of_ble_eq_true rfl) d_G_clock_8
abbrev y_G_ran : MethodName := ⟨"FilterGuard", "ran", "(I)I"⟩
theorem d_G_ran_0 : decode prog_1_method_16_code 0 = .ok (.aload_n 0, 1) := by decide +kernel
theorem d_G_ran_1 : decode prog_1_method_16_code 1 = .ok (.getfield 50, 3) := by decide +kernel
theorem d_G_ran_4 : decode prog_1_method_16_code 4 = .ok (.getfield 217, 3) := by decide +kernel
theorem u_641 : Cond.fieldLink "FilterGuard" 217 "FilterGuard$Machine" "runs" "I" ∈ fg_g := fg_in (List.mem_of_getElem? (i := 641) (by decide +kernel)) rfl
theorem d_G_ran_7 : decode prog_1_method_16_code 7 = .ok (.ifCond .ne 5, 3) := by decide +kernel
theorem d_G_ran_10 : decode prog_1_method_16_code 10 = .ok (.iconst (-1), 1) := by decide +kernel
theorem d_G_ran_11 : decode prog_1_method_16_code 11 = .ok (.ireturn, 1) := by decide +kernel
def rm_G_ran : Room := { frames := 1, cells := 0, slots := 0, locals := 20 }
abbrev q_G_ran (D : va_G) (h0 : Nat) (qt : Nat) (qs : Nat) (qc : Nat) (qh : Nat) (qf : Nat) (qe : Nat) (qm : Nat) (m0 : Nat) (m1 : Nat) (m2 : Nat) (m3 : Nat) (m4 : Nat) (m5 : Nat) (x1 : Int32) (A : Nat → Prop) : Array Value → Jvm.State → Outcome → Jvm.State → Prop := va_Qi (fun (r : Int32) (_ : Unit) => r = -1) (fg_B D A (fun (_ : Unit) => [(h0, .inr (0, [.ref qt, .int 0, .ref qs, .int 0, .ref qc, .ref qh, .ref qf, .ref qe, .ref qm, .int 0, .int (-1), .int 0, .int 0, .int 0])), (qm, .inr (5, [.ref qc, .ref qh, .ref qs, .ref m5, .ref m0, .ref m1, .ref m2, .ref m3, .int 0, .ref m4, .int 0, .long 0, .int 0, .int 0, .int 0, .int 0, .ref qc, .int 0, .ref m1, .int 0]))]) (fun (_ : Unit) => [])) A
set_option maxHeartbeats 4000000 in
set_option maxRecDepth 100000 in
theorem c_G_ran (l : Launch) (D : va_G) (h0 : Nat) (qt : Nat) (qs : Nat) (qc : Nat) (qh : Nat) (qf : Nat) (qe : Nat) (qm : Nat) (m0 : Nat) (m1 : Nat) (m2 : Nat) (m3 : Nat) (m4 : Nat) (m5 : Nat) (x1 : Int32) (sz : Nat) : Met l y_G_ran (fg_w y_G_ran prog_1_method_16_code 2 (some .int)) rm_G_ran (va_Pc [.ref h0, .int x1] (fg_P D [] [(h0, .inr (0, [.ref qt, .int 0, .ref qs, .int 0, .ref qc, .ref qh, .ref qf, .ref qe, .ref qm, .int 0, .int (-1), .int 0, .int 0, .int 0])), (qm, .inr (5, [.ref qc, .ref qh, .ref qs, .ref m5, .ref m0, .ref m1, .ref m2, .ref m3, .int 0, .ref m4, .int 0, .long 0, .int 0, .int 0, .int 0, .int 0, .ref qc, .int 0, .ref m1, .int 0]))] sz)) (q_G_ran D h0 qt qs qc qh qf qe qm m0 m1 m2 m3 m4 m5 x1 (va_A [(h0, .inr (0, [.ref qt, .int 0, .ref qs, .int 0, .ref qc, .ref qh, .ref qf, .ref qe, .ref qm, .int 0, .int (-1), .int 0, .int 0, .int 0])), (qm, .inr (5, [.ref qc, .ref qh, .ref qs, .ref m5, .ref m0, .ref m1, .ref m2, .ref m3, .int 0, .ref m4, .int 0, .long 0, .int 0, .int 0, .int 0, .int 0, .ref qc, .int 0, .ref m1, .int 0]))] sz)) rm_G_ran.cells rm_G_ran.slots (va_A [(h0, .inr (0, [.ref qt, .int 0, .ref qs, .int 0, .ref qc, .ref qh, .ref qf, .ref qe, .ref qm, .int 0, .int (-1), .int 0, .int 0, .int 0])), (qm, .inr (5, [.ref qc, .ref qh, .ref qs, .ref m5, .ref m0, .ref m1, .ref m2, .ref m3, .int 0, .ref m4, .int 0, .long 0, .int 0, .int 0, .int 0, .int 0, .ref qc, .int 0, .ref m1, .int 0]))] sz) := by
  refine fg_enter (fun A => q_G_ran D h0 qt qs qc qh qf qe qm m0 m1 m2 m3 m4 m5 x1 A) (by decide +kernel) (Nat.le_of_ble_eq_true rfl) ?_
  intro p e s m below meth c ls A hx hb hml hown hts hr hlocks hin hP hK hD hS hA hX hl
  have hl : lv_has ls 2 [(0, .ref h0), (1, .int x1)] := hl
  refine lv_aload_n hx hb d_G_ran_0 rfl (lv_at hl 0 rfl) ?_
  refine va_get (D := D) (ci := 0) (v := .ref qm) (C := "FilterGuard") (T := F_G) (N := 14) hx hb hts i_G hown hK hP 0 rfl rfl 8 (by decide) (hts _ u_701) (fun _ h9 => h9) rfl d_G_ran_1 ?_
  refine va_get (D := D) (ci := 5) (v := .int 0) (C := "FilterGuard$Machine") (T := F_Machine) (N := 20) hx hb hts i_Machine hown hK hP 1 rfl rfl 12 (by decide) (hts _ u_641) (fun _ h9 => h9) rfl d_G_ran_4 ?_
  refine lv_if_ne (tgt := 12) hx hb d_G_ran_7 (by decide) (fun c_1 => absurd (by decide) c_1) (fun c_1 => ?_)
  refine lv_iconst (v := (-1)) hx hb d_G_ran_10 (by decide) ?_
  exact fg_reti () hx hb hr hlocks rfl (hP.sub (ws' := [(h0, .inr (0, [.ref qt, .int 0, .ref qs, .int 0, .ref qc, .ref qh, .ref qf, .ref qe, .ref qm, .int 0, .int (-1), .int 0, .int 0, .int 0])), (qm, .inr (5, [.ref qc, .ref qh, .ref qs, .ref m5, .ref m0, .ref m1, .ref m2, .ref m3, .int 0, .ref m4, .int 0, .long 0, .int 0, .int 0, .int 0, .int 0, .ref qc, .int 0, .ref m1, .int 0]))]) [0, 1] rfl) (hK.sub (tys' := []) [] rfl) (hD.sub (ws' := [(h0, .inr (0, [.ref qt, .int 0, .ref qs, .int 0, .ref qc, .ref qh, .ref qf, .ref qe, .ref qm, .int 0, .int (-1), .int 0, .int 0, .int 0])), (qm, .inr (5, [.ref qc, .ref qh, .ref qs, .ref m5, .ref m0, .ref m1, .ref m2, .ref m3, .int 0, .ref m4, .int 0, .long 0, .int 0, .int 0, .int 0, .int 0, .ref qc, .int 0, .ref m1, .int 0]))]) [0, 1] (by decide) rfl) hS (Nat.le_of_ble_eq_true rfl) (Nat.le_of_ble_eq_true rfl) d_G_ran_11
abbrev y_G_count : MethodName := ⟨"FilterGuard", "count", "(I)I"⟩
theorem d_G_count_0 : decode prog_1_method_18_code 0 = .ok (.iload_n 1, 1) := by decide +kernel
theorem d_G_count_1 : decode prog_1_method_18_code 1 = .ok (.tableswitch 74 0 4 #[35, 40, 45, 53, 66], 35) := by decide +kernel
theorem d_G_count_36 : decode prog_1_method_18_code 36 = .ok (.aload_n 0, 1) := by decide +kernel
theorem d_G_count_37 : decode prog_1_method_18_code 37 = .ok (.getfield 58, 3) := by decide +kernel
theorem d_G_count_40 : decode prog_1_method_18_code 40 = .ok (.ireturn, 1) := by decide +kernel
theorem d_G_count_41 : decode prog_1_method_18_code 41 = .ok (.aload_n 0, 1) := by decide +kernel
theorem d_G_count_42 : decode prog_1_method_18_code 42 = .ok (.getfield 85, 3) := by decide +kernel
theorem d_G_count_45 : decode prog_1_method_18_code 45 = .ok (.ireturn, 1) := by decide +kernel
theorem d_G_count_46 : decode prog_1_method_18_code 46 = .ok (.aload_n 0, 1) := by decide +kernel
theorem d_G_count_47 : decode prog_1_method_18_code 47 = .ok (.getfield 50, 3) := by decide +kernel
theorem d_G_count_50 : decode prog_1_method_18_code 50 = .ok (.getfield 229, 3) := by decide +kernel
theorem d_G_count_53 : decode prog_1_method_18_code 53 = .ok (.ireturn, 1) := by decide +kernel
theorem d_G_count_54 : decode prog_1_method_18_code 54 = .ok (.aload_n 0, 1) := by decide +kernel
theorem d_G_count_55 : decode prog_1_method_18_code 55 = .ok (.getfield 129, 3) := by decide +kernel
theorem d_G_count_58 : decode prog_1_method_18_code 58 = .ok (.ifCond .eq 7, 3) := by decide +kernel
theorem d_G_count_65 : decode prog_1_method_18_code 65 = .ok (.iconst 0, 1) := by decide +kernel
theorem d_G_count_66 : decode prog_1_method_18_code 66 = .ok (.ireturn, 1) := by decide +kernel
theorem d_G_count_67 : decode prog_1_method_18_code 67 = .ok (.aload_n 0, 1) := by decide +kernel
theorem d_G_count_68 : decode prog_1_method_18_code 68 = .ok (.getfield 50, 3) := by decide +kernel
theorem d_G_count_71 : decode prog_1_method_18_code 71 = .ok (.getfield 217, 3) := by decide +kernel
theorem d_G_count_74 : decode prog_1_method_18_code 74 = .ok (.ireturn, 1) := by decide +kernel
theorem d_G_count_75 : decode prog_1_method_18_code 75 = .ok (.iload_n 1, 1) := by decide +kernel
theorem d_G_count_76 : decode prog_1_method_18_code 76 = .ok (.bipush 10, 2) := by decide +kernel
theorem d_G_count_78 : decode prog_1_method_18_code 78 = .ok (.if_icmp .lt 29, 3) := by decide +kernel
theorem d_G_count_107 : decode prog_1_method_18_code 107 = .ok (.iconst (-1), 1) := by decide +kernel
theorem d_G_count_108 : decode prog_1_method_18_code 108 = .ok (.ireturn, 1) := by decide +kernel
theorem d_G_count_81 : decode prog_1_method_18_code 81 = .ok (.iload_n 1, 1) := by decide +kernel
theorem d_G_count_82 : decode prog_1_method_18_code 82 = .ok (.bipush 10, 2) := by decide +kernel
theorem d_G_count_84 : decode prog_1_method_18_code 84 = .ok (.isub, 1) := by decide +kernel
theorem d_G_count_85 : decode prog_1_method_18_code 85 = .ok (.aload_n 0, 1) := by decide +kernel
theorem d_G_count_86 : decode prog_1_method_18_code 86 = .ok (.getfield 85, 3) := by decide +kernel
theorem d_G_count_89 : decode prog_1_method_18_code 89 = .ok (.if_icmp .ge 18, 3) := by decide +kernel
def rm_G_count : Room := { frames := 1, cells := 0, slots := 0, locals := 20 }
abbrev q_G_count (D : va_G) (h0 : Nat) (qt : Nat) (qs : Nat) (qc : Nat) (qh : Nat) (qf : Nat) (qe : Nat) (qm : Nat) (m0 : Nat) (m1 : Nat) (m2 : Nat) (m3 : Nat) (m4 : Nat) (m5 : Nat) (x1 : Int32) (A : Nat → Prop) : Array Value → Jvm.State → Outcome → Jvm.State → Prop := va_Qi (fun (r : Int32) (_ : Unit) => r = fg_cnt x1) (fg_B D A (fun (_ : Unit) => [(h0, .inr (0, [.ref qt, .int 0, .ref qs, .int 0, .ref qc, .ref qh, .ref qf, .ref qe, .ref qm, .int 0, .int (-1), .int 0, .int 0, .int 0])), (qm, .inr (5, [.ref qc, .ref qh, .ref qs, .ref m5, .ref m0, .ref m1, .ref m2, .ref m3, .int 0, .ref m4, .int 0, .long 0, .int 0, .int 0, .int 0, .int 0, .ref qc, .int 0, .ref m1, .int 0]))]) (fun (_ : Unit) => [])) A
set_option maxHeartbeats 4000000 in
set_option maxRecDepth 100000 in
theorem c_G_count (l : Launch) (D : va_G) (h0 : Nat) (qt : Nat) (qs : Nat) (qc : Nat) (qh : Nat) (qf : Nat) (qe : Nat) (qm : Nat) (m0 : Nat) (m1 : Nat) (m2 : Nat) (m3 : Nat) (m4 : Nat) (m5 : Nat) (x1 : Int32) (sz : Nat) : Met l y_G_count (fg_w y_G_count prog_1_method_18_code 2 (some .int)) rm_G_count (va_Pc [.ref h0, .int x1] (fg_P D [] [(h0, .inr (0, [.ref qt, .int 0, .ref qs, .int 0, .ref qc, .ref qh, .ref qf, .ref qe, .ref qm, .int 0, .int (-1), .int 0, .int 0, .int 0])), (qm, .inr (5, [.ref qc, .ref qh, .ref qs, .ref m5, .ref m0, .ref m1, .ref m2, .ref m3, .int 0, .ref m4, .int 0, .long 0, .int 0, .int 0, .int 0, .int 0, .ref qc, .int 0, .ref m1, .int 0]))] sz)) (q_G_count D h0 qt qs qc qh qf qe qm m0 m1 m2 m3 m4 m5 x1 (va_A [(h0, .inr (0, [.ref qt, .int 0, .ref qs, .int 0, .ref qc, .ref qh, .ref qf, .ref qe, .ref qm, .int 0, .int (-1), .int 0, .int 0, .int 0])), (qm, .inr (5, [.ref qc, .ref qh, .ref qs, .ref m5, .ref m0, .ref m1, .ref m2, .ref m3, .int 0, .ref m4, .int 0, .long 0, .int 0, .int 0, .int 0, .int 0, .ref qc, .int 0, .ref m1, .int 0]))] sz)) rm_G_count.cells rm_G_count.slots (va_A [(h0, .inr (0, [.ref qt, .int 0, .ref qs, .int 0, .ref qc, .ref qh, .ref qf, .ref qe, .ref qm, .int 0, .int (-1), .int 0, .int 0, .int 0])), (qm, .inr (5, [.ref qc, .ref qh, .ref qs, .ref m5, .ref m0, .ref m1, .ref m2, .ref m3, .int 0, .ref m4, .int 0, .long 0, .int 0, .int 0, .int 0, .int 0, .ref qc, .int 0, .ref m1, .int 0]))] sz) := by
  refine fg_enter (fun A => q_G_count D h0 qt qs qc qh qf qe qm m0 m1 m2 m3 m4 m5 x1 A) (by decide +kernel) (Nat.le_of_ble_eq_true rfl) ?_
  intro p e s m below meth c ls A hx hb hml hown hts hr hlocks hin hP hK hD hS hA hX hl
  have hl : lv_has ls 2 [(0, .ref h0), (1, .int x1)] := hl
  refine lv_iload_n hx hb d_G_count_0 rfl (lv_at hl 1 rfl) ?_
  by_cases n_1 : x1 = 0
  · subst n_1
    refine lv_tableIn (off := 35) (tgt := 36) hx hb d_G_count_1 (by decide) (by decide) (by decide) (by decide) ?_
    refine lv_aload_n hx hb d_G_count_36 rfl (lv_at hl 0 rfl) ?_
    refine va_get (D := D) (ci := 0) (v := .int 0) (C := "FilterGuard") (T := F_G) (N := 14) hx hb hts i_G hown hK hP 0 rfl rfl 1 (by decide) (hts _ u_694) (fun _ h9 => h9) rfl d_G_count_37 ?_
    exact fg_reti () hx hb hr hlocks (by simp [fg_cnt]) (hP.sub (ws' := [(h0, .inr (0, [.ref qt, .int 0, .ref qs, .int 0, .ref qc, .ref qh, .ref qf, .ref qe, .ref qm, .int 0, .int (-1), .int 0, .int 0, .int 0])), (qm, .inr (5, [.ref qc, .ref qh, .ref qs, .ref m5, .ref m0, .ref m1, .ref m2, .ref m3, .int 0, .ref m4, .int 0, .long 0, .int 0, .int 0, .int 0, .int 0, .ref qc, .int 0, .ref m1, .int 0]))]) [0, 1] rfl) (hK.sub (tys' := []) [] rfl) (hD.sub (ws' := [(h0, .inr (0, [.ref qt, .int 0, .ref qs, .int 0, .ref qc, .ref qh, .ref qf, .ref qe, .ref qm, .int 0, .int (-1), .int 0, .int 0, .int 0])), (qm, .inr (5, [.ref qc, .ref qh, .ref qs, .ref m5, .ref m0, .ref m1, .ref m2, .ref m3, .int 0, .ref m4, .int 0, .long 0, .int 0, .int 0, .int 0, .int 0, .ref qc, .int 0, .ref m1, .int 0]))]) [0, 1] (by decide) rfl) hS (Nat.le_of_ble_eq_true rfl) (Nat.le_of_ble_eq_true rfl) d_G_count_40
  by_cases n_2 : x1 = 1
  · subst n_2
    refine lv_tableIn (off := 40) (tgt := 41) hx hb d_G_count_1 (by decide) (by decide) (by decide) (by decide) ?_
    refine lv_aload_n hx hb d_G_count_41 rfl (lv_at hl 0 rfl) ?_
    refine va_get (D := D) (ci := 0) (v := .int 0) (C := "FilterGuard") (T := F_G) (N := 14) hx hb hts i_G hown hK hP 0 rfl rfl 3 (by decide) (hts _ u_696) (fun _ h9 => h9) rfl d_G_count_42 ?_
    exact fg_reti () hx hb hr hlocks (by simp [fg_cnt]) (hP.sub (ws' := [(h0, .inr (0, [.ref qt, .int 0, .ref qs, .int 0, .ref qc, .ref qh, .ref qf, .ref qe, .ref qm, .int 0, .int (-1), .int 0, .int 0, .int 0])), (qm, .inr (5, [.ref qc, .ref qh, .ref qs, .ref m5, .ref m0, .ref m1, .ref m2, .ref m3, .int 0, .ref m4, .int 0, .long 0, .int 0, .int 0, .int 0, .int 0, .ref qc, .int 0, .ref m1, .int 0]))]) [0, 1] rfl) (hK.sub (tys' := []) [] rfl) (hD.sub (ws' := [(h0, .inr (0, [.ref qt, .int 0, .ref qs, .int 0, .ref qc, .ref qh, .ref qf, .ref qe, .ref qm, .int 0, .int (-1), .int 0, .int 0, .int 0])), (qm, .inr (5, [.ref qc, .ref qh, .ref qs, .ref m5, .ref m0, .ref m1, .ref m2, .ref m3, .int 0, .ref m4, .int 0, .long 0, .int 0, .int 0, .int 0, .int 0, .ref qc, .int 0, .ref m1, .int 0]))]) [0, 1] (by decide) rfl) hS (Nat.le_of_ble_eq_true rfl) (Nat.le_of_ble_eq_true rfl) d_G_count_45
  by_cases n_3 : x1 = 2
  · subst n_3
    refine lv_tableIn (off := 45) (tgt := 46) hx hb d_G_count_1 (by decide) (by decide) (by decide) (by decide) ?_
    refine lv_aload_n hx hb d_G_count_46 rfl (lv_at hl 0 rfl) ?_
    refine va_get (D := D) (ci := 0) (v := .ref qm) (C := "FilterGuard") (T := F_G) (N := 14) hx hb hts i_G hown hK hP 0 rfl rfl 8 (by decide) (hts _ u_701) (fun _ h9 => h9) rfl d_G_count_47 ?_
    refine va_get (D := D) (ci := 5) (v := .int 0) (C := "FilterGuard$Machine") (T := F_Machine) (N := 20) hx hb hts i_Machine hown hK hP 1 rfl rfl 10 (by decide) (hts _ u_637) (fun _ h9 => h9) rfl d_G_count_50 ?_
    exact fg_reti () hx hb hr hlocks (by simp [fg_cnt]) (hP.sub (ws' := [(h0, .inr (0, [.ref qt, .int 0, .ref qs, .int 0, .ref qc, .ref qh, .ref qf, .ref qe, .ref qm, .int 0, .int (-1), .int 0, .int 0, .int 0])), (qm, .inr (5, [.ref qc, .ref qh, .ref qs, .ref m5, .ref m0, .ref m1, .ref m2, .ref m3, .int 0, .ref m4, .int 0, .long 0, .int 0, .int 0, .int 0, .int 0, .ref qc, .int 0, .ref m1, .int 0]))]) [0, 1] rfl) (hK.sub (tys' := []) [] rfl) (hD.sub (ws' := [(h0, .inr (0, [.ref qt, .int 0, .ref qs, .int 0, .ref qc, .ref qh, .ref qf, .ref qe, .ref qm, .int 0, .int (-1), .int 0, .int 0, .int 0])), (qm, .inr (5, [.ref qc, .ref qh, .ref qs, .ref m5, .ref m0, .ref m1, .ref m2, .ref m3, .int 0, .ref m4, .int 0, .long 0, .int 0, .int 0, .int 0, .int 0, .ref qc, .int 0, .ref m1, .int 0]))]) [0, 1] (by decide) rfl) hS (Nat.le_of_ble_eq_true rfl) (Nat.le_of_ble_eq_true rfl) d_G_count_53
  by_cases n_4 : x1 = 3
  · subst n_4
    refine lv_tableIn (off := 53) (tgt := 54) hx hb d_G_count_1 (by decide) (by decide) (by decide) (by decide) ?_
    refine lv_aload_n hx hb d_G_count_54 rfl (lv_at hl 0 rfl) ?_
    refine va_get (D := D) (ci := 0) (v := .int 0) (C := "FilterGuard") (T := F_G) (N := 14) hx hb hts i_G hown hK hP 0 rfl rfl 12 (by decide) (hts _ u_705) (fun _ h9 => h9) rfl d_G_count_55 ?_
    refine lv_if_eq (tgt := 65) hx hb d_G_count_58 (by decide) (fun c_5 => ?_) (fun c_5 => absurd (by decide) c_5)
    refine lv_iconst (v := 0) hx hb d_G_count_65 (by decide) ?_
    exact fg_reti () hx hb hr hlocks (by simp [fg_cnt]) (hP.sub (ws' := [(h0, .inr (0, [.ref qt, .int 0, .ref qs, .int 0, .ref qc, .ref qh, .ref qf, .ref qe, .ref qm, .int 0, .int (-1), .int 0, .int 0, .int 0])), (qm, .inr (5, [.ref qc, .ref qh, .ref qs, .ref m5, .ref m0, .ref m1, .ref m2, .ref m3, .int 0, .ref m4, .int 0, .long 0, .int 0, .int 0, .int 0, .int 0, .ref qc, .int 0, .ref m1, .int 0]))]) [0, 1] rfl) (hK.sub (tys' := []) [] rfl) (hD.sub (ws' := [(h0, .inr (0, [.ref qt, .int 0, .ref qs, .int 0, .ref qc, .ref qh, .ref qf, .ref qe, .ref qm, .int 0, .int (-1), .int 0, .int 0, .int 0])), (qm, .inr (5, [.ref qc, .ref qh, .ref qs, .ref m5, .ref m0, .ref m1, .ref m2, .ref m3, .int 0, .ref m4, .int 0, .long 0, .int 0, .int 0, .int 0, .int 0, .ref qc, .int 0, .ref m1, .int 0]))]) [0, 1] (by decide) rfl) hS (Nat.le_of_ble_eq_true rfl) (Nat.le_of_ble_eq_true rfl) d_G_count_66
  by_cases n_6 : x1 = 4
  · subst n_6
    refine lv_tableIn (off := 66) (tgt := 67) hx hb d_G_count_1 (by decide) (by decide) (by decide) (by decide) ?_
    refine lv_aload_n hx hb d_G_count_67 rfl (lv_at hl 0 rfl) ?_
    refine va_get (D := D) (ci := 0) (v := .ref qm) (C := "FilterGuard") (T := F_G) (N := 14) hx hb hts i_G hown hK hP 0 rfl rfl 8 (by decide) (hts _ u_701) (fun _ h9 => h9) rfl d_G_count_68 ?_
    refine va_get (D := D) (ci := 5) (v := .int 0) (C := "FilterGuard$Machine") (T := F_Machine) (N := 20) hx hb hts i_Machine hown hK hP 1 rfl rfl 12 (by decide) (hts _ u_641) (fun _ h9 => h9) rfl d_G_count_71 ?_
    exact fg_reti () hx hb hr hlocks (by simp [fg_cnt]) (hP.sub (ws' := [(h0, .inr (0, [.ref qt, .int 0, .ref qs, .int 0, .ref qc, .ref qh, .ref qf, .ref qe, .ref qm, .int 0, .int (-1), .int 0, .int 0, .int 0])), (qm, .inr (5, [.ref qc, .ref qh, .ref qs, .ref m5, .ref m0, .ref m1, .ref m2, .ref m3, .int 0, .ref m4, .int 0, .long 0, .int 0, .int 0, .int 0, .int 0, .ref qc, .int 0, .ref m1, .int 0]))]) [0, 1] rfl) (hK.sub (tys' := []) [] rfl) (hD.sub (ws' := [(h0, .inr (0, [.ref qt, .int 0, .ref qs, .int 0, .ref qc, .ref qh, .ref qf, .ref qe, .ref qm, .int 0, .int (-1), .int 0, .int 0, .int 0])), (qm, .inr (5, [.ref qc, .ref qh, .ref qs, .ref m5, .ref m0, .ref m1, .ref m2, .ref m3, .int 0, .ref m4, .int 0, .long 0, .int 0, .int 0, .int 0, .int 0, .ref qc, .int 0, .ref m1, .int 0]))]) [0, 1] (by decide) rfl) hS (Nat.le_of_ble_eq_true rfl) (Nat.le_of_ble_eq_true rfl) d_G_count_74
  have in_1 := lv_neT n_1 (show (0 : Int32).toInt = 0 from rfl)
  have in_2 := lv_neT n_2 (show (1 : Int32).toInt = 1 from rfl)
  have in_3 := lv_neT n_3 (show (2 : Int32).toInt = 2 from rfl)
  have in_4 := lv_neT n_4 (show (3 : Int32).toInt = 3 from rfl)
  have in_6 := lv_neT n_6 (show (4 : Int32).toInt = 4 from rfl)
  refine lv_tableOut (tgt := 75) hx hb d_G_count_1 (by omega) (by decide) ?_
  refine lv_iload_n hx hb d_G_count_75 rfl (lv_at hl 1 rfl) ?_
  refine lv_bipush (v := 10) hx hb d_G_count_76 (by decide) ?_
  refine lv_icmp_lt (tgt := 107) hx hb d_G_count_78 (by decide) (fun c_7 => ?_) (fun c_7 => ?_)
  · refine lv_iconst (v := (-1)) hx hb d_G_count_107 (by decide) ?_
    exact fg_reti () hx hb hr hlocks (by simp [fg_cnt, n_1, n_2, n_3, n_4, n_6]) (hP.sub (ws' := [(h0, .inr (0, [.ref qt, .int 0, .ref qs, .int 0, .ref qc, .ref qh, .ref qf, .ref qe, .ref qm, .int 0, .int (-1), .int 0, .int 0, .int 0])), (qm, .inr (5, [.ref qc, .ref qh, .ref qs, .ref m5, .ref m0, .ref m1, .ref m2, .ref m3, .int 0, .ref m4, .int 0, .long 0, .int 0, .int 0, .int 0, .int 0, .ref qc, .int 0, .ref m1, .int 0]))]) [0, 1] rfl) (hK.sub (tys' := []) [] rfl) (hD.sub (ws' := [(h0, .inr (0, [.ref qt, .int 0, .ref qs, .int 0, .ref qc, .ref qh, .ref qf, .ref qe, .ref qm, .int 0, .int (-1), .int 0, .int 0, .int 0])), (qm, .inr (5, [.ref qc, .ref qh, .ref qs, .ref m5, .ref m0, .ref m1, .ref m2, .ref m3, .int 0, .ref m4, .int 0, .long 0, .int 0, .int 0, .int 0, .int 0, .ref qc, .int 0, .ref m1, .int 0]))]) [0, 1] (by decide) rfl) hS (Nat.le_of_ble_eq_true rfl) (Nat.le_of_ble_eq_true rfl) d_G_count_108
  · refine lv_iload_n hx hb d_G_count_81 rfl (lv_at hl 1 rfl) ?_
    refine lv_bipush (v := 10) hx hb d_G_count_82 (by decide) ?_
    refine lv_isub hx hb d_G_count_84 ?_
    refine lv_aload_n hx hb d_G_count_85 rfl (lv_at hl 0 rfl) ?_
    refine va_get (D := D) (ci := 0) (v := .int 0) (C := "FilterGuard") (T := F_G) (N := 14) hx hb hts i_G hown hK hP 0 rfl rfl 3 (by decide) (hts _ u_696) (fun _ h9 => h9) rfl d_G_count_86 ?_
    refine lv_icmp_ge (tgt := 107) hx hb d_G_count_89 (by decide) (fun c_8 => ?_) (fun c_8 => absurd (fg_sub10 c_7) c_8)
    refine lv_iconst (v := (-1)) hx hb d_G_count_107 (by decide) ?_
    exact fg_reti () hx hb hr hlocks (by simp [fg_cnt, n_1, n_2, n_3, n_4, n_6]) (hP.sub (ws' := [(h0, .inr (0, [.ref qt, .int 0, .ref qs, .int 0, .ref qc, .ref qh, .ref qf, .ref qe, .ref qm, .int 0, .int (-1), .int 0, .int 0, .int 0])), (qm, .inr (5, [.ref qc, .ref qh, .ref qs, .ref m5, .ref m0, .ref m1, .ref m2, .ref m3, .int 0, .ref m4, .int 0, .long 0, .int 0, .int 0, .int 0, .int 0, .ref qc, .int 0, .ref m1, .int 0]))]) [0, 1] rfl) (hK.sub (tys' := []) [] rfl) (hD.sub (ws' := [(h0, .inr (0, [.ref qt, .int 0, .ref qs, .int 0, .ref qc, .ref qh, .ref qf, .ref qe, .ref qm, .int 0, .int (-1), .int 0, .int 0, .int 0])), (qm, .inr (5, [.ref qc, .ref qh, .ref qs, .ref m5, .ref m0, .ref m1, .ref m2, .ref m3, .int 0, .ref m4, .int 0, .long 0, .int 0, .int 0, .int 0, .int 0, .ref qc, .int 0, .ref m1, .int 0]))]) [0, 1] (by decide) rfl) hS (Nat.le_of_ble_eq_true rfl) (Nat.le_of_ble_eq_true rfl) d_G_count_108
abbrev y_Machine_takePacket : MethodName := ⟨"FilterGuard$Machine", "takePacket", "([BI)V"⟩
theorem d_Machine_takePacket_0 : decode prog_7_method_2_code 0 = .ok (.aload_n 1, 1) := by decide +kernel
theorem d_Machine_takePacket_1 : decode prog_7_method_2_code 1 = .ok (.iconst 0, 1) := by decide +kernel
theorem d_Machine_takePacket_2 : decode prog_7_method_2_code 2 = .ok (.aload_n 0, 1) := by decide +kernel
theorem d_Machine_takePacket_3 : decode prog_7_method_2_code 3 = .ok (.getfield 22, 3) := by decide +kernel
theorem d_Machine_takePacket_6 : decode prog_7_method_2_code 6 = .ok (.iconst 0, 1) := by decide +kernel
theorem d_Machine_takePacket_7 : decode prog_7_method_2_code 7 = .ok (.iload_n 2, 1) := by decide +kernel
theorem d_Machine_takePacket_8 : decode prog_7_method_2_code 8 = .ok (.invokestatic 54, 3) := by decide +kernel
theorem u_774 : Cond.methodLink "FilterGuard$Machine" 54 ⟨"java/lang/System", "arraycopy", "(Ljava/lang/Object;ILjava/lang/Object;II)V"⟩ ∈ fg_g := fg_in (List.mem_of_getElem? (i := 774) (by decide +kernel)) rfl
theorem u_757 : Cond.native ⟨"java/lang/System", "arraycopy", "(Ljava/lang/Object;ILjava/lang/Object;II)V"⟩ ∈ fg_g := fg_in (List.mem_of_getElem? (i := 757) (by decide +kernel)) rfl
theorem u_756 : Cond.static ⟨"java/lang/System", "arraycopy", "(Ljava/lang/Object;ILjava/lang/Object;II)V"⟩ ∈ fg_g := fg_in (List.mem_of_getElem? (i := 756) (by decide +kernel)) rfl
theorem u_195 : Cond.initialized "java/lang/System" ∈ fg_g := fg_in (List.mem_of_getElem? (i := 195) (by decide +kernel)) rfl
theorem d_Machine_takePacket_11 : decode prog_7_method_2_code 11 = .ok (.aload_n 0, 1) := by decide +kernel
theorem d_Machine_takePacket_12 : decode prog_7_method_2_code 12 = .ok (.iload_n 2, 1) := by decide +kernel
theorem d_Machine_takePacket_13 : decode prog_7_method_2_code 13 = .ok (.putfield 60, 3) := by decide +kernel
theorem u_632 : Cond.fieldLink "FilterGuard$Machine" 60 "FilterGuard$Machine" "packetSize" "I" ∈ fg_g := fg_in (List.mem_of_getElem? (i := 632) (by decide +kernel)) rfl
theorem d_Machine_takePacket_16 : decode prog_7_method_2_code 16 = .ok (.return_, 1) := by decide +kernel
def rm_Machine_take0 : Room := { frames := 1, cells := 0, slots := 0, locals := 80 }
abbrev q_Machine_take0 (D : va_G) (h0 : Nat) (qc : Nat) (qh : Nat) (qs : Nat) (m0 : Nat) (m1 : Nat) (m2 : Nat) (m3 : Nat) (m4 : Nat) (m5 : Nat) (qt : Nat) (kt : ClassId) (ft : (Nat → Int32)) (kp : ClassId) (fp : (Nat → Int32)) (A : Nat → Prop) : Array Value → Jvm.State → Outcome → Jvm.State → Prop := va_Qv (fun (f1 : (Nat → Int32)) => True) (fg_B D A (fun (f1 : (Nat → Int32)) => [(h0, .inr (5, [.ref qc, .ref qh, .ref qs, .ref m5, .ref m0, .ref m1, .ref m2, .ref m3, .int 0, .ref m4, .int 0, .long 0, .int 0, .int 0, .int 0, .int 0, .ref qc, .int 0, .ref m1, .int 0])), (qt, .inl (kt, 1280, .inl ft)), (m3, .inl (kp, 2000, .inl f1))]) (fun (f1 : (Nat → Int32)) => [])) A
set_option maxHeartbeats 4000000 in
set_option maxRecDepth 100000 in
theorem c_Machine_take0 (l : Launch) (D : va_G) (h0 : Nat) (qc : Nat) (qh : Nat) (qs : Nat) (m0 : Nat) (m1 : Nat) (m2 : Nat) (m3 : Nat) (m4 : Nat) (m5 : Nat) (qt : Nat) (kt : ClassId) (ft : (Nat → Int32)) (kp : ClassId) (fp : (Nat → Int32)) (sz : Nat) : Met l y_Machine_takePacket (fg_w y_Machine_takePacket prog_7_method_2_code 3 none) rm_Machine_take0 (va_Pc [.ref h0, .ref qt, .int 0] (fg_P D [(kt, .byte), (kp, .byte)] [(h0, .inr (5, [.ref qc, .ref qh, .ref qs, .ref m5, .ref m0, .ref m1, .ref m2, .ref m3, .int 0, .ref m4, .int 0, .long 0, .int 0, .int 0, .int 0, .int 0, .ref qc, .int 0, .ref m1, .int 0])), (qt, .inl (kt, 1280, .inl ft)), (m3, .inl (kp, 2000, .inl fp))] sz)) (q_Machine_take0 D h0 qc qh qs m0 m1 m2 m3 m4 m5 qt kt ft kp fp (va_A [(h0, .inr (5, [.ref qc, .ref qh, .ref qs, .ref m5, .ref m0, .ref m1, .ref m2, .ref m3, .int 0, .ref m4, .int 0, .long 0, .int 0, .int 0, .int 0, .int 0, .ref qc, .int 0, .ref m1, .int 0])), (qt, .inl (kt, 1280, .inl ft)), (m3, .inl (kp, 2000, .inl fp))] sz)) rm_Machine_take0.cells rm_Machine_take0.slots (va_A [(h0, .inr (5, [.ref qc, .ref qh, .ref qs, .ref m5, .ref m0, .ref m1, .ref m2, .ref m3, .int 0, .ref m4, .int 0, .long 0, .int 0, .int 0, .int 0, .int 0, .ref qc, .int 0, .ref m1, .int 0])), (qt, .inl (kt, 1280, .inl ft)), (m3, .inl (kp, 2000, .inl fp))] sz) := by
  refine fg_enter (fun A => q_Machine_take0 D h0 qc qh qs m0 m1 m2 m3 m4 m5 qt kt ft kp fp A) (by decide +kernel) (Nat.le_of_ble_eq_true rfl) ?_
  intro p e s m below meth c ls A hx hb hml hown hts hr hlocks hin hP hK hD hS hA hX hl
  have hl : lv_has ls 3 [(0, .ref h0), (1, .ref qt), (2, .int 0)] := hl
  refine lv_aload_n hx hb d_Machine_takePacket_0 rfl (lv_at hl 1 rfl) ?_
  refine lv_iconst (v := 0) hx hb d_Machine_takePacket_1 (by decide) ?_
  refine lv_aload_n hx hb d_Machine_takePacket_2 rfl (lv_at hl 0 rfl) ?_
  refine va_get (D := D) (ci := 5) (v := .ref m3) (C := "FilterGuard$Machine") (T := F_Machine) (N := 20) hx hb hts i_Machine hown hK hP 0 rfl rfl 7 (by decide) (hts _ u_630) (fun _ h9 => h9) rfl d_Machine_takePacket_3 ?_
  refine lv_iconst (v := 0) hx hb d_Machine_takePacket_6 (by decide) ?_
  refine lv_iload_n hx hb d_Machine_takePacket_7 rfl (lv_at hl 2 rfl) ?_
  refine va_copyi hx hb (hml.trans hl.1.symm) hown (hts _ u_774) (hts _ u_757) (hts _ u_756) (hts _ u_195) hK hP hD hS 1 2 0 1 rfl rfl rfl rfl rfl (by decide) (by decide) (by decide) (by decide) (by decide) (fun i hi => absurd hi (Nat.not_lt_zero i)) (Nat.le_of_ble_eq_true rfl) (Nat.le_of_ble_eq_true rfl) d_Machine_takePacket_8 (fun H locs hP hD hS => ?_)
  have hP : va_P D classes [(h0, .inr (5, [.ref qc, .ref qh, .ref qs, .ref m5, .ref m0, .ref m1, .ref m2, .ref m3, .int 0, .ref m4, .int 0, .long 0, .int 0, .int 0, .int 0, .int 0, .ref qc, .int 0, .ref m1, .int 0])), (qt, .inl (kt, 1280, .inl ft)), (m3, .inl (kp, 2000, .inl (va_cpy ft fp (0 : Int32).toNatClampNeg (0 : Int32).toNatClampNeg (0 : Int32).toNatClampNeg)))] H := hP
  have hD : va_D A [(h0, .inr (5, [.ref qc, .ref qh, .ref qs, .ref m5, .ref m0, .ref m1, .ref m2, .ref m3, .int 0, .ref m4, .int 0, .long 0, .int 0, .int 0, .int 0, .int 0, .ref qc, .int 0, .ref m1, .int 0])), (qt, .inl (kt, 1280, .inl ft)), (m3, .inl (kp, 2000, .inl (va_cpy ft fp (0 : Int32).toNatClampNeg (0 : Int32).toNatClampNeg (0 : Int32).toNatClampNeg)))] := hD
  obtain ⟨f_1, ef_1⟩ : ∃ g : Nat → Int32, g = va_cpy ft fp (0 : Int32).toNatClampNeg (0 : Int32).toNatClampNeg (0 : Int32).toNatClampNeg := ⟨_, rfl⟩
  rw [← ef_1] at hP hD
  refine lv_aload_n hx hb d_Machine_takePacket_11 rfl (lv_at hl 0 rfl) ?_
  refine lv_iload_n hx hb d_Machine_takePacket_12 rfl (lv_at hl 2 rfl) ?_
  refine va_put (D := D) (ci := 5) (v := .int 0) (ty := .int) (C := "FilterGuard$Machine") (T := F_Machine) (N := 20) hx hb hts i_Machine t_Machine t_Machine_ok n_Machine hown hK hP hD hS 0 rfl rfl 8 (by decide) (hts _ u_632) (fun _ h9 => h9) rfl (by decide +kernel) rfl rfl (Nat.le_of_ble_eq_true rfl) d_Machine_takePacket_13 (fun H locs hP hD hS => ?_)
  have hP : va_P D classes [(h0, .inr (5, [.ref qc, .ref qh, .ref qs, .ref m5, .ref m0, .ref m1, .ref m2, .ref m3, .int 0, .ref m4, .int 0, .long 0, .int 0, .int 0, .int 0, .int 0, .ref qc, .int 0, .ref m1, .int 0])), (qt, .inl (kt, 1280, .inl ft)), (m3, .inl (kp, 2000, .inl f_1))] H := hP
  have hD : va_D A [(h0, .inr (5, [.ref qc, .ref qh, .ref qs, .ref m5, .ref m0, .ref m1, .ref m2, .ref m3, .int 0, .ref m4, .int 0, .long 0, .int 0, .int 0, .int 0, .int 0, .ref qc, .int 0, .ref m1, .int 0])), (qt, .inl (kt, 1280, .inl ft)), (m3, .inl (kp, 2000, .inl f_1))] := hD
  exact fg_retv (f_1) hx hb hr hlocks trivial (hP.sub (ws' := [(h0, .inr (5, [.ref qc, .ref qh, .ref qs, .ref m5, .ref m0, .ref m1, .ref m2, .ref m3, .int 0, .ref m4, .int 0, .long 0, .int 0, .int 0, .int 0, .int 0, .ref qc, .int 0, .ref m1, .int 0])), (qt, .inl (kt, 1280, .inl ft)), (m3, .inl (kp, 2000, .inl f_1))]) [0, 1, 2] rfl) (hK.sub (tys' := []) [] rfl) (hD.sub (ws' := [(h0, .inr (5, [.ref qc, .ref qh, .ref qs, .ref m5, .ref m0, .ref m1, .ref m2, .ref m3, .int 0, .ref m4, .int 0, .long 0, .int 0, .int 0, .int 0, .int 0, .ref qc, .int 0, .ref m1, .int 0])), (qt, .inl (kt, 1280, .inl ft)), (m3, .inl (kp, 2000, .inl f_1))]) [0, 1, 2] (by decide) rfl) hS (Nat.le_of_ble_eq_true rfl) (Nat.le_of_ble_eq_true rfl) d_Machine_takePacket_16
abbrev y_G_packet : MethodName := ⟨"FilterGuard", "packet", "(I)Z"⟩
theorem d_G_packet_0 : decode prog_1_method_9_code 0 = .ok (.aload_n 0, 1) := by decide +kernel
theorem d_G_packet_1 : decode prog_1_method_9_code 1 = .ok (.getfield 58, 3) := by decide +kernel
theorem d_G_packet_4 : decode prog_1_method_9_code 4 = .ok (.istore_n 2, 1) := by decide +kernel
theorem d_G_packet_5 : decode prog_1_method_9_code 5 = .ok (.aload_n 0, 1) := by decide +kernel
theorem d_G_packet_6 : decode prog_1_method_9_code 6 = .ok (.iconst 0, 1) := by decide +kernel
theorem d_G_packet_7 : decode prog_1_method_9_code 7 = .ok (.putfield 58, 3) := by decide +kernel
theorem d_G_packet_10 : decode prog_1_method_9_code 10 = .ok (.iload_n 1, 1) := by decide +kernel
theorem d_G_packet_11 : decode prog_1_method_9_code 11 = .ok (.ifCond .lt 15, 3) := by decide +kernel
theorem d_G_packet_26 : decode prog_1_method_9_code 26 = .ok (.iconst 0, 1) := by decide +kernel
theorem d_G_packet_27 : decode prog_1_method_9_code 27 = .ok (.ireturn, 1) := by decide +kernel
theorem d_G_packet_14 : decode prog_1_method_9_code 14 = .ok (.iload_n 1, 1) := by decide +kernel
theorem d_G_packet_15 : decode prog_1_method_9_code 15 = .ok (.sipush 2000, 3) := by decide +kernel
theorem d_G_packet_18 : decode prog_1_method_9_code 18 = .ok (.if_icmp .gt 8, 3) := by decide +kernel
theorem d_G_packet_21 : decode prog_1_method_9_code 21 = .ok (.iload_n 1, 1) := by decide +kernel
theorem d_G_packet_22 : decode prog_1_method_9_code 22 = .ok (.iload_n 2, 1) := by decide +kernel
theorem d_G_packet_23 : decode prog_1_method_9_code 23 = .ok (.if_icmp .le 5, 3) := by decide +kernel
theorem d_G_packet_28 : decode prog_1_method_9_code 28 = .ok (.aload_n 0, 1) := by decide +kernel
theorem d_G_packet_29 : decode prog_1_method_9_code 29 = .ok (.getfield 50, 3) := by decide +kernel
theorem d_G_packet_32 : decode prog_1_method_9_code 32 = .ok (.aload_n 0, 1) := by decide +kernel
theorem d_G_packet_33 : decode prog_1_method_9_code 33 = .ok (.getfield 9, 3) := by decide +kernel
theorem d_G_packet_36 : decode prog_1_method_9_code 36 = .ok (.iload_n 1, 1) := by decide +kernel
theorem d_G_packet_37 : decode prog_1_method_9_code 37 = .ok (.invokevirtual 166, 3) := by decide +kernel
theorem u_770 : Cond.methodLink "FilterGuard" 166 ⟨"FilterGuard$Machine", "takePacket", "([BI)V"⟩ ∈ fg_g := fg_in (List.mem_of_getElem? (i := 770) (by decide +kernel)) rfl
theorem u_773 : Cond.code ⟨"FilterGuard$Machine", "takePacket", "([BI)V"⟩ prog_7_method_2_code 3 none ∈ fg_g := fg_in (List.mem_of_getElem? (i := 773) (by decide +kernel)) rfl
theorem u_771 : Cond.instanceMethod ⟨"FilterGuard$Machine", "takePacket", "([BI)V"⟩ ∈ fg_g := fg_in (List.mem_of_getElem? (i := 771) (by decide +kernel)) rfl
theorem u_772 : Cond.selects "FilterGuard$Machine" ⟨"FilterGuard$Machine", "takePacket", "([BI)V"⟩ ⟨"FilterGuard$Machine", "takePacket", "([BI)V"⟩ ∈ fg_g := fg_in (List.mem_of_getElem? (i := 772) (by decide +kernel)) rfl
theorem d_G_packet_40 : decode prog_1_method_9_code 40 = .ok (.iconst 1, 1) := by decide +kernel
theorem d_G_packet_41 : decode prog_1_method_9_code 41 = .ok (.ireturn, 1) := by decide +kernel
def rm_G_packet : Room := { frames := 2, cells := 0, slots := 0, locals := 140 }
abbrev q_G_packet (D : va_G) (h0 : Nat) (qt : Nat) (qs : Nat) (qc : Nat) (qh : Nat) (qf : Nat) (qe : Nat) (qm : Nat) (m0 : Nat) (m1 : Nat) (m2 : Nat) (m3 : Nat) (m4 : Nat) (m5 : Nat) (kt : ClassId) (ft : (Nat → Int32)) (kp : ClassId) (fp : (Nat → Int32)) (x1 : Int32) (A : Nat → Prop) : Array Value → Jvm.State → Outcome → Jvm.State → Prop := va_Qi (fun (r : Int32) (f1 : (Nat → Int32)) => r = (if x1 = 0 then 1 else 0)) (fg_B D A (fun (f1 : (Nat → Int32)) => [(h0, .inr (0, [.ref qt, .int 0, .ref qs, .int 0, .ref qc, .ref qh, .ref qf, .ref qe, .ref qm, .int 0, .int (-1), .int 0, .int 0, .int 0])), (qm, .inr (5, [.ref qc, .ref qh, .ref qs, .ref m5, .ref m0, .ref m1, .ref m2, .ref m3, .int 0, .ref m4, .int 0, .long 0, .int 0, .int 0, .int 0, .int 0, .ref qc, .int 0, .ref m1, .int 0])), (qt, .inl (kt, 1280, .inl ft)), (m3, .inl (kp, 2000, .inl f1))]) (fun (f1 : (Nat → Int32)) => [])) A
set_option maxHeartbeats 4000000 in
set_option maxRecDepth 100000 in
theorem c_G_packet (l : Launch) (D : va_G) (h0 : Nat) (qt : Nat) (qs : Nat) (qc : Nat) (qh : Nat) (qf : Nat) (qe : Nat) (qm : Nat) (m0 : Nat) (m1 : Nat) (m2 : Nat) (m3 : Nat) (m4 : Nat) (m5 : Nat) (kt : ClassId) (ft : (Nat → Int32)) (kp : ClassId) (fp : (Nat → Int32)) (x1 : Int32) (sz : Nat) : Met l y_G_packet (fg_w y_G_packet prog_1_method_9_code 3 (some .boolean)) rm_G_packet (va_Pc [.ref h0, .int x1] (fg_P D [(kt, .byte), (kp, .byte)] [(h0, .inr (0, [.ref qt, .int 0, .ref qs, .int 0, .ref qc, .ref qh, .ref qf, .ref qe, .ref qm, .int 0, .int (-1), .int 0, .int 0, .int 0])), (qm, .inr (5, [.ref qc, .ref qh, .ref qs, .ref m5, .ref m0, .ref m1, .ref m2, .ref m3, .int 0, .ref m4, .int 0, .long 0, .int 0, .int 0, .int 0, .int 0, .ref qc, .int 0, .ref m1, .int 0])), (qt, .inl (kt, 1280, .inl ft)), (m3, .inl (kp, 2000, .inl fp))] sz)) (q_G_packet D h0 qt qs qc qh qf qe qm m0 m1 m2 m3 m4 m5 kt ft kp fp x1 (va_A [(h0, .inr (0, [.ref qt, .int 0, .ref qs, .int 0, .ref qc, .ref qh, .ref qf, .ref qe, .ref qm, .int 0, .int (-1), .int 0, .int 0, .int 0])), (qm, .inr (5, [.ref qc, .ref qh, .ref qs, .ref m5, .ref m0, .ref m1, .ref m2, .ref m3, .int 0, .ref m4, .int 0, .long 0, .int 0, .int 0, .int 0, .int 0, .ref qc, .int 0, .ref m1, .int 0])), (qt, .inl (kt, 1280, .inl ft)), (m3, .inl (kp, 2000, .inl fp))] sz)) rm_G_packet.cells rm_G_packet.slots (va_A [(h0, .inr (0, [.ref qt, .int 0, .ref qs, .int 0, .ref qc, .ref qh, .ref qf, .ref qe, .ref qm, .int 0, .int (-1), .int 0, .int 0, .int 0])), (qm, .inr (5, [.ref qc, .ref qh, .ref qs, .ref m5, .ref m0, .ref m1, .ref m2, .ref m3, .int 0, .ref m4, .int 0, .long 0, .int 0, .int 0, .int 0, .int 0, .ref qc, .int 0, .ref m1, .int 0])), (qt, .inl (kt, 1280, .inl ft)), (m3, .inl (kp, 2000, .inl fp))] sz) := by
  refine fg_enter (fun A => q_G_packet D h0 qt qs qc qh qf qe qm m0 m1 m2 m3 m4 m5 kt ft kp fp x1 A) (by decide +kernel) (Nat.le_of_ble_eq_true rfl) ?_
  intro p e s m below meth c ls A hx hb hml hown hts hr hlocks hin hP hK hD hS hA hX hl
  have hl : lv_has ls 3 [(0, .ref h0), (1, .int x1)] := hl
  refine lv_aload_n hx hb d_G_packet_0 rfl (lv_at hl 0 rfl) ?_
  refine va_get (D := D) (ci := 0) (v := .int 0) (C := "FilterGuard") (T := F_G) (N := 14) hx hb hts i_G hown hK hP 0 rfl rfl 1 (by decide) (hts _ u_694) (fun _ h9 => h9) rfl d_G_packet_1 ?_
  refine lv_istore_n (lv' := [(2, .int 0), (0, .ref h0), (1, .int x1)]) hx hb d_G_packet_4 rfl hl (by decide) rfl (fun ls hl => ?_)
  refine lv_aload_n hx hb d_G_packet_5 rfl (lv_at hl 1 rfl) ?_
  refine lv_iconst (v := 0) hx hb d_G_packet_6 (by decide) ?_
  refine va_put (D := D) (ci := 0) (v := .int 0) (ty := .int) (C := "FilterGuard") (T := F_G) (N := 14) hx hb hts i_G t_G t_G_ok n_G hown hK hP hD hS 0 rfl rfl 1 (by decide) (hts _ u_694) (fun _ h9 => h9) rfl (by decide +kernel) rfl rfl (Nat.le_of_ble_eq_true rfl) d_G_packet_7 (fun H locs hP hD hS => ?_)
  have hP : va_P D classes [(h0, .inr (0, [.ref qt, .int 0, .ref qs, .int 0, .ref qc, .ref qh, .ref qf, .ref qe, .ref qm, .int 0, .int (-1), .int 0, .int 0, .int 0])), (qm, .inr (5, [.ref qc, .ref qh, .ref qs, .ref m5, .ref m0, .ref m1, .ref m2, .ref m3, .int 0, .ref m4, .int 0, .long 0, .int 0, .int 0, .int 0, .int 0, .ref qc, .int 0, .ref m1, .int 0])), (qt, .inl (kt, 1280, .inl ft)), (m3, .inl (kp, 2000, .inl fp))] H := hP
  have hD : va_D A [(h0, .inr (0, [.ref qt, .int 0, .ref qs, .int 0, .ref qc, .ref qh, .ref qf, .ref qe, .ref qm, .int 0, .int (-1), .int 0, .int 0, .int 0])), (qm, .inr (5, [.ref qc, .ref qh, .ref qs, .ref m5, .ref m0, .ref m1, .ref m2, .ref m3, .int 0, .ref m4, .int 0, .long 0, .int 0, .int 0, .int 0, .int 0, .ref qc, .int 0, .ref m1, .int 0])), (qt, .inl (kt, 1280, .inl ft)), (m3, .inl (kp, 2000, .inl fp))] := hD
  refine lv_iload_n hx hb d_G_packet_10 rfl (lv_at hl 2 rfl) ?_
  refine lv_if_lt (tgt := 26) hx hb d_G_packet_11 (by decide) (fun c_1 => ?_) (fun c_1 => ?_)
  · refine lv_iconst (v := 0) hx hb d_G_packet_26 (by decide) ?_
    exact fg_retz (fp) hx hb hr hlocks rfl (by rw [if_neg (fun h => by rw [h] at c_1; exact absurd c_1 (by decide))]) (hP.sub (ws' := [(h0, .inr (0, [.ref qt, .int 0, .ref qs, .int 0, .ref qc, .ref qh, .ref qf, .ref qe, .ref qm, .int 0, .int (-1), .int 0, .int 0, .int 0])), (qm, .inr (5, [.ref qc, .ref qh, .ref qs, .ref m5, .ref m0, .ref m1, .ref m2, .ref m3, .int 0, .ref m4, .int 0, .long 0, .int 0, .int 0, .int 0, .int 0, .ref qc, .int 0, .ref m1, .int 0])), (qt, .inl (kt, 1280, .inl ft)), (m3, .inl (kp, 2000, .inl fp))]) [0, 1, 2, 3] rfl) (hK.sub (tys' := []) [] rfl) (hD.sub (ws' := [(h0, .inr (0, [.ref qt, .int 0, .ref qs, .int 0, .ref qc, .ref qh, .ref qf, .ref qe, .ref qm, .int 0, .int (-1), .int 0, .int 0, .int 0])), (qm, .inr (5, [.ref qc, .ref qh, .ref qs, .ref m5, .ref m0, .ref m1, .ref m2, .ref m3, .int 0, .ref m4, .int 0, .long 0, .int 0, .int 0, .int 0, .int 0, .ref qc, .int 0, .ref m1, .int 0])), (qt, .inl (kt, 1280, .inl ft)), (m3, .inl (kp, 2000, .inl fp))]) [0, 1, 2, 3] (by decide) rfl) hS (Nat.le_of_ble_eq_true rfl) (Nat.le_of_ble_eq_true rfl) d_G_packet_27
  · refine lv_iload_n hx hb d_G_packet_14 rfl (lv_at hl 2 rfl) ?_
    refine lv_sipush (v := 2000) hx hb d_G_packet_15 (by decide) ?_
    refine lv_icmp_gt (tgt := 26) hx hb d_G_packet_18 (by decide) (fun c_2 => ?_) (fun c_2 => ?_)
    · refine lv_iconst (v := 0) hx hb d_G_packet_26 (by decide) ?_
      exact fg_retz (fp) hx hb hr hlocks rfl (by rw [if_neg (fun h => by rw [h] at c_2; exact absurd c_2 (by decide))]) (hP.sub (ws' := [(h0, .inr (0, [.ref qt, .int 0, .ref qs, .int 0, .ref qc, .ref qh, .ref qf, .ref qe, .ref qm, .int 0, .int (-1), .int 0, .int 0, .int 0])), (qm, .inr (5, [.ref qc, .ref qh, .ref qs, .ref m5, .ref m0, .ref m1, .ref m2, .ref m3, .int 0, .ref m4, .int 0, .long 0, .int 0, .int 0, .int 0, .int 0, .ref qc, .int 0, .ref m1, .int 0])), (qt, .inl (kt, 1280, .inl ft)), (m3, .inl (kp, 2000, .inl fp))]) [0, 1, 2, 3] rfl) (hK.sub (tys' := []) [] rfl) (hD.sub (ws' := [(h0, .inr (0, [.ref qt, .int 0, .ref qs, .int 0, .ref qc, .ref qh, .ref qf, .ref qe, .ref qm, .int 0, .int (-1), .int 0, .int 0, .int 0])), (qm, .inr (5, [.ref qc, .ref qh, .ref qs, .ref m5, .ref m0, .ref m1, .ref m2, .ref m3, .int 0, .ref m4, .int 0, .long 0, .int 0, .int 0, .int 0, .int 0, .ref qc, .int 0, .ref m1, .int 0])), (qt, .inl (kt, 1280, .inl ft)), (m3, .inl (kp, 2000, .inl fp))]) [0, 1, 2, 3] (by decide) rfl) hS (Nat.le_of_ble_eq_true rfl) (Nat.le_of_ble_eq_true rfl) d_G_packet_27
    · refine lv_iload_n hx hb d_G_packet_21 rfl (lv_at hl 2 rfl) ?_
      refine lv_iload_n hx hb d_G_packet_22 rfl (lv_at hl 0 rfl) ?_
      refine lv_icmp_le (tgt := 28) hx hb d_G_packet_23 (by decide) (fun c_3 => ?_) (fun c_3 => ?_)
      · have hx0 : x1 = 0 := fg_eq0 c_1 c_3
        subst hx0
        refine lv_aload_n hx hb d_G_packet_28 rfl (lv_at hl 1 rfl) ?_
        refine va_get (D := D) (ci := 0) (v := .ref qm) (C := "FilterGuard") (T := F_G) (N := 14) hx hb hts i_G hown hK hP 0 rfl rfl 8 (by decide) (hts _ u_701) (fun _ h9 => h9) rfl d_G_packet_29 ?_
        refine lv_aload_n hx hb d_G_packet_32 rfl (lv_at hl 1 rfl) ?_
        refine va_get (D := D) (ci := 0) (v := .ref qt) (C := "FilterGuard") (T := F_G) (N := 14) hx hb hts i_G hown hK hP 0 rfl rfl 0 (by decide) (hts _ u_693) (fun _ h9 => h9) rfl d_G_packet_33 ?_
        refine lv_iload_n hx hb d_G_packet_36 rfl (lv_at hl 2 rfl) ?_
        refine fg_thenv (wr := [(h0, .inr (0, [.ref qt, .int 0, .ref qs, .int 0, .ref qc, .ref qh, .ref qf, .ref qe, .ref qm, .int 0, .int (-1), .int 0, .int 0, .int 0]))]) (fg_runV (C := "FilterGuard$Machine") (As := [.ref qt, .int 0]) (rest := []) (ci := 5) (q0 := 0) ⟨hx, hb, hml, hown, hts⟩ (c_Machine_take0 l D qm qc qh qs m0 m1 m2 m3 m4 m5 qt kt ft kp fp H.size) rfl (by show fg_nm y_Machine_takePacket 2; decide +kernel) u_770 u_771 u_772 u_190 u_773 ⟨Nat.le_of_ble_eq_true rfl, Nat.le_of_ble_eq_true rfl⟩ hX (hP.sub (ws' := [(qm, .inr (5, [.ref qc, .ref qh, .ref qs, .ref m5, .ref m0, .ref m1, .ref m2, .ref m3, .int 0, .ref m4, .int 0, .long 0, .int 0, .int 0, .int 0, .int 0, .ref qc, .int 0, .ref m1, .int 0])), (qt, .inl (kt, 1280, .inl ft)), (m3, .inl (kp, 2000, .inl fp))]) [1, 2, 3] rfl) (hK.sub (tys' := [(kt, .byte), (kp, .byte)]) [0, 1] rfl) (hD.sub (ws' := [(qm, .inr (5, [.ref qc, .ref qh, .ref qs, .ref m5, .ref m0, .ref m1, .ref m2, .ref m3, .int 0, .ref m4, .int 0, .long 0, .int 0, .int 0, .int 0, .int 0, .ref qc, .int 0, .ref m1, .int 0])), (qt, .inl (kt, 1280, .inl ft)), (m3, .inl (kp, 2000, .inl fp))]) [1, 2, 3] (by decide) rfl) rfl rfl rfl rfl hl.1 (Nat.le_of_ble_eq_true rfl) d_G_packet_37 ⟨(Nat.le_of_ble_eq_true rfl), (Nat.le_of_ble_eq_true rfl)⟩) hP hD hK hS hA [1, 2, 3] [0] rfl rfl (by decide) (by decide) (fun  u H locs hw37_3 hP hD hK hS => ?_)
        obtain ⟨f1_37_4, rfl⟩ : ∃ z, z = u := ⟨_, rfl⟩
        try dsimp only at hw37_3
        have hP : va_P D classes [(h0, .inr (0, [.ref qt, .int 0, .ref qs, .int 0, .ref qc, .ref qh, .ref qf, .ref qe, .ref qm, .int 0, .int (-1), .int 0, .int 0, .int 0])), (qm, .inr (5, [.ref qc, .ref qh, .ref qs, .ref m5, .ref m0, .ref m1, .ref m2, .ref m3, .int 0, .ref m4, .int 0, .long 0, .int 0, .int 0, .int 0, .int 0, .ref qc, .int 0, .ref m1, .int 0])), (qt, .inl (kt, 1280, .inl ft)), (m3, .inl (kp, 2000, .inl f1_37_4))] H := hP
        have hD : va_D A [(h0, .inr (0, [.ref qt, .int 0, .ref qs, .int 0, .ref qc, .ref qh, .ref qf, .ref qe, .ref qm, .int 0, .int (-1), .int 0, .int 0, .int 0])), (qm, .inr (5, [.ref qc, .ref qh, .ref qs, .ref m5, .ref m0, .ref m1, .ref m2, .ref m3, .int 0, .ref m4, .int 0, .long 0, .int 0, .int 0, .int 0, .int 0, .ref qc, .int 0, .ref m1, .int 0])), (qt, .inl (kt, 1280, .inl ft)), (m3, .inl (kp, 2000, .inl f1_37_4))] := hD
        have hK : va_K D classes [(kt, .byte), (kp, .byte)] s := hK
        refine W.widen (k := 0) (n := 0) (Nat.le_of_ble_eq_true rfl) (Nat.le_of_ble_eq_true rfl) ?_
        refine lv_iconst (v := 1) hx hb d_G_packet_40 (by decide) ?_
        exact fg_retz (f1_37_4) hx hb hr hlocks rfl (by rw [if_pos rfl]) (hP.sub (ws' := [(h0, .inr (0, [.ref qt, .int 0, .ref qs, .int 0, .ref qc, .ref qh, .ref qf, .ref qe, .ref qm, .int 0, .int (-1), .int 0, .int 0, .int 0])), (qm, .inr (5, [.ref qc, .ref qh, .ref qs, .ref m5, .ref m0, .ref m1, .ref m2, .ref m3, .int 0, .ref m4, .int 0, .long 0, .int 0, .int 0, .int 0, .int 0, .ref qc, .int 0, .ref m1, .int 0])), (qt, .inl (kt, 1280, .inl ft)), (m3, .inl (kp, 2000, .inl f1_37_4))]) [0, 1, 2, 3] rfl) (hK.sub (tys' := []) [] rfl) (hD.sub (ws' := [(h0, .inr (0, [.ref qt, .int 0, .ref qs, .int 0, .ref qc, .ref qh, .ref qf, .ref qe, .ref qm, .int 0, .int (-1), .int 0, .int 0, .int 0])), (qm, .inr (5, [.ref qc, .ref qh, .ref qs, .ref m5, .ref m0, .ref m1, .ref m2, .ref m3, .int 0, .ref m4, .int 0, .long 0, .int 0, .int 0, .int 0, .int 0, .ref qc, .int 0, .ref m1, .int 0])), (qt, .inl (kt, 1280, .inl ft)), (m3, .inl (kp, 2000, .inl f1_37_4))]) [0, 1, 2, 3] (by decide) rfl) hS (Nat.le_of_ble_eq_true rfl) (Nat.le_of_ble_eq_true rfl) d_G_packet_41
      · refine lv_iconst (v := 0) hx hb d_G_packet_26 (by decide) ?_
        exact fg_retz (fp) hx hb hr hlocks rfl (by rw [if_neg (fun h => by rw [h] at c_3; exact absurd c_3 (by decide))]) (hP.sub (ws' := [(h0, .inr (0, [.ref qt, .int 0, .ref qs, .int 0, .ref qc, .ref qh, .ref qf, .ref qe, .ref qm, .int 0, .int (-1), .int 0, .int 0, .int 0])), (qm, .inr (5, [.ref qc, .ref qh, .ref qs, .ref m5, .ref m0, .ref m1, .ref m2, .ref m3, .int 0, .ref m4, .int 0, .long 0, .int 0, .int 0, .int 0, .int 0, .ref qc, .int 0, .ref m1, .int 0])), (qt, .inl (kt, 1280, .inl ft)), (m3, .inl (kp, 2000, .inl fp))]) [0, 1, 2, 3] rfl) (hK.sub (tys' := []) [] rfl) (hD.sub (ws' := [(h0, .inr (0, [.ref qt, .int 0, .ref qs, .int 0, .ref qc, .ref qh, .ref qf, .ref qe, .ref qm, .int 0, .int (-1), .int 0, .int 0, .int 0])), (qm, .inr (5, [.ref qc, .ref qh, .ref qs, .ref m5, .ref m0, .ref m1, .ref m2, .ref m3, .int 0, .ref m4, .int 0, .long 0, .int 0, .int 0, .int 0, .int 0, .ref qc, .int 0, .ref m1, .int 0])), (qt, .inl (kt, 1280, .inl ft)), (m3, .inl (kp, 2000, .inl fp))]) [0, 1, 2, 3] (by decide) rfl) hS (Nat.le_of_ble_eq_true rfl) (Nat.le_of_ble_eq_true rfl) d_G_packet_27
abbrev y_Machine_writeBytes : MethodName := ⟨"FilterGuard$Machine", "writeBytes", "(IJ)V"⟩
theorem d_Machine_writeBytes_0 : decode prog_7_method_15_code 0 = .ok (.iconst 0, 1) := by decide +kernel
theorem d_Machine_writeBytes_1 : decode prog_7_method_15_code 1 = .ok (.istore 4, 2) := by decide +kernel
theorem d_Machine_writeBytes_3 : decode prog_7_method_15_code 3 = .ok (.iload 4, 2) := by decide +kernel
theorem d_Machine_writeBytes_5 : decode prog_7_method_15_code 5 = .ok (.iload_n 1, 1) := by decide +kernel
theorem d_Machine_writeBytes_6 : decode prog_7_method_15_code 6 = .ok (.if_icmp .ge 30, 3) := by decide +kernel
theorem d_Machine_writeBytes_9 : decode prog_7_method_15_code 9 = .ok (.aload_n 0, 1) := by decide +kernel
theorem d_Machine_writeBytes_10 : decode prog_7_method_15_code 10 = .ok (.getfield 51, 3) := by decide +kernel
theorem d_Machine_writeBytes_13 : decode prog_7_method_15_code 13 = .ok (.aload_n 0, 1) := by decide +kernel
theorem d_Machine_writeBytes_14 : decode prog_7_method_15_code 14 = .ok (.getfield 64, 3) := by decide +kernel
theorem u_651 : Cond.fieldLink "FilterGuard$Machine" 64 "FilterGuard$Machine" "areaAt" "I" ∈ fg_g := fg_in (List.mem_of_getElem? (i := 651) (by decide +kernel)) rfl
theorem d_Machine_writeBytes_17 : decode prog_7_method_15_code 17 = .ok (.iload 4, 2) := by decide +kernel
theorem d_Machine_writeBytes_19 : decode prog_7_method_15_code 19 = .ok (.iadd, 1) := by decide +kernel
theorem d_Machine_writeBytes_20 : decode prog_7_method_15_code 20 = .ok (.lload_n 2, 1) := by decide +kernel
theorem d_Machine_writeBytes_21 : decode prog_7_method_15_code 21 = .ok (.bipush 8, 2) := by decide +kernel
theorem d_Machine_writeBytes_23 : decode prog_7_method_15_code 23 = .ok (.iload 4, 2) := by decide +kernel
theorem d_Machine_writeBytes_25 : decode prog_7_method_15_code 25 = .ok (.imul, 1) := by decide +kernel
theorem d_Machine_writeBytes_26 : decode prog_7_method_15_code 26 = .ok (.lushr, 1) := by decide +kernel
theorem d_Machine_writeBytes_27 : decode prog_7_method_15_code 27 = .ok (.l2i, 1) := by decide +kernel
theorem d_Machine_writeBytes_28 : decode prog_7_method_15_code 28 = .ok (.i2b, 1) := by decide +kernel
theorem d_Machine_writeBytes_29 : decode prog_7_method_15_code 29 = .ok (.bastore, 1) := by decide +kernel
theorem d_Machine_writeBytes_30 : decode prog_7_method_15_code 30 = .ok (.iinc 4 1, 3) := by decide +kernel
theorem d_Machine_writeBytes_33 : decode prog_7_method_15_code 33 = .ok (.goto (-30), 3) := by decide +kernel
theorem d_Machine_writeBytes_36 : decode prog_7_method_15_code 36 = .ok (.return_, 1) := by decide +kernel
def rm_Machine_wb8 : Room := { frames := 1, cells := 0, slots := 0, locals := 20 }
abbrev q_Machine_wb8 (D : va_G) (h0 : Nat) (qc : Nat) (qh : Nat) (qs : Nat) (m0 : Nat) (m1 : Nat) (m2 : Nat) (m3 : Nat) (m4 : Nat) (m5 : Nat) (kx : ClassId) (fx : (Nat → Int32)) (j : Nat) (x2 : Int64) (A : Nat → Prop) : Array Value → Jvm.State → Outcome → Jvm.State → Prop := va_Qv (fun (f1 : (Nat → Int32)) => True) (fg_B D A (fun (f1 : (Nat → Int32)) => [(h0, .inr (5, [.ref qc, .ref qh, .ref qs, .ref m5, .ref m0, .ref m1, .ref m2, .ref m3, .int 0, .ref m4, .int 0, .long 0, .int 0, .int 0, .int 0, .int 0, .ref qc, .int 0, .ref m0, .int (nI (8 * j))])), (m0, .inl (kx, 64, .inl f1))]) (fun (f1 : (Nat → Int32)) => [])) A
set_option maxHeartbeats 4000000 in
set_option maxRecDepth 100000 in
theorem c_Machine_wb8 (l : Launch) (D : va_G) (h0 : Nat) (qc : Nat) (qh : Nat) (qs : Nat) (m0 : Nat) (m1 : Nat) (m2 : Nat) (m3 : Nat) (m4 : Nat) (m5 : Nat) (kx : ClassId) (fx : (Nat → Int32)) (j : Nat) (x2 : Int64) (sz : Nat) (hj : j < 8) : Met l y_Machine_writeBytes (fg_w y_Machine_writeBytes prog_7_method_15_code 5 none) rm_Machine_wb8 (va_Pc [.ref h0, .int 8, .long x2] (fg_P D [(kx, .byte)] [(h0, .inr (5, [.ref qc, .ref qh, .ref qs, .ref m5, .ref m0, .ref m1, .ref m2, .ref m3, .int 0, .ref m4, .int 0, .long 0, .int 0, .int 0, .int 0, .int 0, .ref qc, .int 0, .ref m0, .int (nI (8 * j))])), (m0, .inl (kx, 64, .inl fx))] sz)) (q_Machine_wb8 D h0 qc qh qs m0 m1 m2 m3 m4 m5 kx fx j x2 (va_A [(h0, .inr (5, [.ref qc, .ref qh, .ref qs, .ref m5, .ref m0, .ref m1, .ref m2, .ref m3, .int 0, .ref m4, .int 0, .long 0, .int 0, .int 0, .int 0, .int 0, .ref qc, .int 0, .ref m0, .int (nI (8 * j))])), (m0, .inl (kx, 64, .inl fx))] sz)) rm_Machine_wb8.cells rm_Machine_wb8.slots (va_A [(h0, .inr (5, [.ref qc, .ref qh, .ref qs, .ref m5, .ref m0, .ref m1, .ref m2, .ref m3, .int 0, .ref m4, .int 0, .long 0, .int 0, .int 0, .int 0, .int 0, .ref qc, .int 0, .ref m0, .int (nI (8 * j))])), (m0, .inl (kx, 64, .inl fx))] sz) := by
  refine fg_enter (fun A => q_Machine_wb8 D h0 qc qh qs m0 m1 m2 m3 m4 m5 kx fx j x2 A) (by decide +kernel) (Nat.le_of_ble_eq_true rfl) ?_
  intro p e s m below meth c ls A hx hb hml hown hts hr hlocks hin hP hK hD hS hA hX hl
  have hl : lv_has ls 5 [(0, .ref h0), (1, .int 8), (2, .long x2)] := hl
  refine lv_iconst (v := 0) hx hb d_Machine_writeBytes_0 (by decide) ?_
  refine lv_istore (lv' := [(4, .int 0), (0, .ref h0), (1, .int 8), (2, .long x2)]) hx hb d_Machine_writeBytes_1 hl (by decide) rfl (fun ls hl => ?_)
  refine lv_iload hx hb d_Machine_writeBytes_3 (lv_at hl 0 rfl) ?_
  refine lv_iload_n hx hb d_Machine_writeBytes_5 rfl (lv_at hl 2 rfl) ?_
  refine lv_icmp_ge (tgt := 36) hx hb d_Machine_writeBytes_6 (by decide) (fun c_1 => absurd c_1 (by decide)) (fun c_1 => ?_)
  refine lv_aload_n hx hb d_Machine_writeBytes_9 rfl (lv_at hl 1 rfl) ?_
  refine va_get (D := D) (ci := 5) (v := .ref m0) (C := "FilterGuard$Machine") (T := F_Machine) (N := 20) hx hb hts i_Machine hown hK hP 0 rfl rfl 18 (by decide) (hts _ u_650) (fun _ h9 => h9) rfl d_Machine_writeBytes_10 ?_
  refine lv_aload_n hx hb d_Machine_writeBytes_13 rfl (lv_at hl 1 rfl) ?_
  refine va_get (D := D) (ci := 5) (v := .int (nI (8 * j))) (C := "FilterGuard$Machine") (T := F_Machine) (N := 20) hx hb hts i_Machine hown hK hP 0 rfl rfl 19 (by decide) (hts _ u_651) (fun _ h9 => h9) rfl d_Machine_writeBytes_14 ?_
  refine lv_iload hx hb d_Machine_writeBytes_17 (lv_at hl 0 rfl) ?_
  refine lv_iadd hx hb d_Machine_writeBytes_19 ?_
  refine fg_topi (y := nI (8 * j + 0)) (nI_add (8 * j) 0) ?_
  refine lv_lload_n hx hb d_Machine_writeBytes_20 rfl (lv_at hl 3 rfl) ?_
  refine lv_bipush (v := 8) hx hb d_Machine_writeBytes_21 (by decide) ?_
  refine lv_iload hx hb d_Machine_writeBytes_23 (lv_at hl 0 rfl) ?_
  refine lv_imul hx hb d_Machine_writeBytes_25 ?_
  refine fg_topi (y := 0) (by decide) ?_
  refine lv_lushr (v := (x2.toUInt64 >>> ((0 : Int32).toInt64.toUInt64 &&& Int64.toUInt64 63)).toInt64) hx hb d_Machine_writeBytes_26 rfl ?_
  refine lv_l2i (v := ((x2.toUInt64 >>> ((0 : Int32).toInt64.toUInt64 &&& Int64.toUInt64 63)).toInt64).toInt32) hx hb d_Machine_writeBytes_27 rfl ?_
  refine lv_i2b (v := (((x2.toUInt64 >>> ((0 : Int32).toInt64.toUInt64 &&& Int64.toUInt64 63)).toInt64).toInt32).toInt8.toInt32) hx hb d_Machine_writeBytes_28 rfl ?_
  refine va_bast hx hb hK hP hD hS 1 0 rfl rfl (vp_in_nI (by omega) (by decide)) d_Machine_writeBytes_29 (fun H locs hP hD hS => ?_)
  have hP : va_P D classes [(h0, .inr (5, [.ref qc, .ref qh, .ref qs, .ref m5, .ref m0, .ref m1, .ref m2, .ref m3, .int 0, .ref m4, .int 0, .long 0, .int 0, .int 0, .int 0, .int 0, .ref qc, .int 0, .ref m0, .int (nI (8 * j))])), (m0, .inl (kx, 64, .inl (upd fx ((nI (8 * j + 0)).toNatClampNeg) (vp_nar .byte ((((x2.toUInt64 >>> ((0 : Int32).toInt64.toUInt64 &&& Int64.toUInt64 63)).toInt64).toInt32).toInt8.toInt32)))))] H := hP
  have hD : va_D A [(h0, .inr (5, [.ref qc, .ref qh, .ref qs, .ref m5, .ref m0, .ref m1, .ref m2, .ref m3, .int 0, .ref m4, .int 0, .long 0, .int 0, .int 0, .int 0, .int 0, .ref qc, .int 0, .ref m0, .int (nI (8 * j))])), (m0, .inl (kx, 64, .inl (upd fx ((nI (8 * j + 0)).toNatClampNeg) (vp_nar .byte ((((x2.toUInt64 >>> ((0 : Int32).toInt64.toUInt64 &&& Int64.toUInt64 63)).toInt64).toInt32).toInt8.toInt32)))))] := hD
  obtain ⟨f_2, ef_2⟩ : ∃ g : Nat → Int32, g = upd fx ((nI (8 * j + 0)).toNatClampNeg) (vp_nar .byte ((((x2.toUInt64 >>> ((0 : Int32).toInt64.toUInt64 &&& Int64.toUInt64 63)).toInt64).toInt32).toInt8.toInt32)) := ⟨_, rfl⟩
  rw [← ef_2] at hP hD
  refine lv_iinc (v := 1) (lv' := [(4, .int 1), (0, .ref h0), (1, .int 8), (2, .long x2)]) hx hb d_Machine_writeBytes_30 hl (k := 0) rfl (by decide) (by decide) rfl (fun ls hl => ?_)
  refine lv_goto (tgt := 3) hx hb d_Machine_writeBytes_33 (by decide) ?_
  refine lv_iload hx hb d_Machine_writeBytes_3 (lv_at hl 0 rfl) ?_
  refine lv_iload_n hx hb d_Machine_writeBytes_5 rfl (lv_at hl 2 rfl) ?_
  refine lv_icmp_ge (tgt := 36) hx hb d_Machine_writeBytes_6 (by decide) (fun c_3 => absurd c_3 (by decide)) (fun c_3 => ?_)
  refine lv_aload_n hx hb d_Machine_writeBytes_9 rfl (lv_at hl 1 rfl) ?_
  refine va_get (D := D) (ci := 5) (v := .ref m0) (C := "FilterGuard$Machine") (T := F_Machine) (N := 20) hx hb hts i_Machine hown hK hP 0 rfl rfl 18 (by decide) (hts _ u_650) (fun _ h9 => h9) rfl d_Machine_writeBytes_10 ?_
  refine lv_aload_n hx hb d_Machine_writeBytes_13 rfl (lv_at hl 1 rfl) ?_
  refine va_get (D := D) (ci := 5) (v := .int (nI (8 * j))) (C := "FilterGuard$Machine") (T := F_Machine) (N := 20) hx hb hts i_Machine hown hK hP 0 rfl rfl 19 (by decide) (hts _ u_651) (fun _ h9 => h9) rfl d_Machine_writeBytes_14 ?_
  refine lv_iload hx hb d_Machine_writeBytes_17 (lv_at hl 0 rfl) ?_
  refine lv_iadd hx hb d_Machine_writeBytes_19 ?_
  refine fg_topi (y := nI (8 * j + 1)) (nI_add (8 * j) 1) ?_
  refine lv_lload_n hx hb d_Machine_writeBytes_20 rfl (lv_at hl 3 rfl) ?_
  refine lv_bipush (v := 8) hx hb d_Machine_writeBytes_21 (by decide) ?_
  refine lv_iload hx hb d_Machine_writeBytes_23 (lv_at hl 0 rfl) ?_
  refine lv_imul hx hb d_Machine_writeBytes_25 ?_
  refine fg_topi (y := 8) (by decide) ?_
  refine lv_lushr (v := (x2.toUInt64 >>> ((8 : Int32).toInt64.toUInt64 &&& Int64.toUInt64 63)).toInt64) hx hb d_Machine_writeBytes_26 rfl ?_
  refine lv_l2i (v := ((x2.toUInt64 >>> ((8 : Int32).toInt64.toUInt64 &&& Int64.toUInt64 63)).toInt64).toInt32) hx hb d_Machine_writeBytes_27 rfl ?_
  refine lv_i2b (v := (((x2.toUInt64 >>> ((8 : Int32).toInt64.toUInt64 &&& Int64.toUInt64 63)).toInt64).toInt32).toInt8.toInt32) hx hb d_Machine_writeBytes_28 rfl ?_
  refine va_bast hx hb hK hP hD hS 1 0 rfl rfl (vp_in_nI (by omega) (by decide)) d_Machine_writeBytes_29 (fun H locs hP hD hS => ?_)
  have hP : va_P D classes [(h0, .inr (5, [.ref qc, .ref qh, .ref qs, .ref m5, .ref m0, .ref m1, .ref m2, .ref m3, .int 0, .ref m4, .int 0, .long 0, .int 0, .int 0, .int 0, .int 0, .ref qc, .int 0, .ref m0, .int (nI (8 * j))])), (m0, .inl (kx, 64, .inl (upd f_2 ((nI (8 * j + 1)).toNatClampNeg) (vp_nar .byte ((((x2.toUInt64 >>> ((8 : Int32).toInt64.toUInt64 &&& Int64.toUInt64 63)).toInt64).toInt32).toInt8.toInt32)))))] H := hP
  have hD : va_D A [(h0, .inr (5, [.ref qc, .ref qh, .ref qs, .ref m5, .ref m0, .ref m1, .ref m2, .ref m3, .int 0, .ref m4, .int 0, .long 0, .int 0, .int 0, .int 0, .int 0, .ref qc, .int 0, .ref m0, .int (nI (8 * j))])), (m0, .inl (kx, 64, .inl (upd f_2 ((nI (8 * j + 1)).toNatClampNeg) (vp_nar .byte ((((x2.toUInt64 >>> ((8 : Int32).toInt64.toUInt64 &&& Int64.toUInt64 63)).toInt64).toInt32).toInt8.toInt32)))))] := hD
  obtain ⟨f_4, ef_4⟩ : ∃ g : Nat → Int32, g = upd f_2 ((nI (8 * j + 1)).toNatClampNeg) (vp_nar .byte ((((x2.toUInt64 >>> ((8 : Int32).toInt64.toUInt64 &&& Int64.toUInt64 63)).toInt64).toInt32).toInt8.toInt32)) := ⟨_, rfl⟩
  rw [← ef_4] at hP hD
  refine lv_iinc (v := 2) (lv' := [(4, .int 2), (0, .ref h0), (1, .int 8), (2, .long x2)]) hx hb d_Machine_writeBytes_30 hl (k := 0) rfl (by decide) (by decide) rfl (fun ls hl => ?_)
  refine lv_goto (tgt := 3) hx hb d_Machine_writeBytes_33 (by decide) ?_
  refine lv_iload hx hb d_Machine_writeBytes_3 (lv_at hl 0 rfl) ?_
  refine lv_iload_n hx hb d_Machine_writeBytes_5 rfl (lv_at hl 2 rfl) ?_
  refine lv_icmp_ge (tgt := 36) hx hb d_Machine_writeBytes_6 (by decide) (fun c_5 => absurd c_5 (by decide)) (fun c_5 => ?_)
  refine lv_aload_n hx hb d_Machine_writeBytes_9 rfl (lv_at hl 1 rfl) ?_
  refine va_get (D := D) (ci := 5) (v := .ref m0) (C := "FilterGuard$Machine") (T := F_Machine) (N := 20) hx hb hts i_Machine hown hK hP 0 rfl rfl 18 (by decide) (hts _ u_650) (fun _ h9 => h9) rfl d_Machine_writeBytes_10 ?_
  refine lv_aload_n hx hb d_Machine_writeBytes_13 rfl (lv_at hl 1 rfl) ?_
  refine va_get (D := D) (ci := 5) (v := .int (nI (8 * j))) (C := "FilterGuard$Machine") (T := F_Machine) (N := 20) hx hb hts i_Machine hown hK hP 0 rfl rfl 19 (by decide) (hts _ u_651) (fun _ h9 => h9) rfl d_Machine_writeBytes_14 ?_
  refine lv_iload hx hb d_Machine_writeBytes_17 (lv_at hl 0 rfl) ?_
  refine lv_iadd hx hb d_Machine_writeBytes_19 ?_
  refine fg_topi (y := nI (8 * j + 2)) (nI_add (8 * j) 2) ?_
  refine lv_lload_n hx hb d_Machine_writeBytes_20 rfl (lv_at hl 3 rfl) ?_
  refine lv_bipush (v := 8) hx hb d_Machine_writeBytes_21 (by decide) ?_
  refine lv_iload hx hb d_Machine_writeBytes_23 (lv_at hl 0 rfl) ?_
  refine lv_imul hx hb d_Machine_writeBytes_25 ?_
  refine fg_topi (y := 16) (by decide) ?_
  refine lv_lushr (v := (x2.toUInt64 >>> ((16 : Int32).toInt64.toUInt64 &&& Int64.toUInt64 63)).toInt64) hx hb d_Machine_writeBytes_26 rfl ?_
  refine lv_l2i (v := ((x2.toUInt64 >>> ((16 : Int32).toInt64.toUInt64 &&& Int64.toUInt64 63)).toInt64).toInt32) hx hb d_Machine_writeBytes_27 rfl ?_
  refine lv_i2b (v := (((x2.toUInt64 >>> ((16 : Int32).toInt64.toUInt64 &&& Int64.toUInt64 63)).toInt64).toInt32).toInt8.toInt32) hx hb d_Machine_writeBytes_28 rfl ?_
  refine va_bast hx hb hK hP hD hS 1 0 rfl rfl (vp_in_nI (by omega) (by decide)) d_Machine_writeBytes_29 (fun H locs hP hD hS => ?_)
  have hP : va_P D classes [(h0, .inr (5, [.ref qc, .ref qh, .ref qs, .ref m5, .ref m0, .ref m1, .ref m2, .ref m3, .int 0, .ref m4, .int 0, .long 0, .int 0, .int 0, .int 0, .int 0, .ref qc, .int 0, .ref m0, .int (nI (8 * j))])), (m0, .inl (kx, 64, .inl (upd f_4 ((nI (8 * j + 2)).toNatClampNeg) (vp_nar .byte ((((x2.toUInt64 >>> ((16 : Int32).toInt64.toUInt64 &&& Int64.toUInt64 63)).toInt64).toInt32).toInt8.toInt32)))))] H := hP
  have hD : va_D A [(h0, .inr (5, [.ref qc, .ref qh, .ref qs, .ref m5, .ref m0, .ref m1, .ref m2, .ref m3, .int 0, .ref m4, .int 0, .long 0, .int 0, .int 0, .int 0, .int 0, .ref qc, .int 0, .ref m0, .int (nI (8 * j))])), (m0, .inl (kx, 64, .inl (upd f_4 ((nI (8 * j + 2)).toNatClampNeg) (vp_nar .byte ((((x2.toUInt64 >>> ((16 : Int32).toInt64.toUInt64 &&& Int64.toUInt64 63)).toInt64).toInt32).toInt8.toInt32)))))] := hD
  obtain ⟨f_6, ef_6⟩ : ∃ g : Nat → Int32, g = upd f_4 ((nI (8 * j + 2)).toNatClampNeg) (vp_nar .byte ((((x2.toUInt64 >>> ((16 : Int32).toInt64.toUInt64 &&& Int64.toUInt64 63)).toInt64).toInt32).toInt8.toInt32)) := ⟨_, rfl⟩
  rw [← ef_6] at hP hD
  refine lv_iinc (v := 3) (lv' := [(4, .int 3), (0, .ref h0), (1, .int 8), (2, .long x2)]) hx hb d_Machine_writeBytes_30 hl (k := 0) rfl (by decide) (by decide) rfl (fun ls hl => ?_)
  refine lv_goto (tgt := 3) hx hb d_Machine_writeBytes_33 (by decide) ?_
  refine lv_iload hx hb d_Machine_writeBytes_3 (lv_at hl 0 rfl) ?_
  refine lv_iload_n hx hb d_Machine_writeBytes_5 rfl (lv_at hl 2 rfl) ?_
  refine lv_icmp_ge (tgt := 36) hx hb d_Machine_writeBytes_6 (by decide) (fun c_7 => absurd c_7 (by decide)) (fun c_7 => ?_)
  refine lv_aload_n hx hb d_Machine_writeBytes_9 rfl (lv_at hl 1 rfl) ?_
  refine va_get (D := D) (ci := 5) (v := .ref m0) (C := "FilterGuard$Machine") (T := F_Machine) (N := 20) hx hb hts i_Machine hown hK hP 0 rfl rfl 18 (by decide) (hts _ u_650) (fun _ h9 => h9) rfl d_Machine_writeBytes_10 ?_
  refine lv_aload_n hx hb d_Machine_writeBytes_13 rfl (lv_at hl 1 rfl) ?_
  refine va_get (D := D) (ci := 5) (v := .int (nI (8 * j))) (C := "FilterGuard$Machine") (T := F_Machine) (N := 20) hx hb hts i_Machine hown hK hP 0 rfl rfl 19 (by decide) (hts _ u_651) (fun _ h9 => h9) rfl d_Machine_writeBytes_14 ?_
  refine lv_iload hx hb d_Machine_writeBytes_17 (lv_at hl 0 rfl) ?_
  refine lv_iadd hx hb d_Machine_writeBytes_19 ?_
  refine fg_topi (y := nI (8 * j + 3)) (nI_add (8 * j) 3) ?_
  refine lv_lload_n hx hb d_Machine_writeBytes_20 rfl (lv_at hl 3 rfl) ?_
  refine lv_bipush (v := 8) hx hb d_Machine_writeBytes_21 (by decide) ?_
  refine lv_iload hx hb d_Machine_writeBytes_23 (lv_at hl 0 rfl) ?_
  refine lv_imul hx hb d_Machine_writeBytes_25 ?_
  refine fg_topi (y := 24) (by decide) ?_
  refine lv_lushr (v := (x2.toUInt64 >>> ((24 : Int32).toInt64.toUInt64 &&& Int64.toUInt64 63)).toInt64) hx hb d_Machine_writeBytes_26 rfl ?_
  refine lv_l2i (v := ((x2.toUInt64 >>> ((24 : Int32).toInt64.toUInt64 &&& Int64.toUInt64 63)).toInt64).toInt32) hx hb d_Machine_writeBytes_27 rfl ?_
  refine lv_i2b (v := (((x2.toUInt64 >>> ((24 : Int32).toInt64.toUInt64 &&& Int64.toUInt64 63)).toInt64).toInt32).toInt8.toInt32) hx hb d_Machine_writeBytes_28 rfl ?_
  refine va_bast hx hb hK hP hD hS 1 0 rfl rfl (vp_in_nI (by omega) (by decide)) d_Machine_writeBytes_29 (fun H locs hP hD hS => ?_)
  have hP : va_P D classes [(h0, .inr (5, [.ref qc, .ref qh, .ref qs, .ref m5, .ref m0, .ref m1, .ref m2, .ref m3, .int 0, .ref m4, .int 0, .long 0, .int 0, .int 0, .int 0, .int 0, .ref qc, .int 0, .ref m0, .int (nI (8 * j))])), (m0, .inl (kx, 64, .inl (upd f_6 ((nI (8 * j + 3)).toNatClampNeg) (vp_nar .byte ((((x2.toUInt64 >>> ((24 : Int32).toInt64.toUInt64 &&& Int64.toUInt64 63)).toInt64).toInt32).toInt8.toInt32)))))] H := hP
  have hD : va_D A [(h0, .inr (5, [.ref qc, .ref qh, .ref qs, .ref m5, .ref m0, .ref m1, .ref m2, .ref m3, .int 0, .ref m4, .int 0, .long 0, .int 0, .int 0, .int 0, .int 0, .ref qc, .int 0, .ref m0, .int (nI (8 * j))])), (m0, .inl (kx, 64, .inl (upd f_6 ((nI (8 * j + 3)).toNatClampNeg) (vp_nar .byte ((((x2.toUInt64 >>> ((24 : Int32).toInt64.toUInt64 &&& Int64.toUInt64 63)).toInt64).toInt32).toInt8.toInt32)))))] := hD
  obtain ⟨f_8, ef_8⟩ : ∃ g : Nat → Int32, g = upd f_6 ((nI (8 * j + 3)).toNatClampNeg) (vp_nar .byte ((((x2.toUInt64 >>> ((24 : Int32).toInt64.toUInt64 &&& Int64.toUInt64 63)).toInt64).toInt32).toInt8.toInt32)) := ⟨_, rfl⟩
  rw [← ef_8] at hP hD
  refine lv_iinc (v := 4) (lv' := [(4, .int 4), (0, .ref h0), (1, .int 8), (2, .long x2)]) hx hb d_Machine_writeBytes_30 hl (k := 0) rfl (by decide) (by decide) rfl (fun ls hl => ?_)
  refine lv_goto (tgt := 3) hx hb d_Machine_writeBytes_33 (by decide) ?_
  refine lv_iload hx hb d_Machine_writeBytes_3 (lv_at hl 0 rfl) ?_
  refine lv_iload_n hx hb d_Machine_writeBytes_5 rfl (lv_at hl 2 rfl) ?_
  refine lv_icmp_ge (tgt := 36) hx hb d_Machine_writeBytes_6 (by decide) (fun c_9 => absurd c_9 (by decide)) (fun c_9 => ?_)
  refine lv_aload_n hx hb d_Machine_writeBytes_9 rfl (lv_at hl 1 rfl) ?_
  refine va_get (D := D) (ci := 5) (v := .ref m0) (C := "FilterGuard$Machine") (T := F_Machine) (N := 20) hx hb hts i_Machine hown hK hP 0 rfl rfl 18 (by decide) (hts _ u_650) (fun _ h9 => h9) rfl d_Machine_writeBytes_10 ?_
  refine lv_aload_n hx hb d_Machine_writeBytes_13 rfl (lv_at hl 1 rfl) ?_
  refine va_get (D := D) (ci := 5) (v := .int (nI (8 * j))) (C := "FilterGuard$Machine") (T := F_Machine) (N := 20) hx hb hts i_Machine hown hK hP 0 rfl rfl 19 (by decide) (hts _ u_651) (fun _ h9 => h9) rfl d_Machine_writeBytes_14 ?_
  refine lv_iload hx hb d_Machine_writeBytes_17 (lv_at hl 0 rfl) ?_
  refine lv_iadd hx hb d_Machine_writeBytes_19 ?_
  refine fg_topi (y := nI (8 * j + 4)) (nI_add (8 * j) 4) ?_
  refine lv_lload_n hx hb d_Machine_writeBytes_20 rfl (lv_at hl 3 rfl) ?_
  refine lv_bipush (v := 8) hx hb d_Machine_writeBytes_21 (by decide) ?_
  refine lv_iload hx hb d_Machine_writeBytes_23 (lv_at hl 0 rfl) ?_
  refine lv_imul hx hb d_Machine_writeBytes_25 ?_
  refine fg_topi (y := 32) (by decide) ?_
  refine lv_lushr (v := (x2.toUInt64 >>> ((32 : Int32).toInt64.toUInt64 &&& Int64.toUInt64 63)).toInt64) hx hb d_Machine_writeBytes_26 rfl ?_
  refine lv_l2i (v := ((x2.toUInt64 >>> ((32 : Int32).toInt64.toUInt64 &&& Int64.toUInt64 63)).toInt64).toInt32) hx hb d_Machine_writeBytes_27 rfl ?_
  refine lv_i2b (v := (((x2.toUInt64 >>> ((32 : Int32).toInt64.toUInt64 &&& Int64.toUInt64 63)).toInt64).toInt32).toInt8.toInt32) hx hb d_Machine_writeBytes_28 rfl ?_
  refine va_bast hx hb hK hP hD hS 1 0 rfl rfl (vp_in_nI (by omega) (by decide)) d_Machine_writeBytes_29 (fun H locs hP hD hS => ?_)
  have hP : va_P D classes [(h0, .inr (5, [.ref qc, .ref qh, .ref qs, .ref m5, .ref m0, .ref m1, .ref m2, .ref m3, .int 0, .ref m4, .int 0, .long 0, .int 0, .int 0, .int 0, .int 0, .ref qc, .int 0, .ref m0, .int (nI (8 * j))])), (m0, .inl (kx, 64, .inl (upd f_8 ((nI (8 * j + 4)).toNatClampNeg) (vp_nar .byte ((((x2.toUInt64 >>> ((32 : Int32).toInt64.toUInt64 &&& Int64.toUInt64 63)).toInt64).toInt32).toInt8.toInt32)))))] H := hP
  have hD : va_D A [(h0, .inr (5, [.ref qc, .ref qh, .ref qs, .ref m5, .ref m0, .ref m1, .ref m2, .ref m3, .int 0, .ref m4, .int 0, .long 0, .int 0, .int 0, .int 0, .int 0, .ref qc, .int 0, .ref m0, .int (nI (8 * j))])), (m0, .inl (kx, 64, .inl (upd f_8 ((nI (8 * j + 4)).toNatClampNeg) (vp_nar .byte ((((x2.toUInt64 >>> ((32 : Int32).toInt64.toUInt64 &&& Int64.toUInt64 63)).toInt64).toInt32).toInt8.toInt32)))))] := hD
  obtain ⟨f_10, ef_10⟩ : ∃ g : Nat → Int32, g = upd f_8 ((nI (8 * j + 4)).toNatClampNeg) (vp_nar .byte ((((x2.toUInt64 >>> ((32 : Int32).toInt64.toUInt64 &&& Int64.toUInt64 63)).toInt64).toInt32).toInt8.toInt32)) := ⟨_, rfl⟩
  rw [← ef_10] at hP hD
  refine lv_iinc (v := 5) (lv' := [(4, .int 5), (0, .ref h0), (1, .int 8), (2, .long x2)]) hx hb d_Machine_writeBytes_30 hl (k := 0) rfl (by decide) (by decide) rfl (fun ls hl => ?_)
  refine lv_goto (tgt := 3) hx hb d_Machine_writeBytes_33 (by decide) ?_
  refine lv_iload hx hb d_Machine_writeBytes_3 (lv_at hl 0 rfl) ?_
  refine lv_iload_n hx hb d_Machine_writeBytes_5 rfl (lv_at hl 2 rfl) ?_
  refine lv_icmp_ge (tgt := 36) hx hb d_Machine_writeBytes_6 (by decide) (fun c_11 => absurd c_11 (by decide)) (fun c_11 => ?_)
  refine lv_aload_n hx hb d_Machine_writeBytes_9 rfl (lv_at hl 1 rfl) ?_
  refine va_get (D := D) (ci := 5) (v := .ref m0) (C := "FilterGuard$Machine") (T := F_Machine) (N := 20) hx hb hts i_Machine hown hK hP 0 rfl rfl 18 (by decide) (hts _ u_650) (fun _ h9 => h9) rfl d_Machine_writeBytes_10 ?_
  refine lv_aload_n hx hb d_Machine_writeBytes_13 rfl (lv_at hl 1 rfl) ?_
  refine va_get (D := D) (ci := 5) (v := .int (nI (8 * j))) (C := "FilterGuard$Machine") (T := F_Machine) (N := 20) hx hb hts i_Machine hown hK hP 0 rfl rfl 19 (by decide) (hts _ u_651) (fun _ h9 => h9) rfl d_Machine_writeBytes_14 ?_
  refine lv_iload hx hb d_Machine_writeBytes_17 (lv_at hl 0 rfl) ?_
  refine lv_iadd hx hb d_Machine_writeBytes_19 ?_
  refine fg_topi (y := nI (8 * j + 5)) (nI_add (8 * j) 5) ?_
  refine lv_lload_n hx hb d_Machine_writeBytes_20 rfl (lv_at hl 3 rfl) ?_
  refine lv_bipush (v := 8) hx hb d_Machine_writeBytes_21 (by decide) ?_
  refine lv_iload hx hb d_Machine_writeBytes_23 (lv_at hl 0 rfl) ?_
  refine lv_imul hx hb d_Machine_writeBytes_25 ?_
  refine fg_topi (y := 40) (by decide) ?_
  refine lv_lushr (v := (x2.toUInt64 >>> ((40 : Int32).toInt64.toUInt64 &&& Int64.toUInt64 63)).toInt64) hx hb d_Machine_writeBytes_26 rfl ?_
  refine lv_l2i (v := ((x2.toUInt64 >>> ((40 : Int32).toInt64.toUInt64 &&& Int64.toUInt64 63)).toInt64).toInt32) hx hb d_Machine_writeBytes_27 rfl ?_
  refine lv_i2b (v := (((x2.toUInt64 >>> ((40 : Int32).toInt64.toUInt64 &&& Int64.toUInt64 63)).toInt64).toInt32).toInt8.toInt32) hx hb d_Machine_writeBytes_28 rfl ?_
  refine va_bast hx hb hK hP hD hS 1 0 rfl rfl (vp_in_nI (by omega) (by decide)) d_Machine_writeBytes_29 (fun H locs hP hD hS => ?_)
  have hP : va_P D classes [(h0, .inr (5, [.ref qc, .ref qh, .ref qs, .ref m5, .ref m0, .ref m1, .ref m2, .ref m3, .int 0, .ref m4, .int 0, .long 0, .int 0, .int 0, .int 0, .int 0, .ref qc, .int 0, .ref m0, .int (nI (8 * j))])), (m0, .inl (kx, 64, .inl (upd f_10 ((nI (8 * j + 5)).toNatClampNeg) (vp_nar .byte ((((x2.toUInt64 >>> ((40 : Int32).toInt64.toUInt64 &&& Int64.toUInt64 63)).toInt64).toInt32).toInt8.toInt32)))))] H := hP
  have hD : va_D A [(h0, .inr (5, [.ref qc, .ref qh, .ref qs, .ref m5, .ref m0, .ref m1, .ref m2, .ref m3, .int 0, .ref m4, .int 0, .long 0, .int 0, .int 0, .int 0, .int 0, .ref qc, .int 0, .ref m0, .int (nI (8 * j))])), (m0, .inl (kx, 64, .inl (upd f_10 ((nI (8 * j + 5)).toNatClampNeg) (vp_nar .byte ((((x2.toUInt64 >>> ((40 : Int32).toInt64.toUInt64 &&& Int64.toUInt64 63)).toInt64).toInt32).toInt8.toInt32)))))] := hD
  obtain ⟨f_12, ef_12⟩ : ∃ g : Nat → Int32, g = upd f_10 ((nI (8 * j + 5)).toNatClampNeg) (vp_nar .byte ((((x2.toUInt64 >>> ((40 : Int32).toInt64.toUInt64 &&& Int64.toUInt64 63)).toInt64).toInt32).toInt8.toInt32)) := ⟨_, rfl⟩
  rw [← ef_12] at hP hD
  refine lv_iinc (v := 6) (lv' := [(4, .int 6), (0, .ref h0), (1, .int 8), (2, .long x2)]) hx hb d_Machine_writeBytes_30 hl (k := 0) rfl (by decide) (by decide) rfl (fun ls hl => ?_)
  refine lv_goto (tgt := 3) hx hb d_Machine_writeBytes_33 (by decide) ?_
  refine lv_iload hx hb d_Machine_writeBytes_3 (lv_at hl 0 rfl) ?_
  refine lv_iload_n hx hb d_Machine_writeBytes_5 rfl (lv_at hl 2 rfl) ?_
  refine lv_icmp_ge (tgt := 36) hx hb d_Machine_writeBytes_6 (by decide) (fun c_13 => absurd c_13 (by decide)) (fun c_13 => ?_)
  refine lv_aload_n hx hb d_Machine_writeBytes_9 rfl (lv_at hl 1 rfl) ?_
  refine va_get (D := D) (ci := 5) (v := .ref m0) (C := "FilterGuard$Machine") (T := F_Machine) (N := 20) hx hb hts i_Machine hown hK hP 0 rfl rfl 18 (by decide) (hts _ u_650) (fun _ h9 => h9) rfl d_Machine_writeBytes_10 ?_
  refine lv_aload_n hx hb d_Machine_writeBytes_13 rfl (lv_at hl 1 rfl) ?_
  refine va_get (D := D) (ci := 5) (v := .int (nI (8 * j))) (C := "FilterGuard$Machine") (T := F_Machine) (N := 20) hx hb hts i_Machine hown hK hP 0 rfl rfl 19 (by decide) (hts _ u_651) (fun _ h9 => h9) rfl d_Machine_writeBytes_14 ?_
  refine lv_iload hx hb d_Machine_writeBytes_17 (lv_at hl 0 rfl) ?_
  refine lv_iadd hx hb d_Machine_writeBytes_19 ?_
  refine fg_topi (y := nI (8 * j + 6)) (nI_add (8 * j) 6) ?_
  refine lv_lload_n hx hb d_Machine_writeBytes_20 rfl (lv_at hl 3 rfl) ?_
  refine lv_bipush (v := 8) hx hb d_Machine_writeBytes_21 (by decide) ?_
  refine lv_iload hx hb d_Machine_writeBytes_23 (lv_at hl 0 rfl) ?_
  refine lv_imul hx hb d_Machine_writeBytes_25 ?_
  refine fg_topi (y := 48) (by decide) ?_
  refine lv_lushr (v := (x2.toUInt64 >>> ((48 : Int32).toInt64.toUInt64 &&& Int64.toUInt64 63)).toInt64) hx hb d_Machine_writeBytes_26 rfl ?_
  refine lv_l2i (v := ((x2.toUInt64 >>> ((48 : Int32).toInt64.toUInt64 &&& Int64.toUInt64 63)).toInt64).toInt32) hx hb d_Machine_writeBytes_27 rfl ?_
  refine lv_i2b (v := (((x2.toUInt64 >>> ((48 : Int32).toInt64.toUInt64 &&& Int64.toUInt64 63)).toInt64).toInt32).toInt8.toInt32) hx hb d_Machine_writeBytes_28 rfl ?_
  refine va_bast hx hb hK hP hD hS 1 0 rfl rfl (vp_in_nI (by omega) (by decide)) d_Machine_writeBytes_29 (fun H locs hP hD hS => ?_)
  have hP : va_P D classes [(h0, .inr (5, [.ref qc, .ref qh, .ref qs, .ref m5, .ref m0, .ref m1, .ref m2, .ref m3, .int 0, .ref m4, .int 0, .long 0, .int 0, .int 0, .int 0, .int 0, .ref qc, .int 0, .ref m0, .int (nI (8 * j))])), (m0, .inl (kx, 64, .inl (upd f_12 ((nI (8 * j + 6)).toNatClampNeg) (vp_nar .byte ((((x2.toUInt64 >>> ((48 : Int32).toInt64.toUInt64 &&& Int64.toUInt64 63)).toInt64).toInt32).toInt8.toInt32)))))] H := hP
  have hD : va_D A [(h0, .inr (5, [.ref qc, .ref qh, .ref qs, .ref m5, .ref m0, .ref m1, .ref m2, .ref m3, .int 0, .ref m4, .int 0, .long 0, .int 0, .int 0, .int 0, .int 0, .ref qc, .int 0, .ref m0, .int (nI (8 * j))])), (m0, .inl (kx, 64, .inl (upd f_12 ((nI (8 * j + 6)).toNatClampNeg) (vp_nar .byte ((((x2.toUInt64 >>> ((48 : Int32).toInt64.toUInt64 &&& Int64.toUInt64 63)).toInt64).toInt32).toInt8.toInt32)))))] := hD
  obtain ⟨f_14, ef_14⟩ : ∃ g : Nat → Int32, g = upd f_12 ((nI (8 * j + 6)).toNatClampNeg) (vp_nar .byte ((((x2.toUInt64 >>> ((48 : Int32).toInt64.toUInt64 &&& Int64.toUInt64 63)).toInt64).toInt32).toInt8.toInt32)) := ⟨_, rfl⟩
  rw [← ef_14] at hP hD
  refine lv_iinc (v := 7) (lv' := [(4, .int 7), (0, .ref h0), (1, .int 8), (2, .long x2)]) hx hb d_Machine_writeBytes_30 hl (k := 0) rfl (by decide) (by decide) rfl (fun ls hl => ?_)
  refine lv_goto (tgt := 3) hx hb d_Machine_writeBytes_33 (by decide) ?_
  refine lv_iload hx hb d_Machine_writeBytes_3 (lv_at hl 0 rfl) ?_
  refine lv_iload_n hx hb d_Machine_writeBytes_5 rfl (lv_at hl 2 rfl) ?_
  refine lv_icmp_ge (tgt := 36) hx hb d_Machine_writeBytes_6 (by decide) (fun c_15 => absurd c_15 (by decide)) (fun c_15 => ?_)
  refine lv_aload_n hx hb d_Machine_writeBytes_9 rfl (lv_at hl 1 rfl) ?_
  refine va_get (D := D) (ci := 5) (v := .ref m0) (C := "FilterGuard$Machine") (T := F_Machine) (N := 20) hx hb hts i_Machine hown hK hP 0 rfl rfl 18 (by decide) (hts _ u_650) (fun _ h9 => h9) rfl d_Machine_writeBytes_10 ?_
  refine lv_aload_n hx hb d_Machine_writeBytes_13 rfl (lv_at hl 1 rfl) ?_
  refine va_get (D := D) (ci := 5) (v := .int (nI (8 * j))) (C := "FilterGuard$Machine") (T := F_Machine) (N := 20) hx hb hts i_Machine hown hK hP 0 rfl rfl 19 (by decide) (hts _ u_651) (fun _ h9 => h9) rfl d_Machine_writeBytes_14 ?_
  refine lv_iload hx hb d_Machine_writeBytes_17 (lv_at hl 0 rfl) ?_
  refine lv_iadd hx hb d_Machine_writeBytes_19 ?_
  refine fg_topi (y := nI (8 * j + 7)) (nI_add (8 * j) 7) ?_
  refine lv_lload_n hx hb d_Machine_writeBytes_20 rfl (lv_at hl 3 rfl) ?_
  refine lv_bipush (v := 8) hx hb d_Machine_writeBytes_21 (by decide) ?_
  refine lv_iload hx hb d_Machine_writeBytes_23 (lv_at hl 0 rfl) ?_
  refine lv_imul hx hb d_Machine_writeBytes_25 ?_
  refine fg_topi (y := 56) (by decide) ?_
  refine lv_lushr (v := (x2.toUInt64 >>> ((56 : Int32).toInt64.toUInt64 &&& Int64.toUInt64 63)).toInt64) hx hb d_Machine_writeBytes_26 rfl ?_
  refine lv_l2i (v := ((x2.toUInt64 >>> ((56 : Int32).toInt64.toUInt64 &&& Int64.toUInt64 63)).toInt64).toInt32) hx hb d_Machine_writeBytes_27 rfl ?_
  refine lv_i2b (v := (((x2.toUInt64 >>> ((56 : Int32).toInt64.toUInt64 &&& Int64.toUInt64 63)).toInt64).toInt32).toInt8.toInt32) hx hb d_Machine_writeBytes_28 rfl ?_
  refine va_bast hx hb hK hP hD hS 1 0 rfl rfl (vp_in_nI (by omega) (by decide)) d_Machine_writeBytes_29 (fun H locs hP hD hS => ?_)
  have hP : va_P D classes [(h0, .inr (5, [.ref qc, .ref qh, .ref qs, .ref m5, .ref m0, .ref m1, .ref m2, .ref m3, .int 0, .ref m4, .int 0, .long 0, .int 0, .int 0, .int 0, .int 0, .ref qc, .int 0, .ref m0, .int (nI (8 * j))])), (m0, .inl (kx, 64, .inl (upd f_14 ((nI (8 * j + 7)).toNatClampNeg) (vp_nar .byte ((((x2.toUInt64 >>> ((56 : Int32).toInt64.toUInt64 &&& Int64.toUInt64 63)).toInt64).toInt32).toInt8.toInt32)))))] H := hP
  have hD : va_D A [(h0, .inr (5, [.ref qc, .ref qh, .ref qs, .ref m5, .ref m0, .ref m1, .ref m2, .ref m3, .int 0, .ref m4, .int 0, .long 0, .int 0, .int 0, .int 0, .int 0, .ref qc, .int 0, .ref m0, .int (nI (8 * j))])), (m0, .inl (kx, 64, .inl (upd f_14 ((nI (8 * j + 7)).toNatClampNeg) (vp_nar .byte ((((x2.toUInt64 >>> ((56 : Int32).toInt64.toUInt64 &&& Int64.toUInt64 63)).toInt64).toInt32).toInt8.toInt32)))))] := hD
  obtain ⟨f_16, ef_16⟩ : ∃ g : Nat → Int32, g = upd f_14 ((nI (8 * j + 7)).toNatClampNeg) (vp_nar .byte ((((x2.toUInt64 >>> ((56 : Int32).toInt64.toUInt64 &&& Int64.toUInt64 63)).toInt64).toInt32).toInt8.toInt32)) := ⟨_, rfl⟩
  rw [← ef_16] at hP hD
  refine lv_iinc (v := 8) (lv' := [(4, .int 8), (0, .ref h0), (1, .int 8), (2, .long x2)]) hx hb d_Machine_writeBytes_30 hl (k := 0) rfl (by decide) (by decide) rfl (fun ls hl => ?_)
  refine lv_goto (tgt := 3) hx hb d_Machine_writeBytes_33 (by decide) ?_
  refine lv_iload hx hb d_Machine_writeBytes_3 (lv_at hl 0 rfl) ?_
  refine lv_iload_n hx hb d_Machine_writeBytes_5 rfl (lv_at hl 2 rfl) ?_
  refine lv_icmp_ge (tgt := 36) hx hb d_Machine_writeBytes_6 (by decide) (fun c_17 => ?_) (fun c_17 => absurd (by decide) c_17)
  exact fg_retv (f_16) hx hb hr hlocks trivial (hP.sub (ws' := [(h0, .inr (5, [.ref qc, .ref qh, .ref qs, .ref m5, .ref m0, .ref m1, .ref m2, .ref m3, .int 0, .ref m4, .int 0, .long 0, .int 0, .int 0, .int 0, .int 0, .ref qc, .int 0, .ref m0, .int (nI (8 * j))])), (m0, .inl (kx, 64, .inl f_16))]) [0, 1] rfl) (hK.sub (tys' := []) [] rfl) (hD.sub (ws' := [(h0, .inr (5, [.ref qc, .ref qh, .ref qs, .ref m5, .ref m0, .ref m1, .ref m2, .ref m3, .int 0, .ref m4, .int 0, .long 0, .int 0, .int 0, .int 0, .int 0, .ref qc, .int 0, .ref m0, .int (nI (8 * j))])), (m0, .inl (kx, 64, .inl f_16))]) [0, 1] (by decide) rfl) hS (Nat.le_of_ble_eq_true rfl) (Nat.le_of_ble_eq_true rfl) d_Machine_writeBytes_36
abbrev y_Machine_writeContext : MethodName := ⟨"FilterGuard$Machine", "writeContext", "(IJ)V"⟩
theorem d_Machine_writeContext_0 : decode prog_7_method_3_code 0 = .ok (.aload_n 0, 1) := by decide +kernel
theorem d_Machine_writeContext_1 : decode prog_7_method_3_code 1 = .ok (.aload_n 0, 1) := by decide +kernel
theorem d_Machine_writeContext_2 : decode prog_7_method_3_code 2 = .ok (.getfield 9, 3) := by decide +kernel
theorem d_Machine_writeContext_5 : decode prog_7_method_3_code 5 = .ok (.putfield 51, 3) := by decide +kernel
theorem d_Machine_writeContext_8 : decode prog_7_method_3_code 8 = .ok (.aload_n 0, 1) := by decide +kernel
theorem d_Machine_writeContext_9 : decode prog_7_method_3_code 9 = .ok (.iload_n 1, 1) := by decide +kernel
theorem d_Machine_writeContext_10 : decode prog_7_method_3_code 10 = .ok (.putfield 64, 3) := by decide +kernel
theorem d_Machine_writeContext_13 : decode prog_7_method_3_code 13 = .ok (.aload_n 0, 1) := by decide +kernel
theorem d_Machine_writeContext_14 : decode prog_7_method_3_code 14 = .ok (.bipush 8, 2) := by decide +kernel
theorem d_Machine_writeContext_16 : decode prog_7_method_3_code 16 = .ok (.lload_n 2, 1) := by decide +kernel
theorem d_Machine_writeContext_17 : decode prog_7_method_3_code 17 = .ok (.invokevirtual 67, 3) := by decide +kernel
theorem u_783 : Cond.methodLink "FilterGuard$Machine" 67 ⟨"FilterGuard$Machine", "writeBytes", "(IJ)V"⟩ ∈ fg_g := fg_in (List.mem_of_getElem? (i := 783) (by decide +kernel)) rfl
theorem u_786 : Cond.code ⟨"FilterGuard$Machine", "writeBytes", "(IJ)V"⟩ prog_7_method_15_code 5 none ∈ fg_g := fg_in (List.mem_of_getElem? (i := 786) (by decide +kernel)) rfl
theorem u_785 : Cond.instanceMethod ⟨"FilterGuard$Machine", "writeBytes", "(IJ)V"⟩ ∈ fg_g := fg_in (List.mem_of_getElem? (i := 785) (by decide +kernel)) rfl
theorem u_1 : Cond.selects "FilterGuard$Machine" ⟨"FilterGuard$Machine", "writeBytes", "(IJ)V"⟩ ⟨"FilterGuard$Machine", "writeBytes", "(IJ)V"⟩ ∈ fg_g := fg_in (List.mem_of_getElem? (i := 1) (by decide +kernel)) rfl
theorem d_Machine_writeContext_20 : decode prog_7_method_3_code 20 = .ok (.return_, 1) := by decide +kernel
def rm_Machine_wc : Room := { frames := 2, cells := 0, slots := 0, locals := 60 }
abbrev q_Machine_wc (D : va_G) (h0 : Nat) (qc : Nat) (qh : Nat) (qs : Nat) (m0 : Nat) (m1 : Nat) (m2 : Nat) (m3 : Nat) (m4 : Nat) (m5 : Nat) (kx : ClassId) (fx : (Nat → Int32)) (j : Nat) (x2 : Int64) (A : Nat → Prop) : Array Value → Jvm.State → Outcome → Jvm.State → Prop := va_Qv (fun (f1 : (Nat → Int32)) => True) (fg_B D A (fun (f1 : (Nat → Int32)) => [(h0, .inr (5, [.ref qc, .ref qh, .ref qs, .ref m5, .ref m0, .ref m1, .ref m2, .ref m3, .int 0, .ref m4, .int 0, .long 0, .int 0, .int 0, .int 0, .int 0, .ref qc, .int 0, .ref m0, .int (nI (8 * j))])), (m0, .inl (kx, 64, .inl f1))]) (fun (f1 : (Nat → Int32)) => [])) A
set_option maxHeartbeats 4000000 in
set_option maxRecDepth 100000 in
theorem c_Machine_wc (l : Launch) (D : va_G) (h0 : Nat) (qc : Nat) (qh : Nat) (qs : Nat) (m0 : Nat) (m1 : Nat) (m2 : Nat) (m3 : Nat) (m4 : Nat) (m5 : Nat) (kx : ClassId) (fx : (Nat → Int32)) (j : Nat) (x2 : Int64) (sz : Nat) (hj : j < 8) : Met l y_Machine_writeContext (fg_w y_Machine_writeContext prog_7_method_3_code 4 none) rm_Machine_wc (va_Pc [.ref h0, .int (nI (8 * j)), .long x2] (fg_P D [(kx, .byte)] [(h0, .inr (5, [.ref qc, .ref qh, .ref qs, .ref m5, .ref m0, .ref m1, .ref m2, .ref m3, .int 0, .ref m4, .int 0, .long 0, .int 0, .int 0, .int 0, .int 0, .ref qc, .int 0, .ref m1, .int 0])), (m0, .inl (kx, 64, .inl fx))] sz)) (q_Machine_wc D h0 qc qh qs m0 m1 m2 m3 m4 m5 kx fx j x2 (va_A [(h0, .inr (5, [.ref qc, .ref qh, .ref qs, .ref m5, .ref m0, .ref m1, .ref m2, .ref m3, .int 0, .ref m4, .int 0, .long 0, .int 0, .int 0, .int 0, .int 0, .ref qc, .int 0, .ref m1, .int 0])), (m0, .inl (kx, 64, .inl fx))] sz)) rm_Machine_wc.cells rm_Machine_wc.slots (va_A [(h0, .inr (5, [.ref qc, .ref qh, .ref qs, .ref m5, .ref m0, .ref m1, .ref m2, .ref m3, .int 0, .ref m4, .int 0, .long 0, .int 0, .int 0, .int 0, .int 0, .ref qc, .int 0, .ref m1, .int 0])), (m0, .inl (kx, 64, .inl fx))] sz) := by
  refine fg_enter (fun A => q_Machine_wc D h0 qc qh qs m0 m1 m2 m3 m4 m5 kx fx j x2 A) (by decide +kernel) (Nat.le_of_ble_eq_true rfl) ?_
  intro p e s m below meth c ls A hx hb hml hown hts hr hlocks hin hP hK hD hS hA hX hl
  have hl : lv_has ls 4 [(0, .ref h0), (1, .int (nI (8 * j))), (2, .long x2)] := hl
  refine lv_aload_n hx hb d_Machine_writeContext_0 rfl (lv_at hl 0 rfl) ?_
  refine lv_aload_n hx hb d_Machine_writeContext_1 rfl (lv_at hl 0 rfl) ?_
  refine va_get (D := D) (ci := 5) (v := .ref m0) (C := "FilterGuard$Machine") (T := F_Machine) (N := 20) hx hb hts i_Machine hown hK hP 0 rfl rfl 4 (by decide) (hts _ u_627) (fun _ h9 => h9) rfl d_Machine_writeContext_2 ?_
  refine va_put (D := D) (ci := 5) (v := .ref m0) (ty := (.array .byte)) (C := "FilterGuard$Machine") (T := F_Machine) (N := 20) hx hb hts i_Machine t_Machine t_Machine_ok n_Machine hown hK hP hD hS 0 rfl rfl 18 (by decide) (hts _ u_650) (fun _ h9 => h9) rfl (by decide +kernel) rfl rfl (Nat.le_of_ble_eq_true rfl) d_Machine_writeContext_5 (fun H locs hP hD hS => ?_)
  have hP : va_P D classes [(h0, .inr (5, [.ref qc, .ref qh, .ref qs, .ref m5, .ref m0, .ref m1, .ref m2, .ref m3, .int 0, .ref m4, .int 0, .long 0, .int 0, .int 0, .int 0, .int 0, .ref qc, .int 0, .ref m0, .int 0])), (m0, .inl (kx, 64, .inl fx))] H := hP
  have hD : va_D A [(h0, .inr (5, [.ref qc, .ref qh, .ref qs, .ref m5, .ref m0, .ref m1, .ref m2, .ref m3, .int 0, .ref m4, .int 0, .long 0, .int 0, .int 0, .int 0, .int 0, .ref qc, .int 0, .ref m0, .int 0])), (m0, .inl (kx, 64, .inl fx))] := hD
  refine lv_aload_n hx hb d_Machine_writeContext_8 rfl (lv_at hl 0 rfl) ?_
  refine lv_iload_n hx hb d_Machine_writeContext_9 rfl (lv_at hl 1 rfl) ?_
  refine va_put (D := D) (ci := 5) (v := .int (nI (8 * j))) (ty := .int) (C := "FilterGuard$Machine") (T := F_Machine) (N := 20) hx hb hts i_Machine t_Machine t_Machine_ok n_Machine hown hK hP hD hS 0 rfl rfl 19 (by decide) (hts _ u_651) (fun _ h9 => h9) rfl (by decide +kernel) rfl rfl (Nat.le_of_ble_eq_true rfl) d_Machine_writeContext_10 (fun H locs hP hD hS => ?_)
  have hP : va_P D classes [(h0, .inr (5, [.ref qc, .ref qh, .ref qs, .ref m5, .ref m0, .ref m1, .ref m2, .ref m3, .int 0, .ref m4, .int 0, .long 0, .int 0, .int 0, .int 0, .int 0, .ref qc, .int 0, .ref m0, .int (nI (8 * j))])), (m0, .inl (kx, 64, .inl fx))] H := hP
  have hD : va_D A [(h0, .inr (5, [.ref qc, .ref qh, .ref qs, .ref m5, .ref m0, .ref m1, .ref m2, .ref m3, .int 0, .ref m4, .int 0, .long 0, .int 0, .int 0, .int 0, .int 0, .ref qc, .int 0, .ref m0, .int (nI (8 * j))])), (m0, .inl (kx, 64, .inl fx))] := hD
  refine lv_aload_n hx hb d_Machine_writeContext_13 rfl (lv_at hl 0 rfl) ?_
  refine lv_bipush (v := 8) hx hb d_Machine_writeContext_14 (by decide) ?_
  refine lv_lload_n hx hb d_Machine_writeContext_16 rfl (lv_at hl 2 rfl) ?_
  refine fg_thenv (wr := []) (fg_runV (C := "FilterGuard$Machine") (As := [.int 8, .long x2]) (rest := []) (ci := 5) (q0 := 0) ⟨hx, hb, hml, hown, hts⟩ (c_Machine_wb8 l D h0 qc qh qs m0 m1 m2 m3 m4 m5 kx fx j x2 H.size hj) rfl (by show fg_nm y_Machine_writeBytes 2; decide +kernel) u_783 u_785 u_1 u_190 u_786 ⟨Nat.le_of_ble_eq_true rfl, Nat.le_of_ble_eq_true rfl⟩ hX (hP.sub (ws' := [(h0, .inr (5, [.ref qc, .ref qh, .ref qs, .ref m5, .ref m0, .ref m1, .ref m2, .ref m3, .int 0, .ref m4, .int 0, .long 0, .int 0, .int 0, .int 0, .int 0, .ref qc, .int 0, .ref m0, .int (nI (8 * j))])), (m0, .inl (kx, 64, .inl fx))]) [0, 1] rfl) (hK.sub (tys' := [(kx, .byte)]) [0] rfl) (hD.sub (ws' := [(h0, .inr (5, [.ref qc, .ref qh, .ref qs, .ref m5, .ref m0, .ref m1, .ref m2, .ref m3, .int 0, .ref m4, .int 0, .long 0, .int 0, .int 0, .int 0, .int 0, .ref qc, .int 0, .ref m0, .int (nI (8 * j))])), (m0, .inl (kx, 64, .inl fx))]) [0, 1] (by decide) rfl) rfl rfl rfl rfl hl.1 (Nat.le_of_ble_eq_true rfl) d_Machine_writeContext_17 ⟨(Nat.le_of_ble_eq_true rfl), (Nat.le_of_ble_eq_true rfl)⟩) hP hD hK hS hA [0, 1] [] rfl rfl (by decide) (by decide) (fun  u H locs hw17_0 hP hD hK hS => ?_)
  obtain ⟨f1_17_1, rfl⟩ : ∃ z, z = u := ⟨_, rfl⟩
  try dsimp only at hw17_0
  have hP : va_P D classes [(h0, .inr (5, [.ref qc, .ref qh, .ref qs, .ref m5, .ref m0, .ref m1, .ref m2, .ref m3, .int 0, .ref m4, .int 0, .long 0, .int 0, .int 0, .int 0, .int 0, .ref qc, .int 0, .ref m0, .int (nI (8 * j))])), (m0, .inl (kx, 64, .inl f1_17_1))] H := hP
  have hD : va_D A [(h0, .inr (5, [.ref qc, .ref qh, .ref qs, .ref m5, .ref m0, .ref m1, .ref m2, .ref m3, .int 0, .ref m4, .int 0, .long 0, .int 0, .int 0, .int 0, .int 0, .ref qc, .int 0, .ref m0, .int (nI (8 * j))])), (m0, .inl (kx, 64, .inl f1_17_1))] := hD
  have hK : va_K D classes [(kx, .byte)] s := hK
  refine W.widen (k := 0) (n := 0) (Nat.le_of_ble_eq_true rfl) (Nat.le_of_ble_eq_true rfl) ?_
  exact fg_retv (f1_17_1) hx hb hr hlocks trivial (hP.sub (ws' := [(h0, .inr (5, [.ref qc, .ref qh, .ref qs, .ref m5, .ref m0, .ref m1, .ref m2, .ref m3, .int 0, .ref m4, .int 0, .long 0, .int 0, .int 0, .int 0, .int 0, .ref qc, .int 0, .ref m0, .int (nI (8 * j))])), (m0, .inl (kx, 64, .inl f1_17_1))]) [0, 1] rfl) (hK.sub (tys' := []) [] rfl) (hD.sub (ws' := [(h0, .inr (5, [.ref qc, .ref qh, .ref qs, .ref m5, .ref m0, .ref m1, .ref m2, .ref m3, .int 0, .ref m4, .int 0, .long 0, .int 0, .int 0, .int 0, .int 0, .ref qc, .int 0, .ref m0, .int (nI (8 * j))])), (m0, .inl (kx, 64, .inl f1_17_1))]) [0, 1] (by decide) rfl) hS (Nat.le_of_ble_eq_true rfl) (Nat.le_of_ble_eq_true rfl) d_Machine_writeContext_20
abbrev y_G_context : MethodName := ⟨"FilterGuard", "context", "(IJ)Z"⟩
theorem d_G_context_0 : decode prog_1_method_10_code 0 = .ok (.iload_n 1, 1) := by decide +kernel
theorem d_G_context_1 : decode prog_1_method_10_code 1 = .ok (.ifCond .lt 16, 3) := by decide +kernel
theorem d_G_context_17 : decode prog_1_method_10_code 17 = .ok (.iconst 0, 1) := by decide +kernel
theorem d_G_context_18 : decode prog_1_method_10_code 18 = .ok (.ireturn, 1) := by decide +kernel
theorem d_G_context_4 : decode prog_1_method_10_code 4 = .ok (.iload_n 1, 1) := by decide +kernel
theorem d_G_context_5 : decode prog_1_method_10_code 5 = .ok (.bipush 64, 2) := by decide +kernel
theorem d_G_context_7 : decode prog_1_method_10_code 7 = .ok (.if_icmp .ge 10, 3) := by decide +kernel
theorem d_G_context_10 : decode prog_1_method_10_code 10 = .ok (.iload_n 1, 1) := by decide +kernel
theorem d_G_context_11 : decode prog_1_method_10_code 11 = .ok (.bipush 8, 2) := by decide +kernel
theorem d_G_context_13 : decode prog_1_method_10_code 13 = .ok (.irem, 1) := by decide +kernel
theorem d_G_context_14 : decode prog_1_method_10_code 14 = .ok (.ifCond .eq 5, 3) := by decide +kernel
theorem d_G_context_19 : decode prog_1_method_10_code 19 = .ok (.aload_n 0, 1) := by decide +kernel
theorem d_G_context_20 : decode prog_1_method_10_code 20 = .ok (.getfield 50, 3) := by decide +kernel
theorem d_G_context_23 : decode prog_1_method_10_code 23 = .ok (.iload_n 1, 1) := by decide +kernel
theorem d_G_context_24 : decode prog_1_method_10_code 24 = .ok (.lload_n 2, 1) := by decide +kernel
theorem d_G_context_25 : decode prog_1_method_10_code 25 = .ok (.invokevirtual 169, 3) := by decide +kernel
theorem u_779 : Cond.methodLink "FilterGuard" 169 ⟨"FilterGuard$Machine", "writeContext", "(IJ)V"⟩ ∈ fg_g := fg_in (List.mem_of_getElem? (i := 779) (by decide +kernel)) rfl
theorem u_782 : Cond.code ⟨"FilterGuard$Machine", "writeContext", "(IJ)V"⟩ prog_7_method_3_code 4 none ∈ fg_g := fg_in (List.mem_of_getElem? (i := 782) (by decide +kernel)) rfl
theorem u_780 : Cond.instanceMethod ⟨"FilterGuard$Machine", "writeContext", "(IJ)V"⟩ ∈ fg_g := fg_in (List.mem_of_getElem? (i := 780) (by decide +kernel)) rfl
theorem u_781 : Cond.selects "FilterGuard$Machine" ⟨"FilterGuard$Machine", "writeContext", "(IJ)V"⟩ ⟨"FilterGuard$Machine", "writeContext", "(IJ)V"⟩ ∈ fg_g := fg_in (List.mem_of_getElem? (i := 781) (by decide +kernel)) rfl
theorem d_G_context_28 : decode prog_1_method_10_code 28 = .ok (.iconst 1, 1) := by decide +kernel
theorem d_G_context_29 : decode prog_1_method_10_code 29 = .ok (.ireturn, 1) := by decide +kernel
def rm_G_context : Room := { frames := 3, cells := 0, slots := 0, locals := 120 }
abbrev q_G_context (D : va_G) (h0 : Nat) (qt : Nat) (qs : Nat) (qc : Nat) (qh : Nat) (qf : Nat) (qe : Nat) (qm : Nat) (m0 : Nat) (m1 : Nat) (m2 : Nat) (m3 : Nat) (m4 : Nat) (m5 : Nat) (kx : ClassId) (fx : (Nat → Int32)) (x1 : Int32) (x2 : Int64) (A : Nat → Prop) : Array Value → Jvm.State → Outcome → Jvm.State → Prop := va_Qi (fun (r : Int32) (f1 : (Nat → Int32)) => r = fg_ctx x1) (fg_B D A (fun (f1 : (Nat → Int32)) => [(h0, .inr (0, [.ref qt, .int 0, .ref qs, .int 0, .ref qc, .ref qh, .ref qf, .ref qe, .ref qm, .int 0, .int (-1), .int 0, .int 0, .int 0])), (m0, .inl (kx, 64, .inl f1))]) (fun (f1 : (Nat → Int32)) => [])) A
set_option maxHeartbeats 4000000 in
set_option maxRecDepth 100000 in
theorem c_G_context (l : Launch) (D : va_G) (h0 : Nat) (qt : Nat) (qs : Nat) (qc : Nat) (qh : Nat) (qf : Nat) (qe : Nat) (qm : Nat) (m0 : Nat) (m1 : Nat) (m2 : Nat) (m3 : Nat) (m4 : Nat) (m5 : Nat) (kx : ClassId) (fx : (Nat → Int32)) (x1 : Int32) (x2 : Int64) (sz : Nat) : Met l y_G_context (fg_w y_G_context prog_1_method_10_code 4 (some .boolean)) rm_G_context (va_Pc [.ref h0, .int x1, .long x2] (fg_P D [(kx, .byte)] [(h0, .inr (0, [.ref qt, .int 0, .ref qs, .int 0, .ref qc, .ref qh, .ref qf, .ref qe, .ref qm, .int 0, .int (-1), .int 0, .int 0, .int 0])), (qm, .inr (5, [.ref qc, .ref qh, .ref qs, .ref m5, .ref m0, .ref m1, .ref m2, .ref m3, .int 0, .ref m4, .int 0, .long 0, .int 0, .int 0, .int 0, .int 0, .ref qc, .int 0, .ref m1, .int 0])), (m0, .inl (kx, 64, .inl fx))] sz)) (q_G_context D h0 qt qs qc qh qf qe qm m0 m1 m2 m3 m4 m5 kx fx x1 x2 (va_A [(h0, .inr (0, [.ref qt, .int 0, .ref qs, .int 0, .ref qc, .ref qh, .ref qf, .ref qe, .ref qm, .int 0, .int (-1), .int 0, .int 0, .int 0])), (qm, .inr (5, [.ref qc, .ref qh, .ref qs, .ref m5, .ref m0, .ref m1, .ref m2, .ref m3, .int 0, .ref m4, .int 0, .long 0, .int 0, .int 0, .int 0, .int 0, .ref qc, .int 0, .ref m1, .int 0])), (m0, .inl (kx, 64, .inl fx))] sz)) rm_G_context.cells rm_G_context.slots (va_A [(h0, .inr (0, [.ref qt, .int 0, .ref qs, .int 0, .ref qc, .ref qh, .ref qf, .ref qe, .ref qm, .int 0, .int (-1), .int 0, .int 0, .int 0])), (qm, .inr (5, [.ref qc, .ref qh, .ref qs, .ref m5, .ref m0, .ref m1, .ref m2, .ref m3, .int 0, .ref m4, .int 0, .long 0, .int 0, .int 0, .int 0, .int 0, .ref qc, .int 0, .ref m1, .int 0])), (m0, .inl (kx, 64, .inl fx))] sz) := by
  refine fg_enter (fun A => q_G_context D h0 qt qs qc qh qf qe qm m0 m1 m2 m3 m4 m5 kx fx x1 x2 A) (by decide +kernel) (Nat.le_of_ble_eq_true rfl) ?_
  intro p e s m below meth c ls A hx hb hml hown hts hr hlocks hin hP hK hD hS hA hX hl
  have hl : lv_has ls 4 [(0, .ref h0), (1, .int x1), (2, .long x2)] := hl
  refine lv_iload_n hx hb d_G_context_0 rfl (lv_at hl 1 rfl) ?_
  refine lv_if_lt (tgt := 17) hx hb d_G_context_1 (by decide) (fun c_1 => ?_) (fun c_1 => ?_)
  · refine lv_iconst (v := 0) hx hb d_G_context_17 (by decide) ?_
    exact fg_retz (fx) hx hb hr hlocks rfl (fg_ctx_no (fun h : fg_at x1 => h.1 c_1)) (hP.sub (ws' := [(h0, .inr (0, [.ref qt, .int 0, .ref qs, .int 0, .ref qc, .ref qh, .ref qf, .ref qe, .ref qm, .int 0, .int (-1), .int 0, .int 0, .int 0])), (m0, .inl (kx, 64, .inl fx))]) [0, 2] rfl) (hK.sub (tys' := []) [] rfl) (hD.sub (ws' := [(h0, .inr (0, [.ref qt, .int 0, .ref qs, .int 0, .ref qc, .ref qh, .ref qf, .ref qe, .ref qm, .int 0, .int (-1), .int 0, .int 0, .int 0])), (m0, .inl (kx, 64, .inl fx))]) [0, 2] (by decide) rfl) hS (Nat.le_of_ble_eq_true rfl) (Nat.le_of_ble_eq_true rfl) d_G_context_18
  · refine lv_iload_n hx hb d_G_context_4 rfl (lv_at hl 1 rfl) ?_
    refine lv_bipush (v := 64) hx hb d_G_context_5 (by decide) ?_
    refine lv_icmp_ge (tgt := 17) hx hb d_G_context_7 (by decide) (fun c_2 => ?_) (fun c_2 => ?_)
    · refine lv_iconst (v := 0) hx hb d_G_context_17 (by decide) ?_
      exact fg_retz (fx) hx hb hr hlocks rfl (fg_ctx_no (fun h : fg_at x1 => h.2.1 c_2)) (hP.sub (ws' := [(h0, .inr (0, [.ref qt, .int 0, .ref qs, .int 0, .ref qc, .ref qh, .ref qf, .ref qe, .ref qm, .int 0, .int (-1), .int 0, .int 0, .int 0])), (m0, .inl (kx, 64, .inl fx))]) [0, 2] rfl) (hK.sub (tys' := []) [] rfl) (hD.sub (ws' := [(h0, .inr (0, [.ref qt, .int 0, .ref qs, .int 0, .ref qc, .ref qh, .ref qf, .ref qe, .ref qm, .int 0, .int (-1), .int 0, .int 0, .int 0])), (m0, .inl (kx, 64, .inl fx))]) [0, 2] (by decide) rfl) hS (Nat.le_of_ble_eq_true rfl) (Nat.le_of_ble_eq_true rfl) d_G_context_18
    · refine lv_iload_n hx hb d_G_context_10 rfl (lv_at hl 1 rfl) ?_
      refine lv_bipush (v := 8) hx hb d_G_context_11 (by decide) ?_
      refine lv_irem hx hb d_G_context_13 (by decide) ?_
      refine lv_if_eq (tgt := 19) hx hb d_G_context_14 (by decide) (fun c_3 => ?_) (fun c_3 => ?_)
      · have hat9 : fg_at x1 := ⟨c_1, c_2, c_3⟩
        obtain ⟨j, hj, rfl⟩ := fg_at_nI ⟨c_1, c_2, c_3⟩
        refine lv_aload_n hx hb d_G_context_19 rfl (lv_at hl 0 rfl) ?_
        refine va_get (D := D) (ci := 0) (v := .ref qm) (C := "FilterGuard") (T := F_G) (N := 14) hx hb hts i_G hown hK hP 0 rfl rfl 8 (by decide) (hts _ u_701) (fun _ h9 => h9) rfl d_G_context_20 ?_
        refine lv_iload_n hx hb d_G_context_23 rfl (lv_at hl 1 rfl) ?_
        refine lv_lload_n hx hb d_G_context_24 rfl (lv_at hl 2 rfl) ?_
        refine fg_thenv (wr := [(h0, .inr (0, [.ref qt, .int 0, .ref qs, .int 0, .ref qc, .ref qh, .ref qf, .ref qe, .ref qm, .int 0, .int (-1), .int 0, .int 0, .int 0]))]) (fg_runV (C := "FilterGuard$Machine") (As := [.int (nI (8 * j)), .long x2]) (rest := []) (ci := 5) (q0 := 0) ⟨hx, hb, hml, hown, hts⟩ (c_Machine_wc l D qm qc qh qs m0 m1 m2 m3 m4 m5 kx fx j x2 s.heap.size hj) rfl (by show fg_nm y_Machine_writeContext 2; decide +kernel) u_779 u_780 u_781 u_190 u_782 ⟨Nat.le_of_ble_eq_true rfl, Nat.le_of_ble_eq_true rfl⟩ hX (hP.sub (ws' := [(qm, .inr (5, [.ref qc, .ref qh, .ref qs, .ref m5, .ref m0, .ref m1, .ref m2, .ref m3, .int 0, .ref m4, .int 0, .long 0, .int 0, .int 0, .int 0, .int 0, .ref qc, .int 0, .ref m1, .int 0])), (m0, .inl (kx, 64, .inl fx))]) [1, 2] rfl) (hK.sub (tys' := [(kx, .byte)]) [0] rfl) (hD.sub (ws' := [(qm, .inr (5, [.ref qc, .ref qh, .ref qs, .ref m5, .ref m0, .ref m1, .ref m2, .ref m3, .int 0, .ref m4, .int 0, .long 0, .int 0, .int 0, .int 0, .int 0, .ref qc, .int 0, .ref m1, .int 0])), (m0, .inl (kx, 64, .inl fx))]) [1, 2] (by decide) rfl) rfl rfl rfl rfl hl.1 (Nat.le_of_ble_eq_true rfl) d_G_context_25 ⟨(Nat.le_of_ble_eq_true rfl), (Nat.le_of_ble_eq_true rfl)⟩) hP hD hK hS hA [1, 2] [0] rfl rfl (by decide) (by decide) (fun  u H locs hw25_3 hP hD hK hS => ?_)
        obtain ⟨f1_25_4, rfl⟩ : ∃ z, z = u := ⟨_, rfl⟩
        try dsimp only at hw25_3
        have hP : va_P D classes [(h0, .inr (0, [.ref qt, .int 0, .ref qs, .int 0, .ref qc, .ref qh, .ref qf, .ref qe, .ref qm, .int 0, .int (-1), .int 0, .int 0, .int 0])), (qm, .inr (5, [.ref qc, .ref qh, .ref qs, .ref m5, .ref m0, .ref m1, .ref m2, .ref m3, .int 0, .ref m4, .int 0, .long 0, .int 0, .int 0, .int 0, .int 0, .ref qc, .int 0, .ref m0, .int (nI (8 * j))])), (m0, .inl (kx, 64, .inl f1_25_4))] H := hP
        have hD : va_D A [(h0, .inr (0, [.ref qt, .int 0, .ref qs, .int 0, .ref qc, .ref qh, .ref qf, .ref qe, .ref qm, .int 0, .int (-1), .int 0, .int 0, .int 0])), (qm, .inr (5, [.ref qc, .ref qh, .ref qs, .ref m5, .ref m0, .ref m1, .ref m2, .ref m3, .int 0, .ref m4, .int 0, .long 0, .int 0, .int 0, .int 0, .int 0, .ref qc, .int 0, .ref m0, .int (nI (8 * j))])), (m0, .inl (kx, 64, .inl f1_25_4))] := hD
        have hK : va_K D classes [(kx, .byte)] s := hK
        refine W.widen (k := 0) (n := 0) (Nat.le_of_ble_eq_true rfl) (Nat.le_of_ble_eq_true rfl) ?_
        refine lv_iconst (v := 1) hx hb d_G_context_28 (by decide) ?_
        exact fg_retz (f1_25_4) hx hb hr hlocks rfl (fg_ctx_yes hat9) (hP.sub (ws' := [(h0, .inr (0, [.ref qt, .int 0, .ref qs, .int 0, .ref qc, .ref qh, .ref qf, .ref qe, .ref qm, .int 0, .int (-1), .int 0, .int 0, .int 0])), (m0, .inl (kx, 64, .inl f1_25_4))]) [0, 2] rfl) (hK.sub (tys' := []) [] rfl) (hD.sub (ws' := [(h0, .inr (0, [.ref qt, .int 0, .ref qs, .int 0, .ref qc, .ref qh, .ref qf, .ref qe, .ref qm, .int 0, .int (-1), .int 0, .int 0, .int 0])), (m0, .inl (kx, 64, .inl f1_25_4))]) [0, 2] (by decide) rfl) hS (Nat.le_of_ble_eq_true rfl) (Nat.le_of_ble_eq_true rfl) d_G_context_29
      · refine lv_iconst (v := 0) hx hb d_G_context_17 (by decide) ?_
        exact fg_retz (fx) hx hb hr hlocks rfl (fg_ctx_no (fun h : fg_at x1 => c_3 h.2.2)) (hP.sub (ws' := [(h0, .inr (0, [.ref qt, .int 0, .ref qs, .int 0, .ref qc, .ref qh, .ref qf, .ref qe, .ref qm, .int 0, .int (-1), .int 0, .int 0, .int 0])), (m0, .inl (kx, 64, .inl fx))]) [0, 2] rfl) (hK.sub (tys' := []) [] rfl) (hD.sub (ws' := [(h0, .inr (0, [.ref qt, .int 0, .ref qs, .int 0, .ref qc, .ref qh, .ref qf, .ref qe, .ref qm, .int 0, .int (-1), .int 0, .int 0, .int 0])), (m0, .inl (kx, 64, .inl fx))]) [0, 2] (by decide) rfl) hS (Nat.le_of_ble_eq_true rfl) (Nat.le_of_ble_eq_true rfl) d_G_context_18
