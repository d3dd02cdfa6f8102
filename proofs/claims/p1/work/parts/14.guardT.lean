abbrev y_G_about : MethodName := ⟨"FilterGuard", "about", "(I)I"⟩
theorem d_G_about_0 : decode prog_1_method_6_code 0 = .ok (.aload_n 0, 1) := by decide +kernel
theorem d_G_about_1 : decode prog_1_method_6_code 1 = .ok (.getfield 111, 3) := by decide +kernel
theorem u_704 : Cond.fieldLink "FilterGuard" 111 "FilterGuard" "isLoaded" "Z" ∈ fg_g := fg_in (List.mem_of_getElem? (i := 704) (by decide +kernel)) rfl
theorem d_G_about_4 : decode prog_1_method_6_code 4 = .ok (.ifCond .ne 5, 3) := by decide +kernel
theorem d_G_about_7 : decode prog_1_method_6_code 7 = .ok (.iconst (-1), 1) := by decide +kernel
theorem d_G_about_8 : decode prog_1_method_6_code 8 = .ok (.ireturn, 1) := by decide +kernel
def rm_G_about : Room := { frames := 1, cells := 0, slots := 0, locals := 20 }
abbrev q_G_about (D : va_G) (h0 : Nat) (qt : Nat) (qs : Nat) (qc : Nat) (qh : Nat) (qf : Nat) (qe : Nat) (qm : Nat) (x1 : Int32) (A : Nat → Prop) : Array Value → Jvm.State → Outcome → Jvm.State → Prop := va_Qi (fun (r : Int32) (_ : Unit) => r = -1) (fg_B D A (fun (_ : Unit) => [(h0, .inr (0, [.ref qt, .int 0, .ref qs, .int 0, .ref qc, .ref qh, .ref qf, .ref qe, .ref qm, .int 0, .int (-1), .int 0, .int 0, .int 0]))]) (fun (_ : Unit) => [])) A
set_option maxHeartbeats 4000000 in
set_option maxRecDepth 100000 in
theorem c_G_about (l : Launch) (D : va_G) (h0 : Nat) (qt : Nat) (qs : Nat) (qc : Nat) (qh : Nat) (qf : Nat) (qe : Nat) (qm : Nat) (x1 : Int32) (sz : Nat) : Met l y_G_about (fg_w y_G_about prog_1_method_6_code 2 (some .int)) rm_G_about (va_Pc [.ref h0, .int x1] (fg_P D [] [(h0, .inr (0, [.ref qt, .int 0, .ref qs, .int 0, .ref qc, .ref qh, .ref qf, .ref qe, .ref qm, .int 0, .int (-1), .int 0, .int 0, .int 0]))] sz)) (q_G_about D h0 qt qs qc qh qf qe qm x1 (va_A [(h0, .inr (0, [.ref qt, .int 0, .ref qs, .int 0, .ref qc, .ref qh, .ref qf, .ref qe, .ref qm, .int 0, .int (-1), .int 0, .int 0, .int 0]))] sz)) rm_G_about.cells rm_G_about.slots (va_A [(h0, .inr (0, [.ref qt, .int 0, .ref qs, .int 0, .ref qc, .ref qh, .ref qf, .ref qe, .ref qm, .int 0, .int (-1), .int 0, .int 0, .int 0]))] sz) := by
  refine fg_enter (fun A => q_G_about D h0 qt qs qc qh qf qe qm x1 A) (by decide +kernel) (Nat.le_of_ble_eq_true rfl) ?_
  intro p e s m below meth c ls A hx hb hml hown hts hr hlocks hin hP hK hD hS hA hX hl
  have hl : lv_has ls 2 [(0, .ref h0), (1, .int x1)] := hl
  refine lv_aload_n hx hb d_G_about_0 rfl (lv_at hl 0 rfl) ?_
  refine va_get (D := D) (ci := 0) (v := .int 0) (C := "FilterGuard") (T := F_G) (N := 14) hx hb hts i_G hown hK hP 0 rfl rfl 11 (by decide) (hts _ u_704) (fun _ h9 => h9) rfl d_G_about_1 ?_
  refine lv_if_ne (tgt := 9) hx hb d_G_about_4 (by decide) (fun c_1 => absurd (by decide) c_1) (fun c_1 => ?_)
  refine lv_iconst (v := (-1)) hx hb d_G_about_7 (by decide) ?_
  exact fg_reti () hx hb hr hlocks rfl (hP.sub (ws' := [(h0, .inr (0, [.ref qt, .int 0, .ref qs, .int 0, .ref qc, .ref qh, .ref qf, .ref qe, .ref qm, .int 0, .int (-1), .int 0, .int 0, .int 0]))]) [0] rfl) (hK.sub (tys' := []) [] rfl) (hD.sub (ws' := [(h0, .inr (0, [.ref qt, .int 0, .ref qs, .int 0, .ref qc, .ref qh, .ref qf, .ref qe, .ref qm, .int 0, .int (-1), .int 0, .int 0, .int 0]))]) [0] (by decide) rfl) hS (Nat.le_of_ble_eq_true rfl) (Nat.le_of_ble_eq_true rfl) d_G_about_8
abbrev y_G_fact : MethodName := ⟨"FilterGuard", "fact", "(II)J"⟩
theorem d_G_fact_0 : decode prog_1_method_7_code 0 = .ok (.iload_n 1, 1) := by decide +kernel
theorem d_G_fact_1 : decode prog_1_method_7_code 1 = .ok (.ifCond .lt 23, 3) := by decide +kernel
theorem d_G_fact_24 : decode prog_1_method_7_code 24 = .ok (.new 151, 3) := by decide +kernel
theorem o_1495 : Cond.stringRef "FilterGuard" 153 "no such slot or fact" ∈ lw_tbl := List.mem_of_getElem? (i := 1495) (by decide +kernel)
theorem d_G_fact_27 : decode prog_1_method_7_code 27 = .ok (.dup, 1) := by decide +kernel
theorem d_G_fact_28 : decode prog_1_method_7_code 28 = .ok (.ldc 153, 2) := by decide +kernel
theorem d_G_fact_30 : decode prog_1_method_7_code 30 = .ok (.invokespecial 155, 3) := by decide +kernel
theorem d_G_fact_33 : decode prog_1_method_7_code 33 = .ok (.athrow, 1) := by decide +kernel
theorem a_G_155 : ∀ w ∈ Bundle.ownAtoms "FilterGuard" 155 "java/lang/IndexOutOfBoundsException" fg_up, (w ∈ lw_tbl ∨ w = .isRef (.static Bundle.tN "UNASSIGNED_STACK" Bundle.steD) ∨ w = .isRef (.static Bundle.tN "SUPPRESSED_SENTINEL" Bundle.listD)) ∧ fg_exq w = true := by decide +kernel
theorem u_1486 : Cond.classLink "FilterGuard" 151 "java/lang/IndexOutOfBoundsException" ∈ fg_g := fg_in (List.mem_of_getElem? (i := 1486) (by decide +kernel)) rfl
theorem u_203 : Cond.initialized "java/lang/IndexOutOfBoundsException" ∈ fg_g := fg_in (List.mem_of_getElem? (i := 203) (by decide +kernel)) rfl
theorem d_G_fact_4 : decode prog_1_method_7_code 4 = .ok (.iload_n 1, 1) := by decide +kernel
theorem d_G_fact_5 : decode prog_1_method_7_code 5 = .ok (.aload_n 0, 1) := by decide +kernel
theorem d_G_fact_6 : decode prog_1_method_7_code 6 = .ok (.getfield 22, 3) := by decide +kernel
theorem d_G_fact_9 : decode prog_1_method_7_code 9 = .ok (.getfield 136, 3) := by decide +kernel
theorem u_227 : Cond.fieldLink "FilterGuard" 136 "FilterGuard$Code" "size" "I" ∈ fg_g := fg_in (List.mem_of_getElem? (i := 227) (by decide +kernel)) rfl
theorem d_G_fact_12 : decode prog_1_method_7_code 12 = .ok (.if_icmp .ge 12, 3) := by decide +kernel
def rm_G_fact : Room := { frames := 6, cells := 1, slots := 6, locals := 100 }
abbrev q_G_fact (D : va_G) (h0 : Nat) (qt : Nat) (qs : Nat) (qc : Nat) (qh : Nat) (qf : Nat) (qe : Nat) (qm : Nat) (c0 : Nat) (c1 : Nat) (c2 : Nat) (x1 : Int32) (x2 : Int32) (A : Nat → Prop) : Array Value → Jvm.State → Outcome → Jvm.State → Prop := fg_Qt "java/lang/IndexOutOfBoundsException" (fun (_ : Unit) => True) (fg_B D A (fun (_ : Unit) => [(h0, .inr (0, [.ref qt, .int 0, .ref qs, .int 0, .ref qc, .ref qh, .ref qf, .ref qe, .ref qm, .int 0, .int (-1), .int 0, .int 0, .int 0])), (qc, .inr (2, [.ref c0, .ref c1, .ref c2, .int 0, .int 0, .int 0, .int 0, .int 0, .int 0, .int 0, .int 0, .int 0, .int 0, .int 0, .int 0, .int 0]))]) (fun (_ : Unit) => [])) A
set_option maxHeartbeats 4000000 in
set_option maxRecDepth 100000 in
theorem c_G_fact (l : Launch) (D : va_G) (h0 : Nat) (qt : Nat) (qs : Nat) (qc : Nat) (qh : Nat) (qf : Nat) (qe : Nat) (qm : Nat) (c0 : Nat) (c1 : Nat) (c2 : Nat) (x1 : Int32) (x2 : Int32) (sz : Nat) (hl9 : l.stackTraces = false) : fg_MetT l y_G_fact (fg_w y_G_fact prog_1_method_7_code 3 (some .long)) rm_G_fact (va_Pc [.ref h0, .int x1, .int x2] (fg_PZ D [] [(h0, .inr (0, [.ref qt, .int 0, .ref qs, .int 0, .ref qc, .ref qh, .ref qf, .ref qe, .ref qm, .int 0, .int (-1), .int 0, .int 0, .int 0])), (qc, .inr (2, [.ref c0, .ref c1, .ref c2, .int 0, .int 0, .int 0, .int 0, .int 0, .int 0, .int 0, .int 0, .int 0, .int 0, .int 0, .int 0, .int 0]))] sz)) (q_G_fact D h0 qt qs qc qh qf qe qm c0 c1 c2 x1 x2 (va_A [(h0, .inr (0, [.ref qt, .int 0, .ref qs, .int 0, .ref qc, .ref qh, .ref qf, .ref qe, .ref qm, .int 0, .int (-1), .int 0, .int 0, .int 0])), (qc, .inr (2, [.ref c0, .ref c1, .ref c2, .int 0, .int 0, .int 0, .int 0, .int 0, .int 0, .int 0, .int 0, .int 0, .int 0, .int 0, .int 0, .int 0]))] sz)) rm_G_fact.cells rm_G_fact.slots (va_A [(h0, .inr (0, [.ref qt, .int 0, .ref qs, .int 0, .ref qc, .ref qh, .ref qf, .ref qe, .ref qm, .int 0, .int (-1), .int 0, .int 0, .int 0])), (qc, .inr (2, [.ref c0, .ref c1, .ref c2, .int 0, .int 0, .int 0, .int 0, .int 0, .int 0, .int 0, .int 0, .int 0, .int 0, .int 0, .int 0, .int 0]))] sz) := by
  refine fg_enterT (fun A => q_G_fact D h0 qt qs qc qh qf qe qm c0 c1 c2 x1 x2 A) (by decide +kernel) (Nat.le_of_ble_eq_true rfl) ?_
  intro p e s m below meth c ls A hx hb hml hown hts hr hlocks hin hP hK hD hS hA hX hl hno hz hy
  have hl : lv_has ls 3 [(0, .ref h0), (1, .int x1), (2, .int x2)] := hl
  refine lv_iload_n hx hb d_G_fact_0 rfl (lv_at hl 1 rfl) ?_
  refine lv_if_lt (tgt := 24) hx hb d_G_fact_1 (by decide) (fun c_1 => ?_) (fun c_1 => ?_)
  · obtain ⟨qs2, hqs2⟩ := hy.1 _ _ _ o_1495
    exact fg_throw (X := "java/lang/IndexOutOfBoundsException") (names := fg_up) () hl9 hx hb hno hlocks hown hts hX hz hqs2 (by decide +kernel) (by decide +kernel) a_G_155 u_1486 u_203 trivial (hP.sub (ws' := [(h0, .inr (0, [.ref qt, .int 0, .ref qs, .int 0, .ref qc, .ref qh, .ref qf, .ref qe, .ref qm, .int 0, .int (-1), .int 0, .int 0, .int 0])), (qc, .inr (2, [.ref c0, .ref c1, .ref c2, .int 0, .int 0, .int 0, .int 0, .int 0, .int 0, .int 0, .int 0, .int 0, .int 0, .int 0, .int 0, .int 0]))]) [0, 1] rfl) (hK.sub (tys' := []) [] rfl) (hD.sub (ws' := [(h0, .inr (0, [.ref qt, .int 0, .ref qs, .int 0, .ref qc, .ref qh, .ref qf, .ref qe, .ref qm, .int 0, .int (-1), .int 0, .int 0, .int 0])), (qc, .inr (2, [.ref c0, .ref c1, .ref c2, .int 0, .int 0, .int 0, .int 0, .int 0, .int 0, .int 0, .int 0, .int 0, .int 0, .int 0, .int 0, .int 0]))]) [0, 1] (by decide) rfl) hS (hl.1.trans hml.symm) (Nat.lt_of_lt_of_le (Nat.lt_succ_self 5) (Nat.le_of_ble_eq_true rfl)) (Nat.le_of_ble_eq_true rfl) (Nat.le_of_ble_eq_true rfl) (Nat.le_of_ble_eq_true rfl) (Nat.le_of_ble_eq_true rfl) (Nat.le_of_ble_eq_true rfl) d_G_fact_24 d_G_fact_27 d_G_fact_28 d_G_fact_30 d_G_fact_33
  · refine lv_iload_n hx hb d_G_fact_4 rfl (lv_at hl 1 rfl) ?_
    refine lv_aload_n hx hb d_G_fact_5 rfl (lv_at hl 0 rfl) ?_
    refine va_get (D := D) (ci := 0) (v := .ref qc) (C := "FilterGuard") (T := F_G) (N := 14) hx hb hts i_G hown hK hP 0 rfl rfl 4 (by decide) (hts _ u_697) (fun _ h9 => h9) rfl d_G_fact_6 ?_
    refine va_get (D := D) (ci := 2) (v := .int 0) (C := "FilterGuard$Code") (T := F_Code) (N := 16) hx hb hts i_Code hown hK hP 1 rfl rfl 3 (by decide) (hts _ u_227) (fun _ h9 => h9) rfl d_G_fact_9 ?_
    refine lv_icmp_ge (tgt := 24) hx hb d_G_fact_12 (by decide) (fun c_3 => ?_) (fun c_3 => absurd (Int32.not_lt.mp c_1) c_3)
    obtain ⟨qs4, hqs4⟩ := hy.1 _ _ _ o_1495
    exact fg_throw (X := "java/lang/IndexOutOfBoundsException") (names := fg_up) () hl9 hx hb hno hlocks hown hts hX hz hqs4 (by decide +kernel) (by decide +kernel) a_G_155 u_1486 u_203 trivial (hP.sub (ws' := [(h0, .inr (0, [.ref qt, .int 0, .ref qs, .int 0, .ref qc, .ref qh, .ref qf, .ref qe, .ref qm, .int 0, .int (-1), .int 0, .int 0, .int 0])), (qc, .inr (2, [.ref c0, .ref c1, .ref c2, .int 0, .int 0, .int 0, .int 0, .int 0, .int 0, .int 0, .int 0, .int 0, .int 0, .int 0, .int 0, .int 0]))]) [0, 1] rfl) (hK.sub (tys' := []) [] rfl) (hD.sub (ws' := [(h0, .inr (0, [.ref qt, .int 0, .ref qs, .int 0, .ref qc, .ref qh, .ref qf, .ref qe, .ref qm, .int 0, .int (-1), .int 0, .int 0, .int 0])), (qc, .inr (2, [.ref c0, .ref c1, .ref c2, .int 0, .int 0, .int 0, .int 0, .int 0, .int 0, .int 0, .int 0, .int 0, .int 0, .int 0, .int 0, .int 0]))]) [0, 1] (by decide) rfl) hS (hl.1.trans hml.symm) (Nat.lt_of_lt_of_le (Nat.lt_succ_self 5) (Nat.le_of_ble_eq_true rfl)) (Nat.le_of_ble_eq_true rfl) (Nat.le_of_ble_eq_true rfl) (Nat.le_of_ble_eq_true rfl) (Nat.le_of_ble_eq_true rfl) (Nat.le_of_ble_eq_true rfl) d_G_fact_24 d_G_fact_27 d_G_fact_28 d_G_fact_30 d_G_fact_33
abbrev y_G_code : MethodName := ⟨"FilterGuard", "code", "(IZ)J"⟩
theorem d_G_code_0 : decode prog_1_method_8_code 0 = .ok (.iload_n 2, 1) := by decide +kernel
theorem d_G_code_1 : decode prog_1_method_8_code 1 = .ok (.ifCond .eq 10, 3) := by decide +kernel
theorem d_G_code_11 : decode prog_1_method_8_code 11 = .ok (.aload_n 0, 1) := by decide +kernel
theorem d_G_code_12 : decode prog_1_method_8_code 12 = .ok (.getfield 22, 3) := by decide +kernel
theorem d_G_code_15 : decode prog_1_method_8_code 15 = .ok (.astore_n 3, 1) := by decide +kernel
theorem d_G_code_16 : decode prog_1_method_8_code 16 = .ok (.aload_n 0, 1) := by decide +kernel
theorem d_G_code_17 : decode prog_1_method_8_code 17 = .ok (.getfield 129, 3) := by decide +kernel
theorem u_705 : Cond.fieldLink "FilterGuard" 129 "FilterGuard" "isProgram" "Z" ∈ fg_g := fg_in (List.mem_of_getElem? (i := 705) (by decide +kernel)) rfl
theorem d_G_code_20 : decode prog_1_method_8_code 20 = .ok (.ifCond .eq 15, 3) := by decide +kernel
theorem d_G_code_35 : decode prog_1_method_8_code 35 = .ok (.new 151, 3) := by decide +kernel
theorem o_1513 : Cond.stringRef "FilterGuard" 160 "no such slot" ∈ lw_tbl := List.mem_of_getElem? (i := 1513) (by decide +kernel)
theorem d_G_code_38 : decode prog_1_method_8_code 38 = .ok (.dup, 1) := by decide +kernel
theorem d_G_code_39 : decode prog_1_method_8_code 39 = .ok (.ldc 160, 2) := by decide +kernel
theorem d_G_code_41 : decode prog_1_method_8_code 41 = .ok (.invokespecial 155, 3) := by decide +kernel
theorem d_G_code_44 : decode prog_1_method_8_code 44 = .ok (.athrow, 1) := by decide +kernel
theorem d_G_code_4 : decode prog_1_method_8_code 4 = .ok (.aload_n 0, 1) := by decide +kernel
theorem d_G_code_5 : decode prog_1_method_8_code 5 = .ok (.getfield 26, 3) := by decide +kernel
theorem d_G_code_8 : decode prog_1_method_8_code 8 = .ok (.goto 7, 3) := by decide +kernel
def rm_G_code : Room := { frames := 6, cells := 1, slots := 6, locals := 100 }
abbrev q_G_code (D : va_G) (h0 : Nat) (qt : Nat) (qs : Nat) (qc : Nat) (qh : Nat) (qf : Nat) (qe : Nat) (qm : Nat) (x1 : Int32) (x2 : Int32) (A : Nat → Prop) : Array Value → Jvm.State → Outcome → Jvm.State → Prop := fg_Qt "java/lang/IndexOutOfBoundsException" (fun (_ : Unit) => True) (fg_B D A (fun (_ : Unit) => [(h0, .inr (0, [.ref qt, .int 0, .ref qs, .int 0, .ref qc, .ref qh, .ref qf, .ref qe, .ref qm, .int 0, .int (-1), .int 0, .int 0, .int 0]))]) (fun (_ : Unit) => [])) A
set_option maxHeartbeats 4000000 in
set_option maxRecDepth 100000 in
theorem c_G_code (l : Launch) (D : va_G) (h0 : Nat) (qt : Nat) (qs : Nat) (qc : Nat) (qh : Nat) (qf : Nat) (qe : Nat) (qm : Nat) (x1 : Int32) (x2 : Int32) (sz : Nat) (hl9 : l.stackTraces = false) : fg_MetT l y_G_code (fg_w y_G_code prog_1_method_8_code 4 (some .long)) rm_G_code (va_Pc [.ref h0, .int x1, .int x2] (fg_PZ D [] [(h0, .inr (0, [.ref qt, .int 0, .ref qs, .int 0, .ref qc, .ref qh, .ref qf, .ref qe, .ref qm, .int 0, .int (-1), .int 0, .int 0, .int 0]))] sz)) (q_G_code D h0 qt qs qc qh qf qe qm x1 x2 (va_A [(h0, .inr (0, [.ref qt, .int 0, .ref qs, .int 0, .ref qc, .ref qh, .ref qf, .ref qe, .ref qm, .int 0, .int (-1), .int 0, .int 0, .int 0]))] sz)) rm_G_code.cells rm_G_code.slots (va_A [(h0, .inr (0, [.ref qt, .int 0, .ref qs, .int 0, .ref qc, .ref qh, .ref qf, .ref qe, .ref qm, .int 0, .int (-1), .int 0, .int 0, .int 0]))] sz) := by
  refine fg_enterT (fun A => q_G_code D h0 qt qs qc qh qf qe qm x1 x2 A) (by decide +kernel) (Nat.le_of_ble_eq_true rfl) ?_
  intro p e s m below meth c ls A hx hb hml hown hts hr hlocks hin hP hK hD hS hA hX hl hno hz hy
  have hl : lv_has ls 4 [(0, .ref h0), (1, .int x1), (2, .int x2)] := hl
  refine lv_iload_n hx hb d_G_code_0 rfl (lv_at hl 2 rfl) ?_
  refine lv_if_eq (tgt := 11) hx hb d_G_code_1 (by decide) (fun c_1 => ?_) (fun c_1 => ?_)
  · refine lv_aload_n hx hb d_G_code_11 rfl (lv_at hl 0 rfl) ?_
    refine va_get (D := D) (ci := 0) (v := .ref qc) (C := "FilterGuard") (T := F_G) (N := 14) hx hb hts i_G hown hK hP 0 rfl rfl 4 (by decide) (hts _ u_697) (fun _ h9 => h9) rfl d_G_code_12 ?_
    refine lv_astore_n (lv' := [(3, .ref qc), (0, .ref h0), (1, .int x1), (2, .int x2)]) hx hb d_G_code_15 rfl hl (by decide) rfl (fun ls hl => ?_)
    refine lv_aload_n hx hb d_G_code_16 rfl (lv_at hl 1 rfl) ?_
    refine va_get (D := D) (ci := 0) (v := .int 0) (C := "FilterGuard") (T := F_G) (N := 14) hx hb hts i_G hown hK hP 0 rfl rfl 12 (by decide) (hts _ u_705) (fun _ h9 => h9) rfl d_G_code_17 ?_
    refine lv_if_eq (tgt := 35) hx hb d_G_code_20 (by decide) (fun c_2 => ?_) (fun c_2 => absurd (by decide) c_2)
    obtain ⟨qs3, hqs3⟩ := hy.1 _ _ _ o_1513
    exact fg_throw (X := "java/lang/IndexOutOfBoundsException") (names := fg_up) () hl9 hx hb hno hlocks hown hts hX hz hqs3 (by decide +kernel) (by decide +kernel) a_G_155 u_1486 u_203 trivial (hP.sub (ws' := [(h0, .inr (0, [.ref qt, .int 0, .ref qs, .int 0, .ref qc, .ref qh, .ref qf, .ref qe, .ref qm, .int 0, .int (-1), .int 0, .int 0, .int 0]))]) [0] rfl) (hK.sub (tys' := []) [] rfl) (hD.sub (ws' := [(h0, .inr (0, [.ref qt, .int 0, .ref qs, .int 0, .ref qc, .ref qh, .ref qf, .ref qe, .ref qm, .int 0, .int (-1), .int 0, .int 0, .int 0]))]) [0] (by decide) rfl) hS (hl.1.trans hml.symm) (Nat.lt_of_lt_of_le (Nat.lt_succ_self 5) (Nat.le_of_ble_eq_true rfl)) (Nat.le_of_ble_eq_true rfl) (Nat.le_of_ble_eq_true rfl) (Nat.le_of_ble_eq_true rfl) (Nat.le_of_ble_eq_true rfl) (Nat.le_of_ble_eq_true rfl) d_G_code_35 d_G_code_38 d_G_code_39 d_G_code_41 d_G_code_44
  · refine lv_aload_n hx hb d_G_code_4 rfl (lv_at hl 0 rfl) ?_
    refine va_get (D := D) (ci := 0) (v := .ref qh) (C := "FilterGuard") (T := F_G) (N := 14) hx hb hts i_G hown hK hP 0 rfl rfl 5 (by decide) (hts _ u_698) (fun _ h9 => h9) rfl d_G_code_5 ?_
    refine lv_goto (tgt := 15) hx hb d_G_code_8 (by decide) ?_
    refine lv_astore_n (lv' := [(3, .ref qh), (0, .ref h0), (1, .int x1), (2, .int x2)]) hx hb d_G_code_15 rfl hl (by decide) rfl (fun ls hl => ?_)
    refine lv_aload_n hx hb d_G_code_16 rfl (lv_at hl 1 rfl) ?_
    refine va_get (D := D) (ci := 0) (v := .int 0) (C := "FilterGuard") (T := F_G) (N := 14) hx hb hts i_G hown hK hP 0 rfl rfl 12 (by decide) (hts _ u_705) (fun _ h9 => h9) rfl d_G_code_17 ?_
    refine lv_if_eq (tgt := 35) hx hb d_G_code_20 (by decide) (fun c_4 => ?_) (fun c_4 => absurd (by decide) c_4)
    obtain ⟨qs5, hqs5⟩ := hy.1 _ _ _ o_1513
    exact fg_throw (X := "java/lang/IndexOutOfBoundsException") (names := fg_up) () hl9 hx hb hno hlocks hown hts hX hz hqs5 (by decide +kernel) (by decide +kernel) a_G_155 u_1486 u_203 trivial (hP.sub (ws' := [(h0, .inr (0, [.ref qt, .int 0, .ref qs, .int 0, .ref qc, .ref qh, .ref qf, .ref qe, .ref qm, .int 0, .int (-1), .int 0, .int 0, .int 0]))]) [0] rfl) (hK.sub (tys' := []) [] rfl) (hD.sub (ws' := [(h0, .inr (0, [.ref qt, .int 0, .ref qs, .int 0, .ref qc, .ref qh, .ref qf, .ref qe, .ref qm, .int 0, .int (-1), .int 0, .int 0, .int 0]))]) [0] (by decide) rfl) hS (hl.1.trans hml.symm) (Nat.lt_of_lt_of_le (Nat.lt_succ_self 5) (Nat.le_of_ble_eq_true rfl)) (Nat.le_of_ble_eq_true rfl) (Nat.le_of_ble_eq_true rfl) (Nat.le_of_ble_eq_true rfl) (Nat.le_of_ble_eq_true rfl) (Nat.le_of_ble_eq_true rfl) d_G_code_35 d_G_code_38 d_G_code_39 d_G_code_41 d_G_code_44
abbrev y_G_put : MethodName := ⟨"FilterGuard", "put", "(I)I"⟩
theorem d_G_put_0 : decode prog_1_method_11_code 0 = .ok (.aload_n 0, 1) := by decide +kernel
theorem d_G_put_1 : decode prog_1_method_11_code 1 = .ok (.getfield 58, 3) := by decide +kernel
theorem u_694 : Cond.fieldLink "FilterGuard" 58 "FilterGuard" "tapeSize" "I" ∈ fg_g := fg_in (List.mem_of_getElem? (i := 694) (by decide +kernel)) rfl
theorem d_G_put_4 : decode prog_1_method_11_code 4 = .ok (.istore_n 2, 1) := by decide +kernel
theorem d_G_put_5 : decode prog_1_method_11_code 5 = .ok (.aload_n 0, 1) := by decide +kernel
theorem d_G_put_6 : decode prog_1_method_11_code 6 = .ok (.iconst 0, 1) := by decide +kernel
theorem d_G_put_7 : decode prog_1_method_11_code 7 = .ok (.putfield 58, 3) := by decide +kernel
theorem d_G_put_10 : decode prog_1_method_11_code 10 = .ok (.iload_n 1, 1) := by decide +kernel
theorem d_G_put_11 : decode prog_1_method_11_code 11 = .ok (.ifCond .lt 34, 3) := by decide +kernel
theorem d_G_put_45 : decode prog_1_method_11_code 45 = .ok (.new 78, 3) := by decide +kernel
theorem o_1521 : Cond.stringRef "FilterGuard" 179 "no such map, or too few bytes" ∈ lw_tbl := List.mem_of_getElem? (i := 1521) (by decide +kernel)
theorem d_G_put_48 : decode prog_1_method_11_code 48 = .ok (.dup, 1) := by decide +kernel
theorem d_G_put_49 : decode prog_1_method_11_code 49 = .ok (.ldc 179, 2) := by decide +kernel
theorem d_G_put_51 : decode prog_1_method_11_code 51 = .ok (.invokespecial 82, 3) := by decide +kernel
theorem d_G_put_54 : decode prog_1_method_11_code 54 = .ok (.athrow, 1) := by decide +kernel
theorem a_G_82 : ∀ w ∈ Bundle.ownAtoms "FilterGuard" 82 "java/lang/IllegalArgumentException" fg_up, (w ∈ lw_tbl ∨ w = .isRef (.static Bundle.tN "UNASSIGNED_STACK" Bundle.steD) ∨ w = .isRef (.static Bundle.tN "SUPPRESSED_SENTINEL" Bundle.listD)) ∧ fg_exq w = true := by decide +kernel
theorem u_812 : Cond.classLink "FilterGuard" 78 "java/lang/IllegalArgumentException" ∈ fg_g := fg_in (List.mem_of_getElem? (i := 812) (by decide +kernel)) rfl
theorem u_199 : Cond.initialized "java/lang/IllegalArgumentException" ∈ fg_g := fg_in (List.mem_of_getElem? (i := 199) (by decide +kernel)) rfl
theorem d_G_put_14 : decode prog_1_method_11_code 14 = .ok (.iload_n 1, 1) := by decide +kernel
theorem d_G_put_15 : decode prog_1_method_11_code 15 = .ok (.aload_n 0, 1) := by decide +kernel
theorem d_G_put_16 : decode prog_1_method_11_code 16 = .ok (.getfield 85, 3) := by decide +kernel
theorem u_696 : Cond.fieldLink "FilterGuard" 85 "FilterGuard" "maps" "I" ∈ fg_g := fg_in (List.mem_of_getElem? (i := 696) (by decide +kernel)) rfl
theorem d_G_put_19 : decode prog_1_method_11_code 19 = .ok (.if_icmp .ge 26, 3) := by decide +kernel
def rm_G_put : Room := { frames := 6, cells := 1, slots := 6, locals := 100 }
abbrev q_G_put (D : va_G) (h0 : Nat) (qt : Nat) (qs : Nat) (qc : Nat) (qh : Nat) (qf : Nat) (qe : Nat) (qm : Nat) (x1 : Int32) (A : Nat → Prop) : Array Value → Jvm.State → Outcome → Jvm.State → Prop := fg_Qt "java/lang/IllegalArgumentException" (fun (_ : Unit) => True) (fg_B D A (fun (_ : Unit) => [(h0, .inr (0, [.ref qt, .int 0, .ref qs, .int 0, .ref qc, .ref qh, .ref qf, .ref qe, .ref qm, .int 0, .int (-1), .int 0, .int 0, .int 0]))]) (fun (_ : Unit) => [])) A
set_option maxHeartbeats 4000000 in
set_option maxRecDepth 100000 in
theorem c_G_put (l : Launch) (D : va_G) (h0 : Nat) (qt : Nat) (qs : Nat) (qc : Nat) (qh : Nat) (qf : Nat) (qe : Nat) (qm : Nat) (x1 : Int32) (sz : Nat) (hl9 : l.stackTraces = false) : fg_MetT l y_G_put (fg_w y_G_put prog_1_method_11_code 3 (some .int)) rm_G_put (va_Pc [.ref h0, .int x1] (fg_PZ D [] [(h0, .inr (0, [.ref qt, .int 0, .ref qs, .int 0, .ref qc, .ref qh, .ref qf, .ref qe, .ref qm, .int 0, .int (-1), .int 0, .int 0, .int 0]))] sz)) (q_G_put D h0 qt qs qc qh qf qe qm x1 (va_A [(h0, .inr (0, [.ref qt, .int 0, .ref qs, .int 0, .ref qc, .ref qh, .ref qf, .ref qe, .ref qm, .int 0, .int (-1), .int 0, .int 0, .int 0]))] sz)) rm_G_put.cells rm_G_put.slots (va_A [(h0, .inr (0, [.ref qt, .int 0, .ref qs, .int 0, .ref qc, .ref qh, .ref qf, .ref qe, .ref qm, .int 0, .int (-1), .int 0, .int 0, .int 0]))] sz) := by
  refine fg_enterT (fun A => q_G_put D h0 qt qs qc qh qf qe qm x1 A) (by decide +kernel) (Nat.le_of_ble_eq_true rfl) ?_
  intro p e s m below meth c ls A hx hb hml hown hts hr hlocks hin hP hK hD hS hA hX hl hno hz hy
  have hl : lv_has ls 3 [(0, .ref h0), (1, .int x1)] := hl
  refine lv_aload_n hx hb d_G_put_0 rfl (lv_at hl 0 rfl) ?_
  refine va_get (D := D) (ci := 0) (v := .int 0) (C := "FilterGuard") (T := F_G) (N := 14) hx hb hts i_G hown hK hP 0 rfl rfl 1 (by decide) (hts _ u_694) (fun _ h9 => h9) rfl d_G_put_1 ?_
  refine lv_istore_n (lv' := [(2, .int 0), (0, .ref h0), (1, .int x1)]) hx hb d_G_put_4 rfl hl (by decide) rfl (fun ls hl => ?_)
  refine lv_aload_n hx hb d_G_put_5 rfl (lv_at hl 1 rfl) ?_
  refine lv_iconst (v := 0) hx hb d_G_put_6 (by decide) ?_
  refine va_put (D := D) (ci := 0) (v := .int 0) (ty := .int) (C := "FilterGuard") (T := F_G) (N := 14) hx hb hts i_G t_G t_G_ok n_G hown hK hP hD hS 0 rfl rfl 1 (by decide) (hts _ u_694) (fun _ h9 => h9) rfl (by decide +kernel) rfl rfl (Nat.le_of_ble_eq_true rfl) d_G_put_7 (fun H locs hP hD hS => ?_)
  have hP : va_P D classes [(h0, .inr (0, [.ref qt, .int 0, .ref qs, .int 0, .ref qc, .ref qh, .ref qf, .ref qe, .ref qm, .int 0, .int (-1), .int 0, .int 0, .int 0]))] H := hP
  have hD : va_D A [(h0, .inr (0, [.ref qt, .int 0, .ref qs, .int 0, .ref qc, .ref qh, .ref qf, .ref qe, .ref qm, .int 0, .int (-1), .int 0, .int 0, .int 0]))] := hD
  refine lv_iload_n hx hb d_G_put_10 rfl (lv_at hl 2 rfl) ?_
  refine lv_if_lt (tgt := 45) hx hb d_G_put_11 (by decide) (fun c_1 => ?_) (fun c_1 => ?_)
  · obtain ⟨qs2, hqs2⟩ := hy.1 _ _ _ o_1521
    exact fg_throw (X := "java/lang/IllegalArgumentException") (names := fg_up) () hl9 hx hb hno hlocks hown hts hX hz hqs2 (by decide +kernel) (by decide +kernel) a_G_82 u_812 u_199 trivial (hP.sub (ws' := [(h0, .inr (0, [.ref qt, .int 0, .ref qs, .int 0, .ref qc, .ref qh, .ref qf, .ref qe, .ref qm, .int 0, .int (-1), .int 0, .int 0, .int 0]))]) [0] rfl) (hK.sub (tys' := []) [] rfl) (hD.sub (ws' := [(h0, .inr (0, [.ref qt, .int 0, .ref qs, .int 0, .ref qc, .ref qh, .ref qf, .ref qe, .ref qm, .int 0, .int (-1), .int 0, .int 0, .int 0]))]) [0] (by decide) rfl) hS (hl.1.trans hml.symm) (Nat.lt_of_lt_of_le (Nat.lt_succ_self 5) (Nat.le_of_ble_eq_true rfl)) (Nat.le_of_ble_eq_true rfl) (Nat.le_of_ble_eq_true rfl) (Nat.le_of_ble_eq_true rfl) (Nat.le_of_ble_eq_true rfl) (Nat.le_of_ble_eq_true rfl) d_G_put_45 d_G_put_48 d_G_put_49 d_G_put_51 d_G_put_54
  · refine lv_iload_n hx hb d_G_put_14 rfl (lv_at hl 2 rfl) ?_
    refine lv_aload_n hx hb d_G_put_15 rfl (lv_at hl 1 rfl) ?_
    refine va_get (D := D) (ci := 0) (v := .int 0) (C := "FilterGuard") (T := F_G) (N := 14) hx hb hts i_G hown hK hP 0 rfl rfl 3 (by decide) (hts _ u_696) (fun _ h9 => h9) rfl d_G_put_16 ?_
    refine lv_icmp_ge (tgt := 45) hx hb d_G_put_19 (by decide) (fun c_3 => ?_) (fun c_3 => absurd (Int32.not_lt.mp c_1) c_3)
    obtain ⟨qs4, hqs4⟩ := hy.1 _ _ _ o_1521
    exact fg_throw (X := "java/lang/IllegalArgumentException") (names := fg_up) () hl9 hx hb hno hlocks hown hts hX hz hqs4 (by decide +kernel) (by decide +kernel) a_G_82 u_812 u_199 trivial (hP.sub (ws' := [(h0, .inr (0, [.ref qt, .int 0, .ref qs, .int 0, .ref qc, .ref qh, .ref qf, .ref qe, .ref qm, .int 0, .int (-1), .int 0, .int 0, .int 0]))]) [0] rfl) (hK.sub (tys' := []) [] rfl) (hD.sub (ws' := [(h0, .inr (0, [.ref qt, .int 0, .ref qs, .int 0, .ref qc, .ref qh, .ref qf, .ref qe, .ref qm, .int 0, .int (-1), .int 0, .int 0, .int 0]))]) [0] (by decide) rfl) hS (hl.1.trans hml.symm) (Nat.lt_of_lt_of_le (Nat.lt_succ_self 5) (Nat.le_of_ble_eq_true rfl)) (Nat.le_of_ble_eq_true rfl) (Nat.le_of_ble_eq_true rfl) (Nat.le_of_ble_eq_true rfl) (Nat.le_of_ble_eq_true rfl) (Nat.le_of_ble_eq_true rfl) d_G_put_45 d_G_put_48 d_G_put_49 d_G_put_51 d_G_put_54
abbrev y_G_entry : MethodName := ⟨"FilterGuard", "entry", "(III)I"⟩
theorem d_G_entry_0 : decode prog_1_method_12_code 0 = .ok (.iload_n 1, 1) := by decide +kernel
theorem d_G_entry_1 : decode prog_1_method_12_code 1 = .ok (.ifCond .lt 42, 3) := by decide +kernel
theorem d_G_entry_43 : decode prog_1_method_12_code 43 = .ok (.new 151, 3) := by decide +kernel
theorem o_1550 : Cond.stringRef "FilterGuard" 192 "no such entry or byte" ∈ lw_tbl := List.mem_of_getElem? (i := 1550) (by decide +kernel)
theorem d_G_entry_46 : decode prog_1_method_12_code 46 = .ok (.dup, 1) := by decide +kernel
theorem d_G_entry_47 : decode prog_1_method_12_code 47 = .ok (.ldc 192, 2) := by decide +kernel
theorem d_G_entry_49 : decode prog_1_method_12_code 49 = .ok (.invokespecial 155, 3) := by decide +kernel
theorem d_G_entry_52 : decode prog_1_method_12_code 52 = .ok (.athrow, 1) := by decide +kernel
theorem d_G_entry_4 : decode prog_1_method_12_code 4 = .ok (.iload_n 1, 1) := by decide +kernel
theorem d_G_entry_5 : decode prog_1_method_12_code 5 = .ok (.aload_n 0, 1) := by decide +kernel
theorem d_G_entry_6 : decode prog_1_method_12_code 6 = .ok (.getfield 85, 3) := by decide +kernel
theorem d_G_entry_9 : decode prog_1_method_12_code 9 = .ok (.if_icmp .ge 34, 3) := by decide +kernel
def rm_G_entry : Room := { frames := 6, cells := 1, slots := 6, locals := 100 }
abbrev q_G_entry (D : va_G) (h0 : Nat) (qt : Nat) (qs : Nat) (qc : Nat) (qh : Nat) (qf : Nat) (qe : Nat) (qm : Nat) (x1 : Int32) (x2 : Int32) (x3 : Int32) (A : Nat → Prop) : Array Value → Jvm.State → Outcome → Jvm.State → Prop := fg_Qt "java/lang/IndexOutOfBoundsException" (fun (_ : Unit) => True) (fg_B D A (fun (_ : Unit) => [(h0, .inr (0, [.ref qt, .int 0, .ref qs, .int 0, .ref qc, .ref qh, .ref qf, .ref qe, .ref qm, .int 0, .int (-1), .int 0, .int 0, .int 0]))]) (fun (_ : Unit) => [])) A
set_option maxHeartbeats 4000000 in
set_option maxRecDepth 100000 in
theorem c_G_entry (l : Launch) (D : va_G) (h0 : Nat) (qt : Nat) (qs : Nat) (qc : Nat) (qh : Nat) (qf : Nat) (qe : Nat) (qm : Nat) (x1 : Int32) (x2 : Int32) (x3 : Int32) (sz : Nat) (hl9 : l.stackTraces = false) : fg_MetT l y_G_entry (fg_w y_G_entry prog_1_method_12_code 4 (some .int)) rm_G_entry (va_Pc [.ref h0, .int x1, .int x2, .int x3] (fg_PZ D [] [(h0, .inr (0, [.ref qt, .int 0, .ref qs, .int 0, .ref qc, .ref qh, .ref qf, .ref qe, .ref qm, .int 0, .int (-1), .int 0, .int 0, .int 0]))] sz)) (q_G_entry D h0 qt qs qc qh qf qe qm x1 x2 x3 (va_A [(h0, .inr (0, [.ref qt, .int 0, .ref qs, .int 0, .ref qc, .ref qh, .ref qf, .ref qe, .ref qm, .int 0, .int (-1), .int 0, .int 0, .int 0]))] sz)) rm_G_entry.cells rm_G_entry.slots (va_A [(h0, .inr (0, [.ref qt, .int 0, .ref qs, .int 0, .ref qc, .ref qh, .ref qf, .ref qe, .ref qm, .int 0, .int (-1), .int 0, .int 0, .int 0]))] sz) := by
  refine fg_enterT (fun A => q_G_entry D h0 qt qs qc qh qf qe qm x1 x2 x3 A) (by decide +kernel) (Nat.le_of_ble_eq_true rfl) ?_
  intro p e s m below meth c ls A hx hb hml hown hts hr hlocks hin hP hK hD hS hA hX hl hno hz hy
  have hl : lv_has ls 4 [(0, .ref h0), (1, .int x1), (2, .int x2), (3, .int x3)] := hl
  refine lv_iload_n hx hb d_G_entry_0 rfl (lv_at hl 1 rfl) ?_
  refine lv_if_lt (tgt := 43) hx hb d_G_entry_1 (by decide) (fun c_1 => ?_) (fun c_1 => ?_)
  · obtain ⟨qs2, hqs2⟩ := hy.1 _ _ _ o_1550
    exact fg_throw (X := "java/lang/IndexOutOfBoundsException") (names := fg_up) () hl9 hx hb hno hlocks hown hts hX hz hqs2 (by decide +kernel) (by decide +kernel) a_G_155 u_1486 u_203 trivial (hP.sub (ws' := [(h0, .inr (0, [.ref qt, .int 0, .ref qs, .int 0, .ref qc, .ref qh, .ref qf, .ref qe, .ref qm, .int 0, .int (-1), .int 0, .int 0, .int 0]))]) [0] rfl) (hK.sub (tys' := []) [] rfl) (hD.sub (ws' := [(h0, .inr (0, [.ref qt, .int 0, .ref qs, .int 0, .ref qc, .ref qh, .ref qf, .ref qe, .ref qm, .int 0, .int (-1), .int 0, .int 0, .int 0]))]) [0] (by decide) rfl) hS (hl.1.trans hml.symm) (Nat.lt_of_lt_of_le (Nat.lt_succ_self 5) (Nat.le_of_ble_eq_true rfl)) (Nat.le_of_ble_eq_true rfl) (Nat.le_of_ble_eq_true rfl) (Nat.le_of_ble_eq_true rfl) (Nat.le_of_ble_eq_true rfl) (Nat.le_of_ble_eq_true rfl) d_G_entry_43 d_G_entry_46 d_G_entry_47 d_G_entry_49 d_G_entry_52
  · refine lv_iload_n hx hb d_G_entry_4 rfl (lv_at hl 1 rfl) ?_
    refine lv_aload_n hx hb d_G_entry_5 rfl (lv_at hl 0 rfl) ?_
    refine va_get (D := D) (ci := 0) (v := .int 0) (C := "FilterGuard") (T := F_G) (N := 14) hx hb hts i_G hown hK hP 0 rfl rfl 3 (by decide) (hts _ u_696) (fun _ h9 => h9) rfl d_G_entry_6 ?_
    refine lv_icmp_ge (tgt := 43) hx hb d_G_entry_9 (by decide) (fun c_3 => ?_) (fun c_3 => absurd (Int32.not_lt.mp c_1) c_3)
    obtain ⟨qs4, hqs4⟩ := hy.1 _ _ _ o_1550
    exact fg_throw (X := "java/lang/IndexOutOfBoundsException") (names := fg_up) () hl9 hx hb hno hlocks hown hts hX hz hqs4 (by decide +kernel) (by decide +kernel) a_G_155 u_1486 u_203 trivial (hP.sub (ws' := [(h0, .inr (0, [.ref qt, .int 0, .ref qs, .int 0, .ref qc, .ref qh, .ref qf, .ref qe, .ref qm, .int 0, .int (-1), .int 0, .int 0, .int 0]))]) [0] rfl) (hK.sub (tys' := []) [] rfl) (hD.sub (ws' := [(h0, .inr (0, [.ref qt, .int 0, .ref qs, .int 0, .ref qc, .ref qh, .ref qf, .ref qe, .ref qm, .int 0, .int (-1), .int 0, .int 0, .int 0]))]) [0] (by decide) rfl) hS (hl.1.trans hml.symm) (Nat.lt_of_lt_of_le (Nat.lt_succ_self 5) (Nat.le_of_ble_eq_true rfl)) (Nat.le_of_ble_eq_true rfl) (Nat.le_of_ble_eq_true rfl) (Nat.le_of_ble_eq_true rfl) (Nat.le_of_ble_eq_true rfl) (Nat.le_of_ble_eq_true rfl) d_G_entry_43 d_G_entry_46 d_G_entry_47 d_G_entry_49 d_G_entry_52
abbrev y_G_packetAt : MethodName := ⟨"FilterGuard", "packetAt", "(I)I"⟩
theorem d_G_packetAt_0 : decode prog_1_method_13_code 0 = .ok (.iload_n 1, 1) := by decide +kernel
theorem d_G_packetAt_1 : decode prog_1_method_13_code 1 = .ok (.ifCond .lt 14, 3) := by decide +kernel
theorem d_G_packetAt_15 : decode prog_1_method_13_code 15 = .ok (.new 151, 3) := by decide +kernel
theorem o_1562 : Cond.stringRef "FilterGuard" 200 "no such byte" ∈ lw_tbl := List.mem_of_getElem? (i := 1562) (by decide +kernel)
theorem d_G_packetAt_18 : decode prog_1_method_13_code 18 = .ok (.dup, 1) := by decide +kernel
theorem d_G_packetAt_19 : decode prog_1_method_13_code 19 = .ok (.ldc 200, 2) := by decide +kernel
theorem d_G_packetAt_21 : decode prog_1_method_13_code 21 = .ok (.invokespecial 155, 3) := by decide +kernel
theorem d_G_packetAt_24 : decode prog_1_method_13_code 24 = .ok (.athrow, 1) := by decide +kernel
theorem d_G_packetAt_4 : decode prog_1_method_13_code 4 = .ok (.iload_n 1, 1) := by decide +kernel
theorem d_G_packetAt_5 : decode prog_1_method_13_code 5 = .ok (.aload_n 0, 1) := by decide +kernel
theorem d_G_packetAt_6 : decode prog_1_method_13_code 6 = .ok (.getfield 50, 3) := by decide +kernel
theorem d_G_packetAt_9 : decode prog_1_method_13_code 9 = .ok (.getfield 197, 3) := by decide +kernel
theorem u_633 : Cond.fieldLink "FilterGuard" 197 "FilterGuard$Machine" "packetSize" "I" ∈ fg_g := fg_in (List.mem_of_getElem? (i := 633) (by decide +kernel)) rfl
theorem d_G_packetAt_12 : decode prog_1_method_13_code 12 = .ok (.if_icmp .lt 13, 3) := by decide +kernel
def rm_G_packetAt : Room := { frames := 6, cells := 1, slots := 6, locals := 100 }
abbrev q_G_packetAt (D : va_G) (h0 : Nat) (qt : Nat) (qs : Nat) (qc : Nat) (qh : Nat) (qf : Nat) (qe : Nat) (qm : Nat) (m0 : Nat) (m1 : Nat) (m2 : Nat) (m3 : Nat) (m4 : Nat) (m5 : Nat) (x1 : Int32) (A : Nat → Prop) : Array Value → Jvm.State → Outcome → Jvm.State → Prop := fg_Qt "java/lang/IndexOutOfBoundsException" (fun (_ : Unit) => True) (fg_B D A (fun (_ : Unit) => [(h0, .inr (0, [.ref qt, .int 0, .ref qs, .int 0, .ref qc, .ref qh, .ref qf, .ref qe, .ref qm, .int 0, .int (-1), .int 0, .int 0, .int 0])), (qm, .inr (5, [.ref qc, .ref qh, .ref qs, .ref m5, .ref m0, .ref m1, .ref m2, .ref m3, .int 0, .ref m4, .int 0, .long 0, .int 0, .int 0, .int 0, .int 0, .ref qc, .int 0, .ref m1, .int 0]))]) (fun (_ : Unit) => [])) A
set_option maxHeartbeats 4000000 in
set_option maxRecDepth 100000 in
theorem c_G_packetAt (l : Launch) (D : va_G) (h0 : Nat) (qt : Nat) (qs : Nat) (qc : Nat) (qh : Nat) (qf : Nat) (qe : Nat) (qm : Nat) (m0 : Nat) (m1 : Nat) (m2 : Nat) (m3 : Nat) (m4 : Nat) (m5 : Nat) (x1 : Int32) (sz : Nat) (hl9 : l.stackTraces = false) : fg_MetT l y_G_packetAt (fg_w y_G_packetAt prog_1_method_13_code 2 (some .int)) rm_G_packetAt (va_Pc [.ref h0, .int x1] (fg_PZ D [] [(h0, .inr (0, [.ref qt, .int 0, .ref qs, .int 0, .ref qc, .ref qh, .ref qf, .ref qe, .ref qm, .int 0, .int (-1), .int 0, .int 0, .int 0])), (qm, .inr (5, [.ref qc, .ref qh, .ref qs, .ref m5, .ref m0, .ref m1, .ref m2, .ref m3, .int 0, .ref m4, .int 0, .long 0, .int 0, .int 0, .int 0, .int 0, .ref qc, .int 0, .ref m1, .int 0]))] sz)) (q_G_packetAt D h0 qt qs qc qh qf qe qm m0 m1 m2 m3 m4 m5 x1 (va_A [(h0, .inr (0, [.ref qt, .int 0, .ref qs, .int 0, .ref qc, .ref qh, .ref qf, .ref qe, .ref qm, .int 0, .int (-1), .int 0, .int 0, .int 0])), (qm, .inr (5, [.ref qc, .ref qh, .ref qs, .ref m5, .ref m0, .ref m1, .ref m2, .ref m3, .int 0, .ref m4, .int 0, .long 0, .int 0, .int 0, .int 0, .int 0, .ref qc, .int 0, .ref m1, .int 0]))] sz)) rm_G_packetAt.cells rm_G_packetAt.slots (va_A [(h0, .inr (0, [.ref qt, .int 0, .ref qs, .int 0, .ref qc, .ref qh, .ref qf, .ref qe, .ref qm, .int 0, .int (-1), .int 0, .int 0, .int 0])), (qm, .inr (5, [.ref qc, .ref qh, .ref qs, .ref m5, .ref m0, .ref m1, .ref m2, .ref m3, .int 0, .ref m4, .int 0, .long 0, .int 0, .int 0, .int 0, .int 0, .ref qc, .int 0, .ref m1, .int 0]))] sz) := by
  refine fg_enterT (fun A => q_G_packetAt D h0 qt qs qc qh qf qe qm m0 m1 m2 m3 m4 m5 x1 A) (by decide +kernel) (Nat.le_of_ble_eq_true rfl) ?_
  intro p e s m below meth c ls A hx hb hml hown hts hr hlocks hin hP hK hD hS hA hX hl hno hz hy
  have hl : lv_has ls 2 [(0, .ref h0), (1, .int x1)] := hl
  refine lv_iload_n hx hb d_G_packetAt_0 rfl (lv_at hl 1 rfl) ?_
  refine lv_if_lt (tgt := 15) hx hb d_G_packetAt_1 (by decide) (fun c_1 => ?_) (fun c_1 => ?_)
  · obtain ⟨qs2, hqs2⟩ := hy.1 _ _ _ o_1562
    exact fg_throw (X := "java/lang/IndexOutOfBoundsException") (names := fg_up) () hl9 hx hb hno hlocks hown hts hX hz hqs2 (by decide +kernel) (by decide +kernel) a_G_155 u_1486 u_203 trivial (hP.sub (ws' := [(h0, .inr (0, [.ref qt, .int 0, .ref qs, .int 0, .ref qc, .ref qh, .ref qf, .ref qe, .ref qm, .int 0, .int (-1), .int 0, .int 0, .int 0])), (qm, .inr (5, [.ref qc, .ref qh, .ref qs, .ref m5, .ref m0, .ref m1, .ref m2, .ref m3, .int 0, .ref m4, .int 0, .long 0, .int 0, .int 0, .int 0, .int 0, .ref qc, .int 0, .ref m1, .int 0]))]) [0, 1] rfl) (hK.sub (tys' := []) [] rfl) (hD.sub (ws' := [(h0, .inr (0, [.ref qt, .int 0, .ref qs, .int 0, .ref qc, .ref qh, .ref qf, .ref qe, .ref qm, .int 0, .int (-1), .int 0, .int 0, .int 0])), (qm, .inr (5, [.ref qc, .ref qh, .ref qs, .ref m5, .ref m0, .ref m1, .ref m2, .ref m3, .int 0, .ref m4, .int 0, .long 0, .int 0, .int 0, .int 0, .int 0, .ref qc, .int 0, .ref m1, .int 0]))]) [0, 1] (by decide) rfl) hS (hl.1.trans hml.symm) (Nat.lt_of_lt_of_le (Nat.lt_succ_self 5) (Nat.le_of_ble_eq_true rfl)) (Nat.le_of_ble_eq_true rfl) (Nat.le_of_ble_eq_true rfl) (Nat.le_of_ble_eq_true rfl) (Nat.le_of_ble_eq_true rfl) (Nat.le_of_ble_eq_true rfl) d_G_packetAt_15 d_G_packetAt_18 d_G_packetAt_19 d_G_packetAt_21 d_G_packetAt_24
  · refine lv_iload_n hx hb d_G_packetAt_4 rfl (lv_at hl 1 rfl) ?_
    refine lv_aload_n hx hb d_G_packetAt_5 rfl (lv_at hl 0 rfl) ?_
    refine va_get (D := D) (ci := 0) (v := .ref qm) (C := "FilterGuard") (T := F_G) (N := 14) hx hb hts i_G hown hK hP 0 rfl rfl 8 (by decide) (hts _ u_701) (fun _ h9 => h9) rfl d_G_packetAt_6 ?_
    refine va_get (D := D) (ci := 5) (v := .int 0) (C := "FilterGuard$Machine") (T := F_Machine) (N := 20) hx hb hts i_Machine hown hK hP 1 rfl rfl 8 (by decide) (hts _ u_633) (fun _ h9 => h9) rfl d_G_packetAt_9 ?_
    refine lv_icmp_lt (tgt := 25) hx hb d_G_packetAt_12 (by decide) (fun c_3 => absurd c_3 c_1) (fun c_3 => ?_)
    obtain ⟨qs4, hqs4⟩ := hy.1 _ _ _ o_1562
    exact fg_throw (X := "java/lang/IndexOutOfBoundsException") (names := fg_up) () hl9 hx hb hno hlocks hown hts hX hz hqs4 (by decide +kernel) (by decide +kernel) a_G_155 u_1486 u_203 trivial (hP.sub (ws' := [(h0, .inr (0, [.ref qt, .int 0, .ref qs, .int 0, .ref qc, .ref qh, .ref qf, .ref qe, .ref qm, .int 0, .int (-1), .int 0, .int 0, .int 0])), (qm, .inr (5, [.ref qc, .ref qh, .ref qs, .ref m5, .ref m0, .ref m1, .ref m2, .ref m3, .int 0, .ref m4, .int 0, .long 0, .int 0, .int 0, .int 0, .int 0, .ref qc, .int 0, .ref m1, .int 0]))]) [0, 1] rfl) (hK.sub (tys' := []) [] rfl) (hD.sub (ws' := [(h0, .inr (0, [.ref qt, .int 0, .ref qs, .int 0, .ref qc, .ref qh, .ref qf, .ref qe, .ref qm, .int 0, .int (-1), .int 0, .int 0, .int 0])), (qm, .inr (5, [.ref qc, .ref qh, .ref qs, .ref m5, .ref m0, .ref m1, .ref m2, .ref m3, .int 0, .ref m4, .int 0, .long 0, .int 0, .int 0, .int 0, .int 0, .ref qc, .int 0, .ref m1, .int 0]))]) [0, 1] (by decide) rfl) hS (hl.1.trans hml.symm) (Nat.lt_of_lt_of_le (Nat.lt_succ_self 5) (Nat.le_of_ble_eq_true rfl)) (Nat.le_of_ble_eq_true rfl) (Nat.le_of_ble_eq_true rfl) (Nat.le_of_ble_eq_true rfl) (Nat.le_of_ble_eq_true rfl) (Nat.le_of_ble_eq_true rfl) d_G_packetAt_15 d_G_packetAt_18 d_G_packetAt_19 d_G_packetAt_21 d_G_packetAt_24
abbrev y_G_told : MethodName := ⟨"FilterGuard", "told", "(I)J"⟩
theorem d_G_told_0 : decode prog_1_method_17_code 0 = .ok (.iload_n 1, 1) := by decide +kernel
theorem d_G_told_1 : decode prog_1_method_17_code 1 = .ok (.ifCond .lt 14, 3) := by decide +kernel
theorem d_G_told_15 : decode prog_1_method_17_code 15 = .ok (.new 151, 3) := by decide +kernel
theorem o_1733 : Cond.stringRef "FilterGuard" 232 "not told" ∈ lw_tbl := List.mem_of_getElem? (i := 1733) (by decide +kernel)
theorem d_G_told_18 : decode prog_1_method_17_code 18 = .ok (.dup, 1) := by decide +kernel
theorem d_G_told_19 : decode prog_1_method_17_code 19 = .ok (.ldc 232, 2) := by decide +kernel
theorem d_G_told_21 : decode prog_1_method_17_code 21 = .ok (.invokespecial 155, 3) := by decide +kernel
theorem d_G_told_24 : decode prog_1_method_17_code 24 = .ok (.athrow, 1) := by decide +kernel
theorem d_G_told_4 : decode prog_1_method_17_code 4 = .ok (.iload_n 1, 1) := by decide +kernel
theorem d_G_told_5 : decode prog_1_method_17_code 5 = .ok (.aload_n 0, 1) := by decide +kernel
theorem d_G_told_6 : decode prog_1_method_17_code 6 = .ok (.getfield 50, 3) := by decide +kernel
theorem d_G_told_9 : decode prog_1_method_17_code 9 = .ok (.getfield 229, 3) := by decide +kernel
theorem u_637 : Cond.fieldLink "FilterGuard" 229 "FilterGuard$Machine" "toldCount" "I" ∈ fg_g := fg_in (List.mem_of_getElem? (i := 637) (by decide +kernel)) rfl
theorem d_G_told_12 : decode prog_1_method_17_code 12 = .ok (.if_icmp .lt 13, 3) := by decide +kernel
def rm_G_told : Room := { frames := 6, cells := 1, slots := 6, locals := 100 }
abbrev q_G_told (D : va_G) (h0 : Nat) (qt : Nat) (qs : Nat) (qc : Nat) (qh : Nat) (qf : Nat) (qe : Nat) (qm : Nat) (m0 : Nat) (m1 : Nat) (m2 : Nat) (m3 : Nat) (m4 : Nat) (m5 : Nat) (x1 : Int32) (A : Nat → Prop) : Array Value → Jvm.State → Outcome → Jvm.State → Prop := fg_Qt "java/lang/IndexOutOfBoundsException" (fun (_ : Unit) => True) (fg_B D A (fun (_ : Unit) => [(h0, .inr (0, [.ref qt, .int 0, .ref qs, .int 0, .ref qc, .ref qh, .ref qf, .ref qe, .ref qm, .int 0, .int (-1), .int 0, .int 0, .int 0])), (qm, .inr (5, [.ref qc, .ref qh, .ref qs, .ref m5, .ref m0, .ref m1, .ref m2, .ref m3, .int 0, .ref m4, .int 0, .long 0, .int 0, .int 0, .int 0, .int 0, .ref qc, .int 0, .ref m1, .int 0]))]) (fun (_ : Unit) => [])) A
set_option maxHeartbeats 4000000 in
set_option maxRecDepth 100000 in
theorem c_G_told (l : Launch) (D : va_G) (h0 : Nat) (qt : Nat) (qs : Nat) (qc : Nat) (qh : Nat) (qf : Nat) (qe : Nat) (qm : Nat) (m0 : Nat) (m1 : Nat) (m2 : Nat) (m3 : Nat) (m4 : Nat) (m5 : Nat) (x1 : Int32) (sz : Nat) (hl9 : l.stackTraces = false) : fg_MetT l y_G_told (fg_w y_G_told prog_1_method_17_code 2 (some .long)) rm_G_told (va_Pc [.ref h0, .int x1] (fg_PZ D [] [(h0, .inr (0, [.ref qt, .int 0, .ref qs, .int 0, .ref qc, .ref qh, .ref qf, .ref qe, .ref qm, .int 0, .int (-1), .int 0, .int 0, .int 0])), (qm, .inr (5, [.ref qc, .ref qh, .ref qs, .ref m5, .ref m0, .ref m1, .ref m2, .ref m3, .int 0, .ref m4, .int 0, .long 0, .int 0, .int 0, .int 0, .int 0, .ref qc, .int 0, .ref m1, .int 0]))] sz)) (q_G_told D h0 qt qs qc qh qf qe qm m0 m1 m2 m3 m4 m5 x1 (va_A [(h0, .inr (0, [.ref qt, .int 0, .ref qs, .int 0, .ref qc, .ref qh, .ref qf, .ref qe, .ref qm, .int 0, .int (-1), .int 0, .int 0, .int 0])), (qm, .inr (5, [.ref qc, .ref qh, .ref qs, .ref m5, .ref m0, .ref m1, .ref m2, .ref m3, .int 0, .ref m4, .int 0, .long 0, .int 0, .int 0, .int 0, .int 0, .ref qc, .int 0, .ref m1, .int 0]))] sz)) rm_G_told.cells rm_G_told.slots (va_A [(h0, .inr (0, [.ref qt, .int 0, .ref qs, .int 0, .ref qc, .ref qh, .ref qf, .ref qe, .ref qm, .int 0, .int (-1), .int 0, .int 0, .int 0])), (qm, .inr (5, [.ref qc, .ref qh, .ref qs, .ref m5, .ref m0, .ref m1, .ref m2, .ref m3, .int 0, .ref m4, .int 0, .long 0, .int 0, .int 0, .int 0, .int 0, .ref qc, .int 0, .ref m1, .int 0]))] sz) := by
  refine fg_enterT (fun A => q_G_told D h0 qt qs qc qh qf qe qm m0 m1 m2 m3 m4 m5 x1 A) (by decide +kernel) (Nat.le_of_ble_eq_true rfl) ?_
  intro p e s m below meth c ls A hx hb hml hown hts hr hlocks hin hP hK hD hS hA hX hl hno hz hy
  have hl : lv_has ls 2 [(0, .ref h0), (1, .int x1)] := hl
  refine lv_iload_n hx hb d_G_told_0 rfl (lv_at hl 1 rfl) ?_
  refine lv_if_lt (tgt := 15) hx hb d_G_told_1 (by decide) (fun c_1 => ?_) (fun c_1 => ?_)
  · obtain ⟨qs2, hqs2⟩ := hy.1 _ _ _ o_1733
    exact fg_throw (X := "java/lang/IndexOutOfBoundsException") (names := fg_up) () hl9 hx hb hno hlocks hown hts hX hz hqs2 (by decide +kernel) (by decide +kernel) a_G_155 u_1486 u_203 trivial (hP.sub (ws' := [(h0, .inr (0, [.ref qt, .int 0, .ref qs, .int 0, .ref qc, .ref qh, .ref qf, .ref qe, .ref qm, .int 0, .int (-1), .int 0, .int 0, .int 0])), (qm, .inr (5, [.ref qc, .ref qh, .ref qs, .ref m5, .ref m0, .ref m1, .ref m2, .ref m3, .int 0, .ref m4, .int 0, .long 0, .int 0, .int 0, .int 0, .int 0, .ref qc, .int 0, .ref m1, .int 0]))]) [0, 1] rfl) (hK.sub (tys' := []) [] rfl) (hD.sub (ws' := [(h0, .inr (0, [.ref qt, .int 0, .ref qs, .int 0, .ref qc, .ref qh, .ref qf, .ref qe, .ref qm, .int 0, .int (-1), .int 0, .int 0, .int 0])), (qm, .inr (5, [.ref qc, .ref qh, .ref qs, .ref m5, .ref m0, .ref m1, .ref m2, .ref m3, .int 0, .ref m4, .int 0, .long 0, .int 0, .int 0, .int 0, .int 0, .ref qc, .int 0, .ref m1, .int 0]))]) [0, 1] (by decide) rfl) hS (hl.1.trans hml.symm) (Nat.lt_of_lt_of_le (Nat.lt_succ_self 5) (Nat.le_of_ble_eq_true rfl)) (Nat.le_of_ble_eq_true rfl) (Nat.le_of_ble_eq_true rfl) (Nat.le_of_ble_eq_true rfl) (Nat.le_of_ble_eq_true rfl) (Nat.le_of_ble_eq_true rfl) d_G_told_15 d_G_told_18 d_G_told_19 d_G_told_21 d_G_told_24
  · refine lv_iload_n hx hb d_G_told_4 rfl (lv_at hl 1 rfl) ?_
    refine lv_aload_n hx hb d_G_told_5 rfl (lv_at hl 0 rfl) ?_
    refine va_get (D := D) (ci := 0) (v := .ref qm) (C := "FilterGuard") (T := F_G) (N := 14) hx hb hts i_G hown hK hP 0 rfl rfl 8 (by decide) (hts _ u_701) (fun _ h9 => h9) rfl d_G_told_6 ?_
    refine va_get (D := D) (ci := 5) (v := .int 0) (C := "FilterGuard$Machine") (T := F_Machine) (N := 20) hx hb hts i_Machine hown hK hP 1 rfl rfl 10 (by decide) (hts _ u_637) (fun _ h9 => h9) rfl d_G_told_9 ?_
    refine lv_icmp_lt (tgt := 25) hx hb d_G_told_12 (by decide) (fun c_3 => absurd c_3 c_1) (fun c_3 => ?_)
    obtain ⟨qs4, hqs4⟩ := hy.1 _ _ _ o_1733
    exact fg_throw (X := "java/lang/IndexOutOfBoundsException") (names := fg_up) () hl9 hx hb hno hlocks hown hts hX hz hqs4 (by decide +kernel) (by decide +kernel) a_G_155 u_1486 u_203 trivial (hP.sub (ws' := [(h0, .inr (0, [.ref qt, .int 0, .ref qs, .int 0, .ref qc, .ref qh, .ref qf, .ref qe, .ref qm, .int 0, .int (-1), .int 0, .int 0, .int 0])), (qm, .inr (5, [.ref qc, .ref qh, .ref qs, .ref m5, .ref m0, .ref m1, .ref m2, .ref m3, .int 0, .ref m4, .int 0, .long 0, .int 0, .int 0, .int 0, .int 0, .ref qc, .int 0, .ref m1, .int 0]))]) [0, 1] rfl) (hK.sub (tys' := []) [] rfl) (hD.sub (ws' := [(h0, .inr (0, [.ref qt, .int 0, .ref qs, .int 0, .ref qc, .ref qh, .ref qf, .ref qe, .ref qm, .int 0, .int (-1), .int 0, .int 0, .int 0])), (qm, .inr (5, [.ref qc, .ref qh, .ref qs, .ref m5, .ref m0, .ref m1, .ref m2, .ref m3, .int 0, .ref m4, .int 0, .long 0, .int 0, .int 0, .int 0, .int 0, .ref qc, .int 0, .ref m1, .int 0]))]) [0, 1] (by decide) rfl) hS (hl.1.trans hml.symm) (Nat.lt_of_lt_of_le (Nat.lt_succ_self 5) (Nat.le_of_ble_eq_true rfl)) (Nat.le_of_ble_eq_true rfl) (Nat.le_of_ble_eq_true rfl) (Nat.le_of_ble_eq_true rfl) (Nat.le_of_ble_eq_true rfl) (Nat.le_of_ble_eq_true rfl) d_G_told_15 d_G_told_18 d_G_told_19 d_G_told_21 d_G_told_24
abbrev y_G_program : MethodName := ⟨"FilterGuard", "program", "(II)I"⟩
theorem d_G_program_0 : decode prog_1_method_5_code 0 = .ok (.aload_n 0, 1) := by decide +kernel
theorem d_G_program_1 : decode prog_1_method_5_code 1 = .ok (.getfield 58, 3) := by decide +kernel
theorem d_G_program_4 : decode prog_1_method_5_code 4 = .ok (.istore_n 3, 1) := by decide +kernel
theorem d_G_program_5 : decode prog_1_method_5_code 5 = .ok (.aload_n 0, 1) := by decide +kernel
theorem d_G_program_6 : decode prog_1_method_5_code 6 = .ok (.iconst 0, 1) := by decide +kernel
theorem d_G_program_7 : decode prog_1_method_5_code 7 = .ok (.putfield 58, 3) := by decide +kernel
theorem d_G_program_10 : decode prog_1_method_5_code 10 = .ok (.iload_n 1, 1) := by decide +kernel
theorem d_G_program_11 : decode prog_1_method_5_code 11 = .ok (.iconst 1, 1) := by decide +kernel
theorem d_G_program_12 : decode prog_1_method_5_code 12 = .ok (.if_icmp .lt 30, 3) := by decide +kernel
theorem d_G_program_42 : decode prog_1_method_5_code 42 = .ok (.new 78, 3) := by decide +kernel
theorem o_940 : Cond.stringRef "FilterGuard" 100 "no such program or budget" ∈ lw_tbl := List.mem_of_getElem? (i := 940) (by decide +kernel)
theorem d_G_program_45 : decode prog_1_method_5_code 45 = .ok (.dup, 1) := by decide +kernel
theorem d_G_program_46 : decode prog_1_method_5_code 46 = .ok (.ldc 100, 2) := by decide +kernel
theorem d_G_program_48 : decode prog_1_method_5_code 48 = .ok (.invokespecial 82, 3) := by decide +kernel
theorem d_G_program_51 : decode prog_1_method_5_code 51 = .ok (.athrow, 1) := by decide +kernel
theorem d_G_program_15 : decode prog_1_method_5_code 15 = .ok (.iload_n 1, 1) := by decide +kernel
theorem d_G_program_16 : decode prog_1_method_5_code 16 = .ok (.sipush 2000, 3) := by decide +kernel
theorem d_G_program_19 : decode prog_1_method_5_code 19 = .ok (.if_icmp .gt 23, 3) := by decide +kernel
theorem d_G_program_22 : decode prog_1_method_5_code 22 = .ok (.bipush 8, 2) := by decide +kernel
theorem d_G_program_24 : decode prog_1_method_5_code 24 = .ok (.iload_n 1, 1) := by decide +kernel
theorem d_G_program_25 : decode prog_1_method_5_code 25 = .ok (.imul, 1) := by decide +kernel
theorem d_G_program_26 : decode prog_1_method_5_code 26 = .ok (.iload_n 3, 1) := by decide +kernel
theorem d_G_program_27 : decode prog_1_method_5_code 27 = .ok (.if_icmp .gt 15, 3) := by decide +kernel
def rm_G_program : Room := { frames := 6, cells := 1, slots := 6, locals := 100 }
abbrev q_G_program (D : va_G) (h0 : Nat) (qt : Nat) (qs : Nat) (qc : Nat) (qh : Nat) (qf : Nat) (qe : Nat) (qm : Nat) (x1 : Int32) (x2 : Int32) (A : Nat → Prop) : Array Value → Jvm.State → Outcome → Jvm.State → Prop := fg_Qt "java/lang/IllegalArgumentException" (fun (_ : Unit) => True) (fg_B D A (fun (_ : Unit) => [(h0, .inr (0, [.ref qt, .int 0, .ref qs, .int 0, .ref qc, .ref qh, .ref qf, .ref qe, .ref qm, .int 0, .int (-1), .int 0, .int 0, .int 0]))]) (fun (_ : Unit) => [])) A
set_option maxHeartbeats 4000000 in
set_option maxRecDepth 100000 in
theorem c_G_program (l : Launch) (D : va_G) (h0 : Nat) (qt : Nat) (qs : Nat) (qc : Nat) (qh : Nat) (qf : Nat) (qe : Nat) (qm : Nat) (x1 : Int32) (x2 : Int32) (sz : Nat) (hl9 : l.stackTraces = false) : fg_MetT l y_G_program (fg_w y_G_program prog_1_method_5_code 4 (some .int)) rm_G_program (va_Pc [.ref h0, .int x1, .int x2] (fg_PZ D [] [(h0, .inr (0, [.ref qt, .int 0, .ref qs, .int 0, .ref qc, .ref qh, .ref qf, .ref qe, .ref qm, .int 0, .int (-1), .int 0, .int 0, .int 0]))] sz)) (q_G_program D h0 qt qs qc qh qf qe qm x1 x2 (va_A [(h0, .inr (0, [.ref qt, .int 0, .ref qs, .int 0, .ref qc, .ref qh, .ref qf, .ref qe, .ref qm, .int 0, .int (-1), .int 0, .int 0, .int 0]))] sz)) rm_G_program.cells rm_G_program.slots (va_A [(h0, .inr (0, [.ref qt, .int 0, .ref qs, .int 0, .ref qc, .ref qh, .ref qf, .ref qe, .ref qm, .int 0, .int (-1), .int 0, .int 0, .int 0]))] sz) := by
  refine fg_enterT (fun A => q_G_program D h0 qt qs qc qh qf qe qm x1 x2 A) (by decide +kernel) (Nat.le_of_ble_eq_true rfl) ?_
  intro p e s m below meth c ls A hx hb hml hown hts hr hlocks hin hP hK hD hS hA hX hl hno hz hy
  have hl : lv_has ls 4 [(0, .ref h0), (1, .int x1), (2, .int x2)] := hl
  refine lv_aload_n hx hb d_G_program_0 rfl (lv_at hl 0 rfl) ?_
  refine va_get (D := D) (ci := 0) (v := .int 0) (C := "FilterGuard") (T := F_G) (N := 14) hx hb hts i_G hown hK hP 0 rfl rfl 1 (by decide) (hts _ u_694) (fun _ h9 => h9) rfl d_G_program_1 ?_
  refine lv_istore_n (lv' := [(3, .int 0), (0, .ref h0), (1, .int x1), (2, .int x2)]) hx hb d_G_program_4 rfl hl (by decide) rfl (fun ls hl => ?_)
  refine lv_aload_n hx hb d_G_program_5 rfl (lv_at hl 1 rfl) ?_
  refine lv_iconst (v := 0) hx hb d_G_program_6 (by decide) ?_
  refine va_put (D := D) (ci := 0) (v := .int 0) (ty := .int) (C := "FilterGuard") (T := F_G) (N := 14) hx hb hts i_G t_G t_G_ok n_G hown hK hP hD hS 0 rfl rfl 1 (by decide) (hts _ u_694) (fun _ h9 => h9) rfl (by decide +kernel) rfl rfl (Nat.le_of_ble_eq_true rfl) d_G_program_7 (fun H locs hP hD hS => ?_)
  have hP : va_P D classes [(h0, .inr (0, [.ref qt, .int 0, .ref qs, .int 0, .ref qc, .ref qh, .ref qf, .ref qe, .ref qm, .int 0, .int (-1), .int 0, .int 0, .int 0]))] H := hP
  have hD : va_D A [(h0, .inr (0, [.ref qt, .int 0, .ref qs, .int 0, .ref qc, .ref qh, .ref qf, .ref qe, .ref qm, .int 0, .int (-1), .int 0, .int 0, .int 0]))] := hD
  refine lv_iload_n hx hb d_G_program_10 rfl (lv_at hl 2 rfl) ?_
  refine lv_iconst (v := 1) hx hb d_G_program_11 (by decide) ?_
  refine lv_icmp_lt (tgt := 42) hx hb d_G_program_12 (by decide) (fun c_1 => ?_) (fun c_1 => ?_)
  · obtain ⟨qs2, hqs2⟩ := hy.1 _ _ _ o_940
    exact fg_throw (X := "java/lang/IllegalArgumentException") (names := fg_up) () hl9 hx hb hno hlocks hown hts hX hz hqs2 (by decide +kernel) (by decide +kernel) a_G_82 u_812 u_199 trivial (hP.sub (ws' := [(h0, .inr (0, [.ref qt, .int 0, .ref qs, .int 0, .ref qc, .ref qh, .ref qf, .ref qe, .ref qm, .int 0, .int (-1), .int 0, .int 0, .int 0]))]) [0] rfl) (hK.sub (tys' := []) [] rfl) (hD.sub (ws' := [(h0, .inr (0, [.ref qt, .int 0, .ref qs, .int 0, .ref qc, .ref qh, .ref qf, .ref qe, .ref qm, .int 0, .int (-1), .int 0, .int 0, .int 0]))]) [0] (by decide) rfl) hS (hl.1.trans hml.symm) (Nat.lt_of_lt_of_le (Nat.lt_succ_self 5) (Nat.le_of_ble_eq_true rfl)) (Nat.le_of_ble_eq_true rfl) (Nat.le_of_ble_eq_true rfl) (Nat.le_of_ble_eq_true rfl) (Nat.le_of_ble_eq_true rfl) (Nat.le_of_ble_eq_true rfl) d_G_program_42 d_G_program_45 d_G_program_46 d_G_program_48 d_G_program_51
  · refine lv_iload_n hx hb d_G_program_15 rfl (lv_at hl 2 rfl) ?_
    refine lv_sipush (v := 2000) hx hb d_G_program_16 (by decide) ?_
    refine lv_icmp_gt (tgt := 42) hx hb d_G_program_19 (by decide) (fun c_3 => ?_) (fun c_3 => ?_)
    · obtain ⟨qs4, hqs4⟩ := hy.1 _ _ _ o_940
      exact fg_throw (X := "java/lang/IllegalArgumentException") (names := fg_up) () hl9 hx hb hno hlocks hown hts hX hz hqs4 (by decide +kernel) (by decide +kernel) a_G_82 u_812 u_199 trivial (hP.sub (ws' := [(h0, .inr (0, [.ref qt, .int 0, .ref qs, .int 0, .ref qc, .ref qh, .ref qf, .ref qe, .ref qm, .int 0, .int (-1), .int 0, .int 0, .int 0]))]) [0] rfl) (hK.sub (tys' := []) [] rfl) (hD.sub (ws' := [(h0, .inr (0, [.ref qt, .int 0, .ref qs, .int 0, .ref qc, .ref qh, .ref qf, .ref qe, .ref qm, .int 0, .int (-1), .int 0, .int 0, .int 0]))]) [0] (by decide) rfl) hS (hl.1.trans hml.symm) (Nat.lt_of_lt_of_le (Nat.lt_succ_self 5) (Nat.le_of_ble_eq_true rfl)) (Nat.le_of_ble_eq_true rfl) (Nat.le_of_ble_eq_true rfl) (Nat.le_of_ble_eq_true rfl) (Nat.le_of_ble_eq_true rfl) (Nat.le_of_ble_eq_true rfl) d_G_program_42 d_G_program_45 d_G_program_46 d_G_program_48 d_G_program_51
    · refine lv_bipush (v := 8) hx hb d_G_program_22 (by decide) ?_
      refine lv_iload_n hx hb d_G_program_24 rfl (lv_at hl 2 rfl) ?_
      refine lv_imul hx hb d_G_program_25 ?_
      refine lv_iload_n hx hb d_G_program_26 rfl (lv_at hl 0 rfl) ?_
      refine lv_icmp_gt (tgt := 42) hx hb d_G_program_27 (by decide) (fun c_5 => ?_) (fun c_5 => absurd (fg_8n c_1 c_3) c_5)
      obtain ⟨qs6, hqs6⟩ := hy.1 _ _ _ o_940
      exact fg_throw (X := "java/lang/IllegalArgumentException") (names := fg_up) () hl9 hx hb hno hlocks hown hts hX hz hqs6 (by decide +kernel) (by decide +kernel) a_G_82 u_812 u_199 trivial (hP.sub (ws' := [(h0, .inr (0, [.ref qt, .int 0, .ref qs, .int 0, .ref qc, .ref qh, .ref qf, .ref qe, .ref qm, .int 0, .int (-1), .int 0, .int 0, .int 0]))]) [0] rfl) (hK.sub (tys' := []) [] rfl) (hD.sub (ws' := [(h0, .inr (0, [.ref qt, .int 0, .ref qs, .int 0, .ref qc, .ref qh, .ref qf, .ref qe, .ref qm, .int 0, .int (-1), .int 0, .int 0, .int 0]))]) [0] (by decide) rfl) hS (hl.1.trans hml.symm) (Nat.lt_of_lt_of_le (Nat.lt_succ_self 5) (Nat.le_of_ble_eq_true rfl)) (Nat.le_of_ble_eq_true rfl) (Nat.le_of_ble_eq_true rfl) (Nat.le_of_ble_eq_true rfl) (Nat.le_of_ble_eq_true rfl) (Nat.le_of_ble_eq_true rfl) d_G_program_42 d_G_program_45 d_G_program_46 d_G_program_48 d_G_program_51
abbrev y_G_run : MethodName := ⟨"FilterGuard", "run", "(I)J"⟩
theorem d_G_run_0 : decode prog_1_method_15_code 0 = .ok (.iload_n 1, 1) := by decide +kernel
theorem d_G_run_1 : decode prog_1_method_15_code 1 = .ok (.ifCond .lt 8, 3) := by decide +kernel
theorem d_G_run_9 : decode prog_1_method_15_code 9 = .ok (.new 78, 3) := by decide +kernel
theorem o_1570 : Cond.stringRef "FilterGuard" 209 "no such mode" ∈ lw_tbl := List.mem_of_getElem? (i := 1570) (by decide +kernel)
theorem d_G_run_12 : decode prog_1_method_15_code 12 = .ok (.dup, 1) := by decide +kernel
theorem d_G_run_13 : decode prog_1_method_15_code 13 = .ok (.ldc 209, 2) := by decide +kernel
theorem d_G_run_15 : decode prog_1_method_15_code 15 = .ok (.invokespecial 82, 3) := by decide +kernel
theorem d_G_run_18 : decode prog_1_method_15_code 18 = .ok (.athrow, 1) := by decide +kernel
theorem d_G_run_4 : decode prog_1_method_15_code 4 = .ok (.iload_n 1, 1) := by decide +kernel
theorem d_G_run_5 : decode prog_1_method_15_code 5 = .ok (.iconst 2, 1) := by decide +kernel
theorem d_G_run_6 : decode prog_1_method_15_code 6 = .ok (.if_icmp .le 13, 3) := by decide +kernel
def rm_G_runA : Room := { frames := 6, cells := 1, slots := 6, locals := 100 }
abbrev q_G_runA (D : va_G) (h0 : Nat) (qt : Nat) (qs : Nat) (qc : Nat) (qh : Nat) (qf : Nat) (qe : Nat) (qm : Nat) (x1 : Int32) (A : Nat → Prop) : Array Value → Jvm.State → Outcome → Jvm.State → Prop := fg_Qt "java/lang/IllegalArgumentException" (fun (_ : Unit) => True) (fg_B D A (fun (_ : Unit) => [(h0, .inr (0, [.ref qt, .int 0, .ref qs, .int 0, .ref qc, .ref qh, .ref qf, .ref qe, .ref qm, .int 0, .int (-1), .int 0, .int 0, .int 0]))]) (fun (_ : Unit) => [])) A
set_option maxHeartbeats 4000000 in
set_option maxRecDepth 100000 in
theorem c_G_runA (l : Launch) (D : va_G) (h0 : Nat) (qt : Nat) (qs : Nat) (qc : Nat) (qh : Nat) (qf : Nat) (qe : Nat) (qm : Nat) (x1 : Int32) (sz : Nat) (hl9 : l.stackTraces = false) (hbad : x1 < 0 ∨ 2 < x1) : fg_MetT l y_G_run (fg_w y_G_run prog_1_method_15_code 2 (some .long)) rm_G_runA (va_Pc [.ref h0, .int x1] (fg_PZ D [] [(h0, .inr (0, [.ref qt, .int 0, .ref qs, .int 0, .ref qc, .ref qh, .ref qf, .ref qe, .ref qm, .int 0, .int (-1), .int 0, .int 0, .int 0]))] sz)) (q_G_runA D h0 qt qs qc qh qf qe qm x1 (va_A [(h0, .inr (0, [.ref qt, .int 0, .ref qs, .int 0, .ref qc, .ref qh, .ref qf, .ref qe, .ref qm, .int 0, .int (-1), .int 0, .int 0, .int 0]))] sz)) rm_G_runA.cells rm_G_runA.slots (va_A [(h0, .inr (0, [.ref qt, .int 0, .ref qs, .int 0, .ref qc, .ref qh, .ref qf, .ref qe, .ref qm, .int 0, .int (-1), .int 0, .int 0, .int 0]))] sz) := by
  refine fg_enterT (fun A => q_G_runA D h0 qt qs qc qh qf qe qm x1 A) (by decide +kernel) (Nat.le_of_ble_eq_true rfl) ?_
  intro p e s m below meth c ls A hx hb hml hown hts hr hlocks hin hP hK hD hS hA hX hl hno hz hy
  have hl : lv_has ls 2 [(0, .ref h0), (1, .int x1)] := hl
  refine lv_iload_n hx hb d_G_run_0 rfl (lv_at hl 1 rfl) ?_
  refine lv_if_lt (tgt := 9) hx hb d_G_run_1 (by decide) (fun c_1 => ?_) (fun c_1 => ?_)
  · obtain ⟨qs2, hqs2⟩ := hy.1 _ _ _ o_1570
    exact fg_throw (X := "java/lang/IllegalArgumentException") (names := fg_up) () hl9 hx hb hno hlocks hown hts hX hz hqs2 (by decide +kernel) (by decide +kernel) a_G_82 u_812 u_199 trivial (hP.sub (ws' := [(h0, .inr (0, [.ref qt, .int 0, .ref qs, .int 0, .ref qc, .ref qh, .ref qf, .ref qe, .ref qm, .int 0, .int (-1), .int 0, .int 0, .int 0]))]) [0] rfl) (hK.sub (tys' := []) [] rfl) (hD.sub (ws' := [(h0, .inr (0, [.ref qt, .int 0, .ref qs, .int 0, .ref qc, .ref qh, .ref qf, .ref qe, .ref qm, .int 0, .int (-1), .int 0, .int 0, .int 0]))]) [0] (by decide) rfl) hS (hl.1.trans hml.symm) (Nat.lt_of_lt_of_le (Nat.lt_succ_self 5) (Nat.le_of_ble_eq_true rfl)) (Nat.le_of_ble_eq_true rfl) (Nat.le_of_ble_eq_true rfl) (Nat.le_of_ble_eq_true rfl) (Nat.le_of_ble_eq_true rfl) (Nat.le_of_ble_eq_true rfl) d_G_run_9 d_G_run_12 d_G_run_13 d_G_run_15 d_G_run_18
  · refine lv_iload_n hx hb d_G_run_4 rfl (lv_at hl 1 rfl) ?_
    refine lv_iconst (v := 2) hx hb d_G_run_5 (by decide) ?_
    refine lv_icmp_le (tgt := 19) hx hb d_G_run_6 (by decide) (fun c_3 => ?_) (fun c_3 => ?_)
    · exact hbad.elim (fun h => absurd h c_1) (fun h => absurd h (Int32.not_lt.mpr c_3))
    · obtain ⟨qs4, hqs4⟩ := hy.1 _ _ _ o_1570
      exact fg_throw (X := "java/lang/IllegalArgumentException") (names := fg_up) () hl9 hx hb hno hlocks hown hts hX hz hqs4 (by decide +kernel) (by decide +kernel) a_G_82 u_812 u_199 trivial (hP.sub (ws' := [(h0, .inr (0, [.ref qt, .int 0, .ref qs, .int 0, .ref qc, .ref qh, .ref qf, .ref qe, .ref qm, .int 0, .int (-1), .int 0, .int 0, .int 0]))]) [0] rfl) (hK.sub (tys' := []) [] rfl) (hD.sub (ws' := [(h0, .inr (0, [.ref qt, .int 0, .ref qs, .int 0, .ref qc, .ref qh, .ref qf, .ref qe, .ref qm, .int 0, .int (-1), .int 0, .int 0, .int 0]))]) [0] (by decide) rfl) hS (hl.1.trans hml.symm) (Nat.lt_of_lt_of_le (Nat.lt_succ_self 5) (Nat.le_of_ble_eq_true rfl)) (Nat.le_of_ble_eq_true rfl) (Nat.le_of_ble_eq_true rfl) (Nat.le_of_ble_eq_true rfl) (Nat.le_of_ble_eq_true rfl) (Nat.le_of_ble_eq_true rfl) d_G_run_9 d_G_run_12 d_G_run_13 d_G_run_15 d_G_run_18
theorem d_G_run_19 : decode prog_1_method_15_code 19 = .ok (.aload_n 0, 1) := by decide +kernel
theorem d_G_run_20 : decode prog_1_method_15_code 20 = .ok (.getfield 129, 3) := by decide +kernel
theorem d_G_run_23 : decode prog_1_method_15_code 23 = .ok (.ifCond .ne 13, 3) := by decide +kernel
theorem d_G_run_26 : decode prog_1_method_15_code 26 = .ok (.new 92, 3) := by decide +kernel
theorem o_1571 : Cond.stringRef "FilterGuard" 211 "no program" ∈ lw_tbl := List.mem_of_getElem? (i := 1571) (by decide +kernel)
theorem d_G_run_29 : decode prog_1_method_15_code 29 = .ok (.dup, 1) := by decide +kernel
theorem d_G_run_30 : decode prog_1_method_15_code 30 = .ok (.ldc 211, 2) := by decide +kernel
theorem d_G_run_32 : decode prog_1_method_15_code 32 = .ok (.invokespecial 96, 3) := by decide +kernel
theorem d_G_run_35 : decode prog_1_method_15_code 35 = .ok (.athrow, 1) := by decide +kernel
theorem a_G_96 : ∀ w ∈ Bundle.ownAtoms "FilterGuard" 96 "java/lang/IllegalStateException" fg_up, (w ∈ lw_tbl ∨ w = .isRef (.static Bundle.tN "UNASSIGNED_STACK" Bundle.steD) ∨ w = .isRef (.static Bundle.tN "SUPPRESSED_SENTINEL" Bundle.listD)) ∧ fg_exq w = true := by decide +kernel
theorem u_879 : Cond.classLink "FilterGuard" 92 "java/lang/IllegalStateException" ∈ fg_g := fg_in (List.mem_of_getElem? (i := 879) (by decide +kernel)) rfl
theorem u_200 : Cond.initialized "java/lang/IllegalStateException" ∈ fg_g := fg_in (List.mem_of_getElem? (i := 200) (by decide +kernel)) rfl
def rm_G_runS : Room := { frames := 6, cells := 1, slots := 6, locals := 100 }
abbrev q_G_runS (D : va_G) (h0 : Nat) (qt : Nat) (qs : Nat) (qc : Nat) (qh : Nat) (qf : Nat) (qe : Nat) (qm : Nat) (x1 : Int32) (A : Nat → Prop) : Array Value → Jvm.State → Outcome → Jvm.State → Prop := fg_Qt "java/lang/IllegalStateException" (fun (_ : Unit) => True) (fg_B D A (fun (_ : Unit) => [(h0, .inr (0, [.ref qt, .int 0, .ref qs, .int 0, .ref qc, .ref qh, .ref qf, .ref qe, .ref qm, .int 0, .int (-1), .int 0, .int 0, .int 0]))]) (fun (_ : Unit) => [])) A
set_option maxHeartbeats 4000000 in
set_option maxRecDepth 100000 in
theorem c_G_runS (l : Launch) (D : va_G) (h0 : Nat) (qt : Nat) (qs : Nat) (qc : Nat) (qh : Nat) (qf : Nat) (qe : Nat) (qm : Nat) (x1 : Int32) (sz : Nat) (hl9 : l.stackTraces = false) (hok : ¬ x1 < 0 ∧ ¬ 2 < x1) : fg_MetT l y_G_run (fg_w y_G_run prog_1_method_15_code 2 (some .long)) rm_G_runS (va_Pc [.ref h0, .int x1] (fg_PZ D [] [(h0, .inr (0, [.ref qt, .int 0, .ref qs, .int 0, .ref qc, .ref qh, .ref qf, .ref qe, .ref qm, .int 0, .int (-1), .int 0, .int 0, .int 0]))] sz)) (q_G_runS D h0 qt qs qc qh qf qe qm x1 (va_A [(h0, .inr (0, [.ref qt, .int 0, .ref qs, .int 0, .ref qc, .ref qh, .ref qf, .ref qe, .ref qm, .int 0, .int (-1), .int 0, .int 0, .int 0]))] sz)) rm_G_runS.cells rm_G_runS.slots (va_A [(h0, .inr (0, [.ref qt, .int 0, .ref qs, .int 0, .ref qc, .ref qh, .ref qf, .ref qe, .ref qm, .int 0, .int (-1), .int 0, .int 0, .int 0]))] sz) := by
  refine fg_enterT (fun A => q_G_runS D h0 qt qs qc qh qf qe qm x1 A) (by decide +kernel) (Nat.le_of_ble_eq_true rfl) ?_
  intro p e s m below meth c ls A hx hb hml hown hts hr hlocks hin hP hK hD hS hA hX hl hno hz hy
  have hl : lv_has ls 2 [(0, .ref h0), (1, .int x1)] := hl
  refine lv_iload_n hx hb d_G_run_0 rfl (lv_at hl 1 rfl) ?_
  refine lv_if_lt (tgt := 9) hx hb d_G_run_1 (by decide) (fun c_1 => ?_) (fun c_1 => ?_)
  · exact absurd hok (by rintro ⟨h, k⟩; exact h c_1)
  · refine lv_iload_n hx hb d_G_run_4 rfl (lv_at hl 1 rfl) ?_
    refine lv_iconst (v := 2) hx hb d_G_run_5 (by decide) ?_
    refine lv_icmp_le (tgt := 19) hx hb d_G_run_6 (by decide) (fun c_2 => ?_) (fun c_2 => ?_)
    · refine lv_aload_n hx hb d_G_run_19 rfl (lv_at hl 0 rfl) ?_
      refine va_get (D := D) (ci := 0) (v := .int 0) (C := "FilterGuard") (T := F_G) (N := 14) hx hb hts i_G hown hK hP 0 rfl rfl 12 (by decide) (hts _ u_705) (fun _ h9 => h9) rfl d_G_run_20 ?_
      refine lv_if_ne (tgt := 36) hx hb d_G_run_23 (by decide) (fun c_3 => absurd (by decide) c_3) (fun c_3 => ?_)
      obtain ⟨qs4, hqs4⟩ := hy.1 _ _ _ o_1571
      exact fg_throw (X := "java/lang/IllegalStateException") (names := fg_up) () hl9 hx hb hno hlocks hown hts hX hz hqs4 (by decide +kernel) (by decide +kernel) a_G_96 u_879 u_200 trivial (hP.sub (ws' := [(h0, .inr (0, [.ref qt, .int 0, .ref qs, .int 0, .ref qc, .ref qh, .ref qf, .ref qe, .ref qm, .int 0, .int (-1), .int 0, .int 0, .int 0]))]) [0] rfl) (hK.sub (tys' := []) [] rfl) (hD.sub (ws' := [(h0, .inr (0, [.ref qt, .int 0, .ref qs, .int 0, .ref qc, .ref qh, .ref qf, .ref qe, .ref qm, .int 0, .int (-1), .int 0, .int 0, .int 0]))]) [0] (by decide) rfl) hS (hl.1.trans hml.symm) (Nat.lt_of_lt_of_le (Nat.lt_succ_self 5) (Nat.le_of_ble_eq_true rfl)) (Nat.le_of_ble_eq_true rfl) (Nat.le_of_ble_eq_true rfl) (Nat.le_of_ble_eq_true rfl) (Nat.le_of_ble_eq_true rfl) (Nat.le_of_ble_eq_true rfl) d_G_run_26 d_G_run_29 d_G_run_30 d_G_run_32 d_G_run_35
    · exact absurd hok (by rintro ⟨h, k⟩; exact absurd (Int32.not_le.mp c_2) k)
