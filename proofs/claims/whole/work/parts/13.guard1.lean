abbrev y_G_about : MethodName := ⟨"FilterGuard", "about", "(I)I"⟩
theorem d_G_about_0 : decode prog_1_method_6_code 0 = .ok (.aload_n 0, 1) := by decide +kernel
theorem d_G_about_1 : decode prog_1_method_6_code 1 = .ok (.getfield 111, 3) := by decide +kernel
theorem u_704 : Cond.fieldLink "FilterGuard" 111 "FilterGuard" "isLoaded" "Z" ∈ fg_g := fg_in (List.mem_of_getElem? (i := 704) (by decide +kernel)) rfl
theorem d_G_about_4 : decode prog_1_method_6_code 4 = .ok (.ifCond .ne 5, 3) := by decide +kernel
theorem d_G_about_7 : decode prog_1_method_6_code 7 = .ok (.iconst (-1), 1) := by decide +kernel
theorem d_G_about_8 : decode prog_1_method_6_code 8 = .ok (.ireturn, 1) := by decide +kernel
def rm_G_about : Room := { frames := 1, cells := 0, slots := 0, locals := 20 }
abbrev q_G_about (D : va_G) (h0 : Nat) (qt : Nat) (qs : Nat) (qc : Nat) (qh : Nat) (qf : Nat) (qe : Nat) (qm : Nat) (x1 : Int32) (A : Nat → Prop) : Array Value → Jvm.State → Outcome → Jvm.State → Prop := va_Qi (fun (r : Int32) (_ : Unit) => r = -1) (fg_B D A (fun (_ : Unit) => [(h0, .inr (0, [.ref qt, .int 0, .ref qs, .int 0, .ref qc, .ref qh, .ref qf, .ref qe, .ref qm, .int 0, .int (-1), .int 0, .int 0, .int 0]))]) (fun (_ : Unit) => [])) A
set_option maxHeartbeats 4000000 in
set_option maxRecDepth 100000 in
theorem c_G_about (l : Launch) (D : va_G) (h0 : Nat) (qt : Nat) (qs : Nat) (qc : Nat) (qh : Nat) (qf : Nat) (qe : Nat) (qm : Nat) (x1 : Int32) (sz : Nat) : Met l y_G_about (fg_w y_G_about prog_1_method_6_code 2 (some .int)) rm_G_about (va_Pc [.ref h0, .int x1] (fg_P D [] [(h0, .inr (0, [.ref qt, .int 0, .ref qs, .int 0, .ref qc, .ref qh, .ref qf, .ref qe, .ref qm, .int 0, .int (-1), .int 0, .int 0, .int 0]))] sz)) (q_G_about D h0 qt qs qc qh qf qe qm x1 (va_A [(h0, .inr (0, [.ref qt, .int 0, .ref qs, .int 0, .ref qc, .ref qh, .ref qf, .ref qe, .ref qm, .int 0, .int (-1), .int 0, .int 0, .int 0]))] sz)) rm_G_about.cells rm_G_about.slots (va_A [(h0, .inr (0, [.ref qt, .int 0, .ref qs, .int 0, .ref qc, .ref qh, .ref qf, .ref qe, .ref qm, .int 0, .int (-1), .int 0, .int 0, .int 0]))] sz) := by
  refine fg_enter (fun A => q_G_about D h0 qt qs qc qh qf qe qm x1 A) (by decide +kernel) (Nat.le_of_ble_eq_true rfl) ?_
  intro p e s m below meth c ls A hx hb hml hown hts hr hlocks hin hP hK hD hS hA hX hl
  have hl : lv_has ls 2 [(0, .ref h0), (1, .int x1)] := hl
  refine lv_aload_n hx hb d_G_about_0 rfl (lv_at hl 0 rfl) ?_
  refine va_get (D := D) (ci := 0) (v := .int 0) (C := "FilterGuard") (T := F_G) (N := 14) hx hb hts i_G hown hK hP 0 rfl rfl 11 (by decide) (hts _ u_704) (fun _ h9 => h9) rfl d_G_about_1 ?_
  refine lv_if_ne (tgt := 9) hx hb d_G_about_4 (by decide) (fun c_1 => absurd c_1 (by decide)) (fun c_1 => ?_)
  refine lv_iconst (v := (-1)) hx hb d_G_about_7 (by decide) ?_
  exact fg_reti () hx hb hr hlocks rfl (hP.sub (ws' := [(h0, .inr (0, [.ref qt, .int 0, .ref qs, .int 0, .ref qc, .ref qh, .ref qf, .ref qe, .ref qm, .int 0, .int (-1), .int 0, .int 0, .int 0]))]) [0] rfl) (hK.sub (tys' := []) [] rfl) (hD.sub (ws' := [(h0, .inr (0, [.ref qt, .int 0, .ref qs, .int 0, .ref qc, .ref qh, .ref qf, .ref qe, .ref qm, .int 0, .int (-1), .int 0, .int 0, .int 0]))]) [0] (by decide) rfl) hS (Nat.le_of_ble_eq_true rfl) (Nat.le_of_ble_eq_true rfl) d_G_about_8
abbrev y_G_fact : MethodName := ⟨"FilterGuard", "fact", "(II)J"⟩
theorem d_G_fact_0 : decode prog_1_method_7_code 0 = .ok (.iload_n 1, 1) := by decide +kernel
theorem d_G_fact_1 : decode prog_1_method_7_code 1 = .ok (.ifCond .lt 23, 3) := by decide +kernel
theorem d_G_fact_24 : decode prog_1_method_7_code 24 = .ok (.new 151, 3) := by decide +kernel
theorem o_1495 : Cond.stringRef "FilterGuard" 153 "no such slot or fact" ∈ lw_tbl := List.mem_of_getElem? (i := 1495) (by decide +kernel)
theorem d_G_fact_27 : decode prog_1_method_7_code 27 = .ok (.dup, 1) := by decide +kernel
theorem d_G_fact_28 : decode prog_1_method_7_code 28 = .ok (.ldc 153, 2) := by decide +kernel
theorem d_G_fact_30 : decode prog_1_method_7_code 30 = .ok (.invokespecial 155, 3) := by decide +kernel
theorem d_G_fact_33 : decode prog_1_method_7_code 33 = .ok (.athrow, 1) := by decide +kernel
theorem a_G_155 : ∀ w ∈ Bundle.ownAtoms "FilterGuard" 155 "java/lang/IndexOutOfBoundsException" fg_up, (w ∈ lw_tbl ∨ w = .isRef (.static Bundle.tN "UNASSIGNED_STACK" Bundle.steD) ∨ w = .isRef (.static Bundle.tN "SUPPRESSED_SENTINEL" Bundle.listD)) ∧ fg_exq w = true := by decide +kernel
theorem u_1486 : Cond.classLink "FilterGuard" 151 "java/lang/IndexOutOfBoundsException" ∈ fg_g := fg_in (List.mem_of_getElem? (i := 1486) (by decide +kernel)) rfl
theorem u_203 : Cond.initialized "java/lang/IndexOutOfBoundsException" ∈ fg_g := fg_in (List.mem_of_getElem? (i := 203) (by decide +kernel)) rfl
theorem d_G_fact_4 : decode prog_1_method_7_code 4 = .ok (.iload_n 1, 1) := by decide +kernel
theorem d_G_fact_5 : decode prog_1_method_7_code 5 = .ok (.aload_n 0, 1) := by decide +kernel
theorem d_G_fact_6 : decode prog_1_method_7_code 6 = .ok (.getfield 22, 3) := by decide +kernel
theorem d_G_fact_9 : decode prog_1_method_7_code 9 = .ok (.getfield 136, 3) := by decide +kernel
theorem u_227 : Cond.fieldLink "FilterGuard" 136 "FilterGuard$Code" "size" "I" ∈ fg_g := fg_in (List.mem_of_getElem? (i := 227) (by decide +kernel)) rfl
theorem d_G_fact_12 : decode prog_1_method_7_code 12 = .ok (.if_icmp .ge 12, 3) := by decide +kernel
def rm_G_fact : Room := { frames := 6, cells := 1, slots := 6, locals := 100 }
abbrev q_G_fact (D : va_G) (h0 : Nat) (qt : Nat) (qs : Nat) (qc : Nat) (qh : Nat) (qf : Nat) (qe : Nat) (qm : Nat) (c0 : Nat) (c1 : Nat) (c2 : Nat) (x1 : Int32) (x2 : Int32) (A : Nat → Prop) : Array Value → Jvm.State → Outcome → Jvm.State → Prop := fg_Qt "java/lang/IndexOutOfBoundsException" (fun (_ : Unit) => True) (fg_B D A (fun (_ : Unit) => []) (fun (_ : Unit) => [])) A
set_option maxHeartbeats 4000000 in
set_option maxRecDepth 100000 in
theorem c_G_fact (l : Launch) (D : va_G) (h0 : Nat) (qt : Nat) (qs : Nat) (qc : Nat) (qh : Nat) (qf : Nat) (qe : Nat) (qm : Nat) (c0 : Nat) (c1 : Nat) (c2 : Nat) (x1 : Int32) (x2 : Int32) (sz : Nat) (hl9 : l.stackTraces = false) : fg_MetT l y_G_fact (fg_w y_G_fact prog_1_method_7_code 3 (some .long)) rm_G_fact (va_Pc [.ref h0, .int x1, .int x2] (fg_PZ D [] [(h0, .inr (0, [.ref qt, .int 0, .ref qs, .int 0, .ref qc, .ref qh, .ref qf, .ref qe, .ref qm, .int 0, .int (-1), .int 0, .int 0, .int 0])), (qc, .inr (2, [.ref c0, .ref c1, .ref c2, .int 0, .int 0, .int 0, .int 0, .int 0, .int 0, .int 0, .int 0, .int 0, .int 0, .int 0, .int 0, .int 0]))] sz)) (q_G_fact D h0 qt qs qc qh qf qe qm c0 c1 c2 x1 x2 (va_A [(h0, .inr (0, [.ref qt, .int 0, .ref qs, .int 0, .ref qc, .ref qh, .ref qf, .ref qe, .ref qm, .int 0, .int (-1), .int 0, .int 0, .int 0])), (qc, .inr (2, [.ref c0, .ref c1, .ref c2, .int 0, .int 0, .int 0, .int 0, .int 0, .int 0, .int 0, .int 0, .int 0, .int 0, .int 0, .int 0, .int 0]))] sz)) rm_G_fact.cells rm_G_fact.slots (va_A [(h0, .inr (0, [.ref qt, .int 0, .ref qs, .int 0, .ref qc, .ref qh, .ref qf, .ref qe, .ref qm, .int 0, .int (-1), .int 0, .int 0, .int 0])), (qc, .inr (2, [.ref c0, .ref c1, .ref c2, .int 0, .int 0, .int 0, .int 0, .int 0, .int 0, .int 0, .int 0, .int 0, .int 0, .int 0, .int 0, .int 0]))] sz) := by
  refine fg_enterT (fun A => q_G_fact D h0 qt qs qc qh qf qe qm c0 c1 c2 x1 x2 A) (by decide +kernel) (Nat.le_of_ble_eq_true rfl) ?_
  intro p e s m below meth c ls A hx hb hml hown hts hr hlocks hin hP hK hD hS hA hX hl hno hz hy
  have hl : lv_has ls 3 [(0, .ref h0), (1, .int x1), (2, .int x2)] := hl
  refine lv_iload_n hx hb d_G_fact_0 rfl (lv_at hl 1 rfl) ?_
  refine lv_if_lt (tgt := 24) hx hb d_G_fact_1 (by decide) (fun c_1 => ?_) (fun c_1 => ?_)
  · obtain ⟨qs2, hqs2⟩ := hy.1 _ _ _ o_1495
    exact fg_throw (X := "java/lang/IndexOutOfBoundsException") (names := fg_up) () hl9 hx hb hno hlocks hown hts hX hz hqs2 (by decide +kernel) (by decide +kernel) a_G_155 u_1486 u_203 trivial (hP.sub (ws' := []) [] rfl) (hK.sub (tys' := []) [] rfl) (hD.sub (ws' := []) [] (by decide) rfl) hS (hl.1.trans hml.symm) (Nat.lt_of_lt_of_le (Nat.lt_succ_self 5) (Nat.le_of_ble_eq_true rfl)) (Nat.le_of_ble_eq_true rfl) (Nat.le_of_ble_eq_true rfl) (Nat.le_of_ble_eq_true rfl) (Nat.le_of_ble_eq_true rfl) (Nat.le_of_ble_eq_true rfl) d_G_fact_24 d_G_fact_27 d_G_fact_28 d_G_fact_30 d_G_fact_33
  · refine lv_iload_n hx hb d_G_fact_4 rfl (lv_at hl 1 rfl) ?_
    refine lv_aload_n hx hb d_G_fact_5 rfl (lv_at hl 0 rfl) ?_
    refine va_get (D := D) (ci := 0) (v := .ref qc) (C := "FilterGuard") (T := F_G) (N := 14) hx hb hts i_G hown hK hP 0 rfl rfl 4 (by decide) (hts _ u_697) (fun _ h9 => h9) rfl d_G_fact_6 ?_
    refine va_get (D := D) (ci := 2) (v := .int 0) (C := "FilterGuard$Code") (T := F_Code) (N := 16) hx hb hts i_Code hown hK hP 1 rfl rfl 3 (by decide) (hts _ u_227) (fun _ h9 => h9) rfl d_G_fact_9 ?_
    refine lv_icmp_ge (tgt := 24) hx hb d_G_fact_12 (by decide) (fun c_3 => ?_) (fun c_3 => absurd (Int32.not_lt.mp c_1) c_3)
    obtain ⟨qs4, hqs4⟩ := hy.1 _ _ _ o_1495
    exact fg_throw (X := "java/lang/IndexOutOfBoundsException") (names := fg_up) () hl9 hx hb hno hlocks hown hts hX hz hqs4 (by decide +kernel) (by decide +kernel) a_G_155 u_1486 u_203 trivial (hP.sub (ws' := []) [] rfl) (hK.sub (tys' := []) [] rfl) (hD.sub (ws' := []) [] (by decide) rfl) hS (hl.1.trans hml.symm) (Nat.lt_of_lt_of_le (Nat.lt_succ_self 5) (Nat.le_of_ble_eq_true rfl)) (Nat.le_of_ble_eq_true rfl) (Nat.le_of_ble_eq_true rfl) (Nat.le_of_ble_eq_true rfl) (Nat.le_of_ble_eq_true rfl) (Nat.le_of_ble_eq_true rfl) d_G_fact_24 d_G_fact_27 d_G_fact_28 d_G_fact_30 d_G_fact_33
