abbrev y_Law_program : MethodName := ⟨"FilterGuardLaw", "program", "(LFilterGuard;II[J)I"⟩
theorem d_Law_program_0 : decode method_4_code 0 = .ok (.aload_n 3, 1) := by decide +kernel
theorem d_Law_program_1 : decode method_4_code 1 = .ok (.iconst 0, 1) := by decide +kernel
theorem d_Law_program_2 : decode method_4_code 2 = .ok (.aload_n 0, 1) := by decide +kernel
theorem d_Law_program_3 : decode method_4_code 3 = .ok (.iload_n 1, 1) := by decide +kernel
theorem d_Law_program_4 : decode method_4_code 4 = .ok (.iload_n 2, 1) := by decide +kernel
theorem d_Law_program_5 : decode method_4_code 5 = .ok (.invokevirtual 17, 3) := by decide +kernel
theorem u_806 : Cond.classLink "FilterGuardLaw" 13 "java/lang/IllegalArgumentException" ∈ fg_g := fg_in (List.mem_of_getElem? (i := 806) (by decide +kernel)) rfl
theorem u_936 : Cond.methodLink "FilterGuardLaw" 17 ⟨"FilterGuard", "program", "(II)I"⟩ ∈ fg_g := fg_in (List.mem_of_getElem? (i := 936) (by decide +kernel)) rfl
theorem u_939 : Cond.code ⟨"FilterGuard", "program", "(II)I"⟩ prog_1_method_5_code 4 (some .int) ∈ fg_g := fg_in (List.mem_of_getElem? (i := 939) (by decide +kernel)) rfl
theorem u_937 : Cond.instanceMethod ⟨"FilterGuard", "program", "(II)I"⟩ ∈ fg_g := fg_in (List.mem_of_getElem? (i := 937) (by decide +kernel)) rfl
theorem u_938 : Cond.selects "FilterGuard" ⟨"FilterGuard", "program", "(II)I"⟩ ⟨"FilterGuard", "program", "(II)I"⟩ ∈ fg_g := fg_in (List.mem_of_getElem? (i := 938) (by decide +kernel)) rfl
theorem d_Law_program_13 : decode method_4_code 13 = .ok (.astore 4, 2) := by decide +kernel
theorem d_Law_program_15 : decode method_4_code 15 = .ok (.iconst 1, 1) := by decide +kernel
theorem d_Law_program_16 : decode method_4_code 16 = .ok (.ireturn, 1) := by decide +kernel
def rm_L_program : Room := { frames := 7, cells := 1, slots := 6, locals := 140 }
abbrev q_L_program (D : va_G) (h0 : Nat) (qt : Nat) (qs : Nat) (qc : Nat) (qh : Nat) (qf : Nat) (qe : Nat) (qm : Nat) (x1 : Int32) (x2 : Int32) (qo : Nat) (A : Nat → Prop) : Array Value → Jvm.State → Outcome → Jvm.State → Prop := va_Qi (fun (r : Int32) (_ : Unit) => r = 1) (fg_B D A (fun (_ : Unit) => [(h0, .inr (0, [.ref qt, .int 0, .ref qs, .int 0, .ref qc, .ref qh, .ref qf, .ref qe, .ref qm, .int 0, .int (-1), .int 0, .int 0, .int 0]))]) (fun (_ : Unit) => [])) A
set_option maxHeartbeats 4000000 in
set_option maxRecDepth 100000 in
theorem c_L_program (l : Launch) (D : va_G) (h0 : Nat) (qt : Nat) (qs : Nat) (qc : Nat) (qh : Nat) (qf : Nat) (qe : Nat) (qm : Nat) (x1 : Int32) (x2 : Int32) (qo : Nat) (sz : Nat) (hl9 : l.stackTraces = false) : Met l y_Law_program (fg_wh y_Law_program method_4_code 5 (some .int) [(0, 10, 13, 13)]) rm_L_program (va_Pc [.ref h0, .int x1, .int x2, .ref qo] (fg_PZ D [] [(h0, .inr (0, [.ref qt, .int 0, .ref qs, .int 0, .ref qc, .ref qh, .ref qf, .ref qe, .ref qm, .int 0, .int (-1), .int 0, .int 0, .int 0]))] sz)) (q_L_program D h0 qt qs qc qh qf qe qm x1 x2 qo (va_A [(h0, .inr (0, [.ref qt, .int 0, .ref qs, .int 0, .ref qc, .ref qh, .ref qf, .ref qe, .ref qm, .int 0, .int (-1), .int 0, .int 0, .int 0]))] sz)) rm_L_program.cells rm_L_program.slots (va_A [(h0, .inr (0, [.ref qt, .int 0, .ref qs, .int 0, .ref qc, .ref qh, .ref qf, .ref qe, .ref qm, .int 0, .int (-1), .int 0, .int 0, .int 0]))] sz) := by
  refine fg_enterH (fun A => q_L_program D h0 qt qs qc qh qf qe qm x1 x2 qo A) (by decide +kernel) (Nat.le_of_ble_eq_true rfl) ?_
  intro p e s m below meth c ls A hx hb hml hown hts hr hlocks hin hP hK hD hS hA hX hl htab hz hy
  have hl : lv_has ls 5 [(0, .ref h0), (1, .int x1), (2, .int x2), (3, .ref qo)] := hl
  refine lv_aload_n hx hb d_Law_program_0 rfl (lv_at hl 3 rfl) ?_
  refine lv_iconst (v := 0) hx hb d_Law_program_1 (by decide) ?_
  refine lv_aload_n hx hb d_Law_program_2 rfl (lv_at hl 0 rfl) ?_
  refine lv_iload_n hx hb d_Law_program_3 rfl (lv_at hl 1 rfl) ?_
  refine lv_iload_n hx hb d_Law_program_4 rfl (lv_at hl 2 rfl) ?_
  refine fg_thenT (own := "FilterGuardLaw") (wr := []) (fg_runVT (C := "FilterGuard") (As := [.int x1, .int x2]) (rest := [.int 0, .ref qo]) (ci := 0) (q0 := 0) ⟨hx, hb, hml, hown, hts⟩ (c_G_program l D h0 qt qs qc qh qf qe qm x1 x2 s.heap.size hl9) rfl (by show fg_nm y_G_program 2; decide +kernel) u_936 u_937 u_938 u_181 u_939 ⟨Nat.le_of_ble_eq_true rfl, Nat.le_of_ble_eq_true rfl⟩ hX (hP.sub (ws' := [(h0, .inr (0, [.ref qt, .int 0, .ref qs, .int 0, .ref qc, .ref qh, .ref qf, .ref qe, .ref qm, .int 0, .int (-1), .int 0, .int 0, .int 0]))]) [0] rfl) (hK.sub (tys' := []) [] rfl) (hD.sub (ws' := [(h0, .inr (0, [.ref qt, .int 0, .ref qs, .int 0, .ref qc, .ref qh, .ref qf, .ref qe, .ref qm, .int 0, .int (-1), .int 0, .int 0, .int 0]))]) [0] (by decide) rfl) ((hz.kept hS.2.1).narrow (va_free hD hS hA [0] rfl)) hy rfl rfl rfl rfl hl.1 (Nat.le_of_ble_eq_true rfl) d_Law_program_5 ⟨(Nat.le_of_ble_eq_true rfl), (Nat.le_of_ble_eq_true rfl)⟩) hP hD hK hS hA [0] [] rfl rfl (by decide) (by decide) hown hts [(0, 10, 13, 13)] htab 0 13 (fun y hm => absurd hm (by simp)) ⟨0, 10, 13, rfl, by decide, by decide, by decide, u_806⟩ (fun x5_1 u H locs hw5_0 hP hD hK hS => ?_)
  try dsimp only at hw5_0
  have hP : va_P D classes [(h0, .inr (0, [.ref qt, .int 0, .ref qs, .int 0, .ref qc, .ref qh, .ref qf, .ref qe, .ref qm, .int 0, .int (-1), .int 0, .int 0, .int 0]))] H := hP
  have hD : va_D A [(h0, .inr (0, [.ref qt, .int 0, .ref qs, .int 0, .ref qc, .ref qh, .ref qf, .ref qe, .ref qm, .int 0, .int (-1), .int 0, .int 0, .int 0]))] := hD
  have hK : va_K D classes [] s := hK
  refine W.widen (k := 1) (n := 6) (Nat.le_of_ble_eq_true rfl) (Nat.le_of_ble_eq_true rfl) ?_
  refine lv_astore (lv' := [(4, .ref x5_1), (0, .ref h0), (1, .int x1), (2, .int x2), (3, .ref qo)]) hx hb d_Law_program_13 hl (by decide) rfl (fun ls hl => ?_)
  refine lv_iconst (v := 1) hx hb d_Law_program_15 (by decide) ?_
  exact fg_reti () hx hb hr hlocks rfl (hP.sub (ws' := [(h0, .inr (0, [.ref qt, .int 0, .ref qs, .int 0, .ref qc, .ref qh, .ref qf, .ref qe, .ref qm, .int 0, .int (-1), .int 0, .int 0, .int 0]))]) [0] rfl) (hK.sub (tys' := []) [] rfl) (hD.sub (ws' := [(h0, .inr (0, [.ref qt, .int 0, .ref qs, .int 0, .ref qc, .ref qh, .ref qf, .ref qe, .ref qm, .int 0, .int (-1), .int 0, .int 0, .int 0]))]) [0] (by decide) rfl) hS (Nat.le_of_ble_eq_true rfl) (Nat.le_of_ble_eq_true rfl) d_Law_program_16
abbrev y_Law_fact : MethodName := ⟨"FilterGuardLaw", "fact", "(LFilterGuard;II[J)I"⟩
theorem d_Law_fact_0 : decode method_5_code 0 = .ok (.aload_n 3, 1) := by decide +kernel
theorem d_Law_fact_1 : decode method_5_code 1 = .ok (.iconst 0, 1) := by decide +kernel
theorem d_Law_fact_2 : decode method_5_code 2 = .ok (.aload_n 0, 1) := by decide +kernel
theorem d_Law_fact_3 : decode method_5_code 3 = .ok (.iload_n 1, 1) := by decide +kernel
theorem d_Law_fact_4 : decode method_5_code 4 = .ok (.iload_n 2, 1) := by decide +kernel
theorem d_Law_fact_5 : decode method_5_code 5 = .ok (.invokevirtual 21, 3) := by decide +kernel
theorem u_1481 : Cond.classLink "FilterGuardLaw" 25 "java/lang/IndexOutOfBoundsException" ∈ fg_g := fg_in (List.mem_of_getElem? (i := 1481) (by decide +kernel)) rfl
theorem u_1482 : Cond.methodLink "FilterGuardLaw" 21 ⟨"FilterGuard", "fact", "(II)J"⟩ ∈ fg_g := fg_in (List.mem_of_getElem? (i := 1482) (by decide +kernel)) rfl
theorem u_1485 : Cond.code ⟨"FilterGuard", "fact", "(II)J"⟩ prog_1_method_7_code 3 (some .long) ∈ fg_g := fg_in (List.mem_of_getElem? (i := 1485) (by decide +kernel)) rfl
theorem u_1483 : Cond.instanceMethod ⟨"FilterGuard", "fact", "(II)J"⟩ ∈ fg_g := fg_in (List.mem_of_getElem? (i := 1483) (by decide +kernel)) rfl
theorem u_1484 : Cond.selects "FilterGuard" ⟨"FilterGuard", "fact", "(II)J"⟩ ⟨"FilterGuard", "fact", "(II)J"⟩ ∈ fg_g := fg_in (List.mem_of_getElem? (i := 1484) (by decide +kernel)) rfl
theorem d_Law_fact_12 : decode method_5_code 12 = .ok (.astore 4, 2) := by decide +kernel
theorem d_Law_fact_14 : decode method_5_code 14 = .ok (.iconst 1, 1) := by decide +kernel
theorem d_Law_fact_15 : decode method_5_code 15 = .ok (.ireturn, 1) := by decide +kernel
def rm_L_fact : Room := { frames := 7, cells := 1, slots := 6, locals := 140 }
abbrev q_L_fact (D : va_G) (h0 : Nat) (qt : Nat) (qs : Nat) (qc : Nat) (qh : Nat) (qf : Nat) (qe : Nat) (qm : Nat) (c0 : Nat) (c1 : Nat) (c2 : Nat) (x1 : Int32) (x2 : Int32) (qo : Nat) (A : Nat → Prop) : Array Value → Jvm.State → Outcome → Jvm.State → Prop := va_Qi (fun (r : Int32) (_ : Unit) => r = 1) (fg_B D A (fun (_ : Unit) => [(h0, .inr (0, [.ref qt, .int 0, .ref qs, .int 0, .ref qc, .ref qh, .ref qf, .ref qe, .ref qm, .int 0, .int (-1), .int 0, .int 0, .int 0])), (qc, .inr (2, [.ref c0, .ref c1, .ref c2, .int 0, .int 0, .int 0, .int 0, .int 0, .int 0, .int 0, .int 0, .int 0, .int 0, .int 0, .int 0, .int 0]))]) (fun (_ : Unit) => [])) A
set_option maxHeartbeats 4000000 in
set_option maxRecDepth 100000 in
theorem c_L_fact (l : Launch) (D : va_G) (h0 : Nat) (qt : Nat) (qs : Nat) (qc : Nat) (qh : Nat) (qf : Nat) (qe : Nat) (qm : Nat) (c0 : Nat) (c1 : Nat) (c2 : Nat) (x1 : Int32) (x2 : Int32) (qo : Nat) (sz : Nat) (hl9 : l.stackTraces = false) : Met l y_Law_fact (fg_wh y_Law_fact method_5_code 5 (some .int) [(0, 9, 12, 25)]) rm_L_fact (va_Pc [.ref h0, .int x1, .int x2, .ref qo] (fg_PZ D [] [(h0, .inr (0, [.ref qt, .int 0, .ref qs, .int 0, .ref qc, .ref qh, .ref qf, .ref qe, .ref qm, .int 0, .int (-1), .int 0, .int 0, .int 0])), (qc, .inr (2, [.ref c0, .ref c1, .ref c2, .int 0, .int 0, .int 0, .int 0, .int 0, .int 0, .int 0, .int 0, .int 0, .int 0, .int 0, .int 0, .int 0]))] sz)) (q_L_fact D h0 qt qs qc qh qf qe qm c0 c1 c2 x1 x2 qo (va_A [(h0, .inr (0, [.ref qt, .int 0, .ref qs, .int 0, .ref qc, .ref qh, .ref qf, .ref qe, .ref qm, .int 0, .int (-1), .int 0, .int 0, .int 0])), (qc, .inr (2, [.ref c0, .ref c1, .ref c2, .int 0, .int 0, .int 0, .int 0, .int 0, .int 0, .int 0, .int 0, .int 0, .int 0, .int 0, .int 0, .int 0]))] sz)) rm_L_fact.cells rm_L_fact.slots (va_A [(h0, .inr (0, [.ref qt, .int 0, .ref qs, .int 0, .ref qc, .ref qh, .ref qf, .ref qe, .ref qm, .int 0, .int (-1), .int 0, .int 0, .int 0])), (qc, .inr (2, [.ref c0, .ref c1, .ref c2, .int 0, .int 0, .int 0, .int 0, .int 0, .int 0, .int 0, .int 0, .int 0, .int 0, .int 0, .int 0, .int 0]))] sz) := by
  refine fg_enterH (fun A => q_L_fact D h0 qt qs qc qh qf qe qm c0 c1 c2 x1 x2 qo A) (by decide +kernel) (Nat.le_of_ble_eq_true rfl) ?_
  intro p e s m below meth c ls A hx hb hml hown hts hr hlocks hin hP hK hD hS hA hX hl htab hz hy
  have hl : lv_has ls 5 [(0, .ref h0), (1, .int x1), (2, .int x2), (3, .ref qo)] := hl
  refine lv_aload_n hx hb d_Law_fact_0 rfl (lv_at hl 3 rfl) ?_
  refine lv_iconst (v := 0) hx hb d_Law_fact_1 (by decide) ?_
  refine lv_aload_n hx hb d_Law_fact_2 rfl (lv_at hl 0 rfl) ?_
  refine lv_iload_n hx hb d_Law_fact_3 rfl (lv_at hl 1 rfl) ?_
  refine lv_iload_n hx hb d_Law_fact_4 rfl (lv_at hl 2 rfl) ?_
  refine fg_thenT (own := "FilterGuardLaw") (wr := []) (fg_runVT (C := "FilterGuard") (As := [.int x1, .int x2]) (rest := [.int 0, .ref qo]) (ci := 0) (q0 := 0) ⟨hx, hb, hml, hown, hts⟩ (c_G_fact l D h0 qt qs qc qh qf qe qm c0 c1 c2 x1 x2 s.heap.size hl9) rfl (by show fg_nm y_G_fact 2; decide +kernel) u_1482 u_1483 u_1484 u_181 u_1485 ⟨Nat.le_of_ble_eq_true rfl, Nat.le_of_ble_eq_true rfl⟩ hX (hP.sub (ws' := [(h0, .inr (0, [.ref qt, .int 0, .ref qs, .int 0, .ref qc, .ref qh, .ref qf, .ref qe, .ref qm, .int 0, .int (-1), .int 0, .int 0, .int 0])), (qc, .inr (2, [.ref c0, .ref c1, .ref c2, .int 0, .int 0, .int 0, .int 0, .int 0, .int 0, .int 0, .int 0, .int 0, .int 0, .int 0, .int 0, .int 0]))]) [0, 1] rfl) (hK.sub (tys' := []) [] rfl) (hD.sub (ws' := [(h0, .inr (0, [.ref qt, .int 0, .ref qs, .int 0, .ref qc, .ref qh, .ref qf, .ref qe, .ref qm, .int 0, .int (-1), .int 0, .int 0, .int 0])), (qc, .inr (2, [.ref c0, .ref c1, .ref c2, .int 0, .int 0, .int 0, .int 0, .int 0, .int 0, .int 0, .int 0, .int 0, .int 0, .int 0, .int 0, .int 0]))]) [0, 1] (by decide) rfl) ((hz.kept hS.2.1).narrow (va_free hD hS hA [0, 1] rfl)) hy rfl rfl rfl rfl hl.1 (Nat.le_of_ble_eq_true rfl) d_Law_fact_5 ⟨(Nat.le_of_ble_eq_true rfl), (Nat.le_of_ble_eq_true rfl)⟩) hP hD hK hS hA [0, 1] [] rfl rfl (by decide) (by decide) hown hts [(0, 9, 12, 25)] htab 0 12 (fun y hm => absurd hm (by simp)) ⟨0, 9, 25, rfl, by decide, by decide, by decide, u_1481⟩ (fun x5_1 u H locs hw5_0 hP hD hK hS => ?_)
  try dsimp only at hw5_0
  have hP : va_P D classes [(h0, .inr (0, [.ref qt, .int 0, .ref qs, .int 0, .ref qc, .ref qh, .ref qf, .ref qe, .ref qm, .int 0, .int (-1), .int 0, .int 0, .int 0])), (qc, .inr (2, [.ref c0, .ref c1, .ref c2, .int 0, .int 0, .int 0, .int 0, .int 0, .int 0, .int 0, .int 0, .int 0, .int 0, .int 0, .int 0, .int 0]))] H := hP
  have hD : va_D A [(h0, .inr (0, [.ref qt, .int 0, .ref qs, .int 0, .ref qc, .ref qh, .ref qf, .ref qe, .ref qm, .int 0, .int (-1), .int 0, .int 0, .int 0])), (qc, .inr (2, [.ref c0, .ref c1, .ref c2, .int 0, .int 0, .int 0, .int 0, .int 0, .int 0, .int 0, .int 0, .int 0, .int 0, .int 0, .int 0, .int 0]))] := hD
  have hK : va_K D classes [] s := hK
  refine W.widen (k := 1) (n := 6) (Nat.le_of_ble_eq_true rfl) (Nat.le_of_ble_eq_true rfl) ?_
  refine lv_astore (lv' := [(4, .ref x5_1), (0, .ref h0), (1, .int x1), (2, .int x2), (3, .ref qo)]) hx hb d_Law_fact_12 hl (by decide) rfl (fun ls hl => ?_)
  refine lv_iconst (v := 1) hx hb d_Law_fact_14 (by decide) ?_
  exact fg_reti () hx hb hr hlocks rfl (hP.sub (ws' := [(h0, .inr (0, [.ref qt, .int 0, .ref qs, .int 0, .ref qc, .ref qh, .ref qf, .ref qe, .ref qm, .int 0, .int (-1), .int 0, .int 0, .int 0])), (qc, .inr (2, [.ref c0, .ref c1, .ref c2, .int 0, .int 0, .int 0, .int 0, .int 0, .int 0, .int 0, .int 0, .int 0, .int 0, .int 0, .int 0, .int 0]))]) [0, 1] rfl) (hK.sub (tys' := []) [] rfl) (hD.sub (ws' := [(h0, .inr (0, [.ref qt, .int 0, .ref qs, .int 0, .ref qc, .ref qh, .ref qf, .ref qe, .ref qm, .int 0, .int (-1), .int 0, .int 0, .int 0])), (qc, .inr (2, [.ref c0, .ref c1, .ref c2, .int 0, .int 0, .int 0, .int 0, .int 0, .int 0, .int 0, .int 0, .int 0, .int 0, .int 0, .int 0, .int 0]))]) [0, 1] (by decide) rfl) hS (Nat.le_of_ble_eq_true rfl) (Nat.le_of_ble_eq_true rfl) d_Law_fact_15
abbrev y_Law_code : MethodName := ⟨"FilterGuardLaw", "code", "(LFilterGuard;IZ[J)I"⟩
theorem d_Law_code_0 : decode method_6_code 0 = .ok (.aload_n 3, 1) := by decide +kernel
theorem d_Law_code_1 : decode method_6_code 1 = .ok (.iconst 0, 1) := by decide +kernel
theorem d_Law_code_2 : decode method_6_code 2 = .ok (.aload_n 0, 1) := by decide +kernel
theorem d_Law_code_3 : decode method_6_code 3 = .ok (.iload_n 1, 1) := by decide +kernel
theorem d_Law_code_4 : decode method_6_code 4 = .ok (.iload_n 2, 1) := by decide +kernel
theorem d_Law_code_5 : decode method_6_code 5 = .ok (.invokevirtual 27, 3) := by decide +kernel
theorem u_1509 : Cond.methodLink "FilterGuardLaw" 27 ⟨"FilterGuard", "code", "(IZ)J"⟩ ∈ fg_g := fg_in (List.mem_of_getElem? (i := 1509) (by decide +kernel)) rfl
theorem u_1512 : Cond.code ⟨"FilterGuard", "code", "(IZ)J"⟩ prog_1_method_8_code 4 (some .long) ∈ fg_g := fg_in (List.mem_of_getElem? (i := 1512) (by decide +kernel)) rfl
theorem u_1510 : Cond.instanceMethod ⟨"FilterGuard", "code", "(IZ)J"⟩ ∈ fg_g := fg_in (List.mem_of_getElem? (i := 1510) (by decide +kernel)) rfl
theorem u_1511 : Cond.selects "FilterGuard" ⟨"FilterGuard", "code", "(IZ)J"⟩ ⟨"FilterGuard", "code", "(IZ)J"⟩ ∈ fg_g := fg_in (List.mem_of_getElem? (i := 1511) (by decide +kernel)) rfl
theorem d_Law_code_12 : decode method_6_code 12 = .ok (.astore 4, 2) := by decide +kernel
theorem d_Law_code_14 : decode method_6_code 14 = .ok (.iconst 1, 1) := by decide +kernel
theorem d_Law_code_15 : decode method_6_code 15 = .ok (.ireturn, 1) := by decide +kernel
def rm_L_code : Room := { frames := 7, cells := 1, slots := 6, locals := 140 }
abbrev q_L_code (D : va_G) (h0 : Nat) (qt : Nat) (qs : Nat) (qc : Nat) (qh : Nat) (qf : Nat) (qe : Nat) (qm : Nat) (x1 : Int32) (x2 : Int32) (qo : Nat) (A : Nat → Prop) : Array Value → Jvm.State → Outcome → Jvm.State → Prop := va_Qi (fun (r : Int32) (_ : Unit) => r = 1) (fg_B D A (fun (_ : Unit) => [(h0, .inr (0, [.ref qt, .int 0, .ref qs, .int 0, .ref qc, .ref qh, .ref qf, .ref qe, .ref qm, .int 0, .int (-1), .int 0, .int 0, .int 0]))]) (fun (_ : Unit) => [])) A
set_option maxHeartbeats 4000000 in
set_option maxRecDepth 100000 in
theorem c_L_code (l : Launch) (D : va_G) (h0 : Nat) (qt : Nat) (qs : Nat) (qc : Nat) (qh : Nat) (qf : Nat) (qe : Nat) (qm : Nat) (x1 : Int32) (x2 : Int32) (qo : Nat) (sz : Nat) (hl9 : l.stackTraces = false) : Met l y_Law_code (fg_wh y_Law_code method_6_code 5 (some .int) [(0, 9, 12, 25)]) rm_L_code (va_Pc [.ref h0, .int x1, .int x2, .ref qo] (fg_PZ D [] [(h0, .inr (0, [.ref qt, .int 0, .ref qs, .int 0, .ref qc, .ref qh, .ref qf, .ref qe, .ref qm, .int 0, .int (-1), .int 0, .int 0, .int 0]))] sz)) (q_L_code D h0 qt qs qc qh qf qe qm x1 x2 qo (va_A [(h0, .inr (0, [.ref qt, .int 0, .ref qs, .int 0, .ref qc, .ref qh, .ref qf, .ref qe, .ref qm, .int 0, .int (-1), .int 0, .int 0, .int 0]))] sz)) rm_L_code.cells rm_L_code.slots (va_A [(h0, .inr (0, [.ref qt, .int 0, .ref qs, .int 0, .ref qc, .ref qh, .ref qf, .ref qe, .ref qm, .int 0, .int (-1), .int 0, .int 0, .int 0]))] sz) := by
  refine fg_enterH (fun A => q_L_code D h0 qt qs qc qh qf qe qm x1 x2 qo A) (by decide +kernel) (Nat.le_of_ble_eq_true rfl) ?_
  intro p e s m below meth c ls A hx hb hml hown hts hr hlocks hin hP hK hD hS hA hX hl htab hz hy
  have hl : lv_has ls 5 [(0, .ref h0), (1, .int x1), (2, .int x2), (3, .ref qo)] := hl
  refine lv_aload_n hx hb d_Law_code_0 rfl (lv_at hl 3 rfl) ?_
  refine lv_iconst (v := 0) hx hb d_Law_code_1 (by decide) ?_
  refine lv_aload_n hx hb d_Law_code_2 rfl (lv_at hl 0 rfl) ?_
  refine lv_iload_n hx hb d_Law_code_3 rfl (lv_at hl 1 rfl) ?_
  refine lv_iload_n hx hb d_Law_code_4 rfl (lv_at hl 2 rfl) ?_
  refine fg_thenT (own := "FilterGuardLaw") (wr := []) (fg_runVT (C := "FilterGuard") (As := [.int x1, .int x2]) (rest := [.int 0, .ref qo]) (ci := 0) (q0 := 0) ⟨hx, hb, hml, hown, hts⟩ (c_G_code l D h0 qt qs qc qh qf qe qm x1 x2 s.heap.size hl9) rfl (by show fg_nm y_G_code 2; decide +kernel) u_1509 u_1510 u_1511 u_181 u_1512 ⟨Nat.le_of_ble_eq_true rfl, Nat.le_of_ble_eq_true rfl⟩ hX (hP.sub (ws' := [(h0, .inr (0, [.ref qt, .int 0, .ref qs, .int 0, .ref qc, .ref qh, .ref qf, .ref qe, .ref qm, .int 0, .int (-1), .int 0, .int 0, .int 0]))]) [0] rfl) (hK.sub (tys' := []) [] rfl) (hD.sub (ws' := [(h0, .inr (0, [.ref qt, .int 0, .ref qs, .int 0, .ref qc, .ref qh, .ref qf, .ref qe, .ref qm, .int 0, .int (-1), .int 0, .int 0, .int 0]))]) [0] (by decide) rfl) ((hz.kept hS.2.1).narrow (va_free hD hS hA [0] rfl)) hy rfl rfl rfl rfl hl.1 (Nat.le_of_ble_eq_true rfl) d_Law_code_5 ⟨(Nat.le_of_ble_eq_true rfl), (Nat.le_of_ble_eq_true rfl)⟩) hP hD hK hS hA [0] [] rfl rfl (by decide) (by decide) hown hts [(0, 9, 12, 25)] htab 0 12 (fun y hm => absurd hm (by simp)) ⟨0, 9, 25, rfl, by decide, by decide, by decide, u_1481⟩ (fun x5_1 u H locs hw5_0 hP hD hK hS => ?_)
  try dsimp only at hw5_0
  have hP : va_P D classes [(h0, .inr (0, [.ref qt, .int 0, .ref qs, .int 0, .ref qc, .ref qh, .ref qf, .ref qe, .ref qm, .int 0, .int (-1), .int 0, .int 0, .int 0]))] H := hP
  have hD : va_D A [(h0, .inr (0, [.ref qt, .int 0, .ref qs, .int 0, .ref qc, .ref qh, .ref qf, .ref qe, .ref qm, .int 0, .int (-1), .int 0, .int 0, .int 0]))] := hD
  have hK : va_K D classes [] s := hK
  refine W.widen (k := 1) (n := 6) (Nat.le_of_ble_eq_true rfl) (Nat.le_of_ble_eq_true rfl) ?_
  refine lv_astore (lv' := [(4, .ref x5_1), (0, .ref h0), (1, .int x1), (2, .int x2), (3, .ref qo)]) hx hb d_Law_code_12 hl (by decide) rfl (fun ls hl => ?_)
  refine lv_iconst (v := 1) hx hb d_Law_code_14 (by decide) ?_
  exact fg_reti () hx hb hr hlocks rfl (hP.sub (ws' := [(h0, .inr (0, [.ref qt, .int 0, .ref qs, .int 0, .ref qc, .ref qh, .ref qf, .ref qe, .ref qm, .int 0, .int (-1), .int 0, .int 0, .int 0]))]) [0] rfl) (hK.sub (tys' := []) [] rfl) (hD.sub (ws' := [(h0, .inr (0, [.ref qt, .int 0, .ref qs, .int 0, .ref qc, .ref qh, .ref qf, .ref qe, .ref qm, .int 0, .int (-1), .int 0, .int 0, .int 0]))]) [0] (by decide) rfl) hS (Nat.le_of_ble_eq_true rfl) (Nat.le_of_ble_eq_true rfl) d_Law_code_15
abbrev y_Law_put : MethodName := ⟨"FilterGuardLaw", "put", "(LFilterGuard;I[J)I"⟩
theorem d_Law_put_0 : decode method_7_code 0 = .ok (.aload_n 2, 1) := by decide +kernel
theorem d_Law_put_1 : decode method_7_code 1 = .ok (.iconst 0, 1) := by decide +kernel
theorem d_Law_put_2 : decode method_7_code 2 = .ok (.aload_n 0, 1) := by decide +kernel
theorem d_Law_put_3 : decode method_7_code 3 = .ok (.iload_n 1, 1) := by decide +kernel
theorem d_Law_put_4 : decode method_7_code 4 = .ok (.invokevirtual 31, 3) := by decide +kernel
theorem u_1517 : Cond.methodLink "FilterGuardLaw" 31 ⟨"FilterGuard", "put", "(I)I"⟩ ∈ fg_g := fg_in (List.mem_of_getElem? (i := 1517) (by decide +kernel)) rfl
theorem u_1520 : Cond.code ⟨"FilterGuard", "put", "(I)I"⟩ prog_1_method_11_code 3 (some .int) ∈ fg_g := fg_in (List.mem_of_getElem? (i := 1520) (by decide +kernel)) rfl
theorem u_1518 : Cond.instanceMethod ⟨"FilterGuard", "put", "(I)I"⟩ ∈ fg_g := fg_in (List.mem_of_getElem? (i := 1518) (by decide +kernel)) rfl
theorem u_1519 : Cond.selects "FilterGuard" ⟨"FilterGuard", "put", "(I)I"⟩ ⟨"FilterGuard", "put", "(I)I"⟩ ∈ fg_g := fg_in (List.mem_of_getElem? (i := 1519) (by decide +kernel)) rfl
theorem d_Law_put_12 : decode method_7_code 12 = .ok (.astore_n 3, 1) := by decide +kernel
theorem d_Law_put_13 : decode method_7_code 13 = .ok (.iconst 1, 1) := by decide +kernel
theorem d_Law_put_14 : decode method_7_code 14 = .ok (.ireturn, 1) := by decide +kernel
def rm_L_put : Room := { frames := 7, cells := 1, slots := 6, locals := 140 }
abbrev q_L_put (D : va_G) (h0 : Nat) (qt : Nat) (qs : Nat) (qc : Nat) (qh : Nat) (qf : Nat) (qe : Nat) (qm : Nat) (x1 : Int32) (qo : Nat) (A : Nat → Prop) : Array Value → Jvm.State → Outcome → Jvm.State → Prop := va_Qi (fun (r : Int32) (_ : Unit) => r = 1) (fg_B D A (fun (_ : Unit) => [(h0, .inr (0, [.ref qt, .int 0, .ref qs, .int 0, .ref qc, .ref qh, .ref qf, .ref qe, .ref qm, .int 0, .int (-1), .int 0, .int 0, .int 0]))]) (fun (_ : Unit) => [])) A
set_option maxHeartbeats 4000000 in
set_option maxRecDepth 100000 in
theorem c_L_put (l : Launch) (D : va_G) (h0 : Nat) (qt : Nat) (qs : Nat) (qc : Nat) (qh : Nat) (qf : Nat) (qe : Nat) (qm : Nat) (x1 : Int32) (qo : Nat) (sz : Nat) (hl9 : l.stackTraces = false) : Met l y_Law_put (fg_wh y_Law_put method_7_code 4 (some .int) [(0, 9, 12, 13)]) rm_L_put (va_Pc [.ref h0, .int x1, .ref qo] (fg_PZ D [] [(h0, .inr (0, [.ref qt, .int 0, .ref qs, .int 0, .ref qc, .ref qh, .ref qf, .ref qe, .ref qm, .int 0, .int (-1), .int 0, .int 0, .int 0]))] sz)) (q_L_put D h0 qt qs qc qh qf qe qm x1 qo (va_A [(h0, .inr (0, [.ref qt, .int 0, .ref qs, .int 0, .ref qc, .ref qh, .ref qf, .ref qe, .ref qm, .int 0, .int (-1), .int 0, .int 0, .int 0]))] sz)) rm_L_put.cells rm_L_put.slots (va_A [(h0, .inr (0, [.ref qt, .int 0, .ref qs, .int 0, .ref qc, .ref qh, .ref qf, .ref qe, .ref qm, .int 0, .int (-1), .int 0, .int 0, .int 0]))] sz) := by
  refine fg_enterH (fun A => q_L_put D h0 qt qs qc qh qf qe qm x1 qo A) (by decide +kernel) (Nat.le_of_ble_eq_true rfl) ?_
  intro p e s m below meth c ls A hx hb hml hown hts hr hlocks hin hP hK hD hS hA hX hl htab hz hy
  have hl : lv_has ls 4 [(0, .ref h0), (1, .int x1), (2, .ref qo)] := hl
  refine lv_aload_n hx hb d_Law_put_0 rfl (lv_at hl 2 rfl) ?_
  refine lv_iconst (v := 0) hx hb d_Law_put_1 (by decide) ?_
  refine lv_aload_n hx hb d_Law_put_2 rfl (lv_at hl 0 rfl) ?_
  refine lv_iload_n hx hb d_Law_put_3 rfl (lv_at hl 1 rfl) ?_
  refine fg_thenT (own := "FilterGuardLaw") (wr := []) (fg_runVT (C := "FilterGuard") (As := [.int x1]) (rest := [.int 0, .ref qo]) (ci := 0) (q0 := 0) ⟨hx, hb, hml, hown, hts⟩ (c_G_put l D h0 qt qs qc qh qf qe qm x1 s.heap.size hl9) rfl (by show fg_nm y_G_put 1; decide +kernel) u_1517 u_1518 u_1519 u_181 u_1520 ⟨Nat.le_of_ble_eq_true rfl, Nat.le_of_ble_eq_true rfl⟩ hX (hP.sub (ws' := [(h0, .inr (0, [.ref qt, .int 0, .ref qs, .int 0, .ref qc, .ref qh, .ref qf, .ref qe, .ref qm, .int 0, .int (-1), .int 0, .int 0, .int 0]))]) [0] rfl) (hK.sub (tys' := []) [] rfl) (hD.sub (ws' := [(h0, .inr (0, [.ref qt, .int 0, .ref qs, .int 0, .ref qc, .ref qh, .ref qf, .ref qe, .ref qm, .int 0, .int (-1), .int 0, .int 0, .int 0]))]) [0] (by decide) rfl) ((hz.kept hS.2.1).narrow (va_free hD hS hA [0] rfl)) hy rfl rfl rfl rfl hl.1 (Nat.le_of_ble_eq_true rfl) d_Law_put_4 ⟨(Nat.le_of_ble_eq_true rfl), (Nat.le_of_ble_eq_true rfl)⟩) hP hD hK hS hA [0] [] rfl rfl (by decide) (by decide) hown hts [(0, 9, 12, 13)] htab 0 12 (fun y hm => absurd hm (by simp)) ⟨0, 9, 13, rfl, by decide, by decide, by decide, u_806⟩ (fun x4_1 u H locs hw4_0 hP hD hK hS => ?_)
  try dsimp only at hw4_0
  have hP : va_P D classes [(h0, .inr (0, [.ref qt, .int 0, .ref qs, .int 0, .ref qc, .ref qh, .ref qf, .ref qe, .ref qm, .int 0, .int (-1), .int 0, .int 0, .int 0]))] H := hP
  have hD : va_D A [(h0, .inr (0, [.ref qt, .int 0, .ref qs, .int 0, .ref qc, .ref qh, .ref qf, .ref qe, .ref qm, .int 0, .int (-1), .int 0, .int 0, .int 0]))] := hD
  have hK : va_K D classes [] s := hK
  refine W.widen (k := 1) (n := 6) (Nat.le_of_ble_eq_true rfl) (Nat.le_of_ble_eq_true rfl) ?_
  refine lv_astore_n (lv' := [(3, .ref x4_1), (0, .ref h0), (1, .int x1), (2, .ref qo)]) hx hb d_Law_put_12 rfl hl (by decide) rfl (fun ls hl => ?_)
  refine lv_iconst (v := 1) hx hb d_Law_put_13 (by decide) ?_
  exact fg_reti () hx hb hr hlocks rfl (hP.sub (ws' := [(h0, .inr (0, [.ref qt, .int 0, .ref qs, .int 0, .ref qc, .ref qh, .ref qf, .ref qe, .ref qm, .int 0, .int (-1), .int 0, .int 0, .int 0]))]) [0] rfl) (hK.sub (tys' := []) [] rfl) (hD.sub (ws' := [(h0, .inr (0, [.ref qt, .int 0, .ref qs, .int 0, .ref qc, .ref qh, .ref qf, .ref qe, .ref qm, .int 0, .int (-1), .int 0, .int 0, .int 0]))]) [0] (by decide) rfl) hS (Nat.le_of_ble_eq_true rfl) (Nat.le_of_ble_eq_true rfl) d_Law_put_14
abbrev y_Law_entry : MethodName := ⟨"FilterGuardLaw", "entry", "(LFilterGuard;III[J)I"⟩
theorem d_Law_entry_0 : decode method_8_code 0 = .ok (.aload 4, 2) := by decide +kernel
theorem d_Law_entry_2 : decode method_8_code 2 = .ok (.iconst 0, 1) := by decide +kernel
theorem d_Law_entry_3 : decode method_8_code 3 = .ok (.aload_n 0, 1) := by decide +kernel
theorem d_Law_entry_4 : decode method_8_code 4 = .ok (.iload_n 1, 1) := by decide +kernel
theorem d_Law_entry_5 : decode method_8_code 5 = .ok (.iload_n 2, 1) := by decide +kernel
theorem d_Law_entry_6 : decode method_8_code 6 = .ok (.iload_n 3, 1) := by decide +kernel
theorem d_Law_entry_7 : decode method_8_code 7 = .ok (.invokevirtual 35, 3) := by decide +kernel
theorem u_1542 : Cond.methodLink "FilterGuardLaw" 35 ⟨"FilterGuard", "entry", "(III)I"⟩ ∈ fg_g := fg_in (List.mem_of_getElem? (i := 1542) (by decide +kernel)) rfl
theorem u_1545 : Cond.code ⟨"FilterGuard", "entry", "(III)I"⟩ prog_1_method_12_code 4 (some .int) ∈ fg_g := fg_in (List.mem_of_getElem? (i := 1545) (by decide +kernel)) rfl
theorem u_1543 : Cond.instanceMethod ⟨"FilterGuard", "entry", "(III)I"⟩ ∈ fg_g := fg_in (List.mem_of_getElem? (i := 1543) (by decide +kernel)) rfl
theorem u_1544 : Cond.selects "FilterGuard" ⟨"FilterGuard", "entry", "(III)I"⟩ ⟨"FilterGuard", "entry", "(III)I"⟩ ∈ fg_g := fg_in (List.mem_of_getElem? (i := 1544) (by decide +kernel)) rfl
theorem d_Law_entry_15 : decode method_8_code 15 = .ok (.astore 5, 2) := by decide +kernel
theorem d_Law_entry_17 : decode method_8_code 17 = .ok (.iconst 1, 1) := by decide +kernel
theorem d_Law_entry_18 : decode method_8_code 18 = .ok (.ireturn, 1) := by decide +kernel
def rm_L_entry : Room := { frames := 7, cells := 1, slots := 6, locals := 140 }
abbrev q_L_entry (D : va_G) (h0 : Nat) (qt : Nat) (qs : Nat) (qc : Nat) (qh : Nat) (qf : Nat) (qe : Nat) (qm : Nat) (x1 : Int32) (x2 : Int32) (x3 : Int32) (qo : Nat) (A : Nat → Prop) : Array Value → Jvm.State → Outcome → Jvm.State → Prop := va_Qi (fun (r : Int32) (_ : Unit) => r = 1) (fg_B D A (fun (_ : Unit) => [(h0, .inr (0, [.ref qt, .int 0, .ref qs, .int 0, .ref qc, .ref qh, .ref qf, .ref qe, .ref qm, .int 0, .int (-1), .int 0, .int 0, .int 0]))]) (fun (_ : Unit) => [])) A
set_option maxHeartbeats 4000000 in
set_option maxRecDepth 100000 in
theorem c_L_entry (l : Launch) (D : va_G) (h0 : Nat) (qt : Nat) (qs : Nat) (qc : Nat) (qh : Nat) (qf : Nat) (qe : Nat) (qm : Nat) (x1 : Int32) (x2 : Int32) (x3 : Int32) (qo : Nat) (sz : Nat) (hl9 : l.stackTraces = false) : Met l y_Law_entry (fg_wh y_Law_entry method_8_code 6 (some .int) [(0, 12, 15, 25)]) rm_L_entry (va_Pc [.ref h0, .int x1, .int x2, .int x3, .ref qo] (fg_PZ D [] [(h0, .inr (0, [.ref qt, .int 0, .ref qs, .int 0, .ref qc, .ref qh, .ref qf, .ref qe, .ref qm, .int 0, .int (-1), .int 0, .int 0, .int 0]))] sz)) (q_L_entry D h0 qt qs qc qh qf qe qm x1 x2 x3 qo (va_A [(h0, .inr (0, [.ref qt, .int 0, .ref qs, .int 0, .ref qc, .ref qh, .ref qf, .ref qe, .ref qm, .int 0, .int (-1), .int 0, .int 0, .int 0]))] sz)) rm_L_entry.cells rm_L_entry.slots (va_A [(h0, .inr (0, [.ref qt, .int 0, .ref qs, .int 0, .ref qc, .ref qh, .ref qf, .ref qe, .ref qm, .int 0, .int (-1), .int 0, .int 0, .int 0]))] sz) := by
  refine fg_enterH (fun A => q_L_entry D h0 qt qs qc qh qf qe qm x1 x2 x3 qo A) (by decide +kernel) (Nat.le_of_ble_eq_true rfl) ?_
  intro p e s m below meth c ls A hx hb hml hown hts hr hlocks hin hP hK hD hS hA hX hl htab hz hy
  have hl : lv_has ls 6 [(0, .ref h0), (1, .int x1), (2, .int x2), (3, .int x3), (4, .ref qo)] := hl
  refine lv_aload hx hb d_Law_entry_0 (lv_at hl 4 rfl) ?_
  refine lv_iconst (v := 0) hx hb d_Law_entry_2 (by decide) ?_
  refine lv_aload_n hx hb d_Law_entry_3 rfl (lv_at hl 0 rfl) ?_
  refine lv_iload_n hx hb d_Law_entry_4 rfl (lv_at hl 1 rfl) ?_
  refine lv_iload_n hx hb d_Law_entry_5 rfl (lv_at hl 2 rfl) ?_
  refine lv_iload_n hx hb d_Law_entry_6 rfl (lv_at hl 3 rfl) ?_
  refine fg_thenT (own := "FilterGuardLaw") (wr := []) (fg_runVT (C := "FilterGuard") (As := [.int x1, .int x2, .int x3]) (rest := [.int 0, .ref qo]) (ci := 0) (q0 := 0) ⟨hx, hb, hml, hown, hts⟩ (c_G_entry l D h0 qt qs qc qh qf qe qm x1 x2 x3 s.heap.size hl9) rfl (by show fg_nm y_G_entry 3; decide +kernel) u_1542 u_1543 u_1544 u_181 u_1545 ⟨Nat.le_of_ble_eq_true rfl, Nat.le_of_ble_eq_true rfl⟩ hX (hP.sub (ws' := [(h0, .inr (0, [.ref qt, .int 0, .ref qs, .int 0, .ref qc, .ref qh, .ref qf, .ref qe, .ref qm, .int 0, .int (-1), .int 0, .int 0, .int 0]))]) [0] rfl) (hK.sub (tys' := []) [] rfl) (hD.sub (ws' := [(h0, .inr (0, [.ref qt, .int 0, .ref qs, .int 0, .ref qc, .ref qh, .ref qf, .ref qe, .ref qm, .int 0, .int (-1), .int 0, .int 0, .int 0]))]) [0] (by decide) rfl) ((hz.kept hS.2.1).narrow (va_free hD hS hA [0] rfl)) hy rfl rfl rfl rfl hl.1 (Nat.le_of_ble_eq_true rfl) d_Law_entry_7 ⟨(Nat.le_of_ble_eq_true rfl), (Nat.le_of_ble_eq_true rfl)⟩) hP hD hK hS hA [0] [] rfl rfl (by decide) (by decide) hown hts [(0, 12, 15, 25)] htab 0 15 (fun y hm => absurd hm (by simp)) ⟨0, 12, 25, rfl, by decide, by decide, by decide, u_1481⟩ (fun x7_1 u H locs hw7_0 hP hD hK hS => ?_)
  try dsimp only at hw7_0
  have hP : va_P D classes [(h0, .inr (0, [.ref qt, .int 0, .ref qs, .int 0, .ref qc, .ref qh, .ref qf, .ref qe, .ref qm, .int 0, .int (-1), .int 0, .int 0, .int 0]))] H := hP
  have hD : va_D A [(h0, .inr (0, [.ref qt, .int 0, .ref qs, .int 0, .ref qc, .ref qh, .ref qf, .ref qe, .ref qm, .int 0, .int (-1), .int 0, .int 0, .int 0]))] := hD
  have hK : va_K D classes [] s := hK
  refine W.widen (k := 1) (n := 6) (Nat.le_of_ble_eq_true rfl) (Nat.le_of_ble_eq_true rfl) ?_
  refine lv_astore (lv' := [(5, .ref x7_1), (0, .ref h0), (1, .int x1), (2, .int x2), (3, .int x3), (4, .ref qo)]) hx hb d_Law_entry_15 hl (by decide) rfl (fun ls hl => ?_)
  refine lv_iconst (v := 1) hx hb d_Law_entry_17 (by decide) ?_
  exact fg_reti () hx hb hr hlocks rfl (hP.sub (ws' := [(h0, .inr (0, [.ref qt, .int 0, .ref qs, .int 0, .ref qc, .ref qh, .ref qf, .ref qe, .ref qm, .int 0, .int (-1), .int 0, .int 0, .int 0]))]) [0] rfl) (hK.sub (tys' := []) [] rfl) (hD.sub (ws' := [(h0, .inr (0, [.ref qt, .int 0, .ref qs, .int 0, .ref qc, .ref qh, .ref qf, .ref qe, .ref qm, .int 0, .int (-1), .int 0, .int 0, .int 0]))]) [0] (by decide) rfl) hS (Nat.le_of_ble_eq_true rfl) (Nat.le_of_ble_eq_true rfl) d_Law_entry_18
abbrev y_Law_packetAt : MethodName := ⟨"FilterGuardLaw", "packetAt", "(LFilterGuard;I[J)I"⟩
theorem d_Law_packetAt_0 : decode method_9_code 0 = .ok (.aload_n 2, 1) := by decide +kernel
theorem d_Law_packetAt_1 : decode method_9_code 1 = .ok (.iconst 0, 1) := by decide +kernel
theorem d_Law_packetAt_2 : decode method_9_code 2 = .ok (.aload_n 0, 1) := by decide +kernel
theorem d_Law_packetAt_3 : decode method_9_code 3 = .ok (.iload_n 1, 1) := by decide +kernel
theorem d_Law_packetAt_4 : decode method_9_code 4 = .ok (.invokevirtual 39, 3) := by decide +kernel
theorem u_1558 : Cond.methodLink "FilterGuardLaw" 39 ⟨"FilterGuard", "packetAt", "(I)I"⟩ ∈ fg_g := fg_in (List.mem_of_getElem? (i := 1558) (by decide +kernel)) rfl
theorem u_1561 : Cond.code ⟨"FilterGuard", "packetAt", "(I)I"⟩ prog_1_method_13_code 2 (some .int) ∈ fg_g := fg_in (List.mem_of_getElem? (i := 1561) (by decide +kernel)) rfl
theorem u_1559 : Cond.instanceMethod ⟨"FilterGuard", "packetAt", "(I)I"⟩ ∈ fg_g := fg_in (List.mem_of_getElem? (i := 1559) (by decide +kernel)) rfl
theorem u_1560 : Cond.selects "FilterGuard" ⟨"FilterGuard", "packetAt", "(I)I"⟩ ⟨"FilterGuard", "packetAt", "(I)I"⟩ ∈ fg_g := fg_in (List.mem_of_getElem? (i := 1560) (by decide +kernel)) rfl
theorem d_Law_packetAt_12 : decode method_9_code 12 = .ok (.astore_n 3, 1) := by decide +kernel
theorem d_Law_packetAt_13 : decode method_9_code 13 = .ok (.iconst 1, 1) := by decide +kernel
theorem d_Law_packetAt_14 : decode method_9_code 14 = .ok (.ireturn, 1) := by decide +kernel
def rm_L_packetAt : Room := { frames := 7, cells := 1, slots := 6, locals := 140 }
abbrev q_L_packetAt (D : va_G) (h0 : Nat) (qt : Nat) (qs : Nat) (qc : Nat) (qh : Nat) (qf : Nat) (qe : Nat) (qm : Nat) (m0 : Nat) (m1 : Nat) (m2 : Nat) (m3 : Nat) (m4 : Nat) (m5 : Nat) (x1 : Int32) (qo : Nat) (A : Nat → Prop) : Array Value → Jvm.State → Outcome → Jvm.State → Prop := va_Qi (fun (r : Int32) (_ : Unit) => r = 1) (fg_B D A (fun (_ : Unit) => [(h0, .inr (0, [.ref qt, .int 0, .ref qs, .int 0, .ref qc, .ref qh, .ref qf, .ref qe, .ref qm, .int 0, .int (-1), .int 0, .int 0, .int 0])), (qm, .inr (5, [.ref qc, .ref qh, .ref qs, .ref m5, .ref m0, .ref m1, .ref m2, .ref m3, .int 0, .ref m4, .int 0, .long 0, .int 0, .int 0, .int 0, .int 0, .ref qc, .int 0, .ref m1, .int 0]))]) (fun (_ : Unit) => [])) A
set_option maxHeartbeats 4000000 in
set_option maxRecDepth 100000 in
theorem c_L_packetAt (l : Launch) (D : va_G) (h0 : Nat) (qt : Nat) (qs : Nat) (qc : Nat) (qh : Nat) (qf : Nat) (qe : Nat) (qm : Nat) (m0 : Nat) (m1 : Nat) (m2 : Nat) (m3 : Nat) (m4 : Nat) (m5 : Nat) (x1 : Int32) (qo : Nat) (sz : Nat) (hl9 : l.stackTraces = false) : Met l y_Law_packetAt (fg_wh y_Law_packetAt method_9_code 4 (some .int) [(0, 9, 12, 25)]) rm_L_packetAt (va_Pc [.ref h0, .int x1, .ref qo] (fg_PZ D [] [(h0, .inr (0, [.ref qt, .int 0, .ref qs, .int 0, .ref qc, .ref qh, .ref qf, .ref qe, .ref qm, .int 0, .int (-1), .int 0, .int 0, .int 0])), (qm, .inr (5, [.ref qc, .ref qh, .ref qs, .ref m5, .ref m0, .ref m1, .ref m2, .ref m3, .int 0, .ref m4, .int 0, .long 0, .int 0, .int 0, .int 0, .int 0, .ref qc, .int 0, .ref m1, .int 0]))] sz)) (q_L_packetAt D h0 qt qs qc qh qf qe qm m0 m1 m2 m3 m4 m5 x1 qo (va_A [(h0, .inr (0, [.ref qt, .int 0, .ref qs, .int 0, .ref qc, .ref qh, .ref qf, .ref qe, .ref qm, .int 0, .int (-1), .int 0, .int 0, .int 0])), (qm, .inr (5, [.ref qc, .ref qh, .ref qs, .ref m5, .ref m0, .ref m1, .ref m2, .ref m3, .int 0, .ref m4, .int 0, .long 0, .int 0, .int 0, .int 0, .int 0, .ref qc, .int 0, .ref m1, .int 0]))] sz)) rm_L_packetAt.cells rm_L_packetAt.slots (va_A [(h0, .inr (0, [.ref qt, .int 0, .ref qs, .int 0, .ref qc, .ref qh, .ref qf, .ref qe, .ref qm, .int 0, .int (-1), .int 0, .int 0, .int 0])), (qm, .inr (5, [.ref qc, .ref qh, .ref qs, .ref m5, .ref m0, .ref m1, .ref m2, .ref m3, .int 0, .ref m4, .int 0, .long 0, .int 0, .int 0, .int 0, .int 0, .ref qc, .int 0, .ref m1, .int 0]))] sz) := by
  refine fg_enterH (fun A => q_L_packetAt D h0 qt qs qc qh qf qe qm m0 m1 m2 m3 m4 m5 x1 qo A) (by decide +kernel) (Nat.le_of_ble_eq_true rfl) ?_
  intro p e s m below meth c ls A hx hb hml hown hts hr hlocks hin hP hK hD hS hA hX hl htab hz hy
  have hl : lv_has ls 4 [(0, .ref h0), (1, .int x1), (2, .ref qo)] := hl
  refine lv_aload_n hx hb d_Law_packetAt_0 rfl (lv_at hl 2 rfl) ?_
  refine lv_iconst (v := 0) hx hb d_Law_packetAt_1 (by decide) ?_
  refine lv_aload_n hx hb d_Law_packetAt_2 rfl (lv_at hl 0 rfl) ?_
  refine lv_iload_n hx hb d_Law_packetAt_3 rfl (lv_at hl 1 rfl) ?_
  refine fg_thenT (own := "FilterGuardLaw") (wr := []) (fg_runVT (C := "FilterGuard") (As := [.int x1]) (rest := [.int 0, .ref qo]) (ci := 0) (q0 := 0) ⟨hx, hb, hml, hown, hts⟩ (c_G_packetAt l D h0 qt qs qc qh qf qe qm m0 m1 m2 m3 m4 m5 x1 s.heap.size hl9) rfl (by show fg_nm y_G_packetAt 1; decide +kernel) u_1558 u_1559 u_1560 u_181 u_1561 ⟨Nat.le_of_ble_eq_true rfl, Nat.le_of_ble_eq_true rfl⟩ hX (hP.sub (ws' := [(h0, .inr (0, [.ref qt, .int 0, .ref qs, .int 0, .ref qc, .ref qh, .ref qf, .ref qe, .ref qm, .int 0, .int (-1), .int 0, .int 0, .int 0])), (qm, .inr (5, [.ref qc, .ref qh, .ref qs, .ref m5, .ref m0, .ref m1, .ref m2, .ref m3, .int 0, .ref m4, .int 0, .long 0, .int 0, .int 0, .int 0, .int 0, .ref qc, .int 0, .ref m1, .int 0]))]) [0, 1] rfl) (hK.sub (tys' := []) [] rfl) (hD.sub (ws' := [(h0, .inr (0, [.ref qt, .int 0, .ref qs, .int 0, .ref qc, .ref qh, .ref qf, .ref qe, .ref qm, .int 0, .int (-1), .int 0, .int 0, .int 0])), (qm, .inr (5, [.ref qc, .ref qh, .ref qs, .ref m5, .ref m0, .ref m1, .ref m2, .ref m3, .int 0, .ref m4, .int 0, .long 0, .int 0, .int 0, .int 0, .int 0, .ref qc, .int 0, .ref m1, .int 0]))]) [0, 1] (by decide) rfl) ((hz.kept hS.2.1).narrow (va_free hD hS hA [0, 1] rfl)) hy rfl rfl rfl rfl hl.1 (Nat.le_of_ble_eq_true rfl) d_Law_packetAt_4 ⟨(Nat.le_of_ble_eq_true rfl), (Nat.le_of_ble_eq_true rfl)⟩) hP hD hK hS hA [0, 1] [] rfl rfl (by decide) (by decide) hown hts [(0, 9, 12, 25)] htab 0 12 (fun y hm => absurd hm (by simp)) ⟨0, 9, 25, rfl, by decide, by decide, by decide, u_1481⟩ (fun x4_1 u H locs hw4_0 hP hD hK hS => ?_)
  try dsimp only at hw4_0
  have hP : va_P D classes [(h0, .inr (0, [.ref qt, .int 0, .ref qs, .int 0, .ref qc, .ref qh, .ref qf, .ref qe, .ref qm, .int 0, .int (-1), .int 0, .int 0, .int 0])), (qm, .inr (5, [.ref qc, .ref qh, .ref qs, .ref m5, .ref m0, .ref m1, .ref m2, .ref m3, .int 0, .ref m4, .int 0, .long 0, .int 0, .int 0, .int 0, .int 0, .ref qc, .int 0, .ref m1, .int 0]))] H := hP
  have hD : va_D A [(h0, .inr (0, [.ref qt, .int 0, .ref qs, .int 0, .ref qc, .ref qh, .ref qf, .ref qe, .ref qm, .int 0, .int (-1), .int 0, .int 0, .int 0])), (qm, .inr (5, [.ref qc, .ref qh, .ref qs, .ref m5, .ref m0, .ref m1, .ref m2, .ref m3, .int 0, .ref m4, .int 0, .long 0, .int 0, .int 0, .int 0, .int 0, .ref qc, .int 0, .ref m1, .int 0]))] := hD
  have hK : va_K D classes [] s := hK
  refine W.widen (k := 1) (n := 6) (Nat.le_of_ble_eq_true rfl) (Nat.le_of_ble_eq_true rfl) ?_
  refine lv_astore_n (lv' := [(3, .ref x4_1), (0, .ref h0), (1, .int x1), (2, .ref qo)]) hx hb d_Law_packetAt_12 rfl hl (by decide) rfl (fun ls hl => ?_)
  refine lv_iconst (v := 1) hx hb d_Law_packetAt_13 (by decide) ?_
  exact fg_reti () hx hb hr hlocks rfl (hP.sub (ws' := [(h0, .inr (0, [.ref qt, .int 0, .ref qs, .int 0, .ref qc, .ref qh, .ref qf, .ref qe, .ref qm, .int 0, .int (-1), .int 0, .int 0, .int 0])), (qm, .inr (5, [.ref qc, .ref qh, .ref qs, .ref m5, .ref m0, .ref m1, .ref m2, .ref m3, .int 0, .ref m4, .int 0, .long 0, .int 0, .int 0, .int 0, .int 0, .ref qc, .int 0, .ref m1, .int 0]))]) [0, 1] rfl) (hK.sub (tys' := []) [] rfl) (hD.sub (ws' := [(h0, .inr (0, [.ref qt, .int 0, .ref qs, .int 0, .ref qc, .ref qh, .ref qf, .ref qe, .ref qm, .int 0, .int (-1), .int 0, .int 0, .int 0])), (qm, .inr (5, [.ref qc, .ref qh, .ref qs, .ref m5, .ref m0, .ref m1, .ref m2, .ref m3, .int 0, .ref m4, .int 0, .long 0, .int 0, .int 0, .int 0, .int 0, .ref qc, .int 0, .ref m1, .int 0]))]) [0, 1] (by decide) rfl) hS (Nat.le_of_ble_eq_true rfl) (Nat.le_of_ble_eq_true rfl) d_Law_packetAt_14
abbrev y_Law_told : MethodName := ⟨"FilterGuardLaw", "told", "(LFilterGuard;I[J)I"⟩
theorem d_Law_told_0 : decode method_11_code 0 = .ok (.aload_n 2, 1) := by decide +kernel
theorem d_Law_told_1 : decode method_11_code 1 = .ok (.iconst 0, 1) := by decide +kernel
theorem d_Law_told_2 : decode method_11_code 2 = .ok (.aload_n 0, 1) := by decide +kernel
theorem d_Law_told_3 : decode method_11_code 3 = .ok (.iload_n 1, 1) := by decide +kernel
theorem d_Law_told_4 : decode method_11_code 4 = .ok (.invokevirtual 46, 3) := by decide +kernel
theorem u_1729 : Cond.methodLink "FilterGuardLaw" 46 ⟨"FilterGuard", "told", "(I)J"⟩ ∈ fg_g := fg_in (List.mem_of_getElem? (i := 1729) (by decide +kernel)) rfl
theorem u_1732 : Cond.code ⟨"FilterGuard", "told", "(I)J"⟩ prog_1_method_17_code 2 (some .long) ∈ fg_g := fg_in (List.mem_of_getElem? (i := 1732) (by decide +kernel)) rfl
theorem u_1730 : Cond.instanceMethod ⟨"FilterGuard", "told", "(I)J"⟩ ∈ fg_g := fg_in (List.mem_of_getElem? (i := 1730) (by decide +kernel)) rfl
theorem u_1731 : Cond.selects "FilterGuard" ⟨"FilterGuard", "told", "(I)J"⟩ ⟨"FilterGuard", "told", "(I)J"⟩ ∈ fg_g := fg_in (List.mem_of_getElem? (i := 1731) (by decide +kernel)) rfl
theorem d_Law_told_11 : decode method_11_code 11 = .ok (.astore_n 3, 1) := by decide +kernel
theorem d_Law_told_12 : decode method_11_code 12 = .ok (.iconst 1, 1) := by decide +kernel
theorem d_Law_told_13 : decode method_11_code 13 = .ok (.ireturn, 1) := by decide +kernel
def rm_L_told : Room := { frames := 7, cells := 1, slots := 6, locals := 140 }
abbrev q_L_told (D : va_G) (h0 : Nat) (qt : Nat) (qs : Nat) (qc : Nat) (qh : Nat) (qf : Nat) (qe : Nat) (qm : Nat) (m0 : Nat) (m1 : Nat) (m2 : Nat) (m3 : Nat) (m4 : Nat) (m5 : Nat) (x1 : Int32) (qo : Nat) (A : Nat → Prop) : Array Value → Jvm.State → Outcome → Jvm.State → Prop := va_Qi (fun (r : Int32) (_ : Unit) => r = 1) (fg_B D A (fun (_ : Unit) => [(h0, .inr (0, [.ref qt, .int 0, .ref qs, .int 0, .ref qc, .ref qh, .ref qf, .ref qe, .ref qm, .int 0, .int (-1), .int 0, .int 0, .int 0])), (qm, .inr (5, [.ref qc, .ref qh, .ref qs, .ref m5, .ref m0, .ref m1, .ref m2, .ref m3, .int 0, .ref m4, .int 0, .long 0, .int 0, .int 0, .int 0, .int 0, .ref qc, .int 0, .ref m1, .int 0]))]) (fun (_ : Unit) => [])) A
set_option maxHeartbeats 4000000 in
set_option maxRecDepth 100000 in
theorem c_L_told (l : Launch) (D : va_G) (h0 : Nat) (qt : Nat) (qs : Nat) (qc : Nat) (qh : Nat) (qf : Nat) (qe : Nat) (qm : Nat) (m0 : Nat) (m1 : Nat) (m2 : Nat) (m3 : Nat) (m4 : Nat) (m5 : Nat) (x1 : Int32) (qo : Nat) (sz : Nat) (hl9 : l.stackTraces = false) : Met l y_Law_told (fg_wh y_Law_told method_11_code 4 (some .int) [(0, 8, 11, 25)]) rm_L_told (va_Pc [.ref h0, .int x1, .ref qo] (fg_PZ D [] [(h0, .inr (0, [.ref qt, .int 0, .ref qs, .int 0, .ref qc, .ref qh, .ref qf, .ref qe, .ref qm, .int 0, .int (-1), .int 0, .int 0, .int 0])), (qm, .inr (5, [.ref qc, .ref qh, .ref qs, .ref m5, .ref m0, .ref m1, .ref m2, .ref m3, .int 0, .ref m4, .int 0, .long 0, .int 0, .int 0, .int 0, .int 0, .ref qc, .int 0, .ref m1, .int 0]))] sz)) (q_L_told D h0 qt qs qc qh qf qe qm m0 m1 m2 m3 m4 m5 x1 qo (va_A [(h0, .inr (0, [.ref qt, .int 0, .ref qs, .int 0, .ref qc, .ref qh, .ref qf, .ref qe, .ref qm, .int 0, .int (-1), .int 0, .int 0, .int 0])), (qm, .inr (5, [.ref qc, .ref qh, .ref qs, .ref m5, .ref m0, .ref m1, .ref m2, .ref m3, .int 0, .ref m4, .int 0, .long 0, .int 0, .int 0, .int 0, .int 0, .ref qc, .int 0, .ref m1, .int 0]))] sz)) rm_L_told.cells rm_L_told.slots (va_A [(h0, .inr (0, [.ref qt, .int 0, .ref qs, .int 0, .ref qc, .ref qh, .ref qf, .ref qe, .ref qm, .int 0, .int (-1), .int 0, .int 0, .int 0])), (qm, .inr (5, [.ref qc, .ref qh, .ref qs, .ref m5, .ref m0, .ref m1, .ref m2, .ref m3, .int 0, .ref m4, .int 0, .long 0, .int 0, .int 0, .int 0, .int 0, .ref qc, .int 0, .ref m1, .int 0]))] sz) := by
  refine fg_enterH (fun A => q_L_told D h0 qt qs qc qh qf qe qm m0 m1 m2 m3 m4 m5 x1 qo A) (by decide +kernel) (Nat.le_of_ble_eq_true rfl) ?_
  intro p e s m below meth c ls A hx hb hml hown hts hr hlocks hin hP hK hD hS hA hX hl htab hz hy
  have hl : lv_has ls 4 [(0, .ref h0), (1, .int x1), (2, .ref qo)] := hl
  refine lv_aload_n hx hb d_Law_told_0 rfl (lv_at hl 2 rfl) ?_
  refine lv_iconst (v := 0) hx hb d_Law_told_1 (by decide) ?_
  refine lv_aload_n hx hb d_Law_told_2 rfl (lv_at hl 0 rfl) ?_
  refine lv_iload_n hx hb d_Law_told_3 rfl (lv_at hl 1 rfl) ?_
  refine fg_thenT (own := "FilterGuardLaw") (wr := []) (fg_runVT (C := "FilterGuard") (As := [.int x1]) (rest := [.int 0, .ref qo]) (ci := 0) (q0 := 0) ⟨hx, hb, hml, hown, hts⟩ (c_G_told l D h0 qt qs qc qh qf qe qm m0 m1 m2 m3 m4 m5 x1 s.heap.size hl9) rfl (by show fg_nm y_G_told 1; decide +kernel) u_1729 u_1730 u_1731 u_181 u_1732 ⟨Nat.le_of_ble_eq_true rfl, Nat.le_of_ble_eq_true rfl⟩ hX (hP.sub (ws' := [(h0, .inr (0, [.ref qt, .int 0, .ref qs, .int 0, .ref qc, .ref qh, .ref qf, .ref qe, .ref qm, .int 0, .int (-1), .int 0, .int 0, .int 0])), (qm, .inr (5, [.ref qc, .ref qh, .ref qs, .ref m5, .ref m0, .ref m1, .ref m2, .ref m3, .int 0, .ref m4, .int 0, .long 0, .int 0, .int 0, .int 0, .int 0, .ref qc, .int 0, .ref m1, .int 0]))]) [0, 1] rfl) (hK.sub (tys' := []) [] rfl) (hD.sub (ws' := [(h0, .inr (0, [.ref qt, .int 0, .ref qs, .int 0, .ref qc, .ref qh, .ref qf, .ref qe, .ref qm, .int 0, .int (-1), .int 0, .int 0, .int 0])), (qm, .inr (5, [.ref qc, .ref qh, .ref qs, .ref m5, .ref m0, .ref m1, .ref m2, .ref m3, .int 0, .ref m4, .int 0, .long 0, .int 0, .int 0, .int 0, .int 0, .ref qc, .int 0, .ref m1, .int 0]))]) [0, 1] (by decide) rfl) ((hz.kept hS.2.1).narrow (va_free hD hS hA [0, 1] rfl)) hy rfl rfl rfl rfl hl.1 (Nat.le_of_ble_eq_true rfl) d_Law_told_4 ⟨(Nat.le_of_ble_eq_true rfl), (Nat.le_of_ble_eq_true rfl)⟩) hP hD hK hS hA [0, 1] [] rfl rfl (by decide) (by decide) hown hts [(0, 8, 11, 25)] htab 0 11 (fun y hm => absurd hm (by simp)) ⟨0, 8, 25, rfl, by decide, by decide, by decide, u_1481⟩ (fun x4_1 u H locs hw4_0 hP hD hK hS => ?_)
  try dsimp only at hw4_0
  have hP : va_P D classes [(h0, .inr (0, [.ref qt, .int 0, .ref qs, .int 0, .ref qc, .ref qh, .ref qf, .ref qe, .ref qm, .int 0, .int (-1), .int 0, .int 0, .int 0])), (qm, .inr (5, [.ref qc, .ref qh, .ref qs, .ref m5, .ref m0, .ref m1, .ref m2, .ref m3, .int 0, .ref m4, .int 0, .long 0, .int 0, .int 0, .int 0, .int 0, .ref qc, .int 0, .ref m1, .int 0]))] H := hP
  have hD : va_D A [(h0, .inr (0, [.ref qt, .int 0, .ref qs, .int 0, .ref qc, .ref qh, .ref qf, .ref qe, .ref qm, .int 0, .int (-1), .int 0, .int 0, .int 0])), (qm, .inr (5, [.ref qc, .ref qh, .ref qs, .ref m5, .ref m0, .ref m1, .ref m2, .ref m3, .int 0, .ref m4, .int 0, .long 0, .int 0, .int 0, .int 0, .int 0, .ref qc, .int 0, .ref m1, .int 0]))] := hD
  have hK : va_K D classes [] s := hK
  refine W.widen (k := 1) (n := 6) (Nat.le_of_ble_eq_true rfl) (Nat.le_of_ble_eq_true rfl) ?_
  refine lv_astore_n (lv' := [(3, .ref x4_1), (0, .ref h0), (1, .int x1), (2, .ref qo)]) hx hb d_Law_told_11 rfl hl (by decide) rfl (fun ls hl => ?_)
  refine lv_iconst (v := 1) hx hb d_Law_told_12 (by decide) ?_
  exact fg_reti () hx hb hr hlocks rfl (hP.sub (ws' := [(h0, .inr (0, [.ref qt, .int 0, .ref qs, .int 0, .ref qc, .ref qh, .ref qf, .ref qe, .ref qm, .int 0, .int (-1), .int 0, .int 0, .int 0])), (qm, .inr (5, [.ref qc, .ref qh, .ref qs, .ref m5, .ref m0, .ref m1, .ref m2, .ref m3, .int 0, .ref m4, .int 0, .long 0, .int 0, .int 0, .int 0, .int 0, .ref qc, .int 0, .ref m1, .int 0]))]) [0, 1] rfl) (hK.sub (tys' := []) [] rfl) (hD.sub (ws' := [(h0, .inr (0, [.ref qt, .int 0, .ref qs, .int 0, .ref qc, .ref qh, .ref qf, .ref qe, .ref qm, .int 0, .int (-1), .int 0, .int 0, .int 0])), (qm, .inr (5, [.ref qc, .ref qh, .ref qs, .ref m5, .ref m0, .ref m1, .ref m2, .ref m3, .int 0, .ref m4, .int 0, .long 0, .int 0, .int 0, .int 0, .int 0, .ref qc, .int 0, .ref m1, .int 0]))]) [0, 1] (by decide) rfl) hS (Nat.le_of_ble_eq_true rfl) (Nat.le_of_ble_eq_true rfl) d_Law_told_13
abbrev y_Law_run : MethodName := ⟨"FilterGuardLaw", "run", "(LFilterGuard;I[J)I"⟩
theorem d_Law_run_0 : decode method_10_code 0 = .ok (.aload_n 2, 1) := by decide +kernel
theorem d_Law_run_1 : decode method_10_code 1 = .ok (.iconst 0, 1) := by decide +kernel
theorem d_Law_run_2 : decode method_10_code 2 = .ok (.aload_n 0, 1) := by decide +kernel
theorem d_Law_run_3 : decode method_10_code 3 = .ok (.iload_n 1, 1) := by decide +kernel
theorem d_Law_run_4 : decode method_10_code 4 = .ok (.invokevirtual 42, 3) := by decide +kernel
theorem u_1566 : Cond.methodLink "FilterGuardLaw" 42 ⟨"FilterGuard", "run", "(I)J"⟩ ∈ fg_g := fg_in (List.mem_of_getElem? (i := 1566) (by decide +kernel)) rfl
theorem u_1569 : Cond.code ⟨"FilterGuard", "run", "(I)J"⟩ prog_1_method_15_code 2 (some .long) ∈ fg_g := fg_in (List.mem_of_getElem? (i := 1569) (by decide +kernel)) rfl
theorem u_1567 : Cond.instanceMethod ⟨"FilterGuard", "run", "(I)J"⟩ ∈ fg_g := fg_in (List.mem_of_getElem? (i := 1567) (by decide +kernel)) rfl
theorem u_1568 : Cond.selects "FilterGuard" ⟨"FilterGuard", "run", "(I)J"⟩ ⟨"FilterGuard", "run", "(I)J"⟩ ∈ fg_g := fg_in (List.mem_of_getElem? (i := 1568) (by decide +kernel)) rfl
theorem d_Law_run_11 : decode method_10_code 11 = .ok (.astore_n 3, 1) := by decide +kernel
theorem d_Law_run_12 : decode method_10_code 12 = .ok (.iconst 1, 1) := by decide +kernel
theorem d_Law_run_13 : decode method_10_code 13 = .ok (.ireturn, 1) := by decide +kernel
def rm_L_runA : Room := { frames := 7, cells := 1, slots := 6, locals := 140 }
abbrev q_L_runA (D : va_G) (h0 : Nat) (qt : Nat) (qs : Nat) (qc : Nat) (qh : Nat) (qf : Nat) (qe : Nat) (qm : Nat) (x1 : Int32) (qo : Nat) (A : Nat → Prop) : Array Value → Jvm.State → Outcome → Jvm.State → Prop := va_Qi (fun (r : Int32) (_ : Unit) => r = 1) (fg_B D A (fun (_ : Unit) => [(h0, .inr (0, [.ref qt, .int 0, .ref qs, .int 0, .ref qc, .ref qh, .ref qf, .ref qe, .ref qm, .int 0, .int (-1), .int 0, .int 0, .int 0]))]) (fun (_ : Unit) => [])) A
set_option maxHeartbeats 4000000 in
set_option maxRecDepth 100000 in
theorem c_L_runA (l : Launch) (D : va_G) (h0 : Nat) (qt : Nat) (qs : Nat) (qc : Nat) (qh : Nat) (qf : Nat) (qe : Nat) (qm : Nat) (x1 : Int32) (qo : Nat) (sz : Nat) (hl9 : l.stackTraces = false) (hbad : x1 < 0 ∨ 2 < x1) : Met l y_Law_run (fg_wh y_Law_run method_10_code 4 (some .int) [(0, 8, 11, 13), (0, 8, 14, 15)]) rm_L_runA (va_Pc [.ref h0, .int x1, .ref qo] (fg_PZ D [] [(h0, .inr (0, [.ref qt, .int 0, .ref qs, .int 0, .ref qc, .ref qh, .ref qf, .ref qe, .ref qm, .int 0, .int (-1), .int 0, .int 0, .int 0]))] sz)) (q_L_runA D h0 qt qs qc qh qf qe qm x1 qo (va_A [(h0, .inr (0, [.ref qt, .int 0, .ref qs, .int 0, .ref qc, .ref qh, .ref qf, .ref qe, .ref qm, .int 0, .int (-1), .int 0, .int 0, .int 0]))] sz)) rm_L_runA.cells rm_L_runA.slots (va_A [(h0, .inr (0, [.ref qt, .int 0, .ref qs, .int 0, .ref qc, .ref qh, .ref qf, .ref qe, .ref qm, .int 0, .int (-1), .int 0, .int 0, .int 0]))] sz) := by
  refine fg_enterH (fun A => q_L_runA D h0 qt qs qc qh qf qe qm x1 qo A) (by decide +kernel) (Nat.le_of_ble_eq_true rfl) ?_
  intro p e s m below meth c ls A hx hb hml hown hts hr hlocks hin hP hK hD hS hA hX hl htab hz hy
  have hl : lv_has ls 4 [(0, .ref h0), (1, .int x1), (2, .ref qo)] := hl
  refine lv_aload_n hx hb d_Law_run_0 rfl (lv_at hl 2 rfl) ?_
  refine lv_iconst (v := 0) hx hb d_Law_run_1 (by decide) ?_
  refine lv_aload_n hx hb d_Law_run_2 rfl (lv_at hl 0 rfl) ?_
  refine lv_iload_n hx hb d_Law_run_3 rfl (lv_at hl 1 rfl) ?_
  refine fg_thenT (own := "FilterGuardLaw") (wr := []) (fg_runVT (C := "FilterGuard") (As := [.int x1]) (rest := [.int 0, .ref qo]) (ci := 0) (q0 := 0) ⟨hx, hb, hml, hown, hts⟩ (c_G_runA l D h0 qt qs qc qh qf qe qm x1 s.heap.size hl9 hbad) rfl (by show fg_nm y_G_run 1; decide +kernel) u_1566 u_1567 u_1568 u_181 u_1569 ⟨Nat.le_of_ble_eq_true rfl, Nat.le_of_ble_eq_true rfl⟩ hX (hP.sub (ws' := [(h0, .inr (0, [.ref qt, .int 0, .ref qs, .int 0, .ref qc, .ref qh, .ref qf, .ref qe, .ref qm, .int 0, .int (-1), .int 0, .int 0, .int 0]))]) [0] rfl) (hK.sub (tys' := []) [] rfl) (hD.sub (ws' := [(h0, .inr (0, [.ref qt, .int 0, .ref qs, .int 0, .ref qc, .ref qh, .ref qf, .ref qe, .ref qm, .int 0, .int (-1), .int 0, .int 0, .int 0]))]) [0] (by decide) rfl) ((hz.kept hS.2.1).narrow (va_free hD hS hA [0] rfl)) hy rfl rfl rfl rfl hl.1 (Nat.le_of_ble_eq_true rfl) d_Law_run_4 ⟨(Nat.le_of_ble_eq_true rfl), (Nat.le_of_ble_eq_true rfl)⟩) hP hD hK hS hA [0] [] rfl rfl (by decide) (by decide) hown hts [(0, 8, 11, 13), (0, 8, 14, 15)] htab 0 11 (fun y hm => absurd hm (by simp)) ⟨0, 8, 13, rfl, by decide, by decide, by decide, u_806⟩ (fun x4_1 u H locs hw4_0 hP hD hK hS => ?_)
  try dsimp only at hw4_0
  have hP : va_P D classes [(h0, .inr (0, [.ref qt, .int 0, .ref qs, .int 0, .ref qc, .ref qh, .ref qf, .ref qe, .ref qm, .int 0, .int (-1), .int 0, .int 0, .int 0]))] H := hP
  have hD : va_D A [(h0, .inr (0, [.ref qt, .int 0, .ref qs, .int 0, .ref qc, .ref qh, .ref qf, .ref qe, .ref qm, .int 0, .int (-1), .int 0, .int 0, .int 0]))] := hD
  have hK : va_K D classes [] s := hK
  refine W.widen (k := 1) (n := 6) (Nat.le_of_ble_eq_true rfl) (Nat.le_of_ble_eq_true rfl) ?_
  refine lv_astore_n (lv' := [(3, .ref x4_1), (0, .ref h0), (1, .int x1), (2, .ref qo)]) hx hb d_Law_run_11 rfl hl (by decide) rfl (fun ls hl => ?_)
  refine lv_iconst (v := 1) hx hb d_Law_run_12 (by decide) ?_
  exact fg_reti () hx hb hr hlocks rfl (hP.sub (ws' := [(h0, .inr (0, [.ref qt, .int 0, .ref qs, .int 0, .ref qc, .ref qh, .ref qf, .ref qe, .ref qm, .int 0, .int (-1), .int 0, .int 0, .int 0]))]) [0] rfl) (hK.sub (tys' := []) [] rfl) (hD.sub (ws' := [(h0, .inr (0, [.ref qt, .int 0, .ref qs, .int 0, .ref qc, .ref qh, .ref qf, .ref qe, .ref qm, .int 0, .int (-1), .int 0, .int 0, .int 0]))]) [0] (by decide) rfl) hS (Nat.le_of_ble_eq_true rfl) (Nat.le_of_ble_eq_true rfl) d_Law_run_13
theorem u_807 : Cond.classLink "FilterGuardLaw" 15 "java/lang/IllegalStateException" ∈ fg_g := fg_in (List.mem_of_getElem? (i := 807) (by decide +kernel)) rfl
theorem d_Law_run_14 : decode method_10_code 14 = .ok (.astore_n 3, 1) := by decide +kernel
theorem d_Law_run_15 : decode method_10_code 15 = .ok (.iconst 2, 1) := by decide +kernel
theorem d_Law_run_16 : decode method_10_code 16 = .ok (.ireturn, 1) := by decide +kernel
def rm_L_runS : Room := { frames := 7, cells := 1, slots := 6, locals := 140 }
abbrev q_L_runS (D : va_G) (h0 : Nat) (qt : Nat) (qs : Nat) (qc : Nat) (qh : Nat) (qf : Nat) (qe : Nat) (qm : Nat) (x1 : Int32) (qo : Nat) (A : Nat → Prop) : Array Value → Jvm.State → Outcome → Jvm.State → Prop := va_Qi (fun (r : Int32) (_ : Unit) => r = 2) (fg_B D A (fun (_ : Unit) => [(h0, .inr (0, [.ref qt, .int 0, .ref qs, .int 0, .ref qc, .ref qh, .ref qf, .ref qe, .ref qm, .int 0, .int (-1), .int 0, .int 0, .int 0]))]) (fun (_ : Unit) => [])) A
set_option maxHeartbeats 4000000 in
set_option maxRecDepth 100000 in
theorem c_L_runS (l : Launch) (D : va_G) (h0 : Nat) (qt : Nat) (qs : Nat) (qc : Nat) (qh : Nat) (qf : Nat) (qe : Nat) (qm : Nat) (x1 : Int32) (qo : Nat) (sz : Nat) (hl9 : l.stackTraces = false) (hok : ¬ x1 < 0 ∧ ¬ 2 < x1) : Met l y_Law_run (fg_wh y_Law_run method_10_code 4 (some .int) [(0, 8, 11, 13), (0, 8, 14, 15)]) rm_L_runS (va_Pc [.ref h0, .int x1, .ref qo] (fg_PZ D [] [(h0, .inr (0, [.ref qt, .int 0, .ref qs, .int 0, .ref qc, .ref qh, .ref qf, .ref qe, .ref qm, .int 0, .int (-1), .int 0, .int 0, .int 0]))] sz)) (q_L_runS D h0 qt qs qc qh qf qe qm x1 qo (va_A [(h0, .inr (0, [.ref qt, .int 0, .ref qs, .int 0, .ref qc, .ref qh, .ref qf, .ref qe, .ref qm, .int 0, .int (-1), .int 0, .int 0, .int 0]))] sz)) rm_L_runS.cells rm_L_runS.slots (va_A [(h0, .inr (0, [.ref qt, .int 0, .ref qs, .int 0, .ref qc, .ref qh, .ref qf, .ref qe, .ref qm, .int 0, .int (-1), .int 0, .int 0, .int 0]))] sz) := by
  refine fg_enterH (fun A => q_L_runS D h0 qt qs qc qh qf qe qm x1 qo A) (by decide +kernel) (Nat.le_of_ble_eq_true rfl) ?_
  intro p e s m below meth c ls A hx hb hml hown hts hr hlocks hin hP hK hD hS hA hX hl htab hz hy
  have hl : lv_has ls 4 [(0, .ref h0), (1, .int x1), (2, .ref qo)] := hl
  refine lv_aload_n hx hb d_Law_run_0 rfl (lv_at hl 2 rfl) ?_
  refine lv_iconst (v := 0) hx hb d_Law_run_1 (by decide) ?_
  refine lv_aload_n hx hb d_Law_run_2 rfl (lv_at hl 0 rfl) ?_
  refine lv_iload_n hx hb d_Law_run_3 rfl (lv_at hl 1 rfl) ?_
  refine fg_thenT (own := "FilterGuardLaw") (wr := []) (fg_runVT (C := "FilterGuard") (As := [.int x1]) (rest := [.int 0, .ref qo]) (ci := 0) (q0 := 0) ⟨hx, hb, hml, hown, hts⟩ (c_G_runS l D h0 qt qs qc qh qf qe qm x1 s.heap.size hl9 hok) rfl (by show fg_nm y_G_run 1; decide +kernel) u_1566 u_1567 u_1568 u_181 u_1569 ⟨Nat.le_of_ble_eq_true rfl, Nat.le_of_ble_eq_true rfl⟩ hX (hP.sub (ws' := [(h0, .inr (0, [.ref qt, .int 0, .ref qs, .int 0, .ref qc, .ref qh, .ref qf, .ref qe, .ref qm, .int 0, .int (-1), .int 0, .int 0, .int 0]))]) [0] rfl) (hK.sub (tys' := []) [] rfl) (hD.sub (ws' := [(h0, .inr (0, [.ref qt, .int 0, .ref qs, .int 0, .ref qc, .ref qh, .ref qf, .ref qe, .ref qm, .int 0, .int (-1), .int 0, .int 0, .int 0]))]) [0] (by decide) rfl) ((hz.kept hS.2.1).narrow (va_free hD hS hA [0] rfl)) hy rfl rfl rfl rfl hl.1 (Nat.le_of_ble_eq_true rfl) d_Law_run_4 ⟨(Nat.le_of_ble_eq_true rfl), (Nat.le_of_ble_eq_true rfl)⟩) hP hD hK hS hA [0] [] rfl rfl (by decide) (by decide) hown hts [(0, 8, 11, 13), (0, 8, 14, 15)] htab 1 14 (fun y hm => by rw [show List.take 1 [(0, 8, 11, 13), (0, 8, 14, 15)] = [(0, 8, 11, 13)] from rfl, List.mem_singleton] at hm; subst hm; exact ⟨⟨by decide, by decide⟩, by decide, _, u_806, hy.2⟩) ⟨0, 8, 15, rfl, by decide, by decide, by decide, u_807⟩ (fun x4_1 u H locs hw4_0 hP hD hK hS => ?_)
  try dsimp only at hw4_0
  have hP : va_P D classes [(h0, .inr (0, [.ref qt, .int 0, .ref qs, .int 0, .ref qc, .ref qh, .ref qf, .ref qe, .ref qm, .int 0, .int (-1), .int 0, .int 0, .int 0]))] H := hP
  have hD : va_D A [(h0, .inr (0, [.ref qt, .int 0, .ref qs, .int 0, .ref qc, .ref qh, .ref qf, .ref qe, .ref qm, .int 0, .int (-1), .int 0, .int 0, .int 0]))] := hD
  have hK : va_K D classes [] s := hK
  refine W.widen (k := 1) (n := 6) (Nat.le_of_ble_eq_true rfl) (Nat.le_of_ble_eq_true rfl) ?_
  refine lv_astore_n (lv' := [(3, .ref x4_1), (0, .ref h0), (1, .int x1), (2, .ref qo)]) hx hb d_Law_run_14 rfl hl (by decide) rfl (fun ls hl => ?_)
  refine lv_iconst (v := 2) hx hb d_Law_run_15 (by decide) ?_
  exact fg_reti () hx hb hr hlocks rfl (hP.sub (ws' := [(h0, .inr (0, [.ref qt, .int 0, .ref qs, .int 0, .ref qc, .ref qh, .ref qf, .ref qe, .ref qm, .int 0, .int (-1), .int 0, .int 0, .int 0]))]) [0] rfl) (hK.sub (tys' := []) [] rfl) (hD.sub (ws' := [(h0, .inr (0, [.ref qt, .int 0, .ref qs, .int 0, .ref qc, .ref qh, .ref qf, .ref qe, .ref qm, .int 0, .int (-1), .int 0, .int 0, .int 0]))]) [0] (by decide) rfl) hS (Nat.le_of_ble_eq_true rfl) (Nat.le_of_ble_eq_true rfl) d_Law_run_16
abbrev y_Law_map : MethodName := ⟨"FilterGuardLaw", "map", "(LFilterGuard;IIII[J)I"⟩
theorem d_Law_map_0 : decode method_3_code 0 = .ok (.aload 5, 2) := by decide +kernel
theorem d_Law_map_2 : decode method_3_code 2 = .ok (.iconst 0, 1) := by decide +kernel
theorem d_Law_map_3 : decode method_3_code 3 = .ok (.aload_n 0, 1) := by decide +kernel
theorem d_Law_map_4 : decode method_3_code 4 = .ok (.iload_n 1, 1) := by decide +kernel
theorem d_Law_map_5 : decode method_3_code 5 = .ok (.iload_n 2, 1) := by decide +kernel
theorem d_Law_map_6 : decode method_3_code 6 = .ok (.iload_n 3, 1) := by decide +kernel
theorem d_Law_map_7 : decode method_3_code 7 = .ok (.iload 4, 2) := by decide +kernel
theorem d_Law_map_9 : decode method_3_code 9 = .ok (.invokevirtual 7, 3) := by decide +kernel
theorem u_808 : Cond.methodLink "FilterGuardLaw" 7 ⟨"FilterGuard", "map", "(IIII)I"⟩ ∈ fg_g := fg_in (List.mem_of_getElem? (i := 808) (by decide +kernel)) rfl
theorem u_811 : Cond.code ⟨"FilterGuard", "map", "(IIII)I"⟩ prog_1_method_4_code 6 (some .int) ∈ fg_g := fg_in (List.mem_of_getElem? (i := 811) (by decide +kernel)) rfl
theorem u_809 : Cond.instanceMethod ⟨"FilterGuard", "map", "(IIII)I"⟩ ∈ fg_g := fg_in (List.mem_of_getElem? (i := 809) (by decide +kernel)) rfl
theorem u_810 : Cond.selects "FilterGuard" ⟨"FilterGuard", "map", "(IIII)I"⟩ ⟨"FilterGuard", "map", "(IIII)I"⟩ ∈ fg_g := fg_in (List.mem_of_getElem? (i := 810) (by decide +kernel)) rfl
theorem d_Law_map_17 : decode method_3_code 17 = .ok (.astore 6, 2) := by decide +kernel
theorem d_Law_map_19 : decode method_3_code 19 = .ok (.iconst 1, 1) := by decide +kernel
theorem d_Law_map_20 : decode method_3_code 20 = .ok (.ireturn, 1) := by decide +kernel
def rm_L_mapT : Room := { frames := 7, cells := 1, slots := 6, locals := 140 }
abbrev q_L_mapT (D : va_G) (h0 : Nat) (qt : Nat) (qs : Nat) (qc : Nat) (qh : Nat) (qf : Nat) (qe : Nat) (qm : Nat) (x1 : Int32) (x2 : Int32) (x3 : Int32) (x4 : Int32) (qo : Nat) (A : Nat → Prop) : Array Value → Jvm.State → Outcome → Jvm.State → Prop := va_Qi (fun (r : Int32) (_ : Unit) => r = 1) (fg_B D A (fun (_ : Unit) => [(h0, .inr (0, [.ref qt, .int 0, .ref qs, .int 0, .ref qc, .ref qh, .ref qf, .ref qe, .ref qm, .int 0, .int (-1), .int 0, .int 0, .int 0]))]) (fun (_ : Unit) => [])) A
set_option maxHeartbeats 4000000 in
set_option maxRecDepth 100000 in
theorem c_L_mapT (l : Launch) (D : va_G) (h0 : Nat) (qt : Nat) (qs : Nat) (qc : Nat) (qh : Nat) (qf : Nat) (qe : Nat) (qm : Nat) (x1 : Int32) (x2 : Int32) (x3 : Int32) (x4 : Int32) (qo : Nat) (sz : Nat) (hl9 : l.stackTraces = false) (hbad : ¬ fg_mapok x1 x2 x3 x4) : Met l y_Law_map (fg_wh y_Law_map method_3_code 7 (some .int) [(0, 14, 17, 13), (0, 14, 21, 15)]) rm_L_mapT (va_Pc [.ref h0, .int x1, .int x2, .int x3, .int x4, .ref qo] (fg_PZ D [] [(h0, .inr (0, [.ref qt, .int 0, .ref qs, .int 0, .ref qc, .ref qh, .ref qf, .ref qe, .ref qm, .int 0, .int (-1), .int 0, .int 0, .int 0]))] sz)) (q_L_mapT D h0 qt qs qc qh qf qe qm x1 x2 x3 x4 qo (va_A [(h0, .inr (0, [.ref qt, .int 0, .ref qs, .int 0, .ref qc, .ref qh, .ref qf, .ref qe, .ref qm, .int 0, .int (-1), .int 0, .int 0, .int 0]))] sz)) rm_L_mapT.cells rm_L_mapT.slots (va_A [(h0, .inr (0, [.ref qt, .int 0, .ref qs, .int 0, .ref qc, .ref qh, .ref qf, .ref qe, .ref qm, .int 0, .int (-1), .int 0, .int 0, .int 0]))] sz) := by
  refine fg_enterH (fun A => q_L_mapT D h0 qt qs qc qh qf qe qm x1 x2 x3 x4 qo A) (by decide +kernel) (Nat.le_of_ble_eq_true rfl) ?_
  intro p e s m below meth c ls A hx hb hml hown hts hr hlocks hin hP hK hD hS hA hX hl htab hz hy
  have hl : lv_has ls 7 [(0, .ref h0), (1, .int x1), (2, .int x2), (3, .int x3), (4, .int x4), (5, .ref qo)] := hl
  refine lv_aload hx hb d_Law_map_0 (lv_at hl 5 rfl) ?_
  refine lv_iconst (v := 0) hx hb d_Law_map_2 (by decide) ?_
  refine lv_aload_n hx hb d_Law_map_3 rfl (lv_at hl 0 rfl) ?_
  refine lv_iload_n hx hb d_Law_map_4 rfl (lv_at hl 1 rfl) ?_
  refine lv_iload_n hx hb d_Law_map_5 rfl (lv_at hl 2 rfl) ?_
  refine lv_iload_n hx hb d_Law_map_6 rfl (lv_at hl 3 rfl) ?_
  refine lv_iload hx hb d_Law_map_7 (lv_at hl 4 rfl) ?_
  refine fg_thenT (own := "FilterGuardLaw") (wr := []) (fg_runVT (C := "FilterGuard") (As := [.int x1, .int x2, .int x3, .int x4]) (rest := [.int 0, .ref qo]) (ci := 0) (q0 := 0) ⟨hx, hb, hml, hown, hts⟩ (c_G_mapT l D h0 qt qs qc qh qf qe qm x1 x2 x3 x4 s.heap.size hl9 hbad) rfl (by show fg_nm y_G_map 4; decide +kernel) u_808 u_809 u_810 u_181 u_811 ⟨Nat.le_of_ble_eq_true rfl, Nat.le_of_ble_eq_true rfl⟩ hX (hP.sub (ws' := [(h0, .inr (0, [.ref qt, .int 0, .ref qs, .int 0, .ref qc, .ref qh, .ref qf, .ref qe, .ref qm, .int 0, .int (-1), .int 0, .int 0, .int 0]))]) [0] rfl) (hK.sub (tys' := []) [] rfl) (hD.sub (ws' := [(h0, .inr (0, [.ref qt, .int 0, .ref qs, .int 0, .ref qc, .ref qh, .ref qf, .ref qe, .ref qm, .int 0, .int (-1), .int 0, .int 0, .int 0]))]) [0] (by decide) rfl) ((hz.kept hS.2.1).narrow (va_free hD hS hA [0] rfl)) hy rfl rfl rfl rfl hl.1 (Nat.le_of_ble_eq_true rfl) d_Law_map_9 ⟨(Nat.le_of_ble_eq_true rfl), (Nat.le_of_ble_eq_true rfl)⟩) hP hD hK hS hA [0] [] rfl rfl (by decide) (by decide) hown hts [(0, 14, 17, 13), (0, 14, 21, 15)] htab 0 17 (fun y hm => absurd hm (by simp)) ⟨0, 14, 13, rfl, by decide, by decide, by decide, u_806⟩ (fun x9_1 u H locs hw9_0 hP hD hK hS => ?_)
  try dsimp only at hw9_0
  have hP : va_P D classes [(h0, .inr (0, [.ref qt, .int 0, .ref qs, .int 0, .ref qc, .ref qh, .ref qf, .ref qe, .ref qm, .int 0, .int (-1), .int 0, .int 0, .int 0]))] H := hP
  have hD : va_D A [(h0, .inr (0, [.ref qt, .int 0, .ref qs, .int 0, .ref qc, .ref qh, .ref qf, .ref qe, .ref qm, .int 0, .int (-1), .int 0, .int 0, .int 0]))] := hD
  have hK : va_K D classes [] s := hK
  refine W.widen (k := 1) (n := 6) (Nat.le_of_ble_eq_true rfl) (Nat.le_of_ble_eq_true rfl) ?_
  refine lv_astore (lv' := [(6, .ref x9_1), (0, .ref h0), (1, .int x1), (2, .int x2), (3, .int x3), (4, .int x4), (5, .ref qo)]) hx hb d_Law_map_17 hl (by decide) rfl (fun ls hl => ?_)
  refine lv_iconst (v := 1) hx hb d_Law_map_19 (by decide) ?_
  exact fg_reti () hx hb hr hlocks rfl (hP.sub (ws' := [(h0, .inr (0, [.ref qt, .int 0, .ref qs, .int 0, .ref qc, .ref qh, .ref qf, .ref qe, .ref qm, .int 0, .int (-1), .int 0, .int 0, .int 0]))]) [0] rfl) (hK.sub (tys' := []) [] rfl) (hD.sub (ws' := [(h0, .inr (0, [.ref qt, .int 0, .ref qs, .int 0, .ref qc, .ref qh, .ref qf, .ref qe, .ref qm, .int 0, .int (-1), .int 0, .int 0, .int 0]))]) [0] (by decide) rfl) hS (Nat.le_of_ble_eq_true rfl) (Nat.le_of_ble_eq_true rfl) d_Law_map_20
theorem d_Law_map_12 : decode method_3_code 12 = .ok (.i2l, 1) := by decide +kernel
theorem d_Law_map_13 : decode method_3_code 13 = .ok (.lastore, 1) := by decide +kernel
theorem d_Law_map_14 : decode method_3_code 14 = .ok (.goto 11, 3) := by decide +kernel
theorem d_Law_map_25 : decode method_3_code 25 = .ok (.iconst 0, 1) := by decide +kernel
theorem d_Law_map_26 : decode method_3_code 26 = .ok (.ireturn, 1) := by decide +kernel
def rm_L_mapO : Room := { frames := 3, cells := 4, slots := 5191, locals := 100 }
abbrev q_L_mapO (D : va_G) (h0 : Nat) (qt : Nat) (qs : Nat) (qc : Nat) (qh : Nat) (qf : Nat) (qe : Nat) (qm : Nat) (ks : ClassId) (fs0 : (Nat → Option Nat)) (x1 : Int32) (x2 : Int32) (x3 : Int32) (x4 : Int32) (qo : Nat) (ko : ClassId) (fo : (Nat → Int64)) (A : Nat → Prop) : Array Value → Jvm.State → Outcome → Jvm.State → Prop := va_Qi (fun (r : Int32) (f1 : (Nat → Int64)) => r = 0 ∧ f1 0 = 0) (fg_B D A (fun (f1 : (Nat → Int64)) => [(qo, .inl (ko, 1, .inr (.inl f1)))]) (fun (f1 : (Nat → Int64)) => [])) A
set_option maxHeartbeats 4000000 in
set_option maxRecDepth 100000 in
theorem c_L_mapO (l : Launch) (D : va_G) (h0 : Nat) (qt : Nat) (qs : Nat) (qc : Nat) (qh : Nat) (qf : Nat) (qe : Nat) (qm : Nat) (ks : ClassId) (fs0 : (Nat → Option Nat)) (x1 : Int32) (x2 : Int32) (x3 : Int32) (x4 : Int32) (qo : Nat) (ko : ClassId) (fo : (Nat → Int64)) (sz : Nat) (hl9 : l.stackTraces = false) (hok : fg_mapok x1 x2 x3 x4) : Met l y_Law_map (fg_wh y_Law_map method_3_code 7 (some .int) [(0, 14, 17, 13), (0, 14, 21, 15)]) rm_L_mapO (va_Pc [.ref h0, .int x1, .int x2, .int x3, .int x4, .ref qo] (fg_PZ D [(ks, (.object "FilterGuard$Store")), (ko, .long)] [(h0, .inr (0, [.ref qt, .int 0, .ref qs, .int 0, .ref qc, .ref qh, .ref qf, .ref qe, .ref qm, .int 0, .int (-1), .int 0, .int 0, .int 0])), (qs, .inl (ks, 4, .inr (.inr (.inr (.inr fs0))))), (qo, .inl (ko, 1, .inr (.inl fo)))] sz)) (q_L_mapO D h0 qt qs qc qh qf qe qm ks fs0 x1 x2 x3 x4 qo ko fo (va_A [(h0, .inr (0, [.ref qt, .int 0, .ref qs, .int 0, .ref qc, .ref qh, .ref qf, .ref qe, .ref qm, .int 0, .int (-1), .int 0, .int 0, .int 0])), (qs, .inl (ks, 4, .inr (.inr (.inr (.inr fs0))))), (qo, .inl (ko, 1, .inr (.inl fo)))] sz)) rm_L_mapO.cells rm_L_mapO.slots (va_A [(h0, .inr (0, [.ref qt, .int 0, .ref qs, .int 0, .ref qc, .ref qh, .ref qf, .ref qe, .ref qm, .int 0, .int (-1), .int 0, .int 0, .int 0])), (qs, .inl (ks, 4, .inr (.inr (.inr (.inr fs0))))), (qo, .inl (ko, 1, .inr (.inl fo)))] sz) := by
  refine fg_enterH (fun A => q_L_mapO D h0 qt qs qc qh qf qe qm ks fs0 x1 x2 x3 x4 qo ko fo A) (by decide +kernel) (Nat.le_of_ble_eq_true rfl) ?_
  intro p e s m below meth c ls A hx hb hml hown hts hr hlocks hin hP hK hD hS hA hX hl htab hz hy
  have hl : lv_has ls 7 [(0, .ref h0), (1, .int x1), (2, .int x2), (3, .int x3), (4, .int x4), (5, .ref qo)] := hl
  refine lv_aload hx hb d_Law_map_0 (lv_at hl 5 rfl) ?_
  refine lv_iconst (v := 0) hx hb d_Law_map_2 (by decide) ?_
  refine lv_aload_n hx hb d_Law_map_3 rfl (lv_at hl 0 rfl) ?_
  refine lv_iload_n hx hb d_Law_map_4 rfl (lv_at hl 1 rfl) ?_
  refine lv_iload_n hx hb d_Law_map_5 rfl (lv_at hl 2 rfl) ?_
  refine lv_iload_n hx hb d_Law_map_6 rfl (lv_at hl 3 rfl) ?_
  refine lv_iload hx hb d_Law_map_7 (lv_at hl 4 rfl) ?_
  refine fg_theni (wr := [(qo, .inl (ko, 1, .inr (.inl fo)))]) (fg_runV (C := "FilterGuard") (As := [.int x1, .int x2, .int x3, .int x4]) (rest := [.int 0, .ref qo]) (ci := 0) (q0 := 0) ⟨hx, hb, hml, hown, hts⟩ (c_G_mapO l D h0 qt qs qc qh qf qe qm ks fs0 x1 x2 x3 x4 s.heap.size hok) rfl (by show fg_nm y_G_map 4; decide +kernel) u_808 u_809 u_810 u_181 u_811 ⟨Nat.le_of_ble_eq_true rfl, Nat.le_of_ble_eq_true rfl⟩ hX (hP.sub (ws' := [(h0, .inr (0, [.ref qt, .int 0, .ref qs, .int 0, .ref qc, .ref qh, .ref qf, .ref qe, .ref qm, .int 0, .int (-1), .int 0, .int 0, .int 0])), (qs, .inl (ks, 4, .inr (.inr (.inr (.inr fs0)))))]) [0, 1] rfl) (hK.sub (tys' := [(ks, (.object "FilterGuard$Store"))]) [0] rfl) (hD.sub (ws' := [(h0, .inr (0, [.ref qt, .int 0, .ref qs, .int 0, .ref qc, .ref qh, .ref qf, .ref qe, .ref qm, .int 0, .int (-1), .int 0, .int 0, .int 0])), (qs, .inl (ks, 4, .inr (.inr (.inr (.inr fs0)))))]) [0, 1] (by decide) rfl) rfl rfl rfl rfl hl.1 (Nat.le_of_ble_eq_true rfl) d_Law_map_9 ⟨(Nat.le_of_ble_eq_true rfl), (Nat.le_of_ble_eq_true rfl)⟩) hP hD hK hS hA [0, 1] [2] rfl rfl (by decide) (by decide) (fun r9_1 u H locs hw9_0 hP hD hK hS => ?_)
  try dsimp only at hw9_0
  have hP : va_P D classes [(qo, .inl (ko, 1, .inr (.inl fo)))] H := hP
  have hD : va_D A [(qo, .inl (ko, 1, .inr (.inl fo)))] := hD
  have hK : va_K D classes [(ks, (.object "FilterGuard$Store")), (ko, .long)] s := hK
  refine W.widen (k := 4) (n := 5191) (Nat.le_of_ble_eq_true rfl) (Nat.le_of_ble_eq_true rfl) ?_
  subst hw9_0
  refine lv_i2l (v := 0) hx hb d_Law_map_12 (by decide) ?_
  refine va_last hx hb hK hP hD hS 0 1 rfl rfl (by unfold vp_in; decide) d_Law_map_13 (fun H locs hP hD hS => ?_)
  have hP : va_P D classes [(qo, .inl (ko, 1, .inr (.inl (vp_updL fo ((0 : Int32).toNatClampNeg) 0))))] H := hP
  have hD : va_D A [(qo, .inl (ko, 1, .inr (.inl (vp_updL fo ((0 : Int32).toNatClampNeg) 0))))] := hD
  obtain ⟨f_2, ef_2⟩ : ∃ g : Nat → Int64, g = vp_updL fo ((0 : Int32).toNatClampNeg) 0 := ⟨_, rfl⟩
  rw [← ef_2] at hP hD
  refine lv_goto (tgt := 25) hx hb d_Law_map_14 (by decide) ?_
  refine lv_iconst (v := 0) hx hb d_Law_map_25 (by decide) ?_
  exact fg_reti (f_2) hx hb hr hlocks ⟨rfl, by rw [ef_2]; rfl⟩ (hP.sub (ws' := [(qo, .inl (ko, 1, .inr (.inl f_2)))]) [0] rfl) (hK.sub (tys' := []) [] rfl) (hD.sub (ws' := [(qo, .inl (ko, 1, .inr (.inl f_2)))]) [0] (by decide) rfl) hS (Nat.le_of_ble_eq_true rfl) (Nat.le_of_ble_eq_true rfl) d_Law_map_26
