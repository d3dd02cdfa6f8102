theorem d_G_run_0 : decode prog_1_method_15_code 0 = .ok (.iload_n 1, 1) := by decide +kernel
theorem d_G_run_1 : decode prog_1_method_15_code 1 = .ok (.ifCond .lt 8, 3) := by decide +kernel
theorem d_G_run_9 : decode prog_1_method_15_code 9 = .ok (.new 78, 3) := by decide +kernel
theorem d_G_run_4 : decode prog_1_method_15_code 4 = .ok (.iload_n 1, 1) := by decide +kernel
theorem d_G_run_5 : decode prog_1_method_15_code 5 = .ok (.iconst 2, 1) := by decide +kernel
theorem d_G_run_6 : decode prog_1_method_15_code 6 = .ok (.if_icmp .le 13, 3) := by decide +kernel
theorem d_G_run_19 : decode prog_1_method_15_code 19 = .ok (.aload_n 0, 1) := by decide +kernel
theorem d_G_run_20 : decode prog_1_method_15_code 20 = .ok (.getfield 129, 3) := by decide +kernel
theorem d_G_run_23 : decode prog_1_method_15_code 23 = .ok (.ifCond .ne 13, 3) := by decide +kernel
theorem d_G_run_36 : decode prog_1_method_15_code 36 = .ok (.aload_n 0, 1) := by decide +kernel
theorem d_G_run_37 : decode prog_1_method_15_code 37 = .ok (.getfield 50, 3) := by decide +kernel
theorem d_G_run_40 : decode prog_1_method_15_code 40 = .ok (.iload_n 1, 1) := by decide +kernel
theorem d_G_run_41 : decode prog_1_method_15_code 41 = .ok (.invokevirtual 213, 3) := by decide +kernel
theorem u_1572 : Cond.methodLink "FilterGuard" 213 ⟨"FilterGuard$Machine", "go", "(I)J"⟩ ∈ fg_g := fg_in (List.mem_of_getElem? (i := 1572) (by decide +kernel)) rfl
theorem u_1575 : Cond.code ⟨"FilterGuard$Machine", "go", "(I)J"⟩ prog_7_method_4_code 4 (some .long) ∈ fg_g := fg_in (List.mem_of_getElem? (i := 1575) (by decide +kernel)) rfl
theorem u_1573 : Cond.instanceMethod ⟨"FilterGuard$Machine", "go", "(I)J"⟩ ∈ fg_g := fg_in (List.mem_of_getElem? (i := 1573) (by decide +kernel)) rfl
theorem u_1574 : Cond.selects "FilterGuard$Machine" ⟨"FilterGuard$Machine", "go", "(I)J"⟩ ⟨"FilterGuard$Machine", "go", "(I)J"⟩ ∈ fg_g := fg_in (List.mem_of_getElem? (i := 1574) (by decide +kernel)) rfl
theorem d_G_run_44 : decode prog_1_method_15_code 44 = .ok (.lreturn, 1) := by decide +kernel
theorem d_G_run_26 : decode prog_1_method_15_code 26 = .ok (.new 92, 3) := by decide +kernel
abbrev y_G_run : MethodName := ⟨"FilterGuard", "run", "(I)J"⟩
theorem o_1570 : Cond.stringRef "FilterGuard" 209 "no such mode" ∈ lw_tbl := List.mem_of_getElem? (i := 1570) (by decide +kernel)
theorem d_G_run_12 : decode prog_1_method_15_code 12 = .ok (.dup, 1) := by decide +kernel
theorem d_G_run_13 : decode prog_1_method_15_code 13 = .ok (.ldc 209, 2) := by decide +kernel
theorem d_G_run_15 : decode prog_1_method_15_code 15 = .ok (.invokespecial 82, 3) := by decide +kernel
theorem d_G_run_18 : decode prog_1_method_15_code 18 = .ok (.athrow, 1) := by decide +kernel
theorem o_1571 : Cond.stringRef "FilterGuard" 211 "no program" ∈ lw_tbl := List.mem_of_getElem? (i := 1571) (by decide +kernel)
theorem d_G_run_29 : decode prog_1_method_15_code 29 = .ok (.dup, 1) := by decide +kernel
theorem d_G_run_30 : decode prog_1_method_15_code 30 = .ok (.ldc 211, 2) := by decide +kernel
theorem d_G_run_32 : decode prog_1_method_15_code 32 = .ok (.invokespecial 96, 3) := by decide +kernel
theorem d_G_run_35 : decode prog_1_method_15_code 35 = .ok (.athrow, 1) := by decide +kernel
def f_G_run (M0 : me_M) (j0 : Nat) (x1 : Int32) : Option (me_M × Int64) := (if x1 < 0 then none else (if x1 ≤ 2 then (if (mI M0 0 j0 12) = 0 then none else bd (mR M0 0 j0 8) (fun (j5 : Nat) => b2 (f_Machine_go M0 j5 x1) (fun (M7 : me_M) (r8 : Int64) => some (M7, r8)))) else none))
def rm_G_run : Room := { frames := 8, cells := 0, slots := 0, locals := 203 }
abbrev q_G_run (D : va_G) (ad : Nat → Nat → Nat) (ca : Nat → ClassId) (N : Nat → Nat) (M0 MZ : me_M) (RZ : Int64) (A : Nat → Prop) : Array Value → Jvm.State → Outcome → Jvm.State → Prop := va_Ql (fun r (_ : Unit) => r = RZ ∧ me_wf N MZ ∧ me_kz M0 MZ) (fg_B D A (fun _ => me_W ad ca MZ) (fun _ => [])) A
set_option maxHeartbeats 4000000 in
set_option maxRecDepth 100000 in
theorem c_G_run (l : Launch) (D : va_G) (ad : Nat → Nat → Nat) (ca : Nat → ClassId) (N : Nat → Nat) (M0 MZ : me_M) (RZ : Int64) (j0 : Nat) (x1 : Int32) (h : f_G_run M0 j0 x1 = (some (MZ, RZ))) (hwf : me_wf N M0) (hj0 : j0 < N 0) (sz : Nat) : Met l y_G_run (fg_w y_G_run prog_1_method_15_code 2 (some .long)) rm_G_run (va_Pc [.ref (ad 0 j0), .int x1] (fz_P D (me_T ca) (me_W ad ca M0) sz)) (q_G_run D ad ca N M0 MZ RZ (va_A (me_W ad ca M0) sz)) rm_G_run.cells rm_G_run.slots (va_A (me_W ad ca M0) sz) := by
  refine fz_enter (fun A => q_G_run D ad ca N M0 MZ RZ A) (by decide +kernel) (Nat.le_of_ble_eq_true rfl) ?_
  intro p e s m below meth c ls A hx hb hml hown hts hr hlocks hin hP hK hD hS hA hX hl hz
  have hl : lv_has ls 2 [(0, .ref (ad 0 j0)), (1, .int x1)] := hl
  unfold f_G_run at h
  have hkp : me_kz M0 M0 := me_kz.rf
  have hkb := hkp
  refine lv_iload_n hx hb d_G_run_0 rfl (lv_at hl 1 rfl) ?_
  refine lv_if_lt (tgt := 9) hx hb d_G_run_1 (by decide) (fun c1 => ?_) (fun c1 => ?_)
  · have h := if_t c1 h
    exact absurd h (by simp)
  have h := if_f c1 h
  refine lv_iload_n hx hb d_G_run_4 rfl (lv_at hl 1 rfl) ?_
  refine lv_iconst (v := 2) hx hb d_G_run_5 (by decide) ?_
  refine lv_icmp_le (tgt := 19) hx hb d_G_run_6 (by decide) (fun c2 => ?_) (fun c2 => ?_)
  · have h := if_t c2 h
    refine lv_aload_n hx hb d_G_run_19 rfl (lv_at hl 0 rfl) ?_
    refine g_G_12 hx hb hts hown hK hP hwf hj0 (hts _ u_705) d_G_run_20 ?_
    have z3 := (hwf.2.2.2 0 j0 12 rfl)
    refine lv_if_ne (tgt := 36) hx hb d_G_run_23 (by decide) (fun c4 => ?_) (fun c4 => ?_)
    · have h := if_f c4 h
      refine lv_aload_n hx hb d_G_run_36 rfl (lv_at hl 0 rfl) ?_
      refine g_G_8 hx hb hts hown hK hP hwf hj0 (hts _ u_701) d_G_run_37 ?_
      obtain ⟨j5, e6, h⟩ := bd_ob h
      have hj5 : j5 < N 5 := (hwf.2.1 0 j0 8 _ e6 (by decide) hj0)
      refine me_opt (j := j5) e6 ?_
      refine lv_iload_n hx hb d_G_run_40 rfl (lv_at hl 1 rfl) ?_
      obtain ⟨M7, r8, eM7, h⟩ := b2_ob h
      refine me_thenl0 (M1 := M7) (me_runV (C := "FilterGuard$Machine") (As := [.int x1]) (rest := []) ⟨hx, hb, hml, hown, hts⟩ (c_Machine_go l D ad ca N M0 M7 r8 j5 x1 eM7 hwf hj5 _) rfl (by show fg_nm y_Machine_go 1; decide +kernel) u_1572 u_1573 u_1574 u_190 u_1575 ⟨Nat.le_of_ble_eq_true rfl, Nat.le_of_ble_eq_true rfl⟩ hX hz hK hP hD hwf hS hA hj5 (by decide) rfl rfl rfl hl.1 (Nat.le_of_ble_eq_true rfl) d_G_run_41 ⟨Nat.le_of_ble_eq_true rfl, Nat.le_of_ble_eq_true rfl⟩) hP hD hK hS hA rfl rfl (fun H locs hw hP hD hS => ?_)
      obtain ⟨hwf, hk9⟩ := hw
      have hkp := hkp.tr hk9
      exact me_retl (me_kz M0) h hx hb hr hlocks hwf hkp hP hK hD hS d_G_run_44
    have h := if_t c4 h
    exact absurd h (by simp)
  have h := if_f c2 h
  exact absurd h (by simp)
def fT1_G_run (M0 : me_M) (j0 : Nat) (x1 : Int32) : Option me_M := (if x1 < 0 then some M0 else (if x1 ≤ 2 then (if (mI M0 0 j0 12) = 0 then none else bd (mR M0 0 j0 8) (fun (j6 : Nat) => b2 (f_Machine_go M0 j6 x1) (fun (M8 : me_M) (r9 : Int64) => none))) else some M0))
def rmT1_G_run : Room := { frames := 8, cells := 1, slots := 6, locals := 203 }
abbrev qT1_G_run (D : va_G) (ad : Nat → Nat → Nat) (ca : Nat → ClassId) (N : Nat → Nat) (M0 MZ : me_M) (A : Nat → Prop) : Array Value → Jvm.State → Outcome → Jvm.State → Prop := fg_Qt "java/lang/IllegalArgumentException" (fun (_ : Unit) => me_wf N MZ ∧ me_kz M0 MZ) (fg_B D A (fun _ => me_W ad ca MZ) (fun _ => [])) A
set_option maxHeartbeats 4000000 in
set_option maxRecDepth 100000 in
theorem cT1_G_run (l : Launch) (hl9 : l.stackTraces = false) (D : va_G) (ad : Nat → Nat → Nat) (ca : Nat → ClassId) (N : Nat → Nat) (M0 MZ : me_M) (j0 : Nat) (x1 : Int32) (h : fT1_G_run M0 j0 x1 = (some MZ)) (hwf : me_wf N M0) (hj0 : j0 < N 0) (sz : Nat) : fg_MetT l y_G_run (fg_w y_G_run prog_1_method_15_code 2 (some .long)) rmT1_G_run (va_Pc [.ref (ad 0 j0), .int x1] (fg_PZ D (me_T ca) (me_W ad ca M0) sz)) (qT1_G_run D ad ca N M0 MZ (va_A (me_W ad ca M0) sz)) rmT1_G_run.cells rmT1_G_run.slots (va_A (me_W ad ca M0) sz) := by
  refine fg_enterT (fun A => qT1_G_run D ad ca N M0 MZ A) (by decide +kernel) (Nat.le_of_ble_eq_true rfl) ?_
  intro p e s m below meth c ls A hx hb hml hown hts hr hlocks hin hP hK hD hS hA hX hl hno hz hy
  have hz0 := hz.1
  have hz := hz.2
  have hl : lv_has ls 2 [(0, .ref (ad 0 j0)), (1, .int x1)] := hl
  unfold fT1_G_run at h
  have hkp : me_kz M0 M0 := me_kz.rf
  have hkb := hkp
  refine lv_iload_n hx hb d_G_run_0 rfl (lv_at hl 1 rfl) ?_
  refine lv_if_lt (tgt := 9) hx hb d_G_run_1 (by decide) (fun c1 => ?_) (fun c1 => ?_)
  · have h := if_t c1 h
    obtain ⟨hwf, hkp, hP, hD⟩ := me_sub1 (me_kz M0) h hwf hkp hP hD
    obtain ⟨qs2, hqs2⟩ := hy.1 _ _ _ o_1570
    exact fg_throw (X := "java/lang/IllegalArgumentException") (names := fg_up) () hl9 hx hb hno hlocks hown hts hX hz0 hqs2 (by decide +kernel) (by decide +kernel) a_G_82 u_812 u_199 ⟨hwf, hkp⟩ hP (hK.sub (tys' := []) [] rfl) hD hS (hl.1.trans hml.symm) (Nat.lt_of_lt_of_le (Nat.lt_succ_self 5) (Nat.le_of_ble_eq_true rfl)) (Nat.le_of_ble_eq_true rfl) (Nat.le_of_ble_eq_true rfl) (Nat.le_of_ble_eq_true rfl) (Nat.le_of_ble_eq_true rfl) (Nat.le_of_ble_eq_true rfl) d_G_run_9 d_G_run_12 d_G_run_13 d_G_run_15 d_G_run_18
  have h := if_f c1 h
  refine lv_iload_n hx hb d_G_run_4 rfl (lv_at hl 1 rfl) ?_
  refine lv_iconst (v := 2) hx hb d_G_run_5 (by decide) ?_
  refine lv_icmp_le (tgt := 19) hx hb d_G_run_6 (by decide) (fun c3 => ?_) (fun c3 => ?_)
  · have h := if_t c3 h
    refine lv_aload_n hx hb d_G_run_19 rfl (lv_at hl 0 rfl) ?_
    refine g_G_12 hx hb hts hown hK hP hwf hj0 (hts _ u_705) d_G_run_20 ?_
    have z4 := (hwf.2.2.2 0 j0 12 rfl)
    refine lv_if_ne (tgt := 36) hx hb d_G_run_23 (by decide) (fun c5 => ?_) (fun c5 => ?_)
    · have h := if_f c5 h
      refine lv_aload_n hx hb d_G_run_36 rfl (lv_at hl 0 rfl) ?_
      refine g_G_8 hx hb hts hown hK hP hwf hj0 (hts _ u_701) d_G_run_37 ?_
      obtain ⟨j6, e7, h⟩ := bd_ob h
      have hj6 : j6 < N 5 := (hwf.2.1 0 j0 8 _ e7 (by decide) hj0)
      refine me_opt (j := j6) e7 ?_
      refine lv_iload_n hx hb d_G_run_40 rfl (lv_at hl 1 rfl) ?_
      obtain ⟨M8, r9, eM8, h⟩ := b2_ob h
      refine me_thenl0 (M1 := M8) (me_runV (C := "FilterGuard$Machine") (As := [.int x1]) (rest := []) ⟨hx, hb, hml, hown, hts⟩ (c_Machine_go l D ad ca N M0 M8 r9 j6 x1 eM8 hwf hj6 _) rfl (by show fg_nm y_Machine_go 1; decide +kernel) u_1572 u_1573 u_1574 u_190 u_1575 ⟨Nat.le_of_ble_eq_true rfl, Nat.le_of_ble_eq_true rfl⟩ hX hz hK hP hD hwf hS hA hj6 (by decide) rfl rfl rfl hl.1 (Nat.le_of_ble_eq_true rfl) d_G_run_41 ⟨Nat.le_of_ble_eq_true rfl, Nat.le_of_ble_eq_true rfl⟩) hP hD hK hS hA rfl rfl (fun H locs hw hP hD hS => ?_)
      obtain ⟨hwf, hk9⟩ := hw
      have hkp := hkp.tr hk9
      exact absurd h (by simp)
    have h := if_t c5 h
    exact absurd h (by simp)
  have h := if_f c3 h
  obtain ⟨hwf, hkp, hP, hD⟩ := me_sub1 (me_kz M0) h hwf hkp hP hD
  obtain ⟨qs10, hqs10⟩ := hy.1 _ _ _ o_1570
  exact fg_throw (X := "java/lang/IllegalArgumentException") (names := fg_up) () hl9 hx hb hno hlocks hown hts hX hz0 hqs10 (by decide +kernel) (by decide +kernel) a_G_82 u_812 u_199 ⟨hwf, hkp⟩ hP (hK.sub (tys' := []) [] rfl) hD hS (hl.1.trans hml.symm) (Nat.lt_of_lt_of_le (Nat.lt_succ_self 5) (Nat.le_of_ble_eq_true rfl)) (Nat.le_of_ble_eq_true rfl) (Nat.le_of_ble_eq_true rfl) (Nat.le_of_ble_eq_true rfl) (Nat.le_of_ble_eq_true rfl) (Nat.le_of_ble_eq_true rfl) d_G_run_9 d_G_run_12 d_G_run_13 d_G_run_15 d_G_run_18
def fT2_G_run (M0 : me_M) (j0 : Nat) (x1 : Int32) : Option me_M := (if x1 < 0 then none else (if x1 ≤ 2 then (if (mI M0 0 j0 12) = 0 then some M0 else bd (mR M0 0 j0 8) (fun (j5 : Nat) => b2 (f_Machine_go M0 j5 x1) (fun (M7 : me_M) (r8 : Int64) => none))) else none))
def rmT2_G_run : Room := { frames := 8, cells := 1, slots := 6, locals := 203 }
abbrev qT2_G_run (D : va_G) (ad : Nat → Nat → Nat) (ca : Nat → ClassId) (N : Nat → Nat) (M0 MZ : me_M) (A : Nat → Prop) : Array Value → Jvm.State → Outcome → Jvm.State → Prop := fg_Qt "java/lang/IllegalStateException" (fun (_ : Unit) => me_wf N MZ ∧ me_kz M0 MZ) (fg_B D A (fun _ => me_W ad ca MZ) (fun _ => [])) A
set_option maxHeartbeats 4000000 in
set_option maxRecDepth 100000 in
theorem cT2_G_run (l : Launch) (hl9 : l.stackTraces = false) (D : va_G) (ad : Nat → Nat → Nat) (ca : Nat → ClassId) (N : Nat → Nat) (M0 MZ : me_M) (j0 : Nat) (x1 : Int32) (h : fT2_G_run M0 j0 x1 = (some MZ)) (hwf : me_wf N M0) (hj0 : j0 < N 0) (sz : Nat) : fg_MetT l y_G_run (fg_w y_G_run prog_1_method_15_code 2 (some .long)) rmT2_G_run (va_Pc [.ref (ad 0 j0), .int x1] (fg_PZ D (me_T ca) (me_W ad ca M0) sz)) (qT2_G_run D ad ca N M0 MZ (va_A (me_W ad ca M0) sz)) rmT2_G_run.cells rmT2_G_run.slots (va_A (me_W ad ca M0) sz) := by
  refine fg_enterT (fun A => qT2_G_run D ad ca N M0 MZ A) (by decide +kernel) (Nat.le_of_ble_eq_true rfl) ?_
  intro p e s m below meth c ls A hx hb hml hown hts hr hlocks hin hP hK hD hS hA hX hl hno hz hy
  have hz0 := hz.1
  have hz := hz.2
  have hl : lv_has ls 2 [(0, .ref (ad 0 j0)), (1, .int x1)] := hl
  unfold fT2_G_run at h
  have hkp : me_kz M0 M0 := me_kz.rf
  have hkb := hkp
  refine lv_iload_n hx hb d_G_run_0 rfl (lv_at hl 1 rfl) ?_
  refine lv_if_lt (tgt := 9) hx hb d_G_run_1 (by decide) (fun c1 => ?_) (fun c1 => ?_)
  · have h := if_t c1 h
    exact absurd h (by simp)
  have h := if_f c1 h
  refine lv_iload_n hx hb d_G_run_4 rfl (lv_at hl 1 rfl) ?_
  refine lv_iconst (v := 2) hx hb d_G_run_5 (by decide) ?_
  refine lv_icmp_le (tgt := 19) hx hb d_G_run_6 (by decide) (fun c2 => ?_) (fun c2 => ?_)
  · have h := if_t c2 h
    refine lv_aload_n hx hb d_G_run_19 rfl (lv_at hl 0 rfl) ?_
    refine g_G_12 hx hb hts hown hK hP hwf hj0 (hts _ u_705) d_G_run_20 ?_
    have z3 := (hwf.2.2.2 0 j0 12 rfl)
    refine lv_if_ne (tgt := 36) hx hb d_G_run_23 (by decide) (fun c4 => ?_) (fun c4 => ?_)
    · have h := if_f c4 h
      refine lv_aload_n hx hb d_G_run_36 rfl (lv_at hl 0 rfl) ?_
      refine g_G_8 hx hb hts hown hK hP hwf hj0 (hts _ u_701) d_G_run_37 ?_
      obtain ⟨j5, e6, h⟩ := bd_ob h
      have hj5 : j5 < N 5 := (hwf.2.1 0 j0 8 _ e6 (by decide) hj0)
      refine me_opt (j := j5) e6 ?_
      refine lv_iload_n hx hb d_G_run_40 rfl (lv_at hl 1 rfl) ?_
      obtain ⟨M7, r8, eM7, h⟩ := b2_ob h
      refine me_thenl0 (M1 := M7) (me_runV (C := "FilterGuard$Machine") (As := [.int x1]) (rest := []) ⟨hx, hb, hml, hown, hts⟩ (c_Machine_go l D ad ca N M0 M7 r8 j5 x1 eM7 hwf hj5 _) rfl (by show fg_nm y_Machine_go 1; decide +kernel) u_1572 u_1573 u_1574 u_190 u_1575 ⟨Nat.le_of_ble_eq_true rfl, Nat.le_of_ble_eq_true rfl⟩ hX hz hK hP hD hwf hS hA hj5 (by decide) rfl rfl rfl hl.1 (Nat.le_of_ble_eq_true rfl) d_G_run_41 ⟨Nat.le_of_ble_eq_true rfl, Nat.le_of_ble_eq_true rfl⟩) hP hD hK hS hA rfl rfl (fun H locs hw hP hD hS => ?_)
      obtain ⟨hwf, hk9⟩ := hw
      have hkp := hkp.tr hk9
      exact absurd h (by simp)
    have h := if_t c4 h
    obtain ⟨hwf, hkp, hP, hD⟩ := me_sub1 (me_kz M0) h hwf hkp hP hD
    obtain ⟨qs9, hqs9⟩ := hy.1 _ _ _ o_1571
    exact fg_throw (X := "java/lang/IllegalStateException") (names := fg_up) () hl9 hx hb hno hlocks hown hts hX hz0 hqs9 (by decide +kernel) (by decide +kernel) a_G_96 u_879 u_200 ⟨hwf, hkp⟩ hP (hK.sub (tys' := []) [] rfl) hD hS (hl.1.trans hml.symm) (Nat.lt_of_lt_of_le (Nat.lt_succ_self 5) (Nat.le_of_ble_eq_true rfl)) (Nat.le_of_ble_eq_true rfl) (Nat.le_of_ble_eq_true rfl) (Nat.le_of_ble_eq_true rfl) (Nat.le_of_ble_eq_true rfl) (Nat.le_of_ble_eq_true rfl) d_G_run_26 d_G_run_29 d_G_run_30 d_G_run_32 d_G_run_35
  have h := if_f c2 h
  exact absurd h (by simp)
theorem d_G_ran_0 : decode prog_1_method_16_code 0 = .ok (.aload_n 0, 1) := by decide +kernel
theorem d_G_ran_1 : decode prog_1_method_16_code 1 = .ok (.getfield 50, 3) := by decide +kernel
theorem d_G_ran_4 : decode prog_1_method_16_code 4 = .ok (.getfield 217, 3) := by decide +kernel
theorem u_641 : Cond.fieldLink "FilterGuard" 217 "FilterGuard$Machine" "runs" "I" ∈ fg_g := fg_in (List.mem_of_getElem? (i := 641) (by decide +kernel)) rfl
theorem d_G_ran_7 : decode prog_1_method_16_code 7 = .ok (.ifCond .ne 5, 3) := by decide +kernel
theorem d_G_ran_12 : decode prog_1_method_16_code 12 = .ok (.iload_n 1, 1) := by decide +kernel
theorem d_G_ran_13 : decode prog_1_method_16_code 13 = .ok (.tableswitch 51 0 2 #[27, 35, 43], 27) := by decide +kernel
theorem d_G_ran_40 : decode prog_1_method_16_code 40 = .ok (.aload_n 0, 1) := by decide +kernel
theorem d_G_ran_41 : decode prog_1_method_16_code 41 = .ok (.getfield 50, 3) := by decide +kernel
theorem d_G_ran_44 : decode prog_1_method_16_code 44 = .ok (.getfield 220, 3) := by decide +kernel
theorem u_645 : Cond.fieldLink "FilterGuard" 220 "FilterGuard$Machine" "done" "I" ∈ fg_g := fg_in (List.mem_of_getElem? (i := 645) (by decide +kernel)) rfl
theorem d_G_ran_47 : decode prog_1_method_16_code 47 = .ok (.ireturn, 1) := by decide +kernel
theorem d_G_ran_48 : decode prog_1_method_16_code 48 = .ok (.aload_n 0, 1) := by decide +kernel
theorem d_G_ran_49 : decode prog_1_method_16_code 49 = .ok (.getfield 50, 3) := by decide +kernel
theorem d_G_ran_52 : decode prog_1_method_16_code 52 = .ok (.getfield 223, 3) := by decide +kernel
theorem u_643 : Cond.fieldLink "FilterGuard" 223 "FilterGuard$Machine" "mode" "I" ∈ fg_g := fg_in (List.mem_of_getElem? (i := 643) (by decide +kernel)) rfl
theorem d_G_ran_55 : decode prog_1_method_16_code 55 = .ok (.ireturn, 1) := by decide +kernel
theorem d_G_ran_56 : decode prog_1_method_16_code 56 = .ok (.aload_n 0, 1) := by decide +kernel
theorem d_G_ran_57 : decode prog_1_method_16_code 57 = .ok (.getfield 50, 3) := by decide +kernel
theorem d_G_ran_60 : decode prog_1_method_16_code 60 = .ok (.getfield 226, 3) := by decide +kernel
theorem u_647 : Cond.fieldLink "FilterGuard" 226 "FilterGuard$Machine" "ranPacket" "I" ∈ fg_g := fg_in (List.mem_of_getElem? (i := 647) (by decide +kernel)) rfl
theorem g_Machine_15 {p : Program} {l : Launch} {e : Env} {R : Room} {s : Jvm.State} {m : MethodId} {args : Array Value} {below : List Frame} {meth : Method} {c : Code} {H : Heap} {locs : List Loc} {cells slots : Nat} {Q : Jvm.State → Prop} {cc : ByteArray} {pc : Nat} {ls : Array Slot} {rest : List Value} {D : va_G} {ad : Nat → Nat → Nat} {ca : Nat → ClassId} {M : me_M} {N : Nat → Nat} {own : String} {index j : Nat} (hexec : p.tables.exec = Jvm.exec) (hb : c.code = cc) (hts : ∀ w ∈ fg_g, w.before args s = true) (hown : s.vm.findClass own = some m.cls) (hK : va_K D classes (me_T ca) s) (hP : va_P D classes (me_W ad ca M) H) (hwf : me_wf N M) (hj : j < N 5) (hlink : (Cond.fieldLink own index "FilterGuard$Machine" "ranPacket" "I").before args s = true) (hdg : decode cc pc = .ok (.getfield index, 3)) (kk : W p l e R s m args below meth c H locs cells slots Q (F0 m (pc + 3) ls (.int (mI M 5 j 15) :: rest))) : W p l e R s m args below meth c H locs cells slots Q (F0 m pc ls (.ref (ad 5 j) :: rest)) := me_get (k := 5) (f := 15) (C := "FilterGuard$Machine") (T := F_Machine) (Nf := 20) hexec hb hts i_Machine hown hK hP hwf hj (by decide) rfl (by decide) (by decide) hlink (fun _ h9 => h9) hdg kk
theorem d_G_ran_63 : decode prog_1_method_16_code 63 = .ok (.ireturn, 1) := by decide +kernel
theorem d_G_ran_64 : decode prog_1_method_16_code 64 = .ok (.iconst (-1), 1) := by decide +kernel
theorem d_G_ran_65 : decode prog_1_method_16_code 65 = .ok (.ireturn, 1) := by decide +kernel
theorem d_G_ran_10 : decode prog_1_method_16_code 10 = .ok (.iconst (-1), 1) := by decide +kernel
theorem d_G_ran_11 : decode prog_1_method_16_code 11 = .ok (.ireturn, 1) := by decide +kernel
abbrev y_G_ran : MethodName := ⟨"FilterGuard", "ran", "(I)I"⟩
def f_G_ran (M0 : me_M) (j0 : Nat) (x1 : Int32) : Option (me_M × Int32) := bd (mR M0 0 j0 8) (fun (j1 : Nat) => (if (mI M0 5 j1 12) = 0 then some (M0, (-1 : Int32)) else (if x1 = 0 then some (M0, (mI M0 5 j1 14)) else (if x1 = 1 then some (M0, (mI M0 5 j1 13)) else (if x1 = 2 then some (M0, (mI M0 5 j1 15)) else some (M0, (-1 : Int32)))))))
def rm_G_ran : Room := { frames := 1, cells := 0, slots := 0, locals := 20 }
abbrev q_G_ran (D : va_G) (ad : Nat → Nat → Nat) (ca : Nat → ClassId) (N : Nat → Nat) (M0 MZ : me_M) (RZ : Int32) (A : Nat → Prop) : Array Value → Jvm.State → Outcome → Jvm.State → Prop := va_Qi (fun r (_ : Unit) => r = RZ ∧ me_wf N MZ ∧ me_kp M0 MZ) (fg_B D A (fun _ => me_W ad ca MZ) (fun _ => [])) A
set_option maxHeartbeats 4000000 in
set_option maxRecDepth 100000 in
theorem c_G_ran (l : Launch) (D : va_G) (ad : Nat → Nat → Nat) (ca : Nat → ClassId) (N : Nat → Nat) (M0 MZ : me_M) (RZ : Int32) (j0 : Nat) (x1 : Int32) (h : f_G_ran M0 j0 x1 = (some (MZ, RZ))) (hwf : me_wf N M0) (hj0 : j0 < N 0) (sz : Nat) : Met l y_G_ran (fg_w y_G_ran prog_1_method_16_code 2 (some .int)) rm_G_ran (va_Pc [.ref (ad 0 j0), .int x1] (fz_P D (me_T ca) (me_W ad ca M0) sz)) (q_G_ran D ad ca N M0 MZ RZ (va_A (me_W ad ca M0) sz)) rm_G_ran.cells rm_G_ran.slots (va_A (me_W ad ca M0) sz) := by
  refine fz_enter (fun A => q_G_ran D ad ca N M0 MZ RZ A) (by decide +kernel) (Nat.le_of_ble_eq_true rfl) ?_
  intro p e s m below meth c ls A hx hb hml hown hts hr hlocks hin hP hK hD hS hA hX hl hz
  have hl : lv_has ls 2 [(0, .ref (ad 0 j0)), (1, .int x1)] := hl
  unfold f_G_ran at h
  have hkp : me_kp M0 M0 := me_kp.rf
  have hkb := hkp
  refine lv_aload_n hx hb d_G_ran_0 rfl (lv_at hl 0 rfl) ?_
  refine g_G_8 hx hb hts hown hK hP hwf hj0 (hts _ u_701) d_G_ran_1 ?_
  obtain ⟨j1, e2, h⟩ := bd_ob h
  have hj1 : j1 < N 5 := (hwf.2.1 0 j0 8 _ e2 (by decide) hj0)
  refine me_opt (j := j1) e2 ?_
  refine g_Machine_12 hx hb hts hown hK hP hwf hj1 (hts _ u_641) d_G_ran_4 ?_
  refine lv_if_ne (tgt := 12) hx hb d_G_ran_7 (by decide) (fun c3 => ?_) (fun c3 => ?_)
  · have h := if_f c3 h
    refine lv_iload_n hx hb d_G_ran_12 rfl (lv_at hl 1 rfl) ?_
    refine lv_topi (fun w4 ew4 => ?_)
    by_cases n5 : w4 = 0
    · have h := if_t (ew4.symm.trans n5) h
      subst n5
      refine lv_tableIn (off := 27) (tgt := 40) hx hb d_G_ran_13 (by decide) (by decide) (by decide) (by decide) ?_
      refine lv_aload_n hx hb d_G_ran_40 rfl (lv_at hl 0 rfl) ?_
      refine g_G_8 hx hb hts hown hK hP hwf hj0 (hts _ u_701) d_G_ran_41 ?_
      refine me_opt (j := j1) e2 ?_
      refine g_Machine_14 hx hb hts hown hK hP hwf hj1 (hts _ u_645) d_G_ran_44 ?_
      exact me_reti (me_kp M0) h hx hb hr hlocks hwf hkp hP hK hD hS d_G_ran_47
    have h := if_f (fun z => n5 (ew4.trans z)) h
    by_cases n6 : w4 = 1
    · have h := if_t (ew4.symm.trans n6) h
      subst n6
      refine lv_tableIn (off := 35) (tgt := 48) hx hb d_G_ran_13 (by decide) (by decide) (by decide) (by decide) ?_
      refine lv_aload_n hx hb d_G_ran_48 rfl (lv_at hl 0 rfl) ?_
      refine g_G_8 hx hb hts hown hK hP hwf hj0 (hts _ u_701) d_G_ran_49 ?_
      refine me_opt (j := j1) e2 ?_
      refine g_Machine_13 hx hb hts hown hK hP hwf hj1 (hts _ u_643) d_G_ran_52 ?_
      exact me_reti (me_kp M0) h hx hb hr hlocks hwf hkp hP hK hD hS d_G_ran_55
    have h := if_f (fun z => n6 (ew4.trans z)) h
    by_cases n7 : w4 = 2
    · have h := if_t (ew4.symm.trans n7) h
      subst n7
      refine lv_tableIn (off := 43) (tgt := 56) hx hb d_G_ran_13 (by decide) (by decide) (by decide) (by decide) ?_
      refine lv_aload_n hx hb d_G_ran_56 rfl (lv_at hl 0 rfl) ?_
      refine g_G_8 hx hb hts hown hK hP hwf hj0 (hts _ u_701) d_G_ran_57 ?_
      refine me_opt (j := j1) e2 ?_
      refine g_Machine_15 hx hb hts hown hK hP hwf hj1 (hts _ u_647) d_G_ran_60 ?_
      exact me_reti (me_kp M0) h hx hb hr hlocks hwf hkp hP hK hD hS d_G_ran_63
    have h := if_f (fun z => n7 (ew4.trans z)) h
    have in5 := lv_neT n5 (show (0 : Int32).toInt = 0 from rfl)
    have in6 := lv_neT n6 (show (1 : Int32).toInt = 1 from rfl)
    have in7 := lv_neT n7 (show (2 : Int32).toInt = 2 from rfl)
    refine lv_tableOut (tgt := 64) hx hb d_G_ran_13 (by omega) (by decide) ?_
    refine lv_iconst (v := (-1)) hx hb d_G_ran_64 (by decide) ?_
    exact me_reti (me_kp M0) h hx hb hr hlocks hwf hkp hP hK hD hS d_G_ran_65
  have h := if_t c3 h
  refine lv_iconst (v := (-1)) hx hb d_G_ran_10 (by decide) ?_
  exact me_reti (me_kp M0) h hx hb hr hlocks hwf hkp hP hK hD hS d_G_ran_11
theorem d_G_told_0 : decode prog_1_method_17_code 0 = .ok (.iload_n 1, 1) := by decide +kernel
theorem d_G_told_1 : decode prog_1_method_17_code 1 = .ok (.ifCond .lt 14, 3) := by decide +kernel
theorem d_G_told_15 : decode prog_1_method_17_code 15 = .ok (.new 151, 3) := by decide +kernel
theorem d_G_told_4 : decode prog_1_method_17_code 4 = .ok (.iload_n 1, 1) := by decide +kernel
theorem d_G_told_5 : decode prog_1_method_17_code 5 = .ok (.aload_n 0, 1) := by decide +kernel
theorem d_G_told_6 : decode prog_1_method_17_code 6 = .ok (.getfield 50, 3) := by decide +kernel
theorem d_G_told_9 : decode prog_1_method_17_code 9 = .ok (.getfield 229, 3) := by decide +kernel
theorem u_637 : Cond.fieldLink "FilterGuard" 229 "FilterGuard$Machine" "toldCount" "I" ∈ fg_g := fg_in (List.mem_of_getElem? (i := 637) (by decide +kernel)) rfl
theorem d_G_told_12 : decode prog_1_method_17_code 12 = .ok (.if_icmp .lt 13, 3) := by decide +kernel
theorem d_G_told_25 : decode prog_1_method_17_code 25 = .ok (.aload_n 0, 1) := by decide +kernel
theorem d_G_told_26 : decode prog_1_method_17_code 26 = .ok (.getfield 50, 3) := by decide +kernel
theorem d_G_told_29 : decode prog_1_method_17_code 29 = .ok (.getfield 234, 3) := by decide +kernel
theorem u_635 : Cond.fieldLink "FilterGuard" 234 "FilterGuard$Machine" "tellings" "[J" ∈ fg_g := fg_in (List.mem_of_getElem? (i := 635) (by decide +kernel)) rfl
theorem d_G_told_32 : decode prog_1_method_17_code 32 = .ok (.iload_n 1, 1) := by decide +kernel
theorem d_G_told_33 : decode prog_1_method_17_code 33 = .ok (.laload, 1) := by decide +kernel
theorem d_G_told_34 : decode prog_1_method_17_code 34 = .ok (.lreturn, 1) := by decide +kernel
abbrev y_G_told : MethodName := ⟨"FilterGuard", "told", "(I)J"⟩
theorem o_1733 : Cond.stringRef "FilterGuard" 232 "not told" ∈ lw_tbl := List.mem_of_getElem? (i := 1733) (by decide +kernel)
theorem d_G_told_18 : decode prog_1_method_17_code 18 = .ok (.dup, 1) := by decide +kernel
theorem d_G_told_19 : decode prog_1_method_17_code 19 = .ok (.ldc 232, 2) := by decide +kernel
theorem d_G_told_21 : decode prog_1_method_17_code 21 = .ok (.invokespecial 155, 3) := by decide +kernel
theorem d_G_told_24 : decode prog_1_method_17_code 24 = .ok (.athrow, 1) := by decide +kernel
def f_G_told (M0 : me_M) (j0 : Nat) (x1 : Int32) : Option (me_M × Int64) := (if x1 < 0 then none else bd (mR M0 0 j0 8) (fun (j2 : Nat) => (if x1 < (mI M0 5 j2 10) then bd (mR M0 5 j2 9) (fun (j5 : Nat) => gd (¬ (x1 < 0 ∨ mZ M0 16 j5 ≤ x1.toNatClampNeg)) (some (M0, (mL M0 16 j5 x1.toNatClampNeg)))) else none)))
def rm_G_told : Room := { frames := 1, cells := 0, slots := 0, locals := 20 }
abbrev q_G_told (D : va_G) (ad : Nat → Nat → Nat) (ca : Nat → ClassId) (N : Nat → Nat) (M0 MZ : me_M) (RZ : Int64) (A : Nat → Prop) : Array Value → Jvm.State → Outcome → Jvm.State → Prop := va_Ql (fun r (_ : Unit) => r = RZ ∧ me_wf N MZ ∧ me_kp M0 MZ) (fg_B D A (fun _ => me_W ad ca MZ) (fun _ => [])) A
set_option maxHeartbeats 4000000 in
set_option maxRecDepth 100000 in
theorem c_G_told (l : Launch) (D : va_G) (ad : Nat → Nat → Nat) (ca : Nat → ClassId) (N : Nat → Nat) (M0 MZ : me_M) (RZ : Int64) (j0 : Nat) (x1 : Int32) (h : f_G_told M0 j0 x1 = (some (MZ, RZ))) (hwf : me_wf N M0) (hj0 : j0 < N 0) (sz : Nat) : Met l y_G_told (fg_w y_G_told prog_1_method_17_code 2 (some .long)) rm_G_told (va_Pc [.ref (ad 0 j0), .int x1] (fz_P D (me_T ca) (me_W ad ca M0) sz)) (q_G_told D ad ca N M0 MZ RZ (va_A (me_W ad ca M0) sz)) rm_G_told.cells rm_G_told.slots (va_A (me_W ad ca M0) sz) := by
  refine fz_enter (fun A => q_G_told D ad ca N M0 MZ RZ A) (by decide +kernel) (Nat.le_of_ble_eq_true rfl) ?_
  intro p e s m below meth c ls A hx hb hml hown hts hr hlocks hin hP hK hD hS hA hX hl hz
  have hl : lv_has ls 2 [(0, .ref (ad 0 j0)), (1, .int x1)] := hl
  unfold f_G_told at h
  have hkp : me_kp M0 M0 := me_kp.rf
  have hkb := hkp
  refine lv_iload_n hx hb d_G_told_0 rfl (lv_at hl 1 rfl) ?_
  refine lv_if_lt (tgt := 15) hx hb d_G_told_1 (by decide) (fun c1 => ?_) (fun c1 => ?_)
  · have h := if_t c1 h
    exact absurd h (by simp)
  have h := if_f c1 h
  refine lv_iload_n hx hb d_G_told_4 rfl (lv_at hl 1 rfl) ?_
  refine lv_aload_n hx hb d_G_told_5 rfl (lv_at hl 0 rfl) ?_
  refine g_G_8 hx hb hts hown hK hP hwf hj0 (hts _ u_701) d_G_told_6 ?_
  obtain ⟨j2, e3, h⟩ := bd_ob h
  have hj2 : j2 < N 5 := (hwf.2.1 0 j0 8 _ e3 (by decide) hj0)
  refine me_opt (j := j2) e3 ?_
  refine g_Machine_10 hx hb hts hown hK hP hwf hj2 (hts _ u_637) d_G_told_9 ?_
  refine lv_icmp_lt (tgt := 25) hx hb d_G_told_12 (by decide) (fun c4 => ?_) (fun c4 => ?_)
  · have h := if_t c4 h
    refine lv_aload_n hx hb d_G_told_25 rfl (lv_at hl 0 rfl) ?_
    refine g_G_8 hx hb hts hown hK hP hwf hj0 (hts _ u_701) d_G_told_26 ?_
    refine me_opt (j := j2) e3 ?_
    refine g_Machine_9 hx hb hts hown hK hP hwf hj2 (hts _ u_635) d_G_told_29 ?_
    obtain ⟨j5, e6, h⟩ := bd_ob h
    have hj5 : j5 < N 16 := (hwf.2.1 5 j2 9 _ e6 (by decide) hj2)
    refine me_opt (j := j5) e6 ?_
    refine lv_iload_n hx hb d_G_told_32 rfl (lv_at hl 1 rfl) ?_
    obtain ⟨g7, h⟩ := gd_ob h
    refine me_lald hx hb hK hP hwf hj5 g7 d_G_told_33 ?_
    exact me_retl (me_kp M0) h hx hb hr hlocks hwf hkp hP hK hD hS d_G_told_34
  have h := if_f c4 h
  exact absurd h (by simp)
def fT3_G_told (M0 : me_M) (j0 : Nat) (x1 : Int32) : Option me_M := (if x1 < 0 then some M0 else bd (mR M0 0 j0 8) (fun (j3 : Nat) => (if x1 < (mI M0 5 j3 10) then bd (mR M0 5 j3 9) (fun (j6 : Nat) => gd (¬ (x1 < 0 ∨ mZ M0 16 j6 ≤ x1.toNatClampNeg)) (none)) else some M0)))
def rmT3_G_told : Room := { frames := 6, cells := 1, slots := 6, locals := 100 }
abbrev qT3_G_told (D : va_G) (ad : Nat → Nat → Nat) (ca : Nat → ClassId) (N : Nat → Nat) (M0 MZ : me_M) (A : Nat → Prop) : Array Value → Jvm.State → Outcome → Jvm.State → Prop := fg_Qt "java/lang/IndexOutOfBoundsException" (fun (_ : Unit) => me_wf N MZ ∧ me_kp M0 MZ) (fg_B D A (fun _ => me_W ad ca MZ) (fun _ => [])) A
set_option maxHeartbeats 4000000 in
set_option maxRecDepth 100000 in
theorem cT3_G_told (l : Launch) (hl9 : l.stackTraces = false) (D : va_G) (ad : Nat → Nat → Nat) (ca : Nat → ClassId) (N : Nat → Nat) (M0 MZ : me_M) (j0 : Nat) (x1 : Int32) (h : fT3_G_told M0 j0 x1 = (some MZ)) (hwf : me_wf N M0) (hj0 : j0 < N 0) (sz : Nat) : fg_MetT l y_G_told (fg_w y_G_told prog_1_method_17_code 2 (some .long)) rmT3_G_told (va_Pc [.ref (ad 0 j0), .int x1] (fg_PZ D (me_T ca) (me_W ad ca M0) sz)) (qT3_G_told D ad ca N M0 MZ (va_A (me_W ad ca M0) sz)) rmT3_G_told.cells rmT3_G_told.slots (va_A (me_W ad ca M0) sz) := by
  refine fg_enterT (fun A => qT3_G_told D ad ca N M0 MZ A) (by decide +kernel) (Nat.le_of_ble_eq_true rfl) ?_
  intro p e s m below meth c ls A hx hb hml hown hts hr hlocks hin hP hK hD hS hA hX hl hno hz hy
  have hz0 := hz.1
  have hz := hz.2
  have hl : lv_has ls 2 [(0, .ref (ad 0 j0)), (1, .int x1)] := hl
  unfold fT3_G_told at h
  have hkp : me_kp M0 M0 := me_kp.rf
  have hkb := hkp
  refine lv_iload_n hx hb d_G_told_0 rfl (lv_at hl 1 rfl) ?_
  refine lv_if_lt (tgt := 15) hx hb d_G_told_1 (by decide) (fun c1 => ?_) (fun c1 => ?_)
  · have h := if_t c1 h
    obtain ⟨hwf, hkp, hP, hD⟩ := me_sub1 (me_kp M0) h hwf hkp hP hD
    obtain ⟨qs2, hqs2⟩ := hy.1 _ _ _ o_1733
    exact fg_throw (X := "java/lang/IndexOutOfBoundsException") (names := fg_up) () hl9 hx hb hno hlocks hown hts hX hz0 hqs2 (by decide +kernel) (by decide +kernel) a_G_155 u_1486 u_203 ⟨hwf, hkp⟩ hP (hK.sub (tys' := []) [] rfl) hD hS (hl.1.trans hml.symm) (Nat.lt_of_lt_of_le (Nat.lt_succ_self 5) (Nat.le_of_ble_eq_true rfl)) (Nat.le_of_ble_eq_true rfl) (Nat.le_of_ble_eq_true rfl) (Nat.le_of_ble_eq_true rfl) (Nat.le_of_ble_eq_true rfl) (Nat.le_of_ble_eq_true rfl) d_G_told_15 d_G_told_18 d_G_told_19 d_G_told_21 d_G_told_24
  have h := if_f c1 h
  refine lv_iload_n hx hb d_G_told_4 rfl (lv_at hl 1 rfl) ?_
  refine lv_aload_n hx hb d_G_told_5 rfl (lv_at hl 0 rfl) ?_
  refine g_G_8 hx hb hts hown hK hP hwf hj0 (hts _ u_701) d_G_told_6 ?_
  obtain ⟨j3, e4, h⟩ := bd_ob h
  have hj3 : j3 < N 5 := (hwf.2.1 0 j0 8 _ e4 (by decide) hj0)
  refine me_opt (j := j3) e4 ?_
  refine g_Machine_10 hx hb hts hown hK hP hwf hj3 (hts _ u_637) d_G_told_9 ?_
  refine lv_icmp_lt (tgt := 25) hx hb d_G_told_12 (by decide) (fun c5 => ?_) (fun c5 => ?_)
  · have h := if_t c5 h
    refine lv_aload_n hx hb d_G_told_25 rfl (lv_at hl 0 rfl) ?_
    refine g_G_8 hx hb hts hown hK hP hwf hj0 (hts _ u_701) d_G_told_26 ?_
    refine me_opt (j := j3) e4 ?_
    refine g_Machine_9 hx hb hts hown hK hP hwf hj3 (hts _ u_635) d_G_told_29 ?_
    obtain ⟨j6, e7, h⟩ := bd_ob h
    have hj6 : j6 < N 16 := (hwf.2.1 5 j3 9 _ e7 (by decide) hj3)
    refine me_opt (j := j6) e7 ?_
    refine lv_iload_n hx hb d_G_told_32 rfl (lv_at hl 1 rfl) ?_
    obtain ⟨g8, h⟩ := gd_ob h
    refine me_lald hx hb hK hP hwf hj6 g8 d_G_told_33 ?_
    exact absurd h (by simp)
  have h := if_f c5 h
  obtain ⟨hwf, hkp, hP, hD⟩ := me_sub1 (me_kp M0) h hwf hkp hP hD
  obtain ⟨qs9, hqs9⟩ := hy.1 _ _ _ o_1733
  exact fg_throw (X := "java/lang/IndexOutOfBoundsException") (names := fg_up) () hl9 hx hb hno hlocks hown hts hX hz0 hqs9 (by decide +kernel) (by decide +kernel) a_G_155 u_1486 u_203 ⟨hwf, hkp⟩ hP (hK.sub (tys' := []) [] rfl) hD hS (hl.1.trans hml.symm) (Nat.lt_of_lt_of_le (Nat.lt_succ_self 5) (Nat.le_of_ble_eq_true rfl)) (Nat.le_of_ble_eq_true rfl) (Nat.le_of_ble_eq_true rfl) (Nat.le_of_ble_eq_true rfl) (Nat.le_of_ble_eq_true rfl) (Nat.le_of_ble_eq_true rfl) d_G_told_15 d_G_told_18 d_G_told_19 d_G_told_21 d_G_told_24
theorem d_Store_held_4 : decode prog_12_method_7_code 4 = .ok (.iload_n 2, 1) := by decide +kernel
theorem d_Store_held_5 : decode prog_12_method_7_code 5 = .ok (.aload_n 0, 1) := by decide +kernel
theorem d_Store_held_6 : decode prog_12_method_7_code 6 = .ok (.getfield 22, 3) := by decide +kernel
theorem d_Store_held_9 : decode prog_12_method_7_code 9 = .ok (.if_icmp .ge 26, 3) := by decide +kernel
theorem d_Store_held_35 : decode prog_12_method_7_code 35 = .ok (.iload_n 1, 1) := by decide +kernel
theorem d_Store_held_36 : decode prog_12_method_7_code 36 = .ok (.ireturn, 1) := by decide +kernel
theorem d_Store_held_12 : decode prog_12_method_7_code 12 = .ok (.iload_n 1, 1) := by decide +kernel
theorem d_Store_held_13 : decode prog_12_method_7_code 13 = .ok (.aload_n 0, 1) := by decide +kernel
theorem d_Store_held_14 : decode prog_12_method_7_code 14 = .ok (.getfield 32, 3) := by decide +kernel
theorem d_Store_held_17 : decode prog_12_method_7_code 17 = .ok (.iload_n 2, 1) := by decide +kernel
theorem d_Store_held_18 : decode prog_12_method_7_code 18 = .ok (.baload, 1) := by decide +kernel
theorem d_Store_held_19 : decode prog_12_method_7_code 19 = .ok (.ifCond .eq 7, 3) := by decide +kernel
theorem d_Store_held_26 : decode prog_12_method_7_code 26 = .ok (.iconst 0, 1) := by decide +kernel
theorem d_Store_held_27 : decode prog_12_method_7_code 27 = .ok (.iadd, 1) := by decide +kernel
theorem d_Store_held_28 : decode prog_12_method_7_code 28 = .ok (.istore_n 1, 1) := by decide +kernel
theorem d_Store_held_29 : decode prog_12_method_7_code 29 = .ok (.iinc 2 1, 3) := by decide +kernel
theorem d_Store_held_32 : decode prog_12_method_7_code 32 = .ok (.goto (-28), 3) := by decide +kernel
theorem d_Store_held_22 : decode prog_12_method_7_code 22 = .ok (.iconst 1, 1) := by decide +kernel
theorem d_Store_held_23 : decode prog_12_method_7_code 23 = .ok (.goto 4, 3) := by decide +kernel
theorem d_Store_held_0 : decode prog_12_method_7_code 0 = .ok (.iconst 0, 1) := by decide +kernel
theorem d_Store_held_1 : decode prog_12_method_7_code 1 = .ok (.istore_n 1, 1) := by decide +kernel
theorem d_Store_held_2 : decode prog_12_method_7_code 2 = .ok (.iconst 0, 1) := by decide +kernel
theorem d_Store_held_3 : decode prog_12_method_7_code 3 = .ok (.istore_n 2, 1) := by decide +kernel
abbrev y_Store_held : MethodName := ⟨"FilterGuard$Store", "held", "()I"⟩
def f_Store_held_l4 (j0 : Nat) : Nat → me_M → Int32 → Int32 → Option (me_M × Int32)
  | 0, _, _, _ => none
  | fu + 1, M, y1, y2 => (if (mI M 12 j0 3) ≤ y2 then some (M, y1) else bd (mR M 12 j0 6) (fun (j2 : Nat) => gd (¬ (y2 < 0 ∨ mZ M 15 j2 ≤ y2.toNatClampNeg)) ((if (mI M 15 j2 y2.toNatClampNeg) = 0 then st (y1 + 0) (fun (v7 : Int32) => f_Store_held_l4 j0 fu M v7 (y2 + 1)) else st (y1 + 1) (fun (v8 : Int32) => f_Store_held_l4 j0 fu M v8 (y2 + 1))))))
def f_Store_held (M0 : me_M) (j0 : Nat) : Option (me_M × Int32) := f_Store_held_l4 j0 fuel M0 (0 : Int32) (0 : Int32)
def rm_Store_held : Room := { frames := 1, cells := 0, slots := 0, locals := 20 }
abbrev q_Store_held (D : va_G) (ad : Nat → Nat → Nat) (ca : Nat → ClassId) (N : Nat → Nat) (M0 MZ : me_M) (RZ : Int32) (A : Nat → Prop) : Array Value → Jvm.State → Outcome → Jvm.State → Prop := va_Qi (fun r (_ : Unit) => r = RZ ∧ me_wf N MZ ∧ me_kp M0 MZ) (fg_B D A (fun _ => me_W ad ca MZ) (fun _ => [])) A
set_option maxHeartbeats 4000000 in
set_option maxRecDepth 100000 in
theorem c_Store_held (l : Launch) (D : va_G) (ad : Nat → Nat → Nat) (ca : Nat → ClassId) (N : Nat → Nat) (M0 MZ : me_M) (RZ : Int32) (j0 : Nat) (h : f_Store_held M0 j0 = (some (MZ, RZ))) (hwf : me_wf N M0) (hj0 : j0 < N 12) (sz : Nat) : Met l y_Store_held (fg_w y_Store_held prog_12_method_7_code 3 (some .int)) rm_Store_held (va_Pc [.ref (ad 12 j0)] (fz_P D (me_T ca) (me_W ad ca M0) sz)) (q_Store_held D ad ca N M0 MZ RZ (va_A (me_W ad ca M0) sz)) rm_Store_held.cells rm_Store_held.slots (va_A (me_W ad ca M0) sz) := by
  refine fz_enter (fun A => q_Store_held D ad ca N M0 MZ RZ A) (by decide +kernel) (Nat.le_of_ble_eq_true rfl) ?_
  intro p e s m below meth c ls A hx hb hml hown hts hr hlocks hin hP hK hD hS hA hX hl hz
  have hl : lv_has ls 3 [(0, .ref (ad 12 j0))] := hl
  unfold f_Store_held at h
  have hkp : me_kp M0 M0 := me_kp.rf
  have hkb := hkp
  have b_4 : ∀ (fu : Nat), ∀ (M : me_M) (y1 : Int32) (y2 : Int32) (H : Heap) (locs : List Loc) (ls : Array Slot), f_Store_held_l4 j0 fu M y1 y2 = (some (MZ, RZ)) → me_wf N M → me_kp M0 M → va_P D classes (me_W ad ca M) H → va_D A (me_W ad ca M) → va_S A s.heap H locs → lv_has ls 3 [(0, .ref (ad 12 j0)), (1, .int y1), (2, .int y2)] → W p l e rm_Store_held s m [.ref (ad 12 j0)].toArray below meth c H locs 0 0 (MQ below (q_Store_held D ad ca N M0 MZ RZ A) [.ref (ad 12 j0)].toArray s rm_Store_held.cells rm_Store_held.slots A) (F0 m 4 ls []) := by
    intro fu
    induction fu with
    | zero =>
      intro M y1 y2 H locs ls h hwf hkp hP hD hS hl
      cases h
    | succ fu ih =>
      intro M y1 y2 H locs ls h hwf hkp hP hD hS hl
      unfold f_Store_held_l4 at h
      have hkb := hkp
      refine lv_iload_n hx hb d_Store_held_4 rfl (lv_at hl 2 rfl) ?_
      refine lv_aload_n hx hb d_Store_held_5 rfl (lv_at hl 0 rfl) ?_
      refine g_Store_3 hx hb hts hown hK hP hwf hj0 (hts _ u_911) d_Store_held_6 ?_
      refine lv_icmp_ge (tgt := 35) hx hb d_Store_held_9 (by decide) (fun c1 => ?_) (fun c1 => ?_)
      · have h := if_t c1 h
        refine lv_iload_n hx hb d_Store_held_35 rfl (lv_at hl 1 rfl) ?_
        exact me_reti (me_kp M0) h hx hb hr hlocks hwf hkp hP hK hD hS d_Store_held_36
      have h := if_f c1 h
      refine lv_iload_n hx hb d_Store_held_12 rfl (lv_at hl 1 rfl) ?_
      refine lv_aload_n hx hb d_Store_held_13 rfl (lv_at hl 0 rfl) ?_
      refine g_Store_6 hx hb hts hown hK hP hwf hj0 (hts _ u_917) d_Store_held_14 ?_
      obtain ⟨j2, e3, h⟩ := bd_ob h
      have hj2 : j2 < N 15 := (hwf.2.1 12 j0 6 _ e3 (by decide) hj0)
      refine me_opt (j := j2) e3 ?_
      refine lv_iload_n hx hb d_Store_held_17 rfl (lv_at hl 2 rfl) ?_
      obtain ⟨g4, h⟩ := gd_ob h
      refine me_zald hx hb hK hP hwf hj2 g4 d_Store_held_18 ?_
      have z5 := hwf.2.2.2 15 j2 y2.toNatClampNeg rfl
      refine lv_if_eq (tgt := 26) hx hb d_Store_held_19 (by decide) (fun c6 => ?_) (fun c6 => ?_)
      · have h := if_t c6 h
        refine lv_iconst (v := 0) hx hb d_Store_held_26 (by decide) ?_
        refine lv_iadd hx hb d_Store_held_27 ?_
        obtain ⟨v7, ev7, h⟩ := st_ob h
        refine fg_topi (y := v7) ev7.symm ?_
        refine lv_istore_n (lv' := [(1, .int v7), (0, .ref (ad 12 j0)), (2, .int y2)]) hx hb d_Store_held_28 rfl hl (by decide) rfl (fun ls hl => ?_)
        refine lv_iinc (v := y2 + 1) (lv' := [(2, .int (y2 + 1)), (1, .int v7), (0, .ref (ad 12 j0))]) hx hb d_Store_held_29 hl (k := 2) rfl (by rfl) (by decide) rfl (fun ls hl => ?_)
        refine lv_goto (tgt := 4) hx hb d_Store_held_32 (by decide) ?_
        exact ih M v7 (y2 + 1) _ _ _ h hwf hkp hP hD hS (lv_sub hl [2, 1, 0] rfl)
      have h := if_f c6 h
      refine lv_iconst (v := 1) hx hb d_Store_held_22 (by decide) ?_
      refine lv_goto (tgt := 27) hx hb d_Store_held_23 (by decide) ?_
      refine lv_iadd hx hb d_Store_held_27 ?_
      obtain ⟨v8, ev8, h⟩ := st_ob h
      refine fg_topi (y := v8) ev8.symm ?_
      refine lv_istore_n (lv' := [(1, .int v8), (0, .ref (ad 12 j0)), (2, .int y2)]) hx hb d_Store_held_28 rfl hl (by decide) rfl (fun ls hl => ?_)
      refine lv_iinc (v := y2 + 1) (lv' := [(2, .int (y2 + 1)), (1, .int v8), (0, .ref (ad 12 j0))]) hx hb d_Store_held_29 hl (k := 2) rfl (by rfl) (by decide) rfl (fun ls hl => ?_)
      refine lv_goto (tgt := 4) hx hb d_Store_held_32 (by decide) ?_
      exact ih M v8 (y2 + 1) _ _ _ h hwf hkp hP hD hS (lv_sub hl [2, 1, 0] rfl)
  refine lv_iconst (v := 0) hx hb d_Store_held_0 (by decide) ?_
  refine lv_istore_n (lv' := [(1, .int 0), (0, .ref (ad 12 j0))]) hx hb d_Store_held_1 rfl hl (by decide) rfl (fun ls hl => ?_)
  refine lv_iconst (v := 0) hx hb d_Store_held_2 (by decide) ?_
  refine lv_istore_n (lv' := [(2, .int 0), (1, .int 0), (0, .ref (ad 12 j0))]) hx hb d_Store_held_3 rfl hl (by decide) rfl (fun ls hl => ?_)
  exact b_4 _ M0 (0 : Int32) (0 : Int32) _ _ _ h hwf hkp hP hD hS (lv_sub hl [2, 1, 0] rfl)
theorem d_G_count_0 : decode prog_1_method_18_code 0 = .ok (.iload_n 1, 1) := by decide +kernel
theorem d_G_count_1 : decode prog_1_method_18_code 1 = .ok (.tableswitch 74 0 4 #[35, 40, 45, 53, 66], 35) := by decide +kernel
theorem d_G_count_36 : decode prog_1_method_18_code 36 = .ok (.aload_n 0, 1) := by decide +kernel
theorem d_G_count_37 : decode prog_1_method_18_code 37 = .ok (.getfield 58, 3) := by decide +kernel
theorem d_G_count_40 : decode prog_1_method_18_code 40 = .ok (.ireturn, 1) := by decide +kernel
theorem d_G_count_41 : decode prog_1_method_18_code 41 = .ok (.aload_n 0, 1) := by decide +kernel
theorem d_G_count_42 : decode prog_1_method_18_code 42 = .ok (.getfield 85, 3) := by decide +kernel
theorem d_G_count_45 : decode prog_1_method_18_code 45 = .ok (.ireturn, 1) := by decide +kernel
theorem d_G_count_46 : decode prog_1_method_18_code 46 = .ok (.aload_n 0, 1) := by decide +kernel
theorem d_G_count_47 : decode prog_1_method_18_code 47 = .ok (.getfield 50, 3) := by decide +kernel
theorem d_G_count_50 : decode prog_1_method_18_code 50 = .ok (.getfield 229, 3) := by decide +kernel
theorem d_G_count_53 : decode prog_1_method_18_code 53 = .ok (.ireturn, 1) := by decide +kernel
theorem d_G_count_54 : decode prog_1_method_18_code 54 = .ok (.aload_n 0, 1) := by decide +kernel
theorem d_G_count_55 : decode prog_1_method_18_code 55 = .ok (.getfield 129, 3) := by decide +kernel
theorem d_G_count_58 : decode prog_1_method_18_code 58 = .ok (.ifCond .eq 7, 3) := by decide +kernel
theorem d_G_count_65 : decode prog_1_method_18_code 65 = .ok (.iconst 0, 1) := by decide +kernel
theorem d_G_count_66 : decode prog_1_method_18_code 66 = .ok (.ireturn, 1) := by decide +kernel
theorem d_G_count_61 : decode prog_1_method_18_code 61 = .ok (.iconst 1, 1) := by decide +kernel
theorem d_G_count_62 : decode prog_1_method_18_code 62 = .ok (.goto 4, 3) := by decide +kernel
theorem d_G_count_67 : decode prog_1_method_18_code 67 = .ok (.aload_n 0, 1) := by decide +kernel
theorem d_G_count_68 : decode prog_1_method_18_code 68 = .ok (.getfield 50, 3) := by decide +kernel
theorem d_G_count_71 : decode prog_1_method_18_code 71 = .ok (.getfield 217, 3) := by decide +kernel
theorem d_G_count_74 : decode prog_1_method_18_code 74 = .ok (.ireturn, 1) := by decide +kernel
theorem d_G_count_75 : decode prog_1_method_18_code 75 = .ok (.iload_n 1, 1) := by decide +kernel
theorem d_G_count_76 : decode prog_1_method_18_code 76 = .ok (.bipush 10, 2) := by decide +kernel
theorem d_G_count_78 : decode prog_1_method_18_code 78 = .ok (.if_icmp .lt 29, 3) := by decide +kernel
theorem d_G_count_107 : decode prog_1_method_18_code 107 = .ok (.iconst (-1), 1) := by decide +kernel
theorem d_G_count_108 : decode prog_1_method_18_code 108 = .ok (.ireturn, 1) := by decide +kernel
theorem d_G_count_81 : decode prog_1_method_18_code 81 = .ok (.iload_n 1, 1) := by decide +kernel
theorem d_G_count_82 : decode prog_1_method_18_code 82 = .ok (.bipush 10, 2) := by decide +kernel
theorem d_G_count_84 : decode prog_1_method_18_code 84 = .ok (.isub, 1) := by decide +kernel
theorem d_G_count_85 : decode prog_1_method_18_code 85 = .ok (.aload_n 0, 1) := by decide +kernel
theorem d_G_count_86 : decode prog_1_method_18_code 86 = .ok (.getfield 85, 3) := by decide +kernel
theorem d_G_count_89 : decode prog_1_method_18_code 89 = .ok (.if_icmp .ge 18, 3) := by decide +kernel
theorem d_G_count_92 : decode prog_1_method_18_code 92 = .ok (.aload_n 0, 1) := by decide +kernel
theorem d_G_count_93 : decode prog_1_method_18_code 93 = .ok (.getfield 15, 3) := by decide +kernel
theorem d_G_count_96 : decode prog_1_method_18_code 96 = .ok (.iload_n 1, 1) := by decide +kernel
theorem d_G_count_97 : decode prog_1_method_18_code 97 = .ok (.bipush 10, 2) := by decide +kernel
theorem d_G_count_99 : decode prog_1_method_18_code 99 = .ok (.isub, 1) := by decide +kernel
theorem d_G_count_100 : decode prog_1_method_18_code 100 = .ok (.aaload, 1) := by decide +kernel
theorem d_G_count_101 : decode prog_1_method_18_code 101 = .ok (.invokevirtual 237, 3) := by decide +kernel
theorem u_799 : Cond.methodLink "FilterGuard" 237 ⟨"FilterGuard$Store", "held", "()I"⟩ ∈ fg_g := fg_in (List.mem_of_getElem? (i := 799) (by decide +kernel)) rfl
theorem u_802 : Cond.code ⟨"FilterGuard$Store", "held", "()I"⟩ prog_12_method_7_code 3 (some .int) ∈ fg_g := fg_in (List.mem_of_getElem? (i := 802) (by decide +kernel)) rfl
theorem u_800 : Cond.instanceMethod ⟨"FilterGuard$Store", "held", "()I"⟩ ∈ fg_g := fg_in (List.mem_of_getElem? (i := 800) (by decide +kernel)) rfl
theorem u_801 : Cond.selects "FilterGuard$Store" ⟨"FilterGuard$Store", "held", "()I"⟩ ⟨"FilterGuard$Store", "held", "()I"⟩ ∈ fg_g := fg_in (List.mem_of_getElem? (i := 801) (by decide +kernel)) rfl
theorem d_G_count_104 : decode prog_1_method_18_code 104 = .ok (.goto 4, 3) := by decide +kernel
abbrev y_G_count : MethodName := ⟨"FilterGuard", "count", "(I)I"⟩
def f_G_count (M0 : me_M) (j0 : Nat) (x1 : Int32) : Option (me_M × Int32) := (if x1 = 0 then some (M0, (mI M0 0 j0 1)) else (if x1 = 1 then some (M0, (mI M0 0 j0 3)) else (if x1 = 2 then bd (mR M0 0 j0 8) (fun (j5 : Nat) => some (M0, (mI M0 5 j5 10))) else (if x1 = 3 then (if (mI M0 0 j0 12) = 0 then some (M0, (0 : Int32)) else some (M0, (1 : Int32))) else (if x1 = 4 then bd (mR M0 0 j0 8) (fun (j11 : Nat) => some (M0, (mI M0 5 j11 12))) else (if x1 < 10 then some (M0, (-1 : Int32)) else (if (mI M0 0 j0 3) ≤ (x1 - 10) then some (M0, (-1 : Int32)) else bd (mR M0 0 j0 2) (fun (j15 : Nat) => gd (¬ ((x1 - 10) < 0 ∨ mZ M0 19 j15 ≤ (x1 - 10).toNatClampNeg)) (bd (mR M0 19 j15 ((x1 - 10).toNatClampNeg)) (fun (j18 : Nat) => b2 (f_Store_held M0 j18) (fun (M20 : me_M) (r21 : Int32) => some (M20, r21))))))))))))
def rm_G_count : Room := { frames := 2, cells := 0, slots := 0, locals := 42 }
abbrev q_G_count (D : va_G) (ad : Nat → Nat → Nat) (ca : Nat → ClassId) (N : Nat → Nat) (M0 MZ : me_M) (RZ : Int32) (A : Nat → Prop) : Array Value → Jvm.State → Outcome → Jvm.State → Prop := va_Qi (fun r (_ : Unit) => r = RZ ∧ me_wf N MZ ∧ me_kp M0 MZ) (fg_B D A (fun _ => me_W ad ca MZ) (fun _ => [])) A
set_option maxHeartbeats 4000000 in
set_option maxRecDepth 100000 in
theorem c_G_count (l : Launch) (D : va_G) (ad : Nat → Nat → Nat) (ca : Nat → ClassId) (N : Nat → Nat) (M0 MZ : me_M) (RZ : Int32) (j0 : Nat) (x1 : Int32) (h : f_G_count M0 j0 x1 = (some (MZ, RZ))) (hwf : me_wf N M0) (hj0 : j0 < N 0) (sz : Nat) : Met l y_G_count (fg_w y_G_count prog_1_method_18_code 2 (some .int)) rm_G_count (va_Pc [.ref (ad 0 j0), .int x1] (fz_P D (me_T ca) (me_W ad ca M0) sz)) (q_G_count D ad ca N M0 MZ RZ (va_A (me_W ad ca M0) sz)) rm_G_count.cells rm_G_count.slots (va_A (me_W ad ca M0) sz) := by
  refine fz_enter (fun A => q_G_count D ad ca N M0 MZ RZ A) (by decide +kernel) (Nat.le_of_ble_eq_true rfl) ?_
  intro p e s m below meth c ls A hx hb hml hown hts hr hlocks hin hP hK hD hS hA hX hl hz
  have hl : lv_has ls 2 [(0, .ref (ad 0 j0)), (1, .int x1)] := hl
  unfold f_G_count at h
  have hkp : me_kp M0 M0 := me_kp.rf
  have hkb := hkp
  refine lv_iload_n hx hb d_G_count_0 rfl (lv_at hl 1 rfl) ?_
  refine lv_topi (fun w1 ew1 => ?_)
  by_cases n2 : w1 = 0
  · have h := if_t (ew1.symm.trans n2) h
    subst n2
    refine lv_tableIn (off := 35) (tgt := 36) hx hb d_G_count_1 (by decide) (by decide) (by decide) (by decide) ?_
    refine lv_aload_n hx hb d_G_count_36 rfl (lv_at hl 0 rfl) ?_
    refine g_G_1 hx hb hts hown hK hP hwf hj0 (hts _ u_694) d_G_count_37 ?_
    exact me_reti (me_kp M0) h hx hb hr hlocks hwf hkp hP hK hD hS d_G_count_40
  have h := if_f (fun z => n2 (ew1.trans z)) h
  by_cases n3 : w1 = 1
  · have h := if_t (ew1.symm.trans n3) h
    subst n3
    refine lv_tableIn (off := 40) (tgt := 41) hx hb d_G_count_1 (by decide) (by decide) (by decide) (by decide) ?_
    refine lv_aload_n hx hb d_G_count_41 rfl (lv_at hl 0 rfl) ?_
    refine g_G_3 hx hb hts hown hK hP hwf hj0 (hts _ u_696) d_G_count_42 ?_
    exact me_reti (me_kp M0) h hx hb hr hlocks hwf hkp hP hK hD hS d_G_count_45
  have h := if_f (fun z => n3 (ew1.trans z)) h
  by_cases n4 : w1 = 2
  · have h := if_t (ew1.symm.trans n4) h
    subst n4
    refine lv_tableIn (off := 45) (tgt := 46) hx hb d_G_count_1 (by decide) (by decide) (by decide) (by decide) ?_
    refine lv_aload_n hx hb d_G_count_46 rfl (lv_at hl 0 rfl) ?_
    refine g_G_8 hx hb hts hown hK hP hwf hj0 (hts _ u_701) d_G_count_47 ?_
    obtain ⟨j5, e6, h⟩ := bd_ob h
    have hj5 : j5 < N 5 := (hwf.2.1 0 j0 8 _ e6 (by decide) hj0)
    refine me_opt (j := j5) e6 ?_
    refine g_Machine_10 hx hb hts hown hK hP hwf hj5 (hts _ u_637) d_G_count_50 ?_
    exact me_reti (me_kp M0) h hx hb hr hlocks hwf hkp hP hK hD hS d_G_count_53
  have h := if_f (fun z => n4 (ew1.trans z)) h
  by_cases n7 : w1 = 3
  · have h := if_t (ew1.symm.trans n7) h
    subst n7
    refine lv_tableIn (off := 53) (tgt := 54) hx hb d_G_count_1 (by decide) (by decide) (by decide) (by decide) ?_
    refine lv_aload_n hx hb d_G_count_54 rfl (lv_at hl 0 rfl) ?_
    refine g_G_12 hx hb hts hown hK hP hwf hj0 (hts _ u_705) d_G_count_55 ?_
    have z8 := (hwf.2.2.2 0 j0 12 rfl)
    refine lv_if_eq (tgt := 65) hx hb d_G_count_58 (by decide) (fun c9 => ?_) (fun c9 => ?_)
    · have h := if_t c9 h
      refine lv_iconst (v := 0) hx hb d_G_count_65 (by decide) ?_
      exact me_reti (me_kp M0) h hx hb hr hlocks hwf hkp hP hK hD hS d_G_count_66
    have h := if_f c9 h
    refine lv_iconst (v := 1) hx hb d_G_count_61 (by decide) ?_
    refine lv_goto (tgt := 66) hx hb d_G_count_62 (by decide) ?_
    exact me_reti (me_kp M0) h hx hb hr hlocks hwf hkp hP hK hD hS d_G_count_66
  have h := if_f (fun z => n7 (ew1.trans z)) h
  by_cases n10 : w1 = 4
  · have h := if_t (ew1.symm.trans n10) h
    subst n10
    refine lv_tableIn (off := 66) (tgt := 67) hx hb d_G_count_1 (by decide) (by decide) (by decide) (by decide) ?_
    refine lv_aload_n hx hb d_G_count_67 rfl (lv_at hl 0 rfl) ?_
    refine g_G_8 hx hb hts hown hK hP hwf hj0 (hts _ u_701) d_G_count_68 ?_
    obtain ⟨j11, e12, h⟩ := bd_ob h
    have hj11 : j11 < N 5 := (hwf.2.1 0 j0 8 _ e12 (by decide) hj0)
    refine me_opt (j := j11) e12 ?_
    refine g_Machine_12 hx hb hts hown hK hP hwf hj11 (hts _ u_641) d_G_count_71 ?_
    exact me_reti (me_kp M0) h hx hb hr hlocks hwf hkp hP hK hD hS d_G_count_74
  have h := if_f (fun z => n10 (ew1.trans z)) h
  have in2 := lv_neT n2 (show (0 : Int32).toInt = 0 from rfl)
  have in3 := lv_neT n3 (show (1 : Int32).toInt = 1 from rfl)
  have in4 := lv_neT n4 (show (2 : Int32).toInt = 2 from rfl)
  have in7 := lv_neT n7 (show (3 : Int32).toInt = 3 from rfl)
  have in10 := lv_neT n10 (show (4 : Int32).toInt = 4 from rfl)
  refine lv_tableOut (tgt := 75) hx hb d_G_count_1 (by omega) (by decide) ?_
  refine lv_iload_n hx hb d_G_count_75 rfl (lv_at hl 1 rfl) ?_
  refine lv_bipush (v := 10) hx hb d_G_count_76 (by decide) ?_
  refine lv_icmp_lt (tgt := 107) hx hb d_G_count_78 (by decide) (fun c13 => ?_) (fun c13 => ?_)
  · have h := if_t c13 h
    refine lv_iconst (v := (-1)) hx hb d_G_count_107 (by decide) ?_
    exact me_reti (me_kp M0) h hx hb hr hlocks hwf hkp hP hK hD hS d_G_count_108
  have h := if_f c13 h
  refine lv_iload_n hx hb d_G_count_81 rfl (lv_at hl 1 rfl) ?_
  refine lv_bipush (v := 10) hx hb d_G_count_82 (by decide) ?_
  refine lv_isub hx hb d_G_count_84 ?_
  refine lv_aload_n hx hb d_G_count_85 rfl (lv_at hl 0 rfl) ?_
  refine g_G_3 hx hb hts hown hK hP hwf hj0 (hts _ u_696) d_G_count_86 ?_
  refine lv_icmp_ge (tgt := 107) hx hb d_G_count_89 (by decide) (fun c14 => ?_) (fun c14 => ?_)
  · have h := if_t c14 h
    refine lv_iconst (v := (-1)) hx hb d_G_count_107 (by decide) ?_
    exact me_reti (me_kp M0) h hx hb hr hlocks hwf hkp hP hK hD hS d_G_count_108
  have h := if_f c14 h
  refine lv_aload_n hx hb d_G_count_92 rfl (lv_at hl 0 rfl) ?_
  refine g_G_2 hx hb hts hown hK hP hwf hj0 (hts _ u_695) d_G_count_93 ?_
  obtain ⟨j15, e16, h⟩ := bd_ob h
  have hj15 : j15 < N 19 := (hwf.2.1 0 j0 2 _ e16 (by decide) hj0)
  refine me_opt (j := j15) e16 ?_
  refine lv_iload_n hx hb d_G_count_96 rfl (lv_at hl 1 rfl) ?_
  refine lv_bipush (v := 10) hx hb d_G_count_97 (by decide) ?_
  refine lv_isub hx hb d_G_count_99 ?_
  obtain ⟨g17, h⟩ := gd_ob h
  refine me_aald (k := 19) (t := 12) hx hb hK hP hwf hj15 (by decide) (by decide) rfl (fun _ => rfl) g17 d_G_count_100 ?_
  obtain ⟨j18, e19, h⟩ := bd_ob h
  have hj18 : j18 < N 12 := (hwf.2.1 19 j15 ((x1 - 10).toNatClampNeg) _ e19 (by decide) hj15)
  refine me_opt (j := j18) e19 ?_
  obtain ⟨M20, r21, eM20, h⟩ := b2_ob h
  refine me_theni0 (M1 := M20) (me_runV (C := "FilterGuard$Store") (As := []) (rest := []) ⟨hx, hb, hml, hown, hts⟩ (c_Store_held l D ad ca N M0 M20 r21 j18 eM20 hwf hj18 _) rfl (by show fg_nm y_Store_held 0; decide +kernel) u_799 u_800 u_801 u_201 u_802 ⟨Nat.le_of_ble_eq_true rfl, Nat.le_of_ble_eq_true rfl⟩ hX hz hK hP hD hwf hS hA hj18 (by decide) rfl rfl rfl hl.1 (Nat.le_of_ble_eq_true rfl) d_G_count_101 ⟨Nat.le_of_ble_eq_true rfl, Nat.le_of_ble_eq_true rfl⟩) hP hD hK hS hA rfl rfl (fun H locs hw hP hD hS => ?_)
  obtain ⟨hwf, hk9⟩ := hw
  have hkp := hkp.tr hk9
  refine lv_goto (tgt := 108) hx hb d_G_count_104 (by decide) ?_
  exact me_reti (me_kp M0) h hx hb hr hlocks hwf hkp hP hK hD hS d_G_count_108
