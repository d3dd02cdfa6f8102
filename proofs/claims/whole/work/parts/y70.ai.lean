theorem d_Code_isJump_0 : decode prog_4_method_13_code 0 = .ok (.aload_n 0, 1) := by decide +kernel
theorem d_Code_isJump_1 : decode prog_4_method_13_code 1 = .ok (.getfield 55, 3) := by decide +kernel
theorem d_Code_isJump_4 : decode prog_4_method_13_code 4 = .ok (.bipush 7, 2) := by decide +kernel
theorem d_Code_isJump_6 : decode prog_4_method_13_code 6 = .ok (.if_icmp .eq 12, 3) := by decide +kernel
theorem d_Code_isJump_18 : decode prog_4_method_13_code 18 = .ok (.iconst 1, 1) := by decide +kernel
theorem d_Code_isJump_19 : decode prog_4_method_13_code 19 = .ok (.goto 4, 3) := by decide +kernel
theorem d_Code_isJump_23 : decode prog_4_method_13_code 23 = .ok (.ireturn, 1) := by decide +kernel
theorem d_Code_isJump_9 : decode prog_4_method_13_code 9 = .ok (.aload_n 0, 1) := by decide +kernel
theorem d_Code_isJump_10 : decode prog_4_method_13_code 10 = .ok (.getfield 55, 3) := by decide +kernel
theorem d_Code_isJump_13 : decode prog_4_method_13_code 13 = .ok (.bipush 8, 2) := by decide +kernel
theorem d_Code_isJump_15 : decode prog_4_method_13_code 15 = .ok (.if_icmp .ne 7, 3) := by decide +kernel
theorem d_Code_isJump_22 : decode prog_4_method_13_code 22 = .ok (.iconst 0, 1) := by decide +kernel
abbrev y_Code_isJump : MethodName := ⟨"FilterGuard$Code", "isJump", "()Z"⟩
def rm_Code_isJump : Room := { frames := 1, cells := 0, slots := 0, locals := 20 }
abbrev q_Code_isJump (D : va_G) (ad : Nat → Nat → Nat) (ca : Nat → ClassId) (N : Nat → Nat) (M0 MZ : me_M) (RZ : Int32) (A : Nat → Prop) : Array Value → Jvm.State → Outcome → Jvm.State → Prop := va_Qi (fun r (_ : Unit) => r = RZ ∧ me_wf N MZ ∧ me_kp M0 MZ ∧ (RZ = 1 ∨ RZ = 0)) (fg_B D A (fun _ => me_W ad ca MZ) (fun _ => [])) A
set_option maxHeartbeats 4000000 in
set_option maxRecDepth 100000 in
theorem c_Code_isJump (l : Launch) (D : va_G) (ad : Nat → Nat → Nat) (ca : Nat → ClassId) (N : Nat → Nat) (M0 MZ : me_M) (RZ : Int32) (j0 : Nat) (h : f_Code_isJump M0 j0 = (some (MZ, RZ))) (hwf : me_wf N M0) (hj0 : j0 < N 2) (sz : Nat) : Met l y_Code_isJump (fg_w y_Code_isJump prog_4_method_13_code 1 (some .boolean)) rm_Code_isJump (va_Pc [.ref (ad 2 j0)] (fz_P D (me_T ca) (me_W ad ca M0) sz)) (q_Code_isJump D ad ca N M0 MZ RZ (va_A (me_W ad ca M0) sz)) rm_Code_isJump.cells rm_Code_isJump.slots (va_A (me_W ad ca M0) sz) := by
  refine fz_enter (fun A => q_Code_isJump D ad ca N M0 MZ RZ A) (by decide +kernel) (Nat.le_of_ble_eq_true rfl) ?_
  intro p e s m below meth c ls A hx hb hml hown hts hr hlocks hin hP hK hD hS hA hX hl hz
  have hl : lv_has ls 1 [(0, .ref (ad 2 j0))] := hl
  unfold f_Code_isJump at h
  have hkp : me_kp M0 M0 := me_kp.rf
  have hkb := hkp
  refine lv_aload_n hx hb d_Code_isJump_0 rfl (lv_at hl 0 rfl) ?_
  refine g_Code_10 hx hb hts hown hK hP hwf hj0 (hts _ u_252) d_Code_isJump_1 ?_
  refine lv_bipush (v := 7) hx hb d_Code_isJump_4 (by decide) ?_
  refine lv_icmp_eq (tgt := 18) hx hb d_Code_isJump_6 (by decide) (fun c1 => ?_) (fun c1 => ?_)
  · have h := if_t c1 h
    refine lv_iconst (v := 1) hx hb d_Code_isJump_18 (by decide) ?_
    refine lv_goto (tgt := 23) hx hb d_Code_isJump_19 (by decide) ?_
    exact me_retz (me_kp M0) h (by decide) hx hb hr hlocks hwf hkp hP hK hD hS d_Code_isJump_23
  have h := if_f c1 h
  refine lv_aload_n hx hb d_Code_isJump_9 rfl (lv_at hl 0 rfl) ?_
  refine g_Code_10 hx hb hts hown hK hP hwf hj0 (hts _ u_252) d_Code_isJump_10 ?_
  refine lv_bipush (v := 8) hx hb d_Code_isJump_13 (by decide) ?_
  refine lv_icmp_ne (tgt := 22) hx hb d_Code_isJump_15 (by decide) (fun c2 => ?_) (fun c2 => ?_)
  · have h := if_f c2 h
    refine lv_iconst (v := 0) hx hb d_Code_isJump_22 (by decide) ?_
    exact me_retz (me_kp M0) h (by decide) hx hb hr hlocks hwf hkp hP hK hD hS d_Code_isJump_23
  have h := if_t c2 h
  refine lv_iconst (v := 1) hx hb d_Code_isJump_18 (by decide) ?_
  refine lv_goto (tgt := 23) hx hb d_Code_isJump_19 (by decide) ?_
  exact me_retz (me_kp M0) h (by decide) hx hb hr hlocks hwf hkp hP hK hD hS d_Code_isJump_23
theorem d_Code_target_0 : decode prog_4_method_11_code 0 = .ok (.iload_n 1, 1) := by decide +kernel
theorem d_Code_target_1 : decode prog_4_method_11_code 1 = .ok (.iconst 1, 1) := by decide +kernel
theorem d_Code_target_2 : decode prog_4_method_11_code 2 = .ok (.iadd, 1) := by decide +kernel
theorem d_Code_target_3 : decode prog_4_method_11_code 3 = .ok (.aload_n 0, 1) := by decide +kernel
theorem d_Code_target_4 : decode prog_4_method_11_code 4 = .ok (.getfield 38, 3) := by decide +kernel
theorem d_Code_target_7 : decode prog_4_method_11_code 7 = .ok (.iadd, 1) := by decide +kernel
theorem d_Code_target_8 : decode prog_4_method_11_code 8 = .ok (.ireturn, 1) := by decide +kernel
abbrev y_Code_target : MethodName := ⟨"FilterGuard$Code", "target", "(I)I"⟩
def rm_Code_target : Room := { frames := 1, cells := 0, slots := 0, locals := 20 }
abbrev q_Code_target (D : va_G) (ad : Nat → Nat → Nat) (ca : Nat → ClassId) (N : Nat → Nat) (M0 MZ : me_M) (RZ : Int32) (A : Nat → Prop) : Array Value → Jvm.State → Outcome → Jvm.State → Prop := va_Qi (fun r (_ : Unit) => r = RZ ∧ me_wf N MZ ∧ me_kp M0 MZ) (fg_B D A (fun _ => me_W ad ca MZ) (fun _ => [])) A
set_option maxHeartbeats 4000000 in
set_option maxRecDepth 100000 in
theorem c_Code_target (l : Launch) (D : va_G) (ad : Nat → Nat → Nat) (ca : Nat → ClassId) (N : Nat → Nat) (M0 MZ : me_M) (RZ : Int32) (j0 : Nat) (x1 : Int32) (h : f_Code_target M0 j0 x1 = (some (MZ, RZ))) (hwf : me_wf N M0) (hj0 : j0 < N 2) (sz : Nat) : Met l y_Code_target (fg_w y_Code_target prog_4_method_11_code 2 (some .int)) rm_Code_target (va_Pc [.ref (ad 2 j0), .int x1] (fz_P D (me_T ca) (me_W ad ca M0) sz)) (q_Code_target D ad ca N M0 MZ RZ (va_A (me_W ad ca M0) sz)) rm_Code_target.cells rm_Code_target.slots (va_A (me_W ad ca M0) sz) := by
  refine fz_enter (fun A => q_Code_target D ad ca N M0 MZ RZ A) (by decide +kernel) (Nat.le_of_ble_eq_true rfl) ?_
  intro p e s m below meth c ls A hx hb hml hown hts hr hlocks hin hP hK hD hS hA hX hl hz
  have hl : lv_has ls 2 [(0, .ref (ad 2 j0)), (1, .int x1)] := hl
  unfold f_Code_target at h
  have hkp : me_kp M0 M0 := me_kp.rf
  have hkb := hkp
  refine lv_iload_n hx hb d_Code_target_0 rfl (lv_at hl 1 rfl) ?_
  refine lv_iconst (v := 1) hx hb d_Code_target_1 (by decide) ?_
  refine lv_iadd hx hb d_Code_target_2 ?_
  refine lv_aload_n hx hb d_Code_target_3 rfl (lv_at hl 0 rfl) ?_
  refine g_Code_8 hx hb hts hown hK hP hwf hj0 (hts _ u_242) d_Code_target_4 ?_
  refine lv_iadd hx hb d_Code_target_7 ?_
  exact me_reti (me_kp M0) h hx hb hr hlocks hwf hkp hP hK hD hS d_Code_target_8
theorem d_Code_markTarget_0 : decode prog_4_method_15_code 0 = .ok (.iload_n 1, 1) := by decide +kernel
theorem d_Code_markTarget_1 : decode prog_4_method_15_code 1 = .ok (.ifCond .lt 20, 3) := by decide +kernel
theorem d_Code_markTarget_21 : decode prog_4_method_15_code 21 = .ok (.iconst 0, 1) := by decide +kernel
theorem d_Code_markTarget_22 : decode prog_4_method_15_code 22 = .ok (.ireturn, 1) := by decide +kernel
theorem d_Code_markTarget_4 : decode prog_4_method_15_code 4 = .ok (.iload_n 1, 1) := by decide +kernel
theorem d_Code_markTarget_5 : decode prog_4_method_15_code 5 = .ok (.aload_n 0, 1) := by decide +kernel
theorem d_Code_markTarget_6 : decode prog_4_method_15_code 6 = .ok (.getfield 22, 3) := by decide +kernel
theorem d_Code_markTarget_9 : decode prog_4_method_15_code 9 = .ok (.if_icmp .ge 12, 3) := by decide +kernel
theorem d_Code_markTarget_12 : decode prog_4_method_15_code 12 = .ok (.aload_n 0, 1) := by decide +kernel
theorem d_Code_markTarget_13 : decode prog_4_method_15_code 13 = .ok (.getfield 15, 3) := by decide +kernel
theorem d_Code_markTarget_16 : decode prog_4_method_15_code 16 = .ok (.iload_n 1, 1) := by decide +kernel
theorem d_Code_markTarget_17 : decode prog_4_method_15_code 17 = .ok (.baload, 1) := by decide +kernel
theorem d_Code_markTarget_18 : decode prog_4_method_15_code 18 = .ok (.ifCond .eq 5, 3) := by decide +kernel
theorem d_Code_markTarget_23 : decode prog_4_method_15_code 23 = .ok (.aload_n 0, 1) := by decide +kernel
theorem d_Code_markTarget_24 : decode prog_4_method_15_code 24 = .ok (.getfield 19, 3) := by decide +kernel
theorem d_Code_markTarget_27 : decode prog_4_method_15_code 27 = .ok (.iload_n 1, 1) := by decide +kernel
theorem d_Code_markTarget_28 : decode prog_4_method_15_code 28 = .ok (.iconst 1, 1) := by decide +kernel
theorem d_Code_markTarget_29 : decode prog_4_method_15_code 29 = .ok (.bastore, 1) := by decide +kernel
theorem d_Code_markTarget_30 : decode prog_4_method_15_code 30 = .ok (.iconst 1, 1) := by decide +kernel
theorem d_Code_markTarget_31 : decode prog_4_method_15_code 31 = .ok (.ireturn, 1) := by decide +kernel
abbrev y_Code_markTarget : MethodName := ⟨"FilterGuard$Code", "markTarget", "(I)Z"⟩
def rm_Code_markTarget : Room := { frames := 1, cells := 0, slots := 0, locals := 20 }
abbrev q_Code_markTarget (D : va_G) (ad : Nat → Nat → Nat) (ca : Nat → ClassId) (N : Nat → Nat) (M0 MZ : me_M) (RZ : Int32) (A : Nat → Prop) : Array Value → Jvm.State → Outcome → Jvm.State → Prop := va_Qi (fun r (_ : Unit) => r = RZ ∧ me_wf N MZ ∧ me_kp M0 MZ ∧ (RZ = 1 ∨ RZ = 0)) (fg_B D A (fun _ => me_W ad ca MZ) (fun _ => [])) A
set_option maxHeartbeats 4000000 in
set_option maxRecDepth 100000 in
theorem c_Code_markTarget (l : Launch) (D : va_G) (ad : Nat → Nat → Nat) (ca : Nat → ClassId) (N : Nat → Nat) (M0 MZ : me_M) (RZ : Int32) (j0 : Nat) (x1 : Int32) (h : f_Code_markTarget M0 j0 x1 = (some (MZ, RZ))) (hwf : me_wf N M0) (hj0 : j0 < N 2) (sz : Nat) : Met l y_Code_markTarget (fg_w y_Code_markTarget prog_4_method_15_code 2 (some .boolean)) rm_Code_markTarget (va_Pc [.ref (ad 2 j0), .int x1] (fz_P D (me_T ca) (me_W ad ca M0) sz)) (q_Code_markTarget D ad ca N M0 MZ RZ (va_A (me_W ad ca M0) sz)) rm_Code_markTarget.cells rm_Code_markTarget.slots (va_A (me_W ad ca M0) sz) := by
  refine fz_enter (fun A => q_Code_markTarget D ad ca N M0 MZ RZ A) (by decide +kernel) (Nat.le_of_ble_eq_true rfl) ?_
  intro p e s m below meth c ls A hx hb hml hown hts hr hlocks hin hP hK hD hS hA hX hl hz
  have hl : lv_has ls 2 [(0, .ref (ad 2 j0)), (1, .int x1)] := hl
  unfold f_Code_markTarget at h
  have hkp : me_kp M0 M0 := me_kp.rf
  have hkb := hkp
  refine lv_iload_n hx hb d_Code_markTarget_0 rfl (lv_at hl 1 rfl) ?_
  refine lv_if_lt (tgt := 21) hx hb d_Code_markTarget_1 (by decide) (fun c1 => ?_) (fun c1 => ?_)
  · have h := if_t c1 h
    refine lv_iconst (v := 0) hx hb d_Code_markTarget_21 (by decide) ?_
    exact me_retz (me_kp M0) h (by decide) hx hb hr hlocks hwf hkp hP hK hD hS d_Code_markTarget_22
  have h := if_f c1 h
  refine lv_iload_n hx hb d_Code_markTarget_4 rfl (lv_at hl 1 rfl) ?_
  refine lv_aload_n hx hb d_Code_markTarget_5 rfl (lv_at hl 0 rfl) ?_
  refine g_Code_3 hx hb hts hown hK hP hwf hj0 (hts _ u_226) d_Code_markTarget_6 ?_
  refine lv_icmp_ge (tgt := 21) hx hb d_Code_markTarget_9 (by decide) (fun c2 => ?_) (fun c2 => ?_)
  · have h := if_t c2 h
    refine lv_iconst (v := 0) hx hb d_Code_markTarget_21 (by decide) ?_
    exact me_retz (me_kp M0) h (by decide) hx hb hr hlocks hwf hkp hP hK hD hS d_Code_markTarget_22
  have h := if_f c2 h
  refine lv_aload_n hx hb d_Code_markTarget_12 rfl (lv_at hl 0 rfl) ?_
  refine g_Code_1 hx hb hts hown hK hP hwf hj0 (hts _ u_223) d_Code_markTarget_13 ?_
  obtain ⟨j3, e4, h⟩ := bd_ob h
  have hj3 : j3 < N 15 := (hwf.2.1 2 j0 1 _ e4 (by decide) hj0)
  refine me_opt (j := j3) e4 ?_
  refine lv_iload_n hx hb d_Code_markTarget_16 rfl (lv_at hl 1 rfl) ?_
  obtain ⟨g5, h⟩ := gd_ob h
  refine me_zald hx hb hK hP hwf hj3 g5 d_Code_markTarget_17 ?_
  have z6 := hwf.2.2.2 15 j3 x1.toNatClampNeg rfl
  refine lv_if_eq (tgt := 23) hx hb d_Code_markTarget_18 (by decide) (fun c7 => ?_) (fun c7 => ?_)
  · have h := if_t c7 h
    refine lv_aload_n hx hb d_Code_markTarget_23 rfl (lv_at hl 0 rfl) ?_
    refine g_Code_2 hx hb hts hown hK hP hwf hj0 (hts _ u_225) d_Code_markTarget_24 ?_
    obtain ⟨j8, e9, h⟩ := bd_ob h
    have hj8 : j8 < N 15 := (hwf.2.1 2 j0 2 _ e9 (by decide) hj0)
    refine me_opt (j := j8) e9 ?_
    refine lv_iload_n hx hb d_Code_markTarget_27 rfl (lv_at hl 1 rfl) ?_
    refine lv_iconst (v := 1) hx hb d_Code_markTarget_28 (by decide) ?_
    obtain ⟨g10, h⟩ := gd_ob h
    obtain ⟨M11, eM11, h⟩ := st_ob h
    refine me_zast eM11 hx hb hK hP hD hwf hS hj8 g10 d_Code_markTarget_29 (fun H locs hP hD hwf hS => ?_)
    have hkp := kp_I eM11 hkp
    refine lv_iconst (v := 1) hx hb d_Code_markTarget_30 (by decide) ?_
    exact me_retz (me_kp M0) h (by decide) hx hb hr hlocks hwf hkp hP hK hD hS d_Code_markTarget_31
  have h := if_f c7 h
  refine lv_iconst (v := 0) hx hb d_Code_markTarget_21 (by decide) ?_
  exact me_retz (me_kp M0) h (by decide) hx hb hr hlocks hwf hkp hP hK hD hS d_Code_markTarget_22
theorem d_Code_faultOfForm_66 : decode prog_4_method_14_code 66 = .ok (.iload_n 3, 1) := by decide +kernel
theorem d_Code_faultOfForm_67 : decode prog_4_method_14_code 67 = .ok (.aload_n 0, 1) := by decide +kernel
theorem d_Code_faultOfForm_68 : decode prog_4_method_14_code 68 = .ok (.getfield 22, 3) := by decide +kernel
theorem d_Code_faultOfForm_71 : decode prog_4_method_14_code 71 = .ok (.if_icmp .ge 49, 3) := by decide +kernel
theorem d_Code_faultOfForm_120 : decode prog_4_method_14_code 120 = .ok (.aload_n 0, 1) := by decide +kernel
theorem d_Code_faultOfForm_121 : decode prog_4_method_14_code 121 = .ok (.iload_n 2, 1) := by decide +kernel
theorem d_Code_faultOfForm_122 : decode prog_4_method_14_code 122 = .ok (.invokevirtual 88, 3) := by decide +kernel
theorem u_957 : Cond.methodLink "FilterGuard$Code" 88 ⟨"FilterGuard$Code", "look", "(I)V"⟩ ∈ fg_g := fg_in (List.mem_of_getElem? (i := 957) (by decide +kernel)) rfl
theorem u_960 : Cond.code ⟨"FilterGuard$Code", "look", "(I)V"⟩ prog_4_method_3_code 5 none ∈ fg_g := fg_in (List.mem_of_getElem? (i := 960) (by decide +kernel)) rfl
theorem u_958 : Cond.instanceMethod ⟨"FilterGuard$Code", "look", "(I)V"⟩ ∈ fg_g := fg_in (List.mem_of_getElem? (i := 958) (by decide +kernel)) rfl
theorem u_959 : Cond.selects "FilterGuard$Code" ⟨"FilterGuard$Code", "look", "(I)V"⟩ ⟨"FilterGuard$Code", "look", "(I)V"⟩ ∈ fg_g := fg_in (List.mem_of_getElem? (i := 959) (by decide +kernel)) rfl
theorem d_Code_faultOfForm_125 : decode prog_4_method_14_code 125 = .ok (.aload_n 0, 1) := by decide +kernel
theorem d_Code_faultOfForm_126 : decode prog_4_method_14_code 126 = .ok (.getfield 55, 3) := by decide +kernel
theorem d_Code_faultOfForm_129 : decode prog_4_method_14_code 129 = .ok (.bipush 10, 2) := by decide +kernel
theorem d_Code_faultOfForm_131 : decode prog_4_method_14_code 131 = .ok (.if_icmp .eq 20, 3) := by decide +kernel
theorem d_Code_faultOfForm_151 : decode prog_4_method_14_code 151 = .ok (.iconst 0, 1) := by decide +kernel
theorem d_Code_faultOfForm_152 : decode prog_4_method_14_code 152 = .ok (.ireturn, 1) := by decide +kernel
theorem d_Code_faultOfForm_134 : decode prog_4_method_14_code 134 = .ok (.aload_n 0, 1) := by decide +kernel
theorem d_Code_faultOfForm_135 : decode prog_4_method_14_code 135 = .ok (.getfield 55, 3) := by decide +kernel
theorem d_Code_faultOfForm_138 : decode prog_4_method_14_code 138 = .ok (.bipush 7, 2) := by decide +kernel
theorem d_Code_faultOfForm_140 : decode prog_4_method_14_code 140 = .ok (.if_icmp .eq 11, 3) := by decide +kernel
theorem d_Code_faultOfForm_143 : decode prog_4_method_14_code 143 = .ok (.aload_n 0, 1) := by decide +kernel
theorem d_Code_faultOfForm_144 : decode prog_4_method_14_code 144 = .ok (.iload_n 2, 1) := by decide +kernel
theorem d_Code_faultOfForm_145 : decode prog_4_method_14_code 145 = .ok (.putfield 26, 3) := by decide +kernel
theorem d_Code_faultOfForm_148 : decode prog_4_method_14_code 148 = .ok (.bipush 6, 2) := by decide +kernel
theorem d_Code_faultOfForm_150 : decode prog_4_method_14_code 150 = .ok (.ireturn, 1) := by decide +kernel
theorem d_Code_faultOfForm_74 : decode prog_4_method_14_code 74 = .ok (.aload_n 0, 1) := by decide +kernel
theorem d_Code_faultOfForm_75 : decode prog_4_method_14_code 75 = .ok (.iload_n 3, 1) := by decide +kernel
theorem d_Code_faultOfForm_76 : decode prog_4_method_14_code 76 = .ok (.invokevirtual 88, 3) := by decide +kernel
theorem d_Code_faultOfForm_79 : decode prog_4_method_14_code 79 = .ok (.aload_n 0, 1) := by decide +kernel
theorem d_Code_faultOfForm_80 : decode prog_4_method_14_code 80 = .ok (.getfield 15, 3) := by decide +kernel
theorem d_Code_faultOfForm_83 : decode prog_4_method_14_code 83 = .ok (.iload_n 3, 1) := by decide +kernel
theorem d_Code_faultOfForm_84 : decode prog_4_method_14_code 84 = .ok (.baload, 1) := by decide +kernel
theorem d_Code_faultOfForm_85 : decode prog_4_method_14_code 85 = .ok (.ifCond .ne 29, 3) := by decide +kernel
theorem d_Code_faultOfForm_114 : decode prog_4_method_14_code 114 = .ok (.iinc 3 1, 3) := by decide +kernel
theorem d_Code_faultOfForm_117 : decode prog_4_method_14_code 117 = .ok (.goto (-51), 3) := by decide +kernel
theorem d_Code_faultOfForm_88 : decode prog_4_method_14_code 88 = .ok (.aload_n 0, 1) := by decide +kernel
theorem d_Code_faultOfForm_89 : decode prog_4_method_14_code 89 = .ok (.invokevirtual 96, 3) := by decide +kernel
theorem u_1000 : Cond.methodLink "FilterGuard$Code" 96 ⟨"FilterGuard$Code", "isJump", "()Z"⟩ ∈ fg_g := fg_in (List.mem_of_getElem? (i := 1000) (by decide +kernel)) rfl
theorem u_1003 : Cond.code ⟨"FilterGuard$Code", "isJump", "()Z"⟩ prog_4_method_13_code 1 (some .boolean) ∈ fg_g := fg_in (List.mem_of_getElem? (i := 1003) (by decide +kernel)) rfl
theorem u_1001 : Cond.instanceMethod ⟨"FilterGuard$Code", "isJump", "()Z"⟩ ∈ fg_g := fg_in (List.mem_of_getElem? (i := 1001) (by decide +kernel)) rfl
theorem u_1002 : Cond.selects "FilterGuard$Code" ⟨"FilterGuard$Code", "isJump", "()Z"⟩ ⟨"FilterGuard$Code", "isJump", "()Z"⟩ ∈ fg_g := fg_in (List.mem_of_getElem? (i := 1002) (by decide +kernel)) rfl
theorem d_Code_faultOfForm_92 : decode prog_4_method_14_code 92 = .ok (.ifCond .eq 22, 3) := by decide +kernel
theorem d_Code_faultOfForm_95 : decode prog_4_method_14_code 95 = .ok (.aload_n 0, 1) := by decide +kernel
theorem d_Code_faultOfForm_96 : decode prog_4_method_14_code 96 = .ok (.aload_n 0, 1) := by decide +kernel
theorem d_Code_faultOfForm_97 : decode prog_4_method_14_code 97 = .ok (.iload_n 3, 1) := by decide +kernel
theorem d_Code_faultOfForm_98 : decode prog_4_method_14_code 98 = .ok (.invokevirtual 100, 3) := by decide +kernel
theorem u_1004 : Cond.methodLink "FilterGuard$Code" 100 ⟨"FilterGuard$Code", "target", "(I)I"⟩ ∈ fg_g := fg_in (List.mem_of_getElem? (i := 1004) (by decide +kernel)) rfl
theorem u_1007 : Cond.code ⟨"FilterGuard$Code", "target", "(I)I"⟩ prog_4_method_11_code 2 (some .int) ∈ fg_g := fg_in (List.mem_of_getElem? (i := 1007) (by decide +kernel)) rfl
theorem u_1005 : Cond.instanceMethod ⟨"FilterGuard$Code", "target", "(I)I"⟩ ∈ fg_g := fg_in (List.mem_of_getElem? (i := 1005) (by decide +kernel)) rfl
theorem u_1006 : Cond.selects "FilterGuard$Code" ⟨"FilterGuard$Code", "target", "(I)I"⟩ ⟨"FilterGuard$Code", "target", "(I)I"⟩ ∈ fg_g := fg_in (List.mem_of_getElem? (i := 1006) (by decide +kernel)) rfl
theorem d_Code_faultOfForm_101 : decode prog_4_method_14_code 101 = .ok (.invokevirtual 104, 3) := by decide +kernel
theorem u_1008 : Cond.methodLink "FilterGuard$Code" 104 ⟨"FilterGuard$Code", "markTarget", "(I)Z"⟩ ∈ fg_g := fg_in (List.mem_of_getElem? (i := 1008) (by decide +kernel)) rfl
theorem u_1011 : Cond.code ⟨"FilterGuard$Code", "markTarget", "(I)Z"⟩ prog_4_method_15_code 2 (some .boolean) ∈ fg_g := fg_in (List.mem_of_getElem? (i := 1011) (by decide +kernel)) rfl
theorem u_1010 : Cond.instanceMethod ⟨"FilterGuard$Code", "markTarget", "(I)Z"⟩ ∈ fg_g := fg_in (List.mem_of_getElem? (i := 1010) (by decide +kernel)) rfl
theorem u_11 : Cond.selects "FilterGuard$Code" ⟨"FilterGuard$Code", "markTarget", "(I)Z"⟩ ⟨"FilterGuard$Code", "markTarget", "(I)Z"⟩ ∈ fg_g := fg_in (List.mem_of_getElem? (i := 11) (by decide +kernel)) rfl
theorem d_Code_faultOfForm_104 : decode prog_4_method_14_code 104 = .ok (.ifCond .ne 10, 3) := by decide +kernel
theorem d_Code_faultOfForm_107 : decode prog_4_method_14_code 107 = .ok (.aload_n 0, 1) := by decide +kernel
theorem d_Code_faultOfForm_108 : decode prog_4_method_14_code 108 = .ok (.iload_n 3, 1) := by decide +kernel
theorem d_Code_faultOfForm_109 : decode prog_4_method_14_code 109 = .ok (.putfield 26, 3) := by decide +kernel
theorem d_Code_faultOfForm_112 : decode prog_4_method_14_code 112 = .ok (.iconst 5, 1) := by decide +kernel
theorem d_Code_faultOfForm_113 : decode prog_4_method_14_code 113 = .ok (.ireturn, 1) := by decide +kernel
theorem d_Code_faultOfForm_4 : decode prog_4_method_14_code 4 = .ok (.iload_n 3, 1) := by decide +kernel
theorem d_Code_faultOfForm_5 : decode prog_4_method_14_code 5 = .ok (.aload_n 0, 1) := by decide +kernel
theorem d_Code_faultOfForm_6 : decode prog_4_method_14_code 6 = .ok (.getfield 22, 3) := by decide +kernel
theorem d_Code_faultOfForm_9 : decode prog_4_method_14_code 9 = .ok (.if_icmp .ge 55, 3) := by decide +kernel
theorem d_Code_faultOfForm_64 : decode prog_4_method_14_code 64 = .ok (.iconst 0, 1) := by decide +kernel
theorem d_Code_faultOfForm_65 : decode prog_4_method_14_code 65 = .ok (.istore_n 3, 1) := by decide +kernel
theorem d_Code_faultOfForm_12 : decode prog_4_method_14_code 12 = .ok (.aload_n 0, 1) := by decide +kernel
theorem d_Code_faultOfForm_13 : decode prog_4_method_14_code 13 = .ok (.iload_n 3, 1) := by decide +kernel
theorem d_Code_faultOfForm_14 : decode prog_4_method_14_code 14 = .ok (.invokevirtual 88, 3) := by decide +kernel
theorem d_Code_faultOfForm_17 : decode prog_4_method_14_code 17 = .ok (.aload_n 0, 1) := by decide +kernel
theorem d_Code_faultOfForm_18 : decode prog_4_method_14_code 18 = .ok (.iload_n 3, 1) := by decide +kernel
theorem d_Code_faultOfForm_19 : decode prog_4_method_14_code 19 = .ok (.iload_n 1, 1) := by decide +kernel
theorem d_Code_faultOfForm_20 : decode prog_4_method_14_code 20 = .ok (.invokevirtual 92, 3) := by decide +kernel
theorem u_979 : Cond.methodLink "FilterGuard$Code" 92 ⟨"FilterGuard$Code", "faultOfSlot", "(II)I"⟩ ∈ fg_g := fg_in (List.mem_of_getElem? (i := 979) (by decide +kernel)) rfl
theorem u_982 : Cond.code ⟨"FilterGuard$Code", "faultOfSlot", "(II)I"⟩ prog_4_method_16_code 4 (some .int) ∈ fg_g := fg_in (List.mem_of_getElem? (i := 982) (by decide +kernel)) rfl
theorem u_981 : Cond.instanceMethod ⟨"FilterGuard$Code", "faultOfSlot", "(II)I"⟩ ∈ fg_g := fg_in (List.mem_of_getElem? (i := 981) (by decide +kernel)) rfl
theorem u_6 : Cond.selects "FilterGuard$Code" ⟨"FilterGuard$Code", "faultOfSlot", "(II)I"⟩ ⟨"FilterGuard$Code", "faultOfSlot", "(II)I"⟩ ∈ fg_g := fg_in (List.mem_of_getElem? (i := 6) (by decide +kernel)) rfl
theorem d_Code_faultOfForm_23 : decode prog_4_method_14_code 23 = .ok (.istore 4, 2) := by decide +kernel
theorem d_Code_faultOfForm_25 : decode prog_4_method_14_code 25 = .ok (.iload 4, 2) := by decide +kernel
theorem d_Code_faultOfForm_27 : decode prog_4_method_14_code 27 = .ok (.ifCond .eq 11, 3) := by decide +kernel
theorem d_Code_faultOfForm_38 : decode prog_4_method_14_code 38 = .ok (.iload_n 3, 1) := by decide +kernel
theorem d_Code_faultOfForm_39 : decode prog_4_method_14_code 39 = .ok (.istore_n 2, 1) := by decide +kernel
theorem d_Code_faultOfForm_40 : decode prog_4_method_14_code 40 = .ok (.aload_n 0, 1) := by decide +kernel
theorem d_Code_faultOfForm_41 : decode prog_4_method_14_code 41 = .ok (.getfield 55, 3) := by decide +kernel
theorem d_Code_faultOfForm_44 : decode prog_4_method_14_code 44 = .ok (.iconst 1, 1) := by decide +kernel
theorem d_Code_faultOfForm_45 : decode prog_4_method_14_code 45 = .ok (.if_icmp .ne 13, 3) := by decide +kernel
theorem d_Code_faultOfForm_58 : decode prog_4_method_14_code 58 = .ok (.iinc 3 1, 3) := by decide +kernel
theorem d_Code_faultOfForm_61 : decode prog_4_method_14_code 61 = .ok (.goto (-57), 3) := by decide +kernel
theorem d_Code_faultOfForm_48 : decode prog_4_method_14_code 48 = .ok (.iinc 3 1, 3) := by decide +kernel
theorem d_Code_faultOfForm_51 : decode prog_4_method_14_code 51 = .ok (.aload_n 0, 1) := by decide +kernel
theorem d_Code_faultOfForm_52 : decode prog_4_method_14_code 52 = .ok (.getfield 15, 3) := by decide +kernel
theorem d_Code_faultOfForm_55 : decode prog_4_method_14_code 55 = .ok (.iload_n 3, 1) := by decide +kernel
theorem d_Code_faultOfForm_56 : decode prog_4_method_14_code 56 = .ok (.iconst 1, 1) := by decide +kernel
theorem d_Code_faultOfForm_57 : decode prog_4_method_14_code 57 = .ok (.bastore, 1) := by decide +kernel
theorem d_Code_faultOfForm_30 : decode prog_4_method_14_code 30 = .ok (.aload_n 0, 1) := by decide +kernel
theorem d_Code_faultOfForm_31 : decode prog_4_method_14_code 31 = .ok (.iload_n 3, 1) := by decide +kernel
theorem d_Code_faultOfForm_32 : decode prog_4_method_14_code 32 = .ok (.putfield 26, 3) := by decide +kernel
theorem d_Code_faultOfForm_35 : decode prog_4_method_14_code 35 = .ok (.iload 4, 2) := by decide +kernel
theorem d_Code_faultOfForm_37 : decode prog_4_method_14_code 37 = .ok (.ireturn, 1) := by decide +kernel
theorem d_Code_faultOfForm_0 : decode prog_4_method_14_code 0 = .ok (.iconst 0, 1) := by decide +kernel
theorem d_Code_faultOfForm_1 : decode prog_4_method_14_code 1 = .ok (.istore_n 2, 1) := by decide +kernel
theorem d_Code_faultOfForm_2 : decode prog_4_method_14_code 2 = .ok (.iconst 0, 1) := by decide +kernel
theorem d_Code_faultOfForm_3 : decode prog_4_method_14_code 3 = .ok (.istore_n 3, 1) := by decide +kernel
abbrev y_Code_faultOfForm : MethodName := ⟨"FilterGuard$Code", "faultOfForm", "(I)I"⟩
def rm_Code_faultOfForm : Room := { frames := 4, cells := 0, slots := 0, locals := 84 }
abbrev q_Code_faultOfForm (D : va_G) (ad : Nat → Nat → Nat) (ca : Nat → ClassId) (N : Nat → Nat) (M0 MZ : me_M) (RZ : Int32) (A : Nat → Prop) : Array Value → Jvm.State → Outcome → Jvm.State → Prop := va_Qi (fun r (_ : Unit) => r = RZ ∧ me_wf N MZ ∧ me_kp M0 MZ) (fg_B D A (fun _ => me_W ad ca MZ) (fun _ => [])) A
set_option maxHeartbeats 4000000 in
set_option maxRecDepth 100000 in
theorem c_Code_faultOfForm (l : Launch) (D : va_G) (ad : Nat → Nat → Nat) (ca : Nat → ClassId) (N : Nat → Nat) (M0 MZ : me_M) (RZ : Int32) (j0 : Nat) (x1 : Int32) (h : f_Code_faultOfForm M0 j0 x1 = (some (MZ, RZ))) (hwf : me_wf N M0) (hj0 : j0 < N 2) (sz : Nat) : Met l y_Code_faultOfForm (fg_w y_Code_faultOfForm prog_4_method_14_code 5 (some .int)) rm_Code_faultOfForm (va_Pc [.ref (ad 2 j0), .int x1] (fz_P D (me_T ca) (me_W ad ca M0) sz)) (q_Code_faultOfForm D ad ca N M0 MZ RZ (va_A (me_W ad ca M0) sz)) rm_Code_faultOfForm.cells rm_Code_faultOfForm.slots (va_A (me_W ad ca M0) sz) := by
  refine fz_enter (fun A => q_Code_faultOfForm D ad ca N M0 MZ RZ A) (by decide +kernel) (Nat.le_of_ble_eq_true rfl) ?_
  intro p e s m below meth c ls A hx hb hml hown hts hr hlocks hin hP hK hD hS hA hX hl hz
  have hl : lv_has ls 5 [(0, .ref (ad 2 j0)), (1, .int x1)] := hl
  unfold f_Code_faultOfForm at h
  have hkp : me_kp M0 M0 := me_kp.rf
  have hkb := hkp
  have b_66 : ∀ (fu : Nat), ∀ (M : me_M) (y2 : Int32) (y3 : Int32) (H : Heap) (locs : List Loc) (ls : Array Slot), f_Code_faultOfForm_l66 j0 fu M y2 y3 = (some (MZ, RZ)) → me_wf N M → me_kp M0 M → va_P D classes (me_W ad ca M) H → va_D A (me_W ad ca M) → va_S A s.heap H locs → lv_has ls 5 [(0, .ref (ad 2 j0)), (2, .int y2), (3, .int y3)] → W p l e rm_Code_faultOfForm s m [.ref (ad 2 j0), .int x1].toArray below meth c H locs 0 0 (MQ below (q_Code_faultOfForm D ad ca N M0 MZ RZ A) [.ref (ad 2 j0), .int x1].toArray s rm_Code_faultOfForm.cells rm_Code_faultOfForm.slots A) (F0 m 66 ls []) := by
    intro fu
    induction fu with
    | zero =>
      intro M y2 y3 H locs ls h hwf hkp hP hD hS hl
      cases h
    | succ fu ih =>
      intro M y2 y3 H locs ls h hwf hkp hP hD hS hl
      unfold f_Code_faultOfForm_l66 at h
      have hkb := hkp
      refine lv_iload_n hx hb d_Code_faultOfForm_66 rfl (lv_at hl 2 rfl) ?_
      refine lv_aload_n hx hb d_Code_faultOfForm_67 rfl (lv_at hl 0 rfl) ?_
      refine g_Code_3 hx hb hts hown hK hP hwf hj0 (hts _ u_226) d_Code_faultOfForm_68 ?_
      refine lv_icmp_ge (tgt := 120) hx hb d_Code_faultOfForm_71 (by decide) (fun c1 => ?_) (fun c1 => ?_)
      · have h := if_t c1 h
        refine lv_aload_n hx hb d_Code_faultOfForm_120 rfl (lv_at hl 0 rfl) ?_
        refine lv_iload_n hx hb d_Code_faultOfForm_121 rfl (lv_at hl 1 rfl) ?_
        obtain ⟨M2, eM2, h⟩ := bd_ob h
        refine me_thenv0 (M1 := M2) (me_runV (C := "FilterGuard$Code") (As := [.int y2]) (rest := []) ⟨hx, hb, hml, hown, hts⟩ (c_Code_look l D ad ca N M M2 j0 y2 eM2 hwf hj0 _) rfl (by show fg_nm y_Code_look 1; decide +kernel) u_957 u_958 u_959 u_182 u_960 ⟨Nat.le_of_ble_eq_true rfl, Nat.le_of_ble_eq_true rfl⟩ hX hz hK hP hD hwf hS hA hj0 (by decide) rfl rfl rfl hl.1 (Nat.le_of_ble_eq_true rfl) d_Code_faultOfForm_122 ⟨Nat.le_of_ble_eq_true rfl, Nat.le_of_ble_eq_true rfl⟩) hP hD hK hS hA rfl rfl (fun H locs hw hP hD hS => ?_)
        obtain ⟨hwf, hk9⟩ := hw
        have hkp := hkp.tr hk9
        refine lv_aload_n hx hb d_Code_faultOfForm_125 rfl (lv_at hl 0 rfl) ?_
        refine g_Code_10 hx hb hts hown hK hP hwf hj0 (hts _ u_252) d_Code_faultOfForm_126 ?_
        refine lv_bipush (v := 10) hx hb d_Code_faultOfForm_129 (by decide) ?_
        refine lv_icmp_eq (tgt := 151) hx hb d_Code_faultOfForm_131 (by decide) (fun c3 => ?_) (fun c3 => ?_)
        · have h := if_t c3 h
          refine lv_iconst (v := 0) hx hb d_Code_faultOfForm_151 (by decide) ?_
          exact me_reti (me_kp M0) h hx hb hr hlocks hwf hkp hP hK hD hS d_Code_faultOfForm_152
        have h := if_f c3 h
        refine lv_aload_n hx hb d_Code_faultOfForm_134 rfl (lv_at hl 0 rfl) ?_
        refine g_Code_10 hx hb hts hown hK hP hwf hj0 (hts _ u_252) d_Code_faultOfForm_135 ?_
        refine lv_bipush (v := 7) hx hb d_Code_faultOfForm_138 (by decide) ?_
        refine lv_icmp_eq (tgt := 151) hx hb d_Code_faultOfForm_140 (by decide) (fun c4 => ?_) (fun c4 => ?_)
        · have h := if_t c4 h
          refine lv_iconst (v := 0) hx hb d_Code_faultOfForm_151 (by decide) ?_
          exact me_reti (me_kp M0) h hx hb hr hlocks hwf hkp hP hK hD hS d_Code_faultOfForm_152
        have h := if_f c4 h
        refine lv_aload_n hx hb d_Code_faultOfForm_143 rfl (lv_at hl 0 rfl) ?_
        refine lv_iload_n hx hb d_Code_faultOfForm_144 rfl (lv_at hl 1 rfl) ?_
        obtain ⟨M5, eM5, h⟩ := st_ob h
        refine p_Code_4 eM5 hx hb hts hown hK hP hD hwf hS hj0 (hts _ u_229) d_Code_faultOfForm_145 (fun H locs hP hD hwf hS => ?_)
        have hkp := kp_I eM5 hkp
        refine lv_bipush (v := 6) hx hb d_Code_faultOfForm_148 (by decide) ?_
        exact me_reti (me_kp M0) h hx hb hr hlocks hwf hkp hP hK hD hS d_Code_faultOfForm_150
      have h := if_f c1 h
      refine lv_aload_n hx hb d_Code_faultOfForm_74 rfl (lv_at hl 0 rfl) ?_
      refine lv_iload_n hx hb d_Code_faultOfForm_75 rfl (lv_at hl 2 rfl) ?_
      obtain ⟨M6, eM6, h⟩ := bd_ob h
      refine me_thenv0 (M1 := M6) (me_runV (C := "FilterGuard$Code") (As := [.int y3]) (rest := []) ⟨hx, hb, hml, hown, hts⟩ (c_Code_look l D ad ca N M M6 j0 y3 eM6 hwf hj0 _) rfl (by show fg_nm y_Code_look 1; decide +kernel) u_957 u_958 u_959 u_182 u_960 ⟨Nat.le_of_ble_eq_true rfl, Nat.le_of_ble_eq_true rfl⟩ hX hz hK hP hD hwf hS hA hj0 (by decide) rfl rfl rfl hl.1 (Nat.le_of_ble_eq_true rfl) d_Code_faultOfForm_76 ⟨Nat.le_of_ble_eq_true rfl, Nat.le_of_ble_eq_true rfl⟩) hP hD hK hS hA rfl rfl (fun H locs hw hP hD hS => ?_)
      obtain ⟨hwf, hk9⟩ := hw
      have hkp := hkp.tr hk9
      refine lv_aload_n hx hb d_Code_faultOfForm_79 rfl (lv_at hl 0 rfl) ?_
      refine g_Code_1 hx hb hts hown hK hP hwf hj0 (hts _ u_223) d_Code_faultOfForm_80 ?_
      obtain ⟨j7, e8, h⟩ := bd_ob h
      have hj7 : j7 < N 15 := (hwf.2.1 2 j0 1 _ (kp_r hkb hkp e8) (by decide) hj0)
      refine me_opt (j := j7) (kp_r hkb hkp e8) ?_
      refine lv_iload_n hx hb d_Code_faultOfForm_83 rfl (lv_at hl 2 rfl) ?_
      obtain ⟨g9, h⟩ := gd_ob h
      refine me_zald hx hb hK hP hwf hj7 (kp_z hkb.z hkp.z g9) d_Code_faultOfForm_84 ?_
      have z10 := hwf.2.2.2 15 j7 y3.toNatClampNeg rfl
      refine lv_if_ne (tgt := 114) hx hb d_Code_faultOfForm_85 (by decide) (fun c11 => ?_) (fun c11 => ?_)
      · have h := if_f c11 h
        refine lv_iinc (v := y3 + 1) (lv' := [(3, .int (y3 + 1)), (0, .ref (ad 2 j0)), (2, .int y2)]) hx hb d_Code_faultOfForm_114 hl (k := 2) rfl (by rfl) (by decide) rfl (fun ls hl => ?_)
        refine lv_goto (tgt := 66) hx hb d_Code_faultOfForm_117 (by decide) ?_
        exact ih M6 y2 (y3 + 1) _ _ _ h hwf hkp hP hD hS (lv_sub hl [1, 2, 0] rfl)
      have h := if_t c11 h
      refine lv_aload_n hx hb d_Code_faultOfForm_88 rfl (lv_at hl 0 rfl) ?_
      obtain ⟨M12, r13, eM12, h⟩ := b2_ob h
      refine me_theni0 (M1 := M12) (me_runV (C := "FilterGuard$Code") (As := []) (rest := []) ⟨hx, hb, hml, hown, hts⟩ (c_Code_isJump l D ad ca N M6 M12 r13 j0 eM12 hwf hj0 _) rfl (by show fg_nm y_Code_isJump 0; decide +kernel) u_1000 u_1001 u_1002 u_182 u_1003 ⟨Nat.le_of_ble_eq_true rfl, Nat.le_of_ble_eq_true rfl⟩ hX hz hK hP hD hwf hS hA hj0 (by decide) rfl rfl rfl hl.1 (Nat.le_of_ble_eq_true rfl) d_Code_faultOfForm_89 ⟨Nat.le_of_ble_eq_true rfl, Nat.le_of_ble_eq_true rfl⟩) hP hD hK hS hA rfl rfl (fun H locs hw hP hD hS => ?_)
      obtain ⟨hwf, hk9, zr13⟩ := hw
      have hkp := hkp.tr hk9
      refine lv_if_eq (tgt := 114) hx hb d_Code_faultOfForm_92 (by decide) (fun c14 => ?_) (fun c14 => ?_)
      · have h := if_t c14 h
        refine lv_iinc (v := y3 + 1) (lv' := [(3, .int (y3 + 1)), (0, .ref (ad 2 j0)), (2, .int y2)]) hx hb d_Code_faultOfForm_114 hl (k := 2) rfl (by rfl) (by decide) rfl (fun ls hl => ?_)
        refine lv_goto (tgt := 66) hx hb d_Code_faultOfForm_117 (by decide) ?_
        exact ih M12 y2 (y3 + 1) _ _ _ h hwf hkp hP hD hS (lv_sub hl [1, 2, 0] rfl)
      have h := if_f c14 h
      refine lv_aload_n hx hb d_Code_faultOfForm_95 rfl (lv_at hl 0 rfl) ?_
      refine lv_aload_n hx hb d_Code_faultOfForm_96 rfl (lv_at hl 0 rfl) ?_
      refine lv_iload_n hx hb d_Code_faultOfForm_97 rfl (lv_at hl 2 rfl) ?_
      obtain ⟨M15, r16, eM15, h⟩ := b2_ob h
      refine me_theni0 (M1 := M15) (me_runV (C := "FilterGuard$Code") (As := [.int y3]) (rest := [.ref (ad 2 j0)]) ⟨hx, hb, hml, hown, hts⟩ (c_Code_target l D ad ca N M12 M15 r16 j0 y3 eM15 hwf hj0 _) rfl (by show fg_nm y_Code_target 1; decide +kernel) u_1004 u_1005 u_1006 u_182 u_1007 ⟨Nat.le_of_ble_eq_true rfl, Nat.le_of_ble_eq_true rfl⟩ hX hz hK hP hD hwf hS hA hj0 (by decide) rfl rfl rfl hl.1 (Nat.le_of_ble_eq_true rfl) d_Code_faultOfForm_98 ⟨Nat.le_of_ble_eq_true rfl, Nat.le_of_ble_eq_true rfl⟩) hP hD hK hS hA rfl rfl (fun H locs hw hP hD hS => ?_)
      obtain ⟨hwf, hk9⟩ := hw
      have hkp := hkp.tr hk9
      obtain ⟨M17, r18, eM17, h⟩ := b2_ob h
      refine me_theni0 (M1 := M17) (me_runV (C := "FilterGuard$Code") (As := [.int r16]) (rest := []) ⟨hx, hb, hml, hown, hts⟩ (c_Code_markTarget l D ad ca N M15 M17 r18 j0 r16 eM17 hwf hj0 _) rfl (by show fg_nm y_Code_markTarget 1; decide +kernel) u_1008 u_1010 u_11 u_182 u_1011 ⟨Nat.le_of_ble_eq_true rfl, Nat.le_of_ble_eq_true rfl⟩ hX hz hK hP hD hwf hS hA hj0 (by decide) rfl rfl rfl hl.1 (Nat.le_of_ble_eq_true rfl) d_Code_faultOfForm_101 ⟨Nat.le_of_ble_eq_true rfl, Nat.le_of_ble_eq_true rfl⟩) hP hD hK hS hA rfl rfl (fun H locs hw hP hD hS => ?_)
      obtain ⟨hwf, hk9, zr18⟩ := hw
      have hkp := hkp.tr hk9
      refine lv_if_ne (tgt := 114) hx hb d_Code_faultOfForm_104 (by decide) (fun c19 => ?_) (fun c19 => ?_)
      · have h := if_f c19 h
        refine lv_iinc (v := y3 + 1) (lv' := [(3, .int (y3 + 1)), (0, .ref (ad 2 j0)), (2, .int y2)]) hx hb d_Code_faultOfForm_114 hl (k := 2) rfl (by rfl) (by decide) rfl (fun ls hl => ?_)
        refine lv_goto (tgt := 66) hx hb d_Code_faultOfForm_117 (by decide) ?_
        exact ih M17 y2 (y3 + 1) _ _ _ h hwf hkp hP hD hS (lv_sub hl [1, 2, 0] rfl)
      have h := if_t c19 h
      refine lv_aload_n hx hb d_Code_faultOfForm_107 rfl (lv_at hl 0 rfl) ?_
      refine lv_iload_n hx hb d_Code_faultOfForm_108 rfl (lv_at hl 2 rfl) ?_
      obtain ⟨M20, eM20, h⟩ := st_ob h
      refine p_Code_4 eM20 hx hb hts hown hK hP hD hwf hS hj0 (hts _ u_229) d_Code_faultOfForm_109 (fun H locs hP hD hwf hS => ?_)
      have hkp := kp_I eM20 hkp
      refine lv_iconst (v := 5) hx hb d_Code_faultOfForm_112 (by decide) ?_
      exact me_reti (me_kp M0) h hx hb hr hlocks hwf hkp hP hK hD hS d_Code_faultOfForm_113
  have b_4 : ∀ (fu : Nat), ∀ (M : me_M) (y2 : Int32) (y3 : Int32) (H : Heap) (locs : List Loc) (ls : Array Slot), f_Code_faultOfForm_l4 j0 x1 fu M y2 y3 = (some (MZ, RZ)) → me_wf N M → me_kp M0 M → va_P D classes (me_W ad ca M) H → va_D A (me_W ad ca M) → va_S A s.heap H locs → lv_has ls 5 [(0, .ref (ad 2 j0)), (1, .int x1), (2, .int y2), (3, .int y3)] → W p l e rm_Code_faultOfForm s m [.ref (ad 2 j0), .int x1].toArray below meth c H locs 0 0 (MQ below (q_Code_faultOfForm D ad ca N M0 MZ RZ A) [.ref (ad 2 j0), .int x1].toArray s rm_Code_faultOfForm.cells rm_Code_faultOfForm.slots A) (F0 m 4 ls []) := by
    intro fu
    induction fu with
    | zero =>
      intro M y2 y3 H locs ls h hwf hkp hP hD hS hl
      cases h
    | succ fu ih =>
      intro M y2 y3 H locs ls h hwf hkp hP hD hS hl
      unfold f_Code_faultOfForm_l4 at h
      have hkb := hkp
      refine lv_iload_n hx hb d_Code_faultOfForm_4 rfl (lv_at hl 3 rfl) ?_
      refine lv_aload_n hx hb d_Code_faultOfForm_5 rfl (lv_at hl 0 rfl) ?_
      refine g_Code_3 hx hb hts hown hK hP hwf hj0 (hts _ u_226) d_Code_faultOfForm_6 ?_
      refine lv_icmp_ge (tgt := 64) hx hb d_Code_faultOfForm_9 (by decide) (fun c21 => ?_) (fun c21 => ?_)
      · have h := if_t c21 h
        refine lv_iconst (v := 0) hx hb d_Code_faultOfForm_64 (by decide) ?_
        refine lv_istore_n (lv' := [(3, .int 0), (0, .ref (ad 2 j0)), (1, .int x1), (2, .int y2)]) hx hb d_Code_faultOfForm_65 rfl hl (by decide) rfl (fun ls hl => ?_)
        exact b_66 _ M y2 (0 : Int32) _ _ _ h hwf hkp hP hD hS (lv_sub hl [1, 3, 0] rfl)
      have h := if_f c21 h
      refine lv_aload_n hx hb d_Code_faultOfForm_12 rfl (lv_at hl 0 rfl) ?_
      refine lv_iload_n hx hb d_Code_faultOfForm_13 rfl (lv_at hl 3 rfl) ?_
      obtain ⟨M22, eM22, h⟩ := bd_ob h
      refine me_thenv0 (M1 := M22) (me_runV (C := "FilterGuard$Code") (As := [.int y3]) (rest := []) ⟨hx, hb, hml, hown, hts⟩ (c_Code_look l D ad ca N M M22 j0 y3 eM22 hwf hj0 _) rfl (by show fg_nm y_Code_look 1; decide +kernel) u_957 u_958 u_959 u_182 u_960 ⟨Nat.le_of_ble_eq_true rfl, Nat.le_of_ble_eq_true rfl⟩ hX hz hK hP hD hwf hS hA hj0 (by decide) rfl rfl rfl hl.1 (Nat.le_of_ble_eq_true rfl) d_Code_faultOfForm_14 ⟨Nat.le_of_ble_eq_true rfl, Nat.le_of_ble_eq_true rfl⟩) hP hD hK hS hA rfl rfl (fun H locs hw hP hD hS => ?_)
      obtain ⟨hwf, hk9⟩ := hw
      have hkp := hkp.tr hk9
      refine lv_aload_n hx hb d_Code_faultOfForm_17 rfl (lv_at hl 0 rfl) ?_
      refine lv_iload_n hx hb d_Code_faultOfForm_18 rfl (lv_at hl 3 rfl) ?_
      refine lv_iload_n hx hb d_Code_faultOfForm_19 rfl (lv_at hl 1 rfl) ?_
      obtain ⟨M23, r24, eM23, h⟩ := b2_ob h
      refine me_theni0 (M1 := M23) (me_runV (C := "FilterGuard$Code") (As := [.int y3, .int x1]) (rest := []) ⟨hx, hb, hml, hown, hts⟩ (c_Code_faultOfSlot l D ad ca N M22 M23 r24 j0 y3 x1 eM23 hwf hj0 _) rfl (by show fg_nm y_Code_faultOfSlot 2; decide +kernel) u_979 u_981 u_6 u_182 u_982 ⟨Nat.le_of_ble_eq_true rfl, Nat.le_of_ble_eq_true rfl⟩ hX hz hK hP hD hwf hS hA hj0 (by decide) rfl rfl rfl hl.1 (Nat.le_of_ble_eq_true rfl) d_Code_faultOfForm_20 ⟨Nat.le_of_ble_eq_true rfl, Nat.le_of_ble_eq_true rfl⟩) hP hD hK hS hA rfl rfl (fun H locs hw hP hD hS => ?_)
      obtain ⟨hwf, hk9⟩ := hw
      have hkp := hkp.tr hk9
      refine lv_istore (lv' := [(4, .int r24), (0, .ref (ad 2 j0)), (1, .int x1), (2, .int y2), (3, .int y3)]) hx hb d_Code_faultOfForm_23 hl (by decide) rfl (fun ls hl => ?_)
      refine lv_iload hx hb d_Code_faultOfForm_25 (lv_at hl 0 rfl) ?_
      refine lv_if_eq (tgt := 38) hx hb d_Code_faultOfForm_27 (by decide) (fun c25 => ?_) (fun c25 => ?_)
      · have h := if_t c25 h
        refine lv_iload_n hx hb d_Code_faultOfForm_38 rfl (lv_at hl 4 rfl) ?_
        refine lv_istore_n (lv' := [(2, .int y3), (4, .int r24), (0, .ref (ad 2 j0)), (1, .int x1), (3, .int y3)]) hx hb d_Code_faultOfForm_39 rfl hl (by decide) rfl (fun ls hl => ?_)
        refine lv_aload_n hx hb d_Code_faultOfForm_40 rfl (lv_at hl 2 rfl) ?_
        refine g_Code_10 hx hb hts hown hK hP hwf hj0 (hts _ u_252) d_Code_faultOfForm_41 ?_
        refine lv_iconst (v := 1) hx hb d_Code_faultOfForm_44 (by decide) ?_
        refine lv_icmp_ne (tgt := 58) hx hb d_Code_faultOfForm_45 (by decide) (fun c26 => ?_) (fun c26 => ?_)
        · have h := if_f c26 h
          refine lv_iinc (v := y3 + 1) (lv' := [(3, .int (y3 + 1)), (2, .int y3), (4, .int r24), (0, .ref (ad 2 j0)), (1, .int x1)]) hx hb d_Code_faultOfForm_58 hl (k := 4) rfl (by rfl) (by decide) rfl (fun ls hl => ?_)
          refine lv_goto (tgt := 4) hx hb d_Code_faultOfForm_61 (by decide) ?_
          exact ih M23 y3 (y3 + 1) _ _ _ h hwf hkp hP hD hS (lv_sub hl [3, 4, 1, 0] rfl)
        have h := if_t c26 h
        refine lv_iinc (v := y3 + 1) (lv' := [(3, .int (y3 + 1)), (2, .int y3), (4, .int r24), (0, .ref (ad 2 j0)), (1, .int x1)]) hx hb d_Code_faultOfForm_48 hl (k := 4) rfl (by rfl) (by decide) rfl (fun ls hl => ?_)
        refine lv_aload_n hx hb d_Code_faultOfForm_51 rfl (lv_at hl 3 rfl) ?_
        refine g_Code_1 hx hb hts hown hK hP hwf hj0 (hts _ u_223) d_Code_faultOfForm_52 ?_
        obtain ⟨j27, e28, h⟩ := bd_ob h
        have hj27 : j27 < N 15 := (hwf.2.1 2 j0 1 _ (kp_r hkb hkp e28) (by decide) hj0)
        refine me_opt (j := j27) (kp_r hkb hkp e28) ?_
        refine lv_iload_n hx hb d_Code_faultOfForm_55 rfl (lv_at hl 0 rfl) ?_
        refine lv_iconst (v := 1) hx hb d_Code_faultOfForm_56 (by decide) ?_
        obtain ⟨g29, h⟩ := gd_ob h
        obtain ⟨M30, eM30, h⟩ := st_ob h
        refine me_zast eM30 hx hb hK hP hD hwf hS hj27 (kp_z hkb.z hkp.z g29) d_Code_faultOfForm_57 (fun H locs hP hD hwf hS => ?_)
        have hkp := kp_I eM30 hkp
        refine lv_iinc (v := (y3 + 1) + 1) (lv' := [(3, .int ((y3 + 1) + 1)), (2, .int y3), (4, .int r24), (0, .ref (ad 2 j0)), (1, .int x1)]) hx hb d_Code_faultOfForm_58 hl (k := 0) rfl (by rfl) (by decide) rfl (fun ls hl => ?_)
        refine lv_goto (tgt := 4) hx hb d_Code_faultOfForm_61 (by decide) ?_
        exact ih M30 y3 ((y3 + 1) + 1) _ _ _ h hwf hkp hP hD hS (lv_sub hl [3, 4, 1, 0] rfl)
      have h := if_f c25 h
      refine lv_aload_n hx hb d_Code_faultOfForm_30 rfl (lv_at hl 1 rfl) ?_
      refine lv_iload_n hx hb d_Code_faultOfForm_31 rfl (lv_at hl 4 rfl) ?_
      obtain ⟨M31, eM31, h⟩ := st_ob h
      refine p_Code_4 eM31 hx hb hts hown hK hP hD hwf hS hj0 (hts _ u_229) d_Code_faultOfForm_32 (fun H locs hP hD hwf hS => ?_)
      have hkp := kp_I eM31 hkp
      refine lv_iload hx hb d_Code_faultOfForm_35 (lv_at hl 0 rfl) ?_
      exact me_reti (me_kp M0) h hx hb hr hlocks hwf hkp hP hK hD hS d_Code_faultOfForm_37
  refine lv_iconst (v := 0) hx hb d_Code_faultOfForm_0 (by decide) ?_
  refine lv_istore_n (lv' := [(2, .int 0), (0, .ref (ad 2 j0)), (1, .int x1)]) hx hb d_Code_faultOfForm_1 rfl hl (by decide) rfl (fun ls hl => ?_)
  refine lv_iconst (v := 0) hx hb d_Code_faultOfForm_2 (by decide) ?_
  refine lv_istore_n (lv' := [(3, .int 0), (2, .int 0), (0, .ref (ad 2 j0)), (1, .int x1)]) hx hb d_Code_faultOfForm_3 rfl hl (by decide) rfl (fun ls hl => ?_)
  exact b_4 _ M0 (0 : Int32) (0 : Int32) _ _ _ h hwf hkp hP hD hS (lv_sub hl [2, 3, 1, 0] rfl)
theorem d_Steps_begin_0 : decode prog_11_method_2_code 0 = .ok (.aload_n 0, 1) := by decide +kernel
theorem d_Steps_begin_1 : decode prog_11_method_2_code 1 = .ok (.iconst 0, 1) := by decide +kernel
theorem d_Steps_begin_2 : decode prog_11_method_2_code 2 = .ok (.putfield 52, 3) := by decide +kernel
theorem u_462 : Cond.fieldLink "FilterGuard$Steps" 52 "FilterGuard$Steps" "identities" "I" ∈ fg_g := fg_in (List.mem_of_getElem? (i := 462) (by decide +kernel)) rfl
theorem p_Steps_7 {p : Program} {l : Launch} {e : Env} {R : Room} {s : Jvm.State} {m : MethodId} {args : Array Value} {below : List Frame} {meth : Method} {c : Code} {H : Heap} {locs : List Loc} {cells slots : Nat} {Q : Jvm.State → Prop} {cc : ByteArray} {pc : Nat} {ls : Array Slot} {rest : List Value} {D : va_G} {A : Nat → Prop} {H0 : Heap} {ad : Nat → Nat → Nat} {ca : Nat → ClassId} {M M1 : me_M} {N : Nat → Nat} {own : String} {index j : Nat} {v : Int32} (he : M1 = wI M 7 j 7 v) (hexec : p.tables.exec = Jvm.exec) (hb : c.code = cc) (hts : ∀ w ∈ fg_g, w.before args s = true) (hown : s.vm.findClass own = some m.cls) (hK : va_K D classes (me_T ca) s) (hP : va_P D classes (me_W ad ca M) H) (hD : va_D A (me_W ad ca M)) (hwf : me_wf N M) (hS : va_S A H0 H locs) (hj : j < N 7) (hlink : (Cond.fieldLink own index "FilterGuard$Steps" "identities" "I").before args s = true) (hdg : decode cc pc = .ok (.putfield index, 3)) (kk : ∀ (H1 : Heap) (locs1 : List Loc), va_P D classes (me_W ad ca M1) H1 → va_D A (me_W ad ca M1) → me_wf N M1 → va_S A H0 H1 locs1 → W p l e R s m args below meth c H1 locs1 cells slots Q (F0 m (pc + 3) ls rest)) : W p l e R s m args below meth c H locs cells slots Q (F0 m pc ls (.int v :: .ref (ad 7 j) :: rest)) := by
  subst he
  exact me_put (M1 := wI M 7 j 7 v) (k := 7) (f := 7) (C := "FilterGuard$Steps") (T := F_Steps) (Nf := 19) hexec hb hts i_Steps t_Steps t_Steps_ok n_Steps hown hK hP hD hwf hS hj (by decide) rfl (by decide) (by decide) hlink (fun _ h9 => h9) rfl rfl rfl rfl (fun a b h => me_wIE h) (me_fIw (by decide) (by decide)) hdg (fun H1 locs1 a1 a2 a3 => kk H1 locs1 a1 a2 (me_wfI hwf (fun z => absurd z (by decide)) (fun z => absurd z (by decide))) a3)
theorem d_Steps_begin_5 : decode prog_11_method_2_code 5 = .ok (.return_, 1) := by decide +kernel
abbrev y_Steps_begin : MethodName := ⟨"FilterGuard$Steps", "begin", "()V"⟩
def rm_Steps_begin : Room := { frames := 1, cells := 0, slots := 0, locals := 20 }
abbrev q_Steps_begin (D : va_G) (ad : Nat → Nat → Nat) (ca : Nat → ClassId) (N : Nat → Nat) (M0 MZ : me_M) (A : Nat → Prop) : Array Value → Jvm.State → Outcome → Jvm.State → Prop := va_Qv (fun (_ : Unit) => me_wf N MZ ∧ me_kp M0 MZ) (fg_B D A (fun _ => me_W ad ca MZ) (fun _ => [])) A
set_option maxHeartbeats 4000000 in
set_option maxRecDepth 100000 in
theorem c_Steps_begin (l : Launch) (D : va_G) (ad : Nat → Nat → Nat) (ca : Nat → ClassId) (N : Nat → Nat) (M0 MZ : me_M) (j0 : Nat) (h : f_Steps_begin M0 j0 = (some MZ)) (hwf : me_wf N M0) (hj0 : j0 < N 7) (sz : Nat) : Met l y_Steps_begin (fg_w y_Steps_begin prog_11_method_2_code 1 none) rm_Steps_begin (va_Pc [.ref (ad 7 j0)] (fz_P D (me_T ca) (me_W ad ca M0) sz)) (q_Steps_begin D ad ca N M0 MZ (va_A (me_W ad ca M0) sz)) rm_Steps_begin.cells rm_Steps_begin.slots (va_A (me_W ad ca M0) sz) := by
  refine fz_enter (fun A => q_Steps_begin D ad ca N M0 MZ A) (by decide +kernel) (Nat.le_of_ble_eq_true rfl) ?_
  intro p e s m below meth c ls A hx hb hml hown hts hr hlocks hin hP hK hD hS hA hX hl hz
  have hl : lv_has ls 1 [(0, .ref (ad 7 j0))] := hl
  unfold f_Steps_begin at h
  have hkp : me_kp M0 M0 := me_kp.rf
  have hkb := hkp
  refine lv_aload_n hx hb d_Steps_begin_0 rfl (lv_at hl 0 rfl) ?_
  refine lv_iconst (v := 0) hx hb d_Steps_begin_1 (by decide) ?_
  obtain ⟨M1, eM1, h⟩ := st_ob h
  refine p_Steps_7 eM1 hx hb hts hown hK hP hD hwf hS hj0 (hts _ u_462) d_Steps_begin_2 (fun H locs hP hD hwf hS => ?_)
  have hkp := kp_I eM1 hkp
  exact me_retv (me_kp M0) h hx hb hr hlocks hwf hkp hP hK hD hS d_Steps_begin_5
theorem d_Cell_clear_0 : decode prog_2_method_2_code 0 = .ok (.aload_n 0, 1) := by decide +kernel
theorem d_Cell_clear_1 : decode prog_2_method_2_code 1 = .ok (.iconst 0, 1) := by decide +kernel
theorem d_Cell_clear_2 : decode prog_2_method_2_code 2 = .ok (.putfield 18, 3) := by decide +kernel
theorem u_420 : Cond.fieldLink "FilterGuard$Cell" 18 "FilterGuard$Cell" "kind" "I" ∈ fg_g := fg_in (List.mem_of_getElem? (i := 420) (by decide +kernel)) rfl
theorem p_Cell_0 {p : Program} {l : Launch} {e : Env} {R : Room} {s : Jvm.State} {m : MethodId} {args : Array Value} {below : List Frame} {meth : Method} {c : Code} {H : Heap} {locs : List Loc} {cells slots : Nat} {Q : Jvm.State → Prop} {cc : ByteArray} {pc : Nat} {ls : Array Slot} {rest : List Value} {D : va_G} {A : Nat → Prop} {H0 : Heap} {ad : Nat → Nat → Nat} {ca : Nat → ClassId} {M M1 : me_M} {N : Nat → Nat} {own : String} {index j : Nat} {v : Int32} (he : M1 = wI M 10 j 0 v) (hexec : p.tables.exec = Jvm.exec) (hb : c.code = cc) (hts : ∀ w ∈ fg_g, w.before args s = true) (hown : s.vm.findClass own = some m.cls) (hK : va_K D classes (me_T ca) s) (hP : va_P D classes (me_W ad ca M) H) (hD : va_D A (me_W ad ca M)) (hwf : me_wf N M) (hS : va_S A H0 H locs) (hj : j < N 10) (hlink : (Cond.fieldLink own index "FilterGuard$Cell" "kind" "I").before args s = true) (hdg : decode cc pc = .ok (.putfield index, 3)) (kk : ∀ (H1 : Heap) (locs1 : List Loc), va_P D classes (me_W ad ca M1) H1 → va_D A (me_W ad ca M1) → me_wf N M1 → va_S A H0 H1 locs1 → W p l e R s m args below meth c H1 locs1 cells slots Q (F0 m (pc + 3) ls rest)) : W p l e R s m args below meth c H locs cells slots Q (F0 m pc ls (.int v :: .ref (ad 10 j) :: rest)) := by
  subst he
  exact me_put (M1 := wI M 10 j 0 v) (k := 10) (f := 0) (C := "FilterGuard$Cell") (T := F_Cell) (Nf := 7) hexec hb hts i_Cell t_Cell t_Cell_ok n_Cell hown hK hP hD hwf hS hj (by decide) rfl (by decide) (by decide) hlink (fun _ h9 => h9) rfl rfl rfl rfl (fun a b h => me_wIE h) (me_fIw (by decide) (by decide)) hdg (fun H1 locs1 a1 a2 a3 => kk H1 locs1 a1 a2 (me_wfI hwf (fun z => absurd z (by decide)) (fun z => absurd z (by decide))) a3)
theorem d_Cell_clear_5 : decode prog_2_method_2_code 5 = .ok (.aload_n 0, 1) := by decide +kernel
theorem d_Cell_clear_6 : decode prog_2_method_2_code 6 = .ok (.iconst 0, 1) := by decide +kernel
theorem d_Cell_clear_7 : decode prog_2_method_2_code 7 = .ok (.putfield 22, 3) := by decide +kernel
theorem u_433 : Cond.fieldLink "FilterGuard$Cell" 22 "FilterGuard$Cell" "written" "I" ∈ fg_g := fg_in (List.mem_of_getElem? (i := 433) (by decide +kernel)) rfl
theorem p_Cell_5 {p : Program} {l : Launch} {e : Env} {R : Room} {s : Jvm.State} {m : MethodId} {args : Array Value} {below : List Frame} {meth : Method} {c : Code} {H : Heap} {locs : List Loc} {cells slots : Nat} {Q : Jvm.State → Prop} {cc : ByteArray} {pc : Nat} {ls : Array Slot} {rest : List Value} {D : va_G} {A : Nat → Prop} {H0 : Heap} {ad : Nat → Nat → Nat} {ca : Nat → ClassId} {M M1 : me_M} {N : Nat → Nat} {own : String} {index j : Nat} {v : Int32} (he : M1 = wI M 10 j 5 v) (hexec : p.tables.exec = Jvm.exec) (hb : c.code = cc) (hts : ∀ w ∈ fg_g, w.before args s = true) (hown : s.vm.findClass own = some m.cls) (hK : va_K D classes (me_T ca) s) (hP : va_P D classes (me_W ad ca M) H) (hD : va_D A (me_W ad ca M)) (hwf : me_wf N M) (hS : va_S A H0 H locs) (hj : j < N 10) (hlink : (Cond.fieldLink own index "FilterGuard$Cell" "written" "I").before args s = true) (hdg : decode cc pc = .ok (.putfield index, 3)) (kk : ∀ (H1 : Heap) (locs1 : List Loc), va_P D classes (me_W ad ca M1) H1 → va_D A (me_W ad ca M1) → me_wf N M1 → va_S A H0 H1 locs1 → W p l e R s m args below meth c H1 locs1 cells slots Q (F0 m (pc + 3) ls rest)) : W p l e R s m args below meth c H locs cells slots Q (F0 m pc ls (.int v :: .ref (ad 10 j) :: rest)) := by
  subst he
  exact me_put (M1 := wI M 10 j 5 v) (k := 10) (f := 5) (C := "FilterGuard$Cell") (T := F_Cell) (Nf := 7) hexec hb hts i_Cell t_Cell t_Cell_ok n_Cell hown hK hP hD hwf hS hj (by decide) rfl (by decide) (by decide) hlink (fun _ h9 => h9) rfl rfl rfl rfl (fun a b h => me_wIE h) (me_fIw (by decide) (by decide)) hdg (fun H1 locs1 a1 a2 a3 => kk H1 locs1 a1 a2 (me_wfI hwf (fun z => absurd z (by decide)) (fun z => absurd z (by decide))) a3)
theorem d_Cell_clear_10 : decode prog_2_method_2_code 10 = .ok (.return_, 1) := by decide +kernel
abbrev y_Cell_clear : MethodName := ⟨"FilterGuard$Cell", "clear", "()V"⟩
def rm_Cell_clear : Room := { frames := 1, cells := 0, slots := 0, locals := 20 }
abbrev q_Cell_clear (D : va_G) (ad : Nat → Nat → Nat) (ca : Nat → ClassId) (N : Nat → Nat) (M0 MZ : me_M) (A : Nat → Prop) : Array Value → Jvm.State → Outcome → Jvm.State → Prop := va_Qv (fun (_ : Unit) => me_wf N MZ ∧ me_kp M0 MZ) (fg_B D A (fun _ => me_W ad ca MZ) (fun _ => [])) A
set_option maxHeartbeats 4000000 in
set_option maxRecDepth 100000 in
theorem c_Cell_clear (l : Launch) (D : va_G) (ad : Nat → Nat → Nat) (ca : Nat → ClassId) (N : Nat → Nat) (M0 MZ : me_M) (j0 : Nat) (h : f_Cell_clear M0 j0 = (some MZ)) (hwf : me_wf N M0) (hj0 : j0 < N 10) (sz : Nat) : Met l y_Cell_clear (fg_w y_Cell_clear prog_2_method_2_code 1 none) rm_Cell_clear (va_Pc [.ref (ad 10 j0)] (fz_P D (me_T ca) (me_W ad ca M0) sz)) (q_Cell_clear D ad ca N M0 MZ (va_A (me_W ad ca M0) sz)) rm_Cell_clear.cells rm_Cell_clear.slots (va_A (me_W ad ca M0) sz) := by
  refine fz_enter (fun A => q_Cell_clear D ad ca N M0 MZ A) (by decide +kernel) (Nat.le_of_ble_eq_true rfl) ?_
  intro p e s m below meth c ls A hx hb hml hown hts hr hlocks hin hP hK hD hS hA hX hl hz
  have hl : lv_has ls 1 [(0, .ref (ad 10 j0))] := hl
  unfold f_Cell_clear at h
  have hkp : me_kp M0 M0 := me_kp.rf
  have hkb := hkp
  refine lv_aload_n hx hb d_Cell_clear_0 rfl (lv_at hl 0 rfl) ?_
  refine lv_iconst (v := 0) hx hb d_Cell_clear_1 (by decide) ?_
  obtain ⟨M1, eM1, h⟩ := st_ob h
  refine p_Cell_0 eM1 hx hb hts hown hK hP hD hwf hS hj0 (hts _ u_420) d_Cell_clear_2 (fun H locs hP hD hwf hS => ?_)
  have hkp := kp_I eM1 hkp
  refine lv_aload_n hx hb d_Cell_clear_5 rfl (lv_at hl 0 rfl) ?_
  refine lv_iconst (v := 0) hx hb d_Cell_clear_6 (by decide) ?_
  obtain ⟨M2, eM2, h⟩ := st_ob h
  refine p_Cell_5 eM2 hx hb hts hown hK hP hD hwf hS hj0 (hts _ u_433) d_Cell_clear_7 (fun H locs hP hD hwf hS => ?_)
  have hkp := kp_I eM2 hkp
  exact me_retv (me_kp M0) h hx hb hr hlocks hwf hkp hP hK hD hS d_Cell_clear_10
theorem d_State_clearFrom_2 : decode prog_10_method_4_code 2 = .ok (.iload_n 2, 1) := by decide +kernel
theorem d_State_clearFrom_3 : decode prog_10_method_4_code 3 = .ok (.aload_n 0, 1) := by decide +kernel
theorem d_State_clearFrom_4 : decode prog_10_method_4_code 4 = .ok (.getfield 17, 3) := by decide +kernel
theorem g_State_1 {p : Program} {l : Launch} {e : Env} {R : Room} {s : Jvm.State} {m : MethodId} {args : Array Value} {below : List Frame} {meth : Method} {c : Code} {H : Heap} {locs : List Loc} {cells slots : Nat} {Q : Jvm.State → Prop} {cc : ByteArray} {pc : Nat} {ls : Array Slot} {rest : List Value} {D : va_G} {ad : Nat → Nat → Nat} {ca : Nat → ClassId} {M : me_M} {N : Nat → Nat} {own : String} {index j : Nat} (hexec : p.tables.exec = Jvm.exec) (hb : c.code = cc) (hts : ∀ w ∈ fg_g, w.before args s = true) (hown : s.vm.findClass own = some m.cls) (hK : va_K D classes (me_T ca) s) (hP : va_P D classes (me_W ad ca M) H) (hwf : me_wf N M) (hj : j < N 9) (hlink : (Cond.fieldLink own index "FilterGuard$State" "used" "I").before args s = true) (hdg : decode cc pc = .ok (.getfield index, 3)) (kk : W p l e R s m args below meth c H locs cells slots Q (F0 m (pc + 3) ls (.int (mI M 9 j 1) :: rest))) : W p l e R s m args below meth c H locs cells slots Q (F0 m pc ls (.ref (ad 9 j) :: rest)) := me_get (k := 9) (f := 1) (C := "FilterGuard$State") (T := F_State) (Nf := 5) hexec hb hts i_State hown hK hP hwf hj (by decide) rfl (by decide) (by decide) hlink (fun _ h9 => h9) hdg kk
theorem d_State_clearFrom_7 : decode prog_10_method_4_code 7 = .ok (.if_icmp .ge 18, 3) := by decide +kernel
theorem d_State_clearFrom_25 : decode prog_10_method_4_code 25 = .ok (.return_, 1) := by decide +kernel
theorem d_State_clearFrom_10 : decode prog_10_method_4_code 10 = .ok (.aload_n 0, 1) := by decide +kernel
theorem d_State_clearFrom_11 : decode prog_10_method_4_code 11 = .ok (.getfield 11, 3) := by decide +kernel
theorem d_State_clearFrom_14 : decode prog_10_method_4_code 14 = .ok (.iload_n 2, 1) := by decide +kernel
theorem d_State_clearFrom_15 : decode prog_10_method_4_code 15 = .ok (.aaload, 1) := by decide +kernel
theorem d_State_clearFrom_16 : decode prog_10_method_4_code 16 = .ok (.invokevirtual 37, 3) := by decide +kernel
theorem u_1028 : Cond.methodLink "FilterGuard$State" 37 ⟨"FilterGuard$Cell", "clear", "()V"⟩ ∈ fg_g := fg_in (List.mem_of_getElem? (i := 1028) (by decide +kernel)) rfl
theorem u_1031 : Cond.code ⟨"FilterGuard$Cell", "clear", "()V"⟩ prog_2_method_2_code 1 none ∈ fg_g := fg_in (List.mem_of_getElem? (i := 1031) (by decide +kernel)) rfl
theorem u_1029 : Cond.instanceMethod ⟨"FilterGuard$Cell", "clear", "()V"⟩ ∈ fg_g := fg_in (List.mem_of_getElem? (i := 1029) (by decide +kernel)) rfl
theorem u_1030 : Cond.selects "FilterGuard$Cell" ⟨"FilterGuard$Cell", "clear", "()V"⟩ ⟨"FilterGuard$Cell", "clear", "()V"⟩ ∈ fg_g := fg_in (List.mem_of_getElem? (i := 1030) (by decide +kernel)) rfl
theorem d_State_clearFrom_19 : decode prog_10_method_4_code 19 = .ok (.iinc 2 1, 3) := by decide +kernel
theorem d_State_clearFrom_22 : decode prog_10_method_4_code 22 = .ok (.goto (-20), 3) := by decide +kernel
theorem d_State_clearFrom_0 : decode prog_10_method_4_code 0 = .ok (.iload_n 1, 1) := by decide +kernel
theorem d_State_clearFrom_1 : decode prog_10_method_4_code 1 = .ok (.istore_n 2, 1) := by decide +kernel
abbrev y_State_clearFrom : MethodName := ⟨"FilterGuard$State", "clearFrom", "(I)V"⟩
def rm_State_clearFrom : Room := { frames := 2, cells := 0, slots := 0, locals := 40 }
abbrev q_State_clearFrom (D : va_G) (ad : Nat → Nat → Nat) (ca : Nat → ClassId) (N : Nat → Nat) (M0 MZ : me_M) (A : Nat → Prop) : Array Value → Jvm.State → Outcome → Jvm.State → Prop := va_Qv (fun (_ : Unit) => me_wf N MZ ∧ me_kp M0 MZ) (fg_B D A (fun _ => me_W ad ca MZ) (fun _ => [])) A
set_option maxHeartbeats 4000000 in
set_option maxRecDepth 100000 in
theorem c_State_clearFrom (l : Launch) (D : va_G) (ad : Nat → Nat → Nat) (ca : Nat → ClassId) (N : Nat → Nat) (M0 MZ : me_M) (j0 : Nat) (x1 : Int32) (h : f_State_clearFrom M0 j0 x1 = (some MZ)) (hwf : me_wf N M0) (hj0 : j0 < N 9) (sz : Nat) : Met l y_State_clearFrom (fg_w y_State_clearFrom prog_10_method_4_code 3 none) rm_State_clearFrom (va_Pc [.ref (ad 9 j0), .int x1] (fz_P D (me_T ca) (me_W ad ca M0) sz)) (q_State_clearFrom D ad ca N M0 MZ (va_A (me_W ad ca M0) sz)) rm_State_clearFrom.cells rm_State_clearFrom.slots (va_A (me_W ad ca M0) sz) := by
  refine fz_enter (fun A => q_State_clearFrom D ad ca N M0 MZ A) (by decide +kernel) (Nat.le_of_ble_eq_true rfl) ?_
  intro p e s m below meth c ls A hx hb hml hown hts hr hlocks hin hP hK hD hS hA hX hl hz
  have hl : lv_has ls 3 [(0, .ref (ad 9 j0)), (1, .int x1)] := hl
  unfold f_State_clearFrom at h
  have hkp : me_kp M0 M0 := me_kp.rf
  have hkb := hkp
  have b_2 : ∀ (fu : Nat), ∀ (M : me_M) (y2 : Int32) (H : Heap) (locs : List Loc) (ls : Array Slot), f_State_clearFrom_l2 j0 fu M y2 = (some MZ) → me_wf N M → me_kp M0 M → va_P D classes (me_W ad ca M) H → va_D A (me_W ad ca M) → va_S A s.heap H locs → lv_has ls 3 [(0, .ref (ad 9 j0)), (2, .int y2)] → W p l e rm_State_clearFrom s m [.ref (ad 9 j0), .int x1].toArray below meth c H locs 0 0 (MQ below (q_State_clearFrom D ad ca N M0 MZ A) [.ref (ad 9 j0), .int x1].toArray s rm_State_clearFrom.cells rm_State_clearFrom.slots A) (F0 m 2 ls []) := by
    intro fu
    induction fu with
    | zero =>
      intro M y2 H locs ls h hwf hkp hP hD hS hl
      cases h
    | succ fu ih =>
      intro M y2 H locs ls h hwf hkp hP hD hS hl
      unfold f_State_clearFrom_l2 at h
      have hkb := hkp
      refine lv_iload_n hx hb d_State_clearFrom_2 rfl (lv_at hl 1 rfl) ?_
      refine lv_aload_n hx hb d_State_clearFrom_3 rfl (lv_at hl 0 rfl) ?_
      refine g_State_1 hx hb hts hown hK hP hwf hj0 (hts _ u_527) d_State_clearFrom_4 ?_
      refine lv_icmp_ge (tgt := 25) hx hb d_State_clearFrom_7 (by decide) (fun c1 => ?_) (fun c1 => ?_)
      · have h := if_t c1 h
        exact me_retv (me_kp M0) h hx hb hr hlocks hwf hkp hP hK hD hS d_State_clearFrom_25
      have h := if_f c1 h
      refine lv_aload_n hx hb d_State_clearFrom_10 rfl (lv_at hl 0 rfl) ?_
      refine g_State_0 hx hb hts hown hK hP hwf hj0 (hts _ u_523) d_State_clearFrom_11 ?_
      obtain ⟨j2, e3, h⟩ := bd_ob h
      have hj2 : j2 < N 18 := (hwf.2.1 9 j0 0 _ e3 (by decide) hj0)
      refine me_opt (j := j2) e3 ?_
      refine lv_iload_n hx hb d_State_clearFrom_14 rfl (lv_at hl 1 rfl) ?_
      obtain ⟨g4, h⟩ := gd_ob h
      refine me_aald (k := 18) (t := 10) hx hb hK hP hwf hj2 (by decide) (by decide) rfl (fun _ => rfl) g4 d_State_clearFrom_15 ?_
      obtain ⟨j5, e6, h⟩ := bd_ob h
      have hj5 : j5 < N 10 := (hwf.2.1 18 j2 y2.toNatClampNeg _ e6 (by decide) hj2)
      refine me_opt (j := j5) e6 ?_
      obtain ⟨M7, eM7, h⟩ := bd_ob h
      refine me_thenv0 (M1 := M7) (me_runV (C := "FilterGuard$Cell") (As := []) (rest := []) ⟨hx, hb, hml, hown, hts⟩ (c_Cell_clear l D ad ca N M M7 j5 eM7 hwf hj5 _) rfl (by show fg_nm y_Cell_clear 0; decide +kernel) u_1028 u_1029 u_1030 u_188 u_1031 ⟨Nat.le_of_ble_eq_true rfl, Nat.le_of_ble_eq_true rfl⟩ hX hz hK hP hD hwf hS hA hj5 (by decide) rfl rfl rfl hl.1 (Nat.le_of_ble_eq_true rfl) d_State_clearFrom_16 ⟨Nat.le_of_ble_eq_true rfl, Nat.le_of_ble_eq_true rfl⟩) hP hD hK hS hA rfl rfl (fun H locs hw hP hD hS => ?_)
      obtain ⟨hwf, hk9⟩ := hw
      have hkp := hkp.tr hk9
      refine lv_iinc (v := y2 + 1) (lv' := [(2, .int (y2 + 1)), (0, .ref (ad 9 j0))]) hx hb d_State_clearFrom_19 hl (k := 1) rfl (by rfl) (by decide) rfl (fun ls hl => ?_)
      refine lv_goto (tgt := 2) hx hb d_State_clearFrom_22 (by decide) ?_
      exact ih M7 (y2 + 1) _ _ _ h hwf hkp hP hD hS (lv_sub hl [1, 0] rfl)
  refine lv_iload_n hx hb d_State_clearFrom_0 rfl (lv_at hl 1 rfl) ?_
  refine lv_istore_n (lv' := [(2, .int x1), (0, .ref (ad 9 j0)), (1, .int x1)]) hx hb d_State_clearFrom_1 rfl hl (by decide) rfl (fun ls hl => ?_)
  exact b_2 _ M0 x1 _ _ _ h hwf hkp hP hD hS (lv_sub hl [1, 0] rfl)
theorem d_Num_exact_0 : decode prog_8_method_2_code 0 = .ok (.aload_n 0, 1) := by decide +kernel
theorem d_Num_exact_1 : decode prog_8_method_2_code 1 = .ok (.lload_n 1, 1) := by decide +kernel
theorem d_Num_exact_2 : decode prog_8_method_2_code 2 = .ok (.putfield 9, 3) := by decide +kernel
theorem u_367 : Cond.fieldLink "FilterGuard$Num" 9 "FilterGuard$Num" "value" "J" ∈ fg_g := fg_in (List.mem_of_getElem? (i := 367) (by decide +kernel)) rfl
theorem p_Num_0 {p : Program} {l : Launch} {e : Env} {R : Room} {s : Jvm.State} {m : MethodId} {args : Array Value} {below : List Frame} {meth : Method} {c : Code} {H : Heap} {locs : List Loc} {cells slots : Nat} {Q : Jvm.State → Prop} {cc : ByteArray} {pc : Nat} {ls : Array Slot} {rest : List Value} {D : va_G} {A : Nat → Prop} {H0 : Heap} {ad : Nat → Nat → Nat} {ca : Nat → ClassId} {M M1 : me_M} {N : Nat → Nat} {own : String} {index j : Nat} {v : Int64} (he : M1 = wL M 11 j 0 v) (hexec : p.tables.exec = Jvm.exec) (hb : c.code = cc) (hts : ∀ w ∈ fg_g, w.before args s = true) (hown : s.vm.findClass own = some m.cls) (hK : va_K D classes (me_T ca) s) (hP : va_P D classes (me_W ad ca M) H) (hD : va_D A (me_W ad ca M)) (hwf : me_wf N M) (hS : va_S A H0 H locs) (hj : j < N 11) (hlink : (Cond.fieldLink own index "FilterGuard$Num" "value" "J").before args s = true) (hdg : decode cc pc = .ok (.putfield index, 3)) (kk : ∀ (H1 : Heap) (locs1 : List Loc), va_P D classes (me_W ad ca M1) H1 → va_D A (me_W ad ca M1) → me_wf N M1 → va_S A H0 H1 locs1 → W p l e R s m args below meth c H1 locs1 cells slots Q (F0 m (pc + 3) ls rest)) : W p l e R s m args below meth c H locs cells slots Q (F0 m pc ls (.long v :: .ref (ad 11 j) :: rest)) := by
  subst he
  exact me_put (M1 := wL M 11 j 0 v) (k := 11) (f := 0) (C := "FilterGuard$Num") (T := F_Num) (Nf := 6) hexec hb hts i_Num t_Num t_Num_ok n_Num hown hK hP hD hwf hS hj (by decide) rfl (by decide) (by decide) hlink (fun _ h9 => h9) rfl rfl rfl rfl (fun a b h => me_wLE h) (me_fLw (by decide) (by decide)) hdg (fun H1 locs1 a1 a2 a3 => kk H1 locs1 a1 a2 (me_wfL hwf) a3)
theorem d_Num_exact_5 : decode prog_8_method_2_code 5 = .ok (.aload_n 0, 1) := by decide +kernel
theorem d_Num_exact_6 : decode prog_8_method_2_code 6 = .ok (.lconst 0, 1) := by decide +kernel
theorem d_Num_exact_7 : decode prog_8_method_2_code 7 = .ok (.putfield 15, 3) := by decide +kernel
theorem u_371 : Cond.fieldLink "FilterGuard$Num" 15 "FilterGuard$Num" "mask" "J" ∈ fg_g := fg_in (List.mem_of_getElem? (i := 371) (by decide +kernel)) rfl
theorem p_Num_1 {p : Program} {l : Launch} {e : Env} {R : Room} {s : Jvm.State} {m : MethodId} {args : Array Value} {below : List Frame} {meth : Method} {c : Code} {H : Heap} {locs : List Loc} {cells slots : Nat} {Q : Jvm.State → Prop} {cc : ByteArray} {pc : Nat} {ls : Array Slot} {rest : List Value} {D : va_G} {A : Nat → Prop} {H0 : Heap} {ad : Nat → Nat → Nat} {ca : Nat → ClassId} {M M1 : me_M} {N : Nat → Nat} {own : String} {index j : Nat} {v : Int64} (he : M1 = wL M 11 j 1 v) (hexec : p.tables.exec = Jvm.exec) (hb : c.code = cc) (hts : ∀ w ∈ fg_g, w.before args s = true) (hown : s.vm.findClass own = some m.cls) (hK : va_K D classes (me_T ca) s) (hP : va_P D classes (me_W ad ca M) H) (hD : va_D A (me_W ad ca M)) (hwf : me_wf N M) (hS : va_S A H0 H locs) (hj : j < N 11) (hlink : (Cond.fieldLink own index "FilterGuard$Num" "mask" "J").before args s = true) (hdg : decode cc pc = .ok (.putfield index, 3)) (kk : ∀ (H1 : Heap) (locs1 : List Loc), va_P D classes (me_W ad ca M1) H1 → va_D A (me_W ad ca M1) → me_wf N M1 → va_S A H0 H1 locs1 → W p l e R s m args below meth c H1 locs1 cells slots Q (F0 m (pc + 3) ls rest)) : W p l e R s m args below meth c H locs cells slots Q (F0 m pc ls (.long v :: .ref (ad 11 j) :: rest)) := by
  subst he
  exact me_put (M1 := wL M 11 j 1 v) (k := 11) (f := 1) (C := "FilterGuard$Num") (T := F_Num) (Nf := 6) hexec hb hts i_Num t_Num t_Num_ok n_Num hown hK hP hD hwf hS hj (by decide) rfl (by decide) (by decide) hlink (fun _ h9 => h9) rfl rfl rfl rfl (fun a b h => me_wLE h) (me_fLw (by decide) (by decide)) hdg (fun H1 locs1 a1 a2 a3 => kk H1 locs1 a1 a2 (me_wfL hwf) a3)
theorem d_Num_exact_10 : decode prog_8_method_2_code 10 = .ok (.aload_n 0, 1) := by decide +kernel
theorem d_Num_exact_11 : decode prog_8_method_2_code 11 = .ok (.lload_n 1, 1) := by decide +kernel
theorem d_Num_exact_12 : decode prog_8_method_2_code 12 = .ok (.putfield 18, 3) := by decide +kernel
theorem u_373 : Cond.fieldLink "FilterGuard$Num" 18 "FilterGuard$Num" "least" "J" ∈ fg_g := fg_in (List.mem_of_getElem? (i := 373) (by decide +kernel)) rfl
theorem p_Num_2 {p : Program} {l : Launch} {e : Env} {R : Room} {s : Jvm.State} {m : MethodId} {args : Array Value} {below : List Frame} {meth : Method} {c : Code} {H : Heap} {locs : List Loc} {cells slots : Nat} {Q : Jvm.State → Prop} {cc : ByteArray} {pc : Nat} {ls : Array Slot} {rest : List Value} {D : va_G} {A : Nat → Prop} {H0 : Heap} {ad : Nat → Nat → Nat} {ca : Nat → ClassId} {M M1 : me_M} {N : Nat → Nat} {own : String} {index j : Nat} {v : Int64} (he : M1 = wL M 11 j 2 v) (hexec : p.tables.exec = Jvm.exec) (hb : c.code = cc) (hts : ∀ w ∈ fg_g, w.before args s = true) (hown : s.vm.findClass own = some m.cls) (hK : va_K D classes (me_T ca) s) (hP : va_P D classes (me_W ad ca M) H) (hD : va_D A (me_W ad ca M)) (hwf : me_wf N M) (hS : va_S A H0 H locs) (hj : j < N 11) (hlink : (Cond.fieldLink own index "FilterGuard$Num" "least" "J").before args s = true) (hdg : decode cc pc = .ok (.putfield index, 3)) (kk : ∀ (H1 : Heap) (locs1 : List Loc), va_P D classes (me_W ad ca M1) H1 → va_D A (me_W ad ca M1) → me_wf N M1 → va_S A H0 H1 locs1 → W p l e R s m args below meth c H1 locs1 cells slots Q (F0 m (pc + 3) ls rest)) : W p l e R s m args below meth c H locs cells slots Q (F0 m pc ls (.long v :: .ref (ad 11 j) :: rest)) := by
  subst he
  exact me_put (M1 := wL M 11 j 2 v) (k := 11) (f := 2) (C := "FilterGuard$Num") (T := F_Num) (Nf := 6) hexec hb hts i_Num t_Num t_Num_ok n_Num hown hK hP hD hwf hS hj (by decide) rfl (by decide) (by decide) hlink (fun _ h9 => h9) rfl rfl rfl rfl (fun a b h => me_wLE h) (me_fLw (by decide) (by decide)) hdg (fun H1 locs1 a1 a2 a3 => kk H1 locs1 a1 a2 (me_wfL hwf) a3)
theorem d_Num_exact_15 : decode prog_8_method_2_code 15 = .ok (.aload_n 0, 1) := by decide +kernel
theorem d_Num_exact_16 : decode prog_8_method_2_code 16 = .ok (.lload_n 1, 1) := by decide +kernel
theorem d_Num_exact_17 : decode prog_8_method_2_code 17 = .ok (.putfield 21, 3) := by decide +kernel
theorem u_376 : Cond.fieldLink "FilterGuard$Num" 21 "FilterGuard$Num" "greatest" "J" ∈ fg_g := fg_in (List.mem_of_getElem? (i := 376) (by decide +kernel)) rfl
theorem p_Num_3 {p : Program} {l : Launch} {e : Env} {R : Room} {s : Jvm.State} {m : MethodId} {args : Array Value} {below : List Frame} {meth : Method} {c : Code} {H : Heap} {locs : List Loc} {cells slots : Nat} {Q : Jvm.State → Prop} {cc : ByteArray} {pc : Nat} {ls : Array Slot} {rest : List Value} {D : va_G} {A : Nat → Prop} {H0 : Heap} {ad : Nat → Nat → Nat} {ca : Nat → ClassId} {M M1 : me_M} {N : Nat → Nat} {own : String} {index j : Nat} {v : Int64} (he : M1 = wL M 11 j 3 v) (hexec : p.tables.exec = Jvm.exec) (hb : c.code = cc) (hts : ∀ w ∈ fg_g, w.before args s = true) (hown : s.vm.findClass own = some m.cls) (hK : va_K D classes (me_T ca) s) (hP : va_P D classes (me_W ad ca M) H) (hD : va_D A (me_W ad ca M)) (hwf : me_wf N M) (hS : va_S A H0 H locs) (hj : j < N 11) (hlink : (Cond.fieldLink own index "FilterGuard$Num" "greatest" "J").before args s = true) (hdg : decode cc pc = .ok (.putfield index, 3)) (kk : ∀ (H1 : Heap) (locs1 : List Loc), va_P D classes (me_W ad ca M1) H1 → va_D A (me_W ad ca M1) → me_wf N M1 → va_S A H0 H1 locs1 → W p l e R s m args below meth c H1 locs1 cells slots Q (F0 m (pc + 3) ls rest)) : W p l e R s m args below meth c H locs cells slots Q (F0 m pc ls (.long v :: .ref (ad 11 j) :: rest)) := by
  subst he
  exact me_put (M1 := wL M 11 j 3 v) (k := 11) (f := 3) (C := "FilterGuard$Num") (T := F_Num) (Nf := 6) hexec hb hts i_Num t_Num t_Num_ok n_Num hown hK hP hD hwf hS hj (by decide) rfl (by decide) (by decide) hlink (fun _ h9 => h9) rfl rfl rfl rfl (fun a b h => me_wLE h) (me_fLw (by decide) (by decide)) hdg (fun H1 locs1 a1 a2 a3 => kk H1 locs1 a1 a2 (me_wfL hwf) a3)
theorem d_Num_exact_20 : decode prog_8_method_2_code 20 = .ok (.aload_n 0, 1) := by decide +kernel
theorem d_Num_exact_21 : decode prog_8_method_2_code 21 = .ok (.lload_n 1, 1) := by decide +kernel
theorem d_Num_exact_22 : decode prog_8_method_2_code 22 = .ok (.putfield 24, 3) := by decide +kernel
theorem u_379 : Cond.fieldLink "FilterGuard$Num" 24 "FilterGuard$Num" "signedLeast" "J" ∈ fg_g := fg_in (List.mem_of_getElem? (i := 379) (by decide +kernel)) rfl
theorem p_Num_4 {p : Program} {l : Launch} {e : Env} {R : Room} {s : Jvm.State} {m : MethodId} {args : Array Value} {below : List Frame} {meth : Method} {c : Code} {H : Heap} {locs : List Loc} {cells slots : Nat} {Q : Jvm.State → Prop} {cc : ByteArray} {pc : Nat} {ls : Array Slot} {rest : List Value} {D : va_G} {A : Nat → Prop} {H0 : Heap} {ad : Nat → Nat → Nat} {ca : Nat → ClassId} {M M1 : me_M} {N : Nat → Nat} {own : String} {index j : Nat} {v : Int64} (he : M1 = wL M 11 j 4 v) (hexec : p.tables.exec = Jvm.exec) (hb : c.code = cc) (hts : ∀ w ∈ fg_g, w.before args s = true) (hown : s.vm.findClass own = some m.cls) (hK : va_K D classes (me_T ca) s) (hP : va_P D classes (me_W ad ca M) H) (hD : va_D A (me_W ad ca M)) (hwf : me_wf N M) (hS : va_S A H0 H locs) (hj : j < N 11) (hlink : (Cond.fieldLink own index "FilterGuard$Num" "signedLeast" "J").before args s = true) (hdg : decode cc pc = .ok (.putfield index, 3)) (kk : ∀ (H1 : Heap) (locs1 : List Loc), va_P D classes (me_W ad ca M1) H1 → va_D A (me_W ad ca M1) → me_wf N M1 → va_S A H0 H1 locs1 → W p l e R s m args below meth c H1 locs1 cells slots Q (F0 m (pc + 3) ls rest)) : W p l e R s m args below meth c H locs cells slots Q (F0 m pc ls (.long v :: .ref (ad 11 j) :: rest)) := by
  subst he
  exact me_put (M1 := wL M 11 j 4 v) (k := 11) (f := 4) (C := "FilterGuard$Num") (T := F_Num) (Nf := 6) hexec hb hts i_Num t_Num t_Num_ok n_Num hown hK hP hD hwf hS hj (by decide) rfl (by decide) (by decide) hlink (fun _ h9 => h9) rfl rfl rfl rfl (fun a b h => me_wLE h) (me_fLw (by decide) (by decide)) hdg (fun H1 locs1 a1 a2 a3 => kk H1 locs1 a1 a2 (me_wfL hwf) a3)
theorem d_Num_exact_25 : decode prog_8_method_2_code 25 = .ok (.aload_n 0, 1) := by decide +kernel
theorem d_Num_exact_26 : decode prog_8_method_2_code 26 = .ok (.lload_n 1, 1) := by decide +kernel
theorem d_Num_exact_27 : decode prog_8_method_2_code 27 = .ok (.putfield 27, 3) := by decide +kernel
theorem u_381 : Cond.fieldLink "FilterGuard$Num" 27 "FilterGuard$Num" "signedGreatest" "J" ∈ fg_g := fg_in (List.mem_of_getElem? (i := 381) (by decide +kernel)) rfl
theorem p_Num_5 {p : Program} {l : Launch} {e : Env} {R : Room} {s : Jvm.State} {m : MethodId} {args : Array Value} {below : List Frame} {meth : Method} {c : Code} {H : Heap} {locs : List Loc} {cells slots : Nat} {Q : Jvm.State → Prop} {cc : ByteArray} {pc : Nat} {ls : Array Slot} {rest : List Value} {D : va_G} {A : Nat → Prop} {H0 : Heap} {ad : Nat → Nat → Nat} {ca : Nat → ClassId} {M M1 : me_M} {N : Nat → Nat} {own : String} {index j : Nat} {v : Int64} (he : M1 = wL M 11 j 5 v) (hexec : p.tables.exec = Jvm.exec) (hb : c.code = cc) (hts : ∀ w ∈ fg_g, w.before args s = true) (hown : s.vm.findClass own = some m.cls) (hK : va_K D classes (me_T ca) s) (hP : va_P D classes (me_W ad ca M) H) (hD : va_D A (me_W ad ca M)) (hwf : me_wf N M) (hS : va_S A H0 H locs) (hj : j < N 11) (hlink : (Cond.fieldLink own index "FilterGuard$Num" "signedGreatest" "J").before args s = true) (hdg : decode cc pc = .ok (.putfield index, 3)) (kk : ∀ (H1 : Heap) (locs1 : List Loc), va_P D classes (me_W ad ca M1) H1 → va_D A (me_W ad ca M1) → me_wf N M1 → va_S A H0 H1 locs1 → W p l e R s m args below meth c H1 locs1 cells slots Q (F0 m (pc + 3) ls rest)) : W p l e R s m args below meth c H locs cells slots Q (F0 m pc ls (.long v :: .ref (ad 11 j) :: rest)) := by
  subst he
  exact me_put (M1 := wL M 11 j 5 v) (k := 11) (f := 5) (C := "FilterGuard$Num") (T := F_Num) (Nf := 6) hexec hb hts i_Num t_Num t_Num_ok n_Num hown hK hP hD hwf hS hj (by decide) rfl (by decide) (by decide) hlink (fun _ h9 => h9) rfl rfl rfl rfl (fun a b h => me_wLE h) (me_fLw (by decide) (by decide)) hdg (fun H1 locs1 a1 a2 a3 => kk H1 locs1 a1 a2 (me_wfL hwf) a3)
theorem d_Num_exact_30 : decode prog_8_method_2_code 30 = .ok (.return_, 1) := by decide +kernel
abbrev y_Num_exact : MethodName := ⟨"FilterGuard$Num", "exact", "(J)V"⟩
def rm_Num_exact : Room := { frames := 1, cells := 0, slots := 0, locals := 20 }
abbrev q_Num_exact (D : va_G) (ad : Nat → Nat → Nat) (ca : Nat → ClassId) (N : Nat → Nat) (M0 MZ : me_M) (A : Nat → Prop) : Array Value → Jvm.State → Outcome → Jvm.State → Prop := va_Qv (fun (_ : Unit) => me_wf N MZ ∧ me_kp M0 MZ) (fg_B D A (fun _ => me_W ad ca MZ) (fun _ => [])) A
set_option maxHeartbeats 4000000 in
set_option maxRecDepth 100000 in
theorem c_Num_exact (l : Launch) (D : va_G) (ad : Nat → Nat → Nat) (ca : Nat → ClassId) (N : Nat → Nat) (M0 MZ : me_M) (j0 : Nat) (x1 : Int64) (h : f_Num_exact M0 j0 x1 = (some MZ)) (hwf : me_wf N M0) (hj0 : j0 < N 11) (sz : Nat) : Met l y_Num_exact (fg_w y_Num_exact prog_8_method_2_code 3 none) rm_Num_exact (va_Pc [.ref (ad 11 j0), .long x1] (fz_P D (me_T ca) (me_W ad ca M0) sz)) (q_Num_exact D ad ca N M0 MZ (va_A (me_W ad ca M0) sz)) rm_Num_exact.cells rm_Num_exact.slots (va_A (me_W ad ca M0) sz) := by
  refine fz_enter (fun A => q_Num_exact D ad ca N M0 MZ A) (by decide +kernel) (Nat.le_of_ble_eq_true rfl) ?_
  intro p e s m below meth c ls A hx hb hml hown hts hr hlocks hin hP hK hD hS hA hX hl hz
  have hl : lv_has ls 3 [(0, .ref (ad 11 j0)), (1, .long x1)] := hl
  unfold f_Num_exact at h
  have hkp : me_kp M0 M0 := me_kp.rf
  have hkb := hkp
  refine lv_aload_n hx hb d_Num_exact_0 rfl (lv_at hl 0 rfl) ?_
  refine lv_lload_n hx hb d_Num_exact_1 rfl (lv_at hl 1 rfl) ?_
  obtain ⟨M1, eM1, h⟩ := st_ob h
  refine p_Num_0 eM1 hx hb hts hown hK hP hD hwf hS hj0 (hts _ u_367) d_Num_exact_2 (fun H locs hP hD hwf hS => ?_)
  have hkp := kp_L eM1 hkp
  refine lv_aload_n hx hb d_Num_exact_5 rfl (lv_at hl 0 rfl) ?_
  refine lv_lconst (v := 0) hx hb d_Num_exact_6 (by decide) ?_
  obtain ⟨M2, eM2, h⟩ := st_ob h
  refine p_Num_1 eM2 hx hb hts hown hK hP hD hwf hS hj0 (hts _ u_371) d_Num_exact_7 (fun H locs hP hD hwf hS => ?_)
  have hkp := kp_L eM2 hkp
  refine lv_aload_n hx hb d_Num_exact_10 rfl (lv_at hl 0 rfl) ?_
  refine lv_lload_n hx hb d_Num_exact_11 rfl (lv_at hl 1 rfl) ?_
  obtain ⟨M3, eM3, h⟩ := st_ob h
  refine p_Num_2 eM3 hx hb hts hown hK hP hD hwf hS hj0 (hts _ u_373) d_Num_exact_12 (fun H locs hP hD hwf hS => ?_)
  have hkp := kp_L eM3 hkp
  refine lv_aload_n hx hb d_Num_exact_15 rfl (lv_at hl 0 rfl) ?_
  refine lv_lload_n hx hb d_Num_exact_16 rfl (lv_at hl 1 rfl) ?_
  obtain ⟨M4, eM4, h⟩ := st_ob h
  refine p_Num_3 eM4 hx hb hts hown hK hP hD hwf hS hj0 (hts _ u_376) d_Num_exact_17 (fun H locs hP hD hwf hS => ?_)
  have hkp := kp_L eM4 hkp
  refine lv_aload_n hx hb d_Num_exact_20 rfl (lv_at hl 0 rfl) ?_
  refine lv_lload_n hx hb d_Num_exact_21 rfl (lv_at hl 1 rfl) ?_
  obtain ⟨M5, eM5, h⟩ := st_ob h
  refine p_Num_4 eM5 hx hb hts hown hK hP hD hwf hS hj0 (hts _ u_379) d_Num_exact_22 (fun H locs hP hD hwf hS => ?_)
  have hkp := kp_L eM5 hkp
  refine lv_aload_n hx hb d_Num_exact_25 rfl (lv_at hl 0 rfl) ?_
  refine lv_lload_n hx hb d_Num_exact_26 rfl (lv_at hl 1 rfl) ?_
  obtain ⟨M6, eM6, h⟩ := st_ob h
  refine p_Num_5 eM6 hx hb hts hown hK hP hD hwf hS hj0 (hts _ u_381) d_Num_exact_27 (fun H locs hP hD hwf hS => ?_)
  have hkp := kp_L eM6 hkp
  exact me_retv (me_kp M0) h hx hb hr hlocks hwf hkp hP hK hD hS d_Num_exact_30
