theorem d_M_zeros_2 : decode prog_14_method_20_code 2 = .ok (.iload_n 2, 1) := by decide +kernel
theorem d_M_zeros_3 : decode prog_14_method_20_code 3 = .ok (.bipush 64, 2) := by decide +kernel
theorem d_M_zeros_5 : decode prog_14_method_20_code 5 = .ok (.if_icmp .ge 31, 3) := by decide +kernel
theorem d_M_zeros_36 : decode prog_14_method_20_code 36 = .ok (.iload_n 2, 1) := by decide +kernel
theorem d_M_zeros_37 : decode prog_14_method_20_code 37 = .ok (.ireturn, 1) := by decide +kernel
theorem d_M_zeros_8 : decode prog_14_method_20_code 8 = .ok (.aload_n 0, 1) := by decide +kernel
theorem d_M_zeros_9 : decode prog_14_method_20_code 9 = .ok (.getfield 104, 3) := by decide +kernel
theorem d_M_zeros_12 : decode prog_14_method_20_code 12 = .ok (.iload_n 1, 1) := by decide +kernel
theorem d_M_zeros_13 : decode prog_14_method_20_code 13 = .ok (.laload, 1) := by decide +kernel
theorem d_M_zeros_14 : decode prog_14_method_20_code 14 = .ok (.aload_n 0, 1) := by decide +kernel
theorem d_M_zeros_15 : decode prog_14_method_20_code 15 = .ok (.getfield 107, 3) := by decide +kernel
theorem d_M_zeros_18 : decode prog_14_method_20_code 18 = .ok (.iload_n 1, 1) := by decide +kernel
theorem d_M_zeros_19 : decode prog_14_method_20_code 19 = .ok (.laload, 1) := by decide +kernel
theorem d_M_zeros_20 : decode prog_14_method_20_code 20 = .ok (.lor, 1) := by decide +kernel
theorem d_M_zeros_21 : decode prog_14_method_20_code 21 = .ok (.iload_n 2, 1) := by decide +kernel
theorem d_M_zeros_22 : decode prog_14_method_20_code 22 = .ok (.lshr, 1) := by decide +kernel
theorem d_M_zeros_23 : decode prog_14_method_20_code 23 = .ok (.lconst 1, 1) := by decide +kernel
theorem d_M_zeros_24 : decode prog_14_method_20_code 24 = .ok (.land, 1) := by decide +kernel
theorem d_M_zeros_25 : decode prog_14_method_20_code 25 = .ok (.lconst 0, 1) := by decide +kernel
theorem d_M_zeros_26 : decode prog_14_method_20_code 26 = .ok (.lcmp, 1) := by decide +kernel
theorem d_M_zeros_27 : decode prog_14_method_20_code 27 = .ok (.ifCond .ne 9, 3) := by decide +kernel
theorem d_M_zeros_30 : decode prog_14_method_20_code 30 = .ok (.iinc 2 1, 3) := by decide +kernel
theorem d_M_zeros_33 : decode prog_14_method_20_code 33 = .ok (.goto (-31), 3) := by decide +kernel
theorem d_M_zeros_0 : decode prog_14_method_20_code 0 = .ok (.iconst 0, 1) := by decide +kernel
theorem d_M_zeros_1 : decode prog_14_method_20_code 1 = .ok (.istore_n 2, 1) := by decide +kernel
abbrev y_M_zeros : MethodName := ⟨"FilterGuardModel", "zeros", "(I)I"⟩
def rm_M_zeros : Room := { frames := 1, cells := 0, slots := 0, locals := 20 }
abbrev q_M_zeros (D : va_G) (ad : Nat → Nat → Nat) (ca : Nat → ClassId) (N : Nat → Nat) (M0 MZ : me_M) (RZ : Int32) (A : Nat → Prop) : Array Value → Jvm.State → Outcome → Jvm.State → Prop := va_Qi (fun r (_ : Unit) => r = RZ ∧ me_wf N MZ ∧ me_kp M0 MZ) (fg_B D A (fun _ => me_W ad ca MZ) (fun _ => [])) A
set_option maxHeartbeats 4000000 in
set_option maxRecDepth 100000 in
theorem c_M_zeros (l : Launch) (D : va_G) (ad : Nat → Nat → Nat) (ca : Nat → ClassId) (N : Nat → Nat) (M0 MZ : me_M) (RZ : Int32) (j0 : Nat) (x1 : Int32) (h : f_M_zeros M0 j0 x1 = (some (MZ, RZ))) (hwf : me_wf N M0) (hj0 : j0 < N 1) (sz : Nat) : Met l y_M_zeros (fg_w y_M_zeros prog_14_method_20_code 3 (some .int)) rm_M_zeros (va_Pc [.ref (ad 1 j0), .int x1] (fz_P D (me_T ca) (me_W ad ca M0) sz)) (q_M_zeros D ad ca N M0 MZ RZ (va_A (me_W ad ca M0) sz)) rm_M_zeros.cells rm_M_zeros.slots (va_A (me_W ad ca M0) sz) := by
  refine fz_enter (fun A => q_M_zeros D ad ca N M0 MZ RZ A) (by decide +kernel) (Nat.le_of_ble_eq_true rfl) ?_
  intro p e s m below meth c ls A hx hb hml hown hts hr hlocks hin hP hK hD hS hA hX hl hz
  have hl : lv_has ls 3 [(0, .ref (ad 1 j0)), (1, .int x1)] := hl
  unfold f_M_zeros at h
  have hkp : me_kp M0 M0 := me_kp.rf
  have hkb := hkp
  have b_2 : ∀ (fu : Nat), ∀ (M : me_M) (y2 : Int32) (H : Heap) (locs : List Loc) (ls : Array Slot), f_M_zeros_l2 j0 x1 fu M y2 = (some (MZ, RZ)) → me_wf N M → me_kp M0 M → va_P D classes (me_W ad ca M) H → va_D A (me_W ad ca M) → va_S A s.heap H locs → lv_has ls 3 [(0, .ref (ad 1 j0)), (1, .int x1), (2, .int y2)] → W p l e rm_M_zeros s m [.ref (ad 1 j0), .int x1].toArray below meth c H locs 0 0 (MQ below (q_M_zeros D ad ca N M0 MZ RZ A) [.ref (ad 1 j0), .int x1].toArray s rm_M_zeros.cells rm_M_zeros.slots A) (F0 m 2 ls []) := by
    intro fu
    induction fu with
    | zero =>
      intro M y2 H locs ls h hwf hkp hP hD hS hl
      cases h
    | succ fu ih =>
      intro M y2 H locs ls h hwf hkp hP hD hS hl
      unfold f_M_zeros_l2 at h
      have hkb := hkp
      refine lv_iload_n hx hb d_M_zeros_2 rfl (lv_at hl 2 rfl) ?_
      refine lv_bipush (v := 64) hx hb d_M_zeros_3 (by decide) ?_
      refine lv_icmp_ge (tgt := 36) hx hb d_M_zeros_5 (by decide) (fun c1 => ?_) (fun c1 => ?_)
      · have h := if_t c1 h
        refine lv_iload_n hx hb d_M_zeros_36 rfl (lv_at hl 2 rfl) ?_
        exact me_reti (me_kp M0) h hx hb hr hlocks hwf hkp hP hK hD hS d_M_zeros_37
      have h := if_f c1 h
      refine lv_aload_n hx hb d_M_zeros_8 rfl (lv_at hl 0 rfl) ?_
      refine g_M_52 hx hb hts hown hK hP hwf hj0 (hts _ u_1793) d_M_zeros_9 ?_
      obtain ⟨j2, e3, h⟩ := bd_ob h
      have hj2 : j2 < N 16 := (hwf.2.1 1 j0 52 _ e3 (by decide) hj0)
      refine me_opt (j := j2) e3 ?_
      refine lv_iload_n hx hb d_M_zeros_12 rfl (lv_at hl 1 rfl) ?_
      obtain ⟨g4, h⟩ := gd_ob h
      refine me_lald hx hb hK hP hwf hj2 g4 d_M_zeros_13 ?_
      refine lv_aload_n hx hb d_M_zeros_14 rfl (lv_at hl 0 rfl) ?_
      refine g_M_53 hx hb hts hown hK hP hwf hj0 (hts _ u_1794) d_M_zeros_15 ?_
      obtain ⟨j5, e6, h⟩ := bd_ob h
      have hj5 : j5 < N 16 := (hwf.2.1 1 j0 53 _ e6 (by decide) hj0)
      refine me_opt (j := j5) e6 ?_
      refine lv_iload_n hx hb d_M_zeros_18 rfl (lv_at hl 1 rfl) ?_
      obtain ⟨g7, h⟩ := gd_ob h
      refine me_lald hx hb hK hP hwf hj5 g7 d_M_zeros_19 ?_
      refine lv_lor hx hb d_M_zeros_20 ?_
      refine lv_iload_n hx hb d_M_zeros_21 rfl (lv_at hl 2 rfl) ?_
      refine lv_lshr (v := jlshr ((mL M 16 j2 x1.toNatClampNeg) ||| (mL M 16 j5 x1.toNatClampNeg)) y2) hx hb d_M_zeros_22 rfl ?_
      obtain ⟨v8, ev8, h⟩ := st_ob h
      refine fg_topl (y := v8) ev8.symm ?_
      refine lv_lconst (v := 1) hx hb d_M_zeros_23 (by decide) ?_
      refine lv_land hx hb d_M_zeros_24 ?_
      refine lv_lconst (v := 0) hx hb d_M_zeros_25 (by decide) ?_
      refine W.lcmp hx hb d_M_zeros_26 ?_
      refine lv_if_ne (tgt := 36) hx hb d_M_zeros_27 (by decide) (fun c9 => ?_) (fun c9 => ?_)
      · have h := if_f (fun z => c9 ((lg_cmp_eq _ _).mpr z)) h
        refine lv_iload_n hx hb d_M_zeros_36 rfl (lv_at hl 2 rfl) ?_
        exact me_reti (me_kp M0) h hx hb hr hlocks hwf hkp hP hK hD hS d_M_zeros_37
      have h := if_t ((lg_cmp_eq _ _).mp c9) h
      refine lv_iinc (v := y2 + 1) (lv' := [(2, .int (y2 + 1)), (0, .ref (ad 1 j0)), (1, .int x1)]) hx hb d_M_zeros_30 hl (k := 2) rfl (by rfl) (by decide) rfl (fun ls hl => ?_)
      refine lv_goto (tgt := 2) hx hb d_M_zeros_33 (by decide) ?_
      exact ih M (y2 + 1) _ _ _ h hwf hkp hP hD hS (lv_sub hl [1, 2, 0] rfl)
  refine lv_iconst (v := 0) hx hb d_M_zeros_0 (by decide) ?_
  refine lv_istore_n (lv' := [(2, .int 0), (0, .ref (ad 1 j0)), (1, .int x1)]) hx hb d_M_zeros_1 rfl hl (by decide) rfl (fun ls hl => ?_)
  exact b_2 _ M0 (0 : Int32) _ _ _ h hwf hkp hP hD hS (lv_sub hl [1, 2, 0] rfl)
theorem d_M_multiply_83 : decode prog_14_method_21_code 83 = .ok (.lastore, 1) := by decide +kernel
theorem d_M_multiply_84 : decode prog_14_method_21_code 84 = .ok (.ldc2_w 203, 3) := by decide +kernel
theorem u_2019 : Cond.constantLong "FilterGuardModel" 203 4294967295 ∈ fg_g := fg_in (List.mem_of_getElem? (i := 2019) (by decide +kernel)) rfl
theorem d_M_multiply_87 : decode prog_14_method_21_code 87 = .ok (.aload_n 0, 1) := by decide +kernel
theorem d_M_multiply_88 : decode prog_14_method_21_code 88 = .ok (.getfield 113, 3) := by decide +kernel
theorem d_M_multiply_91 : decode prog_14_method_21_code 91 = .ok (.sipush 30075, 3) := by decide +kernel
theorem d_M_multiply_94 : decode prog_14_method_21_code 94 = .ok (.laload, 1) := by decide +kernel
theorem d_M_multiply_95 : decode prog_14_method_21_code 95 = .ok (.invokestatic 158, 3) := by decide +kernel
theorem d_M_multiply_98 : decode prog_14_method_21_code 98 = .ok (.ifCond .ne 70, 3) := by decide +kernel
theorem d_M_multiply_168 : decode prog_14_method_21_code 168 = .ok (.return_, 1) := by decide +kernel
theorem d_M_multiply_101 : decode prog_14_method_21_code 101 = .ok (.ldc2_w 203, 3) := by decide +kernel
theorem d_M_multiply_104 : decode prog_14_method_21_code 104 = .ok (.aload_n 0, 1) := by decide +kernel
theorem d_M_multiply_105 : decode prog_14_method_21_code 105 = .ok (.getfield 113, 3) := by decide +kernel
theorem d_M_multiply_108 : decode prog_14_method_21_code 108 = .ok (.sipush 30076, 3) := by decide +kernel
theorem d_M_multiply_111 : decode prog_14_method_21_code 111 = .ok (.laload, 1) := by decide +kernel
theorem d_M_multiply_112 : decode prog_14_method_21_code 112 = .ok (.invokestatic 158, 3) := by decide +kernel
theorem d_M_multiply_115 : decode prog_14_method_21_code 115 = .ok (.ifCond .ne 53, 3) := by decide +kernel
theorem d_M_multiply_118 : decode prog_14_method_21_code 118 = .ok (.aload_n 0, 1) := by decide +kernel
theorem d_M_multiply_119 : decode prog_14_method_21_code 119 = .ok (.getfield 110, 3) := by decide +kernel
theorem d_M_multiply_122 : decode prog_14_method_21_code 122 = .ok (.sipush 30077, 3) := by decide +kernel
theorem d_M_multiply_125 : decode prog_14_method_21_code 125 = .ok (.aload_n 0, 1) := by decide +kernel
theorem d_M_multiply_126 : decode prog_14_method_21_code 126 = .ok (.getfield 110, 3) := by decide +kernel
theorem d_M_multiply_129 : decode prog_14_method_21_code 129 = .ok (.sipush 30075, 3) := by decide +kernel
theorem d_M_multiply_132 : decode prog_14_method_21_code 132 = .ok (.laload, 1) := by decide +kernel
theorem d_M_multiply_133 : decode prog_14_method_21_code 133 = .ok (.aload_n 0, 1) := by decide +kernel
theorem d_M_multiply_134 : decode prog_14_method_21_code 134 = .ok (.getfield 110, 3) := by decide +kernel
theorem d_M_multiply_137 : decode prog_14_method_21_code 137 = .ok (.sipush 30076, 3) := by decide +kernel
theorem d_M_multiply_140 : decode prog_14_method_21_code 140 = .ok (.laload, 1) := by decide +kernel
theorem d_M_multiply_141 : decode prog_14_method_21_code 141 = .ok (.lmul, 1) := by decide +kernel
theorem d_M_multiply_142 : decode prog_14_method_21_code 142 = .ok (.lastore, 1) := by decide +kernel
theorem d_M_multiply_143 : decode prog_14_method_21_code 143 = .ok (.aload_n 0, 1) := by decide +kernel
theorem d_M_multiply_144 : decode prog_14_method_21_code 144 = .ok (.getfield 113, 3) := by decide +kernel
theorem d_M_multiply_147 : decode prog_14_method_21_code 147 = .ok (.sipush 30077, 3) := by decide +kernel
theorem d_M_multiply_150 : decode prog_14_method_21_code 150 = .ok (.aload_n 0, 1) := by decide +kernel
theorem d_M_multiply_151 : decode prog_14_method_21_code 151 = .ok (.getfield 113, 3) := by decide +kernel
theorem d_M_multiply_154 : decode prog_14_method_21_code 154 = .ok (.sipush 30075, 3) := by decide +kernel
theorem d_M_multiply_157 : decode prog_14_method_21_code 157 = .ok (.laload, 1) := by decide +kernel
theorem d_M_multiply_158 : decode prog_14_method_21_code 158 = .ok (.aload_n 0, 1) := by decide +kernel
theorem d_M_multiply_159 : decode prog_14_method_21_code 159 = .ok (.getfield 113, 3) := by decide +kernel
theorem d_M_multiply_162 : decode prog_14_method_21_code 162 = .ok (.sipush 30076, 3) := by decide +kernel
theorem d_M_multiply_165 : decode prog_14_method_21_code 165 = .ok (.laload, 1) := by decide +kernel
theorem d_M_multiply_166 : decode prog_14_method_21_code 166 = .ok (.lmul, 1) := by decide +kernel
theorem d_M_multiply_167 : decode prog_14_method_21_code 167 = .ok (.lastore, 1) := by decide +kernel
theorem d_M_multiply_45 : decode prog_14_method_21_code 45 = .ok (.aload_n 0, 1) := by decide +kernel
theorem d_M_multiply_46 : decode prog_14_method_21_code 46 = .ok (.sipush 30075, 3) := by decide +kernel
theorem d_M_multiply_49 : decode prog_14_method_21_code 49 = .ok (.invokevirtual 199, 3) := by decide +kernel
theorem u_2340 : Cond.methodLink "FilterGuardModel" 199 ⟨"FilterGuardModel", "zeros", "(I)I"⟩ ∈ fg_g := fg_in (List.mem_of_getElem? (i := 2340) (by decide +kernel)) rfl
theorem u_2343 : Cond.code ⟨"FilterGuardModel", "zeros", "(I)I"⟩ prog_14_method_20_code 3 (some .int) ∈ fg_g := fg_in (List.mem_of_getElem? (i := 2343) (by decide +kernel)) rfl
theorem u_2342 : Cond.instanceMethod ⟨"FilterGuardModel", "zeros", "(I)I"⟩ ∈ fg_g := fg_in (List.mem_of_getElem? (i := 2342) (by decide +kernel)) rfl
theorem u_156 : Cond.selects "FilterGuardModel" ⟨"FilterGuardModel", "zeros", "(I)I"⟩ ⟨"FilterGuardModel", "zeros", "(I)I"⟩ ∈ fg_g := fg_in (List.mem_of_getElem? (i := 156) (by decide +kernel)) rfl
theorem d_M_multiply_52 : decode prog_14_method_21_code 52 = .ok (.aload_n 0, 1) := by decide +kernel
theorem d_M_multiply_53 : decode prog_14_method_21_code 53 = .ok (.sipush 30076, 3) := by decide +kernel
theorem d_M_multiply_56 : decode prog_14_method_21_code 56 = .ok (.invokevirtual 199, 3) := by decide +kernel
theorem d_M_multiply_59 : decode prog_14_method_21_code 59 = .ok (.iadd, 1) := by decide +kernel
theorem d_M_multiply_60 : decode prog_14_method_21_code 60 = .ok (.istore_n 1, 1) := by decide +kernel
theorem d_M_multiply_61 : decode prog_14_method_21_code 61 = .ok (.aload_n 0, 1) := by decide +kernel
theorem d_M_multiply_62 : decode prog_14_method_21_code 62 = .ok (.getfield 107, 3) := by decide +kernel
theorem d_M_multiply_65 : decode prog_14_method_21_code 65 = .ok (.sipush 30077, 3) := by decide +kernel
theorem d_M_multiply_68 : decode prog_14_method_21_code 68 = .ok (.iload_n 1, 1) := by decide +kernel
theorem d_M_multiply_69 : decode prog_14_method_21_code 69 = .ok (.bipush 63, 2) := by decide +kernel
theorem d_M_multiply_71 : decode prog_14_method_21_code 71 = .ok (.if_icmp .le 7, 3) := by decide +kernel
theorem d_M_multiply_78 : decode prog_14_method_21_code 78 = .ok (.ldc2_w 162, 3) := by decide +kernel
theorem d_M_multiply_81 : decode prog_14_method_21_code 81 = .ok (.iload_n 1, 1) := by decide +kernel
theorem d_M_multiply_82 : decode prog_14_method_21_code 82 = .ok (.lshl, 1) := by decide +kernel
theorem d_M_multiply_74 : decode prog_14_method_21_code 74 = .ok (.lconst 0, 1) := by decide +kernel
theorem d_M_multiply_75 : decode prog_14_method_21_code 75 = .ok (.goto 8, 3) := by decide +kernel
theorem d_M_multiply_0 : decode prog_14_method_21_code 0 = .ok (.aload_n 0, 1) := by decide +kernel
theorem d_M_multiply_1 : decode prog_14_method_21_code 1 = .ok (.sipush 30075, 3) := by decide +kernel
theorem d_M_multiply_4 : decode prog_14_method_21_code 4 = .ok (.invokevirtual 192, 3) := by decide +kernel
theorem u_2251 : Cond.methodLink "FilterGuardModel" 192 ⟨"FilterGuardModel", "isExact", "(I)Z"⟩ ∈ fg_g := fg_in (List.mem_of_getElem? (i := 2251) (by decide +kernel)) rfl
theorem u_2254 : Cond.code ⟨"FilterGuardModel", "isExact", "(I)Z"⟩ prog_14_method_10_code 2 (some .boolean) ∈ fg_g := fg_in (List.mem_of_getElem? (i := 2254) (by decide +kernel)) rfl
theorem u_2253 : Cond.instanceMethod ⟨"FilterGuardModel", "isExact", "(I)Z"⟩ ∈ fg_g := fg_in (List.mem_of_getElem? (i := 2253) (by decide +kernel)) rfl
theorem u_136 : Cond.selects "FilterGuardModel" ⟨"FilterGuardModel", "isExact", "(I)Z"⟩ ⟨"FilterGuardModel", "isExact", "(I)Z"⟩ ∈ fg_g := fg_in (List.mem_of_getElem? (i := 136) (by decide +kernel)) rfl
theorem d_M_multiply_7 : decode prog_14_method_21_code 7 = .ok (.ifCond .eq 38, 3) := by decide +kernel
theorem d_M_multiply_10 : decode prog_14_method_21_code 10 = .ok (.aload_n 0, 1) := by decide +kernel
theorem d_M_multiply_11 : decode prog_14_method_21_code 11 = .ok (.sipush 30076, 3) := by decide +kernel
theorem d_M_multiply_14 : decode prog_14_method_21_code 14 = .ok (.invokevirtual 192, 3) := by decide +kernel
theorem d_M_multiply_17 : decode prog_14_method_21_code 17 = .ok (.ifCond .eq 28, 3) := by decide +kernel
theorem d_M_multiply_20 : decode prog_14_method_21_code 20 = .ok (.aload_n 0, 1) := by decide +kernel
theorem d_M_multiply_21 : decode prog_14_method_21_code 21 = .ok (.sipush 30077, 3) := by decide +kernel
theorem d_M_multiply_24 : decode prog_14_method_21_code 24 = .ok (.aload_n 0, 1) := by decide +kernel
theorem d_M_multiply_25 : decode prog_14_method_21_code 25 = .ok (.getfield 104, 3) := by decide +kernel
theorem d_M_multiply_28 : decode prog_14_method_21_code 28 = .ok (.sipush 30075, 3) := by decide +kernel
theorem d_M_multiply_31 : decode prog_14_method_21_code 31 = .ok (.laload, 1) := by decide +kernel
theorem d_M_multiply_32 : decode prog_14_method_21_code 32 = .ok (.aload_n 0, 1) := by decide +kernel
theorem d_M_multiply_33 : decode prog_14_method_21_code 33 = .ok (.getfield 104, 3) := by decide +kernel
theorem d_M_multiply_36 : decode prog_14_method_21_code 36 = .ok (.sipush 30076, 3) := by decide +kernel
theorem d_M_multiply_39 : decode prog_14_method_21_code 39 = .ok (.laload, 1) := by decide +kernel
theorem d_M_multiply_40 : decode prog_14_method_21_code 40 = .ok (.lmul, 1) := by decide +kernel
theorem d_M_multiply_41 : decode prog_14_method_21_code 41 = .ok (.invokevirtual 195, 3) := by decide +kernel
theorem u_2108 : Cond.methodLink "FilterGuardModel" 195 ⟨"FilterGuardModel", "setExact", "(IJ)V"⟩ ∈ fg_g := fg_in (List.mem_of_getElem? (i := 2108) (by decide +kernel)) rfl
theorem u_2111 : Cond.code ⟨"FilterGuardModel", "setExact", "(IJ)V"⟩ prog_14_method_9_code 4 none ∈ fg_g := fg_in (List.mem_of_getElem? (i := 2111) (by decide +kernel)) rfl
theorem u_2110 : Cond.instanceMethod ⟨"FilterGuardModel", "setExact", "(IJ)V"⟩ ∈ fg_g := fg_in (List.mem_of_getElem? (i := 2110) (by decide +kernel)) rfl
theorem u_106 : Cond.selects "FilterGuardModel" ⟨"FilterGuardModel", "setExact", "(IJ)V"⟩ ⟨"FilterGuardModel", "setExact", "(IJ)V"⟩ ∈ fg_g := fg_in (List.mem_of_getElem? (i := 106) (by decide +kernel)) rfl
theorem d_M_multiply_44 : decode prog_14_method_21_code 44 = .ok (.return_, 1) := by decide +kernel
abbrev y_M_multiply : MethodName := ⟨"FilterGuardModel", "multiply", "()V"⟩
def rm_M_multiply : Room := { frames := 2, cells := 0, slots := 0, locals := 43 }
abbrev q_M_multiply (D : va_G) (ad : Nat → Nat → Nat) (ca : Nat → ClassId) (N : Nat → Nat) (M0 MZ : me_M) (A : Nat → Prop) : Array Value → Jvm.State → Outcome → Jvm.State → Prop := va_Qv (fun (_ : Unit) => me_wf N MZ ∧ me_kp M0 MZ) (fg_B D A (fun _ => me_W ad ca MZ) (fun _ => [])) A
set_option maxHeartbeats 4000000 in
set_option maxRecDepth 100000 in
theorem c_M_multiply (l : Launch) (D : va_G) (ad : Nat → Nat → Nat) (ca : Nat → ClassId) (N : Nat → Nat) (M0 MZ : me_M) (j0 : Nat) (h : f_M_multiply M0 j0 = (some MZ)) (hwf : me_wf N M0) (hj0 : j0 < N 1) (sz : Nat) : Met l y_M_multiply (fg_w y_M_multiply prog_14_method_21_code 2 none) rm_M_multiply (va_Pc [.ref (ad 1 j0)] (fz_P D (me_T ca) (me_W ad ca M0) sz)) (q_M_multiply D ad ca N M0 MZ (va_A (me_W ad ca M0) sz)) rm_M_multiply.cells rm_M_multiply.slots (va_A (me_W ad ca M0) sz) := by
  refine fz_enter (fun A => q_M_multiply D ad ca N M0 MZ A) (by decide +kernel) (Nat.le_of_ble_eq_true rfl) ?_
  intro p e s m below meth c ls A hx hb hml hown hts hr hlocks hin hP hK hD hS hA hX hl hz
  have hl : lv_has ls 2 [(0, .ref (ad 1 j0))] := hl
  unfold f_M_multiply at h
  have hkp : me_kp M0 M0 := me_kp.rf
  have hkb := hkp
  have b_83 : ∀ (M : me_M) (s0 : Int64) (s1 : Int32) (s2 : Nat) (H : Heap) (locs : List Loc) (ls : Array Slot), f_M_multiply_b83 j0 M s0 s1 s2 = (some MZ) → (s2 < N 16) → me_wf N M → me_kp M0 M → va_P D classes (me_W ad ca M) H → va_D A (me_W ad ca M) → va_S A s.heap H locs → lv_has ls 2 [(0, .ref (ad 1 j0))] → W p l e rm_M_multiply s m [.ref (ad 1 j0)].toArray below meth c H locs 0 0 (MQ below (q_M_multiply D ad ca N M0 MZ A) [.ref (ad 1 j0)].toArray s rm_M_multiply.cells rm_M_multiply.slots A) (F0 m 83 ls [.long s0, .int s1, .ref (ad 16 s2)]) := by
    intro M s0 s1 s2 H locs ls h hs2 hwf hkp hP hD hS hl
    unfold f_M_multiply_b83 at h
    have hkb := hkp
    obtain ⟨g1, h⟩ := gd_ob h
    obtain ⟨M2, eM2, h⟩ := st_ob h
    refine me_last eM2 hx hb hK hP hD hwf hS hs2 g1 d_M_multiply_83 (fun H locs hP hD hwf hS => ?_)
    have hkp := kp_L eM2 hkp
    refine lv_ldc2 hx hb hown (hts _ u_2019) d_M_multiply_84 ?_
    refine lv_aload_n hx hb d_M_multiply_87 rfl (lv_at hl 0 rfl) ?_
    refine g_M_55 hx hb hts hown hK hP hwf hj0 (hts _ u_1796) d_M_multiply_88 ?_
    obtain ⟨j3, e4, h⟩ := bd_ob h
    have hj3 : j3 < N 16 := (hwf.2.1 1 j0 55 _ (kp_r hkb hkp e4) (by decide) hj0)
    refine me_opt (j := j3) (kp_r hkb hkp e4) ?_
    refine lv_sipush (v := 30075) hx hb d_M_multiply_91 (by decide) ?_
    obtain ⟨g5, h⟩ := gd_ob h
    refine me_lald hx hb hK hP hwf hj3 (me_in (i := (30075 : Int32)) (k := 30075) (by decide) (by decide) (kp_c hkb.z hkp.z g5)) d_M_multiply_94 ?_
    refine fg_topl (y := mL M2 16 j3 30075) (congrArg _ (by decide)) ?_
    obtain ⟨r6, er6, h⟩ := bd_ob h
    refine me_pani' (r0 := r6) (fg_runS (wc := []) (tc := []) (A2 := A) (As := [.long 4294967295, .long (mL M2 16 j3 30075)]) (rest := []) ⟨hx, hb, hml, hown, hts⟩ (c_M_below l D r6 (4294967295 : Int64) (mL M2 16 j3 30075) er6 _) (by show fg_nm y_M_below 2; decide +kernel) u_2072 u_2073 u_192 u_2074 ⟨Nat.le_of_ble_eq_true rfl, Nat.le_of_ble_eq_true rfl⟩ hX me_P0 (hK.sub (tys' := []) [] rfl) me_D0 rfl hl.1 (Nat.le_of_ble_eq_true rfl) d_M_multiply_95 ⟨Nat.le_of_ble_eq_true rfl, Nat.le_of_ble_eq_true rfl⟩) hP hD hK hS hA rfl rfl (fun H locs hw hP hD hS => ?_)
    have zr6 := hw
    refine lv_if_ne (tgt := 168) hx hb d_M_multiply_98 (by decide) (fun c7 => ?_) (fun c7 => ?_)
    · have h := if_f c7 h
      exact me_retv (me_kp M0) h hx hb hr hlocks hwf hkp hP hK hD hS d_M_multiply_168
    have h := if_t c7 h
    refine lv_ldc2 hx hb hown (hts _ u_2019) d_M_multiply_101 ?_
    refine lv_aload_n hx hb d_M_multiply_104 rfl (lv_at hl 0 rfl) ?_
    refine g_M_55 hx hb hts hown hK hP hwf hj0 (hts _ u_1796) d_M_multiply_105 ?_
    refine me_opt (j := j3) (kp_r hkb hkp e4) ?_
    refine lv_sipush (v := 30076) hx hb d_M_multiply_108 (by decide) ?_
    obtain ⟨g8, h⟩ := gd_ob h
    refine me_lald hx hb hK hP hwf hj3 (me_in (i := (30076 : Int32)) (k := 30076) (by decide) (by decide) (kp_c hkb.z hkp.z g8)) d_M_multiply_111 ?_
    refine fg_topl (y := mL M2 16 j3 30076) (congrArg _ (by decide)) ?_
    obtain ⟨r9, er9, h⟩ := bd_ob h
    refine me_pani' (r0 := r9) (fg_runS (wc := []) (tc := []) (A2 := A) (As := [.long 4294967295, .long (mL M2 16 j3 30076)]) (rest := []) ⟨hx, hb, hml, hown, hts⟩ (c_M_below l D r9 (4294967295 : Int64) (mL M2 16 j3 30076) er9 _) (by show fg_nm y_M_below 2; decide +kernel) u_2072 u_2073 u_192 u_2074 ⟨Nat.le_of_ble_eq_true rfl, Nat.le_of_ble_eq_true rfl⟩ hX me_P0 (hK.sub (tys' := []) [] rfl) me_D0 rfl hl.1 (Nat.le_of_ble_eq_true rfl) d_M_multiply_112 ⟨Nat.le_of_ble_eq_true rfl, Nat.le_of_ble_eq_true rfl⟩) hP hD hK hS hA rfl rfl (fun H locs hw hP hD hS => ?_)
    have zr9 := hw
    refine lv_if_ne (tgt := 168) hx hb d_M_multiply_115 (by decide) (fun c10 => ?_) (fun c10 => ?_)
    · have h := if_f c10 h
      exact me_retv (me_kp M0) h hx hb hr hlocks hwf hkp hP hK hD hS d_M_multiply_168
    have h := if_t c10 h
    refine lv_aload_n hx hb d_M_multiply_118 rfl (lv_at hl 0 rfl) ?_
    refine g_M_54 hx hb hts hown hK hP hwf hj0 (hts _ u_1795) d_M_multiply_119 ?_
    obtain ⟨j11, e12, h⟩ := bd_ob h
    have hj11 : j11 < N 16 := (hwf.2.1 1 j0 54 _ (kp_r hkb hkp e12) (by decide) hj0)
    refine me_opt (j := j11) (kp_r hkb hkp e12) ?_
    refine lv_sipush (v := 30077) hx hb d_M_multiply_122 (by decide) ?_
    refine lv_aload_n hx hb d_M_multiply_125 rfl (lv_at hl 0 rfl) ?_
    refine g_M_54 hx hb hts hown hK hP hwf hj0 (hts _ u_1795) d_M_multiply_126 ?_
    refine me_opt (j := j11) (kp_r hkb hkp e12) ?_
    refine lv_sipush (v := 30075) hx hb d_M_multiply_129 (by decide) ?_
    obtain ⟨g13, h⟩ := gd_ob h
    refine me_lald hx hb hK hP hwf hj11 (me_in (i := (30075 : Int32)) (k := 30075) (by decide) (by decide) (kp_c hkb.z hkp.z g13)) d_M_multiply_132 ?_
    refine fg_topl (y := mL M2 16 j11 30075) (congrArg _ (by decide)) ?_
    refine lv_aload_n hx hb d_M_multiply_133 rfl (lv_at hl 0 rfl) ?_
    refine g_M_54 hx hb hts hown hK hP hwf hj0 (hts _ u_1795) d_M_multiply_134 ?_
    refine me_opt (j := j11) (kp_r hkb hkp e12) ?_
    refine lv_sipush (v := 30076) hx hb d_M_multiply_137 (by decide) ?_
    obtain ⟨g14, h⟩ := gd_ob h
    refine me_lald hx hb hK hP hwf hj11 (me_in (i := (30076 : Int32)) (k := 30076) (by decide) (by decide) (kp_c hkb.z hkp.z g14)) d_M_multiply_140 ?_
    refine fg_topl (y := mL M2 16 j11 30076) (congrArg _ (by decide)) ?_
    refine lv_lmul hx hb d_M_multiply_141 ?_
    obtain ⟨g15, h⟩ := gd_ob h
    obtain ⟨M16, eM16, h⟩ := st_ob h
    refine me_last (eM16.trans (by rw [show (30077 : Int32).toNatClampNeg = 30077 by decide])) hx hb hK hP hD hwf hS hj11 (me_in (i := (30077 : Int32)) (k := 30077) (by decide) (by decide) (kp_c hkb.z hkp.z g15)) d_M_multiply_142 (fun H locs hP hD hwf hS => ?_)
    have hkp := kp_L eM16 hkp
    refine lv_aload_n hx hb d_M_multiply_143 rfl (lv_at hl 0 rfl) ?_
    refine g_M_55 hx hb hts hown hK hP hwf hj0 (hts _ u_1796) d_M_multiply_144 ?_
    refine me_opt (j := j3) (kp_r hkb hkp e4) ?_
    refine lv_sipush (v := 30077) hx hb d_M_multiply_147 (by decide) ?_
    refine lv_aload_n hx hb d_M_multiply_150 rfl (lv_at hl 0 rfl) ?_
    refine g_M_55 hx hb hts hown hK hP hwf hj0 (hts _ u_1796) d_M_multiply_151 ?_
    refine me_opt (j := j3) (kp_r hkb hkp e4) ?_
    refine lv_sipush (v := 30075) hx hb d_M_multiply_154 (by decide) ?_
    refine me_lald hx hb hK hP hwf hj3 (me_in (i := (30075 : Int32)) (k := 30075) (by decide) (by decide) (kp_c hkb.z hkp.z g5)) d_M_multiply_157 ?_
    refine fg_topl (y := mL M16 16 j3 30075) (congrArg _ (by decide)) ?_
    refine lv_aload_n hx hb d_M_multiply_158 rfl (lv_at hl 0 rfl) ?_
    refine g_M_55 hx hb hts hown hK hP hwf hj0 (hts _ u_1796) d_M_multiply_159 ?_
    refine me_opt (j := j3) (kp_r hkb hkp e4) ?_
    refine lv_sipush (v := 30076) hx hb d_M_multiply_162 (by decide) ?_
    refine me_lald hx hb hK hP hwf hj3 (me_in (i := (30076 : Int32)) (k := 30076) (by decide) (by decide) (kp_c hkb.z hkp.z g8)) d_M_multiply_165 ?_
    refine fg_topl (y := mL M16 16 j3 30076) (congrArg _ (by decide)) ?_
    refine lv_lmul hx hb d_M_multiply_166 ?_
    obtain ⟨g17, h⟩ := gd_ob h
    obtain ⟨M18, eM18, h⟩ := st_ob h
    refine me_last (eM18.trans (by rw [show (30077 : Int32).toNatClampNeg = 30077 by decide])) hx hb hK hP hD hwf hS hj3 (me_in (i := (30077 : Int32)) (k := 30077) (by decide) (by decide) (kp_c hkb.z hkp.z g17)) d_M_multiply_167 (fun H locs hP hD hwf hS => ?_)
    have hkp := kp_L eM18 hkp
    exact me_retv (me_kp M0) h hx hb hr hlocks hwf hkp hP hK hD hS d_M_multiply_168
  have b_45 : ∀ (M : me_M) (H : Heap) (locs : List Loc) (ls : Array Slot), f_M_multiply_b45 j0 M = (some MZ) → me_wf N M → me_kp M0 M → va_P D classes (me_W ad ca M) H → va_D A (me_W ad ca M) → va_S A s.heap H locs → lv_has ls 2 [(0, .ref (ad 1 j0))] → W p l e rm_M_multiply s m [.ref (ad 1 j0)].toArray below meth c H locs 0 0 (MQ below (q_M_multiply D ad ca N M0 MZ A) [.ref (ad 1 j0)].toArray s rm_M_multiply.cells rm_M_multiply.slots A) (F0 m 45 ls []) := by
    intro M H locs ls h hwf hkp hP hD hS hl
    unfold f_M_multiply_b45 at h
    have hkb := hkp
    refine lv_aload_n hx hb d_M_multiply_45 rfl (lv_at hl 0 rfl) ?_
    refine lv_sipush (v := 30075) hx hb d_M_multiply_46 (by decide) ?_
    obtain ⟨M19, r20, eM19, h⟩ := b2_ob h
    refine me_theni0 (M1 := M19) (me_runV (C := "FilterGuardModel") (As := [.int 30075]) (rest := []) ⟨hx, hb, hml, hown, hts⟩ (c_M_zeros l D ad ca N M M19 r20 j0 (30075 : Int32) eM19 hwf hj0 _) rfl (by show fg_nm y_M_zeros 1; decide +kernel) u_2340 u_2342 u_156 u_192 u_2343 ⟨Nat.le_of_ble_eq_true rfl, Nat.le_of_ble_eq_true rfl⟩ hX hz hK hP hD hwf hS hA hj0 (by decide) rfl rfl rfl hl.1 (Nat.le_of_ble_eq_true rfl) d_M_multiply_49 ⟨Nat.le_of_ble_eq_true rfl, Nat.le_of_ble_eq_true rfl⟩) hP hD hK hS hA rfl rfl (fun H locs hw hP hD hS => ?_)
    obtain ⟨hwf, hk9⟩ := hw
    have hkp := hkp.tr hk9
    refine lv_aload_n hx hb d_M_multiply_52 rfl (lv_at hl 0 rfl) ?_
    refine lv_sipush (v := 30076) hx hb d_M_multiply_53 (by decide) ?_
    obtain ⟨M21, r22, eM21, h⟩ := b2_ob h
    refine me_theni0 (M1 := M21) (me_runV (C := "FilterGuardModel") (As := [.int 30076]) (rest := [.int r20]) ⟨hx, hb, hml, hown, hts⟩ (c_M_zeros l D ad ca N M19 M21 r22 j0 (30076 : Int32) eM21 hwf hj0 _) rfl (by show fg_nm y_M_zeros 1; decide +kernel) u_2340 u_2342 u_156 u_192 u_2343 ⟨Nat.le_of_ble_eq_true rfl, Nat.le_of_ble_eq_true rfl⟩ hX hz hK hP hD hwf hS hA hj0 (by decide) rfl rfl rfl hl.1 (Nat.le_of_ble_eq_true rfl) d_M_multiply_56 ⟨Nat.le_of_ble_eq_true rfl, Nat.le_of_ble_eq_true rfl⟩) hP hD hK hS hA rfl rfl (fun H locs hw hP hD hS => ?_)
    obtain ⟨hwf, hk9⟩ := hw
    have hkp := hkp.tr hk9
    refine lv_iadd hx hb d_M_multiply_59 ?_
    obtain ⟨v23, ev23, h⟩ := st_ob h
    refine fg_topi (y := v23) ev23.symm ?_
    refine lv_istore_n (lv' := [(1, .int v23), (0, .ref (ad 1 j0))]) hx hb d_M_multiply_60 rfl hl (by decide) rfl (fun ls hl => ?_)
    refine lv_aload_n hx hb d_M_multiply_61 rfl (lv_at hl 1 rfl) ?_
    refine g_M_53 hx hb hts hown hK hP hwf hj0 (hts _ u_1794) d_M_multiply_62 ?_
    obtain ⟨j24, e25, h⟩ := bd_ob h
    have hj24 : j24 < N 16 := (hwf.2.1 1 j0 53 _ (kp_r hkb hkp e25) (by decide) hj0)
    refine me_opt (j := j24) (kp_r hkb hkp e25) ?_
    refine lv_sipush (v := 30077) hx hb d_M_multiply_65 (by decide) ?_
    refine lv_iload_n hx hb d_M_multiply_68 rfl (lv_at hl 0 rfl) ?_
    refine lv_bipush (v := 63) hx hb d_M_multiply_69 (by decide) ?_
    refine lv_icmp_le (tgt := 78) hx hb d_M_multiply_71 (by decide) (fun c26 => ?_) (fun c26 => ?_)
    · have h := if_t c26 h
      refine lv_ldc2 hx hb hown (hts _ u_2071) d_M_multiply_78 ?_
      refine lv_iload_n hx hb d_M_multiply_81 rfl (lv_at hl 0 rfl) ?_
      refine lv_lshl (v := jlshl (-1 : Int64) v23) hx hb d_M_multiply_82 rfl ?_
      exact b_83 M21 (jlshl (-1 : Int64) v23) (30077 : Int32) j24 _ _ _ h hj24 hwf hkp hP hD hS (lv_sub hl [1] rfl)
    have h := if_f c26 h
    refine lv_lconst (v := 0) hx hb d_M_multiply_74 (by decide) ?_
    refine lv_goto (tgt := 83) hx hb d_M_multiply_75 (by decide) ?_
    exact b_83 M21 (0 : Int64) (30077 : Int32) j24 _ _ _ h hj24 hwf hkp hP hD hS (lv_sub hl [1] rfl)
  refine lv_aload_n hx hb d_M_multiply_0 rfl (lv_at hl 0 rfl) ?_
  refine lv_sipush (v := 30075) hx hb d_M_multiply_1 (by decide) ?_
  obtain ⟨M27, r28, eM27, h⟩ := b2_ob h
  refine me_theni0 (M1 := M27) (me_runV (C := "FilterGuardModel") (As := [.int 30075]) (rest := []) ⟨hx, hb, hml, hown, hts⟩ (c_M_isExact l D ad ca N M0 M27 r28 j0 (30075 : Int32) eM27 hwf hj0 _) rfl (by show fg_nm y_M_isExact 1; decide +kernel) u_2251 u_2253 u_136 u_192 u_2254 ⟨Nat.le_of_ble_eq_true rfl, Nat.le_of_ble_eq_true rfl⟩ hX hz hK hP hD hwf hS hA hj0 (by decide) rfl rfl rfl hl.1 (Nat.le_of_ble_eq_true rfl) d_M_multiply_4 ⟨Nat.le_of_ble_eq_true rfl, Nat.le_of_ble_eq_true rfl⟩) hP hD hK hS hA rfl rfl (fun H locs hw hP hD hS => ?_)
  obtain ⟨hwf, hk9, zr28⟩ := hw
  have hkp := hkp.tr hk9
  refine lv_if_eq (tgt := 45) hx hb d_M_multiply_7 (by decide) (fun c29 => ?_) (fun c29 => ?_)
  · have h := if_t c29 h
    exact b_45 M27 _ _ _ h hwf hkp hP hD hS (lv_sub hl [0] rfl)
  have h := if_f c29 h
  refine lv_aload_n hx hb d_M_multiply_10 rfl (lv_at hl 0 rfl) ?_
  refine lv_sipush (v := 30076) hx hb d_M_multiply_11 (by decide) ?_
  obtain ⟨M30, r31, eM30, h⟩ := b2_ob h
  refine me_theni0 (M1 := M30) (me_runV (C := "FilterGuardModel") (As := [.int 30076]) (rest := []) ⟨hx, hb, hml, hown, hts⟩ (c_M_isExact l D ad ca N M27 M30 r31 j0 (30076 : Int32) eM30 hwf hj0 _) rfl (by show fg_nm y_M_isExact 1; decide +kernel) u_2251 u_2253 u_136 u_192 u_2254 ⟨Nat.le_of_ble_eq_true rfl, Nat.le_of_ble_eq_true rfl⟩ hX hz hK hP hD hwf hS hA hj0 (by decide) rfl rfl rfl hl.1 (Nat.le_of_ble_eq_true rfl) d_M_multiply_14 ⟨Nat.le_of_ble_eq_true rfl, Nat.le_of_ble_eq_true rfl⟩) hP hD hK hS hA rfl rfl (fun H locs hw hP hD hS => ?_)
  obtain ⟨hwf, hk9, zr31⟩ := hw
  have hkp := hkp.tr hk9
  refine lv_if_eq (tgt := 45) hx hb d_M_multiply_17 (by decide) (fun c32 => ?_) (fun c32 => ?_)
  · have h := if_t c32 h
    exact b_45 M30 _ _ _ h hwf hkp hP hD hS (lv_sub hl [0] rfl)
  have h := if_f c32 h
  refine lv_aload_n hx hb d_M_multiply_20 rfl (lv_at hl 0 rfl) ?_
  refine lv_sipush (v := 30077) hx hb d_M_multiply_21 (by decide) ?_
  refine lv_aload_n hx hb d_M_multiply_24 rfl (lv_at hl 0 rfl) ?_
  refine g_M_52 hx hb hts hown hK hP hwf hj0 (hts _ u_1793) d_M_multiply_25 ?_
  obtain ⟨j33, e34, h⟩ := bd_ob h
  have hj33 : j33 < N 16 := (hwf.2.1 1 j0 52 _ (kp_r hkb hkp e34) (by decide) hj0)
  refine me_opt (j := j33) (kp_r hkb hkp e34) ?_
  refine lv_sipush (v := 30075) hx hb d_M_multiply_28 (by decide) ?_
  obtain ⟨g35, h⟩ := gd_ob h
  refine me_lald hx hb hK hP hwf hj33 (me_in (i := (30075 : Int32)) (k := 30075) (by decide) (by decide) (kp_c hkb.z hkp.z g35)) d_M_multiply_31 ?_
  refine fg_topl (y := mL M30 16 j33 30075) (congrArg _ (by decide)) ?_
  refine lv_aload_n hx hb d_M_multiply_32 rfl (lv_at hl 0 rfl) ?_
  refine g_M_52 hx hb hts hown hK hP hwf hj0 (hts _ u_1793) d_M_multiply_33 ?_
  refine me_opt (j := j33) (kp_r hkb hkp e34) ?_
  refine lv_sipush (v := 30076) hx hb d_M_multiply_36 (by decide) ?_
  obtain ⟨g36, h⟩ := gd_ob h
  refine me_lald hx hb hK hP hwf hj33 (me_in (i := (30076 : Int32)) (k := 30076) (by decide) (by decide) (kp_c hkb.z hkp.z g36)) d_M_multiply_39 ?_
  refine fg_topl (y := mL M30 16 j33 30076) (congrArg _ (by decide)) ?_
  refine lv_lmul hx hb d_M_multiply_40 ?_
  obtain ⟨M37, eM37, h⟩ := bd_ob h
  refine me_thenv0 (M1 := M37) (me_runV (C := "FilterGuardModel") (As := [.int 30077, .long ((mL M30 16 j33 30075) * (mL M30 16 j33 30076))]) (rest := []) ⟨hx, hb, hml, hown, hts⟩ (c_M_setExact l D ad ca N M30 M37 j0 (30077 : Int32) ((mL M30 16 j33 30075) * (mL M30 16 j33 30076)) eM37 hwf hj0 _) rfl (by show fg_nm y_M_setExact 2; decide +kernel) u_2108 u_2110 u_106 u_192 u_2111 ⟨Nat.le_of_ble_eq_true rfl, Nat.le_of_ble_eq_true rfl⟩ hX hz hK hP hD hwf hS hA hj0 (by decide) rfl rfl rfl hl.1 (Nat.le_of_ble_eq_true rfl) d_M_multiply_41 ⟨Nat.le_of_ble_eq_true rfl, Nat.le_of_ble_eq_true rfl⟩) hP hD hK hS hA rfl rfl (fun H locs hw hP hD hS => ?_)
  obtain ⟨hwf, hk9⟩ := hw
  have hkp := hkp.tr hk9
  exact me_retv (me_kp M0) h hx hb hr hlocks hwf hkp hP hK hD hS d_M_multiply_44
theorem d_M_quotient_75 : decode prog_14_method_22_code 75 = .ok (.lsub, 1) := by decide +kernel
theorem d_M_quotient_76 : decode prog_14_method_22_code 76 = .ok (.lstore 6, 2) := by decide +kernel
theorem d_M_quotient_78 : decode prog_14_method_22_code 78 = .ok (.lload 4, 2) := by decide +kernel
theorem d_M_quotient_80 : decode prog_14_method_22_code 80 = .ok (.iload 10, 2) := by decide +kernel
theorem d_M_quotient_82 : decode prog_14_method_22_code 82 = .ok (.ifCond .eq 10, 3) := by decide +kernel
theorem d_M_quotient_92 : decode prog_14_method_22_code 92 = .ok (.lconst 0, 1) := by decide +kernel
theorem d_M_quotient_93 : decode prog_14_method_22_code 93 = .ok (.lor, 1) := by decide +kernel
theorem d_M_quotient_94 : decode prog_14_method_22_code 94 = .ok (.lstore 4, 2) := by decide +kernel
theorem d_M_quotient_96 : decode prog_14_method_22_code 96 = .ok (.iinc 8 (-1), 3) := by decide +kernel
theorem d_M_quotient_99 : decode prog_14_method_22_code 99 = .ok (.goto (-89), 3) := by decide +kernel
theorem d_M_quotient_85 : decode prog_14_method_22_code 85 = .ok (.lconst 1, 1) := by decide +kernel
theorem d_M_quotient_86 : decode prog_14_method_22_code 86 = .ok (.iload 8, 2) := by decide +kernel
theorem d_M_quotient_88 : decode prog_14_method_22_code 88 = .ok (.lshl, 1) := by decide +kernel
theorem d_M_quotient_89 : decode prog_14_method_22_code 89 = .ok (.goto 4, 3) := by decide +kernel
theorem d_M_quotient_61 : decode prog_14_method_22_code 61 = .ok (.istore 10, 2) := by decide +kernel
theorem d_M_quotient_63 : decode prog_14_method_22_code 63 = .ok (.lload 6, 2) := by decide +kernel
theorem d_M_quotient_65 : decode prog_14_method_22_code 65 = .ok (.iload 10, 2) := by decide +kernel
theorem d_M_quotient_67 : decode prog_14_method_22_code 67 = .ok (.ifCond .eq 7, 3) := by decide +kernel
theorem d_M_quotient_74 : decode prog_14_method_22_code 74 = .ok (.lconst 0, 1) := by decide +kernel
theorem d_M_quotient_70 : decode prog_14_method_22_code 70 = .ok (.lload_n 2, 1) := by decide +kernel
theorem d_M_quotient_71 : decode prog_14_method_22_code 71 = .ok (.goto 4, 3) := by decide +kernel
theorem d_M_quotient_56 : decode prog_14_method_22_code 56 = .ok (.iconst 1, 1) := by decide +kernel
theorem d_M_quotient_57 : decode prog_14_method_22_code 57 = .ok (.goto 4, 3) := by decide +kernel
theorem d_M_quotient_27 : decode prog_14_method_22_code 27 = .ok (.istore 9, 2) := by decide +kernel
theorem d_M_quotient_29 : decode prog_14_method_22_code 29 = .ok (.lload 6, 2) := by decide +kernel
theorem d_M_quotient_31 : decode prog_14_method_22_code 31 = .ok (.iconst 1, 1) := by decide +kernel
theorem d_M_quotient_32 : decode prog_14_method_22_code 32 = .ok (.lshl, 1) := by decide +kernel
theorem d_M_quotient_33 : decode prog_14_method_22_code 33 = .ok (.lload_n 0, 1) := by decide +kernel
theorem d_M_quotient_34 : decode prog_14_method_22_code 34 = .ok (.iload 8, 2) := by decide +kernel
theorem d_M_quotient_36 : decode prog_14_method_22_code 36 = .ok (.lshr, 1) := by decide +kernel
theorem d_M_quotient_37 : decode prog_14_method_22_code 37 = .ok (.lconst 1, 1) := by decide +kernel
theorem d_M_quotient_38 : decode prog_14_method_22_code 38 = .ok (.land, 1) := by decide +kernel
theorem d_M_quotient_39 : decode prog_14_method_22_code 39 = .ok (.lor, 1) := by decide +kernel
theorem d_M_quotient_40 : decode prog_14_method_22_code 40 = .ok (.lstore 6, 2) := by decide +kernel
theorem d_M_quotient_42 : decode prog_14_method_22_code 42 = .ok (.iload 9, 2) := by decide +kernel
theorem d_M_quotient_44 : decode prog_14_method_22_code 44 = .ok (.ifCond .ne 12, 3) := by decide +kernel
theorem d_M_quotient_47 : decode prog_14_method_22_code 47 = .ok (.lload 6, 2) := by decide +kernel
theorem d_M_quotient_49 : decode prog_14_method_22_code 49 = .ok (.lload_n 2, 1) := by decide +kernel
theorem d_M_quotient_50 : decode prog_14_method_22_code 50 = .ok (.invokestatic 158, 3) := by decide +kernel
theorem d_M_quotient_53 : decode prog_14_method_22_code 53 = .ok (.ifCond .ne 7, 3) := by decide +kernel
theorem d_M_quotient_60 : decode prog_14_method_22_code 60 = .ok (.iconst 0, 1) := by decide +kernel
theorem d_M_quotient_10 : decode prog_14_method_22_code 10 = .ok (.iload 8, 2) := by decide +kernel
theorem d_M_quotient_12 : decode prog_14_method_22_code 12 = .ok (.ifCond .lt 90, 3) := by decide +kernel
theorem d_M_quotient_102 : decode prog_14_method_22_code 102 = .ok (.lload 4, 2) := by decide +kernel
theorem d_M_quotient_104 : decode prog_14_method_22_code 104 = .ok (.lreturn, 1) := by decide +kernel
theorem d_M_quotient_15 : decode prog_14_method_22_code 15 = .ok (.lload 6, 2) := by decide +kernel
theorem d_M_quotient_17 : decode prog_14_method_22_code 17 = .ok (.lconst 0, 1) := by decide +kernel
theorem d_M_quotient_18 : decode prog_14_method_22_code 18 = .ok (.lcmp, 1) := by decide +kernel
theorem d_M_quotient_19 : decode prog_14_method_22_code 19 = .ok (.ifCond .ge 7, 3) := by decide +kernel
theorem d_M_quotient_26 : decode prog_14_method_22_code 26 = .ok (.iconst 0, 1) := by decide +kernel
theorem d_M_quotient_22 : decode prog_14_method_22_code 22 = .ok (.iconst 1, 1) := by decide +kernel
theorem d_M_quotient_23 : decode prog_14_method_22_code 23 = .ok (.goto 4, 3) := by decide +kernel
theorem d_M_quotient_0 : decode prog_14_method_22_code 0 = .ok (.lconst 0, 1) := by decide +kernel
theorem d_M_quotient_1 : decode prog_14_method_22_code 1 = .ok (.lstore 4, 2) := by decide +kernel
theorem d_M_quotient_3 : decode prog_14_method_22_code 3 = .ok (.lconst 0, 1) := by decide +kernel
theorem d_M_quotient_4 : decode prog_14_method_22_code 4 = .ok (.lstore 6, 2) := by decide +kernel
theorem d_M_quotient_6 : decode prog_14_method_22_code 6 = .ok (.bipush 63, 2) := by decide +kernel
theorem d_M_quotient_8 : decode prog_14_method_22_code 8 = .ok (.istore 8, 2) := by decide +kernel
abbrev y_M_quotient : MethodName := ⟨"FilterGuardModel", "quotient", "(JJ)J"⟩
def rm_M_quotient : Room := { frames := 2, cells := 0, slots := 0, locals := 43 }
abbrev q_M_quotient (D : va_G) (RZ : Int64) (A : Nat → Prop) : Array Value → Jvm.State → Outcome → Jvm.State → Prop := va_Ql (fun r (_ : Unit) => r = RZ ∧ True) (fg_B D A (fun _ => []) (fun _ => [])) A
set_option maxHeartbeats 4000000 in
set_option maxRecDepth 100000 in
theorem c_M_quotient (l : Launch) (D : va_G) (RZ : Int64) (x0 : Int64) (x2 : Int64) (h : f_M_quotient x0 x2 = (some RZ)) (sz : Nat) : Met l y_M_quotient (fg_w y_M_quotient prog_14_method_22_code 11 (some .long)) rm_M_quotient (va_Pc [.long x0, .long x2] (fg_P D [] [] sz)) (q_M_quotient D RZ (va_A [] sz)) rm_M_quotient.cells rm_M_quotient.slots (va_A [] sz) := by
  refine fg_enter (fun A => q_M_quotient D RZ A) (by decide +kernel) (Nat.le_of_ble_eq_true rfl) ?_
  intro p e s m below meth c ls A hx hb hml hown hts hr hlocks hin hP hK hD hS hA hX hl
  have hl : lv_has ls 11 [(0, .long x0), (2, .long x2)] := hl
  unfold f_M_quotient at h
  have b_75 : ∀ (k10 : Int64 → Int64 → Int32 → Option Int64) (hk10 : ∀ (y4 : Int64) (y6 : Int64) (y8 : Int32) (H : Heap) (locs : List Loc) (ls : Array Slot), k10 y4 y6 y8 = (some RZ) → va_S A s.heap H locs → lv_has ls 11 [(0, .long x0), (2, .long x2), (4, .long y4), (6, .long y6), (8, .int y8)] → W p l e rm_M_quotient s m [.long x0, .long x2].toArray below meth c H locs 0 0 (MQ below (q_M_quotient D RZ A) [.long x0, .long x2].toArray s rm_M_quotient.cells rm_M_quotient.slots A) (F0 m 10 ls [])), ∀ (y4 : Int64) (y8 : Int32) (y10 : Int32) (s0 : Int64) (s1 : Int64) (H : Heap) (locs : List Loc) (ls : Array Slot), f_M_quotient_b75 k10 x0 x2 y4 y8 y10 s0 s1 = (some RZ) → (y10 = 1 ∨ y10 = 0) → va_S A s.heap H locs → lv_has ls 11 [(0, .long x0), (2, .long x2), (4, .long y4), (8, .int y8), (10, .int y10)] → W p l e rm_M_quotient s m [.long x0, .long x2].toArray below meth c H locs 0 0 (MQ below (q_M_quotient D RZ A) [.long x0, .long x2].toArray s rm_M_quotient.cells rm_M_quotient.slots A) (F0 m 75 ls [.long s0, .long s1]) := by
    intro k10 hk10 y4 y8 y10 s0 s1 H locs ls h zy10 hS hl
    unfold f_M_quotient_b75 at h
    refine lv_lsub hx hb d_M_quotient_75 ?_
    obtain ⟨v1, ev1, h⟩ := st_ob h
    refine fg_topl (y := v1) ev1.symm ?_
    refine lv_lstore (lv' := [(6, .long v1), (0, .long x0), (2, .long x2), (4, .long y4), (8, .int y8), (10, .int y10)]) hx hb d_M_quotient_76 hl (by decide) rfl (fun ls hl => ?_)
    refine lv_lload hx hb d_M_quotient_78 (lv_at hl 3 rfl) ?_
    refine lv_iload hx hb d_M_quotient_80 (lv_at hl 5 rfl) ?_
    refine lv_if_eq (tgt := 92) hx hb d_M_quotient_82 (by decide) (fun c2 => ?_) (fun c2 => ?_)
    · have h := if_t c2 h
      refine lv_lconst (v := 0) hx hb d_M_quotient_92 (by decide) ?_
      refine lv_lor hx hb d_M_quotient_93 ?_
      obtain ⟨v3, ev3, h⟩ := st_ob h
      refine fg_topl (y := v3) ev3.symm ?_
      refine lv_lstore (lv' := [(4, .long v3), (6, .long v1), (0, .long x0), (2, .long x2), (8, .int y8), (10, .int y10)]) hx hb d_M_quotient_94 hl (by decide) rfl (fun ls hl => ?_)
      refine lv_iinc (v := y8 + (-1)) (lv' := [(8, .int (y8 + (-1))), (4, .long v3), (6, .long v1), (0, .long x0), (2, .long x2), (10, .int y10)]) hx hb d_M_quotient_96 hl (k := 4) rfl (by rfl) (by decide) rfl (fun ls hl => ?_)
      refine lv_goto (tgt := 10) hx hb d_M_quotient_99 (by decide) ?_
      exact hk10 v3 v1 (y8 + (-1)) _ _ _ h hS (lv_sub hl [3, 4, 1, 2, 0] rfl)
    have h := if_f c2 h
    refine lv_lconst (v := 1) hx hb d_M_quotient_85 (by decide) ?_
    refine lv_iload hx hb d_M_quotient_86 (lv_at hl 4 rfl) ?_
    refine lv_lshl (v := jlshl (1 : Int64) y8) hx hb d_M_quotient_88 rfl ?_
    refine lv_goto (tgt := 93) hx hb d_M_quotient_89 (by decide) ?_
    refine lv_lor hx hb d_M_quotient_93 ?_
    obtain ⟨v4, ev4, h⟩ := st_ob h
    refine fg_topl (y := v4) ev4.symm ?_
    refine lv_lstore (lv' := [(4, .long v4), (6, .long v1), (0, .long x0), (2, .long x2), (8, .int y8), (10, .int y10)]) hx hb d_M_quotient_94 hl (by decide) rfl (fun ls hl => ?_)
    refine lv_iinc (v := y8 + (-1)) (lv' := [(8, .int (y8 + (-1))), (4, .long v4), (6, .long v1), (0, .long x0), (2, .long x2), (10, .int y10)]) hx hb d_M_quotient_96 hl (k := 4) rfl (by rfl) (by decide) rfl (fun ls hl => ?_)
    refine lv_goto (tgt := 10) hx hb d_M_quotient_99 (by decide) ?_
    exact hk10 v4 v1 (y8 + (-1)) _ _ _ h hS (lv_sub hl [3, 4, 1, 2, 0] rfl)
  have b_61 : ∀ (k10 : Int64 → Int64 → Int32 → Option Int64) (hk10 : ∀ (y4 : Int64) (y6 : Int64) (y8 : Int32) (H : Heap) (locs : List Loc) (ls : Array Slot), k10 y4 y6 y8 = (some RZ) → va_S A s.heap H locs → lv_has ls 11 [(0, .long x0), (2, .long x2), (4, .long y4), (6, .long y6), (8, .int y8)] → W p l e rm_M_quotient s m [.long x0, .long x2].toArray below meth c H locs 0 0 (MQ below (q_M_quotient D RZ A) [.long x0, .long x2].toArray s rm_M_quotient.cells rm_M_quotient.slots A) (F0 m 10 ls [])), ∀ (y4 : Int64) (y6 : Int64) (y8 : Int32) (s0 : Int32) (H : Heap) (locs : List Loc) (ls : Array Slot), f_M_quotient_b61 k10 x0 x2 y4 y6 y8 s0 = (some RZ) → (s0 = 1 ∨ s0 = 0) → va_S A s.heap H locs → lv_has ls 11 [(0, .long x0), (2, .long x2), (4, .long y4), (6, .long y6), (8, .int y8)] → W p l e rm_M_quotient s m [.long x0, .long x2].toArray below meth c H locs 0 0 (MQ below (q_M_quotient D RZ A) [.long x0, .long x2].toArray s rm_M_quotient.cells rm_M_quotient.slots A) (F0 m 61 ls [.int s0]) := by
    intro k10 hk10 y4 y6 y8 s0 H locs ls h zs0 hS hl
    unfold f_M_quotient_b61 at h
    refine lv_istore (lv' := [(10, .int s0), (0, .long x0), (2, .long x2), (4, .long y4), (6, .long y6), (8, .int y8)]) hx hb d_M_quotient_61 hl (by decide) rfl (fun ls hl => ?_)
    refine lv_lload hx hb d_M_quotient_63 (lv_at hl 4 rfl) ?_
    refine lv_iload hx hb d_M_quotient_65 (lv_at hl 0 rfl) ?_
    refine lv_if_eq (tgt := 74) hx hb d_M_quotient_67 (by decide) (fun c5 => ?_) (fun c5 => ?_)
    · have h := if_t c5 h
      refine lv_lconst (v := 0) hx hb d_M_quotient_74 (by decide) ?_
      exact b_75 _ hk10 y4 y8 s0 (0 : Int64) y6 _ _ _ h zs0 hS (lv_sub hl [1, 2, 3, 5, 0] rfl)
    have h := if_f c5 h
    refine lv_lload_n hx hb d_M_quotient_70 rfl (lv_at hl 2 rfl) ?_
    refine lv_goto (tgt := 75) hx hb d_M_quotient_71 (by decide) ?_
    exact b_75 _ hk10 y4 y8 s0 x2 y6 _ _ _ h zs0 hS (lv_sub hl [1, 2, 3, 5, 0] rfl)
  have b_56 : ∀ (k10 : Int64 → Int64 → Int32 → Option Int64) (hk10 : ∀ (y4 : Int64) (y6 : Int64) (y8 : Int32) (H : Heap) (locs : List Loc) (ls : Array Slot), k10 y4 y6 y8 = (some RZ) → va_S A s.heap H locs → lv_has ls 11 [(0, .long x0), (2, .long x2), (4, .long y4), (6, .long y6), (8, .int y8)] → W p l e rm_M_quotient s m [.long x0, .long x2].toArray below meth c H locs 0 0 (MQ below (q_M_quotient D RZ A) [.long x0, .long x2].toArray s rm_M_quotient.cells rm_M_quotient.slots A) (F0 m 10 ls [])), ∀ (y4 : Int64) (y6 : Int64) (y8 : Int32) (H : Heap) (locs : List Loc) (ls : Array Slot), f_M_quotient_b56 k10 x0 x2 y4 y6 y8 = (some RZ) → va_S A s.heap H locs → lv_has ls 11 [(0, .long x0), (2, .long x2), (4, .long y4), (6, .long y6), (8, .int y8)] → W p l e rm_M_quotient s m [.long x0, .long x2].toArray below meth c H locs 0 0 (MQ below (q_M_quotient D RZ A) [.long x0, .long x2].toArray s rm_M_quotient.cells rm_M_quotient.slots A) (F0 m 56 ls []) := by
    intro k10 hk10 y4 y6 y8 H locs ls h hS hl
    unfold f_M_quotient_b56 at h
    refine lv_iconst (v := 1) hx hb d_M_quotient_56 (by decide) ?_
    refine lv_goto (tgt := 61) hx hb d_M_quotient_57 (by decide) ?_
    exact b_61 _ hk10 y4 y6 y8 (1 : Int32) _ _ _ h (by decide) hS (lv_sub hl [0, 1, 2, 3, 4] rfl)
  have b_27 : ∀ (k10 : Int64 → Int64 → Int32 → Option Int64) (hk10 : ∀ (y4 : Int64) (y6 : Int64) (y8 : Int32) (H : Heap) (locs : List Loc) (ls : Array Slot), k10 y4 y6 y8 = (some RZ) → va_S A s.heap H locs → lv_has ls 11 [(0, .long x0), (2, .long x2), (4, .long y4), (6, .long y6), (8, .int y8)] → W p l e rm_M_quotient s m [.long x0, .long x2].toArray below meth c H locs 0 0 (MQ below (q_M_quotient D RZ A) [.long x0, .long x2].toArray s rm_M_quotient.cells rm_M_quotient.slots A) (F0 m 10 ls [])), ∀ (y4 : Int64) (y6 : Int64) (y8 : Int32) (s0 : Int32) (H : Heap) (locs : List Loc) (ls : Array Slot), f_M_quotient_b27 k10 x0 x2 y4 y6 y8 s0 = (some RZ) → (s0 = 1 ∨ s0 = 0) → va_S A s.heap H locs → lv_has ls 11 [(0, .long x0), (2, .long x2), (4, .long y4), (6, .long y6), (8, .int y8)] → W p l e rm_M_quotient s m [.long x0, .long x2].toArray below meth c H locs 0 0 (MQ below (q_M_quotient D RZ A) [.long x0, .long x2].toArray s rm_M_quotient.cells rm_M_quotient.slots A) (F0 m 27 ls [.int s0]) := by
    intro k10 hk10 y4 y6 y8 s0 H locs ls h zs0 hS hl
    unfold f_M_quotient_b27 at h
    refine lv_istore (lv' := [(9, .int s0), (0, .long x0), (2, .long x2), (4, .long y4), (6, .long y6), (8, .int y8)]) hx hb d_M_quotient_27 hl (by decide) rfl (fun ls hl => ?_)
    refine lv_lload hx hb d_M_quotient_29 (lv_at hl 4 rfl) ?_
    refine lv_iconst (v := 1) hx hb d_M_quotient_31 (by decide) ?_
    refine lv_lshl (v := jlshl y6 (1 : Int32)) hx hb d_M_quotient_32 rfl ?_
    refine lv_lload_n hx hb d_M_quotient_33 rfl (lv_at hl 1 rfl) ?_
    refine lv_iload hx hb d_M_quotient_34 (lv_at hl 5 rfl) ?_
    refine lv_lshr (v := jlshr x0 y8) hx hb d_M_quotient_36 rfl ?_
    refine lv_lconst (v := 1) hx hb d_M_quotient_37 (by decide) ?_
    refine lv_land hx hb d_M_quotient_38 ?_
    refine lv_lor hx hb d_M_quotient_39 ?_
    obtain ⟨v6, ev6, h⟩ := st_ob h
    refine fg_topl (y := v6) ev6.symm ?_
    refine lv_lstore (lv' := [(6, .long v6), (9, .int s0), (0, .long x0), (2, .long x2), (4, .long y4), (8, .int y8)]) hx hb d_M_quotient_40 hl (by decide) rfl (fun ls hl => ?_)
    refine lv_iload hx hb d_M_quotient_42 (lv_at hl 1 rfl) ?_
    refine lv_if_ne (tgt := 56) hx hb d_M_quotient_44 (by decide) (fun c7 => ?_) (fun c7 => ?_)
    · have h := if_f c7 h
      exact b_56 _ hk10 y4 v6 y8 _ _ _ h hS (lv_sub hl [2, 3, 4, 0, 5] rfl)
    have h := if_t c7 h
    refine lv_lload hx hb d_M_quotient_47 (lv_at hl 0 rfl) ?_
    refine lv_lload_n hx hb d_M_quotient_49 rfl (lv_at hl 3 rfl) ?_
    obtain ⟨r8, er8, h⟩ := bd_ob h
    refine me_pani0 (r0 := r8) (fg_runS (wc := []) (tc := []) (A2 := A) (As := [.long v6, .long x2]) (rest := []) ⟨hx, hb, hml, hown, hts⟩ (c_M_below l D r8 v6 x2 er8 _) (by show fg_nm y_M_below 2; decide +kernel) u_2072 u_2073 u_192 u_2074 ⟨Nat.le_of_ble_eq_true rfl, Nat.le_of_ble_eq_true rfl⟩ hX me_P0 (hK.sub (tys' := []) [] rfl) me_D0 rfl hl.1 (Nat.le_of_ble_eq_true rfl) d_M_quotient_50 ⟨Nat.le_of_ble_eq_true rfl, Nat.le_of_ble_eq_true rfl⟩) hK hS hA rfl rfl (fun H locs hw hS => ?_)
    have zr8 := hw
    refine lv_if_ne (tgt := 60) hx hb d_M_quotient_53 (by decide) (fun c9 => ?_) (fun c9 => ?_)
    · have h := if_f c9 h
      refine lv_iconst (v := 0) hx hb d_M_quotient_60 (by decide) ?_
      exact b_61 _ hk10 y4 v6 y8 (0 : Int32) _ _ _ h (by decide) hS (lv_sub hl [2, 3, 4, 0, 5] rfl)
    have h := if_t c9 h
    exact b_56 _ hk10 y4 v6 y8 _ _ _ h hS (lv_sub hl [2, 3, 4, 0, 5] rfl)
  have b_10 : ∀ (fu : Nat), ∀ (y4 : Int64) (y6 : Int64) (y8 : Int32) (H : Heap) (locs : List Loc) (ls : Array Slot), f_M_quotient_l10 x0 x2 fu y4 y6 y8 = (some RZ) → va_S A s.heap H locs → lv_has ls 11 [(0, .long x0), (2, .long x2), (4, .long y4), (6, .long y6), (8, .int y8)] → W p l e rm_M_quotient s m [.long x0, .long x2].toArray below meth c H locs 0 0 (MQ below (q_M_quotient D RZ A) [.long x0, .long x2].toArray s rm_M_quotient.cells rm_M_quotient.slots A) (F0 m 10 ls []) := by
    intro fu
    induction fu with
    | zero =>
      intro y4 y6 y8 H locs ls h hS hl
      cases h
    | succ fu ih =>
      intro y4 y6 y8 H locs ls h hS hl
      unfold f_M_quotient_l10 at h
      refine lv_iload hx hb d_M_quotient_10 (lv_at hl 4 rfl) ?_
      refine lv_if_lt (tgt := 102) hx hb d_M_quotient_12 (by decide) (fun c10 => ?_) (fun c10 => ?_)
      · have h := if_t c10 h
        refine lv_lload hx hb d_M_quotient_102 (lv_at hl 2 rfl) ?_
        exact me_pretl h hx hb hr hlocks hK hS d_M_quotient_104
      have h := if_f c10 h
      refine lv_lload hx hb d_M_quotient_15 (lv_at hl 3 rfl) ?_
      refine lv_lconst (v := 0) hx hb d_M_quotient_17 (by decide) ?_
      refine W.lcmp hx hb d_M_quotient_18 ?_
      refine lv_if_ge (tgt := 26) hx hb d_M_quotient_19 (by decide) (fun c11 => ?_) (fun c11 => ?_)
      · have h := if_f (Int64.not_lt.mpr ((lg_cmp_ge _ _).mp c11)) h
        refine lv_iconst (v := 0) hx hb d_M_quotient_26 (by decide) ?_
        exact b_27 _ ih y4 y6 y8 (0 : Int32) _ _ _ h (by decide) hS (lv_sub hl [0, 1, 2, 3, 4] rfl)
      have h := if_t (Int64.not_le.mp (fun z => c11 ((lg_cmp_ge _ _).mpr z))) h
      refine lv_iconst (v := 1) hx hb d_M_quotient_22 (by decide) ?_
      refine lv_goto (tgt := 27) hx hb d_M_quotient_23 (by decide) ?_
      exact b_27 _ ih y4 y6 y8 (1 : Int32) _ _ _ h (by decide) hS (lv_sub hl [0, 1, 2, 3, 4] rfl)
  refine lv_lconst (v := 0) hx hb d_M_quotient_0 (by decide) ?_
  refine lv_lstore (lv' := [(4, .long 0), (0, .long x0), (2, .long x2)]) hx hb d_M_quotient_1 hl (by decide) rfl (fun ls hl => ?_)
  refine lv_lconst (v := 0) hx hb d_M_quotient_3 (by decide) ?_
  refine lv_lstore (lv' := [(6, .long 0), (4, .long 0), (0, .long x0), (2, .long x2)]) hx hb d_M_quotient_4 hl (by decide) rfl (fun ls hl => ?_)
  refine lv_bipush (v := 63) hx hb d_M_quotient_6 (by decide) ?_
  refine lv_istore (lv' := [(8, .int 63), (6, .long 0), (4, .long 0), (0, .long x0), (2, .long x2)]) hx hb d_M_quotient_8 hl (by decide) rfl (fun ls hl => ?_)
  exact b_10 _ (0 : Int64) (0 : Int64) (63 : Int32) _ _ _ h hS (lv_sub hl [3, 4, 2, 1, 0] rfl)
theorem d_M_divide_34 : decode prog_14_method_23_code 34 = .ok (.aload_n 0, 1) := by decide +kernel
theorem d_M_divide_35 : decode prog_14_method_23_code 35 = .ok (.sipush 30076, 3) := by decide +kernel
theorem d_M_divide_38 : decode prog_14_method_23_code 38 = .ok (.invokevirtual 192, 3) := by decide +kernel
theorem d_M_divide_41 : decode prog_14_method_23_code 41 = .ok (.ifCond .eq 60, 3) := by decide +kernel
theorem d_M_divide_101 : decode prog_14_method_23_code 101 = .ok (.aload_n 0, 1) := by decide +kernel
theorem d_M_divide_102 : decode prog_14_method_23_code 102 = .ok (.getfield 113, 3) := by decide +kernel
theorem d_M_divide_105 : decode prog_14_method_23_code 105 = .ok (.sipush 30077, 3) := by decide +kernel
theorem d_M_divide_108 : decode prog_14_method_23_code 108 = .ok (.aload_n 0, 1) := by decide +kernel
theorem d_M_divide_109 : decode prog_14_method_23_code 109 = .ok (.getfield 113, 3) := by decide +kernel
theorem d_M_divide_112 : decode prog_14_method_23_code 112 = .ok (.sipush 30075, 3) := by decide +kernel
theorem d_M_divide_115 : decode prog_14_method_23_code 115 = .ok (.laload, 1) := by decide +kernel
theorem d_M_divide_116 : decode prog_14_method_23_code 116 = .ok (.lastore, 1) := by decide +kernel
theorem d_M_divide_117 : decode prog_14_method_23_code 117 = .ok (.return_, 1) := by decide +kernel
theorem d_M_divide_44 : decode prog_14_method_23_code 44 = .ok (.aload_n 0, 1) := by decide +kernel
theorem d_M_divide_45 : decode prog_14_method_23_code 45 = .ok (.getfield 110, 3) := by decide +kernel
theorem d_M_divide_48 : decode prog_14_method_23_code 48 = .ok (.sipush 30077, 3) := by decide +kernel
theorem d_M_divide_51 : decode prog_14_method_23_code 51 = .ok (.aload_n 0, 1) := by decide +kernel
theorem d_M_divide_52 : decode prog_14_method_23_code 52 = .ok (.getfield 110, 3) := by decide +kernel
theorem d_M_divide_55 : decode prog_14_method_23_code 55 = .ok (.sipush 30075, 3) := by decide +kernel
theorem d_M_divide_58 : decode prog_14_method_23_code 58 = .ok (.laload, 1) := by decide +kernel
theorem d_M_divide_59 : decode prog_14_method_23_code 59 = .ok (.aload_n 0, 1) := by decide +kernel
theorem d_M_divide_60 : decode prog_14_method_23_code 60 = .ok (.getfield 104, 3) := by decide +kernel
theorem d_M_divide_63 : decode prog_14_method_23_code 63 = .ok (.sipush 30076, 3) := by decide +kernel
theorem d_M_divide_66 : decode prog_14_method_23_code 66 = .ok (.laload, 1) := by decide +kernel
theorem d_M_divide_67 : decode prog_14_method_23_code 67 = .ok (.invokestatic 205, 3) := by decide +kernel
theorem u_2348 : Cond.methodLink "FilterGuardModel" 205 ⟨"FilterGuardModel", "quotient", "(JJ)J"⟩ ∈ fg_g := fg_in (List.mem_of_getElem? (i := 2348) (by decide +kernel)) rfl
theorem u_2350 : Cond.code ⟨"FilterGuardModel", "quotient", "(JJ)J"⟩ prog_14_method_22_code 11 (some .long) ∈ fg_g := fg_in (List.mem_of_getElem? (i := 2350) (by decide +kernel)) rfl
theorem u_2349 : Cond.static ⟨"FilterGuardModel", "quotient", "(JJ)J"⟩ ∈ fg_g := fg_in (List.mem_of_getElem? (i := 2349) (by decide +kernel)) rfl
theorem d_M_divide_70 : decode prog_14_method_23_code 70 = .ok (.lastore, 1) := by decide +kernel
theorem d_M_divide_71 : decode prog_14_method_23_code 71 = .ok (.aload_n 0, 1) := by decide +kernel
theorem d_M_divide_72 : decode prog_14_method_23_code 72 = .ok (.getfield 113, 3) := by decide +kernel
theorem d_M_divide_75 : decode prog_14_method_23_code 75 = .ok (.sipush 30077, 3) := by decide +kernel
theorem d_M_divide_78 : decode prog_14_method_23_code 78 = .ok (.aload_n 0, 1) := by decide +kernel
theorem d_M_divide_79 : decode prog_14_method_23_code 79 = .ok (.getfield 113, 3) := by decide +kernel
theorem d_M_divide_82 : decode prog_14_method_23_code 82 = .ok (.sipush 30075, 3) := by decide +kernel
theorem d_M_divide_85 : decode prog_14_method_23_code 85 = .ok (.laload, 1) := by decide +kernel
theorem d_M_divide_86 : decode prog_14_method_23_code 86 = .ok (.aload_n 0, 1) := by decide +kernel
theorem d_M_divide_87 : decode prog_14_method_23_code 87 = .ok (.getfield 104, 3) := by decide +kernel
theorem d_M_divide_90 : decode prog_14_method_23_code 90 = .ok (.sipush 30076, 3) := by decide +kernel
theorem d_M_divide_93 : decode prog_14_method_23_code 93 = .ok (.laload, 1) := by decide +kernel
theorem d_M_divide_94 : decode prog_14_method_23_code 94 = .ok (.invokestatic 205, 3) := by decide +kernel
theorem d_M_divide_97 : decode prog_14_method_23_code 97 = .ok (.lastore, 1) := by decide +kernel
theorem d_M_divide_98 : decode prog_14_method_23_code 98 = .ok (.goto 19, 3) := by decide +kernel
theorem d_M_divide_0 : decode prog_14_method_23_code 0 = .ok (.aload_n 0, 1) := by decide +kernel
theorem d_M_divide_1 : decode prog_14_method_23_code 1 = .ok (.sipush 30076, 3) := by decide +kernel
theorem d_M_divide_4 : decode prog_14_method_23_code 4 = .ok (.invokevirtual 192, 3) := by decide +kernel
theorem d_M_divide_7 : decode prog_14_method_23_code 7 = .ok (.ifCond .eq 27, 3) := by decide +kernel
theorem d_M_divide_10 : decode prog_14_method_23_code 10 = .ok (.aload_n 0, 1) := by decide +kernel
theorem d_M_divide_11 : decode prog_14_method_23_code 11 = .ok (.getfield 104, 3) := by decide +kernel
theorem d_M_divide_14 : decode prog_14_method_23_code 14 = .ok (.sipush 30076, 3) := by decide +kernel
theorem d_M_divide_17 : decode prog_14_method_23_code 17 = .ok (.laload, 1) := by decide +kernel
theorem d_M_divide_18 : decode prog_14_method_23_code 18 = .ok (.lconst 0, 1) := by decide +kernel
theorem d_M_divide_19 : decode prog_14_method_23_code 19 = .ok (.lcmp, 1) := by decide +kernel
theorem d_M_divide_20 : decode prog_14_method_23_code 20 = .ok (.ifCond .ne 14, 3) := by decide +kernel
theorem d_M_divide_23 : decode prog_14_method_23_code 23 = .ok (.aload_n 0, 1) := by decide +kernel
theorem d_M_divide_24 : decode prog_14_method_23_code 24 = .ok (.sipush 30077, 3) := by decide +kernel
theorem d_M_divide_27 : decode prog_14_method_23_code 27 = .ok (.lconst 0, 1) := by decide +kernel
theorem d_M_divide_28 : decode prog_14_method_23_code 28 = .ok (.invokevirtual 195, 3) := by decide +kernel
theorem d_M_divide_31 : decode prog_14_method_23_code 31 = .ok (.goto 86, 3) := by decide +kernel
abbrev y_M_divide : MethodName := ⟨"FilterGuardModel", "divide", "()V"⟩
def rm_M_divide : Room := { frames := 3, cells := 0, slots := 0, locals := 73 }
abbrev q_M_divide (D : va_G) (ad : Nat → Nat → Nat) (ca : Nat → ClassId) (N : Nat → Nat) (M0 MZ : me_M) (A : Nat → Prop) : Array Value → Jvm.State → Outcome → Jvm.State → Prop := va_Qv (fun (_ : Unit) => me_wf N MZ ∧ me_kp M0 MZ) (fg_B D A (fun _ => me_W ad ca MZ) (fun _ => [])) A
set_option maxHeartbeats 4000000 in
set_option maxRecDepth 100000 in
theorem c_M_divide (l : Launch) (D : va_G) (ad : Nat → Nat → Nat) (ca : Nat → ClassId) (N : Nat → Nat) (M0 MZ : me_M) (j0 : Nat) (h : f_M_divide M0 j0 = (some MZ)) (hwf : me_wf N M0) (hj0 : j0 < N 1) (sz : Nat) : Met l y_M_divide (fg_w y_M_divide prog_14_method_23_code 1 none) rm_M_divide (va_Pc [.ref (ad 1 j0)] (fz_P D (me_T ca) (me_W ad ca M0) sz)) (q_M_divide D ad ca N M0 MZ (va_A (me_W ad ca M0) sz)) rm_M_divide.cells rm_M_divide.slots (va_A (me_W ad ca M0) sz) := by
  refine fz_enter (fun A => q_M_divide D ad ca N M0 MZ A) (by decide +kernel) (Nat.le_of_ble_eq_true rfl) ?_
  intro p e s m below meth c ls A hx hb hml hown hts hr hlocks hin hP hK hD hS hA hX hl hz
  have hl : lv_has ls 1 [(0, .ref (ad 1 j0))] := hl
  unfold f_M_divide at h
  have hkp : me_kp M0 M0 := me_kp.rf
  have hkb := hkp
  have b_34 : ∀ (M : me_M) (H : Heap) (locs : List Loc) (ls : Array Slot), f_M_divide_b34 j0 M = (some MZ) → me_wf N M → me_kp M0 M → va_P D classes (me_W ad ca M) H → va_D A (me_W ad ca M) → va_S A s.heap H locs → lv_has ls 1 [(0, .ref (ad 1 j0))] → W p l e rm_M_divide s m [.ref (ad 1 j0)].toArray below meth c H locs 0 0 (MQ below (q_M_divide D ad ca N M0 MZ A) [.ref (ad 1 j0)].toArray s rm_M_divide.cells rm_M_divide.slots A) (F0 m 34 ls []) := by
    intro M H locs ls h hwf hkp hP hD hS hl
    unfold f_M_divide_b34 at h
    have hkb := hkp
    refine lv_aload_n hx hb d_M_divide_34 rfl (lv_at hl 0 rfl) ?_
    refine lv_sipush (v := 30076) hx hb d_M_divide_35 (by decide) ?_
    obtain ⟨M1, r2, eM1, h⟩ := b2_ob h
    refine me_theni0 (M1 := M1) (me_runV (C := "FilterGuardModel") (As := [.int 30076]) (rest := []) ⟨hx, hb, hml, hown, hts⟩ (c_M_isExact l D ad ca N M M1 r2 j0 (30076 : Int32) eM1 hwf hj0 _) rfl (by show fg_nm y_M_isExact 1; decide +kernel) u_2251 u_2253 u_136 u_192 u_2254 ⟨Nat.le_of_ble_eq_true rfl, Nat.le_of_ble_eq_true rfl⟩ hX hz hK hP hD hwf hS hA hj0 (by decide) rfl rfl rfl hl.1 (Nat.le_of_ble_eq_true rfl) d_M_divide_38 ⟨Nat.le_of_ble_eq_true rfl, Nat.le_of_ble_eq_true rfl⟩) hP hD hK hS hA rfl rfl (fun H locs hw hP hD hS => ?_)
    obtain ⟨hwf, hk9, zr2⟩ := hw
    have hkp := hkp.tr hk9
    refine lv_if_eq (tgt := 101) hx hb d_M_divide_41 (by decide) (fun c3 => ?_) (fun c3 => ?_)
    · have h := if_t c3 h
      refine lv_aload_n hx hb d_M_divide_101 rfl (lv_at hl 0 rfl) ?_
      refine g_M_55 hx hb hts hown hK hP hwf hj0 (hts _ u_1796) d_M_divide_102 ?_
      obtain ⟨j4, e5, h⟩ := bd_ob h
      have hj4 : j4 < N 16 := (hwf.2.1 1 j0 55 _ (kp_r hkb hkp e5) (by decide) hj0)
      refine me_opt (j := j4) (kp_r hkb hkp e5) ?_
      refine lv_sipush (v := 30077) hx hb d_M_divide_105 (by decide) ?_
      refine lv_aload_n hx hb d_M_divide_108 rfl (lv_at hl 0 rfl) ?_
      refine g_M_55 hx hb hts hown hK hP hwf hj0 (hts _ u_1796) d_M_divide_109 ?_
      refine me_opt (j := j4) (kp_r hkb hkp e5) ?_
      refine lv_sipush (v := 30075) hx hb d_M_divide_112 (by decide) ?_
      obtain ⟨g6, h⟩ := gd_ob h
      refine me_lald hx hb hK hP hwf hj4 (me_in (i := (30075 : Int32)) (k := 30075) (by decide) (by decide) (kp_c hkb.z hkp.z g6)) d_M_divide_115 ?_
      refine fg_topl (y := mL M1 16 j4 30075) (congrArg _ (by decide)) ?_
      obtain ⟨g7, h⟩ := gd_ob h
      obtain ⟨M8, eM8, h⟩ := st_ob h
      refine me_last (eM8.trans (by rw [show (30077 : Int32).toNatClampNeg = 30077 by decide])) hx hb hK hP hD hwf hS hj4 (me_in (i := (30077 : Int32)) (k := 30077) (by decide) (by decide) (kp_c hkb.z hkp.z g7)) d_M_divide_116 (fun H locs hP hD hwf hS => ?_)
      have hkp := kp_L eM8 hkp
      exact me_retv (me_kp M0) h hx hb hr hlocks hwf hkp hP hK hD hS d_M_divide_117
    have h := if_f c3 h
    refine lv_aload_n hx hb d_M_divide_44 rfl (lv_at hl 0 rfl) ?_
    refine g_M_54 hx hb hts hown hK hP hwf hj0 (hts _ u_1795) d_M_divide_45 ?_
    obtain ⟨j9, e10, h⟩ := bd_ob h
    have hj9 : j9 < N 16 := (hwf.2.1 1 j0 54 _ (kp_r hkb hkp e10) (by decide) hj0)
    refine me_opt (j := j9) (kp_r hkb hkp e10) ?_
    refine lv_sipush (v := 30077) hx hb d_M_divide_48 (by decide) ?_
    refine lv_aload_n hx hb d_M_divide_51 rfl (lv_at hl 0 rfl) ?_
    refine g_M_54 hx hb hts hown hK hP hwf hj0 (hts _ u_1795) d_M_divide_52 ?_
    refine me_opt (j := j9) (kp_r hkb hkp e10) ?_
    refine lv_sipush (v := 30075) hx hb d_M_divide_55 (by decide) ?_
    obtain ⟨g11, h⟩ := gd_ob h
    refine me_lald hx hb hK hP hwf hj9 (me_in (i := (30075 : Int32)) (k := 30075) (by decide) (by decide) (kp_c hkb.z hkp.z g11)) d_M_divide_58 ?_
    refine fg_topl (y := mL M1 16 j9 30075) (congrArg _ (by decide)) ?_
    refine lv_aload_n hx hb d_M_divide_59 rfl (lv_at hl 0 rfl) ?_
    refine g_M_52 hx hb hts hown hK hP hwf hj0 (hts _ u_1793) d_M_divide_60 ?_
    obtain ⟨j12, e13, h⟩ := bd_ob h
    have hj12 : j12 < N 16 := (hwf.2.1 1 j0 52 _ (kp_r hkb hkp e13) (by decide) hj0)
    refine me_opt (j := j12) (kp_r hkb hkp e13) ?_
    refine lv_sipush (v := 30076) hx hb d_M_divide_63 (by decide) ?_
    obtain ⟨g14, h⟩ := gd_ob h
    refine me_lald hx hb hK hP hwf hj12 (me_in (i := (30076 : Int32)) (k := 30076) (by decide) (by decide) (kp_c hkb.z hkp.z g14)) d_M_divide_66 ?_
    refine fg_topl (y := mL M1 16 j12 30076) (congrArg _ (by decide)) ?_
    obtain ⟨r15, er15, h⟩ := bd_ob h
    refine me_panl' (r0 := r15) (fg_runS (wc := []) (tc := []) (A2 := A) (As := [.long (mL M1 16 j9 30075), .long (mL M1 16 j12 30076)]) (rest := [.int 30077, .ref (ad 16 j9)]) ⟨hx, hb, hml, hown, hts⟩ (c_M_quotient l D r15 (mL M1 16 j9 30075) (mL M1 16 j12 30076) er15 _) (by show fg_nm y_M_quotient 2; decide +kernel) u_2348 u_2349 u_192 u_2350 ⟨Nat.le_of_ble_eq_true rfl, Nat.le_of_ble_eq_true rfl⟩ hX me_P0 (hK.sub (tys' := []) [] rfl) me_D0 rfl hl.1 (Nat.le_of_ble_eq_true rfl) d_M_divide_67 ⟨Nat.le_of_ble_eq_true rfl, Nat.le_of_ble_eq_true rfl⟩) hP hD hK hS hA rfl rfl (fun H locs hw hP hD hS => ?_)
    obtain ⟨g16, h⟩ := gd_ob h
    obtain ⟨M17, eM17, h⟩ := st_ob h
    refine me_last (eM17.trans (by rw [show (30077 : Int32).toNatClampNeg = 30077 by decide])) hx hb hK hP hD hwf hS hj9 (me_in (i := (30077 : Int32)) (k := 30077) (by decide) (by decide) (kp_c hkb.z hkp.z g16)) d_M_divide_70 (fun H locs hP hD hwf hS => ?_)
    have hkp := kp_L eM17 hkp
    refine lv_aload_n hx hb d_M_divide_71 rfl (lv_at hl 0 rfl) ?_
    refine g_M_55 hx hb hts hown hK hP hwf hj0 (hts _ u_1796) d_M_divide_72 ?_
    obtain ⟨j18, e19, h⟩ := bd_ob h
    have hj18 : j18 < N 16 := (hwf.2.1 1 j0 55 _ (kp_r hkb hkp e19) (by decide) hj0)
    refine me_opt (j := j18) (kp_r hkb hkp e19) ?_
    refine lv_sipush (v := 30077) hx hb d_M_divide_75 (by decide) ?_
    refine lv_aload_n hx hb d_M_divide_78 rfl (lv_at hl 0 rfl) ?_
    refine g_M_55 hx hb hts hown hK hP hwf hj0 (hts _ u_1796) d_M_divide_79 ?_
    refine me_opt (j := j18) (kp_r hkb hkp e19) ?_
    refine lv_sipush (v := 30075) hx hb d_M_divide_82 (by decide) ?_
    obtain ⟨g20, h⟩ := gd_ob h
    refine me_lald hx hb hK hP hwf hj18 (me_in (i := (30075 : Int32)) (k := 30075) (by decide) (by decide) (kp_c hkb.z hkp.z g20)) d_M_divide_85 ?_
    refine fg_topl (y := mL M17 16 j18 30075) (congrArg _ (by decide)) ?_
    refine lv_aload_n hx hb d_M_divide_86 rfl (lv_at hl 0 rfl) ?_
    refine g_M_52 hx hb hts hown hK hP hwf hj0 (hts _ u_1793) d_M_divide_87 ?_
    refine me_opt (j := j12) (kp_r hkb hkp e13) ?_
    refine lv_sipush (v := 30076) hx hb d_M_divide_90 (by decide) ?_
    refine me_lald hx hb hK hP hwf hj12 (me_in (i := (30076 : Int32)) (k := 30076) (by decide) (by decide) (kp_c hkb.z hkp.z g14)) d_M_divide_93 ?_
    refine fg_topl (y := mL M17 16 j12 30076) (congrArg _ (by decide)) ?_
    obtain ⟨r21, er21, h⟩ := bd_ob h
    refine me_panl' (r0 := r21) (fg_runS (wc := []) (tc := []) (A2 := A) (As := [.long (mL M17 16 j18 30075), .long (mL M17 16 j12 30076)]) (rest := [.int 30077, .ref (ad 16 j18)]) ⟨hx, hb, hml, hown, hts⟩ (c_M_quotient l D r21 (mL M17 16 j18 30075) (mL M17 16 j12 30076) er21 _) (by show fg_nm y_M_quotient 2; decide +kernel) u_2348 u_2349 u_192 u_2350 ⟨Nat.le_of_ble_eq_true rfl, Nat.le_of_ble_eq_true rfl⟩ hX me_P0 (hK.sub (tys' := []) [] rfl) me_D0 rfl hl.1 (Nat.le_of_ble_eq_true rfl) d_M_divide_94 ⟨Nat.le_of_ble_eq_true rfl, Nat.le_of_ble_eq_true rfl⟩) hP hD hK hS hA rfl rfl (fun H locs hw hP hD hS => ?_)
    obtain ⟨g22, h⟩ := gd_ob h
    obtain ⟨M23, eM23, h⟩ := st_ob h
    refine me_last (eM23.trans (by rw [show (30077 : Int32).toNatClampNeg = 30077 by decide])) hx hb hK hP hD hwf hS hj18 (me_in (i := (30077 : Int32)) (k := 30077) (by decide) (by decide) (kp_c hkb.z hkp.z g22)) d_M_divide_97 (fun H locs hP hD hwf hS => ?_)
    have hkp := kp_L eM23 hkp
    refine lv_goto (tgt := 117) hx hb d_M_divide_98 (by decide) ?_
    exact me_retv (me_kp M0) h hx hb hr hlocks hwf hkp hP hK hD hS d_M_divide_117
  refine lv_aload_n hx hb d_M_divide_0 rfl (lv_at hl 0 rfl) ?_
  refine lv_sipush (v := 30076) hx hb d_M_divide_1 (by decide) ?_
  obtain ⟨M24, r25, eM24, h⟩ := b2_ob h
  refine me_theni0 (M1 := M24) (me_runV (C := "FilterGuardModel") (As := [.int 30076]) (rest := []) ⟨hx, hb, hml, hown, hts⟩ (c_M_isExact l D ad ca N M0 M24 r25 j0 (30076 : Int32) eM24 hwf hj0 _) rfl (by show fg_nm y_M_isExact 1; decide +kernel) u_2251 u_2253 u_136 u_192 u_2254 ⟨Nat.le_of_ble_eq_true rfl, Nat.le_of_ble_eq_true rfl⟩ hX hz hK hP hD hwf hS hA hj0 (by decide) rfl rfl rfl hl.1 (Nat.le_of_ble_eq_true rfl) d_M_divide_4 ⟨Nat.le_of_ble_eq_true rfl, Nat.le_of_ble_eq_true rfl⟩) hP hD hK hS hA rfl rfl (fun H locs hw hP hD hS => ?_)
  obtain ⟨hwf, hk9, zr25⟩ := hw
  have hkp := hkp.tr hk9
  refine lv_if_eq (tgt := 34) hx hb d_M_divide_7 (by decide) (fun c26 => ?_) (fun c26 => ?_)
  · have h := if_t c26 h
    exact b_34 M24 _ _ _ h hwf hkp hP hD hS (lv_sub hl [0] rfl)
  have h := if_f c26 h
  refine lv_aload_n hx hb d_M_divide_10 rfl (lv_at hl 0 rfl) ?_
  refine g_M_52 hx hb hts hown hK hP hwf hj0 (hts _ u_1793) d_M_divide_11 ?_
  obtain ⟨j27, e28, h⟩ := bd_ob h
  have hj27 : j27 < N 16 := (hwf.2.1 1 j0 52 _ (kp_r hkb hkp e28) (by decide) hj0)
  refine me_opt (j := j27) (kp_r hkb hkp e28) ?_
  refine lv_sipush (v := 30076) hx hb d_M_divide_14 (by decide) ?_
  obtain ⟨g29, h⟩ := gd_ob h
  refine me_lald hx hb hK hP hwf hj27 (me_in (i := (30076 : Int32)) (k := 30076) (by decide) (by decide) (kp_c hkb.z hkp.z g29)) d_M_divide_17 ?_
  refine fg_topl (y := mL M24 16 j27 30076) (congrArg _ (by decide)) ?_
  refine lv_lconst (v := 0) hx hb d_M_divide_18 (by decide) ?_
  refine W.lcmp hx hb d_M_divide_19 ?_
  refine lv_if_ne (tgt := 34) hx hb d_M_divide_20 (by decide) (fun c30 => ?_) (fun c30 => ?_)
  · have h := if_f (fun z => c30 ((lg_cmp_eq _ _).mpr z)) h
    exact b_34 M24 _ _ _ h hwf hkp hP hD hS (lv_sub hl [0] rfl)
  have h := if_t ((lg_cmp_eq _ _).mp c30) h
  refine lv_aload_n hx hb d_M_divide_23 rfl (lv_at hl 0 rfl) ?_
  refine lv_sipush (v := 30077) hx hb d_M_divide_24 (by decide) ?_
  refine lv_lconst (v := 0) hx hb d_M_divide_27 (by decide) ?_
  obtain ⟨M31, eM31, h⟩ := bd_ob h
  refine me_thenv0 (M1 := M31) (me_runV (C := "FilterGuardModel") (As := [.int 30077, .long 0]) (rest := []) ⟨hx, hb, hml, hown, hts⟩ (c_M_setExact l D ad ca N M24 M31 j0 (30077 : Int32) (0 : Int64) eM31 hwf hj0 _) rfl (by show fg_nm y_M_setExact 2; decide +kernel) u_2108 u_2110 u_106 u_192 u_2111 ⟨Nat.le_of_ble_eq_true rfl, Nat.le_of_ble_eq_true rfl⟩ hX hz hK hP hD hwf hS hA hj0 (by decide) rfl rfl rfl hl.1 (Nat.le_of_ble_eq_true rfl) d_M_divide_28 ⟨Nat.le_of_ble_eq_true rfl, Nat.le_of_ble_eq_true rfl⟩) hP hD hK hS hA rfl rfl (fun H locs hw hP hD hS => ?_)
  obtain ⟨hwf, hk9⟩ := hw
  have hkp := hkp.tr hk9
  refine lv_goto (tgt := 117) hx hb d_M_divide_31 (by decide) ?_
  exact me_retv (me_kp M0) h hx hb hr hlocks hwf hkp hP hK hD hS d_M_divide_117
