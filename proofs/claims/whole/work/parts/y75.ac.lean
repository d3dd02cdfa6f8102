theorem d_M_byBits_0 : decode prog_14_method_13_code 0 = .ok (.aload_n 0, 1) := by decide +kernel
theorem d_M_byBits_1 : decode prog_14_method_13_code 1 = .ok (.getfield 110, 3) := by decide +kernel
theorem d_M_byBits_4 : decode prog_14_method_13_code 4 = .ok (.iload_n 1, 1) := by decide +kernel
theorem d_M_byBits_5 : decode prog_14_method_13_code 5 = .ok (.aload_n 0, 1) := by decide +kernel
theorem d_M_byBits_6 : decode prog_14_method_13_code 6 = .ok (.getfield 110, 3) := by decide +kernel
theorem d_M_byBits_9 : decode prog_14_method_13_code 9 = .ok (.iload_n 1, 1) := by decide +kernel
theorem d_M_byBits_10 : decode prog_14_method_13_code 10 = .ok (.laload, 1) := by decide +kernel
theorem d_M_byBits_11 : decode prog_14_method_13_code 11 = .ok (.aload_n 0, 1) := by decide +kernel
theorem d_M_byBits_12 : decode prog_14_method_13_code 12 = .ok (.getfield 104, 3) := by decide +kernel
theorem d_M_byBits_15 : decode prog_14_method_13_code 15 = .ok (.iload_n 1, 1) := by decide +kernel
theorem d_M_byBits_16 : decode prog_14_method_13_code 16 = .ok (.laload, 1) := by decide +kernel
theorem d_M_byBits_17 : decode prog_14_method_13_code 17 = .ok (.invokestatic 166, 3) := by decide +kernel
theorem u_2151 : Cond.methodLink "FilterGuardModel" 166 ⟨"FilterGuardModel", "greater", "(JJ)J"⟩ ∈ fg_g := fg_in (List.mem_of_getElem? (i := 2151) (by decide +kernel)) rfl
theorem u_2153 : Cond.code ⟨"FilterGuardModel", "greater", "(JJ)J"⟩ prog_14_method_6_code 4 (some .long) ∈ fg_g := fg_in (List.mem_of_getElem? (i := 2153) (by decide +kernel)) rfl
theorem u_2152 : Cond.static ⟨"FilterGuardModel", "greater", "(JJ)J"⟩ ∈ fg_g := fg_in (List.mem_of_getElem? (i := 2152) (by decide +kernel)) rfl
theorem d_M_byBits_20 : decode prog_14_method_13_code 20 = .ok (.lastore, 1) := by decide +kernel
theorem d_M_byBits_21 : decode prog_14_method_13_code 21 = .ok (.aload_n 0, 1) := by decide +kernel
theorem d_M_byBits_22 : decode prog_14_method_13_code 22 = .ok (.getfield 113, 3) := by decide +kernel
theorem d_M_byBits_25 : decode prog_14_method_13_code 25 = .ok (.iload_n 1, 1) := by decide +kernel
theorem d_M_byBits_26 : decode prog_14_method_13_code 26 = .ok (.aload_n 0, 1) := by decide +kernel
theorem d_M_byBits_27 : decode prog_14_method_13_code 27 = .ok (.getfield 113, 3) := by decide +kernel
theorem d_M_byBits_30 : decode prog_14_method_13_code 30 = .ok (.iload_n 1, 1) := by decide +kernel
theorem d_M_byBits_31 : decode prog_14_method_13_code 31 = .ok (.laload, 1) := by decide +kernel
theorem d_M_byBits_32 : decode prog_14_method_13_code 32 = .ok (.aload_n 0, 1) := by decide +kernel
theorem d_M_byBits_33 : decode prog_14_method_13_code 33 = .ok (.getfield 104, 3) := by decide +kernel
theorem d_M_byBits_36 : decode prog_14_method_13_code 36 = .ok (.iload_n 1, 1) := by decide +kernel
theorem d_M_byBits_37 : decode prog_14_method_13_code 37 = .ok (.laload, 1) := by decide +kernel
theorem d_M_byBits_38 : decode prog_14_method_13_code 38 = .ok (.aload_n 0, 1) := by decide +kernel
theorem d_M_byBits_39 : decode prog_14_method_13_code 39 = .ok (.getfield 107, 3) := by decide +kernel
theorem d_M_byBits_42 : decode prog_14_method_13_code 42 = .ok (.iload_n 1, 1) := by decide +kernel
theorem d_M_byBits_43 : decode prog_14_method_13_code 43 = .ok (.laload, 1) := by decide +kernel
theorem d_M_byBits_44 : decode prog_14_method_13_code 44 = .ok (.lor, 1) := by decide +kernel
theorem d_M_byBits_45 : decode prog_14_method_13_code 45 = .ok (.invokestatic 170, 3) := by decide +kernel
theorem u_2154 : Cond.methodLink "FilterGuardModel" 170 ⟨"FilterGuardModel", "lesser", "(JJ)J"⟩ ∈ fg_g := fg_in (List.mem_of_getElem? (i := 2154) (by decide +kernel)) rfl
theorem u_2156 : Cond.code ⟨"FilterGuardModel", "lesser", "(JJ)J"⟩ prog_14_method_5_code 4 (some .long) ∈ fg_g := fg_in (List.mem_of_getElem? (i := 2156) (by decide +kernel)) rfl
theorem u_2155 : Cond.static ⟨"FilterGuardModel", "lesser", "(JJ)J"⟩ ∈ fg_g := fg_in (List.mem_of_getElem? (i := 2155) (by decide +kernel)) rfl
theorem d_M_byBits_48 : decode prog_14_method_13_code 48 = .ok (.lastore, 1) := by decide +kernel
theorem d_M_byBits_49 : decode prog_14_method_13_code 49 = .ok (.aload_n 0, 1) := by decide +kernel
theorem d_M_byBits_50 : decode prog_14_method_13_code 50 = .ok (.iload_n 1, 1) := by decide +kernel
theorem d_M_byBits_51 : decode prog_14_method_13_code 51 = .ok (.invokevirtual 173, 3) := by decide +kernel
theorem u_2157 : Cond.methodLink "FilterGuardModel" 173 ⟨"FilterGuardModel", "isEmpty", "(I)Z"⟩ ∈ fg_g := fg_in (List.mem_of_getElem? (i := 2157) (by decide +kernel)) rfl
theorem u_2160 : Cond.code ⟨"FilterGuardModel", "isEmpty", "(I)Z"⟩ prog_14_method_11_code 2 (some .boolean) ∈ fg_g := fg_in (List.mem_of_getElem? (i := 2160) (by decide +kernel)) rfl
theorem u_2159 : Cond.instanceMethod ⟨"FilterGuardModel", "isEmpty", "(I)Z"⟩ ∈ fg_g := fg_in (List.mem_of_getElem? (i := 2159) (by decide +kernel)) rfl
theorem u_115 : Cond.selects "FilterGuardModel" ⟨"FilterGuardModel", "isEmpty", "(I)Z"⟩ ⟨"FilterGuardModel", "isEmpty", "(I)Z"⟩ ∈ fg_g := fg_in (List.mem_of_getElem? (i := 115) (by decide +kernel)) rfl
theorem d_M_byBits_54 : decode prog_14_method_13_code 54 = .ok (.ifCond .ne 7, 3) := by decide +kernel
theorem d_M_byBits_61 : decode prog_14_method_13_code 61 = .ok (.iconst 0, 1) := by decide +kernel
theorem d_M_byBits_62 : decode prog_14_method_13_code 62 = .ok (.ireturn, 1) := by decide +kernel
theorem d_M_byBits_57 : decode prog_14_method_13_code 57 = .ok (.iconst 1, 1) := by decide +kernel
theorem d_M_byBits_58 : decode prog_14_method_13_code 58 = .ok (.goto 4, 3) := by decide +kernel
abbrev y_M_byBits : MethodName := ⟨"FilterGuardModel", "byBits", "(I)Z"⟩
def rm_M_byBits : Room := { frames := 3, cells := 0, slots := 0, locals := 66 }
abbrev q_M_byBits (D : va_G) (ad : Nat → Nat → Nat) (ca : Nat → ClassId) (N : Nat → Nat) (M0 MZ : me_M) (RZ : Int32) (A : Nat → Prop) : Array Value → Jvm.State → Outcome → Jvm.State → Prop := va_Qi (fun r (_ : Unit) => r = RZ ∧ me_wf N MZ ∧ me_kp M0 MZ ∧ (RZ = 1 ∨ RZ = 0)) (fg_B D A (fun _ => me_W ad ca MZ) (fun _ => [])) A
set_option maxHeartbeats 4000000 in
set_option maxRecDepth 100000 in
theorem c_M_byBits (l : Launch) (D : va_G) (ad : Nat → Nat → Nat) (ca : Nat → ClassId) (N : Nat → Nat) (M0 MZ : me_M) (RZ : Int32) (j0 : Nat) (x1 : Int32) (h : f_M_byBits M0 j0 x1 = (some (MZ, RZ))) (hwf : me_wf N M0) (hj0 : j0 < N 1) (sz : Nat) : Met l y_M_byBits (fg_w y_M_byBits prog_14_method_13_code 2 (some .boolean)) rm_M_byBits (va_Pc [.ref (ad 1 j0), .int x1] (fz_P D (me_T ca) (me_W ad ca M0) sz)) (q_M_byBits D ad ca N M0 MZ RZ (va_A (me_W ad ca M0) sz)) rm_M_byBits.cells rm_M_byBits.slots (va_A (me_W ad ca M0) sz) := by
  refine fz_enter (fun A => q_M_byBits D ad ca N M0 MZ RZ A) (by decide +kernel) (Nat.le_of_ble_eq_true rfl) ?_
  intro p e s m below meth c ls A hx hb hml hown hts hr hlocks hin hP hK hD hS hA hX hl hz
  have hl : lv_has ls 2 [(0, .ref (ad 1 j0)), (1, .int x1)] := hl
  unfold f_M_byBits at h
  have hkp : me_kp M0 M0 := me_kp.rf
  have hkb := hkp
  refine lv_aload_n hx hb d_M_byBits_0 rfl (lv_at hl 0 rfl) ?_
  refine g_M_54 hx hb hts hown hK hP hwf hj0 (hts _ u_1795) d_M_byBits_1 ?_
  obtain ⟨j1, e2, h⟩ := bd_ob h
  have hj1 : j1 < N 16 := (hwf.2.1 1 j0 54 _ e2 (by decide) hj0)
  refine me_opt (j := j1) e2 ?_
  refine lv_iload_n hx hb d_M_byBits_4 rfl (lv_at hl 1 rfl) ?_
  refine lv_aload_n hx hb d_M_byBits_5 rfl (lv_at hl 0 rfl) ?_
  refine g_M_54 hx hb hts hown hK hP hwf hj0 (hts _ u_1795) d_M_byBits_6 ?_
  refine me_opt (j := j1) e2 ?_
  refine lv_iload_n hx hb d_M_byBits_9 rfl (lv_at hl 1 rfl) ?_
  obtain ⟨g3, h⟩ := gd_ob h
  refine me_lald hx hb hK hP hwf hj1 g3 d_M_byBits_10 ?_
  refine lv_aload_n hx hb d_M_byBits_11 rfl (lv_at hl 0 rfl) ?_
  refine g_M_52 hx hb hts hown hK hP hwf hj0 (hts _ u_1793) d_M_byBits_12 ?_
  obtain ⟨j4, e5, h⟩ := bd_ob h
  have hj4 : j4 < N 16 := (hwf.2.1 1 j0 52 _ e5 (by decide) hj0)
  refine me_opt (j := j4) e5 ?_
  refine lv_iload_n hx hb d_M_byBits_15 rfl (lv_at hl 1 rfl) ?_
  obtain ⟨g6, h⟩ := gd_ob h
  refine me_lald hx hb hK hP hwf hj4 g6 d_M_byBits_16 ?_
  obtain ⟨r7, er7, h⟩ := bd_ob h
  refine me_panl' (r0 := r7) (fg_runS (wc := []) (tc := []) (A2 := A) (As := [.long (mL M0 16 j1 x1.toNatClampNeg), .long (mL M0 16 j4 x1.toNatClampNeg)]) (rest := [.int x1, .ref (ad 16 j1)]) ⟨hx, hb, hml, hown, hts⟩ (c_M_greater l D r7 (mL M0 16 j1 x1.toNatClampNeg) (mL M0 16 j4 x1.toNatClampNeg) er7 _) (by show fg_nm y_M_greater 2; decide +kernel) u_2151 u_2152 u_192 u_2153 ⟨Nat.le_of_ble_eq_true rfl, Nat.le_of_ble_eq_true rfl⟩ hX me_P0 (hK.sub (tys' := []) [] rfl) me_D0 rfl hl.1 (Nat.le_of_ble_eq_true rfl) d_M_byBits_17 ⟨Nat.le_of_ble_eq_true rfl, Nat.le_of_ble_eq_true rfl⟩) hP hD hK hS hA rfl rfl (fun H locs hw hP hD hS => ?_)
  obtain ⟨M8, eM8, h⟩ := st_ob h
  refine me_last eM8 hx hb hK hP hD hwf hS hj1 g3 d_M_byBits_20 (fun H locs hP hD hwf hS => ?_)
  have hkp := kp_L eM8 hkp
  refine lv_aload_n hx hb d_M_byBits_21 rfl (lv_at hl 0 rfl) ?_
  refine g_M_55 hx hb hts hown hK hP hwf hj0 (hts _ u_1796) d_M_byBits_22 ?_
  obtain ⟨j9, e10, h⟩ := bd_ob h
  have hj9 : j9 < N 16 := (hwf.2.1 1 j0 55 _ (kp_r hkb hkp e10) (by decide) hj0)
  refine me_opt (j := j9) (kp_r hkb hkp e10) ?_
  refine lv_iload_n hx hb d_M_byBits_25 rfl (lv_at hl 1 rfl) ?_
  refine lv_aload_n hx hb d_M_byBits_26 rfl (lv_at hl 0 rfl) ?_
  refine g_M_55 hx hb hts hown hK hP hwf hj0 (hts _ u_1796) d_M_byBits_27 ?_
  refine me_opt (j := j9) (kp_r hkb hkp e10) ?_
  refine lv_iload_n hx hb d_M_byBits_30 rfl (lv_at hl 1 rfl) ?_
  obtain ⟨g11, h⟩ := gd_ob h
  refine me_lald hx hb hK hP hwf hj9 (kp_z hkb.z hkp.z g11) d_M_byBits_31 ?_
  refine lv_aload_n hx hb d_M_byBits_32 rfl (lv_at hl 0 rfl) ?_
  refine g_M_52 hx hb hts hown hK hP hwf hj0 (hts _ u_1793) d_M_byBits_33 ?_
  refine me_opt (j := j4) (kp_r hkb hkp e5) ?_
  refine lv_iload_n hx hb d_M_byBits_36 rfl (lv_at hl 1 rfl) ?_
  refine me_lald hx hb hK hP hwf hj4 (kp_z hkb.z hkp.z g6) d_M_byBits_37 ?_
  refine lv_aload_n hx hb d_M_byBits_38 rfl (lv_at hl 0 rfl) ?_
  refine g_M_53 hx hb hts hown hK hP hwf hj0 (hts _ u_1794) d_M_byBits_39 ?_
  obtain ⟨j12, e13, h⟩ := bd_ob h
  have hj12 : j12 < N 16 := (hwf.2.1 1 j0 53 _ (kp_r hkb hkp e13) (by decide) hj0)
  refine me_opt (j := j12) (kp_r hkb hkp e13) ?_
  refine lv_iload_n hx hb d_M_byBits_42 rfl (lv_at hl 1 rfl) ?_
  obtain ⟨g14, h⟩ := gd_ob h
  refine me_lald hx hb hK hP hwf hj12 (kp_z hkb.z hkp.z g14) d_M_byBits_43 ?_
  refine lv_lor hx hb d_M_byBits_44 ?_
  obtain ⟨r15, er15, h⟩ := bd_ob h
  refine me_panl' (r0 := r15) (fg_runS (wc := []) (tc := []) (A2 := A) (As := [.long (mL M8 16 j9 x1.toNatClampNeg), .long ((mL M8 16 j4 x1.toNatClampNeg) ||| (mL M8 16 j12 x1.toNatClampNeg))]) (rest := [.int x1, .ref (ad 16 j9)]) ⟨hx, hb, hml, hown, hts⟩ (c_M_lesser l D r15 (mL M8 16 j9 x1.toNatClampNeg) ((mL M8 16 j4 x1.toNatClampNeg) ||| (mL M8 16 j12 x1.toNatClampNeg)) er15 _) (by show fg_nm y_M_lesser 2; decide +kernel) u_2154 u_2155 u_192 u_2156 ⟨Nat.le_of_ble_eq_true rfl, Nat.le_of_ble_eq_true rfl⟩ hX me_P0 (hK.sub (tys' := []) [] rfl) me_D0 rfl hl.1 (Nat.le_of_ble_eq_true rfl) d_M_byBits_45 ⟨Nat.le_of_ble_eq_true rfl, Nat.le_of_ble_eq_true rfl⟩) hP hD hK hS hA rfl rfl (fun H locs hw hP hD hS => ?_)
  obtain ⟨M16, eM16, h⟩ := st_ob h
  refine me_last eM16 hx hb hK hP hD hwf hS hj9 (kp_z hkb.z hkp.z g11) d_M_byBits_48 (fun H locs hP hD hwf hS => ?_)
  have hkp := kp_L eM16 hkp
  refine lv_aload_n hx hb d_M_byBits_49 rfl (lv_at hl 0 rfl) ?_
  refine lv_iload_n hx hb d_M_byBits_50 rfl (lv_at hl 1 rfl) ?_
  obtain ⟨M17, r18, eM17, h⟩ := b2_ob h
  refine me_theni0 (M1 := M17) (me_runV (C := "FilterGuardModel") (As := [.int x1]) (rest := []) ⟨hx, hb, hml, hown, hts⟩ (c_M_isEmpty l D ad ca N M16 M17 r18 j0 x1 eM17 hwf hj0 _) rfl (by show fg_nm y_M_isEmpty 1; decide +kernel) u_2157 u_2159 u_115 u_192 u_2160 ⟨Nat.le_of_ble_eq_true rfl, Nat.le_of_ble_eq_true rfl⟩ hX hz hK hP hD hwf hS hA hj0 (by decide) rfl rfl rfl hl.1 (Nat.le_of_ble_eq_true rfl) d_M_byBits_51 ⟨Nat.le_of_ble_eq_true rfl, Nat.le_of_ble_eq_true rfl⟩) hP hD hK hS hA rfl rfl (fun H locs hw hP hD hS => ?_)
  obtain ⟨hwf, hk9, zr18⟩ := hw
  have hkp := hkp.tr hk9
  refine lv_if_ne (tgt := 61) hx hb d_M_byBits_54 (by decide) (fun c19 => ?_) (fun c19 => ?_)
  · have h := if_f c19 h
    refine lv_iconst (v := 0) hx hb d_M_byBits_61 (by decide) ?_
    exact me_retz (me_kp M0) h (by decide) hx hb hr hlocks hwf hkp hP hK hD hS d_M_byBits_62
  have h := if_t c19 h
  refine lv_iconst (v := 1) hx hb d_M_byBits_57 (by decide) ?_
  refine lv_goto (tgt := 62) hx hb d_M_byBits_58 (by decide) ?_
  exact me_retz (me_kp M0) h (by decide) hx hb hr hlocks hwf hkp hP hK hD hS d_M_byBits_62
theorem d_M_toSigned_71 : decode prog_14_method_14_code 71 = .ok (.lastore, 1) := by decide +kernel
theorem d_M_toSigned_72 : decode prog_14_method_14_code 72 = .ok (.aload_n 0, 1) := by decide +kernel
theorem d_M_toSigned_73 : decode prog_14_method_14_code 73 = .ok (.getfield 119, 3) := by decide +kernel
theorem d_M_toSigned_76 : decode prog_14_method_14_code 76 = .ok (.iload_n 1, 1) := by decide +kernel
theorem d_M_toSigned_77 : decode prog_14_method_14_code 77 = .ok (.aload_n 0, 1) := by decide +kernel
theorem d_M_toSigned_78 : decode prog_14_method_14_code 78 = .ok (.getfield 119, 3) := by decide +kernel
theorem d_M_toSigned_81 : decode prog_14_method_14_code 81 = .ok (.iload_n 1, 1) := by decide +kernel
theorem d_M_toSigned_82 : decode prog_14_method_14_code 82 = .ok (.laload, 1) := by decide +kernel
theorem d_M_toSigned_83 : decode prog_14_method_14_code 83 = .ok (.aload_n 0, 1) := by decide +kernel
theorem d_M_toSigned_84 : decode prog_14_method_14_code 84 = .ok (.getfield 113, 3) := by decide +kernel
theorem d_M_toSigned_87 : decode prog_14_method_14_code 87 = .ok (.iload_n 1, 1) := by decide +kernel
theorem d_M_toSigned_88 : decode prog_14_method_14_code 88 = .ok (.laload, 1) := by decide +kernel
theorem d_M_toSigned_89 : decode prog_14_method_14_code 89 = .ok (.lcmp, 1) := by decide +kernel
theorem d_M_toSigned_90 : decode prog_14_method_14_code 90 = .ok (.ifCond .ge 12, 3) := by decide +kernel
theorem d_M_toSigned_102 : decode prog_14_method_14_code 102 = .ok (.aload_n 0, 1) := by decide +kernel
theorem d_M_toSigned_103 : decode prog_14_method_14_code 103 = .ok (.getfield 113, 3) := by decide +kernel
theorem d_M_toSigned_106 : decode prog_14_method_14_code 106 = .ok (.iload_n 1, 1) := by decide +kernel
theorem d_M_toSigned_107 : decode prog_14_method_14_code 107 = .ok (.laload, 1) := by decide +kernel
theorem d_M_toSigned_108 : decode prog_14_method_14_code 108 = .ok (.lastore, 1) := by decide +kernel
theorem d_M_toSigned_109 : decode prog_14_method_14_code 109 = .ok (.aload_n 0, 1) := by decide +kernel
theorem d_M_toSigned_110 : decode prog_14_method_14_code 110 = .ok (.iload_n 1, 1) := by decide +kernel
theorem d_M_toSigned_111 : decode prog_14_method_14_code 111 = .ok (.invokevirtual 173, 3) := by decide +kernel
theorem d_M_toSigned_114 : decode prog_14_method_14_code 114 = .ok (.ifCond .ne 7, 3) := by decide +kernel
theorem d_M_toSigned_121 : decode prog_14_method_14_code 121 = .ok (.iconst 0, 1) := by decide +kernel
theorem d_M_toSigned_122 : decode prog_14_method_14_code 122 = .ok (.ireturn, 1) := by decide +kernel
theorem d_M_toSigned_117 : decode prog_14_method_14_code 117 = .ok (.iconst 1, 1) := by decide +kernel
theorem d_M_toSigned_118 : decode prog_14_method_14_code 118 = .ok (.goto 4, 3) := by decide +kernel
theorem d_M_toSigned_93 : decode prog_14_method_14_code 93 = .ok (.aload_n 0, 1) := by decide +kernel
theorem d_M_toSigned_94 : decode prog_14_method_14_code 94 = .ok (.getfield 119, 3) := by decide +kernel
theorem d_M_toSigned_97 : decode prog_14_method_14_code 97 = .ok (.iload_n 1, 1) := by decide +kernel
theorem d_M_toSigned_98 : decode prog_14_method_14_code 98 = .ok (.laload, 1) := by decide +kernel
theorem d_M_toSigned_99 : decode prog_14_method_14_code 99 = .ok (.goto 9, 3) := by decide +kernel
theorem d_M_toSigned_32 : decode prog_14_method_14_code 32 = .ok (.if_icmp .ne 77, 3) := by decide +kernel
theorem d_M_toSigned_35 : decode prog_14_method_14_code 35 = .ok (.aload_n 0, 1) := by decide +kernel
theorem d_M_toSigned_36 : decode prog_14_method_14_code 36 = .ok (.getfield 116, 3) := by decide +kernel
theorem d_M_toSigned_39 : decode prog_14_method_14_code 39 = .ok (.iload_n 1, 1) := by decide +kernel
theorem d_M_toSigned_40 : decode prog_14_method_14_code 40 = .ok (.aload_n 0, 1) := by decide +kernel
theorem d_M_toSigned_41 : decode prog_14_method_14_code 41 = .ok (.getfield 116, 3) := by decide +kernel
theorem d_M_toSigned_44 : decode prog_14_method_14_code 44 = .ok (.iload_n 1, 1) := by decide +kernel
theorem d_M_toSigned_45 : decode prog_14_method_14_code 45 = .ok (.laload, 1) := by decide +kernel
theorem d_M_toSigned_46 : decode prog_14_method_14_code 46 = .ok (.aload_n 0, 1) := by decide +kernel
theorem d_M_toSigned_47 : decode prog_14_method_14_code 47 = .ok (.getfield 110, 3) := by decide +kernel
theorem d_M_toSigned_50 : decode prog_14_method_14_code 50 = .ok (.iload_n 1, 1) := by decide +kernel
theorem d_M_toSigned_51 : decode prog_14_method_14_code 51 = .ok (.laload, 1) := by decide +kernel
theorem d_M_toSigned_52 : decode prog_14_method_14_code 52 = .ok (.lcmp, 1) := by decide +kernel
theorem d_M_toSigned_53 : decode prog_14_method_14_code 53 = .ok (.ifCond .le 12, 3) := by decide +kernel
theorem d_M_toSigned_65 : decode prog_14_method_14_code 65 = .ok (.aload_n 0, 1) := by decide +kernel
theorem d_M_toSigned_66 : decode prog_14_method_14_code 66 = .ok (.getfield 110, 3) := by decide +kernel
theorem d_M_toSigned_69 : decode prog_14_method_14_code 69 = .ok (.iload_n 1, 1) := by decide +kernel
theorem d_M_toSigned_70 : decode prog_14_method_14_code 70 = .ok (.laload, 1) := by decide +kernel
theorem d_M_toSigned_56 : decode prog_14_method_14_code 56 = .ok (.aload_n 0, 1) := by decide +kernel
theorem d_M_toSigned_57 : decode prog_14_method_14_code 57 = .ok (.getfield 116, 3) := by decide +kernel
theorem d_M_toSigned_60 : decode prog_14_method_14_code 60 = .ok (.iload_n 1, 1) := by decide +kernel
theorem d_M_toSigned_61 : decode prog_14_method_14_code 61 = .ok (.laload, 1) := by decide +kernel
theorem d_M_toSigned_62 : decode prog_14_method_14_code 62 = .ok (.goto 9, 3) := by decide +kernel
theorem d_M_toSigned_16 : decode prog_14_method_14_code 16 = .ok (.aload_n 0, 1) := by decide +kernel
theorem d_M_toSigned_17 : decode prog_14_method_14_code 17 = .ok (.getfield 113, 3) := by decide +kernel
theorem d_M_toSigned_20 : decode prog_14_method_14_code 20 = .ok (.iload_n 1, 1) := by decide +kernel
theorem d_M_toSigned_21 : decode prog_14_method_14_code 21 = .ok (.laload, 1) := by decide +kernel
theorem d_M_toSigned_22 : decode prog_14_method_14_code 22 = .ok (.lconst 0, 1) := by decide +kernel
theorem d_M_toSigned_23 : decode prog_14_method_14_code 23 = .ok (.lcmp, 1) := by decide +kernel
theorem d_M_toSigned_24 : decode prog_14_method_14_code 24 = .ok (.ifCond .ge 7, 3) := by decide +kernel
theorem d_M_toSigned_31 : decode prog_14_method_14_code 31 = .ok (.iconst 0, 1) := by decide +kernel
theorem d_M_toSigned_27 : decode prog_14_method_14_code 27 = .ok (.iconst 1, 1) := by decide +kernel
theorem d_M_toSigned_28 : decode prog_14_method_14_code 28 = .ok (.goto 4, 3) := by decide +kernel
theorem d_M_toSigned_0 : decode prog_14_method_14_code 0 = .ok (.aload_n 0, 1) := by decide +kernel
theorem d_M_toSigned_1 : decode prog_14_method_14_code 1 = .ok (.getfield 110, 3) := by decide +kernel
theorem d_M_toSigned_4 : decode prog_14_method_14_code 4 = .ok (.iload_n 1, 1) := by decide +kernel
theorem d_M_toSigned_5 : decode prog_14_method_14_code 5 = .ok (.laload, 1) := by decide +kernel
theorem d_M_toSigned_6 : decode prog_14_method_14_code 6 = .ok (.lconst 0, 1) := by decide +kernel
theorem d_M_toSigned_7 : decode prog_14_method_14_code 7 = .ok (.lcmp, 1) := by decide +kernel
theorem d_M_toSigned_8 : decode prog_14_method_14_code 8 = .ok (.ifCond .ge 7, 3) := by decide +kernel
theorem d_M_toSigned_15 : decode prog_14_method_14_code 15 = .ok (.iconst 0, 1) := by decide +kernel
theorem d_M_toSigned_11 : decode prog_14_method_14_code 11 = .ok (.iconst 1, 1) := by decide +kernel
theorem d_M_toSigned_12 : decode prog_14_method_14_code 12 = .ok (.goto 4, 3) := by decide +kernel
abbrev y_M_toSigned : MethodName := ⟨"FilterGuardModel", "toSigned", "(I)Z"⟩
def rm_M_toSigned : Room := { frames := 3, cells := 0, slots := 0, locals := 64 }
abbrev q_M_toSigned (D : va_G) (ad : Nat → Nat → Nat) (ca : Nat → ClassId) (N : Nat → Nat) (M0 MZ : me_M) (RZ : Int32) (A : Nat → Prop) : Array Value → Jvm.State → Outcome → Jvm.State → Prop := va_Qi (fun r (_ : Unit) => r = RZ ∧ me_wf N MZ ∧ me_kp M0 MZ ∧ (RZ = 1 ∨ RZ = 0)) (fg_B D A (fun _ => me_W ad ca MZ) (fun _ => [])) A
set_option maxHeartbeats 4000000 in
set_option maxRecDepth 100000 in
theorem c_M_toSigned (l : Launch) (D : va_G) (ad : Nat → Nat → Nat) (ca : Nat → ClassId) (N : Nat → Nat) (M0 MZ : me_M) (RZ : Int32) (j0 : Nat) (x1 : Int32) (h : f_M_toSigned M0 j0 x1 = (some (MZ, RZ))) (hwf : me_wf N M0) (hj0 : j0 < N 1) (sz : Nat) : Met l y_M_toSigned (fg_w y_M_toSigned prog_14_method_14_code 2 (some .boolean)) rm_M_toSigned (va_Pc [.ref (ad 1 j0), .int x1] (fz_P D (me_T ca) (me_W ad ca M0) sz)) (q_M_toSigned D ad ca N M0 MZ RZ (va_A (me_W ad ca M0) sz)) rm_M_toSigned.cells rm_M_toSigned.slots (va_A (me_W ad ca M0) sz) := by
  refine fz_enter (fun A => q_M_toSigned D ad ca N M0 MZ RZ A) (by decide +kernel) (Nat.le_of_ble_eq_true rfl) ?_
  intro p e s m below meth c ls A hx hb hml hown hts hr hlocks hin hP hK hD hS hA hX hl hz
  have hl : lv_has ls 2 [(0, .ref (ad 1 j0)), (1, .int x1)] := hl
  unfold f_M_toSigned at h
  have hkp : me_kp M0 M0 := me_kp.rf
  have hkb := hkp
  have b_71 : ∀ (M : me_M) (s0 : Int64) (s1 : Int32) (s2 : Nat) (H : Heap) (locs : List Loc) (ls : Array Slot), f_M_toSigned_b71 j0 x1 M s0 s1 s2 = (some (MZ, RZ)) → (s2 < N 16) → me_wf N M → me_kp M0 M → va_P D classes (me_W ad ca M) H → va_D A (me_W ad ca M) → va_S A s.heap H locs → lv_has ls 2 [(0, .ref (ad 1 j0)), (1, .int x1)] → W p l e rm_M_toSigned s m [.ref (ad 1 j0), .int x1].toArray below meth c H locs 0 0 (MQ below (q_M_toSigned D ad ca N M0 MZ RZ A) [.ref (ad 1 j0), .int x1].toArray s rm_M_toSigned.cells rm_M_toSigned.slots A) (F0 m 71 ls [.long s0, .int s1, .ref (ad 16 s2)]) := by
    intro M s0 s1 s2 H locs ls h hs2 hwf hkp hP hD hS hl
    unfold f_M_toSigned_b71 at h
    have hkb := hkp
    obtain ⟨g1, h⟩ := gd_ob h
    obtain ⟨M2, eM2, h⟩ := st_ob h
    refine me_last eM2 hx hb hK hP hD hwf hS hs2 g1 d_M_toSigned_71 (fun H locs hP hD hwf hS => ?_)
    have hkp := kp_L eM2 hkp
    refine lv_aload_n hx hb d_M_toSigned_72 rfl (lv_at hl 0 rfl) ?_
    refine g_M_57 hx hb hts hown hK hP hwf hj0 (hts _ u_1798) d_M_toSigned_73 ?_
    obtain ⟨j3, e4, h⟩ := bd_ob h
    have hj3 : j3 < N 16 := (hwf.2.1 1 j0 57 _ (kp_r hkb hkp e4) (by decide) hj0)
    refine me_opt (j := j3) (kp_r hkb hkp e4) ?_
    refine lv_iload_n hx hb d_M_toSigned_76 rfl (lv_at hl 1 rfl) ?_
    refine lv_aload_n hx hb d_M_toSigned_77 rfl (lv_at hl 0 rfl) ?_
    refine g_M_57 hx hb hts hown hK hP hwf hj0 (hts _ u_1798) d_M_toSigned_78 ?_
    refine me_opt (j := j3) (kp_r hkb hkp e4) ?_
    refine lv_iload_n hx hb d_M_toSigned_81 rfl (lv_at hl 1 rfl) ?_
    obtain ⟨g5, h⟩ := gd_ob h
    refine me_lald hx hb hK hP hwf hj3 (kp_z hkb.z hkp.z g5) d_M_toSigned_82 ?_
    refine lv_aload_n hx hb d_M_toSigned_83 rfl (lv_at hl 0 rfl) ?_
    refine g_M_55 hx hb hts hown hK hP hwf hj0 (hts _ u_1796) d_M_toSigned_84 ?_
    obtain ⟨j6, e7, h⟩ := bd_ob h
    have hj6 : j6 < N 16 := (hwf.2.1 1 j0 55 _ (kp_r hkb hkp e7) (by decide) hj0)
    refine me_opt (j := j6) (kp_r hkb hkp e7) ?_
    refine lv_iload_n hx hb d_M_toSigned_87 rfl (lv_at hl 1 rfl) ?_
    obtain ⟨g8, h⟩ := gd_ob h
    refine me_lald hx hb hK hP hwf hj6 (kp_z hkb.z hkp.z g8) d_M_toSigned_88 ?_
    refine W.lcmp hx hb d_M_toSigned_89 ?_
    refine lv_if_ge (tgt := 102) hx hb d_M_toSigned_90 (by decide) (fun c9 => ?_) (fun c9 => ?_)
    · have h := if_f (Int64.not_lt.mpr ((lg_cmp_ge _ _).mp c9)) h
      refine lv_aload_n hx hb d_M_toSigned_102 rfl (lv_at hl 0 rfl) ?_
      refine g_M_55 hx hb hts hown hK hP hwf hj0 (hts _ u_1796) d_M_toSigned_103 ?_
      refine me_opt (j := j6) (kp_r hkb hkp e7) ?_
      refine lv_iload_n hx hb d_M_toSigned_106 rfl (lv_at hl 1 rfl) ?_
      refine me_lald hx hb hK hP hwf hj6 (kp_z hkb.z hkp.z g8) d_M_toSigned_107 ?_
      obtain ⟨M10, eM10, h⟩ := st_ob h
      refine me_last eM10 hx hb hK hP hD hwf hS hj3 (kp_z hkb.z hkp.z g5) d_M_toSigned_108 (fun H locs hP hD hwf hS => ?_)
      have hkp := kp_L eM10 hkp
      refine lv_aload_n hx hb d_M_toSigned_109 rfl (lv_at hl 0 rfl) ?_
      refine lv_iload_n hx hb d_M_toSigned_110 rfl (lv_at hl 1 rfl) ?_
      obtain ⟨M11, r12, eM11, h⟩ := b2_ob h
      refine me_theni0 (M1 := M11) (me_runV (C := "FilterGuardModel") (As := [.int x1]) (rest := []) ⟨hx, hb, hml, hown, hts⟩ (c_M_isEmpty l D ad ca N M10 M11 r12 j0 x1 eM11 hwf hj0 _) rfl (by show fg_nm y_M_isEmpty 1; decide +kernel) u_2157 u_2159 u_115 u_192 u_2160 ⟨Nat.le_of_ble_eq_true rfl, Nat.le_of_ble_eq_true rfl⟩ hX hz hK hP hD hwf hS hA hj0 (by decide) rfl rfl rfl hl.1 (Nat.le_of_ble_eq_true rfl) d_M_toSigned_111 ⟨Nat.le_of_ble_eq_true rfl, Nat.le_of_ble_eq_true rfl⟩) hP hD hK hS hA rfl rfl (fun H locs hw hP hD hS => ?_)
      obtain ⟨hwf, hk9, zr12⟩ := hw
      have hkp := hkp.tr hk9
      refine lv_if_ne (tgt := 121) hx hb d_M_toSigned_114 (by decide) (fun c13 => ?_) (fun c13 => ?_)
      · have h := if_f c13 h
        refine lv_iconst (v := 0) hx hb d_M_toSigned_121 (by decide) ?_
        exact me_retz (me_kp M0) h (by decide) hx hb hr hlocks hwf hkp hP hK hD hS d_M_toSigned_122
      have h := if_t c13 h
      refine lv_iconst (v := 1) hx hb d_M_toSigned_117 (by decide) ?_
      refine lv_goto (tgt := 122) hx hb d_M_toSigned_118 (by decide) ?_
      exact me_retz (me_kp M0) h (by decide) hx hb hr hlocks hwf hkp hP hK hD hS d_M_toSigned_122
    have h := if_t (Int64.not_le.mp (fun z => c9 ((lg_cmp_ge _ _).mpr z))) h
    refine lv_aload_n hx hb d_M_toSigned_93 rfl (lv_at hl 0 rfl) ?_
    refine g_M_57 hx hb hts hown hK hP hwf hj0 (hts _ u_1798) d_M_toSigned_94 ?_
    refine me_opt (j := j3) (kp_r hkb hkp e4) ?_
    refine lv_iload_n hx hb d_M_toSigned_97 rfl (lv_at hl 1 rfl) ?_
    refine me_lald hx hb hK hP hwf hj3 (kp_z hkb.z hkp.z g5) d_M_toSigned_98 ?_
    refine lv_goto (tgt := 108) hx hb d_M_toSigned_99 (by decide) ?_
    obtain ⟨M14, eM14, h⟩ := st_ob h
    refine me_last eM14 hx hb hK hP hD hwf hS hj3 (kp_z hkb.z hkp.z g5) d_M_toSigned_108 (fun H locs hP hD hwf hS => ?_)
    have hkp := kp_L eM14 hkp
    refine lv_aload_n hx hb d_M_toSigned_109 rfl (lv_at hl 0 rfl) ?_
    refine lv_iload_n hx hb d_M_toSigned_110 rfl (lv_at hl 1 rfl) ?_
    obtain ⟨M15, r16, eM15, h⟩ := b2_ob h
    refine me_theni0 (M1 := M15) (me_runV (C := "FilterGuardModel") (As := [.int x1]) (rest := []) ⟨hx, hb, hml, hown, hts⟩ (c_M_isEmpty l D ad ca N M14 M15 r16 j0 x1 eM15 hwf hj0 _) rfl (by show fg_nm y_M_isEmpty 1; decide +kernel) u_2157 u_2159 u_115 u_192 u_2160 ⟨Nat.le_of_ble_eq_true rfl, Nat.le_of_ble_eq_true rfl⟩ hX hz hK hP hD hwf hS hA hj0 (by decide) rfl rfl rfl hl.1 (Nat.le_of_ble_eq_true rfl) d_M_toSigned_111 ⟨Nat.le_of_ble_eq_true rfl, Nat.le_of_ble_eq_true rfl⟩) hP hD hK hS hA rfl rfl (fun H locs hw hP hD hS => ?_)
    obtain ⟨hwf, hk9, zr16⟩ := hw
    have hkp := hkp.tr hk9
    refine lv_if_ne (tgt := 121) hx hb d_M_toSigned_114 (by decide) (fun c17 => ?_) (fun c17 => ?_)
    · have h := if_f c17 h
      refine lv_iconst (v := 0) hx hb d_M_toSigned_121 (by decide) ?_
      exact me_retz (me_kp M0) h (by decide) hx hb hr hlocks hwf hkp hP hK hD hS d_M_toSigned_122
    have h := if_t c17 h
    refine lv_iconst (v := 1) hx hb d_M_toSigned_117 (by decide) ?_
    refine lv_goto (tgt := 122) hx hb d_M_toSigned_118 (by decide) ?_
    exact me_retz (me_kp M0) h (by decide) hx hb hr hlocks hwf hkp hP hK hD hS d_M_toSigned_122
  have b_32 : ∀ (M : me_M) (s0 : Int32) (s1 : Int32) (H : Heap) (locs : List Loc) (ls : Array Slot), f_M_toSigned_b32 j0 x1 M s0 s1 = (some (MZ, RZ)) → (s0 = 1 ∨ s0 = 0) → (s1 = 1 ∨ s1 = 0) → me_wf N M → me_kp M0 M → va_P D classes (me_W ad ca M) H → va_D A (me_W ad ca M) → va_S A s.heap H locs → lv_has ls 2 [(0, .ref (ad 1 j0)), (1, .int x1)] → W p l e rm_M_toSigned s m [.ref (ad 1 j0), .int x1].toArray below meth c H locs 0 0 (MQ below (q_M_toSigned D ad ca N M0 MZ RZ A) [.ref (ad 1 j0), .int x1].toArray s rm_M_toSigned.cells rm_M_toSigned.slots A) (F0 m 32 ls [.int s0, .int s1]) := by
    intro M s0 s1 H locs ls h zs0 zs1 hwf hkp hP hD hS hl
    unfold f_M_toSigned_b32 at h
    have hkb := hkp
    refine lv_icmp_ne (tgt := 109) hx hb d_M_toSigned_32 (by decide) (fun c18 => ?_) (fun c18 => ?_)
    · have h := if_f c18 h
      refine lv_aload_n hx hb d_M_toSigned_109 rfl (lv_at hl 0 rfl) ?_
      refine lv_iload_n hx hb d_M_toSigned_110 rfl (lv_at hl 1 rfl) ?_
      obtain ⟨M19, r20, eM19, h⟩ := b2_ob h
      refine me_theni0 (M1 := M19) (me_runV (C := "FilterGuardModel") (As := [.int x1]) (rest := []) ⟨hx, hb, hml, hown, hts⟩ (c_M_isEmpty l D ad ca N M M19 r20 j0 x1 eM19 hwf hj0 _) rfl (by show fg_nm y_M_isEmpty 1; decide +kernel) u_2157 u_2159 u_115 u_192 u_2160 ⟨Nat.le_of_ble_eq_true rfl, Nat.le_of_ble_eq_true rfl⟩ hX hz hK hP hD hwf hS hA hj0 (by decide) rfl rfl rfl hl.1 (Nat.le_of_ble_eq_true rfl) d_M_toSigned_111 ⟨Nat.le_of_ble_eq_true rfl, Nat.le_of_ble_eq_true rfl⟩) hP hD hK hS hA rfl rfl (fun H locs hw hP hD hS => ?_)
      obtain ⟨hwf, hk9, zr20⟩ := hw
      have hkp := hkp.tr hk9
      refine lv_if_ne (tgt := 121) hx hb d_M_toSigned_114 (by decide) (fun c21 => ?_) (fun c21 => ?_)
      · have h := if_f c21 h
        refine lv_iconst (v := 0) hx hb d_M_toSigned_121 (by decide) ?_
        exact me_retz (me_kp M0) h (by decide) hx hb hr hlocks hwf hkp hP hK hD hS d_M_toSigned_122
      have h := if_t c21 h
      refine lv_iconst (v := 1) hx hb d_M_toSigned_117 (by decide) ?_
      refine lv_goto (tgt := 122) hx hb d_M_toSigned_118 (by decide) ?_
      exact me_retz (me_kp M0) h (by decide) hx hb hr hlocks hwf hkp hP hK hD hS d_M_toSigned_122
    have h := if_t c18 h
    refine lv_aload_n hx hb d_M_toSigned_35 rfl (lv_at hl 0 rfl) ?_
    refine g_M_56 hx hb hts hown hK hP hwf hj0 (hts _ u_1797) d_M_toSigned_36 ?_
    obtain ⟨j22, e23, h⟩ := bd_ob h
    have hj22 : j22 < N 16 := (hwf.2.1 1 j0 56 _ e23 (by decide) hj0)
    refine me_opt (j := j22) e23 ?_
    refine lv_iload_n hx hb d_M_toSigned_39 rfl (lv_at hl 1 rfl) ?_
    refine lv_aload_n hx hb d_M_toSigned_40 rfl (lv_at hl 0 rfl) ?_
    refine g_M_56 hx hb hts hown hK hP hwf hj0 (hts _ u_1797) d_M_toSigned_41 ?_
    refine me_opt (j := j22) e23 ?_
    refine lv_iload_n hx hb d_M_toSigned_44 rfl (lv_at hl 1 rfl) ?_
    obtain ⟨g24, h⟩ := gd_ob h
    refine me_lald hx hb hK hP hwf hj22 g24 d_M_toSigned_45 ?_
    refine lv_aload_n hx hb d_M_toSigned_46 rfl (lv_at hl 0 rfl) ?_
    refine g_M_54 hx hb hts hown hK hP hwf hj0 (hts _ u_1795) d_M_toSigned_47 ?_
    obtain ⟨j25, e26, h⟩ := bd_ob h
    have hj25 : j25 < N 16 := (hwf.2.1 1 j0 54 _ e26 (by decide) hj0)
    refine me_opt (j := j25) e26 ?_
    refine lv_iload_n hx hb d_M_toSigned_50 rfl (lv_at hl 1 rfl) ?_
    obtain ⟨g27, h⟩ := gd_ob h
    refine me_lald hx hb hK hP hwf hj25 g27 d_M_toSigned_51 ?_
    refine W.lcmp hx hb d_M_toSigned_52 ?_
    refine lv_if_le (tgt := 65) hx hb d_M_toSigned_53 (by decide) (fun c28 => ?_) (fun c28 => ?_)
    · have h := if_f (Int64.not_lt.mpr ((lg_cmp_le _ _).mp c28)) h
      refine lv_aload_n hx hb d_M_toSigned_65 rfl (lv_at hl 0 rfl) ?_
      refine g_M_54 hx hb hts hown hK hP hwf hj0 (hts _ u_1795) d_M_toSigned_66 ?_
      refine me_opt (j := j25) e26 ?_
      refine lv_iload_n hx hb d_M_toSigned_69 rfl (lv_at hl 1 rfl) ?_
      refine me_lald hx hb hK hP hwf hj25 g27 d_M_toSigned_70 ?_
      exact b_71 M (mL M 16 j25 x1.toNatClampNeg) x1 j22 _ _ _ h hj22 hwf hkp hP hD hS (lv_sub hl [0, 1] rfl)
    have h := if_t (Int64.not_le.mp (fun z => c28 ((lg_cmp_le _ _).mpr z))) h
    refine lv_aload_n hx hb d_M_toSigned_56 rfl (lv_at hl 0 rfl) ?_
    refine g_M_56 hx hb hts hown hK hP hwf hj0 (hts _ u_1797) d_M_toSigned_57 ?_
    refine me_opt (j := j22) e23 ?_
    refine lv_iload_n hx hb d_M_toSigned_60 rfl (lv_at hl 1 rfl) ?_
    refine me_lald hx hb hK hP hwf hj22 g24 d_M_toSigned_61 ?_
    refine lv_goto (tgt := 71) hx hb d_M_toSigned_62 (by decide) ?_
    exact b_71 M (mL M 16 j22 x1.toNatClampNeg) x1 j22 _ _ _ h hj22 hwf hkp hP hD hS (lv_sub hl [0, 1] rfl)
  have b_16 : ∀ (M : me_M) (s0 : Int32) (H : Heap) (locs : List Loc) (ls : Array Slot), f_M_toSigned_b16 j0 x1 M s0 = (some (MZ, RZ)) → (s0 = 1 ∨ s0 = 0) → me_wf N M → me_kp M0 M → va_P D classes (me_W ad ca M) H → va_D A (me_W ad ca M) → va_S A s.heap H locs → lv_has ls 2 [(0, .ref (ad 1 j0)), (1, .int x1)] → W p l e rm_M_toSigned s m [.ref (ad 1 j0), .int x1].toArray below meth c H locs 0 0 (MQ below (q_M_toSigned D ad ca N M0 MZ RZ A) [.ref (ad 1 j0), .int x1].toArray s rm_M_toSigned.cells rm_M_toSigned.slots A) (F0 m 16 ls [.int s0]) := by
    intro M s0 H locs ls h zs0 hwf hkp hP hD hS hl
    unfold f_M_toSigned_b16 at h
    have hkb := hkp
    refine lv_aload_n hx hb d_M_toSigned_16 rfl (lv_at hl 0 rfl) ?_
    refine g_M_55 hx hb hts hown hK hP hwf hj0 (hts _ u_1796) d_M_toSigned_17 ?_
    obtain ⟨j29, e30, h⟩ := bd_ob h
    have hj29 : j29 < N 16 := (hwf.2.1 1 j0 55 _ e30 (by decide) hj0)
    refine me_opt (j := j29) e30 ?_
    refine lv_iload_n hx hb d_M_toSigned_20 rfl (lv_at hl 1 rfl) ?_
    obtain ⟨g31, h⟩ := gd_ob h
    refine me_lald hx hb hK hP hwf hj29 g31 d_M_toSigned_21 ?_
    refine lv_lconst (v := 0) hx hb d_M_toSigned_22 (by decide) ?_
    refine W.lcmp hx hb d_M_toSigned_23 ?_
    refine lv_if_ge (tgt := 31) hx hb d_M_toSigned_24 (by decide) (fun c32 => ?_) (fun c32 => ?_)
    · have h := if_f (Int64.not_lt.mpr ((lg_cmp_ge _ _).mp c32)) h
      refine lv_iconst (v := 0) hx hb d_M_toSigned_31 (by decide) ?_
      exact b_32 M (0 : Int32) s0 _ _ _ h (by decide) zs0 hwf hkp hP hD hS (lv_sub hl [0, 1] rfl)
    have h := if_t (Int64.not_le.mp (fun z => c32 ((lg_cmp_ge _ _).mpr z))) h
    refine lv_iconst (v := 1) hx hb d_M_toSigned_27 (by decide) ?_
    refine lv_goto (tgt := 32) hx hb d_M_toSigned_28 (by decide) ?_
    exact b_32 M (1 : Int32) s0 _ _ _ h (by decide) zs0 hwf hkp hP hD hS (lv_sub hl [0, 1] rfl)
  refine lv_aload_n hx hb d_M_toSigned_0 rfl (lv_at hl 0 rfl) ?_
  refine g_M_54 hx hb hts hown hK hP hwf hj0 (hts _ u_1795) d_M_toSigned_1 ?_
  obtain ⟨j33, e34, h⟩ := bd_ob h
  have hj33 : j33 < N 16 := (hwf.2.1 1 j0 54 _ e34 (by decide) hj0)
  refine me_opt (j := j33) e34 ?_
  refine lv_iload_n hx hb d_M_toSigned_4 rfl (lv_at hl 1 rfl) ?_
  obtain ⟨g35, h⟩ := gd_ob h
  refine me_lald hx hb hK hP hwf hj33 g35 d_M_toSigned_5 ?_
  refine lv_lconst (v := 0) hx hb d_M_toSigned_6 (by decide) ?_
  refine W.lcmp hx hb d_M_toSigned_7 ?_
  refine lv_if_ge (tgt := 15) hx hb d_M_toSigned_8 (by decide) (fun c36 => ?_) (fun c36 => ?_)
  · have h := if_f (Int64.not_lt.mpr ((lg_cmp_ge _ _).mp c36)) h
    refine lv_iconst (v := 0) hx hb d_M_toSigned_15 (by decide) ?_
    exact b_16 M0 (0 : Int32) _ _ _ h (by decide) hwf hkp hP hD hS (lv_sub hl [0, 1] rfl)
  have h := if_t (Int64.not_le.mp (fun z => c36 ((lg_cmp_ge _ _).mpr z))) h
  refine lv_iconst (v := 1) hx hb d_M_toSigned_11 (by decide) ?_
  refine lv_goto (tgt := 16) hx hb d_M_toSigned_12 (by decide) ?_
  exact b_16 M0 (1 : Int32) _ _ _ h (by decide) hwf hkp hP hD hS (lv_sub hl [0, 1] rfl)
theorem d_M_toUnsigned_32 : decode prog_14_method_15_code 32 = .ok (.if_icmp .ne 45, 3) := by decide +kernel
theorem d_M_toUnsigned_77 : decode prog_14_method_15_code 77 = .ok (.aload_n 0, 1) := by decide +kernel
theorem d_M_toUnsigned_78 : decode prog_14_method_15_code 78 = .ok (.iload_n 1, 1) := by decide +kernel
theorem d_M_toUnsigned_79 : decode prog_14_method_15_code 79 = .ok (.invokevirtual 173, 3) := by decide +kernel
theorem d_M_toUnsigned_82 : decode prog_14_method_15_code 82 = .ok (.ifCond .ne 7, 3) := by decide +kernel
theorem d_M_toUnsigned_89 : decode prog_14_method_15_code 89 = .ok (.iconst 0, 1) := by decide +kernel
theorem d_M_toUnsigned_90 : decode prog_14_method_15_code 90 = .ok (.ireturn, 1) := by decide +kernel
theorem d_M_toUnsigned_85 : decode prog_14_method_15_code 85 = .ok (.iconst 1, 1) := by decide +kernel
theorem d_M_toUnsigned_86 : decode prog_14_method_15_code 86 = .ok (.goto 4, 3) := by decide +kernel
theorem d_M_toUnsigned_35 : decode prog_14_method_15_code 35 = .ok (.aload_n 0, 1) := by decide +kernel
theorem d_M_toUnsigned_36 : decode prog_14_method_15_code 36 = .ok (.getfield 110, 3) := by decide +kernel
theorem d_M_toUnsigned_39 : decode prog_14_method_15_code 39 = .ok (.iload_n 1, 1) := by decide +kernel
theorem d_M_toUnsigned_40 : decode prog_14_method_15_code 40 = .ok (.aload_n 0, 1) := by decide +kernel
theorem d_M_toUnsigned_41 : decode prog_14_method_15_code 41 = .ok (.getfield 110, 3) := by decide +kernel
theorem d_M_toUnsigned_44 : decode prog_14_method_15_code 44 = .ok (.iload_n 1, 1) := by decide +kernel
theorem d_M_toUnsigned_45 : decode prog_14_method_15_code 45 = .ok (.laload, 1) := by decide +kernel
theorem d_M_toUnsigned_46 : decode prog_14_method_15_code 46 = .ok (.aload_n 0, 1) := by decide +kernel
theorem d_M_toUnsigned_47 : decode prog_14_method_15_code 47 = .ok (.getfield 116, 3) := by decide +kernel
theorem d_M_toUnsigned_50 : decode prog_14_method_15_code 50 = .ok (.iload_n 1, 1) := by decide +kernel
theorem d_M_toUnsigned_51 : decode prog_14_method_15_code 51 = .ok (.laload, 1) := by decide +kernel
theorem d_M_toUnsigned_52 : decode prog_14_method_15_code 52 = .ok (.invokestatic 166, 3) := by decide +kernel
theorem d_M_toUnsigned_55 : decode prog_14_method_15_code 55 = .ok (.lastore, 1) := by decide +kernel
theorem d_M_toUnsigned_56 : decode prog_14_method_15_code 56 = .ok (.aload_n 0, 1) := by decide +kernel
theorem d_M_toUnsigned_57 : decode prog_14_method_15_code 57 = .ok (.getfield 113, 3) := by decide +kernel
theorem d_M_toUnsigned_60 : decode prog_14_method_15_code 60 = .ok (.iload_n 1, 1) := by decide +kernel
theorem d_M_toUnsigned_61 : decode prog_14_method_15_code 61 = .ok (.aload_n 0, 1) := by decide +kernel
theorem d_M_toUnsigned_62 : decode prog_14_method_15_code 62 = .ok (.getfield 113, 3) := by decide +kernel
theorem d_M_toUnsigned_65 : decode prog_14_method_15_code 65 = .ok (.iload_n 1, 1) := by decide +kernel
theorem d_M_toUnsigned_66 : decode prog_14_method_15_code 66 = .ok (.laload, 1) := by decide +kernel
theorem d_M_toUnsigned_67 : decode prog_14_method_15_code 67 = .ok (.aload_n 0, 1) := by decide +kernel
theorem d_M_toUnsigned_68 : decode prog_14_method_15_code 68 = .ok (.getfield 119, 3) := by decide +kernel
theorem d_M_toUnsigned_71 : decode prog_14_method_15_code 71 = .ok (.iload_n 1, 1) := by decide +kernel
theorem d_M_toUnsigned_72 : decode prog_14_method_15_code 72 = .ok (.laload, 1) := by decide +kernel
theorem d_M_toUnsigned_73 : decode prog_14_method_15_code 73 = .ok (.invokestatic 170, 3) := by decide +kernel
theorem d_M_toUnsigned_76 : decode prog_14_method_15_code 76 = .ok (.lastore, 1) := by decide +kernel
theorem d_M_toUnsigned_16 : decode prog_14_method_15_code 16 = .ok (.aload_n 0, 1) := by decide +kernel
theorem d_M_toUnsigned_17 : decode prog_14_method_15_code 17 = .ok (.getfield 119, 3) := by decide +kernel
theorem d_M_toUnsigned_20 : decode prog_14_method_15_code 20 = .ok (.iload_n 1, 1) := by decide +kernel
theorem d_M_toUnsigned_21 : decode prog_14_method_15_code 21 = .ok (.laload, 1) := by decide +kernel
theorem d_M_toUnsigned_22 : decode prog_14_method_15_code 22 = .ok (.lconst 0, 1) := by decide +kernel
theorem d_M_toUnsigned_23 : decode prog_14_method_15_code 23 = .ok (.lcmp, 1) := by decide +kernel
theorem d_M_toUnsigned_24 : decode prog_14_method_15_code 24 = .ok (.ifCond .ge 7, 3) := by decide +kernel
theorem d_M_toUnsigned_31 : decode prog_14_method_15_code 31 = .ok (.iconst 0, 1) := by decide +kernel
theorem d_M_toUnsigned_27 : decode prog_14_method_15_code 27 = .ok (.iconst 1, 1) := by decide +kernel
theorem d_M_toUnsigned_28 : decode prog_14_method_15_code 28 = .ok (.goto 4, 3) := by decide +kernel
theorem d_M_toUnsigned_0 : decode prog_14_method_15_code 0 = .ok (.aload_n 0, 1) := by decide +kernel
theorem d_M_toUnsigned_1 : decode prog_14_method_15_code 1 = .ok (.getfield 116, 3) := by decide +kernel
theorem d_M_toUnsigned_4 : decode prog_14_method_15_code 4 = .ok (.iload_n 1, 1) := by decide +kernel
theorem d_M_toUnsigned_5 : decode prog_14_method_15_code 5 = .ok (.laload, 1) := by decide +kernel
theorem d_M_toUnsigned_6 : decode prog_14_method_15_code 6 = .ok (.lconst 0, 1) := by decide +kernel
theorem d_M_toUnsigned_7 : decode prog_14_method_15_code 7 = .ok (.lcmp, 1) := by decide +kernel
theorem d_M_toUnsigned_8 : decode prog_14_method_15_code 8 = .ok (.ifCond .ge 7, 3) := by decide +kernel
theorem d_M_toUnsigned_15 : decode prog_14_method_15_code 15 = .ok (.iconst 0, 1) := by decide +kernel
theorem d_M_toUnsigned_11 : decode prog_14_method_15_code 11 = .ok (.iconst 1, 1) := by decide +kernel
theorem d_M_toUnsigned_12 : decode prog_14_method_15_code 12 = .ok (.goto 4, 3) := by decide +kernel
abbrev y_M_toUnsigned : MethodName := ⟨"FilterGuardModel", "toUnsigned", "(I)Z"⟩
def rm_M_toUnsigned : Room := { frames := 3, cells := 0, slots := 0, locals := 66 }
abbrev q_M_toUnsigned (D : va_G) (ad : Nat → Nat → Nat) (ca : Nat → ClassId) (N : Nat → Nat) (M0 MZ : me_M) (RZ : Int32) (A : Nat → Prop) : Array Value → Jvm.State → Outcome → Jvm.State → Prop := va_Qi (fun r (_ : Unit) => r = RZ ∧ me_wf N MZ ∧ me_kp M0 MZ ∧ (RZ = 1 ∨ RZ = 0)) (fg_B D A (fun _ => me_W ad ca MZ) (fun _ => [])) A
set_option maxHeartbeats 4000000 in
set_option maxRecDepth 100000 in
theorem c_M_toUnsigned (l : Launch) (D : va_G) (ad : Nat → Nat → Nat) (ca : Nat → ClassId) (N : Nat → Nat) (M0 MZ : me_M) (RZ : Int32) (j0 : Nat) (x1 : Int32) (h : f_M_toUnsigned M0 j0 x1 = (some (MZ, RZ))) (hwf : me_wf N M0) (hj0 : j0 < N 1) (sz : Nat) : Met l y_M_toUnsigned (fg_w y_M_toUnsigned prog_14_method_15_code 2 (some .boolean)) rm_M_toUnsigned (va_Pc [.ref (ad 1 j0), .int x1] (fz_P D (me_T ca) (me_W ad ca M0) sz)) (q_M_toUnsigned D ad ca N M0 MZ RZ (va_A (me_W ad ca M0) sz)) rm_M_toUnsigned.cells rm_M_toUnsigned.slots (va_A (me_W ad ca M0) sz) := by
  refine fz_enter (fun A => q_M_toUnsigned D ad ca N M0 MZ RZ A) (by decide +kernel) (Nat.le_of_ble_eq_true rfl) ?_
  intro p e s m below meth c ls A hx hb hml hown hts hr hlocks hin hP hK hD hS hA hX hl hz
  have hl : lv_has ls 2 [(0, .ref (ad 1 j0)), (1, .int x1)] := hl
  unfold f_M_toUnsigned at h
  have hkp : me_kp M0 M0 := me_kp.rf
  have hkb := hkp
  have b_32 : ∀ (M : me_M) (s0 : Int32) (s1 : Int32) (H : Heap) (locs : List Loc) (ls : Array Slot), f_M_toUnsigned_b32 j0 x1 M s0 s1 = (some (MZ, RZ)) → (s0 = 1 ∨ s0 = 0) → (s1 = 1 ∨ s1 = 0) → me_wf N M → me_kp M0 M → va_P D classes (me_W ad ca M) H → va_D A (me_W ad ca M) → va_S A s.heap H locs → lv_has ls 2 [(0, .ref (ad 1 j0)), (1, .int x1)] → W p l e rm_M_toUnsigned s m [.ref (ad 1 j0), .int x1].toArray below meth c H locs 0 0 (MQ below (q_M_toUnsigned D ad ca N M0 MZ RZ A) [.ref (ad 1 j0), .int x1].toArray s rm_M_toUnsigned.cells rm_M_toUnsigned.slots A) (F0 m 32 ls [.int s0, .int s1]) := by
    intro M s0 s1 H locs ls h zs0 zs1 hwf hkp hP hD hS hl
    unfold f_M_toUnsigned_b32 at h
    have hkb := hkp
    refine lv_icmp_ne (tgt := 77) hx hb d_M_toUnsigned_32 (by decide) (fun c1 => ?_) (fun c1 => ?_)
    · have h := if_f c1 h
      refine lv_aload_n hx hb d_M_toUnsigned_77 rfl (lv_at hl 0 rfl) ?_
      refine lv_iload_n hx hb d_M_toUnsigned_78 rfl (lv_at hl 1 rfl) ?_
      obtain ⟨M2, r3, eM2, h⟩ := b2_ob h
      refine me_theni0 (M1 := M2) (me_runV (C := "FilterGuardModel") (As := [.int x1]) (rest := []) ⟨hx, hb, hml, hown, hts⟩ (c_M_isEmpty l D ad ca N M M2 r3 j0 x1 eM2 hwf hj0 _) rfl (by show fg_nm y_M_isEmpty 1; decide +kernel) u_2157 u_2159 u_115 u_192 u_2160 ⟨Nat.le_of_ble_eq_true rfl, Nat.le_of_ble_eq_true rfl⟩ hX hz hK hP hD hwf hS hA hj0 (by decide) rfl rfl rfl hl.1 (Nat.le_of_ble_eq_true rfl) d_M_toUnsigned_79 ⟨Nat.le_of_ble_eq_true rfl, Nat.le_of_ble_eq_true rfl⟩) hP hD hK hS hA rfl rfl (fun H locs hw hP hD hS => ?_)
      obtain ⟨hwf, hk9, zr3⟩ := hw
      have hkp := hkp.tr hk9
      refine lv_if_ne (tgt := 89) hx hb d_M_toUnsigned_82 (by decide) (fun c4 => ?_) (fun c4 => ?_)
      · have h := if_f c4 h
        refine lv_iconst (v := 0) hx hb d_M_toUnsigned_89 (by decide) ?_
        exact me_retz (me_kp M0) h (by decide) hx hb hr hlocks hwf hkp hP hK hD hS d_M_toUnsigned_90
      have h := if_t c4 h
      refine lv_iconst (v := 1) hx hb d_M_toUnsigned_85 (by decide) ?_
      refine lv_goto (tgt := 90) hx hb d_M_toUnsigned_86 (by decide) ?_
      exact me_retz (me_kp M0) h (by decide) hx hb hr hlocks hwf hkp hP hK hD hS d_M_toUnsigned_90
    have h := if_t c1 h
    refine lv_aload_n hx hb d_M_toUnsigned_35 rfl (lv_at hl 0 rfl) ?_
    refine g_M_54 hx hb hts hown hK hP hwf hj0 (hts _ u_1795) d_M_toUnsigned_36 ?_
    obtain ⟨j5, e6, h⟩ := bd_ob h
    have hj5 : j5 < N 16 := (hwf.2.1 1 j0 54 _ e6 (by decide) hj0)
    refine me_opt (j := j5) e6 ?_
    refine lv_iload_n hx hb d_M_toUnsigned_39 rfl (lv_at hl 1 rfl) ?_
    refine lv_aload_n hx hb d_M_toUnsigned_40 rfl (lv_at hl 0 rfl) ?_
    refine g_M_54 hx hb hts hown hK hP hwf hj0 (hts _ u_1795) d_M_toUnsigned_41 ?_
    refine me_opt (j := j5) e6 ?_
    refine lv_iload_n hx hb d_M_toUnsigned_44 rfl (lv_at hl 1 rfl) ?_
    obtain ⟨g7, h⟩ := gd_ob h
    refine me_lald hx hb hK hP hwf hj5 g7 d_M_toUnsigned_45 ?_
    refine lv_aload_n hx hb d_M_toUnsigned_46 rfl (lv_at hl 0 rfl) ?_
    refine g_M_56 hx hb hts hown hK hP hwf hj0 (hts _ u_1797) d_M_toUnsigned_47 ?_
    obtain ⟨j8, e9, h⟩ := bd_ob h
    have hj8 : j8 < N 16 := (hwf.2.1 1 j0 56 _ e9 (by decide) hj0)
    refine me_opt (j := j8) e9 ?_
    refine lv_iload_n hx hb d_M_toUnsigned_50 rfl (lv_at hl 1 rfl) ?_
    obtain ⟨g10, h⟩ := gd_ob h
    refine me_lald hx hb hK hP hwf hj8 g10 d_M_toUnsigned_51 ?_
    obtain ⟨r11, er11, h⟩ := bd_ob h
    refine me_panl' (r0 := r11) (fg_runS (wc := []) (tc := []) (A2 := A) (As := [.long (mL M 16 j5 x1.toNatClampNeg), .long (mL M 16 j8 x1.toNatClampNeg)]) (rest := [.int x1, .ref (ad 16 j5)]) ⟨hx, hb, hml, hown, hts⟩ (c_M_greater l D r11 (mL M 16 j5 x1.toNatClampNeg) (mL M 16 j8 x1.toNatClampNeg) er11 _) (by show fg_nm y_M_greater 2; decide +kernel) u_2151 u_2152 u_192 u_2153 ⟨Nat.le_of_ble_eq_true rfl, Nat.le_of_ble_eq_true rfl⟩ hX me_P0 (hK.sub (tys' := []) [] rfl) me_D0 rfl hl.1 (Nat.le_of_ble_eq_true rfl) d_M_toUnsigned_52 ⟨Nat.le_of_ble_eq_true rfl, Nat.le_of_ble_eq_true rfl⟩) hP hD hK hS hA rfl rfl (fun H locs hw hP hD hS => ?_)
    obtain ⟨M12, eM12, h⟩ := st_ob h
    refine me_last eM12 hx hb hK hP hD hwf hS hj5 g7 d_M_toUnsigned_55 (fun H locs hP hD hwf hS => ?_)
    have hkp := kp_L eM12 hkp
    refine lv_aload_n hx hb d_M_toUnsigned_56 rfl (lv_at hl 0 rfl) ?_
    refine g_M_55 hx hb hts hown hK hP hwf hj0 (hts _ u_1796) d_M_toUnsigned_57 ?_
    obtain ⟨j13, e14, h⟩ := bd_ob h
    have hj13 : j13 < N 16 := (hwf.2.1 1 j0 55 _ (kp_r hkb hkp e14) (by decide) hj0)
    refine me_opt (j := j13) (kp_r hkb hkp e14) ?_
    refine lv_iload_n hx hb d_M_toUnsigned_60 rfl (lv_at hl 1 rfl) ?_
    refine lv_aload_n hx hb d_M_toUnsigned_61 rfl (lv_at hl 0 rfl) ?_
    refine g_M_55 hx hb hts hown hK hP hwf hj0 (hts _ u_1796) d_M_toUnsigned_62 ?_
    refine me_opt (j := j13) (kp_r hkb hkp e14) ?_
    refine lv_iload_n hx hb d_M_toUnsigned_65 rfl (lv_at hl 1 rfl) ?_
    obtain ⟨g15, h⟩ := gd_ob h
    refine me_lald hx hb hK hP hwf hj13 (kp_z hkb.z hkp.z g15) d_M_toUnsigned_66 ?_
    refine lv_aload_n hx hb d_M_toUnsigned_67 rfl (lv_at hl 0 rfl) ?_
    refine g_M_57 hx hb hts hown hK hP hwf hj0 (hts _ u_1798) d_M_toUnsigned_68 ?_
    obtain ⟨j16, e17, h⟩ := bd_ob h
    have hj16 : j16 < N 16 := (hwf.2.1 1 j0 57 _ (kp_r hkb hkp e17) (by decide) hj0)
    refine me_opt (j := j16) (kp_r hkb hkp e17) ?_
    refine lv_iload_n hx hb d_M_toUnsigned_71 rfl (lv_at hl 1 rfl) ?_
    obtain ⟨g18, h⟩ := gd_ob h
    refine me_lald hx hb hK hP hwf hj16 (kp_z hkb.z hkp.z g18) d_M_toUnsigned_72 ?_
    obtain ⟨r19, er19, h⟩ := bd_ob h
    refine me_panl' (r0 := r19) (fg_runS (wc := []) (tc := []) (A2 := A) (As := [.long (mL M12 16 j13 x1.toNatClampNeg), .long (mL M12 16 j16 x1.toNatClampNeg)]) (rest := [.int x1, .ref (ad 16 j13)]) ⟨hx, hb, hml, hown, hts⟩ (c_M_lesser l D r19 (mL M12 16 j13 x1.toNatClampNeg) (mL M12 16 j16 x1.toNatClampNeg) er19 _) (by show fg_nm y_M_lesser 2; decide +kernel) u_2154 u_2155 u_192 u_2156 ⟨Nat.le_of_ble_eq_true rfl, Nat.le_of_ble_eq_true rfl⟩ hX me_P0 (hK.sub (tys' := []) [] rfl) me_D0 rfl hl.1 (Nat.le_of_ble_eq_true rfl) d_M_toUnsigned_73 ⟨Nat.le_of_ble_eq_true rfl, Nat.le_of_ble_eq_true rfl⟩) hP hD hK hS hA rfl rfl (fun H locs hw hP hD hS => ?_)
    obtain ⟨M20, eM20, h⟩ := st_ob h
    refine me_last eM20 hx hb hK hP hD hwf hS hj13 (kp_z hkb.z hkp.z g15) d_M_toUnsigned_76 (fun H locs hP hD hwf hS => ?_)
    have hkp := kp_L eM20 hkp
    refine lv_aload_n hx hb d_M_toUnsigned_77 rfl (lv_at hl 0 rfl) ?_
    refine lv_iload_n hx hb d_M_toUnsigned_78 rfl (lv_at hl 1 rfl) ?_
    obtain ⟨M21, r22, eM21, h⟩ := b2_ob h
    refine me_theni0 (M1 := M21) (me_runV (C := "FilterGuardModel") (As := [.int x1]) (rest := []) ⟨hx, hb, hml, hown, hts⟩ (c_M_isEmpty l D ad ca N M20 M21 r22 j0 x1 eM21 hwf hj0 _) rfl (by show fg_nm y_M_isEmpty 1; decide +kernel) u_2157 u_2159 u_115 u_192 u_2160 ⟨Nat.le_of_ble_eq_true rfl, Nat.le_of_ble_eq_true rfl⟩ hX hz hK hP hD hwf hS hA hj0 (by decide) rfl rfl rfl hl.1 (Nat.le_of_ble_eq_true rfl) d_M_toUnsigned_79 ⟨Nat.le_of_ble_eq_true rfl, Nat.le_of_ble_eq_true rfl⟩) hP hD hK hS hA rfl rfl (fun H locs hw hP hD hS => ?_)
    obtain ⟨hwf, hk9, zr22⟩ := hw
    have hkp := hkp.tr hk9
    refine lv_if_ne (tgt := 89) hx hb d_M_toUnsigned_82 (by decide) (fun c23 => ?_) (fun c23 => ?_)
    · have h := if_f c23 h
      refine lv_iconst (v := 0) hx hb d_M_toUnsigned_89 (by decide) ?_
      exact me_retz (me_kp M0) h (by decide) hx hb hr hlocks hwf hkp hP hK hD hS d_M_toUnsigned_90
    have h := if_t c23 h
    refine lv_iconst (v := 1) hx hb d_M_toUnsigned_85 (by decide) ?_
    refine lv_goto (tgt := 90) hx hb d_M_toUnsigned_86 (by decide) ?_
    exact me_retz (me_kp M0) h (by decide) hx hb hr hlocks hwf hkp hP hK hD hS d_M_toUnsigned_90
  have b_16 : ∀ (M : me_M) (s0 : Int32) (H : Heap) (locs : List Loc) (ls : Array Slot), f_M_toUnsigned_b16 j0 x1 M s0 = (some (MZ, RZ)) → (s0 = 1 ∨ s0 = 0) → me_wf N M → me_kp M0 M → va_P D classes (me_W ad ca M) H → va_D A (me_W ad ca M) → va_S A s.heap H locs → lv_has ls 2 [(0, .ref (ad 1 j0)), (1, .int x1)] → W p l e rm_M_toUnsigned s m [.ref (ad 1 j0), .int x1].toArray below meth c H locs 0 0 (MQ below (q_M_toUnsigned D ad ca N M0 MZ RZ A) [.ref (ad 1 j0), .int x1].toArray s rm_M_toUnsigned.cells rm_M_toUnsigned.slots A) (F0 m 16 ls [.int s0]) := by
    intro M s0 H locs ls h zs0 hwf hkp hP hD hS hl
    unfold f_M_toUnsigned_b16 at h
    have hkb := hkp
    refine lv_aload_n hx hb d_M_toUnsigned_16 rfl (lv_at hl 0 rfl) ?_
    refine g_M_57 hx hb hts hown hK hP hwf hj0 (hts _ u_1798) d_M_toUnsigned_17 ?_
    obtain ⟨j24, e25, h⟩ := bd_ob h
    have hj24 : j24 < N 16 := (hwf.2.1 1 j0 57 _ e25 (by decide) hj0)
    refine me_opt (j := j24) e25 ?_
    refine lv_iload_n hx hb d_M_toUnsigned_20 rfl (lv_at hl 1 rfl) ?_
    obtain ⟨g26, h⟩ := gd_ob h
    refine me_lald hx hb hK hP hwf hj24 g26 d_M_toUnsigned_21 ?_
    refine lv_lconst (v := 0) hx hb d_M_toUnsigned_22 (by decide) ?_
    refine W.lcmp hx hb d_M_toUnsigned_23 ?_
    refine lv_if_ge (tgt := 31) hx hb d_M_toUnsigned_24 (by decide) (fun c27 => ?_) (fun c27 => ?_)
    · have h := if_f (Int64.not_lt.mpr ((lg_cmp_ge _ _).mp c27)) h
      refine lv_iconst (v := 0) hx hb d_M_toUnsigned_31 (by decide) ?_
      exact b_32 M (0 : Int32) s0 _ _ _ h (by decide) zs0 hwf hkp hP hD hS (lv_sub hl [0, 1] rfl)
    have h := if_t (Int64.not_le.mp (fun z => c27 ((lg_cmp_ge _ _).mpr z))) h
    refine lv_iconst (v := 1) hx hb d_M_toUnsigned_27 (by decide) ?_
    refine lv_goto (tgt := 32) hx hb d_M_toUnsigned_28 (by decide) ?_
    exact b_32 M (1 : Int32) s0 _ _ _ h (by decide) zs0 hwf hkp hP hD hS (lv_sub hl [0, 1] rfl)
  refine lv_aload_n hx hb d_M_toUnsigned_0 rfl (lv_at hl 0 rfl) ?_
  refine g_M_56 hx hb hts hown hK hP hwf hj0 (hts _ u_1797) d_M_toUnsigned_1 ?_
  obtain ⟨j28, e29, h⟩ := bd_ob h
  have hj28 : j28 < N 16 := (hwf.2.1 1 j0 56 _ e29 (by decide) hj0)
  refine me_opt (j := j28) e29 ?_
  refine lv_iload_n hx hb d_M_toUnsigned_4 rfl (lv_at hl 1 rfl) ?_
  obtain ⟨g30, h⟩ := gd_ob h
  refine me_lald hx hb hK hP hwf hj28 g30 d_M_toUnsigned_5 ?_
  refine lv_lconst (v := 0) hx hb d_M_toUnsigned_6 (by decide) ?_
  refine W.lcmp hx hb d_M_toUnsigned_7 ?_
  refine lv_if_ge (tgt := 15) hx hb d_M_toUnsigned_8 (by decide) (fun c31 => ?_) (fun c31 => ?_)
  · have h := if_f (Int64.not_lt.mpr ((lg_cmp_ge _ _).mp c31)) h
    refine lv_iconst (v := 0) hx hb d_M_toUnsigned_15 (by decide) ?_
    exact b_16 M0 (0 : Int32) _ _ _ h (by decide) hwf hkp hP hD hS (lv_sub hl [0, 1] rfl)
  have h := if_t (Int64.not_le.mp (fun z => c31 ((lg_cmp_ge _ _).mpr z))) h
  refine lv_iconst (v := 1) hx hb d_M_toUnsigned_11 (by decide) ?_
  refine lv_goto (tgt := 16) hx hb d_M_toUnsigned_12 (by decide) ?_
  exact b_16 M0 (1 : Int32) _ _ _ h (by decide) hwf hkp hP hD hS (lv_sub hl [0, 1] rfl)
theorem d_M_toBits_0 : decode prog_14_method_16_code 0 = .ok (.aload_n 0, 1) := by decide +kernel
theorem d_M_toBits_1 : decode prog_14_method_16_code 1 = .ok (.getfield 110, 3) := by decide +kernel
theorem d_M_toBits_4 : decode prog_14_method_16_code 4 = .ok (.iload_n 1, 1) := by decide +kernel
theorem d_M_toBits_5 : decode prog_14_method_16_code 5 = .ok (.laload, 1) := by decide +kernel
theorem d_M_toBits_6 : decode prog_14_method_16_code 6 = .ok (.aload_n 0, 1) := by decide +kernel
theorem d_M_toBits_7 : decode prog_14_method_16_code 7 = .ok (.getfield 113, 3) := by decide +kernel
theorem d_M_toBits_10 : decode prog_14_method_16_code 10 = .ok (.iload_n 1, 1) := by decide +kernel
theorem d_M_toBits_11 : decode prog_14_method_16_code 11 = .ok (.laload, 1) := by decide +kernel
theorem d_M_toBits_12 : decode prog_14_method_16_code 12 = .ok (.invokestatic 177, 3) := by decide +kernel
theorem u_2173 : Cond.methodLink "FilterGuardModel" 177 ⟨"FilterGuardModel", "places", "(JJ)J"⟩ ∈ fg_g := fg_in (List.mem_of_getElem? (i := 2173) (by decide +kernel)) rfl
theorem u_2175 : Cond.code ⟨"FilterGuardModel", "places", "(JJ)J"⟩ prog_14_method_12_code 9 (some .long) ∈ fg_g := fg_in (List.mem_of_getElem? (i := 2175) (by decide +kernel)) rfl
theorem u_2174 : Cond.static ⟨"FilterGuardModel", "places", "(JJ)J"⟩ ∈ fg_g := fg_in (List.mem_of_getElem? (i := 2174) (by decide +kernel)) rfl
theorem d_M_toBits_15 : decode prog_14_method_16_code 15 = .ok (.lstore_n 2, 1) := by decide +kernel
theorem d_M_toBits_16 : decode prog_14_method_16_code 16 = .ok (.aload_n 0, 1) := by decide +kernel
theorem d_M_toBits_17 : decode prog_14_method_16_code 17 = .ok (.getfield 104, 3) := by decide +kernel
theorem d_M_toBits_20 : decode prog_14_method_16_code 20 = .ok (.iload_n 1, 1) := by decide +kernel
theorem d_M_toBits_21 : decode prog_14_method_16_code 21 = .ok (.laload, 1) := by decide +kernel
theorem d_M_toBits_22 : decode prog_14_method_16_code 22 = .ok (.aload_n 0, 1) := by decide +kernel
theorem d_M_toBits_23 : decode prog_14_method_16_code 23 = .ok (.getfield 110, 3) := by decide +kernel
theorem d_M_toBits_26 : decode prog_14_method_16_code 26 = .ok (.iload_n 1, 1) := by decide +kernel
theorem d_M_toBits_27 : decode prog_14_method_16_code 27 = .ok (.laload, 1) := by decide +kernel
theorem d_M_toBits_28 : decode prog_14_method_16_code 28 = .ok (.lxor, 1) := by decide +kernel
theorem d_M_toBits_29 : decode prog_14_method_16_code 29 = .ok (.aload_n 0, 1) := by decide +kernel
theorem d_M_toBits_30 : decode prog_14_method_16_code 30 = .ok (.getfield 107, 3) := by decide +kernel
theorem d_M_toBits_33 : decode prog_14_method_16_code 33 = .ok (.iload_n 1, 1) := by decide +kernel
theorem d_M_toBits_34 : decode prog_14_method_16_code 34 = .ok (.laload, 1) := by decide +kernel
theorem d_M_toBits_35 : decode prog_14_method_16_code 35 = .ok (.ldc2_w 162, 3) := by decide +kernel
theorem d_M_toBits_38 : decode prog_14_method_16_code 38 = .ok (.lxor, 1) := by decide +kernel
theorem d_M_toBits_39 : decode prog_14_method_16_code 39 = .ok (.land, 1) := by decide +kernel
theorem d_M_toBits_40 : decode prog_14_method_16_code 40 = .ok (.lload_n 2, 1) := by decide +kernel
theorem d_M_toBits_41 : decode prog_14_method_16_code 41 = .ok (.ldc2_w 162, 3) := by decide +kernel
theorem d_M_toBits_44 : decode prog_14_method_16_code 44 = .ok (.lxor, 1) := by decide +kernel
theorem d_M_toBits_45 : decode prog_14_method_16_code 45 = .ok (.land, 1) := by decide +kernel
theorem d_M_toBits_46 : decode prog_14_method_16_code 46 = .ok (.lconst 0, 1) := by decide +kernel
theorem d_M_toBits_47 : decode prog_14_method_16_code 47 = .ok (.lcmp, 1) := by decide +kernel
theorem d_M_toBits_48 : decode prog_14_method_16_code 48 = .ok (.ifCond .eq 5, 3) := by decide +kernel
theorem d_M_toBits_53 : decode prog_14_method_16_code 53 = .ok (.aload_n 0, 1) := by decide +kernel
theorem d_M_toBits_54 : decode prog_14_method_16_code 54 = .ok (.getfield 104, 3) := by decide +kernel
theorem d_M_toBits_57 : decode prog_14_method_16_code 57 = .ok (.iload_n 1, 1) := by decide +kernel
theorem d_M_toBits_58 : decode prog_14_method_16_code 58 = .ok (.aload_n 0, 1) := by decide +kernel
theorem d_M_toBits_59 : decode prog_14_method_16_code 59 = .ok (.getfield 104, 3) := by decide +kernel
theorem d_M_toBits_62 : decode prog_14_method_16_code 62 = .ok (.iload_n 1, 1) := by decide +kernel
theorem d_M_toBits_63 : decode prog_14_method_16_code 63 = .ok (.laload, 1) := by decide +kernel
theorem d_M_toBits_64 : decode prog_14_method_16_code 64 = .ok (.lload_n 2, 1) := by decide +kernel
theorem d_M_toBits_65 : decode prog_14_method_16_code 65 = .ok (.land, 1) := by decide +kernel
theorem d_M_toBits_66 : decode prog_14_method_16_code 66 = .ok (.aload_n 0, 1) := by decide +kernel
theorem d_M_toBits_67 : decode prog_14_method_16_code 67 = .ok (.getfield 110, 3) := by decide +kernel
theorem d_M_toBits_70 : decode prog_14_method_16_code 70 = .ok (.iload_n 1, 1) := by decide +kernel
theorem d_M_toBits_71 : decode prog_14_method_16_code 71 = .ok (.laload, 1) := by decide +kernel
theorem d_M_toBits_72 : decode prog_14_method_16_code 72 = .ok (.lload_n 2, 1) := by decide +kernel
theorem d_M_toBits_73 : decode prog_14_method_16_code 73 = .ok (.ldc2_w 162, 3) := by decide +kernel
theorem d_M_toBits_76 : decode prog_14_method_16_code 76 = .ok (.lxor, 1) := by decide +kernel
theorem d_M_toBits_77 : decode prog_14_method_16_code 77 = .ok (.land, 1) := by decide +kernel
theorem d_M_toBits_78 : decode prog_14_method_16_code 78 = .ok (.lor, 1) := by decide +kernel
theorem d_M_toBits_79 : decode prog_14_method_16_code 79 = .ok (.lastore, 1) := by decide +kernel
theorem d_M_toBits_80 : decode prog_14_method_16_code 80 = .ok (.aload_n 0, 1) := by decide +kernel
theorem d_M_toBits_81 : decode prog_14_method_16_code 81 = .ok (.getfield 107, 3) := by decide +kernel
theorem d_M_toBits_84 : decode prog_14_method_16_code 84 = .ok (.iload_n 1, 1) := by decide +kernel
theorem d_M_toBits_85 : decode prog_14_method_16_code 85 = .ok (.aload_n 0, 1) := by decide +kernel
theorem d_M_toBits_86 : decode prog_14_method_16_code 86 = .ok (.getfield 107, 3) := by decide +kernel
theorem d_M_toBits_89 : decode prog_14_method_16_code 89 = .ok (.iload_n 1, 1) := by decide +kernel
theorem d_M_toBits_90 : decode prog_14_method_16_code 90 = .ok (.laload, 1) := by decide +kernel
theorem d_M_toBits_91 : decode prog_14_method_16_code 91 = .ok (.lload_n 2, 1) := by decide +kernel
theorem d_M_toBits_92 : decode prog_14_method_16_code 92 = .ok (.land, 1) := by decide +kernel
theorem d_M_toBits_93 : decode prog_14_method_16_code 93 = .ok (.lastore, 1) := by decide +kernel
theorem d_M_toBits_94 : decode prog_14_method_16_code 94 = .ok (.aload_n 0, 1) := by decide +kernel
theorem d_M_toBits_95 : decode prog_14_method_16_code 95 = .ok (.iload_n 1, 1) := by decide +kernel
theorem d_M_toBits_96 : decode prog_14_method_16_code 96 = .ok (.invokevirtual 173, 3) := by decide +kernel
theorem d_M_toBits_99 : decode prog_14_method_16_code 99 = .ok (.ifCond .ne 7, 3) := by decide +kernel
theorem d_M_toBits_106 : decode prog_14_method_16_code 106 = .ok (.iconst 0, 1) := by decide +kernel
theorem d_M_toBits_107 : decode prog_14_method_16_code 107 = .ok (.ireturn, 1) := by decide +kernel
theorem d_M_toBits_102 : decode prog_14_method_16_code 102 = .ok (.iconst 1, 1) := by decide +kernel
theorem d_M_toBits_103 : decode prog_14_method_16_code 103 = .ok (.goto 4, 3) := by decide +kernel
theorem d_M_toBits_51 : decode prog_14_method_16_code 51 = .ok (.iconst 0, 1) := by decide +kernel
theorem d_M_toBits_52 : decode prog_14_method_16_code 52 = .ok (.ireturn, 1) := by decide +kernel
abbrev y_M_toBits : MethodName := ⟨"FilterGuardModel", "toBits", "(I)Z"⟩
def rm_M_toBits : Room := { frames := 3, cells := 0, slots := 0, locals := 64 }
abbrev q_M_toBits (D : va_G) (ad : Nat → Nat → Nat) (ca : Nat → ClassId) (N : Nat → Nat) (M0 MZ : me_M) (RZ : Int32) (A : Nat → Prop) : Array Value → Jvm.State → Outcome → Jvm.State → Prop := va_Qi (fun r (_ : Unit) => r = RZ ∧ me_wf N MZ ∧ me_kp M0 MZ ∧ (RZ = 1 ∨ RZ = 0)) (fg_B D A (fun _ => me_W ad ca MZ) (fun _ => [])) A
set_option maxHeartbeats 4000000 in
set_option maxRecDepth 100000 in
theorem c_M_toBits (l : Launch) (D : va_G) (ad : Nat → Nat → Nat) (ca : Nat → ClassId) (N : Nat → Nat) (M0 MZ : me_M) (RZ : Int32) (j0 : Nat) (x1 : Int32) (h : f_M_toBits M0 j0 x1 = (some (MZ, RZ))) (hwf : me_wf N M0) (hj0 : j0 < N 1) (sz : Nat) : Met l y_M_toBits (fg_w y_M_toBits prog_14_method_16_code 4 (some .boolean)) rm_M_toBits (va_Pc [.ref (ad 1 j0), .int x1] (fz_P D (me_T ca) (me_W ad ca M0) sz)) (q_M_toBits D ad ca N M0 MZ RZ (va_A (me_W ad ca M0) sz)) rm_M_toBits.cells rm_M_toBits.slots (va_A (me_W ad ca M0) sz) := by
  refine fz_enter (fun A => q_M_toBits D ad ca N M0 MZ RZ A) (by decide +kernel) (Nat.le_of_ble_eq_true rfl) ?_
  intro p e s m below meth c ls A hx hb hml hown hts hr hlocks hin hP hK hD hS hA hX hl hz
  have hl : lv_has ls 4 [(0, .ref (ad 1 j0)), (1, .int x1)] := hl
  unfold f_M_toBits at h
  have hkp : me_kp M0 M0 := me_kp.rf
  have hkb := hkp
  refine lv_aload_n hx hb d_M_toBits_0 rfl (lv_at hl 0 rfl) ?_
  refine g_M_54 hx hb hts hown hK hP hwf hj0 (hts _ u_1795) d_M_toBits_1 ?_
  obtain ⟨j1, e2, h⟩ := bd_ob h
  have hj1 : j1 < N 16 := (hwf.2.1 1 j0 54 _ e2 (by decide) hj0)
  refine me_opt (j := j1) e2 ?_
  refine lv_iload_n hx hb d_M_toBits_4 rfl (lv_at hl 1 rfl) ?_
  obtain ⟨g3, h⟩ := gd_ob h
  refine me_lald hx hb hK hP hwf hj1 g3 d_M_toBits_5 ?_
  refine lv_aload_n hx hb d_M_toBits_6 rfl (lv_at hl 0 rfl) ?_
  refine g_M_55 hx hb hts hown hK hP hwf hj0 (hts _ u_1796) d_M_toBits_7 ?_
  obtain ⟨j4, e5, h⟩ := bd_ob h
  have hj4 : j4 < N 16 := (hwf.2.1 1 j0 55 _ e5 (by decide) hj0)
  refine me_opt (j := j4) e5 ?_
  refine lv_iload_n hx hb d_M_toBits_10 rfl (lv_at hl 1 rfl) ?_
  obtain ⟨g6, h⟩ := gd_ob h
  refine me_lald hx hb hK hP hwf hj4 g6 d_M_toBits_11 ?_
  obtain ⟨r7, er7, h⟩ := bd_ob h
  refine me_panl' (r0 := r7) (fg_runS (wc := []) (tc := []) (A2 := A) (As := [.long (mL M0 16 j1 x1.toNatClampNeg), .long (mL M0 16 j4 x1.toNatClampNeg)]) (rest := []) ⟨hx, hb, hml, hown, hts⟩ (c_M_places l D r7 (mL M0 16 j1 x1.toNatClampNeg) (mL M0 16 j4 x1.toNatClampNeg) er7 _) (by show fg_nm y_M_places 2; decide +kernel) u_2173 u_2174 u_192 u_2175 ⟨Nat.le_of_ble_eq_true rfl, Nat.le_of_ble_eq_true rfl⟩ hX me_P0 (hK.sub (tys' := []) [] rfl) me_D0 rfl hl.1 (Nat.le_of_ble_eq_true rfl) d_M_toBits_12 ⟨Nat.le_of_ble_eq_true rfl, Nat.le_of_ble_eq_true rfl⟩) hP hD hK hS hA rfl rfl (fun H locs hw hP hD hS => ?_)
  refine lv_lstore_n (lv' := [(2, .long r7), (0, .ref (ad 1 j0)), (1, .int x1)]) hx hb d_M_toBits_15 rfl hl (by decide) rfl (fun ls hl => ?_)
  refine lv_aload_n hx hb d_M_toBits_16 rfl (lv_at hl 1 rfl) ?_
  refine g_M_52 hx hb hts hown hK hP hwf hj0 (hts _ u_1793) d_M_toBits_17 ?_
  obtain ⟨j8, e9, h⟩ := bd_ob h
  have hj8 : j8 < N 16 := (hwf.2.1 1 j0 52 _ e9 (by decide) hj0)
  refine me_opt (j := j8) e9 ?_
  refine lv_iload_n hx hb d_M_toBits_20 rfl (lv_at hl 2 rfl) ?_
  obtain ⟨g10, h⟩ := gd_ob h
  refine me_lald hx hb hK hP hwf hj8 g10 d_M_toBits_21 ?_
  refine lv_aload_n hx hb d_M_toBits_22 rfl (lv_at hl 1 rfl) ?_
  refine g_M_54 hx hb hts hown hK hP hwf hj0 (hts _ u_1795) d_M_toBits_23 ?_
  refine me_opt (j := j1) e2 ?_
  refine lv_iload_n hx hb d_M_toBits_26 rfl (lv_at hl 2 rfl) ?_
  refine me_lald hx hb hK hP hwf hj1 g3 d_M_toBits_27 ?_
  refine lv_lxor hx hb d_M_toBits_28 ?_
  refine lv_aload_n hx hb d_M_toBits_29 rfl (lv_at hl 1 rfl) ?_
  refine g_M_53 hx hb hts hown hK hP hwf hj0 (hts _ u_1794) d_M_toBits_30 ?_
  obtain ⟨j11, e12, h⟩ := bd_ob h
  have hj11 : j11 < N 16 := (hwf.2.1 1 j0 53 _ e12 (by decide) hj0)
  refine me_opt (j := j11) e12 ?_
  refine lv_iload_n hx hb d_M_toBits_33 rfl (lv_at hl 2 rfl) ?_
  obtain ⟨g13, h⟩ := gd_ob h
  refine me_lald hx hb hK hP hwf hj11 g13 d_M_toBits_34 ?_
  refine lv_ldc2 hx hb hown (hts _ u_2071) d_M_toBits_35 ?_
  refine lv_lxor hx hb d_M_toBits_38 ?_
  refine lv_land hx hb d_M_toBits_39 ?_
  obtain ⟨v14, ev14, h⟩ := st_ob h
  refine fg_topl (y := v14) ev14.symm ?_
  refine lv_lload_n hx hb d_M_toBits_40 rfl (lv_at hl 0 rfl) ?_
  refine lv_ldc2 hx hb hown (hts _ u_2071) d_M_toBits_41 ?_
  refine lv_lxor hx hb d_M_toBits_44 ?_
  refine lv_land hx hb d_M_toBits_45 ?_
  refine lv_lconst (v := 0) hx hb d_M_toBits_46 (by decide) ?_
  refine W.lcmp hx hb d_M_toBits_47 ?_
  refine lv_if_eq (tgt := 53) hx hb d_M_toBits_48 (by decide) (fun c15 => ?_) (fun c15 => ?_)
  · have h := if_t ((lg_cmp_eq _ _).mp c15) h
    refine lv_aload_n hx hb d_M_toBits_53 rfl (lv_at hl 1 rfl) ?_
    refine g_M_52 hx hb hts hown hK hP hwf hj0 (hts _ u_1793) d_M_toBits_54 ?_
    refine me_opt (j := j8) e9 ?_
    refine lv_iload_n hx hb d_M_toBits_57 rfl (lv_at hl 2 rfl) ?_
    refine lv_aload_n hx hb d_M_toBits_58 rfl (lv_at hl 1 rfl) ?_
    refine g_M_52 hx hb hts hown hK hP hwf hj0 (hts _ u_1793) d_M_toBits_59 ?_
    refine me_opt (j := j8) e9 ?_
    refine lv_iload_n hx hb d_M_toBits_62 rfl (lv_at hl 2 rfl) ?_
    refine me_lald hx hb hK hP hwf hj8 g10 d_M_toBits_63 ?_
    refine lv_lload_n hx hb d_M_toBits_64 rfl (lv_at hl 0 rfl) ?_
    refine lv_land hx hb d_M_toBits_65 ?_
    refine lv_aload_n hx hb d_M_toBits_66 rfl (lv_at hl 1 rfl) ?_
    refine g_M_54 hx hb hts hown hK hP hwf hj0 (hts _ u_1795) d_M_toBits_67 ?_
    refine me_opt (j := j1) e2 ?_
    refine lv_iload_n hx hb d_M_toBits_70 rfl (lv_at hl 2 rfl) ?_
    refine me_lald hx hb hK hP hwf hj1 g3 d_M_toBits_71 ?_
    refine lv_lload_n hx hb d_M_toBits_72 rfl (lv_at hl 0 rfl) ?_
    refine lv_ldc2 hx hb hown (hts _ u_2071) d_M_toBits_73 ?_
    refine lv_lxor hx hb d_M_toBits_76 ?_
    refine lv_land hx hb d_M_toBits_77 ?_
    refine lv_lor hx hb d_M_toBits_78 ?_
    obtain ⟨v16, ev16, h⟩ := st_ob h
    refine fg_topl (y := v16) ev16.symm ?_
    obtain ⟨M17, eM17, h⟩ := st_ob h
    refine me_last eM17 hx hb hK hP hD hwf hS hj8 g10 d_M_toBits_79 (fun H locs hP hD hwf hS => ?_)
    have hkp := kp_L eM17 hkp
    refine lv_aload_n hx hb d_M_toBits_80 rfl (lv_at hl 1 rfl) ?_
    refine g_M_53 hx hb hts hown hK hP hwf hj0 (hts _ u_1794) d_M_toBits_81 ?_
    refine me_opt (j := j11) (kp_r hkb hkp e12) ?_
    refine lv_iload_n hx hb d_M_toBits_84 rfl (lv_at hl 2 rfl) ?_
    refine lv_aload_n hx hb d_M_toBits_85 rfl (lv_at hl 1 rfl) ?_
    refine g_M_53 hx hb hts hown hK hP hwf hj0 (hts _ u_1794) d_M_toBits_86 ?_
    refine me_opt (j := j11) (kp_r hkb hkp e12) ?_
    refine lv_iload_n hx hb d_M_toBits_89 rfl (lv_at hl 2 rfl) ?_
    refine me_lald hx hb hK hP hwf hj11 (kp_z hkb.z hkp.z g13) d_M_toBits_90 ?_
    refine lv_lload_n hx hb d_M_toBits_91 rfl (lv_at hl 0 rfl) ?_
    refine lv_land hx hb d_M_toBits_92 ?_
    obtain ⟨M18, eM18, h⟩ := st_ob h
    refine me_last eM18 hx hb hK hP hD hwf hS hj11 (kp_z hkb.z hkp.z g13) d_M_toBits_93 (fun H locs hP hD hwf hS => ?_)
    have hkp := kp_L eM18 hkp
    refine lv_aload_n hx hb d_M_toBits_94 rfl (lv_at hl 1 rfl) ?_
    refine lv_iload_n hx hb d_M_toBits_95 rfl (lv_at hl 2 rfl) ?_
    obtain ⟨M19, r20, eM19, h⟩ := b2_ob h
    refine me_theni0 (M1 := M19) (me_runV (C := "FilterGuardModel") (As := [.int x1]) (rest := []) ⟨hx, hb, hml, hown, hts⟩ (c_M_isEmpty l D ad ca N M18 M19 r20 j0 x1 eM19 hwf hj0 _) rfl (by show fg_nm y_M_isEmpty 1; decide +kernel) u_2157 u_2159 u_115 u_192 u_2160 ⟨Nat.le_of_ble_eq_true rfl, Nat.le_of_ble_eq_true rfl⟩ hX hz hK hP hD hwf hS hA hj0 (by decide) rfl rfl rfl hl.1 (Nat.le_of_ble_eq_true rfl) d_M_toBits_96 ⟨Nat.le_of_ble_eq_true rfl, Nat.le_of_ble_eq_true rfl⟩) hP hD hK hS hA rfl rfl (fun H locs hw hP hD hS => ?_)
    obtain ⟨hwf, hk9, zr20⟩ := hw
    have hkp := hkp.tr hk9
    refine lv_if_ne (tgt := 106) hx hb d_M_toBits_99 (by decide) (fun c21 => ?_) (fun c21 => ?_)
    · have h := if_f c21 h
      refine lv_iconst (v := 0) hx hb d_M_toBits_106 (by decide) ?_
      exact me_retz (me_kp M0) h (by decide) hx hb hr hlocks hwf hkp hP hK hD hS d_M_toBits_107
    have h := if_t c21 h
    refine lv_iconst (v := 1) hx hb d_M_toBits_102 (by decide) ?_
    refine lv_goto (tgt := 107) hx hb d_M_toBits_103 (by decide) ?_
    exact me_retz (me_kp M0) h (by decide) hx hb hr hlocks hwf hkp hP hK hD hS d_M_toBits_107
  have h := if_f (fun z => c15 ((lg_cmp_eq _ _).mpr z)) h
  refine lv_iconst (v := 0) hx hb d_M_toBits_51 (by decide) ?_
  exact me_retz (me_kp M0) h (by decide) hx hb hr hlocks hwf hkp hP hK hD hS d_M_toBits_52
