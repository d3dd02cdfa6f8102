theorem d_M_toBits_0 : decode prog_14_method_16_code 0 = .ok (.aload_n 0, 1) := by decide +kernel
theorem d_M_toBits_1 : decode prog_14_method_16_code 1 = .ok (.getfield 110, 3) := by decide +kernel
theorem d_M_toBits_4 : decode prog_14_method_16_code 4 = .ok (.iload_n 1, 1) := by decide +kernel
theorem d_M_toBits_5 : decode prog_14_method_16_code 5 = .ok (.laload, 1) := by decide +kernel
theorem d_M_toBits_6 : decode prog_14_method_16_code 6 = .ok (.aload_n 0, 1) := by decide +kernel
theorem d_M_toBits_7 : decode prog_14_method_16_code 7 = .ok (.getfield 113, 3) := by decide +kernel
theorem d_M_toBits_10 : decode prog_14_method_16_code 10 = .ok (.iload_n 1, 1) := by decide +kernel
theorem d_M_toBits_11 : decode prog_14_method_16_code 11 = .ok (.laload, 1) := by decide +kernel
theorem d_M_toBits_12 : decode prog_14_method_16_code 12 = .ok (.invokestatic 177, 3) := by decide +kernel
theorem u_2173 : Cond.methodLink "FilterGuardModel" 177 ⟨"FilterGuardModel", "places", "(JJ)J"⟩ ∈ fg_g := fg_in (List.mem_of_getElem? (i := 2173) (by decide +kernel)) rfl
theorem u_2175 : Cond.code ⟨"FilterGuardModel", "places", "(JJ)J"⟩ prog_14_method_12_code 9 (some .long) ∈ fg_g := fg_in (List.mem_of_getElem? (i := 2175) (by decide +kernel)) rfl
theorem u_2174 : Cond.static ⟨"FilterGuardModel", "places", "(JJ)J"⟩ ∈ fg_g := fg_in (List.mem_of_getElem? (i := 2174) (by decide +kernel)) rfl
theorem d_M_toBits_15 : decode prog_14_method_16_code 15 = .ok (.lstore_n 2, 1) := by decide +kernel
theorem d_M_toBits_16 : decode prog_14_method_16_code 16 = .ok (.aload_n 0, 1) := by decide +kernel
theorem d_M_toBits_17 : decode prog_14_method_16_code 17 = .ok (.getfield 104, 3) := by decide +kernel
theorem d_M_toBits_20 : decode prog_14_method_16_code 20 = .ok (.iload_n 1, 1) := by decide +kernel
theorem d_M_toBits_21 : decode prog_14_method_16_code 21 = .ok (.laload, 1) := by decide +kernel
theorem d_M_toBits_22 : decode prog_14_method_16_code 22 = .ok (.aload_n 0, 1) := by decide +kernel
theorem d_M_toBits_23 : decode prog_14_method_16_code 23 = .ok (.getfield 110, 3) := by decide +kernel
theorem d_M_toBits_26 : decode prog_14_method_16_code 26 = .ok (.iload_n 1, 1) := by decide +kernel
theorem d_M_toBits_27 : decode prog_14_method_16_code 27 = .ok (.laload, 1) := by decide +kernel
theorem d_M_toBits_28 : decode prog_14_method_16_code 28 = .ok (.lxor, 1) := by decide +kernel
theorem d_M_toBits_29 : decode prog_14_method_16_code 29 = .ok (.aload_n 0, 1) := by decide +kernel
theorem d_M_toBits_30 : decode prog_14_method_16_code 30 = .ok (.getfield 107, 3) := by decide +kernel
theorem d_M_toBits_33 : decode prog_14_method_16_code 33 = .ok (.iload_n 1, 1) := by decide +kernel
theorem d_M_toBits_34 : decode prog_14_method_16_code 34 = .ok (.laload, 1) := by decide +kernel
theorem d_M_toBits_35 : decode prog_14_method_16_code 35 = .ok (.ldc2_w 162, 3) := by decide +kernel
theorem d_M_toBits_38 : decode prog_14_method_16_code 38 = .ok (.lxor, 1) := by decide +kernel
theorem d_M_toBits_39 : decode prog_14_method_16_code 39 = .ok (.land, 1) := by decide +kernel
theorem d_M_toBits_40 : decode prog_14_method_16_code 40 = .ok (.lload_n 2, 1) := by decide +kernel
theorem d_M_toBits_41 : decode prog_14_method_16_code 41 = .ok (.ldc2_w 162, 3) := by decide +kernel
theorem d_M_toBits_44 : decode prog_14_method_16_code 44 = .ok (.lxor, 1) := by decide +kernel
theorem d_M_toBits_45 : decode prog_14_method_16_code 45 = .ok (.land, 1) := by decide +kernel
theorem d_M_toBits_46 : decode prog_14_method_16_code 46 = .ok (.lconst 0, 1) := by decide +kernel
theorem d_M_toBits_47 : decode prog_14_method_16_code 47 = .ok (.lcmp, 1) := by decide +kernel
theorem d_M_toBits_48 : decode prog_14_method_16_code 48 = .ok (.ifCond .eq 5, 3) := by decide +kernel
theorem d_M_toBits_53 : decode prog_14_method_16_code 53 = .ok (.aload_n 0, 1) := by decide +kernel
theorem d_M_toBits_54 : decode prog_14_method_16_code 54 = .ok (.getfield 104, 3) := by decide +kernel
theorem d_M_toBits_57 : decode prog_14_method_16_code 57 = .ok (.iload_n 1, 1) := by decide +kernel
theorem d_M_toBits_58 : decode prog_14_method_16_code 58 = .ok (.aload_n 0, 1) := by decide +kernel
theorem d_M_toBits_59 : decode prog_14_method_16_code 59 = .ok (.getfield 104, 3) := by decide +kernel
theorem d_M_toBits_62 : decode prog_14_method_16_code 62 = .ok (.iload_n 1, 1) := by decide +kernel
theorem d_M_toBits_63 : decode prog_14_method_16_code 63 = .ok (.laload, 1) := by decide +kernel
theorem d_M_toBits_64 : decode prog_14_method_16_code 64 = .ok (.lload_n 2, 1) := by decide +kernel
theorem d_M_toBits_65 : decode prog_14_method_16_code 65 = .ok (.land, 1) := by decide +kernel
theorem d_M_toBits_66 : decode prog_14_method_16_code 66 = .ok (.aload_n 0, 1) := by decide +kernel
theorem d_M_toBits_67 : decode prog_14_method_16_code 67 = .ok (.getfield 110, 3) := by decide +kernel
theorem d_M_toBits_70 : decode prog_14_method_16_code 70 = .ok (.iload_n 1, 1) := by decide +kernel
theorem d_M_toBits_71 : decode prog_14_method_16_code 71 = .ok (.laload, 1) := by decide +kernel
theorem d_M_toBits_72 : decode prog_14_method_16_code 72 = .ok (.lload_n 2, 1) := by decide +kernel
theorem d_M_toBits_73 : decode prog_14_method_16_code 73 = .ok (.ldc2_w 162, 3) := by decide +kernel
theorem d_M_toBits_76 : decode prog_14_method_16_code 76 = .ok (.lxor, 1) := by decide +kernel
theorem d_M_toBits_77 : decode prog_14_method_16_code 77 = .ok (.land, 1) := by decide +kernel
theorem d_M_toBits_78 : decode prog_14_method_16_code 78 = .ok (.lor, 1) := by decide +kernel
theorem d_M_toBits_79 : decode prog_14_method_16_code 79 = .ok (.lastore, 1) := by decide +kernel
theorem d_M_toBits_80 : decode prog_14_method_16_code 80 = .ok (.aload_n 0, 1) := by decide +kernel
theorem d_M_toBits_81 : decode prog_14_method_16_code 81 = .ok (.getfield 107, 3) := by decide +kernel
theorem d_M_toBits_84 : decode prog_14_method_16_code 84 = .ok (.iload_n 1, 1) := by decide +kernel
theorem d_M_toBits_85 : decode prog_14_method_16_code 85 = .ok (.aload_n 0, 1) := by decide +kernel
theorem d_M_toBits_86 : decode prog_14_method_16_code 86 = .ok (.getfield 107, 3) := by decide +kernel
theorem d_M_toBits_89 : decode prog_14_method_16_code 89 = .ok (.iload_n 1, 1) := by decide +kernel
theorem d_M_toBits_90 : decode prog_14_method_16_code 90 = .ok (.laload, 1) := by decide +kernel
theorem d_M_toBits_91 : decode prog_14_method_16_code 91 = .ok (.lload_n 2, 1) := by decide +kernel
theorem d_M_toBits_92 : decode prog_14_method_16_code 92 = .ok (.land, 1) := by decide +kernel
theorem d_M_toBits_93 : decode prog_14_method_16_code 93 = .ok (.lastore, 1) := by decide +kernel
theorem d_M_toBits_94 : decode prog_14_method_16_code 94 = .ok (.aload_n 0, 1) := by decide +kernel
theorem d_M_toBits_95 : decode prog_14_method_16_code 95 = .ok (.iload_n 1, 1) := by decide +kernel
theorem d_M_toBits_96 : decode prog_14_method_16_code 96 = .ok (.invokevirtual 173, 3) := by decide +kernel
theorem d_M_toBits_99 : decode prog_14_method_16_code 99 = .ok (.ifCond .ne 7, 3) := by decide +kernel
theorem d_M_toBits_106 : decode prog_14_method_16_code 106 = .ok (.iconst 0, 1) := by decide +kernel
theorem d_M_toBits_107 : decode prog_14_method_16_code 107 = .ok (.ireturn, 1) := by decide +kernel
theorem d_M_toBits_102 : decode prog_14_method_16_code 102 = .ok (.iconst 1, 1) := by decide +kernel
theorem d_M_toBits_103 : decode prog_14_method_16_code 103 = .ok (.goto 4, 3) := by decide +kernel
theorem d_M_toBits_51 : decode prog_14_method_16_code 51 = .ok (.iconst 0, 1) := by decide +kernel
theorem d_M_toBits_52 : decode prog_14_method_16_code 52 = .ok (.ireturn, 1) := by decide +kernel
abbrev y_M_toBits : MethodName := ⟨"FilterGuardModel", "toBits", "(I)Z"⟩
def f_M_toBits (M0 : me_M) (j0 : Nat) (x1 : Int32) : Option (me_M × Int32) := bd (mR M0 1 j0 54) (fun (j1 : Nat) => gd (¬ (x1 < 0 ∨ mZ M0 16 j1 ≤ x1.toNatClampNeg)) (bd (mR M0 1 j0 55) (fun (j4 : Nat) => gd (¬ (x1 < 0 ∨ mZ M0 16 j4 ≤ x1.toNatClampNeg)) (bd (f_M_places (mL M0 16 j1 x1.toNatClampNeg) (mL M0 16 j4 x1.toNatClampNeg)) (fun (r7 : Int64) => bd (mR M0 1 j0 52) (fun (j8 : Nat) => gd (¬ (x1 < 0 ∨ mZ M0 16 j8 ≤ x1.toNatClampNeg)) (bd (mR M0 1 j0 53) (fun (j11 : Nat) => gd (¬ (x1 < 0 ∨ mZ M0 16 j11 ≤ x1.toNatClampNeg)) (st (((mL M0 16 j8 x1.toNatClampNeg) ^^^ (mL M0 16 j1 x1.toNatClampNeg)) &&& ((mL M0 16 j11 x1.toNatClampNeg) ^^^ (-1))) (fun (v14 : Int64) => (if (v14 &&& (r7 ^^^ (-1))) = 0 then st (((mL M0 16 j8 x1.toNatClampNeg) &&& r7) ||| ((mL M0 16 j1 x1.toNatClampNeg) &&& (r7 ^^^ (-1)))) (fun (v16 : Int64) => st (wL M0 16 j8 x1.toNatClampNeg v16) (fun (M17 : me_M) => st (wL M17 16 j11 x1.toNatClampNeg ((mL M17 16 j11 x1.toNatClampNeg) &&& r7)) (fun (M18 : me_M) => b2 (f_M_isEmpty M18 j0 x1) (fun (M19 : me_M) (r20 : Int32) => (if r20 = 0 then some (M19, (1 : Int32)) else some (M19, (0 : Int32))))))) else some (M0, (0 : Int32)))))))))))))
def rm_M_toBits : Room := { frames := 3, cells := 0, slots := 0, locals := 64 }
abbrev q_M_toBits (D : va_G) (ad : Nat → Nat → Nat) (ca : Nat → ClassId) (N : Nat → Nat) (M0 MZ : me_M) (RZ : Int32) (A : Nat → Prop) : Array Value → Jvm.State → Outcome → Jvm.State → Prop := va_Qi (fun r (_ : Unit) => r = RZ ∧ me_wf N MZ ∧ me_kp M0 MZ ∧ (RZ = 1 ∨ RZ = 0)) (fg_B D A (fun _ => me_W ad ca MZ) (fun _ => [])) A
set_option maxHeartbeats 4000000 in
set_option maxRecDepth 100000 in
theorem c_M_toBits (l : Launch) (D : va_G) (ad : Nat → Nat → Nat) (ca : Nat → ClassId) (N : Nat → Nat) (M0 MZ : me_M) (RZ : Int32) (j0 : Nat) (x1 : Int32) (h : f_M_toBits M0 j0 x1 = (some (MZ, RZ))) (hwf : me_wf N M0) (hj0 : j0 < N 1) (sz : Nat) : Met l y_M_toBits (fg_w y_M_toBits prog_14_method_16_code 4 (some .boolean)) rm_M_toBits (va_Pc [.ref (ad 1 j0), .int x1] (fz_P D (me_T ca) (me_W ad ca M0) sz)) (q_M_toBits D ad ca N M0 MZ RZ (va_A (me_W ad ca M0) sz)) rm_M_toBits.cells rm_M_toBits.slots (va_A (me_W ad ca M0) sz) := by
  refine fz_enter (fun A => q_M_toBits D ad ca N M0 MZ RZ A) (by decide +kernel) (Nat.le_of_ble_eq_true rfl) ?_
  intro p e s m below meth c ls A hx hb hml hown hts hr hlocks hin hP hK hD hS hA hX hl hz
  have hl : lv_has ls 4 [(0, .ref (ad 1 j0)), (1, .int x1)] := hl
  unfold f_M_toBits at h
  have hkp : me_kp M0 M0 := me_kp.rf
  have hkb := hkp
  refine lv_aload_n hx hb d_M_toBits_0 rfl (lv_at hl 0 rfl) ?_
  refine g_M_54 hx hb hts hown hK hP hwf hj0 (hts _ u_1795) d_M_toBits_1 ?_
  obtain ⟨j1, e2, h⟩ := bd_ob h
  have hj1 : j1 < N 16 := (hwf.2.1 1 j0 54 _ e2 (by decide) hj0)
  refine me_opt (j := j1) e2 ?_
  refine lv_iload_n hx hb d_M_toBits_4 rfl (lv_at hl 1 rfl) ?_
  obtain ⟨g3, h⟩ := gd_ob h
  refine me_lald hx hb hK hP hwf hj1 g3 d_M_toBits_5 ?_
  refine lv_aload_n hx hb d_M_toBits_6 rfl (lv_at hl 0 rfl) ?_
  refine g_M_55 hx hb hts hown hK hP hwf hj0 (hts _ u_1796) d_M_toBits_7 ?_
  obtain ⟨j4, e5, h⟩ := bd_ob h
  have hj4 : j4 < N 16 := (hwf.2.1 1 j0 55 _ e5 (by decide) hj0)
  refine me_opt (j := j4) e5 ?_
  refine lv_iload_n hx hb d_M_toBits_10 rfl (lv_at hl 1 rfl) ?_
  obtain ⟨g6, h⟩ := gd_ob h
  refine me_lald hx hb hK hP hwf hj4 g6 d_M_toBits_11 ?_
  obtain ⟨r7, er7, h⟩ := bd_ob h
  refine me_panl' (r0 := r7) (fg_runS (wc := []) (tc := []) (A2 := A) (As := [.long (mL M0 16 j1 x1.toNatClampNeg), .long (mL M0 16 j4 x1.toNatClampNeg)]) (rest := []) ⟨hx, hb, hml, hown, hts⟩ (c_M_places l D r7 (mL M0 16 j1 x1.toNatClampNeg) (mL M0 16 j4 x1.toNatClampNeg) er7 _) (by show fg_nm y_M_places 2; decide +kernel) u_2173 u_2174 u_192 u_2175 ⟨Nat.le_of_ble_eq_true rfl, Nat.le_of_ble_eq_true rfl⟩ hX me_P0 (hK.sub (tys' := []) [] rfl) me_D0 rfl hl.1 (Nat.le_of_ble_eq_true rfl) d_M_toBits_12 ⟨Nat.le_of_ble_eq_true rfl, Nat.le_of_ble_eq_true rfl⟩) hP hD hK hS hA rfl rfl (fun H locs hw hP hD hS => ?_)
  refine lv_lstore_n (lv' := [(2, .long r7), (0, .ref (ad 1 j0)), (1, .int x1)]) hx hb d_M_toBits_15 rfl hl (by decide) rfl (fun ls hl => ?_)
  refine lv_aload_n hx hb d_M_toBits_16 rfl (lv_at hl 1 rfl) ?_
  refine g_M_52 hx hb hts hown hK hP hwf hj0 (hts _ u_1793) d_M_toBits_17 ?_
  obtain ⟨j8, e9, h⟩ := bd_ob h
  have hj8 : j8 < N 16 := (hwf.2.1 1 j0 52 _ e9 (by decide) hj0)
  refine me_opt (j := j8) e9 ?_
  refine lv_iload_n hx hb d_M_toBits_20 rfl (lv_at hl 2 rfl) ?_
  obtain ⟨g10, h⟩ := gd_ob h
  refine me_lald hx hb hK hP hwf hj8 g10 d_M_toBits_21 ?_
  refine lv_aload_n hx hb d_M_toBits_22 rfl (lv_at hl 1 rfl) ?_
  refine g_M_54 hx hb hts hown hK hP hwf hj0 (hts _ u_1795) d_M_toBits_23 ?_
  refine me_opt (j := j1) e2 ?_
  refine lv_iload_n hx hb d_M_toBits_26 rfl (lv_at hl 2 rfl) ?_
  refine me_lald hx hb hK hP hwf hj1 g3 d_M_toBits_27 ?_
  refine lv_lxor hx hb d_M_toBits_28 ?_
  refine lv_aload_n hx hb d_M_toBits_29 rfl (lv_at hl 1 rfl) ?_
  refine g_M_53 hx hb hts hown hK hP hwf hj0 (hts _ u_1794) d_M_toBits_30 ?_
  obtain ⟨j11, e12, h⟩ := bd_ob h
  have hj11 : j11 < N 16 := (hwf.2.1 1 j0 53 _ e12 (by decide) hj0)
  refine me_opt (j := j11) e12 ?_
  refine lv_iload_n hx hb d_M_toBits_33 rfl (lv_at hl 2 rfl) ?_
  obtain ⟨g13, h⟩ := gd_ob h
  refine me_lald hx hb hK hP hwf hj11 g13 d_M_toBits_34 ?_
  refine lv_ldc2 hx hb hown (hts _ u_2071) d_M_toBits_35 ?_
  refine lv_lxor hx hb d_M_toBits_38 ?_
  refine lv_land hx hb d_M_toBits_39 ?_
  obtain ⟨v14, ev14, h⟩ := st_ob h
  refine fg_topl (y := v14) ev14.symm ?_
  refine lv_lload_n hx hb d_M_toBits_40 rfl (lv_at hl 0 rfl) ?_
  refine lv_ldc2 hx hb hown (hts _ u_2071) d_M_toBits_41 ?_
  refine lv_lxor hx hb d_M_toBits_44 ?_
  refine lv_land hx hb d_M_toBits_45 ?_
  refine lv_lconst (v := 0) hx hb d_M_toBits_46 (by decide) ?_
  refine W.lcmp hx hb d_M_toBits_47 ?_
  refine lv_if_eq (tgt := 53) hx hb d_M_toBits_48 (by decide) (fun c15 => ?_) (fun c15 => ?_)
  · have h := if_t ((lg_cmp_eq _ _).mp c15) h
    refine lv_aload_n hx hb d_M_toBits_53 rfl (lv_at hl 1 rfl) ?_
    refine g_M_52 hx hb hts hown hK hP hwf hj0 (hts _ u_1793) d_M_toBits_54 ?_
    refine me_opt (j := j8) e9 ?_
    refine lv_iload_n hx hb d_M_toBits_57 rfl (lv_at hl 2 rfl) ?_
    refine lv_aload_n hx hb d_M_toBits_58 rfl (lv_at hl 1 rfl) ?_
    refine g_M_52 hx hb hts hown hK hP hwf hj0 (hts _ u_1793) d_M_toBits_59 ?_
    refine me_opt (j := j8) e9 ?_
    refine lv_iload_n hx hb d_M_toBits_62 rfl (lv_at hl 2 rfl) ?_
    refine me_lald hx hb hK hP hwf hj8 g10 d_M_toBits_63 ?_
    refine lv_lload_n hx hb d_M_toBits_64 rfl (lv_at hl 0 rfl) ?_
    refine lv_land hx hb d_M_toBits_65 ?_
    refine lv_aload_n hx hb d_M_toBits_66 rfl (lv_at hl 1 rfl) ?_
    refine g_M_54 hx hb hts hown hK hP hwf hj0 (hts _ u_1795) d_M_toBits_67 ?_
    refine me_opt (j := j1) e2 ?_
    refine lv_iload_n hx hb d_M_toBits_70 rfl (lv_at hl 2 rfl) ?_
    refine me_lald hx hb hK hP hwf hj1 g3 d_M_toBits_71 ?_
    refine lv_lload_n hx hb d_M_toBits_72 rfl (lv_at hl 0 rfl) ?_
    refine lv_ldc2 hx hb hown (hts _ u_2071) d_M_toBits_73 ?_
    refine lv_lxor hx hb d_M_toBits_76 ?_
    refine lv_land hx hb d_M_toBits_77 ?_
    refine lv_lor hx hb d_M_toBits_78 ?_
    obtain ⟨v16, ev16, h⟩ := st_ob h
    refine fg_topl (y := v16) ev16.symm ?_
    obtain ⟨M17, eM17, h⟩ := st_ob h
    refine me_last eM17 hx hb hK hP hD hwf hS hj8 g10 d_M_toBits_79 (fun H locs hP hD hwf hS => ?_)
    have hkp := kp_L eM17 hkp
    refine lv_aload_n hx hb d_M_toBits_80 rfl (lv_at hl 1 rfl) ?_
    refine g_M_53 hx hb hts hown hK hP hwf hj0 (hts _ u_1794) d_M_toBits_81 ?_
    refine me_opt (j := j11) (kp_r hkb hkp e12) ?_
    refine lv_iload_n hx hb d_M_toBits_84 rfl (lv_at hl 2 rfl) ?_
    refine lv_aload_n hx hb d_M_toBits_85 rfl (lv_at hl 1 rfl) ?_
    refine g_M_53 hx hb hts hown hK hP hwf hj0 (hts _ u_1794) d_M_toBits_86 ?_
    refine me_opt (j := j11) (kp_r hkb hkp e12) ?_
    refine lv_iload_n hx hb d_M_toBits_89 rfl (lv_at hl 2 rfl) ?_
    refine me_lald hx hb hK hP hwf hj11 (kp_z hkb.z hkp.z g13) d_M_toBits_90 ?_
    refine lv_lload_n hx hb d_M_toBits_91 rfl (lv_at hl 0 rfl) ?_
    refine lv_land hx hb d_M_toBits_92 ?_
    obtain ⟨M18, eM18, h⟩ := st_ob h
    refine me_last eM18 hx hb hK hP hD hwf hS hj11 (kp_z hkb.z hkp.z g13) d_M_toBits_93 (fun H locs hP hD hwf hS => ?_)
    have hkp := kp_L eM18 hkp
    refine lv_aload_n hx hb d_M_toBits_94 rfl (lv_at hl 1 rfl) ?_
    refine lv_iload_n hx hb d_M_toBits_95 rfl (lv_at hl 2 rfl) ?_
    obtain ⟨M19, r20, eM19, h⟩ := b2_ob h
    refine me_theni0 (M1 := M19) (me_runV (C := "FilterGuardModel") (As := [.int x1]) (rest := []) ⟨hx, hb, hml, hown, hts⟩ (c_M_isEmpty l D ad ca N M18 M19 r20 j0 x1 eM19 hwf hj0 _) rfl (by show fg_nm y_M_isEmpty 1; decide +kernel) u_2157 u_2159 u_115 u_192 u_2160 ⟨Nat.le_of_ble_eq_true rfl, Nat.le_of_ble_eq_true rfl⟩ hX hz hK hP hD hwf hS hA hj0 (by decide) rfl rfl rfl hl.1 (Nat.le_of_ble_eq_true rfl) d_M_toBits_96 ⟨Nat.le_of_ble_eq_true rfl, Nat.le_of_ble_eq_true rfl⟩) hP hD hK hS hA rfl rfl (fun H locs hw hP hD hS => ?_)
    obtain ⟨hwf, hk9, zr20⟩ := hw
    have hkp := hkp.tr hk9
    refine lv_if_ne (tgt := 106) hx hb d_M_toBits_99 (by decide) (fun c21 => ?_) (fun c21 => ?_)
    · have h := if_f c21 h
      refine lv_iconst (v := 0) hx hb d_M_toBits_106 (by decide) ?_
      have z22 : (0 : Int32) = 1 ∨ (0 : Int32) = 0 := (by decide)
      cases h
      exact fg_retz () hx hb hr hlocks (me_nz z22) ⟨rfl, ⟨hwf, hkp, z22⟩⟩ hP (hK.sub (tys' := []) [] rfl) hD hS (Nat.le_of_ble_eq_true rfl) (Nat.le_of_ble_eq_true rfl) d_M_toBits_107
    have h := if_t c21 h
    refine lv_iconst (v := 1) hx hb d_M_toBits_102 (by decide) ?_
    refine lv_goto (tgt := 107) hx hb d_M_toBits_103 (by decide) ?_
    have z23 : (1 : Int32) = 1 ∨ (1 : Int32) = 0 := (by decide)
    cases h
    exact fg_retz () hx hb hr hlocks (me_nz z23) ⟨rfl, ⟨hwf, hkp, z23⟩⟩ hP (hK.sub (tys' := []) [] rfl) hD hS (Nat.le_of_ble_eq_true rfl) (Nat.le_of_ble_eq_true rfl) d_M_toBits_107
  have h := if_f (fun z => c15 ((lg_cmp_eq _ _).mpr z)) h
  refine lv_iconst (v := 0) hx hb d_M_toBits_51 (by decide) ?_
  have z24 : (0 : Int32) = 1 ∨ (0 : Int32) = 0 := (by decide)
  cases h
  exact fg_retz () hx hb hr hlocks (me_nz z24) ⟨rfl, ⟨hwf, hkp, z24⟩⟩ hP (hK.sub (tys' := []) [] rfl) hD hS (Nat.le_of_ble_eq_true rfl) (Nat.le_of_ble_eq_true rfl) d_M_toBits_52
theorem d_M_settle_4 : decode prog_14_method_17_code 4 = .ok (.iload_n 3, 1) := by decide +kernel
theorem d_M_settle_5 : decode prog_14_method_17_code 5 = .ok (.iconst 3, 1) := by decide +kernel
theorem d_M_settle_6 : decode prog_14_method_17_code 6 = .ok (.if_icmp .ge 51, 3) := by decide +kernel
theorem d_M_settle_57 : decode prog_14_method_17_code 57 = .ok (.iload_n 2, 1) := by decide +kernel
theorem d_M_settle_58 : decode prog_14_method_17_code 58 = .ok (.ireturn, 1) := by decide +kernel
theorem d_M_settle_9 : decode prog_14_method_17_code 9 = .ok (.iload_n 2, 1) := by decide +kernel
theorem d_M_settle_10 : decode prog_14_method_17_code 10 = .ok (.ifCond .eq 47, 3) := by decide +kernel
theorem d_M_settle_13 : decode prog_14_method_17_code 13 = .ok (.aload_n 0, 1) := by decide +kernel
theorem d_M_settle_14 : decode prog_14_method_17_code 14 = .ok (.iload_n 1, 1) := by decide +kernel
theorem d_M_settle_15 : decode prog_14_method_17_code 15 = .ok (.invokevirtual 180, 3) := by decide +kernel
theorem u_2147 : Cond.methodLink "FilterGuardModel" 180 ⟨"FilterGuardModel", "byBits", "(I)Z"⟩ ∈ fg_g := fg_in (List.mem_of_getElem? (i := 2147) (by decide +kernel)) rfl
theorem u_2150 : Cond.code ⟨"FilterGuardModel", "byBits", "(I)Z"⟩ prog_14_method_13_code 2 (some .boolean) ∈ fg_g := fg_in (List.mem_of_getElem? (i := 2150) (by decide +kernel)) rfl
theorem u_2149 : Cond.instanceMethod ⟨"FilterGuardModel", "byBits", "(I)Z"⟩ ∈ fg_g := fg_in (List.mem_of_getElem? (i := 2149) (by decide +kernel)) rfl
theorem u_114 : Cond.selects "FilterGuardModel" ⟨"FilterGuardModel", "byBits", "(I)Z"⟩ ⟨"FilterGuardModel", "byBits", "(I)Z"⟩ ∈ fg_g := fg_in (List.mem_of_getElem? (i := 114) (by decide +kernel)) rfl
theorem d_M_settle_18 : decode prog_14_method_17_code 18 = .ok (.ifCond .eq 31, 3) := by decide +kernel
theorem d_M_settle_49 : decode prog_14_method_17_code 49 = .ok (.iconst 0, 1) := by decide +kernel
theorem d_M_settle_50 : decode prog_14_method_17_code 50 = .ok (.istore_n 2, 1) := by decide +kernel
theorem d_M_settle_51 : decode prog_14_method_17_code 51 = .ok (.iinc 3 1, 3) := by decide +kernel
theorem d_M_settle_54 : decode prog_14_method_17_code 54 = .ok (.goto (-50), 3) := by decide +kernel
theorem d_M_settle_21 : decode prog_14_method_17_code 21 = .ok (.aload_n 0, 1) := by decide +kernel
theorem d_M_settle_22 : decode prog_14_method_17_code 22 = .ok (.iload_n 1, 1) := by decide +kernel
theorem d_M_settle_23 : decode prog_14_method_17_code 23 = .ok (.invokevirtual 183, 3) := by decide +kernel
theorem u_2161 : Cond.methodLink "FilterGuardModel" 183 ⟨"FilterGuardModel", "toSigned", "(I)Z"⟩ ∈ fg_g := fg_in (List.mem_of_getElem? (i := 2161) (by decide +kernel)) rfl
theorem u_2164 : Cond.code ⟨"FilterGuardModel", "toSigned", "(I)Z"⟩ prog_14_method_14_code 2 (some .boolean) ∈ fg_g := fg_in (List.mem_of_getElem? (i := 2164) (by decide +kernel)) rfl
theorem u_2163 : Cond.instanceMethod ⟨"FilterGuardModel", "toSigned", "(I)Z"⟩ ∈ fg_g := fg_in (List.mem_of_getElem? (i := 2163) (by decide +kernel)) rfl
theorem u_116 : Cond.selects "FilterGuardModel" ⟨"FilterGuardModel", "toSigned", "(I)Z"⟩ ⟨"FilterGuardModel", "toSigned", "(I)Z"⟩ ∈ fg_g := fg_in (List.mem_of_getElem? (i := 116) (by decide +kernel)) rfl
theorem d_M_settle_26 : decode prog_14_method_17_code 26 = .ok (.ifCond .eq 23, 3) := by decide +kernel
theorem d_M_settle_29 : decode prog_14_method_17_code 29 = .ok (.aload_n 0, 1) := by decide +kernel
theorem d_M_settle_30 : decode prog_14_method_17_code 30 = .ok (.iload_n 1, 1) := by decide +kernel
theorem d_M_settle_31 : decode prog_14_method_17_code 31 = .ok (.invokevirtual 186, 3) := by decide +kernel
theorem u_2165 : Cond.methodLink "FilterGuardModel" 186 ⟨"FilterGuardModel", "toUnsigned", "(I)Z"⟩ ∈ fg_g := fg_in (List.mem_of_getElem? (i := 2165) (by decide +kernel)) rfl
theorem u_2168 : Cond.code ⟨"FilterGuardModel", "toUnsigned", "(I)Z"⟩ prog_14_method_15_code 2 (some .boolean) ∈ fg_g := fg_in (List.mem_of_getElem? (i := 2168) (by decide +kernel)) rfl
theorem u_2167 : Cond.instanceMethod ⟨"FilterGuardModel", "toUnsigned", "(I)Z"⟩ ∈ fg_g := fg_in (List.mem_of_getElem? (i := 2167) (by decide +kernel)) rfl
theorem u_117 : Cond.selects "FilterGuardModel" ⟨"FilterGuardModel", "toUnsigned", "(I)Z"⟩ ⟨"FilterGuardModel", "toUnsigned", "(I)Z"⟩ ∈ fg_g := fg_in (List.mem_of_getElem? (i := 117) (by decide +kernel)) rfl
theorem d_M_settle_34 : decode prog_14_method_17_code 34 = .ok (.ifCond .eq 15, 3) := by decide +kernel
theorem d_M_settle_37 : decode prog_14_method_17_code 37 = .ok (.aload_n 0, 1) := by decide +kernel
theorem d_M_settle_38 : decode prog_14_method_17_code 38 = .ok (.iload_n 1, 1) := by decide +kernel
theorem d_M_settle_39 : decode prog_14_method_17_code 39 = .ok (.invokevirtual 189, 3) := by decide +kernel
theorem u_2169 : Cond.methodLink "FilterGuardModel" 189 ⟨"FilterGuardModel", "toBits", "(I)Z"⟩ ∈ fg_g := fg_in (List.mem_of_getElem? (i := 2169) (by decide +kernel)) rfl
theorem u_2172 : Cond.code ⟨"FilterGuardModel", "toBits", "(I)Z"⟩ prog_14_method_16_code 4 (some .boolean) ∈ fg_g := fg_in (List.mem_of_getElem? (i := 2172) (by decide +kernel)) rfl
theorem u_2171 : Cond.instanceMethod ⟨"FilterGuardModel", "toBits", "(I)Z"⟩ ∈ fg_g := fg_in (List.mem_of_getElem? (i := 2171) (by decide +kernel)) rfl
theorem u_118 : Cond.selects "FilterGuardModel" ⟨"FilterGuardModel", "toBits", "(I)Z"⟩ ⟨"FilterGuardModel", "toBits", "(I)Z"⟩ ∈ fg_g := fg_in (List.mem_of_getElem? (i := 118) (by decide +kernel)) rfl
theorem d_M_settle_42 : decode prog_14_method_17_code 42 = .ok (.ifCond .eq 7, 3) := by decide +kernel
theorem d_M_settle_45 : decode prog_14_method_17_code 45 = .ok (.iconst 1, 1) := by decide +kernel
theorem d_M_settle_46 : decode prog_14_method_17_code 46 = .ok (.goto 4, 3) := by decide +kernel
theorem d_M_settle_0 : decode prog_14_method_17_code 0 = .ok (.iconst 1, 1) := by decide +kernel
theorem d_M_settle_1 : decode prog_14_method_17_code 1 = .ok (.istore_n 2, 1) := by decide +kernel
theorem d_M_settle_2 : decode prog_14_method_17_code 2 = .ok (.iconst 0, 1) := by decide +kernel
theorem d_M_settle_3 : decode prog_14_method_17_code 3 = .ok (.istore_n 3, 1) := by decide +kernel
abbrev y_M_settle : MethodName := ⟨"FilterGuardModel", "settle", "(I)Z"⟩
def f_M_settle_l4 (j0 : Nat) (x1 : Int32) : Nat → me_M → Int32 → Int32 → Option (me_M × Int32)
  | 0, _, _, _ => none
  | fu + 1, M, y2, y3 => (if 3 ≤ y3 then some (M, y2) else (if y2 = 0 then some (M, y2) else b2 (f_M_byBits M j0 x1) (fun (M5 : me_M) (r6 : Int32) => (if r6 = 0 then f_M_settle_l4 j0 x1 fu M5 (0 : Int32) (y3 + 1) else b2 (f_M_toSigned M5 j0 x1) (fun (M8 : me_M) (r9 : Int32) => (if r9 = 0 then f_M_settle_l4 j0 x1 fu M8 (0 : Int32) (y3 + 1) else b2 (f_M_toUnsigned M8 j0 x1) (fun (M11 : me_M) (r12 : Int32) => (if r12 = 0 then f_M_settle_l4 j0 x1 fu M11 (0 : Int32) (y3 + 1) else b2 (f_M_toBits M11 j0 x1) (fun (M14 : me_M) (r15 : Int32) => (if r15 = 0 then f_M_settle_l4 j0 x1 fu M14 (0 : Int32) (y3 + 1) else f_M_settle_l4 j0 x1 fu M14 (1 : Int32) (y3 + 1)))))))))))
def f_M_settle (M0 : me_M) (j0 : Nat) (x1 : Int32) : Option (me_M × Int32) := f_M_settle_l4 j0 x1 fuel M0 (1 : Int32) (0 : Int32)
def rm_M_settle : Room := { frames := 4, cells := 0, slots := 0, locals := 87 }
abbrev q_M_settle (D : va_G) (ad : Nat → Nat → Nat) (ca : Nat → ClassId) (N : Nat → Nat) (M0 MZ : me_M) (RZ : Int32) (A : Nat → Prop) : Array Value → Jvm.State → Outcome → Jvm.State → Prop := va_Qi (fun r (_ : Unit) => r = RZ ∧ me_wf N MZ ∧ me_kp M0 MZ ∧ (RZ = 1 ∨ RZ = 0)) (fg_B D A (fun _ => me_W ad ca MZ) (fun _ => [])) A
set_option maxHeartbeats 4000000 in
set_option maxRecDepth 100000 in
theorem c_M_settle (l : Launch) (D : va_G) (ad : Nat → Nat → Nat) (ca : Nat → ClassId) (N : Nat → Nat) (M0 MZ : me_M) (RZ : Int32) (j0 : Nat) (x1 : Int32) (h : f_M_settle M0 j0 x1 = (some (MZ, RZ))) (hwf : me_wf N M0) (hj0 : j0 < N 1) (sz : Nat) : Met l y_M_settle (fg_w y_M_settle prog_14_method_17_code 4 (some .boolean)) rm_M_settle (va_Pc [.ref (ad 1 j0), .int x1] (fz_P D (me_T ca) (me_W ad ca M0) sz)) (q_M_settle D ad ca N M0 MZ RZ (va_A (me_W ad ca M0) sz)) rm_M_settle.cells rm_M_settle.slots (va_A (me_W ad ca M0) sz) := by
  refine fz_enter (fun A => q_M_settle D ad ca N M0 MZ RZ A) (by decide +kernel) (Nat.le_of_ble_eq_true rfl) ?_
  intro p e s m below meth c ls A hx hb hml hown hts hr hlocks hin hP hK hD hS hA hX hl hz
  have hl : lv_has ls 4 [(0, .ref (ad 1 j0)), (1, .int x1)] := hl
  unfold f_M_settle at h
  have hkp : me_kp M0 M0 := me_kp.rf
  have hkb := hkp
  have b_4 : ∀ (fu : Nat), ∀ (M : me_M) (y2 : Int32) (y3 : Int32) (H : Heap) (locs : List Loc) (ls : Array Slot), f_M_settle_l4 j0 x1 fu M y2 y3 = (some (MZ, RZ)) → (y2 = 1 ∨ y2 = 0) → me_wf N M → me_kp M0 M → va_P D classes (me_W ad ca M) H → va_D A (me_W ad ca M) → va_S A s.heap H locs → lv_has ls 4 [(0, .ref (ad 1 j0)), (1, .int x1), (2, .int y2), (3, .int y3)] → W p l e rm_M_settle s m [.ref (ad 1 j0), .int x1].toArray below meth c H locs 0 0 (MQ below (q_M_settle D ad ca N M0 MZ RZ A) [.ref (ad 1 j0), .int x1].toArray s rm_M_settle.cells rm_M_settle.slots A) (F0 m 4 ls []) := by
    intro fu
    induction fu with
    | zero =>
      intro M y2 y3 H locs ls h zy2 hwf hkp hP hD hS hl
      cases h
    | succ fu ih =>
      intro M y2 y3 H locs ls h zy2 hwf hkp hP hD hS hl
      unfold f_M_settle_l4 at h
      have hkb := hkp
      refine lv_iload_n hx hb d_M_settle_4 rfl (lv_at hl 3 rfl) ?_
      refine lv_iconst (v := 3) hx hb d_M_settle_5 (by decide) ?_
      refine lv_icmp_ge (tgt := 57) hx hb d_M_settle_6 (by decide) (fun c1 => ?_) (fun c1 => ?_)
      · have h := if_t c1 h
        refine lv_iload_n hx hb d_M_settle_57 rfl (lv_at hl 2 rfl) ?_
        have z2 : y2 = 1 ∨ y2 = 0 := zy2
        cases h
        exact fg_retz () hx hb hr hlocks (me_nz z2) ⟨rfl, ⟨hwf, hkp, z2⟩⟩ hP (hK.sub (tys' := []) [] rfl) hD hS (Nat.le_of_ble_eq_true rfl) (Nat.le_of_ble_eq_true rfl) d_M_settle_58
      have h := if_f c1 h
      refine lv_iload_n hx hb d_M_settle_9 rfl (lv_at hl 2 rfl) ?_
      refine lv_if_eq (tgt := 57) hx hb d_M_settle_10 (by decide) (fun c3 => ?_) (fun c3 => ?_)
      · have h := if_t c3 h
        refine lv_iload_n hx hb d_M_settle_57 rfl (lv_at hl 2 rfl) ?_
        have z4 : y2 = 1 ∨ y2 = 0 := zy2
        cases h
        exact fg_retz () hx hb hr hlocks (me_nz z4) ⟨rfl, ⟨hwf, hkp, z4⟩⟩ hP (hK.sub (tys' := []) [] rfl) hD hS (Nat.le_of_ble_eq_true rfl) (Nat.le_of_ble_eq_true rfl) d_M_settle_58
      have h := if_f c3 h
      refine lv_aload_n hx hb d_M_settle_13 rfl (lv_at hl 0 rfl) ?_
      refine lv_iload_n hx hb d_M_settle_14 rfl (lv_at hl 1 rfl) ?_
      obtain ⟨M5, r6, eM5, h⟩ := b2_ob h
      refine me_theni0 (M1 := M5) (me_runV (C := "FilterGuardModel") (As := [.int x1]) (rest := []) ⟨hx, hb, hml, hown, hts⟩ (c_M_byBits l D ad ca N M M5 r6 j0 x1 eM5 hwf hj0 _) rfl (by show fg_nm y_M_byBits 1; decide +kernel) u_2147 u_2149 u_114 u_192 u_2150 ⟨Nat.le_of_ble_eq_true rfl, Nat.le_of_ble_eq_true rfl⟩ hX hz hK hP hD hwf hS hA hj0 (by decide) rfl rfl rfl hl.1 (Nat.le_of_ble_eq_true rfl) d_M_settle_15 ⟨Nat.le_of_ble_eq_true rfl, Nat.le_of_ble_eq_true rfl⟩) hP hD hK hS hA rfl rfl (fun H locs hw hP hD hS => ?_)
      obtain ⟨hwf, hk9, zr6⟩ := hw
      have hkp := hkp.tr hk9
      refine lv_if_eq (tgt := 49) hx hb d_M_settle_18 (by decide) (fun c7 => ?_) (fun c7 => ?_)
      · have h := if_t c7 h
        refine lv_iconst (v := 0) hx hb d_M_settle_49 (by decide) ?_
        refine lv_istore_n (lv' := [(2, .int 0), (0, .ref (ad 1 j0)), (1, .int x1), (3, .int y3)]) hx hb d_M_settle_50 rfl hl (by decide) rfl (fun ls hl => ?_)
        refine lv_iinc (v := y3 + 1) (lv' := [(3, .int (y3 + 1)), (2, .int 0), (0, .ref (ad 1 j0)), (1, .int x1)]) hx hb d_M_settle_51 hl (k := 3) rfl (by rfl) (by decide) rfl (fun ls hl => ?_)
        refine lv_goto (tgt := 4) hx hb d_M_settle_54 (by decide) ?_
        exact ih M5 (0 : Int32) (y3 + 1) _ _ _ h (by decide) hwf hkp hP hD hS (lv_sub hl [2, 3, 1, 0] rfl)
      have h := if_f c7 h
      refine lv_aload_n hx hb d_M_settle_21 rfl (lv_at hl 0 rfl) ?_
      refine lv_iload_n hx hb d_M_settle_22 rfl (lv_at hl 1 rfl) ?_
      obtain ⟨M8, r9, eM8, h⟩ := b2_ob h
      refine me_theni0 (M1 := M8) (me_runV (C := "FilterGuardModel") (As := [.int x1]) (rest := []) ⟨hx, hb, hml, hown, hts⟩ (c_M_toSigned l D ad ca N M5 M8 r9 j0 x1 eM8 hwf hj0 _) rfl (by show fg_nm y_M_toSigned 1; decide +kernel) u_2161 u_2163 u_116 u_192 u_2164 ⟨Nat.le_of_ble_eq_true rfl, Nat.le_of_ble_eq_true rfl⟩ hX hz hK hP hD hwf hS hA hj0 (by decide) rfl rfl rfl hl.1 (Nat.le_of_ble_eq_true rfl) d_M_settle_23 ⟨Nat.le_of_ble_eq_true rfl, Nat.le_of_ble_eq_true rfl⟩) hP hD hK hS hA rfl rfl (fun H locs hw hP hD hS => ?_)
      obtain ⟨hwf, hk9, zr9⟩ := hw
      have hkp := hkp.tr hk9
      refine lv_if_eq (tgt := 49) hx hb d_M_settle_26 (by decide) (fun c10 => ?_) (fun c10 => ?_)
      · have h := if_t c10 h
        refine lv_iconst (v := 0) hx hb d_M_settle_49 (by decide) ?_
        refine lv_istore_n (lv' := [(2, .int 0), (0, .ref (ad 1 j0)), (1, .int x1), (3, .int y3)]) hx hb d_M_settle_50 rfl hl (by decide) rfl (fun ls hl => ?_)
        refine lv_iinc (v := y3 + 1) (lv' := [(3, .int (y3 + 1)), (2, .int 0), (0, .ref (ad 1 j0)), (1, .int x1)]) hx hb d_M_settle_51 hl (k := 3) rfl (by rfl) (by decide) rfl (fun ls hl => ?_)
        refine lv_goto (tgt := 4) hx hb d_M_settle_54 (by decide) ?_
        exact ih M8 (0 : Int32) (y3 + 1) _ _ _ h (by decide) hwf hkp hP hD hS (lv_sub hl [2, 3, 1, 0] rfl)
      have h := if_f c10 h
      refine lv_aload_n hx hb d_M_settle_29 rfl (lv_at hl 0 rfl) ?_
      refine lv_iload_n hx hb d_M_settle_30 rfl (lv_at hl 1 rfl) ?_
      obtain ⟨M11, r12, eM11, h⟩ := b2_ob h
      refine me_theni0 (M1 := M11) (me_runV (C := "FilterGuardModel") (As := [.int x1]) (rest := []) ⟨hx, hb, hml, hown, hts⟩ (c_M_toUnsigned l D ad ca N M8 M11 r12 j0 x1 eM11 hwf hj0 _) rfl (by show fg_nm y_M_toUnsigned 1; decide +kernel) u_2165 u_2167 u_117 u_192 u_2168 ⟨Nat.le_of_ble_eq_true rfl, Nat.le_of_ble_eq_true rfl⟩ hX hz hK hP hD hwf hS hA hj0 (by decide) rfl rfl rfl hl.1 (Nat.le_of_ble_eq_true rfl) d_M_settle_31 ⟨Nat.le_of_ble_eq_true rfl, Nat.le_of_ble_eq_true rfl⟩) hP hD hK hS hA rfl rfl (fun H locs hw hP hD hS => ?_)
      obtain ⟨hwf, hk9, zr12⟩ := hw
      have hkp := hkp.tr hk9
      refine lv_if_eq (tgt := 49) hx hb d_M_settle_34 (by decide) (fun c13 => ?_) (fun c13 => ?_)
      · have h := if_t c13 h
        refine lv_iconst (v := 0) hx hb d_M_settle_49 (by decide) ?_
        refine lv_istore_n (lv' := [(2, .int 0), (0, .ref (ad 1 j0)), (1, .int x1), (3, .int y3)]) hx hb d_M_settle_50 rfl hl (by decide) rfl (fun ls hl => ?_)
        refine lv_iinc (v := y3 + 1) (lv' := [(3, .int (y3 + 1)), (2, .int 0), (0, .ref (ad 1 j0)), (1, .int x1)]) hx hb d_M_settle_51 hl (k := 3) rfl (by rfl) (by decide) rfl (fun ls hl => ?_)
        refine lv_goto (tgt := 4) hx hb d_M_settle_54 (by decide) ?_
        exact ih M11 (0 : Int32) (y3 + 1) _ _ _ h (by decide) hwf hkp hP hD hS (lv_sub hl [2, 3, 1, 0] rfl)
      have h := if_f c13 h
      refine lv_aload_n hx hb d_M_settle_37 rfl (lv_at hl 0 rfl) ?_
      refine lv_iload_n hx hb d_M_settle_38 rfl (lv_at hl 1 rfl) ?_
      obtain ⟨M14, r15, eM14, h⟩ := b2_ob h
      refine me_theni0 (M1 := M14) (me_runV (C := "FilterGuardModel") (As := [.int x1]) (rest := []) ⟨hx, hb, hml, hown, hts⟩ (c_M_toBits l D ad ca N M11 M14 r15 j0 x1 eM14 hwf hj0 _) rfl (by show fg_nm y_M_toBits 1; decide +kernel) u_2169 u_2171 u_118 u_192 u_2172 ⟨Nat.le_of_ble_eq_true rfl, Nat.le_of_ble_eq_true rfl⟩ hX hz hK hP hD hwf hS hA hj0 (by decide) rfl rfl rfl hl.1 (Nat.le_of_ble_eq_true rfl) d_M_settle_39 ⟨Nat.le_of_ble_eq_true rfl, Nat.le_of_ble_eq_true rfl⟩) hP hD hK hS hA rfl rfl (fun H locs hw hP hD hS => ?_)
      obtain ⟨hwf, hk9, zr15⟩ := hw
      have hkp := hkp.tr hk9
      refine lv_if_eq (tgt := 49) hx hb d_M_settle_42 (by decide) (fun c16 => ?_) (fun c16 => ?_)
      · have h := if_t c16 h
        refine lv_iconst (v := 0) hx hb d_M_settle_49 (by decide) ?_
        refine lv_istore_n (lv' := [(2, .int 0), (0, .ref (ad 1 j0)), (1, .int x1), (3, .int y3)]) hx hb d_M_settle_50 rfl hl (by decide) rfl (fun ls hl => ?_)
        refine lv_iinc (v := y3 + 1) (lv' := [(3, .int (y3 + 1)), (2, .int 0), (0, .ref (ad 1 j0)), (1, .int x1)]) hx hb d_M_settle_51 hl (k := 3) rfl (by rfl) (by decide) rfl (fun ls hl => ?_)
        refine lv_goto (tgt := 4) hx hb d_M_settle_54 (by decide) ?_
        exact ih M14 (0 : Int32) (y3 + 1) _ _ _ h (by decide) hwf hkp hP hD hS (lv_sub hl [2, 3, 1, 0] rfl)
      have h := if_f c16 h
      refine lv_iconst (v := 1) hx hb d_M_settle_45 (by decide) ?_
      refine lv_goto (tgt := 50) hx hb d_M_settle_46 (by decide) ?_
      refine lv_istore_n (lv' := [(2, .int 1), (0, .ref (ad 1 j0)), (1, .int x1), (3, .int y3)]) hx hb d_M_settle_50 rfl hl (by decide) rfl (fun ls hl => ?_)
      refine lv_iinc (v := y3 + 1) (lv' := [(3, .int (y3 + 1)), (2, .int 1), (0, .ref (ad 1 j0)), (1, .int x1)]) hx hb d_M_settle_51 hl (k := 3) rfl (by rfl) (by decide) rfl (fun ls hl => ?_)
      refine lv_goto (tgt := 4) hx hb d_M_settle_54 (by decide) ?_
      exact ih M14 (1 : Int32) (y3 + 1) _ _ _ h (by decide) hwf hkp hP hD hS (lv_sub hl [2, 3, 1, 0] rfl)
  refine lv_iconst (v := 1) hx hb d_M_settle_0 (by decide) ?_
  refine lv_istore_n (lv' := [(2, .int 1), (0, .ref (ad 1 j0)), (1, .int x1)]) hx hb d_M_settle_1 rfl hl (by decide) rfl (fun ls hl => ?_)
  refine lv_iconst (v := 0) hx hb d_M_settle_2 (by decide) ?_
  refine lv_istore_n (lv' := [(3, .int 0), (2, .int 1), (0, .ref (ad 1 j0)), (1, .int x1)]) hx hb d_M_settle_3 rfl hl (by decide) rfl (fun ls hl => ?_)
  exact b_4 _ M0 (1 : Int32) (0 : Int32) _ _ _ h (by decide) hwf hkp hP hD hS (lv_sub hl [2, 3, 1, 0] rfl)
theorem d_M_add_256 : decode prog_14_method_18_code 256 = .ok (.istore 13, 2) := by decide +kernel
theorem d_M_add_258 : decode prog_14_method_18_code 258 = .ok (.iload 13, 2) := by decide +kernel
theorem d_M_add_260 : decode prog_14_method_18_code 260 = .ok (.ifCond .ne 23, 3) := by decide +kernel
theorem d_M_add_283 : decode prog_14_method_18_code 283 = .ok (.return_, 1) := by decide +kernel
theorem d_M_add_263 : decode prog_14_method_18_code 263 = .ok (.aload_n 0, 1) := by decide +kernel
theorem d_M_add_264 : decode prog_14_method_18_code 264 = .ok (.getfield 116, 3) := by decide +kernel
theorem d_M_add_267 : decode prog_14_method_18_code 267 = .ok (.sipush 30077, 3) := by decide +kernel
theorem d_M_add_270 : decode prog_14_method_18_code 270 = .ok (.lload 9, 2) := by decide +kernel
theorem d_M_add_272 : decode prog_14_method_18_code 272 = .ok (.lastore, 1) := by decide +kernel
theorem d_M_add_273 : decode prog_14_method_18_code 273 = .ok (.aload_n 0, 1) := by decide +kernel
theorem d_M_add_274 : decode prog_14_method_18_code 274 = .ok (.getfield 119, 3) := by decide +kernel
theorem d_M_add_277 : decode prog_14_method_18_code 277 = .ok (.sipush 30077, 3) := by decide +kernel
theorem d_M_add_280 : decode prog_14_method_18_code 280 = .ok (.lload 11, 2) := by decide +kernel
theorem d_M_add_282 : decode prog_14_method_18_code 282 = .ok (.lastore, 1) := by decide +kernel
theorem d_M_add_251 : decode prog_14_method_18_code 251 = .ok (.iconst 1, 1) := by decide +kernel
theorem d_M_add_252 : decode prog_14_method_18_code 252 = .ok (.goto 4, 3) := by decide +kernel
theorem d_M_add_157 : decode prog_14_method_18_code 157 = .ok (.aload_n 0, 1) := by decide +kernel
theorem d_M_add_158 : decode prog_14_method_18_code 158 = .ok (.getfield 116, 3) := by decide +kernel
theorem d_M_add_161 : decode prog_14_method_18_code 161 = .ok (.sipush 30075, 3) := by decide +kernel
theorem d_M_add_164 : decode prog_14_method_18_code 164 = .ok (.laload, 1) := by decide +kernel
theorem d_M_add_165 : decode prog_14_method_18_code 165 = .ok (.aload_n 0, 1) := by decide +kernel
theorem d_M_add_166 : decode prog_14_method_18_code 166 = .ok (.getfield 116, 3) := by decide +kernel
theorem d_M_add_169 : decode prog_14_method_18_code 169 = .ok (.sipush 30076, 3) := by decide +kernel
theorem d_M_add_172 : decode prog_14_method_18_code 172 = .ok (.laload, 1) := by decide +kernel
theorem d_M_add_173 : decode prog_14_method_18_code 173 = .ok (.ladd, 1) := by decide +kernel
theorem d_M_add_174 : decode prog_14_method_18_code 174 = .ok (.lstore 9, 2) := by decide +kernel
theorem d_M_add_176 : decode prog_14_method_18_code 176 = .ok (.aload_n 0, 1) := by decide +kernel
theorem d_M_add_177 : decode prog_14_method_18_code 177 = .ok (.getfield 119, 3) := by decide +kernel
theorem d_M_add_180 : decode prog_14_method_18_code 180 = .ok (.sipush 30075, 3) := by decide +kernel
theorem d_M_add_183 : decode prog_14_method_18_code 183 = .ok (.laload, 1) := by decide +kernel
theorem d_M_add_184 : decode prog_14_method_18_code 184 = .ok (.aload_n 0, 1) := by decide +kernel
theorem d_M_add_185 : decode prog_14_method_18_code 185 = .ok (.getfield 119, 3) := by decide +kernel
theorem d_M_add_188 : decode prog_14_method_18_code 188 = .ok (.sipush 30076, 3) := by decide +kernel
theorem d_M_add_191 : decode prog_14_method_18_code 191 = .ok (.laload, 1) := by decide +kernel
theorem d_M_add_192 : decode prog_14_method_18_code 192 = .ok (.ladd, 1) := by decide +kernel
theorem d_M_add_193 : decode prog_14_method_18_code 193 = .ok (.lstore 11, 2) := by decide +kernel
theorem d_M_add_195 : decode prog_14_method_18_code 195 = .ok (.aload_n 0, 1) := by decide +kernel
theorem d_M_add_196 : decode prog_14_method_18_code 196 = .ok (.getfield 116, 3) := by decide +kernel
theorem d_M_add_199 : decode prog_14_method_18_code 199 = .ok (.sipush 30075, 3) := by decide +kernel
theorem d_M_add_202 : decode prog_14_method_18_code 202 = .ok (.laload, 1) := by decide +kernel
theorem d_M_add_203 : decode prog_14_method_18_code 203 = .ok (.lload 9, 2) := by decide +kernel
theorem d_M_add_205 : decode prog_14_method_18_code 205 = .ok (.lxor, 1) := by decide +kernel
theorem d_M_add_206 : decode prog_14_method_18_code 206 = .ok (.aload_n 0, 1) := by decide +kernel
theorem d_M_add_207 : decode prog_14_method_18_code 207 = .ok (.getfield 116, 3) := by decide +kernel
theorem d_M_add_210 : decode prog_14_method_18_code 210 = .ok (.sipush 30076, 3) := by decide +kernel
theorem d_M_add_213 : decode prog_14_method_18_code 213 = .ok (.laload, 1) := by decide +kernel
theorem d_M_add_214 : decode prog_14_method_18_code 214 = .ok (.lload 9, 2) := by decide +kernel
theorem d_M_add_216 : decode prog_14_method_18_code 216 = .ok (.lxor, 1) := by decide +kernel
theorem d_M_add_217 : decode prog_14_method_18_code 217 = .ok (.land, 1) := by decide +kernel
theorem d_M_add_218 : decode prog_14_method_18_code 218 = .ok (.lconst 0, 1) := by decide +kernel
theorem d_M_add_219 : decode prog_14_method_18_code 219 = .ok (.lcmp, 1) := by decide +kernel
theorem d_M_add_220 : decode prog_14_method_18_code 220 = .ok (.ifCond .lt 31, 3) := by decide +kernel
theorem d_M_add_223 : decode prog_14_method_18_code 223 = .ok (.aload_n 0, 1) := by decide +kernel
theorem d_M_add_224 : decode prog_14_method_18_code 224 = .ok (.getfield 119, 3) := by decide +kernel
theorem d_M_add_227 : decode prog_14_method_18_code 227 = .ok (.sipush 30075, 3) := by decide +kernel
theorem d_M_add_230 : decode prog_14_method_18_code 230 = .ok (.laload, 1) := by decide +kernel
theorem d_M_add_231 : decode prog_14_method_18_code 231 = .ok (.lload 11, 2) := by decide +kernel
theorem d_M_add_233 : decode prog_14_method_18_code 233 = .ok (.lxor, 1) := by decide +kernel
theorem d_M_add_234 : decode prog_14_method_18_code 234 = .ok (.aload_n 0, 1) := by decide +kernel
theorem d_M_add_235 : decode prog_14_method_18_code 235 = .ok (.getfield 119, 3) := by decide +kernel
theorem d_M_add_238 : decode prog_14_method_18_code 238 = .ok (.sipush 30076, 3) := by decide +kernel
theorem d_M_add_241 : decode prog_14_method_18_code 241 = .ok (.laload, 1) := by decide +kernel
theorem d_M_add_242 : decode prog_14_method_18_code 242 = .ok (.lload 11, 2) := by decide +kernel
theorem d_M_add_244 : decode prog_14_method_18_code 244 = .ok (.lxor, 1) := by decide +kernel
theorem d_M_add_245 : decode prog_14_method_18_code 245 = .ok (.land, 1) := by decide +kernel
theorem d_M_add_246 : decode prog_14_method_18_code 246 = .ok (.lconst 0, 1) := by decide +kernel
theorem d_M_add_247 : decode prog_14_method_18_code 247 = .ok (.lcmp, 1) := by decide +kernel
theorem d_M_add_248 : decode prog_14_method_18_code 248 = .ok (.ifCond .ge 7, 3) := by decide +kernel
theorem d_M_add_255 : decode prog_14_method_18_code 255 = .ok (.iconst 0, 1) := by decide +kernel
theorem d_M_add_0 : decode prog_14_method_18_code 0 = .ok (.aload_n 0, 1) := by decide +kernel
theorem d_M_add_1 : decode prog_14_method_18_code 1 = .ok (.getfield 107, 3) := by decide +kernel
theorem d_M_add_4 : decode prog_14_method_18_code 4 = .ok (.sipush 30075, 3) := by decide +kernel
theorem d_M_add_7 : decode prog_14_method_18_code 7 = .ok (.laload, 1) := by decide +kernel
theorem d_M_add_8 : decode prog_14_method_18_code 8 = .ok (.aload_n 0, 1) := by decide +kernel
theorem d_M_add_9 : decode prog_14_method_18_code 9 = .ok (.getfield 107, 3) := by decide +kernel
theorem d_M_add_12 : decode prog_14_method_18_code 12 = .ok (.sipush 30076, 3) := by decide +kernel
theorem d_M_add_15 : decode prog_14_method_18_code 15 = .ok (.laload, 1) := by decide +kernel
theorem d_M_add_16 : decode prog_14_method_18_code 16 = .ok (.ladd, 1) := by decide +kernel
theorem d_M_add_17 : decode prog_14_method_18_code 17 = .ok (.lstore_n 1, 1) := by decide +kernel
theorem d_M_add_18 : decode prog_14_method_18_code 18 = .ok (.aload_n 0, 1) := by decide +kernel
theorem d_M_add_19 : decode prog_14_method_18_code 19 = .ok (.getfield 104, 3) := by decide +kernel
theorem d_M_add_22 : decode prog_14_method_18_code 22 = .ok (.sipush 30075, 3) := by decide +kernel
theorem d_M_add_25 : decode prog_14_method_18_code 25 = .ok (.laload, 1) := by decide +kernel
theorem d_M_add_26 : decode prog_14_method_18_code 26 = .ok (.aload_n 0, 1) := by decide +kernel
theorem d_M_add_27 : decode prog_14_method_18_code 27 = .ok (.getfield 104, 3) := by decide +kernel
theorem d_M_add_30 : decode prog_14_method_18_code 30 = .ok (.sipush 30076, 3) := by decide +kernel
theorem d_M_add_33 : decode prog_14_method_18_code 33 = .ok (.laload, 1) := by decide +kernel
theorem d_M_add_34 : decode prog_14_method_18_code 34 = .ok (.ladd, 1) := by decide +kernel
theorem d_M_add_35 : decode prog_14_method_18_code 35 = .ok (.lstore_n 3, 1) := by decide +kernel
theorem d_M_add_36 : decode prog_14_method_18_code 36 = .ok (.lload_n 1, 1) := by decide +kernel
theorem d_M_add_37 : decode prog_14_method_18_code 37 = .ok (.lload_n 3, 1) := by decide +kernel
theorem d_M_add_38 : decode prog_14_method_18_code 38 = .ok (.ladd, 1) := by decide +kernel
theorem d_M_add_39 : decode prog_14_method_18_code 39 = .ok (.lload_n 3, 1) := by decide +kernel
theorem d_M_add_40 : decode prog_14_method_18_code 40 = .ok (.lxor, 1) := by decide +kernel
theorem d_M_add_41 : decode prog_14_method_18_code 41 = .ok (.aload_n 0, 1) := by decide +kernel
theorem d_M_add_42 : decode prog_14_method_18_code 42 = .ok (.getfield 107, 3) := by decide +kernel
theorem d_M_add_45 : decode prog_14_method_18_code 45 = .ok (.sipush 30075, 3) := by decide +kernel
theorem d_M_add_48 : decode prog_14_method_18_code 48 = .ok (.laload, 1) := by decide +kernel
theorem d_M_add_49 : decode prog_14_method_18_code 49 = .ok (.lor, 1) := by decide +kernel
theorem d_M_add_50 : decode prog_14_method_18_code 50 = .ok (.aload_n 0, 1) := by decide +kernel
theorem d_M_add_51 : decode prog_14_method_18_code 51 = .ok (.getfield 107, 3) := by decide +kernel
theorem d_M_add_54 : decode prog_14_method_18_code 54 = .ok (.sipush 30076, 3) := by decide +kernel
theorem d_M_add_57 : decode prog_14_method_18_code 57 = .ok (.laload, 1) := by decide +kernel
theorem d_M_add_58 : decode prog_14_method_18_code 58 = .ok (.lor, 1) := by decide +kernel
theorem d_M_add_59 : decode prog_14_method_18_code 59 = .ok (.lstore 5, 2) := by decide +kernel
theorem d_M_add_61 : decode prog_14_method_18_code 61 = .ok (.aload_n 0, 1) := by decide +kernel
theorem d_M_add_62 : decode prog_14_method_18_code 62 = .ok (.getfield 107, 3) := by decide +kernel
theorem d_M_add_65 : decode prog_14_method_18_code 65 = .ok (.sipush 30077, 3) := by decide +kernel
theorem d_M_add_68 : decode prog_14_method_18_code 68 = .ok (.lload 5, 2) := by decide +kernel
theorem d_M_add_70 : decode prog_14_method_18_code 70 = .ok (.lastore, 1) := by decide +kernel
theorem d_M_add_71 : decode prog_14_method_18_code 71 = .ok (.aload_n 0, 1) := by decide +kernel
theorem d_M_add_72 : decode prog_14_method_18_code 72 = .ok (.getfield 104, 3) := by decide +kernel
theorem d_M_add_75 : decode prog_14_method_18_code 75 = .ok (.sipush 30077, 3) := by decide +kernel
theorem d_M_add_78 : decode prog_14_method_18_code 78 = .ok (.lload_n 3, 1) := by decide +kernel
theorem d_M_add_79 : decode prog_14_method_18_code 79 = .ok (.lload 5, 2) := by decide +kernel
theorem d_M_add_81 : decode prog_14_method_18_code 81 = .ok (.ldc2_w 162, 3) := by decide +kernel
theorem d_M_add_84 : decode prog_14_method_18_code 84 = .ok (.lxor, 1) := by decide +kernel
theorem d_M_add_85 : decode prog_14_method_18_code 85 = .ok (.land, 1) := by decide +kernel
theorem d_M_add_86 : decode prog_14_method_18_code 86 = .ok (.lastore, 1) := by decide +kernel
theorem d_M_add_87 : decode prog_14_method_18_code 87 = .ok (.aload_n 0, 1) := by decide +kernel
theorem d_M_add_88 : decode prog_14_method_18_code 88 = .ok (.getfield 113, 3) := by decide +kernel
theorem d_M_add_91 : decode prog_14_method_18_code 91 = .ok (.sipush 30075, 3) := by decide +kernel
theorem d_M_add_94 : decode prog_14_method_18_code 94 = .ok (.laload, 1) := by decide +kernel
theorem d_M_add_95 : decode prog_14_method_18_code 95 = .ok (.aload_n 0, 1) := by decide +kernel
theorem d_M_add_96 : decode prog_14_method_18_code 96 = .ok (.getfield 113, 3) := by decide +kernel
theorem d_M_add_99 : decode prog_14_method_18_code 99 = .ok (.sipush 30076, 3) := by decide +kernel
theorem d_M_add_102 : decode prog_14_method_18_code 102 = .ok (.laload, 1) := by decide +kernel
theorem d_M_add_103 : decode prog_14_method_18_code 103 = .ok (.ladd, 1) := by decide +kernel
theorem d_M_add_104 : decode prog_14_method_18_code 104 = .ok (.lstore 7, 2) := by decide +kernel
theorem d_M_add_106 : decode prog_14_method_18_code 106 = .ok (.lload 7, 2) := by decide +kernel
theorem d_M_add_108 : decode prog_14_method_18_code 108 = .ok (.aload_n 0, 1) := by decide +kernel
theorem d_M_add_109 : decode prog_14_method_18_code 109 = .ok (.getfield 113, 3) := by decide +kernel
theorem d_M_add_112 : decode prog_14_method_18_code 112 = .ok (.sipush 30075, 3) := by decide +kernel
theorem d_M_add_115 : decode prog_14_method_18_code 115 = .ok (.laload, 1) := by decide +kernel
theorem d_M_add_116 : decode prog_14_method_18_code 116 = .ok (.invokestatic 158, 3) := by decide +kernel
theorem d_M_add_119 : decode prog_14_method_18_code 119 = .ok (.ifCond .ne 38, 3) := by decide +kernel
theorem d_M_add_122 : decode prog_14_method_18_code 122 = .ok (.aload_n 0, 1) := by decide +kernel
theorem d_M_add_123 : decode prog_14_method_18_code 123 = .ok (.getfield 110, 3) := by decide +kernel
theorem d_M_add_126 : decode prog_14_method_18_code 126 = .ok (.sipush 30077, 3) := by decide +kernel
theorem d_M_add_129 : decode prog_14_method_18_code 129 = .ok (.aload_n 0, 1) := by decide +kernel
theorem d_M_add_130 : decode prog_14_method_18_code 130 = .ok (.getfield 110, 3) := by decide +kernel
theorem d_M_add_133 : decode prog_14_method_18_code 133 = .ok (.sipush 30075, 3) := by decide +kernel
theorem d_M_add_136 : decode prog_14_method_18_code 136 = .ok (.laload, 1) := by decide +kernel
theorem d_M_add_137 : decode prog_14_method_18_code 137 = .ok (.aload_n 0, 1) := by decide +kernel
theorem d_M_add_138 : decode prog_14_method_18_code 138 = .ok (.getfield 110, 3) := by decide +kernel
theorem d_M_add_141 : decode prog_14_method_18_code 141 = .ok (.sipush 30076, 3) := by decide +kernel
theorem d_M_add_144 : decode prog_14_method_18_code 144 = .ok (.laload, 1) := by decide +kernel
theorem d_M_add_145 : decode prog_14_method_18_code 145 = .ok (.ladd, 1) := by decide +kernel
theorem d_M_add_146 : decode prog_14_method_18_code 146 = .ok (.lastore, 1) := by decide +kernel
theorem d_M_add_147 : decode prog_14_method_18_code 147 = .ok (.aload_n 0, 1) := by decide +kernel
theorem d_M_add_148 : decode prog_14_method_18_code 148 = .ok (.getfield 113, 3) := by decide +kernel
theorem d_M_add_151 : decode prog_14_method_18_code 151 = .ok (.sipush 30077, 3) := by decide +kernel
theorem d_M_add_154 : decode prog_14_method_18_code 154 = .ok (.lload 7, 2) := by decide +kernel
theorem d_M_add_156 : decode prog_14_method_18_code 156 = .ok (.lastore, 1) := by decide +kernel
abbrev y_M_add : MethodName := ⟨"FilterGuardModel", "add", "()V"⟩
def f_M_add_b256 (j0 : Nat) (M : me_M) (y9 : Int64) (y11 : Int64) (s0 : Int32) : Option me_M := (if s0 = 0 then bd (mR M 1 j0 56) (fun (j2 : Nat) => gd (30077 < mZ M 16 j2) (st (wL M 16 j2 30077 y9) (fun (M5 : me_M) => bd (mR M 1 j0 57) (fun (j6 : Nat) => gd (30077 < mZ M 16 j6) (st (wL M5 16 j6 30077 y11) (fun (M9 : me_M) => some M9)))))) else some M)
def f_M_add_b251 (j0 : Nat) (M : me_M) (y9 : Int64) (y11 : Int64) : Option me_M := f_M_add_b256 j0 M y9 y11 (1 : Int32)
def f_M_add_b157 (j0 : Nat) (M : me_M) : Option me_M := bd (mR M 1 j0 56) (fun (j10 : Nat) => gd (30075 < mZ M 16 j10) (gd (30076 < mZ M 16 j10) (st ((mL M 16 j10 30075) + (mL M 16 j10 30076)) (fun (v14 : Int64) => bd (mR M 1 j0 57) (fun (j15 : Nat) => gd (30075 < mZ M 16 j15) (gd (30076 < mZ M 16 j15) (st ((mL M 16 j15 30075) + (mL M 16 j15 30076)) (fun (v19 : Int64) => (if (((mL M 16 j10 30075) ^^^ v14) &&& ((mL M 16 j10 30076) ^^^ v14)) < 0 then f_M_add_b251 j0 M v14 v19 else (if (((mL M 16 j15 30075) ^^^ v19) &&& ((mL M 16 j15 30076) ^^^ v19)) < 0 then f_M_add_b251 j0 M v14 v19 else f_M_add_b256 j0 M v14 v19 (0 : Int32)))))))))))
def f_M_add (M0 : me_M) (j0 : Nat) : Option me_M := bd (mR M0 1 j0 53) (fun (j22 : Nat) => gd (30075 < mZ M0 16 j22) (gd (30076 < mZ M0 16 j22) (st ((mL M0 16 j22 30075) + (mL M0 16 j22 30076)) (fun (v26 : Int64) => bd (mR M0 1 j0 52) (fun (j27 : Nat) => gd (30075 < mZ M0 16 j27) (gd (30076 < mZ M0 16 j27) (st ((mL M0 16 j27 30075) + (mL M0 16 j27 30076)) (fun (v31 : Int64) => st ((((v26 + v31) ^^^ v31) ||| (mL M0 16 j22 30075)) ||| (mL M0 16 j22 30076)) (fun (v32 : Int64) => gd (30077 < mZ M0 16 j22) (st (wL M0 16 j22 30077 v32) (fun (M34 : me_M) => gd (30077 < mZ M0 16 j27) (st (wL M34 16 j27 30077 (v31 &&& (v32 ^^^ (-1)))) (fun (M36 : me_M) => bd (mR M0 1 j0 55) (fun (j37 : Nat) => gd (30075 < mZ M0 16 j37) (gd (30076 < mZ M0 16 j37) (st ((mL M36 16 j37 30075) + (mL M36 16 j37 30076)) (fun (v41 : Int64) => bd (f_M_below v41 (mL M36 16 j37 30075)) (fun (r42 : Int32) => (if r42 = 0 then bd (mR M0 1 j0 54) (fun (j44 : Nat) => gd (30075 < mZ M0 16 j44) (gd (30076 < mZ M0 16 j44) (gd (30077 < mZ M0 16 j44) (st (wL M36 16 j44 30077 ((mL M36 16 j44 30075) + (mL M36 16 j44 30076))) (fun (M49 : me_M) => gd (30077 < mZ M0 16 j37) (st (wL M49 16 j37 30077 v41) (fun (M51 : me_M) => f_M_add_b157 j0 M51))))))) else f_M_add_b157 j0 M36)))))))))))))))))))
def rm_M_add : Room := { frames := 2, cells := 0, slots := 0, locals := 43 }
abbrev q_M_add (D : va_G) (ad : Nat → Nat → Nat) (ca : Nat → ClassId) (N : Nat → Nat) (M0 MZ : me_M) (A : Nat → Prop) : Array Value → Jvm.State → Outcome → Jvm.State → Prop := va_Qv (fun (_ : Unit) => me_wf N MZ ∧ me_kp M0 MZ) (fg_B D A (fun _ => me_W ad ca MZ) (fun _ => [])) A
set_option maxHeartbeats 4000000 in
set_option maxRecDepth 100000 in
theorem c_M_add (l : Launch) (D : va_G) (ad : Nat → Nat → Nat) (ca : Nat → ClassId) (N : Nat → Nat) (M0 MZ : me_M) (j0 : Nat) (h : f_M_add M0 j0 = (some MZ)) (hwf : me_wf N M0) (hj0 : j0 < N 1) (sz : Nat) : Met l y_M_add (fg_w y_M_add prog_14_method_18_code 14 none) rm_M_add (va_Pc [.ref (ad 1 j0)] (fz_P D (me_T ca) (me_W ad ca M0) sz)) (q_M_add D ad ca N M0 MZ (va_A (me_W ad ca M0) sz)) rm_M_add.cells rm_M_add.slots (va_A (me_W ad ca M0) sz) := by
  refine fz_enter (fun A => q_M_add D ad ca N M0 MZ A) (by decide +kernel) (Nat.le_of_ble_eq_true rfl) ?_
  intro p e s m below meth c ls A hx hb hml hown hts hr hlocks hin hP hK hD hS hA hX hl hz
  have hl : lv_has ls 14 [(0, .ref (ad 1 j0))] := hl
  unfold f_M_add at h
  have hkp : me_kp M0 M0 := me_kp.rf
  have hkb := hkp
  have b_256 : ∀ (M : me_M) (y9 : Int64) (y11 : Int64) (s0 : Int32) (H : Heap) (locs : List Loc) (ls : Array Slot), f_M_add_b256 j0 M y9 y11 s0 = (some MZ) → (s0 = 1 ∨ s0 = 0) → me_wf N M → me_kp M0 M → va_P D classes (me_W ad ca M) H → va_D A (me_W ad ca M) → va_S A s.heap H locs → lv_has ls 14 [(0, .ref (ad 1 j0)), (9, .long y9), (11, .long y11)] → W p l e rm_M_add s m [.ref (ad 1 j0)].toArray below meth c H locs 0 0 (MQ below (q_M_add D ad ca N M0 MZ A) [.ref (ad 1 j0)].toArray s rm_M_add.cells rm_M_add.slots A) (F0 m 256 ls [.int s0]) := by
    intro M y9 y11 s0 H locs ls h zs0 hwf hkp hP hD hS hl
    unfold f_M_add_b256 at h
    have hkb := hkp
    refine lv_istore (lv' := [(13, .int s0), (0, .ref (ad 1 j0)), (9, .long y9), (11, .long y11)]) hx hb d_M_add_256 hl (by decide) rfl (fun ls hl => ?_)
    refine lv_iload hx hb d_M_add_258 (lv_at hl 0 rfl) ?_
    refine lv_if_ne (tgt := 283) hx hb d_M_add_260 (by decide) (fun c1 => ?_) (fun c1 => ?_)
    · have h := if_f c1 h
      cases h
      exact fg_retv () hx hb hr hlocks ⟨hwf, hkp⟩ hP (hK.sub (tys' := []) [] rfl) hD hS (Nat.le_of_ble_eq_true rfl) (Nat.le_of_ble_eq_true rfl) d_M_add_283
    have h := if_t c1 h
    refine lv_aload_n hx hb d_M_add_263 rfl (lv_at hl 1 rfl) ?_
    refine g_M_56 hx hb hts hown hK hP hwf hj0 (hts _ u_1797) d_M_add_264 ?_
    obtain ⟨j2, e3, h⟩ := bd_ob h
    have hj2 : j2 < N 16 := (hwf.2.1 1 j0 56 _ e3 (by decide) hj0)
    refine me_opt (j := j2) e3 ?_
    refine lv_sipush (v := 30077) hx hb d_M_add_267 (by decide) ?_
    refine lv_lload hx hb d_M_add_270 (lv_at hl 2 rfl) ?_
    obtain ⟨g4, h⟩ := gd_ob h
    obtain ⟨M5, eM5, h⟩ := st_ob h
    refine me_last (eM5.trans (by rw [show (30077 : Int32).toNatClampNeg = 30077 by decide])) hx hb hK hP hD hwf hS hj2 (me_in (i := (30077 : Int32)) (k := 30077) (by decide) (by decide) g4) d_M_add_272 (fun H locs hP hD hwf hS => ?_)
    have hkp := kp_L eM5 hkp
    refine lv_aload_n hx hb d_M_add_273 rfl (lv_at hl 1 rfl) ?_
    refine g_M_57 hx hb hts hown hK hP hwf hj0 (hts _ u_1798) d_M_add_274 ?_
    obtain ⟨j6, e7, h⟩ := bd_ob h
    have hj6 : j6 < N 16 := (hwf.2.1 1 j0 57 _ (kp_r hkb hkp e7) (by decide) hj0)
    refine me_opt (j := j6) (kp_r hkb hkp e7) ?_
    refine lv_sipush (v := 30077) hx hb d_M_add_277 (by decide) ?_
    refine lv_lload hx hb d_M_add_280 (lv_at hl 3 rfl) ?_
    obtain ⟨g8, h⟩ := gd_ob h
    obtain ⟨M9, eM9, h⟩ := st_ob h
    refine me_last (eM9.trans (by rw [show (30077 : Int32).toNatClampNeg = 30077 by decide])) hx hb hK hP hD hwf hS hj6 (me_in (i := (30077 : Int32)) (k := 30077) (by decide) (by decide) (kp_c hkb.z hkp.z g8)) d_M_add_282 (fun H locs hP hD hwf hS => ?_)
    have hkp := kp_L eM9 hkp
    cases h
    exact fg_retv () hx hb hr hlocks ⟨hwf, hkp⟩ hP (hK.sub (tys' := []) [] rfl) hD hS (Nat.le_of_ble_eq_true rfl) (Nat.le_of_ble_eq_true rfl) d_M_add_283
  have b_251 : ∀ (M : me_M) (y9 : Int64) (y11 : Int64) (H : Heap) (locs : List Loc) (ls : Array Slot), f_M_add_b251 j0 M y9 y11 = (some MZ) → me_wf N M → me_kp M0 M → va_P D classes (me_W ad ca M) H → va_D A (me_W ad ca M) → va_S A s.heap H locs → lv_has ls 14 [(0, .ref (ad 1 j0)), (9, .long y9), (11, .long y11)] → W p l e rm_M_add s m [.ref (ad 1 j0)].toArray below meth c H locs 0 0 (MQ below (q_M_add D ad ca N M0 MZ A) [.ref (ad 1 j0)].toArray s rm_M_add.cells rm_M_add.slots A) (F0 m 251 ls []) := by
    intro M y9 y11 H locs ls h hwf hkp hP hD hS hl
    unfold f_M_add_b251 at h
    have hkb := hkp
    refine lv_iconst (v := 1) hx hb d_M_add_251 (by decide) ?_
    refine lv_goto (tgt := 256) hx hb d_M_add_252 (by decide) ?_
    exact b_256 M y9 y11 (1 : Int32) _ _ _ h (by decide) hwf hkp hP hD hS (lv_sub hl [0, 1, 2] rfl)
  have b_157 : ∀ (M : me_M) (H : Heap) (locs : List Loc) (ls : Array Slot), f_M_add_b157 j0 M = (some MZ) → me_wf N M → me_kp M0 M → va_P D classes (me_W ad ca M) H → va_D A (me_W ad ca M) → va_S A s.heap H locs → lv_has ls 14 [(0, .ref (ad 1 j0))] → W p l e rm_M_add s m [.ref (ad 1 j0)].toArray below meth c H locs 0 0 (MQ below (q_M_add D ad ca N M0 MZ A) [.ref (ad 1 j0)].toArray s rm_M_add.cells rm_M_add.slots A) (F0 m 157 ls []) := by
    intro M H locs ls h hwf hkp hP hD hS hl
    unfold f_M_add_b157 at h
    have hkb := hkp
    refine lv_aload_n hx hb d_M_add_157 rfl (lv_at hl 0 rfl) ?_
    refine g_M_56 hx hb hts hown hK hP hwf hj0 (hts _ u_1797) d_M_add_158 ?_
    obtain ⟨j10, e11, h⟩ := bd_ob h
    have hj10 : j10 < N 16 := (hwf.2.1 1 j0 56 _ e11 (by decide) hj0)
    refine me_opt (j := j10) e11 ?_
    refine lv_sipush (v := 30075) hx hb d_M_add_161 (by decide) ?_
    obtain ⟨g12, h⟩ := gd_ob h
    refine me_lald hx hb hK hP hwf hj10 (me_in (i := (30075 : Int32)) (k := 30075) (by decide) (by decide) g12) d_M_add_164 ?_
    refine fg_topl (y := mL M 16 j10 30075) (congrArg _ (by decide)) ?_
    refine lv_aload_n hx hb d_M_add_165 rfl (lv_at hl 0 rfl) ?_
    refine g_M_56 hx hb hts hown hK hP hwf hj0 (hts _ u_1797) d_M_add_166 ?_
    refine me_opt (j := j10) e11 ?_
    refine lv_sipush (v := 30076) hx hb d_M_add_169 (by decide) ?_
    obtain ⟨g13, h⟩ := gd_ob h
    refine me_lald hx hb hK hP hwf hj10 (me_in (i := (30076 : Int32)) (k := 30076) (by decide) (by decide) g13) d_M_add_172 ?_
    refine fg_topl (y := mL M 16 j10 30076) (congrArg _ (by decide)) ?_
    refine lv_ladd hx hb d_M_add_173 ?_
    obtain ⟨v14, ev14, h⟩ := st_ob h
    refine fg_topl (y := v14) ev14.symm ?_
    refine lv_lstore (lv' := [(9, .long v14), (0, .ref (ad 1 j0))]) hx hb d_M_add_174 hl (by decide) rfl (fun ls hl => ?_)
    refine lv_aload_n hx hb d_M_add_176 rfl (lv_at hl 1 rfl) ?_
    refine g_M_57 hx hb hts hown hK hP hwf hj0 (hts _ u_1798) d_M_add_177 ?_
    obtain ⟨j15, e16, h⟩ := bd_ob h
    have hj15 : j15 < N 16 := (hwf.2.1 1 j0 57 _ e16 (by decide) hj0)
    refine me_opt (j := j15) e16 ?_
    refine lv_sipush (v := 30075) hx hb d_M_add_180 (by decide) ?_
    obtain ⟨g17, h⟩ := gd_ob h
    refine me_lald hx hb hK hP hwf hj15 (me_in (i := (30075 : Int32)) (k := 30075) (by decide) (by decide) g17) d_M_add_183 ?_
    refine fg_topl (y := mL M 16 j15 30075) (congrArg _ (by decide)) ?_
    refine lv_aload_n hx hb d_M_add_184 rfl (lv_at hl 1 rfl) ?_
    refine g_M_57 hx hb hts hown hK hP hwf hj0 (hts _ u_1798) d_M_add_185 ?_
    refine me_opt (j := j15) e16 ?_
    refine lv_sipush (v := 30076) hx hb d_M_add_188 (by decide) ?_
    obtain ⟨g18, h⟩ := gd_ob h
    refine me_lald hx hb hK hP hwf hj15 (me_in (i := (30076 : Int32)) (k := 30076) (by decide) (by decide) g18) d_M_add_191 ?_
    refine fg_topl (y := mL M 16 j15 30076) (congrArg _ (by decide)) ?_
    refine lv_ladd hx hb d_M_add_192 ?_
    obtain ⟨v19, ev19, h⟩ := st_ob h
    refine fg_topl (y := v19) ev19.symm ?_
    refine lv_lstore (lv' := [(11, .long v19), (9, .long v14), (0, .ref (ad 1 j0))]) hx hb d_M_add_193 hl (by decide) rfl (fun ls hl => ?_)
    refine lv_aload_n hx hb d_M_add_195 rfl (lv_at hl 2 rfl) ?_
    refine g_M_56 hx hb hts hown hK hP hwf hj0 (hts _ u_1797) d_M_add_196 ?_
    refine me_opt (j := j10) e11 ?_
    refine lv_sipush (v := 30075) hx hb d_M_add_199 (by decide) ?_
    refine me_lald hx hb hK hP hwf hj10 (me_in (i := (30075 : Int32)) (k := 30075) (by decide) (by decide) g12) d_M_add_202 ?_
    refine fg_topl (y := mL M 16 j10 30075) (congrArg _ (by decide)) ?_
    refine lv_lload hx hb d_M_add_203 (lv_at hl 1 rfl) ?_
    refine lv_lxor hx hb d_M_add_205 ?_
    refine lv_aload_n hx hb d_M_add_206 rfl (lv_at hl 2 rfl) ?_
    refine g_M_56 hx hb hts hown hK hP hwf hj0 (hts _ u_1797) d_M_add_207 ?_
    refine me_opt (j := j10) e11 ?_
    refine lv_sipush (v := 30076) hx hb d_M_add_210 (by decide) ?_
    refine me_lald hx hb hK hP hwf hj10 (me_in (i := (30076 : Int32)) (k := 30076) (by decide) (by decide) g13) d_M_add_213 ?_
    refine fg_topl (y := mL M 16 j10 30076) (congrArg _ (by decide)) ?_
    refine lv_lload hx hb d_M_add_214 (lv_at hl 1 rfl) ?_
    refine lv_lxor hx hb d_M_add_216 ?_
    refine lv_land hx hb d_M_add_217 ?_
    refine lv_lconst (v := 0) hx hb d_M_add_218 (by decide) ?_
    refine W.lcmp hx hb d_M_add_219 ?_
    refine lv_if_lt (tgt := 251) hx hb d_M_add_220 (by decide) (fun c20 => ?_) (fun c20 => ?_)
    · have h := if_t ((lg_cmp_lt _ _).mp c20) h
      exact b_251 M v14 v19 _ _ _ h hwf hkp hP hD hS (lv_sub hl [2, 1, 0] rfl)
    have h := if_f (fun z => c20 ((lg_cmp_lt _ _).mpr z)) h
    refine lv_aload_n hx hb d_M_add_223 rfl (lv_at hl 2 rfl) ?_
    refine g_M_57 hx hb hts hown hK hP hwf hj0 (hts _ u_1798) d_M_add_224 ?_
    refine me_opt (j := j15) e16 ?_
    refine lv_sipush (v := 30075) hx hb d_M_add_227 (by decide) ?_
    refine me_lald hx hb hK hP hwf hj15 (me_in (i := (30075 : Int32)) (k := 30075) (by decide) (by decide) g17) d_M_add_230 ?_
    refine fg_topl (y := mL M 16 j15 30075) (congrArg _ (by decide)) ?_
    refine lv_lload hx hb d_M_add_231 (lv_at hl 0 rfl) ?_
    refine lv_lxor hx hb d_M_add_233 ?_
    refine lv_aload_n hx hb d_M_add_234 rfl (lv_at hl 2 rfl) ?_
    refine g_M_57 hx hb hts hown hK hP hwf hj0 (hts _ u_1798) d_M_add_235 ?_
    refine me_opt (j := j15) e16 ?_
    refine lv_sipush (v := 30076) hx hb d_M_add_238 (by decide) ?_
    refine me_lald hx hb hK hP hwf hj15 (me_in (i := (30076 : Int32)) (k := 30076) (by decide) (by decide) g18) d_M_add_241 ?_
    refine fg_topl (y := mL M 16 j15 30076) (congrArg _ (by decide)) ?_
    refine lv_lload hx hb d_M_add_242 (lv_at hl 0 rfl) ?_
    refine lv_lxor hx hb d_M_add_244 ?_
    refine lv_land hx hb d_M_add_245 ?_
    refine lv_lconst (v := 0) hx hb d_M_add_246 (by decide) ?_
    refine W.lcmp hx hb d_M_add_247 ?_
    refine lv_if_ge (tgt := 255) hx hb d_M_add_248 (by decide) (fun c21 => ?_) (fun c21 => ?_)
    · have h := if_f (Int64.not_lt.mpr ((lg_cmp_ge _ _).mp c21)) h
      refine lv_iconst (v := 0) hx hb d_M_add_255 (by decide) ?_
      exact b_256 M v14 v19 (0 : Int32) _ _ _ h (by decide) hwf hkp hP hD hS (lv_sub hl [2, 1, 0] rfl)
    have h := if_t (Int64.not_le.mp (fun z => c21 ((lg_cmp_ge _ _).mpr z))) h
    exact b_251 M v14 v19 _ _ _ h hwf hkp hP hD hS (lv_sub hl [2, 1, 0] rfl)
  refine lv_aload_n hx hb d_M_add_0 rfl (lv_at hl 0 rfl) ?_
  refine g_M_53 hx hb hts hown hK hP hwf hj0 (hts _ u_1794) d_M_add_1 ?_
  obtain ⟨j22, e23, h⟩ := bd_ob h
  have hj22 : j22 < N 16 := (hwf.2.1 1 j0 53 _ e23 (by decide) hj0)
  refine me_opt (j := j22) e23 ?_
  refine lv_sipush (v := 30075) hx hb d_M_add_4 (by decide) ?_
  obtain ⟨g24, h⟩ := gd_ob h
  refine me_lald hx hb hK hP hwf hj22 (me_in (i := (30075 : Int32)) (k := 30075) (by decide) (by decide) g24) d_M_add_7 ?_
  refine fg_topl (y := mL M0 16 j22 30075) (congrArg _ (by decide)) ?_
  refine lv_aload_n hx hb d_M_add_8 rfl (lv_at hl 0 rfl) ?_
  refine g_M_53 hx hb hts hown hK hP hwf hj0 (hts _ u_1794) d_M_add_9 ?_
  refine me_opt (j := j22) e23 ?_
  refine lv_sipush (v := 30076) hx hb d_M_add_12 (by decide) ?_
  obtain ⟨g25, h⟩ := gd_ob h
  refine me_lald hx hb hK hP hwf hj22 (me_in (i := (30076 : Int32)) (k := 30076) (by decide) (by decide) g25) d_M_add_15 ?_
  refine fg_topl (y := mL M0 16 j22 30076) (congrArg _ (by decide)) ?_
  refine lv_ladd hx hb d_M_add_16 ?_
  obtain ⟨v26, ev26, h⟩ := st_ob h
  refine fg_topl (y := v26) ev26.symm ?_
  refine lv_lstore_n (lv' := [(1, .long v26), (0, .ref (ad 1 j0))]) hx hb d_M_add_17 rfl hl (by decide) rfl (fun ls hl => ?_)
  refine lv_aload_n hx hb d_M_add_18 rfl (lv_at hl 1 rfl) ?_
  refine g_M_52 hx hb hts hown hK hP hwf hj0 (hts _ u_1793) d_M_add_19 ?_
  obtain ⟨j27, e28, h⟩ := bd_ob h
  have hj27 : j27 < N 16 := (hwf.2.1 1 j0 52 _ e28 (by decide) hj0)
  refine me_opt (j := j27) e28 ?_
  refine lv_sipush (v := 30075) hx hb d_M_add_22 (by decide) ?_
  obtain ⟨g29, h⟩ := gd_ob h
  refine me_lald hx hb hK hP hwf hj27 (me_in (i := (30075 : Int32)) (k := 30075) (by decide) (by decide) g29) d_M_add_25 ?_
  refine fg_topl (y := mL M0 16 j27 30075) (congrArg _ (by decide)) ?_
  refine lv_aload_n hx hb d_M_add_26 rfl (lv_at hl 1 rfl) ?_
  refine g_M_52 hx hb hts hown hK hP hwf hj0 (hts _ u_1793) d_M_add_27 ?_
  refine me_opt (j := j27) e28 ?_
  refine lv_sipush (v := 30076) hx hb d_M_add_30 (by decide) ?_
  obtain ⟨g30, h⟩ := gd_ob h
  refine me_lald hx hb hK hP hwf hj27 (me_in (i := (30076 : Int32)) (k := 30076) (by decide) (by decide) g30) d_M_add_33 ?_
  refine fg_topl (y := mL M0 16 j27 30076) (congrArg _ (by decide)) ?_
  refine lv_ladd hx hb d_M_add_34 ?_
  obtain ⟨v31, ev31, h⟩ := st_ob h
  refine fg_topl (y := v31) ev31.symm ?_
  refine lv_lstore_n (lv' := [(3, .long v31), (1, .long v26), (0, .ref (ad 1 j0))]) hx hb d_M_add_35 rfl hl (by decide) rfl (fun ls hl => ?_)
  refine lv_lload_n hx hb d_M_add_36 rfl (lv_at hl 1 rfl) ?_
  refine lv_lload_n hx hb d_M_add_37 rfl (lv_at hl 0 rfl) ?_
  refine lv_ladd hx hb d_M_add_38 ?_
  refine lv_lload_n hx hb d_M_add_39 rfl (lv_at hl 0 rfl) ?_
  refine lv_lxor hx hb d_M_add_40 ?_
  refine lv_aload_n hx hb d_M_add_41 rfl (lv_at hl 2 rfl) ?_
  refine g_M_53 hx hb hts hown hK hP hwf hj0 (hts _ u_1794) d_M_add_42 ?_
  refine me_opt (j := j22) e23 ?_
  refine lv_sipush (v := 30075) hx hb d_M_add_45 (by decide) ?_
  refine me_lald hx hb hK hP hwf hj22 (me_in (i := (30075 : Int32)) (k := 30075) (by decide) (by decide) g24) d_M_add_48 ?_
  refine fg_topl (y := mL M0 16 j22 30075) (congrArg _ (by decide)) ?_
  refine lv_lor hx hb d_M_add_49 ?_
  refine lv_aload_n hx hb d_M_add_50 rfl (lv_at hl 2 rfl) ?_
  refine g_M_53 hx hb hts hown hK hP hwf hj0 (hts _ u_1794) d_M_add_51 ?_
  refine me_opt (j := j22) e23 ?_
  refine lv_sipush (v := 30076) hx hb d_M_add_54 (by decide) ?_
  refine me_lald hx hb hK hP hwf hj22 (me_in (i := (30076 : Int32)) (k := 30076) (by decide) (by decide) g25) d_M_add_57 ?_
  refine fg_topl (y := mL M0 16 j22 30076) (congrArg _ (by decide)) ?_
  refine lv_lor hx hb d_M_add_58 ?_
  obtain ⟨v32, ev32, h⟩ := st_ob h
  refine fg_topl (y := v32) ev32.symm ?_
  refine lv_lstore (lv' := [(5, .long v32), (3, .long v31), (1, .long v26), (0, .ref (ad 1 j0))]) hx hb d_M_add_59 hl (by decide) rfl (fun ls hl => ?_)
  refine lv_aload_n hx hb d_M_add_61 rfl (lv_at hl 3 rfl) ?_
  refine g_M_53 hx hb hts hown hK hP hwf hj0 (hts _ u_1794) d_M_add_62 ?_
  refine me_opt (j := j22) e23 ?_
  refine lv_sipush (v := 30077) hx hb d_M_add_65 (by decide) ?_
  refine lv_lload hx hb d_M_add_68 (lv_at hl 0 rfl) ?_
  obtain ⟨g33, h⟩ := gd_ob h
  obtain ⟨M34, eM34, h⟩ := st_ob h
  refine me_last (eM34.trans (by rw [show (30077 : Int32).toNatClampNeg = 30077 by decide])) hx hb hK hP hD hwf hS hj22 (me_in (i := (30077 : Int32)) (k := 30077) (by decide) (by decide) g33) d_M_add_70 (fun H locs hP hD hwf hS => ?_)
  have hkp := kp_L eM34 hkp
  refine lv_aload_n hx hb d_M_add_71 rfl (lv_at hl 3 rfl) ?_
  refine g_M_52 hx hb hts hown hK hP hwf hj0 (hts _ u_1793) d_M_add_72 ?_
  refine me_opt (j := j27) (kp_r hkb hkp e28) ?_
  refine lv_sipush (v := 30077) hx hb d_M_add_75 (by decide) ?_
  refine lv_lload_n hx hb d_M_add_78 rfl (lv_at hl 1 rfl) ?_
  refine lv_lload hx hb d_M_add_79 (lv_at hl 0 rfl) ?_
  refine lv_ldc2 hx hb hown (hts _ u_2071) d_M_add_81 ?_
  refine lv_lxor hx hb d_M_add_84 ?_
  refine lv_land hx hb d_M_add_85 ?_
  obtain ⟨g35, h⟩ := gd_ob h
  obtain ⟨M36, eM36, h⟩ := st_ob h
  refine me_last (eM36.trans (by rw [show (30077 : Int32).toNatClampNeg = 30077 by decide])) hx hb hK hP hD hwf hS hj27 (me_in (i := (30077 : Int32)) (k := 30077) (by decide) (by decide) (kp_c hkb.z hkp.z g35)) d_M_add_86 (fun H locs hP hD hwf hS => ?_)
  have hkp := kp_L eM36 hkp
  refine lv_aload_n hx hb d_M_add_87 rfl (lv_at hl 3 rfl) ?_
  refine g_M_55 hx hb hts hown hK hP hwf hj0 (hts _ u_1796) d_M_add_88 ?_
  obtain ⟨j37, e38, h⟩ := bd_ob h
  have hj37 : j37 < N 16 := (hwf.2.1 1 j0 55 _ (kp_r hkb hkp e38) (by decide) hj0)
  refine me_opt (j := j37) (kp_r hkb hkp e38) ?_
  refine lv_sipush (v := 30075) hx hb d_M_add_91 (by decide) ?_
  obtain ⟨g39, h⟩ := gd_ob h
  refine me_lald hx hb hK hP hwf hj37 (me_in (i := (30075 : Int32)) (k := 30075) (by decide) (by decide) (kp_c hkb.z hkp.z g39)) d_M_add_94 ?_
  refine fg_topl (y := mL M36 16 j37 30075) (congrArg _ (by decide)) ?_
  refine lv_aload_n hx hb d_M_add_95 rfl (lv_at hl 3 rfl) ?_
  refine g_M_55 hx hb hts hown hK hP hwf hj0 (hts _ u_1796) d_M_add_96 ?_
  refine me_opt (j := j37) (kp_r hkb hkp e38) ?_
  refine lv_sipush (v := 30076) hx hb d_M_add_99 (by decide) ?_
  obtain ⟨g40, h⟩ := gd_ob h
  refine me_lald hx hb hK hP hwf hj37 (me_in (i := (30076 : Int32)) (k := 30076) (by decide) (by decide) (kp_c hkb.z hkp.z g40)) d_M_add_102 ?_
  refine fg_topl (y := mL M36 16 j37 30076) (congrArg _ (by decide)) ?_
  refine lv_ladd hx hb d_M_add_103 ?_
  obtain ⟨v41, ev41, h⟩ := st_ob h
  refine fg_topl (y := v41) ev41.symm ?_
  refine lv_lstore (lv' := [(7, .long v41), (5, .long v32), (3, .long v31), (1, .long v26), (0, .ref (ad 1 j0))]) hx hb d_M_add_104 hl (by decide) rfl (fun ls hl => ?_)
  refine lv_lload hx hb d_M_add_106 (lv_at hl 0 rfl) ?_
  refine lv_aload_n hx hb d_M_add_108 rfl (lv_at hl 4 rfl) ?_
  refine g_M_55 hx hb hts hown hK hP hwf hj0 (hts _ u_1796) d_M_add_109 ?_
  refine me_opt (j := j37) (kp_r hkb hkp e38) ?_
  refine lv_sipush (v := 30075) hx hb d_M_add_112 (by decide) ?_
  refine me_lald hx hb hK hP hwf hj37 (me_in (i := (30075 : Int32)) (k := 30075) (by decide) (by decide) (kp_c hkb.z hkp.z g39)) d_M_add_115 ?_
  refine fg_topl (y := mL M36 16 j37 30075) (congrArg _ (by decide)) ?_
  obtain ⟨r42, er42, h⟩ := bd_ob h
  refine me_pani' (r0 := r42) (fg_runS (wc := []) (tc := []) (A2 := A) (As := [.long v41, .long (mL M36 16 j37 30075)]) (rest := []) ⟨hx, hb, hml, hown, hts⟩ (c_M_below l D r42 v41 (mL M36 16 j37 30075) er42 _) (by show fg_nm y_M_below 2; decide +kernel) u_2072 u_2073 u_192 u_2074 ⟨Nat.le_of_ble_eq_true rfl, Nat.le_of_ble_eq_true rfl⟩ hX me_P0 (hK.sub (tys' := []) [] rfl) me_D0 rfl hl.1 (Nat.le_of_ble_eq_true rfl) d_M_add_116 ⟨Nat.le_of_ble_eq_true rfl, Nat.le_of_ble_eq_true rfl⟩) hP hD hK hS hA rfl rfl (fun H locs hw hP hD hS => ?_)
  have zr42 := hw
  refine lv_if_ne (tgt := 157) hx hb d_M_add_119 (by decide) (fun c43 => ?_) (fun c43 => ?_)
  · have h := if_f c43 h
    exact b_157 M36 _ _ _ h hwf hkp hP hD hS (lv_sub hl [4] rfl)
  have h := if_t c43 h
  refine lv_aload_n hx hb d_M_add_122 rfl (lv_at hl 4 rfl) ?_
  refine g_M_54 hx hb hts hown hK hP hwf hj0 (hts _ u_1795) d_M_add_123 ?_
  obtain ⟨j44, e45, h⟩ := bd_ob h
  have hj44 : j44 < N 16 := (hwf.2.1 1 j0 54 _ (kp_r hkb hkp e45) (by decide) hj0)
  refine me_opt (j := j44) (kp_r hkb hkp e45) ?_
  refine lv_sipush (v := 30077) hx hb d_M_add_126 (by decide) ?_
  refine lv_aload_n hx hb d_M_add_129 rfl (lv_at hl 4 rfl) ?_
  refine g_M_54 hx hb hts hown hK hP hwf hj0 (hts _ u_1795) d_M_add_130 ?_
  refine me_opt (j := j44) (kp_r hkb hkp e45) ?_
  refine lv_sipush (v := 30075) hx hb d_M_add_133 (by decide) ?_
  obtain ⟨g46, h⟩ := gd_ob h
  refine me_lald hx hb hK hP hwf hj44 (me_in (i := (30075 : Int32)) (k := 30075) (by decide) (by decide) (kp_c hkb.z hkp.z g46)) d_M_add_136 ?_
  refine fg_topl (y := mL M36 16 j44 30075) (congrArg _ (by decide)) ?_
  refine lv_aload_n hx hb d_M_add_137 rfl (lv_at hl 4 rfl) ?_
  refine g_M_54 hx hb hts hown hK hP hwf hj0 (hts _ u_1795) d_M_add_138 ?_
  refine me_opt (j := j44) (kp_r hkb hkp e45) ?_
  refine lv_sipush (v := 30076) hx hb d_M_add_141 (by decide) ?_
  obtain ⟨g47, h⟩ := gd_ob h
  refine me_lald hx hb hK hP hwf hj44 (me_in (i := (30076 : Int32)) (k := 30076) (by decide) (by decide) (kp_c hkb.z hkp.z g47)) d_M_add_144 ?_
  refine fg_topl (y := mL M36 16 j44 30076) (congrArg _ (by decide)) ?_
  refine lv_ladd hx hb d_M_add_145 ?_
  obtain ⟨g48, h⟩ := gd_ob h
  obtain ⟨M49, eM49, h⟩ := st_ob h
  refine me_last (eM49.trans (by rw [show (30077 : Int32).toNatClampNeg = 30077 by decide])) hx hb hK hP hD hwf hS hj44 (me_in (i := (30077 : Int32)) (k := 30077) (by decide) (by decide) (kp_c hkb.z hkp.z g48)) d_M_add_146 (fun H locs hP hD hwf hS => ?_)
  have hkp := kp_L eM49 hkp
  refine lv_aload_n hx hb d_M_add_147 rfl (lv_at hl 4 rfl) ?_
  refine g_M_55 hx hb hts hown hK hP hwf hj0 (hts _ u_1796) d_M_add_148 ?_
  refine me_opt (j := j37) (kp_r hkb hkp e38) ?_
  refine lv_sipush (v := 30077) hx hb d_M_add_151 (by decide) ?_
  refine lv_lload hx hb d_M_add_154 (lv_at hl 0 rfl) ?_
  obtain ⟨g50, h⟩ := gd_ob h
  obtain ⟨M51, eM51, h⟩ := st_ob h
  refine me_last (eM51.trans (by rw [show (30077 : Int32).toNatClampNeg = 30077 by decide])) hx hb hK hP hD hwf hS hj37 (me_in (i := (30077 : Int32)) (k := 30077) (by decide) (by decide) (kp_c hkb.z hkp.z g50)) d_M_add_156 (fun H locs hP hD hwf hS => ?_)
  have hkp := kp_L eM51 hkp
  exact b_157 M51 _ _ _ h hwf hkp hP hD hS (lv_sub hl [4] rfl)
