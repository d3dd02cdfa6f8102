theorem d_M_storeStack_77 : decode prog_14_method_81_code 77 = .ok (.iload 5, 2) := by decide +kernel
theorem d_M_storeStack_79 : decode prog_14_method_81_code 79 = .ok (.iload_n 3, 1) := by decide +kernel
theorem d_M_storeStack_80 : decode prog_14_method_81_code 80 = .ok (.if_icmp .ge 32, 3) := by decide +kernel
theorem d_M_storeStack_112 : decode prog_14_method_81_code 112 = .ok (.return_, 1) := by decide +kernel
theorem d_M_storeStack_83 : decode prog_14_method_81_code 83 = .ok (.aload_n 0, 1) := by decide +kernel
theorem d_M_storeStack_84 : decode prog_14_method_81_code 84 = .ok (.getfield 122, 3) := by decide +kernel
theorem d_M_storeStack_87 : decode prog_14_method_81_code 87 = .ok (.iload 4, 2) := by decide +kernel
theorem d_M_storeStack_89 : decode prog_14_method_81_code 89 = .ok (.dup2, 1) := by decide +kernel
theorem d_M_storeStack_90 : decode prog_14_method_81_code 90 = .ok (.iaload, 1) := by decide +kernel
theorem d_M_storeStack_91 : decode prog_14_method_81_code 91 = .ok (.iconst 1, 1) := by decide +kernel
theorem d_M_storeStack_92 : decode prog_14_method_81_code 92 = .ok (.iload_n 2, 1) := by decide +kernel
theorem d_M_storeStack_93 : decode prog_14_method_81_code 93 = .ok (.iload 5, 2) := by decide +kernel
theorem d_M_storeStack_95 : decode prog_14_method_81_code 95 = .ok (.iadd, 1) := by decide +kernel
theorem d_M_storeStack_96 : decode prog_14_method_81_code 96 = .ok (.sipush 512, 3) := by decide +kernel
theorem d_M_storeStack_99 : decode prog_14_method_81_code 99 = .ok (.iadd, 1) := by decide +kernel
theorem d_M_storeStack_100 : decode prog_14_method_81_code 100 = .ok (.bipush 8, 2) := by decide +kernel
theorem d_M_storeStack_102 : decode prog_14_method_81_code 102 = .ok (.irem, 1) := by decide +kernel
theorem d_M_storeStack_103 : decode prog_14_method_81_code 103 = .ok (.ishl, 1) := by decide +kernel
theorem d_M_storeStack_104 : decode prog_14_method_81_code 104 = .ok (.ior, 1) := by decide +kernel
theorem d_M_storeStack_105 : decode prog_14_method_81_code 105 = .ok (.iastore, 1) := by decide +kernel
theorem d_M_storeStack_106 : decode prog_14_method_81_code 106 = .ok (.iinc 5 1, 3) := by decide +kernel
theorem d_M_storeStack_109 : decode prog_14_method_81_code 109 = .ok (.goto (-32), 3) := by decide +kernel
theorem d_M_storeStack_0 : decode prog_14_method_81_code 0 = .ok (.iload_n 2, 1) := by decide +kernel
theorem d_M_storeStack_1 : decode prog_14_method_81_code 1 = .ok (.invokestatic 403, 3) := by decide +kernel
theorem d_M_storeStack_4 : decode prog_14_method_81_code 4 = .ok (.istore 4, 2) := by decide +kernel
theorem d_M_storeStack_6 : decode prog_14_method_81_code 6 = .ok (.iload_n 3, 1) := by decide +kernel
theorem d_M_storeStack_7 : decode prog_14_method_81_code 7 = .ok (.bipush 8, 2) := by decide +kernel
theorem d_M_storeStack_9 : decode prog_14_method_81_code 9 = .ok (.if_icmp .ne 22, 3) := by decide +kernel
theorem d_M_storeStack_31 : decode prog_14_method_81_code 31 = .ok (.aload_n 0, 1) := by decide +kernel
theorem d_M_storeStack_32 : decode prog_14_method_81_code 32 = .ok (.iload_n 2, 1) := by decide +kernel
theorem d_M_storeStack_33 : decode prog_14_method_81_code 33 = .ok (.invokevirtual 426, 3) := by decide +kernel
theorem d_M_storeStack_36 : decode prog_14_method_81_code 36 = .ok (.ifCond .eq 38, 3) := by decide +kernel
theorem d_M_storeStack_74 : decode prog_14_method_81_code 74 = .ok (.iconst 0, 1) := by decide +kernel
theorem d_M_storeStack_75 : decode prog_14_method_81_code 75 = .ok (.istore 5, 2) := by decide +kernel
theorem d_M_storeStack_39 : decode prog_14_method_81_code 39 = .ok (.aload_n 0, 1) := by decide +kernel
theorem d_M_storeStack_40 : decode prog_14_method_81_code 40 = .ok (.getfield 122, 3) := by decide +kernel
theorem d_M_storeStack_43 : decode prog_14_method_81_code 43 = .ok (.iload 4, 2) := by decide +kernel
theorem d_M_storeStack_45 : decode prog_14_method_81_code 45 = .ok (.aload_n 0, 1) := by decide +kernel
theorem d_M_storeStack_46 : decode prog_14_method_81_code 46 = .ok (.bipush 11, 2) := by decide +kernel
theorem d_M_storeStack_48 : decode prog_14_method_81_code 48 = .ok (.iload 4, 2) := by decide +kernel
theorem d_M_storeStack_50 : decode prog_14_method_81_code 50 = .ok (.iadd, 1) := by decide +kernel
theorem d_M_storeStack_51 : decode prog_14_method_81_code 51 = .ok (.invokevirtual 378, 3) := by decide +kernel
theorem d_M_storeStack_54 : decode prog_14_method_81_code 54 = .ok (.ifCond .eq 9, 3) := by decide +kernel
theorem d_M_storeStack_63 : decode prog_14_method_81_code 63 = .ok (.iconst 0, 1) := by decide +kernel
theorem d_M_storeStack_64 : decode prog_14_method_81_code 64 = .ok (.iastore, 1) := by decide +kernel
theorem d_M_storeStack_65 : decode prog_14_method_81_code 65 = .ok (.aload_n 0, 1) := by decide +kernel
theorem d_M_storeStack_66 : decode prog_14_method_81_code 66 = .ok (.bipush 11, 2) := by decide +kernel
theorem d_M_storeStack_68 : decode prog_14_method_81_code 68 = .ok (.iload 4, 2) := by decide +kernel
theorem d_M_storeStack_70 : decode prog_14_method_81_code 70 = .ok (.iadd, 1) := by decide +kernel
theorem d_M_storeStack_71 : decode prog_14_method_81_code 71 = .ok (.invokevirtual 363, 3) := by decide +kernel
theorem d_M_storeStack_57 : decode prog_14_method_81_code 57 = .ok (.sipush 255, 3) := by decide +kernel
theorem d_M_storeStack_60 : decode prog_14_method_81_code 60 = .ok (.goto 4, 3) := by decide +kernel
theorem d_M_storeStack_12 : decode prog_14_method_81_code 12 = .ok (.aload_n 0, 1) := by decide +kernel
theorem d_M_storeStack_13 : decode prog_14_method_81_code 13 = .ok (.iload_n 1, 1) := by decide +kernel
theorem d_M_storeStack_14 : decode prog_14_method_81_code 14 = .ok (.bipush 11, 2) := by decide +kernel
theorem d_M_storeStack_16 : decode prog_14_method_81_code 16 = .ok (.iload 4, 2) := by decide +kernel
theorem d_M_storeStack_18 : decode prog_14_method_81_code 18 = .ok (.iadd, 1) := by decide +kernel
theorem d_M_storeStack_19 : decode prog_14_method_81_code 19 = .ok (.invokevirtual 360, 3) := by decide +kernel
theorem d_M_storeStack_22 : decode prog_14_method_81_code 22 = .ok (.aload_n 0, 1) := by decide +kernel
theorem d_M_storeStack_23 : decode prog_14_method_81_code 23 = .ok (.getfield 122, 3) := by decide +kernel
theorem d_M_storeStack_26 : decode prog_14_method_81_code 26 = .ok (.iload 4, 2) := by decide +kernel
theorem d_M_storeStack_28 : decode prog_14_method_81_code 28 = .ok (.iconst 0, 1) := by decide +kernel
theorem d_M_storeStack_29 : decode prog_14_method_81_code 29 = .ok (.iastore, 1) := by decide +kernel
theorem d_M_storeStack_30 : decode prog_14_method_81_code 30 = .ok (.return_, 1) := by decide +kernel
abbrev y_M_storeStack : MethodName := ⟨"FilterGuardModel", "storeStack", "(III)V"⟩
def rm_M_storeStack : Room := { frames := 3, cells := 0, slots := 0, locals := 64 }
abbrev q_M_storeStack (D : va_G) (ad : Nat → Nat → Nat) (ca : Nat → ClassId) (N : Nat → Nat) (M0 MZ : me_M) (A : Nat → Prop) : Array Value → Jvm.State → Outcome → Jvm.State → Prop := va_Qv (fun (_ : Unit) => me_wf N MZ ∧ me_kp M0 MZ) (fg_B D A (fun _ => me_W ad ca MZ) (fun _ => [])) A
set_option maxHeartbeats 4000000 in
set_option maxRecDepth 100000 in
theorem c_M_storeStack (l : Launch) (D : va_G) (ad : Nat → Nat → Nat) (ca : Nat → ClassId) (N : Nat → Nat) (M0 MZ : me_M) (j0 : Nat) (x1 : Int32) (x2 : Int32) (x3 : Int32) (h : f_M_storeStack M0 j0 x1 x2 x3 = (some MZ)) (hwf : me_wf N M0) (hj0 : j0 < N 1) (sz : Nat) : Met l y_M_storeStack (fg_w y_M_storeStack prog_14_method_81_code 6 none) rm_M_storeStack (va_Pc [.ref (ad 1 j0), .int x1, .int x2, .int x3] (fz_P D (me_T ca) (me_W ad ca M0) sz)) (q_M_storeStack D ad ca N M0 MZ (va_A (me_W ad ca M0) sz)) rm_M_storeStack.cells rm_M_storeStack.slots (va_A (me_W ad ca M0) sz) := by
  refine fz_enter (fun A => q_M_storeStack D ad ca N M0 MZ A) (by decide +kernel) (Nat.le_of_ble_eq_true rfl) ?_
  intro p e s m below meth c ls A hx hb hml hown hts hr hlocks hin hP hK hD hS hA hX hl hz
  have hl : lv_has ls 6 [(0, .ref (ad 1 j0)), (1, .int x1), (2, .int x2), (3, .int x3)] := hl
  unfold f_M_storeStack at h
  have hkp : me_kp M0 M0 := me_kp.rf
  have hkb := hkp
  have b_77 : ∀ (fu : Nat), ∀ (M : me_M) (y4 : Int32) (y5 : Int32) (H : Heap) (locs : List Loc) (ls : Array Slot), f_M_storeStack_l77 j0 x2 x3 fu M y4 y5 = (some MZ) → me_wf N M → me_kp M0 M → va_P D classes (me_W ad ca M) H → va_D A (me_W ad ca M) → va_S A s.heap H locs → lv_has ls 6 [(0, .ref (ad 1 j0)), (2, .int x2), (3, .int x3), (4, .int y4), (5, .int y5)] → W p l e rm_M_storeStack s m [.ref (ad 1 j0), .int x1, .int x2, .int x3].toArray below meth c H locs 0 0 (MQ below (q_M_storeStack D ad ca N M0 MZ A) [.ref (ad 1 j0), .int x1, .int x2, .int x3].toArray s rm_M_storeStack.cells rm_M_storeStack.slots A) (F0 m 77 ls []) := by
    intro fu
    induction fu with
    | zero =>
      intro M y4 y5 H locs ls h hwf hkp hP hD hS hl
      cases h
    | succ fu ih =>
      intro M y4 y5 H locs ls h hwf hkp hP hD hS hl
      unfold f_M_storeStack_l77 at h
      have hkb := hkp
      refine lv_iload hx hb d_M_storeStack_77 (lv_at hl 4 rfl) ?_
      refine lv_iload_n hx hb d_M_storeStack_79 rfl (lv_at hl 2 rfl) ?_
      refine lv_icmp_ge (tgt := 112) hx hb d_M_storeStack_80 (by decide) (fun c1 => ?_) (fun c1 => ?_)
      · have h := if_t c1 h
        exact me_retv (me_kp M0) h hx hb hr hlocks hwf hkp hP hK hD hS d_M_storeStack_112
      have h := if_f c1 h
      refine lv_aload_n hx hb d_M_storeStack_83 rfl (lv_at hl 0 rfl) ?_
      refine g_M_58 hx hb hts hown hK hP hwf hj0 (hts _ u_1799) d_M_storeStack_84 ?_
      obtain ⟨j2, e3, h⟩ := bd_ob h
      have hj2 : j2 < N 13 := (hwf.2.1 1 j0 58 _ e3 (by decide) hj0)
      refine me_opt (j := j2) e3 ?_
      refine lv_iload hx hb d_M_storeStack_87 (lv_at hl 3 rfl) ?_
      refine lv_dup2_11 hx hb d_M_storeStack_89 rfl rfl ?_
      obtain ⟨g4, h⟩ := gd_ob h
      refine me_iald hx hb hK hP hwf hj2 g4 d_M_storeStack_90 ?_
      refine lv_iconst (v := 1) hx hb d_M_storeStack_91 (by decide) ?_
      refine lv_iload_n hx hb d_M_storeStack_92 rfl (lv_at hl 1 rfl) ?_
      refine lv_iload hx hb d_M_storeStack_93 (lv_at hl 4 rfl) ?_
      refine lv_iadd hx hb d_M_storeStack_95 ?_
      refine lv_sipush (v := 512) hx hb d_M_storeStack_96 (by decide) ?_
      refine lv_iadd hx hb d_M_storeStack_99 ?_
      refine lv_bipush (v := 8) hx hb d_M_storeStack_100 (by decide) ?_
      refine lv_irem hx hb d_M_storeStack_102 (by decide) ?_
      refine fg_topi (y := jirem ((x2 + y5) + 512) 8) rfl ?_
      refine lv_ishl hx hb d_M_storeStack_103 ?_
      refine fg_topi (y := jishl 1 (jirem ((x2 + y5) + 512) 8)) rfl ?_
      refine lv_ior hx hb d_M_storeStack_104 ?_
      obtain ⟨v5, ev5, h⟩ := st_ob h
      refine fg_topi (y := v5) ev5.symm ?_
      obtain ⟨M6, eM6, h⟩ := st_ob h
      refine me_iast eM6 hx hb hK hP hD hwf hS hj2 g4 d_M_storeStack_105 (fun H locs hP hD hwf hS => ?_)
      have hkp := kp_I eM6 hkp
      refine lv_iinc (v := y5 + 1) (lv' := [(5, .int (y5 + 1)), (0, .ref (ad 1 j0)), (2, .int x2), (3, .int x3), (4, .int y4)]) hx hb d_M_storeStack_106 hl (k := 4) rfl (by rfl) (by decide) rfl (fun ls hl => ?_)
      refine lv_goto (tgt := 77) hx hb d_M_storeStack_109 (by decide) ?_
      exact ih M6 y4 (y5 + 1) _ _ _ h hwf hkp hP hD hS (lv_sub hl [1, 2, 3, 4, 0] rfl)
  refine lv_iload_n hx hb d_M_storeStack_0 rfl (lv_at hl 2 rfl) ?_
  obtain ⟨r7, er7, h⟩ := bd_ob h
  refine me_pani' (r0 := r7) (fg_runS (wc := []) (tc := []) (A2 := A) (As := [.int x2]) (rest := []) ⟨hx, hb, hml, hown, hts⟩ (c_M_slotOf l D r7 x2 er7 _) (by show fg_nm y_M_slotOf 1; decide +kernel) u_2180 u_2181 u_192 u_2182 ⟨Nat.le_of_ble_eq_true rfl, Nat.le_of_ble_eq_true rfl⟩ hX me_P0 (hK.sub (tys' := []) [] rfl) me_D0 rfl hl.1 (Nat.le_of_ble_eq_true rfl) d_M_storeStack_1 ⟨Nat.le_of_ble_eq_true rfl, Nat.le_of_ble_eq_true rfl⟩) hP hD hK hS hA rfl rfl (fun H locs hw hP hD hS => ?_)
  refine lv_istore (lv' := [(4, .int r7), (0, .ref (ad 1 j0)), (1, .int x1), (2, .int x2), (3, .int x3)]) hx hb d_M_storeStack_4 hl (by decide) rfl (fun ls hl => ?_)
  refine lv_iload_n hx hb d_M_storeStack_6 rfl (lv_at hl 4 rfl) ?_
  refine lv_bipush (v := 8) hx hb d_M_storeStack_7 (by decide) ?_
  refine lv_icmp_ne (tgt := 31) hx hb d_M_storeStack_9 (by decide) (fun c8 => ?_) (fun c8 => ?_)
  · have h := if_f c8 h
    refine lv_aload_n hx hb d_M_storeStack_31 rfl (lv_at hl 1 rfl) ?_
    refine lv_iload_n hx hb d_M_storeStack_32 rfl (lv_at hl 3 rfl) ?_
    obtain ⟨M9, r10, eM9, h⟩ := b2_ob h
    refine me_theni0 (M1 := M9) (me_runV (C := "FilterGuardModel") (As := [.int x2]) (rest := []) ⟨hx, hb, hml, hown, hts⟩ (c_M_isSaved l D ad ca N M0 M9 r10 j0 x2 eM9 hwf hj0 _) rfl (by show fg_nm y_M_isSaved 1; decide +kernel) u_2183 u_2185 u_120 u_192 u_2186 ⟨Nat.le_of_ble_eq_true rfl, Nat.le_of_ble_eq_true rfl⟩ hX hz hK hP hD hwf hS hA hj0 (by decide) rfl rfl rfl hl.1 (Nat.le_of_ble_eq_true rfl) d_M_storeStack_33 ⟨Nat.le_of_ble_eq_true rfl, Nat.le_of_ble_eq_true rfl⟩) hP hD hK hS hA rfl rfl (fun H locs hw hP hD hS => ?_)
    obtain ⟨hwf, hk9, zr10⟩ := hw
    have hkp := hkp.tr hk9
    refine lv_if_eq (tgt := 74) hx hb d_M_storeStack_36 (by decide) (fun c11 => ?_) (fun c11 => ?_)
    · have h := if_t c11 h
      refine lv_iconst (v := 0) hx hb d_M_storeStack_74 (by decide) ?_
      refine lv_istore (lv' := [(5, .int 0), (4, .int r7), (0, .ref (ad 1 j0)), (1, .int x1), (2, .int x2), (3, .int x3)]) hx hb d_M_storeStack_75 hl (by decide) rfl (fun ls hl => ?_)
      exact b_77 _ M9 r7 (0 : Int32) _ _ _ h hwf hkp hP hD hS (lv_sub hl [2, 4, 5, 1, 0] rfl)
    have h := if_f c11 h
    refine lv_aload_n hx hb d_M_storeStack_39 rfl (lv_at hl 1 rfl) ?_
    refine g_M_58 hx hb hts hown hK hP hwf hj0 (hts _ u_1799) d_M_storeStack_40 ?_
    obtain ⟨j12, e13, h⟩ := bd_ob h
    have hj12 : j12 < N 13 := (hwf.2.1 1 j0 58 _ (kp_r hkb hkp e13) (by decide) hj0)
    refine me_opt (j := j12) (kp_r hkb hkp e13) ?_
    refine lv_iload hx hb d_M_storeStack_43 (lv_at hl 0 rfl) ?_
    refine lv_aload_n hx hb d_M_storeStack_45 rfl (lv_at hl 1 rfl) ?_
    refine lv_bipush (v := 11) hx hb d_M_storeStack_46 (by decide) ?_
    refine lv_iload hx hb d_M_storeStack_48 (lv_at hl 0 rfl) ?_
    refine lv_iadd hx hb d_M_storeStack_50 ?_
    obtain ⟨M14, r15, eM14, h⟩ := b2_ob h
    refine me_theni0 (M1 := M14) (me_runV (C := "FilterGuardModel") (As := [.int (11 + r7)]) (rest := [.int r7, .ref (ad 13 j12)]) ⟨hx, hb, hml, hown, hts⟩ (c_M_isNumber l D ad ca N M9 M14 r15 j0 (11 + r7) eM14 hwf hj0 _) rfl (by show fg_nm y_M_isNumber 1; decide +kernel) u_2187 u_2189 u_121 u_192 u_2190 ⟨Nat.le_of_ble_eq_true rfl, Nat.le_of_ble_eq_true rfl⟩ hX hz hK hP hD hwf hS hA hj0 (by decide) rfl rfl rfl hl.1 (Nat.le_of_ble_eq_true rfl) d_M_storeStack_51 ⟨Nat.le_of_ble_eq_true rfl, Nat.le_of_ble_eq_true rfl⟩) hP hD hK hS hA rfl rfl (fun H locs hw hP hD hS => ?_)
    obtain ⟨hwf, hk9, zr15⟩ := hw
    have hkp := hkp.tr hk9
    refine lv_if_eq (tgt := 63) hx hb d_M_storeStack_54 (by decide) (fun c16 => ?_) (fun c16 => ?_)
    · have h := if_t c16 h
      refine lv_iconst (v := 0) hx hb d_M_storeStack_63 (by decide) ?_
      obtain ⟨g17, h⟩ := gd_ob h
      obtain ⟨M18, eM18, h⟩ := st_ob h
      refine me_iast eM18 hx hb hK hP hD hwf hS hj12 (kp_z hkb.z hkp.z g17) d_M_storeStack_64 (fun H locs hP hD hwf hS => ?_)
      have hkp := kp_I eM18 hkp
      refine lv_aload_n hx hb d_M_storeStack_65 rfl (lv_at hl 1 rfl) ?_
      refine lv_bipush (v := 11) hx hb d_M_storeStack_66 (by decide) ?_
      refine lv_iload hx hb d_M_storeStack_68 (lv_at hl 0 rfl) ?_
      refine lv_iadd hx hb d_M_storeStack_70 ?_
      obtain ⟨M19, eM19, h⟩ := bd_ob h
      refine me_thenv0 (M1 := M19) (me_runV (C := "FilterGuardModel") (As := [.int (11 + r7)]) (rest := []) ⟨hx, hb, hml, hown, hts⟩ (c_M_clear l D ad ca N M18 M19 j0 (11 + r7) eM19 hwf hj0 _) rfl (by show fg_nm y_M_clear 1; decide +kernel) u_2040 u_2042 u_91 u_192 u_2043 ⟨Nat.le_of_ble_eq_true rfl, Nat.le_of_ble_eq_true rfl⟩ hX hz hK hP hD hwf hS hA hj0 (by decide) rfl rfl rfl hl.1 (Nat.le_of_ble_eq_true rfl) d_M_storeStack_71 ⟨Nat.le_of_ble_eq_true rfl, Nat.le_of_ble_eq_true rfl⟩) hP hD hK hS hA rfl rfl (fun H locs hw hP hD hS => ?_)
      obtain ⟨hwf, hk9⟩ := hw
      have hkp := hkp.tr hk9
      refine lv_iconst (v := 0) hx hb d_M_storeStack_74 (by decide) ?_
      refine lv_istore (lv' := [(5, .int 0), (4, .int r7), (0, .ref (ad 1 j0)), (1, .int x1), (2, .int x2), (3, .int x3)]) hx hb d_M_storeStack_75 hl (by decide) rfl (fun ls hl => ?_)
      exact b_77 _ M19 r7 (0 : Int32) _ _ _ h hwf hkp hP hD hS (lv_sub hl [2, 4, 5, 1, 0] rfl)
    have h := if_f c16 h
    refine lv_sipush (v := 255) hx hb d_M_storeStack_57 (by decide) ?_
    refine lv_goto (tgt := 64) hx hb d_M_storeStack_60 (by decide) ?_
    obtain ⟨g20, h⟩ := gd_ob h
    obtain ⟨M21, eM21, h⟩ := st_ob h
    refine me_iast eM21 hx hb hK hP hD hwf hS hj12 (kp_z hkb.z hkp.z g20) d_M_storeStack_64 (fun H locs hP hD hwf hS => ?_)
    have hkp := kp_I eM21 hkp
    refine lv_aload_n hx hb d_M_storeStack_65 rfl (lv_at hl 1 rfl) ?_
    refine lv_bipush (v := 11) hx hb d_M_storeStack_66 (by decide) ?_
    refine lv_iload hx hb d_M_storeStack_68 (lv_at hl 0 rfl) ?_
    refine lv_iadd hx hb d_M_storeStack_70 ?_
    obtain ⟨M22, eM22, h⟩ := bd_ob h
    refine me_thenv0 (M1 := M22) (me_runV (C := "FilterGuardModel") (As := [.int (11 + r7)]) (rest := []) ⟨hx, hb, hml, hown, hts⟩ (c_M_clear l D ad ca N M21 M22 j0 (11 + r7) eM22 hwf hj0 _) rfl (by show fg_nm y_M_clear 1; decide +kernel) u_2040 u_2042 u_91 u_192 u_2043 ⟨Nat.le_of_ble_eq_true rfl, Nat.le_of_ble_eq_true rfl⟩ hX hz hK hP hD hwf hS hA hj0 (by decide) rfl rfl rfl hl.1 (Nat.le_of_ble_eq_true rfl) d_M_storeStack_71 ⟨Nat.le_of_ble_eq_true rfl, Nat.le_of_ble_eq_true rfl⟩) hP hD hK hS hA rfl rfl (fun H locs hw hP hD hS => ?_)
    obtain ⟨hwf, hk9⟩ := hw
    have hkp := hkp.tr hk9
    refine lv_iconst (v := 0) hx hb d_M_storeStack_74 (by decide) ?_
    refine lv_istore (lv' := [(5, .int 0), (4, .int r7), (0, .ref (ad 1 j0)), (1, .int x1), (2, .int x2), (3, .int x3)]) hx hb d_M_storeStack_75 hl (by decide) rfl (fun ls hl => ?_)
    exact b_77 _ M22 r7 (0 : Int32) _ _ _ h hwf hkp hP hD hS (lv_sub hl [2, 4, 5, 1, 0] rfl)
  have h := if_t c8 h
  refine lv_aload_n hx hb d_M_storeStack_12 rfl (lv_at hl 1 rfl) ?_
  refine lv_iload_n hx hb d_M_storeStack_13 rfl (lv_at hl 2 rfl) ?_
  refine lv_bipush (v := 11) hx hb d_M_storeStack_14 (by decide) ?_
  refine lv_iload hx hb d_M_storeStack_16 (lv_at hl 0 rfl) ?_
  refine lv_iadd hx hb d_M_storeStack_18 ?_
  obtain ⟨M23, eM23, h⟩ := bd_ob h
  refine me_thenv0 (M1 := M23) (me_runV (C := "FilterGuardModel") (As := [.int x1, .int (11 + r7)]) (rest := []) ⟨hx, hb, hml, hown, hts⟩ (c_M_copyItem l D ad ca N M0 M23 j0 x1 (11 + r7) eM23 hwf hj0 _) rfl (by show fg_nm y_M_copyItem 2; decide +kernel) u_2092 u_2094 u_102 u_192 u_2095 ⟨Nat.le_of_ble_eq_true rfl, Nat.le_of_ble_eq_true rfl⟩ hX hz hK hP hD hwf hS hA hj0 (by decide) rfl rfl rfl hl.1 (Nat.le_of_ble_eq_true rfl) d_M_storeStack_19 ⟨Nat.le_of_ble_eq_true rfl, Nat.le_of_ble_eq_true rfl⟩) hP hD hK hS hA rfl rfl (fun H locs hw hP hD hS => ?_)
  obtain ⟨hwf, hk9⟩ := hw
  have hkp := hkp.tr hk9
  refine lv_aload_n hx hb d_M_storeStack_22 rfl (lv_at hl 1 rfl) ?_
  refine g_M_58 hx hb hts hown hK hP hwf hj0 (hts _ u_1799) d_M_storeStack_23 ?_
  obtain ⟨j24, e25, h⟩ := bd_ob h
  have hj24 : j24 < N 13 := (hwf.2.1 1 j0 58 _ (kp_r hkb hkp e25) (by decide) hj0)
  refine me_opt (j := j24) (kp_r hkb hkp e25) ?_
  refine lv_iload hx hb d_M_storeStack_26 (lv_at hl 0 rfl) ?_
  refine lv_iconst (v := 0) hx hb d_M_storeStack_28 (by decide) ?_
  obtain ⟨g26, h⟩ := gd_ob h
  obtain ⟨M27, eM27, h⟩ := st_ob h
  refine me_iast eM27 hx hb hK hP hD hwf hS hj24 (kp_z hkb.z hkp.z g26) d_M_storeStack_29 (fun H locs hP hD hwf hS => ?_)
  have hkp := kp_I eM27 hkp
  exact me_retv (me_kp M0) h hx hb hr hlocks hwf hkp hP hK hD hS d_M_storeStack_30
theorem d_M_store_176 : decode prog_14_method_80_code 176 = .ok (.aload_n 0, 1) := by decide +kernel
theorem d_M_store_177 : decode prog_14_method_80_code 177 = .ok (.getfield 89, 3) := by decide +kernel
theorem d_M_store_180 : decode prog_14_method_80_code 180 = .ok (.iload_n 3, 1) := by decide +kernel
theorem d_M_store_181 : decode prog_14_method_80_code 181 = .ok (.baload, 1) := by decide +kernel
theorem d_M_store_182 : decode prog_14_method_80_code 182 = .ok (.iconst 3, 1) := by decide +kernel
theorem d_M_store_183 : decode prog_14_method_80_code 183 = .ok (.if_icmp .ne 13, 3) := by decide +kernel
theorem d_M_store_196 : decode prog_14_method_80_code 196 = .ok (.iconst 0, 1) := by decide +kernel
theorem d_M_store_197 : decode prog_14_method_80_code 197 = .ok (.ireturn, 1) := by decide +kernel
theorem d_M_store_186 : decode prog_14_method_80_code 186 = .ok (.aload_n 0, 1) := by decide +kernel
theorem d_M_store_187 : decode prog_14_method_80_code 187 = .ok (.iload 6, 2) := by decide +kernel
theorem d_M_store_189 : decode prog_14_method_80_code 189 = .ok (.iload 7, 2) := by decide +kernel
theorem d_M_store_191 : decode prog_14_method_80_code 191 = .ok (.iload 4, 2) := by decide +kernel
theorem d_M_store_193 : decode prog_14_method_80_code 193 = .ok (.invokevirtual 432, 3) := by decide +kernel
theorem u_2199 : Cond.methodLink "FilterGuardModel" 432 ⟨"FilterGuardModel", "storeStack", "(III)V"⟩ ∈ fg_g := fg_in (List.mem_of_getElem? (i := 2199) (by decide +kernel)) rfl
theorem u_2202 : Cond.code ⟨"FilterGuardModel", "storeStack", "(III)V"⟩ prog_14_method_81_code 6 none ∈ fg_g := fg_in (List.mem_of_getElem? (i := 2202) (by decide +kernel)) rfl
theorem u_2201 : Cond.instanceMethod ⟨"FilterGuardModel", "storeStack", "(III)V"⟩ ∈ fg_g := fg_in (List.mem_of_getElem? (i := 2201) (by decide +kernel)) rfl
theorem u_124 : Cond.selects "FilterGuardModel" ⟨"FilterGuardModel", "storeStack", "(III)V"⟩ ⟨"FilterGuardModel", "storeStack", "(III)V"⟩ ∈ fg_g := fg_in (List.mem_of_getElem? (i := 124) (by decide +kernel)) rfl
theorem d_M_store_78 : decode prog_14_method_80_code 78 = .ok (.aload_n 0, 1) := by decide +kernel
theorem d_M_store_79 : decode prog_14_method_80_code 79 = .ok (.getfield 89, 3) := by decide +kernel
theorem d_M_store_82 : decode prog_14_method_80_code 82 = .ok (.iload 6, 2) := by decide +kernel
theorem d_M_store_84 : decode prog_14_method_80_code 84 = .ok (.baload, 1) := by decide +kernel
theorem d_M_store_85 : decode prog_14_method_80_code 85 = .ok (.ifCond .ne 6, 3) := by decide +kernel
theorem d_M_store_91 : decode prog_14_method_80_code 91 = .ok (.aload_n 0, 1) := by decide +kernel
theorem d_M_store_92 : decode prog_14_method_80_code 92 = .ok (.getfield 92, 3) := by decide +kernel
theorem d_M_store_95 : decode prog_14_method_80_code 95 = .ok (.iload_n 3, 1) := by decide +kernel
theorem d_M_store_96 : decode prog_14_method_80_code 96 = .ok (.iaload, 1) := by decide +kernel
theorem d_M_store_97 : decode prog_14_method_80_code 97 = .ok (.lload_n 1, 1) := by decide +kernel
theorem d_M_store_98 : decode prog_14_method_80_code 98 = .ok (.invokestatic 321, 3) := by decide +kernel
theorem d_M_store_101 : decode prog_14_method_80_code 101 = .ok (.iadd, 1) := by decide +kernel
theorem d_M_store_102 : decode prog_14_method_80_code 102 = .ok (.istore 7, 2) := by decide +kernel
theorem d_M_store_104 : decode prog_14_method_80_code 104 = .ok (.aload_n 0, 1) := by decide +kernel
theorem d_M_store_105 : decode prog_14_method_80_code 105 = .ok (.iload_n 3, 1) := by decide +kernel
theorem d_M_store_106 : decode prog_14_method_80_code 106 = .ok (.iload 7, 2) := by decide +kernel
theorem d_M_store_108 : decode prog_14_method_80_code 108 = .ok (.i2l, 1) := by decide +kernel
theorem d_M_store_109 : decode prog_14_method_80_code 109 = .ok (.iload 4, 2) := by decide +kernel
theorem d_M_store_111 : decode prog_14_method_80_code 111 = .ok (.iconst 1, 1) := by decide +kernel
theorem d_M_store_112 : decode prog_14_method_80_code 112 = .ok (.invokevirtual 415, 3) := by decide +kernel
theorem d_M_store_115 : decode prog_14_method_80_code 115 = .ok (.istore 8, 2) := by decide +kernel
theorem d_M_store_117 : decode prog_14_method_80_code 117 = .ok (.iload 8, 2) := by decide +kernel
theorem d_M_store_119 : decode prog_14_method_80_code 119 = .ok (.ifCond .gt 13, 3) := by decide +kernel
theorem d_M_store_132 : decode prog_14_method_80_code 132 = .ok (.iload 8, 2) := by decide +kernel
theorem d_M_store_134 : decode prog_14_method_80_code 134 = .ok (.bipush 13, 2) := by decide +kernel
theorem d_M_store_136 : decode prog_14_method_80_code 136 = .ok (.if_icmp .ne 8, 3) := by decide +kernel
theorem d_M_store_144 : decode prog_14_method_80_code 144 = .ok (.bipush 14, 2) := by decide +kernel
theorem d_M_store_146 : decode prog_14_method_80_code 146 = .ok (.ireturn, 1) := by decide +kernel
theorem d_M_store_139 : decode prog_14_method_80_code 139 = .ok (.bipush 13, 2) := by decide +kernel
theorem d_M_store_141 : decode prog_14_method_80_code 141 = .ok (.goto 5, 3) := by decide +kernel
theorem d_M_store_122 : decode prog_14_method_80_code 122 = .ok (.aload_n 0, 1) := by decide +kernel
theorem d_M_store_123 : decode prog_14_method_80_code 123 = .ok (.getfield 89, 3) := by decide +kernel
theorem d_M_store_126 : decode prog_14_method_80_code 126 = .ok (.iload_n 3, 1) := by decide +kernel
theorem d_M_store_127 : decode prog_14_method_80_code 127 = .ok (.baload, 1) := by decide +kernel
theorem d_M_store_128 : decode prog_14_method_80_code 128 = .ok (.iconst 2, 1) := by decide +kernel
theorem d_M_store_129 : decode prog_14_method_80_code 129 = .ok (.if_icmp .ne 18, 3) := by decide +kernel
theorem d_M_store_147 : decode prog_14_method_80_code 147 = .ok (.aload_n 0, 1) := by decide +kernel
theorem d_M_store_148 : decode prog_14_method_80_code 148 = .ok (.iload 6, 2) := by decide +kernel
theorem d_M_store_150 : decode prog_14_method_80_code 150 = .ok (.invokevirtual 378, 3) := by decide +kernel
theorem d_M_store_153 : decode prog_14_method_80_code 153 = .ok (.ifCond .ne 23, 3) := by decide +kernel
theorem d_M_store_156 : decode prog_14_method_80_code 156 = .ok (.iload 4, 2) := by decide +kernel
theorem d_M_store_158 : decode prog_14_method_80_code 158 = .ok (.bipush 8, 2) := by decide +kernel
theorem d_M_store_160 : decode prog_14_method_80_code 160 = .ok (.if_icmp .lt 13, 3) := by decide +kernel
theorem d_M_store_173 : decode prog_14_method_80_code 173 = .ok (.bipush 16, 2) := by decide +kernel
theorem d_M_store_175 : decode prog_14_method_80_code 175 = .ok (.ireturn, 1) := by decide +kernel
theorem d_M_store_163 : decode prog_14_method_80_code 163 = .ok (.aload_n 0, 1) := by decide +kernel
theorem d_M_store_164 : decode prog_14_method_80_code 164 = .ok (.getfield 89, 3) := by decide +kernel
theorem d_M_store_167 : decode prog_14_method_80_code 167 = .ok (.iload_n 3, 1) := by decide +kernel
theorem d_M_store_168 : decode prog_14_method_80_code 168 = .ok (.baload, 1) := by decide +kernel
theorem d_M_store_169 : decode prog_14_method_80_code 169 = .ok (.iconst 3, 1) := by decide +kernel
theorem d_M_store_170 : decode prog_14_method_80_code 170 = .ok (.if_icmp .eq 6, 3) := by decide +kernel
theorem d_M_store_88 : decode prog_14_method_80_code 88 = .ok (.bipush 10, 2) := by decide +kernel
theorem d_M_store_90 : decode prog_14_method_80_code 90 = .ok (.ireturn, 1) := by decide +kernel
theorem d_M_store_59 : decode prog_14_method_80_code 59 = .ok (.istore 6, 2) := by decide +kernel
theorem d_M_store_61 : decode prog_14_method_80_code 61 = .ok (.iload 5, 2) := by decide +kernel
theorem d_M_store_63 : decode prog_14_method_80_code 63 = .ok (.ifCond .eq 15, 3) := by decide +kernel
theorem d_M_store_66 : decode prog_14_method_80_code 66 = .ok (.aload_n 0, 1) := by decide +kernel
theorem d_M_store_67 : decode prog_14_method_80_code 67 = .ok (.sipush 30078, 3) := by decide +kernel
theorem d_M_store_70 : decode prog_14_method_80_code 70 = .ok (.lload_n 1, 1) := by decide +kernel
theorem d_M_store_71 : decode prog_14_method_80_code 71 = .ok (.invokestatic 324, 3) := by decide +kernel
theorem d_M_store_74 : decode prog_14_method_80_code 74 = .ok (.i2l, 1) := by decide +kernel
theorem d_M_store_75 : decode prog_14_method_80_code 75 = .ok (.invokevirtual 375, 3) := by decide +kernel
theorem d_M_store_30 : decode prog_14_method_80_code 30 = .ok (.istore 5, 2) := by decide +kernel
theorem d_M_store_32 : decode prog_14_method_80_code 32 = .ok (.aload_n 0, 1) := by decide +kernel
theorem d_M_store_33 : decode prog_14_method_80_code 33 = .ok (.getfield 89, 3) := by decide +kernel
theorem d_M_store_36 : decode prog_14_method_80_code 36 = .ok (.iload_n 3, 1) := by decide +kernel
theorem d_M_store_37 : decode prog_14_method_80_code 37 = .ok (.baload, 1) := by decide +kernel
theorem d_M_store_38 : decode prog_14_method_80_code 38 = .ok (.ifCond .ne 6, 3) := by decide +kernel
theorem d_M_store_44 : decode prog_14_method_80_code 44 = .ok (.iload 5, 2) := by decide +kernel
theorem d_M_store_46 : decode prog_14_method_80_code 46 = .ok (.ifCond .eq 9, 3) := by decide +kernel
theorem d_M_store_55 : decode prog_14_method_80_code 55 = .ok (.lload_n 1, 1) := by decide +kernel
theorem d_M_store_56 : decode prog_14_method_80_code 56 = .ok (.invokestatic 318, 3) := by decide +kernel
theorem d_M_store_49 : decode prog_14_method_80_code 49 = .ok (.sipush 30078, 3) := by decide +kernel
theorem d_M_store_52 : decode prog_14_method_80_code 52 = .ok (.goto 7, 3) := by decide +kernel
theorem d_M_store_41 : decode prog_14_method_80_code 41 = .ok (.bipush 10, 2) := by decide +kernel
theorem d_M_store_43 : decode prog_14_method_80_code 43 = .ok (.ireturn, 1) := by decide +kernel
theorem d_M_store_0 : decode prog_14_method_80_code 0 = .ok (.lload_n 1, 1) := by decide +kernel
theorem d_M_store_1 : decode prog_14_method_80_code 1 = .ok (.invokestatic 315, 3) := by decide +kernel
theorem d_M_store_4 : decode prog_14_method_80_code 4 = .ok (.istore_n 3, 1) := by decide +kernel
theorem d_M_store_5 : decode prog_14_method_80_code 5 = .ok (.lload_n 1, 1) := by decide +kernel
theorem d_M_store_6 : decode prog_14_method_80_code 6 = .ok (.invokestatic 308, 3) := by decide +kernel
theorem d_M_store_9 : decode prog_14_method_80_code 9 = .ok (.invokestatic 412, 3) := by decide +kernel
theorem d_M_store_12 : decode prog_14_method_80_code 12 = .ok (.istore 4, 2) := by decide +kernel
theorem d_M_store_14 : decode prog_14_method_80_code 14 = .ok (.lload_n 1, 1) := by decide +kernel
theorem d_M_store_15 : decode prog_14_method_80_code 15 = .ok (.invokestatic 308, 3) := by decide +kernel
theorem d_M_store_18 : decode prog_14_method_80_code 18 = .ok (.invokestatic 312, 3) := by decide +kernel
theorem d_M_store_21 : decode prog_14_method_80_code 21 = .ok (.iconst 4, 1) := by decide +kernel
theorem d_M_store_22 : decode prog_14_method_80_code 22 = .ok (.if_icmp .ne 7, 3) := by decide +kernel
theorem d_M_store_29 : decode prog_14_method_80_code 29 = .ok (.iconst 0, 1) := by decide +kernel
theorem d_M_store_25 : decode prog_14_method_80_code 25 = .ok (.iconst 1, 1) := by decide +kernel
theorem d_M_store_26 : decode prog_14_method_80_code 26 = .ok (.goto 4, 3) := by decide +kernel
abbrev y_M_store : MethodName := ⟨"FilterGuardModel", "store", "(J)I"⟩
def rm_M_store : Room := { frames := 4, cells := 0, slots := 0, locals := 89 }
abbrev q_M_store (D : va_G) (ad : Nat → Nat → Nat) (ca : Nat → ClassId) (N : Nat → Nat) (M0 MZ : me_M) (RZ : Int32) (A : Nat → Prop) : Array Value → Jvm.State → Outcome → Jvm.State → Prop := va_Qi (fun r (_ : Unit) => r = RZ ∧ me_wf N MZ ∧ me_kp M0 MZ) (fg_B D A (fun _ => me_W ad ca MZ) (fun _ => [])) A
set_option maxHeartbeats 4000000 in
set_option maxRecDepth 100000 in
theorem c_M_store (l : Launch) (D : va_G) (ad : Nat → Nat → Nat) (ca : Nat → ClassId) (N : Nat → Nat) (M0 MZ : me_M) (RZ : Int32) (j0 : Nat) (x1 : Int64) (h : f_M_store M0 j0 x1 = (some (MZ, RZ))) (hwf : me_wf N M0) (hj0 : j0 < N 1) (sz : Nat) : Met l y_M_store (fg_w y_M_store prog_14_method_80_code 9 (some .int)) rm_M_store (va_Pc [.ref (ad 1 j0), .long x1] (fz_P D (me_T ca) (me_W ad ca M0) sz)) (q_M_store D ad ca N M0 MZ RZ (va_A (me_W ad ca M0) sz)) rm_M_store.cells rm_M_store.slots (va_A (me_W ad ca M0) sz) := by
  refine fz_enter (fun A => q_M_store D ad ca N M0 MZ RZ A) (by decide +kernel) (Nat.le_of_ble_eq_true rfl) ?_
  intro p e s m below meth c ls A hx hb hml hown hts hr hlocks hin hP hK hD hS hA hX hl hz
  have hl : lv_has ls 9 [(0, .ref (ad 1 j0)), (1, .long x1)] := hl
  unfold f_M_store at h
  have hkp : me_kp M0 M0 := me_kp.rf
  have hkb := hkp
  have b_176 : ∀ (M : me_M) (y3 : Int32) (y4 : Int32) (y6 : Int32) (y7 : Int32) (H : Heap) (locs : List Loc) (ls : Array Slot), f_M_store_b176 j0 M y3 y4 y6 y7 = (some (MZ, RZ)) → me_wf N M → me_kp M0 M → va_P D classes (me_W ad ca M) H → va_D A (me_W ad ca M) → va_S A s.heap H locs → lv_has ls 9 [(0, .ref (ad 1 j0)), (3, .int y3), (4, .int y4), (6, .int y6), (7, .int y7)] → W p l e rm_M_store s m [.ref (ad 1 j0), .long x1].toArray below meth c H locs 0 0 (MQ below (q_M_store D ad ca N M0 MZ RZ A) [.ref (ad 1 j0), .long x1].toArray s rm_M_store.cells rm_M_store.slots A) (F0 m 176 ls []) := by
    intro M y3 y4 y6 y7 H locs ls h hwf hkp hP hD hS hl
    unfold f_M_store_b176 at h
    have hkb := hkp
    refine lv_aload_n hx hb d_M_store_176 rfl (lv_at hl 0 rfl) ?_
    refine g_M_47 hx hb hts hown hK hP hwf hj0 (hts _ u_1788) d_M_store_177 ?_
    obtain ⟨j1, e2, h⟩ := bd_ob h
    have hj1 : j1 < N 14 := (hwf.2.1 1 j0 47 _ e2 (by decide) hj0)
    refine me_opt (j := j1) e2 ?_
    refine lv_iload_n hx hb d_M_store_180 rfl (lv_at hl 1 rfl) ?_
    obtain ⟨g3, h⟩ := gd_ob h
    refine me_bald hx hb hK hP hwf hj1 g3 d_M_store_181 ?_
    refine lv_iconst (v := 3) hx hb d_M_store_182 (by decide) ?_
    refine lv_icmp_ne (tgt := 196) hx hb d_M_store_183 (by decide) (fun c4 => ?_) (fun c4 => ?_)
    · have h := if_f c4 h
      refine lv_iconst (v := 0) hx hb d_M_store_196 (by decide) ?_
      exact me_reti (me_kp M0) h hx hb hr hlocks hwf hkp hP hK hD hS d_M_store_197
    have h := if_t c4 h
    refine lv_aload_n hx hb d_M_store_186 rfl (lv_at hl 0 rfl) ?_
    refine lv_iload hx hb d_M_store_187 (lv_at hl 3 rfl) ?_
    refine lv_iload hx hb d_M_store_189 (lv_at hl 4 rfl) ?_
    refine lv_iload hx hb d_M_store_191 (lv_at hl 2 rfl) ?_
    obtain ⟨M5, eM5, h⟩ := bd_ob h
    refine me_thenv0 (M1 := M5) (me_runV (C := "FilterGuardModel") (As := [.int y6, .int y7, .int y4]) (rest := []) ⟨hx, hb, hml, hown, hts⟩ (c_M_storeStack l D ad ca N M M5 j0 y6 y7 y4 eM5 hwf hj0 _) rfl (by show fg_nm y_M_storeStack 3; decide +kernel) u_2199 u_2201 u_124 u_192 u_2202 ⟨Nat.le_of_ble_eq_true rfl, Nat.le_of_ble_eq_true rfl⟩ hX hz hK hP hD hwf hS hA hj0 (by decide) rfl rfl rfl hl.1 (Nat.le_of_ble_eq_true rfl) d_M_store_193 ⟨Nat.le_of_ble_eq_true rfl, Nat.le_of_ble_eq_true rfl⟩) hP hD hK hS hA rfl rfl (fun H locs hw hP hD hS => ?_)
    obtain ⟨hwf, hk9⟩ := hw
    have hkp := hkp.tr hk9
    refine lv_iconst (v := 0) hx hb d_M_store_196 (by decide) ?_
    exact me_reti (me_kp M0) h hx hb hr hlocks hwf hkp hP hK hD hS d_M_store_197
  have b_78 : ∀ (M : me_M) (y3 : Int32) (y4 : Int32) (y6 : Int32) (H : Heap) (locs : List Loc) (ls : Array Slot), f_M_store_b78 j0 x1 M y3 y4 y6 = (some (MZ, RZ)) → me_wf N M → me_kp M0 M → va_P D classes (me_W ad ca M) H → va_D A (me_W ad ca M) → va_S A s.heap H locs → lv_has ls 9 [(0, .ref (ad 1 j0)), (1, .long x1), (3, .int y3), (4, .int y4), (6, .int y6)] → W p l e rm_M_store s m [.ref (ad 1 j0), .long x1].toArray below meth c H locs 0 0 (MQ below (q_M_store D ad ca N M0 MZ RZ A) [.ref (ad 1 j0), .long x1].toArray s rm_M_store.cells rm_M_store.slots A) (F0 m 78 ls []) := by
    intro M y3 y4 y6 H locs ls h hwf hkp hP hD hS hl
    unfold f_M_store_b78 at h
    have hkb := hkp
    refine lv_aload_n hx hb d_M_store_78 rfl (lv_at hl 0 rfl) ?_
    refine g_M_47 hx hb hts hown hK hP hwf hj0 (hts _ u_1788) d_M_store_79 ?_
    obtain ⟨j6, e7, h⟩ := bd_ob h
    have hj6 : j6 < N 14 := (hwf.2.1 1 j0 47 _ e7 (by decide) hj0)
    refine me_opt (j := j6) e7 ?_
    refine lv_iload hx hb d_M_store_82 (lv_at hl 4 rfl) ?_
    obtain ⟨g8, h⟩ := gd_ob h
    refine me_bald hx hb hK hP hwf hj6 g8 d_M_store_84 ?_
    refine lv_if_ne (tgt := 91) hx hb d_M_store_85 (by decide) (fun c9 => ?_) (fun c9 => ?_)
    · have h := if_f c9 h
      refine lv_aload_n hx hb d_M_store_91 rfl (lv_at hl 0 rfl) ?_
      refine g_M_48 hx hb hts hown hK hP hwf hj0 (hts _ u_1789) d_M_store_92 ?_
      obtain ⟨j10, e11, h⟩ := bd_ob h
      have hj10 : j10 < N 13 := (hwf.2.1 1 j0 48 _ e11 (by decide) hj0)
      refine me_opt (j := j10) e11 ?_
      refine lv_iload_n hx hb d_M_store_95 rfl (lv_at hl 2 rfl) ?_
      obtain ⟨g12, h⟩ := gd_ob h
      refine me_iald hx hb hK hP hwf hj10 g12 d_M_store_96 ?_
      refine lv_lload_n hx hb d_M_store_97 rfl (lv_at hl 1 rfl) ?_
      obtain ⟨r13, er13, h⟩ := bd_ob h
      refine me_pani' (r0 := r13) (fg_runS (wc := []) (tc := []) (A2 := A) (As := [.long x1]) (rest := [.int (mI M 13 j10 y3.toNatClampNeg)]) ⟨hx, hb, hml, hown, hts⟩ (c_M_offsetOf l D r13 x1 er13 _) (by show fg_nm y_M_offsetOf 1; decide +kernel) u_2013 u_2014 u_192 u_2015 ⟨Nat.le_of_ble_eq_true rfl, Nat.le_of_ble_eq_true rfl⟩ hX me_P0 (hK.sub (tys' := []) [] rfl) me_D0 rfl hl.1 (Nat.le_of_ble_eq_true rfl) d_M_store_98 ⟨Nat.le_of_ble_eq_true rfl, Nat.le_of_ble_eq_true rfl⟩) hP hD hK hS hA rfl rfl (fun H locs hw hP hD hS => ?_)
      refine lv_iadd hx hb d_M_store_101 ?_
      obtain ⟨v14, ev14, h⟩ := st_ob h
      refine fg_topi (y := v14) ev14.symm ?_
      refine lv_istore (lv' := [(7, .int v14), (0, .ref (ad 1 j0)), (1, .long x1), (3, .int y3), (4, .int y4), (6, .int y6)]) hx hb d_M_store_102 hl (by decide) rfl (fun ls hl => ?_)
      refine lv_aload_n hx hb d_M_store_104 rfl (lv_at hl 1 rfl) ?_
      refine lv_iload_n hx hb d_M_store_105 rfl (lv_at hl 3 rfl) ?_
      refine lv_iload hx hb d_M_store_106 (lv_at hl 0 rfl) ?_
      refine lv_i2l (v := v14.toInt64) hx hb d_M_store_108 rfl ?_
      refine lv_iload hx hb d_M_store_109 (lv_at hl 4 rfl) ?_
      refine lv_iconst (v := 1) hx hb d_M_store_111 (by decide) ?_
      obtain ⟨M15, r16, eM15, h⟩ := b2_ob h
      refine me_theni0 (M1 := M15) (me_runV (C := "FilterGuardModel") (As := [.int y3, .long v14.toInt64, .int y4, .int 1]) (rest := []) ⟨hx, hb, hml, hown, hts⟩ (c_M_memoryFault l D ad ca N M M15 r16 j0 y3 v14.toInt64 y4 (1 : Int32) eM15 hwf hj0 (by decide) _) rfl (by show fg_nm y_M_memoryFault 4; decide +kernel) u_2123 u_2125 u_109 u_192 u_2126 ⟨Nat.le_of_ble_eq_true rfl, Nat.le_of_ble_eq_true rfl⟩ hX hz hK hP hD hwf hS hA hj0 (by decide) rfl rfl rfl hl.1 (Nat.le_of_ble_eq_true rfl) d_M_store_112 ⟨Nat.le_of_ble_eq_true rfl, Nat.le_of_ble_eq_true rfl⟩) hP hD hK hS hA rfl rfl (fun H locs hw hP hD hS => ?_)
      obtain ⟨hwf, hk9⟩ := hw
      have hkp := hkp.tr hk9
      refine lv_istore (lv' := [(8, .int r16), (7, .int v14), (0, .ref (ad 1 j0)), (1, .long x1), (3, .int y3), (4, .int y4), (6, .int y6)]) hx hb d_M_store_115 hl (by decide) rfl (fun ls hl => ?_)
      refine lv_iload hx hb d_M_store_117 (lv_at hl 0 rfl) ?_
      refine lv_if_gt (tgt := 132) hx hb d_M_store_119 (by decide) (fun c17 => ?_) (fun c17 => ?_)
      · have h := if_t c17 h
        refine lv_iload hx hb d_M_store_132 (lv_at hl 0 rfl) ?_
        refine lv_bipush (v := 13) hx hb d_M_store_134 (by decide) ?_
        refine lv_icmp_ne (tgt := 144) hx hb d_M_store_136 (by decide) (fun c18 => ?_) (fun c18 => ?_)
        · have h := if_f c18 h
          refine lv_bipush (v := 14) hx hb d_M_store_144 (by decide) ?_
          exact me_reti (me_kp M0) h hx hb hr hlocks hwf hkp hP hK hD hS d_M_store_146
        have h := if_t c18 h
        refine lv_bipush (v := 13) hx hb d_M_store_139 (by decide) ?_
        refine lv_goto (tgt := 146) hx hb d_M_store_141 (by decide) ?_
        exact me_reti (me_kp M0) h hx hb hr hlocks hwf hkp hP hK hD hS d_M_store_146
      have h := if_f c17 h
      refine lv_aload_n hx hb d_M_store_122 rfl (lv_at hl 2 rfl) ?_
      refine g_M_47 hx hb hts hown hK hP hwf hj0 (hts _ u_1788) d_M_store_123 ?_
      refine me_opt (j := j6) (kp_r hkb hkp e7) ?_
      refine lv_iload_n hx hb d_M_store_126 rfl (lv_at hl 4 rfl) ?_
      obtain ⟨g19, h⟩ := gd_ob h
      refine me_bald hx hb hK hP hwf hj6 (kp_z hkb.z hkp.z g19) d_M_store_127 ?_
      refine lv_iconst (v := 2) hx hb d_M_store_128 (by decide) ?_
      refine lv_icmp_ne (tgt := 147) hx hb d_M_store_129 (by decide) (fun c20 => ?_) (fun c20 => ?_)
      · have h := if_f c20 h
        refine lv_aload_n hx hb d_M_store_147 rfl (lv_at hl 2 rfl) ?_
        refine lv_iload hx hb d_M_store_148 (lv_at hl 6 rfl) ?_
        obtain ⟨M21, r22, eM21, h⟩ := b2_ob h
        refine me_theni0 (M1 := M21) (me_runV (C := "FilterGuardModel") (As := [.int y6]) (rest := []) ⟨hx, hb, hml, hown, hts⟩ (c_M_isNumber l D ad ca N M15 M21 r22 j0 y6 eM21 hwf hj0 _) rfl (by show fg_nm y_M_isNumber 1; decide +kernel) u_2187 u_2189 u_121 u_192 u_2190 ⟨Nat.le_of_ble_eq_true rfl, Nat.le_of_ble_eq_true rfl⟩ hX hz hK hP hD hwf hS hA hj0 (by decide) rfl rfl rfl hl.1 (Nat.le_of_ble_eq_true rfl) d_M_store_150 ⟨Nat.le_of_ble_eq_true rfl, Nat.le_of_ble_eq_true rfl⟩) hP hD hK hS hA rfl rfl (fun H locs hw hP hD hS => ?_)
        obtain ⟨hwf, hk9, zr22⟩ := hw
        have hkp := hkp.tr hk9
        refine lv_if_ne (tgt := 176) hx hb d_M_store_153 (by decide) (fun c23 => ?_) (fun c23 => ?_)
        · have h := if_f c23 h
          exact b_176 M21 y3 y4 y6 v14 _ _ _ h hwf hkp hP hD hS (lv_sub hl [2, 4, 5, 6, 1] rfl)
        have h := if_t c23 h
        refine lv_iload hx hb d_M_store_156 (lv_at hl 5 rfl) ?_
        refine lv_bipush (v := 8) hx hb d_M_store_158 (by decide) ?_
        refine lv_icmp_lt (tgt := 173) hx hb d_M_store_160 (by decide) (fun c24 => ?_) (fun c24 => ?_)
        · have h := if_t c24 h
          refine lv_bipush (v := 16) hx hb d_M_store_173 (by decide) ?_
          exact me_reti (me_kp M0) h hx hb hr hlocks hwf hkp hP hK hD hS d_M_store_175
        have h := if_f c24 h
        refine lv_aload_n hx hb d_M_store_163 rfl (lv_at hl 2 rfl) ?_
        refine g_M_47 hx hb hts hown hK hP hwf hj0 (hts _ u_1788) d_M_store_164 ?_
        refine me_opt (j := j6) (kp_r hkb hkp e7) ?_
        refine lv_iload_n hx hb d_M_store_167 rfl (lv_at hl 4 rfl) ?_
        refine me_bald hx hb hK hP hwf hj6 (kp_z hkb.z hkp.z g19) d_M_store_168 ?_
        refine lv_iconst (v := 3) hx hb d_M_store_169 (by decide) ?_
        refine lv_icmp_eq (tgt := 176) hx hb d_M_store_170 (by decide) (fun c25 => ?_) (fun c25 => ?_)
        · have h := if_t c25 h
          exact b_176 M21 y3 y4 y6 v14 _ _ _ h hwf hkp hP hD hS (lv_sub hl [2, 4, 5, 6, 1] rfl)
        have h := if_f c25 h
        refine lv_bipush (v := 16) hx hb d_M_store_173 (by decide) ?_
        exact me_reti (me_kp M0) h hx hb hr hlocks hwf hkp hP hK hD hS d_M_store_175
      have h := if_t c20 h
      refine lv_iload hx hb d_M_store_132 (lv_at hl 0 rfl) ?_
      refine lv_bipush (v := 13) hx hb d_M_store_134 (by decide) ?_
      refine lv_icmp_ne (tgt := 144) hx hb d_M_store_136 (by decide) (fun c26 => ?_) (fun c26 => ?_)
      · have h := if_f c26 h
        refine lv_bipush (v := 14) hx hb d_M_store_144 (by decide) ?_
        exact me_reti (me_kp M0) h hx hb hr hlocks hwf hkp hP hK hD hS d_M_store_146
      have h := if_t c26 h
      refine lv_bipush (v := 13) hx hb d_M_store_139 (by decide) ?_
      refine lv_goto (tgt := 146) hx hb d_M_store_141 (by decide) ?_
      exact me_reti (me_kp M0) h hx hb hr hlocks hwf hkp hP hK hD hS d_M_store_146
    have h := if_t c9 h
    refine lv_bipush (v := 10) hx hb d_M_store_88 (by decide) ?_
    exact me_reti (me_kp M0) h hx hb hr hlocks hwf hkp hP hK hD hS d_M_store_90
  have b_59 : ∀ (M : me_M) (y3 : Int32) (y4 : Int32) (y5 : Int32) (s0 : Int32) (H : Heap) (locs : List Loc) (ls : Array Slot), f_M_store_b59 j0 x1 M y3 y4 y5 s0 = (some (MZ, RZ)) → (y5 = 1 ∨ y5 = 0) → me_wf N M → me_kp M0 M → va_P D classes (me_W ad ca M) H → va_D A (me_W ad ca M) → va_S A s.heap H locs → lv_has ls 9 [(0, .ref (ad 1 j0)), (1, .long x1), (3, .int y3), (4, .int y4), (5, .int y5)] → W p l e rm_M_store s m [.ref (ad 1 j0), .long x1].toArray below meth c H locs 0 0 (MQ below (q_M_store D ad ca N M0 MZ RZ A) [.ref (ad 1 j0), .long x1].toArray s rm_M_store.cells rm_M_store.slots A) (F0 m 59 ls [.int s0]) := by
    intro M y3 y4 y5 s0 H locs ls h zy5 hwf hkp hP hD hS hl
    unfold f_M_store_b59 at h
    have hkb := hkp
    refine lv_istore (lv' := [(6, .int s0), (0, .ref (ad 1 j0)), (1, .long x1), (3, .int y3), (4, .int y4), (5, .int y5)]) hx hb d_M_store_59 hl (by decide) rfl (fun ls hl => ?_)
    refine lv_iload hx hb d_M_store_61 (lv_at hl 5 rfl) ?_
    refine lv_if_eq (tgt := 78) hx hb d_M_store_63 (by decide) (fun c27 => ?_) (fun c27 => ?_)
    · have h := if_t c27 h
      exact b_78 M y3 y4 s0 _ _ _ h hwf hkp hP hD hS (lv_sub hl [1, 2, 3, 4, 0] rfl)
    have h := if_f c27 h
    refine lv_aload_n hx hb d_M_store_66 rfl (lv_at hl 1 rfl) ?_
    refine lv_sipush (v := 30078) hx hb d_M_store_67 (by decide) ?_
    refine lv_lload_n hx hb d_M_store_70 rfl (lv_at hl 2 rfl) ?_
    obtain ⟨r28, er28, h⟩ := bd_ob h
    refine me_pani' (r0 := r28) (fg_runS (wc := []) (tc := []) (A2 := A) (As := [.long x1]) (rest := [.int 30078, .ref (ad 1 j0)]) ⟨hx, hb, hml, hown, hts⟩ (c_M_fieldOf l D r28 x1 er28 _) (by show fg_nm y_M_fieldOf 1; decide +kernel) u_2016 u_2017 u_192 u_2018 ⟨Nat.le_of_ble_eq_true rfl, Nat.le_of_ble_eq_true rfl⟩ hX me_P0 (hK.sub (tys' := []) [] rfl) me_D0 rfl hl.1 (Nat.le_of_ble_eq_true rfl) d_M_store_71 ⟨Nat.le_of_ble_eq_true rfl, Nat.le_of_ble_eq_true rfl⟩) hP hD hK hS hA rfl rfl (fun H locs hw hP hD hS => ?_)
    refine lv_i2l (v := r28.toInt64) hx hb d_M_store_74 rfl ?_
    obtain ⟨M29, eM29, h⟩ := bd_ob h
    refine me_thenv0 (M1 := M29) (me_runV (C := "FilterGuardModel") (As := [.int 30078, .long r28.toInt64]) (rest := []) ⟨hx, hb, hml, hown, hts⟩ (c_M_toNumber l D ad ca N M M29 j0 (30078 : Int32) r28.toInt64 eM29 hwf hj0 _) rfl (by show fg_nm y_M_toNumber 2; decide +kernel) u_2112 u_2114 u_107 u_192 u_2115 ⟨Nat.le_of_ble_eq_true rfl, Nat.le_of_ble_eq_true rfl⟩ hX hz hK hP hD hwf hS hA hj0 (by decide) rfl rfl rfl hl.1 (Nat.le_of_ble_eq_true rfl) d_M_store_75 ⟨Nat.le_of_ble_eq_true rfl, Nat.le_of_ble_eq_true rfl⟩) hP hD hK hS hA rfl rfl (fun H locs hw hP hD hS => ?_)
    obtain ⟨hwf, hk9⟩ := hw
    have hkp := hkp.tr hk9
    exact b_78 M29 y3 y4 s0 _ _ _ h hwf hkp hP hD hS (lv_sub hl [1, 2, 3, 4, 0] rfl)
  have b_30 : ∀ (M : me_M) (y3 : Int32) (y4 : Int32) (s0 : Int32) (H : Heap) (locs : List Loc) (ls : Array Slot), f_M_store_b30 j0 x1 M y3 y4 s0 = (some (MZ, RZ)) → (s0 = 1 ∨ s0 = 0) → me_wf N M → me_kp M0 M → va_P D classes (me_W ad ca M) H → va_D A (me_W ad ca M) → va_S A s.heap H locs → lv_has ls 9 [(0, .ref (ad 1 j0)), (1, .long x1), (3, .int y3), (4, .int y4)] → W p l e rm_M_store s m [.ref (ad 1 j0), .long x1].toArray below meth c H locs 0 0 (MQ below (q_M_store D ad ca N M0 MZ RZ A) [.ref (ad 1 j0), .long x1].toArray s rm_M_store.cells rm_M_store.slots A) (F0 m 30 ls [.int s0]) := by
    intro M y3 y4 s0 H locs ls h zs0 hwf hkp hP hD hS hl
    unfold f_M_store_b30 at h
    have hkb := hkp
    refine lv_istore (lv' := [(5, .int s0), (0, .ref (ad 1 j0)), (1, .long x1), (3, .int y3), (4, .int y4)]) hx hb d_M_store_30 hl (by decide) rfl (fun ls hl => ?_)
    refine lv_aload_n hx hb d_M_store_32 rfl (lv_at hl 1 rfl) ?_
    refine g_M_47 hx hb hts hown hK hP hwf hj0 (hts _ u_1788) d_M_store_33 ?_
    obtain ⟨j30, e31, h⟩ := bd_ob h
    have hj30 : j30 < N 14 := (hwf.2.1 1 j0 47 _ e31 (by decide) hj0)
    refine me_opt (j := j30) e31 ?_
    refine lv_iload_n hx hb d_M_store_36 rfl (lv_at hl 3 rfl) ?_
    obtain ⟨g32, h⟩ := gd_ob h
    refine me_bald hx hb hK hP hwf hj30 g32 d_M_store_37 ?_
    refine lv_if_ne (tgt := 44) hx hb d_M_store_38 (by decide) (fun c33 => ?_) (fun c33 => ?_)
    · have h := if_f c33 h
      refine lv_iload hx hb d_M_store_44 (lv_at hl 0 rfl) ?_
      refine lv_if_eq (tgt := 55) hx hb d_M_store_46 (by decide) (fun c34 => ?_) (fun c34 => ?_)
      · have h := if_t c34 h
        refine lv_lload_n hx hb d_M_store_55 rfl (lv_at hl 2 rfl) ?_
        obtain ⟨r35, er35, h⟩ := bd_ob h
        refine me_pani' (r0 := r35) (fg_runS (wc := []) (tc := []) (A2 := A) (As := [.long x1]) (rest := []) ⟨hx, hb, hml, hown, hts⟩ (c_M_fromOf l D r35 x1 er35 _) (by show fg_nm y_M_fromOf 1; decide +kernel) u_2010 u_2011 u_192 u_2012 ⟨Nat.le_of_ble_eq_true rfl, Nat.le_of_ble_eq_true rfl⟩ hX me_P0 (hK.sub (tys' := []) [] rfl) me_D0 rfl hl.1 (Nat.le_of_ble_eq_true rfl) d_M_store_56 ⟨Nat.le_of_ble_eq_true rfl, Nat.le_of_ble_eq_true rfl⟩) hP hD hK hS hA rfl rfl (fun H locs hw hP hD hS => ?_)
        exact b_59 M y3 y4 s0 r35 _ _ _ h zs0 hwf hkp hP hD hS (lv_sub hl [1, 2, 3, 4, 0] rfl)
      have h := if_f c34 h
      refine lv_sipush (v := 30078) hx hb d_M_store_49 (by decide) ?_
      refine lv_goto (tgt := 59) hx hb d_M_store_52 (by decide) ?_
      exact b_59 M y3 y4 s0 (30078 : Int32) _ _ _ h zs0 hwf hkp hP hD hS (lv_sub hl [1, 2, 3, 4, 0] rfl)
    have h := if_t c33 h
    refine lv_bipush (v := 10) hx hb d_M_store_41 (by decide) ?_
    exact me_reti (me_kp M0) h hx hb hr hlocks hwf hkp hP hK hD hS d_M_store_43
  refine lv_lload_n hx hb d_M_store_0 rfl (lv_at hl 1 rfl) ?_
  obtain ⟨r36, er36, h⟩ := bd_ob h
  refine me_pani' (r0 := r36) (fg_runS (wc := []) (tc := []) (A2 := A) (As := [.long x1]) (rest := []) ⟨hx, hb, hml, hown, hts⟩ (c_M_toOf l D r36 x1 er36 _) (by show fg_nm y_M_toOf 1; decide +kernel) u_2006 u_2007 u_192 u_2008 ⟨Nat.le_of_ble_eq_true rfl, Nat.le_of_ble_eq_true rfl⟩ hX me_P0 (hK.sub (tys' := []) [] rfl) me_D0 rfl hl.1 (Nat.le_of_ble_eq_true rfl) d_M_store_1 ⟨Nat.le_of_ble_eq_true rfl, Nat.le_of_ble_eq_true rfl⟩) hP hD hK hS hA rfl rfl (fun H locs hw hP hD hS => ?_)
  refine lv_istore_n (lv' := [(3, .int r36), (0, .ref (ad 1 j0)), (1, .long x1)]) hx hb d_M_store_4 rfl hl (by decide) rfl (fun ls hl => ?_)
  refine lv_lload_n hx hb d_M_store_5 rfl (lv_at hl 2 rfl) ?_
  obtain ⟨r37, er37, h⟩ := bd_ob h
  refine me_pani' (r0 := r37) (fg_runS (wc := []) (tc := []) (A2 := A) (As := [.long x1]) (rest := []) ⟨hx, hb, hml, hown, hts⟩ (c_M_opOf l D r37 x1 er37 _) (by show fg_nm y_M_opOf 1; decide +kernel) u_1997 u_1998 u_192 u_1999 ⟨Nat.le_of_ble_eq_true rfl, Nat.le_of_ble_eq_true rfl⟩ hX me_P0 (hK.sub (tys' := []) [] rfl) me_D0 rfl hl.1 (Nat.le_of_ble_eq_true rfl) d_M_store_6 ⟨Nat.le_of_ble_eq_true rfl, Nat.le_of_ble_eq_true rfl⟩) hP hD hK hS hA rfl rfl (fun H locs hw hP hD hS => ?_)
  obtain ⟨r38, er38, h⟩ := bd_ob h
  refine me_pani' (r0 := r38) (fg_runS (wc := []) (tc := []) (A2 := A) (As := [.int r37]) (rest := []) ⟨hx, hb, hml, hown, hts⟩ (c_M_widthOf l D r38 r37 er38 _) (by show fg_nm y_M_widthOf 1; decide +kernel) u_2120 u_2121 u_192 u_2122 ⟨Nat.le_of_ble_eq_true rfl, Nat.le_of_ble_eq_true rfl⟩ hX me_P0 (hK.sub (tys' := []) [] rfl) me_D0 rfl hl.1 (Nat.le_of_ble_eq_true rfl) d_M_store_9 ⟨Nat.le_of_ble_eq_true rfl, Nat.le_of_ble_eq_true rfl⟩) hP hD hK hS hA rfl rfl (fun H locs hw hP hD hS => ?_)
  refine lv_istore (lv' := [(4, .int r38), (3, .int r36), (0, .ref (ad 1 j0)), (1, .long x1)]) hx hb d_M_store_12 hl (by decide) rfl (fun ls hl => ?_)
  refine lv_lload_n hx hb d_M_store_14 rfl (lv_at hl 3 rfl) ?_
  obtain ⟨r39, er39, h⟩ := bd_ob h
  refine me_pani' (r0 := r39) (fg_runS (wc := []) (tc := []) (A2 := A) (As := [.long x1]) (rest := []) ⟨hx, hb, hml, hown, hts⟩ (c_M_opOf l D r39 x1 er39 _) (by show fg_nm y_M_opOf 1; decide +kernel) u_1997 u_1998 u_192 u_1999 ⟨Nat.le_of_ble_eq_true rfl, Nat.le_of_ble_eq_true rfl⟩ hX me_P0 (hK.sub (tys' := []) [] rfl) me_D0 rfl hl.1 (Nat.le_of_ble_eq_true rfl) d_M_store_15 ⟨Nat.le_of_ble_eq_true rfl, Nat.le_of_ble_eq_true rfl⟩) hP hD hK hS hA rfl rfl (fun H locs hw hP hD hS => ?_)
  obtain ⟨r40, er40, h⟩ := bd_ob h
  refine me_pani' (r0 := r40) (fg_runS (wc := []) (tc := []) (A2 := A) (As := [.int r39]) (rest := []) ⟨hx, hb, hml, hown, hts⟩ (c_M_instruction l D r40 r39 er40 _) (by show fg_nm y_M_instruction 1; decide +kernel) u_2000 u_2001 u_192 u_2002 ⟨Nat.le_of_ble_eq_true rfl, Nat.le_of_ble_eq_true rfl⟩ hX me_P0 (hK.sub (tys' := []) [] rfl) me_D0 rfl hl.1 (Nat.le_of_ble_eq_true rfl) d_M_store_18 ⟨Nat.le_of_ble_eq_true rfl, Nat.le_of_ble_eq_true rfl⟩) hP hD hK hS hA rfl rfl (fun H locs hw hP hD hS => ?_)
  refine lv_iconst (v := 4) hx hb d_M_store_21 (by decide) ?_
  refine lv_icmp_ne (tgt := 29) hx hb d_M_store_22 (by decide) (fun c41 => ?_) (fun c41 => ?_)
  · have h := if_f c41 h
    refine lv_iconst (v := 0) hx hb d_M_store_29 (by decide) ?_
    exact b_30 M0 r36 r38 (0 : Int32) _ _ _ h (by decide) hwf hkp hP hD hS (lv_sub hl [2, 3, 1, 0] rfl)
  have h := if_t c41 h
  refine lv_iconst (v := 1) hx hb d_M_store_25 (by decide) ?_
  refine lv_goto (tgt := 30) hx hb d_M_store_26 (by decide) ?_
  exact b_30 M0 r36 r38 (1 : Int32) _ _ _ h (by decide) hwf hkp hP hD hS (lv_sub hl [2, 3, 1, 0] rfl)
theorem d_M_addTo_0 : decode prog_14_method_82_code 0 = .ok (.lload_n 1, 1) := by decide +kernel
theorem d_M_addTo_1 : decode prog_14_method_82_code 1 = .ok (.invokestatic 315, 3) := by decide +kernel
theorem d_M_addTo_4 : decode prog_14_method_82_code 4 = .ok (.istore_n 3, 1) := by decide +kernel
theorem d_M_addTo_5 : decode prog_14_method_82_code 5 = .ok (.lload_n 1, 1) := by decide +kernel
theorem d_M_addTo_6 : decode prog_14_method_82_code 6 = .ok (.invokestatic 318, 3) := by decide +kernel
theorem d_M_addTo_9 : decode prog_14_method_82_code 9 = .ok (.istore 4, 2) := by decide +kernel
theorem d_M_addTo_11 : decode prog_14_method_82_code 11 = .ok (.lload_n 1, 1) := by decide +kernel
theorem d_M_addTo_12 : decode prog_14_method_82_code 12 = .ok (.invokestatic 308, 3) := by decide +kernel
theorem d_M_addTo_15 : decode prog_14_method_82_code 15 = .ok (.invokestatic 412, 3) := by decide +kernel
theorem d_M_addTo_18 : decode prog_14_method_82_code 18 = .ok (.istore 5, 2) := by decide +kernel
theorem d_M_addTo_20 : decode prog_14_method_82_code 20 = .ok (.aload_n 0, 1) := by decide +kernel
theorem d_M_addTo_21 : decode prog_14_method_82_code 21 = .ok (.getfield 89, 3) := by decide +kernel
theorem d_M_addTo_24 : decode prog_14_method_82_code 24 = .ok (.iload_n 3, 1) := by decide +kernel
theorem d_M_addTo_25 : decode prog_14_method_82_code 25 = .ok (.baload, 1) := by decide +kernel
theorem d_M_addTo_26 : decode prog_14_method_82_code 26 = .ok (.ifCond .eq 13, 3) := by decide +kernel
theorem d_M_addTo_39 : decode prog_14_method_82_code 39 = .ok (.bipush 10, 2) := by decide +kernel
theorem d_M_addTo_41 : decode prog_14_method_82_code 41 = .ok (.ireturn, 1) := by decide +kernel
theorem d_M_addTo_29 : decode prog_14_method_82_code 29 = .ok (.aload_n 0, 1) := by decide +kernel
theorem d_M_addTo_30 : decode prog_14_method_82_code 30 = .ok (.getfield 89, 3) := by decide +kernel
theorem d_M_addTo_33 : decode prog_14_method_82_code 33 = .ok (.iload 4, 2) := by decide +kernel
theorem d_M_addTo_35 : decode prog_14_method_82_code 35 = .ok (.baload, 1) := by decide +kernel
theorem d_M_addTo_36 : decode prog_14_method_82_code 36 = .ok (.ifCond .ne 6, 3) := by decide +kernel
theorem d_M_addTo_42 : decode prog_14_method_82_code 42 = .ok (.aload_n 0, 1) := by decide +kernel
theorem d_M_addTo_43 : decode prog_14_method_82_code 43 = .ok (.getfield 92, 3) := by decide +kernel
theorem d_M_addTo_46 : decode prog_14_method_82_code 46 = .ok (.iload_n 3, 1) := by decide +kernel
theorem d_M_addTo_47 : decode prog_14_method_82_code 47 = .ok (.iaload, 1) := by decide +kernel
theorem d_M_addTo_48 : decode prog_14_method_82_code 48 = .ok (.lload_n 1, 1) := by decide +kernel
theorem d_M_addTo_49 : decode prog_14_method_82_code 49 = .ok (.invokestatic 321, 3) := by decide +kernel
theorem d_M_addTo_52 : decode prog_14_method_82_code 52 = .ok (.iadd, 1) := by decide +kernel
theorem d_M_addTo_53 : decode prog_14_method_82_code 53 = .ok (.istore 6, 2) := by decide +kernel
theorem d_M_addTo_55 : decode prog_14_method_82_code 55 = .ok (.aload_n 0, 1) := by decide +kernel
theorem d_M_addTo_56 : decode prog_14_method_82_code 56 = .ok (.iload_n 3, 1) := by decide +kernel
theorem d_M_addTo_57 : decode prog_14_method_82_code 57 = .ok (.iload 6, 2) := by decide +kernel
theorem d_M_addTo_59 : decode prog_14_method_82_code 59 = .ok (.i2l, 1) := by decide +kernel
theorem d_M_addTo_60 : decode prog_14_method_82_code 60 = .ok (.iload 5, 2) := by decide +kernel
theorem d_M_addTo_62 : decode prog_14_method_82_code 62 = .ok (.iconst 1, 1) := by decide +kernel
theorem d_M_addTo_63 : decode prog_14_method_82_code 63 = .ok (.invokevirtual 415, 3) := by decide +kernel
theorem d_M_addTo_66 : decode prog_14_method_82_code 66 = .ok (.istore 7, 2) := by decide +kernel
theorem d_M_addTo_68 : decode prog_14_method_82_code 68 = .ok (.iload 7, 2) := by decide +kernel
theorem d_M_addTo_70 : decode prog_14_method_82_code 70 = .ok (.ifCond .le 6, 3) := by decide +kernel
theorem d_M_addTo_76 : decode prog_14_method_82_code 76 = .ok (.aload_n 0, 1) := by decide +kernel
theorem d_M_addTo_77 : decode prog_14_method_82_code 77 = .ok (.getfield 89, 3) := by decide +kernel
theorem d_M_addTo_80 : decode prog_14_method_82_code 80 = .ok (.iload_n 3, 1) := by decide +kernel
theorem d_M_addTo_81 : decode prog_14_method_82_code 81 = .ok (.baload, 1) := by decide +kernel
theorem d_M_addTo_82 : decode prog_14_method_82_code 82 = .ok (.iconst 2, 1) := by decide +kernel
theorem d_M_addTo_83 : decode prog_14_method_82_code 83 = .ok (.if_icmp .eq 13, 3) := by decide +kernel
theorem d_M_addTo_96 : decode prog_14_method_82_code 96 = .ok (.bipush 14, 2) := by decide +kernel
theorem d_M_addTo_98 : decode prog_14_method_82_code 98 = .ok (.ireturn, 1) := by decide +kernel
theorem d_M_addTo_86 : decode prog_14_method_82_code 86 = .ok (.aload_n 0, 1) := by decide +kernel
theorem d_M_addTo_87 : decode prog_14_method_82_code 87 = .ok (.getfield 89, 3) := by decide +kernel
theorem d_M_addTo_90 : decode prog_14_method_82_code 90 = .ok (.iload_n 3, 1) := by decide +kernel
theorem d_M_addTo_91 : decode prog_14_method_82_code 91 = .ok (.baload, 1) := by decide +kernel
theorem d_M_addTo_92 : decode prog_14_method_82_code 92 = .ok (.iconst 4, 1) := by decide +kernel
theorem d_M_addTo_93 : decode prog_14_method_82_code 93 = .ok (.if_icmp .ne 6, 3) := by decide +kernel
theorem d_M_addTo_99 : decode prog_14_method_82_code 99 = .ok (.aload_n 0, 1) := by decide +kernel
theorem d_M_addTo_100 : decode prog_14_method_82_code 100 = .ok (.iload 4, 2) := by decide +kernel
theorem d_M_addTo_102 : decode prog_14_method_82_code 102 = .ok (.invokevirtual 378, 3) := by decide +kernel
theorem d_M_addTo_105 : decode prog_14_method_82_code 105 = .ok (.ifCond .ne 6, 3) := by decide +kernel
theorem d_M_addTo_111 : decode prog_14_method_82_code 111 = .ok (.aload_n 0, 1) := by decide +kernel
theorem d_M_addTo_112 : decode prog_14_method_82_code 112 = .ok (.getfield 89, 3) := by decide +kernel
theorem d_M_addTo_115 : decode prog_14_method_82_code 115 = .ok (.iload_n 3, 1) := by decide +kernel
theorem d_M_addTo_116 : decode prog_14_method_82_code 116 = .ok (.baload, 1) := by decide +kernel
theorem d_M_addTo_117 : decode prog_14_method_82_code 117 = .ok (.bipush 7, 2) := by decide +kernel
theorem d_M_addTo_119 : decode prog_14_method_82_code 119 = .ok (.if_icmp .ne 5, 3) := by decide +kernel
theorem d_M_addTo_124 : decode prog_14_method_82_code 124 = .ok (.aload_n 0, 1) := by decide +kernel
theorem d_M_addTo_125 : decode prog_14_method_82_code 125 = .ok (.sipush 30079, 3) := by decide +kernel
theorem d_M_addTo_128 : decode prog_14_method_82_code 128 = .ok (.iload 6, 2) := by decide +kernel
theorem d_M_addTo_130 : decode prog_14_method_82_code 130 = .ok (.iload 5, 2) := by decide +kernel
theorem d_M_addTo_132 : decode prog_14_method_82_code 132 = .ok (.invokevirtual 422, 3) := by decide +kernel
theorem d_M_addTo_135 : decode prog_14_method_82_code 135 = .ok (.istore 7, 2) := by decide +kernel
theorem d_M_addTo_137 : decode prog_14_method_82_code 137 = .ok (.iload 7, 2) := by decide +kernel
theorem d_M_addTo_139 : decode prog_14_method_82_code 139 = .ok (.ifCond .le 6, 3) := by decide +kernel
theorem d_M_addTo_145 : decode prog_14_method_82_code 145 = .ok (.aload_n 0, 1) := by decide +kernel
theorem d_M_addTo_146 : decode prog_14_method_82_code 146 = .ok (.sipush 30079, 3) := by decide +kernel
theorem d_M_addTo_149 : decode prog_14_method_82_code 149 = .ok (.invokevirtual 378, 3) := by decide +kernel
theorem d_M_addTo_152 : decode prog_14_method_82_code 152 = .ok (.ifCond .ne 6, 3) := by decide +kernel
theorem d_M_addTo_158 : decode prog_14_method_82_code 158 = .ok (.aload_n 0, 1) := by decide +kernel
theorem d_M_addTo_159 : decode prog_14_method_82_code 159 = .ok (.sipush 30079, 3) := by decide +kernel
theorem d_M_addTo_162 : decode prog_14_method_82_code 162 = .ok (.invokevirtual 372, 3) := by decide +kernel
theorem d_M_addTo_165 : decode prog_14_method_82_code 165 = .ok (.aload_n 0, 1) := by decide +kernel
theorem d_M_addTo_166 : decode prog_14_method_82_code 166 = .ok (.sipush 30079, 3) := by decide +kernel
theorem d_M_addTo_169 : decode prog_14_method_82_code 169 = .ok (.iload 6, 2) := by decide +kernel
theorem d_M_addTo_171 : decode prog_14_method_82_code 171 = .ok (.iload 5, 2) := by decide +kernel
theorem d_M_addTo_173 : decode prog_14_method_82_code 173 = .ok (.invokevirtual 432, 3) := by decide +kernel
theorem d_M_addTo_176 : decode prog_14_method_82_code 176 = .ok (.iconst 0, 1) := by decide +kernel
theorem d_M_addTo_177 : decode prog_14_method_82_code 177 = .ok (.ireturn, 1) := by decide +kernel
theorem d_M_addTo_155 : decode prog_14_method_82_code 155 = .ok (.bipush 16, 2) := by decide +kernel
theorem d_M_addTo_157 : decode prog_14_method_82_code 157 = .ok (.ireturn, 1) := by decide +kernel
theorem d_M_addTo_142 : decode prog_14_method_82_code 142 = .ok (.iload 7, 2) := by decide +kernel
theorem d_M_addTo_144 : decode prog_14_method_82_code 144 = .ok (.ireturn, 1) := by decide +kernel
theorem d_M_addTo_122 : decode prog_14_method_82_code 122 = .ok (.iconst 0, 1) := by decide +kernel
theorem d_M_addTo_123 : decode prog_14_method_82_code 123 = .ok (.ireturn, 1) := by decide +kernel
theorem d_M_addTo_108 : decode prog_14_method_82_code 108 = .ok (.bipush 16, 2) := by decide +kernel
theorem d_M_addTo_110 : decode prog_14_method_82_code 110 = .ok (.ireturn, 1) := by decide +kernel
theorem d_M_addTo_73 : decode prog_14_method_82_code 73 = .ok (.iload 7, 2) := by decide +kernel
theorem d_M_addTo_75 : decode prog_14_method_82_code 75 = .ok (.ireturn, 1) := by decide +kernel
abbrev y_M_addTo : MethodName := ⟨"FilterGuardModel", "addTo", "(J)I"⟩
def rm_M_addTo : Room := { frames := 7, cells := 0, slots := 0, locals := 158 }
abbrev q_M_addTo (D : va_G) (ad : Nat → Nat → Nat) (ca : Nat → ClassId) (N : Nat → Nat) (M0 MZ : me_M) (RZ : Int32) (A : Nat → Prop) : Array Value → Jvm.State → Outcome → Jvm.State → Prop := va_Qi (fun r (_ : Unit) => r = RZ ∧ me_wf N MZ ∧ me_kp M0 MZ) (fg_B D A (fun _ => me_W ad ca MZ) (fun _ => [])) A
set_option maxHeartbeats 4000000 in
set_option maxRecDepth 100000 in
theorem c_M_addTo (l : Launch) (D : va_G) (ad : Nat → Nat → Nat) (ca : Nat → ClassId) (N : Nat → Nat) (M0 MZ : me_M) (RZ : Int32) (j0 : Nat) (x1 : Int64) (h : f_M_addTo M0 j0 x1 = (some (MZ, RZ))) (hwf : me_wf N M0) (hj0 : j0 < N 1) (sz : Nat) : Met l y_M_addTo (fg_w y_M_addTo prog_14_method_82_code 8 (some .int)) rm_M_addTo (va_Pc [.ref (ad 1 j0), .long x1] (fz_P D (me_T ca) (me_W ad ca M0) sz)) (q_M_addTo D ad ca N M0 MZ RZ (va_A (me_W ad ca M0) sz)) rm_M_addTo.cells rm_M_addTo.slots (va_A (me_W ad ca M0) sz) := by
  refine fz_enter (fun A => q_M_addTo D ad ca N M0 MZ RZ A) (by decide +kernel) (Nat.le_of_ble_eq_true rfl) ?_
  intro p e s m below meth c ls A hx hb hml hown hts hr hlocks hin hP hK hD hS hA hX hl hz
  have hl : lv_has ls 8 [(0, .ref (ad 1 j0)), (1, .long x1)] := hl
  unfold f_M_addTo at h
  have hkp : me_kp M0 M0 := me_kp.rf
  have hkb := hkp
  refine lv_lload_n hx hb d_M_addTo_0 rfl (lv_at hl 1 rfl) ?_
  obtain ⟨r1, er1, h⟩ := bd_ob h
  refine me_pani' (r0 := r1) (fg_runS (wc := []) (tc := []) (A2 := A) (As := [.long x1]) (rest := []) ⟨hx, hb, hml, hown, hts⟩ (c_M_toOf l D r1 x1 er1 _) (by show fg_nm y_M_toOf 1; decide +kernel) u_2006 u_2007 u_192 u_2008 ⟨Nat.le_of_ble_eq_true rfl, Nat.le_of_ble_eq_true rfl⟩ hX me_P0 (hK.sub (tys' := []) [] rfl) me_D0 rfl hl.1 (Nat.le_of_ble_eq_true rfl) d_M_addTo_1 ⟨Nat.le_of_ble_eq_true rfl, Nat.le_of_ble_eq_true rfl⟩) hP hD hK hS hA rfl rfl (fun H locs hw hP hD hS => ?_)
  refine lv_istore_n (lv' := [(3, .int r1), (0, .ref (ad 1 j0)), (1, .long x1)]) hx hb d_M_addTo_4 rfl hl (by decide) rfl (fun ls hl => ?_)
  refine lv_lload_n hx hb d_M_addTo_5 rfl (lv_at hl 2 rfl) ?_
  obtain ⟨r2, er2, h⟩ := bd_ob h
  refine me_pani' (r0 := r2) (fg_runS (wc := []) (tc := []) (A2 := A) (As := [.long x1]) (rest := []) ⟨hx, hb, hml, hown, hts⟩ (c_M_fromOf l D r2 x1 er2 _) (by show fg_nm y_M_fromOf 1; decide +kernel) u_2010 u_2011 u_192 u_2012 ⟨Nat.le_of_ble_eq_true rfl, Nat.le_of_ble_eq_true rfl⟩ hX me_P0 (hK.sub (tys' := []) [] rfl) me_D0 rfl hl.1 (Nat.le_of_ble_eq_true rfl) d_M_addTo_6 ⟨Nat.le_of_ble_eq_true rfl, Nat.le_of_ble_eq_true rfl⟩) hP hD hK hS hA rfl rfl (fun H locs hw hP hD hS => ?_)
  refine lv_istore (lv' := [(4, .int r2), (3, .int r1), (0, .ref (ad 1 j0)), (1, .long x1)]) hx hb d_M_addTo_9 hl (by decide) rfl (fun ls hl => ?_)
  refine lv_lload_n hx hb d_M_addTo_11 rfl (lv_at hl 3 rfl) ?_
  obtain ⟨r3, er3, h⟩ := bd_ob h
  refine me_pani' (r0 := r3) (fg_runS (wc := []) (tc := []) (A2 := A) (As := [.long x1]) (rest := []) ⟨hx, hb, hml, hown, hts⟩ (c_M_opOf l D r3 x1 er3 _) (by show fg_nm y_M_opOf 1; decide +kernel) u_1997 u_1998 u_192 u_1999 ⟨Nat.le_of_ble_eq_true rfl, Nat.le_of_ble_eq_true rfl⟩ hX me_P0 (hK.sub (tys' := []) [] rfl) me_D0 rfl hl.1 (Nat.le_of_ble_eq_true rfl) d_M_addTo_12 ⟨Nat.le_of_ble_eq_true rfl, Nat.le_of_ble_eq_true rfl⟩) hP hD hK hS hA rfl rfl (fun H locs hw hP hD hS => ?_)
  obtain ⟨r4, er4, h⟩ := bd_ob h
  refine me_pani' (r0 := r4) (fg_runS (wc := []) (tc := []) (A2 := A) (As := [.int r3]) (rest := []) ⟨hx, hb, hml, hown, hts⟩ (c_M_widthOf l D r4 r3 er4 _) (by show fg_nm y_M_widthOf 1; decide +kernel) u_2120 u_2121 u_192 u_2122 ⟨Nat.le_of_ble_eq_true rfl, Nat.le_of_ble_eq_true rfl⟩ hX me_P0 (hK.sub (tys' := []) [] rfl) me_D0 rfl hl.1 (Nat.le_of_ble_eq_true rfl) d_M_addTo_15 ⟨Nat.le_of_ble_eq_true rfl, Nat.le_of_ble_eq_true rfl⟩) hP hD hK hS hA rfl rfl (fun H locs hw hP hD hS => ?_)
  refine lv_istore (lv' := [(5, .int r4), (4, .int r2), (3, .int r1), (0, .ref (ad 1 j0)), (1, .long x1)]) hx hb d_M_addTo_18 hl (by decide) rfl (fun ls hl => ?_)
  refine lv_aload_n hx hb d_M_addTo_20 rfl (lv_at hl 3 rfl) ?_
  refine g_M_47 hx hb hts hown hK hP hwf hj0 (hts _ u_1788) d_M_addTo_21 ?_
  obtain ⟨j5, e6, h⟩ := bd_ob h
  have hj5 : j5 < N 14 := (hwf.2.1 1 j0 47 _ e6 (by decide) hj0)
  refine me_opt (j := j5) e6 ?_
  refine lv_iload_n hx hb d_M_addTo_24 rfl (lv_at hl 2 rfl) ?_
  obtain ⟨g7, h⟩ := gd_ob h
  refine me_bald hx hb hK hP hwf hj5 g7 d_M_addTo_25 ?_
  refine lv_if_eq (tgt := 39) hx hb d_M_addTo_26 (by decide) (fun c8 => ?_) (fun c8 => ?_)
  · have h := if_t c8 h
    refine lv_bipush (v := 10) hx hb d_M_addTo_39 (by decide) ?_
    exact me_reti (me_kp M0) h hx hb hr hlocks hwf hkp hP hK hD hS d_M_addTo_41
  have h := if_f c8 h
  refine lv_aload_n hx hb d_M_addTo_29 rfl (lv_at hl 3 rfl) ?_
  refine g_M_47 hx hb hts hown hK hP hwf hj0 (hts _ u_1788) d_M_addTo_30 ?_
  refine me_opt (j := j5) e6 ?_
  refine lv_iload hx hb d_M_addTo_33 (lv_at hl 1 rfl) ?_
  obtain ⟨g9, h⟩ := gd_ob h
  refine me_bald hx hb hK hP hwf hj5 g9 d_M_addTo_35 ?_
  refine lv_if_ne (tgt := 42) hx hb d_M_addTo_36 (by decide) (fun c10 => ?_) (fun c10 => ?_)
  · have h := if_f c10 h
    refine lv_aload_n hx hb d_M_addTo_42 rfl (lv_at hl 3 rfl) ?_
    refine g_M_48 hx hb hts hown hK hP hwf hj0 (hts _ u_1789) d_M_addTo_43 ?_
    obtain ⟨j11, e12, h⟩ := bd_ob h
    have hj11 : j11 < N 13 := (hwf.2.1 1 j0 48 _ e12 (by decide) hj0)
    refine me_opt (j := j11) e12 ?_
    refine lv_iload_n hx hb d_M_addTo_46 rfl (lv_at hl 2 rfl) ?_
    obtain ⟨g13, h⟩ := gd_ob h
    refine me_iald hx hb hK hP hwf hj11 g13 d_M_addTo_47 ?_
    refine lv_lload_n hx hb d_M_addTo_48 rfl (lv_at hl 4 rfl) ?_
    obtain ⟨r14, er14, h⟩ := bd_ob h
    refine me_pani' (r0 := r14) (fg_runS (wc := []) (tc := []) (A2 := A) (As := [.long x1]) (rest := [.int (mI M0 13 j11 r1.toNatClampNeg)]) ⟨hx, hb, hml, hown, hts⟩ (c_M_offsetOf l D r14 x1 er14 _) (by show fg_nm y_M_offsetOf 1; decide +kernel) u_2013 u_2014 u_192 u_2015 ⟨Nat.le_of_ble_eq_true rfl, Nat.le_of_ble_eq_true rfl⟩ hX me_P0 (hK.sub (tys' := []) [] rfl) me_D0 rfl hl.1 (Nat.le_of_ble_eq_true rfl) d_M_addTo_49 ⟨Nat.le_of_ble_eq_true rfl, Nat.le_of_ble_eq_true rfl⟩) hP hD hK hS hA rfl rfl (fun H locs hw hP hD hS => ?_)
    refine lv_iadd hx hb d_M_addTo_52 ?_
    obtain ⟨v15, ev15, h⟩ := st_ob h
    refine fg_topi (y := v15) ev15.symm ?_
    refine lv_istore (lv' := [(6, .int v15), (5, .int r4), (4, .int r2), (3, .int r1), (0, .ref (ad 1 j0)), (1, .long x1)]) hx hb d_M_addTo_53 hl (by decide) rfl (fun ls hl => ?_)
    refine lv_aload_n hx hb d_M_addTo_55 rfl (lv_at hl 4 rfl) ?_
    refine lv_iload_n hx hb d_M_addTo_56 rfl (lv_at hl 3 rfl) ?_
    refine lv_iload hx hb d_M_addTo_57 (lv_at hl 0 rfl) ?_
    refine lv_i2l (v := v15.toInt64) hx hb d_M_addTo_59 rfl ?_
    refine lv_iload hx hb d_M_addTo_60 (lv_at hl 1 rfl) ?_
    refine lv_iconst (v := 1) hx hb d_M_addTo_62 (by decide) ?_
    obtain ⟨M16, r17, eM16, h⟩ := b2_ob h
    refine me_theni0 (M1 := M16) (me_runV (C := "FilterGuardModel") (As := [.int r1, .long v15.toInt64, .int r4, .int 1]) (rest := []) ⟨hx, hb, hml, hown, hts⟩ (c_M_memoryFault l D ad ca N M0 M16 r17 j0 r1 v15.toInt64 r4 (1 : Int32) eM16 hwf hj0 (by decide) _) rfl (by show fg_nm y_M_memoryFault 4; decide +kernel) u_2123 u_2125 u_109 u_192 u_2126 ⟨Nat.le_of_ble_eq_true rfl, Nat.le_of_ble_eq_true rfl⟩ hX hz hK hP hD hwf hS hA hj0 (by decide) rfl rfl rfl hl.1 (Nat.le_of_ble_eq_true rfl) d_M_addTo_63 ⟨Nat.le_of_ble_eq_true rfl, Nat.le_of_ble_eq_true rfl⟩) hP hD hK hS hA rfl rfl (fun H locs hw hP hD hS => ?_)
    obtain ⟨hwf, hk9⟩ := hw
    have hkp := hkp.tr hk9
    refine lv_istore (lv' := [(7, .int r17), (6, .int v15), (5, .int r4), (4, .int r2), (3, .int r1), (0, .ref (ad 1 j0)), (1, .long x1)]) hx hb d_M_addTo_66 hl (by decide) rfl (fun ls hl => ?_)
    refine lv_iload hx hb d_M_addTo_68 (lv_at hl 0 rfl) ?_
    refine lv_if_le (tgt := 76) hx hb d_M_addTo_70 (by decide) (fun c18 => ?_) (fun c18 => ?_)
    · have h := if_t c18 h
      refine lv_aload_n hx hb d_M_addTo_76 rfl (lv_at hl 5 rfl) ?_
      refine g_M_47 hx hb hts hown hK hP hwf hj0 (hts _ u_1788) d_M_addTo_77 ?_
      refine me_opt (j := j5) (kp_r hkb hkp e6) ?_
      refine lv_iload_n hx hb d_M_addTo_80 rfl (lv_at hl 4 rfl) ?_
      refine me_bald hx hb hK hP hwf hj5 (kp_z hkb.z hkp.z g7) d_M_addTo_81 ?_
      refine lv_iconst (v := 2) hx hb d_M_addTo_82 (by decide) ?_
      refine lv_icmp_eq (tgt := 96) hx hb d_M_addTo_83 (by decide) (fun c19 => ?_) (fun c19 => ?_)
      · have h := if_t c19 h
        refine lv_bipush (v := 14) hx hb d_M_addTo_96 (by decide) ?_
        exact me_reti (me_kp M0) h hx hb hr hlocks hwf hkp hP hK hD hS d_M_addTo_98
      have h := if_f c19 h
      refine lv_aload_n hx hb d_M_addTo_86 rfl (lv_at hl 5 rfl) ?_
      refine g_M_47 hx hb hts hown hK hP hwf hj0 (hts _ u_1788) d_M_addTo_87 ?_
      refine me_opt (j := j5) (kp_r hkb hkp e6) ?_
      refine lv_iload_n hx hb d_M_addTo_90 rfl (lv_at hl 4 rfl) ?_
      refine me_bald hx hb hK hP hwf hj5 (kp_z hkb.z hkp.z g7) d_M_addTo_91 ?_
      refine lv_iconst (v := 4) hx hb d_M_addTo_92 (by decide) ?_
      refine lv_icmp_ne (tgt := 99) hx hb d_M_addTo_93 (by decide) (fun c20 => ?_) (fun c20 => ?_)
      · have h := if_f c20 h
        refine lv_aload_n hx hb d_M_addTo_99 rfl (lv_at hl 5 rfl) ?_
        refine lv_iload hx hb d_M_addTo_100 (lv_at hl 3 rfl) ?_
        obtain ⟨M21, r22, eM21, h⟩ := b2_ob h
        refine me_theni0 (M1 := M21) (me_runV (C := "FilterGuardModel") (As := [.int r2]) (rest := []) ⟨hx, hb, hml, hown, hts⟩ (c_M_isNumber l D ad ca N M16 M21 r22 j0 r2 eM21 hwf hj0 _) rfl (by show fg_nm y_M_isNumber 1; decide +kernel) u_2187 u_2189 u_121 u_192 u_2190 ⟨Nat.le_of_ble_eq_true rfl, Nat.le_of_ble_eq_true rfl⟩ hX hz hK hP hD hwf hS hA hj0 (by decide) rfl rfl rfl hl.1 (Nat.le_of_ble_eq_true rfl) d_M_addTo_102 ⟨Nat.le_of_ble_eq_true rfl, Nat.le_of_ble_eq_true rfl⟩) hP hD hK hS hA rfl rfl (fun H locs hw hP hD hS => ?_)
        obtain ⟨hwf, hk9, zr22⟩ := hw
        have hkp := hkp.tr hk9
        refine lv_if_ne (tgt := 111) hx hb d_M_addTo_105 (by decide) (fun c23 => ?_) (fun c23 => ?_)
        · have h := if_f c23 h
          refine lv_aload_n hx hb d_M_addTo_111 rfl (lv_at hl 5 rfl) ?_
          refine g_M_47 hx hb hts hown hK hP hwf hj0 (hts _ u_1788) d_M_addTo_112 ?_
          refine me_opt (j := j5) (kp_r hkb hkp e6) ?_
          refine lv_iload_n hx hb d_M_addTo_115 rfl (lv_at hl 4 rfl) ?_
          refine me_bald hx hb hK hP hwf hj5 (kp_z hkb.z hkp.z g7) d_M_addTo_116 ?_
          refine lv_bipush (v := 7) hx hb d_M_addTo_117 (by decide) ?_
          refine lv_icmp_ne (tgt := 124) hx hb d_M_addTo_119 (by decide) (fun c24 => ?_) (fun c24 => ?_)
          · have h := if_f c24 h
            refine lv_aload_n hx hb d_M_addTo_124 rfl (lv_at hl 5 rfl) ?_
            refine lv_sipush (v := 30079) hx hb d_M_addTo_125 (by decide) ?_
            refine lv_iload hx hb d_M_addTo_128 (lv_at hl 1 rfl) ?_
            refine lv_iload hx hb d_M_addTo_130 (lv_at hl 2 rfl) ?_
            obtain ⟨M25, r26, eM25, h⟩ := b2_ob h
            refine me_theni0 (M1 := M25) (me_runV (C := "FilterGuardModel") (As := [.int 30079, .int v15, .int r4]) (rest := []) ⟨hx, hb, hml, hown, hts⟩ (c_M_loadStack l D ad ca N M21 M25 r26 j0 (30079 : Int32) v15 r4 eM25 hwf hj0 _) rfl (by show fg_nm y_M_loadStack 3; decide +kernel) u_2176 u_2178 u_119 u_192 u_2179 ⟨Nat.le_of_ble_eq_true rfl, Nat.le_of_ble_eq_true rfl⟩ hX hz hK hP hD hwf hS hA hj0 (by decide) rfl rfl rfl hl.1 (Nat.le_of_ble_eq_true rfl) d_M_addTo_132 ⟨Nat.le_of_ble_eq_true rfl, Nat.le_of_ble_eq_true rfl⟩) hP hD hK hS hA rfl rfl (fun H locs hw hP hD hS => ?_)
            obtain ⟨hwf, hk9⟩ := hw
            have hkp := hkp.tr hk9
            refine lv_istore (lv' := [(7, .int r26), (6, .int v15), (5, .int r4), (4, .int r2), (3, .int r1), (0, .ref (ad 1 j0)), (1, .long x1)]) hx hb d_M_addTo_135 hl (by decide) rfl (fun ls hl => ?_)
            refine lv_iload hx hb d_M_addTo_137 (lv_at hl 0 rfl) ?_
            refine lv_if_le (tgt := 145) hx hb d_M_addTo_139 (by decide) (fun c27 => ?_) (fun c27 => ?_)
            · have h := if_t c27 h
              refine lv_aload_n hx hb d_M_addTo_145 rfl (lv_at hl 5 rfl) ?_
              refine lv_sipush (v := 30079) hx hb d_M_addTo_146 (by decide) ?_
              obtain ⟨M28, r29, eM28, h⟩ := b2_ob h
              refine me_theni0 (M1 := M28) (me_runV (C := "FilterGuardModel") (As := [.int 30079]) (rest := []) ⟨hx, hb, hml, hown, hts⟩ (c_M_isNumber l D ad ca N M25 M28 r29 j0 (30079 : Int32) eM28 hwf hj0 _) rfl (by show fg_nm y_M_isNumber 1; decide +kernel) u_2187 u_2189 u_121 u_192 u_2190 ⟨Nat.le_of_ble_eq_true rfl, Nat.le_of_ble_eq_true rfl⟩ hX hz hK hP hD hwf hS hA hj0 (by decide) rfl rfl rfl hl.1 (Nat.le_of_ble_eq_true rfl) d_M_addTo_149 ⟨Nat.le_of_ble_eq_true rfl, Nat.le_of_ble_eq_true rfl⟩) hP hD hK hS hA rfl rfl (fun H locs hw hP hD hS => ?_)
              obtain ⟨hwf, hk9, zr29⟩ := hw
              have hkp := hkp.tr hk9
              refine lv_if_ne (tgt := 158) hx hb d_M_addTo_152 (by decide) (fun c30 => ?_) (fun c30 => ?_)
              · have h := if_f c30 h
                refine lv_aload_n hx hb d_M_addTo_158 rfl (lv_at hl 5 rfl) ?_
                refine lv_sipush (v := 30079) hx hb d_M_addTo_159 (by decide) ?_
                obtain ⟨M31, eM31, h⟩ := bd_ob h
                refine me_thenv0 (M1 := M31) (me_runV (C := "FilterGuardModel") (As := [.int 30079]) (rest := []) ⟨hx, hb, hml, hown, hts⟩ (c_M_toAny l D ad ca N M28 M31 j0 (30079 : Int32) eM31 hwf hj0 _) rfl (by show fg_nm y_M_toAny 1; decide +kernel) u_2134 u_2136 u_111 u_192 u_2137 ⟨Nat.le_of_ble_eq_true rfl, Nat.le_of_ble_eq_true rfl⟩ hX hz hK hP hD hwf hS hA hj0 (by decide) rfl rfl rfl hl.1 (Nat.le_of_ble_eq_true rfl) d_M_addTo_162 ⟨Nat.le_of_ble_eq_true rfl, Nat.le_of_ble_eq_true rfl⟩) hP hD hK hS hA rfl rfl (fun H locs hw hP hD hS => ?_)
                obtain ⟨hwf, hk9⟩ := hw
                have hkp := hkp.tr hk9
                refine lv_aload_n hx hb d_M_addTo_165 rfl (lv_at hl 5 rfl) ?_
                refine lv_sipush (v := 30079) hx hb d_M_addTo_166 (by decide) ?_
                refine lv_iload hx hb d_M_addTo_169 (lv_at hl 1 rfl) ?_
                refine lv_iload hx hb d_M_addTo_171 (lv_at hl 2 rfl) ?_
                obtain ⟨M32, eM32, h⟩ := bd_ob h
                refine me_thenv0 (M1 := M32) (me_runV (C := "FilterGuardModel") (As := [.int 30079, .int v15, .int r4]) (rest := []) ⟨hx, hb, hml, hown, hts⟩ (c_M_storeStack l D ad ca N M31 M32 j0 (30079 : Int32) v15 r4 eM32 hwf hj0 _) rfl (by show fg_nm y_M_storeStack 3; decide +kernel) u_2199 u_2201 u_124 u_192 u_2202 ⟨Nat.le_of_ble_eq_true rfl, Nat.le_of_ble_eq_true rfl⟩ hX hz hK hP hD hwf hS hA hj0 (by decide) rfl rfl rfl hl.1 (Nat.le_of_ble_eq_true rfl) d_M_addTo_173 ⟨Nat.le_of_ble_eq_true rfl, Nat.le_of_ble_eq_true rfl⟩) hP hD hK hS hA rfl rfl (fun H locs hw hP hD hS => ?_)
                obtain ⟨hwf, hk9⟩ := hw
                have hkp := hkp.tr hk9
                refine lv_iconst (v := 0) hx hb d_M_addTo_176 (by decide) ?_
                exact me_reti (me_kp M0) h hx hb hr hlocks hwf hkp hP hK hD hS d_M_addTo_177
              have h := if_t c30 h
              refine lv_bipush (v := 16) hx hb d_M_addTo_155 (by decide) ?_
              exact me_reti (me_kp M0) h hx hb hr hlocks hwf hkp hP hK hD hS d_M_addTo_157
            have h := if_f c27 h
            refine lv_iload hx hb d_M_addTo_142 (lv_at hl 0 rfl) ?_
            exact me_reti (me_kp M0) h hx hb hr hlocks hwf hkp hP hK hD hS d_M_addTo_144
          have h := if_t c24 h
          refine lv_iconst (v := 0) hx hb d_M_addTo_122 (by decide) ?_
          exact me_reti (me_kp M0) h hx hb hr hlocks hwf hkp hP hK hD hS d_M_addTo_123
        have h := if_t c23 h
        refine lv_bipush (v := 16) hx hb d_M_addTo_108 (by decide) ?_
        exact me_reti (me_kp M0) h hx hb hr hlocks hwf hkp hP hK hD hS d_M_addTo_110
      have h := if_t c20 h
      refine lv_bipush (v := 14) hx hb d_M_addTo_96 (by decide) ?_
      exact me_reti (me_kp M0) h hx hb hr hlocks hwf hkp hP hK hD hS d_M_addTo_98
    have h := if_f c18 h
    refine lv_iload hx hb d_M_addTo_73 (lv_at hl 0 rfl) ?_
    exact me_reti (me_kp M0) h hx hb hr hlocks hwf hkp hP hK hD hS d_M_addTo_75
  have h := if_t c10 h
  refine lv_bipush (v := 10) hx hb d_M_addTo_39 (by decide) ?_
  exact me_reti (me_kp M0) h hx hb hr hlocks hwf hkp hP hK hD hS d_M_addTo_41
