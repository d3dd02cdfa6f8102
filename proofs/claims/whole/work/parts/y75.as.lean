theorem d_M_readable_58 : decode prog_14_method_83_code 58 = .ok (.iload 4, 2) := by decide +kernel
theorem d_M_readable_60 : decode prog_14_method_83_code 60 = .ok (.iload_n 2, 1) := by decide +kernel
theorem d_M_readable_61 : decode prog_14_method_83_code 61 = .ok (.if_icmp .ge 65, 3) := by decide +kernel
theorem d_M_readable_126 : decode prog_14_method_83_code 126 = .ok (.iconst 0, 1) := by decide +kernel
theorem d_M_readable_127 : decode prog_14_method_83_code 127 = .ok (.ireturn, 1) := by decide +kernel
theorem d_M_readable_64 : decode prog_14_method_83_code 64 = .ok (.aload_n 0, 1) := by decide +kernel
theorem d_M_readable_65 : decode prog_14_method_83_code 65 = .ok (.getfield 89, 3) := by decide +kernel
theorem d_M_readable_68 : decode prog_14_method_83_code 68 = .ok (.iload_n 1, 1) := by decide +kernel
theorem d_M_readable_69 : decode prog_14_method_83_code 69 = .ok (.baload, 1) := by decide +kernel
theorem d_M_readable_70 : decode prog_14_method_83_code 70 = .ok (.iconst 3, 1) := by decide +kernel
theorem d_M_readable_71 : decode prog_14_method_83_code 71 = .ok (.if_icmp .ne 55, 3) := by decide +kernel
theorem d_M_readable_74 : decode prog_14_method_83_code 74 = .ok (.aload_n 0, 1) := by decide +kernel
theorem d_M_readable_75 : decode prog_14_method_83_code 75 = .ok (.iload_n 3, 1) := by decide +kernel
theorem d_M_readable_76 : decode prog_14_method_83_code 76 = .ok (.iload 4, 2) := by decide +kernel
theorem d_M_readable_78 : decode prog_14_method_83_code 78 = .ok (.iadd, 1) := by decide +kernel
theorem d_M_readable_79 : decode prog_14_method_83_code 79 = .ok (.invokevirtual 426, 3) := by decide +kernel
theorem d_M_readable_82 : decode prog_14_method_83_code 82 = .ok (.ifCond .eq 20, 3) := by decide +kernel
theorem d_M_readable_102 : decode prog_14_method_83_code 102 = .ok (.aload_n 0, 1) := by decide +kernel
theorem d_M_readable_103 : decode prog_14_method_83_code 103 = .ok (.iload_n 3, 1) := by decide +kernel
theorem d_M_readable_104 : decode prog_14_method_83_code 104 = .ok (.iload 4, 2) := by decide +kernel
theorem d_M_readable_106 : decode prog_14_method_83_code 106 = .ok (.iadd, 1) := by decide +kernel
theorem d_M_readable_107 : decode prog_14_method_83_code 107 = .ok (.invokevirtual 429, 3) := by decide +kernel
theorem d_M_readable_110 : decode prog_14_method_83_code 110 = .ok (.istore 5, 2) := by decide +kernel
theorem d_M_readable_112 : decode prog_14_method_83_code 112 = .ok (.iload 5, 2) := by decide +kernel
theorem d_M_readable_114 : decode prog_14_method_83_code 114 = .ok (.ifCond .ne 6, 3) := by decide +kernel
theorem d_M_readable_120 : decode prog_14_method_83_code 120 = .ok (.iinc 4 1, 3) := by decide +kernel
theorem d_M_readable_123 : decode prog_14_method_83_code 123 = .ok (.goto (-65), 3) := by decide +kernel
theorem d_M_readable_117 : decode prog_14_method_83_code 117 = .ok (.bipush 17, 2) := by decide +kernel
theorem d_M_readable_119 : decode prog_14_method_83_code 119 = .ok (.ireturn, 1) := by decide +kernel
theorem d_M_readable_85 : decode prog_14_method_83_code 85 = .ok (.aload_n 0, 1) := by decide +kernel
theorem d_M_readable_86 : decode prog_14_method_83_code 86 = .ok (.bipush 11, 2) := by decide +kernel
theorem d_M_readable_88 : decode prog_14_method_83_code 88 = .ok (.iload_n 3, 1) := by decide +kernel
theorem d_M_readable_89 : decode prog_14_method_83_code 89 = .ok (.iload 4, 2) := by decide +kernel
theorem d_M_readable_91 : decode prog_14_method_83_code 91 = .ok (.iadd, 1) := by decide +kernel
theorem d_M_readable_92 : decode prog_14_method_83_code 92 = .ok (.invokestatic 403, 3) := by decide +kernel
theorem d_M_readable_95 : decode prog_14_method_83_code 95 = .ok (.iadd, 1) := by decide +kernel
theorem d_M_readable_96 : decode prog_14_method_83_code 96 = .ok (.invokevirtual 378, 3) := by decide +kernel
theorem d_M_readable_99 : decode prog_14_method_83_code 99 = .ok (.goto 11, 3) := by decide +kernel
theorem d_M_readable_0 : decode prog_14_method_83_code 0 = .ok (.aload_n 0, 1) := by decide +kernel
theorem d_M_readable_1 : decode prog_14_method_83_code 1 = .ok (.getfield 89, 3) := by decide +kernel
theorem d_M_readable_4 : decode prog_14_method_83_code 4 = .ok (.iload_n 1, 1) := by decide +kernel
theorem d_M_readable_5 : decode prog_14_method_83_code 5 = .ok (.baload, 1) := by decide +kernel
theorem d_M_readable_6 : decode prog_14_method_83_code 6 = .ok (.ifCond .ne 6, 3) := by decide +kernel
theorem d_M_readable_12 : decode prog_14_method_83_code 12 = .ok (.aload_n 0, 1) := by decide +kernel
theorem d_M_readable_13 : decode prog_14_method_83_code 13 = .ok (.iload_n 1, 1) := by decide +kernel
theorem d_M_readable_14 : decode prog_14_method_83_code 14 = .ok (.invokevirtual 395, 3) := by decide +kernel
theorem d_M_readable_17 : decode prog_14_method_83_code 17 = .ok (.ifCond .eq 13, 3) := by decide +kernel
theorem d_M_readable_30 : decode prog_14_method_83_code 30 = .ok (.bipush 17, 2) := by decide +kernel
theorem d_M_readable_32 : decode prog_14_method_83_code 32 = .ok (.ireturn, 1) := by decide +kernel
theorem d_M_readable_20 : decode prog_14_method_83_code 20 = .ok (.aload_n 0, 1) := by decide +kernel
theorem d_M_readable_21 : decode prog_14_method_83_code 21 = .ok (.getfield 89, 3) := by decide +kernel
theorem d_M_readable_24 : decode prog_14_method_83_code 24 = .ok (.iload_n 1, 1) := by decide +kernel
theorem d_M_readable_25 : decode prog_14_method_83_code 25 = .ok (.baload, 1) := by decide +kernel
theorem d_M_readable_26 : decode prog_14_method_83_code 26 = .ok (.iconst 2, 1) := by decide +kernel
theorem d_M_readable_27 : decode prog_14_method_83_code 27 = .ok (.if_icmp .ne 6, 3) := by decide +kernel
theorem d_M_readable_33 : decode prog_14_method_83_code 33 = .ok (.aload_n 0, 1) := by decide +kernel
theorem d_M_readable_34 : decode prog_14_method_83_code 34 = .ok (.getfield 92, 3) := by decide +kernel
theorem d_M_readable_37 : decode prog_14_method_83_code 37 = .ok (.iload_n 1, 1) := by decide +kernel
theorem d_M_readable_38 : decode prog_14_method_83_code 38 = .ok (.iaload, 1) := by decide +kernel
theorem d_M_readable_39 : decode prog_14_method_83_code 39 = .ok (.istore_n 3, 1) := by decide +kernel
theorem d_M_readable_40 : decode prog_14_method_83_code 40 = .ok (.aload_n 0, 1) := by decide +kernel
theorem d_M_readable_41 : decode prog_14_method_83_code 41 = .ok (.iload_n 1, 1) := by decide +kernel
theorem d_M_readable_42 : decode prog_14_method_83_code 42 = .ok (.iload_n 3, 1) := by decide +kernel
theorem d_M_readable_43 : decode prog_14_method_83_code 43 = .ok (.i2l, 1) := by decide +kernel
theorem d_M_readable_44 : decode prog_14_method_83_code 44 = .ok (.iload_n 2, 1) := by decide +kernel
theorem d_M_readable_45 : decode prog_14_method_83_code 45 = .ok (.iconst 0, 1) := by decide +kernel
theorem d_M_readable_46 : decode prog_14_method_83_code 46 = .ok (.invokevirtual 415, 3) := by decide +kernel
theorem d_M_readable_49 : decode prog_14_method_83_code 49 = .ok (.ifCond .le 6, 3) := by decide +kernel
theorem d_M_readable_55 : decode prog_14_method_83_code 55 = .ok (.iconst 0, 1) := by decide +kernel
theorem d_M_readable_56 : decode prog_14_method_83_code 56 = .ok (.istore 4, 2) := by decide +kernel
theorem d_M_readable_52 : decode prog_14_method_83_code 52 = .ok (.bipush 17, 2) := by decide +kernel
theorem d_M_readable_54 : decode prog_14_method_83_code 54 = .ok (.ireturn, 1) := by decide +kernel
theorem d_M_readable_9 : decode prog_14_method_83_code 9 = .ok (.bipush 10, 2) := by decide +kernel
theorem d_M_readable_11 : decode prog_14_method_83_code 11 = .ok (.ireturn, 1) := by decide +kernel
abbrev y_M_readable : MethodName := ⟨"FilterGuardModel", "readable", "(II)I"⟩
def rm_M_readable : Room := { frames := 3, cells := 0, slots := 0, locals := 66 }
abbrev q_M_readable (D : va_G) (ad : Nat → Nat → Nat) (ca : Nat → ClassId) (N : Nat → Nat) (M0 MZ : me_M) (RZ : Int32) (A : Nat → Prop) : Array Value → Jvm.State → Outcome → Jvm.State → Prop := va_Qi (fun r (_ : Unit) => r = RZ ∧ me_wf N MZ ∧ me_kp M0 MZ) (fg_B D A (fun _ => me_W ad ca MZ) (fun _ => [])) A
set_option maxHeartbeats 4000000 in
set_option maxRecDepth 100000 in
theorem c_M_readable (l : Launch) (D : va_G) (ad : Nat → Nat → Nat) (ca : Nat → ClassId) (N : Nat → Nat) (M0 MZ : me_M) (RZ : Int32) (j0 : Nat) (x1 : Int32) (x2 : Int32) (h : f_M_readable M0 j0 x1 x2 = (some (MZ, RZ))) (hwf : me_wf N M0) (hj0 : j0 < N 1) (sz : Nat) : Met l y_M_readable (fg_w y_M_readable prog_14_method_83_code 6 (some .int)) rm_M_readable (va_Pc [.ref (ad 1 j0), .int x1, .int x2] (fz_P D (me_T ca) (me_W ad ca M0) sz)) (q_M_readable D ad ca N M0 MZ RZ (va_A (me_W ad ca M0) sz)) rm_M_readable.cells rm_M_readable.slots (va_A (me_W ad ca M0) sz) := by
  refine fz_enter (fun A => q_M_readable D ad ca N M0 MZ RZ A) (by decide +kernel) (Nat.le_of_ble_eq_true rfl) ?_
  intro p e s m below meth c ls A hx hb hml hown hts hr hlocks hin hP hK hD hS hA hX hl hz
  have hl : lv_has ls 6 [(0, .ref (ad 1 j0)), (1, .int x1), (2, .int x2)] := hl
  unfold f_M_readable at h
  have hkp : me_kp M0 M0 := me_kp.rf
  have hkb := hkp
  have b_58 : ∀ (fu : Nat), ∀ (M : me_M) (y3 : Int32) (y4 : Int32) (H : Heap) (locs : List Loc) (ls : Array Slot), f_M_readable_l58 j0 x1 x2 fu M y3 y4 = (some (MZ, RZ)) → me_wf N M → me_kp M0 M → va_P D classes (me_W ad ca M) H → va_D A (me_W ad ca M) → va_S A s.heap H locs → lv_has ls 6 [(0, .ref (ad 1 j0)), (1, .int x1), (2, .int x2), (3, .int y3), (4, .int y4)] → W p l e rm_M_readable s m [.ref (ad 1 j0), .int x1, .int x2].toArray below meth c H locs 0 0 (MQ below (q_M_readable D ad ca N M0 MZ RZ A) [.ref (ad 1 j0), .int x1, .int x2].toArray s rm_M_readable.cells rm_M_readable.slots A) (F0 m 58 ls []) := by
    intro fu
    induction fu with
    | zero =>
      intro M y3 y4 H locs ls h hwf hkp hP hD hS hl
      cases h
    | succ fu ih =>
      intro M y3 y4 H locs ls h hwf hkp hP hD hS hl
      unfold f_M_readable_l58 at h
      have hkb := hkp
      refine lv_iload hx hb d_M_readable_58 (lv_at hl 4 rfl) ?_
      refine lv_iload_n hx hb d_M_readable_60 rfl (lv_at hl 2 rfl) ?_
      refine lv_icmp_ge (tgt := 126) hx hb d_M_readable_61 (by decide) (fun c1 => ?_) (fun c1 => ?_)
      · have h := if_t c1 h
        refine lv_iconst (v := 0) hx hb d_M_readable_126 (by decide) ?_
        exact me_reti (me_kp M0) h hx hb hr hlocks hwf hkp hP hK hD hS d_M_readable_127
      have h := if_f c1 h
      refine lv_aload_n hx hb d_M_readable_64 rfl (lv_at hl 0 rfl) ?_
      refine g_M_47 hx hb hts hown hK hP hwf hj0 (hts _ u_1788) d_M_readable_65 ?_
      obtain ⟨j2, e3, h⟩ := bd_ob h
      have hj2 : j2 < N 14 := (hwf.2.1 1 j0 47 _ e3 (by decide) hj0)
      refine me_opt (j := j2) e3 ?_
      refine lv_iload_n hx hb d_M_readable_68 rfl (lv_at hl 1 rfl) ?_
      obtain ⟨g4, h⟩ := gd_ob h
      refine me_bald hx hb hK hP hwf hj2 g4 d_M_readable_69 ?_
      refine lv_iconst (v := 3) hx hb d_M_readable_70 (by decide) ?_
      refine lv_icmp_ne (tgt := 126) hx hb d_M_readable_71 (by decide) (fun c5 => ?_) (fun c5 => ?_)
      · have h := if_f c5 h
        refine lv_iconst (v := 0) hx hb d_M_readable_126 (by decide) ?_
        exact me_reti (me_kp M0) h hx hb hr hlocks hwf hkp hP hK hD hS d_M_readable_127
      have h := if_t c5 h
      refine lv_aload_n hx hb d_M_readable_74 rfl (lv_at hl 0 rfl) ?_
      refine lv_iload_n hx hb d_M_readable_75 rfl (lv_at hl 3 rfl) ?_
      refine lv_iload hx hb d_M_readable_76 (lv_at hl 4 rfl) ?_
      refine lv_iadd hx hb d_M_readable_78 ?_
      obtain ⟨M6, r7, eM6, h⟩ := b2_ob h
      refine me_theni0 (M1 := M6) (me_runV (C := "FilterGuardModel") (As := [.int (y3 + y4)]) (rest := []) ⟨hx, hb, hml, hown, hts⟩ (c_M_isSaved l D ad ca N M M6 r7 j0 (y3 + y4) eM6 hwf hj0 _) rfl (by show fg_nm y_M_isSaved 1; decide +kernel) u_2183 u_2185 u_120 u_192 u_2186 ⟨Nat.le_of_ble_eq_true rfl, Nat.le_of_ble_eq_true rfl⟩ hX hz hK hP hD hwf hS hA hj0 (by decide) rfl rfl rfl hl.1 (Nat.le_of_ble_eq_true rfl) d_M_readable_79 ⟨Nat.le_of_ble_eq_true rfl, Nat.le_of_ble_eq_true rfl⟩) hP hD hK hS hA rfl rfl (fun H locs hw hP hD hS => ?_)
      obtain ⟨hwf, hk9, zr7⟩ := hw
      have hkp := hkp.tr hk9
      refine lv_if_eq (tgt := 102) hx hb d_M_readable_82 (by decide) (fun c8 => ?_) (fun c8 => ?_)
      · have h := if_t c8 h
        refine lv_aload_n hx hb d_M_readable_102 rfl (lv_at hl 0 rfl) ?_
        refine lv_iload_n hx hb d_M_readable_103 rfl (lv_at hl 3 rfl) ?_
        refine lv_iload hx hb d_M_readable_104 (lv_at hl 4 rfl) ?_
        refine lv_iadd hx hb d_M_readable_106 ?_
        obtain ⟨M9, r10, eM9, h⟩ := b2_ob h
        refine me_theni0 (M1 := M9) (me_runV (C := "FilterGuardModel") (As := [.int (y3 + y4)]) (rest := []) ⟨hx, hb, hml, hown, hts⟩ (c_M_isWritten l D ad ca N M6 M9 r10 j0 (y3 + y4) eM9 hwf hj0 _) rfl (by show fg_nm y_M_isWritten 1; decide +kernel) u_2191 u_2193 u_122 u_192 u_2194 ⟨Nat.le_of_ble_eq_true rfl, Nat.le_of_ble_eq_true rfl⟩ hX hz hK hP hD hwf hS hA hj0 (by decide) rfl rfl rfl hl.1 (Nat.le_of_ble_eq_true rfl) d_M_readable_107 ⟨Nat.le_of_ble_eq_true rfl, Nat.le_of_ble_eq_true rfl⟩) hP hD hK hS hA rfl rfl (fun H locs hw hP hD hS => ?_)
        obtain ⟨hwf, hk9, zr10⟩ := hw
        have hkp := hkp.tr hk9
        refine lv_istore (lv' := [(5, .int r10), (0, .ref (ad 1 j0)), (1, .int x1), (2, .int x2), (3, .int y3), (4, .int y4)]) hx hb d_M_readable_110 hl (by decide) rfl (fun ls hl => ?_)
        refine lv_iload hx hb d_M_readable_112 (lv_at hl 0 rfl) ?_
        refine lv_if_ne (tgt := 120) hx hb d_M_readable_114 (by decide) (fun c11 => ?_) (fun c11 => ?_)
        · have h := if_f c11 h
          refine lv_iinc (v := y4 + 1) (lv' := [(4, .int (y4 + 1)), (5, .int r10), (0, .ref (ad 1 j0)), (1, .int x1), (2, .int x2), (3, .int y3)]) hx hb d_M_readable_120 hl (k := 5) rfl (by rfl) (by decide) rfl (fun ls hl => ?_)
          refine lv_goto (tgt := 58) hx hb d_M_readable_123 (by decide) ?_
          exact ih M9 y3 (y4 + 1) _ _ _ h hwf hkp hP hD hS (lv_sub hl [2, 3, 4, 5, 0] rfl)
        have h := if_t c11 h
        refine lv_bipush (v := 17) hx hb d_M_readable_117 (by decide) ?_
        exact me_reti (me_kp M0) h hx hb hr hlocks hwf hkp hP hK hD hS d_M_readable_119
      have h := if_f c8 h
      refine lv_aload_n hx hb d_M_readable_85 rfl (lv_at hl 0 rfl) ?_
      refine lv_bipush (v := 11) hx hb d_M_readable_86 (by decide) ?_
      refine lv_iload_n hx hb d_M_readable_88 rfl (lv_at hl 3 rfl) ?_
      refine lv_iload hx hb d_M_readable_89 (lv_at hl 4 rfl) ?_
      refine lv_iadd hx hb d_M_readable_91 ?_
      obtain ⟨r12, er12, h⟩ := bd_ob h
      refine me_pani' (r0 := r12) (fg_runS (wc := []) (tc := []) (A2 := A) (As := [.int (y3 + y4)]) (rest := [.int 11, .ref (ad 1 j0)]) ⟨hx, hb, hml, hown, hts⟩ (c_M_slotOf l D r12 (y3 + y4) er12 _) (by show fg_nm y_M_slotOf 1; decide +kernel) u_2180 u_2181 u_192 u_2182 ⟨Nat.le_of_ble_eq_true rfl, Nat.le_of_ble_eq_true rfl⟩ hX me_P0 (hK.sub (tys' := []) [] rfl) me_D0 rfl hl.1 (Nat.le_of_ble_eq_true rfl) d_M_readable_92 ⟨Nat.le_of_ble_eq_true rfl, Nat.le_of_ble_eq_true rfl⟩) hP hD hK hS hA rfl rfl (fun H locs hw hP hD hS => ?_)
      refine lv_iadd hx hb d_M_readable_95 ?_
      obtain ⟨M13, r14, eM13, h⟩ := b2_ob h
      refine me_theni0 (M1 := M13) (me_runV (C := "FilterGuardModel") (As := [.int (11 + r12)]) (rest := []) ⟨hx, hb, hml, hown, hts⟩ (c_M_isNumber l D ad ca N M6 M13 r14 j0 (11 + r12) eM13 hwf hj0 _) rfl (by show fg_nm y_M_isNumber 1; decide +kernel) u_2187 u_2189 u_121 u_192 u_2190 ⟨Nat.le_of_ble_eq_true rfl, Nat.le_of_ble_eq_true rfl⟩ hX hz hK hP hD hwf hS hA hj0 (by decide) rfl rfl rfl hl.1 (Nat.le_of_ble_eq_true rfl) d_M_readable_96 ⟨Nat.le_of_ble_eq_true rfl, Nat.le_of_ble_eq_true rfl⟩) hP hD hK hS hA rfl rfl (fun H locs hw hP hD hS => ?_)
      obtain ⟨hwf, hk9, zr14⟩ := hw
      have hkp := hkp.tr hk9
      refine lv_goto (tgt := 110) hx hb d_M_readable_99 (by decide) ?_
      refine lv_istore (lv' := [(5, .int r14), (0, .ref (ad 1 j0)), (1, .int x1), (2, .int x2), (3, .int y3), (4, .int y4)]) hx hb d_M_readable_110 hl (by decide) rfl (fun ls hl => ?_)
      refine lv_iload hx hb d_M_readable_112 (lv_at hl 0 rfl) ?_
      refine lv_if_ne (tgt := 120) hx hb d_M_readable_114 (by decide) (fun c15 => ?_) (fun c15 => ?_)
      · have h := if_f c15 h
        refine lv_iinc (v := y4 + 1) (lv' := [(4, .int (y4 + 1)), (5, .int r14), (0, .ref (ad 1 j0)), (1, .int x1), (2, .int x2), (3, .int y3)]) hx hb d_M_readable_120 hl (k := 5) rfl (by rfl) (by decide) rfl (fun ls hl => ?_)
        refine lv_goto (tgt := 58) hx hb d_M_readable_123 (by decide) ?_
        exact ih M13 y3 (y4 + 1) _ _ _ h hwf hkp hP hD hS (lv_sub hl [2, 3, 4, 5, 0] rfl)
      have h := if_t c15 h
      refine lv_bipush (v := 17) hx hb d_M_readable_117 (by decide) ?_
      exact me_reti (me_kp M0) h hx hb hr hlocks hwf hkp hP hK hD hS d_M_readable_119
  refine lv_aload_n hx hb d_M_readable_0 rfl (lv_at hl 0 rfl) ?_
  refine g_M_47 hx hb hts hown hK hP hwf hj0 (hts _ u_1788) d_M_readable_1 ?_
  obtain ⟨j16, e17, h⟩ := bd_ob h
  have hj16 : j16 < N 14 := (hwf.2.1 1 j0 47 _ e17 (by decide) hj0)
  refine me_opt (j := j16) e17 ?_
  refine lv_iload_n hx hb d_M_readable_4 rfl (lv_at hl 1 rfl) ?_
  obtain ⟨g18, h⟩ := gd_ob h
  refine me_bald hx hb hK hP hwf hj16 g18 d_M_readable_5 ?_
  refine lv_if_ne (tgt := 12) hx hb d_M_readable_6 (by decide) (fun c19 => ?_) (fun c19 => ?_)
  · have h := if_f c19 h
    refine lv_aload_n hx hb d_M_readable_12 rfl (lv_at hl 0 rfl) ?_
    refine lv_iload_n hx hb d_M_readable_13 rfl (lv_at hl 1 rfl) ?_
    obtain ⟨M20, r21, eM20, h⟩ := b2_ob h
    refine me_theni0 (M1 := M20) (me_runV (C := "FilterGuardModel") (As := [.int x1]) (rest := []) ⟨hx, hb, hml, hown, hts⟩ (c_M_isPointer l D ad ca N M0 M20 r21 j0 x1 eM20 hwf hj0 _) rfl (by show fg_nm y_M_isPointer 1; decide +kernel) u_2301 u_2303 u_147 u_192 u_2304 ⟨Nat.le_of_ble_eq_true rfl, Nat.le_of_ble_eq_true rfl⟩ hX hz hK hP hD hwf hS hA hj0 (by decide) rfl rfl rfl hl.1 (Nat.le_of_ble_eq_true rfl) d_M_readable_14 ⟨Nat.le_of_ble_eq_true rfl, Nat.le_of_ble_eq_true rfl⟩) hP hD hK hS hA rfl rfl (fun H locs hw hP hD hS => ?_)
    obtain ⟨hwf, hk9, zr21⟩ := hw
    have hkp := hkp.tr hk9
    refine lv_if_eq (tgt := 30) hx hb d_M_readable_17 (by decide) (fun c22 => ?_) (fun c22 => ?_)
    · have h := if_t c22 h
      refine lv_bipush (v := 17) hx hb d_M_readable_30 (by decide) ?_
      exact me_reti (me_kp M0) h hx hb hr hlocks hwf hkp hP hK hD hS d_M_readable_32
    have h := if_f c22 h
    refine lv_aload_n hx hb d_M_readable_20 rfl (lv_at hl 0 rfl) ?_
    refine g_M_47 hx hb hts hown hK hP hwf hj0 (hts _ u_1788) d_M_readable_21 ?_
    refine me_opt (j := j16) (kp_r hkb hkp e17) ?_
    refine lv_iload_n hx hb d_M_readable_24 rfl (lv_at hl 1 rfl) ?_
    refine me_bald hx hb hK hP hwf hj16 (kp_z hkb.z hkp.z g18) d_M_readable_25 ?_
    refine lv_iconst (v := 2) hx hb d_M_readable_26 (by decide) ?_
    refine lv_icmp_ne (tgt := 33) hx hb d_M_readable_27 (by decide) (fun c23 => ?_) (fun c23 => ?_)
    · have h := if_f c23 h
      refine lv_aload_n hx hb d_M_readable_33 rfl (lv_at hl 0 rfl) ?_
      refine g_M_48 hx hb hts hown hK hP hwf hj0 (hts _ u_1789) d_M_readable_34 ?_
      obtain ⟨j24, e25, h⟩ := bd_ob h
      have hj24 : j24 < N 13 := (hwf.2.1 1 j0 48 _ (kp_r hkb hkp e25) (by decide) hj0)
      refine me_opt (j := j24) (kp_r hkb hkp e25) ?_
      refine lv_iload_n hx hb d_M_readable_37 rfl (lv_at hl 1 rfl) ?_
      obtain ⟨g26, h⟩ := gd_ob h
      refine me_iald hx hb hK hP hwf hj24 (kp_z hkb.z hkp.z g26) d_M_readable_38 ?_
      obtain ⟨v27, ev27, h⟩ := st_ob h
      refine fg_topi (y := v27) ev27.symm ?_
      refine lv_istore_n (lv' := [(3, .int v27), (0, .ref (ad 1 j0)), (1, .int x1), (2, .int x2)]) hx hb d_M_readable_39 rfl hl (by decide) rfl (fun ls hl => ?_)
      refine lv_aload_n hx hb d_M_readable_40 rfl (lv_at hl 1 rfl) ?_
      refine lv_iload_n hx hb d_M_readable_41 rfl (lv_at hl 2 rfl) ?_
      refine lv_iload_n hx hb d_M_readable_42 rfl (lv_at hl 0 rfl) ?_
      refine lv_i2l (v := v27.toInt64) hx hb d_M_readable_43 rfl ?_
      refine lv_iload_n hx hb d_M_readable_44 rfl (lv_at hl 3 rfl) ?_
      refine lv_iconst (v := 0) hx hb d_M_readable_45 (by decide) ?_
      obtain ⟨M28, r29, eM28, h⟩ := b2_ob h
      refine me_theni0 (M1 := M28) (me_runV (C := "FilterGuardModel") (As := [.int x1, .long v27.toInt64, .int x2, .int 0]) (rest := []) ⟨hx, hb, hml, hown, hts⟩ (c_M_memoryFault l D ad ca N M20 M28 r29 j0 x1 v27.toInt64 x2 (0 : Int32) eM28 hwf hj0 (by decide) _) rfl (by show fg_nm y_M_memoryFault 4; decide +kernel) u_2123 u_2125 u_109 u_192 u_2126 ⟨Nat.le_of_ble_eq_true rfl, Nat.le_of_ble_eq_true rfl⟩ hX hz hK hP hD hwf hS hA hj0 (by decide) rfl rfl rfl hl.1 (Nat.le_of_ble_eq_true rfl) d_M_readable_46 ⟨Nat.le_of_ble_eq_true rfl, Nat.le_of_ble_eq_true rfl⟩) hP hD hK hS hA rfl rfl (fun H locs hw hP hD hS => ?_)
      obtain ⟨hwf, hk9⟩ := hw
      have hkp := hkp.tr hk9
      refine lv_if_le (tgt := 55) hx hb d_M_readable_49 (by decide) (fun c30 => ?_) (fun c30 => ?_)
      · have h := if_t c30 h
        refine lv_iconst (v := 0) hx hb d_M_readable_55 (by decide) ?_
        refine lv_istore (lv' := [(4, .int 0), (3, .int v27), (0, .ref (ad 1 j0)), (1, .int x1), (2, .int x2)]) hx hb d_M_readable_56 hl (by decide) rfl (fun ls hl => ?_)
        exact b_58 _ M28 v27 (0 : Int32) _ _ _ h hwf hkp hP hD hS (lv_sub hl [2, 3, 4, 1, 0] rfl)
      have h := if_f c30 h
      refine lv_bipush (v := 17) hx hb d_M_readable_52 (by decide) ?_
      exact me_reti (me_kp M0) h hx hb hr hlocks hwf hkp hP hK hD hS d_M_readable_54
    have h := if_t c23 h
    refine lv_bipush (v := 17) hx hb d_M_readable_30 (by decide) ?_
    exact me_reti (me_kp M0) h hx hb hr hlocks hwf hkp hP hK hD hS d_M_readable_32
  have h := if_t c19 h
  refine lv_bipush (v := 10) hx hb d_M_readable_9 (by decide) ?_
  exact me_reti (me_kp M0) h hx hb hr hlocks hwf hkp hP hK hD hS d_M_readable_11
theorem d_M_mapFault_0 : decode prog_14_method_84_code 0 = .ok (.aload_n 0, 1) := by decide +kernel
theorem d_M_mapFault_1 : decode prog_14_method_84_code 1 = .ok (.getfield 89, 3) := by decide +kernel
theorem d_M_mapFault_4 : decode prog_14_method_84_code 4 = .ok (.iload_n 1, 1) := by decide +kernel
theorem d_M_mapFault_5 : decode prog_14_method_84_code 5 = .ok (.baload, 1) := by decide +kernel
theorem d_M_mapFault_6 : decode prog_14_method_84_code 6 = .ok (.ifCond .ne 8, 3) := by decide +kernel
theorem d_M_mapFault_14 : decode prog_14_method_84_code 14 = .ok (.aload_n 0, 1) := by decide +kernel
theorem d_M_mapFault_15 : decode prog_14_method_84_code 15 = .ok (.getfield 89, 3) := by decide +kernel
theorem d_M_mapFault_18 : decode prog_14_method_84_code 18 = .ok (.iload_n 1, 1) := by decide +kernel
theorem d_M_mapFault_19 : decode prog_14_method_84_code 19 = .ok (.baload, 1) := by decide +kernel
theorem d_M_mapFault_20 : decode prog_14_method_84_code 20 = .ok (.bipush 6, 2) := by decide +kernel
theorem d_M_mapFault_22 : decode prog_14_method_84_code 22 = .ok (.if_icmp .ne 7, 3) := by decide +kernel
theorem d_M_mapFault_29 : decode prog_14_method_84_code 29 = .ok (.bipush 17, 2) := by decide +kernel
theorem d_M_mapFault_31 : decode prog_14_method_84_code 31 = .ok (.ireturn, 1) := by decide +kernel
theorem d_M_mapFault_25 : decode prog_14_method_84_code 25 = .ok (.iconst 0, 1) := by decide +kernel
theorem d_M_mapFault_26 : decode prog_14_method_84_code 26 = .ok (.goto 5, 3) := by decide +kernel
theorem d_M_mapFault_9 : decode prog_14_method_84_code 9 = .ok (.bipush 10, 2) := by decide +kernel
theorem d_M_mapFault_11 : decode prog_14_method_84_code 11 = .ok (.goto 20, 3) := by decide +kernel
abbrev y_M_mapFault : MethodName := ⟨"FilterGuardModel", "mapFault", "(I)I"⟩
def rm_M_mapFault : Room := { frames := 1, cells := 0, slots := 0, locals := 20 }
abbrev q_M_mapFault (D : va_G) (ad : Nat → Nat → Nat) (ca : Nat → ClassId) (N : Nat → Nat) (M0 MZ : me_M) (RZ : Int32) (A : Nat → Prop) : Array Value → Jvm.State → Outcome → Jvm.State → Prop := va_Qi (fun r (_ : Unit) => r = RZ ∧ me_wf N MZ ∧ me_kp M0 MZ) (fg_B D A (fun _ => me_W ad ca MZ) (fun _ => [])) A
set_option maxHeartbeats 4000000 in
set_option maxRecDepth 100000 in
theorem c_M_mapFault (l : Launch) (D : va_G) (ad : Nat → Nat → Nat) (ca : Nat → ClassId) (N : Nat → Nat) (M0 MZ : me_M) (RZ : Int32) (j0 : Nat) (x1 : Int32) (h : f_M_mapFault M0 j0 x1 = (some (MZ, RZ))) (hwf : me_wf N M0) (hj0 : j0 < N 1) (sz : Nat) : Met l y_M_mapFault (fg_w y_M_mapFault prog_14_method_84_code 2 (some .int)) rm_M_mapFault (va_Pc [.ref (ad 1 j0), .int x1] (fz_P D (me_T ca) (me_W ad ca M0) sz)) (q_M_mapFault D ad ca N M0 MZ RZ (va_A (me_W ad ca M0) sz)) rm_M_mapFault.cells rm_M_mapFault.slots (va_A (me_W ad ca M0) sz) := by
  refine fz_enter (fun A => q_M_mapFault D ad ca N M0 MZ RZ A) (by decide +kernel) (Nat.le_of_ble_eq_true rfl) ?_
  intro p e s m below meth c ls A hx hb hml hown hts hr hlocks hin hP hK hD hS hA hX hl hz
  have hl : lv_has ls 2 [(0, .ref (ad 1 j0)), (1, .int x1)] := hl
  unfold f_M_mapFault at h
  have hkp : me_kp M0 M0 := me_kp.rf
  have hkb := hkp
  refine lv_aload_n hx hb d_M_mapFault_0 rfl (lv_at hl 0 rfl) ?_
  refine g_M_47 hx hb hts hown hK hP hwf hj0 (hts _ u_1788) d_M_mapFault_1 ?_
  obtain ⟨j1, e2, h⟩ := bd_ob h
  have hj1 : j1 < N 14 := (hwf.2.1 1 j0 47 _ e2 (by decide) hj0)
  refine me_opt (j := j1) e2 ?_
  refine lv_iload_n hx hb d_M_mapFault_4 rfl (lv_at hl 1 rfl) ?_
  obtain ⟨g3, h⟩ := gd_ob h
  refine me_bald hx hb hK hP hwf hj1 g3 d_M_mapFault_5 ?_
  refine lv_if_ne (tgt := 14) hx hb d_M_mapFault_6 (by decide) (fun c4 => ?_) (fun c4 => ?_)
  · have h := if_f c4 h
    refine lv_aload_n hx hb d_M_mapFault_14 rfl (lv_at hl 0 rfl) ?_
    refine g_M_47 hx hb hts hown hK hP hwf hj0 (hts _ u_1788) d_M_mapFault_15 ?_
    refine me_opt (j := j1) e2 ?_
    refine lv_iload_n hx hb d_M_mapFault_18 rfl (lv_at hl 1 rfl) ?_
    refine me_bald hx hb hK hP hwf hj1 g3 d_M_mapFault_19 ?_
    refine lv_bipush (v := 6) hx hb d_M_mapFault_20 (by decide) ?_
    refine lv_icmp_ne (tgt := 29) hx hb d_M_mapFault_22 (by decide) (fun c5 => ?_) (fun c5 => ?_)
    · have h := if_f c5 h
      refine lv_bipush (v := 17) hx hb d_M_mapFault_29 (by decide) ?_
      exact me_reti (me_kp M0) h hx hb hr hlocks hwf hkp hP hK hD hS d_M_mapFault_31
    have h := if_t c5 h
    refine lv_iconst (v := 0) hx hb d_M_mapFault_25 (by decide) ?_
    refine lv_goto (tgt := 31) hx hb d_M_mapFault_26 (by decide) ?_
    exact me_reti (me_kp M0) h hx hb hr hlocks hwf hkp hP hK hD hS d_M_mapFault_31
  have h := if_t c4 h
  refine lv_bipush (v := 10) hx hb d_M_mapFault_9 (by decide) ?_
  refine lv_goto (tgt := 31) hx hb d_M_mapFault_11 (by decide) ?_
  exact me_reti (me_kp M0) h hx hb hr hlocks hwf hkp hP hK hD hS d_M_mapFault_31
theorem d_M_numberFault_0 : decode prog_14_method_85_code 0 = .ok (.aload_n 0, 1) := by decide +kernel
theorem d_M_numberFault_1 : decode prog_14_method_85_code 1 = .ok (.getfield 89, 3) := by decide +kernel
theorem d_M_numberFault_4 : decode prog_14_method_85_code 4 = .ok (.iload_n 1, 1) := by decide +kernel
theorem d_M_numberFault_5 : decode prog_14_method_85_code 5 = .ok (.baload, 1) := by decide +kernel
theorem d_M_numberFault_6 : decode prog_14_method_85_code 6 = .ok (.ifCond .ne 8, 3) := by decide +kernel
theorem d_M_numberFault_14 : decode prog_14_method_85_code 14 = .ok (.aload_n 0, 1) := by decide +kernel
theorem d_M_numberFault_15 : decode prog_14_method_85_code 15 = .ok (.iload_n 1, 1) := by decide +kernel
theorem d_M_numberFault_16 : decode prog_14_method_85_code 16 = .ok (.invokevirtual 378, 3) := by decide +kernel
theorem d_M_numberFault_19 : decode prog_14_method_85_code 19 = .ok (.ifCond .eq 7, 3) := by decide +kernel
theorem d_M_numberFault_26 : decode prog_14_method_85_code 26 = .ok (.bipush 17, 2) := by decide +kernel
theorem d_M_numberFault_28 : decode prog_14_method_85_code 28 = .ok (.ireturn, 1) := by decide +kernel
theorem d_M_numberFault_22 : decode prog_14_method_85_code 22 = .ok (.iconst 0, 1) := by decide +kernel
theorem d_M_numberFault_23 : decode prog_14_method_85_code 23 = .ok (.goto 5, 3) := by decide +kernel
theorem d_M_numberFault_9 : decode prog_14_method_85_code 9 = .ok (.bipush 10, 2) := by decide +kernel
theorem d_M_numberFault_11 : decode prog_14_method_85_code 11 = .ok (.goto 17, 3) := by decide +kernel
abbrev y_M_numberFault : MethodName := ⟨"FilterGuardModel", "numberFault", "(I)I"⟩
def rm_M_numberFault : Room := { frames := 2, cells := 0, slots := 0, locals := 41 }
abbrev q_M_numberFault (D : va_G) (ad : Nat → Nat → Nat) (ca : Nat → ClassId) (N : Nat → Nat) (M0 MZ : me_M) (RZ : Int32) (A : Nat → Prop) : Array Value → Jvm.State → Outcome → Jvm.State → Prop := va_Qi (fun r (_ : Unit) => r = RZ ∧ me_wf N MZ ∧ me_kp M0 MZ) (fg_B D A (fun _ => me_W ad ca MZ) (fun _ => [])) A
set_option maxHeartbeats 4000000 in
set_option maxRecDepth 100000 in
theorem c_M_numberFault (l : Launch) (D : va_G) (ad : Nat → Nat → Nat) (ca : Nat → ClassId) (N : Nat → Nat) (M0 MZ : me_M) (RZ : Int32) (j0 : Nat) (x1 : Int32) (h : f_M_numberFault M0 j0 x1 = (some (MZ, RZ))) (hwf : me_wf N M0) (hj0 : j0 < N 1) (sz : Nat) : Met l y_M_numberFault (fg_w y_M_numberFault prog_14_method_85_code 2 (some .int)) rm_M_numberFault (va_Pc [.ref (ad 1 j0), .int x1] (fz_P D (me_T ca) (me_W ad ca M0) sz)) (q_M_numberFault D ad ca N M0 MZ RZ (va_A (me_W ad ca M0) sz)) rm_M_numberFault.cells rm_M_numberFault.slots (va_A (me_W ad ca M0) sz) := by
  refine fz_enter (fun A => q_M_numberFault D ad ca N M0 MZ RZ A) (by decide +kernel) (Nat.le_of_ble_eq_true rfl) ?_
  intro p e s m below meth c ls A hx hb hml hown hts hr hlocks hin hP hK hD hS hA hX hl hz
  have hl : lv_has ls 2 [(0, .ref (ad 1 j0)), (1, .int x1)] := hl
  unfold f_M_numberFault at h
  have hkp : me_kp M0 M0 := me_kp.rf
  have hkb := hkp
  refine lv_aload_n hx hb d_M_numberFault_0 rfl (lv_at hl 0 rfl) ?_
  refine g_M_47 hx hb hts hown hK hP hwf hj0 (hts _ u_1788) d_M_numberFault_1 ?_
  obtain ⟨j1, e2, h⟩ := bd_ob h
  have hj1 : j1 < N 14 := (hwf.2.1 1 j0 47 _ e2 (by decide) hj0)
  refine me_opt (j := j1) e2 ?_
  refine lv_iload_n hx hb d_M_numberFault_4 rfl (lv_at hl 1 rfl) ?_
  obtain ⟨g3, h⟩ := gd_ob h
  refine me_bald hx hb hK hP hwf hj1 g3 d_M_numberFault_5 ?_
  refine lv_if_ne (tgt := 14) hx hb d_M_numberFault_6 (by decide) (fun c4 => ?_) (fun c4 => ?_)
  · have h := if_f c4 h
    refine lv_aload_n hx hb d_M_numberFault_14 rfl (lv_at hl 0 rfl) ?_
    refine lv_iload_n hx hb d_M_numberFault_15 rfl (lv_at hl 1 rfl) ?_
    obtain ⟨M5, r6, eM5, h⟩ := b2_ob h
    refine me_theni0 (M1 := M5) (me_runV (C := "FilterGuardModel") (As := [.int x1]) (rest := []) ⟨hx, hb, hml, hown, hts⟩ (c_M_isNumber l D ad ca N M0 M5 r6 j0 x1 eM5 hwf hj0 _) rfl (by show fg_nm y_M_isNumber 1; decide +kernel) u_2187 u_2189 u_121 u_192 u_2190 ⟨Nat.le_of_ble_eq_true rfl, Nat.le_of_ble_eq_true rfl⟩ hX hz hK hP hD hwf hS hA hj0 (by decide) rfl rfl rfl hl.1 (Nat.le_of_ble_eq_true rfl) d_M_numberFault_16 ⟨Nat.le_of_ble_eq_true rfl, Nat.le_of_ble_eq_true rfl⟩) hP hD hK hS hA rfl rfl (fun H locs hw hP hD hS => ?_)
    obtain ⟨hwf, hk9, zr6⟩ := hw
    have hkp := hkp.tr hk9
    refine lv_if_eq (tgt := 26) hx hb d_M_numberFault_19 (by decide) (fun c7 => ?_) (fun c7 => ?_)
    · have h := if_t c7 h
      refine lv_bipush (v := 17) hx hb d_M_numberFault_26 (by decide) ?_
      exact me_reti (me_kp M0) h hx hb hr hlocks hwf hkp hP hK hD hS d_M_numberFault_28
    have h := if_f c7 h
    refine lv_iconst (v := 0) hx hb d_M_numberFault_22 (by decide) ?_
    refine lv_goto (tgt := 28) hx hb d_M_numberFault_23 (by decide) ?_
    exact me_reti (me_kp M0) h hx hb hr hlocks hwf hkp hP hK hD hS d_M_numberFault_28
  have h := if_t c4 h
  refine lv_bipush (v := 10) hx hb d_M_numberFault_9 (by decide) ?_
  refine lv_goto (tgt := 28) hx hb d_M_numberFault_11 (by decide) ?_
  exact me_reti (me_kp M0) h hx hb hr hlocks hwf hkp hP hK hD hS d_M_numberFault_28
theorem d_M_callFault_108 : decode prog_14_method_86_code 108 = .ok (.iload_n 2, 1) := by decide +kernel
theorem d_M_callFault_109 : decode prog_14_method_86_code 109 = .ok (.ifCond .le 7, 3) := by decide +kernel
theorem d_M_callFault_116 : decode prog_14_method_86_code 116 = .ok (.aload_n 0, 1) := by decide +kernel
theorem d_M_callFault_117 : decode prog_14_method_86_code 117 = .ok (.iconst 1, 1) := by decide +kernel
theorem d_M_callFault_118 : decode prog_14_method_86_code 118 = .ok (.aload_n 0, 1) := by decide +kernel
theorem d_M_callFault_119 : decode prog_14_method_86_code 119 = .ok (.getfield 113, 3) := by decide +kernel
theorem d_M_callFault_122 : decode prog_14_method_86_code 122 = .ok (.iconst 2, 1) := by decide +kernel
theorem d_M_callFault_123 : decode prog_14_method_86_code 123 = .ok (.laload, 1) := by decide +kernel
theorem d_M_callFault_124 : decode prog_14_method_86_code 124 = .ok (.l2i, 1) := by decide +kernel
theorem d_M_callFault_125 : decode prog_14_method_86_code 125 = .ok (.invokevirtual 439, 3) := by decide +kernel
theorem u_2297 : Cond.methodLink "FilterGuardModel" 439 ⟨"FilterGuardModel", "readable", "(II)I"⟩ ∈ fg_g := fg_in (List.mem_of_getElem? (i := 2297) (by decide +kernel)) rfl
theorem u_2300 : Cond.code ⟨"FilterGuardModel", "readable", "(II)I"⟩ prog_14_method_83_code 6 (some .int) ∈ fg_g := fg_in (List.mem_of_getElem? (i := 2300) (by decide +kernel)) rfl
theorem u_2299 : Cond.instanceMethod ⟨"FilterGuardModel", "readable", "(II)I"⟩ ∈ fg_g := fg_in (List.mem_of_getElem? (i := 2299) (by decide +kernel)) rfl
theorem u_146 : Cond.selects "FilterGuardModel" ⟨"FilterGuardModel", "readable", "(II)I"⟩ ⟨"FilterGuardModel", "readable", "(II)I"⟩ ∈ fg_g := fg_in (List.mem_of_getElem? (i := 146) (by decide +kernel)) rfl
theorem d_M_callFault_128 : decode prog_14_method_86_code 128 = .ok (.ireturn, 1) := by decide +kernel
theorem d_M_callFault_112 : decode prog_14_method_86_code 112 = .ok (.iload_n 2, 1) := by decide +kernel
theorem d_M_callFault_113 : decode prog_14_method_86_code 113 = .ok (.goto 15, 3) := by decide +kernel
theorem d_M_callFault_32 : decode prog_14_method_86_code 32 = .ok (.iload_n 2, 1) := by decide +kernel
theorem d_M_callFault_33 : decode prog_14_method_86_code 33 = .ok (.ifCond .ne 27, 3) := by decide +kernel
theorem d_M_callFault_60 : decode prog_14_method_86_code 60 = .ok (.iload_n 2, 1) := by decide +kernel
theorem d_M_callFault_61 : decode prog_14_method_86_code 61 = .ok (.ireturn, 1) := by decide +kernel
theorem d_M_callFault_36 : decode prog_14_method_86_code 36 = .ok (.iload_n 1, 1) := by decide +kernel
theorem d_M_callFault_37 : decode prog_14_method_86_code 37 = .ok (.iconst 2, 1) := by decide +kernel
theorem d_M_callFault_38 : decode prog_14_method_86_code 38 = .ok (.if_icmp .ne 22, 3) := by decide +kernel
theorem d_M_callFault_41 : decode prog_14_method_86_code 41 = .ok (.aload_n 0, 1) := by decide +kernel
theorem d_M_callFault_42 : decode prog_14_method_86_code 42 = .ok (.iconst 3, 1) := by decide +kernel
theorem d_M_callFault_43 : decode prog_14_method_86_code 43 = .ok (.aload_n 0, 1) := by decide +kernel
theorem d_M_callFault_44 : decode prog_14_method_86_code 44 = .ok (.getfield 21, 3) := by decide +kernel
theorem d_M_callFault_47 : decode prog_14_method_86_code 47 = .ok (.aload_n 0, 1) := by decide +kernel
theorem d_M_callFault_48 : decode prog_14_method_86_code 48 = .ok (.getfield 95, 3) := by decide +kernel
theorem d_M_callFault_51 : decode prog_14_method_86_code 51 = .ok (.iconst 1, 1) := by decide +kernel
theorem d_M_callFault_52 : decode prog_14_method_86_code 52 = .ok (.iaload, 1) := by decide +kernel
theorem d_M_callFault_53 : decode prog_14_method_86_code 53 = .ok (.iaload, 1) := by decide +kernel
theorem d_M_callFault_54 : decode prog_14_method_86_code 54 = .ok (.invokevirtual 439, 3) := by decide +kernel
theorem d_M_callFault_57 : decode prog_14_method_86_code 57 = .ok (.goto 4, 3) := by decide +kernel
theorem d_M_callFault_0 : decode prog_14_method_86_code 0 = .ok (.iload_n 1, 1) := by decide +kernel
theorem d_M_callFault_1 : decode prog_14_method_86_code 1 = .ok (.iconst 4, 1) := by decide +kernel
theorem d_M_callFault_2 : decode prog_14_method_86_code 2 = .ok (.if_icmp .ge 60, 3) := by decide +kernel
theorem d_M_callFault_62 : decode prog_14_method_86_code 62 = .ok (.iload_n 1, 1) := by decide +kernel
theorem d_M_callFault_63 : decode prog_14_method_86_code 63 = .ok (.iconst 4, 1) := by decide +kernel
theorem d_M_callFault_64 : decode prog_14_method_86_code 64 = .ok (.if_icmp .ne 9, 3) := by decide +kernel
theorem d_M_callFault_73 : decode prog_14_method_86_code 73 = .ok (.iload_n 1, 1) := by decide +kernel
theorem d_M_callFault_74 : decode prog_14_method_86_code 74 = .ok (.iconst 5, 1) := by decide +kernel
theorem d_M_callFault_75 : decode prog_14_method_86_code 75 = .ok (.if_icmp .ne 5, 3) := by decide +kernel
theorem d_M_callFault_80 : decode prog_14_method_86_code 80 = .ok (.aload_n 0, 1) := by decide +kernel
theorem d_M_callFault_81 : decode prog_14_method_86_code 81 = .ok (.iconst 2, 1) := by decide +kernel
theorem d_M_callFault_82 : decode prog_14_method_86_code 82 = .ok (.invokevirtual 443, 3) := by decide +kernel
theorem u_2307 : Cond.methodLink "FilterGuardModel" 443 ⟨"FilterGuardModel", "numberFault", "(I)I"⟩ ∈ fg_g := fg_in (List.mem_of_getElem? (i := 2307) (by decide +kernel)) rfl
theorem u_2310 : Cond.code ⟨"FilterGuardModel", "numberFault", "(I)I"⟩ prog_14_method_85_code 2 (some .int) ∈ fg_g := fg_in (List.mem_of_getElem? (i := 2310) (by decide +kernel)) rfl
theorem u_2309 : Cond.instanceMethod ⟨"FilterGuardModel", "numberFault", "(I)I"⟩ ∈ fg_g := fg_in (List.mem_of_getElem? (i := 2309) (by decide +kernel)) rfl
theorem u_148 : Cond.selects "FilterGuardModel" ⟨"FilterGuardModel", "numberFault", "(I)I"⟩ ⟨"FilterGuardModel", "numberFault", "(I)I"⟩ ∈ fg_g := fg_in (List.mem_of_getElem? (i := 148) (by decide +kernel)) rfl
theorem d_M_callFault_85 : decode prog_14_method_86_code 85 = .ok (.istore_n 2, 1) := by decide +kernel
theorem d_M_callFault_86 : decode prog_14_method_86_code 86 = .ok (.iload_n 2, 1) := by decide +kernel
theorem d_M_callFault_87 : decode prog_14_method_86_code 87 = .ok (.ifCond .ne 21, 3) := by decide +kernel
theorem d_M_callFault_90 : decode prog_14_method_86_code 90 = .ok (.ldc2_w 446, 3) := by decide +kernel
theorem u_2311 : Cond.constantLong "FilterGuardModel" 446 512 ∈ fg_g := fg_in (List.mem_of_getElem? (i := 2311) (by decide +kernel)) rfl
theorem d_M_callFault_93 : decode prog_14_method_86_code 93 = .ok (.aload_n 0, 1) := by decide +kernel
theorem d_M_callFault_94 : decode prog_14_method_86_code 94 = .ok (.getfield 113, 3) := by decide +kernel
theorem d_M_callFault_97 : decode prog_14_method_86_code 97 = .ok (.iconst 2, 1) := by decide +kernel
theorem d_M_callFault_98 : decode prog_14_method_86_code 98 = .ok (.laload, 1) := by decide +kernel
theorem d_M_callFault_99 : decode prog_14_method_86_code 99 = .ok (.invokestatic 158, 3) := by decide +kernel
theorem d_M_callFault_102 : decode prog_14_method_86_code 102 = .ok (.ifCond .eq 6, 3) := by decide +kernel
theorem d_M_callFault_105 : decode prog_14_method_86_code 105 = .ok (.bipush 17, 2) := by decide +kernel
theorem d_M_callFault_107 : decode prog_14_method_86_code 107 = .ok (.istore_n 2, 1) := by decide +kernel
theorem d_M_callFault_78 : decode prog_14_method_86_code 78 = .ok (.iconst 0, 1) := by decide +kernel
theorem d_M_callFault_79 : decode prog_14_method_86_code 79 = .ok (.ireturn, 1) := by decide +kernel
theorem d_M_callFault_67 : decode prog_14_method_86_code 67 = .ok (.aload_n 0, 1) := by decide +kernel
theorem d_M_callFault_68 : decode prog_14_method_86_code 68 = .ok (.iconst 1, 1) := by decide +kernel
theorem d_M_callFault_69 : decode prog_14_method_86_code 69 = .ok (.invokevirtual 443, 3) := by decide +kernel
theorem d_M_callFault_72 : decode prog_14_method_86_code 72 = .ok (.ireturn, 1) := by decide +kernel
theorem d_M_callFault_5 : decode prog_14_method_86_code 5 = .ok (.aload_n 0, 1) := by decide +kernel
theorem d_M_callFault_6 : decode prog_14_method_86_code 6 = .ok (.iconst 1, 1) := by decide +kernel
theorem d_M_callFault_7 : decode prog_14_method_86_code 7 = .ok (.invokevirtual 436, 3) := by decide +kernel
theorem u_2293 : Cond.methodLink "FilterGuardModel" 436 ⟨"FilterGuardModel", "mapFault", "(I)I"⟩ ∈ fg_g := fg_in (List.mem_of_getElem? (i := 2293) (by decide +kernel)) rfl
theorem u_2296 : Cond.code ⟨"FilterGuardModel", "mapFault", "(I)I"⟩ prog_14_method_84_code 2 (some .int) ∈ fg_g := fg_in (List.mem_of_getElem? (i := 2296) (by decide +kernel)) rfl
theorem u_2295 : Cond.instanceMethod ⟨"FilterGuardModel", "mapFault", "(I)I"⟩ ∈ fg_g := fg_in (List.mem_of_getElem? (i := 2295) (by decide +kernel)) rfl
theorem u_145 : Cond.selects "FilterGuardModel" ⟨"FilterGuardModel", "mapFault", "(I)I"⟩ ⟨"FilterGuardModel", "mapFault", "(I)I"⟩ ∈ fg_g := fg_in (List.mem_of_getElem? (i := 145) (by decide +kernel)) rfl
theorem d_M_callFault_10 : decode prog_14_method_86_code 10 = .ok (.istore_n 2, 1) := by decide +kernel
theorem d_M_callFault_11 : decode prog_14_method_86_code 11 = .ok (.iload_n 2, 1) := by decide +kernel
theorem d_M_callFault_12 : decode prog_14_method_86_code 12 = .ok (.ifCond .ne 20, 3) := by decide +kernel
theorem d_M_callFault_15 : decode prog_14_method_86_code 15 = .ok (.aload_n 0, 1) := by decide +kernel
theorem d_M_callFault_16 : decode prog_14_method_86_code 16 = .ok (.iconst 2, 1) := by decide +kernel
theorem d_M_callFault_17 : decode prog_14_method_86_code 17 = .ok (.aload_n 0, 1) := by decide +kernel
theorem d_M_callFault_18 : decode prog_14_method_86_code 18 = .ok (.getfield 18, 3) := by decide +kernel
theorem g_M_6 {p : Program} {l : Launch} {e : Env} {R : Room} {s : Jvm.State} {m : MethodId} {args : Array Value} {below : List Frame} {meth : Method} {c : Code} {H : Heap} {locs : List Loc} {cells slots : Nat} {Q : Jvm.State → Prop} {cc : ByteArray} {pc : Nat} {ls : Array Slot} {rest : List Value} {D : va_G} {ad : Nat → Nat → Nat} {ca : Nat → ClassId} {M : me_M} {N : Nat → Nat} {own : String} {index j : Nat} (hexec : p.tables.exec = Jvm.exec) (hb : c.code = cc) (hts : ∀ w ∈ fg_g, w.before args s = true) (hown : s.vm.findClass own = some m.cls) (hK : va_K D classes (me_T ca) s) (hP : va_P D classes (me_W ad ca M) H) (hwf : me_wf N M) (hj : j < N 1) (hlink : (Cond.fieldLink own index "FilterGuardModel" "keyBytes" "[I").before args s = true) (hdg : decode cc pc = .ok (.getfield index, 3)) (kk : W p l e R s m args below meth c H locs cells slots Q (F0 m (pc + 3) ls (va_rf ((mR M 1 j 6).map (ad 13)) :: rest))) : W p l e R s m args below meth c H locs cells slots Q (F0 m pc ls (.ref (ad 1 j) :: rest)) := me_get (k := 1) (f := 6) (C := "FilterGuardModel") (T := F_M) (Nf := 75) hexec hb hts i_M hown hK hP hwf hj (by decide) rfl (by decide) (by decide) hlink (fun _ h9 => h9) hdg kk
theorem d_M_callFault_21 : decode prog_14_method_86_code 21 = .ok (.aload_n 0, 1) := by decide +kernel
theorem d_M_callFault_22 : decode prog_14_method_86_code 22 = .ok (.getfield 95, 3) := by decide +kernel
theorem d_M_callFault_25 : decode prog_14_method_86_code 25 = .ok (.iconst 1, 1) := by decide +kernel
theorem d_M_callFault_26 : decode prog_14_method_86_code 26 = .ok (.iaload, 1) := by decide +kernel
theorem d_M_callFault_27 : decode prog_14_method_86_code 27 = .ok (.iaload, 1) := by decide +kernel
theorem d_M_callFault_28 : decode prog_14_method_86_code 28 = .ok (.invokevirtual 439, 3) := by decide +kernel
theorem d_M_callFault_31 : decode prog_14_method_86_code 31 = .ok (.istore_n 2, 1) := by decide +kernel
abbrev y_M_callFault : MethodName := ⟨"FilterGuardModel", "callFault", "(I)I"⟩
def rm_M_callFault : Room := { frames := 4, cells := 0, slots := 0, locals := 91 }
abbrev q_M_callFault (D : va_G) (ad : Nat → Nat → Nat) (ca : Nat → ClassId) (N : Nat → Nat) (M0 MZ : me_M) (RZ : Int32) (A : Nat → Prop) : Array Value → Jvm.State → Outcome → Jvm.State → Prop := va_Qi (fun r (_ : Unit) => r = RZ ∧ me_wf N MZ ∧ me_kp M0 MZ) (fg_B D A (fun _ => me_W ad ca MZ) (fun _ => [])) A
set_option maxHeartbeats 4000000 in
set_option maxRecDepth 100000 in
theorem c_M_callFault (l : Launch) (D : va_G) (ad : Nat → Nat → Nat) (ca : Nat → ClassId) (N : Nat → Nat) (M0 MZ : me_M) (RZ : Int32) (j0 : Nat) (x1 : Int32) (h : f_M_callFault M0 j0 x1 = (some (MZ, RZ))) (hwf : me_wf N M0) (hj0 : j0 < N 1) (sz : Nat) : Met l y_M_callFault (fg_w y_M_callFault prog_14_method_86_code 3 (some .int)) rm_M_callFault (va_Pc [.ref (ad 1 j0), .int x1] (fz_P D (me_T ca) (me_W ad ca M0) sz)) (q_M_callFault D ad ca N M0 MZ RZ (va_A (me_W ad ca M0) sz)) rm_M_callFault.cells rm_M_callFault.slots (va_A (me_W ad ca M0) sz) := by
  refine fz_enter (fun A => q_M_callFault D ad ca N M0 MZ RZ A) (by decide +kernel) (Nat.le_of_ble_eq_true rfl) ?_
  intro p e s m below meth c ls A hx hb hml hown hts hr hlocks hin hP hK hD hS hA hX hl hz
  have hl : lv_has ls 3 [(0, .ref (ad 1 j0)), (1, .int x1)] := hl
  unfold f_M_callFault at h
  have hkp : me_kp M0 M0 := me_kp.rf
  have hkb := hkp
  have b_108 : ∀ (M : me_M) (y2 : Int32) (H : Heap) (locs : List Loc) (ls : Array Slot), f_M_callFault_b108 j0 M y2 = (some (MZ, RZ)) → me_wf N M → me_kp M0 M → va_P D classes (me_W ad ca M) H → va_D A (me_W ad ca M) → va_S A s.heap H locs → lv_has ls 3 [(0, .ref (ad 1 j0)), (2, .int y2)] → W p l e rm_M_callFault s m [.ref (ad 1 j0), .int x1].toArray below meth c H locs 0 0 (MQ below (q_M_callFault D ad ca N M0 MZ RZ A) [.ref (ad 1 j0), .int x1].toArray s rm_M_callFault.cells rm_M_callFault.slots A) (F0 m 108 ls []) := by
    intro M y2 H locs ls h hwf hkp hP hD hS hl
    unfold f_M_callFault_b108 at h
    have hkb := hkp
    refine lv_iload_n hx hb d_M_callFault_108 rfl (lv_at hl 1 rfl) ?_
    refine lv_if_le (tgt := 116) hx hb d_M_callFault_109 (by decide) (fun c1 => ?_) (fun c1 => ?_)
    · have h := if_t c1 h
      refine lv_aload_n hx hb d_M_callFault_116 rfl (lv_at hl 0 rfl) ?_
      refine lv_iconst (v := 1) hx hb d_M_callFault_117 (by decide) ?_
      refine lv_aload_n hx hb d_M_callFault_118 rfl (lv_at hl 0 rfl) ?_
      refine g_M_55 hx hb hts hown hK hP hwf hj0 (hts _ u_1796) d_M_callFault_119 ?_
      obtain ⟨j2, e3, h⟩ := bd_ob h
      have hj2 : j2 < N 16 := (hwf.2.1 1 j0 55 _ e3 (by decide) hj0)
      refine me_opt (j := j2) e3 ?_
      refine lv_iconst (v := 2) hx hb d_M_callFault_122 (by decide) ?_
      obtain ⟨g4, h⟩ := gd_ob h
      refine me_lald hx hb hK hP hwf hj2 (me_in (i := (2 : Int32)) (k := 2) (by decide) (by decide) g4) d_M_callFault_123 ?_
      refine fg_topl (y := mL M 16 j2 2) (congrArg _ (by decide)) ?_
      refine lv_l2i (v := (mL M 16 j2 2).toInt32) hx hb d_M_callFault_124 rfl ?_
      obtain ⟨M5, r6, eM5, h⟩ := b2_ob h
      refine me_theni0 (M1 := M5) (me_runV (C := "FilterGuardModel") (As := [.int 1, .int ((mL M 16 j2 2).toInt32)]) (rest := []) ⟨hx, hb, hml, hown, hts⟩ (c_M_readable l D ad ca N M M5 r6 j0 (1 : Int32) ((mL M 16 j2 2).toInt32) eM5 hwf hj0 _) rfl (by show fg_nm y_M_readable 2; decide +kernel) u_2297 u_2299 u_146 u_192 u_2300 ⟨Nat.le_of_ble_eq_true rfl, Nat.le_of_ble_eq_true rfl⟩ hX hz hK hP hD hwf hS hA hj0 (by decide) rfl rfl rfl hl.1 (Nat.le_of_ble_eq_true rfl) d_M_callFault_125 ⟨Nat.le_of_ble_eq_true rfl, Nat.le_of_ble_eq_true rfl⟩) hP hD hK hS hA rfl rfl (fun H locs hw hP hD hS => ?_)
      obtain ⟨hwf, hk9⟩ := hw
      have hkp := hkp.tr hk9
      exact me_reti (me_kp M0) h hx hb hr hlocks hwf hkp hP hK hD hS d_M_callFault_128
    have h := if_f c1 h
    refine lv_iload_n hx hb d_M_callFault_112 rfl (lv_at hl 1 rfl) ?_
    refine lv_goto (tgt := 128) hx hb d_M_callFault_113 (by decide) ?_
    exact me_reti (me_kp M0) h hx hb hr hlocks hwf hkp hP hK hD hS d_M_callFault_128
  have b_32 : ∀ (M : me_M) (y2 : Int32) (H : Heap) (locs : List Loc) (ls : Array Slot), f_M_callFault_b32 j0 x1 M y2 = (some (MZ, RZ)) → me_wf N M → me_kp M0 M → va_P D classes (me_W ad ca M) H → va_D A (me_W ad ca M) → va_S A s.heap H locs → lv_has ls 3 [(0, .ref (ad 1 j0)), (1, .int x1), (2, .int y2)] → W p l e rm_M_callFault s m [.ref (ad 1 j0), .int x1].toArray below meth c H locs 0 0 (MQ below (q_M_callFault D ad ca N M0 MZ RZ A) [.ref (ad 1 j0), .int x1].toArray s rm_M_callFault.cells rm_M_callFault.slots A) (F0 m 32 ls []) := by
    intro M y2 H locs ls h hwf hkp hP hD hS hl
    unfold f_M_callFault_b32 at h
    have hkb := hkp
    refine lv_iload_n hx hb d_M_callFault_32 rfl (lv_at hl 2 rfl) ?_
    refine lv_if_ne (tgt := 60) hx hb d_M_callFault_33 (by decide) (fun c7 => ?_) (fun c7 => ?_)
    · have h := if_f c7 h
      refine lv_iload_n hx hb d_M_callFault_60 rfl (lv_at hl 2 rfl) ?_
      exact me_reti (me_kp M0) h hx hb hr hlocks hwf hkp hP hK hD hS d_M_callFault_61
    have h := if_t c7 h
    refine lv_iload_n hx hb d_M_callFault_36 rfl (lv_at hl 1 rfl) ?_
    refine lv_iconst (v := 2) hx hb d_M_callFault_37 (by decide) ?_
    refine lv_icmp_ne (tgt := 60) hx hb d_M_callFault_38 (by decide) (fun c8 => ?_) (fun c8 => ?_)
    · have h := if_f c8 h
      refine lv_iload_n hx hb d_M_callFault_60 rfl (lv_at hl 2 rfl) ?_
      exact me_reti (me_kp M0) h hx hb hr hlocks hwf hkp hP hK hD hS d_M_callFault_61
    have h := if_t c8 h
    refine lv_aload_n hx hb d_M_callFault_41 rfl (lv_at hl 0 rfl) ?_
    refine lv_iconst (v := 3) hx hb d_M_callFault_42 (by decide) ?_
    refine lv_aload_n hx hb d_M_callFault_43 rfl (lv_at hl 0 rfl) ?_
    refine g_M_7 hx hb hts hown hK hP hwf hj0 (hts _ u_1748) d_M_callFault_44 ?_
    obtain ⟨j9, e10, h⟩ := bd_ob h
    have hj9 : j9 < N 13 := (hwf.2.1 1 j0 7 _ e10 (by decide) hj0)
    refine me_opt (j := j9) e10 ?_
    refine lv_aload_n hx hb d_M_callFault_47 rfl (lv_at hl 0 rfl) ?_
    refine g_M_49 hx hb hts hown hK hP hwf hj0 (hts _ u_1790) d_M_callFault_48 ?_
    obtain ⟨j11, e12, h⟩ := bd_ob h
    have hj11 : j11 < N 13 := (hwf.2.1 1 j0 49 _ e12 (by decide) hj0)
    refine me_opt (j := j11) e12 ?_
    refine lv_iconst (v := 1) hx hb d_M_callFault_51 (by decide) ?_
    obtain ⟨g13, h⟩ := gd_ob h
    refine me_iald hx hb hK hP hwf hj11 (me_in (i := (1 : Int32)) (k := 1) (by decide) (by decide) g13) d_M_callFault_52 ?_
    refine fg_topi (y := mI M 13 j11 1) (congrArg _ (by decide)) ?_
    obtain ⟨g14, h⟩ := gd_ob h
    refine me_iald hx hb hK hP hwf hj9 g14 d_M_callFault_53 ?_
    obtain ⟨M15, r16, eM15, h⟩ := b2_ob h
    refine me_theni0 (M1 := M15) (me_runV (C := "FilterGuardModel") (As := [.int 3, .int (mI M 13 j9 (mI M 13 j11 1).toNatClampNeg)]) (rest := []) ⟨hx, hb, hml, hown, hts⟩ (c_M_readable l D ad ca N M M15 r16 j0 (3 : Int32) (mI M 13 j9 (mI M 13 j11 1).toNatClampNeg) eM15 hwf hj0 _) rfl (by show fg_nm y_M_readable 2; decide +kernel) u_2297 u_2299 u_146 u_192 u_2300 ⟨Nat.le_of_ble_eq_true rfl, Nat.le_of_ble_eq_true rfl⟩ hX hz hK hP hD hwf hS hA hj0 (by decide) rfl rfl rfl hl.1 (Nat.le_of_ble_eq_true rfl) d_M_callFault_54 ⟨Nat.le_of_ble_eq_true rfl, Nat.le_of_ble_eq_true rfl⟩) hP hD hK hS hA rfl rfl (fun H locs hw hP hD hS => ?_)
    obtain ⟨hwf, hk9⟩ := hw
    have hkp := hkp.tr hk9
    refine lv_goto (tgt := 61) hx hb d_M_callFault_57 (by decide) ?_
    exact me_reti (me_kp M0) h hx hb hr hlocks hwf hkp hP hK hD hS d_M_callFault_61
  refine lv_iload_n hx hb d_M_callFault_0 rfl (lv_at hl 1 rfl) ?_
  refine lv_iconst (v := 4) hx hb d_M_callFault_1 (by decide) ?_
  refine lv_icmp_ge (tgt := 62) hx hb d_M_callFault_2 (by decide) (fun c17 => ?_) (fun c17 => ?_)
  · have h := if_t c17 h
    refine lv_iload_n hx hb d_M_callFault_62 rfl (lv_at hl 1 rfl) ?_
    refine lv_iconst (v := 4) hx hb d_M_callFault_63 (by decide) ?_
    refine lv_icmp_ne (tgt := 73) hx hb d_M_callFault_64 (by decide) (fun c18 => ?_) (fun c18 => ?_)
    · have h := if_f c18 h
      refine lv_iload_n hx hb d_M_callFault_73 rfl (lv_at hl 1 rfl) ?_
      refine lv_iconst (v := 5) hx hb d_M_callFault_74 (by decide) ?_
      refine lv_icmp_ne (tgt := 80) hx hb d_M_callFault_75 (by decide) (fun c19 => ?_) (fun c19 => ?_)
      · have h := if_f c19 h
        refine lv_aload_n hx hb d_M_callFault_80 rfl (lv_at hl 0 rfl) ?_
        refine lv_iconst (v := 2) hx hb d_M_callFault_81 (by decide) ?_
        obtain ⟨M20, r21, eM20, h⟩ := b2_ob h
        refine me_theni0 (M1 := M20) (me_runV (C := "FilterGuardModel") (As := [.int 2]) (rest := []) ⟨hx, hb, hml, hown, hts⟩ (c_M_numberFault l D ad ca N M0 M20 r21 j0 (2 : Int32) eM20 hwf hj0 _) rfl (by show fg_nm y_M_numberFault 1; decide +kernel) u_2307 u_2309 u_148 u_192 u_2310 ⟨Nat.le_of_ble_eq_true rfl, Nat.le_of_ble_eq_true rfl⟩ hX hz hK hP hD hwf hS hA hj0 (by decide) rfl rfl rfl hl.1 (Nat.le_of_ble_eq_true rfl) d_M_callFault_82 ⟨Nat.le_of_ble_eq_true rfl, Nat.le_of_ble_eq_true rfl⟩) hP hD hK hS hA rfl rfl (fun H locs hw hP hD hS => ?_)
        obtain ⟨hwf, hk9⟩ := hw
        have hkp := hkp.tr hk9
        refine lv_istore_n (lv' := [(2, .int r21), (0, .ref (ad 1 j0)), (1, .int x1)]) hx hb d_M_callFault_85 rfl hl (by decide) rfl (fun ls hl => ?_)
        refine lv_iload_n hx hb d_M_callFault_86 rfl (lv_at hl 0 rfl) ?_
        refine lv_if_ne (tgt := 108) hx hb d_M_callFault_87 (by decide) (fun c22 => ?_) (fun c22 => ?_)
        · have h := if_f c22 h
          exact b_108 M20 r21 _ _ _ h hwf hkp hP hD hS (lv_sub hl [1, 0] rfl)
        have h := if_t c22 h
        refine lv_ldc2 hx hb hown (hts _ u_2311) d_M_callFault_90 ?_
        refine lv_aload_n hx hb d_M_callFault_93 rfl (lv_at hl 1 rfl) ?_
        refine g_M_55 hx hb hts hown hK hP hwf hj0 (hts _ u_1796) d_M_callFault_94 ?_
        obtain ⟨j23, e24, h⟩ := bd_ob h
        have hj23 : j23 < N 16 := (hwf.2.1 1 j0 55 _ (kp_r hkb hkp e24) (by decide) hj0)
        refine me_opt (j := j23) (kp_r hkb hkp e24) ?_
        refine lv_iconst (v := 2) hx hb d_M_callFault_97 (by decide) ?_
        obtain ⟨g25, h⟩ := gd_ob h
        refine me_lald hx hb hK hP hwf hj23 (me_in (i := (2 : Int32)) (k := 2) (by decide) (by decide) (kp_c hkb.z hkp.z g25)) d_M_callFault_98 ?_
        refine fg_topl (y := mL M20 16 j23 2) (congrArg _ (by decide)) ?_
        obtain ⟨r26, er26, h⟩ := bd_ob h
        refine me_pani' (r0 := r26) (fg_runS (wc := []) (tc := []) (A2 := A) (As := [.long 512, .long (mL M20 16 j23 2)]) (rest := []) ⟨hx, hb, hml, hown, hts⟩ (c_M_below l D r26 (512 : Int64) (mL M20 16 j23 2) er26 _) (by show fg_nm y_M_below 2; decide +kernel) u_2072 u_2073 u_192 u_2074 ⟨Nat.le_of_ble_eq_true rfl, Nat.le_of_ble_eq_true rfl⟩ hX me_P0 (hK.sub (tys' := []) [] rfl) me_D0 rfl hl.1 (Nat.le_of_ble_eq_true rfl) d_M_callFault_99 ⟨Nat.le_of_ble_eq_true rfl, Nat.le_of_ble_eq_true rfl⟩) hP hD hK hS hA rfl rfl (fun H locs hw hP hD hS => ?_)
        have zr26 := hw
        refine lv_if_eq (tgt := 108) hx hb d_M_callFault_102 (by decide) (fun c27 => ?_) (fun c27 => ?_)
        · have h := if_t c27 h
          exact b_108 M20 r21 _ _ _ h hwf hkp hP hD hS (lv_sub hl [1, 0] rfl)
        have h := if_f c27 h
        refine lv_bipush (v := 17) hx hb d_M_callFault_105 (by decide) ?_
        refine lv_istore_n (lv' := [(2, .int 17), (0, .ref (ad 1 j0)), (1, .int x1)]) hx hb d_M_callFault_107 rfl hl (by decide) rfl (fun ls hl => ?_)
        exact b_108 M20 (17 : Int32) _ _ _ h hwf hkp hP hD hS (lv_sub hl [1, 0] rfl)
      have h := if_t c19 h
      refine lv_iconst (v := 0) hx hb d_M_callFault_78 (by decide) ?_
      exact me_reti (me_kp M0) h hx hb hr hlocks hwf hkp hP hK hD hS d_M_callFault_79
    have h := if_t c18 h
    refine lv_aload_n hx hb d_M_callFault_67 rfl (lv_at hl 0 rfl) ?_
    refine lv_iconst (v := 1) hx hb d_M_callFault_68 (by decide) ?_
    obtain ⟨M28, r29, eM28, h⟩ := b2_ob h
    refine me_theni0 (M1 := M28) (me_runV (C := "FilterGuardModel") (As := [.int 1]) (rest := []) ⟨hx, hb, hml, hown, hts⟩ (c_M_numberFault l D ad ca N M0 M28 r29 j0 (1 : Int32) eM28 hwf hj0 _) rfl (by show fg_nm y_M_numberFault 1; decide +kernel) u_2307 u_2309 u_148 u_192 u_2310 ⟨Nat.le_of_ble_eq_true rfl, Nat.le_of_ble_eq_true rfl⟩ hX hz hK hP hD hwf hS hA hj0 (by decide) rfl rfl rfl hl.1 (Nat.le_of_ble_eq_true rfl) d_M_callFault_69 ⟨Nat.le_of_ble_eq_true rfl, Nat.le_of_ble_eq_true rfl⟩) hP hD hK hS hA rfl rfl (fun H locs hw hP hD hS => ?_)
    obtain ⟨hwf, hk9⟩ := hw
    have hkp := hkp.tr hk9
    exact me_reti (me_kp M0) h hx hb hr hlocks hwf hkp hP hK hD hS d_M_callFault_72
  have h := if_f c17 h
  refine lv_aload_n hx hb d_M_callFault_5 rfl (lv_at hl 0 rfl) ?_
  refine lv_iconst (v := 1) hx hb d_M_callFault_6 (by decide) ?_
  obtain ⟨M30, r31, eM30, h⟩ := b2_ob h
  refine me_theni0 (M1 := M30) (me_runV (C := "FilterGuardModel") (As := [.int 1]) (rest := []) ⟨hx, hb, hml, hown, hts⟩ (c_M_mapFault l D ad ca N M0 M30 r31 j0 (1 : Int32) eM30 hwf hj0 _) rfl (by show fg_nm y_M_mapFault 1; decide +kernel) u_2293 u_2295 u_145 u_192 u_2296 ⟨Nat.le_of_ble_eq_true rfl, Nat.le_of_ble_eq_true rfl⟩ hX hz hK hP hD hwf hS hA hj0 (by decide) rfl rfl rfl hl.1 (Nat.le_of_ble_eq_true rfl) d_M_callFault_7 ⟨Nat.le_of_ble_eq_true rfl, Nat.le_of_ble_eq_true rfl⟩) hP hD hK hS hA rfl rfl (fun H locs hw hP hD hS => ?_)
  obtain ⟨hwf, hk9⟩ := hw
  have hkp := hkp.tr hk9
  refine lv_istore_n (lv' := [(2, .int r31), (0, .ref (ad 1 j0)), (1, .int x1)]) hx hb d_M_callFault_10 rfl hl (by decide) rfl (fun ls hl => ?_)
  refine lv_iload_n hx hb d_M_callFault_11 rfl (lv_at hl 0 rfl) ?_
  refine lv_if_ne (tgt := 32) hx hb d_M_callFault_12 (by decide) (fun c32 => ?_) (fun c32 => ?_)
  · have h := if_f c32 h
    exact b_32 M30 r31 _ _ _ h hwf hkp hP hD hS (lv_sub hl [1, 2, 0] rfl)
  have h := if_t c32 h
  refine lv_aload_n hx hb d_M_callFault_15 rfl (lv_at hl 1 rfl) ?_
  refine lv_iconst (v := 2) hx hb d_M_callFault_16 (by decide) ?_
  refine lv_aload_n hx hb d_M_callFault_17 rfl (lv_at hl 1 rfl) ?_
  refine g_M_6 hx hb hts hown hK hP hwf hj0 (hts _ u_1747) d_M_callFault_18 ?_
  obtain ⟨j33, e34, h⟩ := bd_ob h
  have hj33 : j33 < N 13 := (hwf.2.1 1 j0 6 _ (kp_r hkb hkp e34) (by decide) hj0)
  refine me_opt (j := j33) (kp_r hkb hkp e34) ?_
  refine lv_aload_n hx hb d_M_callFault_21 rfl (lv_at hl 1 rfl) ?_
  refine g_M_49 hx hb hts hown hK hP hwf hj0 (hts _ u_1790) d_M_callFault_22 ?_
  obtain ⟨j35, e36, h⟩ := bd_ob h
  have hj35 : j35 < N 13 := (hwf.2.1 1 j0 49 _ (kp_r hkb hkp e36) (by decide) hj0)
  refine me_opt (j := j35) (kp_r hkb hkp e36) ?_
  refine lv_iconst (v := 1) hx hb d_M_callFault_25 (by decide) ?_
  obtain ⟨g37, h⟩ := gd_ob h
  refine me_iald hx hb hK hP hwf hj35 (me_in (i := (1 : Int32)) (k := 1) (by decide) (by decide) (kp_c hkb.z hkp.z g37)) d_M_callFault_26 ?_
  refine fg_topi (y := mI M30 13 j35 1) (congrArg _ (by decide)) ?_
  obtain ⟨g38, h⟩ := gd_ob h
  refine me_iald hx hb hK hP hwf hj33 (kp_z hkb.z hkp.z g38) d_M_callFault_27 ?_
  obtain ⟨M39, r40, eM39, h⟩ := b2_ob h
  refine me_theni0 (M1 := M39) (me_runV (C := "FilterGuardModel") (As := [.int 2, .int (mI M30 13 j33 (mI M30 13 j35 1).toNatClampNeg)]) (rest := []) ⟨hx, hb, hml, hown, hts⟩ (c_M_readable l D ad ca N M30 M39 r40 j0 (2 : Int32) (mI M30 13 j33 (mI M30 13 j35 1).toNatClampNeg) eM39 hwf hj0 _) rfl (by show fg_nm y_M_readable 2; decide +kernel) u_2297 u_2299 u_146 u_192 u_2300 ⟨Nat.le_of_ble_eq_true rfl, Nat.le_of_ble_eq_true rfl⟩ hX hz hK hP hD hwf hS hA hj0 (by decide) rfl rfl rfl hl.1 (Nat.le_of_ble_eq_true rfl) d_M_callFault_28 ⟨Nat.le_of_ble_eq_true rfl, Nat.le_of_ble_eq_true rfl⟩) hP hD hK hS hA rfl rfl (fun H locs hw hP hD hS => ?_)
  obtain ⟨hwf, hk9⟩ := hw
  have hkp := hkp.tr hk9
  refine lv_istore_n (lv' := [(2, .int r40), (0, .ref (ad 1 j0)), (1, .int x1)]) hx hb d_M_callFault_31 rfl hl (by decide) rfl (fun ls hl => ?_)
  exact b_32 M39 r40 _ _ _ h hwf hkp hP hD hS (lv_sub hl [1, 2, 0] rfl)
theorem d_M_call_22 : decode prog_14_method_87_code 22 = .ok (.iload 4, 2) := by decide +kernel
theorem d_M_call_24 : decode prog_14_method_87_code 24 = .ok (.bipush 6, 2) := by decide +kernel
theorem d_M_call_26 : decode prog_14_method_87_code 26 = .ok (.if_icmp .ge 15, 3) := by decide +kernel
theorem d_M_call_41 : decode prog_14_method_87_code 41 = .ok (.iload_n 1, 1) := by decide +kernel
theorem d_M_call_42 : decode prog_14_method_87_code 42 = .ok (.iconst 1, 1) := by decide +kernel
theorem d_M_call_43 : decode prog_14_method_87_code 43 = .ok (.if_icmp .ne 40, 3) := by decide +kernel
theorem d_M_call_83 : decode prog_14_method_87_code 83 = .ok (.iload_n 1, 1) := by decide +kernel
theorem d_M_call_84 : decode prog_14_method_87_code 84 = .ok (.iconst 4, 1) := by decide +kernel
theorem d_M_call_85 : decode prog_14_method_87_code 85 = .ok (.if_icmp .ne 12, 3) := by decide +kernel
theorem d_M_call_97 : decode prog_14_method_87_code 97 = .ok (.iload_n 1, 1) := by decide +kernel
theorem d_M_call_98 : decode prog_14_method_87_code 98 = .ok (.bipush 6, 2) := by decide +kernel
theorem d_M_call_100 : decode prog_14_method_87_code 100 = .ok (.if_icmp .ne 12, 3) := by decide +kernel
theorem d_M_call_112 : decode prog_14_method_87_code 112 = .ok (.aload_n 0, 1) := by decide +kernel
theorem d_M_call_113 : decode prog_14_method_87_code 113 = .ok (.iconst 0, 1) := by decide +kernel
theorem d_M_call_114 : decode prog_14_method_87_code 114 = .ok (.invokevirtual 372, 3) := by decide +kernel
theorem d_M_call_117 : decode prog_14_method_87_code 117 = .ok (.iconst 0, 1) := by decide +kernel
theorem d_M_call_118 : decode prog_14_method_87_code 118 = .ok (.ireturn, 1) := by decide +kernel
theorem d_M_call_103 : decode prog_14_method_87_code 103 = .ok (.aload_n 0, 1) := by decide +kernel
theorem d_M_call_104 : decode prog_14_method_87_code 104 = .ok (.iconst 0, 1) := by decide +kernel
theorem d_M_call_105 : decode prog_14_method_87_code 105 = .ok (.iconst 4, 1) := by decide +kernel
theorem d_M_call_106 : decode prog_14_method_87_code 106 = .ok (.invokevirtual 419, 3) := by decide +kernel
theorem d_M_call_109 : decode prog_14_method_87_code 109 = .ok (.goto 8, 3) := by decide +kernel
theorem d_M_call_88 : decode prog_14_method_87_code 88 = .ok (.aload_n 0, 1) := by decide +kernel
theorem d_M_call_89 : decode prog_14_method_87_code 89 = .ok (.iconst 0, 1) := by decide +kernel
theorem d_M_call_90 : decode prog_14_method_87_code 90 = .ok (.lconst 0, 1) := by decide +kernel
theorem d_M_call_91 : decode prog_14_method_87_code 91 = .ok (.invokevirtual 375, 3) := by decide +kernel
theorem d_M_call_94 : decode prog_14_method_87_code 94 = .ok (.goto 23, 3) := by decide +kernel
theorem d_M_call_46 : decode prog_14_method_87_code 46 = .ok (.aload_n 0, 1) := by decide +kernel
theorem d_M_call_47 : decode prog_14_method_87_code 47 = .ok (.iconst 0, 1) := by decide +kernel
theorem d_M_call_48 : decode prog_14_method_87_code 48 = .ok (.bipush 8, 2) := by decide +kernel
theorem d_M_call_50 : decode prog_14_method_87_code 50 = .ok (.invokevirtual 366, 3) := by decide +kernel
theorem d_M_call_53 : decode prog_14_method_87_code 53 = .ok (.aload_n 0, 1) := by decide +kernel
theorem d_M_call_54 : decode prog_14_method_87_code 54 = .ok (.getfield 95, 3) := by decide +kernel
theorem d_M_call_57 : decode prog_14_method_87_code 57 = .ok (.iconst 0, 1) := by decide +kernel
theorem d_M_call_58 : decode prog_14_method_87_code 58 = .ok (.iload_n 3, 1) := by decide +kernel
theorem d_M_call_59 : decode prog_14_method_87_code 59 = .ok (.iastore, 1) := by decide +kernel
theorem d_M_call_60 : decode prog_14_method_87_code 60 = .ok (.aload_n 0, 1) := by decide +kernel
theorem d_M_call_61 : decode prog_14_method_87_code 61 = .ok (.dup, 1) := by decide +kernel
theorem d_M_call_62 : decode prog_14_method_87_code 62 = .ok (.getfield 369, 3) := by decide +kernel
theorem d_M_call_65 : decode prog_14_method_87_code 65 = .ok (.iconst 1, 1) := by decide +kernel
theorem d_M_call_66 : decode prog_14_method_87_code 66 = .ok (.iadd, 1) := by decide +kernel
theorem d_M_call_67 : decode prog_14_method_87_code 67 = .ok (.putfield 369, 3) := by decide +kernel
theorem d_M_call_70 : decode prog_14_method_87_code 70 = .ok (.aload_n 0, 1) := by decide +kernel
theorem d_M_call_71 : decode prog_14_method_87_code 71 = .ok (.getfield 98, 3) := by decide +kernel
theorem d_M_call_74 : decode prog_14_method_87_code 74 = .ok (.iconst 0, 1) := by decide +kernel
theorem d_M_call_75 : decode prog_14_method_87_code 75 = .ok (.aload_n 0, 1) := by decide +kernel
theorem d_M_call_76 : decode prog_14_method_87_code 76 = .ok (.getfield 369, 3) := by decide +kernel
theorem d_M_call_79 : decode prog_14_method_87_code 79 = .ok (.iastore, 1) := by decide +kernel
theorem d_M_call_80 : decode prog_14_method_87_code 80 = .ok (.goto 37, 3) := by decide +kernel
theorem d_M_call_29 : decode prog_14_method_87_code 29 = .ok (.aload_n 0, 1) := by decide +kernel
theorem d_M_call_30 : decode prog_14_method_87_code 30 = .ok (.iload 4, 2) := by decide +kernel
theorem d_M_call_32 : decode prog_14_method_87_code 32 = .ok (.invokevirtual 363, 3) := by decide +kernel
theorem d_M_call_35 : decode prog_14_method_87_code 35 = .ok (.iinc 4 1, 3) := by decide +kernel
theorem d_M_call_38 : decode prog_14_method_87_code 38 = .ok (.goto (-16), 3) := by decide +kernel
theorem d_M_call_0 : decode prog_14_method_87_code 0 = .ok (.aload_n 0, 1) := by decide +kernel
theorem d_M_call_1 : decode prog_14_method_87_code 1 = .ok (.iload_n 1, 1) := by decide +kernel
theorem d_M_call_2 : decode prog_14_method_87_code 2 = .ok (.invokevirtual 448, 3) := by decide +kernel
theorem u_2289 : Cond.methodLink "FilterGuardModel" 448 ⟨"FilterGuardModel", "callFault", "(I)I"⟩ ∈ fg_g := fg_in (List.mem_of_getElem? (i := 2289) (by decide +kernel)) rfl
theorem u_2292 : Cond.code ⟨"FilterGuardModel", "callFault", "(I)I"⟩ prog_14_method_86_code 3 (some .int) ∈ fg_g := fg_in (List.mem_of_getElem? (i := 2292) (by decide +kernel)) rfl
theorem u_2291 : Cond.instanceMethod ⟨"FilterGuardModel", "callFault", "(I)I"⟩ ∈ fg_g := fg_in (List.mem_of_getElem? (i := 2291) (by decide +kernel)) rfl
theorem u_144 : Cond.selects "FilterGuardModel" ⟨"FilterGuardModel", "callFault", "(I)I"⟩ ⟨"FilterGuardModel", "callFault", "(I)I"⟩ ∈ fg_g := fg_in (List.mem_of_getElem? (i := 144) (by decide +kernel)) rfl
theorem d_M_call_5 : decode prog_14_method_87_code 5 = .ok (.istore_n 2, 1) := by decide +kernel
theorem d_M_call_6 : decode prog_14_method_87_code 6 = .ok (.iload_n 2, 1) := by decide +kernel
theorem d_M_call_7 : decode prog_14_method_87_code 7 = .ok (.ifCond .le 5, 3) := by decide +kernel
theorem d_M_call_12 : decode prog_14_method_87_code 12 = .ok (.aload_n 0, 1) := by decide +kernel
theorem d_M_call_13 : decode prog_14_method_87_code 13 = .ok (.getfield 95, 3) := by decide +kernel
theorem d_M_call_16 : decode prog_14_method_87_code 16 = .ok (.iconst 1, 1) := by decide +kernel
theorem d_M_call_17 : decode prog_14_method_87_code 17 = .ok (.iaload, 1) := by decide +kernel
theorem d_M_call_18 : decode prog_14_method_87_code 18 = .ok (.istore_n 3, 1) := by decide +kernel
theorem d_M_call_19 : decode prog_14_method_87_code 19 = .ok (.iconst 1, 1) := by decide +kernel
theorem d_M_call_20 : decode prog_14_method_87_code 20 = .ok (.istore 4, 2) := by decide +kernel
theorem d_M_call_10 : decode prog_14_method_87_code 10 = .ok (.iload_n 2, 1) := by decide +kernel
theorem d_M_call_11 : decode prog_14_method_87_code 11 = .ok (.ireturn, 1) := by decide +kernel
abbrev y_M_call : MethodName := ⟨"FilterGuardModel", "call", "(I)I"⟩
def rm_M_call : Room := { frames := 6, cells := 0, slots := 0, locals := 133 }
abbrev q_M_call (D : va_G) (ad : Nat → Nat → Nat) (ca : Nat → ClassId) (N : Nat → Nat) (M0 MZ : me_M) (RZ : Int32) (A : Nat → Prop) : Array Value → Jvm.State → Outcome → Jvm.State → Prop := va_Qi (fun r (_ : Unit) => r = RZ ∧ me_wf N MZ ∧ me_kp M0 MZ) (fg_B D A (fun _ => me_W ad ca MZ) (fun _ => [])) A
set_option maxHeartbeats 4000000 in
set_option maxRecDepth 100000 in
theorem c_M_call (l : Launch) (D : va_G) (ad : Nat → Nat → Nat) (ca : Nat → ClassId) (N : Nat → Nat) (M0 MZ : me_M) (RZ : Int32) (j0 : Nat) (x1 : Int32) (h : f_M_call M0 j0 x1 = (some (MZ, RZ))) (hwf : me_wf N M0) (hj0 : j0 < N 1) (sz : Nat) : Met l y_M_call (fg_w y_M_call prog_14_method_87_code 5 (some .int)) rm_M_call (va_Pc [.ref (ad 1 j0), .int x1] (fz_P D (me_T ca) (me_W ad ca M0) sz)) (q_M_call D ad ca N M0 MZ RZ (va_A (me_W ad ca M0) sz)) rm_M_call.cells rm_M_call.slots (va_A (me_W ad ca M0) sz) := by
  refine fz_enter (fun A => q_M_call D ad ca N M0 MZ RZ A) (by decide +kernel) (Nat.le_of_ble_eq_true rfl) ?_
  intro p e s m below meth c ls A hx hb hml hown hts hr hlocks hin hP hK hD hS hA hX hl hz
  have hl : lv_has ls 5 [(0, .ref (ad 1 j0)), (1, .int x1)] := hl
  unfold f_M_call at h
  have hkp : me_kp M0 M0 := me_kp.rf
  have hkb := hkp
  have b_22 : ∀ (fu : Nat), ∀ (M : me_M) (y3 : Int32) (y4 : Int32) (H : Heap) (locs : List Loc) (ls : Array Slot), f_M_call_l22 j0 x1 fu M y3 y4 = (some (MZ, RZ)) → me_wf N M → me_kp M0 M → va_P D classes (me_W ad ca M) H → va_D A (me_W ad ca M) → va_S A s.heap H locs → lv_has ls 5 [(0, .ref (ad 1 j0)), (1, .int x1), (3, .int y3), (4, .int y4)] → W p l e rm_M_call s m [.ref (ad 1 j0), .int x1].toArray below meth c H locs 0 0 (MQ below (q_M_call D ad ca N M0 MZ RZ A) [.ref (ad 1 j0), .int x1].toArray s rm_M_call.cells rm_M_call.slots A) (F0 m 22 ls []) := by
    intro fu
    induction fu with
    | zero =>
      intro M y3 y4 H locs ls h hwf hkp hP hD hS hl
      cases h
    | succ fu ih =>
      intro M y3 y4 H locs ls h hwf hkp hP hD hS hl
      unfold f_M_call_l22 at h
      have hkb := hkp
      refine lv_iload hx hb d_M_call_22 (lv_at hl 3 rfl) ?_
      refine lv_bipush (v := 6) hx hb d_M_call_24 (by decide) ?_
      refine lv_icmp_ge (tgt := 41) hx hb d_M_call_26 (by decide) (fun c1 => ?_) (fun c1 => ?_)
      · have h := if_t c1 h
        refine lv_iload_n hx hb d_M_call_41 rfl (lv_at hl 1 rfl) ?_
        refine lv_iconst (v := 1) hx hb d_M_call_42 (by decide) ?_
        refine lv_icmp_ne (tgt := 83) hx hb d_M_call_43 (by decide) (fun c2 => ?_) (fun c2 => ?_)
        · have h := if_f c2 h
          refine lv_iload_n hx hb d_M_call_83 rfl (lv_at hl 1 rfl) ?_
          refine lv_iconst (v := 4) hx hb d_M_call_84 (by decide) ?_
          refine lv_icmp_ne (tgt := 97) hx hb d_M_call_85 (by decide) (fun c3 => ?_) (fun c3 => ?_)
          · have h := if_f c3 h
            refine lv_iload_n hx hb d_M_call_97 rfl (lv_at hl 1 rfl) ?_
            refine lv_bipush (v := 6) hx hb d_M_call_98 (by decide) ?_
            refine lv_icmp_ne (tgt := 112) hx hb d_M_call_100 (by decide) (fun c4 => ?_) (fun c4 => ?_)
            · have h := if_f c4 h
              refine lv_aload_n hx hb d_M_call_112 rfl (lv_at hl 0 rfl) ?_
              refine lv_iconst (v := 0) hx hb d_M_call_113 (by decide) ?_
              obtain ⟨M5, eM5, h⟩ := bd_ob h
              refine me_thenv0 (M1 := M5) (me_runV (C := "FilterGuardModel") (As := [.int 0]) (rest := []) ⟨hx, hb, hml, hown, hts⟩ (c_M_toAny l D ad ca N M M5 j0 (0 : Int32) eM5 hwf hj0 _) rfl (by show fg_nm y_M_toAny 1; decide +kernel) u_2134 u_2136 u_111 u_192 u_2137 ⟨Nat.le_of_ble_eq_true rfl, Nat.le_of_ble_eq_true rfl⟩ hX hz hK hP hD hwf hS hA hj0 (by decide) rfl rfl rfl hl.1 (Nat.le_of_ble_eq_true rfl) d_M_call_114 ⟨Nat.le_of_ble_eq_true rfl, Nat.le_of_ble_eq_true rfl⟩) hP hD hK hS hA rfl rfl (fun H locs hw hP hD hS => ?_)
              obtain ⟨hwf, hk9⟩ := hw
              have hkp := hkp.tr hk9
              refine lv_iconst (v := 0) hx hb d_M_call_117 (by decide) ?_
              exact me_reti (me_kp M0) h hx hb hr hlocks hwf hkp hP hK hD hS d_M_call_118
            have h := if_t c4 h
            refine lv_aload_n hx hb d_M_call_103 rfl (lv_at hl 0 rfl) ?_
            refine lv_iconst (v := 0) hx hb d_M_call_104 (by decide) ?_
            refine lv_iconst (v := 4) hx hb d_M_call_105 (by decide) ?_
            obtain ⟨M6, eM6, h⟩ := bd_ob h
            refine me_thenv0 (M1 := M6) (me_runV (C := "FilterGuardModel") (As := [.int 0, .int 4]) (rest := []) ⟨hx, hb, hml, hown, hts⟩ (c_M_toRead l D ad ca N M M6 j0 (0 : Int32) (4 : Int32) eM6 hwf hj0 _) rfl (by show fg_nm y_M_toRead 2; decide +kernel) u_2130 u_2132 u_110 u_192 u_2133 ⟨Nat.le_of_ble_eq_true rfl, Nat.le_of_ble_eq_true rfl⟩ hX hz hK hP hD hwf hS hA hj0 (by decide) rfl rfl rfl hl.1 (Nat.le_of_ble_eq_true rfl) d_M_call_106 ⟨Nat.le_of_ble_eq_true rfl, Nat.le_of_ble_eq_true rfl⟩) hP hD hK hS hA rfl rfl (fun H locs hw hP hD hS => ?_)
            obtain ⟨hwf, hk9⟩ := hw
            have hkp := hkp.tr hk9
            refine lv_goto (tgt := 117) hx hb d_M_call_109 (by decide) ?_
            refine lv_iconst (v := 0) hx hb d_M_call_117 (by decide) ?_
            exact me_reti (me_kp M0) h hx hb hr hlocks hwf hkp hP hK hD hS d_M_call_118
          have h := if_t c3 h
          refine lv_aload_n hx hb d_M_call_88 rfl (lv_at hl 0 rfl) ?_
          refine lv_iconst (v := 0) hx hb d_M_call_89 (by decide) ?_
          refine lv_lconst (v := 0) hx hb d_M_call_90 (by decide) ?_
          obtain ⟨M7, eM7, h⟩ := bd_ob h
          refine me_thenv0 (M1 := M7) (me_runV (C := "FilterGuardModel") (As := [.int 0, .long 0]) (rest := []) ⟨hx, hb, hml, hown, hts⟩ (c_M_toNumber l D ad ca N M M7 j0 (0 : Int32) (0 : Int64) eM7 hwf hj0 _) rfl (by show fg_nm y_M_toNumber 2; decide +kernel) u_2112 u_2114 u_107 u_192 u_2115 ⟨Nat.le_of_ble_eq_true rfl, Nat.le_of_ble_eq_true rfl⟩ hX hz hK hP hD hwf hS hA hj0 (by decide) rfl rfl rfl hl.1 (Nat.le_of_ble_eq_true rfl) d_M_call_91 ⟨Nat.le_of_ble_eq_true rfl, Nat.le_of_ble_eq_true rfl⟩) hP hD hK hS hA rfl rfl (fun H locs hw hP hD hS => ?_)
          obtain ⟨hwf, hk9⟩ := hw
          have hkp := hkp.tr hk9
          refine lv_goto (tgt := 117) hx hb d_M_call_94 (by decide) ?_
          refine lv_iconst (v := 0) hx hb d_M_call_117 (by decide) ?_
          exact me_reti (me_kp M0) h hx hb hr hlocks hwf hkp hP hK hD hS d_M_call_118
        have h := if_t c2 h
        refine lv_aload_n hx hb d_M_call_46 rfl (lv_at hl 0 rfl) ?_
        refine lv_iconst (v := 0) hx hb d_M_call_47 (by decide) ?_
        refine lv_bipush (v := 8) hx hb d_M_call_48 (by decide) ?_
        obtain ⟨M8, eM8, h⟩ := bd_ob h
        refine me_thenv0 (M1 := M8) (me_runV (C := "FilterGuardModel") (As := [.int 0, .int 8]) (rest := []) ⟨hx, hb, hml, hown, hts⟩ (c_M_setKind l D ad ca N M M8 j0 (0 : Int32) (8 : Int32) eM8 hwf hj0 _) rfl (by show fg_nm y_M_setKind 2; decide +kernel) u_2044 u_2046 u_92 u_192 u_2047 ⟨Nat.le_of_ble_eq_true rfl, Nat.le_of_ble_eq_true rfl⟩ hX hz hK hP hD hwf hS hA hj0 (by decide) rfl rfl rfl hl.1 (Nat.le_of_ble_eq_true rfl) d_M_call_50 ⟨Nat.le_of_ble_eq_true rfl, Nat.le_of_ble_eq_true rfl⟩) hP hD hK hS hA rfl rfl (fun H locs hw hP hD hS => ?_)
        obtain ⟨hwf, hk9⟩ := hw
        have hkp := hkp.tr hk9
        refine lv_aload_n hx hb d_M_call_53 rfl (lv_at hl 0 rfl) ?_
        refine g_M_49 hx hb hts hown hK hP hwf hj0 (hts _ u_1790) d_M_call_54 ?_
        obtain ⟨j9, e10, h⟩ := bd_ob h
        have hj9 : j9 < N 13 := (hwf.2.1 1 j0 49 _ (kp_r hkb hkp e10) (by decide) hj0)
        refine me_opt (j := j9) (kp_r hkb hkp e10) ?_
        refine lv_iconst (v := 0) hx hb d_M_call_57 (by decide) ?_
        refine lv_iload_n hx hb d_M_call_58 rfl (lv_at hl 2 rfl) ?_
        obtain ⟨g11, h⟩ := gd_ob h
        obtain ⟨M12, eM12, h⟩ := st_ob h
        refine me_iast (eM12.trans (by rw [show (0 : Int32).toNatClampNeg = 0 by decide])) hx hb hK hP hD hwf hS hj9 (me_in (i := (0 : Int32)) (k := 0) (by decide) (by decide) (kp_c hkb.z hkp.z g11)) d_M_call_59 (fun H locs hP hD hwf hS => ?_)
        have hkp := kp_I eM12 hkp
        refine lv_aload_n hx hb d_M_call_60 rfl (lv_at hl 0 rfl) ?_
        refine lv_dup hx hb d_M_call_61 rfl ?_
        refine g_M_59 hx hb hts hown hK hP hwf hj0 (hts _ u_1800) d_M_call_62 ?_
        refine lv_iconst (v := 1) hx hb d_M_call_65 (by decide) ?_
        refine lv_iadd hx hb d_M_call_66 ?_
        obtain ⟨M13, eM13, h⟩ := st_ob h
        refine p_M_59 eM13 hx hb hts hown hK hP hD hwf hS hj0 (hts _ u_1800) d_M_call_67 (fun H locs hP hD hwf hS => ?_)
        have hkp := kp_I eM13 hkp
        refine lv_aload_n hx hb d_M_call_70 rfl (lv_at hl 0 rfl) ?_
        refine g_M_50 hx hb hts hown hK hP hwf hj0 (hts _ u_1791) d_M_call_71 ?_
        obtain ⟨j14, e15, h⟩ := bd_ob h
        have hj14 : j14 < N 13 := (hwf.2.1 1 j0 50 _ (kp_r hkb hkp e15) (by decide) hj0)
        refine me_opt (j := j14) (kp_r hkb hkp e15) ?_
        refine lv_iconst (v := 0) hx hb d_M_call_74 (by decide) ?_
        refine lv_aload_n hx hb d_M_call_75 rfl (lv_at hl 0 rfl) ?_
        refine g_M_59 hx hb hts hown hK hP hwf hj0 (hts _ u_1800) d_M_call_76 ?_
        obtain ⟨g16, h⟩ := gd_ob h
        obtain ⟨M17, eM17, h⟩ := st_ob h
        refine me_iast (eM17.trans (by rw [show (0 : Int32).toNatClampNeg = 0 by decide])) hx hb hK hP hD hwf hS hj14 (me_in (i := (0 : Int32)) (k := 0) (by decide) (by decide) (kp_c hkb.z hkp.z g16)) d_M_call_79 (fun H locs hP hD hwf hS => ?_)
        have hkp := kp_I eM17 hkp
        refine lv_goto (tgt := 117) hx hb d_M_call_80 (by decide) ?_
        refine lv_iconst (v := 0) hx hb d_M_call_117 (by decide) ?_
        exact me_reti (me_kp M0) h hx hb hr hlocks hwf hkp hP hK hD hS d_M_call_118
      have h := if_f c1 h
      refine lv_aload_n hx hb d_M_call_29 rfl (lv_at hl 0 rfl) ?_
      refine lv_iload hx hb d_M_call_30 (lv_at hl 3 rfl) ?_
      obtain ⟨M18, eM18, h⟩ := bd_ob h
      refine me_thenv0 (M1 := M18) (me_runV (C := "FilterGuardModel") (As := [.int y4]) (rest := []) ⟨hx, hb, hml, hown, hts⟩ (c_M_clear l D ad ca N M M18 j0 y4 eM18 hwf hj0 _) rfl (by show fg_nm y_M_clear 1; decide +kernel) u_2040 u_2042 u_91 u_192 u_2043 ⟨Nat.le_of_ble_eq_true rfl, Nat.le_of_ble_eq_true rfl⟩ hX hz hK hP hD hwf hS hA hj0 (by decide) rfl rfl rfl hl.1 (Nat.le_of_ble_eq_true rfl) d_M_call_32 ⟨Nat.le_of_ble_eq_true rfl, Nat.le_of_ble_eq_true rfl⟩) hP hD hK hS hA rfl rfl (fun H locs hw hP hD hS => ?_)
      obtain ⟨hwf, hk9⟩ := hw
      have hkp := hkp.tr hk9
      refine lv_iinc (v := y4 + 1) (lv' := [(4, .int (y4 + 1)), (0, .ref (ad 1 j0)), (1, .int x1), (3, .int y3)]) hx hb d_M_call_35 hl (k := 3) rfl (by rfl) (by decide) rfl (fun ls hl => ?_)
      refine lv_goto (tgt := 22) hx hb d_M_call_38 (by decide) ?_
      exact ih M18 y3 (y4 + 1) _ _ _ h hwf hkp hP hD hS (lv_sub hl [1, 2, 3, 0] rfl)
  refine lv_aload_n hx hb d_M_call_0 rfl (lv_at hl 0 rfl) ?_
  refine lv_iload_n hx hb d_M_call_1 rfl (lv_at hl 1 rfl) ?_
  obtain ⟨M19, r20, eM19, h⟩ := b2_ob h
  refine me_theni0 (M1 := M19) (me_runV (C := "FilterGuardModel") (As := [.int x1]) (rest := []) ⟨hx, hb, hml, hown, hts⟩ (c_M_callFault l D ad ca N M0 M19 r20 j0 x1 eM19 hwf hj0 _) rfl (by show fg_nm y_M_callFault 1; decide +kernel) u_2289 u_2291 u_144 u_192 u_2292 ⟨Nat.le_of_ble_eq_true rfl, Nat.le_of_ble_eq_true rfl⟩ hX hz hK hP hD hwf hS hA hj0 (by decide) rfl rfl rfl hl.1 (Nat.le_of_ble_eq_true rfl) d_M_call_2 ⟨Nat.le_of_ble_eq_true rfl, Nat.le_of_ble_eq_true rfl⟩) hP hD hK hS hA rfl rfl (fun H locs hw hP hD hS => ?_)
  obtain ⟨hwf, hk9⟩ := hw
  have hkp := hkp.tr hk9
  refine lv_istore_n (lv' := [(2, .int r20), (0, .ref (ad 1 j0)), (1, .int x1)]) hx hb d_M_call_5 rfl hl (by decide) rfl (fun ls hl => ?_)
  refine lv_iload_n hx hb d_M_call_6 rfl (lv_at hl 0 rfl) ?_
  refine lv_if_le (tgt := 12) hx hb d_M_call_7 (by decide) (fun c21 => ?_) (fun c21 => ?_)
  · have h := if_t c21 h
    refine lv_aload_n hx hb d_M_call_12 rfl (lv_at hl 1 rfl) ?_
    refine g_M_49 hx hb hts hown hK hP hwf hj0 (hts _ u_1790) d_M_call_13 ?_
    obtain ⟨j22, e23, h⟩ := bd_ob h
    have hj22 : j22 < N 13 := (hwf.2.1 1 j0 49 _ (kp_r hkb hkp e23) (by decide) hj0)
    refine me_opt (j := j22) (kp_r hkb hkp e23) ?_
    refine lv_iconst (v := 1) hx hb d_M_call_16 (by decide) ?_
    obtain ⟨g24, h⟩ := gd_ob h
    refine me_iald hx hb hK hP hwf hj22 (me_in (i := (1 : Int32)) (k := 1) (by decide) (by decide) (kp_c hkb.z hkp.z g24)) d_M_call_17 ?_
    refine fg_topi (y := mI M19 13 j22 1) (congrArg _ (by decide)) ?_
    obtain ⟨v25, ev25, h⟩ := st_ob h
    refine fg_topi (y := v25) ev25.symm ?_
    refine lv_istore_n (lv' := [(3, .int v25), (2, .int r20), (0, .ref (ad 1 j0)), (1, .int x1)]) hx hb d_M_call_18 rfl hl (by decide) rfl (fun ls hl => ?_)
    refine lv_iconst (v := 1) hx hb d_M_call_19 (by decide) ?_
    refine lv_istore (lv' := [(4, .int 1), (3, .int v25), (2, .int r20), (0, .ref (ad 1 j0)), (1, .int x1)]) hx hb d_M_call_20 hl (by decide) rfl (fun ls hl => ?_)
    exact b_22 _ M19 v25 (1 : Int32) _ _ _ h hwf hkp hP hD hS (lv_sub hl [3, 4, 1, 0] rfl)
  have h := if_f c21 h
  refine lv_iload_n hx hb d_M_call_10 rfl (lv_at hl 0 rfl) ?_
  exact me_reti (me_kp M0) h hx hb hr hlocks hwf hkp hP hK hD hS d_M_call_11
