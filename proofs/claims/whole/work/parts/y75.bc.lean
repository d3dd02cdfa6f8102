theorem d_M_isMap_0 : decode prog_14_method_119_code 0 = .ok (.iload_n 1, 1) := by decide +kernel
theorem d_M_isMap_1 : decode prog_14_method_119_code 1 = .ok (.ifCond .lt 15, 3) := by decide +kernel
theorem d_M_isMap_16 : decode prog_14_method_119_code 16 = .ok (.iconst 0, 1) := by decide +kernel
theorem d_M_isMap_17 : decode prog_14_method_119_code 17 = .ok (.ireturn, 1) := by decide +kernel
theorem d_M_isMap_4 : decode prog_14_method_119_code 4 = .ok (.iload_n 1, 1) := by decide +kernel
theorem d_M_isMap_5 : decode prog_14_method_119_code 5 = .ok (.aload_n 0, 1) := by decide +kernel
theorem d_M_isMap_6 : decode prog_14_method_119_code 6 = .ok (.getfield 348, 3) := by decide +kernel
theorem d_M_isMap_9 : decode prog_14_method_119_code 9 = .ok (.if_icmp .ge 7, 3) := by decide +kernel
theorem d_M_isMap_12 : decode prog_14_method_119_code 12 = .ok (.iconst 1, 1) := by decide +kernel
theorem d_M_isMap_13 : decode prog_14_method_119_code 13 = .ok (.goto 4, 3) := by decide +kernel
abbrev y_M_isMap : MethodName := ⟨"FilterGuardModel", "isMap", "(I)Z"⟩
def rm_M_isMap : Room := { frames := 1, cells := 0, slots := 0, locals := 20 }
abbrev q_M_isMap (D : va_G) (ad : Nat → Nat → Nat) (ca : Nat → ClassId) (N : Nat → Nat) (M0 MZ : me_M) (RZ : Int32) (A : Nat → Prop) : Array Value → Jvm.State → Outcome → Jvm.State → Prop := va_Qi (fun r (_ : Unit) => r = RZ ∧ me_wf N MZ ∧ me_kp M0 MZ ∧ (RZ = 1 ∨ RZ = 0)) (fg_B D A (fun _ => me_W ad ca MZ) (fun _ => [])) A
set_option maxHeartbeats 4000000 in
set_option maxRecDepth 100000 in
theorem c_M_isMap (l : Launch) (D : va_G) (ad : Nat → Nat → Nat) (ca : Nat → ClassId) (N : Nat → Nat) (M0 MZ : me_M) (RZ : Int32) (j0 : Nat) (x1 : Int32) (h : f_M_isMap M0 j0 x1 = (some (MZ, RZ))) (hwf : me_wf N M0) (hj0 : j0 < N 1) (sz : Nat) : Met l y_M_isMap (fg_w y_M_isMap prog_14_method_119_code 2 (some .boolean)) rm_M_isMap (va_Pc [.ref (ad 1 j0), .int x1] (fz_P D (me_T ca) (me_W ad ca M0) sz)) (q_M_isMap D ad ca N M0 MZ RZ (va_A (me_W ad ca M0) sz)) rm_M_isMap.cells rm_M_isMap.slots (va_A (me_W ad ca M0) sz) := by
  refine fz_enter (fun A => q_M_isMap D ad ca N M0 MZ RZ A) (by decide +kernel) (Nat.le_of_ble_eq_true rfl) ?_
  intro p e s m below meth c ls A hx hb hml hown hts hr hlocks hin hP hK hD hS hA hX hl hz
  have hl : lv_has ls 2 [(0, .ref (ad 1 j0)), (1, .int x1)] := hl
  unfold f_M_isMap at h
  have hkp : me_kp M0 M0 := me_kp.rf
  have hkb := hkp
  refine lv_iload_n hx hb d_M_isMap_0 rfl (lv_at hl 1 rfl) ?_
  refine lv_if_lt (tgt := 16) hx hb d_M_isMap_1 (by decide) (fun c1 => ?_) (fun c1 => ?_)
  · have h := if_t c1 h
    refine lv_iconst (v := 0) hx hb d_M_isMap_16 (by decide) ?_
    exact me_retz (me_kp M0) h (by decide) hx hb hr hlocks hwf hkp hP hK hD hS d_M_isMap_17
  have h := if_f c1 h
  refine lv_iload_n hx hb d_M_isMap_4 rfl (lv_at hl 1 rfl) ?_
  refine lv_aload_n hx hb d_M_isMap_5 rfl (lv_at hl 0 rfl) ?_
  refine g_M_3 hx hb hts hown hK hP hwf hj0 (hts _ u_1744) d_M_isMap_6 ?_
  refine lv_icmp_ge (tgt := 16) hx hb d_M_isMap_9 (by decide) (fun c2 => ?_) (fun c2 => ?_)
  · have h := if_t c2 h
    refine lv_iconst (v := 0) hx hb d_M_isMap_16 (by decide) ?_
    exact me_retz (me_kp M0) h (by decide) hx hb hr hlocks hwf hkp hP hK hD hS d_M_isMap_17
  have h := if_f c2 h
  refine lv_iconst (v := 1) hx hb d_M_isMap_12 (by decide) ?_
  refine lv_goto (tgt := 17) hx hb d_M_isMap_13 (by decide) ?_
  exact me_retz (me_kp M0) h (by decide) hx hb hr hlocks hwf hkp hP hK hD hS d_M_isMap_17
theorem d_M_put_114 : decode prog_14_method_120_code 114 = .ok (.iload_n 3, 1) := by decide +kernel
theorem d_M_put_115 : decode prog_14_method_120_code 115 = .ok (.aload_n 0, 1) := by decide +kernel
theorem d_M_put_116 : decode prog_14_method_120_code 116 = .ok (.getfield 21, 3) := by decide +kernel
theorem d_M_put_119 : decode prog_14_method_120_code 119 = .ok (.iload_n 1, 1) := by decide +kernel
theorem d_M_put_120 : decode prog_14_method_120_code 120 = .ok (.iaload, 1) := by decide +kernel
theorem d_M_put_121 : decode prog_14_method_120_code 121 = .ok (.if_icmp .ge 28, 3) := by decide +kernel
theorem d_M_put_149 : decode prog_14_method_120_code 149 = .ok (.aload_n 0, 1) := by decide +kernel
theorem d_M_put_150 : decode prog_14_method_120_code 150 = .ok (.iload_n 1, 1) := by decide +kernel
theorem d_M_put_151 : decode prog_14_method_120_code 151 = .ok (.invokevirtual 619, 3) := by decide +kernel
theorem u_2431 : Cond.methodLink "FilterGuardModel" 619 ⟨"FilterGuardModel", "update", "(I)I"⟩ ∈ fg_g := fg_in (List.mem_of_getElem? (i := 2431) (by decide +kernel)) rfl
theorem u_2434 : Cond.code ⟨"FilterGuardModel", "update", "(I)I"⟩ prog_14_method_117_code 4 (some .int) ∈ fg_g := fg_in (List.mem_of_getElem? (i := 2434) (by decide +kernel)) rfl
theorem u_2433 : Cond.instanceMethod ⟨"FilterGuardModel", "update", "(I)I"⟩ ∈ fg_g := fg_in (List.mem_of_getElem? (i := 2433) (by decide +kernel)) rfl
theorem u_168 : Cond.selects "FilterGuardModel" ⟨"FilterGuardModel", "update", "(I)I"⟩ ⟨"FilterGuardModel", "update", "(I)I"⟩ ∈ fg_g := fg_in (List.mem_of_getElem? (i := 168) (by decide +kernel)) rfl
theorem d_M_put_154 : decode prog_14_method_120_code 154 = .ok (.ireturn, 1) := by decide +kernel
theorem d_M_put_124 : decode prog_14_method_120_code 124 = .ok (.aload_n 0, 1) := by decide +kernel
theorem d_M_put_125 : decode prog_14_method_120_code 125 = .ok (.getfield 86, 3) := by decide +kernel
theorem d_M_put_128 : decode prog_14_method_120_code 128 = .ok (.iload_n 3, 1) := by decide +kernel
theorem d_M_put_129 : decode prog_14_method_120_code 129 = .ok (.aload_n 0, 1) := by decide +kernel
theorem d_M_put_130 : decode prog_14_method_120_code 130 = .ok (.getfield 10, 3) := by decide +kernel
theorem d_M_put_133 : decode prog_14_method_120_code 133 = .ok (.aload_n 0, 1) := by decide +kernel
theorem d_M_put_134 : decode prog_14_method_120_code 134 = .ok (.getfield 18, 3) := by decide +kernel
theorem d_M_put_137 : decode prog_14_method_120_code 137 = .ok (.iload_n 1, 1) := by decide +kernel
theorem d_M_put_138 : decode prog_14_method_120_code 138 = .ok (.iaload, 1) := by decide +kernel
theorem d_M_put_139 : decode prog_14_method_120_code 139 = .ok (.iload_n 3, 1) := by decide +kernel
theorem d_M_put_140 : decode prog_14_method_120_code 140 = .ok (.iadd, 1) := by decide +kernel
theorem d_M_put_141 : decode prog_14_method_120_code 141 = .ok (.baload, 1) := by decide +kernel
theorem d_M_put_142 : decode prog_14_method_120_code 142 = .ok (.bastore, 1) := by decide +kernel
theorem d_M_put_143 : decode prog_14_method_120_code 143 = .ok (.iinc 3 1, 3) := by decide +kernel
theorem d_M_put_146 : decode prog_14_method_120_code 146 = .ok (.goto (-32), 3) := by decide +kernel
theorem d_M_put_84 : decode prog_14_method_120_code 84 = .ok (.iload_n 3, 1) := by decide +kernel
theorem d_M_put_85 : decode prog_14_method_120_code 85 = .ok (.aload_n 0, 1) := by decide +kernel
theorem d_M_put_86 : decode prog_14_method_120_code 86 = .ok (.getfield 18, 3) := by decide +kernel
theorem d_M_put_89 : decode prog_14_method_120_code 89 = .ok (.iload_n 1, 1) := by decide +kernel
theorem d_M_put_90 : decode prog_14_method_120_code 90 = .ok (.iaload, 1) := by decide +kernel
theorem d_M_put_91 : decode prog_14_method_120_code 91 = .ok (.if_icmp .ge 21, 3) := by decide +kernel
theorem d_M_put_112 : decode prog_14_method_120_code 112 = .ok (.iconst 0, 1) := by decide +kernel
theorem d_M_put_113 : decode prog_14_method_120_code 113 = .ok (.istore_n 3, 1) := by decide +kernel
theorem d_M_put_94 : decode prog_14_method_120_code 94 = .ok (.aload_n 0, 1) := by decide +kernel
theorem d_M_put_95 : decode prog_14_method_120_code 95 = .ok (.getfield 83, 3) := by decide +kernel
theorem d_M_put_98 : decode prog_14_method_120_code 98 = .ok (.iload_n 3, 1) := by decide +kernel
theorem d_M_put_99 : decode prog_14_method_120_code 99 = .ok (.aload_n 0, 1) := by decide +kernel
theorem d_M_put_100 : decode prog_14_method_120_code 100 = .ok (.getfield 10, 3) := by decide +kernel
theorem d_M_put_103 : decode prog_14_method_120_code 103 = .ok (.iload_n 3, 1) := by decide +kernel
theorem d_M_put_104 : decode prog_14_method_120_code 104 = .ok (.baload, 1) := by decide +kernel
theorem d_M_put_105 : decode prog_14_method_120_code 105 = .ok (.bastore, 1) := by decide +kernel
theorem d_M_put_106 : decode prog_14_method_120_code 106 = .ok (.iinc 3 1, 3) := by decide +kernel
theorem d_M_put_109 : decode prog_14_method_120_code 109 = .ok (.goto (-25), 3) := by decide +kernel
theorem d_M_put_57 : decode prog_14_method_120_code 57 = .ok (.istore_n 2, 1) := by decide +kernel
theorem d_M_put_58 : decode prog_14_method_120_code 58 = .ok (.aload_n 0, 1) := by decide +kernel
theorem d_M_put_59 : decode prog_14_method_120_code 59 = .ok (.iload_n 2, 1) := by decide +kernel
theorem d_M_put_60 : decode prog_14_method_120_code 60 = .ok (.ifCond .eq 7, 3) := by decide +kernel
theorem d_M_put_67 : decode prog_14_method_120_code 67 = .ok (.iconst 1, 1) := by decide +kernel
theorem d_M_put_68 : decode prog_14_method_120_code 68 = .ok (.putfield 152, 3) := by decide +kernel
theorem d_M_put_71 : decode prog_14_method_120_code 71 = .ok (.aload_n 0, 1) := by decide +kernel
theorem d_M_put_72 : decode prog_14_method_120_code 72 = .ok (.iconst 0, 1) := by decide +kernel
theorem d_M_put_73 : decode prog_14_method_120_code 73 = .ok (.putfield 566, 3) := by decide +kernel
theorem d_M_put_76 : decode prog_14_method_120_code 76 = .ok (.iload_n 2, 1) := by decide +kernel
theorem d_M_put_77 : decode prog_14_method_120_code 77 = .ok (.ifCond .ne 5, 3) := by decide +kernel
theorem d_M_put_82 : decode prog_14_method_120_code 82 = .ok (.iconst 0, 1) := by decide +kernel
theorem d_M_put_83 : decode prog_14_method_120_code 83 = .ok (.istore_n 3, 1) := by decide +kernel
theorem d_M_put_80 : decode prog_14_method_120_code 80 = .ok (.iconst 0, 1) := by decide +kernel
theorem d_M_put_81 : decode prog_14_method_120_code 81 = .ok (.ireturn, 1) := by decide +kernel
theorem d_M_put_63 : decode prog_14_method_120_code 63 = .ok (.iconst 0, 1) := by decide +kernel
theorem d_M_put_64 : decode prog_14_method_120_code 64 = .ok (.goto 4, 3) := by decide +kernel
theorem d_M_put_56 : decode prog_14_method_120_code 56 = .ok (.iconst 0, 1) := by decide +kernel
theorem d_M_put_47 : decode prog_14_method_120_code 47 = .ok (.iaload, 1) := by decide +kernel
theorem d_M_put_48 : decode prog_14_method_120_code 48 = .ok (.iadd, 1) := by decide +kernel
theorem d_M_put_49 : decode prog_14_method_120_code 49 = .ok (.if_icmp .lt 7, 3) := by decide +kernel
theorem d_M_put_52 : decode prog_14_method_120_code 52 = .ok (.iconst 1, 1) := by decide +kernel
theorem d_M_put_53 : decode prog_14_method_120_code 53 = .ok (.goto 4, 3) := by decide +kernel
theorem d_M_put_29 : decode prog_14_method_120_code 29 = .ok (.iaload, 1) := by decide +kernel
theorem d_M_put_30 : decode prog_14_method_120_code 30 = .ok (.aload_n 0, 1) := by decide +kernel
theorem d_M_put_31 : decode prog_14_method_120_code 31 = .ok (.getfield 21, 3) := by decide +kernel
theorem d_M_put_34 : decode prog_14_method_120_code 34 = .ok (.aload_n 0, 1) := by decide +kernel
theorem d_M_put_35 : decode prog_14_method_120_code 35 = .ok (.iload_n 1, 1) := by decide +kernel
theorem d_M_put_36 : decode prog_14_method_120_code 36 = .ok (.invokevirtual 616, 3) := by decide +kernel
theorem u_2427 : Cond.methodLink "FilterGuardModel" 616 ⟨"FilterGuardModel", "isMap", "(I)Z"⟩ ∈ fg_g := fg_in (List.mem_of_getElem? (i := 2427) (by decide +kernel)) rfl
theorem u_2430 : Cond.code ⟨"FilterGuardModel", "isMap", "(I)Z"⟩ prog_14_method_119_code 2 (some .boolean) ∈ fg_g := fg_in (List.mem_of_getElem? (i := 2430) (by decide +kernel)) rfl
theorem u_2429 : Cond.instanceMethod ⟨"FilterGuardModel", "isMap", "(I)Z"⟩ ∈ fg_g := fg_in (List.mem_of_getElem? (i := 2429) (by decide +kernel)) rfl
theorem u_167 : Cond.selects "FilterGuardModel" ⟨"FilterGuardModel", "isMap", "(I)Z"⟩ ⟨"FilterGuardModel", "isMap", "(I)Z"⟩ ∈ fg_g := fg_in (List.mem_of_getElem? (i := 167) (by decide +kernel)) rfl
theorem d_M_put_39 : decode prog_14_method_120_code 39 = .ok (.ifCond .eq 7, 3) := by decide +kernel
theorem d_M_put_46 : decode prog_14_method_120_code 46 = .ok (.iconst 0, 1) := by decide +kernel
theorem d_M_put_42 : decode prog_14_method_120_code 42 = .ok (.iload_n 1, 1) := by decide +kernel
theorem d_M_put_43 : decode prog_14_method_120_code 43 = .ok (.goto 4, 3) := by decide +kernel
theorem d_M_put_0 : decode prog_14_method_120_code 0 = .ok (.aload_n 0, 1) := by decide +kernel
theorem d_M_put_1 : decode prog_14_method_120_code 1 = .ok (.iload_n 1, 1) := by decide +kernel
theorem d_M_put_2 : decode prog_14_method_120_code 2 = .ok (.invokevirtual 616, 3) := by decide +kernel
theorem d_M_put_5 : decode prog_14_method_120_code 5 = .ok (.ifCond .eq 51, 3) := by decide +kernel
theorem d_M_put_8 : decode prog_14_method_120_code 8 = .ok (.aload_n 0, 1) := by decide +kernel
theorem d_M_put_9 : decode prog_14_method_120_code 9 = .ok (.getfield 566, 3) := by decide +kernel
theorem d_M_put_12 : decode prog_14_method_120_code 12 = .ok (.aload_n 0, 1) := by decide +kernel
theorem d_M_put_13 : decode prog_14_method_120_code 13 = .ok (.getfield 18, 3) := by decide +kernel
theorem d_M_put_16 : decode prog_14_method_120_code 16 = .ok (.aload_n 0, 1) := by decide +kernel
theorem d_M_put_17 : decode prog_14_method_120_code 17 = .ok (.iload_n 1, 1) := by decide +kernel
theorem d_M_put_18 : decode prog_14_method_120_code 18 = .ok (.invokevirtual 616, 3) := by decide +kernel
theorem d_M_put_21 : decode prog_14_method_120_code 21 = .ok (.ifCond .eq 7, 3) := by decide +kernel
theorem d_M_put_28 : decode prog_14_method_120_code 28 = .ok (.iconst 0, 1) := by decide +kernel
theorem d_M_put_24 : decode prog_14_method_120_code 24 = .ok (.iload_n 1, 1) := by decide +kernel
theorem d_M_put_25 : decode prog_14_method_120_code 25 = .ok (.goto 4, 3) := by decide +kernel
abbrev y_M_put : MethodName := ⟨"FilterGuardModel", "put", "(I)I"⟩
def rm_M_put : Room := { frames := 3, cells := 0, slots := 0, locals := 68 }
abbrev q_M_put (D : va_G) (ad : Nat → Nat → Nat) (ca : Nat → ClassId) (N : Nat → Nat) (M0 MZ : me_M) (RZ : Int32) (A : Nat → Prop) : Array Value → Jvm.State → Outcome → Jvm.State → Prop := va_Qi (fun r (_ : Unit) => r = RZ ∧ me_wf N MZ ∧ me_kp M0 MZ) (fg_B D A (fun _ => me_W ad ca MZ) (fun _ => [])) A
set_option maxHeartbeats 4000000 in
set_option maxRecDepth 100000 in
theorem c_M_put (l : Launch) (D : va_G) (ad : Nat → Nat → Nat) (ca : Nat → ClassId) (N : Nat → Nat) (M0 MZ : me_M) (RZ : Int32) (j0 : Nat) (x1 : Int32) (h : f_M_put M0 j0 x1 = (some (MZ, RZ))) (hwf : me_wf N M0) (hj0 : j0 < N 1) (sz : Nat) : Met l y_M_put (fg_w y_M_put prog_14_method_120_code 4 (some .int)) rm_M_put (va_Pc [.ref (ad 1 j0), .int x1] (fz_P D (me_T ca) (me_W ad ca M0) sz)) (q_M_put D ad ca N M0 MZ RZ (va_A (me_W ad ca M0) sz)) rm_M_put.cells rm_M_put.slots (va_A (me_W ad ca M0) sz) := by
  refine fz_enter (fun A => q_M_put D ad ca N M0 MZ RZ A) (by decide +kernel) (Nat.le_of_ble_eq_true rfl) ?_
  intro p e s m below meth c ls A hx hb hml hown hts hr hlocks hin hP hK hD hS hA hX hl hz
  have hl : lv_has ls 4 [(0, .ref (ad 1 j0)), (1, .int x1)] := hl
  unfold f_M_put at h
  have hkp : me_kp M0 M0 := me_kp.rf
  have hkb := hkp
  have b_114 : ∀ (fu : Nat), ∀ (M : me_M) (y3 : Int32) (H : Heap) (locs : List Loc) (ls : Array Slot), f_M_put_l114 j0 x1 fu M y3 = (some (MZ, RZ)) → me_wf N M → me_kp M0 M → va_P D classes (me_W ad ca M) H → va_D A (me_W ad ca M) → va_S A s.heap H locs → lv_has ls 4 [(0, .ref (ad 1 j0)), (1, .int x1), (3, .int y3)] → W p l e rm_M_put s m [.ref (ad 1 j0), .int x1].toArray below meth c H locs 0 0 (MQ below (q_M_put D ad ca N M0 MZ RZ A) [.ref (ad 1 j0), .int x1].toArray s rm_M_put.cells rm_M_put.slots A) (F0 m 114 ls []) := by
    intro fu
    induction fu with
    | zero =>
      intro M y3 H locs ls h hwf hkp hP hD hS hl
      cases h
    | succ fu ih =>
      intro M y3 H locs ls h hwf hkp hP hD hS hl
      unfold f_M_put_l114 at h
      have hkb := hkp
      refine lv_iload_n hx hb d_M_put_114 rfl (lv_at hl 2 rfl) ?_
      refine lv_aload_n hx hb d_M_put_115 rfl (lv_at hl 0 rfl) ?_
      refine g_M_7 hx hb hts hown hK hP hwf hj0 (hts _ u_1748) d_M_put_116 ?_
      obtain ⟨j1, e2, h⟩ := bd_ob h
      have hj1 : j1 < N 13 := (hwf.2.1 1 j0 7 _ e2 (by decide) hj0)
      refine me_opt (j := j1) e2 ?_
      refine lv_iload_n hx hb d_M_put_119 rfl (lv_at hl 1 rfl) ?_
      obtain ⟨g3, h⟩ := gd_ob h
      refine me_iald hx hb hK hP hwf hj1 g3 d_M_put_120 ?_
      refine lv_icmp_ge (tgt := 149) hx hb d_M_put_121 (by decide) (fun c4 => ?_) (fun c4 => ?_)
      · have h := if_t c4 h
        refine lv_aload_n hx hb d_M_put_149 rfl (lv_at hl 0 rfl) ?_
        refine lv_iload_n hx hb d_M_put_150 rfl (lv_at hl 1 rfl) ?_
        obtain ⟨M5, r6, eM5, h⟩ := b2_ob h
        refine me_theni0 (M1 := M5) (me_runV (C := "FilterGuardModel") (As := [.int x1]) (rest := []) ⟨hx, hb, hml, hown, hts⟩ (c_M_update l D ad ca N M M5 r6 j0 x1 eM5 hwf hj0 _) rfl (by show fg_nm y_M_update 1; decide +kernel) u_2431 u_2433 u_168 u_192 u_2434 ⟨Nat.le_of_ble_eq_true rfl, Nat.le_of_ble_eq_true rfl⟩ hX hz hK hP hD hwf hS hA hj0 (by decide) rfl rfl rfl hl.1 (Nat.le_of_ble_eq_true rfl) d_M_put_151 ⟨Nat.le_of_ble_eq_true rfl, Nat.le_of_ble_eq_true rfl⟩) hP hD hK hS hA rfl rfl (fun H locs hw hP hD hS => ?_)
        obtain ⟨hwf, hk9⟩ := hw
        have hkp := hkp.tr hk9
        exact me_reti (me_kp M0) h hx hb hr hlocks hwf hkp hP hK hD hS d_M_put_154
      have h := if_f c4 h
      refine lv_aload_n hx hb d_M_put_124 rfl (lv_at hl 0 rfl) ?_
      refine g_M_46 hx hb hts hown hK hP hwf hj0 (hts _ u_1787) d_M_put_125 ?_
      obtain ⟨j7, e8, h⟩ := bd_ob h
      have hj7 : j7 < N 14 := (hwf.2.1 1 j0 46 _ e8 (by decide) hj0)
      refine me_opt (j := j7) e8 ?_
      refine lv_iload_n hx hb d_M_put_128 rfl (lv_at hl 2 rfl) ?_
      refine lv_aload_n hx hb d_M_put_129 rfl (lv_at hl 0 rfl) ?_
      refine g_M_1 hx hb hts hown hK hP hwf hj0 (hts _ u_1742) d_M_put_130 ?_
      obtain ⟨j9, e10, h⟩ := bd_ob h
      have hj9 : j9 < N 14 := (hwf.2.1 1 j0 1 _ e10 (by decide) hj0)
      refine me_opt (j := j9) e10 ?_
      refine lv_aload_n hx hb d_M_put_133 rfl (lv_at hl 0 rfl) ?_
      refine g_M_6 hx hb hts hown hK hP hwf hj0 (hts _ u_1747) d_M_put_134 ?_
      obtain ⟨j11, e12, h⟩ := bd_ob h
      have hj11 : j11 < N 13 := (hwf.2.1 1 j0 6 _ e12 (by decide) hj0)
      refine me_opt (j := j11) e12 ?_
      refine lv_iload_n hx hb d_M_put_137 rfl (lv_at hl 1 rfl) ?_
      obtain ⟨g13, h⟩ := gd_ob h
      refine me_iald hx hb hK hP hwf hj11 g13 d_M_put_138 ?_
      refine lv_iload_n hx hb d_M_put_139 rfl (lv_at hl 2 rfl) ?_
      refine lv_iadd hx hb d_M_put_140 ?_
      obtain ⟨g14, h⟩ := gd_ob h
      refine me_bald hx hb hK hP hwf hj9 g14 d_M_put_141 ?_
      obtain ⟨g15, h⟩ := gd_ob h
      obtain ⟨M16, eM16, h⟩ := st_ob h
      refine me_bast eM16 hx hb hK hP hD hwf hS hj7 g15 d_M_put_142 (fun H locs hP hD hwf hS => ?_)
      have hkp := kp_I eM16 hkp
      refine lv_iinc (v := y3 + 1) (lv' := [(3, .int (y3 + 1)), (0, .ref (ad 1 j0)), (1, .int x1)]) hx hb d_M_put_143 hl (k := 2) rfl (by rfl) (by decide) rfl (fun ls hl => ?_)
      refine lv_goto (tgt := 114) hx hb d_M_put_146 (by decide) ?_
      exact ih M16 (y3 + 1) _ _ _ h hwf hkp hP hD hS (lv_sub hl [1, 2, 0] rfl)
  have b_84 : ∀ (fu : Nat), ∀ (M : me_M) (y3 : Int32) (H : Heap) (locs : List Loc) (ls : Array Slot), f_M_put_l84 j0 x1 fu M y3 = (some (MZ, RZ)) → me_wf N M → me_kp M0 M → va_P D classes (me_W ad ca M) H → va_D A (me_W ad ca M) → va_S A s.heap H locs → lv_has ls 4 [(0, .ref (ad 1 j0)), (1, .int x1), (3, .int y3)] → W p l e rm_M_put s m [.ref (ad 1 j0), .int x1].toArray below meth c H locs 0 0 (MQ below (q_M_put D ad ca N M0 MZ RZ A) [.ref (ad 1 j0), .int x1].toArray s rm_M_put.cells rm_M_put.slots A) (F0 m 84 ls []) := by
    intro fu
    induction fu with
    | zero =>
      intro M y3 H locs ls h hwf hkp hP hD hS hl
      cases h
    | succ fu ih =>
      intro M y3 H locs ls h hwf hkp hP hD hS hl
      unfold f_M_put_l84 at h
      have hkb := hkp
      refine lv_iload_n hx hb d_M_put_84 rfl (lv_at hl 2 rfl) ?_
      refine lv_aload_n hx hb d_M_put_85 rfl (lv_at hl 0 rfl) ?_
      refine g_M_6 hx hb hts hown hK hP hwf hj0 (hts _ u_1747) d_M_put_86 ?_
      obtain ⟨j17, e18, h⟩ := bd_ob h
      have hj17 : j17 < N 13 := (hwf.2.1 1 j0 6 _ e18 (by decide) hj0)
      refine me_opt (j := j17) e18 ?_
      refine lv_iload_n hx hb d_M_put_89 rfl (lv_at hl 1 rfl) ?_
      obtain ⟨g19, h⟩ := gd_ob h
      refine me_iald hx hb hK hP hwf hj17 g19 d_M_put_90 ?_
      refine lv_icmp_ge (tgt := 112) hx hb d_M_put_91 (by decide) (fun c20 => ?_) (fun c20 => ?_)
      · have h := if_t c20 h
        refine lv_iconst (v := 0) hx hb d_M_put_112 (by decide) ?_
        refine lv_istore_n (lv' := [(3, .int 0), (0, .ref (ad 1 j0)), (1, .int x1)]) hx hb d_M_put_113 rfl hl (by decide) rfl (fun ls hl => ?_)
        exact b_114 _ M (0 : Int32) _ _ _ h hwf hkp hP hD hS (lv_sub hl [1, 2, 0] rfl)
      have h := if_f c20 h
      refine lv_aload_n hx hb d_M_put_94 rfl (lv_at hl 0 rfl) ?_
      refine g_M_45 hx hb hts hown hK hP hwf hj0 (hts _ u_1786) d_M_put_95 ?_
      obtain ⟨j21, e22, h⟩ := bd_ob h
      have hj21 : j21 < N 14 := (hwf.2.1 1 j0 45 _ e22 (by decide) hj0)
      refine me_opt (j := j21) e22 ?_
      refine lv_iload_n hx hb d_M_put_98 rfl (lv_at hl 2 rfl) ?_
      refine lv_aload_n hx hb d_M_put_99 rfl (lv_at hl 0 rfl) ?_
      refine g_M_1 hx hb hts hown hK hP hwf hj0 (hts _ u_1742) d_M_put_100 ?_
      obtain ⟨j23, e24, h⟩ := bd_ob h
      have hj23 : j23 < N 14 := (hwf.2.1 1 j0 1 _ e24 (by decide) hj0)
      refine me_opt (j := j23) e24 ?_
      refine lv_iload_n hx hb d_M_put_103 rfl (lv_at hl 2 rfl) ?_
      obtain ⟨g25, h⟩ := gd_ob h
      refine me_bald hx hb hK hP hwf hj23 g25 d_M_put_104 ?_
      obtain ⟨g26, h⟩ := gd_ob h
      obtain ⟨M27, eM27, h⟩ := st_ob h
      refine me_bast eM27 hx hb hK hP hD hwf hS hj21 g26 d_M_put_105 (fun H locs hP hD hwf hS => ?_)
      have hkp := kp_I eM27 hkp
      refine lv_iinc (v := y3 + 1) (lv' := [(3, .int (y3 + 1)), (0, .ref (ad 1 j0)), (1, .int x1)]) hx hb d_M_put_106 hl (k := 2) rfl (by rfl) (by decide) rfl (fun ls hl => ?_)
      refine lv_goto (tgt := 84) hx hb d_M_put_109 (by decide) ?_
      exact ih M27 (y3 + 1) _ _ _ h hwf hkp hP hD hS (lv_sub hl [1, 2, 0] rfl)
  have b_57 : ∀ (M : me_M) (s0 : Int32) (H : Heap) (locs : List Loc) (ls : Array Slot), f_M_put_b57 j0 x1 M s0 = (some (MZ, RZ)) → (s0 = 1 ∨ s0 = 0) → me_wf N M → me_kp M0 M → va_P D classes (me_W ad ca M) H → va_D A (me_W ad ca M) → va_S A s.heap H locs → lv_has ls 4 [(0, .ref (ad 1 j0)), (1, .int x1)] → W p l e rm_M_put s m [.ref (ad 1 j0), .int x1].toArray below meth c H locs 0 0 (MQ below (q_M_put D ad ca N M0 MZ RZ A) [.ref (ad 1 j0), .int x1].toArray s rm_M_put.cells rm_M_put.slots A) (F0 m 57 ls [.int s0]) := by
    intro M s0 H locs ls h zs0 hwf hkp hP hD hS hl
    unfold f_M_put_b57 at h
    have hkb := hkp
    refine lv_istore_n (lv' := [(2, .int s0), (0, .ref (ad 1 j0)), (1, .int x1)]) hx hb d_M_put_57 rfl hl (by decide) rfl (fun ls hl => ?_)
    refine lv_aload_n hx hb d_M_put_58 rfl (lv_at hl 1 rfl) ?_
    refine lv_iload_n hx hb d_M_put_59 rfl (lv_at hl 0 rfl) ?_
    refine lv_if_eq (tgt := 67) hx hb d_M_put_60 (by decide) (fun c28 => ?_) (fun c28 => ?_)
    · have h := if_t c28 h
      refine lv_iconst (v := 1) hx hb d_M_put_67 (by decide) ?_
      obtain ⟨M29, eM29, h⟩ := st_ob h
      refine p_M_0 eM29 hx hb hts hown hK hP hD hwf hS hj0 (hts _ u_1741) d_M_put_68 (fun H locs hP hD hwf hS => ?_)
      have hkp := kp_I eM29 hkp
      refine lv_aload_n hx hb d_M_put_71 rfl (lv_at hl 1 rfl) ?_
      refine lv_iconst (v := 0) hx hb d_M_put_72 (by decide) ?_
      obtain ⟨M30, eM30, h⟩ := st_ob h
      refine p_M_2 eM30 hx hb hts hown hK hP hD hwf hS hj0 (hts _ u_1743) d_M_put_73 (fun H locs hP hD hwf hS => ?_)
      have hkp := kp_I eM30 hkp
      refine lv_iload_n hx hb d_M_put_76 rfl (lv_at hl 0 rfl) ?_
      refine lv_if_ne (tgt := 82) hx hb d_M_put_77 (by decide) (fun c31 => ?_) (fun c31 => ?_)
      · have h := if_f c31 h
        refine lv_iconst (v := 0) hx hb d_M_put_82 (by decide) ?_
        refine lv_istore_n (lv' := [(3, .int 0), (2, .int s0), (0, .ref (ad 1 j0)), (1, .int x1)]) hx hb d_M_put_83 rfl hl (by decide) rfl (fun ls hl => ?_)
        exact b_84 _ M30 (0 : Int32) _ _ _ h hwf hkp hP hD hS (lv_sub hl [2, 3, 0] rfl)
      have h := if_t c31 h
      refine lv_iconst (v := 0) hx hb d_M_put_80 (by decide) ?_
      exact me_reti (me_kp M0) h hx hb hr hlocks hwf hkp hP hK hD hS d_M_put_81
    have h := if_f c28 h
    refine lv_iconst (v := 0) hx hb d_M_put_63 (by decide) ?_
    refine lv_goto (tgt := 68) hx hb d_M_put_64 (by decide) ?_
    obtain ⟨M32, eM32, h⟩ := st_ob h
    refine p_M_0 eM32 hx hb hts hown hK hP hD hwf hS hj0 (hts _ u_1741) d_M_put_68 (fun H locs hP hD hwf hS => ?_)
    have hkp := kp_I eM32 hkp
    refine lv_aload_n hx hb d_M_put_71 rfl (lv_at hl 1 rfl) ?_
    refine lv_iconst (v := 0) hx hb d_M_put_72 (by decide) ?_
    obtain ⟨M33, eM33, h⟩ := st_ob h
    refine p_M_2 eM33 hx hb hts hown hK hP hD hwf hS hj0 (hts _ u_1743) d_M_put_73 (fun H locs hP hD hwf hS => ?_)
    have hkp := kp_I eM33 hkp
    refine lv_iload_n hx hb d_M_put_76 rfl (lv_at hl 0 rfl) ?_
    refine lv_if_ne (tgt := 82) hx hb d_M_put_77 (by decide) (fun c34 => ?_) (fun c34 => ?_)
    · have h := if_f c34 h
      refine lv_iconst (v := 0) hx hb d_M_put_82 (by decide) ?_
      refine lv_istore_n (lv' := [(3, .int 0), (2, .int s0), (0, .ref (ad 1 j0)), (1, .int x1)]) hx hb d_M_put_83 rfl hl (by decide) rfl (fun ls hl => ?_)
      exact b_84 _ M33 (0 : Int32) _ _ _ h hwf hkp hP hD hS (lv_sub hl [2, 3, 0] rfl)
    have h := if_t c34 h
    refine lv_iconst (v := 0) hx hb d_M_put_80 (by decide) ?_
    exact me_reti (me_kp M0) h hx hb hr hlocks hwf hkp hP hK hD hS d_M_put_81
  have b_56 : ∀ (M : me_M) (H : Heap) (locs : List Loc) (ls : Array Slot), f_M_put_b56 j0 x1 M = (some (MZ, RZ)) → me_wf N M → me_kp M0 M → va_P D classes (me_W ad ca M) H → va_D A (me_W ad ca M) → va_S A s.heap H locs → lv_has ls 4 [(0, .ref (ad 1 j0)), (1, .int x1)] → W p l e rm_M_put s m [.ref (ad 1 j0), .int x1].toArray below meth c H locs 0 0 (MQ below (q_M_put D ad ca N M0 MZ RZ A) [.ref (ad 1 j0), .int x1].toArray s rm_M_put.cells rm_M_put.slots A) (F0 m 56 ls []) := by
    intro M H locs ls h hwf hkp hP hD hS hl
    unfold f_M_put_b56 at h
    have hkb := hkp
    refine lv_iconst (v := 0) hx hb d_M_put_56 (by decide) ?_
    exact b_57 M (0 : Int32) _ _ _ h (by decide) hwf hkp hP hD hS (lv_sub hl [0, 1] rfl)
  have b_47 : ∀ (M : me_M) (s0 : Int32) (s1 : Nat) (s2 : Int32) (s3 : Int32) (H : Heap) (locs : List Loc) (ls : Array Slot), f_M_put_b47 j0 x1 M s0 s1 s2 s3 = (some (MZ, RZ)) → (s1 < N 13) → me_wf N M → me_kp M0 M → va_P D classes (me_W ad ca M) H → va_D A (me_W ad ca M) → va_S A s.heap H locs → lv_has ls 4 [(0, .ref (ad 1 j0)), (1, .int x1)] → W p l e rm_M_put s m [.ref (ad 1 j0), .int x1].toArray below meth c H locs 0 0 (MQ below (q_M_put D ad ca N M0 MZ RZ A) [.ref (ad 1 j0), .int x1].toArray s rm_M_put.cells rm_M_put.slots A) (F0 m 47 ls [.int s0, .ref (ad 13 s1), .int s2, .int s3]) := by
    intro M s0 s1 s2 s3 H locs ls h hs1 hwf hkp hP hD hS hl
    unfold f_M_put_b47 at h
    have hkb := hkp
    obtain ⟨g35, h⟩ := gd_ob h
    refine me_iald hx hb hK hP hwf hs1 g35 d_M_put_47 ?_
    refine lv_iadd hx hb d_M_put_48 ?_
    refine lv_icmp_lt (tgt := 56) hx hb d_M_put_49 (by decide) (fun c36 => ?_) (fun c36 => ?_)
    · have h := if_t c36 h
      exact b_56 M _ _ _ h hwf hkp hP hD hS (lv_sub hl [0, 1] rfl)
    have h := if_f c36 h
    refine lv_iconst (v := 1) hx hb d_M_put_52 (by decide) ?_
    refine lv_goto (tgt := 57) hx hb d_M_put_53 (by decide) ?_
    exact b_57 M (1 : Int32) _ _ _ h (by decide) hwf hkp hP hD hS (lv_sub hl [0, 1] rfl)
  have b_29 : ∀ (M : me_M) (s0 : Int32) (s1 : Nat) (s2 : Int32) (H : Heap) (locs : List Loc) (ls : Array Slot), f_M_put_b29 j0 x1 M s0 s1 s2 = (some (MZ, RZ)) → (s1 < N 13) → me_wf N M → me_kp M0 M → va_P D classes (me_W ad ca M) H → va_D A (me_W ad ca M) → va_S A s.heap H locs → lv_has ls 4 [(0, .ref (ad 1 j0)), (1, .int x1)] → W p l e rm_M_put s m [.ref (ad 1 j0), .int x1].toArray below meth c H locs 0 0 (MQ below (q_M_put D ad ca N M0 MZ RZ A) [.ref (ad 1 j0), .int x1].toArray s rm_M_put.cells rm_M_put.slots A) (F0 m 29 ls [.int s0, .ref (ad 13 s1), .int s2]) := by
    intro M s0 s1 s2 H locs ls h hs1 hwf hkp hP hD hS hl
    unfold f_M_put_b29 at h
    have hkb := hkp
    obtain ⟨g37, h⟩ := gd_ob h
    refine me_iald hx hb hK hP hwf hs1 g37 d_M_put_29 ?_
    refine lv_aload_n hx hb d_M_put_30 rfl (lv_at hl 0 rfl) ?_
    refine g_M_7 hx hb hts hown hK hP hwf hj0 (hts _ u_1748) d_M_put_31 ?_
    obtain ⟨j38, e39, h⟩ := bd_ob h
    have hj38 : j38 < N 13 := (hwf.2.1 1 j0 7 _ e39 (by decide) hj0)
    refine me_opt (j := j38) e39 ?_
    refine lv_aload_n hx hb d_M_put_34 rfl (lv_at hl 0 rfl) ?_
    refine lv_iload_n hx hb d_M_put_35 rfl (lv_at hl 1 rfl) ?_
    obtain ⟨M40, r41, eM40, h⟩ := b2_ob h
    refine me_theni0 (M1 := M40) (me_runV (C := "FilterGuardModel") (As := [.int x1]) (rest := [.ref (ad 13 j38), .int (mI M 13 s1 s0.toNatClampNeg), .int s2]) ⟨hx, hb, hml, hown, hts⟩ (c_M_isMap l D ad ca N M M40 r41 j0 x1 eM40 hwf hj0 _) rfl (by show fg_nm y_M_isMap 1; decide +kernel) u_2427 u_2429 u_167 u_192 u_2430 ⟨Nat.le_of_ble_eq_true rfl, Nat.le_of_ble_eq_true rfl⟩ hX hz hK hP hD hwf hS hA hj0 (by decide) rfl rfl rfl hl.1 (Nat.le_of_ble_eq_true rfl) d_M_put_36 ⟨Nat.le_of_ble_eq_true rfl, Nat.le_of_ble_eq_true rfl⟩) hP hD hK hS hA rfl rfl (fun H locs hw hP hD hS => ?_)
    obtain ⟨hwf, hk9, zr41⟩ := hw
    have hkp := hkp.tr hk9
    refine lv_if_eq (tgt := 46) hx hb d_M_put_39 (by decide) (fun c42 => ?_) (fun c42 => ?_)
    · have h := if_t c42 h
      refine lv_iconst (v := 0) hx hb d_M_put_46 (by decide) ?_
      exact b_47 M40 (0 : Int32) j38 (mI M 13 s1 s0.toNatClampNeg) s2 _ _ _ h hj38 hwf hkp hP hD hS (lv_sub hl [0, 1] rfl)
    have h := if_f c42 h
    refine lv_iload_n hx hb d_M_put_42 rfl (lv_at hl 1 rfl) ?_
    refine lv_goto (tgt := 47) hx hb d_M_put_43 (by decide) ?_
    exact b_47 M40 x1 j38 (mI M 13 s1 s0.toNatClampNeg) s2 _ _ _ h hj38 hwf hkp hP hD hS (lv_sub hl [0, 1] rfl)
  refine lv_aload_n hx hb d_M_put_0 rfl (lv_at hl 0 rfl) ?_
  refine lv_iload_n hx hb d_M_put_1 rfl (lv_at hl 1 rfl) ?_
  obtain ⟨M43, r44, eM43, h⟩ := b2_ob h
  refine me_theni0 (M1 := M43) (me_runV (C := "FilterGuardModel") (As := [.int x1]) (rest := []) ⟨hx, hb, hml, hown, hts⟩ (c_M_isMap l D ad ca N M0 M43 r44 j0 x1 eM43 hwf hj0 _) rfl (by show fg_nm y_M_isMap 1; decide +kernel) u_2427 u_2429 u_167 u_192 u_2430 ⟨Nat.le_of_ble_eq_true rfl, Nat.le_of_ble_eq_true rfl⟩ hX hz hK hP hD hwf hS hA hj0 (by decide) rfl rfl rfl hl.1 (Nat.le_of_ble_eq_true rfl) d_M_put_2 ⟨Nat.le_of_ble_eq_true rfl, Nat.le_of_ble_eq_true rfl⟩) hP hD hK hS hA rfl rfl (fun H locs hw hP hD hS => ?_)
  obtain ⟨hwf, hk9, zr44⟩ := hw
  have hkp := hkp.tr hk9
  refine lv_if_eq (tgt := 56) hx hb d_M_put_5 (by decide) (fun c45 => ?_) (fun c45 => ?_)
  · have h := if_t c45 h
    exact b_56 M43 _ _ _ h hwf hkp hP hD hS (lv_sub hl [0, 1] rfl)
  have h := if_f c45 h
  refine lv_aload_n hx hb d_M_put_8 rfl (lv_at hl 0 rfl) ?_
  refine g_M_2 hx hb hts hown hK hP hwf hj0 (hts _ u_1743) d_M_put_9 ?_
  refine lv_aload_n hx hb d_M_put_12 rfl (lv_at hl 0 rfl) ?_
  refine g_M_6 hx hb hts hown hK hP hwf hj0 (hts _ u_1747) d_M_put_13 ?_
  obtain ⟨j46, e47, h⟩ := bd_ob h
  have hj46 : j46 < N 13 := (hwf.2.1 1 j0 6 _ (kp_r hkb hkp e47) (by decide) hj0)
  refine me_opt (j := j46) (kp_r hkb hkp e47) ?_
  refine lv_aload_n hx hb d_M_put_16 rfl (lv_at hl 0 rfl) ?_
  refine lv_iload_n hx hb d_M_put_17 rfl (lv_at hl 1 rfl) ?_
  obtain ⟨M48, r49, eM48, h⟩ := b2_ob h
  refine me_theni0 (M1 := M48) (me_runV (C := "FilterGuardModel") (As := [.int x1]) (rest := [.ref (ad 13 j46), .int (mI M43 1 j0 2)]) ⟨hx, hb, hml, hown, hts⟩ (c_M_isMap l D ad ca N M43 M48 r49 j0 x1 eM48 hwf hj0 _) rfl (by show fg_nm y_M_isMap 1; decide +kernel) u_2427 u_2429 u_167 u_192 u_2430 ⟨Nat.le_of_ble_eq_true rfl, Nat.le_of_ble_eq_true rfl⟩ hX hz hK hP hD hwf hS hA hj0 (by decide) rfl rfl rfl hl.1 (Nat.le_of_ble_eq_true rfl) d_M_put_18 ⟨Nat.le_of_ble_eq_true rfl, Nat.le_of_ble_eq_true rfl⟩) hP hD hK hS hA rfl rfl (fun H locs hw hP hD hS => ?_)
  obtain ⟨hwf, hk9, zr49⟩ := hw
  have hkp := hkp.tr hk9
  refine lv_if_eq (tgt := 28) hx hb d_M_put_21 (by decide) (fun c50 => ?_) (fun c50 => ?_)
  · have h := if_t c50 h
    refine lv_iconst (v := 0) hx hb d_M_put_28 (by decide) ?_
    exact b_29 M48 (0 : Int32) j46 (mI M43 1 j0 2) _ _ _ h hj46 hwf hkp hP hD hS (lv_sub hl [0, 1] rfl)
  have h := if_f c50 h
  refine lv_iload_n hx hb d_M_put_24 rfl (lv_at hl 1 rfl) ?_
  refine lv_goto (tgt := 29) hx hb d_M_put_25 (by decide) ?_
  exact b_29 M48 x1 j46 (mI M43 1 j0 2) _ _ _ h hj46 hwf hkp hP hD hS (lv_sub hl [0, 1] rfl)
theorem d_M_entry_194 : decode prog_14_method_121_code 194 = .ok (.putfield 152, 3) := by decide +kernel
theorem d_M_entry_197 : decode prog_14_method_121_code 197 = .ok (.aload_n 0, 1) := by decide +kernel
theorem d_M_entry_198 : decode prog_14_method_121_code 198 = .ok (.getfield 152, 3) := by decide +kernel
theorem d_M_entry_201 : decode prog_14_method_121_code 201 = .ok (.ifCond .le 5, 3) := by decide +kernel
theorem d_M_entry_206 : decode prog_14_method_121_code 206 = .ok (.iload_n 3, 1) := by decide +kernel
theorem d_M_entry_207 : decode prog_14_method_121_code 207 = .ok (.ifCond .ne 21, 3) := by decide +kernel
theorem d_M_entry_228 : decode prog_14_method_121_code 228 = .ok (.iload 6, 2) := by decide +kernel
theorem d_M_entry_230 : decode prog_14_method_121_code 230 = .ok (.ifCond .eq 21, 3) := by decide +kernel
theorem d_M_entry_251 : decode prog_14_method_121_code 251 = .ok (.aload_n 0, 1) := by decide +kernel
theorem d_M_entry_252 : decode prog_14_method_121_code 252 = .ok (.getfield 34, 3) := by decide +kernel
theorem d_M_entry_255 : decode prog_14_method_121_code 255 = .ok (.bipush 64, 2) := by decide +kernel
theorem d_M_entry_257 : decode prog_14_method_121_code 257 = .ok (.iload 5, 2) := by decide +kernel
theorem d_M_entry_259 : decode prog_14_method_121_code 259 = .ok (.imul, 1) := by decide +kernel
theorem d_M_entry_260 : decode prog_14_method_121_code 260 = .ok (.iload_n 3, 1) := by decide +kernel
theorem d_M_entry_261 : decode prog_14_method_121_code 261 = .ok (.iadd, 1) := by decide +kernel
theorem d_M_entry_262 : decode prog_14_method_121_code 262 = .ok (.sipush 200, 3) := by decide +kernel
theorem d_M_entry_265 : decode prog_14_method_121_code 265 = .ok (.isub, 1) := by decide +kernel
theorem d_M_entry_266 : decode prog_14_method_121_code 266 = .ok (.baload, 1) := by decide +kernel
theorem d_M_entry_267 : decode prog_14_method_121_code 267 = .ok (.sipush 255, 3) := by decide +kernel
theorem d_M_entry_270 : decode prog_14_method_121_code 270 = .ok (.iand, 1) := by decide +kernel
theorem d_M_entry_271 : decode prog_14_method_121_code 271 = .ok (.ireturn, 1) := by decide +kernel
theorem d_M_entry_233 : decode prog_14_method_121_code 233 = .ok (.aload_n 0, 1) := by decide +kernel
theorem d_M_entry_234 : decode prog_14_method_121_code 234 = .ok (.getfield 31, 3) := by decide +kernel
theorem d_M_entry_237 : decode prog_14_method_121_code 237 = .ok (.bipush 16, 2) := by decide +kernel
theorem d_M_entry_239 : decode prog_14_method_121_code 239 = .ok (.iload 5, 2) := by decide +kernel
theorem d_M_entry_241 : decode prog_14_method_121_code 241 = .ok (.imul, 1) := by decide +kernel
theorem d_M_entry_242 : decode prog_14_method_121_code 242 = .ok (.iload_n 3, 1) := by decide +kernel
theorem d_M_entry_243 : decode prog_14_method_121_code 243 = .ok (.iadd, 1) := by decide +kernel
theorem d_M_entry_244 : decode prog_14_method_121_code 244 = .ok (.bipush 100, 2) := by decide +kernel
theorem d_M_entry_246 : decode prog_14_method_121_code 246 = .ok (.isub, 1) := by decide +kernel
theorem d_M_entry_247 : decode prog_14_method_121_code 247 = .ok (.baload, 1) := by decide +kernel
theorem d_M_entry_248 : decode prog_14_method_121_code 248 = .ok (.goto 19, 3) := by decide +kernel
theorem d_M_entry_210 : decode prog_14_method_121_code 210 = .ok (.aload_n 0, 1) := by decide +kernel
theorem d_M_entry_211 : decode prog_14_method_121_code 211 = .ok (.getfield 27, 3) := by decide +kernel
theorem d_M_entry_214 : decode prog_14_method_121_code 214 = .ok (.iload 5, 2) := by decide +kernel
theorem d_M_entry_216 : decode prog_14_method_121_code 216 = .ok (.baload, 1) := by decide +kernel
theorem d_M_entry_217 : decode prog_14_method_121_code 217 = .ok (.ifCond .eq 7, 3) := by decide +kernel
theorem d_M_entry_224 : decode prog_14_method_121_code 224 = .ok (.iconst 0, 1) := by decide +kernel
theorem d_M_entry_225 : decode prog_14_method_121_code 225 = .ok (.goto 46, 3) := by decide +kernel
theorem d_M_entry_220 : decode prog_14_method_121_code 220 = .ok (.iconst 1, 1) := by decide +kernel
theorem d_M_entry_221 : decode prog_14_method_121_code 221 = .ok (.goto 50, 3) := by decide +kernel
theorem d_M_entry_204 : decode prog_14_method_121_code 204 = .ok (.iconst 0, 1) := by decide +kernel
theorem d_M_entry_205 : decode prog_14_method_121_code 205 = .ok (.ireturn, 1) := by decide +kernel
theorem d_M_entry_189 : decode prog_14_method_121_code 189 = .ok (.iconst 0, 1) := by decide +kernel
theorem d_M_entry_190 : decode prog_14_method_121_code 190 = .ok (.goto 4, 3) := by decide +kernel
theorem d_M_entry_179 : decode prog_14_method_121_code 179 = .ok (.iload 6, 2) := by decide +kernel
theorem d_M_entry_181 : decode prog_14_method_121_code 181 = .ok (.ifCond .ne 8, 3) := by decide +kernel
theorem d_M_entry_184 : decode prog_14_method_121_code 184 = .ok (.iload 7, 2) := by decide +kernel
theorem d_M_entry_186 : decode prog_14_method_121_code 186 = .ok (.ifCond .eq 7, 3) := by decide +kernel
theorem d_M_entry_193 : decode prog_14_method_121_code 193 = .ok (.iconst 1, 1) := by decide +kernel
theorem d_M_entry_167 : decode prog_14_method_121_code 167 = .ok (.istore 7, 2) := by decide +kernel
theorem d_M_entry_169 : decode prog_14_method_121_code 169 = .ok (.aload_n 0, 1) := by decide +kernel
theorem d_M_entry_170 : decode prog_14_method_121_code 170 = .ok (.iload 4, 2) := by decide +kernel
theorem d_M_entry_172 : decode prog_14_method_121_code 172 = .ok (.ifCond .eq 7, 3) := by decide +kernel
theorem d_M_entry_175 : decode prog_14_method_121_code 175 = .ok (.iload_n 3, 1) := by decide +kernel
theorem d_M_entry_176 : decode prog_14_method_121_code 176 = .ok (.ifCond .eq 13, 3) := by decide +kernel
theorem d_M_entry_166 : decode prog_14_method_121_code 166 = .ok (.iconst 0, 1) := by decide +kernel
theorem d_M_entry_158 : decode prog_14_method_121_code 158 = .ok (.iaload, 1) := by decide +kernel
theorem d_M_entry_159 : decode prog_14_method_121_code 159 = .ok (.if_icmp .ge 7, 3) := by decide +kernel
theorem d_M_entry_162 : decode prog_14_method_121_code 162 = .ok (.iconst 1, 1) := by decide +kernel
theorem d_M_entry_163 : decode prog_14_method_121_code 163 = .ok (.goto 4, 3) := by decide +kernel
theorem d_M_entry_125 : decode prog_14_method_121_code 125 = .ok (.istore 6, 2) := by decide +kernel
theorem d_M_entry_127 : decode prog_14_method_121_code 127 = .ok (.iload 4, 2) := by decide +kernel
theorem d_M_entry_129 : decode prog_14_method_121_code 129 = .ok (.ifCond .eq 37, 3) := by decide +kernel
theorem d_M_entry_132 : decode prog_14_method_121_code 132 = .ok (.iload_n 3, 1) := by decide +kernel
theorem d_M_entry_133 : decode prog_14_method_121_code 133 = .ok (.sipush 200, 3) := by decide +kernel
theorem d_M_entry_136 : decode prog_14_method_121_code 136 = .ok (.if_icmp .lt 30, 3) := by decide +kernel
theorem d_M_entry_139 : decode prog_14_method_121_code 139 = .ok (.iload_n 3, 1) := by decide +kernel
theorem d_M_entry_140 : decode prog_14_method_121_code 140 = .ok (.sipush 200, 3) := by decide +kernel
theorem d_M_entry_143 : decode prog_14_method_121_code 143 = .ok (.isub, 1) := by decide +kernel
theorem d_M_entry_144 : decode prog_14_method_121_code 144 = .ok (.aload_n 0, 1) := by decide +kernel
theorem d_M_entry_145 : decode prog_14_method_121_code 145 = .ok (.getfield 21, 3) := by decide +kernel
theorem d_M_entry_148 : decode prog_14_method_121_code 148 = .ok (.iload 4, 2) := by decide +kernel
theorem d_M_entry_150 : decode prog_14_method_121_code 150 = .ok (.ifCond .eq 7, 3) := by decide +kernel
theorem d_M_entry_157 : decode prog_14_method_121_code 157 = .ok (.iconst 0, 1) := by decide +kernel
theorem d_M_entry_153 : decode prog_14_method_121_code 153 = .ok (.iload_n 1, 1) := by decide +kernel
theorem d_M_entry_154 : decode prog_14_method_121_code 154 = .ok (.goto 4, 3) := by decide +kernel
theorem d_M_entry_124 : decode prog_14_method_121_code 124 = .ok (.iconst 0, 1) := by decide +kernel
theorem d_M_entry_116 : decode prog_14_method_121_code 116 = .ok (.iaload, 1) := by decide +kernel
theorem d_M_entry_117 : decode prog_14_method_121_code 117 = .ok (.if_icmp .ge 7, 3) := by decide +kernel
theorem d_M_entry_120 : decode prog_14_method_121_code 120 = .ok (.iconst 1, 1) := by decide +kernel
theorem d_M_entry_121 : decode prog_14_method_121_code 121 = .ok (.goto 4, 3) := by decide +kernel
theorem d_M_entry_77 : decode prog_14_method_121_code 77 = .ok (.iaload, 1) := by decide +kernel
theorem d_M_entry_78 : decode prog_14_method_121_code 78 = .ok (.iconst 1, 1) := by decide +kernel
theorem d_M_entry_79 : decode prog_14_method_121_code 79 = .ok (.if_icmp .ne 45, 3) := by decide +kernel
theorem d_M_entry_82 : decode prog_14_method_121_code 82 = .ok (.aload_n 0, 1) := by decide +kernel
theorem d_M_entry_83 : decode prog_14_method_121_code 83 = .ok (.getfield 27, 3) := by decide +kernel
theorem d_M_entry_86 : decode prog_14_method_121_code 86 = .ok (.iload 5, 2) := by decide +kernel
theorem d_M_entry_88 : decode prog_14_method_121_code 88 = .ok (.baload, 1) := by decide +kernel
theorem d_M_entry_89 : decode prog_14_method_121_code 89 = .ok (.ifCond .eq 35, 3) := by decide +kernel
theorem d_M_entry_92 : decode prog_14_method_121_code 92 = .ok (.iload_n 3, 1) := by decide +kernel
theorem d_M_entry_93 : decode prog_14_method_121_code 93 = .ok (.bipush 100, 2) := by decide +kernel
theorem d_M_entry_95 : decode prog_14_method_121_code 95 = .ok (.if_icmp .lt 29, 3) := by decide +kernel
theorem d_M_entry_98 : decode prog_14_method_121_code 98 = .ok (.iload_n 3, 1) := by decide +kernel
theorem d_M_entry_99 : decode prog_14_method_121_code 99 = .ok (.bipush 100, 2) := by decide +kernel
theorem d_M_entry_101 : decode prog_14_method_121_code 101 = .ok (.isub, 1) := by decide +kernel
theorem d_M_entry_102 : decode prog_14_method_121_code 102 = .ok (.aload_n 0, 1) := by decide +kernel
theorem d_M_entry_103 : decode prog_14_method_121_code 103 = .ok (.getfield 18, 3) := by decide +kernel
theorem d_M_entry_106 : decode prog_14_method_121_code 106 = .ok (.iload 4, 2) := by decide +kernel
theorem d_M_entry_108 : decode prog_14_method_121_code 108 = .ok (.ifCond .eq 7, 3) := by decide +kernel
theorem d_M_entry_115 : decode prog_14_method_121_code 115 = .ok (.iconst 0, 1) := by decide +kernel
theorem d_M_entry_111 : decode prog_14_method_121_code 111 = .ok (.iload_n 1, 1) := by decide +kernel
theorem d_M_entry_112 : decode prog_14_method_121_code 112 = .ok (.goto 4, 3) := by decide +kernel
theorem d_M_entry_56 : decode prog_14_method_121_code 56 = .ok (.istore 5, 2) := by decide +kernel
theorem d_M_entry_58 : decode prog_14_method_121_code 58 = .ok (.iload 4, 2) := by decide +kernel
theorem d_M_entry_60 : decode prog_14_method_121_code 60 = .ok (.ifCond .eq 64, 3) := by decide +kernel
theorem d_M_entry_63 : decode prog_14_method_121_code 63 = .ok (.aload_n 0, 1) := by decide +kernel
theorem d_M_entry_64 : decode prog_14_method_121_code 64 = .ok (.getfield 14, 3) := by decide +kernel
theorem d_M_entry_67 : decode prog_14_method_121_code 67 = .ok (.iload 4, 2) := by decide +kernel
theorem d_M_entry_69 : decode prog_14_method_121_code 69 = .ok (.ifCond .eq 7, 3) := by decide +kernel
theorem d_M_entry_76 : decode prog_14_method_121_code 76 = .ok (.iconst 0, 1) := by decide +kernel
theorem d_M_entry_72 : decode prog_14_method_121_code 72 = .ok (.iload_n 1, 1) := by decide +kernel
theorem d_M_entry_73 : decode prog_14_method_121_code 73 = .ok (.goto 4, 3) := by decide +kernel
theorem d_M_entry_39 : decode prog_14_method_121_code 39 = .ok (.istore 4, 2) := by decide +kernel
theorem d_M_entry_41 : decode prog_14_method_121_code 41 = .ok (.iload 4, 2) := by decide +kernel
theorem d_M_entry_43 : decode prog_14_method_121_code 43 = .ok (.ifCond .eq 12, 3) := by decide +kernel
theorem d_M_entry_55 : decode prog_14_method_121_code 55 = .ok (.iconst 0, 1) := by decide +kernel
theorem d_M_entry_46 : decode prog_14_method_121_code 46 = .ok (.bipush 64, 2) := by decide +kernel
theorem d_M_entry_48 : decode prog_14_method_121_code 48 = .ok (.iload_n 1, 1) := by decide +kernel
theorem d_M_entry_49 : decode prog_14_method_121_code 49 = .ok (.imul, 1) := by decide +kernel
theorem d_M_entry_50 : decode prog_14_method_121_code 50 = .ok (.iload_n 2, 1) := by decide +kernel
theorem d_M_entry_51 : decode prog_14_method_121_code 51 = .ok (.iadd, 1) := by decide +kernel
theorem d_M_entry_52 : decode prog_14_method_121_code 52 = .ok (.goto 4, 3) := by decide +kernel
theorem d_M_entry_38 : decode prog_14_method_121_code 38 = .ok (.iconst 0, 1) := by decide +kernel
theorem d_M_entry_30 : decode prog_14_method_121_code 30 = .ok (.iaload, 1) := by decide +kernel
theorem d_M_entry_31 : decode prog_14_method_121_code 31 = .ok (.if_icmp .ge 7, 3) := by decide +kernel
theorem d_M_entry_34 : decode prog_14_method_121_code 34 = .ok (.iconst 1, 1) := by decide +kernel
theorem d_M_entry_35 : decode prog_14_method_121_code 35 = .ok (.goto 4, 3) := by decide +kernel
theorem d_M_entry_0 : decode prog_14_method_121_code 0 = .ok (.aload_n 0, 1) := by decide +kernel
theorem d_M_entry_1 : decode prog_14_method_121_code 1 = .ok (.iload_n 1, 1) := by decide +kernel
theorem d_M_entry_2 : decode prog_14_method_121_code 2 = .ok (.invokevirtual 616, 3) := by decide +kernel
theorem d_M_entry_5 : decode prog_14_method_121_code 5 = .ok (.ifCond .eq 33, 3) := by decide +kernel
theorem d_M_entry_8 : decode prog_14_method_121_code 8 = .ok (.iload_n 2, 1) := by decide +kernel
theorem d_M_entry_9 : decode prog_14_method_121_code 9 = .ok (.ifCond .lt 29, 3) := by decide +kernel
theorem d_M_entry_12 : decode prog_14_method_121_code 12 = .ok (.iload_n 2, 1) := by decide +kernel
theorem d_M_entry_13 : decode prog_14_method_121_code 13 = .ok (.aload_n 0, 1) := by decide +kernel
theorem d_M_entry_14 : decode prog_14_method_121_code 14 = .ok (.getfield 24, 3) := by decide +kernel
theorem d_M_entry_17 : decode prog_14_method_121_code 17 = .ok (.aload_n 0, 1) := by decide +kernel
theorem d_M_entry_18 : decode prog_14_method_121_code 18 = .ok (.iload_n 1, 1) := by decide +kernel
theorem d_M_entry_19 : decode prog_14_method_121_code 19 = .ok (.invokevirtual 616, 3) := by decide +kernel
theorem d_M_entry_22 : decode prog_14_method_121_code 22 = .ok (.ifCond .eq 7, 3) := by decide +kernel
theorem d_M_entry_29 : decode prog_14_method_121_code 29 = .ok (.iconst 0, 1) := by decide +kernel
theorem d_M_entry_25 : decode prog_14_method_121_code 25 = .ok (.iload_n 1, 1) := by decide +kernel
theorem d_M_entry_26 : decode prog_14_method_121_code 26 = .ok (.goto 4, 3) := by decide +kernel
abbrev y_M_entry : MethodName := ⟨"FilterGuardModel", "entry", "(III)I"⟩
def rm_M_entry : Room := { frames := 2, cells := 0, slots := 0, locals := 41 }
abbrev q_M_entry (D : va_G) (ad : Nat → Nat → Nat) (ca : Nat → ClassId) (N : Nat → Nat) (M0 MZ : me_M) (RZ : Int32) (A : Nat → Prop) : Array Value → Jvm.State → Outcome → Jvm.State → Prop := va_Qi (fun r (_ : Unit) => r = RZ ∧ me_wf N MZ ∧ me_kp M0 MZ) (fg_B D A (fun _ => me_W ad ca MZ) (fun _ => [])) A
set_option maxHeartbeats 4000000 in
set_option maxRecDepth 100000 in
theorem c_M_entry (l : Launch) (D : va_G) (ad : Nat → Nat → Nat) (ca : Nat → ClassId) (N : Nat → Nat) (M0 MZ : me_M) (RZ : Int32) (j0 : Nat) (x1 : Int32) (x2 : Int32) (x3 : Int32) (h : f_M_entry M0 j0 x1 x2 x3 = (some (MZ, RZ))) (hwf : me_wf N M0) (hj0 : j0 < N 1) (sz : Nat) : Met l y_M_entry (fg_w y_M_entry prog_14_method_121_code 8 (some .int)) rm_M_entry (va_Pc [.ref (ad 1 j0), .int x1, .int x2, .int x3] (fz_P D (me_T ca) (me_W ad ca M0) sz)) (q_M_entry D ad ca N M0 MZ RZ (va_A (me_W ad ca M0) sz)) rm_M_entry.cells rm_M_entry.slots (va_A (me_W ad ca M0) sz) := by
  refine fz_enter (fun A => q_M_entry D ad ca N M0 MZ RZ A) (by decide +kernel) (Nat.le_of_ble_eq_true rfl) ?_
  intro p e s m below meth c ls A hx hb hml hown hts hr hlocks hin hP hK hD hS hA hX hl hz
  have hl : lv_has ls 8 [(0, .ref (ad 1 j0)), (1, .int x1), (2, .int x2), (3, .int x3)] := hl
  unfold f_M_entry at h
  have hkp : me_kp M0 M0 := me_kp.rf
  have hkb := hkp
  have b_194 : ∀ (M : me_M) (y5 : Int32) (y6 : Int32) (s0 : Int32) (s1 : Nat) (H : Heap) (locs : List Loc) (ls : Array Slot), f_M_entry_b194 j0 x3 M y5 y6 s0 s1 = (some (MZ, RZ)) → (y6 = 1 ∨ y6 = 0) → (s0 = 1 ∨ s0 = 0) → (s1 < N 1) → me_wf N M → me_kp M0 M → va_P D classes (me_W ad ca M) H → va_D A (me_W ad ca M) → va_S A s.heap H locs → lv_has ls 8 [(0, .ref (ad 1 j0)), (3, .int x3), (5, .int y5), (6, .int y6)] → W p l e rm_M_entry s m [.ref (ad 1 j0), .int x1, .int x2, .int x3].toArray below meth c H locs 0 0 (MQ below (q_M_entry D ad ca N M0 MZ RZ A) [.ref (ad 1 j0), .int x1, .int x2, .int x3].toArray s rm_M_entry.cells rm_M_entry.slots A) (F0 m 194 ls [.int s0, .ref (ad 1 s1)]) := by
    intro M y5 y6 s0 s1 H locs ls h zy6 zs0 hs1 hwf hkp hP hD hS hl
    unfold f_M_entry_b194 at h
    have hkb := hkp
    obtain ⟨M1, eM1, h⟩ := st_ob h
    refine p_M_0 eM1 hx hb hts hown hK hP hD hwf hS hs1 (hts _ u_1741) d_M_entry_194 (fun H locs hP hD hwf hS => ?_)
    have hkp := kp_I eM1 hkp
    refine lv_aload_n hx hb d_M_entry_197 rfl (lv_at hl 0 rfl) ?_
    refine g_M_0 hx hb hts hown hK hP hwf hj0 (hts _ u_1741) d_M_entry_198 ?_
    refine lv_if_le (tgt := 206) hx hb d_M_entry_201 (by decide) (fun c2 => ?_) (fun c2 => ?_)
    · have h := if_t c2 h
      refine lv_iload_n hx hb d_M_entry_206 rfl (lv_at hl 1 rfl) ?_
      refine lv_if_ne (tgt := 228) hx hb d_M_entry_207 (by decide) (fun c3 => ?_) (fun c3 => ?_)
      · have h := if_f c3 h
        refine lv_iload hx hb d_M_entry_228 (lv_at hl 3 rfl) ?_
        refine lv_if_eq (tgt := 251) hx hb d_M_entry_230 (by decide) (fun c4 => ?_) (fun c4 => ?_)
        · have h := if_t c4 h
          refine lv_aload_n hx hb d_M_entry_251 rfl (lv_at hl 0 rfl) ?_
          refine g_M_11 hx hb hts hown hK hP hwf hj0 (hts _ u_1752) d_M_entry_252 ?_
          obtain ⟨j5, e6, h⟩ := bd_ob h
          have hj5 : j5 < N 14 := (hwf.2.1 1 j0 11 _ (kp_r hkb hkp e6) (by decide) hj0)
          refine me_opt (j := j5) (kp_r hkb hkp e6) ?_
          refine lv_bipush (v := 64) hx hb d_M_entry_255 (by decide) ?_
          refine lv_iload hx hb d_M_entry_257 (lv_at hl 2 rfl) ?_
          refine lv_imul hx hb d_M_entry_259 ?_
          refine lv_iload_n hx hb d_M_entry_260 rfl (lv_at hl 1 rfl) ?_
          refine lv_iadd hx hb d_M_entry_261 ?_
          refine lv_sipush (v := 200) hx hb d_M_entry_262 (by decide) ?_
          refine lv_isub hx hb d_M_entry_265 ?_
          obtain ⟨g7, h⟩ := gd_ob h
          refine me_bald hx hb hK hP hwf hj5 (kp_z hkb.z hkp.z g7) d_M_entry_266 ?_
          refine lv_sipush (v := 255) hx hb d_M_entry_267 (by decide) ?_
          refine lv_iand hx hb d_M_entry_270 ?_
          exact me_reti (me_kp M0) h hx hb hr hlocks hwf hkp hP hK hD hS d_M_entry_271
        have h := if_f c4 h
        refine lv_aload_n hx hb d_M_entry_233 rfl (lv_at hl 0 rfl) ?_
        refine g_M_10 hx hb hts hown hK hP hwf hj0 (hts _ u_1751) d_M_entry_234 ?_
        obtain ⟨j8, e9, h⟩ := bd_ob h
        have hj8 : j8 < N 14 := (hwf.2.1 1 j0 10 _ (kp_r hkb hkp e9) (by decide) hj0)
        refine me_opt (j := j8) (kp_r hkb hkp e9) ?_
        refine lv_bipush (v := 16) hx hb d_M_entry_237 (by decide) ?_
        refine lv_iload hx hb d_M_entry_239 (lv_at hl 2 rfl) ?_
        refine lv_imul hx hb d_M_entry_241 ?_
        refine lv_iload_n hx hb d_M_entry_242 rfl (lv_at hl 1 rfl) ?_
        refine lv_iadd hx hb d_M_entry_243 ?_
        refine lv_bipush (v := 100) hx hb d_M_entry_244 (by decide) ?_
        refine lv_isub hx hb d_M_entry_246 ?_
        obtain ⟨g10, h⟩ := gd_ob h
        refine me_bald hx hb hK hP hwf hj8 (kp_z hkb.z hkp.z g10) d_M_entry_247 ?_
        refine lv_goto (tgt := 267) hx hb d_M_entry_248 (by decide) ?_
        refine lv_sipush (v := 255) hx hb d_M_entry_267 (by decide) ?_
        refine lv_iand hx hb d_M_entry_270 ?_
        exact me_reti (me_kp M0) h hx hb hr hlocks hwf hkp hP hK hD hS d_M_entry_271
      have h := if_t c3 h
      refine lv_aload_n hx hb d_M_entry_210 rfl (lv_at hl 0 rfl) ?_
      refine g_M_9 hx hb hts hown hK hP hwf hj0 (hts _ u_1750) d_M_entry_211 ?_
      obtain ⟨j11, e12, h⟩ := bd_ob h
      have hj11 : j11 < N 15 := (hwf.2.1 1 j0 9 _ (kp_r hkb hkp e12) (by decide) hj0)
      refine me_opt (j := j11) (kp_r hkb hkp e12) ?_
      refine lv_iload hx hb d_M_entry_214 (lv_at hl 2 rfl) ?_
      obtain ⟨g13, h⟩ := gd_ob h
      refine me_zald hx hb hK hP hwf hj11 (kp_z hkb.z hkp.z g13) d_M_entry_216 ?_
      have z14 := hwf.2.2.2 15 j11 y5.toNatClampNeg rfl
      refine lv_if_eq (tgt := 224) hx hb d_M_entry_217 (by decide) (fun c15 => ?_) (fun c15 => ?_)
      · have h := if_t c15 h
        refine lv_iconst (v := 0) hx hb d_M_entry_224 (by decide) ?_
        refine lv_goto (tgt := 271) hx hb d_M_entry_225 (by decide) ?_
        exact me_reti (me_kp M0) h hx hb hr hlocks hwf hkp hP hK hD hS d_M_entry_271
      have h := if_f c15 h
      refine lv_iconst (v := 1) hx hb d_M_entry_220 (by decide) ?_
      refine lv_goto (tgt := 271) hx hb d_M_entry_221 (by decide) ?_
      exact me_reti (me_kp M0) h hx hb hr hlocks hwf hkp hP hK hD hS d_M_entry_271
    have h := if_f c2 h
    refine lv_iconst (v := 0) hx hb d_M_entry_204 (by decide) ?_
    exact me_reti (me_kp M0) h hx hb hr hlocks hwf hkp hP hK hD hS d_M_entry_205
  have b_189 : ∀ (M : me_M) (y5 : Int32) (y6 : Int32) (s0 : Nat) (H : Heap) (locs : List Loc) (ls : Array Slot), f_M_entry_b189 j0 x3 M y5 y6 s0 = (some (MZ, RZ)) → (y6 = 1 ∨ y6 = 0) → (s0 < N 1) → me_wf N M → me_kp M0 M → va_P D classes (me_W ad ca M) H → va_D A (me_W ad ca M) → va_S A s.heap H locs → lv_has ls 8 [(0, .ref (ad 1 j0)), (3, .int x3), (5, .int y5), (6, .int y6)] → W p l e rm_M_entry s m [.ref (ad 1 j0), .int x1, .int x2, .int x3].toArray below meth c H locs 0 0 (MQ below (q_M_entry D ad ca N M0 MZ RZ A) [.ref (ad 1 j0), .int x1, .int x2, .int x3].toArray s rm_M_entry.cells rm_M_entry.slots A) (F0 m 189 ls [.ref (ad 1 s0)]) := by
    intro M y5 y6 s0 H locs ls h zy6 hs0 hwf hkp hP hD hS hl
    unfold f_M_entry_b189 at h
    have hkb := hkp
    refine lv_iconst (v := 0) hx hb d_M_entry_189 (by decide) ?_
    refine lv_goto (tgt := 194) hx hb d_M_entry_190 (by decide) ?_
    exact b_194 M y5 y6 (0 : Int32) s0 _ _ _ h zy6 (by decide) hs0 hwf hkp hP hD hS (lv_sub hl [0, 1, 2, 3] rfl)
  have b_179 : ∀ (M : me_M) (y5 : Int32) (y6 : Int32) (y7 : Int32) (s0 : Nat) (H : Heap) (locs : List Loc) (ls : Array Slot), f_M_entry_b179 j0 x3 M y5 y6 y7 s0 = (some (MZ, RZ)) → (y6 = 1 ∨ y6 = 0) → (y7 = 1 ∨ y7 = 0) → (s0 < N 1) → me_wf N M → me_kp M0 M → va_P D classes (me_W ad ca M) H → va_D A (me_W ad ca M) → va_S A s.heap H locs → lv_has ls 8 [(0, .ref (ad 1 j0)), (3, .int x3), (5, .int y5), (6, .int y6), (7, .int y7)] → W p l e rm_M_entry s m [.ref (ad 1 j0), .int x1, .int x2, .int x3].toArray below meth c H locs 0 0 (MQ below (q_M_entry D ad ca N M0 MZ RZ A) [.ref (ad 1 j0), .int x1, .int x2, .int x3].toArray s rm_M_entry.cells rm_M_entry.slots A) (F0 m 179 ls [.ref (ad 1 s0)]) := by
    intro M y5 y6 y7 s0 H locs ls h zy6 zy7 hs0 hwf hkp hP hD hS hl
    unfold f_M_entry_b179 at h
    have hkb := hkp
    refine lv_iload hx hb d_M_entry_179 (lv_at hl 3 rfl) ?_
    refine lv_if_ne (tgt := 189) hx hb d_M_entry_181 (by decide) (fun c16 => ?_) (fun c16 => ?_)
    · have h := if_f c16 h
      exact b_189 M y5 y6 s0 _ _ _ h zy6 hs0 hwf hkp hP hD hS (lv_sub hl [0, 1, 2, 3] rfl)
    have h := if_t c16 h
    refine lv_iload hx hb d_M_entry_184 (lv_at hl 4 rfl) ?_
    refine lv_if_eq (tgt := 193) hx hb d_M_entry_186 (by decide) (fun c17 => ?_) (fun c17 => ?_)
    · have h := if_t c17 h
      refine lv_iconst (v := 1) hx hb d_M_entry_193 (by decide) ?_
      exact b_194 M y5 y6 (1 : Int32) s0 _ _ _ h zy6 (by decide) hs0 hwf hkp hP hD hS (lv_sub hl [0, 1, 2, 3] rfl)
    have h := if_f c17 h
    exact b_189 M y5 y6 s0 _ _ _ h zy6 hs0 hwf hkp hP hD hS (lv_sub hl [0, 1, 2, 3] rfl)
  have b_167 : ∀ (M : me_M) (y4 : Int32) (y5 : Int32) (y6 : Int32) (s0 : Int32) (H : Heap) (locs : List Loc) (ls : Array Slot), f_M_entry_b167 j0 x3 M y4 y5 y6 s0 = (some (MZ, RZ)) → (y4 = 1 ∨ y4 = 0) → (y6 = 1 ∨ y6 = 0) → (s0 = 1 ∨ s0 = 0) → me_wf N M → me_kp M0 M → va_P D classes (me_W ad ca M) H → va_D A (me_W ad ca M) → va_S A s.heap H locs → lv_has ls 8 [(0, .ref (ad 1 j0)), (3, .int x3), (4, .int y4), (5, .int y5), (6, .int y6)] → W p l e rm_M_entry s m [.ref (ad 1 j0), .int x1, .int x2, .int x3].toArray below meth c H locs 0 0 (MQ below (q_M_entry D ad ca N M0 MZ RZ A) [.ref (ad 1 j0), .int x1, .int x2, .int x3].toArray s rm_M_entry.cells rm_M_entry.slots A) (F0 m 167 ls [.int s0]) := by
    intro M y4 y5 y6 s0 H locs ls h zy4 zy6 zs0 hwf hkp hP hD hS hl
    unfold f_M_entry_b167 at h
    have hkb := hkp
    refine lv_istore (lv' := [(7, .int s0), (0, .ref (ad 1 j0)), (3, .int x3), (4, .int y4), (5, .int y5), (6, .int y6)]) hx hb d_M_entry_167 hl (by decide) rfl (fun ls hl => ?_)
    refine lv_aload_n hx hb d_M_entry_169 rfl (lv_at hl 1 rfl) ?_
    refine lv_iload hx hb d_M_entry_170 (lv_at hl 3 rfl) ?_
    refine lv_if_eq (tgt := 179) hx hb d_M_entry_172 (by decide) (fun c18 => ?_) (fun c18 => ?_)
    · have h := if_t c18 h
      exact b_179 M y5 y6 s0 j0 _ _ _ h zy6 zs0 hj0 hwf hkp hP hD hS (lv_sub hl [1, 2, 4, 5, 0] rfl)
    have h := if_f c18 h
    refine lv_iload_n hx hb d_M_entry_175 rfl (lv_at hl 2 rfl) ?_
    refine lv_if_eq (tgt := 189) hx hb d_M_entry_176 (by decide) (fun c19 => ?_) (fun c19 => ?_)
    · have h := if_t c19 h
      exact b_189 M y5 y6 j0 _ _ _ h zy6 hj0 hwf hkp hP hD hS (lv_sub hl [1, 2, 4, 5] rfl)
    have h := if_f c19 h
    exact b_179 M y5 y6 s0 j0 _ _ _ h zy6 zs0 hj0 hwf hkp hP hD hS (lv_sub hl [1, 2, 4, 5, 0] rfl)
  have b_166 : ∀ (M : me_M) (y4 : Int32) (y5 : Int32) (y6 : Int32) (H : Heap) (locs : List Loc) (ls : Array Slot), f_M_entry_b166 j0 x3 M y4 y5 y6 = (some (MZ, RZ)) → (y4 = 1 ∨ y4 = 0) → (y6 = 1 ∨ y6 = 0) → me_wf N M → me_kp M0 M → va_P D classes (me_W ad ca M) H → va_D A (me_W ad ca M) → va_S A s.heap H locs → lv_has ls 8 [(0, .ref (ad 1 j0)), (3, .int x3), (4, .int y4), (5, .int y5), (6, .int y6)] → W p l e rm_M_entry s m [.ref (ad 1 j0), .int x1, .int x2, .int x3].toArray below meth c H locs 0 0 (MQ below (q_M_entry D ad ca N M0 MZ RZ A) [.ref (ad 1 j0), .int x1, .int x2, .int x3].toArray s rm_M_entry.cells rm_M_entry.slots A) (F0 m 166 ls []) := by
    intro M y4 y5 y6 H locs ls h zy4 zy6 hwf hkp hP hD hS hl
    unfold f_M_entry_b166 at h
    have hkb := hkp
    refine lv_iconst (v := 0) hx hb d_M_entry_166 (by decide) ?_
    exact b_167 M y4 y5 y6 (0 : Int32) _ _ _ h zy4 zy6 (by decide) hwf hkp hP hD hS (lv_sub hl [0, 1, 2, 3, 4] rfl)
  have b_158 : ∀ (M : me_M) (y4 : Int32) (y5 : Int32) (y6 : Int32) (s0 : Int32) (s1 : Nat) (s2 : Int32) (H : Heap) (locs : List Loc) (ls : Array Slot), f_M_entry_b158 j0 x3 M y4 y5 y6 s0 s1 s2 = (some (MZ, RZ)) → (y4 = 1 ∨ y4 = 0) → (y6 = 1 ∨ y6 = 0) → (s1 < N 13) → me_wf N M → me_kp M0 M → va_P D classes (me_W ad ca M) H → va_D A (me_W ad ca M) → va_S A s.heap H locs → lv_has ls 8 [(0, .ref (ad 1 j0)), (3, .int x3), (4, .int y4), (5, .int y5), (6, .int y6)] → W p l e rm_M_entry s m [.ref (ad 1 j0), .int x1, .int x2, .int x3].toArray below meth c H locs 0 0 (MQ below (q_M_entry D ad ca N M0 MZ RZ A) [.ref (ad 1 j0), .int x1, .int x2, .int x3].toArray s rm_M_entry.cells rm_M_entry.slots A) (F0 m 158 ls [.int s0, .ref (ad 13 s1), .int s2]) := by
    intro M y4 y5 y6 s0 s1 s2 H locs ls h zy4 zy6 hs1 hwf hkp hP hD hS hl
    unfold f_M_entry_b158 at h
    have hkb := hkp
    obtain ⟨g20, h⟩ := gd_ob h
    refine me_iald hx hb hK hP hwf hs1 g20 d_M_entry_158 ?_
    refine lv_icmp_ge (tgt := 166) hx hb d_M_entry_159 (by decide) (fun c21 => ?_) (fun c21 => ?_)
    · have h := if_t c21 h
      exact b_166 M y4 y5 y6 _ _ _ h zy4 zy6 hwf hkp hP hD hS (lv_sub hl [0, 1, 2, 3, 4] rfl)
    have h := if_f c21 h
    refine lv_iconst (v := 1) hx hb d_M_entry_162 (by decide) ?_
    refine lv_goto (tgt := 167) hx hb d_M_entry_163 (by decide) ?_
    exact b_167 M y4 y5 y6 (1 : Int32) _ _ _ h zy4 zy6 (by decide) hwf hkp hP hD hS (lv_sub hl [0, 1, 2, 3, 4] rfl)
  have b_125 : ∀ (M : me_M) (y4 : Int32) (y5 : Int32) (s0 : Int32) (H : Heap) (locs : List Loc) (ls : Array Slot), f_M_entry_b125 j0 x1 x3 M y4 y5 s0 = (some (MZ, RZ)) → (y4 = 1 ∨ y4 = 0) → (s0 = 1 ∨ s0 = 0) → me_wf N M → me_kp M0 M → va_P D classes (me_W ad ca M) H → va_D A (me_W ad ca M) → va_S A s.heap H locs → lv_has ls 8 [(0, .ref (ad 1 j0)), (1, .int x1), (3, .int x3), (4, .int y4), (5, .int y5)] → W p l e rm_M_entry s m [.ref (ad 1 j0), .int x1, .int x2, .int x3].toArray below meth c H locs 0 0 (MQ below (q_M_entry D ad ca N M0 MZ RZ A) [.ref (ad 1 j0), .int x1, .int x2, .int x3].toArray s rm_M_entry.cells rm_M_entry.slots A) (F0 m 125 ls [.int s0]) := by
    intro M y4 y5 s0 H locs ls h zy4 zs0 hwf hkp hP hD hS hl
    unfold f_M_entry_b125 at h
    have hkb := hkp
    refine lv_istore (lv' := [(6, .int s0), (0, .ref (ad 1 j0)), (1, .int x1), (3, .int x3), (4, .int y4), (5, .int y5)]) hx hb d_M_entry_125 hl (by decide) rfl (fun ls hl => ?_)
    refine lv_iload hx hb d_M_entry_127 (lv_at hl 4 rfl) ?_
    refine lv_if_eq (tgt := 166) hx hb d_M_entry_129 (by decide) (fun c22 => ?_) (fun c22 => ?_)
    · have h := if_t c22 h
      exact b_166 M y4 y5 s0 _ _ _ h zy4 zs0 hwf hkp hP hD hS (lv_sub hl [1, 3, 4, 5, 0] rfl)
    have h := if_f c22 h
    refine lv_iload_n hx hb d_M_entry_132 rfl (lv_at hl 3 rfl) ?_
    refine lv_sipush (v := 200) hx hb d_M_entry_133 (by decide) ?_
    refine lv_icmp_lt (tgt := 166) hx hb d_M_entry_136 (by decide) (fun c23 => ?_) (fun c23 => ?_)
    · have h := if_t c23 h
      exact b_166 M y4 y5 s0 _ _ _ h zy4 zs0 hwf hkp hP hD hS (lv_sub hl [1, 3, 4, 5, 0] rfl)
    have h := if_f c23 h
    refine lv_iload_n hx hb d_M_entry_139 rfl (lv_at hl 3 rfl) ?_
    refine lv_sipush (v := 200) hx hb d_M_entry_140 (by decide) ?_
    refine lv_isub hx hb d_M_entry_143 ?_
    refine lv_aload_n hx hb d_M_entry_144 rfl (lv_at hl 1 rfl) ?_
    refine g_M_7 hx hb hts hown hK hP hwf hj0 (hts _ u_1748) d_M_entry_145 ?_
    obtain ⟨j24, e25, h⟩ := bd_ob h
    have hj24 : j24 < N 13 := (hwf.2.1 1 j0 7 _ e25 (by decide) hj0)
    refine me_opt (j := j24) e25 ?_
    refine lv_iload hx hb d_M_entry_148 (lv_at hl 4 rfl) ?_
    refine lv_if_eq (tgt := 157) hx hb d_M_entry_150 (by decide) (fun c26 => ?_) (fun c26 => ?_)
    · have h := if_t c26 h
      refine lv_iconst (v := 0) hx hb d_M_entry_157 (by decide) ?_
      exact b_158 M y4 y5 s0 (0 : Int32) j24 (x3 - 200) _ _ _ h zy4 zs0 hj24 hwf hkp hP hD hS (lv_sub hl [1, 3, 4, 5, 0] rfl)
    have h := if_f c26 h
    refine lv_iload_n hx hb d_M_entry_153 rfl (lv_at hl 2 rfl) ?_
    refine lv_goto (tgt := 158) hx hb d_M_entry_154 (by decide) ?_
    exact b_158 M y4 y5 s0 x1 j24 (x3 - 200) _ _ _ h zy4 zs0 hj24 hwf hkp hP hD hS (lv_sub hl [1, 3, 4, 5, 0] rfl)
  have b_124 : ∀ (M : me_M) (y4 : Int32) (y5 : Int32) (H : Heap) (locs : List Loc) (ls : Array Slot), f_M_entry_b124 j0 x1 x3 M y4 y5 = (some (MZ, RZ)) → (y4 = 1 ∨ y4 = 0) → me_wf N M → me_kp M0 M → va_P D classes (me_W ad ca M) H → va_D A (me_W ad ca M) → va_S A s.heap H locs → lv_has ls 8 [(0, .ref (ad 1 j0)), (1, .int x1), (3, .int x3), (4, .int y4), (5, .int y5)] → W p l e rm_M_entry s m [.ref (ad 1 j0), .int x1, .int x2, .int x3].toArray below meth c H locs 0 0 (MQ below (q_M_entry D ad ca N M0 MZ RZ A) [.ref (ad 1 j0), .int x1, .int x2, .int x3].toArray s rm_M_entry.cells rm_M_entry.slots A) (F0 m 124 ls []) := by
    intro M y4 y5 H locs ls h zy4 hwf hkp hP hD hS hl
    unfold f_M_entry_b124 at h
    have hkb := hkp
    refine lv_iconst (v := 0) hx hb d_M_entry_124 (by decide) ?_
    exact b_125 M y4 y5 (0 : Int32) _ _ _ h zy4 (by decide) hwf hkp hP hD hS (lv_sub hl [0, 1, 2, 3, 4] rfl)
  have b_116 : ∀ (M : me_M) (y4 : Int32) (y5 : Int32) (s0 : Int32) (s1 : Nat) (s2 : Int32) (H : Heap) (locs : List Loc) (ls : Array Slot), f_M_entry_b116 j0 x1 x3 M y4 y5 s0 s1 s2 = (some (MZ, RZ)) → (y4 = 1 ∨ y4 = 0) → (s1 < N 13) → me_wf N M → me_kp M0 M → va_P D classes (me_W ad ca M) H → va_D A (me_W ad ca M) → va_S A s.heap H locs → lv_has ls 8 [(0, .ref (ad 1 j0)), (1, .int x1), (3, .int x3), (4, .int y4), (5, .int y5)] → W p l e rm_M_entry s m [.ref (ad 1 j0), .int x1, .int x2, .int x3].toArray below meth c H locs 0 0 (MQ below (q_M_entry D ad ca N M0 MZ RZ A) [.ref (ad 1 j0), .int x1, .int x2, .int x3].toArray s rm_M_entry.cells rm_M_entry.slots A) (F0 m 116 ls [.int s0, .ref (ad 13 s1), .int s2]) := by
    intro M y4 y5 s0 s1 s2 H locs ls h zy4 hs1 hwf hkp hP hD hS hl
    unfold f_M_entry_b116 at h
    have hkb := hkp
    obtain ⟨g27, h⟩ := gd_ob h
    refine me_iald hx hb hK hP hwf hs1 g27 d_M_entry_116 ?_
    refine lv_icmp_ge (tgt := 124) hx hb d_M_entry_117 (by decide) (fun c28 => ?_) (fun c28 => ?_)
    · have h := if_t c28 h
      exact b_124 M y4 y5 _ _ _ h zy4 hwf hkp hP hD hS (lv_sub hl [0, 1, 2, 3, 4] rfl)
    have h := if_f c28 h
    refine lv_iconst (v := 1) hx hb d_M_entry_120 (by decide) ?_
    refine lv_goto (tgt := 125) hx hb d_M_entry_121 (by decide) ?_
    exact b_125 M y4 y5 (1 : Int32) _ _ _ h zy4 (by decide) hwf hkp hP hD hS (lv_sub hl [0, 1, 2, 3, 4] rfl)
  have b_77 : ∀ (M : me_M) (y4 : Int32) (y5 : Int32) (s0 : Int32) (s1 : Nat) (H : Heap) (locs : List Loc) (ls : Array Slot), f_M_entry_b77 j0 x1 x3 M y4 y5 s0 s1 = (some (MZ, RZ)) → (y4 = 1 ∨ y4 = 0) → (s1 < N 13) → me_wf N M → me_kp M0 M → va_P D classes (me_W ad ca M) H → va_D A (me_W ad ca M) → va_S A s.heap H locs → lv_has ls 8 [(0, .ref (ad 1 j0)), (1, .int x1), (3, .int x3), (4, .int y4), (5, .int y5)] → W p l e rm_M_entry s m [.ref (ad 1 j0), .int x1, .int x2, .int x3].toArray below meth c H locs 0 0 (MQ below (q_M_entry D ad ca N M0 MZ RZ A) [.ref (ad 1 j0), .int x1, .int x2, .int x3].toArray s rm_M_entry.cells rm_M_entry.slots A) (F0 m 77 ls [.int s0, .ref (ad 13 s1)]) := by
    intro M y4 y5 s0 s1 H locs ls h zy4 hs1 hwf hkp hP hD hS hl
    unfold f_M_entry_b77 at h
    have hkb := hkp
    obtain ⟨g29, h⟩ := gd_ob h
    refine me_iald hx hb hK hP hwf hs1 g29 d_M_entry_77 ?_
    refine lv_iconst (v := 1) hx hb d_M_entry_78 (by decide) ?_
    refine lv_icmp_ne (tgt := 124) hx hb d_M_entry_79 (by decide) (fun c30 => ?_) (fun c30 => ?_)
    · have h := if_f c30 h
      exact b_124 M y4 y5 _ _ _ h zy4 hwf hkp hP hD hS (lv_sub hl [0, 1, 2, 3, 4] rfl)
    have h := if_t c30 h
    refine lv_aload_n hx hb d_M_entry_82 rfl (lv_at hl 0 rfl) ?_
    refine g_M_9 hx hb hts hown hK hP hwf hj0 (hts _ u_1750) d_M_entry_83 ?_
    obtain ⟨j31, e32, h⟩ := bd_ob h
    have hj31 : j31 < N 15 := (hwf.2.1 1 j0 9 _ e32 (by decide) hj0)
    refine me_opt (j := j31) e32 ?_
    refine lv_iload hx hb d_M_entry_86 (lv_at hl 4 rfl) ?_
    obtain ⟨g33, h⟩ := gd_ob h
    refine me_zald hx hb hK hP hwf hj31 g33 d_M_entry_88 ?_
    have z34 := hwf.2.2.2 15 j31 y5.toNatClampNeg rfl
    refine lv_if_eq (tgt := 124) hx hb d_M_entry_89 (by decide) (fun c35 => ?_) (fun c35 => ?_)
    · have h := if_t c35 h
      exact b_124 M y4 y5 _ _ _ h zy4 hwf hkp hP hD hS (lv_sub hl [0, 1, 2, 3, 4] rfl)
    have h := if_f c35 h
    refine lv_iload_n hx hb d_M_entry_92 rfl (lv_at hl 2 rfl) ?_
    refine lv_bipush (v := 100) hx hb d_M_entry_93 (by decide) ?_
    refine lv_icmp_lt (tgt := 124) hx hb d_M_entry_95 (by decide) (fun c36 => ?_) (fun c36 => ?_)
    · have h := if_t c36 h
      exact b_124 M y4 y5 _ _ _ h zy4 hwf hkp hP hD hS (lv_sub hl [0, 1, 2, 3, 4] rfl)
    have h := if_f c36 h
    refine lv_iload_n hx hb d_M_entry_98 rfl (lv_at hl 2 rfl) ?_
    refine lv_bipush (v := 100) hx hb d_M_entry_99 (by decide) ?_
    refine lv_isub hx hb d_M_entry_101 ?_
    refine lv_aload_n hx hb d_M_entry_102 rfl (lv_at hl 0 rfl) ?_
    refine g_M_6 hx hb hts hown hK hP hwf hj0 (hts _ u_1747) d_M_entry_103 ?_
    obtain ⟨j37, e38, h⟩ := bd_ob h
    have hj37 : j37 < N 13 := (hwf.2.1 1 j0 6 _ e38 (by decide) hj0)
    refine me_opt (j := j37) e38 ?_
    refine lv_iload hx hb d_M_entry_106 (lv_at hl 3 rfl) ?_
    refine lv_if_eq (tgt := 115) hx hb d_M_entry_108 (by decide) (fun c39 => ?_) (fun c39 => ?_)
    · have h := if_t c39 h
      refine lv_iconst (v := 0) hx hb d_M_entry_115 (by decide) ?_
      exact b_116 M y4 y5 (0 : Int32) j37 (x3 - 100) _ _ _ h zy4 hj37 hwf hkp hP hD hS (lv_sub hl [0, 1, 2, 3, 4] rfl)
    have h := if_f c39 h
    refine lv_iload_n hx hb d_M_entry_111 rfl (lv_at hl 1 rfl) ?_
    refine lv_goto (tgt := 116) hx hb d_M_entry_112 (by decide) ?_
    exact b_116 M y4 y5 x1 j37 (x3 - 100) _ _ _ h zy4 hj37 hwf hkp hP hD hS (lv_sub hl [0, 1, 2, 3, 4] rfl)
  have b_56 : ∀ (M : me_M) (y4 : Int32) (s0 : Int32) (H : Heap) (locs : List Loc) (ls : Array Slot), f_M_entry_b56 j0 x1 x3 M y4 s0 = (some (MZ, RZ)) → (y4 = 1 ∨ y4 = 0) → me_wf N M → me_kp M0 M → va_P D classes (me_W ad ca M) H → va_D A (me_W ad ca M) → va_S A s.heap H locs → lv_has ls 8 [(0, .ref (ad 1 j0)), (1, .int x1), (3, .int x3), (4, .int y4)] → W p l e rm_M_entry s m [.ref (ad 1 j0), .int x1, .int x2, .int x3].toArray below meth c H locs 0 0 (MQ below (q_M_entry D ad ca N M0 MZ RZ A) [.ref (ad 1 j0), .int x1, .int x2, .int x3].toArray s rm_M_entry.cells rm_M_entry.slots A) (F0 m 56 ls [.int s0]) := by
    intro M y4 s0 H locs ls h zy4 hwf hkp hP hD hS hl
    unfold f_M_entry_b56 at h
    have hkb := hkp
    refine lv_istore (lv' := [(5, .int s0), (0, .ref (ad 1 j0)), (1, .int x1), (3, .int x3), (4, .int y4)]) hx hb d_M_entry_56 hl (by decide) rfl (fun ls hl => ?_)
    refine lv_iload hx hb d_M_entry_58 (lv_at hl 4 rfl) ?_
    refine lv_if_eq (tgt := 124) hx hb d_M_entry_60 (by decide) (fun c40 => ?_) (fun c40 => ?_)
    · have h := if_t c40 h
      exact b_124 M y4 s0 _ _ _ h zy4 hwf hkp hP hD hS (lv_sub hl [1, 2, 3, 4, 0] rfl)
    have h := if_f c40 h
    refine lv_aload_n hx hb d_M_entry_63 rfl (lv_at hl 1 rfl) ?_
    refine g_M_5 hx hb hts hown hK hP hwf hj0 (hts _ u_1746) d_M_entry_64 ?_
    obtain ⟨j41, e42, h⟩ := bd_ob h
    have hj41 : j41 < N 13 := (hwf.2.1 1 j0 5 _ e42 (by decide) hj0)
    refine me_opt (j := j41) e42 ?_
    refine lv_iload hx hb d_M_entry_67 (lv_at hl 4 rfl) ?_
    refine lv_if_eq (tgt := 76) hx hb d_M_entry_69 (by decide) (fun c43 => ?_) (fun c43 => ?_)
    · have h := if_t c43 h
      refine lv_iconst (v := 0) hx hb d_M_entry_76 (by decide) ?_
      exact b_77 M y4 s0 (0 : Int32) j41 _ _ _ h zy4 hj41 hwf hkp hP hD hS (lv_sub hl [1, 2, 3, 4, 0] rfl)
    have h := if_f c43 h
    refine lv_iload_n hx hb d_M_entry_72 rfl (lv_at hl 2 rfl) ?_
    refine lv_goto (tgt := 77) hx hb d_M_entry_73 (by decide) ?_
    exact b_77 M y4 s0 x1 j41 _ _ _ h zy4 hj41 hwf hkp hP hD hS (lv_sub hl [1, 2, 3, 4, 0] rfl)
  have b_39 : ∀ (M : me_M) (s0 : Int32) (H : Heap) (locs : List Loc) (ls : Array Slot), f_M_entry_b39 j0 x1 x2 x3 M s0 = (some (MZ, RZ)) → (s0 = 1 ∨ s0 = 0) → me_wf N M → me_kp M0 M → va_P D classes (me_W ad ca M) H → va_D A (me_W ad ca M) → va_S A s.heap H locs → lv_has ls 8 [(0, .ref (ad 1 j0)), (1, .int x1), (2, .int x2), (3, .int x3)] → W p l e rm_M_entry s m [.ref (ad 1 j0), .int x1, .int x2, .int x3].toArray below meth c H locs 0 0 (MQ below (q_M_entry D ad ca N M0 MZ RZ A) [.ref (ad 1 j0), .int x1, .int x2, .int x3].toArray s rm_M_entry.cells rm_M_entry.slots A) (F0 m 39 ls [.int s0]) := by
    intro M s0 H locs ls h zs0 hwf hkp hP hD hS hl
    unfold f_M_entry_b39 at h
    have hkb := hkp
    refine lv_istore (lv' := [(4, .int s0), (0, .ref (ad 1 j0)), (1, .int x1), (2, .int x2), (3, .int x3)]) hx hb d_M_entry_39 hl (by decide) rfl (fun ls hl => ?_)
    refine lv_iload hx hb d_M_entry_41 (lv_at hl 0 rfl) ?_
    refine lv_if_eq (tgt := 55) hx hb d_M_entry_43 (by decide) (fun c44 => ?_) (fun c44 => ?_)
    · have h := if_t c44 h
      refine lv_iconst (v := 0) hx hb d_M_entry_55 (by decide) ?_
      exact b_56 M s0 (0 : Int32) _ _ _ h zs0 hwf hkp hP hD hS (lv_sub hl [1, 2, 4, 0] rfl)
    have h := if_f c44 h
    refine lv_bipush (v := 64) hx hb d_M_entry_46 (by decide) ?_
    refine lv_iload_n hx hb d_M_entry_48 rfl (lv_at hl 2 rfl) ?_
    refine lv_imul hx hb d_M_entry_49 ?_
    refine lv_iload_n hx hb d_M_entry_50 rfl (lv_at hl 3 rfl) ?_
    refine lv_iadd hx hb d_M_entry_51 ?_
    refine lv_goto (tgt := 56) hx hb d_M_entry_52 (by decide) ?_
    exact b_56 M s0 ((64 * x1) + x2) _ _ _ h zs0 hwf hkp hP hD hS (lv_sub hl [1, 2, 4, 0] rfl)
  have b_38 : ∀ (M : me_M) (H : Heap) (locs : List Loc) (ls : Array Slot), f_M_entry_b38 j0 x1 x2 x3 M = (some (MZ, RZ)) → me_wf N M → me_kp M0 M → va_P D classes (me_W ad ca M) H → va_D A (me_W ad ca M) → va_S A s.heap H locs → lv_has ls 8 [(0, .ref (ad 1 j0)), (1, .int x1), (2, .int x2), (3, .int x3)] → W p l e rm_M_entry s m [.ref (ad 1 j0), .int x1, .int x2, .int x3].toArray below meth c H locs 0 0 (MQ below (q_M_entry D ad ca N M0 MZ RZ A) [.ref (ad 1 j0), .int x1, .int x2, .int x3].toArray s rm_M_entry.cells rm_M_entry.slots A) (F0 m 38 ls []) := by
    intro M H locs ls h hwf hkp hP hD hS hl
    unfold f_M_entry_b38 at h
    have hkb := hkp
    refine lv_iconst (v := 0) hx hb d_M_entry_38 (by decide) ?_
    exact b_39 M (0 : Int32) _ _ _ h (by decide) hwf hkp hP hD hS (lv_sub hl [0, 1, 2, 3] rfl)
  have b_30 : ∀ (M : me_M) (s0 : Int32) (s1 : Nat) (s2 : Int32) (H : Heap) (locs : List Loc) (ls : Array Slot), f_M_entry_b30 j0 x1 x2 x3 M s0 s1 s2 = (some (MZ, RZ)) → (s1 < N 13) → me_wf N M → me_kp M0 M → va_P D classes (me_W ad ca M) H → va_D A (me_W ad ca M) → va_S A s.heap H locs → lv_has ls 8 [(0, .ref (ad 1 j0)), (1, .int x1), (2, .int x2), (3, .int x3)] → W p l e rm_M_entry s m [.ref (ad 1 j0), .int x1, .int x2, .int x3].toArray below meth c H locs 0 0 (MQ below (q_M_entry D ad ca N M0 MZ RZ A) [.ref (ad 1 j0), .int x1, .int x2, .int x3].toArray s rm_M_entry.cells rm_M_entry.slots A) (F0 m 30 ls [.int s0, .ref (ad 13 s1), .int s2]) := by
    intro M s0 s1 s2 H locs ls h hs1 hwf hkp hP hD hS hl
    unfold f_M_entry_b30 at h
    have hkb := hkp
    obtain ⟨g45, h⟩ := gd_ob h
    refine me_iald hx hb hK hP hwf hs1 g45 d_M_entry_30 ?_
    refine lv_icmp_ge (tgt := 38) hx hb d_M_entry_31 (by decide) (fun c46 => ?_) (fun c46 => ?_)
    · have h := if_t c46 h
      exact b_38 M _ _ _ h hwf hkp hP hD hS (lv_sub hl [0, 1, 2, 3] rfl)
    have h := if_f c46 h
    refine lv_iconst (v := 1) hx hb d_M_entry_34 (by decide) ?_
    refine lv_goto (tgt := 39) hx hb d_M_entry_35 (by decide) ?_
    exact b_39 M (1 : Int32) _ _ _ h (by decide) hwf hkp hP hD hS (lv_sub hl [0, 1, 2, 3] rfl)
  refine lv_aload_n hx hb d_M_entry_0 rfl (lv_at hl 0 rfl) ?_
  refine lv_iload_n hx hb d_M_entry_1 rfl (lv_at hl 1 rfl) ?_
  obtain ⟨M47, r48, eM47, h⟩ := b2_ob h
  refine me_theni0 (M1 := M47) (me_runV (C := "FilterGuardModel") (As := [.int x1]) (rest := []) ⟨hx, hb, hml, hown, hts⟩ (c_M_isMap l D ad ca N M0 M47 r48 j0 x1 eM47 hwf hj0 _) rfl (by show fg_nm y_M_isMap 1; decide +kernel) u_2427 u_2429 u_167 u_192 u_2430 ⟨Nat.le_of_ble_eq_true rfl, Nat.le_of_ble_eq_true rfl⟩ hX hz hK hP hD hwf hS hA hj0 (by decide) rfl rfl rfl hl.1 (Nat.le_of_ble_eq_true rfl) d_M_entry_2 ⟨Nat.le_of_ble_eq_true rfl, Nat.le_of_ble_eq_true rfl⟩) hP hD hK hS hA rfl rfl (fun H locs hw hP hD hS => ?_)
  obtain ⟨hwf, hk9, zr48⟩ := hw
  have hkp := hkp.tr hk9
  refine lv_if_eq (tgt := 38) hx hb d_M_entry_5 (by decide) (fun c49 => ?_) (fun c49 => ?_)
  · have h := if_t c49 h
    exact b_38 M47 _ _ _ h hwf hkp hP hD hS (lv_sub hl [0, 1, 2, 3] rfl)
  have h := if_f c49 h
  refine lv_iload_n hx hb d_M_entry_8 rfl (lv_at hl 2 rfl) ?_
  refine lv_if_lt (tgt := 38) hx hb d_M_entry_9 (by decide) (fun c50 => ?_) (fun c50 => ?_)
  · have h := if_t c50 h
    exact b_38 M47 _ _ _ h hwf hkp hP hD hS (lv_sub hl [0, 1, 2, 3] rfl)
  have h := if_f c50 h
  refine lv_iload_n hx hb d_M_entry_12 rfl (lv_at hl 2 rfl) ?_
  refine lv_aload_n hx hb d_M_entry_13 rfl (lv_at hl 0 rfl) ?_
  refine g_M_8 hx hb hts hown hK hP hwf hj0 (hts _ u_1749) d_M_entry_14 ?_
  obtain ⟨j51, e52, h⟩ := bd_ob h
  have hj51 : j51 < N 13 := (hwf.2.1 1 j0 8 _ (kp_r hkb hkp e52) (by decide) hj0)
  refine me_opt (j := j51) (kp_r hkb hkp e52) ?_
  refine lv_aload_n hx hb d_M_entry_17 rfl (lv_at hl 0 rfl) ?_
  refine lv_iload_n hx hb d_M_entry_18 rfl (lv_at hl 1 rfl) ?_
  obtain ⟨M53, r54, eM53, h⟩ := b2_ob h
  refine me_theni0 (M1 := M53) (me_runV (C := "FilterGuardModel") (As := [.int x1]) (rest := [.ref (ad 13 j51), .int x2]) ⟨hx, hb, hml, hown, hts⟩ (c_M_isMap l D ad ca N M47 M53 r54 j0 x1 eM53 hwf hj0 _) rfl (by show fg_nm y_M_isMap 1; decide +kernel) u_2427 u_2429 u_167 u_192 u_2430 ⟨Nat.le_of_ble_eq_true rfl, Nat.le_of_ble_eq_true rfl⟩ hX hz hK hP hD hwf hS hA hj0 (by decide) rfl rfl rfl hl.1 (Nat.le_of_ble_eq_true rfl) d_M_entry_19 ⟨Nat.le_of_ble_eq_true rfl, Nat.le_of_ble_eq_true rfl⟩) hP hD hK hS hA rfl rfl (fun H locs hw hP hD hS => ?_)
  obtain ⟨hwf, hk9, zr54⟩ := hw
  have hkp := hkp.tr hk9
  refine lv_if_eq (tgt := 29) hx hb d_M_entry_22 (by decide) (fun c55 => ?_) (fun c55 => ?_)
  · have h := if_t c55 h
    refine lv_iconst (v := 0) hx hb d_M_entry_29 (by decide) ?_
    exact b_30 M53 (0 : Int32) j51 x2 _ _ _ h hj51 hwf hkp hP hD hS (lv_sub hl [0, 1, 2, 3] rfl)
  have h := if_f c55 h
  refine lv_iload_n hx hb d_M_entry_25 rfl (lv_at hl 1 rfl) ?_
  refine lv_goto (tgt := 30) hx hb d_M_entry_26 (by decide) ?_
  exact b_30 M53 x1 j51 x2 _ _ _ h hj51 hwf hkp hP hD hS (lv_sub hl [0, 1, 2, 3] rfl)
