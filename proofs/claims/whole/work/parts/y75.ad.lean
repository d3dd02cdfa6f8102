theorem d_M_settle_4 : decode prog_14_method_17_code 4 = .ok (.iload_n 3, 1) := by decide +kernel
theorem d_M_settle_5 : decode prog_14_method_17_code 5 = .ok (.iconst 3, 1) := by decide +kernel
theorem d_M_settle_6 : decode prog_14_method_17_code 6 = .ok (.if_icmp .ge 51, 3) := by decide +kernel
theorem d_M_settle_57 : decode prog_14_method_17_code 57 = .ok (.iload_n 2, 1) := by decide +kernel
theorem d_M_settle_58 : decode prog_14_method_17_code 58 = .ok (.ireturn, 1) := by decide +kernel
theorem d_M_settle_9 : decode prog_14_method_17_code 9 = .ok (.iload_n 2, 1) := by decide +kernel
theorem d_M_settle_10 : decode prog_14_method_17_code 10 = .ok (.ifCond .eq 47, 3) := by decide +kernel
theorem d_M_settle_13 : decode prog_14_method_17_code 13 = .ok (.aload_n 0, 1) := by decide +kernel
theorem d_M_settle_14 : decode prog_14_method_17_code 14 = .ok (.iload_n 1, 1) := by decide +kernel
theorem d_M_settle_15 : decode prog_14_method_17_code 15 = .ok (.invokevirtual 180, 3) := by decide +kernel
theorem u_2147 : Cond.methodLink "FilterGuardModel" 180 ⟨"FilterGuardModel", "byBits", "(I)Z"⟩ ∈ fg_g := fg_in (List.mem_of_getElem? (i := 2147) (by decide +kernel)) rfl
theorem u_2150 : Cond.code ⟨"FilterGuardModel", "byBits", "(I)Z"⟩ prog_14_method_13_code 2 (some .boolean) ∈ fg_g := fg_in (List.mem_of_getElem? (i := 2150) (by decide +kernel)) rfl
theorem u_2149 : Cond.instanceMethod ⟨"FilterGuardModel", "byBits", "(I)Z"⟩ ∈ fg_g := fg_in (List.mem_of_getElem? (i := 2149) (by decide +kernel)) rfl
theorem u_114 : Cond.selects "FilterGuardModel" ⟨"FilterGuardModel", "byBits", "(I)Z"⟩ ⟨"FilterGuardModel", "byBits", "(I)Z"⟩ ∈ fg_g := fg_in (List.mem_of_getElem? (i := 114) (by decide +kernel)) rfl
theorem d_M_settle_18 : decode prog_14_method_17_code 18 = .ok (.ifCond .eq 31, 3) := by decide +kernel
theorem d_M_settle_49 : decode prog_14_method_17_code 49 = .ok (.iconst 0, 1) := by decide +kernel
theorem d_M_settle_50 : decode prog_14_method_17_code 50 = .ok (.istore_n 2, 1) := by decide +kernel
theorem d_M_settle_51 : decode prog_14_method_17_code 51 = .ok (.iinc 3 1, 3) := by decide +kernel
theorem d_M_settle_54 : decode prog_14_method_17_code 54 = .ok (.goto (-50), 3) := by decide +kernel
theorem d_M_settle_21 : decode prog_14_method_17_code 21 = .ok (.aload_n 0, 1) := by decide +kernel
theorem d_M_settle_22 : decode prog_14_method_17_code 22 = .ok (.iload_n 1, 1) := by decide +kernel
theorem d_M_settle_23 : decode prog_14_method_17_code 23 = .ok (.invokevirtual 183, 3) := by decide +kernel
theorem u_2161 : Cond.methodLink "FilterGuardModel" 183 ⟨"FilterGuardModel", "toSigned", "(I)Z"⟩ ∈ fg_g := fg_in (List.mem_of_getElem? (i := 2161) (by decide +kernel)) rfl
theorem u_2164 : Cond.code ⟨"FilterGuardModel", "toSigned", "(I)Z"⟩ prog_14_method_14_code 2 (some .boolean) ∈ fg_g := fg_in (List.mem_of_getElem? (i := 2164) (by decide +kernel)) rfl
theorem u_2163 : Cond.instanceMethod ⟨"FilterGuardModel", "toSigned", "(I)Z"⟩ ∈ fg_g := fg_in (List.mem_of_getElem? (i := 2163) (by decide +kernel)) rfl
theorem u_116 : Cond.selects "FilterGuardModel" ⟨"FilterGuardModel", "toSigned", "(I)Z"⟩ ⟨"FilterGuardModel", "toSigned", "(I)Z"⟩ ∈ fg_g := fg_in (List.mem_of_getElem? (i := 116) (by decide +kernel)) rfl
theorem d_M_settle_26 : decode prog_14_method_17_code 26 = .ok (.ifCond .eq 23, 3) := by decide +kernel
theorem d_M_settle_29 : decode prog_14_method_17_code 29 = .ok (.aload_n 0, 1) := by decide +kernel
theorem d_M_settle_30 : decode prog_14_method_17_code 30 = .ok (.iload_n 1, 1) := by decide +kernel
theorem d_M_settle_31 : decode prog_14_method_17_code 31 = .ok (.invokevirtual 186, 3) := by decide +kernel
theorem u_2165 : Cond.methodLink "FilterGuardModel" 186 ⟨"FilterGuardModel", "toUnsigned", "(I)Z"⟩ ∈ fg_g := fg_in (List.mem_of_getElem? (i := 2165) (by decide +kernel)) rfl
theorem u_2168 : Cond.code ⟨"FilterGuardModel", "toUnsigned", "(I)Z"⟩ prog_14_method_15_code 2 (some .boolean) ∈ fg_g := fg_in (List.mem_of_getElem? (i := 2168) (by decide +kernel)) rfl
theorem u_2167 : Cond.instanceMethod ⟨"FilterGuardModel", "toUnsigned", "(I)Z"⟩ ∈ fg_g := fg_in (List.mem_of_getElem? (i := 2167) (by decide +kernel)) rfl
theorem u_117 : Cond.selects "FilterGuardModel" ⟨"FilterGuardModel", "toUnsigned", "(I)Z"⟩ ⟨"FilterGuardModel", "toUnsigned", "(I)Z"⟩ ∈ fg_g := fg_in (List.mem_of_getElem? (i := 117) (by decide +kernel)) rfl
theorem d_M_settle_34 : decode prog_14_method_17_code 34 = .ok (.ifCond .eq 15, 3) := by decide +kernel
theorem d_M_settle_37 : decode prog_14_method_17_code 37 = .ok (.aload_n 0, 1) := by decide +kernel
theorem d_M_settle_38 : decode prog_14_method_17_code 38 = .ok (.iload_n 1, 1) := by decide +kernel
theorem d_M_settle_39 : decode prog_14_method_17_code 39 = .ok (.invokevirtual 189, 3) := by decide +kernel
theorem u_2169 : Cond.methodLink "FilterGuardModel" 189 ⟨"FilterGuardModel", "toBits", "(I)Z"⟩ ∈ fg_g := fg_in (List.mem_of_getElem? (i := 2169) (by decide +kernel)) rfl
theorem u_2172 : Cond.code ⟨"FilterGuardModel", "toBits", "(I)Z"⟩ prog_14_method_16_code 4 (some .boolean) ∈ fg_g := fg_in (List.mem_of_getElem? (i := 2172) (by decide +kernel)) rfl
theorem u_2171 : Cond.instanceMethod ⟨"FilterGuardModel", "toBits", "(I)Z"⟩ ∈ fg_g := fg_in (List.mem_of_getElem? (i := 2171) (by decide +kernel)) rfl
theorem u_118 : Cond.selects "FilterGuardModel" ⟨"FilterGuardModel", "toBits", "(I)Z"⟩ ⟨"FilterGuardModel", "toBits", "(I)Z"⟩ ∈ fg_g := fg_in (List.mem_of_getElem? (i := 118) (by decide +kernel)) rfl
theorem d_M_settle_42 : decode prog_14_method_17_code 42 = .ok (.ifCond .eq 7, 3) := by decide +kernel
theorem d_M_settle_45 : decode prog_14_method_17_code 45 = .ok (.iconst 1, 1) := by decide +kernel
theorem d_M_settle_46 : decode prog_14_method_17_code 46 = .ok (.goto 4, 3) := by decide +kernel
theorem d_M_settle_0 : decode prog_14_method_17_code 0 = .ok (.iconst 1, 1) := by decide +kernel
theorem d_M_settle_1 : decode prog_14_method_17_code 1 = .ok (.istore_n 2, 1) := by decide +kernel
theorem d_M_settle_2 : decode prog_14_method_17_code 2 = .ok (.iconst 0, 1) := by decide +kernel
theorem d_M_settle_3 : decode prog_14_method_17_code 3 = .ok (.istore_n 3, 1) := by decide +kernel
abbrev y_M_settle : MethodName := ⟨"FilterGuardModel", "settle", "(I)Z"⟩
def rm_M_settle : Room := { frames := 4, cells := 0, slots := 0, locals := 87 }
abbrev q_M_settle (D : va_G) (ad : Nat → Nat → Nat) (ca : Nat → ClassId) (N : Nat → Nat) (M0 MZ : me_M) (RZ : Int32) (A : Nat → Prop) : Array Value → Jvm.State → Outcome → Jvm.State → Prop := va_Qi (fun r (_ : Unit) => r = RZ ∧ me_wf N MZ ∧ me_kp M0 MZ ∧ (RZ = 1 ∨ RZ = 0)) (fg_B D A (fun _ => me_W ad ca MZ) (fun _ => [])) A
set_option maxHeartbeats 4000000 in
set_option maxRecDepth 100000 in
theorem c_M_settle (l : Launch) (D : va_G) (ad : Nat → Nat → Nat) (ca : Nat → ClassId) (N : Nat → Nat) (M0 MZ : me_M) (RZ : Int32) (j0 : Nat) (x1 : Int32) (h : f_M_settle M0 j0 x1 = (some (MZ, RZ))) (hwf : me_wf N M0) (hj0 : j0 < N 1) (sz : Nat) : Met l y_M_settle (fg_w y_M_settle prog_14_method_17_code 4 (some .boolean)) rm_M_settle (va_Pc [.ref (ad 1 j0), .int x1] (fz_P D (me_T ca) (me_W ad ca M0) sz)) (q_M_settle D ad ca N M0 MZ RZ (va_A (me_W ad ca M0) sz)) rm_M_settle.cells rm_M_settle.slots (va_A (me_W ad ca M0) sz) := by
  refine fz_enter (fun A => q_M_settle D ad ca N M0 MZ RZ A) (by decide +kernel) (Nat.le_of_ble_eq_true rfl) ?_
  intro p e s m below meth c ls A hx hb hml hown hts hr hlocks hin hP hK hD hS hA hX hl hz
  have hl : lv_has ls 4 [(0, .ref (ad 1 j0)), (1, .int x1)] := hl
  unfold f_M_settle at h
  have hkp : me_kp M0 M0 := me_kp.rf
  have hkb := hkp
  have b_4 : ∀ (fu : Nat), ∀ (M : me_M) (y2 : Int32) (y3 : Int32) (H : Heap) (locs : List Loc) (ls : Array Slot), f_M_settle_l4 j0 x1 fu M y2 y3 = (some (MZ, RZ)) → (y2 = 1 ∨ y2 = 0) → me_wf N M → me_kp M0 M → va_P D classes (me_W ad ca M) H → va_D A (me_W ad ca M) → va_S A s.heap H locs → lv_has ls 4 [(0, .ref (ad 1 j0)), (1, .int x1), (2, .int y2), (3, .int y3)] → W p l e rm_M_settle s m [.ref (ad 1 j0), .int x1].toArray below meth c H locs 0 0 (MQ below (q_M_settle D ad ca N M0 MZ RZ A) [.ref (ad 1 j0), .int x1].toArray s rm_M_settle.cells rm_M_settle.slots A) (F0 m 4 ls []) := by
    intro fu
    induction fu with
    | zero =>
      intro M y2 y3 H locs ls h zy2 hwf hkp hP hD hS hl
      cases h
    | succ fu ih =>
      intro M y2 y3 H locs ls h zy2 hwf hkp hP hD hS hl
      unfold f_M_settle_l4 at h
      have hkb := hkp
      refine lv_iload_n hx hb d_M_settle_4 rfl (lv_at hl 3 rfl) ?_
      refine lv_iconst (v := 3) hx hb d_M_settle_5 (by decide) ?_
      refine lv_icmp_ge (tgt := 57) hx hb d_M_settle_6 (by decide) (fun c1 => ?_) (fun c1 => ?_)
      · have h := if_t c1 h
        refine lv_iload_n hx hb d_M_settle_57 rfl (lv_at hl 2 rfl) ?_
        exact me_retz (me_kp M0) h zy2 hx hb hr hlocks hwf hkp hP hK hD hS d_M_settle_58
      have h := if_f c1 h
      refine lv_iload_n hx hb d_M_settle_9 rfl (lv_at hl 2 rfl) ?_
      refine lv_if_eq (tgt := 57) hx hb d_M_settle_10 (by decide) (fun c2 => ?_) (fun c2 => ?_)
      · have h := if_t c2 h
        refine lv_iload_n hx hb d_M_settle_57 rfl (lv_at hl 2 rfl) ?_
        exact me_retz (me_kp M0) h zy2 hx hb hr hlocks hwf hkp hP hK hD hS d_M_settle_58
      have h := if_f c2 h
      refine lv_aload_n hx hb d_M_settle_13 rfl (lv_at hl 0 rfl) ?_
      refine lv_iload_n hx hb d_M_settle_14 rfl (lv_at hl 1 rfl) ?_
      obtain ⟨M3, r4, eM3, h⟩ := b2_ob h
      refine me_theni0 (M1 := M3) (me_runV (C := "FilterGuardModel") (As := [.int x1]) (rest := []) ⟨hx, hb, hml, hown, hts⟩ (c_M_byBits l D ad ca N M M3 r4 j0 x1 eM3 hwf hj0 _) rfl (by show fg_nm y_M_byBits 1; decide +kernel) u_2147 u_2149 u_114 u_192 u_2150 ⟨Nat.le_of_ble_eq_true rfl, Nat.le_of_ble_eq_true rfl⟩ hX hz hK hP hD hwf hS hA hj0 (by decide) rfl rfl rfl hl.1 (Nat.le_of_ble_eq_true rfl) d_M_settle_15 ⟨Nat.le_of_ble_eq_true rfl, Nat.le_of_ble_eq_true rfl⟩) hP hD hK hS hA rfl rfl (fun H locs hw hP hD hS => ?_)
      obtain ⟨hwf, hk9, zr4⟩ := hw
      have hkp := hkp.tr hk9
      refine lv_if_eq (tgt := 49) hx hb d_M_settle_18 (by decide) (fun c5 => ?_) (fun c5 => ?_)
      · have h := if_t c5 h
        refine lv_iconst (v := 0) hx hb d_M_settle_49 (by decide) ?_
        refine lv_istore_n (lv' := [(2, .int 0), (0, .ref (ad 1 j0)), (1, .int x1), (3, .int y3)]) hx hb d_M_settle_50 rfl hl (by decide) rfl (fun ls hl => ?_)
        refine lv_iinc (v := y3 + 1) (lv' := [(3, .int (y3 + 1)), (2, .int 0), (0, .ref (ad 1 j0)), (1, .int x1)]) hx hb d_M_settle_51 hl (k := 3) rfl (by rfl) (by decide) rfl (fun ls hl => ?_)
        refine lv_goto (tgt := 4) hx hb d_M_settle_54 (by decide) ?_
        exact ih M3 (0 : Int32) (y3 + 1) _ _ _ h (by decide) hwf hkp hP hD hS (lv_sub hl [2, 3, 1, 0] rfl)
      have h := if_f c5 h
      refine lv_aload_n hx hb d_M_settle_21 rfl (lv_at hl 0 rfl) ?_
      refine lv_iload_n hx hb d_M_settle_22 rfl (lv_at hl 1 rfl) ?_
      obtain ⟨M6, r7, eM6, h⟩ := b2_ob h
      refine me_theni0 (M1 := M6) (me_runV (C := "FilterGuardModel") (As := [.int x1]) (rest := []) ⟨hx, hb, hml, hown, hts⟩ (c_M_toSigned l D ad ca N M3 M6 r7 j0 x1 eM6 hwf hj0 _) rfl (by show fg_nm y_M_toSigned 1; decide +kernel) u_2161 u_2163 u_116 u_192 u_2164 ⟨Nat.le_of_ble_eq_true rfl, Nat.le_of_ble_eq_true rfl⟩ hX hz hK hP hD hwf hS hA hj0 (by decide) rfl rfl rfl hl.1 (Nat.le_of_ble_eq_true rfl) d_M_settle_23 ⟨Nat.le_of_ble_eq_true rfl, Nat.le_of_ble_eq_true rfl⟩) hP hD hK hS hA rfl rfl (fun H locs hw hP hD hS => ?_)
      obtain ⟨hwf, hk9, zr7⟩ := hw
      have hkp := hkp.tr hk9
      refine lv_if_eq (tgt := 49) hx hb d_M_settle_26 (by decide) (fun c8 => ?_) (fun c8 => ?_)
      · have h := if_t c8 h
        refine lv_iconst (v := 0) hx hb d_M_settle_49 (by decide) ?_
        refine lv_istore_n (lv' := [(2, .int 0), (0, .ref (ad 1 j0)), (1, .int x1), (3, .int y3)]) hx hb d_M_settle_50 rfl hl (by decide) rfl (fun ls hl => ?_)
        refine lv_iinc (v := y3 + 1) (lv' := [(3, .int (y3 + 1)), (2, .int 0), (0, .ref (ad 1 j0)), (1, .int x1)]) hx hb d_M_settle_51 hl (k := 3) rfl (by rfl) (by decide) rfl (fun ls hl => ?_)
        refine lv_goto (tgt := 4) hx hb d_M_settle_54 (by decide) ?_
        exact ih M6 (0 : Int32) (y3 + 1) _ _ _ h (by decide) hwf hkp hP hD hS (lv_sub hl [2, 3, 1, 0] rfl)
      have h := if_f c8 h
      refine lv_aload_n hx hb d_M_settle_29 rfl (lv_at hl 0 rfl) ?_
      refine lv_iload_n hx hb d_M_settle_30 rfl (lv_at hl 1 rfl) ?_
      obtain ⟨M9, r10, eM9, h⟩ := b2_ob h
      refine me_theni0 (M1 := M9) (me_runV (C := "FilterGuardModel") (As := [.int x1]) (rest := []) ⟨hx, hb, hml, hown, hts⟩ (c_M_toUnsigned l D ad ca N M6 M9 r10 j0 x1 eM9 hwf hj0 _) rfl (by show fg_nm y_M_toUnsigned 1; decide +kernel) u_2165 u_2167 u_117 u_192 u_2168 ⟨Nat.le_of_ble_eq_true rfl, Nat.le_of_ble_eq_true rfl⟩ hX hz hK hP hD hwf hS hA hj0 (by decide) rfl rfl rfl hl.1 (Nat.le_of_ble_eq_true rfl) d_M_settle_31 ⟨Nat.le_of_ble_eq_true rfl, Nat.le_of_ble_eq_true rfl⟩) hP hD hK hS hA rfl rfl (fun H locs hw hP hD hS => ?_)
      obtain ⟨hwf, hk9, zr10⟩ := hw
      have hkp := hkp.tr hk9
      refine lv_if_eq (tgt := 49) hx hb d_M_settle_34 (by decide) (fun c11 => ?_) (fun c11 => ?_)
      · have h := if_t c11 h
        refine lv_iconst (v := 0) hx hb d_M_settle_49 (by decide) ?_
        refine lv_istore_n (lv' := [(2, .int 0), (0, .ref (ad 1 j0)), (1, .int x1), (3, .int y3)]) hx hb d_M_settle_50 rfl hl (by decide) rfl (fun ls hl => ?_)
        refine lv_iinc (v := y3 + 1) (lv' := [(3, .int (y3 + 1)), (2, .int 0), (0, .ref (ad 1 j0)), (1, .int x1)]) hx hb d_M_settle_51 hl (k := 3) rfl (by rfl) (by decide) rfl (fun ls hl => ?_)
        refine lv_goto (tgt := 4) hx hb d_M_settle_54 (by decide) ?_
        exact ih M9 (0 : Int32) (y3 + 1) _ _ _ h (by decide) hwf hkp hP hD hS (lv_sub hl [2, 3, 1, 0] rfl)
      have h := if_f c11 h
      refine lv_aload_n hx hb d_M_settle_37 rfl (lv_at hl 0 rfl) ?_
      refine lv_iload_n hx hb d_M_settle_38 rfl (lv_at hl 1 rfl) ?_
      obtain ⟨M12, r13, eM12, h⟩ := b2_ob h
      refine me_theni0 (M1 := M12) (me_runV (C := "FilterGuardModel") (As := [.int x1]) (rest := []) ⟨hx, hb, hml, hown, hts⟩ (c_M_toBits l D ad ca N M9 M12 r13 j0 x1 eM12 hwf hj0 _) rfl (by show fg_nm y_M_toBits 1; decide +kernel) u_2169 u_2171 u_118 u_192 u_2172 ⟨Nat.le_of_ble_eq_true rfl, Nat.le_of_ble_eq_true rfl⟩ hX hz hK hP hD hwf hS hA hj0 (by decide) rfl rfl rfl hl.1 (Nat.le_of_ble_eq_true rfl) d_M_settle_39 ⟨Nat.le_of_ble_eq_true rfl, Nat.le_of_ble_eq_true rfl⟩) hP hD hK hS hA rfl rfl (fun H locs hw hP hD hS => ?_)
      obtain ⟨hwf, hk9, zr13⟩ := hw
      have hkp := hkp.tr hk9
      refine lv_if_eq (tgt := 49) hx hb d_M_settle_42 (by decide) (fun c14 => ?_) (fun c14 => ?_)
      · have h := if_t c14 h
        refine lv_iconst (v := 0) hx hb d_M_settle_49 (by decide) ?_
        refine lv_istore_n (lv' := [(2, .int 0), (0, .ref (ad 1 j0)), (1, .int x1), (3, .int y3)]) hx hb d_M_settle_50 rfl hl (by decide) rfl (fun ls hl => ?_)
        refine lv_iinc (v := y3 + 1) (lv' := [(3, .int (y3 + 1)), (2, .int 0), (0, .ref (ad 1 j0)), (1, .int x1)]) hx hb d_M_settle_51 hl (k := 3) rfl (by rfl) (by decide) rfl (fun ls hl => ?_)
        refine lv_goto (tgt := 4) hx hb d_M_settle_54 (by decide) ?_
        exact ih M12 (0 : Int32) (y3 + 1) _ _ _ h (by decide) hwf hkp hP hD hS (lv_sub hl [2, 3, 1, 0] rfl)
      have h := if_f c14 h
      refine lv_iconst (v := 1) hx hb d_M_settle_45 (by decide) ?_
      refine lv_goto (tgt := 50) hx hb d_M_settle_46 (by decide) ?_
      refine lv_istore_n (lv' := [(2, .int 1), (0, .ref (ad 1 j0)), (1, .int x1), (3, .int y3)]) hx hb d_M_settle_50 rfl hl (by decide) rfl (fun ls hl => ?_)
      refine lv_iinc (v := y3 + 1) (lv' := [(3, .int (y3 + 1)), (2, .int 1), (0, .ref (ad 1 j0)), (1, .int x1)]) hx hb d_M_settle_51 hl (k := 3) rfl (by rfl) (by decide) rfl (fun ls hl => ?_)
      refine lv_goto (tgt := 4) hx hb d_M_settle_54 (by decide) ?_
      exact ih M12 (1 : Int32) (y3 + 1) _ _ _ h (by decide) hwf hkp hP hD hS (lv_sub hl [2, 3, 1, 0] rfl)
  refine lv_iconst (v := 1) hx hb d_M_settle_0 (by decide) ?_
  refine lv_istore_n (lv' := [(2, .int 1), (0, .ref (ad 1 j0)), (1, .int x1)]) hx hb d_M_settle_1 rfl hl (by decide) rfl (fun ls hl => ?_)
  refine lv_iconst (v := 0) hx hb d_M_settle_2 (by decide) ?_
  refine lv_istore_n (lv' := [(3, .int 0), (2, .int 1), (0, .ref (ad 1 j0)), (1, .int x1)]) hx hb d_M_settle_3 rfl hl (by decide) rfl (fun ls hl => ?_)
  exact b_4 _ M0 (1 : Int32) (0 : Int32) _ _ _ h (by decide) hwf hkp hP hD hS (lv_sub hl [2, 3, 1, 0] rfl)
theorem d_M_add_256 : decode prog_14_method_18_code 256 = .ok (.istore 13, 2) := by decide +kernel
theorem d_M_add_258 : decode prog_14_method_18_code 258 = .ok (.iload 13, 2) := by decide +kernel
theorem d_M_add_260 : decode prog_14_method_18_code 260 = .ok (.ifCond .ne 23, 3) := by decide +kernel
theorem d_M_add_283 : decode prog_14_method_18_code 283 = .ok (.return_, 1) := by decide +kernel
theorem d_M_add_263 : decode prog_14_method_18_code 263 = .ok (.aload_n 0, 1) := by decide +kernel
theorem d_M_add_264 : decode prog_14_method_18_code 264 = .ok (.getfield 116, 3) := by decide +kernel
theorem d_M_add_267 : decode prog_14_method_18_code 267 = .ok (.sipush 30077, 3) := by decide +kernel
theorem d_M_add_270 : decode prog_14_method_18_code 270 = .ok (.lload 9, 2) := by decide +kernel
theorem d_M_add_272 : decode prog_14_method_18_code 272 = .ok (.lastore, 1) := by decide +kernel
theorem d_M_add_273 : decode prog_14_method_18_code 273 = .ok (.aload_n 0, 1) := by decide +kernel
theorem d_M_add_274 : decode prog_14_method_18_code 274 = .ok (.getfield 119, 3) := by decide +kernel
theorem d_M_add_277 : decode prog_14_method_18_code 277 = .ok (.sipush 30077, 3) := by decide +kernel
theorem d_M_add_280 : decode prog_14_method_18_code 280 = .ok (.lload 11, 2) := by decide +kernel
theorem d_M_add_282 : decode prog_14_method_18_code 282 = .ok (.lastore, 1) := by decide +kernel
theorem d_M_add_251 : decode prog_14_method_18_code 251 = .ok (.iconst 1, 1) := by decide +kernel
theorem d_M_add_252 : decode prog_14_method_18_code 252 = .ok (.goto 4, 3) := by decide +kernel
theorem d_M_add_157 : decode prog_14_method_18_code 157 = .ok (.aload_n 0, 1) := by decide +kernel
theorem d_M_add_158 : decode prog_14_method_18_code 158 = .ok (.getfield 116, 3) := by decide +kernel
theorem d_M_add_161 : decode prog_14_method_18_code 161 = .ok (.sipush 30075, 3) := by decide +kernel
theorem d_M_add_164 : decode prog_14_method_18_code 164 = .ok (.laload, 1) := by decide +kernel
theorem d_M_add_165 : decode prog_14_method_18_code 165 = .ok (.aload_n 0, 1) := by decide +kernel
theorem d_M_add_166 : decode prog_14_method_18_code 166 = .ok (.getfield 116, 3) := by decide +kernel
theorem d_M_add_169 : decode prog_14_method_18_code 169 = .ok (.sipush 30076, 3) := by decide +kernel
theorem d_M_add_172 : decode prog_14_method_18_code 172 = .ok (.laload, 1) := by decide +kernel
theorem d_M_add_173 : decode prog_14_method_18_code 173 = .ok (.ladd, 1) := by decide +kernel
theorem d_M_add_174 : decode prog_14_method_18_code 174 = .ok (.lstore 9, 2) := by decide +kernel
theorem d_M_add_176 : decode prog_14_method_18_code 176 = .ok (.aload_n 0, 1) := by decide +kernel
theorem d_M_add_177 : decode prog_14_method_18_code 177 = .ok (.getfield 119, 3) := by decide +kernel
theorem d_M_add_180 : decode prog_14_method_18_code 180 = .ok (.sipush 30075, 3) := by decide +kernel
theorem d_M_add_183 : decode prog_14_method_18_code 183 = .ok (.laload, 1) := by decide +kernel
theorem d_M_add_184 : decode prog_14_method_18_code 184 = .ok (.aload_n 0, 1) := by decide +kernel
theorem d_M_add_185 : decode prog_14_method_18_code 185 = .ok (.getfield 119, 3) := by decide +kernel
theorem d_M_add_188 : decode prog_14_method_18_code 188 = .ok (.sipush 30076, 3) := by decide +kernel
theorem d_M_add_191 : decode prog_14_method_18_code 191 = .ok (.laload, 1) := by decide +kernel
theorem d_M_add_192 : decode prog_14_method_18_code 192 = .ok (.ladd, 1) := by decide +kernel
theorem d_M_add_193 : decode prog_14_method_18_code 193 = .ok (.lstore 11, 2) := by decide +kernel
theorem d_M_add_195 : decode prog_14_method_18_code 195 = .ok (.aload_n 0, 1) := by decide +kernel
theorem d_M_add_196 : decode prog_14_method_18_code 196 = .ok (.getfield 116, 3) := by decide +kernel
theorem d_M_add_199 : decode prog_14_method_18_code 199 = .ok (.sipush 30075, 3) := by decide +kernel
theorem d_M_add_202 : decode prog_14_method_18_code 202 = .ok (.laload, 1) := by decide +kernel
theorem d_M_add_203 : decode prog_14_method_18_code 203 = .ok (.lload 9, 2) := by decide +kernel
theorem d_M_add_205 : decode prog_14_method_18_code 205 = .ok (.lxor, 1) := by decide +kernel
theorem d_M_add_206 : decode prog_14_method_18_code 206 = .ok (.aload_n 0, 1) := by decide +kernel
theorem d_M_add_207 : decode prog_14_method_18_code 207 = .ok (.getfield 116, 3) := by decide +kernel
theorem d_M_add_210 : decode prog_14_method_18_code 210 = .ok (.sipush 30076, 3) := by decide +kernel
theorem d_M_add_213 : decode prog_14_method_18_code 213 = .ok (.laload, 1) := by decide +kernel
theorem d_M_add_214 : decode prog_14_method_18_code 214 = .ok (.lload 9, 2) := by decide +kernel
theorem d_M_add_216 : decode prog_14_method_18_code 216 = .ok (.lxor, 1) := by decide +kernel
theorem d_M_add_217 : decode prog_14_method_18_code 217 = .ok (.land, 1) := by decide +kernel
theorem d_M_add_218 : decode prog_14_method_18_code 218 = .ok (.lconst 0, 1) := by decide +kernel
theorem d_M_add_219 : decode prog_14_method_18_code 219 = .ok (.lcmp, 1) := by decide +kernel
theorem d_M_add_220 : decode prog_14_method_18_code 220 = .ok (.ifCond .lt 31, 3) := by decide +kernel
theorem d_M_add_223 : decode prog_14_method_18_code 223 = .ok (.aload_n 0, 1) := by decide +kernel
theorem d_M_add_224 : decode prog_14_method_18_code 224 = .ok (.getfield 119, 3) := by decide +kernel
theorem d_M_add_227 : decode prog_14_method_18_code 227 = .ok (.sipush 30075, 3) := by decide +kernel
theorem d_M_add_230 : decode prog_14_method_18_code 230 = .ok (.laload, 1) := by decide +kernel
theorem d_M_add_231 : decode prog_14_method_18_code 231 = .ok (.lload 11, 2) := by decide +kernel
theorem d_M_add_233 : decode prog_14_method_18_code 233 = .ok (.lxor, 1) := by decide +kernel
theorem d_M_add_234 : decode prog_14_method_18_code 234 = .ok (.aload_n 0, 1) := by decide +kernel
theorem d_M_add_235 : decode prog_14_method_18_code 235 = .ok (.getfield 119, 3) := by decide +kernel
theorem d_M_add_238 : decode prog_14_method_18_code 238 = .ok (.sipush 30076, 3) := by decide +kernel
theorem d_M_add_241 : decode prog_14_method_18_code 241 = .ok (.laload, 1) := by decide +kernel
theorem d_M_add_242 : decode prog_14_method_18_code 242 = .ok (.lload 11, 2) := by decide +kernel
theorem d_M_add_244 : decode prog_14_method_18_code 244 = .ok (.lxor, 1) := by decide +kernel
theorem d_M_add_245 : decode prog_14_method_18_code 245 = .ok (.land, 1) := by decide +kernel
theorem d_M_add_246 : decode prog_14_method_18_code 246 = .ok (.lconst 0, 1) := by decide +kernel
theorem d_M_add_247 : decode prog_14_method_18_code 247 = .ok (.lcmp, 1) := by decide +kernel
theorem d_M_add_248 : decode prog_14_method_18_code 248 = .ok (.ifCond .ge 7, 3) := by decide +kernel
theorem d_M_add_255 : decode prog_14_method_18_code 255 = .ok (.iconst 0, 1) := by decide +kernel
theorem d_M_add_0 : decode prog_14_method_18_code 0 = .ok (.aload_n 0, 1) := by decide +kernel
theorem d_M_add_1 : decode prog_14_method_18_code 1 = .ok (.getfield 107, 3) := by decide +kernel
theorem d_M_add_4 : decode prog_14_method_18_code 4 = .ok (.sipush 30075, 3) := by decide +kernel
theorem d_M_add_7 : decode prog_14_method_18_code 7 = .ok (.laload, 1) := by decide +kernel
theorem d_M_add_8 : decode prog_14_method_18_code 8 = .ok (.aload_n 0, 1) := by decide +kernel
theorem d_M_add_9 : decode prog_14_method_18_code 9 = .ok (.getfield 107, 3) := by decide +kernel
theorem d_M_add_12 : decode prog_14_method_18_code 12 = .ok (.sipush 30076, 3) := by decide +kernel
theorem d_M_add_15 : decode prog_14_method_18_code 15 = .ok (.laload, 1) := by decide +kernel
theorem d_M_add_16 : decode prog_14_method_18_code 16 = .ok (.ladd, 1) := by decide +kernel
theorem d_M_add_17 : decode prog_14_method_18_code 17 = .ok (.lstore_n 1, 1) := by decide +kernel
theorem d_M_add_18 : decode prog_14_method_18_code 18 = .ok (.aload_n 0, 1) := by decide +kernel
theorem d_M_add_19 : decode prog_14_method_18_code 19 = .ok (.getfield 104, 3) := by decide +kernel
theorem d_M_add_22 : decode prog_14_method_18_code 22 = .ok (.sipush 30075, 3) := by decide +kernel
theorem d_M_add_25 : decode prog_14_method_18_code 25 = .ok (.laload, 1) := by decide +kernel
theorem d_M_add_26 : decode prog_14_method_18_code 26 = .ok (.aload_n 0, 1) := by decide +kernel
theorem d_M_add_27 : decode prog_14_method_18_code 27 = .ok (.getfield 104, 3) := by decide +kernel
theorem d_M_add_30 : decode prog_14_method_18_code 30 = .ok (.sipush 30076, 3) := by decide +kernel
theorem d_M_add_33 : decode prog_14_method_18_code 33 = .ok (.laload, 1) := by decide +kernel
theorem d_M_add_34 : decode prog_14_method_18_code 34 = .ok (.ladd, 1) := by decide +kernel
theorem d_M_add_35 : decode prog_14_method_18_code 35 = .ok (.lstore_n 3, 1) := by decide +kernel
theorem d_M_add_36 : decode prog_14_method_18_code 36 = .ok (.lload_n 1, 1) := by decide +kernel
theorem d_M_add_37 : decode prog_14_method_18_code 37 = .ok (.lload_n 3, 1) := by decide +kernel
theorem d_M_add_38 : decode prog_14_method_18_code 38 = .ok (.ladd, 1) := by decide +kernel
theorem d_M_add_39 : decode prog_14_method_18_code 39 = .ok (.lload_n 3, 1) := by decide +kernel
theorem d_M_add_40 : decode prog_14_method_18_code 40 = .ok (.lxor, 1) := by decide +kernel
theorem d_M_add_41 : decode prog_14_method_18_code 41 = .ok (.aload_n 0, 1) := by decide +kernel
theorem d_M_add_42 : decode prog_14_method_18_code 42 = .ok (.getfield 107, 3) := by decide +kernel
theorem d_M_add_45 : decode prog_14_method_18_code 45 = .ok (.sipush 30075, 3) := by decide +kernel
theorem d_M_add_48 : decode prog_14_method_18_code 48 = .ok (.laload, 1) := by decide +kernel
theorem d_M_add_49 : decode prog_14_method_18_code 49 = .ok (.lor, 1) := by decide +kernel
theorem d_M_add_50 : decode prog_14_method_18_code 50 = .ok (.aload_n 0, 1) := by decide +kernel
theorem d_M_add_51 : decode prog_14_method_18_code 51 = .ok (.getfield 107, 3) := by decide +kernel
theorem d_M_add_54 : decode prog_14_method_18_code 54 = .ok (.sipush 30076, 3) := by decide +kernel
theorem d_M_add_57 : decode prog_14_method_18_code 57 = .ok (.laload, 1) := by decide +kernel
theorem d_M_add_58 : decode prog_14_method_18_code 58 = .ok (.lor, 1) := by decide +kernel
theorem d_M_add_59 : decode prog_14_method_18_code 59 = .ok (.lstore 5, 2) := by decide +kernel
theorem d_M_add_61 : decode prog_14_method_18_code 61 = .ok (.aload_n 0, 1) := by decide +kernel
theorem d_M_add_62 : decode prog_14_method_18_code 62 = .ok (.getfield 107, 3) := by decide +kernel
theorem d_M_add_65 : decode prog_14_method_18_code 65 = .ok (.sipush 30077, 3) := by decide +kernel
theorem d_M_add_68 : decode prog_14_method_18_code 68 = .ok (.lload 5, 2) := by decide +kernel
theorem d_M_add_70 : decode prog_14_method_18_code 70 = .ok (.lastore, 1) := by decide +kernel
theorem d_M_add_71 : decode prog_14_method_18_code 71 = .ok (.aload_n 0, 1) := by decide +kernel
theorem d_M_add_72 : decode prog_14_method_18_code 72 = .ok (.getfield 104, 3) := by decide +kernel
theorem d_M_add_75 : decode prog_14_method_18_code 75 = .ok (.sipush 30077, 3) := by decide +kernel
theorem d_M_add_78 : decode prog_14_method_18_code 78 = .ok (.lload_n 3, 1) := by decide +kernel
theorem d_M_add_79 : decode prog_14_method_18_code 79 = .ok (.lload 5, 2) := by decide +kernel
theorem d_M_add_81 : decode prog_14_method_18_code 81 = .ok (.ldc2_w 162, 3) := by decide +kernel
theorem d_M_add_84 : decode prog_14_method_18_code 84 = .ok (.lxor, 1) := by decide +kernel
theorem d_M_add_85 : decode prog_14_method_18_code 85 = .ok (.land, 1) := by decide +kernel
theorem d_M_add_86 : decode prog_14_method_18_code 86 = .ok (.lastore, 1) := by decide +kernel
theorem d_M_add_87 : decode prog_14_method_18_code 87 = .ok (.aload_n 0, 1) := by decide +kernel
theorem d_M_add_88 : decode prog_14_method_18_code 88 = .ok (.getfield 113, 3) := by decide +kernel
theorem d_M_add_91 : decode prog_14_method_18_code 91 = .ok (.sipush 30075, 3) := by decide +kernel
theorem d_M_add_94 : decode prog_14_method_18_code 94 = .ok (.laload, 1) := by decide +kernel
theorem d_M_add_95 : decode prog_14_method_18_code 95 = .ok (.aload_n 0, 1) := by decide +kernel
theorem d_M_add_96 : decode prog_14_method_18_code 96 = .ok (.getfield 113, 3) := by decide +kernel
theorem d_M_add_99 : decode prog_14_method_18_code 99 = .ok (.sipush 30076, 3) := by decide +kernel
theorem d_M_add_102 : decode prog_14_method_18_code 102 = .ok (.laload, 1) := by decide +kernel
theorem d_M_add_103 : decode prog_14_method_18_code 103 = .ok (.ladd, 1) := by decide +kernel
theorem d_M_add_104 : decode prog_14_method_18_code 104 = .ok (.lstore 7, 2) := by decide +kernel
theorem d_M_add_106 : decode prog_14_method_18_code 106 = .ok (.lload 7, 2) := by decide +kernel
theorem d_M_add_108 : decode prog_14_method_18_code 108 = .ok (.aload_n 0, 1) := by decide +kernel
theorem d_M_add_109 : decode prog_14_method_18_code 109 = .ok (.getfield 113, 3) := by decide +kernel
theorem d_M_add_112 : decode prog_14_method_18_code 112 = .ok (.sipush 30075, 3) := by decide +kernel
theorem d_M_add_115 : decode prog_14_method_18_code 115 = .ok (.laload, 1) := by decide +kernel
theorem d_M_add_116 : decode prog_14_method_18_code 116 = .ok (.invokestatic 158, 3) := by decide +kernel
theorem d_M_add_119 : decode prog_14_method_18_code 119 = .ok (.ifCond .ne 38, 3) := by decide +kernel
theorem d_M_add_122 : decode prog_14_method_18_code 122 = .ok (.aload_n 0, 1) := by decide +kernel
theorem d_M_add_123 : decode prog_14_method_18_code 123 = .ok (.getfield 110, 3) := by decide +kernel
theorem d_M_add_126 : decode prog_14_method_18_code 126 = .ok (.sipush 30077, 3) := by decide +kernel
theorem d_M_add_129 : decode prog_14_method_18_code 129 = .ok (.aload_n 0, 1) := by decide +kernel
theorem d_M_add_130 : decode prog_14_method_18_code 130 = .ok (.getfield 110, 3) := by decide +kernel
theorem d_M_add_133 : decode prog_14_method_18_code 133 = .ok (.sipush 30075, 3) := by decide +kernel
theorem d_M_add_136 : decode prog_14_method_18_code 136 = .ok (.laload, 1) := by decide +kernel
theorem d_M_add_137 : decode prog_14_method_18_code 137 = .ok (.aload_n 0, 1) := by decide +kernel
theorem d_M_add_138 : decode prog_14_method_18_code 138 = .ok (.getfield 110, 3) := by decide +kernel
theorem d_M_add_141 : decode prog_14_method_18_code 141 = .ok (.sipush 30076, 3) := by decide +kernel
theorem d_M_add_144 : decode prog_14_method_18_code 144 = .ok (.laload, 1) := by decide +kernel
theorem d_M_add_145 : decode prog_14_method_18_code 145 = .ok (.ladd, 1) := by decide +kernel
theorem d_M_add_146 : decode prog_14_method_18_code 146 = .ok (.lastore, 1) := by decide +kernel
theorem d_M_add_147 : decode prog_14_method_18_code 147 = .ok (.aload_n 0, 1) := by decide +kernel
theorem d_M_add_148 : decode prog_14_method_18_code 148 = .ok (.getfield 113, 3) := by decide +kernel
theorem d_M_add_151 : decode prog_14_method_18_code 151 = .ok (.sipush 30077, 3) := by decide +kernel
theorem d_M_add_154 : decode prog_14_method_18_code 154 = .ok (.lload 7, 2) := by decide +kernel
theorem d_M_add_156 : decode prog_14_method_18_code 156 = .ok (.lastore, 1) := by decide +kernel
abbrev y_M_add : MethodName := ⟨"FilterGuardModel", "add", "()V"⟩
def rm_M_add : Room := { frames := 2, cells := 0, slots := 0, locals := 43 }
abbrev q_M_add (D : va_G) (ad : Nat → Nat → Nat) (ca : Nat → ClassId) (N : Nat → Nat) (M0 MZ : me_M) (A : Nat → Prop) : Array Value → Jvm.State → Outcome → Jvm.State → Prop := va_Qv (fun (_ : Unit) => me_wf N MZ ∧ me_kp M0 MZ) (fg_B D A (fun _ => me_W ad ca MZ) (fun _ => [])) A
set_option maxHeartbeats 4000000 in
set_option maxRecDepth 100000 in
theorem c_M_add (l : Launch) (D : va_G) (ad : Nat → Nat → Nat) (ca : Nat → ClassId) (N : Nat → Nat) (M0 MZ : me_M) (j0 : Nat) (h : f_M_add M0 j0 = (some MZ)) (hwf : me_wf N M0) (hj0 : j0 < N 1) (sz : Nat) : Met l y_M_add (fg_w y_M_add prog_14_method_18_code 14 none) rm_M_add (va_Pc [.ref (ad 1 j0)] (fz_P D (me_T ca) (me_W ad ca M0) sz)) (q_M_add D ad ca N M0 MZ (va_A (me_W ad ca M0) sz)) rm_M_add.cells rm_M_add.slots (va_A (me_W ad ca M0) sz) := by
  refine fz_enter (fun A => q_M_add D ad ca N M0 MZ A) (by decide +kernel) (Nat.le_of_ble_eq_true rfl) ?_
  intro p e s m below meth c ls A hx hb hml hown hts hr hlocks hin hP hK hD hS hA hX hl hz
  have hl : lv_has ls 14 [(0, .ref (ad 1 j0))] := hl
  unfold f_M_add at h
  have hkp : me_kp M0 M0 := me_kp.rf
  have hkb := hkp
  have b_256 : ∀ (M : me_M) (y9 : Int64) (y11 : Int64) (s0 : Int32) (H : Heap) (locs : List Loc) (ls : Array Slot), f_M_add_b256 j0 M y9 y11 s0 = (some MZ) → (s0 = 1 ∨ s0 = 0) → me_wf N M → me_kp M0 M → va_P D classes (me_W ad ca M) H → va_D A (me_W ad ca M) → va_S A s.heap H locs → lv_has ls 14 [(0, .ref (ad 1 j0)), (9, .long y9), (11, .long y11)] → W p l e rm_M_add s m [.ref (ad 1 j0)].toArray below meth c H locs 0 0 (MQ below (q_M_add D ad ca N M0 MZ A) [.ref (ad 1 j0)].toArray s rm_M_add.cells rm_M_add.slots A) (F0 m 256 ls [.int s0]) := by
    intro M y9 y11 s0 H locs ls h zs0 hwf hkp hP hD hS hl
    unfold f_M_add_b256 at h
    have hkb := hkp
    refine lv_istore (lv' := [(13, .int s0), (0, .ref (ad 1 j0)), (9, .long y9), (11, .long y11)]) hx hb d_M_add_256 hl (by decide) rfl (fun ls hl => ?_)
    refine lv_iload hx hb d_M_add_258 (lv_at hl 0 rfl) ?_
    refine lv_if_ne (tgt := 283) hx hb d_M_add_260 (by decide) (fun c1 => ?_) (fun c1 => ?_)
    · have h := if_f c1 h
      exact me_retv (me_kp M0) h hx hb hr hlocks hwf hkp hP hK hD hS d_M_add_283
    have h := if_t c1 h
    refine lv_aload_n hx hb d_M_add_263 rfl (lv_at hl 1 rfl) ?_
    refine g_M_56 hx hb hts hown hK hP hwf hj0 (hts _ u_1797) d_M_add_264 ?_
    obtain ⟨j2, e3, h⟩ := bd_ob h
    have hj2 : j2 < N 16 := (hwf.2.1 1 j0 56 _ e3 (by decide) hj0)
    refine me_opt (j := j2) e3 ?_
    refine lv_sipush (v := 30077) hx hb d_M_add_267 (by decide) ?_
    refine lv_lload hx hb d_M_add_270 (lv_at hl 2 rfl) ?_
    obtain ⟨g4, h⟩ := gd_ob h
    obtain ⟨M5, eM5, h⟩ := st_ob h
    refine me_last (eM5.trans (by rw [show (30077 : Int32).toNatClampNeg = 30077 by decide])) hx hb hK hP hD hwf hS hj2 (me_in (i := (30077 : Int32)) (k := 30077) (by decide) (by decide) g4) d_M_add_272 (fun H locs hP hD hwf hS => ?_)
    have hkp := kp_L eM5 hkp
    refine lv_aload_n hx hb d_M_add_273 rfl (lv_at hl 1 rfl) ?_
    refine g_M_57 hx hb hts hown hK hP hwf hj0 (hts _ u_1798) d_M_add_274 ?_
    obtain ⟨j6, e7, h⟩ := bd_ob h
    have hj6 : j6 < N 16 := (hwf.2.1 1 j0 57 _ (kp_r hkb hkp e7) (by decide) hj0)
    refine me_opt (j := j6) (kp_r hkb hkp e7) ?_
    refine lv_sipush (v := 30077) hx hb d_M_add_277 (by decide) ?_
    refine lv_lload hx hb d_M_add_280 (lv_at hl 3 rfl) ?_
    obtain ⟨g8, h⟩ := gd_ob h
    obtain ⟨M9, eM9, h⟩ := st_ob h
    refine me_last (eM9.trans (by rw [show (30077 : Int32).toNatClampNeg = 30077 by decide])) hx hb hK hP hD hwf hS hj6 (me_in (i := (30077 : Int32)) (k := 30077) (by decide) (by decide) (kp_c hkb.z hkp.z g8)) d_M_add_282 (fun H locs hP hD hwf hS => ?_)
    have hkp := kp_L eM9 hkp
    exact me_retv (me_kp M0) h hx hb hr hlocks hwf hkp hP hK hD hS d_M_add_283
  have b_251 : ∀ (M : me_M) (y9 : Int64) (y11 : Int64) (H : Heap) (locs : List Loc) (ls : Array Slot), f_M_add_b251 j0 M y9 y11 = (some MZ) → me_wf N M → me_kp M0 M → va_P D classes (me_W ad ca M) H → va_D A (me_W ad ca M) → va_S A s.heap H locs → lv_has ls 14 [(0, .ref (ad 1 j0)), (9, .long y9), (11, .long y11)] → W p l e rm_M_add s m [.ref (ad 1 j0)].toArray below meth c H locs 0 0 (MQ below (q_M_add D ad ca N M0 MZ A) [.ref (ad 1 j0)].toArray s rm_M_add.cells rm_M_add.slots A) (F0 m 251 ls []) := by
    intro M y9 y11 H locs ls h hwf hkp hP hD hS hl
    unfold f_M_add_b251 at h
    have hkb := hkp
    refine lv_iconst (v := 1) hx hb d_M_add_251 (by decide) ?_
    refine lv_goto (tgt := 256) hx hb d_M_add_252 (by decide) ?_
    exact b_256 M y9 y11 (1 : Int32) _ _ _ h (by decide) hwf hkp hP hD hS (lv_sub hl [0, 1, 2] rfl)
  have b_157 : ∀ (M : me_M) (H : Heap) (locs : List Loc) (ls : Array Slot), f_M_add_b157 j0 M = (some MZ) → me_wf N M → me_kp M0 M → va_P D classes (me_W ad ca M) H → va_D A (me_W ad ca M) → va_S A s.heap H locs → lv_has ls 14 [(0, .ref (ad 1 j0))] → W p l e rm_M_add s m [.ref (ad 1 j0)].toArray below meth c H locs 0 0 (MQ below (q_M_add D ad ca N M0 MZ A) [.ref (ad 1 j0)].toArray s rm_M_add.cells rm_M_add.slots A) (F0 m 157 ls []) := by
    intro M H locs ls h hwf hkp hP hD hS hl
    unfold f_M_add_b157 at h
    have hkb := hkp
    refine lv_aload_n hx hb d_M_add_157 rfl (lv_at hl 0 rfl) ?_
    refine g_M_56 hx hb hts hown hK hP hwf hj0 (hts _ u_1797) d_M_add_158 ?_
    obtain ⟨j10, e11, h⟩ := bd_ob h
    have hj10 : j10 < N 16 := (hwf.2.1 1 j0 56 _ e11 (by decide) hj0)
    refine me_opt (j := j10) e11 ?_
    refine lv_sipush (v := 30075) hx hb d_M_add_161 (by decide) ?_
    obtain ⟨g12, h⟩ := gd_ob h
    refine me_lald hx hb hK hP hwf hj10 (me_in (i := (30075 : Int32)) (k := 30075) (by decide) (by decide) g12) d_M_add_164 ?_
    refine fg_topl (y := mL M 16 j10 30075) (congrArg _ (by decide)) ?_
    refine lv_aload_n hx hb d_M_add_165 rfl (lv_at hl 0 rfl) ?_
    refine g_M_56 hx hb hts hown hK hP hwf hj0 (hts _ u_1797) d_M_add_166 ?_
    refine me_opt (j := j10) e11 ?_
    refine lv_sipush (v := 30076) hx hb d_M_add_169 (by decide) ?_
    obtain ⟨g13, h⟩ := gd_ob h
    refine me_lald hx hb hK hP hwf hj10 (me_in (i := (30076 : Int32)) (k := 30076) (by decide) (by decide) g13) d_M_add_172 ?_
    refine fg_topl (y := mL M 16 j10 30076) (congrArg _ (by decide)) ?_
    refine lv_ladd hx hb d_M_add_173 ?_
    obtain ⟨v14, ev14, h⟩ := st_ob h
    refine fg_topl (y := v14) ev14.symm ?_
    refine lv_lstore (lv' := [(9, .long v14), (0, .ref (ad 1 j0))]) hx hb d_M_add_174 hl (by decide) rfl (fun ls hl => ?_)
    refine lv_aload_n hx hb d_M_add_176 rfl (lv_at hl 1 rfl) ?_
    refine g_M_57 hx hb hts hown hK hP hwf hj0 (hts _ u_1798) d_M_add_177 ?_
    obtain ⟨j15, e16, h⟩ := bd_ob h
    have hj15 : j15 < N 16 := (hwf.2.1 1 j0 57 _ e16 (by decide) hj0)
    refine me_opt (j := j15) e16 ?_
    refine lv_sipush (v := 30075) hx hb d_M_add_180 (by decide) ?_
    obtain ⟨g17, h⟩ := gd_ob h
    refine me_lald hx hb hK hP hwf hj15 (me_in (i := (30075 : Int32)) (k := 30075) (by decide) (by decide) g17) d_M_add_183 ?_
    refine fg_topl (y := mL M 16 j15 30075) (congrArg _ (by decide)) ?_
    refine lv_aload_n hx hb d_M_add_184 rfl (lv_at hl 1 rfl) ?_
    refine g_M_57 hx hb hts hown hK hP hwf hj0 (hts _ u_1798) d_M_add_185 ?_
    refine me_opt (j := j15) e16 ?_
    refine lv_sipush (v := 30076) hx hb d_M_add_188 (by decide) ?_
    obtain ⟨g18, h⟩ := gd_ob h
    refine me_lald hx hb hK hP hwf hj15 (me_in (i := (30076 : Int32)) (k := 30076) (by decide) (by decide) g18) d_M_add_191 ?_
    refine fg_topl (y := mL M 16 j15 30076) (congrArg _ (by decide)) ?_
    refine lv_ladd hx hb d_M_add_192 ?_
    obtain ⟨v19, ev19, h⟩ := st_ob h
    refine fg_topl (y := v19) ev19.symm ?_
    refine lv_lstore (lv' := [(11, .long v19), (9, .long v14), (0, .ref (ad 1 j0))]) hx hb d_M_add_193 hl (by decide) rfl (fun ls hl => ?_)
    refine lv_aload_n hx hb d_M_add_195 rfl (lv_at hl 2 rfl) ?_
    refine g_M_56 hx hb hts hown hK hP hwf hj0 (hts _ u_1797) d_M_add_196 ?_
    refine me_opt (j := j10) e11 ?_
    refine lv_sipush (v := 30075) hx hb d_M_add_199 (by decide) ?_
    refine me_lald hx hb hK hP hwf hj10 (me_in (i := (30075 : Int32)) (k := 30075) (by decide) (by decide) g12) d_M_add_202 ?_
    refine fg_topl (y := mL M 16 j10 30075) (congrArg _ (by decide)) ?_
    refine lv_lload hx hb d_M_add_203 (lv_at hl 1 rfl) ?_
    refine lv_lxor hx hb d_M_add_205 ?_
    refine lv_aload_n hx hb d_M_add_206 rfl (lv_at hl 2 rfl) ?_
    refine g_M_56 hx hb hts hown hK hP hwf hj0 (hts _ u_1797) d_M_add_207 ?_
    refine me_opt (j := j10) e11 ?_
    refine lv_sipush (v := 30076) hx hb d_M_add_210 (by decide) ?_
    refine me_lald hx hb hK hP hwf hj10 (me_in (i := (30076 : Int32)) (k := 30076) (by decide) (by decide) g13) d_M_add_213 ?_
    refine fg_topl (y := mL M 16 j10 30076) (congrArg _ (by decide)) ?_
    refine lv_lload hx hb d_M_add_214 (lv_at hl 1 rfl) ?_
    refine lv_lxor hx hb d_M_add_216 ?_
    refine lv_land hx hb d_M_add_217 ?_
    refine lv_lconst (v := 0) hx hb d_M_add_218 (by decide) ?_
    refine W.lcmp hx hb d_M_add_219 ?_
    refine lv_if_lt (tgt := 251) hx hb d_M_add_220 (by decide) (fun c20 => ?_) (fun c20 => ?_)
    · have h := if_t ((lg_cmp_lt _ _).mp c20) h
      exact b_251 M v14 v19 _ _ _ h hwf hkp hP hD hS (lv_sub hl [2, 1, 0] rfl)
    have h := if_f (fun z => c20 ((lg_cmp_lt _ _).mpr z)) h
    refine lv_aload_n hx hb d_M_add_223 rfl (lv_at hl 2 rfl) ?_
    refine g_M_57 hx hb hts hown hK hP hwf hj0 (hts _ u_1798) d_M_add_224 ?_
    refine me_opt (j := j15) e16 ?_
    refine lv_sipush (v := 30075) hx hb d_M_add_227 (by decide) ?_
    refine me_lald hx hb hK hP hwf hj15 (me_in (i := (30075 : Int32)) (k := 30075) (by decide) (by decide) g17) d_M_add_230 ?_
    refine fg_topl (y := mL M 16 j15 30075) (congrArg _ (by decide)) ?_
    refine lv_lload hx hb d_M_add_231 (lv_at hl 0 rfl) ?_
    refine lv_lxor hx hb d_M_add_233 ?_
    refine lv_aload_n hx hb d_M_add_234 rfl (lv_at hl 2 rfl) ?_
    refine g_M_57 hx hb hts hown hK hP hwf hj0 (hts _ u_1798) d_M_add_235 ?_
    refine me_opt (j := j15) e16 ?_
    refine lv_sipush (v := 30076) hx hb d_M_add_238 (by decide) ?_
    refine me_lald hx hb hK hP hwf hj15 (me_in (i := (30076 : Int32)) (k := 30076) (by decide) (by decide) g18) d_M_add_241 ?_
    refine fg_topl (y := mL M 16 j15 30076) (congrArg _ (by decide)) ?_
    refine lv_lload hx hb d_M_add_242 (lv_at hl 0 rfl) ?_
    refine lv_lxor hx hb d_M_add_244 ?_
    refine lv_land hx hb d_M_add_245 ?_
    refine lv_lconst (v := 0) hx hb d_M_add_246 (by decide) ?_
    refine W.lcmp hx hb d_M_add_247 ?_
    refine lv_if_ge (tgt := 255) hx hb d_M_add_248 (by decide) (fun c21 => ?_) (fun c21 => ?_)
    · have h := if_f (Int64.not_lt.mpr ((lg_cmp_ge _ _).mp c21)) h
      refine lv_iconst (v := 0) hx hb d_M_add_255 (by decide) ?_
      exact b_256 M v14 v19 (0 : Int32) _ _ _ h (by decide) hwf hkp hP hD hS (lv_sub hl [2, 1, 0] rfl)
    have h := if_t (Int64.not_le.mp (fun z => c21 ((lg_cmp_ge _ _).mpr z))) h
    exact b_251 M v14 v19 _ _ _ h hwf hkp hP hD hS (lv_sub hl [2, 1, 0] rfl)
  refine lv_aload_n hx hb d_M_add_0 rfl (lv_at hl 0 rfl) ?_
  refine g_M_53 hx hb hts hown hK hP hwf hj0 (hts _ u_1794) d_M_add_1 ?_
  obtain ⟨j22, e23, h⟩ := bd_ob h
  have hj22 : j22 < N 16 := (hwf.2.1 1 j0 53 _ e23 (by decide) hj0)
  refine me_opt (j := j22) e23 ?_
  refine lv_sipush (v := 30075) hx hb d_M_add_4 (by decide) ?_
  obtain ⟨g24, h⟩ := gd_ob h
  refine me_lald hx hb hK hP hwf hj22 (me_in (i := (30075 : Int32)) (k := 30075) (by decide) (by decide) g24) d_M_add_7 ?_
  refine fg_topl (y := mL M0 16 j22 30075) (congrArg _ (by decide)) ?_
  refine lv_aload_n hx hb d_M_add_8 rfl (lv_at hl 0 rfl) ?_
  refine g_M_53 hx hb hts hown hK hP hwf hj0 (hts _ u_1794) d_M_add_9 ?_
  refine me_opt (j := j22) e23 ?_
  refine lv_sipush (v := 30076) hx hb d_M_add_12 (by decide) ?_
  obtain ⟨g25, h⟩ := gd_ob h
  refine me_lald hx hb hK hP hwf hj22 (me_in (i := (30076 : Int32)) (k := 30076) (by decide) (by decide) g25) d_M_add_15 ?_
  refine fg_topl (y := mL M0 16 j22 30076) (congrArg _ (by decide)) ?_
  refine lv_ladd hx hb d_M_add_16 ?_
  obtain ⟨v26, ev26, h⟩ := st_ob h
  refine fg_topl (y := v26) ev26.symm ?_
  refine lv_lstore_n (lv' := [(1, .long v26), (0, .ref (ad 1 j0))]) hx hb d_M_add_17 rfl hl (by decide) rfl (fun ls hl => ?_)
  refine lv_aload_n hx hb d_M_add_18 rfl (lv_at hl 1 rfl) ?_
  refine g_M_52 hx hb hts hown hK hP hwf hj0 (hts _ u_1793) d_M_add_19 ?_
  obtain ⟨j27, e28, h⟩ := bd_ob h
  have hj27 : j27 < N 16 := (hwf.2.1 1 j0 52 _ e28 (by decide) hj0)
  refine me_opt (j := j27) e28 ?_
  refine lv_sipush (v := 30075) hx hb d_M_add_22 (by decide) ?_
  obtain ⟨g29, h⟩ := gd_ob h
  refine me_lald hx hb hK hP hwf hj27 (me_in (i := (30075 : Int32)) (k := 30075) (by decide) (by decide) g29) d_M_add_25 ?_
  refine fg_topl (y := mL M0 16 j27 30075) (congrArg _ (by decide)) ?_
  refine lv_aload_n hx hb d_M_add_26 rfl (lv_at hl 1 rfl) ?_
  refine g_M_52 hx hb hts hown hK hP hwf hj0 (hts _ u_1793) d_M_add_27 ?_
  refine me_opt (j := j27) e28 ?_
  refine lv_sipush (v := 30076) hx hb d_M_add_30 (by decide) ?_
  obtain ⟨g30, h⟩ := gd_ob h
  refine me_lald hx hb hK hP hwf hj27 (me_in (i := (30076 : Int32)) (k := 30076) (by decide) (by decide) g30) d_M_add_33 ?_
  refine fg_topl (y := mL M0 16 j27 30076) (congrArg _ (by decide)) ?_
  refine lv_ladd hx hb d_M_add_34 ?_
  obtain ⟨v31, ev31, h⟩ := st_ob h
  refine fg_topl (y := v31) ev31.symm ?_
  refine lv_lstore_n (lv' := [(3, .long v31), (1, .long v26), (0, .ref (ad 1 j0))]) hx hb d_M_add_35 rfl hl (by decide) rfl (fun ls hl => ?_)
  refine lv_lload_n hx hb d_M_add_36 rfl (lv_at hl 1 rfl) ?_
  refine lv_lload_n hx hb d_M_add_37 rfl (lv_at hl 0 rfl) ?_
  refine lv_ladd hx hb d_M_add_38 ?_
  refine lv_lload_n hx hb d_M_add_39 rfl (lv_at hl 0 rfl) ?_
  refine lv_lxor hx hb d_M_add_40 ?_
  refine lv_aload_n hx hb d_M_add_41 rfl (lv_at hl 2 rfl) ?_
  refine g_M_53 hx hb hts hown hK hP hwf hj0 (hts _ u_1794) d_M_add_42 ?_
  refine me_opt (j := j22) e23 ?_
  refine lv_sipush (v := 30075) hx hb d_M_add_45 (by decide) ?_
  refine me_lald hx hb hK hP hwf hj22 (me_in (i := (30075 : Int32)) (k := 30075) (by decide) (by decide) g24) d_M_add_48 ?_
  refine fg_topl (y := mL M0 16 j22 30075) (congrArg _ (by decide)) ?_
  refine lv_lor hx hb d_M_add_49 ?_
  refine lv_aload_n hx hb d_M_add_50 rfl (lv_at hl 2 rfl) ?_
  refine g_M_53 hx hb hts hown hK hP hwf hj0 (hts _ u_1794) d_M_add_51 ?_
  refine me_opt (j := j22) e23 ?_
  refine lv_sipush (v := 30076) hx hb d_M_add_54 (by decide) ?_
  refine me_lald hx hb hK hP hwf hj22 (me_in (i := (30076 : Int32)) (k := 30076) (by decide) (by decide) g25) d_M_add_57 ?_
  refine fg_topl (y := mL M0 16 j22 30076) (congrArg _ (by decide)) ?_
  refine lv_lor hx hb d_M_add_58 ?_
  obtain ⟨v32, ev32, h⟩ := st_ob h
  refine fg_topl (y := v32) ev32.symm ?_
  refine lv_lstore (lv' := [(5, .long v32), (3, .long v31), (1, .long v26), (0, .ref (ad 1 j0))]) hx hb d_M_add_59 hl (by decide) rfl (fun ls hl => ?_)
  refine lv_aload_n hx hb d_M_add_61 rfl (lv_at hl 3 rfl) ?_
  refine g_M_53 hx hb hts hown hK hP hwf hj0 (hts _ u_1794) d_M_add_62 ?_
  refine me_opt (j := j22) e23 ?_
  refine lv_sipush (v := 30077) hx hb d_M_add_65 (by decide) ?_
  refine lv_lload hx hb d_M_add_68 (lv_at hl 0 rfl) ?_
  obtain ⟨g33, h⟩ := gd_ob h
  obtain ⟨M34, eM34, h⟩ := st_ob h
  refine me_last (eM34.trans (by rw [show (30077 : Int32).toNatClampNeg = 30077 by decide])) hx hb hK hP hD hwf hS hj22 (me_in (i := (30077 : Int32)) (k := 30077) (by decide) (by decide) g33) d_M_add_70 (fun H locs hP hD hwf hS => ?_)
  have hkp := kp_L eM34 hkp
  refine lv_aload_n hx hb d_M_add_71 rfl (lv_at hl 3 rfl) ?_
  refine g_M_52 hx hb hts hown hK hP hwf hj0 (hts _ u_1793) d_M_add_72 ?_
  refine me_opt (j := j27) (kp_r hkb hkp e28) ?_
  refine lv_sipush (v := 30077) hx hb d_M_add_75 (by decide) ?_
  refine lv_lload_n hx hb d_M_add_78 rfl (lv_at hl 1 rfl) ?_
  refine lv_lload hx hb d_M_add_79 (lv_at hl 0 rfl) ?_
  refine lv_ldc2 hx hb hown (hts _ u_2071) d_M_add_81 ?_
  refine lv_lxor hx hb d_M_add_84 ?_
  refine lv_land hx hb d_M_add_85 ?_
  obtain ⟨g35, h⟩ := gd_ob h
  obtain ⟨M36, eM36, h⟩ := st_ob h
  refine me_last (eM36.trans (by rw [show (30077 : Int32).toNatClampNeg = 30077 by decide])) hx hb hK hP hD hwf hS hj27 (me_in (i := (30077 : Int32)) (k := 30077) (by decide) (by decide) (kp_c hkb.z hkp.z g35)) d_M_add_86 (fun H locs hP hD hwf hS => ?_)
  have hkp := kp_L eM36 hkp
  refine lv_aload_n hx hb d_M_add_87 rfl (lv_at hl 3 rfl) ?_
  refine g_M_55 hx hb hts hown hK hP hwf hj0 (hts _ u_1796) d_M_add_88 ?_
  obtain ⟨j37, e38, h⟩ := bd_ob h
  have hj37 : j37 < N 16 := (hwf.2.1 1 j0 55 _ (kp_r hkb hkp e38) (by decide) hj0)
  refine me_opt (j := j37) (kp_r hkb hkp e38) ?_
  refine lv_sipush (v := 30075) hx hb d_M_add_91 (by decide) ?_
  obtain ⟨g39, h⟩ := gd_ob h
  refine me_lald hx hb hK hP hwf hj37 (me_in (i := (30075 : Int32)) (k := 30075) (by decide) (by decide) (kp_c hkb.z hkp.z g39)) d_M_add_94 ?_
  refine fg_topl (y := mL M36 16 j37 30075) (congrArg _ (by decide)) ?_
  refine lv_aload_n hx hb d_M_add_95 rfl (lv_at hl 3 rfl) ?_
  refine g_M_55 hx hb hts hown hK hP hwf hj0 (hts _ u_1796) d_M_add_96 ?_
  refine me_opt (j := j37) (kp_r hkb hkp e38) ?_
  refine lv_sipush (v := 30076) hx hb d_M_add_99 (by decide) ?_
  obtain ⟨g40, h⟩ := gd_ob h
  refine me_lald hx hb hK hP hwf hj37 (me_in (i := (30076 : Int32)) (k := 30076) (by decide) (by decide) (kp_c hkb.z hkp.z g40)) d_M_add_102 ?_
  refine fg_topl (y := mL M36 16 j37 30076) (congrArg _ (by decide)) ?_
  refine lv_ladd hx hb d_M_add_103 ?_
  obtain ⟨v41, ev41, h⟩ := st_ob h
  refine fg_topl (y := v41) ev41.symm ?_
  refine lv_lstore (lv' := [(7, .long v41), (5, .long v32), (3, .long v31), (1, .long v26), (0, .ref (ad 1 j0))]) hx hb d_M_add_104 hl (by decide) rfl (fun ls hl => ?_)
  refine lv_lload hx hb d_M_add_106 (lv_at hl 0 rfl) ?_
  refine lv_aload_n hx hb d_M_add_108 rfl (lv_at hl 4 rfl) ?_
  refine g_M_55 hx hb hts hown hK hP hwf hj0 (hts _ u_1796) d_M_add_109 ?_
  refine me_opt (j := j37) (kp_r hkb hkp e38) ?_
  refine lv_sipush (v := 30075) hx hb d_M_add_112 (by decide) ?_
  refine me_lald hx hb hK hP hwf hj37 (me_in (i := (30075 : Int32)) (k := 30075) (by decide) (by decide) (kp_c hkb.z hkp.z g39)) d_M_add_115 ?_
  refine fg_topl (y := mL M36 16 j37 30075) (congrArg _ (by decide)) ?_
  obtain ⟨r42, er42, h⟩ := bd_ob h
  refine me_pani' (r0 := r42) (fg_runS (wc := []) (tc := []) (A2 := A) (As := [.long v41, .long (mL M36 16 j37 30075)]) (rest := []) ⟨hx, hb, hml, hown, hts⟩ (c_M_below l D r42 v41 (mL M36 16 j37 30075) er42 _) (by show fg_nm y_M_below 2; decide +kernel) u_2072 u_2073 u_192 u_2074 ⟨Nat.le_of_ble_eq_true rfl, Nat.le_of_ble_eq_true rfl⟩ hX me_P0 (hK.sub (tys' := []) [] rfl) me_D0 rfl hl.1 (Nat.le_of_ble_eq_true rfl) d_M_add_116 ⟨Nat.le_of_ble_eq_true rfl, Nat.le_of_ble_eq_true rfl⟩) hP hD hK hS hA rfl rfl (fun H locs hw hP hD hS => ?_)
  have zr42 := hw
  refine lv_if_ne (tgt := 157) hx hb d_M_add_119 (by decide) (fun c43 => ?_) (fun c43 => ?_)
  · have h := if_f c43 h
    exact b_157 M36 _ _ _ h hwf hkp hP hD hS (lv_sub hl [4] rfl)
  have h := if_t c43 h
  refine lv_aload_n hx hb d_M_add_122 rfl (lv_at hl 4 rfl) ?_
  refine g_M_54 hx hb hts hown hK hP hwf hj0 (hts _ u_1795) d_M_add_123 ?_
  obtain ⟨j44, e45, h⟩ := bd_ob h
  have hj44 : j44 < N 16 := (hwf.2.1 1 j0 54 _ (kp_r hkb hkp e45) (by decide) hj0)
  refine me_opt (j := j44) (kp_r hkb hkp e45) ?_
  refine lv_sipush (v := 30077) hx hb d_M_add_126 (by decide) ?_
  refine lv_aload_n hx hb d_M_add_129 rfl (lv_at hl 4 rfl) ?_
  refine g_M_54 hx hb hts hown hK hP hwf hj0 (hts _ u_1795) d_M_add_130 ?_
  refine me_opt (j := j44) (kp_r hkb hkp e45) ?_
  refine lv_sipush (v := 30075) hx hb d_M_add_133 (by decide) ?_
  obtain ⟨g46, h⟩ := gd_ob h
  refine me_lald hx hb hK hP hwf hj44 (me_in (i := (30075 : Int32)) (k := 30075) (by decide) (by decide) (kp_c hkb.z hkp.z g46)) d_M_add_136 ?_
  refine fg_topl (y := mL M36 16 j44 30075) (congrArg _ (by decide)) ?_
  refine lv_aload_n hx hb d_M_add_137 rfl (lv_at hl 4 rfl) ?_
  refine g_M_54 hx hb hts hown hK hP hwf hj0 (hts _ u_1795) d_M_add_138 ?_
  refine me_opt (j := j44) (kp_r hkb hkp e45) ?_
  refine lv_sipush (v := 30076) hx hb d_M_add_141 (by decide) ?_
  obtain ⟨g47, h⟩ := gd_ob h
  refine me_lald hx hb hK hP hwf hj44 (me_in (i := (30076 : Int32)) (k := 30076) (by decide) (by decide) (kp_c hkb.z hkp.z g47)) d_M_add_144 ?_
  refine fg_topl (y := mL M36 16 j44 30076) (congrArg _ (by decide)) ?_
  refine lv_ladd hx hb d_M_add_145 ?_
  obtain ⟨g48, h⟩ := gd_ob h
  obtain ⟨M49, eM49, h⟩ := st_ob h
  refine me_last (eM49.trans (by rw [show (30077 : Int32).toNatClampNeg = 30077 by decide])) hx hb hK hP hD hwf hS hj44 (me_in (i := (30077 : Int32)) (k := 30077) (by decide) (by decide) (kp_c hkb.z hkp.z g48)) d_M_add_146 (fun H locs hP hD hwf hS => ?_)
  have hkp := kp_L eM49 hkp
  refine lv_aload_n hx hb d_M_add_147 rfl (lv_at hl 4 rfl) ?_
  refine g_M_55 hx hb hts hown hK hP hwf hj0 (hts _ u_1796) d_M_add_148 ?_
  refine me_opt (j := j37) (kp_r hkb hkp e38) ?_
  refine lv_sipush (v := 30077) hx hb d_M_add_151 (by decide) ?_
  refine lv_lload hx hb d_M_add_154 (lv_at hl 0 rfl) ?_
  obtain ⟨g50, h⟩ := gd_ob h
  obtain ⟨M51, eM51, h⟩ := st_ob h
  refine me_last (eM51.trans (by rw [show (30077 : Int32).toNatClampNeg = 30077 by decide])) hx hb hK hP hD hwf hS hj37 (me_in (i := (30077 : Int32)) (k := 30077) (by decide) (by decide) (kp_c hkb.z hkp.z g50)) d_M_add_156 (fun H locs hP hD hwf hS => ?_)
  have hkp := kp_L eM51 hkp
  exact b_157 M51 _ _ _ h hwf hkp hP hD hS (lv_sub hl [4] rfl)
theorem d_M_subtract_265 : decode prog_14_method_19_code 265 = .ok (.istore 9, 2) := by decide +kernel
theorem d_M_subtract_267 : decode prog_14_method_19_code 267 = .ok (.iload 9, 2) := by decide +kernel
theorem d_M_subtract_269 : decode prog_14_method_19_code 269 = .ok (.ifCond .ne 23, 3) := by decide +kernel
theorem d_M_subtract_292 : decode prog_14_method_19_code 292 = .ok (.return_, 1) := by decide +kernel
theorem d_M_subtract_272 : decode prog_14_method_19_code 272 = .ok (.aload_n 0, 1) := by decide +kernel
theorem d_M_subtract_273 : decode prog_14_method_19_code 273 = .ok (.getfield 116, 3) := by decide +kernel
theorem d_M_subtract_276 : decode prog_14_method_19_code 276 = .ok (.sipush 30077, 3) := by decide +kernel
theorem d_M_subtract_279 : decode prog_14_method_19_code 279 = .ok (.lload 5, 2) := by decide +kernel
theorem d_M_subtract_281 : decode prog_14_method_19_code 281 = .ok (.lastore, 1) := by decide +kernel
theorem d_M_subtract_282 : decode prog_14_method_19_code 282 = .ok (.aload_n 0, 1) := by decide +kernel
theorem d_M_subtract_283 : decode prog_14_method_19_code 283 = .ok (.getfield 119, 3) := by decide +kernel
theorem d_M_subtract_286 : decode prog_14_method_19_code 286 = .ok (.sipush 30077, 3) := by decide +kernel
theorem d_M_subtract_289 : decode prog_14_method_19_code 289 = .ok (.lload 7, 2) := by decide +kernel
theorem d_M_subtract_291 : decode prog_14_method_19_code 291 = .ok (.lastore, 1) := by decide +kernel
theorem d_M_subtract_260 : decode prog_14_method_19_code 260 = .ok (.iconst 1, 1) := by decide +kernel
theorem d_M_subtract_261 : decode prog_14_method_19_code 261 = .ok (.goto 4, 3) := by decide +kernel
theorem d_M_subtract_154 : decode prog_14_method_19_code 154 = .ok (.aload_n 0, 1) := by decide +kernel
theorem d_M_subtract_155 : decode prog_14_method_19_code 155 = .ok (.getfield 116, 3) := by decide +kernel
theorem d_M_subtract_158 : decode prog_14_method_19_code 158 = .ok (.sipush 30075, 3) := by decide +kernel
theorem d_M_subtract_161 : decode prog_14_method_19_code 161 = .ok (.laload, 1) := by decide +kernel
theorem d_M_subtract_162 : decode prog_14_method_19_code 162 = .ok (.aload_n 0, 1) := by decide +kernel
theorem d_M_subtract_163 : decode prog_14_method_19_code 163 = .ok (.getfield 119, 3) := by decide +kernel
theorem d_M_subtract_166 : decode prog_14_method_19_code 166 = .ok (.sipush 30076, 3) := by decide +kernel
theorem d_M_subtract_169 : decode prog_14_method_19_code 169 = .ok (.laload, 1) := by decide +kernel
theorem d_M_subtract_170 : decode prog_14_method_19_code 170 = .ok (.lsub, 1) := by decide +kernel
theorem d_M_subtract_171 : decode prog_14_method_19_code 171 = .ok (.lstore 5, 2) := by decide +kernel
theorem d_M_subtract_173 : decode prog_14_method_19_code 173 = .ok (.aload_n 0, 1) := by decide +kernel
theorem d_M_subtract_174 : decode prog_14_method_19_code 174 = .ok (.getfield 119, 3) := by decide +kernel
theorem d_M_subtract_177 : decode prog_14_method_19_code 177 = .ok (.sipush 30075, 3) := by decide +kernel
theorem d_M_subtract_180 : decode prog_14_method_19_code 180 = .ok (.laload, 1) := by decide +kernel
theorem d_M_subtract_181 : decode prog_14_method_19_code 181 = .ok (.aload_n 0, 1) := by decide +kernel
theorem d_M_subtract_182 : decode prog_14_method_19_code 182 = .ok (.getfield 116, 3) := by decide +kernel
theorem d_M_subtract_185 : decode prog_14_method_19_code 185 = .ok (.sipush 30076, 3) := by decide +kernel
theorem d_M_subtract_188 : decode prog_14_method_19_code 188 = .ok (.laload, 1) := by decide +kernel
theorem d_M_subtract_189 : decode prog_14_method_19_code 189 = .ok (.lsub, 1) := by decide +kernel
theorem d_M_subtract_190 : decode prog_14_method_19_code 190 = .ok (.lstore 7, 2) := by decide +kernel
theorem d_M_subtract_192 : decode prog_14_method_19_code 192 = .ok (.aload_n 0, 1) := by decide +kernel
theorem d_M_subtract_193 : decode prog_14_method_19_code 193 = .ok (.getfield 116, 3) := by decide +kernel
theorem d_M_subtract_196 : decode prog_14_method_19_code 196 = .ok (.sipush 30075, 3) := by decide +kernel
theorem d_M_subtract_199 : decode prog_14_method_19_code 199 = .ok (.laload, 1) := by decide +kernel
theorem d_M_subtract_200 : decode prog_14_method_19_code 200 = .ok (.aload_n 0, 1) := by decide +kernel
theorem d_M_subtract_201 : decode prog_14_method_19_code 201 = .ok (.getfield 119, 3) := by decide +kernel
theorem d_M_subtract_204 : decode prog_14_method_19_code 204 = .ok (.sipush 30076, 3) := by decide +kernel
theorem d_M_subtract_207 : decode prog_14_method_19_code 207 = .ok (.laload, 1) := by decide +kernel
theorem d_M_subtract_208 : decode prog_14_method_19_code 208 = .ok (.lxor, 1) := by decide +kernel
theorem d_M_subtract_209 : decode prog_14_method_19_code 209 = .ok (.aload_n 0, 1) := by decide +kernel
theorem d_M_subtract_210 : decode prog_14_method_19_code 210 = .ok (.getfield 116, 3) := by decide +kernel
theorem d_M_subtract_213 : decode prog_14_method_19_code 213 = .ok (.sipush 30075, 3) := by decide +kernel
theorem d_M_subtract_216 : decode prog_14_method_19_code 216 = .ok (.laload, 1) := by decide +kernel
theorem d_M_subtract_217 : decode prog_14_method_19_code 217 = .ok (.lload 5, 2) := by decide +kernel
theorem d_M_subtract_219 : decode prog_14_method_19_code 219 = .ok (.lxor, 1) := by decide +kernel
theorem d_M_subtract_220 : decode prog_14_method_19_code 220 = .ok (.land, 1) := by decide +kernel
theorem d_M_subtract_221 : decode prog_14_method_19_code 221 = .ok (.lconst 0, 1) := by decide +kernel
theorem d_M_subtract_222 : decode prog_14_method_19_code 222 = .ok (.lcmp, 1) := by decide +kernel
theorem d_M_subtract_223 : decode prog_14_method_19_code 223 = .ok (.ifCond .lt 37, 3) := by decide +kernel
theorem d_M_subtract_226 : decode prog_14_method_19_code 226 = .ok (.aload_n 0, 1) := by decide +kernel
theorem d_M_subtract_227 : decode prog_14_method_19_code 227 = .ok (.getfield 119, 3) := by decide +kernel
theorem d_M_subtract_230 : decode prog_14_method_19_code 230 = .ok (.sipush 30075, 3) := by decide +kernel
theorem d_M_subtract_233 : decode prog_14_method_19_code 233 = .ok (.laload, 1) := by decide +kernel
theorem d_M_subtract_234 : decode prog_14_method_19_code 234 = .ok (.aload_n 0, 1) := by decide +kernel
theorem d_M_subtract_235 : decode prog_14_method_19_code 235 = .ok (.getfield 116, 3) := by decide +kernel
theorem d_M_subtract_238 : decode prog_14_method_19_code 238 = .ok (.sipush 30076, 3) := by decide +kernel
theorem d_M_subtract_241 : decode prog_14_method_19_code 241 = .ok (.laload, 1) := by decide +kernel
theorem d_M_subtract_242 : decode prog_14_method_19_code 242 = .ok (.lxor, 1) := by decide +kernel
theorem d_M_subtract_243 : decode prog_14_method_19_code 243 = .ok (.aload_n 0, 1) := by decide +kernel
theorem d_M_subtract_244 : decode prog_14_method_19_code 244 = .ok (.getfield 119, 3) := by decide +kernel
theorem d_M_subtract_247 : decode prog_14_method_19_code 247 = .ok (.sipush 30075, 3) := by decide +kernel
theorem d_M_subtract_250 : decode prog_14_method_19_code 250 = .ok (.laload, 1) := by decide +kernel
theorem d_M_subtract_251 : decode prog_14_method_19_code 251 = .ok (.lload 7, 2) := by decide +kernel
theorem d_M_subtract_253 : decode prog_14_method_19_code 253 = .ok (.lxor, 1) := by decide +kernel
theorem d_M_subtract_254 : decode prog_14_method_19_code 254 = .ok (.land, 1) := by decide +kernel
theorem d_M_subtract_255 : decode prog_14_method_19_code 255 = .ok (.lconst 0, 1) := by decide +kernel
theorem d_M_subtract_256 : decode prog_14_method_19_code 256 = .ok (.lcmp, 1) := by decide +kernel
theorem d_M_subtract_257 : decode prog_14_method_19_code 257 = .ok (.ifCond .ge 7, 3) := by decide +kernel
theorem d_M_subtract_264 : decode prog_14_method_19_code 264 = .ok (.iconst 0, 1) := by decide +kernel
theorem d_M_subtract_0 : decode prog_14_method_19_code 0 = .ok (.aload_n 0, 1) := by decide +kernel
theorem d_M_subtract_1 : decode prog_14_method_19_code 1 = .ok (.getfield 104, 3) := by decide +kernel
theorem d_M_subtract_4 : decode prog_14_method_19_code 4 = .ok (.sipush 30075, 3) := by decide +kernel
theorem d_M_subtract_7 : decode prog_14_method_19_code 7 = .ok (.laload, 1) := by decide +kernel
theorem d_M_subtract_8 : decode prog_14_method_19_code 8 = .ok (.aload_n 0, 1) := by decide +kernel
theorem d_M_subtract_9 : decode prog_14_method_19_code 9 = .ok (.getfield 104, 3) := by decide +kernel
theorem d_M_subtract_12 : decode prog_14_method_19_code 12 = .ok (.sipush 30076, 3) := by decide +kernel
theorem d_M_subtract_15 : decode prog_14_method_19_code 15 = .ok (.laload, 1) := by decide +kernel
theorem d_M_subtract_16 : decode prog_14_method_19_code 16 = .ok (.lsub, 1) := by decide +kernel
theorem d_M_subtract_17 : decode prog_14_method_19_code 17 = .ok (.lstore_n 1, 1) := by decide +kernel
theorem d_M_subtract_18 : decode prog_14_method_19_code 18 = .ok (.lload_n 1, 1) := by decide +kernel
theorem d_M_subtract_19 : decode prog_14_method_19_code 19 = .ok (.aload_n 0, 1) := by decide +kernel
theorem d_M_subtract_20 : decode prog_14_method_19_code 20 = .ok (.getfield 107, 3) := by decide +kernel
theorem d_M_subtract_23 : decode prog_14_method_19_code 23 = .ok (.sipush 30075, 3) := by decide +kernel
theorem d_M_subtract_26 : decode prog_14_method_19_code 26 = .ok (.laload, 1) := by decide +kernel
theorem d_M_subtract_27 : decode prog_14_method_19_code 27 = .ok (.ladd, 1) := by decide +kernel
theorem d_M_subtract_28 : decode prog_14_method_19_code 28 = .ok (.lload_n 1, 1) := by decide +kernel
theorem d_M_subtract_29 : decode prog_14_method_19_code 29 = .ok (.aload_n 0, 1) := by decide +kernel
theorem d_M_subtract_30 : decode prog_14_method_19_code 30 = .ok (.getfield 107, 3) := by decide +kernel
theorem d_M_subtract_33 : decode prog_14_method_19_code 33 = .ok (.sipush 30076, 3) := by decide +kernel
theorem d_M_subtract_36 : decode prog_14_method_19_code 36 = .ok (.laload, 1) := by decide +kernel
theorem d_M_subtract_37 : decode prog_14_method_19_code 37 = .ok (.lsub, 1) := by decide +kernel
theorem d_M_subtract_38 : decode prog_14_method_19_code 38 = .ok (.lxor, 1) := by decide +kernel
theorem d_M_subtract_39 : decode prog_14_method_19_code 39 = .ok (.aload_n 0, 1) := by decide +kernel
theorem d_M_subtract_40 : decode prog_14_method_19_code 40 = .ok (.getfield 107, 3) := by decide +kernel
theorem d_M_subtract_43 : decode prog_14_method_19_code 43 = .ok (.sipush 30075, 3) := by decide +kernel
theorem d_M_subtract_46 : decode prog_14_method_19_code 46 = .ok (.laload, 1) := by decide +kernel
theorem d_M_subtract_47 : decode prog_14_method_19_code 47 = .ok (.lor, 1) := by decide +kernel
theorem d_M_subtract_48 : decode prog_14_method_19_code 48 = .ok (.aload_n 0, 1) := by decide +kernel
theorem d_M_subtract_49 : decode prog_14_method_19_code 49 = .ok (.getfield 107, 3) := by decide +kernel
theorem d_M_subtract_52 : decode prog_14_method_19_code 52 = .ok (.sipush 30076, 3) := by decide +kernel
theorem d_M_subtract_55 : decode prog_14_method_19_code 55 = .ok (.laload, 1) := by decide +kernel
theorem d_M_subtract_56 : decode prog_14_method_19_code 56 = .ok (.lor, 1) := by decide +kernel
theorem d_M_subtract_57 : decode prog_14_method_19_code 57 = .ok (.lstore_n 3, 1) := by decide +kernel
theorem d_M_subtract_58 : decode prog_14_method_19_code 58 = .ok (.aload_n 0, 1) := by decide +kernel
theorem d_M_subtract_59 : decode prog_14_method_19_code 59 = .ok (.getfield 107, 3) := by decide +kernel
theorem d_M_subtract_62 : decode prog_14_method_19_code 62 = .ok (.sipush 30077, 3) := by decide +kernel
theorem d_M_subtract_65 : decode prog_14_method_19_code 65 = .ok (.lload_n 3, 1) := by decide +kernel
theorem d_M_subtract_66 : decode prog_14_method_19_code 66 = .ok (.lastore, 1) := by decide +kernel
theorem d_M_subtract_67 : decode prog_14_method_19_code 67 = .ok (.aload_n 0, 1) := by decide +kernel
theorem d_M_subtract_68 : decode prog_14_method_19_code 68 = .ok (.getfield 104, 3) := by decide +kernel
theorem d_M_subtract_71 : decode prog_14_method_19_code 71 = .ok (.sipush 30077, 3) := by decide +kernel
theorem d_M_subtract_74 : decode prog_14_method_19_code 74 = .ok (.lload_n 1, 1) := by decide +kernel
theorem d_M_subtract_75 : decode prog_14_method_19_code 75 = .ok (.lload_n 3, 1) := by decide +kernel
theorem d_M_subtract_76 : decode prog_14_method_19_code 76 = .ok (.ldc2_w 162, 3) := by decide +kernel
theorem d_M_subtract_79 : decode prog_14_method_19_code 79 = .ok (.lxor, 1) := by decide +kernel
theorem d_M_subtract_80 : decode prog_14_method_19_code 80 = .ok (.land, 1) := by decide +kernel
theorem d_M_subtract_81 : decode prog_14_method_19_code 81 = .ok (.lastore, 1) := by decide +kernel
theorem d_M_subtract_82 : decode prog_14_method_19_code 82 = .ok (.aload_n 0, 1) := by decide +kernel
theorem d_M_subtract_83 : decode prog_14_method_19_code 83 = .ok (.getfield 110, 3) := by decide +kernel
theorem d_M_subtract_86 : decode prog_14_method_19_code 86 = .ok (.sipush 30075, 3) := by decide +kernel
theorem d_M_subtract_89 : decode prog_14_method_19_code 89 = .ok (.laload, 1) := by decide +kernel
theorem d_M_subtract_90 : decode prog_14_method_19_code 90 = .ok (.aload_n 0, 1) := by decide +kernel
theorem d_M_subtract_91 : decode prog_14_method_19_code 91 = .ok (.getfield 113, 3) := by decide +kernel
theorem d_M_subtract_94 : decode prog_14_method_19_code 94 = .ok (.sipush 30076, 3) := by decide +kernel
theorem d_M_subtract_97 : decode prog_14_method_19_code 97 = .ok (.laload, 1) := by decide +kernel
theorem d_M_subtract_98 : decode prog_14_method_19_code 98 = .ok (.invokestatic 158, 3) := by decide +kernel
theorem d_M_subtract_101 : decode prog_14_method_19_code 101 = .ok (.ifCond .ne 53, 3) := by decide +kernel
theorem d_M_subtract_104 : decode prog_14_method_19_code 104 = .ok (.aload_n 0, 1) := by decide +kernel
theorem d_M_subtract_105 : decode prog_14_method_19_code 105 = .ok (.getfield 110, 3) := by decide +kernel
theorem d_M_subtract_108 : decode prog_14_method_19_code 108 = .ok (.sipush 30077, 3) := by decide +kernel
theorem d_M_subtract_111 : decode prog_14_method_19_code 111 = .ok (.aload_n 0, 1) := by decide +kernel
theorem d_M_subtract_112 : decode prog_14_method_19_code 112 = .ok (.getfield 110, 3) := by decide +kernel
theorem d_M_subtract_115 : decode prog_14_method_19_code 115 = .ok (.sipush 30075, 3) := by decide +kernel
theorem d_M_subtract_118 : decode prog_14_method_19_code 118 = .ok (.laload, 1) := by decide +kernel
theorem d_M_subtract_119 : decode prog_14_method_19_code 119 = .ok (.aload_n 0, 1) := by decide +kernel
theorem d_M_subtract_120 : decode prog_14_method_19_code 120 = .ok (.getfield 113, 3) := by decide +kernel
theorem d_M_subtract_123 : decode prog_14_method_19_code 123 = .ok (.sipush 30076, 3) := by decide +kernel
theorem d_M_subtract_126 : decode prog_14_method_19_code 126 = .ok (.laload, 1) := by decide +kernel
theorem d_M_subtract_127 : decode prog_14_method_19_code 127 = .ok (.lsub, 1) := by decide +kernel
theorem d_M_subtract_128 : decode prog_14_method_19_code 128 = .ok (.lastore, 1) := by decide +kernel
theorem d_M_subtract_129 : decode prog_14_method_19_code 129 = .ok (.aload_n 0, 1) := by decide +kernel
theorem d_M_subtract_130 : decode prog_14_method_19_code 130 = .ok (.getfield 113, 3) := by decide +kernel
theorem d_M_subtract_133 : decode prog_14_method_19_code 133 = .ok (.sipush 30077, 3) := by decide +kernel
theorem d_M_subtract_136 : decode prog_14_method_19_code 136 = .ok (.aload_n 0, 1) := by decide +kernel
theorem d_M_subtract_137 : decode prog_14_method_19_code 137 = .ok (.getfield 113, 3) := by decide +kernel
theorem d_M_subtract_140 : decode prog_14_method_19_code 140 = .ok (.sipush 30075, 3) := by decide +kernel
theorem d_M_subtract_143 : decode prog_14_method_19_code 143 = .ok (.laload, 1) := by decide +kernel
theorem d_M_subtract_144 : decode prog_14_method_19_code 144 = .ok (.aload_n 0, 1) := by decide +kernel
theorem d_M_subtract_145 : decode prog_14_method_19_code 145 = .ok (.getfield 110, 3) := by decide +kernel
theorem d_M_subtract_148 : decode prog_14_method_19_code 148 = .ok (.sipush 30076, 3) := by decide +kernel
theorem d_M_subtract_151 : decode prog_14_method_19_code 151 = .ok (.laload, 1) := by decide +kernel
theorem d_M_subtract_152 : decode prog_14_method_19_code 152 = .ok (.lsub, 1) := by decide +kernel
theorem d_M_subtract_153 : decode prog_14_method_19_code 153 = .ok (.lastore, 1) := by decide +kernel
abbrev y_M_subtract : MethodName := ⟨"FilterGuardModel", "subtract", "()V"⟩
def rm_M_subtract : Room := { frames := 2, cells := 0, slots := 0, locals := 43 }
abbrev q_M_subtract (D : va_G) (ad : Nat → Nat → Nat) (ca : Nat → ClassId) (N : Nat → Nat) (M0 MZ : me_M) (A : Nat → Prop) : Array Value → Jvm.State → Outcome → Jvm.State → Prop := va_Qv (fun (_ : Unit) => me_wf N MZ ∧ me_kp M0 MZ) (fg_B D A (fun _ => me_W ad ca MZ) (fun _ => [])) A
set_option maxHeartbeats 4000000 in
set_option maxRecDepth 100000 in
theorem c_M_subtract (l : Launch) (D : va_G) (ad : Nat → Nat → Nat) (ca : Nat → ClassId) (N : Nat → Nat) (M0 MZ : me_M) (j0 : Nat) (h : f_M_subtract M0 j0 = (some MZ)) (hwf : me_wf N M0) (hj0 : j0 < N 1) (sz : Nat) : Met l y_M_subtract (fg_w y_M_subtract prog_14_method_19_code 10 none) rm_M_subtract (va_Pc [.ref (ad 1 j0)] (fz_P D (me_T ca) (me_W ad ca M0) sz)) (q_M_subtract D ad ca N M0 MZ (va_A (me_W ad ca M0) sz)) rm_M_subtract.cells rm_M_subtract.slots (va_A (me_W ad ca M0) sz) := by
  refine fz_enter (fun A => q_M_subtract D ad ca N M0 MZ A) (by decide +kernel) (Nat.le_of_ble_eq_true rfl) ?_
  intro p e s m below meth c ls A hx hb hml hown hts hr hlocks hin hP hK hD hS hA hX hl hz
  have hl : lv_has ls 10 [(0, .ref (ad 1 j0))] := hl
  unfold f_M_subtract at h
  have hkp : me_kp M0 M0 := me_kp.rf
  have hkb := hkp
  have b_265 : ∀ (M : me_M) (y5 : Int64) (y7 : Int64) (s0 : Int32) (H : Heap) (locs : List Loc) (ls : Array Slot), f_M_subtract_b265 j0 M y5 y7 s0 = (some MZ) → (s0 = 1 ∨ s0 = 0) → me_wf N M → me_kp M0 M → va_P D classes (me_W ad ca M) H → va_D A (me_W ad ca M) → va_S A s.heap H locs → lv_has ls 10 [(0, .ref (ad 1 j0)), (5, .long y5), (7, .long y7)] → W p l e rm_M_subtract s m [.ref (ad 1 j0)].toArray below meth c H locs 0 0 (MQ below (q_M_subtract D ad ca N M0 MZ A) [.ref (ad 1 j0)].toArray s rm_M_subtract.cells rm_M_subtract.slots A) (F0 m 265 ls [.int s0]) := by
    intro M y5 y7 s0 H locs ls h zs0 hwf hkp hP hD hS hl
    unfold f_M_subtract_b265 at h
    have hkb := hkp
    refine lv_istore (lv' := [(9, .int s0), (0, .ref (ad 1 j0)), (5, .long y5), (7, .long y7)]) hx hb d_M_subtract_265 hl (by decide) rfl (fun ls hl => ?_)
    refine lv_iload hx hb d_M_subtract_267 (lv_at hl 0 rfl) ?_
    refine lv_if_ne (tgt := 292) hx hb d_M_subtract_269 (by decide) (fun c1 => ?_) (fun c1 => ?_)
    · have h := if_f c1 h
      exact me_retv (me_kp M0) h hx hb hr hlocks hwf hkp hP hK hD hS d_M_subtract_292
    have h := if_t c1 h
    refine lv_aload_n hx hb d_M_subtract_272 rfl (lv_at hl 1 rfl) ?_
    refine g_M_56 hx hb hts hown hK hP hwf hj0 (hts _ u_1797) d_M_subtract_273 ?_
    obtain ⟨j2, e3, h⟩ := bd_ob h
    have hj2 : j2 < N 16 := (hwf.2.1 1 j0 56 _ e3 (by decide) hj0)
    refine me_opt (j := j2) e3 ?_
    refine lv_sipush (v := 30077) hx hb d_M_subtract_276 (by decide) ?_
    refine lv_lload hx hb d_M_subtract_279 (lv_at hl 2 rfl) ?_
    obtain ⟨g4, h⟩ := gd_ob h
    obtain ⟨M5, eM5, h⟩ := st_ob h
    refine me_last (eM5.trans (by rw [show (30077 : Int32).toNatClampNeg = 30077 by decide])) hx hb hK hP hD hwf hS hj2 (me_in (i := (30077 : Int32)) (k := 30077) (by decide) (by decide) g4) d_M_subtract_281 (fun H locs hP hD hwf hS => ?_)
    have hkp := kp_L eM5 hkp
    refine lv_aload_n hx hb d_M_subtract_282 rfl (lv_at hl 1 rfl) ?_
    refine g_M_57 hx hb hts hown hK hP hwf hj0 (hts _ u_1798) d_M_subtract_283 ?_
    obtain ⟨j6, e7, h⟩ := bd_ob h
    have hj6 : j6 < N 16 := (hwf.2.1 1 j0 57 _ (kp_r hkb hkp e7) (by decide) hj0)
    refine me_opt (j := j6) (kp_r hkb hkp e7) ?_
    refine lv_sipush (v := 30077) hx hb d_M_subtract_286 (by decide) ?_
    refine lv_lload hx hb d_M_subtract_289 (lv_at hl 3 rfl) ?_
    obtain ⟨g8, h⟩ := gd_ob h
    obtain ⟨M9, eM9, h⟩ := st_ob h
    refine me_last (eM9.trans (by rw [show (30077 : Int32).toNatClampNeg = 30077 by decide])) hx hb hK hP hD hwf hS hj6 (me_in (i := (30077 : Int32)) (k := 30077) (by decide) (by decide) (kp_c hkb.z hkp.z g8)) d_M_subtract_291 (fun H locs hP hD hwf hS => ?_)
    have hkp := kp_L eM9 hkp
    exact me_retv (me_kp M0) h hx hb hr hlocks hwf hkp hP hK hD hS d_M_subtract_292
  have b_260 : ∀ (M : me_M) (y5 : Int64) (y7 : Int64) (H : Heap) (locs : List Loc) (ls : Array Slot), f_M_subtract_b260 j0 M y5 y7 = (some MZ) → me_wf N M → me_kp M0 M → va_P D classes (me_W ad ca M) H → va_D A (me_W ad ca M) → va_S A s.heap H locs → lv_has ls 10 [(0, .ref (ad 1 j0)), (5, .long y5), (7, .long y7)] → W p l e rm_M_subtract s m [.ref (ad 1 j0)].toArray below meth c H locs 0 0 (MQ below (q_M_subtract D ad ca N M0 MZ A) [.ref (ad 1 j0)].toArray s rm_M_subtract.cells rm_M_subtract.slots A) (F0 m 260 ls []) := by
    intro M y5 y7 H locs ls h hwf hkp hP hD hS hl
    unfold f_M_subtract_b260 at h
    have hkb := hkp
    refine lv_iconst (v := 1) hx hb d_M_subtract_260 (by decide) ?_
    refine lv_goto (tgt := 265) hx hb d_M_subtract_261 (by decide) ?_
    exact b_265 M y5 y7 (1 : Int32) _ _ _ h (by decide) hwf hkp hP hD hS (lv_sub hl [0, 1, 2] rfl)
  have b_154 : ∀ (M : me_M) (H : Heap) (locs : List Loc) (ls : Array Slot), f_M_subtract_b154 j0 M = (some MZ) → me_wf N M → me_kp M0 M → va_P D classes (me_W ad ca M) H → va_D A (me_W ad ca M) → va_S A s.heap H locs → lv_has ls 10 [(0, .ref (ad 1 j0))] → W p l e rm_M_subtract s m [.ref (ad 1 j0)].toArray below meth c H locs 0 0 (MQ below (q_M_subtract D ad ca N M0 MZ A) [.ref (ad 1 j0)].toArray s rm_M_subtract.cells rm_M_subtract.slots A) (F0 m 154 ls []) := by
    intro M H locs ls h hwf hkp hP hD hS hl
    unfold f_M_subtract_b154 at h
    have hkb := hkp
    refine lv_aload_n hx hb d_M_subtract_154 rfl (lv_at hl 0 rfl) ?_
    refine g_M_56 hx hb hts hown hK hP hwf hj0 (hts _ u_1797) d_M_subtract_155 ?_
    obtain ⟨j10, e11, h⟩ := bd_ob h
    have hj10 : j10 < N 16 := (hwf.2.1 1 j0 56 _ e11 (by decide) hj0)
    refine me_opt (j := j10) e11 ?_
    refine lv_sipush (v := 30075) hx hb d_M_subtract_158 (by decide) ?_
    obtain ⟨g12, h⟩ := gd_ob h
    refine me_lald hx hb hK hP hwf hj10 (me_in (i := (30075 : Int32)) (k := 30075) (by decide) (by decide) g12) d_M_subtract_161 ?_
    refine fg_topl (y := mL M 16 j10 30075) (congrArg _ (by decide)) ?_
    refine lv_aload_n hx hb d_M_subtract_162 rfl (lv_at hl 0 rfl) ?_
    refine g_M_57 hx hb hts hown hK hP hwf hj0 (hts _ u_1798) d_M_subtract_163 ?_
    obtain ⟨j13, e14, h⟩ := bd_ob h
    have hj13 : j13 < N 16 := (hwf.2.1 1 j0 57 _ e14 (by decide) hj0)
    refine me_opt (j := j13) e14 ?_
    refine lv_sipush (v := 30076) hx hb d_M_subtract_166 (by decide) ?_
    obtain ⟨g15, h⟩ := gd_ob h
    refine me_lald hx hb hK hP hwf hj13 (me_in (i := (30076 : Int32)) (k := 30076) (by decide) (by decide) g15) d_M_subtract_169 ?_
    refine fg_topl (y := mL M 16 j13 30076) (congrArg _ (by decide)) ?_
    refine lv_lsub hx hb d_M_subtract_170 ?_
    obtain ⟨v16, ev16, h⟩ := st_ob h
    refine fg_topl (y := v16) ev16.symm ?_
    refine lv_lstore (lv' := [(5, .long v16), (0, .ref (ad 1 j0))]) hx hb d_M_subtract_171 hl (by decide) rfl (fun ls hl => ?_)
    refine lv_aload_n hx hb d_M_subtract_173 rfl (lv_at hl 1 rfl) ?_
    refine g_M_57 hx hb hts hown hK hP hwf hj0 (hts _ u_1798) d_M_subtract_174 ?_
    refine me_opt (j := j13) e14 ?_
    refine lv_sipush (v := 30075) hx hb d_M_subtract_177 (by decide) ?_
    obtain ⟨g17, h⟩ := gd_ob h
    refine me_lald hx hb hK hP hwf hj13 (me_in (i := (30075 : Int32)) (k := 30075) (by decide) (by decide) g17) d_M_subtract_180 ?_
    refine fg_topl (y := mL M 16 j13 30075) (congrArg _ (by decide)) ?_
    refine lv_aload_n hx hb d_M_subtract_181 rfl (lv_at hl 1 rfl) ?_
    refine g_M_56 hx hb hts hown hK hP hwf hj0 (hts _ u_1797) d_M_subtract_182 ?_
    refine me_opt (j := j10) e11 ?_
    refine lv_sipush (v := 30076) hx hb d_M_subtract_185 (by decide) ?_
    obtain ⟨g18, h⟩ := gd_ob h
    refine me_lald hx hb hK hP hwf hj10 (me_in (i := (30076 : Int32)) (k := 30076) (by decide) (by decide) g18) d_M_subtract_188 ?_
    refine fg_topl (y := mL M 16 j10 30076) (congrArg _ (by decide)) ?_
    refine lv_lsub hx hb d_M_subtract_189 ?_
    obtain ⟨v19, ev19, h⟩ := st_ob h
    refine fg_topl (y := v19) ev19.symm ?_
    refine lv_lstore (lv' := [(7, .long v19), (5, .long v16), (0, .ref (ad 1 j0))]) hx hb d_M_subtract_190 hl (by decide) rfl (fun ls hl => ?_)
    refine lv_aload_n hx hb d_M_subtract_192 rfl (lv_at hl 2 rfl) ?_
    refine g_M_56 hx hb hts hown hK hP hwf hj0 (hts _ u_1797) d_M_subtract_193 ?_
    refine me_opt (j := j10) e11 ?_
    refine lv_sipush (v := 30075) hx hb d_M_subtract_196 (by decide) ?_
    refine me_lald hx hb hK hP hwf hj10 (me_in (i := (30075 : Int32)) (k := 30075) (by decide) (by decide) g12) d_M_subtract_199 ?_
    refine fg_topl (y := mL M 16 j10 30075) (congrArg _ (by decide)) ?_
    refine lv_aload_n hx hb d_M_subtract_200 rfl (lv_at hl 2 rfl) ?_
    refine g_M_57 hx hb hts hown hK hP hwf hj0 (hts _ u_1798) d_M_subtract_201 ?_
    refine me_opt (j := j13) e14 ?_
    refine lv_sipush (v := 30076) hx hb d_M_subtract_204 (by decide) ?_
    refine me_lald hx hb hK hP hwf hj13 (me_in (i := (30076 : Int32)) (k := 30076) (by decide) (by decide) g15) d_M_subtract_207 ?_
    refine fg_topl (y := mL M 16 j13 30076) (congrArg _ (by decide)) ?_
    refine lv_lxor hx hb d_M_subtract_208 ?_
    refine lv_aload_n hx hb d_M_subtract_209 rfl (lv_at hl 2 rfl) ?_
    refine g_M_56 hx hb hts hown hK hP hwf hj0 (hts _ u_1797) d_M_subtract_210 ?_
    refine me_opt (j := j10) e11 ?_
    refine lv_sipush (v := 30075) hx hb d_M_subtract_213 (by decide) ?_
    refine me_lald hx hb hK hP hwf hj10 (me_in (i := (30075 : Int32)) (k := 30075) (by decide) (by decide) g12) d_M_subtract_216 ?_
    refine fg_topl (y := mL M 16 j10 30075) (congrArg _ (by decide)) ?_
    refine lv_lload hx hb d_M_subtract_217 (lv_at hl 1 rfl) ?_
    refine lv_lxor hx hb d_M_subtract_219 ?_
    refine lv_land hx hb d_M_subtract_220 ?_
    obtain ⟨v20, ev20, h⟩ := st_ob h
    refine fg_topl (y := v20) ev20.symm ?_
    refine lv_lconst (v := 0) hx hb d_M_subtract_221 (by decide) ?_
    refine W.lcmp hx hb d_M_subtract_222 ?_
    refine lv_if_lt (tgt := 260) hx hb d_M_subtract_223 (by decide) (fun c21 => ?_) (fun c21 => ?_)
    · have h := if_t ((lg_cmp_lt _ _).mp c21) h
      exact b_260 M v16 v19 _ _ _ h hwf hkp hP hD hS (lv_sub hl [2, 1, 0] rfl)
    have h := if_f (fun z => c21 ((lg_cmp_lt _ _).mpr z)) h
    refine lv_aload_n hx hb d_M_subtract_226 rfl (lv_at hl 2 rfl) ?_
    refine g_M_57 hx hb hts hown hK hP hwf hj0 (hts _ u_1798) d_M_subtract_227 ?_
    refine me_opt (j := j13) e14 ?_
    refine lv_sipush (v := 30075) hx hb d_M_subtract_230 (by decide) ?_
    refine me_lald hx hb hK hP hwf hj13 (me_in (i := (30075 : Int32)) (k := 30075) (by decide) (by decide) g17) d_M_subtract_233 ?_
    refine fg_topl (y := mL M 16 j13 30075) (congrArg _ (by decide)) ?_
    refine lv_aload_n hx hb d_M_subtract_234 rfl (lv_at hl 2 rfl) ?_
    refine g_M_56 hx hb hts hown hK hP hwf hj0 (hts _ u_1797) d_M_subtract_235 ?_
    refine me_opt (j := j10) e11 ?_
    refine lv_sipush (v := 30076) hx hb d_M_subtract_238 (by decide) ?_
    refine me_lald hx hb hK hP hwf hj10 (me_in (i := (30076 : Int32)) (k := 30076) (by decide) (by decide) g18) d_M_subtract_241 ?_
    refine fg_topl (y := mL M 16 j10 30076) (congrArg _ (by decide)) ?_
    refine lv_lxor hx hb d_M_subtract_242 ?_
    refine lv_aload_n hx hb d_M_subtract_243 rfl (lv_at hl 2 rfl) ?_
    refine g_M_57 hx hb hts hown hK hP hwf hj0 (hts _ u_1798) d_M_subtract_244 ?_
    refine me_opt (j := j13) e14 ?_
    refine lv_sipush (v := 30075) hx hb d_M_subtract_247 (by decide) ?_
    refine me_lald hx hb hK hP hwf hj13 (me_in (i := (30075 : Int32)) (k := 30075) (by decide) (by decide) g17) d_M_subtract_250 ?_
    refine fg_topl (y := mL M 16 j13 30075) (congrArg _ (by decide)) ?_
    refine lv_lload hx hb d_M_subtract_251 (lv_at hl 0 rfl) ?_
    refine lv_lxor hx hb d_M_subtract_253 ?_
    refine lv_land hx hb d_M_subtract_254 ?_
    obtain ⟨v22, ev22, h⟩ := st_ob h
    refine fg_topl (y := v22) ev22.symm ?_
    refine lv_lconst (v := 0) hx hb d_M_subtract_255 (by decide) ?_
    refine W.lcmp hx hb d_M_subtract_256 ?_
    refine lv_if_ge (tgt := 264) hx hb d_M_subtract_257 (by decide) (fun c23 => ?_) (fun c23 => ?_)
    · have h := if_f (Int64.not_lt.mpr ((lg_cmp_ge _ _).mp c23)) h
      refine lv_iconst (v := 0) hx hb d_M_subtract_264 (by decide) ?_
      exact b_265 M v16 v19 (0 : Int32) _ _ _ h (by decide) hwf hkp hP hD hS (lv_sub hl [2, 1, 0] rfl)
    have h := if_t (Int64.not_le.mp (fun z => c23 ((lg_cmp_ge _ _).mpr z))) h
    exact b_260 M v16 v19 _ _ _ h hwf hkp hP hD hS (lv_sub hl [2, 1, 0] rfl)
  refine lv_aload_n hx hb d_M_subtract_0 rfl (lv_at hl 0 rfl) ?_
  refine g_M_52 hx hb hts hown hK hP hwf hj0 (hts _ u_1793) d_M_subtract_1 ?_
  obtain ⟨j24, e25, h⟩ := bd_ob h
  have hj24 : j24 < N 16 := (hwf.2.1 1 j0 52 _ e25 (by decide) hj0)
  refine me_opt (j := j24) e25 ?_
  refine lv_sipush (v := 30075) hx hb d_M_subtract_4 (by decide) ?_
  obtain ⟨g26, h⟩ := gd_ob h
  refine me_lald hx hb hK hP hwf hj24 (me_in (i := (30075 : Int32)) (k := 30075) (by decide) (by decide) g26) d_M_subtract_7 ?_
  refine fg_topl (y := mL M0 16 j24 30075) (congrArg _ (by decide)) ?_
  refine lv_aload_n hx hb d_M_subtract_8 rfl (lv_at hl 0 rfl) ?_
  refine g_M_52 hx hb hts hown hK hP hwf hj0 (hts _ u_1793) d_M_subtract_9 ?_
  refine me_opt (j := j24) e25 ?_
  refine lv_sipush (v := 30076) hx hb d_M_subtract_12 (by decide) ?_
  obtain ⟨g27, h⟩ := gd_ob h
  refine me_lald hx hb hK hP hwf hj24 (me_in (i := (30076 : Int32)) (k := 30076) (by decide) (by decide) g27) d_M_subtract_15 ?_
  refine fg_topl (y := mL M0 16 j24 30076) (congrArg _ (by decide)) ?_
  refine lv_lsub hx hb d_M_subtract_16 ?_
  obtain ⟨v28, ev28, h⟩ := st_ob h
  refine fg_topl (y := v28) ev28.symm ?_
  refine lv_lstore_n (lv' := [(1, .long v28), (0, .ref (ad 1 j0))]) hx hb d_M_subtract_17 rfl hl (by decide) rfl (fun ls hl => ?_)
  refine lv_lload_n hx hb d_M_subtract_18 rfl (lv_at hl 0 rfl) ?_
  refine lv_aload_n hx hb d_M_subtract_19 rfl (lv_at hl 1 rfl) ?_
  refine g_M_53 hx hb hts hown hK hP hwf hj0 (hts _ u_1794) d_M_subtract_20 ?_
  obtain ⟨j29, e30, h⟩ := bd_ob h
  have hj29 : j29 < N 16 := (hwf.2.1 1 j0 53 _ e30 (by decide) hj0)
  refine me_opt (j := j29) e30 ?_
  refine lv_sipush (v := 30075) hx hb d_M_subtract_23 (by decide) ?_
  obtain ⟨g31, h⟩ := gd_ob h
  refine me_lald hx hb hK hP hwf hj29 (me_in (i := (30075 : Int32)) (k := 30075) (by decide) (by decide) g31) d_M_subtract_26 ?_
  refine fg_topl (y := mL M0 16 j29 30075) (congrArg _ (by decide)) ?_
  refine lv_ladd hx hb d_M_subtract_27 ?_
  refine lv_lload_n hx hb d_M_subtract_28 rfl (lv_at hl 0 rfl) ?_
  refine lv_aload_n hx hb d_M_subtract_29 rfl (lv_at hl 1 rfl) ?_
  refine g_M_53 hx hb hts hown hK hP hwf hj0 (hts _ u_1794) d_M_subtract_30 ?_
  refine me_opt (j := j29) e30 ?_
  refine lv_sipush (v := 30076) hx hb d_M_subtract_33 (by decide) ?_
  obtain ⟨g32, h⟩ := gd_ob h
  refine me_lald hx hb hK hP hwf hj29 (me_in (i := (30076 : Int32)) (k := 30076) (by decide) (by decide) g32) d_M_subtract_36 ?_
  refine fg_topl (y := mL M0 16 j29 30076) (congrArg _ (by decide)) ?_
  refine lv_lsub hx hb d_M_subtract_37 ?_
  refine lv_lxor hx hb d_M_subtract_38 ?_
  refine lv_aload_n hx hb d_M_subtract_39 rfl (lv_at hl 1 rfl) ?_
  refine g_M_53 hx hb hts hown hK hP hwf hj0 (hts _ u_1794) d_M_subtract_40 ?_
  refine me_opt (j := j29) e30 ?_
  refine lv_sipush (v := 30075) hx hb d_M_subtract_43 (by decide) ?_
  refine me_lald hx hb hK hP hwf hj29 (me_in (i := (30075 : Int32)) (k := 30075) (by decide) (by decide) g31) d_M_subtract_46 ?_
  refine fg_topl (y := mL M0 16 j29 30075) (congrArg _ (by decide)) ?_
  refine lv_lor hx hb d_M_subtract_47 ?_
  obtain ⟨v33, ev33, h⟩ := st_ob h
  refine fg_topl (y := v33) ev33.symm ?_
  refine lv_aload_n hx hb d_M_subtract_48 rfl (lv_at hl 1 rfl) ?_
  refine g_M_53 hx hb hts hown hK hP hwf hj0 (hts _ u_1794) d_M_subtract_49 ?_
  refine me_opt (j := j29) e30 ?_
  refine lv_sipush (v := 30076) hx hb d_M_subtract_52 (by decide) ?_
  refine me_lald hx hb hK hP hwf hj29 (me_in (i := (30076 : Int32)) (k := 30076) (by decide) (by decide) g32) d_M_subtract_55 ?_
  refine fg_topl (y := mL M0 16 j29 30076) (congrArg _ (by decide)) ?_
  refine lv_lor hx hb d_M_subtract_56 ?_
  obtain ⟨v34, ev34, h⟩ := st_ob h
  refine fg_topl (y := v34) ev34.symm ?_
  refine lv_lstore_n (lv' := [(3, .long v34), (1, .long v28), (0, .ref (ad 1 j0))]) hx hb d_M_subtract_57 rfl hl (by decide) rfl (fun ls hl => ?_)
  refine lv_aload_n hx hb d_M_subtract_58 rfl (lv_at hl 2 rfl) ?_
  refine g_M_53 hx hb hts hown hK hP hwf hj0 (hts _ u_1794) d_M_subtract_59 ?_
  refine me_opt (j := j29) e30 ?_
  refine lv_sipush (v := 30077) hx hb d_M_subtract_62 (by decide) ?_
  refine lv_lload_n hx hb d_M_subtract_65 rfl (lv_at hl 0 rfl) ?_
  obtain ⟨g35, h⟩ := gd_ob h
  obtain ⟨M36, eM36, h⟩ := st_ob h
  refine me_last (eM36.trans (by rw [show (30077 : Int32).toNatClampNeg = 30077 by decide])) hx hb hK hP hD hwf hS hj29 (me_in (i := (30077 : Int32)) (k := 30077) (by decide) (by decide) g35) d_M_subtract_66 (fun H locs hP hD hwf hS => ?_)
  have hkp := kp_L eM36 hkp
  refine lv_aload_n hx hb d_M_subtract_67 rfl (lv_at hl 2 rfl) ?_
  refine g_M_52 hx hb hts hown hK hP hwf hj0 (hts _ u_1793) d_M_subtract_68 ?_
  refine me_opt (j := j24) (kp_r hkb hkp e25) ?_
  refine lv_sipush (v := 30077) hx hb d_M_subtract_71 (by decide) ?_
  refine lv_lload_n hx hb d_M_subtract_74 rfl (lv_at hl 1 rfl) ?_
  refine lv_lload_n hx hb d_M_subtract_75 rfl (lv_at hl 0 rfl) ?_
  refine lv_ldc2 hx hb hown (hts _ u_2071) d_M_subtract_76 ?_
  refine lv_lxor hx hb d_M_subtract_79 ?_
  refine lv_land hx hb d_M_subtract_80 ?_
  obtain ⟨g37, h⟩ := gd_ob h
  obtain ⟨M38, eM38, h⟩ := st_ob h
  refine me_last (eM38.trans (by rw [show (30077 : Int32).toNatClampNeg = 30077 by decide])) hx hb hK hP hD hwf hS hj24 (me_in (i := (30077 : Int32)) (k := 30077) (by decide) (by decide) (kp_c hkb.z hkp.z g37)) d_M_subtract_81 (fun H locs hP hD hwf hS => ?_)
  have hkp := kp_L eM38 hkp
  refine lv_aload_n hx hb d_M_subtract_82 rfl (lv_at hl 2 rfl) ?_
  refine g_M_54 hx hb hts hown hK hP hwf hj0 (hts _ u_1795) d_M_subtract_83 ?_
  obtain ⟨j39, e40, h⟩ := bd_ob h
  have hj39 : j39 < N 16 := (hwf.2.1 1 j0 54 _ (kp_r hkb hkp e40) (by decide) hj0)
  refine me_opt (j := j39) (kp_r hkb hkp e40) ?_
  refine lv_sipush (v := 30075) hx hb d_M_subtract_86 (by decide) ?_
  obtain ⟨g41, h⟩ := gd_ob h
  refine me_lald hx hb hK hP hwf hj39 (me_in (i := (30075 : Int32)) (k := 30075) (by decide) (by decide) (kp_c hkb.z hkp.z g41)) d_M_subtract_89 ?_
  refine fg_topl (y := mL M38 16 j39 30075) (congrArg _ (by decide)) ?_
  refine lv_aload_n hx hb d_M_subtract_90 rfl (lv_at hl 2 rfl) ?_
  refine g_M_55 hx hb hts hown hK hP hwf hj0 (hts _ u_1796) d_M_subtract_91 ?_
  obtain ⟨j42, e43, h⟩ := bd_ob h
  have hj42 : j42 < N 16 := (hwf.2.1 1 j0 55 _ (kp_r hkb hkp e43) (by decide) hj0)
  refine me_opt (j := j42) (kp_r hkb hkp e43) ?_
  refine lv_sipush (v := 30076) hx hb d_M_subtract_94 (by decide) ?_
  obtain ⟨g44, h⟩ := gd_ob h
  refine me_lald hx hb hK hP hwf hj42 (me_in (i := (30076 : Int32)) (k := 30076) (by decide) (by decide) (kp_c hkb.z hkp.z g44)) d_M_subtract_97 ?_
  refine fg_topl (y := mL M38 16 j42 30076) (congrArg _ (by decide)) ?_
  obtain ⟨r45, er45, h⟩ := bd_ob h
  refine me_pani' (r0 := r45) (fg_runS (wc := []) (tc := []) (A2 := A) (As := [.long (mL M38 16 j39 30075), .long (mL M38 16 j42 30076)]) (rest := []) ⟨hx, hb, hml, hown, hts⟩ (c_M_below l D r45 (mL M38 16 j39 30075) (mL M38 16 j42 30076) er45 _) (by show fg_nm y_M_below 2; decide +kernel) u_2072 u_2073 u_192 u_2074 ⟨Nat.le_of_ble_eq_true rfl, Nat.le_of_ble_eq_true rfl⟩ hX me_P0 (hK.sub (tys' := []) [] rfl) me_D0 rfl hl.1 (Nat.le_of_ble_eq_true rfl) d_M_subtract_98 ⟨Nat.le_of_ble_eq_true rfl, Nat.le_of_ble_eq_true rfl⟩) hP hD hK hS hA rfl rfl (fun H locs hw hP hD hS => ?_)
  have zr45 := hw
  refine lv_if_ne (tgt := 154) hx hb d_M_subtract_101 (by decide) (fun c46 => ?_) (fun c46 => ?_)
  · have h := if_f c46 h
    exact b_154 M38 _ _ _ h hwf hkp hP hD hS (lv_sub hl [2] rfl)
  have h := if_t c46 h
  refine lv_aload_n hx hb d_M_subtract_104 rfl (lv_at hl 2 rfl) ?_
  refine g_M_54 hx hb hts hown hK hP hwf hj0 (hts _ u_1795) d_M_subtract_105 ?_
  refine me_opt (j := j39) (kp_r hkb hkp e40) ?_
  refine lv_sipush (v := 30077) hx hb d_M_subtract_108 (by decide) ?_
  refine lv_aload_n hx hb d_M_subtract_111 rfl (lv_at hl 2 rfl) ?_
  refine g_M_54 hx hb hts hown hK hP hwf hj0 (hts _ u_1795) d_M_subtract_112 ?_
  refine me_opt (j := j39) (kp_r hkb hkp e40) ?_
  refine lv_sipush (v := 30075) hx hb d_M_subtract_115 (by decide) ?_
  refine me_lald hx hb hK hP hwf hj39 (me_in (i := (30075 : Int32)) (k := 30075) (by decide) (by decide) (kp_c hkb.z hkp.z g41)) d_M_subtract_118 ?_
  refine fg_topl (y := mL M38 16 j39 30075) (congrArg _ (by decide)) ?_
  refine lv_aload_n hx hb d_M_subtract_119 rfl (lv_at hl 2 rfl) ?_
  refine g_M_55 hx hb hts hown hK hP hwf hj0 (hts _ u_1796) d_M_subtract_120 ?_
  refine me_opt (j := j42) (kp_r hkb hkp e43) ?_
  refine lv_sipush (v := 30076) hx hb d_M_subtract_123 (by decide) ?_
  refine me_lald hx hb hK hP hwf hj42 (me_in (i := (30076 : Int32)) (k := 30076) (by decide) (by decide) (kp_c hkb.z hkp.z g44)) d_M_subtract_126 ?_
  refine fg_topl (y := mL M38 16 j42 30076) (congrArg _ (by decide)) ?_
  refine lv_lsub hx hb d_M_subtract_127 ?_
  obtain ⟨g47, h⟩ := gd_ob h
  obtain ⟨M48, eM48, h⟩ := st_ob h
  refine me_last (eM48.trans (by rw [show (30077 : Int32).toNatClampNeg = 30077 by decide])) hx hb hK hP hD hwf hS hj39 (me_in (i := (30077 : Int32)) (k := 30077) (by decide) (by decide) (kp_c hkb.z hkp.z g47)) d_M_subtract_128 (fun H locs hP hD hwf hS => ?_)
  have hkp := kp_L eM48 hkp
  refine lv_aload_n hx hb d_M_subtract_129 rfl (lv_at hl 2 rfl) ?_
  refine g_M_55 hx hb hts hown hK hP hwf hj0 (hts _ u_1796) d_M_subtract_130 ?_
  refine me_opt (j := j42) (kp_r hkb hkp e43) ?_
  refine lv_sipush (v := 30077) hx hb d_M_subtract_133 (by decide) ?_
  refine lv_aload_n hx hb d_M_subtract_136 rfl (lv_at hl 2 rfl) ?_
  refine g_M_55 hx hb hts hown hK hP hwf hj0 (hts _ u_1796) d_M_subtract_137 ?_
  refine me_opt (j := j42) (kp_r hkb hkp e43) ?_
  refine lv_sipush (v := 30075) hx hb d_M_subtract_140 (by decide) ?_
  obtain ⟨g49, h⟩ := gd_ob h
  refine me_lald hx hb hK hP hwf hj42 (me_in (i := (30075 : Int32)) (k := 30075) (by decide) (by decide) (kp_c hkb.z hkp.z g49)) d_M_subtract_143 ?_
  refine fg_topl (y := mL M48 16 j42 30075) (congrArg _ (by decide)) ?_
  refine lv_aload_n hx hb d_M_subtract_144 rfl (lv_at hl 2 rfl) ?_
  refine g_M_54 hx hb hts hown hK hP hwf hj0 (hts _ u_1795) d_M_subtract_145 ?_
  refine me_opt (j := j39) (kp_r hkb hkp e40) ?_
  refine lv_sipush (v := 30076) hx hb d_M_subtract_148 (by decide) ?_
  obtain ⟨g50, h⟩ := gd_ob h
  refine me_lald hx hb hK hP hwf hj39 (me_in (i := (30076 : Int32)) (k := 30076) (by decide) (by decide) (kp_c hkb.z hkp.z g50)) d_M_subtract_151 ?_
  refine fg_topl (y := mL M48 16 j39 30076) (congrArg _ (by decide)) ?_
  refine lv_lsub hx hb d_M_subtract_152 ?_
  obtain ⟨g51, h⟩ := gd_ob h
  obtain ⟨M52, eM52, h⟩ := st_ob h
  refine me_last (eM52.trans (by rw [show (30077 : Int32).toNatClampNeg = 30077 by decide])) hx hb hK hP hD hwf hS hj42 (me_in (i := (30077 : Int32)) (k := 30077) (by decide) (by decide) (kp_c hkb.z hkp.z g51)) d_M_subtract_153 (fun H locs hP hD hwf hS => ?_)
  have hkp := kp_L eM52 hkp
  exact b_154 M52 _ _ _ h hwf hkp hP hD hS (lv_sub hl [2] rfl)
