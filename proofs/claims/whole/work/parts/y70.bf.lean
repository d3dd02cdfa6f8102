theorem d_Store_hasByte_47 : decode prog_12_method_8_code 47 = .ok (.iload_n 2, 1) := by decide +kernel
theorem d_Store_hasByte_48 : decode prog_12_method_8_code 48 = .ok (.sipush 200, 3) := by decide +kernel
theorem d_Store_hasByte_51 : decode prog_12_method_8_code 51 = .ok (.if_icmp .lt 19, 3) := by decide +kernel
theorem d_Store_hasByte_70 : decode prog_12_method_8_code 70 = .ok (.iconst 0, 1) := by decide +kernel
theorem d_Store_hasByte_71 : decode prog_12_method_8_code 71 = .ok (.ireturn, 1) := by decide +kernel
theorem d_Store_hasByte_54 : decode prog_12_method_8_code 54 = .ok (.iload_n 2, 1) := by decide +kernel
theorem d_Store_hasByte_55 : decode prog_12_method_8_code 55 = .ok (.sipush 200, 3) := by decide +kernel
theorem d_Store_hasByte_58 : decode prog_12_method_8_code 58 = .ok (.aload_n 0, 1) := by decide +kernel
theorem d_Store_hasByte_59 : decode prog_12_method_8_code 59 = .ok (.getfield 19, 3) := by decide +kernel
theorem d_Store_hasByte_62 : decode prog_12_method_8_code 62 = .ok (.iadd, 1) := by decide +kernel
theorem d_Store_hasByte_63 : decode prog_12_method_8_code 63 = .ok (.if_icmp .ge 7, 3) := by decide +kernel
theorem d_Store_hasByte_66 : decode prog_12_method_8_code 66 = .ok (.iconst 1, 1) := by decide +kernel
theorem d_Store_hasByte_67 : decode prog_12_method_8_code 67 = .ok (.goto 4, 3) := by decide +kernel
theorem d_Store_hasByte_22 : decode prog_12_method_8_code 22 = .ok (.istore_n 3, 1) := by decide +kernel
theorem d_Store_hasByte_23 : decode prog_12_method_8_code 23 = .ok (.iload_n 2, 1) := by decide +kernel
theorem d_Store_hasByte_24 : decode prog_12_method_8_code 24 = .ok (.ifCond .eq 42, 3) := by decide +kernel
theorem d_Store_hasByte_27 : decode prog_12_method_8_code 27 = .ok (.iload_n 3, 1) := by decide +kernel
theorem d_Store_hasByte_28 : decode prog_12_method_8_code 28 = .ok (.ifCond .eq 19, 3) := by decide +kernel
theorem d_Store_hasByte_31 : decode prog_12_method_8_code 31 = .ok (.aload_n 0, 1) := by decide +kernel
theorem d_Store_hasByte_32 : decode prog_12_method_8_code 32 = .ok (.getfield 11, 3) := by decide +kernel
theorem d_Store_hasByte_35 : decode prog_12_method_8_code 35 = .ok (.ifCond .eq 12, 3) := by decide +kernel
theorem d_Store_hasByte_38 : decode prog_12_method_8_code 38 = .ok (.aload_n 0, 1) := by decide +kernel
theorem d_Store_hasByte_39 : decode prog_12_method_8_code 39 = .ok (.getfield 32, 3) := by decide +kernel
theorem d_Store_hasByte_42 : decode prog_12_method_8_code 42 = .ok (.iload_n 1, 1) := by decide +kernel
theorem d_Store_hasByte_43 : decode prog_12_method_8_code 43 = .ok (.baload, 1) := by decide +kernel
theorem d_Store_hasByte_44 : decode prog_12_method_8_code 44 = .ok (.ifCond .ne 22, 3) := by decide +kernel
theorem d_Store_hasByte_21 : decode prog_12_method_8_code 21 = .ok (.iconst 0, 1) := by decide +kernel
theorem d_Store_hasByte_0 : decode prog_12_method_8_code 0 = .ok (.iload_n 2, 1) := by decide +kernel
theorem d_Store_hasByte_1 : decode prog_12_method_8_code 1 = .ok (.bipush 100, 2) := by decide +kernel
theorem d_Store_hasByte_3 : decode prog_12_method_8_code 3 = .ok (.if_icmp .lt 18, 3) := by decide +kernel
theorem d_Store_hasByte_6 : decode prog_12_method_8_code 6 = .ok (.iload_n 2, 1) := by decide +kernel
theorem d_Store_hasByte_7 : decode prog_12_method_8_code 7 = .ok (.bipush 100, 2) := by decide +kernel
theorem d_Store_hasByte_9 : decode prog_12_method_8_code 9 = .ok (.aload_n 0, 1) := by decide +kernel
theorem d_Store_hasByte_10 : decode prog_12_method_8_code 10 = .ok (.getfield 15, 3) := by decide +kernel
theorem d_Store_hasByte_13 : decode prog_12_method_8_code 13 = .ok (.iadd, 1) := by decide +kernel
theorem d_Store_hasByte_14 : decode prog_12_method_8_code 14 = .ok (.if_icmp .ge 7, 3) := by decide +kernel
theorem d_Store_hasByte_17 : decode prog_12_method_8_code 17 = .ok (.iconst 1, 1) := by decide +kernel
theorem d_Store_hasByte_18 : decode prog_12_method_8_code 18 = .ok (.goto 4, 3) := by decide +kernel
abbrev y_Store_hasByte : MethodName := ⟨"FilterGuard$Store", "hasByte", "(II)Z"⟩
def rm_Store_hasByte : Room := { frames := 1, cells := 0, slots := 0, locals := 20 }
abbrev q_Store_hasByte (D : va_G) (ad : Nat → Nat → Nat) (ca : Nat → ClassId) (N : Nat → Nat) (M0 MZ : me_M) (RZ : Int32) (A : Nat → Prop) : Array Value → Jvm.State → Outcome → Jvm.State → Prop := va_Qi (fun r (_ : Unit) => r = RZ ∧ me_wf N MZ ∧ me_kp M0 MZ ∧ (RZ = 1 ∨ RZ = 0)) (fg_B D A (fun _ => me_W ad ca MZ) (fun _ => [])) A
set_option maxHeartbeats 4000000 in
set_option maxRecDepth 100000 in
theorem c_Store_hasByte (l : Launch) (D : va_G) (ad : Nat → Nat → Nat) (ca : Nat → ClassId) (N : Nat → Nat) (M0 MZ : me_M) (RZ : Int32) (j0 : Nat) (x1 : Int32) (x2 : Int32) (h : f_Store_hasByte M0 j0 x1 x2 = (some (MZ, RZ))) (hwf : me_wf N M0) (hj0 : j0 < N 12) (sz : Nat) : Met l y_Store_hasByte (fg_w y_Store_hasByte prog_12_method_8_code 4 (some .boolean)) rm_Store_hasByte (va_Pc [.ref (ad 12 j0), .int x1, .int x2] (fz_P D (me_T ca) (me_W ad ca M0) sz)) (q_Store_hasByte D ad ca N M0 MZ RZ (va_A (me_W ad ca M0) sz)) rm_Store_hasByte.cells rm_Store_hasByte.slots (va_A (me_W ad ca M0) sz) := by
  refine fz_enter (fun A => q_Store_hasByte D ad ca N M0 MZ RZ A) (by decide +kernel) (Nat.le_of_ble_eq_true rfl) ?_
  intro p e s m below meth c ls A hx hb hml hown hts hr hlocks hin hP hK hD hS hA hX hl hz
  have hl : lv_has ls 4 [(0, .ref (ad 12 j0)), (1, .int x1), (2, .int x2)] := hl
  unfold f_Store_hasByte at h
  have hkp : me_kp M0 M0 := me_kp.rf
  have hkb := hkp
  have b_47 : ∀ (M : me_M) (H : Heap) (locs : List Loc) (ls : Array Slot), f_Store_hasByte_b47 j0 x2 M = (some (MZ, RZ)) → me_wf N M → me_kp M0 M → va_P D classes (me_W ad ca M) H → va_D A (me_W ad ca M) → va_S A s.heap H locs → lv_has ls 4 [(0, .ref (ad 12 j0)), (2, .int x2)] → W p l e rm_Store_hasByte s m [.ref (ad 12 j0), .int x1, .int x2].toArray below meth c H locs 0 0 (MQ below (q_Store_hasByte D ad ca N M0 MZ RZ A) [.ref (ad 12 j0), .int x1, .int x2].toArray s rm_Store_hasByte.cells rm_Store_hasByte.slots A) (F0 m 47 ls []) := by
    intro M H locs ls h hwf hkp hP hD hS hl
    unfold f_Store_hasByte_b47 at h
    have hkb := hkp
    refine lv_iload_n hx hb d_Store_hasByte_47 rfl (lv_at hl 1 rfl) ?_
    refine lv_sipush (v := 200) hx hb d_Store_hasByte_48 (by decide) ?_
    refine lv_icmp_lt (tgt := 70) hx hb d_Store_hasByte_51 (by decide) (fun c1 => ?_) (fun c1 => ?_)
    · have h := if_t c1 h
      refine lv_iconst (v := 0) hx hb d_Store_hasByte_70 (by decide) ?_
      exact me_retz (me_kp M0) h (by decide) hx hb hr hlocks hwf hkp hP hK hD hS d_Store_hasByte_71
    have h := if_f c1 h
    refine lv_iload_n hx hb d_Store_hasByte_54 rfl (lv_at hl 1 rfl) ?_
    refine lv_sipush (v := 200) hx hb d_Store_hasByte_55 (by decide) ?_
    refine lv_aload_n hx hb d_Store_hasByte_58 rfl (lv_at hl 0 rfl) ?_
    refine g_Store_2 hx hb hts hown hK hP hwf hj0 (hts _ u_906) d_Store_hasByte_59 ?_
    refine lv_iadd hx hb d_Store_hasByte_62 ?_
    refine lv_icmp_ge (tgt := 70) hx hb d_Store_hasByte_63 (by decide) (fun c2 => ?_) (fun c2 => ?_)
    · have h := if_t c2 h
      refine lv_iconst (v := 0) hx hb d_Store_hasByte_70 (by decide) ?_
      exact me_retz (me_kp M0) h (by decide) hx hb hr hlocks hwf hkp hP hK hD hS d_Store_hasByte_71
    have h := if_f c2 h
    refine lv_iconst (v := 1) hx hb d_Store_hasByte_66 (by decide) ?_
    refine lv_goto (tgt := 71) hx hb d_Store_hasByte_67 (by decide) ?_
    exact me_retz (me_kp M0) h (by decide) hx hb hr hlocks hwf hkp hP hK hD hS d_Store_hasByte_71
  have b_22 : ∀ (M : me_M) (s0 : Int32) (H : Heap) (locs : List Loc) (ls : Array Slot), f_Store_hasByte_b22 j0 x1 x2 M s0 = (some (MZ, RZ)) → (s0 = 1 ∨ s0 = 0) → me_wf N M → me_kp M0 M → va_P D classes (me_W ad ca M) H → va_D A (me_W ad ca M) → va_S A s.heap H locs → lv_has ls 4 [(0, .ref (ad 12 j0)), (1, .int x1), (2, .int x2)] → W p l e rm_Store_hasByte s m [.ref (ad 12 j0), .int x1, .int x2].toArray below meth c H locs 0 0 (MQ below (q_Store_hasByte D ad ca N M0 MZ RZ A) [.ref (ad 12 j0), .int x1, .int x2].toArray s rm_Store_hasByte.cells rm_Store_hasByte.slots A) (F0 m 22 ls [.int s0]) := by
    intro M s0 H locs ls h zs0 hwf hkp hP hD hS hl
    unfold f_Store_hasByte_b22 at h
    have hkb := hkp
    refine lv_istore_n (lv' := [(3, .int s0), (0, .ref (ad 12 j0)), (1, .int x1), (2, .int x2)]) hx hb d_Store_hasByte_22 rfl hl (by decide) rfl (fun ls hl => ?_)
    refine lv_iload_n hx hb d_Store_hasByte_23 rfl (lv_at hl 3 rfl) ?_
    refine lv_if_eq (tgt := 66) hx hb d_Store_hasByte_24 (by decide) (fun c3 => ?_) (fun c3 => ?_)
    · have h := if_t c3 h
      refine lv_iconst (v := 1) hx hb d_Store_hasByte_66 (by decide) ?_
      refine lv_goto (tgt := 71) hx hb d_Store_hasByte_67 (by decide) ?_
      exact me_retz (me_kp M0) h (by decide) hx hb hr hlocks hwf hkp hP hK hD hS d_Store_hasByte_71
    have h := if_f c3 h
    refine lv_iload_n hx hb d_Store_hasByte_27 rfl (lv_at hl 0 rfl) ?_
    refine lv_if_eq (tgt := 47) hx hb d_Store_hasByte_28 (by decide) (fun c4 => ?_) (fun c4 => ?_)
    · have h := if_t c4 h
      exact b_47 M _ _ _ h hwf hkp hP hD hS (lv_sub hl [1, 3] rfl)
    have h := if_f c4 h
    refine lv_aload_n hx hb d_Store_hasByte_31 rfl (lv_at hl 1 rfl) ?_
    refine g_Store_0 hx hb hts hown hK hP hwf hj0 (hts _ u_900) d_Store_hasByte_32 ?_
    have z5 := (hwf.2.2.2 12 j0 0 rfl)
    refine lv_if_eq (tgt := 47) hx hb d_Store_hasByte_35 (by decide) (fun c6 => ?_) (fun c6 => ?_)
    · have h := if_t c6 h
      exact b_47 M _ _ _ h hwf hkp hP hD hS (lv_sub hl [1, 3] rfl)
    have h := if_f c6 h
    refine lv_aload_n hx hb d_Store_hasByte_38 rfl (lv_at hl 1 rfl) ?_
    refine g_Store_6 hx hb hts hown hK hP hwf hj0 (hts _ u_917) d_Store_hasByte_39 ?_
    obtain ⟨j7, e8, h⟩ := bd_ob h
    have hj7 : j7 < N 15 := (hwf.2.1 12 j0 6 _ e8 (by decide) hj0)
    refine me_opt (j := j7) e8 ?_
    refine lv_iload_n hx hb d_Store_hasByte_42 rfl (lv_at hl 2 rfl) ?_
    obtain ⟨g9, h⟩ := gd_ob h
    refine me_zald hx hb hK hP hwf hj7 g9 d_Store_hasByte_43 ?_
    have z10 := hwf.2.2.2 15 j7 x1.toNatClampNeg rfl
    refine lv_if_ne (tgt := 66) hx hb d_Store_hasByte_44 (by decide) (fun c11 => ?_) (fun c11 => ?_)
    · have h := if_f c11 h
      refine lv_iconst (v := 1) hx hb d_Store_hasByte_66 (by decide) ?_
      refine lv_goto (tgt := 71) hx hb d_Store_hasByte_67 (by decide) ?_
      exact me_retz (me_kp M0) h (by decide) hx hb hr hlocks hwf hkp hP hK hD hS d_Store_hasByte_71
    have h := if_t c11 h
    exact b_47 M _ _ _ h hwf hkp hP hD hS (lv_sub hl [1, 3] rfl)
  have b_21 : ∀ (M : me_M) (H : Heap) (locs : List Loc) (ls : Array Slot), f_Store_hasByte_b21 j0 x1 x2 M = (some (MZ, RZ)) → me_wf N M → me_kp M0 M → va_P D classes (me_W ad ca M) H → va_D A (me_W ad ca M) → va_S A s.heap H locs → lv_has ls 4 [(0, .ref (ad 12 j0)), (1, .int x1), (2, .int x2)] → W p l e rm_Store_hasByte s m [.ref (ad 12 j0), .int x1, .int x2].toArray below meth c H locs 0 0 (MQ below (q_Store_hasByte D ad ca N M0 MZ RZ A) [.ref (ad 12 j0), .int x1, .int x2].toArray s rm_Store_hasByte.cells rm_Store_hasByte.slots A) (F0 m 21 ls []) := by
    intro M H locs ls h hwf hkp hP hD hS hl
    unfold f_Store_hasByte_b21 at h
    have hkb := hkp
    refine lv_iconst (v := 0) hx hb d_Store_hasByte_21 (by decide) ?_
    exact b_22 M (0 : Int32) _ _ _ h (by decide) hwf hkp hP hD hS (lv_sub hl [0, 1, 2] rfl)
  refine lv_iload_n hx hb d_Store_hasByte_0 rfl (lv_at hl 2 rfl) ?_
  refine lv_bipush (v := 100) hx hb d_Store_hasByte_1 (by decide) ?_
  refine lv_icmp_lt (tgt := 21) hx hb d_Store_hasByte_3 (by decide) (fun c12 => ?_) (fun c12 => ?_)
  · have h := if_t c12 h
    exact b_21 M0 _ _ _ h hwf hkp hP hD hS (lv_sub hl [0, 1, 2] rfl)
  have h := if_f c12 h
  refine lv_iload_n hx hb d_Store_hasByte_6 rfl (lv_at hl 2 rfl) ?_
  refine lv_bipush (v := 100) hx hb d_Store_hasByte_7 (by decide) ?_
  refine lv_aload_n hx hb d_Store_hasByte_9 rfl (lv_at hl 0 rfl) ?_
  refine g_Store_1 hx hb hts hown hK hP hwf hj0 (hts _ u_901) d_Store_hasByte_10 ?_
  refine lv_iadd hx hb d_Store_hasByte_13 ?_
  refine lv_icmp_ge (tgt := 21) hx hb d_Store_hasByte_14 (by decide) (fun c13 => ?_) (fun c13 => ?_)
  · have h := if_t c13 h
    exact b_21 M0 _ _ _ h hwf hkp hP hD hS (lv_sub hl [0, 1, 2] rfl)
  have h := if_f c13 h
  refine lv_iconst (v := 1) hx hb d_Store_hasByte_17 (by decide) ?_
  refine lv_goto (tgt := 22) hx hb d_Store_hasByte_18 (by decide) ?_
  exact b_22 M0 (1 : Int32) _ _ _ h (by decide) hwf hkp hP hD hS (lv_sub hl [0, 1, 2] rfl)
theorem d_Store_byteOf_0 : decode prog_12_method_9_code 0 = .ok (.iload_n 2, 1) := by decide +kernel
theorem d_Store_byteOf_1 : decode prog_12_method_9_code 1 = .ok (.ifCond .ne 18, 3) := by decide +kernel
theorem d_Store_byteOf_19 : decode prog_12_method_9_code 19 = .ok (.iload_n 2, 1) := by decide +kernel
theorem d_Store_byteOf_20 : decode prog_12_method_9_code 20 = .ok (.sipush 200, 3) := by decide +kernel
theorem d_Store_byteOf_23 : decode prog_12_method_9_code 23 = .ok (.if_icmp .ge 22, 3) := by decide +kernel
theorem d_Store_byteOf_45 : decode prog_12_method_9_code 45 = .ok (.aload_n 0, 1) := by decide +kernel
theorem d_Store_byteOf_46 : decode prog_12_method_9_code 46 = .ok (.getfield 29, 3) := by decide +kernel
theorem d_Store_byteOf_49 : decode prog_12_method_9_code 49 = .ok (.iload_n 1, 1) := by decide +kernel
theorem d_Store_byteOf_50 : decode prog_12_method_9_code 50 = .ok (.aload_n 0, 1) := by decide +kernel
theorem d_Store_byteOf_51 : decode prog_12_method_9_code 51 = .ok (.getfield 19, 3) := by decide +kernel
theorem d_Store_byteOf_54 : decode prog_12_method_9_code 54 = .ok (.imul, 1) := by decide +kernel
theorem d_Store_byteOf_55 : decode prog_12_method_9_code 55 = .ok (.iload_n 2, 1) := by decide +kernel
theorem d_Store_byteOf_56 : decode prog_12_method_9_code 56 = .ok (.iadd, 1) := by decide +kernel
theorem d_Store_byteOf_57 : decode prog_12_method_9_code 57 = .ok (.sipush 200, 3) := by decide +kernel
theorem d_Store_byteOf_60 : decode prog_12_method_9_code 60 = .ok (.isub, 1) := by decide +kernel
theorem d_Store_byteOf_61 : decode prog_12_method_9_code 61 = .ok (.baload, 1) := by decide +kernel
theorem d_Store_byteOf_62 : decode prog_12_method_9_code 62 = .ok (.sipush 255, 3) := by decide +kernel
theorem d_Store_byteOf_65 : decode prog_12_method_9_code 65 = .ok (.iand, 1) := by decide +kernel
theorem d_Store_byteOf_66 : decode prog_12_method_9_code 66 = .ok (.ireturn, 1) := by decide +kernel
theorem d_Store_byteOf_26 : decode prog_12_method_9_code 26 = .ok (.aload_n 0, 1) := by decide +kernel
theorem d_Store_byteOf_27 : decode prog_12_method_9_code 27 = .ok (.getfield 25, 3) := by decide +kernel
theorem d_Store_byteOf_30 : decode prog_12_method_9_code 30 = .ok (.iload_n 1, 1) := by decide +kernel
theorem d_Store_byteOf_31 : decode prog_12_method_9_code 31 = .ok (.aload_n 0, 1) := by decide +kernel
theorem d_Store_byteOf_32 : decode prog_12_method_9_code 32 = .ok (.getfield 15, 3) := by decide +kernel
theorem d_Store_byteOf_35 : decode prog_12_method_9_code 35 = .ok (.imul, 1) := by decide +kernel
theorem d_Store_byteOf_36 : decode prog_12_method_9_code 36 = .ok (.iload_n 2, 1) := by decide +kernel
theorem d_Store_byteOf_37 : decode prog_12_method_9_code 37 = .ok (.iadd, 1) := by decide +kernel
theorem d_Store_byteOf_38 : decode prog_12_method_9_code 38 = .ok (.bipush 100, 2) := by decide +kernel
theorem d_Store_byteOf_40 : decode prog_12_method_9_code 40 = .ok (.isub, 1) := by decide +kernel
theorem d_Store_byteOf_41 : decode prog_12_method_9_code 41 = .ok (.baload, 1) := by decide +kernel
theorem d_Store_byteOf_42 : decode prog_12_method_9_code 42 = .ok (.goto 20, 3) := by decide +kernel
theorem d_Store_byteOf_4 : decode prog_12_method_9_code 4 = .ok (.aload_n 0, 1) := by decide +kernel
theorem d_Store_byteOf_5 : decode prog_12_method_9_code 5 = .ok (.getfield 32, 3) := by decide +kernel
theorem d_Store_byteOf_8 : decode prog_12_method_9_code 8 = .ok (.iload_n 1, 1) := by decide +kernel
theorem d_Store_byteOf_9 : decode prog_12_method_9_code 9 = .ok (.baload, 1) := by decide +kernel
theorem d_Store_byteOf_10 : decode prog_12_method_9_code 10 = .ok (.ifCond .eq 7, 3) := by decide +kernel
theorem d_Store_byteOf_17 : decode prog_12_method_9_code 17 = .ok (.iconst 0, 1) := by decide +kernel
theorem d_Store_byteOf_18 : decode prog_12_method_9_code 18 = .ok (.ireturn, 1) := by decide +kernel
theorem d_Store_byteOf_13 : decode prog_12_method_9_code 13 = .ok (.iconst 1, 1) := by decide +kernel
theorem d_Store_byteOf_14 : decode prog_12_method_9_code 14 = .ok (.goto 4, 3) := by decide +kernel
abbrev y_Store_byteOf : MethodName := ⟨"FilterGuard$Store", "byteOf", "(II)I"⟩
def rm_Store_byteOf : Room := { frames := 1, cells := 0, slots := 0, locals := 20 }
abbrev q_Store_byteOf (D : va_G) (ad : Nat → Nat → Nat) (ca : Nat → ClassId) (N : Nat → Nat) (M0 MZ : me_M) (RZ : Int32) (A : Nat → Prop) : Array Value → Jvm.State → Outcome → Jvm.State → Prop := va_Qi (fun r (_ : Unit) => r = RZ ∧ me_wf N MZ ∧ me_kp M0 MZ) (fg_B D A (fun _ => me_W ad ca MZ) (fun _ => [])) A
set_option maxHeartbeats 4000000 in
set_option maxRecDepth 100000 in
theorem c_Store_byteOf (l : Launch) (D : va_G) (ad : Nat → Nat → Nat) (ca : Nat → ClassId) (N : Nat → Nat) (M0 MZ : me_M) (RZ : Int32) (j0 : Nat) (x1 : Int32) (x2 : Int32) (h : f_Store_byteOf M0 j0 x1 x2 = (some (MZ, RZ))) (hwf : me_wf N M0) (hj0 : j0 < N 12) (sz : Nat) : Met l y_Store_byteOf (fg_w y_Store_byteOf prog_12_method_9_code 3 (some .int)) rm_Store_byteOf (va_Pc [.ref (ad 12 j0), .int x1, .int x2] (fz_P D (me_T ca) (me_W ad ca M0) sz)) (q_Store_byteOf D ad ca N M0 MZ RZ (va_A (me_W ad ca M0) sz)) rm_Store_byteOf.cells rm_Store_byteOf.slots (va_A (me_W ad ca M0) sz) := by
  refine fz_enter (fun A => q_Store_byteOf D ad ca N M0 MZ RZ A) (by decide +kernel) (Nat.le_of_ble_eq_true rfl) ?_
  intro p e s m below meth c ls A hx hb hml hown hts hr hlocks hin hP hK hD hS hA hX hl hz
  have hl : lv_has ls 3 [(0, .ref (ad 12 j0)), (1, .int x1), (2, .int x2)] := hl
  unfold f_Store_byteOf at h
  have hkp : me_kp M0 M0 := me_kp.rf
  have hkb := hkp
  refine lv_iload_n hx hb d_Store_byteOf_0 rfl (lv_at hl 2 rfl) ?_
  refine lv_if_ne (tgt := 19) hx hb d_Store_byteOf_1 (by decide) (fun c1 => ?_) (fun c1 => ?_)
  · have h := if_f c1 h
    refine lv_iload_n hx hb d_Store_byteOf_19 rfl (lv_at hl 2 rfl) ?_
    refine lv_sipush (v := 200) hx hb d_Store_byteOf_20 (by decide) ?_
    refine lv_icmp_ge (tgt := 45) hx hb d_Store_byteOf_23 (by decide) (fun c2 => ?_) (fun c2 => ?_)
    · have h := if_t c2 h
      refine lv_aload_n hx hb d_Store_byteOf_45 rfl (lv_at hl 0 rfl) ?_
      refine g_Store_5 hx hb hts hown hK hP hwf hj0 (hts _ u_915) d_Store_byteOf_46 ?_
      obtain ⟨j3, e4, h⟩ := bd_ob h
      have hj3 : j3 < N 14 := (hwf.2.1 12 j0 5 _ e4 (by decide) hj0)
      refine me_opt (j := j3) e4 ?_
      refine lv_iload_n hx hb d_Store_byteOf_49 rfl (lv_at hl 1 rfl) ?_
      refine lv_aload_n hx hb d_Store_byteOf_50 rfl (lv_at hl 0 rfl) ?_
      refine g_Store_2 hx hb hts hown hK hP hwf hj0 (hts _ u_906) d_Store_byteOf_51 ?_
      refine lv_imul hx hb d_Store_byteOf_54 ?_
      refine lv_iload_n hx hb d_Store_byteOf_55 rfl (lv_at hl 2 rfl) ?_
      refine lv_iadd hx hb d_Store_byteOf_56 ?_
      refine lv_sipush (v := 200) hx hb d_Store_byteOf_57 (by decide) ?_
      refine lv_isub hx hb d_Store_byteOf_60 ?_
      obtain ⟨g5, h⟩ := gd_ob h
      refine me_bald hx hb hK hP hwf hj3 g5 d_Store_byteOf_61 ?_
      refine lv_sipush (v := 255) hx hb d_Store_byteOf_62 (by decide) ?_
      refine lv_iand hx hb d_Store_byteOf_65 ?_
      obtain ⟨v6, ev6, h⟩ := st_ob h
      refine fg_topi (y := v6) ev6.symm ?_
      exact me_reti (me_kp M0) h hx hb hr hlocks hwf hkp hP hK hD hS d_Store_byteOf_66
    have h := if_f c2 h
    refine lv_aload_n hx hb d_Store_byteOf_26 rfl (lv_at hl 0 rfl) ?_
    refine g_Store_4 hx hb hts hown hK hP hwf hj0 (hts _ u_914) d_Store_byteOf_27 ?_
    obtain ⟨j7, e8, h⟩ := bd_ob h
    have hj7 : j7 < N 14 := (hwf.2.1 12 j0 4 _ e8 (by decide) hj0)
    refine me_opt (j := j7) e8 ?_
    refine lv_iload_n hx hb d_Store_byteOf_30 rfl (lv_at hl 1 rfl) ?_
    refine lv_aload_n hx hb d_Store_byteOf_31 rfl (lv_at hl 0 rfl) ?_
    refine g_Store_1 hx hb hts hown hK hP hwf hj0 (hts _ u_901) d_Store_byteOf_32 ?_
    refine lv_imul hx hb d_Store_byteOf_35 ?_
    refine lv_iload_n hx hb d_Store_byteOf_36 rfl (lv_at hl 2 rfl) ?_
    refine lv_iadd hx hb d_Store_byteOf_37 ?_
    refine lv_bipush (v := 100) hx hb d_Store_byteOf_38 (by decide) ?_
    refine lv_isub hx hb d_Store_byteOf_40 ?_
    obtain ⟨g9, h⟩ := gd_ob h
    refine me_bald hx hb hK hP hwf hj7 g9 d_Store_byteOf_41 ?_
    refine lv_goto (tgt := 62) hx hb d_Store_byteOf_42 (by decide) ?_
    refine lv_sipush (v := 255) hx hb d_Store_byteOf_62 (by decide) ?_
    refine lv_iand hx hb d_Store_byteOf_65 ?_
    obtain ⟨v10, ev10, h⟩ := st_ob h
    refine fg_topi (y := v10) ev10.symm ?_
    exact me_reti (me_kp M0) h hx hb hr hlocks hwf hkp hP hK hD hS d_Store_byteOf_66
  have h := if_t c1 h
  refine lv_aload_n hx hb d_Store_byteOf_4 rfl (lv_at hl 0 rfl) ?_
  refine g_Store_6 hx hb hts hown hK hP hwf hj0 (hts _ u_917) d_Store_byteOf_5 ?_
  obtain ⟨j11, e12, h⟩ := bd_ob h
  have hj11 : j11 < N 15 := (hwf.2.1 12 j0 6 _ e12 (by decide) hj0)
  refine me_opt (j := j11) e12 ?_
  refine lv_iload_n hx hb d_Store_byteOf_8 rfl (lv_at hl 1 rfl) ?_
  obtain ⟨g13, h⟩ := gd_ob h
  refine me_zald hx hb hK hP hwf hj11 g13 d_Store_byteOf_9 ?_
  have z14 := hwf.2.2.2 15 j11 x1.toNatClampNeg rfl
  refine lv_if_eq (tgt := 17) hx hb d_Store_byteOf_10 (by decide) (fun c15 => ?_) (fun c15 => ?_)
  · have h := if_t c15 h
    refine lv_iconst (v := 0) hx hb d_Store_byteOf_17 (by decide) ?_
    exact me_reti (me_kp M0) h hx hb hr hlocks hwf hkp hP hK hD hS d_Store_byteOf_18
  have h := if_f c15 h
  refine lv_iconst (v := 1) hx hb d_Store_byteOf_13 (by decide) ?_
  refine lv_goto (tgt := 18) hx hb d_Store_byteOf_14 (by decide) ?_
  exact me_reti (me_kp M0) h hx hb hr hlocks hwf hkp hP hK hD hS d_Store_byteOf_18
theorem d_G_entry_0 : decode prog_1_method_12_code 0 = .ok (.iload_n 1, 1) := by decide +kernel
theorem d_G_entry_1 : decode prog_1_method_12_code 1 = .ok (.ifCond .lt 42, 3) := by decide +kernel
theorem d_G_entry_43 : decode prog_1_method_12_code 43 = .ok (.new 151, 3) := by decide +kernel
theorem d_G_entry_4 : decode prog_1_method_12_code 4 = .ok (.iload_n 1, 1) := by decide +kernel
theorem d_G_entry_5 : decode prog_1_method_12_code 5 = .ok (.aload_n 0, 1) := by decide +kernel
theorem d_G_entry_6 : decode prog_1_method_12_code 6 = .ok (.getfield 85, 3) := by decide +kernel
theorem d_G_entry_9 : decode prog_1_method_12_code 9 = .ok (.if_icmp .ge 34, 3) := by decide +kernel
theorem d_G_entry_12 : decode prog_1_method_12_code 12 = .ok (.iload_n 2, 1) := by decide +kernel
theorem d_G_entry_13 : decode prog_1_method_12_code 13 = .ok (.ifCond .lt 30, 3) := by decide +kernel
theorem d_G_entry_16 : decode prog_1_method_12_code 16 = .ok (.iload_n 2, 1) := by decide +kernel
theorem d_G_entry_17 : decode prog_1_method_12_code 17 = .ok (.aload_n 0, 1) := by decide +kernel
theorem d_G_entry_18 : decode prog_1_method_12_code 18 = .ok (.getfield 15, 3) := by decide +kernel
theorem d_G_entry_21 : decode prog_1_method_12_code 21 = .ok (.iload_n 1, 1) := by decide +kernel
theorem d_G_entry_22 : decode prog_1_method_12_code 22 = .ok (.aaload, 1) := by decide +kernel
theorem d_G_entry_23 : decode prog_1_method_12_code 23 = .ok (.getfield 185, 3) := by decide +kernel
theorem u_912 : Cond.fieldLink "FilterGuard" 185 "FilterGuard$Store" "entries" "I" ∈ fg_g := fg_in (List.mem_of_getElem? (i := 912) (by decide +kernel)) rfl
theorem d_G_entry_26 : decode prog_1_method_12_code 26 = .ok (.if_icmp .ge 17, 3) := by decide +kernel
theorem d_G_entry_29 : decode prog_1_method_12_code 29 = .ok (.aload_n 0, 1) := by decide +kernel
theorem d_G_entry_30 : decode prog_1_method_12_code 30 = .ok (.getfield 15, 3) := by decide +kernel
theorem d_G_entry_33 : decode prog_1_method_12_code 33 = .ok (.iload_n 1, 1) := by decide +kernel
theorem d_G_entry_34 : decode prog_1_method_12_code 34 = .ok (.aaload, 1) := by decide +kernel
theorem d_G_entry_35 : decode prog_1_method_12_code 35 = .ok (.iload_n 2, 1) := by decide +kernel
theorem d_G_entry_36 : decode prog_1_method_12_code 36 = .ok (.iload_n 3, 1) := by decide +kernel
theorem d_G_entry_37 : decode prog_1_method_12_code 37 = .ok (.invokevirtual 188, 3) := by decide +kernel
theorem u_1546 : Cond.methodLink "FilterGuard" 188 ⟨"FilterGuard$Store", "hasByte", "(II)Z"⟩ ∈ fg_g := fg_in (List.mem_of_getElem? (i := 1546) (by decide +kernel)) rfl
theorem u_1549 : Cond.code ⟨"FilterGuard$Store", "hasByte", "(II)Z"⟩ prog_12_method_8_code 4 (some .boolean) ∈ fg_g := fg_in (List.mem_of_getElem? (i := 1549) (by decide +kernel)) rfl
theorem u_1547 : Cond.instanceMethod ⟨"FilterGuard$Store", "hasByte", "(II)Z"⟩ ∈ fg_g := fg_in (List.mem_of_getElem? (i := 1547) (by decide +kernel)) rfl
theorem u_1548 : Cond.selects "FilterGuard$Store" ⟨"FilterGuard$Store", "hasByte", "(II)Z"⟩ ⟨"FilterGuard$Store", "hasByte", "(II)Z"⟩ ∈ fg_g := fg_in (List.mem_of_getElem? (i := 1548) (by decide +kernel)) rfl
theorem d_G_entry_40 : decode prog_1_method_12_code 40 = .ok (.ifCond .ne 13, 3) := by decide +kernel
theorem d_G_entry_53 : decode prog_1_method_12_code 53 = .ok (.aload_n 0, 1) := by decide +kernel
theorem d_G_entry_54 : decode prog_1_method_12_code 54 = .ok (.getfield 15, 3) := by decide +kernel
theorem d_G_entry_57 : decode prog_1_method_12_code 57 = .ok (.iload_n 1, 1) := by decide +kernel
theorem d_G_entry_58 : decode prog_1_method_12_code 58 = .ok (.aaload, 1) := by decide +kernel
theorem d_G_entry_59 : decode prog_1_method_12_code 59 = .ok (.iload_n 2, 1) := by decide +kernel
theorem d_G_entry_60 : decode prog_1_method_12_code 60 = .ok (.iload_n 3, 1) := by decide +kernel
theorem d_G_entry_61 : decode prog_1_method_12_code 61 = .ok (.invokevirtual 194, 3) := by decide +kernel
theorem u_1551 : Cond.methodLink "FilterGuard" 194 ⟨"FilterGuard$Store", "byteOf", "(II)I"⟩ ∈ fg_g := fg_in (List.mem_of_getElem? (i := 1551) (by decide +kernel)) rfl
theorem u_1554 : Cond.code ⟨"FilterGuard$Store", "byteOf", "(II)I"⟩ prog_12_method_9_code 3 (some .int) ∈ fg_g := fg_in (List.mem_of_getElem? (i := 1554) (by decide +kernel)) rfl
theorem u_1552 : Cond.instanceMethod ⟨"FilterGuard$Store", "byteOf", "(II)I"⟩ ∈ fg_g := fg_in (List.mem_of_getElem? (i := 1552) (by decide +kernel)) rfl
theorem u_1553 : Cond.selects "FilterGuard$Store" ⟨"FilterGuard$Store", "byteOf", "(II)I"⟩ ⟨"FilterGuard$Store", "byteOf", "(II)I"⟩ ∈ fg_g := fg_in (List.mem_of_getElem? (i := 1553) (by decide +kernel)) rfl
theorem d_G_entry_64 : decode prog_1_method_12_code 64 = .ok (.ireturn, 1) := by decide +kernel
abbrev y_G_entry : MethodName := ⟨"FilterGuard", "entry", "(III)I"⟩
theorem o_1550 : Cond.stringRef "FilterGuard" 192 "no such entry or byte" ∈ lw_tbl := List.mem_of_getElem? (i := 1550) (by decide +kernel)
theorem d_G_entry_46 : decode prog_1_method_12_code 46 = .ok (.dup, 1) := by decide +kernel
theorem d_G_entry_47 : decode prog_1_method_12_code 47 = .ok (.ldc 192, 2) := by decide +kernel
theorem d_G_entry_49 : decode prog_1_method_12_code 49 = .ok (.invokespecial 155, 3) := by decide +kernel
theorem d_G_entry_52 : decode prog_1_method_12_code 52 = .ok (.athrow, 1) := by decide +kernel
def rm_G_entry : Room := { frames := 2, cells := 0, slots := 0, locals := 43 }
abbrev q_G_entry (D : va_G) (ad : Nat → Nat → Nat) (ca : Nat → ClassId) (N : Nat → Nat) (M0 MZ : me_M) (RZ : Int32) (A : Nat → Prop) : Array Value → Jvm.State → Outcome → Jvm.State → Prop := va_Qi (fun r (_ : Unit) => r = RZ ∧ me_wf N MZ ∧ me_kp M0 MZ) (fg_B D A (fun _ => me_W ad ca MZ) (fun _ => [])) A
set_option maxHeartbeats 4000000 in
set_option maxRecDepth 100000 in
theorem c_G_entry (l : Launch) (D : va_G) (ad : Nat → Nat → Nat) (ca : Nat → ClassId) (N : Nat → Nat) (M0 MZ : me_M) (RZ : Int32) (j0 : Nat) (x1 : Int32) (x2 : Int32) (x3 : Int32) (h : f_G_entry M0 j0 x1 x2 x3 = (some (MZ, RZ))) (hwf : me_wf N M0) (hj0 : j0 < N 0) (sz : Nat) : Met l y_G_entry (fg_w y_G_entry prog_1_method_12_code 4 (some .int)) rm_G_entry (va_Pc [.ref (ad 0 j0), .int x1, .int x2, .int x3] (fz_P D (me_T ca) (me_W ad ca M0) sz)) (q_G_entry D ad ca N M0 MZ RZ (va_A (me_W ad ca M0) sz)) rm_G_entry.cells rm_G_entry.slots (va_A (me_W ad ca M0) sz) := by
  refine fz_enter (fun A => q_G_entry D ad ca N M0 MZ RZ A) (by decide +kernel) (Nat.le_of_ble_eq_true rfl) ?_
  intro p e s m below meth c ls A hx hb hml hown hts hr hlocks hin hP hK hD hS hA hX hl hz
  have hl : lv_has ls 4 [(0, .ref (ad 0 j0)), (1, .int x1), (2, .int x2), (3, .int x3)] := hl
  unfold f_G_entry at h
  have hkp : me_kp M0 M0 := me_kp.rf
  have hkb := hkp
  refine lv_iload_n hx hb d_G_entry_0 rfl (lv_at hl 1 rfl) ?_
  refine lv_if_lt (tgt := 43) hx hb d_G_entry_1 (by decide) (fun c1 => ?_) (fun c1 => ?_)
  · have h := if_t c1 h
    exact absurd h (by simp)
  have h := if_f c1 h
  refine lv_iload_n hx hb d_G_entry_4 rfl (lv_at hl 1 rfl) ?_
  refine lv_aload_n hx hb d_G_entry_5 rfl (lv_at hl 0 rfl) ?_
  refine g_G_3 hx hb hts hown hK hP hwf hj0 (hts _ u_696) d_G_entry_6 ?_
  refine lv_icmp_ge (tgt := 43) hx hb d_G_entry_9 (by decide) (fun c2 => ?_) (fun c2 => ?_)
  · have h := if_t c2 h
    exact absurd h (by simp)
  have h := if_f c2 h
  refine lv_iload_n hx hb d_G_entry_12 rfl (lv_at hl 2 rfl) ?_
  refine lv_if_lt (tgt := 43) hx hb d_G_entry_13 (by decide) (fun c3 => ?_) (fun c3 => ?_)
  · have h := if_t c3 h
    exact absurd h (by simp)
  have h := if_f c3 h
  refine lv_iload_n hx hb d_G_entry_16 rfl (lv_at hl 2 rfl) ?_
  refine lv_aload_n hx hb d_G_entry_17 rfl (lv_at hl 0 rfl) ?_
  refine g_G_2 hx hb hts hown hK hP hwf hj0 (hts _ u_695) d_G_entry_18 ?_
  obtain ⟨j4, e5, h⟩ := bd_ob h
  have hj4 : j4 < N 19 := (hwf.2.1 0 j0 2 _ e5 (by decide) hj0)
  refine me_opt (j := j4) e5 ?_
  refine lv_iload_n hx hb d_G_entry_21 rfl (lv_at hl 1 rfl) ?_
  obtain ⟨g6, h⟩ := gd_ob h
  refine me_aald (k := 19) (t := 12) hx hb hK hP hwf hj4 (by decide) (by decide) rfl (fun _ => rfl) g6 d_G_entry_22 ?_
  obtain ⟨j7, e8, h⟩ := bd_ob h
  have hj7 : j7 < N 12 := (hwf.2.1 19 j4 x1.toNatClampNeg _ e8 (by decide) hj4)
  refine me_opt (j := j7) e8 ?_
  refine g_Store_3 hx hb hts hown hK hP hwf hj7 (hts _ u_912) d_G_entry_23 ?_
  refine lv_icmp_ge (tgt := 43) hx hb d_G_entry_26 (by decide) (fun c9 => ?_) (fun c9 => ?_)
  · have h := if_t c9 h
    exact absurd h (by simp)
  have h := if_f c9 h
  refine lv_aload_n hx hb d_G_entry_29 rfl (lv_at hl 0 rfl) ?_
  refine g_G_2 hx hb hts hown hK hP hwf hj0 (hts _ u_695) d_G_entry_30 ?_
  refine me_opt (j := j4) e5 ?_
  refine lv_iload_n hx hb d_G_entry_33 rfl (lv_at hl 1 rfl) ?_
  refine me_aald (k := 19) (t := 12) hx hb hK hP hwf hj4 (by decide) (by decide) rfl (fun _ => rfl) g6 d_G_entry_34 ?_
  refine me_opt (j := j7) e8 ?_
  refine lv_iload_n hx hb d_G_entry_35 rfl (lv_at hl 2 rfl) ?_
  refine lv_iload_n hx hb d_G_entry_36 rfl (lv_at hl 3 rfl) ?_
  obtain ⟨M10, r11, eM10, h⟩ := b2_ob h
  refine me_theni0 (M1 := M10) (me_runV (C := "FilterGuard$Store") (As := [.int x2, .int x3]) (rest := []) ⟨hx, hb, hml, hown, hts⟩ (c_Store_hasByte l D ad ca N M0 M10 r11 j7 x2 x3 eM10 hwf hj7 _) rfl (by show fg_nm y_Store_hasByte 2; decide +kernel) u_1546 u_1547 u_1548 u_201 u_1549 ⟨Nat.le_of_ble_eq_true rfl, Nat.le_of_ble_eq_true rfl⟩ hX hz hK hP hD hwf hS hA hj7 (by decide) rfl rfl rfl hl.1 (Nat.le_of_ble_eq_true rfl) d_G_entry_37 ⟨Nat.le_of_ble_eq_true rfl, Nat.le_of_ble_eq_true rfl⟩) hP hD hK hS hA rfl rfl (fun H locs hw hP hD hS => ?_)
  obtain ⟨hwf, hk9, zr11⟩ := hw
  have hkp := hkp.tr hk9
  refine lv_if_ne (tgt := 53) hx hb d_G_entry_40 (by decide) (fun c12 => ?_) (fun c12 => ?_)
  · have h := if_f c12 h
    refine lv_aload_n hx hb d_G_entry_53 rfl (lv_at hl 0 rfl) ?_
    refine g_G_2 hx hb hts hown hK hP hwf hj0 (hts _ u_695) d_G_entry_54 ?_
    refine me_opt (j := j4) (kp_r hkb hkp e5) ?_
    refine lv_iload_n hx hb d_G_entry_57 rfl (lv_at hl 1 rfl) ?_
    refine me_aald (k := 19) (t := 12) hx hb hK hP hwf hj4 (by decide) (by decide) rfl (fun _ => rfl) (kp_z hkb.z hkp.z g6) d_G_entry_58 ?_
    refine me_opt (j := j7) (kp_r hkb hkp e8) ?_
    refine lv_iload_n hx hb d_G_entry_59 rfl (lv_at hl 2 rfl) ?_
    refine lv_iload_n hx hb d_G_entry_60 rfl (lv_at hl 3 rfl) ?_
    obtain ⟨M13, r14, eM13, h⟩ := b2_ob h
    refine me_theni0 (M1 := M13) (me_runV (C := "FilterGuard$Store") (As := [.int x2, .int x3]) (rest := []) ⟨hx, hb, hml, hown, hts⟩ (c_Store_byteOf l D ad ca N M10 M13 r14 j7 x2 x3 eM13 hwf hj7 _) rfl (by show fg_nm y_Store_byteOf 2; decide +kernel) u_1551 u_1552 u_1553 u_201 u_1554 ⟨Nat.le_of_ble_eq_true rfl, Nat.le_of_ble_eq_true rfl⟩ hX hz hK hP hD hwf hS hA hj7 (by decide) rfl rfl rfl hl.1 (Nat.le_of_ble_eq_true rfl) d_G_entry_61 ⟨Nat.le_of_ble_eq_true rfl, Nat.le_of_ble_eq_true rfl⟩) hP hD hK hS hA rfl rfl (fun H locs hw hP hD hS => ?_)
    obtain ⟨hwf, hk9⟩ := hw
    have hkp := hkp.tr hk9
    exact me_reti (me_kp M0) h hx hb hr hlocks hwf hkp hP hK hD hS d_G_entry_64
  have h := if_t c12 h
  exact absurd h (by simp)
def rmT3_G_entry : Room := { frames := 6, cells := 1, slots := 6, locals := 100 }
abbrev qT3_G_entry (D : va_G) (ad : Nat → Nat → Nat) (ca : Nat → ClassId) (N : Nat → Nat) (M0 MZ : me_M) (A : Nat → Prop) : Array Value → Jvm.State → Outcome → Jvm.State → Prop := fg_Qt "java/lang/IndexOutOfBoundsException" (fun (_ : Unit) => me_wf N MZ ∧ me_kp M0 MZ) (fg_B D A (fun _ => me_W ad ca MZ) (fun _ => [])) A
set_option maxHeartbeats 4000000 in
set_option maxRecDepth 100000 in
theorem cT3_G_entry (l : Launch) (hl9 : l.stackTraces = false) (D : va_G) (ad : Nat → Nat → Nat) (ca : Nat → ClassId) (N : Nat → Nat) (M0 MZ : me_M) (j0 : Nat) (x1 : Int32) (x2 : Int32) (x3 : Int32) (h : fT3_G_entry M0 j0 x1 x2 x3 = (some MZ)) (hwf : me_wf N M0) (hj0 : j0 < N 0) (sz : Nat) : fg_MetT l y_G_entry (fg_w y_G_entry prog_1_method_12_code 4 (some .int)) rmT3_G_entry (va_Pc [.ref (ad 0 j0), .int x1, .int x2, .int x3] (fg_PZ D (me_T ca) (me_W ad ca M0) sz)) (qT3_G_entry D ad ca N M0 MZ (va_A (me_W ad ca M0) sz)) rmT3_G_entry.cells rmT3_G_entry.slots (va_A (me_W ad ca M0) sz) := by
  refine fg_enterT (fun A => qT3_G_entry D ad ca N M0 MZ A) (by decide +kernel) (Nat.le_of_ble_eq_true rfl) ?_
  intro p e s m below meth c ls A hx hb hml hown hts hr hlocks hin hP hK hD hS hA hX hl hno hz hy
  have hz0 := hz.1
  have hz := hz.2
  have hl : lv_has ls 4 [(0, .ref (ad 0 j0)), (1, .int x1), (2, .int x2), (3, .int x3)] := hl
  unfold fT3_G_entry at h
  have hkp : me_kp M0 M0 := me_kp.rf
  have hkb := hkp
  refine lv_iload_n hx hb d_G_entry_0 rfl (lv_at hl 1 rfl) ?_
  refine lv_if_lt (tgt := 43) hx hb d_G_entry_1 (by decide) (fun c1 => ?_) (fun c1 => ?_)
  · have h := if_t c1 h
    obtain ⟨hwf, hkp, hP, hD⟩ := me_sub1 (me_kp M0) h hwf hkp hP hD
    obtain ⟨qs2, hqs2⟩ := hy.1 _ _ _ o_1550
    exact fg_throw (X := "java/lang/IndexOutOfBoundsException") (names := fg_up) () hl9 hx hb hno hlocks hown hts hX hz0 hqs2 (by decide +kernel) (by decide +kernel) a_G_155 u_1486 u_203 ⟨hwf, hkp⟩ hP (hK.sub (tys' := []) [] rfl) hD hS (hl.1.trans hml.symm) (Nat.lt_of_lt_of_le (Nat.lt_succ_self 5) (Nat.le_of_ble_eq_true rfl)) (Nat.le_of_ble_eq_true rfl) (Nat.le_of_ble_eq_true rfl) (Nat.le_of_ble_eq_true rfl) (Nat.le_of_ble_eq_true rfl) (Nat.le_of_ble_eq_true rfl) d_G_entry_43 d_G_entry_46 d_G_entry_47 d_G_entry_49 d_G_entry_52
  have h := if_f c1 h
  refine lv_iload_n hx hb d_G_entry_4 rfl (lv_at hl 1 rfl) ?_
  refine lv_aload_n hx hb d_G_entry_5 rfl (lv_at hl 0 rfl) ?_
  refine g_G_3 hx hb hts hown hK hP hwf hj0 (hts _ u_696) d_G_entry_6 ?_
  refine lv_icmp_ge (tgt := 43) hx hb d_G_entry_9 (by decide) (fun c3 => ?_) (fun c3 => ?_)
  · have h := if_t c3 h
    obtain ⟨hwf, hkp, hP, hD⟩ := me_sub1 (me_kp M0) h hwf hkp hP hD
    obtain ⟨qs4, hqs4⟩ := hy.1 _ _ _ o_1550
    exact fg_throw (X := "java/lang/IndexOutOfBoundsException") (names := fg_up) () hl9 hx hb hno hlocks hown hts hX hz0 hqs4 (by decide +kernel) (by decide +kernel) a_G_155 u_1486 u_203 ⟨hwf, hkp⟩ hP (hK.sub (tys' := []) [] rfl) hD hS (hl.1.trans hml.symm) (Nat.lt_of_lt_of_le (Nat.lt_succ_self 5) (Nat.le_of_ble_eq_true rfl)) (Nat.le_of_ble_eq_true rfl) (Nat.le_of_ble_eq_true rfl) (Nat.le_of_ble_eq_true rfl) (Nat.le_of_ble_eq_true rfl) (Nat.le_of_ble_eq_true rfl) d_G_entry_43 d_G_entry_46 d_G_entry_47 d_G_entry_49 d_G_entry_52
  have h := if_f c3 h
  refine lv_iload_n hx hb d_G_entry_12 rfl (lv_at hl 2 rfl) ?_
  refine lv_if_lt (tgt := 43) hx hb d_G_entry_13 (by decide) (fun c5 => ?_) (fun c5 => ?_)
  · have h := if_t c5 h
    obtain ⟨hwf, hkp, hP, hD⟩ := me_sub1 (me_kp M0) h hwf hkp hP hD
    obtain ⟨qs6, hqs6⟩ := hy.1 _ _ _ o_1550
    exact fg_throw (X := "java/lang/IndexOutOfBoundsException") (names := fg_up) () hl9 hx hb hno hlocks hown hts hX hz0 hqs6 (by decide +kernel) (by decide +kernel) a_G_155 u_1486 u_203 ⟨hwf, hkp⟩ hP (hK.sub (tys' := []) [] rfl) hD hS (hl.1.trans hml.symm) (Nat.lt_of_lt_of_le (Nat.lt_succ_self 5) (Nat.le_of_ble_eq_true rfl)) (Nat.le_of_ble_eq_true rfl) (Nat.le_of_ble_eq_true rfl) (Nat.le_of_ble_eq_true rfl) (Nat.le_of_ble_eq_true rfl) (Nat.le_of_ble_eq_true rfl) d_G_entry_43 d_G_entry_46 d_G_entry_47 d_G_entry_49 d_G_entry_52
  have h := if_f c5 h
  refine lv_iload_n hx hb d_G_entry_16 rfl (lv_at hl 2 rfl) ?_
  refine lv_aload_n hx hb d_G_entry_17 rfl (lv_at hl 0 rfl) ?_
  refine g_G_2 hx hb hts hown hK hP hwf hj0 (hts _ u_695) d_G_entry_18 ?_
  obtain ⟨j7, e8, h⟩ := bd_ob h
  have hj7 : j7 < N 19 := (hwf.2.1 0 j0 2 _ e8 (by decide) hj0)
  refine me_opt (j := j7) e8 ?_
  refine lv_iload_n hx hb d_G_entry_21 rfl (lv_at hl 1 rfl) ?_
  obtain ⟨g9, h⟩ := gd_ob h
  refine me_aald (k := 19) (t := 12) hx hb hK hP hwf hj7 (by decide) (by decide) rfl (fun _ => rfl) g9 d_G_entry_22 ?_
  obtain ⟨j10, e11, h⟩ := bd_ob h
  have hj10 : j10 < N 12 := (hwf.2.1 19 j7 x1.toNatClampNeg _ e11 (by decide) hj7)
  refine me_opt (j := j10) e11 ?_
  refine g_Store_3 hx hb hts hown hK hP hwf hj10 (hts _ u_912) d_G_entry_23 ?_
  refine lv_icmp_ge (tgt := 43) hx hb d_G_entry_26 (by decide) (fun c12 => ?_) (fun c12 => ?_)
  · have h := if_t c12 h
    obtain ⟨hwf, hkp, hP, hD⟩ := me_sub1 (me_kp M0) h hwf hkp hP hD
    obtain ⟨qs13, hqs13⟩ := hy.1 _ _ _ o_1550
    exact fg_throw (X := "java/lang/IndexOutOfBoundsException") (names := fg_up) () hl9 hx hb hno hlocks hown hts hX hz0 hqs13 (by decide +kernel) (by decide +kernel) a_G_155 u_1486 u_203 ⟨hwf, hkp⟩ hP (hK.sub (tys' := []) [] rfl) hD hS (hl.1.trans hml.symm) (Nat.lt_of_lt_of_le (Nat.lt_succ_self 5) (Nat.le_of_ble_eq_true rfl)) (Nat.le_of_ble_eq_true rfl) (Nat.le_of_ble_eq_true rfl) (Nat.le_of_ble_eq_true rfl) (Nat.le_of_ble_eq_true rfl) (Nat.le_of_ble_eq_true rfl) d_G_entry_43 d_G_entry_46 d_G_entry_47 d_G_entry_49 d_G_entry_52
  have h := if_f c12 h
  refine lv_aload_n hx hb d_G_entry_29 rfl (lv_at hl 0 rfl) ?_
  refine g_G_2 hx hb hts hown hK hP hwf hj0 (hts _ u_695) d_G_entry_30 ?_
  refine me_opt (j := j7) e8 ?_
  refine lv_iload_n hx hb d_G_entry_33 rfl (lv_at hl 1 rfl) ?_
  refine me_aald (k := 19) (t := 12) hx hb hK hP hwf hj7 (by decide) (by decide) rfl (fun _ => rfl) g9 d_G_entry_34 ?_
  refine me_opt (j := j10) e11 ?_
  refine lv_iload_n hx hb d_G_entry_35 rfl (lv_at hl 2 rfl) ?_
  refine lv_iload_n hx hb d_G_entry_36 rfl (lv_at hl 3 rfl) ?_
  obtain ⟨M14, r15, eM14, h⟩ := b2_ob h
  refine me_theni0 (M1 := M14) (me_runV (C := "FilterGuard$Store") (As := [.int x2, .int x3]) (rest := []) ⟨hx, hb, hml, hown, hts⟩ (c_Store_hasByte l D ad ca N M0 M14 r15 j10 x2 x3 eM14 hwf hj10 _) rfl (by show fg_nm y_Store_hasByte 2; decide +kernel) u_1546 u_1547 u_1548 u_201 u_1549 ⟨Nat.le_of_ble_eq_true rfl, Nat.le_of_ble_eq_true rfl⟩ hX hz hK hP hD hwf hS hA hj10 (by decide) rfl rfl rfl hl.1 (Nat.le_of_ble_eq_true rfl) d_G_entry_37 ⟨Nat.le_of_ble_eq_true rfl, Nat.le_of_ble_eq_true rfl⟩) hP hD hK hS hA rfl rfl (fun H locs hw hP hD hS => ?_)
  obtain ⟨hwf, hk9, zr15⟩ := hw
  have hkp := hkp.tr hk9
  refine lv_if_ne (tgt := 53) hx hb d_G_entry_40 (by decide) (fun c16 => ?_) (fun c16 => ?_)
  · have h := if_f c16 h
    refine lv_aload_n hx hb d_G_entry_53 rfl (lv_at hl 0 rfl) ?_
    refine g_G_2 hx hb hts hown hK hP hwf hj0 (hts _ u_695) d_G_entry_54 ?_
    refine me_opt (j := j7) (kp_r hkb hkp e8) ?_
    refine lv_iload_n hx hb d_G_entry_57 rfl (lv_at hl 1 rfl) ?_
    refine me_aald (k := 19) (t := 12) hx hb hK hP hwf hj7 (by decide) (by decide) rfl (fun _ => rfl) (kp_z hkb.z hkp.z g9) d_G_entry_58 ?_
    refine me_opt (j := j10) (kp_r hkb hkp e11) ?_
    refine lv_iload_n hx hb d_G_entry_59 rfl (lv_at hl 2 rfl) ?_
    refine lv_iload_n hx hb d_G_entry_60 rfl (lv_at hl 3 rfl) ?_
    obtain ⟨M17, r18, eM17, h⟩ := b2_ob h
    refine me_theni0 (M1 := M17) (me_runV (C := "FilterGuard$Store") (As := [.int x2, .int x3]) (rest := []) ⟨hx, hb, hml, hown, hts⟩ (c_Store_byteOf l D ad ca N M14 M17 r18 j10 x2 x3 eM17 hwf hj10 _) rfl (by show fg_nm y_Store_byteOf 2; decide +kernel) u_1551 u_1552 u_1553 u_201 u_1554 ⟨Nat.le_of_ble_eq_true rfl, Nat.le_of_ble_eq_true rfl⟩ hX hz hK hP hD hwf hS hA hj10 (by decide) rfl rfl rfl hl.1 (Nat.le_of_ble_eq_true rfl) d_G_entry_61 ⟨Nat.le_of_ble_eq_true rfl, Nat.le_of_ble_eq_true rfl⟩) hP hD hK hS hA rfl rfl (fun H locs hw hP hD hS => ?_)
    obtain ⟨hwf, hk9⟩ := hw
    have hkp := hkp.tr hk9
    exact absurd h (by simp)
  have h := if_t c16 h
  obtain ⟨hwf, hkp, hP, hD⟩ := me_sub1 (me_kp M0) h hwf hkp hP hD
  obtain ⟨qs19, hqs19⟩ := hy.1 _ _ _ o_1550
  exact fg_throw (X := "java/lang/IndexOutOfBoundsException") (names := fg_up) () hl9 hx hb hno hlocks hown hts hX hz0 hqs19 (by decide +kernel) (by decide +kernel) a_G_155 u_1486 u_203 ⟨hwf, hkp⟩ hP (hK.sub (tys' := []) [] rfl) hD hS (hl.1.trans hml.symm) (Nat.lt_of_lt_of_le (Nat.lt_succ_self 5) (Nat.le_of_ble_eq_true rfl)) (Nat.le_of_ble_eq_true rfl) (Nat.le_of_ble_eq_true rfl) (Nat.le_of_ble_eq_true rfl) (Nat.le_of_ble_eq_true rfl) (Nat.le_of_ble_eq_true rfl) d_G_entry_43 d_G_entry_46 d_G_entry_47 d_G_entry_49 d_G_entry_52
theorem d_G_packetAt_0 : decode prog_1_method_13_code 0 = .ok (.iload_n 1, 1) := by decide +kernel
theorem d_G_packetAt_1 : decode prog_1_method_13_code 1 = .ok (.ifCond .lt 14, 3) := by decide +kernel
theorem d_G_packetAt_15 : decode prog_1_method_13_code 15 = .ok (.new 151, 3) := by decide +kernel
theorem d_G_packetAt_4 : decode prog_1_method_13_code 4 = .ok (.iload_n 1, 1) := by decide +kernel
theorem d_G_packetAt_5 : decode prog_1_method_13_code 5 = .ok (.aload_n 0, 1) := by decide +kernel
theorem d_G_packetAt_6 : decode prog_1_method_13_code 6 = .ok (.getfield 50, 3) := by decide +kernel
theorem d_G_packetAt_9 : decode prog_1_method_13_code 9 = .ok (.getfield 197, 3) := by decide +kernel
theorem u_633 : Cond.fieldLink "FilterGuard" 197 "FilterGuard$Machine" "packetSize" "I" ∈ fg_g := fg_in (List.mem_of_getElem? (i := 633) (by decide +kernel)) rfl
theorem g_Machine_8 {p : Program} {l : Launch} {e : Env} {R : Room} {s : Jvm.State} {m : MethodId} {args : Array Value} {below : List Frame} {meth : Method} {c : Code} {H : Heap} {locs : List Loc} {cells slots : Nat} {Q : Jvm.State → Prop} {cc : ByteArray} {pc : Nat} {ls : Array Slot} {rest : List Value} {D : va_G} {ad : Nat → Nat → Nat} {ca : Nat → ClassId} {M : me_M} {N : Nat → Nat} {own : String} {index j : Nat} (hexec : p.tables.exec = Jvm.exec) (hb : c.code = cc) (hts : ∀ w ∈ fg_g, w.before args s = true) (hown : s.vm.findClass own = some m.cls) (hK : va_K D classes (me_T ca) s) (hP : va_P D classes (me_W ad ca M) H) (hwf : me_wf N M) (hj : j < N 5) (hlink : (Cond.fieldLink own index "FilterGuard$Machine" "packetSize" "I").before args s = true) (hdg : decode cc pc = .ok (.getfield index, 3)) (kk : W p l e R s m args below meth c H locs cells slots Q (F0 m (pc + 3) ls (.int (mI M 5 j 8) :: rest))) : W p l e R s m args below meth c H locs cells slots Q (F0 m pc ls (.ref (ad 5 j) :: rest)) := me_get (k := 5) (f := 8) (C := "FilterGuard$Machine") (T := F_Machine) (Nf := 20) hexec hb hts i_Machine hown hK hP hwf hj (by decide) rfl (by decide) (by decide) hlink (fun _ h9 => h9) hdg kk
theorem d_G_packetAt_12 : decode prog_1_method_13_code 12 = .ok (.if_icmp .lt 13, 3) := by decide +kernel
theorem d_G_packetAt_25 : decode prog_1_method_13_code 25 = .ok (.aload_n 0, 1) := by decide +kernel
theorem d_G_packetAt_26 : decode prog_1_method_13_code 26 = .ok (.getfield 50, 3) := by decide +kernel
theorem d_G_packetAt_29 : decode prog_1_method_13_code 29 = .ok (.getfield 202, 3) := by decide +kernel
theorem u_631 : Cond.fieldLink "FilterGuard" 202 "FilterGuard$Machine" "packet" "[B" ∈ fg_g := fg_in (List.mem_of_getElem? (i := 631) (by decide +kernel)) rfl
theorem d_G_packetAt_32 : decode prog_1_method_13_code 32 = .ok (.iload_n 1, 1) := by decide +kernel
theorem d_G_packetAt_33 : decode prog_1_method_13_code 33 = .ok (.baload, 1) := by decide +kernel
theorem d_G_packetAt_34 : decode prog_1_method_13_code 34 = .ok (.sipush 255, 3) := by decide +kernel
theorem d_G_packetAt_37 : decode prog_1_method_13_code 37 = .ok (.iand, 1) := by decide +kernel
theorem d_G_packetAt_38 : decode prog_1_method_13_code 38 = .ok (.ireturn, 1) := by decide +kernel
abbrev y_G_packetAt : MethodName := ⟨"FilterGuard", "packetAt", "(I)I"⟩
theorem o_1562 : Cond.stringRef "FilterGuard" 200 "no such byte" ∈ lw_tbl := List.mem_of_getElem? (i := 1562) (by decide +kernel)
theorem d_G_packetAt_18 : decode prog_1_method_13_code 18 = .ok (.dup, 1) := by decide +kernel
theorem d_G_packetAt_19 : decode prog_1_method_13_code 19 = .ok (.ldc 200, 2) := by decide +kernel
theorem d_G_packetAt_21 : decode prog_1_method_13_code 21 = .ok (.invokespecial 155, 3) := by decide +kernel
theorem d_G_packetAt_24 : decode prog_1_method_13_code 24 = .ok (.athrow, 1) := by decide +kernel
def rm_G_packetAt : Room := { frames := 1, cells := 0, slots := 0, locals := 20 }
abbrev q_G_packetAt (D : va_G) (ad : Nat → Nat → Nat) (ca : Nat → ClassId) (N : Nat → Nat) (M0 MZ : me_M) (RZ : Int32) (A : Nat → Prop) : Array Value → Jvm.State → Outcome → Jvm.State → Prop := va_Qi (fun r (_ : Unit) => r = RZ ∧ me_wf N MZ ∧ me_kp M0 MZ) (fg_B D A (fun _ => me_W ad ca MZ) (fun _ => [])) A
set_option maxHeartbeats 4000000 in
set_option maxRecDepth 100000 in
theorem c_G_packetAt (l : Launch) (D : va_G) (ad : Nat → Nat → Nat) (ca : Nat → ClassId) (N : Nat → Nat) (M0 MZ : me_M) (RZ : Int32) (j0 : Nat) (x1 : Int32) (h : f_G_packetAt M0 j0 x1 = (some (MZ, RZ))) (hwf : me_wf N M0) (hj0 : j0 < N 0) (sz : Nat) : Met l y_G_packetAt (fg_w y_G_packetAt prog_1_method_13_code 2 (some .int)) rm_G_packetAt (va_Pc [.ref (ad 0 j0), .int x1] (fz_P D (me_T ca) (me_W ad ca M0) sz)) (q_G_packetAt D ad ca N M0 MZ RZ (va_A (me_W ad ca M0) sz)) rm_G_packetAt.cells rm_G_packetAt.slots (va_A (me_W ad ca M0) sz) := by
  refine fz_enter (fun A => q_G_packetAt D ad ca N M0 MZ RZ A) (by decide +kernel) (Nat.le_of_ble_eq_true rfl) ?_
  intro p e s m below meth c ls A hx hb hml hown hts hr hlocks hin hP hK hD hS hA hX hl hz
  have hl : lv_has ls 2 [(0, .ref (ad 0 j0)), (1, .int x1)] := hl
  unfold f_G_packetAt at h
  have hkp : me_kp M0 M0 := me_kp.rf
  have hkb := hkp
  refine lv_iload_n hx hb d_G_packetAt_0 rfl (lv_at hl 1 rfl) ?_
  refine lv_if_lt (tgt := 15) hx hb d_G_packetAt_1 (by decide) (fun c1 => ?_) (fun c1 => ?_)
  · have h := if_t c1 h
    exact absurd h (by simp)
  have h := if_f c1 h
  refine lv_iload_n hx hb d_G_packetAt_4 rfl (lv_at hl 1 rfl) ?_
  refine lv_aload_n hx hb d_G_packetAt_5 rfl (lv_at hl 0 rfl) ?_
  refine g_G_8 hx hb hts hown hK hP hwf hj0 (hts _ u_701) d_G_packetAt_6 ?_
  obtain ⟨j2, e3, h⟩ := bd_ob h
  have hj2 : j2 < N 5 := (hwf.2.1 0 j0 8 _ e3 (by decide) hj0)
  refine me_opt (j := j2) e3 ?_
  refine g_Machine_8 hx hb hts hown hK hP hwf hj2 (hts _ u_633) d_G_packetAt_9 ?_
  refine lv_icmp_lt (tgt := 25) hx hb d_G_packetAt_12 (by decide) (fun c4 => ?_) (fun c4 => ?_)
  · have h := if_t c4 h
    refine lv_aload_n hx hb d_G_packetAt_25 rfl (lv_at hl 0 rfl) ?_
    refine g_G_8 hx hb hts hown hK hP hwf hj0 (hts _ u_701) d_G_packetAt_26 ?_
    refine me_opt (j := j2) e3 ?_
    refine g_Machine_7 hx hb hts hown hK hP hwf hj2 (hts _ u_631) d_G_packetAt_29 ?_
    obtain ⟨j5, e6, h⟩ := bd_ob h
    have hj5 : j5 < N 14 := (hwf.2.1 5 j2 7 _ e6 (by decide) hj2)
    refine me_opt (j := j5) e6 ?_
    refine lv_iload_n hx hb d_G_packetAt_32 rfl (lv_at hl 1 rfl) ?_
    obtain ⟨g7, h⟩ := gd_ob h
    refine me_bald hx hb hK hP hwf hj5 g7 d_G_packetAt_33 ?_
    refine lv_sipush (v := 255) hx hb d_G_packetAt_34 (by decide) ?_
    refine lv_iand hx hb d_G_packetAt_37 ?_
    exact me_reti (me_kp M0) h hx hb hr hlocks hwf hkp hP hK hD hS d_G_packetAt_38
  have h := if_f c4 h
  exact absurd h (by simp)
def rmT3_G_packetAt : Room := { frames := 6, cells := 1, slots := 6, locals := 100 }
abbrev qT3_G_packetAt (D : va_G) (ad : Nat → Nat → Nat) (ca : Nat → ClassId) (N : Nat → Nat) (M0 MZ : me_M) (A : Nat → Prop) : Array Value → Jvm.State → Outcome → Jvm.State → Prop := fg_Qt "java/lang/IndexOutOfBoundsException" (fun (_ : Unit) => me_wf N MZ ∧ me_kp M0 MZ) (fg_B D A (fun _ => me_W ad ca MZ) (fun _ => [])) A
set_option maxHeartbeats 4000000 in
set_option maxRecDepth 100000 in
theorem cT3_G_packetAt (l : Launch) (hl9 : l.stackTraces = false) (D : va_G) (ad : Nat → Nat → Nat) (ca : Nat → ClassId) (N : Nat → Nat) (M0 MZ : me_M) (j0 : Nat) (x1 : Int32) (h : fT3_G_packetAt M0 j0 x1 = (some MZ)) (hwf : me_wf N M0) (hj0 : j0 < N 0) (sz : Nat) : fg_MetT l y_G_packetAt (fg_w y_G_packetAt prog_1_method_13_code 2 (some .int)) rmT3_G_packetAt (va_Pc [.ref (ad 0 j0), .int x1] (fg_PZ D (me_T ca) (me_W ad ca M0) sz)) (qT3_G_packetAt D ad ca N M0 MZ (va_A (me_W ad ca M0) sz)) rmT3_G_packetAt.cells rmT3_G_packetAt.slots (va_A (me_W ad ca M0) sz) := by
  refine fg_enterT (fun A => qT3_G_packetAt D ad ca N M0 MZ A) (by decide +kernel) (Nat.le_of_ble_eq_true rfl) ?_
  intro p e s m below meth c ls A hx hb hml hown hts hr hlocks hin hP hK hD hS hA hX hl hno hz hy
  have hz0 := hz.1
  have hz := hz.2
  have hl : lv_has ls 2 [(0, .ref (ad 0 j0)), (1, .int x1)] := hl
  unfold fT3_G_packetAt at h
  have hkp : me_kp M0 M0 := me_kp.rf
  have hkb := hkp
  refine lv_iload_n hx hb d_G_packetAt_0 rfl (lv_at hl 1 rfl) ?_
  refine lv_if_lt (tgt := 15) hx hb d_G_packetAt_1 (by decide) (fun c1 => ?_) (fun c1 => ?_)
  · have h := if_t c1 h
    obtain ⟨hwf, hkp, hP, hD⟩ := me_sub1 (me_kp M0) h hwf hkp hP hD
    obtain ⟨qs2, hqs2⟩ := hy.1 _ _ _ o_1562
    exact fg_throw (X := "java/lang/IndexOutOfBoundsException") (names := fg_up) () hl9 hx hb hno hlocks hown hts hX hz0 hqs2 (by decide +kernel) (by decide +kernel) a_G_155 u_1486 u_203 ⟨hwf, hkp⟩ hP (hK.sub (tys' := []) [] rfl) hD hS (hl.1.trans hml.symm) (Nat.lt_of_lt_of_le (Nat.lt_succ_self 5) (Nat.le_of_ble_eq_true rfl)) (Nat.le_of_ble_eq_true rfl) (Nat.le_of_ble_eq_true rfl) (Nat.le_of_ble_eq_true rfl) (Nat.le_of_ble_eq_true rfl) (Nat.le_of_ble_eq_true rfl) d_G_packetAt_15 d_G_packetAt_18 d_G_packetAt_19 d_G_packetAt_21 d_G_packetAt_24
  have h := if_f c1 h
  refine lv_iload_n hx hb d_G_packetAt_4 rfl (lv_at hl 1 rfl) ?_
  refine lv_aload_n hx hb d_G_packetAt_5 rfl (lv_at hl 0 rfl) ?_
  refine g_G_8 hx hb hts hown hK hP hwf hj0 (hts _ u_701) d_G_packetAt_6 ?_
  obtain ⟨j3, e4, h⟩ := bd_ob h
  have hj3 : j3 < N 5 := (hwf.2.1 0 j0 8 _ e4 (by decide) hj0)
  refine me_opt (j := j3) e4 ?_
  refine g_Machine_8 hx hb hts hown hK hP hwf hj3 (hts _ u_633) d_G_packetAt_9 ?_
  refine lv_icmp_lt (tgt := 25) hx hb d_G_packetAt_12 (by decide) (fun c5 => ?_) (fun c5 => ?_)
  · have h := if_t c5 h
    refine lv_aload_n hx hb d_G_packetAt_25 rfl (lv_at hl 0 rfl) ?_
    refine g_G_8 hx hb hts hown hK hP hwf hj0 (hts _ u_701) d_G_packetAt_26 ?_
    refine me_opt (j := j3) e4 ?_
    refine g_Machine_7 hx hb hts hown hK hP hwf hj3 (hts _ u_631) d_G_packetAt_29 ?_
    obtain ⟨j6, e7, h⟩ := bd_ob h
    have hj6 : j6 < N 14 := (hwf.2.1 5 j3 7 _ e7 (by decide) hj3)
    refine me_opt (j := j6) e7 ?_
    refine lv_iload_n hx hb d_G_packetAt_32 rfl (lv_at hl 1 rfl) ?_
    obtain ⟨g8, h⟩ := gd_ob h
    refine me_bald hx hb hK hP hwf hj6 g8 d_G_packetAt_33 ?_
    refine lv_sipush (v := 255) hx hb d_G_packetAt_34 (by decide) ?_
    refine lv_iand hx hb d_G_packetAt_37 ?_
    exact absurd h (by simp)
  have h := if_f c5 h
  obtain ⟨hwf, hkp, hP, hD⟩ := me_sub1 (me_kp M0) h hwf hkp hP hD
  obtain ⟨qs9, hqs9⟩ := hy.1 _ _ _ o_1562
  exact fg_throw (X := "java/lang/IndexOutOfBoundsException") (names := fg_up) () hl9 hx hb hno hlocks hown hts hX hz0 hqs9 (by decide +kernel) (by decide +kernel) a_G_155 u_1486 u_203 ⟨hwf, hkp⟩ hP (hK.sub (tys' := []) [] rfl) hD hS (hl.1.trans hml.symm) (Nat.lt_of_lt_of_le (Nat.lt_succ_self 5) (Nat.le_of_ble_eq_true rfl)) (Nat.le_of_ble_eq_true rfl) (Nat.le_of_ble_eq_true rfl) (Nat.le_of_ble_eq_true rfl) (Nat.le_of_ble_eq_true rfl) (Nat.le_of_ble_eq_true rfl) d_G_packetAt_15 d_G_packetAt_18 d_G_packetAt_19 d_G_packetAt_21 d_G_packetAt_24
theorem d_G_clock_0 : decode prog_1_method_14_code 0 = .ok (.aload_n 0, 1) := by decide +kernel
theorem d_G_clock_1 : decode prog_1_method_14_code 1 = .ok (.getfield 50, 3) := by decide +kernel
theorem d_G_clock_4 : decode prog_1_method_14_code 4 = .ok (.lload_n 1, 1) := by decide +kernel
theorem d_G_clock_5 : decode prog_1_method_14_code 5 = .ok (.putfield 205, 3) := by decide +kernel
theorem u_638 : Cond.fieldLink "FilterGuard" 205 "FilterGuard$Machine" "time" "J" ∈ fg_g := fg_in (List.mem_of_getElem? (i := 638) (by decide +kernel)) rfl
theorem p_Machine_11 {p : Program} {l : Launch} {e : Env} {R : Room} {s : Jvm.State} {m : MethodId} {args : Array Value} {below : List Frame} {meth : Method} {c : Code} {H : Heap} {locs : List Loc} {cells slots : Nat} {Q : Jvm.State → Prop} {cc : ByteArray} {pc : Nat} {ls : Array Slot} {rest : List Value} {D : va_G} {A : Nat → Prop} {H0 : Heap} {ad : Nat → Nat → Nat} {ca : Nat → ClassId} {M M1 : me_M} {N : Nat → Nat} {own : String} {index j : Nat} {v : Int64} (he : M1 = wL M 5 j 11 v) (hexec : p.tables.exec = Jvm.exec) (hb : c.code = cc) (hts : ∀ w ∈ fg_g, w.before args s = true) (hown : s.vm.findClass own = some m.cls) (hK : va_K D classes (me_T ca) s) (hP : va_P D classes (me_W ad ca M) H) (hD : va_D A (me_W ad ca M)) (hwf : me_wf N M) (hS : va_S A H0 H locs) (hj : j < N 5) (hlink : (Cond.fieldLink own index "FilterGuard$Machine" "time" "J").before args s = true) (hdg : decode cc pc = .ok (.putfield index, 3)) (kk : ∀ (H1 : Heap) (locs1 : List Loc), va_P D classes (me_W ad ca M1) H1 → va_D A (me_W ad ca M1) → me_wf N M1 → va_S A H0 H1 locs1 → W p l e R s m args below meth c H1 locs1 cells slots Q (F0 m (pc + 3) ls rest)) : W p l e R s m args below meth c H locs cells slots Q (F0 m pc ls (.long v :: .ref (ad 5 j) :: rest)) := by
  subst he
  exact me_put (M1 := wL M 5 j 11 v) (k := 5) (f := 11) (C := "FilterGuard$Machine") (T := F_Machine) (Nf := 20) hexec hb hts i_Machine t_Machine t_Machine_ok n_Machine hown hK hP hD hwf hS hj (by decide) rfl (by decide) (by decide) hlink (fun _ h9 => h9) rfl rfl rfl rfl (fun a b h => me_wLE h) (me_fLw (by decide) (by decide)) hdg (fun H1 locs1 a1 a2 a3 => kk H1 locs1 a1 a2 (me_wfL hwf) a3)
theorem d_G_clock_8 : decode prog_1_method_14_code 8 = .ok (.return_, 1) := by decide +kernel
abbrev y_G_clock : MethodName := ⟨"FilterGuard", "clock", "(J)V"⟩
def rm_G_clock : Room := { frames := 1, cells := 0, slots := 0, locals := 20 }
abbrev q_G_clock (D : va_G) (ad : Nat → Nat → Nat) (ca : Nat → ClassId) (N : Nat → Nat) (M0 MZ : me_M) (A : Nat → Prop) : Array Value → Jvm.State → Outcome → Jvm.State → Prop := va_Qv (fun (_ : Unit) => me_wf N MZ ∧ me_kp M0 MZ) (fg_B D A (fun _ => me_W ad ca MZ) (fun _ => [])) A
set_option maxHeartbeats 4000000 in
set_option maxRecDepth 100000 in
theorem c_G_clock (l : Launch) (D : va_G) (ad : Nat → Nat → Nat) (ca : Nat → ClassId) (N : Nat → Nat) (M0 MZ : me_M) (j0 : Nat) (x1 : Int64) (h : f_G_clock M0 j0 x1 = (some MZ)) (hwf : me_wf N M0) (hj0 : j0 < N 0) (sz : Nat) : Met l y_G_clock (fg_w y_G_clock prog_1_method_14_code 3 none) rm_G_clock (va_Pc [.ref (ad 0 j0), .long x1] (fz_P D (me_T ca) (me_W ad ca M0) sz)) (q_G_clock D ad ca N M0 MZ (va_A (me_W ad ca M0) sz)) rm_G_clock.cells rm_G_clock.slots (va_A (me_W ad ca M0) sz) := by
  refine fz_enter (fun A => q_G_clock D ad ca N M0 MZ A) (by decide +kernel) (Nat.le_of_ble_eq_true rfl) ?_
  intro p e s m below meth c ls A hx hb hml hown hts hr hlocks hin hP hK hD hS hA hX hl hz
  have hl : lv_has ls 3 [(0, .ref (ad 0 j0)), (1, .long x1)] := hl
  unfold f_G_clock at h
  have hkp : me_kp M0 M0 := me_kp.rf
  have hkb := hkp
  refine lv_aload_n hx hb d_G_clock_0 rfl (lv_at hl 0 rfl) ?_
  refine g_G_8 hx hb hts hown hK hP hwf hj0 (hts _ u_701) d_G_clock_1 ?_
  obtain ⟨j1, e2, h⟩ := bd_ob h
  have hj1 : j1 < N 5 := (hwf.2.1 0 j0 8 _ e2 (by decide) hj0)
  refine me_opt (j := j1) e2 ?_
  refine lv_lload_n hx hb d_G_clock_4 rfl (lv_at hl 1 rfl) ?_
  obtain ⟨M3, eM3, h⟩ := st_ob h
  refine p_Machine_11 eM3 hx hb hts hown hK hP hD hwf hS hj1 (hts _ u_638) d_G_clock_5 (fun H locs hP hD hwf hS => ?_)
  have hkp := kp_L eM3 hkp
  exact me_retv (me_kp M0) h hx hb hr hlocks hwf hkp hP hK hD hS d_G_clock_8
theorem d_Arrays_fill1_6 : decode prog_26_method_101_code 6 = .ok (.iload_n 3, 1) := by decide +kernel
theorem d_Arrays_fill1_7 : decode prog_26_method_101_code 7 = .ok (.iload 4, 2) := by decide +kernel
theorem d_Arrays_fill1_9 : decode prog_26_method_101_code 9 = .ok (.if_icmp .ge 13, 3) := by decide +kernel
theorem d_Arrays_fill1_22 : decode prog_26_method_101_code 22 = .ok (.return_, 1) := by decide +kernel
theorem d_Arrays_fill1_12 : decode prog_26_method_101_code 12 = .ok (.aload_n 0, 1) := by decide +kernel
theorem d_Arrays_fill1_13 : decode prog_26_method_101_code 13 = .ok (.iload_n 3, 1) := by decide +kernel
theorem d_Arrays_fill1_14 : decode prog_26_method_101_code 14 = .ok (.lload_n 1, 1) := by decide +kernel
theorem d_Arrays_fill1_15 : decode prog_26_method_101_code 15 = .ok (.lastore, 1) := by decide +kernel
theorem d_Arrays_fill1_16 : decode prog_26_method_101_code 16 = .ok (.iinc 3 1, 3) := by decide +kernel
theorem d_Arrays_fill1_19 : decode prog_26_method_101_code 19 = .ok (.goto (-13), 3) := by decide +kernel
theorem d_Arrays_fill1_0 : decode prog_26_method_101_code 0 = .ok (.iconst 0, 1) := by decide +kernel
theorem d_Arrays_fill1_1 : decode prog_26_method_101_code 1 = .ok (.istore_n 3, 1) := by decide +kernel
theorem d_Arrays_fill1_2 : decode prog_26_method_101_code 2 = .ok (.aload_n 0, 1) := by decide +kernel
theorem d_Arrays_fill1_3 : decode prog_26_method_101_code 3 = .ok (.arraylength, 1) := by decide +kernel
theorem d_Arrays_fill1_4 : decode prog_26_method_101_code 4 = .ok (.istore 4, 2) := by decide +kernel
abbrev y_Arrays_fill1 : MethodName := ⟨"java/util/Arrays", "fill", "([JJ)V"⟩
def rm_Arrays_fill1 : Room := { frames := 1, cells := 0, slots := 0, locals := 20 }
abbrev q_Arrays_fill1 (D : va_G) (ad : Nat → Nat → Nat) (ca : Nat → ClassId) (N : Nat → Nat) (M0 MZ : me_M) (A : Nat → Prop) : Array Value → Jvm.State → Outcome → Jvm.State → Prop := va_Qv (fun (_ : Unit) => me_wf N MZ ∧ me_kp M0 MZ) (fg_B D A (fun _ => me_W ad ca MZ) (fun _ => [])) A
set_option maxHeartbeats 4000000 in
set_option maxRecDepth 100000 in
theorem c_Arrays_fill1 (l : Launch) (D : va_G) (ad : Nat → Nat → Nat) (ca : Nat → ClassId) (N : Nat → Nat) (M0 MZ : me_M) (j0 : Nat) (x1 : Int64) (h : f_Arrays_fill1 M0 j0 x1 = (some MZ)) (hwf : me_wf N M0) (hj0 : j0 < N 16) (sz : Nat) : Met l y_Arrays_fill1 (fg_w y_Arrays_fill1 prog_26_method_101_code 5 none) rm_Arrays_fill1 (va_Pc [.ref (ad 16 j0), .long x1] (fz_P D (me_T ca) (me_W ad ca M0) sz)) (q_Arrays_fill1 D ad ca N M0 MZ (va_A (me_W ad ca M0) sz)) rm_Arrays_fill1.cells rm_Arrays_fill1.slots (va_A (me_W ad ca M0) sz) := by
  refine fz_enter (fun A => q_Arrays_fill1 D ad ca N M0 MZ A) (by decide +kernel) (Nat.le_of_ble_eq_true rfl) ?_
  intro p e s m below meth c ls A hx hb hml hown hts hr hlocks hin hP hK hD hS hA hX hl hz
  have hl : lv_has ls 5 [(0, .ref (ad 16 j0)), (1, .long x1)] := hl
  unfold f_Arrays_fill1 at h
  have hkp : me_kp M0 M0 := me_kp.rf
  have hkb := hkp
  have b_6 : ∀ (fu : Nat), ∀ (M : me_M) (y3 : Int32) (y4 : Int32) (H : Heap) (locs : List Loc) (ls : Array Slot), f_Arrays_fill1_l6 j0 x1 fu M y3 y4 = (some MZ) → me_wf N M → me_kp M0 M → va_P D classes (me_W ad ca M) H → va_D A (me_W ad ca M) → va_S A s.heap H locs → lv_has ls 5 [(0, .ref (ad 16 j0)), (1, .long x1), (3, .int y3), (4, .int y4)] → W p l e rm_Arrays_fill1 s m [.ref (ad 16 j0), .long x1].toArray below meth c H locs 0 0 (MQ below (q_Arrays_fill1 D ad ca N M0 MZ A) [.ref (ad 16 j0), .long x1].toArray s rm_Arrays_fill1.cells rm_Arrays_fill1.slots A) (F0 m 6 ls []) := by
    intro fu
    induction fu with
    | zero =>
      intro M y3 y4 H locs ls h hwf hkp hP hD hS hl
      cases h
    | succ fu ih =>
      intro M y3 y4 H locs ls h hwf hkp hP hD hS hl
      unfold f_Arrays_fill1_l6 at h
      have hkb := hkp
      refine lv_iload_n hx hb d_Arrays_fill1_6 rfl (lv_at hl 2 rfl) ?_
      refine lv_iload hx hb d_Arrays_fill1_7 (lv_at hl 3 rfl) ?_
      refine lv_icmp_ge (tgt := 22) hx hb d_Arrays_fill1_9 (by decide) (fun c1 => ?_) (fun c1 => ?_)
      · have h := if_t c1 h
        exact me_retv (me_kp M0) h hx hb hr hlocks hwf hkp hP hK hD hS d_Arrays_fill1_22
      have h := if_f c1 h
      refine lv_aload_n hx hb d_Arrays_fill1_12 rfl (lv_at hl 0 rfl) ?_
      refine lv_iload_n hx hb d_Arrays_fill1_13 rfl (lv_at hl 2 rfl) ?_
      refine lv_lload_n hx hb d_Arrays_fill1_14 rfl (lv_at hl 1 rfl) ?_
      obtain ⟨g2, h⟩ := gd_ob h
      obtain ⟨M3, eM3, h⟩ := st_ob h
      refine me_last eM3 hx hb hK hP hD hwf hS hj0 g2 d_Arrays_fill1_15 (fun H locs hP hD hwf hS => ?_)
      have hkp := kp_L eM3 hkp
      refine lv_iinc (v := y3 + 1) (lv' := [(3, .int (y3 + 1)), (0, .ref (ad 16 j0)), (1, .long x1), (4, .int y4)]) hx hb d_Arrays_fill1_16 hl (k := 2) rfl (by rfl) (by decide) rfl (fun ls hl => ?_)
      refine lv_goto (tgt := 6) hx hb d_Arrays_fill1_19 (by decide) ?_
      exact ih M3 (y3 + 1) y4 _ _ _ h hwf hkp hP hD hS (lv_sub hl [1, 2, 0, 3] rfl)
  refine lv_iconst (v := 0) hx hb d_Arrays_fill1_0 (by decide) ?_
  refine lv_istore_n (lv' := [(3, .int 0), (0, .ref (ad 16 j0)), (1, .long x1)]) hx hb d_Arrays_fill1_1 rfl hl (by decide) rfl (fun ls hl => ?_)
  refine lv_aload_n hx hb d_Arrays_fill1_2 rfl (lv_at hl 1 rfl) ?_
  refine me_alen (k := 16) hx hb hK hP hwf hj0 (by decide) (by decide) rfl d_Arrays_fill1_3 ?_
  obtain ⟨v4, ev4, h⟩ := st_ob h
  refine fg_topi (y := v4) ev4.symm ?_
  refine lv_istore (lv' := [(4, .int v4), (3, .int 0), (0, .ref (ad 16 j0)), (1, .long x1)]) hx hb d_Arrays_fill1_4 hl (by decide) rfl (fun ls hl => ?_)
  exact b_6 _ M0 (0 : Int32) v4 _ _ _ h hwf hkp hP hD hS (lv_sub hl [2, 3, 1, 0] rfl)
theorem d_Arrays_fill0_5 : decode prog_26_method_109_code 5 = .ok (.iload_n 2, 1) := by decide +kernel
theorem d_Arrays_fill0_6 : decode prog_26_method_109_code 6 = .ok (.iload_n 3, 1) := by decide +kernel
theorem d_Arrays_fill0_7 : decode prog_26_method_109_code 7 = .ok (.if_icmp .ge 13, 3) := by decide +kernel
theorem d_Arrays_fill0_20 : decode prog_26_method_109_code 20 = .ok (.return_, 1) := by decide +kernel
theorem d_Arrays_fill0_10 : decode prog_26_method_109_code 10 = .ok (.aload_n 0, 1) := by decide +kernel
theorem d_Arrays_fill0_11 : decode prog_26_method_109_code 11 = .ok (.iload_n 2, 1) := by decide +kernel
theorem d_Arrays_fill0_12 : decode prog_26_method_109_code 12 = .ok (.iload_n 1, 1) := by decide +kernel
theorem d_Arrays_fill0_13 : decode prog_26_method_109_code 13 = .ok (.bastore, 1) := by decide +kernel
theorem d_Arrays_fill0_14 : decode prog_26_method_109_code 14 = .ok (.iinc 2 1, 3) := by decide +kernel
theorem d_Arrays_fill0_17 : decode prog_26_method_109_code 17 = .ok (.goto (-12), 3) := by decide +kernel
theorem d_Arrays_fill0_0 : decode prog_26_method_109_code 0 = .ok (.iconst 0, 1) := by decide +kernel
theorem d_Arrays_fill0_1 : decode prog_26_method_109_code 1 = .ok (.istore_n 2, 1) := by decide +kernel
theorem d_Arrays_fill0_2 : decode prog_26_method_109_code 2 = .ok (.aload_n 0, 1) := by decide +kernel
theorem d_Arrays_fill0_3 : decode prog_26_method_109_code 3 = .ok (.arraylength, 1) := by decide +kernel
theorem d_Arrays_fill0_4 : decode prog_26_method_109_code 4 = .ok (.istore_n 3, 1) := by decide +kernel
abbrev y_Arrays_fill0 : MethodName := ⟨"java/util/Arrays", "fill", "([BB)V"⟩
def rm_Arrays_fill0 : Room := { frames := 1, cells := 0, slots := 0, locals := 20 }
abbrev q_Arrays_fill0 (D : va_G) (ad : Nat → Nat → Nat) (ca : Nat → ClassId) (N : Nat → Nat) (M0 MZ : me_M) (A : Nat → Prop) : Array Value → Jvm.State → Outcome → Jvm.State → Prop := va_Qv (fun (_ : Unit) => me_wf N MZ ∧ me_kp M0 MZ) (fg_B D A (fun _ => me_W ad ca MZ) (fun _ => [])) A
set_option maxHeartbeats 4000000 in
set_option maxRecDepth 100000 in
theorem c_Arrays_fill0 (l : Launch) (D : va_G) (ad : Nat → Nat → Nat) (ca : Nat → ClassId) (N : Nat → Nat) (M0 MZ : me_M) (j0 : Nat) (x1 : Int32) (h : f_Arrays_fill0 M0 j0 x1 = (some MZ)) (hwf : me_wf N M0) (hj0 : j0 < N 14) (sz : Nat) : Met l y_Arrays_fill0 (fg_w y_Arrays_fill0 prog_26_method_109_code 4 none) rm_Arrays_fill0 (va_Pc [.ref (ad 14 j0), .int x1] (fz_P D (me_T ca) (me_W ad ca M0) sz)) (q_Arrays_fill0 D ad ca N M0 MZ (va_A (me_W ad ca M0) sz)) rm_Arrays_fill0.cells rm_Arrays_fill0.slots (va_A (me_W ad ca M0) sz) := by
  refine fz_enter (fun A => q_Arrays_fill0 D ad ca N M0 MZ A) (by decide +kernel) (Nat.le_of_ble_eq_true rfl) ?_
  intro p e s m below meth c ls A hx hb hml hown hts hr hlocks hin hP hK hD hS hA hX hl hz
  have hl : lv_has ls 4 [(0, .ref (ad 14 j0)), (1, .int x1)] := hl
  unfold f_Arrays_fill0 at h
  have hkp : me_kp M0 M0 := me_kp.rf
  have hkb := hkp
  have b_5 : ∀ (fu : Nat), ∀ (M : me_M) (y2 : Int32) (y3 : Int32) (H : Heap) (locs : List Loc) (ls : Array Slot), f_Arrays_fill0_l5 j0 x1 fu M y2 y3 = (some MZ) → me_wf N M → me_kp M0 M → va_P D classes (me_W ad ca M) H → va_D A (me_W ad ca M) → va_S A s.heap H locs → lv_has ls 4 [(0, .ref (ad 14 j0)), (1, .int x1), (2, .int y2), (3, .int y3)] → W p l e rm_Arrays_fill0 s m [.ref (ad 14 j0), .int x1].toArray below meth c H locs 0 0 (MQ below (q_Arrays_fill0 D ad ca N M0 MZ A) [.ref (ad 14 j0), .int x1].toArray s rm_Arrays_fill0.cells rm_Arrays_fill0.slots A) (F0 m 5 ls []) := by
    intro fu
    induction fu with
    | zero =>
      intro M y2 y3 H locs ls h hwf hkp hP hD hS hl
      cases h
    | succ fu ih =>
      intro M y2 y3 H locs ls h hwf hkp hP hD hS hl
      unfold f_Arrays_fill0_l5 at h
      have hkb := hkp
      refine lv_iload_n hx hb d_Arrays_fill0_5 rfl (lv_at hl 2 rfl) ?_
      refine lv_iload_n hx hb d_Arrays_fill0_6 rfl (lv_at hl 3 rfl) ?_
      refine lv_icmp_ge (tgt := 20) hx hb d_Arrays_fill0_7 (by decide) (fun c1 => ?_) (fun c1 => ?_)
      · have h := if_t c1 h
        exact me_retv (me_kp M0) h hx hb hr hlocks hwf hkp hP hK hD hS d_Arrays_fill0_20
      have h := if_f c1 h
      refine lv_aload_n hx hb d_Arrays_fill0_10 rfl (lv_at hl 0 rfl) ?_
      refine lv_iload_n hx hb d_Arrays_fill0_11 rfl (lv_at hl 2 rfl) ?_
      refine lv_iload_n hx hb d_Arrays_fill0_12 rfl (lv_at hl 1 rfl) ?_
      obtain ⟨g2, h⟩ := gd_ob h
      obtain ⟨M3, eM3, h⟩ := st_ob h
      refine me_bast eM3 hx hb hK hP hD hwf hS hj0 g2 d_Arrays_fill0_13 (fun H locs hP hD hwf hS => ?_)
      have hkp := kp_I eM3 hkp
      refine lv_iinc (v := y2 + 1) (lv' := [(2, .int (y2 + 1)), (0, .ref (ad 14 j0)), (1, .int x1), (3, .int y3)]) hx hb d_Arrays_fill0_14 hl (k := 2) rfl (by rfl) (by decide) rfl (fun ls hl => ?_)
      refine lv_goto (tgt := 5) hx hb d_Arrays_fill0_17 (by decide) ?_
      exact ih M3 (y2 + 1) y3 _ _ _ h hwf hkp hP hD hS (lv_sub hl [1, 2, 0, 3] rfl)
  refine lv_iconst (v := 0) hx hb d_Arrays_fill0_0 (by decide) ?_
  refine lv_istore_n (lv' := [(2, .int 0), (0, .ref (ad 14 j0)), (1, .int x1)]) hx hb d_Arrays_fill0_1 rfl hl (by decide) rfl (fun ls hl => ?_)
  refine lv_aload_n hx hb d_Arrays_fill0_2 rfl (lv_at hl 1 rfl) ?_
  refine me_alen (k := 14) hx hb hK hP hwf hj0 (by decide) (by decide) rfl d_Arrays_fill0_3 ?_
  obtain ⟨v4, ev4, h⟩ := st_ob h
  refine fg_topi (y := v4) ev4.symm ?_
  refine lv_istore_n (lv' := [(3, .int v4), (2, .int 0), (0, .ref (ad 14 j0)), (1, .int x1)]) hx hb d_Arrays_fill0_4 rfl hl (by decide) rfl (fun ls hl => ?_)
  exact b_5 _ M0 (0 : Int32) v4 _ _ _ h hwf hkp hP hD hS (lv_sub hl [2, 3, 1, 0] rfl)
theorem d_G_baseOf_0 : decode prog_1_method_19_code 0 = .ok (.iload_n 0, 1) := by decide +kernel
theorem d_G_baseOf_1 : decode prog_1_method_19_code 1 = .ok (.i2l, 1) := by decide +kernel
theorem d_G_baseOf_2 : decode prog_1_method_19_code 2 = .ok (.bipush 40, 2) := by decide +kernel
theorem d_G_baseOf_4 : decode prog_1_method_19_code 4 = .ok (.lshl, 1) := by decide +kernel
theorem d_G_baseOf_5 : decode prog_1_method_19_code 5 = .ok (.lreturn, 1) := by decide +kernel
abbrev y_G_baseOf : MethodName := ⟨"FilterGuard", "baseOf", "(I)J"⟩
def rm_G_baseOf : Room := { frames := 1, cells := 0, slots := 0, locals := 20 }
abbrev q_G_baseOf (D : va_G) (RZ : Int64) (A : Nat → Prop) : Array Value → Jvm.State → Outcome → Jvm.State → Prop := va_Ql (fun r (_ : Unit) => r = RZ ∧ True) (fg_B D A (fun _ => []) (fun _ => [])) A
set_option maxHeartbeats 4000000 in
set_option maxRecDepth 100000 in
theorem c_G_baseOf (l : Launch) (D : va_G) (RZ : Int64) (x0 : Int32) (h : f_G_baseOf x0 = (some RZ)) (sz : Nat) : Met l y_G_baseOf (fg_w y_G_baseOf prog_1_method_19_code 1 (some .long)) rm_G_baseOf (va_Pc [.int x0] (fg_P D [] [] sz)) (q_G_baseOf D RZ (va_A [] sz)) rm_G_baseOf.cells rm_G_baseOf.slots (va_A [] sz) := by
  refine fg_enter (fun A => q_G_baseOf D RZ A) (by decide +kernel) (Nat.le_of_ble_eq_true rfl) ?_
  intro p e s m below meth c ls A hx hb hml hown hts hr hlocks hin hP hK hD hS hA hX hl
  have hl : lv_has ls 1 [(0, .int x0)] := hl
  unfold f_G_baseOf at h
  refine lv_iload_n hx hb d_G_baseOf_0 rfl (lv_at hl 0 rfl) ?_
  refine lv_i2l (v := x0.toInt64) hx hb d_G_baseOf_1 rfl ?_
  refine lv_bipush (v := 40) hx hb d_G_baseOf_2 (by decide) ?_
  refine lv_lshl (v := jlshl x0.toInt64 (40 : Int32)) hx hb d_G_baseOf_4 rfl ?_
  exact me_pretl h hx hb hr hlocks hK hS d_G_baseOf_5
